def P_Int_bitCount (E : am_E) (k : Nat) : am_P := [(0, aLi 0), (1, aLi 0), (2, aI 1), (3, a_iushr), (4, aI 1431655765), (7, a_iand), (8, a_isub), (9, aSi 0), (10, aLi 0), (11, aI 858993459), (14, a_iand), (15, aLi 0), (16, aI 2), (17, a_iushr), (18, aI 858993459), (21, a_iand), (22, a_iadd), (23, aSi 0), (24, aLi 0), (25, aLi 0), (26, aI 4), (27, a_iushr), (28, a_iadd), (29, aI 252645135), (32, a_iand), (33, aSi 0), (34, aLi 0), (35, aLi 0), (36, aI 8), (38, a_iushr), (39, a_iadd), (40, aSi 0), (41, aLi 0), (42, aLi 0), (43, aI 16), (45, a_iushr), (46, a_iadd), (47, aSi 0), (48, aLi 0), (49, aI 63), (51, a_iand), (52, aRi)]
set_option maxRecDepth 20000 in
theorem pv_Int_bitCount (E : am_E) (k : Nat) : am_pv E k Y_Int_bitCount.2.1 Y_Int_bitCount.2.2.1 Y_Int_bitCount.1.cls (P_Int_bitCount E k) := by
  refine am_pv_cons (v_iload_n (q := 0) (by decide +kernel) rfl) rfl ?_
  refine am_pv_cons (v_iload_n (q := 0) (by decide +kernel) rfl) rfl ?_
  refine am_pv_cons (v_iconst (n := 1) (by decide +kernel) rfl) rfl ?_
  refine am_pv_cons (v_iushr (by decide +kernel)) rfl ?_
  refine am_pv_cons (v_ldcw (i := 265) (tb4 142 (by decide +kernel) rfl) (by decide +kernel)) rfl ?_
  refine am_pv_cons (v_iand (by decide +kernel)) rfl ?_
  refine am_pv_cons (v_isub (by decide +kernel)) rfl ?_
  refine am_pv_cons (v_istore_n (q := 0) (by decide +kernel) rfl) rfl ?_
  refine am_pv_cons (v_iload_n (q := 0) (by decide +kernel) rfl) rfl ?_
  refine am_pv_cons (v_ldcw (i := 266) (tb4 143 (by decide +kernel) rfl) (by decide +kernel)) rfl ?_
  refine am_pv_cons (v_iand (by decide +kernel)) rfl ?_
  refine am_pv_cons (v_iload_n (q := 0) (by decide +kernel) rfl) rfl ?_
  refine am_pv_cons (v_iconst (n := 2) (by decide +kernel) rfl) rfl ?_
  refine am_pv_cons (v_iushr (by decide +kernel)) rfl ?_
  refine am_pv_cons (v_ldcw (i := 266) (tb4 143 (by decide +kernel) rfl) (by decide +kernel)) rfl ?_
  refine am_pv_cons (v_iand (by decide +kernel)) rfl ?_
  refine am_pv_cons (v_iadd (by decide +kernel)) rfl ?_
  refine am_pv_cons (v_istore_n (q := 0) (by decide +kernel) rfl) rfl ?_
  refine am_pv_cons (v_iload_n (q := 0) (by decide +kernel) rfl) rfl ?_
  refine am_pv_cons (v_iload_n (q := 0) (by decide +kernel) rfl) rfl ?_
  refine am_pv_cons (v_iconst (n := 4) (by decide +kernel) rfl) rfl ?_
  refine am_pv_cons (v_iushr (by decide +kernel)) rfl ?_
  refine am_pv_cons (v_iadd (by decide +kernel)) rfl ?_
  refine am_pv_cons (v_ldcw (i := 267) (tb4 144 (by decide +kernel) rfl) (by decide +kernel)) rfl ?_
  refine am_pv_cons (v_iand (by decide +kernel)) rfl ?_
  refine am_pv_cons (v_istore_n (q := 0) (by decide +kernel) rfl) rfl ?_
  refine am_pv_cons (v_iload_n (q := 0) (by decide +kernel) rfl) rfl ?_
  refine am_pv_cons (v_iload_n (q := 0) (by decide +kernel) rfl) rfl ?_
  refine am_pv_cons (v_bipush (n := 8) (by decide +kernel) (by decide +kernel)) rfl ?_
  refine am_pv_cons (v_iushr (by decide +kernel)) rfl ?_
  refine am_pv_cons (v_iadd (by decide +kernel)) rfl ?_
  refine am_pv_cons (v_istore_n (q := 0) (by decide +kernel) rfl) rfl ?_
  refine am_pv_cons (v_iload_n (q := 0) (by decide +kernel) rfl) rfl ?_
  refine am_pv_cons (v_iload_n (q := 0) (by decide +kernel) rfl) rfl ?_
  refine am_pv_cons (v_bipush (n := 16) (by decide +kernel) (by decide +kernel)) rfl ?_
  refine am_pv_cons (v_iushr (by decide +kernel)) rfl ?_
  refine am_pv_cons (v_iadd (by decide +kernel)) rfl ?_
  refine am_pv_cons (v_istore_n (q := 0) (by decide +kernel) rfl) rfl ?_
  refine am_pv_cons (v_iload_n (q := 0) (by decide +kernel) rfl) rfl ?_
  refine am_pv_cons (v_bipush (n := 63) (by decide +kernel) (by decide +kernel)) rfl ?_
  refine am_pv_cons (v_iand (by decide +kernel)) rfl ?_
  refine am_pv_cons (v_ireturn (by decide +kernel)) trivial ?_
  exact trivial
def P_Arr_fill (E : am_E) (k : Nat) : am_P := [(0, aI 0), (1, aSi 2), (2, aLa 0), (3, aLen), (4, aSi 3), (5, aLi 2), (6, aLi 3), (7, c_ge 20), (10, aLa 0), (11, aLi 2), (12, aLi 1), (13, aAst), (14, aInc 2 1), (17, aGo 5), (20, aRv)]
set_option maxRecDepth 20000 in
theorem pv_Arr_fill (E : am_E) (k : Nat) : am_pv E k Y_Arr_fill.2.1 Y_Arr_fill.2.2.1 Y_Arr_fill.1.cls (P_Arr_fill E k) := by
  refine am_pv_cons (v_iconst (n := 0) (by decide +kernel) rfl) rfl ?_
  refine am_pv_cons (v_istore_n (q := 2) (by decide +kernel) rfl) rfl ?_
  refine am_pv_cons (v_aload_n (q := 0) (by decide +kernel) rfl) rfl ?_
  refine am_pv_cons (v_alen (by decide +kernel)) rfl ?_
  refine am_pv_cons (v_istore_n (q := 3) (by decide +kernel) rfl) rfl ?_
  refine am_pv_cons (v_iload_n (q := 2) (by decide +kernel) rfl) rfl ?_
  refine am_pv_cons (v_iload_n (q := 3) (by decide +kernel) rfl) rfl ?_
  refine am_pv_cons (v_ic_ge (off := 13) (by decide +kernel) rfl) rfl ?_
  refine am_pv_cons (v_aload_n (q := 0) (by decide +kernel) rfl) rfl ?_
  refine am_pv_cons (v_iload_n (q := 2) (by decide +kernel) rfl) rfl ?_
  refine am_pv_cons (v_iload_n (q := 1) (by decide +kernel) rfl) rfl ?_
  refine am_pv_cons (v_iast (by decide +kernel)) rfl ?_
  refine am_pv_cons (v_iinc (n := 1) (by decide +kernel) (by decide +kernel)) rfl ?_
  refine am_pv_cons (v_goto (off := -12) (by decide +kernel) rfl) rfl ?_
  refine am_pv_cons (v_return_ (by decide +kernel)) trivial ?_
  exact trivial
def P_Str_charAt (E : am_E) (k : Nat) : am_P := [(0, aLa 0), (1, aIvs E k 0 Y_Str_isLatin1), (4, z_eq 16), (7, aLa 0), (8, aSval), (11, aLi 1), (12, aIs E k 2 Y_L1_charAt), (15, aRi), (16, aLa 0), (17, aSval), (20, aLi 1), (21, aNo), (24, aRi)]
set_option maxRecDepth 20000 in
theorem pv_Str_charAt (E : am_E) (k : Nat) : am_pv E k Y_Str_charAt.2.1 Y_Str_charAt.2.2.1 Y_Str_charAt.1.cls (P_Str_charAt E k) := by
  refine am_pv_cons (v_aload_n (q := 0) (by decide +kernel) rfl) rfl ?_
  refine am_pv_cons (v_virtS (idx := 492) yv_Str_isLatin1 rfl (tb3 152 (by decide +kernel) rfl) (by decide +kernel)) rfl ?_
  refine am_pv_cons (v_if_eq (off := 12) (by decide +kernel) rfl) rfl ?_
  refine am_pv_cons (v_aload_n (q := 0) (by decide +kernel) rfl) rfl ?_
  refine am_pv_cons (v_sval (idx := 9) (tb8 3 (by decide +kernel) rfl) (by decide +kernel)) rfl ?_
  refine am_pv_cons (v_iload_n (q := 1) (by decide +kernel) rfl) rfl ?_
  refine am_pv_cons (v_stat (idx := 495) ys_L1_charAt (tb3 156 (by decide +kernel) rfl) (by decide +kernel)) rfl ?_
  refine am_pv_cons (v_ireturn (by decide +kernel)) rfl ?_
  refine am_pv_cons (v_aload_n (q := 0) (by decide +kernel) rfl) rfl ?_
  refine am_pv_cons (v_sval (idx := 9) (tb8 3 (by decide +kernel) rfl) (by decide +kernel)) rfl ?_
  refine am_pv_cons (v_iload_n (q := 1) (by decide +kernel) rfl) rfl ?_
  refine am_pv_cons (v_no (len := 3)) rfl ?_
  refine am_pv_cons (v_ireturn (by decide +kernel)) trivial ?_
  exact trivial
def P_Str_checkIndex (E : am_E) (k : Nat) : am_P := [(0, aLi 0), (1, aLi 1), (2, aFmt), (5, aIs E k 3 Y_Pre_checkIndex), (8, aPop), (9, aRv)]
set_option maxRecDepth 20000 in
theorem pv_Str_checkIndex (E : am_E) (k : Nat) : am_pv E k Y_Str_checkIndex.2.1 Y_Str_checkIndex.2.2.1 Y_Str_checkIndex.1.cls (P_Str_checkIndex E k) := by
  refine am_pv_cons (v_iload_n (q := 0) (by decide +kernel) rfl) rfl ?_
  refine am_pv_cons (v_iload_n (q := 1) (by decide +kernel) rfl) rfl ?_
  refine am_pv_cons (v_fmt (idx := 1053) (tb3 162 (by decide +kernel) rfl) (by decide +kernel)) rfl ?_
  refine am_pv_cons (v_stat (idx := 1059) ys_Pre_checkIndex (tb3 164 (by decide +kernel) rfl) (by decide +kernel)) rfl ?_
  refine am_pv_cons (v_pop (by decide +kernel)) rfl ?_
  refine am_pv_cons (v_return_ (by decide +kernel)) trivial ?_
  exact trivial
def P_Str_coder (E : am_E) (k : Nat) : am_P := [(0, aI 1), (3, z_eq 13), (6, aLa 0), (7, aScod), (10, aGo 14), (13, aI 1), (14, aRi)]
set_option maxRecDepth 20000 in
theorem pv_Str_coder (E : am_E) (k : Nat) : am_pv E k Y_Str_coder.2.1 Y_Str_coder.2.2.1 Y_Str_coder.1.cls (P_Str_coder E k) := by
  refine am_pv_cons (v_scs (idx := 38) (tb3 146 (by decide +kernel) rfl) (by decide +kernel)) rfl ?_
  refine am_pv_cons (v_if_eq (off := 10) (by decide +kernel) rfl) rfl ?_
  refine am_pv_cons (v_aload_n (q := 0) (by decide +kernel) rfl) rfl ?_
  refine am_pv_cons (v_scod (idx := 15) (tb8 4 (by decide +kernel) rfl) (by decide +kernel)) rfl ?_
  refine am_pv_cons (v_goto (off := 4) (by decide +kernel) rfl) rfl ?_
  refine am_pv_cons (v_iconst (n := 1) (by decide +kernel) rfl) rfl ?_
  refine am_pv_cons (v_ireturn (by decide +kernel)) trivial ?_
  exact trivial
def P_Str_isLatin1 (E : am_E) (k : Nat) : am_P := [(0, aI 1), (3, z_eq 17), (6, aLa 0), (7, aScod), (10, z_ne 17), (13, aI 1), (14, aGo 18), (17, aI 0), (18, aRi)]
set_option maxRecDepth 20000 in
theorem pv_Str_isLatin1 (E : am_E) (k : Nat) : am_pv E k Y_Str_isLatin1.2.1 Y_Str_isLatin1.2.2.1 Y_Str_isLatin1.1.cls (P_Str_isLatin1 E k) := by
  refine am_pv_cons (v_scs (idx := 38) (tb3 146 (by decide +kernel) rfl) (by decide +kernel)) rfl ?_
  refine am_pv_cons (v_if_eq (off := 14) (by decide +kernel) rfl) rfl ?_
  refine am_pv_cons (v_aload_n (q := 0) (by decide +kernel) rfl) rfl ?_
  refine am_pv_cons (v_scod (idx := 15) (tb8 4 (by decide +kernel) rfl) (by decide +kernel)) rfl ?_
  refine am_pv_cons (v_if_ne (off := 7) (by decide +kernel) rfl) rfl ?_
  refine am_pv_cons (v_iconst (n := 1) (by decide +kernel) rfl) rfl ?_
  refine am_pv_cons (v_goto (off := 4) (by decide +kernel) rfl) rfl ?_
  refine am_pv_cons (v_iconst (n := 0) (by decide +kernel) rfl) rfl ?_
  refine am_pv_cons (v_ireturn (by decide +kernel)) trivial ?_
  exact trivial
def P_Str_length (E : am_E) (k : Nat) : am_P := [(0, aLa 0), (1, aSval), (4, aSlen), (5, aLa 0), (6, aIvs E k 0 Y_Str_coder), (9, a_ishr), (10, aRi)]
set_option maxRecDepth 20000 in
theorem pv_Str_length (E : am_E) (k : Nat) : am_pv E k Y_Str_length.2.1 Y_Str_length.2.2.1 Y_Str_length.1.cls (P_Str_length E k) := by
  refine am_pv_cons (v_aload_n (q := 0) (by decide +kernel) rfl) rfl ?_
  refine am_pv_cons (v_sval (idx := 9) (tb8 3 (by decide +kernel) rfl) (by decide +kernel)) rfl ?_
  refine am_pv_cons (v_slen (by decide +kernel)) rfl ?_
  refine am_pv_cons (v_aload_n (q := 0) (by decide +kernel) rfl) rfl ?_
  refine am_pv_cons (v_virtS (idx := 335) yv_Str_coder rfl (tb3 142 (by decide +kernel) rfl) (by decide +kernel)) rfl ?_
  refine am_pv_cons (v_ishr (by decide +kernel)) rfl ?_
  refine am_pv_cons (v_ireturn (by decide +kernel)) trivial ?_
  exact trivial
def P_L1_charAt (E : am_E) (k : Nat) : am_P := [(0, aLi 1), (1, aLa 0), (2, aSlen), (3, aIs E k 2 Y_Str_checkIndex), (6, aLa 0), (7, aLi 1), (8, aSbald), (9, aI 255), (12, a_iand), (13, a_i2c), (14, aRi)]
set_option maxRecDepth 20000 in
theorem pv_L1_charAt (E : am_E) (k : Nat) : am_pv E k Y_L1_charAt.2.1 Y_L1_charAt.2.2.1 Y_L1_charAt.1.cls (P_L1_charAt E k) := by
  refine am_pv_cons (v_iload_n (q := 1) (by decide +kernel) rfl) rfl ?_
  refine am_pv_cons (v_aload_n (q := 0) (by decide +kernel) rfl) rfl ?_
  refine am_pv_cons (v_slen (by decide +kernel)) rfl ?_
  refine am_pv_cons (v_stat (idx := 9) ys_Str_checkIndex (tb3 159 (by decide +kernel) rfl) (by decide +kernel)) rfl ?_
  refine am_pv_cons (v_aload_n (q := 0) (by decide +kernel) rfl) rfl ?_
  refine am_pv_cons (v_iload_n (q := 1) (by decide +kernel) rfl) rfl ?_
  refine am_pv_cons (v_sbald (by decide +kernel)) rfl ?_
  refine am_pv_cons (v_sipush (n := 255) (by decide +kernel) (by decide +kernel)) rfl ?_
  refine am_pv_cons (v_iand (by decide +kernel)) rfl ?_
  refine am_pv_cons (v_i2c (by decide +kernel)) rfl ?_
  refine am_pv_cons (v_ireturn (by decide +kernel)) trivial ?_
  exact trivial
def P_People_has (E : am_E) (k : Nat) : am_P := [(0, aLi 1), (1, z_lt 16), (4, aLi 1), (5, aLa 0), (6, aGet 1 0), (9, c_ge 16), (12, aI 1), (13, aGo 17), (16, aI 0), (17, aRi)]
set_option maxRecDepth 20000 in
theorem pv_People_has (E : am_E) (k : Nat) : am_pv E k Y_People_has.2.1 Y_People_has.2.2.1 Y_People_has.1.cls (P_People_has E k) := by
  refine am_pv_cons (v_iload_n (q := 1) (by decide +kernel) rfl) rfl ?_
  refine am_pv_cons (v_if_lt (off := 15) (by decide +kernel) rfl) rfl ?_
  refine am_pv_cons (v_iload_n (q := 1) (by decide +kernel) rfl) rfl ?_
  refine am_pv_cons (v_aload_n (q := 0) (by decide +kernel) rfl) rfl ?_
  refine am_pv_cons (v_get fl_People_18 (by decide +kernel)) rfl ?_
  refine am_pv_cons (v_ic_ge (off := 7) (by decide +kernel) rfl) rfl ?_
  refine am_pv_cons (v_iconst (n := 1) (by decide +kernel) rfl) rfl ?_
  refine am_pv_cons (v_goto (off := 4) (by decide +kernel) rfl) rfl ?_
  refine am_pv_cons (v_iconst (n := 0) (by decide +kernel) rfl) rfl ?_
  refine am_pv_cons (v_ireturn (by decide +kernel)) trivial ?_
  exact trivial
def P_People_hasTwo (E : am_E) (k : Nat) : am_P := [(0, aLa 0), (1, aLi 1), (2, aIv E k 1 1 Y_People_has), (5, z_eq 25), (8, aLa 0), (9, aLi 2), (10, aIv E k 1 1 Y_People_has), (13, z_eq 25), (16, aLi 1), (17, aLi 2), (18, c_eq 25), (21, aI 1), (22, aGo 26), (25, aI 0), (26, aRi)]
set_option maxRecDepth 20000 in
theorem pv_People_hasTwo (E : am_E) (k : Nat) : am_pv E k Y_People_hasTwo.2.1 Y_People_hasTwo.2.2.1 Y_People_hasTwo.1.cls (P_People_hasTwo E k) := by
  refine am_pv_cons (v_aload_n (q := 0) (by decide +kernel) rfl) rfl ?_
  refine am_pv_cons (v_iload_n (q := 1) (by decide +kernel) rfl) rfl ?_
  refine am_pv_cons (v_virt (idx := 22) yv_People_has rfl rfl (tb2 208 (by decide +kernel) rfl) (by decide +kernel)) rfl ?_
  refine am_pv_cons (v_if_eq (off := 20) (by decide +kernel) rfl) rfl ?_
  refine am_pv_cons (v_aload_n (q := 0) (by decide +kernel) rfl) rfl ?_
  refine am_pv_cons (v_iload_n (q := 2) (by decide +kernel) rfl) rfl ?_
  refine am_pv_cons (v_virt (idx := 22) yv_People_has rfl rfl (tb2 208 (by decide +kernel) rfl) (by decide +kernel)) rfl ?_
  refine am_pv_cons (v_if_eq (off := 12) (by decide +kernel) rfl) rfl ?_
  refine am_pv_cons (v_iload_n (q := 1) (by decide +kernel) rfl) rfl ?_
  refine am_pv_cons (v_iload_n (q := 2) (by decide +kernel) rfl) rfl ?_
  refine am_pv_cons (v_ic_eq (off := 7) (by decide +kernel) rfl) rfl ?_
  refine am_pv_cons (v_iconst (n := 1) (by decide +kernel) rfl) rfl ?_
  refine am_pv_cons (v_goto (off := 4) (by decide +kernel) rfl) rfl ?_
  refine am_pv_cons (v_iconst (n := 0) (by decide +kernel) rfl) rfl ?_
  refine am_pv_cons (v_ireturn (by decide +kernel)) trivial ?_
  exact trivial
def P_People_add (E : am_E) (k : Nat) : am_P := [(0, aLa 0), (1, aGet 1 1), (4, aLa 0), (5, aGet 1 0), (8, aLi 1), (9, aAst), (10, aLa 0), (11, aGet 1 2), (14, aLa 0), (15, aGet 1 0), (18, aI (-1)), (19, aAst), (20, aLa 0), (21, aDup), (22, aGet 1 0), (25, aI 1), (26, a_iadd), (27, aPut 1 0), (30, aLa 0), (31, aGet 1 0), (34, aI 1), (35, a_isub), (36, aRi)]
set_option maxRecDepth 20000 in
theorem pv_People_add (E : am_E) (k : Nat) : am_pv E k Y_People_add.2.1 Y_People_add.2.2.1 Y_People_add.1.cls (P_People_add E k) := by
  refine am_pv_cons (v_aload_n (q := 0) (by decide +kernel) rfl) rfl ?_
  refine am_pv_cons (v_get fl_People_9 (by decide +kernel)) rfl ?_
  refine am_pv_cons (v_aload_n (q := 0) (by decide +kernel) rfl) rfl ?_
  refine am_pv_cons (v_get fl_People_18 (by decide +kernel)) rfl ?_
  refine am_pv_cons (v_iload_n (q := 1) (by decide +kernel) rfl) rfl ?_
  refine am_pv_cons (v_iast (by decide +kernel)) rfl ?_
  refine am_pv_cons (v_aload_n (q := 0) (by decide +kernel) rfl) rfl ?_
  refine am_pv_cons (v_get fl_People_15 (by decide +kernel)) rfl ?_
  refine am_pv_cons (v_aload_n (q := 0) (by decide +kernel) rfl) rfl ?_
  refine am_pv_cons (v_get fl_People_18 (by decide +kernel)) rfl ?_
  refine am_pv_cons (v_iconst (n := -1) (by decide +kernel) rfl) rfl ?_
  refine am_pv_cons (v_iast (by decide +kernel)) rfl ?_
  refine am_pv_cons (v_aload_n (q := 0) (by decide +kernel) rfl) rfl ?_
  refine am_pv_cons (v_dup (by decide +kernel)) rfl ?_
  refine am_pv_cons (v_get fl_People_18 (by decide +kernel)) rfl ?_
  refine am_pv_cons (v_iconst (n := 1) (by decide +kernel) rfl) rfl ?_
  refine am_pv_cons (v_iadd (by decide +kernel)) rfl ?_
  refine am_pv_cons (v_put fw_People_18 (by decide +kernel)) rfl ?_
  refine am_pv_cons (v_aload_n (q := 0) (by decide +kernel) rfl) rfl ?_
  refine am_pv_cons (v_get fl_People_18 (by decide +kernel)) rfl ?_
  refine am_pv_cons (v_iconst (n := 1) (by decide +kernel) rfl) rfl ?_
  refine am_pv_cons (v_isub (by decide +kernel)) rfl ?_
  refine am_pv_cons (v_ireturn (by decide +kernel)) trivial ?_
  exact trivial
def P_People_isCheaper (E : am_E) (k : Nat) : am_P := [(0, aLi 1), (1, aIs E k 1 Y_Int_bitCount), (4, aLi 2), (5, aIs E k 1 Y_Int_bitCount), (8, a_isub), (9, aSi 3), (10, aLi 3), (11, z_lt 31), (14, aLi 3), (15, z_ne 35), (18, aLa 0), (19, aLi 1), (20, aIv E k 1 1 Y_People_priceOf), (23, aLa 0), (24, aLi 2), (25, aIv E k 1 1 Y_People_priceOf), (28, c_ge 35), (31, aI 1), (32, aGo 36), (35, aI 0), (36, aRi)]
set_option maxRecDepth 20000 in
theorem pv_People_isCheaper (E : am_E) (k : Nat) : am_pv E k Y_People_isCheaper.2.1 Y_People_isCheaper.2.2.1 Y_People_isCheaper.1.cls (P_People_isCheaper E k) := by
  refine am_pv_cons (v_iload_n (q := 1) (by decide +kernel) rfl) rfl ?_
  refine am_pv_cons (v_stat (idx := 26) ys_Int_bitCount (tb4 222 (by decide +kernel) rfl) (by decide +kernel)) rfl ?_
  refine am_pv_cons (v_iload_n (q := 2) (by decide +kernel) rfl) rfl ?_
  refine am_pv_cons (v_stat (idx := 26) ys_Int_bitCount (tb4 222 (by decide +kernel) rfl) (by decide +kernel)) rfl ?_
  refine am_pv_cons (v_isub (by decide +kernel)) rfl ?_
  refine am_pv_cons (v_istore_n (q := 3) (by decide +kernel) rfl) rfl ?_
  refine am_pv_cons (v_iload_n (q := 3) (by decide +kernel) rfl) rfl ?_
  refine am_pv_cons (v_if_lt (off := 20) (by decide +kernel) rfl) rfl ?_
  refine am_pv_cons (v_iload_n (q := 3) (by decide +kernel) rfl) rfl ?_
  refine am_pv_cons (v_if_ne (off := 20) (by decide +kernel) rfl) rfl ?_
  refine am_pv_cons (v_aload_n (q := 0) (by decide +kernel) rfl) rfl ?_
  refine am_pv_cons (v_iload_n (q := 1) (by decide +kernel) rfl) rfl ?_
  refine am_pv_cons (v_virt (idx := 32) yv_People_priceOf rfl rfl (tb4 223 (by decide +kernel) rfl) (by decide +kernel)) rfl ?_
  refine am_pv_cons (v_aload_n (q := 0) (by decide +kernel) rfl) rfl ?_
  refine am_pv_cons (v_iload_n (q := 2) (by decide +kernel) rfl) rfl ?_
  refine am_pv_cons (v_virt (idx := 32) yv_People_priceOf rfl rfl (tb4 223 (by decide +kernel) rfl) (by decide +kernel)) rfl ?_
  refine am_pv_cons (v_ic_ge (off := 7) (by decide +kernel) rfl) rfl ?_
  refine am_pv_cons (v_iconst (n := 1) (by decide +kernel) rfl) rfl ?_
  refine am_pv_cons (v_goto (off := 4) (by decide +kernel) rfl) rfl ?_
  refine am_pv_cons (v_iconst (n := 0) (by decide +kernel) rfl) rfl ?_
  refine am_pv_cons (v_ireturn (by decide +kernel)) trivial ?_
  exact trivial
def P_People_priceOf (E : am_E) (k : Nat) : am_P := [(0, aI 0), (1, aSi 2), (2, aI 0), (3, aSi 3), (4, aLi 3), (5, aLa 0), (6, aGet 1 0), (9, c_ge 36), (12, aLi 1), (13, aLi 3), (14, a_ishr), (15, aI 1), (16, a_iand), (17, aI 1), (18, c_ne 30), (21, aLi 2), (22, aLa 0), (23, aGet 1 1), (26, aLi 3), (27, aAld 0), (28, a_iadd), (29, aSi 2), (30, aInc 3 1), (33, aGo 4), (36, aLi 2), (37, aRi)]
set_option maxRecDepth 20000 in
theorem pv_People_priceOf (E : am_E) (k : Nat) : am_pv E k Y_People_priceOf.2.1 Y_People_priceOf.2.2.1 Y_People_priceOf.1.cls (P_People_priceOf E k) := by
  refine am_pv_cons (v_iconst (n := 0) (by decide +kernel) rfl) rfl ?_
  refine am_pv_cons (v_istore_n (q := 2) (by decide +kernel) rfl) rfl ?_
  refine am_pv_cons (v_iconst (n := 0) (by decide +kernel) rfl) rfl ?_
  refine am_pv_cons (v_istore_n (q := 3) (by decide +kernel) rfl) rfl ?_
  refine am_pv_cons (v_iload_n (q := 3) (by decide +kernel) rfl) rfl ?_
  refine am_pv_cons (v_aload_n (q := 0) (by decide +kernel) rfl) rfl ?_
  refine am_pv_cons (v_get fl_People_18 (by decide +kernel)) rfl ?_
  refine am_pv_cons (v_ic_ge (off := 27) (by decide +kernel) rfl) rfl ?_
  refine am_pv_cons (v_iload_n (q := 1) (by decide +kernel) rfl) rfl ?_
  refine am_pv_cons (v_iload_n (q := 3) (by decide +kernel) rfl) rfl ?_
  refine am_pv_cons (v_ishr (by decide +kernel)) rfl ?_
  refine am_pv_cons (v_iconst (n := 1) (by decide +kernel) rfl) rfl ?_
  refine am_pv_cons (v_iand (by decide +kernel)) rfl ?_
  refine am_pv_cons (v_iconst (n := 1) (by decide +kernel) rfl) rfl ?_
  refine am_pv_cons (v_ic_ne (off := 12) (by decide +kernel) rfl) rfl ?_
  refine am_pv_cons (v_iload_n (q := 2) (by decide +kernel) rfl) rfl ?_
  refine am_pv_cons (v_aload_n (q := 0) (by decide +kernel) rfl) rfl ?_
  refine am_pv_cons (v_get fl_People_9 (by decide +kernel)) rfl ?_
  refine am_pv_cons (v_iload_n (q := 3) (by decide +kernel) rfl) rfl ?_
  refine am_pv_cons (v_iald (by decide +kernel)) rfl ?_
  refine am_pv_cons (v_iadd (by decide +kernel)) rfl ?_
  refine am_pv_cons (v_istore_n (q := 2) (by decide +kernel) rfl) rfl ?_
  refine am_pv_cons (v_iinc (n := 1) (by decide +kernel) (by decide +kernel)) rfl ?_
  refine am_pv_cons (v_goto (off := -29) (by decide +kernel) rfl) rfl ?_
  refine am_pv_cons (v_iload_n (q := 2) (by decide +kernel) rfl) rfl ?_
  refine am_pv_cons (v_ireturn (by decide +kernel)) trivial ?_
  exact trivial
def P_People_become (E : am_E) (k : Nat) : am_P := [(0, aLa 0), (1, aLa 1), (2, aIv E k 1 1 Y_People_takeBack), (5, aLa 0), (6, aLa 1), (7, aGet 1 0), (10, aPut 1 0), (13, aRv)]
set_option maxRecDepth 20000 in
theorem pv_People_become (E : am_E) (k : Nat) : am_pv E k Y_People_become.2.1 Y_People_become.2.2.1 Y_People_become.1.cls (P_People_become E k) := by
  refine am_pv_cons (v_aload_n (q := 0) (by decide +kernel) rfl) rfl ?_
  refine am_pv_cons (v_aload_n (q := 1) (by decide +kernel) rfl) rfl ?_
  refine am_pv_cons (v_virt (idx := 35) yv_People_takeBack rfl rfl (tb5 101 (by decide +kernel) rfl) (by decide +kernel)) rfl ?_
  refine am_pv_cons (v_aload_n (q := 0) (by decide +kernel) rfl) rfl ?_
  refine am_pv_cons (v_aload_n (q := 1) (by decide +kernel) rfl) rfl ?_
  refine am_pv_cons (v_get fl_People_18 (by decide +kernel)) rfl ?_
  refine am_pv_cons (v_put fw_People_18 (by decide +kernel)) rfl ?_
  refine am_pv_cons (v_return_ (by decide +kernel)) trivial ?_
  exact trivial
def P_People_takeBack (E : am_E) (k : Nat) : am_P := [(0, aLa 1), (1, aGet 1 1), (4, aI 0), (5, aLa 0), (6, aGet 1 1), (9, aI 0), (10, aLa 1), (11, aGet 1 0), (14, aCpy k), (17, aLa 1), (18, aGet 1 2), (21, aI 0), (22, aLa 0), (23, aGet 1 2), (26, aI 0), (27, aLa 1), (28, aGet 1 0), (31, aCpy k), (34, aRv)]
set_option maxRecDepth 20000 in
theorem pv_People_takeBack (E : am_E) (k : Nat) : am_pv E k Y_People_takeBack.2.1 Y_People_takeBack.2.2.1 Y_People_takeBack.1.cls (P_People_takeBack E k) := by
  refine am_pv_cons (v_aload_n (q := 1) (by decide +kernel) rfl) rfl ?_
  refine am_pv_cons (v_get fl_People_9 (by decide +kernel)) rfl ?_
  refine am_pv_cons (v_iconst (n := 0) (by decide +kernel) rfl) rfl ?_
  refine am_pv_cons (v_aload_n (q := 0) (by decide +kernel) rfl) rfl ?_
  refine am_pv_cons (v_get fl_People_9 (by decide +kernel)) rfl ?_
  refine am_pv_cons (v_iconst (n := 0) (by decide +kernel) rfl) rfl ?_
  refine am_pv_cons (v_aload_n (q := 1) (by decide +kernel) rfl) rfl ?_
  refine am_pv_cons (v_get fl_People_18 (by decide +kernel)) rfl ?_
  refine am_pv_cons (v_cpy (idx := 39) (tb5 105 (by decide +kernel) rfl) cp_n cp_s cp_i (by decide +kernel)) rfl ?_
  refine am_pv_cons (v_aload_n (q := 1) (by decide +kernel) rfl) rfl ?_
  refine am_pv_cons (v_get fl_People_15 (by decide +kernel)) rfl ?_
  refine am_pv_cons (v_iconst (n := 0) (by decide +kernel) rfl) rfl ?_
  refine am_pv_cons (v_aload_n (q := 0) (by decide +kernel) rfl) rfl ?_
  refine am_pv_cons (v_get fl_People_15 (by decide +kernel)) rfl ?_
  refine am_pv_cons (v_iconst (n := 0) (by decide +kernel) rfl) rfl ?_
  refine am_pv_cons (v_aload_n (q := 1) (by decide +kernel) rfl) rfl ?_
  refine am_pv_cons (v_get fl_People_18 (by decide +kernel)) rfl ?_
  refine am_pv_cons (v_cpy (idx := 39) (tb5 105 (by decide +kernel) rfl) cp_n cp_s cp_i (by decide +kernel)) rfl ?_
  refine am_pv_cons (v_return_ (by decide +kernel)) trivial ?_
  exact trivial
def P_Feelings_has (E : am_E) (k : Nat) : am_P := [(0, aLi 1), (1, z_lt 16), (4, aLi 1), (5, aLa 0), (6, aGet 2 0), (9, c_ge 16), (12, aI 1), (13, aGo 17), (16, aI 0), (17, aRi)]
set_option maxRecDepth 20000 in
theorem pv_Feelings_has (E : am_E) (k : Nat) : am_pv E k Y_Feelings_has.2.1 Y_Feelings_has.2.2.1 Y_Feelings_has.1.cls (P_Feelings_has E k) := by
  refine am_pv_cons (v_iload_n (q := 1) (by decide +kernel) rfl) rfl ?_
  refine am_pv_cons (v_if_lt (off := 15) (by decide +kernel) rfl) rfl ?_
  refine am_pv_cons (v_iload_n (q := 1) (by decide +kernel) rfl) rfl ?_
  refine am_pv_cons (v_aload_n (q := 0) (by decide +kernel) rfl) rfl ?_
  refine am_pv_cons (v_get fl_Feelings_39 (by decide +kernel)) rfl ?_
  refine am_pv_cons (v_ic_ge (off := 7) (by decide +kernel) rfl) rfl ?_
  refine am_pv_cons (v_iconst (n := 1) (by decide +kernel) rfl) rfl ?_
  refine am_pv_cons (v_goto (off := 4) (by decide +kernel) rfl) rfl ?_
  refine am_pv_cons (v_iconst (n := 0) (by decide +kernel) rfl) rfl ?_
  refine am_pv_cons (v_ireturn (by decide +kernel)) trivial ?_
  exact trivial
def P_Feelings_find (E : am_E) (k : Nat) : am_P := [(0, aLa 0), (1, aGet 2 6), (4, aLi 1), (5, aI 9), (7, a_imul), (8, aLi 2), (9, a_iadd), (10, aAld 0), (11, aRi)]
set_option maxRecDepth 20000 in
theorem pv_Feelings_find (E : am_E) (k : Nat) : am_pv E k Y_Feelings_find.2.1 Y_Feelings_find.2.2.1 Y_Feelings_find.1.cls (P_Feelings_find E k) := by
  refine am_pv_cons (v_aload_n (q := 0) (by decide +kernel) rfl) rfl ?_
  refine am_pv_cons (v_get fl_Feelings_27 (by decide +kernel)) rfl ?_
  refine am_pv_cons (v_iload_n (q := 1) (by decide +kernel) rfl) rfl ?_
  refine am_pv_cons (v_bipush (n := 9) (by decide +kernel) (by decide +kernel)) rfl ?_
  refine am_pv_cons (v_imul (by decide +kernel)) rfl ?_
  refine am_pv_cons (v_iload_n (q := 2) (by decide +kernel) rfl) rfl ?_
  refine am_pv_cons (v_iadd (by decide +kernel)) rfl ?_
  refine am_pv_cons (v_iald (by decide +kernel)) rfl ?_
  refine am_pv_cons (v_ireturn (by decide +kernel)) trivial ?_
  exact trivial
def P_Feelings_tell (E : am_E) (k : Nat) : am_P := [(0, aLa 0), (1, aLi 1), (2, aLi 2), (3, aIv E k 2 2 Y_Feelings_find), (6, aSi 6), (8, aLi 6), (10, aI (-1)), (11, c_ne 92), (14, aLa 0), (15, aGet 2 0), (18, aI 36), (20, c_lt 26), (23, aI (-4)), (25, aRi), (26, aLa 0), (27, aGet 2 0), (30, aSi 6), (32, aLa 0), (33, aDup), (34, aGet 2 0), (37, aI 1), (38, a_iadd), (39, aPut 2 0), (42, aLa 0), (43, aGet 2 1), (46, aLi 6), (48, aLi 1), (49, aLi 2), (50, aMn k), (53, aAst), (54, aLa 0), (55, aGet 2 2), (58, aLi 6), (60, aLi 1), (61, aLi 2), (62, aMx k), (65, aAst), (66, aLa 0), (67, aGet 2 6), (70, aLi 1), (71, aI 9), (73, a_imul), (74, aLi 2), (75, a_iadd), (76, aLi 6), (78, aAst), (79, aLa 0), (80, aGet 2 6), (83, aLi 2), (84, aI 9), (86, a_imul), (87, aLi 1), (88, a_iadd), (89, aLi 6), (91, aAst), (92, aLa 0), (93, aGet 2 3), (96, aLi 6), (98, aLi 3), (99, aAst), (100, aLa 0), (101, aGet 2 4), (104, aLi 6), (106, aLi 4), (108, aAst), (109, aLa 0), (110, aGet 2 5), (113, aLi 6), (115, aLi 5), (117, aAst), (118, aLi 6), (120, aRi)]
set_option maxRecDepth 20000 in
theorem pv_Feelings_tell (E : am_E) (k : Nat) : am_pv E k Y_Feelings_tell.2.1 Y_Feelings_tell.2.2.1 Y_Feelings_tell.1.cls (P_Feelings_tell E k) := by
  refine am_pv_cons (v_aload_n (q := 0) (by decide +kernel) rfl) rfl ?_
  refine am_pv_cons (v_iload_n (q := 1) (by decide +kernel) rfl) rfl ?_
  refine am_pv_cons (v_iload_n (q := 2) (by decide +kernel) rfl) rfl ?_
  refine am_pv_cons (v_virt (idx := 43) yv_Feelings_find rfl rfl (tb2 213 (by decide +kernel) rfl) (by decide +kernel)) rfl ?_
  refine am_pv_cons (v_istore (by decide +kernel)) rfl ?_
  refine am_pv_cons (v_iload (by decide +kernel)) rfl ?_
  refine am_pv_cons (v_iconst (n := -1) (by decide +kernel) rfl) rfl ?_
  refine am_pv_cons (v_ic_ne (off := 81) (by decide +kernel) rfl) rfl ?_
  refine am_pv_cons (v_aload_n (q := 0) (by decide +kernel) rfl) rfl ?_
  refine am_pv_cons (v_get fl_Feelings_39 (by decide +kernel)) rfl ?_
  refine am_pv_cons (v_bipush (n := 36) (by decide +kernel) (by decide +kernel)) rfl ?_
  refine am_pv_cons (v_ic_lt (off := 6) (by decide +kernel) rfl) rfl ?_
  refine am_pv_cons (v_bipush (n := -4) (by decide +kernel) (by decide +kernel)) rfl ?_
  refine am_pv_cons (v_ireturn (by decide +kernel)) rfl ?_
  refine am_pv_cons (v_aload_n (q := 0) (by decide +kernel) rfl) rfl ?_
  refine am_pv_cons (v_get fl_Feelings_39 (by decide +kernel)) rfl ?_
  refine am_pv_cons (v_istore (by decide +kernel)) rfl ?_
  refine am_pv_cons (v_aload_n (q := 0) (by decide +kernel) rfl) rfl ?_
  refine am_pv_cons (v_dup (by decide +kernel)) rfl ?_
  refine am_pv_cons (v_get fl_Feelings_39 (by decide +kernel)) rfl ?_
  refine am_pv_cons (v_iconst (n := 1) (by decide +kernel) rfl) rfl ?_
  refine am_pv_cons (v_iadd (by decide +kernel)) rfl ?_
  refine am_pv_cons (v_put fw_Feelings_39 (by decide +kernel)) rfl ?_
  refine am_pv_cons (v_aload_n (q := 0) (by decide +kernel) rfl) rfl ?_
  refine am_pv_cons (v_get fl_Feelings_9 (by decide +kernel)) rfl ?_
  refine am_pv_cons (v_iload (by decide +kernel)) rfl ?_
  refine am_pv_cons (v_iload_n (q := 1) (by decide +kernel) rfl) rfl ?_
  refine am_pv_cons (v_iload_n (q := 2) (by decide +kernel) rfl) rfl ?_
  refine am_pv_cons (v_min (idx := 47) (tb2 217 (by decide +kernel) rfl) min_s math_i min_c (by decide +kernel)) rfl ?_
  refine am_pv_cons (v_iast (by decide +kernel)) rfl ?_
  refine am_pv_cons (v_aload_n (q := 0) (by decide +kernel) rfl) rfl ?_
  refine am_pv_cons (v_get fl_Feelings_15 (by decide +kernel)) rfl ?_
  refine am_pv_cons (v_iload (by decide +kernel)) rfl ?_
  refine am_pv_cons (v_iload_n (q := 1) (by decide +kernel) rfl) rfl ?_
  refine am_pv_cons (v_iload_n (q := 2) (by decide +kernel) rfl) rfl ?_
  refine am_pv_cons (v_max (idx := 52) (tb2 220 (by decide +kernel) rfl) max_s math_i max_c (by decide +kernel)) rfl ?_
  refine am_pv_cons (v_iast (by decide +kernel)) rfl ?_
  refine am_pv_cons (v_aload_n (q := 0) (by decide +kernel) rfl) rfl ?_
  refine am_pv_cons (v_get fl_Feelings_27 (by decide +kernel)) rfl ?_
  refine am_pv_cons (v_iload_n (q := 1) (by decide +kernel) rfl) rfl ?_
  refine am_pv_cons (v_bipush (n := 9) (by decide +kernel) (by decide +kernel)) rfl ?_
  refine am_pv_cons (v_imul (by decide +kernel)) rfl ?_
  refine am_pv_cons (v_iload_n (q := 2) (by decide +kernel) rfl) rfl ?_
  refine am_pv_cons (v_iadd (by decide +kernel)) rfl ?_
  refine am_pv_cons (v_iload (by decide +kernel)) rfl ?_
  refine am_pv_cons (v_iast (by decide +kernel)) rfl ?_
  refine am_pv_cons (v_aload_n (q := 0) (by decide +kernel) rfl) rfl ?_
  refine am_pv_cons (v_get fl_Feelings_27 (by decide +kernel)) rfl ?_
  refine am_pv_cons (v_iload_n (q := 2) (by decide +kernel) rfl) rfl ?_
  refine am_pv_cons (v_bipush (n := 9) (by decide +kernel) (by decide +kernel)) rfl ?_
  refine am_pv_cons (v_imul (by decide +kernel)) rfl ?_
  refine am_pv_cons (v_iload_n (q := 1) (by decide +kernel) rfl) rfl ?_
  refine am_pv_cons (v_iadd (by decide +kernel)) rfl ?_
  refine am_pv_cons (v_iload (by decide +kernel)) rfl ?_
  refine am_pv_cons (v_iast (by decide +kernel)) rfl ?_
  refine am_pv_cons (v_aload_n (q := 0) (by decide +kernel) rfl) rfl ?_
  refine am_pv_cons (v_get fl_Feelings_18 (by decide +kernel)) rfl ?_
  refine am_pv_cons (v_iload (by decide +kernel)) rfl ?_
  refine am_pv_cons (v_iload_n (q := 3) (by decide +kernel) rfl) rfl ?_
  refine am_pv_cons (v_iast (by decide +kernel)) rfl ?_
  refine am_pv_cons (v_aload_n (q := 0) (by decide +kernel) rfl) rfl ?_
  refine am_pv_cons (v_get fl_Feelings_21 (by decide +kernel)) rfl ?_
  refine am_pv_cons (v_iload (by decide +kernel)) rfl ?_
  refine am_pv_cons (v_iload (by decide +kernel)) rfl ?_
  refine am_pv_cons (v_iast (by decide +kernel)) rfl ?_
  refine am_pv_cons (v_aload_n (q := 0) (by decide +kernel) rfl) rfl ?_
  refine am_pv_cons (v_get fl_Feelings_24 (by decide +kernel)) rfl ?_
  refine am_pv_cons (v_iload (by decide +kernel)) rfl ?_
  refine am_pv_cons (v_iload (by decide +kernel)) rfl ?_
  refine am_pv_cons (v_iast (by decide +kernel)) rfl ?_
  refine am_pv_cons (v_iload (by decide +kernel)) rfl ?_
  refine am_pv_cons (v_ireturn (by decide +kernel)) trivial ?_
  exact trivial
def P_Feelings_isOf (E : am_E) (k : Nat) : am_P := [(0, aLa 0), (1, aGet 2 1), (4, aLi 1), (5, aAld 0), (6, aLi 2), (7, c_eq 20), (10, aLa 0), (11, aGet 2 2), (14, aLi 1), (15, aAld 0), (16, aLi 2), (17, c_ne 24), (20, aI 1), (21, aGo 25), (24, aI 0), (25, aRi)]
set_option maxRecDepth 20000 in
theorem pv_Feelings_isOf (E : am_E) (k : Nat) : am_pv E k Y_Feelings_isOf.2.1 Y_Feelings_isOf.2.2.1 Y_Feelings_isOf.1.cls (P_Feelings_isOf E k) := by
  refine am_pv_cons (v_aload_n (q := 0) (by decide +kernel) rfl) rfl ?_
  refine am_pv_cons (v_get fl_Feelings_9 (by decide +kernel)) rfl ?_
  refine am_pv_cons (v_iload_n (q := 1) (by decide +kernel) rfl) rfl ?_
  refine am_pv_cons (v_iald (by decide +kernel)) rfl ?_
  refine am_pv_cons (v_iload_n (q := 2) (by decide +kernel) rfl) rfl ?_
  refine am_pv_cons (v_ic_eq (off := 13) (by decide +kernel) rfl) rfl ?_
  refine am_pv_cons (v_aload_n (q := 0) (by decide +kernel) rfl) rfl ?_
  refine am_pv_cons (v_get fl_Feelings_15 (by decide +kernel)) rfl ?_
  refine am_pv_cons (v_iload_n (q := 1) (by decide +kernel) rfl) rfl ?_
  refine am_pv_cons (v_iald (by decide +kernel)) rfl ?_
  refine am_pv_cons (v_iload_n (q := 2) (by decide +kernel) rfl) rfl ?_
  refine am_pv_cons (v_ic_ne (off := 7) (by decide +kernel) rfl) rfl ?_
  refine am_pv_cons (v_iconst (n := 1) (by decide +kernel) rfl) rfl ?_
  refine am_pv_cons (v_goto (off := 4) (by decide +kernel) rfl) rfl ?_
  refine am_pv_cons (v_iconst (n := 0) (by decide +kernel) rfl) rfl ?_
  refine am_pv_cons (v_ireturn (by decide +kernel)) trivial ?_
  exact trivial
def P_Feelings_bitsOf (E : am_E) (k : Nat) : am_P := [(0, aI 1), (1, aLa 0), (2, aGet 2 1), (5, aLi 1), (6, aAld 0), (7, a_ishl), (8, aI 1), (9, aLa 0), (10, aGet 2 2), (13, aLi 1), (14, aAld 0), (15, a_ishl), (16, a_ior), (17, aRi)]
set_option maxRecDepth 20000 in
theorem pv_Feelings_bitsOf (E : am_E) (k : Nat) : am_pv E k Y_Feelings_bitsOf.2.1 Y_Feelings_bitsOf.2.2.1 Y_Feelings_bitsOf.1.cls (P_Feelings_bitsOf E k) := by
  refine am_pv_cons (v_iconst (n := 1) (by decide +kernel) rfl) rfl ?_
  refine am_pv_cons (v_aload_n (q := 0) (by decide +kernel) rfl) rfl ?_
  refine am_pv_cons (v_get fl_Feelings_9 (by decide +kernel)) rfl ?_
  refine am_pv_cons (v_iload_n (q := 1) (by decide +kernel) rfl) rfl ?_
  refine am_pv_cons (v_iald (by decide +kernel)) rfl ?_
  refine am_pv_cons (v_ishl (by decide +kernel)) rfl ?_
  refine am_pv_cons (v_iconst (n := 1) (by decide +kernel) rfl) rfl ?_
  refine am_pv_cons (v_aload_n (q := 0) (by decide +kernel) rfl) rfl ?_
  refine am_pv_cons (v_get fl_Feelings_15 (by decide +kernel)) rfl ?_
  refine am_pv_cons (v_iload_n (q := 1) (by decide +kernel) rfl) rfl ?_
  refine am_pv_cons (v_iald (by decide +kernel)) rfl ?_
  refine am_pv_cons (v_ishl (by decide +kernel)) rfl ?_
  refine am_pv_cons (v_ior (by decide +kernel)) rfl ?_
  refine am_pv_cons (v_ireturn (by decide +kernel)) trivial ?_
  exact trivial
def P_Feelings_isWrong (E : am_E) (k : Nat) : am_P := [(0, aLa 0), (1, aGet 2 3), (4, aLi 1), (5, aAld 0), (6, z_le 13), (9, aI 1), (10, aGo 14), (13, aI 0), (14, aLi 2), (15, c_eq 22), (18, aI 1), (19, aGo 23), (22, aI 0), (23, aRi)]
set_option maxRecDepth 20000 in
theorem pv_Feelings_isWrong (E : am_E) (k : Nat) : am_pv E k Y_Feelings_isWrong.2.1 Y_Feelings_isWrong.2.2.1 Y_Feelings_isWrong.1.cls (P_Feelings_isWrong E k) := by
  refine am_pv_cons (v_aload_n (q := 0) (by decide +kernel) rfl) rfl ?_
  refine am_pv_cons (v_get fl_Feelings_18 (by decide +kernel)) rfl ?_
  refine am_pv_cons (v_iload_n (q := 1) (by decide +kernel) rfl) rfl ?_
  refine am_pv_cons (v_iald (by decide +kernel)) rfl ?_
  refine am_pv_cons (v_if_le (off := 7) (by decide +kernel) rfl) rfl ?_
  refine am_pv_cons (v_iconst (n := 1) (by decide +kernel) rfl) rfl ?_
  refine am_pv_cons (v_goto (off := 4) (by decide +kernel) rfl) rfl ?_
  refine am_pv_cons (v_iconst (n := 0) (by decide +kernel) rfl) rfl ?_
  refine am_pv_cons (v_iload_n (q := 2) (by decide +kernel) rfl) rfl ?_
  refine am_pv_cons (v_ic_eq (off := 7) (by decide +kernel) rfl) rfl ?_
  refine am_pv_cons (v_iconst (n := 1) (by decide +kernel) rfl) rfl ?_
  refine am_pv_cons (v_goto (off := 4) (by decide +kernel) rfl) rfl ?_
  refine am_pv_cons (v_iconst (n := 0) (by decide +kernel) rfl) rfl ?_
  refine am_pv_cons (v_ireturn (by decide +kernel)) trivial ?_
  exact trivial
def P_Feelings_isWrongIn (E : am_E) (k : Nat) : am_P := [(0, aLa 0), (1, aLi 1), (2, aLi 2), (3, aLa 0), (4, aGet 2 1), (7, aLi 1), (8, aAld 0), (9, aLa 0), (10, aGet 2 2), (13, aLi 1), (14, aAld 0), (15, aIs E k 3 Y_TC_isTogether), (18, aIv E k 2 2 Y_Feelings_isWrong), (21, aRi)]
set_option maxRecDepth 20000 in
theorem pv_Feelings_isWrongIn (E : am_E) (k : Nat) : am_pv E k Y_Feelings_isWrongIn.2.1 Y_Feelings_isWrongIn.2.2.1 Y_Feelings_isWrongIn.1.cls (P_Feelings_isWrongIn E k) := by
  refine am_pv_cons (v_aload_n (q := 0) (by decide +kernel) rfl) rfl ?_
  refine am_pv_cons (v_iload_n (q := 1) (by decide +kernel) rfl) rfl ?_
  refine am_pv_cons (v_iload_n (q := 2) (by decide +kernel) rfl) rfl ?_
  refine am_pv_cons (v_aload_n (q := 0) (by decide +kernel) rfl) rfl ?_
  refine am_pv_cons (v_get fl_Feelings_9 (by decide +kernel)) rfl ?_
  refine am_pv_cons (v_iload_n (q := 1) (by decide +kernel) rfl) rfl ?_
  refine am_pv_cons (v_iald (by decide +kernel)) rfl ?_
  refine am_pv_cons (v_aload_n (q := 0) (by decide +kernel) rfl) rfl ?_
  refine am_pv_cons (v_get fl_Feelings_15 (by decide +kernel)) rfl ?_
  refine am_pv_cons (v_iload_n (q := 1) (by decide +kernel) rfl) rfl ?_
  refine am_pv_cons (v_iald (by decide +kernel)) rfl ?_
  refine am_pv_cons (v_statN (idx := 55) (host := "TwoCamps") ys_TC_isTogether (List.mem_of_getElem? (i := 6) (by decide +kernel)) (by decide +kernel)) rfl ?_
  refine am_pv_cons (v_virt (idx := 59) yv_Feelings_isWrong rfl rfl (tb4 152 (by decide +kernel) rfl) (by decide +kernel)) rfl ?_
  refine am_pv_cons (v_ireturn (by decide +kernel)) trivial ?_
  exact trivial
def P_Feelings_badThreesWith (E : am_E) (k : Nat) : am_P := [(0, aI 0), (1, aSi 2), (2, aI 0), (3, aSi 3), (4, aLi 3), (5, aI 9), (7, c_ge 82), (10, aLa 0), (11, aLa 0), (12, aGet 2 1), (15, aLi 1), (16, aAld 0), (17, aLi 3), (18, aIv E k 2 2 Y_Feelings_find), (21, aSi 4), (23, aLa 0), (24, aLa 0), (25, aGet 2 2), (28, aLi 1), (29, aAld 0), (30, aLi 3), (31, aIv E k 2 2 Y_Feelings_find), (34, aSi 5), (36, aLi 4), (38, aI (-1)), (39, c_eq 76), (42, aLi 5), (44, aI (-1)), (45, c_eq 76), (48, aLa 0), (49, aGet 2 3), (52, aLi 1), (53, aAld 0), (54, aLa 0), (55, aGet 2 3), (58, aLi 4), (60, aAld 0), (61, a_imul), (62, aLa 0), (63, aGet 2 3), (66, aLi 5), (68, aAld 0), (69, a_imul), (70, z_ge 76), (73, aInc 2 1), (76, aInc 3 1), (79, aGo 4), (82, aLi 2), (83, aRi)]
set_option maxRecDepth 20000 in
theorem pv_Feelings_badThreesWith (E : am_E) (k : Nat) : am_pv E k Y_Feelings_badThreesWith.2.1 Y_Feelings_badThreesWith.2.2.1 Y_Feelings_badThreesWith.1.cls (P_Feelings_badThreesWith E k) := by
  refine am_pv_cons (v_iconst (n := 0) (by decide +kernel) rfl) rfl ?_
  refine am_pv_cons (v_istore_n (q := 2) (by decide +kernel) rfl) rfl ?_
  refine am_pv_cons (v_iconst (n := 0) (by decide +kernel) rfl) rfl ?_
  refine am_pv_cons (v_istore_n (q := 3) (by decide +kernel) rfl) rfl ?_
  refine am_pv_cons (v_iload_n (q := 3) (by decide +kernel) rfl) rfl ?_
  refine am_pv_cons (v_bipush (n := 9) (by decide +kernel) (by decide +kernel)) rfl ?_
  refine am_pv_cons (v_ic_ge (off := 75) (by decide +kernel) rfl) rfl ?_
  refine am_pv_cons (v_aload_n (q := 0) (by decide +kernel) rfl) rfl ?_
  refine am_pv_cons (v_aload_n (q := 0) (by decide +kernel) rfl) rfl ?_
  refine am_pv_cons (v_get fl_Feelings_9 (by decide +kernel)) rfl ?_
  refine am_pv_cons (v_iload_n (q := 1) (by decide +kernel) rfl) rfl ?_
  refine am_pv_cons (v_iald (by decide +kernel)) rfl ?_
  refine am_pv_cons (v_iload_n (q := 3) (by decide +kernel) rfl) rfl ?_
  refine am_pv_cons (v_virt (idx := 43) yv_Feelings_find rfl rfl (tb2 213 (by decide +kernel) rfl) (by decide +kernel)) rfl ?_
  refine am_pv_cons (v_istore (by decide +kernel)) rfl ?_
  refine am_pv_cons (v_aload_n (q := 0) (by decide +kernel) rfl) rfl ?_
  refine am_pv_cons (v_aload_n (q := 0) (by decide +kernel) rfl) rfl ?_
  refine am_pv_cons (v_get fl_Feelings_15 (by decide +kernel)) rfl ?_
  refine am_pv_cons (v_iload_n (q := 1) (by decide +kernel) rfl) rfl ?_
  refine am_pv_cons (v_iald (by decide +kernel)) rfl ?_
  refine am_pv_cons (v_iload_n (q := 3) (by decide +kernel) rfl) rfl ?_
  refine am_pv_cons (v_virt (idx := 43) yv_Feelings_find rfl rfl (tb2 213 (by decide +kernel) rfl) (by decide +kernel)) rfl ?_
  refine am_pv_cons (v_istore (by decide +kernel)) rfl ?_
  refine am_pv_cons (v_iload (by decide +kernel)) rfl ?_
  refine am_pv_cons (v_iconst (n := -1) (by decide +kernel) rfl) rfl ?_
  refine am_pv_cons (v_ic_eq (off := 37) (by decide +kernel) rfl) rfl ?_
  refine am_pv_cons (v_iload (by decide +kernel)) rfl ?_
  refine am_pv_cons (v_iconst (n := -1) (by decide +kernel) rfl) rfl ?_
  refine am_pv_cons (v_ic_eq (off := 31) (by decide +kernel) rfl) rfl ?_
  refine am_pv_cons (v_aload_n (q := 0) (by decide +kernel) rfl) rfl ?_
  refine am_pv_cons (v_get fl_Feelings_18 (by decide +kernel)) rfl ?_
  refine am_pv_cons (v_iload_n (q := 1) (by decide +kernel) rfl) rfl ?_
  refine am_pv_cons (v_iald (by decide +kernel)) rfl ?_
  refine am_pv_cons (v_aload_n (q := 0) (by decide +kernel) rfl) rfl ?_
  refine am_pv_cons (v_get fl_Feelings_18 (by decide +kernel)) rfl ?_
  refine am_pv_cons (v_iload (by decide +kernel)) rfl ?_
  refine am_pv_cons (v_iald (by decide +kernel)) rfl ?_
  refine am_pv_cons (v_imul (by decide +kernel)) rfl ?_
  refine am_pv_cons (v_aload_n (q := 0) (by decide +kernel) rfl) rfl ?_
  refine am_pv_cons (v_get fl_Feelings_18 (by decide +kernel)) rfl ?_
  refine am_pv_cons (v_iload (by decide +kernel)) rfl ?_
  refine am_pv_cons (v_iald (by decide +kernel)) rfl ?_
  refine am_pv_cons (v_imul (by decide +kernel)) rfl ?_
  refine am_pv_cons (v_if_ge (off := 6) (by decide +kernel) rfl) rfl ?_
  refine am_pv_cons (v_iinc (n := 1) (by decide +kernel) (by decide +kernel)) rfl ?_
  refine am_pv_cons (v_iinc (n := 1) (by decide +kernel) (by decide +kernel)) rfl ?_
  refine am_pv_cons (v_goto (off := -75) (by decide +kernel) rfl) rfl ?_
  refine am_pv_cons (v_iload_n (q := 2) (by decide +kernel) rfl) rfl ?_
  refine am_pv_cons (v_ireturn (by decide +kernel)) trivial ?_
  exact trivial
def P_Feelings_hatreds (E : am_E) (k : Nat) : am_P := [(0, aI 0), (1, aSi 1), (2, aI 0), (3, aSi 2), (4, aLi 2), (5, aLa 0), (6, aGet 2 0), (9, c_ge 30), (12, aLa 0), (13, aGet 2 3), (16, aLi 2), (17, aAld 0), (18, z_ge 24), (21, aInc 1 1), (24, aInc 2 1), (27, aGo 4), (30, aLi 1), (31, aRi)]
set_option maxRecDepth 20000 in
theorem pv_Feelings_hatreds (E : am_E) (k : Nat) : am_pv E k Y_Feelings_hatreds.2.1 Y_Feelings_hatreds.2.2.1 Y_Feelings_hatreds.1.cls (P_Feelings_hatreds E k) := by
  refine am_pv_cons (v_iconst (n := 0) (by decide +kernel) rfl) rfl ?_
  refine am_pv_cons (v_istore_n (q := 1) (by decide +kernel) rfl) rfl ?_
  refine am_pv_cons (v_iconst (n := 0) (by decide +kernel) rfl) rfl ?_
  refine am_pv_cons (v_istore_n (q := 2) (by decide +kernel) rfl) rfl ?_
  refine am_pv_cons (v_iload_n (q := 2) (by decide +kernel) rfl) rfl ?_
  refine am_pv_cons (v_aload_n (q := 0) (by decide +kernel) rfl) rfl ?_
  refine am_pv_cons (v_get fl_Feelings_39 (by decide +kernel)) rfl ?_
  refine am_pv_cons (v_ic_ge (off := 21) (by decide +kernel) rfl) rfl ?_
  refine am_pv_cons (v_aload_n (q := 0) (by decide +kernel) rfl) rfl ?_
  refine am_pv_cons (v_get fl_Feelings_18 (by decide +kernel)) rfl ?_
  refine am_pv_cons (v_iload_n (q := 2) (by decide +kernel) rfl) rfl ?_
  refine am_pv_cons (v_iald (by decide +kernel)) rfl ?_
  refine am_pv_cons (v_if_ge (off := 6) (by decide +kernel) rfl) rfl ?_
  refine am_pv_cons (v_iinc (n := 1) (by decide +kernel) (by decide +kernel)) rfl ?_
  refine am_pv_cons (v_iinc (n := 1) (by decide +kernel) (by decide +kernel)) rfl ?_
  refine am_pv_cons (v_goto (off := -23) (by decide +kernel) rfl) rfl ?_
  refine am_pv_cons (v_iload_n (q := 1) (by decide +kernel) rfl) rfl ?_
  refine am_pv_cons (v_ireturn (by decide +kernel)) trivial ?_
  exact trivial
def P_Feelings_keepSigns (E : am_E) (k : Nat) : am_P := [(0, aLa 0), (1, aGet 2 3), (4, aI 0), (5, aLa 0), (6, aGet 2 7), (9, aI 0), (10, aLa 0), (11, aGet 2 0), (14, aCpy k), (17, aRv)]
set_option maxRecDepth 20000 in
theorem pv_Feelings_keepSigns (E : am_E) (k : Nat) : am_pv E k Y_Feelings_keepSigns.2.1 Y_Feelings_keepSigns.2.2.1 Y_Feelings_keepSigns.1.cls (P_Feelings_keepSigns E k) := by
  refine am_pv_cons (v_aload_n (q := 0) (by decide +kernel) rfl) rfl ?_
  refine am_pv_cons (v_get fl_Feelings_18 (by decide +kernel)) rfl ?_
  refine am_pv_cons (v_iconst (n := 0) (by decide +kernel) rfl) rfl ?_
  refine am_pv_cons (v_aload_n (q := 0) (by decide +kernel) rfl) rfl ?_
  refine am_pv_cons (v_get fl_Feelings_30 (by decide +kernel)) rfl ?_
  refine am_pv_cons (v_iconst (n := 0) (by decide +kernel) rfl) rfl ?_
  refine am_pv_cons (v_aload_n (q := 0) (by decide +kernel) rfl) rfl ?_
  refine am_pv_cons (v_get fl_Feelings_39 (by decide +kernel)) rfl ?_
  refine am_pv_cons (v_cpy (idx := 63) (tb5 50 (by decide +kernel) rfl) cp_n cp_s cp_i (by decide +kernel)) rfl ?_
  refine am_pv_cons (v_return_ (by decide +kernel)) trivial ?_
  exact trivial
def P_Feelings_restoreSigns (E : am_E) (k : Nat) : am_P := [(0, aLa 0), (1, aGet 2 7), (4, aI 0), (5, aLa 0), (6, aGet 2 3), (9, aI 0), (10, aLa 0), (11, aGet 2 0), (14, aCpy k), (17, aRv)]
set_option maxRecDepth 20000 in
theorem pv_Feelings_restoreSigns (E : am_E) (k : Nat) : am_pv E k Y_Feelings_restoreSigns.2.1 Y_Feelings_restoreSigns.2.2.1 Y_Feelings_restoreSigns.1.cls (P_Feelings_restoreSigns E k) := by
  refine am_pv_cons (v_aload_n (q := 0) (by decide +kernel) rfl) rfl ?_
  refine am_pv_cons (v_get fl_Feelings_30 (by decide +kernel)) rfl ?_
  refine am_pv_cons (v_iconst (n := 0) (by decide +kernel) rfl) rfl ?_
  refine am_pv_cons (v_aload_n (q := 0) (by decide +kernel) rfl) rfl ?_
  refine am_pv_cons (v_get fl_Feelings_18 (by decide +kernel)) rfl ?_
  refine am_pv_cons (v_iconst (n := 0) (by decide +kernel) rfl) rfl ?_
  refine am_pv_cons (v_aload_n (q := 0) (by decide +kernel) rfl) rfl ?_
  refine am_pv_cons (v_get fl_Feelings_39 (by decide +kernel)) rfl ?_
  refine am_pv_cons (v_cpy (idx := 63) (tb5 50 (by decide +kernel) rfl) cp_n cp_s cp_i (by decide +kernel)) rfl ?_
  refine am_pv_cons (v_return_ (by decide +kernel)) trivial ?_
  exact trivial
def P_Feelings_become (E : am_E) (k : Nat) : am_P := [(0, aLa 0), (1, aLa 1), (2, aGet 2 0), (5, aPut 2 0), (8, aLa 1), (9, aGet 2 1), (12, aI 0), (13, aLa 0), (14, aGet 2 1), (17, aI 0), (18, aI 36), (20, aCpy k), (23, aLa 1), (24, aGet 2 2), (27, aI 0), (28, aLa 0), (29, aGet 2 2), (32, aI 0), (33, aI 36), (35, aCpy k), (38, aLa 1), (39, aGet 2 3), (42, aI 0), (43, aLa 0), (44, aGet 2 3), (47, aI 0), (48, aI 36), (50, aCpy k), (53, aLa 1), (54, aGet 2 4), (57, aI 0), (58, aLa 0), (59, aGet 2 4), (62, aI 0), (63, aI 36), (65, aCpy k), (68, aLa 1), (69, aGet 2 5), (72, aI 0), (73, aLa 0), (74, aGet 2 5), (77, aI 0), (78, aI 36), (80, aCpy k), (83, aLa 1), (84, aGet 2 6), (87, aI 0), (88, aLa 0), (89, aGet 2 6), (92, aI 0), (93, aI 81), (95, aCpy k), (98, aRv)]
set_option maxRecDepth 20000 in
theorem pv_Feelings_become (E : am_E) (k : Nat) : am_pv E k Y_Feelings_become.2.1 Y_Feelings_become.2.2.1 Y_Feelings_become.1.cls (P_Feelings_become E k) := by
  refine am_pv_cons (v_aload_n (q := 0) (by decide +kernel) rfl) rfl ?_
  refine am_pv_cons (v_aload_n (q := 1) (by decide +kernel) rfl) rfl ?_
  refine am_pv_cons (v_get fl_Feelings_39 (by decide +kernel)) rfl ?_
  refine am_pv_cons (v_put fw_Feelings_39 (by decide +kernel)) rfl ?_
  refine am_pv_cons (v_aload_n (q := 1) (by decide +kernel) rfl) rfl ?_
  refine am_pv_cons (v_get fl_Feelings_9 (by decide +kernel)) rfl ?_
  refine am_pv_cons (v_iconst (n := 0) (by decide +kernel) rfl) rfl ?_
  refine am_pv_cons (v_aload_n (q := 0) (by decide +kernel) rfl) rfl ?_
  refine am_pv_cons (v_get fl_Feelings_9 (by decide +kernel)) rfl ?_
  refine am_pv_cons (v_iconst (n := 0) (by decide +kernel) rfl) rfl ?_
  refine am_pv_cons (v_bipush (n := 36) (by decide +kernel) (by decide +kernel)) rfl ?_
  refine am_pv_cons (v_cpy (idx := 63) (tb5 50 (by decide +kernel) rfl) cp_n cp_s cp_i (by decide +kernel)) rfl ?_
  refine am_pv_cons (v_aload_n (q := 1) (by decide +kernel) rfl) rfl ?_
  refine am_pv_cons (v_get fl_Feelings_15 (by decide +kernel)) rfl ?_
  refine am_pv_cons (v_iconst (n := 0) (by decide +kernel) rfl) rfl ?_
  refine am_pv_cons (v_aload_n (q := 0) (by decide +kernel) rfl) rfl ?_
  refine am_pv_cons (v_get fl_Feelings_15 (by decide +kernel)) rfl ?_
  refine am_pv_cons (v_iconst (n := 0) (by decide +kernel) rfl) rfl ?_
  refine am_pv_cons (v_bipush (n := 36) (by decide +kernel) (by decide +kernel)) rfl ?_
  refine am_pv_cons (v_cpy (idx := 63) (tb5 50 (by decide +kernel) rfl) cp_n cp_s cp_i (by decide +kernel)) rfl ?_
  refine am_pv_cons (v_aload_n (q := 1) (by decide +kernel) rfl) rfl ?_
  refine am_pv_cons (v_get fl_Feelings_18 (by decide +kernel)) rfl ?_
  refine am_pv_cons (v_iconst (n := 0) (by decide +kernel) rfl) rfl ?_
  refine am_pv_cons (v_aload_n (q := 0) (by decide +kernel) rfl) rfl ?_
  refine am_pv_cons (v_get fl_Feelings_18 (by decide +kernel)) rfl ?_
  refine am_pv_cons (v_iconst (n := 0) (by decide +kernel) rfl) rfl ?_
  refine am_pv_cons (v_bipush (n := 36) (by decide +kernel) (by decide +kernel)) rfl ?_
  refine am_pv_cons (v_cpy (idx := 63) (tb5 50 (by decide +kernel) rfl) cp_n cp_s cp_i (by decide +kernel)) rfl ?_
  refine am_pv_cons (v_aload_n (q := 1) (by decide +kernel) rfl) rfl ?_
  refine am_pv_cons (v_get fl_Feelings_21 (by decide +kernel)) rfl ?_
  refine am_pv_cons (v_iconst (n := 0) (by decide +kernel) rfl) rfl ?_
  refine am_pv_cons (v_aload_n (q := 0) (by decide +kernel) rfl) rfl ?_
  refine am_pv_cons (v_get fl_Feelings_21 (by decide +kernel)) rfl ?_
  refine am_pv_cons (v_iconst (n := 0) (by decide +kernel) rfl) rfl ?_
  refine am_pv_cons (v_bipush (n := 36) (by decide +kernel) (by decide +kernel)) rfl ?_
  refine am_pv_cons (v_cpy (idx := 63) (tb5 50 (by decide +kernel) rfl) cp_n cp_s cp_i (by decide +kernel)) rfl ?_
  refine am_pv_cons (v_aload_n (q := 1) (by decide +kernel) rfl) rfl ?_
  refine am_pv_cons (v_get fl_Feelings_24 (by decide +kernel)) rfl ?_
  refine am_pv_cons (v_iconst (n := 0) (by decide +kernel) rfl) rfl ?_
  refine am_pv_cons (v_aload_n (q := 0) (by decide +kernel) rfl) rfl ?_
  refine am_pv_cons (v_get fl_Feelings_24 (by decide +kernel)) rfl ?_
  refine am_pv_cons (v_iconst (n := 0) (by decide +kernel) rfl) rfl ?_
  refine am_pv_cons (v_bipush (n := 36) (by decide +kernel) (by decide +kernel)) rfl ?_
  refine am_pv_cons (v_cpy (idx := 63) (tb5 50 (by decide +kernel) rfl) cp_n cp_s cp_i (by decide +kernel)) rfl ?_
  refine am_pv_cons (v_aload_n (q := 1) (by decide +kernel) rfl) rfl ?_
  refine am_pv_cons (v_get fl_Feelings_27 (by decide +kernel)) rfl ?_
  refine am_pv_cons (v_iconst (n := 0) (by decide +kernel) rfl) rfl ?_
  refine am_pv_cons (v_aload_n (q := 0) (by decide +kernel) rfl) rfl ?_
  refine am_pv_cons (v_get fl_Feelings_27 (by decide +kernel)) rfl ?_
  refine am_pv_cons (v_iconst (n := 0) (by decide +kernel) rfl) rfl ?_
  refine am_pv_cons (v_bipush (n := 81) (by decide +kernel) (by decide +kernel)) rfl ?_
  refine am_pv_cons (v_cpy (idx := 63) (tb5 50 (by decide +kernel) rfl) cp_n cp_s cp_i (by decide +kernel)) rfl ?_
  refine am_pv_cons (v_return_ (by decide +kernel)) trivial ?_
  exact trivial
def P_Tape_add (E : am_E) (k : Nat) : am_P := [(0, aLa 0), (1, aGet 3 1), (4, aLa 0), (5, aGet 3 0), (8, aLi 1), (9, aAst), (10, aLa 0), (11, aDup), (12, aGet 3 0), (15, aI 1), (16, a_iadd), (17, aPut 3 0), (20, aRv)]
set_option maxRecDepth 20000 in
theorem pv_Tape_add (E : am_E) (k : Nat) : am_pv E k Y_Tape_add.2.1 Y_Tape_add.2.2.1 Y_Tape_add.1.cls (P_Tape_add E k) := by
  refine am_pv_cons (v_aload_n (q := 0) (by decide +kernel) rfl) rfl ?_
  refine am_pv_cons (v_get fl_Tape_9 (by decide +kernel)) rfl ?_
  refine am_pv_cons (v_aload_n (q := 0) (by decide +kernel) rfl) rfl ?_
  refine am_pv_cons (v_get fl_Tape_15 (by decide +kernel)) rfl ?_
  refine am_pv_cons (v_iload_n (q := 1) (by decide +kernel) rfl) rfl ?_
  refine am_pv_cons (v_iast (by decide +kernel)) rfl ?_
  refine am_pv_cons (v_aload_n (q := 0) (by decide +kernel) rfl) rfl ?_
  refine am_pv_cons (v_dup (by decide +kernel)) rfl ?_
  refine am_pv_cons (v_get fl_Tape_15 (by decide +kernel)) rfl ?_
  refine am_pv_cons (v_iconst (n := 1) (by decide +kernel) rfl) rfl ?_
  refine am_pv_cons (v_iadd (by decide +kernel)) rfl ?_
  refine am_pv_cons (v_put fw_Tape_15 (by decide +kernel)) rfl ?_
  refine am_pv_cons (v_return_ (by decide +kernel)) trivial ?_
  exact trivial
def P_Tape_at (E : am_E) (k : Nat) : am_P := [(0, aLi 1), (1, z_lt 21), (4, aLi 1), (5, aLa 0), (6, aGet 3 0), (9, c_ge 21), (12, aLa 0), (13, aGet 3 1), (16, aLi 1), (17, aAld 0), (18, aGo 22), (21, aI (-1)), (22, aRi)]
set_option maxRecDepth 20000 in
theorem pv_Tape_at (E : am_E) (k : Nat) : am_pv E k Y_Tape_at.2.1 Y_Tape_at.2.2.1 Y_Tape_at.1.cls (P_Tape_at E k) := by
  refine am_pv_cons (v_iload_n (q := 1) (by decide +kernel) rfl) rfl ?_
  refine am_pv_cons (v_if_lt (off := 20) (by decide +kernel) rfl) rfl ?_
  refine am_pv_cons (v_iload_n (q := 1) (by decide +kernel) rfl) rfl ?_
  refine am_pv_cons (v_aload_n (q := 0) (by decide +kernel) rfl) rfl ?_
  refine am_pv_cons (v_get fl_Tape_15 (by decide +kernel)) rfl ?_
  refine am_pv_cons (v_ic_ge (off := 12) (by decide +kernel) rfl) rfl ?_
  refine am_pv_cons (v_aload_n (q := 0) (by decide +kernel) rfl) rfl ?_
  refine am_pv_cons (v_get fl_Tape_9 (by decide +kernel)) rfl ?_
  refine am_pv_cons (v_iload_n (q := 1) (by decide +kernel) rfl) rfl ?_
  refine am_pv_cons (v_iald (by decide +kernel)) rfl ?_
  refine am_pv_cons (v_goto (off := 4) (by decide +kernel) rfl) rfl ?_
  refine am_pv_cons (v_iconst (n := -1) (by decide +kernel) rfl) rfl ?_
  refine am_pv_cons (v_ireturn (by decide +kernel)) trivial ?_
  exact trivial
def P_Tape_digitAt (E : am_E) (k : Nat) : am_P := [(0, aLa 0), (1, aLi 1), (2, aIv E k 3 1 Y_Tape_at), (5, aSi 2), (6, aLi 2), (7, aI 48), (9, c_lt 25), (12, aLi 2), (13, aI 57), (15, c_gt 25), (18, aLi 2), (19, aI 48), (21, a_isub), (22, aGo 26), (25, aI (-1)), (26, aRi)]
set_option maxRecDepth 20000 in
theorem pv_Tape_digitAt (E : am_E) (k : Nat) : am_pv E k Y_Tape_digitAt.2.1 Y_Tape_digitAt.2.2.1 Y_Tape_digitAt.1.cls (P_Tape_digitAt E k) := by
  refine am_pv_cons (v_aload_n (q := 0) (by decide +kernel) rfl) rfl ?_
  refine am_pv_cons (v_iload_n (q := 1) (by decide +kernel) rfl) rfl ?_
  refine am_pv_cons (v_virt (idx := 19) yv_Tape_at rfl rfl (tb3 81 (by decide +kernel) rfl) (by decide +kernel)) rfl ?_
  refine am_pv_cons (v_istore_n (q := 2) (by decide +kernel) rfl) rfl ?_
  refine am_pv_cons (v_iload_n (q := 2) (by decide +kernel) rfl) rfl ?_
  refine am_pv_cons (v_bipush (n := 48) (by decide +kernel) (by decide +kernel)) rfl ?_
  refine am_pv_cons (v_ic_lt (off := 16) (by decide +kernel) rfl) rfl ?_
  refine am_pv_cons (v_iload_n (q := 2) (by decide +kernel) rfl) rfl ?_
  refine am_pv_cons (v_bipush (n := 57) (by decide +kernel) (by decide +kernel)) rfl ?_
  refine am_pv_cons (v_ic_gt (off := 10) (by decide +kernel) rfl) rfl ?_
  refine am_pv_cons (v_iload_n (q := 2) (by decide +kernel) rfl) rfl ?_
  refine am_pv_cons (v_bipush (n := 48) (by decide +kernel) (by decide +kernel)) rfl ?_
  refine am_pv_cons (v_isub (by decide +kernel)) rfl ?_
  refine am_pv_cons (v_goto (off := 4) (by decide +kernel) rfl) rfl ?_
  refine am_pv_cons (v_iconst (n := -1) (by decide +kernel) rfl) rfl ?_
  refine am_pv_cons (v_ireturn (by decide +kernel)) trivial ?_
  exact trivial
def P_Tape_isDigit (E : am_E) (k : Nat) : am_P := [(0, aLa 0), (1, aLi 1), (2, aIv E k 3 1 Y_Tape_digitAt), (5, aI (-1)), (6, c_eq 13), (9, aI 1), (10, aGo 14), (13, aI 0), (14, aRi)]
set_option maxRecDepth 20000 in
theorem pv_Tape_isDigit (E : am_E) (k : Nat) : am_pv E k Y_Tape_isDigit.2.1 Y_Tape_isDigit.2.2.1 Y_Tape_isDigit.1.cls (P_Tape_isDigit E k) := by
  refine am_pv_cons (v_aload_n (q := 0) (by decide +kernel) rfl) rfl ?_
  refine am_pv_cons (v_iload_n (q := 1) (by decide +kernel) rfl) rfl ?_
  refine am_pv_cons (v_virt (idx := 23) yv_Tape_digitAt rfl rfl (tb3 124 (by decide +kernel) rfl) (by decide +kernel)) rfl ?_
  refine am_pv_cons (v_iconst (n := -1) (by decide +kernel) rfl) rfl ?_
  refine am_pv_cons (v_ic_eq (off := 7) (by decide +kernel) rfl) rfl ?_
  refine am_pv_cons (v_iconst (n := 1) (by decide +kernel) rfl) rfl ?_
  refine am_pv_cons (v_goto (off := 4) (by decide +kernel) rfl) rfl ?_
  refine am_pv_cons (v_iconst (n := 0) (by decide +kernel) rfl) rfl ?_
  refine am_pv_cons (v_ireturn (by decide +kernel)) trivial ?_
  exact trivial
def P_Tape_isLetter (E : am_E) (k : Nat) : am_P := [(0, aLa 0), (1, aLi 1), (2, aIv E k 3 1 Y_Tape_at), (5, aSi 2), (6, aLi 2), (7, aI 97), (9, c_lt 22), (12, aLi 2), (13, aI 122), (15, c_gt 22), (18, aI 1), (19, aGo 23), (22, aI 0), (23, aRi)]
set_option maxRecDepth 20000 in
theorem pv_Tape_isLetter (E : am_E) (k : Nat) : am_pv E k Y_Tape_isLetter.2.1 Y_Tape_isLetter.2.2.1 Y_Tape_isLetter.1.cls (P_Tape_isLetter E k) := by
  refine am_pv_cons (v_aload_n (q := 0) (by decide +kernel) rfl) rfl ?_
  refine am_pv_cons (v_iload_n (q := 1) (by decide +kernel) rfl) rfl ?_
  refine am_pv_cons (v_virt (idx := 19) yv_Tape_at rfl rfl (tb3 81 (by decide +kernel) rfl) (by decide +kernel)) rfl ?_
  refine am_pv_cons (v_istore_n (q := 2) (by decide +kernel) rfl) rfl ?_
  refine am_pv_cons (v_iload_n (q := 2) (by decide +kernel) rfl) rfl ?_
  refine am_pv_cons (v_bipush (n := 97) (by decide +kernel) (by decide +kernel)) rfl ?_
  refine am_pv_cons (v_ic_lt (off := 13) (by decide +kernel) rfl) rfl ?_
  refine am_pv_cons (v_iload_n (q := 2) (by decide +kernel) rfl) rfl ?_
  refine am_pv_cons (v_bipush (n := 122) (by decide +kernel) (by decide +kernel)) rfl ?_
  refine am_pv_cons (v_ic_gt (off := 7) (by decide +kernel) rfl) rfl ?_
  refine am_pv_cons (v_iconst (n := 1) (by decide +kernel) rfl) rfl ?_
  refine am_pv_cons (v_goto (off := 4) (by decide +kernel) rfl) rfl ?_
  refine am_pv_cons (v_iconst (n := 0) (by decide +kernel) rfl) rfl ?_
  refine am_pv_cons (v_ireturn (by decide +kernel)) trivial ?_
  exact trivial
def P_Law_add (E : am_E) (k : Nat) : am_P := [(0, aLa 0), (1, aGet 4 1), (4, aLa 0), (5, aGet 4 2), (8, aAa 3), (9, aLa 1), (10, aIv E k 5 1 Y_Text_become), (13, aLa 0), (14, aDup), (15, aGet 4 2), (18, aI 1), (19, a_iadd), (20, aPut 4 2), (23, aLa 0), (24, aGet 4 2), (27, aI 1), (28, a_isub), (29, aRi)]
set_option maxRecDepth 20000 in
theorem pv_Law_add (E : am_E) (k : Nat) : am_pv E k Y_Law_add.2.1 Y_Law_add.2.2.1 Y_Law_add.1.cls (P_Law_add E k) := by
  refine am_pv_cons (v_aload_n (q := 0) (by decide +kernel) rfl) rfl ?_
  refine am_pv_cons (v_get fl_Law_11 (by decide +kernel)) rfl ?_
  refine am_pv_cons (v_aload_n (q := 0) (by decide +kernel) rfl) rfl ?_
  refine am_pv_cons (v_get fl_Law_17 (by decide +kernel)) rfl ?_
  refine am_pv_cons (v_aa (by decide) (by decide) (by decide +kernel)) rfl ?_
  refine am_pv_cons (v_aload_n (q := 1) (by decide +kernel) rfl) rfl ?_
  refine am_pv_cons (v_virt (idx := 44) yv_Text_become rfl rfl (tb3 239 (by decide +kernel) rfl) (by decide +kernel)) rfl ?_
  refine am_pv_cons (v_aload_n (q := 0) (by decide +kernel) rfl) rfl ?_
  refine am_pv_cons (v_dup (by decide +kernel)) rfl ?_
  refine am_pv_cons (v_get fl_Law_17 (by decide +kernel)) rfl ?_
  refine am_pv_cons (v_iconst (n := 1) (by decide +kernel) rfl) rfl ?_
  refine am_pv_cons (v_iadd (by decide +kernel)) rfl ?_
  refine am_pv_cons (v_put fw_Law_17 (by decide +kernel)) rfl ?_
  refine am_pv_cons (v_aload_n (q := 0) (by decide +kernel) rfl) rfl ?_
  refine am_pv_cons (v_get fl_Law_17 (by decide +kernel)) rfl ?_
  refine am_pv_cons (v_iconst (n := 1) (by decide +kernel) rfl) rfl ?_
  refine am_pv_cons (v_isub (by decide +kernel)) rfl ?_
  refine am_pv_cons (v_ireturn (by decide +kernel)) trivial ?_
  exact trivial
def P_Law_weigh (E : am_E) (k : Nat) : am_P := [(0, aI 0), (1, aSi 1), (2, aLi 1), (3, aLa 0), (4, aGet 4 0), (7, aGet 2 0), (10, c_ge 41), (13, aLa 0), (14, aGet 4 4), (17, aLi 1), (18, aLa 0), (19, aLi 1), (20, aIv E k 4 1 Y_Law_costOf), (23, aAst), (24, aLa 0), (25, aGet 4 5), (28, aLi 1), (29, aLa 0), (30, aLi 1), (31, aIv E k 4 1 Y_Law_canBeWrong), (34, aAstz), (35, aInc 1 1), (38, aGo 2), (41, aRv)]
set_option maxRecDepth 20000 in
theorem pv_Law_weigh (E : am_E) (k : Nat) : am_pv E k Y_Law_weigh.2.1 Y_Law_weigh.2.2.1 Y_Law_weigh.1.cls (P_Law_weigh E k) := by
  refine am_pv_cons (v_iconst (n := 0) (by decide +kernel) rfl) rfl ?_
  refine am_pv_cons (v_istore_n (q := 1) (by decide +kernel) rfl) rfl ?_
  refine am_pv_cons (v_iload_n (q := 1) (by decide +kernel) rfl) rfl ?_
  refine am_pv_cons (v_aload_n (q := 0) (by decide +kernel) rfl) rfl ?_
  refine am_pv_cons (v_get fl_Law_32 (by decide +kernel)) rfl ?_
  refine am_pv_cons (v_get fl_Law_48 (by decide +kernel)) rfl ?_
  refine am_pv_cons (v_ic_ge (off := 31) (by decide +kernel) rfl) rfl ?_
  refine am_pv_cons (v_aload_n (q := 0) (by decide +kernel) rfl) rfl ?_
  refine am_pv_cons (v_get fl_Law_21 (by decide +kernel)) rfl ?_
  refine am_pv_cons (v_iload_n (q := 1) (by decide +kernel) rfl) rfl ?_
  refine am_pv_cons (v_aload_n (q := 0) (by decide +kernel) rfl) rfl ?_
  refine am_pv_cons (v_iload_n (q := 1) (by decide +kernel) rfl) rfl ?_
  refine am_pv_cons (v_virt (idx := 53) yv_Law_costOf rfl rfl (tb4 87 (by decide +kernel) rfl) (by decide +kernel)) rfl ?_
  refine am_pv_cons (v_iast (by decide +kernel)) rfl ?_
  refine am_pv_cons (v_aload_n (q := 0) (by decide +kernel) rfl) rfl ?_
  refine am_pv_cons (v_get fl_Law_25 (by decide +kernel)) rfl ?_
  refine am_pv_cons (v_iload_n (q := 1) (by decide +kernel) rfl) rfl ?_
  refine am_pv_cons (v_aload_n (q := 0) (by decide +kernel) rfl) rfl ?_
  refine am_pv_cons (v_iload_n (q := 1) (by decide +kernel) rfl) rfl ?_
  refine am_pv_cons (v_virt (idx := 57) yv_Law_canBeWrong rfl rfl (tb4 88 (by decide +kernel) rfl) (by decide +kernel)) rfl ?_
  refine am_pv_cons (v_zast (by decide +kernel)) rfl ?_
  refine am_pv_cons (v_iinc (n := 1) (by decide +kernel) (by decide +kernel)) rfl ?_
  refine am_pv_cons (v_goto (off := -36) (by decide +kernel) rfl) rfl ?_
  refine am_pv_cons (v_return_ (by decide +kernel)) trivial ?_
  exact trivial
def P_Law_costOf (E : am_E) (k : Nat) : am_P := [(0, aLa 0), (1, aGet 4 1), (4, aLa 0), (5, aGet 4 3), (8, aAa 3), (9, aSa 2), (10, aLa 0), (11, aLa 2), (12, aGet 5 0), (15, aI 0), (16, aLa 2), (17, aGet 5 2), (20, aLi 1), (21, aIv E k 4 4 Y_Law_run), (24, aSi 3), (25, aI 0), (26, aI 9999), (29, aLi 3), (30, aMn k), (33, aMx k), (36, aRi)]
set_option maxRecDepth 20000 in
theorem pv_Law_costOf (E : am_E) (k : Nat) : am_pv E k Y_Law_costOf.2.1 Y_Law_costOf.2.2.1 Y_Law_costOf.1.cls (P_Law_costOf E k) := by
  refine am_pv_cons (v_aload_n (q := 0) (by decide +kernel) rfl) rfl ?_
  refine am_pv_cons (v_get fl_Law_11 (by decide +kernel)) rfl ?_
  refine am_pv_cons (v_aload_n (q := 0) (by decide +kernel) rfl) rfl ?_
  refine am_pv_cons (v_get fl_Law_61 (by decide +kernel)) rfl ?_
  refine am_pv_cons (v_aa (by decide) (by decide) (by decide +kernel)) rfl ?_
  refine am_pv_cons (v_astore_n (q := 2) (by decide +kernel) rfl) rfl ?_
  refine am_pv_cons (v_aload_n (q := 0) (by decide +kernel) rfl) rfl ?_
  refine am_pv_cons (v_aload_n (q := 2) (by decide +kernel) rfl) rfl ?_
  refine am_pv_cons (v_get fl_Law_64 (by decide +kernel)) rfl ?_
  refine am_pv_cons (v_iconst (n := 0) (by decide +kernel) rfl) rfl ?_
  refine am_pv_cons (v_aload_n (q := 2) (by decide +kernel) rfl) rfl ?_
  refine am_pv_cons (v_get fl_Law_67 (by decide +kernel)) rfl ?_
  refine am_pv_cons (v_iload_n (q := 1) (by decide +kernel) rfl) rfl ?_
  refine am_pv_cons (v_virt (idx := 70) yv_Law_run rfl rfl (tb2 235 (by decide +kernel) rfl) (by decide +kernel)) rfl ?_
  refine am_pv_cons (v_istore_n (q := 3) (by decide +kernel) rfl) rfl ?_
  refine am_pv_cons (v_iconst (n := 0) (by decide +kernel) rfl) rfl ?_
  refine am_pv_cons (v_sipush (n := 9999) (by decide +kernel) (by decide +kernel)) rfl ?_
  refine am_pv_cons (v_iload_n (q := 3) (by decide +kernel) rfl) rfl ?_
  refine am_pv_cons (v_min (idx := 74) (tb3 21 (by decide +kernel) rfl) min_s math_i min_c (by decide +kernel)) rfl ?_
  refine am_pv_cons (v_max (idx := 80) (tb3 22 (by decide +kernel) rfl) max_s math_i max_c (by decide +kernel)) rfl ?_
  refine am_pv_cons (v_ireturn (by decide +kernel)) trivial ?_
  exact trivial
def P_Law_canBeWrong (E : am_E) (k : Nat) : am_P := [(0, aLa 0), (1, aGet 4 1), (4, aLa 0), (5, aGet 4 3), (8, aAa 3), (9, aSa 2), (10, aLa 0), (11, aLa 2), (12, aGet 5 0), (15, aLa 2), (16, aGet 5 2), (19, aLa 2), (20, aGet 5 1), (23, aLi 1), (24, aIv E k 4 4 Y_Law_run), (27, z_eq 34), (30, aI 1), (31, aGo 35), (34, aI 0), (35, aRi)]
set_option maxRecDepth 20000 in
theorem pv_Law_canBeWrong (E : am_E) (k : Nat) : am_pv E k Y_Law_canBeWrong.2.1 Y_Law_canBeWrong.2.2.1 Y_Law_canBeWrong.1.cls (P_Law_canBeWrong E k) := by
  refine am_pv_cons (v_aload_n (q := 0) (by decide +kernel) rfl) rfl ?_
  refine am_pv_cons (v_get fl_Law_11 (by decide +kernel)) rfl ?_
  refine am_pv_cons (v_aload_n (q := 0) (by decide +kernel) rfl) rfl ?_
  refine am_pv_cons (v_get fl_Law_61 (by decide +kernel)) rfl ?_
  refine am_pv_cons (v_aa (by decide) (by decide) (by decide +kernel)) rfl ?_
  refine am_pv_cons (v_astore_n (q := 2) (by decide +kernel) rfl) rfl ?_
  refine am_pv_cons (v_aload_n (q := 0) (by decide +kernel) rfl) rfl ?_
  refine am_pv_cons (v_aload_n (q := 2) (by decide +kernel) rfl) rfl ?_
  refine am_pv_cons (v_get fl_Law_64 (by decide +kernel)) rfl ?_
  refine am_pv_cons (v_aload_n (q := 2) (by decide +kernel) rfl) rfl ?_
  refine am_pv_cons (v_get fl_Law_67 (by decide +kernel)) rfl ?_
  refine am_pv_cons (v_aload_n (q := 2) (by decide +kernel) rfl) rfl ?_
  refine am_pv_cons (v_get fl_Law_83 (by decide +kernel)) rfl ?_
  refine am_pv_cons (v_iload_n (q := 1) (by decide +kernel) rfl) rfl ?_
  refine am_pv_cons (v_virt (idx := 70) yv_Law_run rfl rfl (tb2 235 (by decide +kernel) rfl) (by decide +kernel)) rfl ?_
  refine am_pv_cons (v_if_eq (off := 7) (by decide +kernel) rfl) rfl ?_
  refine am_pv_cons (v_iconst (n := 1) (by decide +kernel) rfl) rfl ?_
  refine am_pv_cons (v_goto (off := 4) (by decide +kernel) rfl) rfl ?_
  refine am_pv_cons (v_iconst (n := 0) (by decide +kernel) rfl) rfl ?_
  refine am_pv_cons (v_ireturn (by decide +kernel)) trivial ?_
  exact trivial
def P_Law_run (E : am_E) (k : Nat) : am_P := [(0, aLa 0), (1, aI 0), (2, aPut 4 7), (5, aLi 2), (6, aSi 5), (8, aLi 5), (10, aLi 3), (11, c_ge 30), (14, aLa 0), (15, aLa 1), (16, aLi 5), (18, aAld 0), (19, aLi 4), (21, aIv E k 4 2 Y_Law_runOne), (24, aInc 5 1), (27, aGo 8), (30, aLa 0), (31, aIv E k 4 0 Y_Law_pop), (34, aRi)]
set_option maxRecDepth 20000 in
theorem pv_Law_run (E : am_E) (k : Nat) : am_pv E k Y_Law_run.2.1 Y_Law_run.2.2.1 Y_Law_run.1.cls (P_Law_run E k) := by
  refine am_pv_cons (v_aload_n (q := 0) (by decide +kernel) rfl) rfl ?_
  refine am_pv_cons (v_iconst (n := 0) (by decide +kernel) rfl) rfl ?_
  refine am_pv_cons (v_put fw_Law_84 (by decide +kernel)) rfl ?_
  refine am_pv_cons (v_iload_n (q := 2) (by decide +kernel) rfl) rfl ?_
  refine am_pv_cons (v_istore (by decide +kernel)) rfl ?_
  refine am_pv_cons (v_iload (by decide +kernel)) rfl ?_
  refine am_pv_cons (v_iload_n (q := 3) (by decide +kernel) rfl) rfl ?_
  refine am_pv_cons (v_ic_ge (off := 19) (by decide +kernel) rfl) rfl ?_
  refine am_pv_cons (v_aload_n (q := 0) (by decide +kernel) rfl) rfl ?_
  refine am_pv_cons (v_aload_n (q := 1) (by decide +kernel) rfl) rfl ?_
  refine am_pv_cons (v_iload (by decide +kernel)) rfl ?_
  refine am_pv_cons (v_iald (by decide +kernel)) rfl ?_
  refine am_pv_cons (v_iload (by decide +kernel)) rfl ?_
  refine am_pv_cons (v_virt (idx := 87) yv_Law_runOne rfl rfl (tb2 239 (by decide +kernel) rfl) (by decide +kernel)) rfl ?_
  refine am_pv_cons (v_iinc (n := 1) (by decide +kernel) (by decide +kernel)) rfl ?_
  refine am_pv_cons (v_goto (off := -19) (by decide +kernel) rfl) rfl ?_
  refine am_pv_cons (v_aload_n (q := 0) (by decide +kernel) rfl) rfl ?_
  refine am_pv_cons (v_virt (idx := 91) yv_Law_pop rfl rfl (tb3 14 (by decide +kernel) rfl) (by decide +kernel)) rfl ?_
  refine am_pv_cons (v_ireturn (by decide +kernel)) trivial ?_
  exact trivial
def P_Law_runOne (E : am_E) (k : Nat) : am_P := [(0, aLi 1), (1, z_lt 12), (4, aLa 0), (5, aLi 1), (6, aIv E k 4 1 Y_Law_push), (9, aGo 93), (12, aLi 1), (13, aIs E k 1 Y_Text_isName), (16, z_eq 32), (19, aLa 0), (20, aLa 0), (21, aLi 1), (22, aLi 2), (23, aIv E k 4 2 Y_Law_named), (26, aIv E k 4 1 Y_Law_push), (29, aGo 93), (32, aLi 1), (33, aI (-8)), (35, c_ne 50), (38, aLa 0), (39, aLa 0), (40, aIv E k 4 0 Y_Law_pop), (43, a_ineg), (44, aIv E k 4 1 Y_Law_push), (47, aGo 93), (50, aLi 1), (51, aI (-7)), (53, c_ne 75), (56, aLa 0), (57, aLa 0), (58, aIv E k 4 0 Y_Law_pop), (61, z_ne 68), (64, aI 1), (65, aGo 69), (68, aI 0), (69, aIv E k 4 1 Y_Law_push), (72, aGo 93), (75, aLa 0), (76, aIv E k 4 0 Y_Law_pop), (79, aSi 3), (80, aLa 0), (81, aLi 1), (82, aLa 0), (83, aIv E k 4 0 Y_Law_pop), (86, aLi 3), (87, aIs E k 3 Y_Law_joined), (90, aIv E k 4 1 Y_Law_push), (93, aRv)]
set_option maxRecDepth 20000 in
theorem pv_Law_runOne (E : am_E) (k : Nat) : am_pv E k Y_Law_runOne.2.1 Y_Law_runOne.2.2.1 Y_Law_runOne.1.cls (P_Law_runOne E k) := by
  refine am_pv_cons (v_iload_n (q := 1) (by decide +kernel) rfl) rfl ?_
  refine am_pv_cons (v_if_lt (off := 11) (by decide +kernel) rfl) rfl ?_
  refine am_pv_cons (v_aload_n (q := 0) (by decide +kernel) rfl) rfl ?_
  refine am_pv_cons (v_iload_n (q := 1) (by decide +kernel) rfl) rfl ?_
  refine am_pv_cons (v_virt (idx := 95) yv_Law_push rfl rfl (tb3 3 (by decide +kernel) rfl) (by decide +kernel)) rfl ?_
  refine am_pv_cons (v_goto (off := 84) (by decide +kernel) rfl) rfl ?_
  refine am_pv_cons (v_iload_n (q := 1) (by decide +kernel) rfl) rfl ?_
  refine am_pv_cons (v_stat (idx := 98) ys_Text_isName (tb3 7 (by decide +kernel) rfl) (by decide +kernel)) rfl ?_
  refine am_pv_cons (v_if_eq (off := 16) (by decide +kernel) rfl) rfl ?_
  refine am_pv_cons (v_aload_n (q := 0) (by decide +kernel) rfl) rfl ?_
  refine am_pv_cons (v_aload_n (q := 0) (by decide +kernel) rfl) rfl ?_
  refine am_pv_cons (v_iload_n (q := 1) (by decide +kernel) rfl) rfl ?_
  refine am_pv_cons (v_iload_n (q := 2) (by decide +kernel) rfl) rfl ?_
  refine am_pv_cons (v_virt (idx := 101) yv_Law_named rfl rfl (tb3 10 (by decide +kernel) rfl) (by decide +kernel)) rfl ?_
  refine am_pv_cons (v_virt (idx := 95) yv_Law_push rfl rfl (tb3 3 (by decide +kernel) rfl) (by decide +kernel)) rfl ?_
  refine am_pv_cons (v_goto (off := 64) (by decide +kernel) rfl) rfl ?_
  refine am_pv_cons (v_iload_n (q := 1) (by decide +kernel) rfl) rfl ?_
  refine am_pv_cons (v_bipush (n := -8) (by decide +kernel) (by decide +kernel)) rfl ?_
  refine am_pv_cons (v_ic_ne (off := 15) (by decide +kernel) rfl) rfl ?_
  refine am_pv_cons (v_aload_n (q := 0) (by decide +kernel) rfl) rfl ?_
  refine am_pv_cons (v_aload_n (q := 0) (by decide +kernel) rfl) rfl ?_
  refine am_pv_cons (v_virt (idx := 91) yv_Law_pop rfl rfl (tb3 14 (by decide +kernel) rfl) (by decide +kernel)) rfl ?_
  refine am_pv_cons (v_ineg (by decide +kernel)) rfl ?_
  refine am_pv_cons (v_virt (idx := 95) yv_Law_push rfl rfl (tb3 3 (by decide +kernel) rfl) (by decide +kernel)) rfl ?_
  refine am_pv_cons (v_goto (off := 46) (by decide +kernel) rfl) rfl ?_
  refine am_pv_cons (v_iload_n (q := 1) (by decide +kernel) rfl) rfl ?_
  refine am_pv_cons (v_bipush (n := -7) (by decide +kernel) (by decide +kernel)) rfl ?_
  refine am_pv_cons (v_ic_ne (off := 22) (by decide +kernel) rfl) rfl ?_
  refine am_pv_cons (v_aload_n (q := 0) (by decide +kernel) rfl) rfl ?_
  refine am_pv_cons (v_aload_n (q := 0) (by decide +kernel) rfl) rfl ?_
  refine am_pv_cons (v_virt (idx := 91) yv_Law_pop rfl rfl (tb3 14 (by decide +kernel) rfl) (by decide +kernel)) rfl ?_
  refine am_pv_cons (v_if_ne (off := 7) (by decide +kernel) rfl) rfl ?_
  refine am_pv_cons (v_iconst (n := 1) (by decide +kernel) rfl) rfl ?_
  refine am_pv_cons (v_goto (off := 4) (by decide +kernel) rfl) rfl ?_
  refine am_pv_cons (v_iconst (n := 0) (by decide +kernel) rfl) rfl ?_
  refine am_pv_cons (v_virt (idx := 95) yv_Law_push rfl rfl (tb3 3 (by decide +kernel) rfl) (by decide +kernel)) rfl ?_
  refine am_pv_cons (v_goto (off := 21) (by decide +kernel) rfl) rfl ?_
  refine am_pv_cons (v_aload_n (q := 0) (by decide +kernel) rfl) rfl ?_
  refine am_pv_cons (v_virt (idx := 91) yv_Law_pop rfl rfl (tb3 14 (by decide +kernel) rfl) (by decide +kernel)) rfl ?_
  refine am_pv_cons (v_istore_n (q := 3) (by decide +kernel) rfl) rfl ?_
  refine am_pv_cons (v_aload_n (q := 0) (by decide +kernel) rfl) rfl ?_
  refine am_pv_cons (v_iload_n (q := 1) (by decide +kernel) rfl) rfl ?_
  refine am_pv_cons (v_aload_n (q := 0) (by decide +kernel) rfl) rfl ?_
  refine am_pv_cons (v_virt (idx := 91) yv_Law_pop rfl rfl (tb3 14 (by decide +kernel) rfl) (by decide +kernel)) rfl ?_
  refine am_pv_cons (v_iload_n (q := 3) (by decide +kernel) rfl) rfl ?_
  refine am_pv_cons (v_stat (idx := 104) ys_Law_joined (tb3 18 (by decide +kernel) rfl) (by decide +kernel)) rfl ?_
  refine am_pv_cons (v_virt (idx := 95) yv_Law_push rfl rfl (tb3 3 (by decide +kernel) rfl) (by decide +kernel)) rfl ?_
  refine am_pv_cons (v_return_ (by decide +kernel)) trivial ?_
  exact trivial
def P_Law_named (E : am_E) (k : Nat) : am_P := [(0, aLi 1), (1, aSw [((-13), 88), ((-12), 76), ((-11), 64), ((-10), 46), ((-9), 36)] 98), (36, aLa 0), (37, aGet 4 0), (40, aGet 2 4), (43, aLi 2), (44, aAld 0), (45, aRi), (46, aLa 0), (47, aGet 4 0), (50, aGet 2 3), (53, aLi 2), (54, aAld 0), (55, z_ge 62), (58, aI 1), (59, aGo 63), (62, aI 0), (63, aRi), (64, aLa 0), (65, aGet 4 0), (68, aGet 2 5), (71, aLi 2), (72, aAld 0), (73, aI 1), (74, a_ishr), (75, aRi), (76, aLa 0), (77, aGet 4 0), (80, aGet 2 5), (83, aLi 2), (84, aAld 0), (85, aI 1), (86, a_iand), (87, aRi), (88, aLa 0), (89, aGet 4 0), (92, aGet 2 1), (95, aLi 2), (96, aAld 0), (97, aRi), (98, aLa 0), (99, aGet 4 0), (102, aGet 2 2), (105, aLi 2), (106, aAld 0), (107, aRi)]
set_option maxRecDepth 20000 in
theorem pv_Law_named (E : am_E) (k : Nat) : am_pv E k Y_Law_named.2.1 Y_Law_named.2.2.1 Y_Law_named.1.cls (P_Law_named E k) := by
  refine am_pv_cons (v_iload_n (q := 1) (by decide +kernel) rfl) rfl ?_
  refine am_pv_cons (v_tsw (dflt := 97) (lo := -13) (hi := -9) (offs := #[87, 75, 63, 45, 35]) (len := 35) (by decide +kernel) rfl (by decide) (by decide +kernel)) rfl ?_
  refine am_pv_cons (v_aload_n (q := 0) (by decide +kernel) rfl) rfl ?_
  refine am_pv_cons (v_get fl_Law_32 (by decide +kernel)) rfl ?_
  refine am_pv_cons (v_get fl_Law_108 (by decide +kernel)) rfl ?_
  refine am_pv_cons (v_iload_n (q := 2) (by decide +kernel) rfl) rfl ?_
  refine am_pv_cons (v_iald (by decide +kernel)) rfl ?_
  refine am_pv_cons (v_ireturn (by decide +kernel)) rfl ?_
  refine am_pv_cons (v_aload_n (q := 0) (by decide +kernel) rfl) rfl ?_
  refine am_pv_cons (v_get fl_Law_32 (by decide +kernel)) rfl ?_
  refine am_pv_cons (v_get fl_Law_111 (by decide +kernel)) rfl ?_
  refine am_pv_cons (v_iload_n (q := 2) (by decide +kernel) rfl) rfl ?_
  refine am_pv_cons (v_iald (by decide +kernel)) rfl ?_
  refine am_pv_cons (v_if_ge (off := 7) (by decide +kernel) rfl) rfl ?_
  refine am_pv_cons (v_iconst (n := 1) (by decide +kernel) rfl) rfl ?_
  refine am_pv_cons (v_goto (off := 4) (by decide +kernel) rfl) rfl ?_
  refine am_pv_cons (v_iconst (n := 0) (by decide +kernel) rfl) rfl ?_
  refine am_pv_cons (v_ireturn (by decide +kernel)) rfl ?_
  refine am_pv_cons (v_aload_n (q := 0) (by decide +kernel) rfl) rfl ?_
  refine am_pv_cons (v_get fl_Law_32 (by decide +kernel)) rfl ?_
  refine am_pv_cons (v_get fl_Law_114 (by decide +kernel)) rfl ?_
  refine am_pv_cons (v_iload_n (q := 2) (by decide +kernel) rfl) rfl ?_
  refine am_pv_cons (v_iald (by decide +kernel)) rfl ?_
  refine am_pv_cons (v_iconst (n := 1) (by decide +kernel) rfl) rfl ?_
  refine am_pv_cons (v_ishr (by decide +kernel)) rfl ?_
  refine am_pv_cons (v_ireturn (by decide +kernel)) rfl ?_
  refine am_pv_cons (v_aload_n (q := 0) (by decide +kernel) rfl) rfl ?_
  refine am_pv_cons (v_get fl_Law_32 (by decide +kernel)) rfl ?_
  refine am_pv_cons (v_get fl_Law_114 (by decide +kernel)) rfl ?_
  refine am_pv_cons (v_iload_n (q := 2) (by decide +kernel) rfl) rfl ?_
  refine am_pv_cons (v_iald (by decide +kernel)) rfl ?_
  refine am_pv_cons (v_iconst (n := 1) (by decide +kernel) rfl) rfl ?_
  refine am_pv_cons (v_iand (by decide +kernel)) rfl ?_
  refine am_pv_cons (v_ireturn (by decide +kernel)) rfl ?_
  refine am_pv_cons (v_aload_n (q := 0) (by decide +kernel) rfl) rfl ?_
  refine am_pv_cons (v_get fl_Law_32 (by decide +kernel)) rfl ?_
  refine am_pv_cons (v_get fl_Law_117 (by decide +kernel)) rfl ?_
  refine am_pv_cons (v_iload_n (q := 2) (by decide +kernel) rfl) rfl ?_
  refine am_pv_cons (v_iald (by decide +kernel)) rfl ?_
  refine am_pv_cons (v_ireturn (by decide +kernel)) rfl ?_
  refine am_pv_cons (v_aload_n (q := 0) (by decide +kernel) rfl) rfl ?_
  refine am_pv_cons (v_get fl_Law_32 (by decide +kernel)) rfl ?_
  refine am_pv_cons (v_get fl_Law_120 (by decide +kernel)) rfl ?_
  refine am_pv_cons (v_iload_n (q := 2) (by decide +kernel) rfl) rfl ?_
  refine am_pv_cons (v_iald (by decide +kernel)) rfl ?_
  refine am_pv_cons (v_ireturn (by decide +kernel)) trivial ?_
  exact trivial
def P_Law_joined (E : am_E) (k : Nat) : am_P := [(0, aLi 0), (1, aSw [((-61), 83), ((-60), 72), ((-45), 68), ((-43), 64), ((-42), 60), ((-6), 94)] 108), (60, aLi 1), (61, aLi 2), (62, a_imul), (63, aRi), (64, aLi 1), (65, aLi 2), (66, a_iadd), (67, aRi), (68, aLi 1), (69, aLi 2), (70, a_isub), (71, aRi), (72, aLi 1), (73, aLi 2), (74, c_ge 81), (77, aI 1), (78, aGo 82), (81, aI 0), (82, aRi), (83, aLi 1), (84, aLi 2), (85, c_ne 92), (88, aI 1), (89, aGo 93), (92, aI 0), (93, aRi), (94, aLi 1), (95, z_eq 106), (98, aLi 2), (99, z_eq 106), (102, aI 1), (103, aGo 107), (106, aI 0), (107, aRi), (108, aLi 1), (109, z_ne 116), (112, aLi 2), (113, z_eq 120), (116, aI 1), (117, aGo 121), (120, aI 0), (121, aRi)]
set_option maxRecDepth 20000 in
theorem pv_Law_joined (E : am_E) (k : Nat) : am_pv E k Y_Law_joined.2.1 Y_Law_joined.2.2.1 Y_Law_joined.1.cls (P_Law_joined E k) := by
  refine am_pv_cons (v_iload_n (q := 0) (by decide +kernel) rfl) rfl ?_
  refine am_pv_cons (v_lsw (dflt := 107) (ps := #[((-61), 82), ((-60), 71), ((-45), 67), ((-43), 63), ((-42), 59), ((-6), 93)]) (len := 59) (by decide +kernel) (by decide +kernel) rfl (by decide +kernel)) rfl ?_
  refine am_pv_cons (v_iload_n (q := 1) (by decide +kernel) rfl) rfl ?_
  refine am_pv_cons (v_iload_n (q := 2) (by decide +kernel) rfl) rfl ?_
  refine am_pv_cons (v_imul (by decide +kernel)) rfl ?_
  refine am_pv_cons (v_ireturn (by decide +kernel)) rfl ?_
  refine am_pv_cons (v_iload_n (q := 1) (by decide +kernel) rfl) rfl ?_
  refine am_pv_cons (v_iload_n (q := 2) (by decide +kernel) rfl) rfl ?_
  refine am_pv_cons (v_iadd (by decide +kernel)) rfl ?_
  refine am_pv_cons (v_ireturn (by decide +kernel)) rfl ?_
  refine am_pv_cons (v_iload_n (q := 1) (by decide +kernel) rfl) rfl ?_
  refine am_pv_cons (v_iload_n (q := 2) (by decide +kernel) rfl) rfl ?_
  refine am_pv_cons (v_isub (by decide +kernel)) rfl ?_
  refine am_pv_cons (v_ireturn (by decide +kernel)) rfl ?_
  refine am_pv_cons (v_iload_n (q := 1) (by decide +kernel) rfl) rfl ?_
  refine am_pv_cons (v_iload_n (q := 2) (by decide +kernel) rfl) rfl ?_
  refine am_pv_cons (v_ic_ge (off := 7) (by decide +kernel) rfl) rfl ?_
  refine am_pv_cons (v_iconst (n := 1) (by decide +kernel) rfl) rfl ?_
  refine am_pv_cons (v_goto (off := 4) (by decide +kernel) rfl) rfl ?_
  refine am_pv_cons (v_iconst (n := 0) (by decide +kernel) rfl) rfl ?_
  refine am_pv_cons (v_ireturn (by decide +kernel)) rfl ?_
  refine am_pv_cons (v_iload_n (q := 1) (by decide +kernel) rfl) rfl ?_
  refine am_pv_cons (v_iload_n (q := 2) (by decide +kernel) rfl) rfl ?_
  refine am_pv_cons (v_ic_ne (off := 7) (by decide +kernel) rfl) rfl ?_
  refine am_pv_cons (v_iconst (n := 1) (by decide +kernel) rfl) rfl ?_
  refine am_pv_cons (v_goto (off := 4) (by decide +kernel) rfl) rfl ?_
  refine am_pv_cons (v_iconst (n := 0) (by decide +kernel) rfl) rfl ?_
  refine am_pv_cons (v_ireturn (by decide +kernel)) rfl ?_
  refine am_pv_cons (v_iload_n (q := 1) (by decide +kernel) rfl) rfl ?_
  refine am_pv_cons (v_if_eq (off := 11) (by decide +kernel) rfl) rfl ?_
  refine am_pv_cons (v_iload_n (q := 2) (by decide +kernel) rfl) rfl ?_
  refine am_pv_cons (v_if_eq (off := 7) (by decide +kernel) rfl) rfl ?_
  refine am_pv_cons (v_iconst (n := 1) (by decide +kernel) rfl) rfl ?_
  refine am_pv_cons (v_goto (off := 4) (by decide +kernel) rfl) rfl ?_
  refine am_pv_cons (v_iconst (n := 0) (by decide +kernel) rfl) rfl ?_
  refine am_pv_cons (v_ireturn (by decide +kernel)) rfl ?_
  refine am_pv_cons (v_iload_n (q := 1) (by decide +kernel) rfl) rfl ?_
  refine am_pv_cons (v_if_ne (off := 7) (by decide +kernel) rfl) rfl ?_
  refine am_pv_cons (v_iload_n (q := 2) (by decide +kernel) rfl) rfl ?_
  refine am_pv_cons (v_if_eq (off := 7) (by decide +kernel) rfl) rfl ?_
  refine am_pv_cons (v_iconst (n := 1) (by decide +kernel) rfl) rfl ?_
  refine am_pv_cons (v_goto (off := 4) (by decide +kernel) rfl) rfl ?_
  refine am_pv_cons (v_iconst (n := 0) (by decide +kernel) rfl) rfl ?_
  refine am_pv_cons (v_ireturn (by decide +kernel)) trivial ?_
  exact trivial
def P_Law_push (E : am_E) (k : Nat) : am_P := [(0, aLa 0), (1, aGet 4 7), (4, aI 160), (7, c_ge 30), (10, aLa 0), (11, aGet 4 6), (14, aLa 0), (15, aGet 4 7), (18, aLi 1), (19, aAst), (20, aLa 0), (21, aDup), (22, aGet 4 7), (25, aI 1), (26, a_iadd), (27, aPut 4 7), (30, aRv)]
set_option maxRecDepth 20000 in
theorem pv_Law_push (E : am_E) (k : Nat) : am_pv E k Y_Law_push.2.1 Y_Law_push.2.2.1 Y_Law_push.1.cls (P_Law_push E k) := by
  refine am_pv_cons (v_aload_n (q := 0) (by decide +kernel) rfl) rfl ?_
  refine am_pv_cons (v_get fl_Law_84 (by decide +kernel)) rfl ?_
  refine am_pv_cons (v_sipush (n := 160) (by decide +kernel) (by decide +kernel)) rfl ?_
  refine am_pv_cons (v_ic_ge (off := 23) (by decide +kernel) rfl) rfl ?_
  refine am_pv_cons (v_aload_n (q := 0) (by decide +kernel) rfl) rfl ?_
  refine am_pv_cons (v_get fl_Law_29 (by decide +kernel)) rfl ?_
  refine am_pv_cons (v_aload_n (q := 0) (by decide +kernel) rfl) rfl ?_
  refine am_pv_cons (v_get fl_Law_84 (by decide +kernel)) rfl ?_
  refine am_pv_cons (v_iload_n (q := 1) (by decide +kernel) rfl) rfl ?_
  refine am_pv_cons (v_iast (by decide +kernel)) rfl ?_
  refine am_pv_cons (v_aload_n (q := 0) (by decide +kernel) rfl) rfl ?_
  refine am_pv_cons (v_dup (by decide +kernel)) rfl ?_
  refine am_pv_cons (v_get fl_Law_84 (by decide +kernel)) rfl ?_
  refine am_pv_cons (v_iconst (n := 1) (by decide +kernel) rfl) rfl ?_
  refine am_pv_cons (v_iadd (by decide +kernel)) rfl ?_
  refine am_pv_cons (v_put fw_Law_84 (by decide +kernel)) rfl ?_
  refine am_pv_cons (v_return_ (by decide +kernel)) trivial ?_
  exact trivial
def P_Law_pop (E : am_E) (k : Nat) : am_P := [(0, aLa 0), (1, aGet 4 7), (4, z_gt 9), (7, aI 0), (8, aRi), (9, aLa 0), (10, aDup), (11, aGet 4 7), (14, aI 1), (15, a_isub), (16, aPut 4 7), (19, aLa 0), (20, aGet 4 6), (23, aLa 0), (24, aGet 4 7), (27, aAld 0), (28, aRi)]
set_option maxRecDepth 20000 in
theorem pv_Law_pop (E : am_E) (k : Nat) : am_pv E k Y_Law_pop.2.1 Y_Law_pop.2.2.1 Y_Law_pop.1.cls (P_Law_pop E k) := by
  refine am_pv_cons (v_aload_n (q := 0) (by decide +kernel) rfl) rfl ?_
  refine am_pv_cons (v_get fl_Law_84 (by decide +kernel)) rfl ?_
  refine am_pv_cons (v_if_gt (off := 5) (by decide +kernel) rfl) rfl ?_
  refine am_pv_cons (v_iconst (n := 0) (by decide +kernel) rfl) rfl ?_
  refine am_pv_cons (v_ireturn (by decide +kernel)) rfl ?_
  refine am_pv_cons (v_aload_n (q := 0) (by decide +kernel) rfl) rfl ?_
  refine am_pv_cons (v_dup (by decide +kernel)) rfl ?_
  refine am_pv_cons (v_get fl_Law_84 (by decide +kernel)) rfl ?_
  refine am_pv_cons (v_iconst (n := 1) (by decide +kernel) rfl) rfl ?_
  refine am_pv_cons (v_isub (by decide +kernel)) rfl ?_
  refine am_pv_cons (v_put fw_Law_84 (by decide +kernel)) rfl ?_
  refine am_pv_cons (v_aload_n (q := 0) (by decide +kernel) rfl) rfl ?_
  refine am_pv_cons (v_get fl_Law_29 (by decide +kernel)) rfl ?_
  refine am_pv_cons (v_aload_n (q := 0) (by decide +kernel) rfl) rfl ?_
  refine am_pv_cons (v_get fl_Law_84 (by decide +kernel)) rfl ?_
  refine am_pv_cons (v_iald (by decide +kernel)) rfl ?_
  refine am_pv_cons (v_ireturn (by decide +kernel)) trivial ?_
  exact trivial
def P_Text_clear (E : am_E) (k : Nat) : am_P := [(0, aLa 0), (1, aI 0), (2, aPut 5 1), (5, aLa 0), (6, aI 0), (7, aPut 5 2), (10, aRv)]
set_option maxRecDepth 20000 in
theorem pv_Text_clear (E : am_E) (k : Nat) : am_pv E k Y_Text_clear.2.1 Y_Text_clear.2.2.1 Y_Text_clear.1.cls (P_Text_clear E k) := by
  refine am_pv_cons (v_aload_n (q := 0) (by decide +kernel) rfl) rfl ?_
  refine am_pv_cons (v_iconst (n := 0) (by decide +kernel) rfl) rfl ?_
  refine am_pv_cons (v_put fw_Text_15 (by decide +kernel)) rfl ?_
  refine am_pv_cons (v_aload_n (q := 0) (by decide +kernel) rfl) rfl ?_
  refine am_pv_cons (v_iconst (n := 0) (by decide +kernel) rfl) rfl ?_
  refine am_pv_cons (v_put fw_Text_19 (by decide +kernel)) rfl ?_
  refine am_pv_cons (v_return_ (by decide +kernel)) trivial ?_
  exact trivial
def P_Text_become (E : am_E) (k : Nat) : am_P := [(0, aLa 0), (1, aLa 1), (2, aGet 5 1), (5, aPut 5 1), (8, aLa 0), (9, aLa 1), (10, aGet 5 2), (13, aPut 5 2), (16, aLa 1), (17, aGet 5 0), (20, aI 0), (21, aLa 0), (22, aGet 5 0), (25, aI 0), (26, aLa 0), (27, aGet 5 1), (30, aCpy k), (33, aRv)]
set_option maxRecDepth 20000 in
theorem pv_Text_become (E : am_E) (k : Nat) : am_pv E k Y_Text_become.2.1 Y_Text_become.2.2.1 Y_Text_become.1.cls (P_Text_become E k) := by
  refine am_pv_cons (v_aload_n (q := 0) (by decide +kernel) rfl) rfl ?_
  refine am_pv_cons (v_aload_n (q := 1) (by decide +kernel) rfl) rfl ?_
  refine am_pv_cons (v_get fl_Text_15 (by decide +kernel)) rfl ?_
  refine am_pv_cons (v_put fw_Text_15 (by decide +kernel)) rfl ?_
  refine am_pv_cons (v_aload_n (q := 0) (by decide +kernel) rfl) rfl ?_
  refine am_pv_cons (v_aload_n (q := 1) (by decide +kernel) rfl) rfl ?_
  refine am_pv_cons (v_get fl_Text_19 (by decide +kernel)) rfl ?_
  refine am_pv_cons (v_put fw_Text_19 (by decide +kernel)) rfl ?_
  refine am_pv_cons (v_aload_n (q := 1) (by decide +kernel) rfl) rfl ?_
  refine am_pv_cons (v_get fl_Text_9 (by decide +kernel)) rfl ?_
  refine am_pv_cons (v_iconst (n := 0) (by decide +kernel) rfl) rfl ?_
  refine am_pv_cons (v_aload_n (q := 0) (by decide +kernel) rfl) rfl ?_
  refine am_pv_cons (v_get fl_Text_9 (by decide +kernel)) rfl ?_
  refine am_pv_cons (v_iconst (n := 0) (by decide +kernel) rfl) rfl ?_
  refine am_pv_cons (v_aload_n (q := 0) (by decide +kernel) rfl) rfl ?_
  refine am_pv_cons (v_get fl_Text_15 (by decide +kernel)) rfl ?_
  refine am_pv_cons (v_cpy (idx := 22) (tb4 3 (by decide +kernel) rfl) cp_n cp_s cp_i (by decide +kernel)) rfl ?_
  refine am_pv_cons (v_return_ (by decide +kernel)) trivial ?_
  exact trivial
def P_Text_add (E : am_E) (k : Nat) : am_P := [(0, aLa 0), (1, aGet 5 1), (4, aI 160), (7, c_ge 30), (10, aLa 0), (11, aGet 5 0), (14, aLa 0), (15, aGet 5 1), (18, aLi 1), (19, aAst), (20, aLa 0), (21, aDup), (22, aGet 5 1), (25, aI 1), (26, a_iadd), (27, aPut 5 1), (30, aRv)]
set_option maxRecDepth 20000 in
theorem pv_Text_add (E : am_E) (k : Nat) : am_pv E k Y_Text_add.2.1 Y_Text_add.2.2.1 Y_Text_add.1.cls (P_Text_add E k) := by
  refine am_pv_cons (v_aload_n (q := 0) (by decide +kernel) rfl) rfl ?_
  refine am_pv_cons (v_get fl_Text_15 (by decide +kernel)) rfl ?_
  refine am_pv_cons (v_sipush (n := 160) (by decide +kernel) (by decide +kernel)) rfl ?_
  refine am_pv_cons (v_ic_ge (off := 23) (by decide +kernel) rfl) rfl ?_
  refine am_pv_cons (v_aload_n (q := 0) (by decide +kernel) rfl) rfl ?_
  refine am_pv_cons (v_get fl_Text_9 (by decide +kernel)) rfl ?_
  refine am_pv_cons (v_aload_n (q := 0) (by decide +kernel) rfl) rfl ?_
  refine am_pv_cons (v_get fl_Text_15 (by decide +kernel)) rfl ?_
  refine am_pv_cons (v_iload_n (q := 1) (by decide +kernel) rfl) rfl ?_
  refine am_pv_cons (v_iast (by decide +kernel)) rfl ?_
  refine am_pv_cons (v_aload_n (q := 0) (by decide +kernel) rfl) rfl ?_
  refine am_pv_cons (v_dup (by decide +kernel)) rfl ?_
  refine am_pv_cons (v_get fl_Text_15 (by decide +kernel)) rfl ?_
  refine am_pv_cons (v_iconst (n := 1) (by decide +kernel) rfl) rfl ?_
  refine am_pv_cons (v_iadd (by decide +kernel)) rfl ?_
  refine am_pv_cons (v_put fw_Text_15 (by decide +kernel)) rfl ?_
  refine am_pv_cons (v_return_ (by decide +kernel)) trivial ?_
  exact trivial
def P_Text_endCost (E : am_E) (k : Nat) : am_P := [(0, aLa 0), (1, aLa 0), (2, aGet 5 1), (5, aPut 5 2), (8, aRv)]
set_option maxRecDepth 20000 in
theorem pv_Text_endCost (E : am_E) (k : Nat) : am_pv E k Y_Text_endCost.2.1 Y_Text_endCost.2.2.1 Y_Text_endCost.1.cls (P_Text_endCost E k) := by
  refine am_pv_cons (v_aload_n (q := 0) (by decide +kernel) rfl) rfl ?_
  refine am_pv_cons (v_aload_n (q := 0) (by decide +kernel) rfl) rfl ?_
  refine am_pv_cons (v_get fl_Text_15 (by decide +kernel)) rfl ?_
  refine am_pv_cons (v_put fw_Text_19 (by decide +kernel)) rfl ?_
  refine am_pv_cons (v_return_ (by decide +kernel)) trivial ?_
  exact trivial
def P_Text_isName (E : am_E) (k : Nat) : am_P := [(0, aLi 0), (1, aI (-9)), (3, c_gt 16), (6, aLi 0), (7, aI (-14)), (9, c_lt 16), (12, aI 1), (13, aGo 17), (16, aI 0), (17, aRi)]
set_option maxRecDepth 20000 in
theorem pv_Text_isName (E : am_E) (k : Nat) : am_pv E k Y_Text_isName.2.1 Y_Text_isName.2.2.1 Y_Text_isName.1.cls (P_Text_isName E k) := by
  refine am_pv_cons (v_iload_n (q := 0) (by decide +kernel) rfl) rfl ?_
  refine am_pv_cons (v_bipush (n := -9) (by decide +kernel) (by decide +kernel)) rfl ?_
  refine am_pv_cons (v_ic_gt (off := 13) (by decide +kernel) rfl) rfl ?_
  refine am_pv_cons (v_iload_n (q := 0) (by decide +kernel) rfl) rfl ?_
  refine am_pv_cons (v_bipush (n := -14) (by decide +kernel) (by decide +kernel)) rfl ?_
  refine am_pv_cons (v_ic_lt (off := 7) (by decide +kernel) rfl) rfl ?_
  refine am_pv_cons (v_iconst (n := 1) (by decide +kernel) rfl) rfl ?_
  refine am_pv_cons (v_goto (off := 4) (by decide +kernel) rfl) rfl ?_
  refine am_pv_cons (v_iconst (n := 0) (by decide +kernel) rfl) rfl ?_
  refine am_pv_cons (v_ireturn (by decide +kernel)) trivial ?_
  exact trivial
def P_StreetReader_isStreet (E : am_E) (k : Nat) : am_P := [(0, aLa 0), (1, aI 0), (2, aPut 7 3), (5, aI 0), (6, aSi 1), (7, aLi 1), (8, aI 160), (11, c_ge 45), (14, aLa 0), (15, aIv E k 7 0 Y_StreetReader_readLine), (18, z_ne 23), (21, aI 0), (22, aRi), (23, aLa 0), (24, aGet 7 3), (27, aLa 0), (28, aGet 7 0), (31, aGet 3 0), (34, c_ne 39), (37, aI 1), (38, aRi), (39, aInc 1 1), (42, aGo 7), (45, aI 0), (46, aRi)]
set_option maxRecDepth 20000 in
theorem pv_StreetReader_isStreet (E : am_E) (k : Nat) : am_pv E k Y_StreetReader_isStreet.2.1 Y_StreetReader_isStreet.2.2.1 Y_StreetReader_isStreet.1.cls (P_StreetReader_isStreet E k) := by
  refine am_pv_cons (v_aload_n (q := 0) (by decide +kernel) rfl) rfl ?_
  refine am_pv_cons (v_iconst (n := 0) (by decide +kernel) rfl) rfl ?_
  refine am_pv_cons (v_put fw_StreetReader_23 (by decide +kernel)) rfl ?_
  refine am_pv_cons (v_iconst (n := 0) (by decide +kernel) rfl) rfl ?_
  refine am_pv_cons (v_istore_n (q := 1) (by decide +kernel) rfl) rfl ?_
  refine am_pv_cons (v_iload_n (q := 1) (by decide +kernel) rfl) rfl ?_
  refine am_pv_cons (v_sipush (n := 160) (by decide +kernel) (by decide +kernel)) rfl ?_
  refine am_pv_cons (v_ic_ge (off := 34) (by decide +kernel) rfl) rfl ?_
  refine am_pv_cons (v_aload_n (q := 0) (by decide +kernel) rfl) rfl ?_
  refine am_pv_cons (v_virt (idx := 27) yv_StreetReader_readLine rfl rfl (tb3 52 (by decide +kernel) rfl) (by decide +kernel)) rfl ?_
  refine am_pv_cons (v_if_ne (off := 5) (by decide +kernel) rfl) rfl ?_
  refine am_pv_cons (v_iconst (n := 0) (by decide +kernel) rfl) rfl ?_
  refine am_pv_cons (v_ireturn (by decide +kernel)) rfl ?_
  refine am_pv_cons (v_aload_n (q := 0) (by decide +kernel) rfl) rfl ?_
  refine am_pv_cons (v_get fl_StreetReader_23 (by decide +kernel)) rfl ?_
  refine am_pv_cons (v_aload_n (q := 0) (by decide +kernel) rfl) rfl ?_
  refine am_pv_cons (v_get fl_StreetReader_9 (by decide +kernel)) rfl ?_
  refine am_pv_cons (v_get fl_StreetReader_31 (by decide +kernel)) rfl ?_
  refine am_pv_cons (v_ic_ne (off := 5) (by decide +kernel) rfl) rfl ?_
  refine am_pv_cons (v_iconst (n := 1) (by decide +kernel) rfl) rfl ?_
  refine am_pv_cons (v_ireturn (by decide +kernel)) rfl ?_
  refine am_pv_cons (v_iinc (n := 1) (by decide +kernel) (by decide +kernel)) rfl ?_
  refine am_pv_cons (v_goto (off := -35) (by decide +kernel) rfl) rfl ?_
  refine am_pv_cons (v_iconst (n := 0) (by decide +kernel) rfl) rfl ?_
  refine am_pv_cons (v_ireturn (by decide +kernel)) trivial ?_
  exact trivial
def P_StreetReader_tellAll (E : am_E) (k : Nat) : am_P := [(0, aLa 0), (1, aI 0), (2, aPut 7 3), (5, aI 0), (6, aSi 1), (7, aLi 1), (8, aI 160), (11, c_ge 69), (14, aLa 0), (15, aGet 7 3), (18, aLa 0), (19, aGet 7 0), (22, aGet 3 0), (25, c_ge 69), (28, aLa 0), (29, aIv E k 7 0 Y_StreetReader_readLine), (32, z_eq 63), (35, aLa 0), (36, aGet 7 2), (39, aLa 0), (40, aGet 7 4), (43, aLa 0), (44, aGet 7 5), (47, aLa 0), (48, aGet 7 6), (51, aLa 0), (52, aGet 7 7), (55, aLa 0), (56, aGet 7 8), (59, aIv E k 2 5 Y_Feelings_tell), (62, aPop), (63, aInc 1 1), (66, aGo 7), (69, aLi 1), (70, aRi)]
set_option maxRecDepth 20000 in
theorem pv_StreetReader_tellAll (E : am_E) (k : Nat) : am_pv E k Y_StreetReader_tellAll.2.1 Y_StreetReader_tellAll.2.2.1 Y_StreetReader_tellAll.1.cls (P_StreetReader_tellAll E k) := by
  refine am_pv_cons (v_aload_n (q := 0) (by decide +kernel) rfl) rfl ?_
  refine am_pv_cons (v_iconst (n := 0) (by decide +kernel) rfl) rfl ?_
  refine am_pv_cons (v_put fw_StreetReader_23 (by decide +kernel)) rfl ?_
  refine am_pv_cons (v_iconst (n := 0) (by decide +kernel) rfl) rfl ?_
  refine am_pv_cons (v_istore_n (q := 1) (by decide +kernel) rfl) rfl ?_
  refine am_pv_cons (v_iload_n (q := 1) (by decide +kernel) rfl) rfl ?_
  refine am_pv_cons (v_sipush (n := 160) (by decide +kernel) (by decide +kernel)) rfl ?_
  refine am_pv_cons (v_ic_ge (off := 58) (by decide +kernel) rfl) rfl ?_
  refine am_pv_cons (v_aload_n (q := 0) (by decide +kernel) rfl) rfl ?_
  refine am_pv_cons (v_get fl_StreetReader_23 (by decide +kernel)) rfl ?_
  refine am_pv_cons (v_aload_n (q := 0) (by decide +kernel) rfl) rfl ?_
  refine am_pv_cons (v_get fl_StreetReader_9 (by decide +kernel)) rfl ?_
  refine am_pv_cons (v_get fl_StreetReader_31 (by decide +kernel)) rfl ?_
  refine am_pv_cons (v_ic_ge (off := 44) (by decide +kernel) rfl) rfl ?_
  refine am_pv_cons (v_aload_n (q := 0) (by decide +kernel) rfl) rfl ?_
  refine am_pv_cons (v_virt (idx := 27) yv_StreetReader_readLine rfl rfl (tb3 52 (by decide +kernel) rfl) (by decide +kernel)) rfl ?_
  refine am_pv_cons (v_if_eq (off := 31) (by decide +kernel) rfl) rfl ?_
  refine am_pv_cons (v_aload_n (q := 0) (by decide +kernel) rfl) rfl ?_
  refine am_pv_cons (v_get fl_StreetReader_19 (by decide +kernel)) rfl ?_
  refine am_pv_cons (v_aload_n (q := 0) (by decide +kernel) rfl) rfl ?_
  refine am_pv_cons (v_get fl_StreetReader_36 (by decide +kernel)) rfl ?_
  refine am_pv_cons (v_aload_n (q := 0) (by decide +kernel) rfl) rfl ?_
  refine am_pv_cons (v_get fl_StreetReader_39 (by decide +kernel)) rfl ?_
  refine am_pv_cons (v_aload_n (q := 0) (by decide +kernel) rfl) rfl ?_
  refine am_pv_cons (v_get fl_StreetReader_42 (by decide +kernel)) rfl ?_
  refine am_pv_cons (v_aload_n (q := 0) (by decide +kernel) rfl) rfl ?_
  refine am_pv_cons (v_get fl_StreetReader_45 (by decide +kernel)) rfl ?_
  refine am_pv_cons (v_aload_n (q := 0) (by decide +kernel) rfl) rfl ?_
  refine am_pv_cons (v_get fl_StreetReader_48 (by decide +kernel)) rfl ?_
  refine am_pv_cons (v_virt (idx := 51) yv_Feelings_tell rfl rfl (tb3 90 (by decide +kernel) rfl) (by decide +kernel)) rfl ?_
  refine am_pv_cons (v_pop (by decide +kernel)) rfl ?_
  refine am_pv_cons (v_iinc (n := 1) (by decide +kernel) (by decide +kernel)) rfl ?_
  refine am_pv_cons (v_goto (off := -59) (by decide +kernel) rfl) rfl ?_
  refine am_pv_cons (v_iload_n (q := 1) (by decide +kernel) rfl) rfl ?_
  refine am_pv_cons (v_ireturn (by decide +kernel)) trivial ?_
  exact trivial
def P_StreetReader_readLine (E : am_E) (k : Nat) : am_P := [(0, aLa 0), (1, aLa 0), (2, aI (-1)), (3, aIv E k 7 1 Y_StreetReader_readPerson), (6, aPut 7 4), (9, aLa 0), (10, aGet 7 4), (13, aI (-1)), (14, c_eq 24), (17, aLa 0), (18, aIv E k 7 0 Y_StreetReader_readSign), (21, z_ne 26), (24, aI 0), (25, aRi), (26, aLa 0), (27, aLa 0), (28, aLa 0), (29, aGet 7 4), (32, aIv E k 7 1 Y_StreetReader_readPerson), (35, aPut 7 5), (38, aLa 0), (39, aGet 7 5), (42, aI (-1)), (43, c_eq 64), (46, aLa 0), (47, aIv E k 7 0 Y_StreetReader_readStrength), (50, z_eq 64), (53, aLa 0), (54, aIv E k 7 0 Y_StreetReader_readKind), (57, z_eq 64), (60, aI 1), (61, aGo 65), (64, aI 0), (65, aRi)]
set_option maxRecDepth 20000 in
theorem pv_StreetReader_readLine (E : am_E) (k : Nat) : am_pv E k Y_StreetReader_readLine.2.1 Y_StreetReader_readLine.2.2.1 Y_StreetReader_readLine.1.cls (P_StreetReader_readLine E k) := by
  refine am_pv_cons (v_aload_n (q := 0) (by decide +kernel) rfl) rfl ?_
  refine am_pv_cons (v_aload_n (q := 0) (by decide +kernel) rfl) rfl ?_
  refine am_pv_cons (v_iconst (n := -1) (by decide +kernel) rfl) rfl ?_
  refine am_pv_cons (v_virt (idx := 57) yv_StreetReader_readPerson rfl rfl (tb3 56 (by decide +kernel) rfl) (by decide +kernel)) rfl ?_
  refine am_pv_cons (v_put fw_StreetReader_36 (by decide +kernel)) rfl ?_
  refine am_pv_cons (v_aload_n (q := 0) (by decide +kernel) rfl) rfl ?_
  refine am_pv_cons (v_get fl_StreetReader_36 (by decide +kernel)) rfl ?_
  refine am_pv_cons (v_iconst (n := -1) (by decide +kernel) rfl) rfl ?_
  refine am_pv_cons (v_ic_eq (off := 10) (by decide +kernel) rfl) rfl ?_
  refine am_pv_cons (v_aload_n (q := 0) (by decide +kernel) rfl) rfl ?_
  refine am_pv_cons (v_virt (idx := 61) yv_StreetReader_readSign rfl rfl (tb3 65 (by decide +kernel) rfl) (by decide +kernel)) rfl ?_
  refine am_pv_cons (v_if_ne (off := 5) (by decide +kernel) rfl) rfl ?_
  refine am_pv_cons (v_iconst (n := 0) (by decide +kernel) rfl) rfl ?_
  refine am_pv_cons (v_ireturn (by decide +kernel)) rfl ?_
  refine am_pv_cons (v_aload_n (q := 0) (by decide +kernel) rfl) rfl ?_
  refine am_pv_cons (v_aload_n (q := 0) (by decide +kernel) rfl) rfl ?_
  refine am_pv_cons (v_aload_n (q := 0) (by decide +kernel) rfl) rfl ?_
  refine am_pv_cons (v_get fl_StreetReader_36 (by decide +kernel)) rfl ?_
  refine am_pv_cons (v_virt (idx := 57) yv_StreetReader_readPerson rfl rfl (tb3 56 (by decide +kernel) rfl) (by decide +kernel)) rfl ?_
  refine am_pv_cons (v_put fw_StreetReader_39 (by decide +kernel)) rfl ?_
  refine am_pv_cons (v_aload_n (q := 0) (by decide +kernel) rfl) rfl ?_
  refine am_pv_cons (v_get fl_StreetReader_39 (by decide +kernel)) rfl ?_
  refine am_pv_cons (v_iconst (n := -1) (by decide +kernel) rfl) rfl ?_
  refine am_pv_cons (v_ic_eq (off := 21) (by decide +kernel) rfl) rfl ?_
  refine am_pv_cons (v_aload_n (q := 0) (by decide +kernel) rfl) rfl ?_
  refine am_pv_cons (v_virt (idx := 64) yv_StreetReader_readStrength rfl rfl (tb3 73 (by decide +kernel) rfl) (by decide +kernel)) rfl ?_
  refine am_pv_cons (v_if_eq (off := 14) (by decide +kernel) rfl) rfl ?_
  refine am_pv_cons (v_aload_n (q := 0) (by decide +kernel) rfl) rfl ?_
  refine am_pv_cons (v_virt (idx := 67) yv_StreetReader_readKind rfl rfl (tb3 82 (by decide +kernel) rfl) (by decide +kernel)) rfl ?_
  refine am_pv_cons (v_if_eq (off := 7) (by decide +kernel) rfl) rfl ?_
  refine am_pv_cons (v_iconst (n := 1) (by decide +kernel) rfl) rfl ?_
  refine am_pv_cons (v_goto (off := 4) (by decide +kernel) rfl) rfl ?_
  refine am_pv_cons (v_iconst (n := 0) (by decide +kernel) rfl) rfl ?_
  refine am_pv_cons (v_ireturn (by decide +kernel)) trivial ?_
  exact trivial
def P_StreetReader_readPerson (E : am_E) (k : Nat) : am_P := [(0, aLa 0), (1, aGet 7 0), (4, aLa 0), (5, aGet 7 3), (8, aIv E k 3 1 Y_Tape_at), (11, aI 97), (13, a_isub), (14, aSi 2), (15, aLa 0), (16, aGet 7 1), (19, aLi 2), (20, aIv E k 1 1 Y_People_has), (23, z_eq 31), (26, aLi 2), (27, aLi 1), (28, c_ne 33), (31, aI (-1)), (32, aRi), (33, aLa 0), (34, aDup), (35, aGet 7 3), (38, aI 1), (39, a_iadd), (40, aPut 7 3), (43, aLi 2), (44, aRi)]
set_option maxRecDepth 20000 in
theorem pv_StreetReader_readPerson (E : am_E) (k : Nat) : am_pv E k Y_StreetReader_readPerson.2.1 Y_StreetReader_readPerson.2.2.1 Y_StreetReader_readPerson.1.cls (P_StreetReader_readPerson E k) := by
  refine am_pv_cons (v_aload_n (q := 0) (by decide +kernel) rfl) rfl ?_
  refine am_pv_cons (v_get fl_StreetReader_9 (by decide +kernel)) rfl ?_
  refine am_pv_cons (v_aload_n (q := 0) (by decide +kernel) rfl) rfl ?_
  refine am_pv_cons (v_get fl_StreetReader_23 (by decide +kernel)) rfl ?_
  refine am_pv_cons (v_virt (idx := 70) yv_Tape_at rfl rfl (tb3 60 (by decide +kernel) rfl) (by decide +kernel)) rfl ?_
  refine am_pv_cons (v_bipush (n := 97) (by decide +kernel) (by decide +kernel)) rfl ?_
  refine am_pv_cons (v_isub (by decide +kernel)) rfl ?_
  refine am_pv_cons (v_istore_n (q := 2) (by decide +kernel) rfl) rfl ?_
  refine am_pv_cons (v_aload_n (q := 0) (by decide +kernel) rfl) rfl ?_
  refine am_pv_cons (v_get fl_StreetReader_15 (by decide +kernel)) rfl ?_
  refine am_pv_cons (v_iload_n (q := 2) (by decide +kernel) rfl) rfl ?_
  refine am_pv_cons (v_virt (idx := 73) yv_People_has rfl rfl (tb3 64 (by decide +kernel) rfl) (by decide +kernel)) rfl ?_
  refine am_pv_cons (v_if_eq (off := 8) (by decide +kernel) rfl) rfl ?_
  refine am_pv_cons (v_iload_n (q := 2) (by decide +kernel) rfl) rfl ?_
  refine am_pv_cons (v_iload_n (q := 1) (by decide +kernel) rfl) rfl ?_
  refine am_pv_cons (v_ic_ne (off := 5) (by decide +kernel) rfl) rfl ?_
  refine am_pv_cons (v_iconst (n := -1) (by decide +kernel) rfl) rfl ?_
  refine am_pv_cons (v_ireturn (by decide +kernel)) rfl ?_
  refine am_pv_cons (v_aload_n (q := 0) (by decide +kernel) rfl) rfl ?_
  refine am_pv_cons (v_dup (by decide +kernel)) rfl ?_
  refine am_pv_cons (v_get fl_StreetReader_23 (by decide +kernel)) rfl ?_
  refine am_pv_cons (v_iconst (n := 1) (by decide +kernel) rfl) rfl ?_
  refine am_pv_cons (v_iadd (by decide +kernel)) rfl ?_
  refine am_pv_cons (v_put fw_StreetReader_23 (by decide +kernel)) rfl ?_
  refine am_pv_cons (v_iload_n (q := 2) (by decide +kernel) rfl) rfl ?_
  refine am_pv_cons (v_ireturn (by decide +kernel)) trivial ?_
  exact trivial
def P_StreetReader_readSign (E : am_E) (k : Nat) : am_P := [(0, aLa 0), (1, aLa 0), (2, aGet 7 0), (5, aLa 0), (6, aGet 7 3), (9, aIv E k 3 1 Y_Tape_at), (12, aI 45), (14, c_ne 21), (17, aI (-1)), (18, aGo 22), (21, aI 1), (22, aPut 7 6), (25, aLa 0), (26, aI 45), (28, aIv E k 7 1 Y_StreetReader_skip), (31, z_ne 43), (34, aLa 0), (35, aI 43), (37, aIv E k 7 1 Y_StreetReader_skip), (40, z_eq 47), (43, aI 1), (44, aGo 48), (47, aI 0), (48, aRi)]
set_option maxRecDepth 20000 in
theorem pv_StreetReader_readSign (E : am_E) (k : Nat) : am_pv E k Y_StreetReader_readSign.2.1 Y_StreetReader_readSign.2.2.1 Y_StreetReader_readSign.1.cls (P_StreetReader_readSign E k) := by
  refine am_pv_cons (v_aload_n (q := 0) (by decide +kernel) rfl) rfl ?_
  refine am_pv_cons (v_aload_n (q := 0) (by decide +kernel) rfl) rfl ?_
  refine am_pv_cons (v_get fl_StreetReader_9 (by decide +kernel)) rfl ?_
  refine am_pv_cons (v_aload_n (q := 0) (by decide +kernel) rfl) rfl ?_
  refine am_pv_cons (v_get fl_StreetReader_23 (by decide +kernel)) rfl ?_
  refine am_pv_cons (v_virt (idx := 70) yv_Tape_at rfl rfl (tb3 60 (by decide +kernel) rfl) (by decide +kernel)) rfl ?_
  refine am_pv_cons (v_bipush (n := 45) (by decide +kernel) (by decide +kernel)) rfl ?_
  refine am_pv_cons (v_ic_ne (off := 7) (by decide +kernel) rfl) rfl ?_
  refine am_pv_cons (v_iconst (n := -1) (by decide +kernel) rfl) rfl ?_
  refine am_pv_cons (v_goto (off := 4) (by decide +kernel) rfl) rfl ?_
  refine am_pv_cons (v_iconst (n := 1) (by decide +kernel) rfl) rfl ?_
  refine am_pv_cons (v_put fw_StreetReader_42 (by decide +kernel)) rfl ?_
  refine am_pv_cons (v_aload_n (q := 0) (by decide +kernel) rfl) rfl ?_
  refine am_pv_cons (v_bipush (n := 45) (by decide +kernel) (by decide +kernel)) rfl ?_
  refine am_pv_cons (v_virt (idx := 79) yv_StreetReader_skip rfl rfl (tb3 69 (by decide +kernel) rfl) (by decide +kernel)) rfl ?_
  refine am_pv_cons (v_if_ne (off := 12) (by decide +kernel) rfl) rfl ?_
  refine am_pv_cons (v_aload_n (q := 0) (by decide +kernel) rfl) rfl ?_
  refine am_pv_cons (v_bipush (n := 43) (by decide +kernel) (by decide +kernel)) rfl ?_
  refine am_pv_cons (v_virt (idx := 79) yv_StreetReader_skip rfl rfl (tb3 69 (by decide +kernel) rfl) (by decide +kernel)) rfl ?_
  refine am_pv_cons (v_if_eq (off := 7) (by decide +kernel) rfl) rfl ?_
  refine am_pv_cons (v_iconst (n := 1) (by decide +kernel) rfl) rfl ?_
  refine am_pv_cons (v_goto (off := 4) (by decide +kernel) rfl) rfl ?_
  refine am_pv_cons (v_iconst (n := 0) (by decide +kernel) rfl) rfl ?_
  refine am_pv_cons (v_ireturn (by decide +kernel)) trivial ?_
  exact trivial
def P_StreetReader_readStrength (E : am_E) (k : Nat) : am_P := [(0, aLa 0), (1, aLa 0), (2, aGet 7 0), (5, aLa 0), (6, aGet 7 3), (9, aIv E k 3 1 Y_Tape_digitAt), (12, aPut 7 7), (15, aLa 0), (16, aGet 7 7), (19, aI (-1)), (20, c_ne 25), (23, aI 0), (24, aRi), (25, aLa 0), (26, aDup), (27, aGet 7 3), (30, aI 1), (31, a_iadd), (32, aPut 7 3), (35, aLa 0), (36, aGet 7 0), (39, aLa 0), (40, aGet 7 3), (43, aIv E k 3 1 Y_Tape_digitAt), (46, aSi 1), (47, aLi 1), (48, aI (-1)), (49, c_eq 87), (52, aLa 0), (53, aGet 7 7), (56, aI 10), (58, a_imul), (59, aLi 1), (60, a_iadd), (61, z_le 87), (64, aLa 0), (65, aLa 0), (66, aGet 7 7), (69, aI 10), (71, a_imul), (72, aLi 1), (73, a_iadd), (74, aPut 7 7), (77, aLa 0), (78, aDup), (79, aGet 7 3), (82, aI 1), (83, a_iadd), (84, aPut 7 3), (87, aLa 0), (88, aGet 7 7), (91, z_le 98), (94, aI 1), (95, aGo 99), (98, aI 0), (99, aRi)]
set_option maxRecDepth 20000 in
theorem pv_StreetReader_readStrength (E : am_E) (k : Nat) : am_pv E k Y_StreetReader_readStrength.2.1 Y_StreetReader_readStrength.2.2.1 Y_StreetReader_readStrength.1.cls (P_StreetReader_readStrength E k) := by
  refine am_pv_cons (v_aload_n (q := 0) (by decide +kernel) rfl) rfl ?_
  refine am_pv_cons (v_aload_n (q := 0) (by decide +kernel) rfl) rfl ?_
  refine am_pv_cons (v_get fl_StreetReader_9 (by decide +kernel)) rfl ?_
  refine am_pv_cons (v_aload_n (q := 0) (by decide +kernel) rfl) rfl ?_
  refine am_pv_cons (v_get fl_StreetReader_23 (by decide +kernel)) rfl ?_
  refine am_pv_cons (v_virt (idx := 82) yv_Tape_digitAt rfl rfl (tb3 77 (by decide +kernel) rfl) (by decide +kernel)) rfl ?_
  refine am_pv_cons (v_put fw_StreetReader_45 (by decide +kernel)) rfl ?_
  refine am_pv_cons (v_aload_n (q := 0) (by decide +kernel) rfl) rfl ?_
  refine am_pv_cons (v_get fl_StreetReader_45 (by decide +kernel)) rfl ?_
  refine am_pv_cons (v_iconst (n := -1) (by decide +kernel) rfl) rfl ?_
  refine am_pv_cons (v_ic_ne (off := 5) (by decide +kernel) rfl) rfl ?_
  refine am_pv_cons (v_iconst (n := 0) (by decide +kernel) rfl) rfl ?_
  refine am_pv_cons (v_ireturn (by decide +kernel)) rfl ?_
  refine am_pv_cons (v_aload_n (q := 0) (by decide +kernel) rfl) rfl ?_
  refine am_pv_cons (v_dup (by decide +kernel)) rfl ?_
  refine am_pv_cons (v_get fl_StreetReader_23 (by decide +kernel)) rfl ?_
  refine am_pv_cons (v_iconst (n := 1) (by decide +kernel) rfl) rfl ?_
  refine am_pv_cons (v_iadd (by decide +kernel)) rfl ?_
  refine am_pv_cons (v_put fw_StreetReader_23 (by decide +kernel)) rfl ?_
  refine am_pv_cons (v_aload_n (q := 0) (by decide +kernel) rfl) rfl ?_
  refine am_pv_cons (v_get fl_StreetReader_9 (by decide +kernel)) rfl ?_
  refine am_pv_cons (v_aload_n (q := 0) (by decide +kernel) rfl) rfl ?_
  refine am_pv_cons (v_get fl_StreetReader_23 (by decide +kernel)) rfl ?_
  refine am_pv_cons (v_virt (idx := 82) yv_Tape_digitAt rfl rfl (tb3 77 (by decide +kernel) rfl) (by decide +kernel)) rfl ?_
  refine am_pv_cons (v_istore_n (q := 1) (by decide +kernel) rfl) rfl ?_
  refine am_pv_cons (v_iload_n (q := 1) (by decide +kernel) rfl) rfl ?_
  refine am_pv_cons (v_iconst (n := -1) (by decide +kernel) rfl) rfl ?_
  refine am_pv_cons (v_ic_eq (off := 38) (by decide +kernel) rfl) rfl ?_
  refine am_pv_cons (v_aload_n (q := 0) (by decide +kernel) rfl) rfl ?_
  refine am_pv_cons (v_get fl_StreetReader_45 (by decide +kernel)) rfl ?_
  refine am_pv_cons (v_bipush (n := 10) (by decide +kernel) (by decide +kernel)) rfl ?_
  refine am_pv_cons (v_imul (by decide +kernel)) rfl ?_
  refine am_pv_cons (v_iload_n (q := 1) (by decide +kernel) rfl) rfl ?_
  refine am_pv_cons (v_iadd (by decide +kernel)) rfl ?_
  refine am_pv_cons (v_if_le (off := 26) (by decide +kernel) rfl) rfl ?_
  refine am_pv_cons (v_aload_n (q := 0) (by decide +kernel) rfl) rfl ?_
  refine am_pv_cons (v_aload_n (q := 0) (by decide +kernel) rfl) rfl ?_
  refine am_pv_cons (v_get fl_StreetReader_45 (by decide +kernel)) rfl ?_
  refine am_pv_cons (v_bipush (n := 10) (by decide +kernel) (by decide +kernel)) rfl ?_
  refine am_pv_cons (v_imul (by decide +kernel)) rfl ?_
  refine am_pv_cons (v_iload_n (q := 1) (by decide +kernel) rfl) rfl ?_
  refine am_pv_cons (v_iadd (by decide +kernel)) rfl ?_
  refine am_pv_cons (v_put fw_StreetReader_45 (by decide +kernel)) rfl ?_
  refine am_pv_cons (v_aload_n (q := 0) (by decide +kernel) rfl) rfl ?_
  refine am_pv_cons (v_dup (by decide +kernel)) rfl ?_
  refine am_pv_cons (v_get fl_StreetReader_23 (by decide +kernel)) rfl ?_
  refine am_pv_cons (v_iconst (n := 1) (by decide +kernel) rfl) rfl ?_
  refine am_pv_cons (v_iadd (by decide +kernel)) rfl ?_
  refine am_pv_cons (v_put fw_StreetReader_23 (by decide +kernel)) rfl ?_
  refine am_pv_cons (v_aload_n (q := 0) (by decide +kernel) rfl) rfl ?_
  refine am_pv_cons (v_get fl_StreetReader_45 (by decide +kernel)) rfl ?_
  refine am_pv_cons (v_if_le (off := 7) (by decide +kernel) rfl) rfl ?_
  refine am_pv_cons (v_iconst (n := 1) (by decide +kernel) rfl) rfl ?_
  refine am_pv_cons (v_goto (off := 4) (by decide +kernel) rfl) rfl ?_
  refine am_pv_cons (v_iconst (n := 0) (by decide +kernel) rfl) rfl ?_
  refine am_pv_cons (v_ireturn (by decide +kernel)) trivial ?_
  exact trivial
def P_StreetReader_readKind (E : am_E) (k : Nat) : am_P := [(0, aLa 0), (1, aLa 0), (2, aI 107), (4, aIv E k 7 1 Y_StreetReader_skip), (7, z_eq 14), (10, aI 2), (11, aGo 15), (14, aI 0), (15, aPut 7 8), (18, aLa 0), (19, aI 33), (21, aIv E k 7 1 Y_StreetReader_skip), (24, z_eq 37), (27, aLa 0), (28, aDup), (29, aGet 7 8), (32, aI 1), (33, a_iadd), (34, aPut 7 8), (37, aLa 0), (38, aI 59), (40, aIv E k 7 1 Y_StreetReader_skip), (43, aRi)]
set_option maxRecDepth 20000 in
theorem pv_StreetReader_readKind (E : am_E) (k : Nat) : am_pv E k Y_StreetReader_readKind.2.1 Y_StreetReader_readKind.2.2.1 Y_StreetReader_readKind.1.cls (P_StreetReader_readKind E k) := by
  refine am_pv_cons (v_aload_n (q := 0) (by decide +kernel) rfl) rfl ?_
  refine am_pv_cons (v_aload_n (q := 0) (by decide +kernel) rfl) rfl ?_
  refine am_pv_cons (v_bipush (n := 107) (by decide +kernel) (by decide +kernel)) rfl ?_
  refine am_pv_cons (v_virt (idx := 79) yv_StreetReader_skip rfl rfl (tb3 69 (by decide +kernel) rfl) (by decide +kernel)) rfl ?_
  refine am_pv_cons (v_if_eq (off := 7) (by decide +kernel) rfl) rfl ?_
  refine am_pv_cons (v_iconst (n := 2) (by decide +kernel) rfl) rfl ?_
  refine am_pv_cons (v_goto (off := 4) (by decide +kernel) rfl) rfl ?_
  refine am_pv_cons (v_iconst (n := 0) (by decide +kernel) rfl) rfl ?_
  refine am_pv_cons (v_put fw_StreetReader_48 (by decide +kernel)) rfl ?_
  refine am_pv_cons (v_aload_n (q := 0) (by decide +kernel) rfl) rfl ?_
  refine am_pv_cons (v_bipush (n := 33) (by decide +kernel) (by decide +kernel)) rfl ?_
  refine am_pv_cons (v_virt (idx := 79) yv_StreetReader_skip rfl rfl (tb3 69 (by decide +kernel) rfl) (by decide +kernel)) rfl ?_
  refine am_pv_cons (v_if_eq (off := 13) (by decide +kernel) rfl) rfl ?_
  refine am_pv_cons (v_aload_n (q := 0) (by decide +kernel) rfl) rfl ?_
  refine am_pv_cons (v_dup (by decide +kernel)) rfl ?_
  refine am_pv_cons (v_get fl_StreetReader_48 (by decide +kernel)) rfl ?_
  refine am_pv_cons (v_iconst (n := 1) (by decide +kernel) rfl) rfl ?_
  refine am_pv_cons (v_iadd (by decide +kernel)) rfl ?_
  refine am_pv_cons (v_put fw_StreetReader_48 (by decide +kernel)) rfl ?_
  refine am_pv_cons (v_aload_n (q := 0) (by decide +kernel) rfl) rfl ?_
  refine am_pv_cons (v_bipush (n := 59) (by decide +kernel) (by decide +kernel)) rfl ?_
  refine am_pv_cons (v_virt (idx := 79) yv_StreetReader_skip rfl rfl (tb3 69 (by decide +kernel) rfl) (by decide +kernel)) rfl ?_
  refine am_pv_cons (v_ireturn (by decide +kernel)) trivial ?_
  exact trivial
def P_StreetReader_skip (E : am_E) (k : Nat) : am_P := [(0, aLa 0), (1, aGet 7 0), (4, aLa 0), (5, aGet 7 3), (8, aIv E k 3 1 Y_Tape_at), (11, aLi 1), (12, c_eq 17), (15, aI 0), (16, aRi), (17, aLa 0), (18, aDup), (19, aGet 7 3), (22, aI 1), (23, a_iadd), (24, aPut 7 3), (27, aI 1), (28, aRi)]
set_option maxRecDepth 20000 in
theorem pv_StreetReader_skip (E : am_E) (k : Nat) : am_pv E k Y_StreetReader_skip.2.1 Y_StreetReader_skip.2.2.1 Y_StreetReader_skip.1.cls (P_StreetReader_skip E k) := by
  refine am_pv_cons (v_aload_n (q := 0) (by decide +kernel) rfl) rfl ?_
  refine am_pv_cons (v_get fl_StreetReader_9 (by decide +kernel)) rfl ?_
  refine am_pv_cons (v_aload_n (q := 0) (by decide +kernel) rfl) rfl ?_
  refine am_pv_cons (v_get fl_StreetReader_23 (by decide +kernel)) rfl ?_
  refine am_pv_cons (v_virt (idx := 70) yv_Tape_at rfl rfl (tb3 60 (by decide +kernel) rfl) (by decide +kernel)) rfl ?_
  refine am_pv_cons (v_iload_n (q := 1) (by decide +kernel) rfl) rfl ?_
  refine am_pv_cons (v_ic_eq (off := 5) (by decide +kernel) rfl) rfl ?_
  refine am_pv_cons (v_iconst (n := 0) (by decide +kernel) rfl) rfl ?_
  refine am_pv_cons (v_ireturn (by decide +kernel)) rfl ?_
  refine am_pv_cons (v_aload_n (q := 0) (by decide +kernel) rfl) rfl ?_
  refine am_pv_cons (v_dup (by decide +kernel)) rfl ?_
  refine am_pv_cons (v_get fl_StreetReader_23 (by decide +kernel)) rfl ?_
  refine am_pv_cons (v_iconst (n := 1) (by decide +kernel) rfl) rfl ?_
  refine am_pv_cons (v_iadd (by decide +kernel)) rfl ?_
  refine am_pv_cons (v_put fw_StreetReader_23 (by decide +kernel)) rfl ?_
  refine am_pv_cons (v_iconst (n := 1) (by decide +kernel) rfl) rfl ?_
  refine am_pv_cons (v_ireturn (by decide +kernel)) trivial ?_
  exact trivial
def P_Camping_become (E : am_E) (k : Nat) : am_P := [(0, aLa 0), (1, aLi 1), (2, aPut 8 3), (5, aLa 0), (6, aLa 2), (7, aGet 11 1), (10, aPut 8 4), (13, aLa 2), (14, aGet 11 2), (17, aI 0), (18, aLa 0), (19, aGet 8 5), (22, aI 0), (23, aLa 0), (24, aGet 8 4), (27, aCpy k), (30, aRv)]
set_option maxRecDepth 20000 in
theorem pv_Camping_become (E : am_E) (k : Nat) : am_pv E k Y_Camping_become.2.1 Y_Camping_become.2.2.1 Y_Camping_become.1.cls (P_Camping_become E k) := by
  refine am_pv_cons (v_aload_n (q := 0) (by decide +kernel) rfl) rfl ?_
  refine am_pv_cons (v_iload_n (q := 1) (by decide +kernel) rfl) rfl ?_
  refine am_pv_cons (v_put fw_Camping_27 (by decide +kernel)) rfl ?_
  refine am_pv_cons (v_aload_n (q := 0) (by decide +kernel) rfl) rfl ?_
  refine am_pv_cons (v_aload_n (q := 2) (by decide +kernel) rfl) rfl ?_
  refine am_pv_cons (v_get fl_Camping_31 (by decide +kernel)) rfl ?_
  refine am_pv_cons (v_put fw_Camping_36 (by decide +kernel)) rfl ?_
  refine am_pv_cons (v_aload_n (q := 2) (by decide +kernel) rfl) rfl ?_
  refine am_pv_cons (v_get fl_Camping_37 (by decide +kernel)) rfl ?_
  refine am_pv_cons (v_iconst (n := 0) (by decide +kernel) rfl) rfl ?_
  refine am_pv_cons (v_aload_n (q := 0) (by decide +kernel) rfl) rfl ?_
  refine am_pv_cons (v_get fl_Camping_9 (by decide +kernel)) rfl ?_
  refine am_pv_cons (v_iconst (n := 0) (by decide +kernel) rfl) rfl ?_
  refine am_pv_cons (v_aload_n (q := 0) (by decide +kernel) rfl) rfl ?_
  refine am_pv_cons (v_get fl_Camping_36 (by decide +kernel)) rfl ?_
  refine am_pv_cons (v_cpy (idx := 40) (tb4 39 (by decide +kernel) rfl) cp_n cp_s cp_i (by decide +kernel)) rfl ?_
  refine am_pv_cons (v_return_ (by decide +kernel)) trivial ?_
  exact trivial
def P_Camping_becomeMoved (E : am_E) (k : Nat) : am_P := [(0, aLa 0), (1, aLa 1), (2, aGet 8 3), (5, aPut 8 3), (8, aLa 0), (9, aLa 0), (10, aGet 8 0), (13, aGet 1 0), (16, aPut 8 4), (19, aI 0), (20, aSi 4), (22, aLi 4), (24, aLa 0), (25, aGet 8 4), (28, c_ge 50), (31, aLa 0), (32, aGet 8 5), (35, aLi 4), (37, aLa 1), (38, aLi 4), (40, aIv E k 8 1 Y_Camping_campOf), (43, aAst), (44, aInc 4 1), (47, aGo 22), (50, aLa 0), (51, aGet 8 5), (54, aLi 2), (55, aLi 3), (56, aAst), (57, aRv)]
set_option maxRecDepth 20000 in
theorem pv_Camping_becomeMoved (E : am_E) (k : Nat) : am_pv E k Y_Camping_becomeMoved.2.1 Y_Camping_becomeMoved.2.2.1 Y_Camping_becomeMoved.1.cls (P_Camping_becomeMoved E k) := by
  refine am_pv_cons (v_aload_n (q := 0) (by decide +kernel) rfl) rfl ?_
  refine am_pv_cons (v_aload_n (q := 1) (by decide +kernel) rfl) rfl ?_
  refine am_pv_cons (v_get fl_Camping_27 (by decide +kernel)) rfl ?_
  refine am_pv_cons (v_put fw_Camping_27 (by decide +kernel)) rfl ?_
  refine am_pv_cons (v_aload_n (q := 0) (by decide +kernel) rfl) rfl ?_
  refine am_pv_cons (v_aload_n (q := 0) (by decide +kernel) rfl) rfl ?_
  refine am_pv_cons (v_get fl_Camping_15 (by decide +kernel)) rfl ?_
  refine am_pv_cons (v_get fl_Camping_46 (by decide +kernel)) rfl ?_
  refine am_pv_cons (v_put fw_Camping_36 (by decide +kernel)) rfl ?_
  refine am_pv_cons (v_iconst (n := 0) (by decide +kernel) rfl) rfl ?_
  refine am_pv_cons (v_istore (by decide +kernel)) rfl ?_
  refine am_pv_cons (v_iload (by decide +kernel)) rfl ?_
  refine am_pv_cons (v_aload_n (q := 0) (by decide +kernel) rfl) rfl ?_
  refine am_pv_cons (v_get fl_Camping_36 (by decide +kernel)) rfl ?_
  refine am_pv_cons (v_ic_ge (off := 22) (by decide +kernel) rfl) rfl ?_
  refine am_pv_cons (v_aload_n (q := 0) (by decide +kernel) rfl) rfl ?_
  refine am_pv_cons (v_get fl_Camping_9 (by decide +kernel)) rfl ?_
  refine am_pv_cons (v_iload (by decide +kernel)) rfl ?_
  refine am_pv_cons (v_aload_n (q := 1) (by decide +kernel) rfl) rfl ?_
  refine am_pv_cons (v_iload (by decide +kernel)) rfl ?_
  refine am_pv_cons (v_virt (idx := 49) yv_Camping_campOf rfl rfl (tb4 58 (by decide +kernel) rfl) (by decide +kernel)) rfl ?_
  refine am_pv_cons (v_iast (by decide +kernel)) rfl ?_
  refine am_pv_cons (v_iinc (n := 1) (by decide +kernel) (by decide +kernel)) rfl ?_
  refine am_pv_cons (v_goto (off := -25) (by decide +kernel) rfl) rfl ?_
  refine am_pv_cons (v_aload_n (q := 0) (by decide +kernel) rfl) rfl ?_
  refine am_pv_cons (v_get fl_Camping_9 (by decide +kernel)) rfl ?_
  refine am_pv_cons (v_iload_n (q := 2) (by decide +kernel) rfl) rfl ?_
  refine am_pv_cons (v_iload_n (q := 3) (by decide +kernel) rfl) rfl ?_
  refine am_pv_cons (v_iast (by decide +kernel)) rfl ?_
  refine am_pv_cons (v_return_ (by decide +kernel)) trivial ?_
  exact trivial
def P_Camping_campOf (E : am_E) (k : Nat) : am_P := [(0, aLi 1), (1, aLa 0), (2, aGet 8 4), (5, c_ge 17), (8, aLa 0), (9, aGet 8 5), (12, aLi 1), (13, aAld 0), (14, aGo 18), (17, aI 0), (18, aRi)]
set_option maxRecDepth 20000 in
theorem pv_Camping_campOf (E : am_E) (k : Nat) : am_pv E k Y_Camping_campOf.2.1 Y_Camping_campOf.2.2.1 Y_Camping_campOf.1.cls (P_Camping_campOf E k) := by
  refine am_pv_cons (v_iload_n (q := 1) (by decide +kernel) rfl) rfl ?_
  refine am_pv_cons (v_aload_n (q := 0) (by decide +kernel) rfl) rfl ?_
  refine am_pv_cons (v_get fl_Camping_36 (by decide +kernel)) rfl ?_
  refine am_pv_cons (v_ic_ge (off := 12) (by decide +kernel) rfl) rfl ?_
  refine am_pv_cons (v_aload_n (q := 0) (by decide +kernel) rfl) rfl ?_
  refine am_pv_cons (v_get fl_Camping_9 (by decide +kernel)) rfl ?_
  refine am_pv_cons (v_iload_n (q := 1) (by decide +kernel) rfl) rfl ?_
  refine am_pv_cons (v_iald (by decide +kernel)) rfl ?_
  refine am_pv_cons (v_goto (off := 4) (by decide +kernel) rfl) rfl ?_
  refine am_pv_cons (v_iconst (n := 0) (by decide +kernel) rfl) rfl ?_
  refine am_pv_cons (v_ireturn (by decide +kernel)) trivial ?_
  exact trivial
def P_Camping_usedCamps (E : am_E) (k : Nat) : am_P := [(0, aI 0), (1, aSi 1), (2, aI 0), (3, aSi 2), (4, aLi 2), (5, aI 4), (6, c_ge 26), (9, aLa 0), (10, aLi 2), (11, aIv E k 8 1 Y_Camping_countIn), (14, z_le 20), (17, aInc 1 1), (20, aInc 2 1), (23, aGo 4), (26, aLi 1), (27, aRi)]
set_option maxRecDepth 20000 in
theorem pv_Camping_usedCamps (E : am_E) (k : Nat) : am_pv E k Y_Camping_usedCamps.2.1 Y_Camping_usedCamps.2.2.1 Y_Camping_usedCamps.1.cls (P_Camping_usedCamps E k) := by
  refine am_pv_cons (v_iconst (n := 0) (by decide +kernel) rfl) rfl ?_
  refine am_pv_cons (v_istore_n (q := 1) (by decide +kernel) rfl) rfl ?_
  refine am_pv_cons (v_iconst (n := 0) (by decide +kernel) rfl) rfl ?_
  refine am_pv_cons (v_istore_n (q := 2) (by decide +kernel) rfl) rfl ?_
  refine am_pv_cons (v_iload_n (q := 2) (by decide +kernel) rfl) rfl ?_
  refine am_pv_cons (v_iconst (n := 4) (by decide +kernel) rfl) rfl ?_
  refine am_pv_cons (v_ic_ge (off := 20) (by decide +kernel) rfl) rfl ?_
  refine am_pv_cons (v_aload_n (q := 0) (by decide +kernel) rfl) rfl ?_
  refine am_pv_cons (v_iload_n (q := 2) (by decide +kernel) rfl) rfl ?_
  refine am_pv_cons (v_virt (idx := 53) yv_Camping_countIn rfl rfl (tb4 54 (by decide +kernel) rfl) (by decide +kernel)) rfl ?_
  refine am_pv_cons (v_if_le (off := 6) (by decide +kernel) rfl) rfl ?_
  refine am_pv_cons (v_iinc (n := 1) (by decide +kernel) (by decide +kernel)) rfl ?_
  refine am_pv_cons (v_iinc (n := 1) (by decide +kernel) (by decide +kernel)) rfl ?_
  refine am_pv_cons (v_goto (off := -19) (by decide +kernel) rfl) rfl ?_
  refine am_pv_cons (v_iload_n (q := 1) (by decide +kernel) rfl) rfl ?_
  refine am_pv_cons (v_ireturn (by decide +kernel)) trivial ?_
  exact trivial
def P_Camping_countIn (E : am_E) (k : Nat) : am_P := [(0, aI 0), (1, aSi 2), (2, aI 0), (3, aSi 3), (4, aLi 3), (5, aLa 0), (6, aGet 8 0), (9, aGet 1 0), (12, c_ge 33), (15, aLa 0), (16, aLi 3), (17, aIv E k 8 1 Y_Camping_campOf), (20, aLi 1), (21, c_ne 27), (24, aInc 2 1), (27, aInc 3 1), (30, aGo 4), (33, aLi 2), (34, aRi)]
set_option maxRecDepth 20000 in
theorem pv_Camping_countIn (E : am_E) (k : Nat) : am_pv E k Y_Camping_countIn.2.1 Y_Camping_countIn.2.2.1 Y_Camping_countIn.1.cls (P_Camping_countIn E k) := by
  refine am_pv_cons (v_iconst (n := 0) (by decide +kernel) rfl) rfl ?_
  refine am_pv_cons (v_istore_n (q := 2) (by decide +kernel) rfl) rfl ?_
  refine am_pv_cons (v_iconst (n := 0) (by decide +kernel) rfl) rfl ?_
  refine am_pv_cons (v_istore_n (q := 3) (by decide +kernel) rfl) rfl ?_
  refine am_pv_cons (v_iload_n (q := 3) (by decide +kernel) rfl) rfl ?_
  refine am_pv_cons (v_aload_n (q := 0) (by decide +kernel) rfl) rfl ?_
  refine am_pv_cons (v_get fl_Camping_15 (by decide +kernel)) rfl ?_
  refine am_pv_cons (v_get fl_Camping_46 (by decide +kernel)) rfl ?_
  refine am_pv_cons (v_ic_ge (off := 21) (by decide +kernel) rfl) rfl ?_
  refine am_pv_cons (v_aload_n (q := 0) (by decide +kernel) rfl) rfl ?_
  refine am_pv_cons (v_iload_n (q := 3) (by decide +kernel) rfl) rfl ?_
  refine am_pv_cons (v_virt (idx := 49) yv_Camping_campOf rfl rfl (tb4 58 (by decide +kernel) rfl) (by decide +kernel)) rfl ?_
  refine am_pv_cons (v_iload_n (q := 1) (by decide +kernel) rfl) rfl ?_
  refine am_pv_cons (v_ic_ne (off := 6) (by decide +kernel) rfl) rfl ?_
  refine am_pv_cons (v_iinc (n := 1) (by decide +kernel) (by decide +kernel)) rfl ?_
  refine am_pv_cons (v_iinc (n := 1) (by decide +kernel) (by decide +kernel)) rfl ?_
  refine am_pv_cons (v_goto (off := -26) (by decide +kernel) rfl) rfl ?_
  refine am_pv_cons (v_iload_n (q := 2) (by decide +kernel) rfl) rfl ?_
  refine am_pv_cons (v_ireturn (by decide +kernel)) trivial ?_
  exact trivial
def P_Camping_wrongCount (E : am_E) (k : Nat) : am_P := [(0, aI 0), (1, aSi 1), (2, aI 0), (3, aSi 2), (4, aLi 2), (5, aLa 0), (6, aGet 8 1), (9, aGet 2 0), (12, c_ge 32), (15, aLa 0), (16, aLi 2), (17, aIv E k 8 1 Y_Camping_isWrong), (20, z_eq 26), (23, aInc 1 1), (26, aInc 2 1), (29, aGo 4), (32, aLi 1), (33, aRi)]
set_option maxRecDepth 20000 in
theorem pv_Camping_wrongCount (E : am_E) (k : Nat) : am_pv E k Y_Camping_wrongCount.2.1 Y_Camping_wrongCount.2.2.1 Y_Camping_wrongCount.1.cls (P_Camping_wrongCount E k) := by
  refine am_pv_cons (v_iconst (n := 0) (by decide +kernel) rfl) rfl ?_
  refine am_pv_cons (v_istore_n (q := 1) (by decide +kernel) rfl) rfl ?_
  refine am_pv_cons (v_iconst (n := 0) (by decide +kernel) rfl) rfl ?_
  refine am_pv_cons (v_istore_n (q := 2) (by decide +kernel) rfl) rfl ?_
  refine am_pv_cons (v_iload_n (q := 2) (by decide +kernel) rfl) rfl ?_
  refine am_pv_cons (v_aload_n (q := 0) (by decide +kernel) rfl) rfl ?_
  refine am_pv_cons (v_get fl_Camping_19 (by decide +kernel)) rfl ?_
  refine am_pv_cons (v_get fl_Camping_56 (by decide +kernel)) rfl ?_
  refine am_pv_cons (v_ic_ge (off := 20) (by decide +kernel) rfl) rfl ?_
  refine am_pv_cons (v_aload_n (q := 0) (by decide +kernel) rfl) rfl ?_
  refine am_pv_cons (v_iload_n (q := 2) (by decide +kernel) rfl) rfl ?_
  refine am_pv_cons (v_virt (idx := 59) yv_Camping_isWrong rfl rfl (tb4 66 (by decide +kernel) rfl) (by decide +kernel)) rfl ?_
  refine am_pv_cons (v_if_eq (off := 6) (by decide +kernel) rfl) rfl ?_
  refine am_pv_cons (v_iinc (n := 1) (by decide +kernel) (by decide +kernel)) rfl ?_
  refine am_pv_cons (v_iinc (n := 1) (by decide +kernel) (by decide +kernel)) rfl ?_
  refine am_pv_cons (v_goto (off := -25) (by decide +kernel) rfl) rfl ?_
  refine am_pv_cons (v_iload_n (q := 1) (by decide +kernel) rfl) rfl ?_
  refine am_pv_cons (v_ireturn (by decide +kernel)) trivial ?_
  exact trivial
def P_Camping_isWrong (E : am_E) (k : Nat) : am_P := [(0, aLa 0), (1, aLa 0), (2, aGet 8 1), (5, aGet 2 1), (8, aLi 1), (9, aAld 0), (10, aIv E k 8 1 Y_Camping_campOf), (13, aSi 2), (14, aLa 0), (15, aLa 0), (16, aGet 8 1), (19, aGet 2 2), (22, aLi 1), (23, aAld 0), (24, aIv E k 8 1 Y_Camping_campOf), (27, aSi 3), (28, aLi 2), (29, aI 9), (31, c_eq 65), (34, aLi 3), (35, aI 9), (37, c_eq 65), (40, aLa 0), (41, aGet 8 1), (44, aLi 1), (45, aLi 2), (46, aLi 3), (47, c_ne 54), (50, aI 1), (51, aGo 55), (54, aI 0), (55, aIv E k 2 2 Y_Feelings_isWrong), (58, z_eq 65), (61, aI 1), (62, aGo 66), (65, aI 0), (66, aRi)]
set_option maxRecDepth 20000 in
theorem pv_Camping_isWrong (E : am_E) (k : Nat) : am_pv E k Y_Camping_isWrong.2.1 Y_Camping_isWrong.2.2.1 Y_Camping_isWrong.1.cls (P_Camping_isWrong E k) := by
  refine am_pv_cons (v_aload_n (q := 0) (by decide +kernel) rfl) rfl ?_
  refine am_pv_cons (v_aload_n (q := 0) (by decide +kernel) rfl) rfl ?_
  refine am_pv_cons (v_get fl_Camping_19 (by decide +kernel)) rfl ?_
  refine am_pv_cons (v_get fl_Camping_63 (by decide +kernel)) rfl ?_
  refine am_pv_cons (v_iload_n (q := 1) (by decide +kernel) rfl) rfl ?_
  refine am_pv_cons (v_iald (by decide +kernel)) rfl ?_
  refine am_pv_cons (v_virt (idx := 49) yv_Camping_campOf rfl rfl (tb4 58 (by decide +kernel) rfl) (by decide +kernel)) rfl ?_
  refine am_pv_cons (v_istore_n (q := 2) (by decide +kernel) rfl) rfl ?_
  refine am_pv_cons (v_aload_n (q := 0) (by decide +kernel) rfl) rfl ?_
  refine am_pv_cons (v_aload_n (q := 0) (by decide +kernel) rfl) rfl ?_
  refine am_pv_cons (v_get fl_Camping_19 (by decide +kernel)) rfl ?_
  refine am_pv_cons (v_get fl_Camping_66 (by decide +kernel)) rfl ?_
  refine am_pv_cons (v_iload_n (q := 1) (by decide +kernel) rfl) rfl ?_
  refine am_pv_cons (v_iald (by decide +kernel)) rfl ?_
  refine am_pv_cons (v_virt (idx := 49) yv_Camping_campOf rfl rfl (tb4 58 (by decide +kernel) rfl) (by decide +kernel)) rfl ?_
  refine am_pv_cons (v_istore_n (q := 3) (by decide +kernel) rfl) rfl ?_
  refine am_pv_cons (v_iload_n (q := 2) (by decide +kernel) rfl) rfl ?_
  refine am_pv_cons (v_bipush (n := 9) (by decide +kernel) (by decide +kernel)) rfl ?_
  refine am_pv_cons (v_ic_eq (off := 34) (by decide +kernel) rfl) rfl ?_
  refine am_pv_cons (v_iload_n (q := 3) (by decide +kernel) rfl) rfl ?_
  refine am_pv_cons (v_bipush (n := 9) (by decide +kernel) (by decide +kernel)) rfl ?_
  refine am_pv_cons (v_ic_eq (off := 28) (by decide +kernel) rfl) rfl ?_
  refine am_pv_cons (v_aload_n (q := 0) (by decide +kernel) rfl) rfl ?_
  refine am_pv_cons (v_get fl_Camping_19 (by decide +kernel)) rfl ?_
  refine am_pv_cons (v_iload_n (q := 1) (by decide +kernel) rfl) rfl ?_
  refine am_pv_cons (v_iload_n (q := 2) (by decide +kernel) rfl) rfl ?_
  refine am_pv_cons (v_iload_n (q := 3) (by decide +kernel) rfl) rfl ?_
  refine am_pv_cons (v_ic_ne (off := 7) (by decide +kernel) rfl) rfl ?_
  refine am_pv_cons (v_iconst (n := 1) (by decide +kernel) rfl) rfl ?_
  refine am_pv_cons (v_goto (off := 4) (by decide +kernel) rfl) rfl ?_
  refine am_pv_cons (v_iconst (n := 0) (by decide +kernel) rfl) rfl ?_
  refine am_pv_cons (v_virt (idx := 69) yv_Feelings_isWrong rfl rfl (tb4 70 (by decide +kernel) rfl) (by decide +kernel)) rfl ?_
  refine am_pv_cons (v_if_eq (off := 7) (by decide +kernel) rfl) rfl ?_
  refine am_pv_cons (v_iconst (n := 1) (by decide +kernel) rfl) rfl ?_
  refine am_pv_cons (v_goto (off := 4) (by decide +kernel) rfl) rfl ?_
  refine am_pv_cons (v_iconst (n := 0) (by decide +kernel) rfl) rfl ?_
  refine am_pv_cons (v_ireturn (by decide +kernel)) trivial ?_
  exact trivial
def P_Camping_judged (E : am_E) (k : Nat) : am_P := [(0, aLa 0), (1, aGet 8 2), (4, aIv E k 4 0 Y_Law_weigh), (7, aLa 0), (8, aGet 8 3), (11, aI 2), (12, aIs E k 2 Y_TC_isUnder), (15, z_eq 30), (18, aJ 3), (21, aLa 0), (22, aIv E k 8 0 Y_Camping_usedCamps), (25, aI2L), (26, a_lmul), (27, aGo 31), (30, aJ 0), (31, aSj 1), (32, aI 0), (33, aSi 3), (34, aLi 3), (35, aLa 0), (36, aGet 8 1), (39, aGet 2 0), (42, c_ge 67), (45, aLa 0), (46, aLi 3), (47, aIv E k 8 1 Y_Camping_isWrong), (50, z_eq 61), (53, aLj 1), (54, aLa 0), (55, aLi 3), (56, aIv E k 8 1 Y_Camping_costOfWrong), (59, a_ladd), (60, aSj 1), (61, aInc 3 1), (64, aGo 34), (67, aI 0), (68, aSi 3), (69, aLi 3), (70, aLa 0), (71, aGet 8 0), (74, aGet 1 0), (77, c_ge 94), (80, aLj 1), (81, aLa 0), (82, aLi 3), (83, aIv E k 8 1 Y_Camping_costOfPerson), (86, a_ladd), (87, aSj 1), (88, aInc 3 1), (91, aGo 69), (94, aLj 1), (95, aRl)]
set_option maxRecDepth 20000 in
theorem pv_Camping_judged (E : am_E) (k : Nat) : am_pv E k Y_Camping_judged.2.1 Y_Camping_judged.2.2.1 Y_Camping_judged.1.cls (P_Camping_judged E k) := by
  refine am_pv_cons (v_aload_n (q := 0) (by decide +kernel) rfl) rfl ?_
  refine am_pv_cons (v_get fl_Camping_23 (by decide +kernel)) rfl ?_
  refine am_pv_cons (v_virt (idx := 72) yv_Law_weigh rfl rfl (tb4 83 (by decide +kernel) rfl) (by decide +kernel)) rfl ?_
  refine am_pv_cons (v_aload_n (q := 0) (by decide +kernel) rfl) rfl ?_
  refine am_pv_cons (v_get fl_Camping_27 (by decide +kernel)) rfl ?_
  refine am_pv_cons (v_iconst (n := 2) (by decide +kernel) rfl) rfl ?_
  refine am_pv_cons (v_statN (idx := 77) (host := "TwoCamps") ys_TC_isUnder (List.mem_of_getElem? (i := 5) (by decide +kernel)) (by decide +kernel)) rfl ?_
  refine am_pv_cons (v_if_eq (off := 15) (by decide +kernel) rfl) rfl ?_
  refine am_pv_cons (v_ldc2 (i := 81) (tb4 94 (by decide +kernel) rfl) (by decide +kernel)) rfl ?_
  refine am_pv_cons (v_aload_n (q := 0) (by decide +kernel) rfl) rfl ?_
  refine am_pv_cons (v_virt (idx := 83) yv_Camping_usedCamps rfl rfl (tb4 95 (by decide +kernel) rfl) (by decide +kernel)) rfl ?_
  refine am_pv_cons (v_i2l (by decide +kernel)) rfl ?_
  refine am_pv_cons (v_lmul (by decide +kernel)) rfl ?_
  refine am_pv_cons (v_goto (off := 4) (by decide +kernel) rfl) rfl ?_
  refine am_pv_cons (v_lconst (n := 0) (by decide +kernel) rfl) rfl ?_
  refine am_pv_cons (v_lstore_n (q := 1) (by decide +kernel) rfl) rfl ?_
  refine am_pv_cons (v_iconst (n := 0) (by decide +kernel) rfl) rfl ?_
  refine am_pv_cons (v_istore_n (q := 3) (by decide +kernel) rfl) rfl ?_
  refine am_pv_cons (v_iload_n (q := 3) (by decide +kernel) rfl) rfl ?_
  refine am_pv_cons (v_aload_n (q := 0) (by decide +kernel) rfl) rfl ?_
  refine am_pv_cons (v_get fl_Camping_19 (by decide +kernel)) rfl ?_
  refine am_pv_cons (v_get fl_Camping_56 (by decide +kernel)) rfl ?_
  refine am_pv_cons (v_ic_ge (off := 25) (by decide +kernel) rfl) rfl ?_
  refine am_pv_cons (v_aload_n (q := 0) (by decide +kernel) rfl) rfl ?_
  refine am_pv_cons (v_iload_n (q := 3) (by decide +kernel) rfl) rfl ?_
  refine am_pv_cons (v_virt (idx := 59) yv_Camping_isWrong rfl rfl (tb4 66 (by decide +kernel) rfl) (by decide +kernel)) rfl ?_
  refine am_pv_cons (v_if_eq (off := 11) (by decide +kernel) rfl) rfl ?_
  refine am_pv_cons (v_lload_n (q := 1) (by decide +kernel) rfl) rfl ?_
  refine am_pv_cons (v_aload_n (q := 0) (by decide +kernel) rfl) rfl ?_
  refine am_pv_cons (v_iload_n (q := 3) (by decide +kernel) rfl) rfl ?_
  refine am_pv_cons (v_virt (idx := 87) yv_Camping_costOfWrong rfl rfl (tb4 96 (by decide +kernel) rfl) (by decide +kernel)) rfl ?_
  refine am_pv_cons (v_ladd (by decide +kernel)) rfl ?_
  refine am_pv_cons (v_lstore_n (q := 1) (by decide +kernel) rfl) rfl ?_
  refine am_pv_cons (v_iinc (n := 1) (by decide +kernel) (by decide +kernel)) rfl ?_
  refine am_pv_cons (v_goto (off := -30) (by decide +kernel) rfl) rfl ?_
  refine am_pv_cons (v_iconst (n := 0) (by decide +kernel) rfl) rfl ?_
  refine am_pv_cons (v_istore_n (q := 3) (by decide +kernel) rfl) rfl ?_
  refine am_pv_cons (v_iload_n (q := 3) (by decide +kernel) rfl) rfl ?_
  refine am_pv_cons (v_aload_n (q := 0) (by decide +kernel) rfl) rfl ?_
  refine am_pv_cons (v_get fl_Camping_15 (by decide +kernel)) rfl ?_
  refine am_pv_cons (v_get fl_Camping_46 (by decide +kernel)) rfl ?_
  refine am_pv_cons (v_ic_ge (off := 17) (by decide +kernel) rfl) rfl ?_
  refine am_pv_cons (v_lload_n (q := 1) (by decide +kernel) rfl) rfl ?_
  refine am_pv_cons (v_aload_n (q := 0) (by decide +kernel) rfl) rfl ?_
  refine am_pv_cons (v_iload_n (q := 3) (by decide +kernel) rfl) rfl ?_
  refine am_pv_cons (v_virt (idx := 91) yv_Camping_costOfPerson rfl rfl (tb4 101 (by decide +kernel) rfl) (by decide +kernel)) rfl ?_
  refine am_pv_cons (v_ladd (by decide +kernel)) rfl ?_
  refine am_pv_cons (v_lstore_n (q := 1) (by decide +kernel) rfl) rfl ?_
  refine am_pv_cons (v_iinc (n := 1) (by decide +kernel) (by decide +kernel)) rfl ?_
  refine am_pv_cons (v_goto (off := -22) (by decide +kernel) rfl) rfl ?_
  refine am_pv_cons (v_lload_n (q := 1) (by decide +kernel) rfl) rfl ?_
  refine am_pv_cons (v_lreturn (by decide +kernel)) trivial ?_
  exact trivial
def P_Camping_costOfWrong (E : am_E) (k : Nat) : am_P := [(0, aLa 0), (1, aGet 8 3), (4, aI 3), (5, aIs E k 2 Y_TC_isUnder), (8, z_eq 27), (11, aLa 0), (12, aGet 8 1), (15, aGet 2 3), (18, aLi 1), (19, aAld 0), (20, z_ge 27), (23, aI 1), (24, aGo 28), (27, aI 0), (28, aSi 2), (29, aLi 2), (30, z_eq 47), (33, aLa 0), (34, aGet 8 2), (37, aGet 4 4), (40, aLi 1), (41, aAld 0), (42, aI 2), (43, a_idiv), (44, aGo 56), (47, aLa 0), (48, aGet 8 2), (51, aGet 4 4), (54, aLi 1), (55, aAld 0), (56, aSi 3), (57, aLa 0), (58, aGet 8 2), (61, aGet 4 5), (64, aLi 1), (65, aAld 1), (66, z_eq 74), (69, aLi 3), (70, aI2L), (71, aGo 79), (74, aLi 3), (75, aI 100000), (77, a_iadd), (78, aI2L), (79, aRl)]
set_option maxRecDepth 20000 in
theorem pv_Camping_costOfWrong (E : am_E) (k : Nat) : am_pv E k Y_Camping_costOfWrong.2.1 Y_Camping_costOfWrong.2.2.1 Y_Camping_costOfWrong.1.cls (P_Camping_costOfWrong E k) := by
  refine am_pv_cons (v_aload_n (q := 0) (by decide +kernel) rfl) rfl ?_
  refine am_pv_cons (v_get fl_Camping_27 (by decide +kernel)) rfl ?_
  refine am_pv_cons (v_iconst (n := 3) (by decide +kernel) rfl) rfl ?_
  refine am_pv_cons (v_statN (idx := 77) (host := "TwoCamps") ys_TC_isUnder (List.mem_of_getElem? (i := 5) (by decide +kernel)) (by decide +kernel)) rfl ?_
  refine am_pv_cons (v_if_eq (off := 19) (by decide +kernel) rfl) rfl ?_
  refine am_pv_cons (v_aload_n (q := 0) (by decide +kernel) rfl) rfl ?_
  refine am_pv_cons (v_get fl_Camping_19 (by decide +kernel)) rfl ?_
  refine am_pv_cons (v_get fl_Camping_94 (by decide +kernel)) rfl ?_
  refine am_pv_cons (v_iload_n (q := 1) (by decide +kernel) rfl) rfl ?_
  refine am_pv_cons (v_iald (by decide +kernel)) rfl ?_
  refine am_pv_cons (v_if_ge (off := 7) (by decide +kernel) rfl) rfl ?_
  refine am_pv_cons (v_iconst (n := 1) (by decide +kernel) rfl) rfl ?_
  refine am_pv_cons (v_goto (off := 4) (by decide +kernel) rfl) rfl ?_
  refine am_pv_cons (v_iconst (n := 0) (by decide +kernel) rfl) rfl ?_
  refine am_pv_cons (v_istore_n (q := 2) (by decide +kernel) rfl) rfl ?_
  refine am_pv_cons (v_iload_n (q := 2) (by decide +kernel) rfl) rfl ?_
  refine am_pv_cons (v_if_eq (off := 17) (by decide +kernel) rfl) rfl ?_
  refine am_pv_cons (v_aload_n (q := 0) (by decide +kernel) rfl) rfl ?_
  refine am_pv_cons (v_get fl_Camping_23 (by decide +kernel)) rfl ?_
  refine am_pv_cons (v_get fl_Camping_97 (by decide +kernel)) rfl ?_
  refine am_pv_cons (v_iload_n (q := 1) (by decide +kernel) rfl) rfl ?_
  refine am_pv_cons (v_iald (by decide +kernel)) rfl ?_
  refine am_pv_cons (v_iconst (n := 2) (by decide +kernel) rfl) rfl ?_
  refine am_pv_cons (v_idiv (by decide +kernel)) rfl ?_
  refine am_pv_cons (v_goto (off := 12) (by decide +kernel) rfl) rfl ?_
  refine am_pv_cons (v_aload_n (q := 0) (by decide +kernel) rfl) rfl ?_
  refine am_pv_cons (v_get fl_Camping_23 (by decide +kernel)) rfl ?_
  refine am_pv_cons (v_get fl_Camping_97 (by decide +kernel)) rfl ?_
  refine am_pv_cons (v_iload_n (q := 1) (by decide +kernel) rfl) rfl ?_
  refine am_pv_cons (v_iald (by decide +kernel)) rfl ?_
  refine am_pv_cons (v_istore_n (q := 3) (by decide +kernel) rfl) rfl ?_
  refine am_pv_cons (v_aload_n (q := 0) (by decide +kernel) rfl) rfl ?_
  refine am_pv_cons (v_get fl_Camping_23 (by decide +kernel)) rfl ?_
  refine am_pv_cons (v_get fl_Camping_100 (by decide +kernel)) rfl ?_
  refine am_pv_cons (v_iload_n (q := 1) (by decide +kernel) rfl) rfl ?_
  refine am_pv_cons (v_zald (by decide +kernel)) rfl ?_
  refine am_pv_cons (v_if_eq (off := 8) (by decide +kernel) rfl) rfl ?_
  refine am_pv_cons (v_iload_n (q := 3) (by decide +kernel) rfl) rfl ?_
  refine am_pv_cons (v_i2l (by decide +kernel)) rfl ?_
  refine am_pv_cons (v_goto (off := 8) (by decide +kernel) rfl) rfl ?_
  refine am_pv_cons (v_iload_n (q := 3) (by decide +kernel) rfl) rfl ?_
  refine am_pv_cons (v_ldc (i := 104) (tb4 100 (by decide +kernel) rfl) (by decide +kernel)) rfl ?_
  refine am_pv_cons (v_iadd (by decide +kernel)) rfl ?_
  refine am_pv_cons (v_i2l (by decide +kernel)) rfl ?_
  refine am_pv_cons (v_lreturn (by decide +kernel)) trivial ?_
  exact trivial
def P_Camping_costOfPerson (E : am_E) (k : Nat) : am_P := [(0, aLa 0), (1, aLi 1), (2, aIv E k 8 1 Y_Camping_campOf), (5, aSi 2), (6, aI 0), (7, aSi 3), (8, aLi 2), (9, aI 9), (11, c_ne 43), (14, aLi 3), (15, aLa 0), (16, aGet 8 3), (19, aI 4), (20, aIs E k 2 Y_TC_isUnder), (23, z_eq 38), (26, aLa 0), (27, aGet 8 0), (30, aGet 1 1), (33, aLi 1), (34, aAld 0), (35, aGo 41), (38, aI 7000), (41, a_iadd), (42, aSi 3), (43, aLa 0), (44, aGet 8 3), (47, aI 1), (48, aIs E k 2 Y_TC_isUnder), (51, z_eq 70), (54, aLi 2), (55, aI 2), (56, c_eq 64), (59, aLi 2), (60, aI 3), (61, c_ne 70), (64, aInc 3 5000), (70, aLa 0), (71, aGet 8 0), (74, aGet 1 2), (77, aLi 1), (78, aAld 0), (79, aSi 4), (81, aLa 0), (82, aGet 8 3), (85, aI 5), (86, aIs E k 2 Y_TC_isUnder), (89, z_eq 107), (92, aLi 4), (94, aI (-1)), (95, c_eq 107), (98, aLi 4), (100, aLi 2), (101, c_eq 107), (104, aInc 3 50), (107, aLi 3), (108, aI2L), (109, aRl)]
set_option maxRecDepth 20000 in
theorem pv_Camping_costOfPerson (E : am_E) (k : Nat) : am_pv E k Y_Camping_costOfPerson.2.1 Y_Camping_costOfPerson.2.2.1 Y_Camping_costOfPerson.1.cls (P_Camping_costOfPerson E k) := by
  refine am_pv_cons (v_aload_n (q := 0) (by decide +kernel) rfl) rfl ?_
  refine am_pv_cons (v_iload_n (q := 1) (by decide +kernel) rfl) rfl ?_
  refine am_pv_cons (v_virt (idx := 49) yv_Camping_campOf rfl rfl (tb4 58 (by decide +kernel) rfl) (by decide +kernel)) rfl ?_
  refine am_pv_cons (v_istore_n (q := 2) (by decide +kernel) rfl) rfl ?_
  refine am_pv_cons (v_iconst (n := 0) (by decide +kernel) rfl) rfl ?_
  refine am_pv_cons (v_istore_n (q := 3) (by decide +kernel) rfl) rfl ?_
  refine am_pv_cons (v_iload_n (q := 2) (by decide +kernel) rfl) rfl ?_
  refine am_pv_cons (v_bipush (n := 9) (by decide +kernel) (by decide +kernel)) rfl ?_
  refine am_pv_cons (v_ic_ne (off := 32) (by decide +kernel) rfl) rfl ?_
  refine am_pv_cons (v_iload_n (q := 3) (by decide +kernel) rfl) rfl ?_
  refine am_pv_cons (v_aload_n (q := 0) (by decide +kernel) rfl) rfl ?_
  refine am_pv_cons (v_get fl_Camping_27 (by decide +kernel)) rfl ?_
  refine am_pv_cons (v_iconst (n := 4) (by decide +kernel) rfl) rfl ?_
  refine am_pv_cons (v_statN (idx := 77) (host := "TwoCamps") ys_TC_isUnder (List.mem_of_getElem? (i := 5) (by decide +kernel)) (by decide +kernel)) rfl ?_
  refine am_pv_cons (v_if_eq (off := 15) (by decide +kernel) rfl) rfl ?_
  refine am_pv_cons (v_aload_n (q := 0) (by decide +kernel) rfl) rfl ?_
  refine am_pv_cons (v_get fl_Camping_15 (by decide +kernel)) rfl ?_
  refine am_pv_cons (v_get fl_Camping_105 (by decide +kernel)) rfl ?_
  refine am_pv_cons (v_iload_n (q := 1) (by decide +kernel) rfl) rfl ?_
  refine am_pv_cons (v_iald (by decide +kernel)) rfl ?_
  refine am_pv_cons (v_goto (off := 6) (by decide +kernel) rfl) rfl ?_
  refine am_pv_cons (v_sipush (n := 7000) (by decide +kernel) (by decide +kernel)) rfl ?_
  refine am_pv_cons (v_iadd (by decide +kernel)) rfl ?_
  refine am_pv_cons (v_istore_n (q := 3) (by decide +kernel) rfl) rfl ?_
  refine am_pv_cons (v_aload_n (q := 0) (by decide +kernel) rfl) rfl ?_
  refine am_pv_cons (v_get fl_Camping_27 (by decide +kernel)) rfl ?_
  refine am_pv_cons (v_iconst (n := 1) (by decide +kernel) rfl) rfl ?_
  refine am_pv_cons (v_statN (idx := 77) (host := "TwoCamps") ys_TC_isUnder (List.mem_of_getElem? (i := 5) (by decide +kernel)) (by decide +kernel)) rfl ?_
  refine am_pv_cons (v_if_eq (off := 19) (by decide +kernel) rfl) rfl ?_
  refine am_pv_cons (v_iload_n (q := 2) (by decide +kernel) rfl) rfl ?_
  refine am_pv_cons (v_iconst (n := 2) (by decide +kernel) rfl) rfl ?_
  refine am_pv_cons (v_ic_eq (off := 8) (by decide +kernel) rfl) rfl ?_
  refine am_pv_cons (v_iload_n (q := 2) (by decide +kernel) rfl) rfl ?_
  refine am_pv_cons (v_iconst (n := 3) (by decide +kernel) rfl) rfl ?_
  refine am_pv_cons (v_ic_ne (off := 9) (by decide +kernel) rfl) rfl ?_
  refine am_pv_cons (v_iincW (n := 5000) (by decide +kernel) (by decide +kernel)) rfl ?_
  refine am_pv_cons (v_aload_n (q := 0) (by decide +kernel) rfl) rfl ?_
  refine am_pv_cons (v_get fl_Camping_15 (by decide +kernel)) rfl ?_
  refine am_pv_cons (v_get fl_Camping_108 (by decide +kernel)) rfl ?_
  refine am_pv_cons (v_iload_n (q := 1) (by decide +kernel) rfl) rfl ?_
  refine am_pv_cons (v_iald (by decide +kernel)) rfl ?_
  refine am_pv_cons (v_istore (by decide +kernel)) rfl ?_
  refine am_pv_cons (v_aload_n (q := 0) (by decide +kernel) rfl) rfl ?_
  refine am_pv_cons (v_get fl_Camping_27 (by decide +kernel)) rfl ?_
  refine am_pv_cons (v_iconst (n := 5) (by decide +kernel) rfl) rfl ?_
  refine am_pv_cons (v_statN (idx := 77) (host := "TwoCamps") ys_TC_isUnder (List.mem_of_getElem? (i := 5) (by decide +kernel)) (by decide +kernel)) rfl ?_
  refine am_pv_cons (v_if_eq (off := 18) (by decide +kernel) rfl) rfl ?_
  refine am_pv_cons (v_iload (by decide +kernel)) rfl ?_
  refine am_pv_cons (v_iconst (n := -1) (by decide +kernel) rfl) rfl ?_
  refine am_pv_cons (v_ic_eq (off := 12) (by decide +kernel) rfl) rfl ?_
  refine am_pv_cons (v_iload (by decide +kernel)) rfl ?_
  refine am_pv_cons (v_iload_n (q := 2) (by decide +kernel) rfl) rfl ?_
  refine am_pv_cons (v_ic_eq (off := 6) (by decide +kernel) rfl) rfl ?_
  refine am_pv_cons (v_iinc (n := 50) (by decide +kernel) (by decide +kernel)) rfl ?_
  refine am_pv_cons (v_iload_n (q := 3) (by decide +kernel) rfl) rfl ?_
  refine am_pv_cons (v_i2l (by decide +kernel)) rfl ?_
  refine am_pv_cons (v_lreturn (by decide +kernel)) trivial ?_
  exact trivial
def P_Net_leastOf (E : am_E) (k : Nat) : am_P := [(0, aLa 0), (1, aLi 1), (2, aI 0), (3, aIv E k 9 2 Y_Net_reach), (6, aSi 2), (7, aI 0), (8, aSi 3), (9, aI 0), (10, aSi 4), (12, aLi 4), (14, aLi 1), (15, c_ge 35), (18, aLi 2), (19, aLi 3), (20, a_ishr), (21, aI 1), (22, a_iand), (23, z_ne 35), (26, aInc 3 1), (29, aInc 4 1), (32, aGo 12), (35, aLi 3), (36, aRi)]
set_option maxRecDepth 20000 in
theorem pv_Net_leastOf (E : am_E) (k : Nat) : am_pv E k Y_Net_leastOf.2.1 Y_Net_leastOf.2.2.1 Y_Net_leastOf.1.cls (P_Net_leastOf E k) := by
  refine am_pv_cons (v_aload_n (q := 0) (by decide +kernel) rfl) rfl ?_
  refine am_pv_cons (v_iload_n (q := 1) (by decide +kernel) rfl) rfl ?_
  refine am_pv_cons (v_iconst (n := 0) (by decide +kernel) rfl) rfl ?_
  refine am_pv_cons (v_virt (idx := 32) yv_Net_reach rfl rfl (tb4 153 (by decide +kernel) rfl) (by decide +kernel)) rfl ?_
  refine am_pv_cons (v_istore_n (q := 2) (by decide +kernel) rfl) rfl ?_
  refine am_pv_cons (v_iconst (n := 0) (by decide +kernel) rfl) rfl ?_
  refine am_pv_cons (v_istore_n (q := 3) (by decide +kernel) rfl) rfl ?_
  refine am_pv_cons (v_iconst (n := 0) (by decide +kernel) rfl) rfl ?_
  refine am_pv_cons (v_istore (by decide +kernel)) rfl ?_
  refine am_pv_cons (v_iload (by decide +kernel)) rfl ?_
  refine am_pv_cons (v_iload_n (q := 1) (by decide +kernel) rfl) rfl ?_
  refine am_pv_cons (v_ic_ge (off := 20) (by decide +kernel) rfl) rfl ?_
  refine am_pv_cons (v_iload_n (q := 2) (by decide +kernel) rfl) rfl ?_
  refine am_pv_cons (v_iload_n (q := 3) (by decide +kernel) rfl) rfl ?_
  refine am_pv_cons (v_ishr (by decide +kernel)) rfl ?_
  refine am_pv_cons (v_iconst (n := 1) (by decide +kernel) rfl) rfl ?_
  refine am_pv_cons (v_iand (by decide +kernel)) rfl ?_
  refine am_pv_cons (v_if_ne (off := 12) (by decide +kernel) rfl) rfl ?_
  refine am_pv_cons (v_iinc (n := 1) (by decide +kernel) (by decide +kernel)) rfl ?_
  refine am_pv_cons (v_iinc (n := 1) (by decide +kernel) (by decide +kernel)) rfl ?_
  refine am_pv_cons (v_goto (off := -20) (by decide +kernel) rfl) rfl ?_
  refine am_pv_cons (v_iload_n (q := 3) (by decide +kernel) rfl) rfl ?_
  refine am_pv_cons (v_ireturn (by decide +kernel)) trivial ?_
  exact trivial
def P_Net_countWithout (E : am_E) (k : Nat) : am_P := [(0, aLi 1), (1, aSi 2), (2, aI 0), (3, aSi 3), (4, aI 0), (5, aSi 4), (7, aLi 4), (9, aLa 0), (10, aGet 9 0), (13, aGet 1 0), (16, c_ge 47), (19, aLi 2), (20, aLi 4), (22, a_ishr), (23, aI 1), (24, a_iand), (25, z_ne 41), (28, aLi 2), (29, aLa 0), (30, aLi 4), (32, aLi 1), (33, aIv E k 9 2 Y_Net_reach), (36, a_ior), (37, aSi 2), (38, aInc 3 1), (41, aInc 4 1), (44, aGo 7), (47, aLi 3), (48, aRi)]
set_option maxRecDepth 20000 in
theorem pv_Net_countWithout (E : am_E) (k : Nat) : am_pv E k Y_Net_countWithout.2.1 Y_Net_countWithout.2.2.1 Y_Net_countWithout.1.cls (P_Net_countWithout E k) := by
  refine am_pv_cons (v_iload_n (q := 1) (by decide +kernel) rfl) rfl ?_
  refine am_pv_cons (v_istore_n (q := 2) (by decide +kernel) rfl) rfl ?_
  refine am_pv_cons (v_iconst (n := 0) (by decide +kernel) rfl) rfl ?_
  refine am_pv_cons (v_istore_n (q := 3) (by decide +kernel) rfl) rfl ?_
  refine am_pv_cons (v_iconst (n := 0) (by decide +kernel) rfl) rfl ?_
  refine am_pv_cons (v_istore (by decide +kernel)) rfl ?_
  refine am_pv_cons (v_iload (by decide +kernel)) rfl ?_
  refine am_pv_cons (v_aload_n (q := 0) (by decide +kernel) rfl) rfl ?_
  refine am_pv_cons (v_get fl_Net_24 (by decide +kernel)) rfl ?_
  refine am_pv_cons (v_get fl_Net_36 (by decide +kernel)) rfl ?_
  refine am_pv_cons (v_ic_ge (off := 31) (by decide +kernel) rfl) rfl ?_
  refine am_pv_cons (v_iload_n (q := 2) (by decide +kernel) rfl) rfl ?_
  refine am_pv_cons (v_iload (by decide +kernel)) rfl ?_
  refine am_pv_cons (v_ishr (by decide +kernel)) rfl ?_
  refine am_pv_cons (v_iconst (n := 1) (by decide +kernel) rfl) rfl ?_
  refine am_pv_cons (v_iand (by decide +kernel)) rfl ?_
  refine am_pv_cons (v_if_ne (off := 16) (by decide +kernel) rfl) rfl ?_
  refine am_pv_cons (v_iload_n (q := 2) (by decide +kernel) rfl) rfl ?_
  refine am_pv_cons (v_aload_n (q := 0) (by decide +kernel) rfl) rfl ?_
  refine am_pv_cons (v_iload (by decide +kernel)) rfl ?_
  refine am_pv_cons (v_iload_n (q := 1) (by decide +kernel) rfl) rfl ?_
  refine am_pv_cons (v_virt (idx := 32) yv_Net_reach rfl rfl (tb4 153 (by decide +kernel) rfl) (by decide +kernel)) rfl ?_
  refine am_pv_cons (v_ior (by decide +kernel)) rfl ?_
  refine am_pv_cons (v_istore_n (q := 2) (by decide +kernel) rfl) rfl ?_
  refine am_pv_cons (v_iinc (n := 1) (by decide +kernel) (by decide +kernel)) rfl ?_
  refine am_pv_cons (v_iinc (n := 1) (by decide +kernel) (by decide +kernel)) rfl ?_
  refine am_pv_cons (v_goto (off := -37) (by decide +kernel) rfl) rfl ?_
  refine am_pv_cons (v_iload_n (q := 3) (by decide +kernel) rfl) rfl ?_
  refine am_pv_cons (v_ireturn (by decide +kernel)) trivial ?_
  exact trivial
def P_Net_reach (E : am_E) (k : Nat) : am_P := [(0, aI 1), (1, aLi 1), (2, a_ishl), (3, aSi 3), (4, aI 0), (5, aSi 4), (7, aI 0), (8, aSi 5), (10, aLi 5), (12, aI 9), (14, c_ge 83), (17, aLi 3), (18, aLi 4), (20, c_eq 83), (23, aLi 3), (24, aSi 4), (26, aI 0), (27, aSi 6), (29, aLi 6), (31, aLa 0), (32, aGet 9 1), (35, aGet 2 0), (38, c_ge 77), (41, aLa 0), (42, aGet 9 1), (45, aLi 6), (47, aIv E k 2 1 Y_Feelings_bitsOf), (50, aSi 7), (52, aLi 7), (54, aLi 2), (55, a_iand), (56, z_ne 71), (59, aLi 7), (61, aLi 3), (62, a_iand), (63, z_eq 71), (66, aLi 3), (67, aLi 7), (69, a_ior), (70, aSi 3), (71, aInc 6 1), (74, aGo 29), (77, aInc 5 1), (80, aGo 10), (83, aLi 3), (84, aRi)]
set_option maxRecDepth 20000 in
theorem pv_Net_reach (E : am_E) (k : Nat) : am_pv E k Y_Net_reach.2.1 Y_Net_reach.2.2.1 Y_Net_reach.1.cls (P_Net_reach E k) := by
  refine am_pv_cons (v_iconst (n := 1) (by decide +kernel) rfl) rfl ?_
  refine am_pv_cons (v_iload_n (q := 1) (by decide +kernel) rfl) rfl ?_
  refine am_pv_cons (v_ishl (by decide +kernel)) rfl ?_
  refine am_pv_cons (v_istore_n (q := 3) (by decide +kernel) rfl) rfl ?_
  refine am_pv_cons (v_iconst (n := 0) (by decide +kernel) rfl) rfl ?_
  refine am_pv_cons (v_istore (by decide +kernel)) rfl ?_
  refine am_pv_cons (v_iconst (n := 0) (by decide +kernel) rfl) rfl ?_
  refine am_pv_cons (v_istore (by decide +kernel)) rfl ?_
  refine am_pv_cons (v_iload (by decide +kernel)) rfl ?_
  refine am_pv_cons (v_bipush (n := 9) (by decide +kernel) (by decide +kernel)) rfl ?_
  refine am_pv_cons (v_ic_ge (off := 69) (by decide +kernel) rfl) rfl ?_
  refine am_pv_cons (v_iload_n (q := 3) (by decide +kernel) rfl) rfl ?_
  refine am_pv_cons (v_iload (by decide +kernel)) rfl ?_
  refine am_pv_cons (v_ic_eq (off := 63) (by decide +kernel) rfl) rfl ?_
  refine am_pv_cons (v_iload_n (q := 3) (by decide +kernel) rfl) rfl ?_
  refine am_pv_cons (v_istore (by decide +kernel)) rfl ?_
  refine am_pv_cons (v_iconst (n := 0) (by decide +kernel) rfl) rfl ?_
  refine am_pv_cons (v_istore (by decide +kernel)) rfl ?_
  refine am_pv_cons (v_iload (by decide +kernel)) rfl ?_
  refine am_pv_cons (v_aload_n (q := 0) (by decide +kernel) rfl) rfl ?_
  refine am_pv_cons (v_get fl_Net_28 (by decide +kernel)) rfl ?_
  refine am_pv_cons (v_get fl_Net_42 (by decide +kernel)) rfl ?_
  refine am_pv_cons (v_ic_ge (off := 39) (by decide +kernel) rfl) rfl ?_
  refine am_pv_cons (v_aload_n (q := 0) (by decide +kernel) rfl) rfl ?_
  refine am_pv_cons (v_get fl_Net_28 (by decide +kernel)) rfl ?_
  refine am_pv_cons (v_iload (by decide +kernel)) rfl ?_
  refine am_pv_cons (v_virt (idx := 45) yv_Feelings_bitsOf rfl rfl (tb4 135 (by decide +kernel) rfl) (by decide +kernel)) rfl ?_
  refine am_pv_cons (v_istore (by decide +kernel)) rfl ?_
  refine am_pv_cons (v_iload (by decide +kernel)) rfl ?_
  refine am_pv_cons (v_iload_n (q := 2) (by decide +kernel) rfl) rfl ?_
  refine am_pv_cons (v_iand (by decide +kernel)) rfl ?_
  refine am_pv_cons (v_if_ne (off := 15) (by decide +kernel) rfl) rfl ?_
  refine am_pv_cons (v_iload (by decide +kernel)) rfl ?_
  refine am_pv_cons (v_iload_n (q := 3) (by decide +kernel) rfl) rfl ?_
  refine am_pv_cons (v_iand (by decide +kernel)) rfl ?_
  refine am_pv_cons (v_if_eq (off := 8) (by decide +kernel) rfl) rfl ?_
  refine am_pv_cons (v_iload_n (q := 3) (by decide +kernel) rfl) rfl ?_
  refine am_pv_cons (v_iload (by decide +kernel)) rfl ?_
  refine am_pv_cons (v_ior (by decide +kernel)) rfl ?_
  refine am_pv_cons (v_istore_n (q := 3) (by decide +kernel) rfl) rfl ?_
  refine am_pv_cons (v_iinc (n := 1) (by decide +kernel) (by decide +kernel)) rfl ?_
  refine am_pv_cons (v_goto (off := -45) (by decide +kernel) rfl) rfl ?_
  refine am_pv_cons (v_iinc (n := 1) (by decide +kernel) (by decide +kernel)) rfl ?_
  refine am_pv_cons (v_goto (off := -70) (by decide +kernel) rfl) rfl ?_
  refine am_pv_cons (v_iload_n (q := 3) (by decide +kernel) rfl) rfl ?_
  refine am_pv_cons (v_ireturn (by decide +kernel)) trivial ?_
  exact trivial
def P_Net_peaceWithout (E : am_E) (k : Nat) : am_P := [(0, aLi 1), (1, aSi 2), (2, aI 0), (3, aSi 3), (4, aI 0), (5, aSi 4), (7, aLi 4), (9, aLa 0), (10, aGet 9 0), (13, aGet 1 0), (16, c_ge 54), (19, aLi 2), (20, aLi 4), (22, a_ishr), (23, aI 1), (24, a_iand), (25, z_ne 48), (28, aLi 3), (29, aLa 0), (30, aLi 4), (32, aLi 1), (33, aIv E k 9 2 Y_Net_forcedBy), (36, a_ior), (37, aSi 3), (38, aLi 2), (39, aLa 0), (40, aLi 4), (42, aLi 1), (43, aIv E k 9 2 Y_Net_reach), (46, a_ior), (47, aSi 2), (48, aInc 4 1), (51, aGo 7), (54, aI 0), (55, aSi 4), (57, aLi 4), (59, aLa 0), (60, aGet 9 1), (63, aGet 2 0), (66, c_ge 104), (69, aLa 0), (70, aGet 9 1), (73, aLi 4), (75, aIv E k 2 1 Y_Feelings_bitsOf), (78, aLi 1), (79, a_iand), (80, z_ne 98), (83, aLa 0), (84, aGet 9 1), (87, aLi 4), (89, aLi 3), (90, aIv E k 2 2 Y_Feelings_isWrongIn), (93, z_eq 98), (96, aI (-1)), (97, aRi), (98, aInc 4 1), (101, aGo 57), (104, aLi 3), (105, aRi)]
set_option maxRecDepth 20000 in
theorem pv_Net_peaceWithout (E : am_E) (k : Nat) : am_pv E k Y_Net_peaceWithout.2.1 Y_Net_peaceWithout.2.2.1 Y_Net_peaceWithout.1.cls (P_Net_peaceWithout E k) := by
  refine am_pv_cons (v_iload_n (q := 1) (by decide +kernel) rfl) rfl ?_
  refine am_pv_cons (v_istore_n (q := 2) (by decide +kernel) rfl) rfl ?_
  refine am_pv_cons (v_iconst (n := 0) (by decide +kernel) rfl) rfl ?_
  refine am_pv_cons (v_istore_n (q := 3) (by decide +kernel) rfl) rfl ?_
  refine am_pv_cons (v_iconst (n := 0) (by decide +kernel) rfl) rfl ?_
  refine am_pv_cons (v_istore (by decide +kernel)) rfl ?_
  refine am_pv_cons (v_iload (by decide +kernel)) rfl ?_
  refine am_pv_cons (v_aload_n (q := 0) (by decide +kernel) rfl) rfl ?_
  refine am_pv_cons (v_get fl_Net_24 (by decide +kernel)) rfl ?_
  refine am_pv_cons (v_get fl_Net_36 (by decide +kernel)) rfl ?_
  refine am_pv_cons (v_ic_ge (off := 38) (by decide +kernel) rfl) rfl ?_
  refine am_pv_cons (v_iload_n (q := 2) (by decide +kernel) rfl) rfl ?_
  refine am_pv_cons (v_iload (by decide +kernel)) rfl ?_
  refine am_pv_cons (v_ishr (by decide +kernel)) rfl ?_
  refine am_pv_cons (v_iconst (n := 1) (by decide +kernel) rfl) rfl ?_
  refine am_pv_cons (v_iand (by decide +kernel)) rfl ?_
  refine am_pv_cons (v_if_ne (off := 23) (by decide +kernel) rfl) rfl ?_
  refine am_pv_cons (v_iload_n (q := 3) (by decide +kernel) rfl) rfl ?_
  refine am_pv_cons (v_aload_n (q := 0) (by decide +kernel) rfl) rfl ?_
  refine am_pv_cons (v_iload (by decide +kernel)) rfl ?_
  refine am_pv_cons (v_iload_n (q := 1) (by decide +kernel) rfl) rfl ?_
  refine am_pv_cons (v_virt (idx := 49) yv_Net_forcedBy rfl rfl (tb4 131 (by decide +kernel) rfl) (by decide +kernel)) rfl ?_
  refine am_pv_cons (v_ior (by decide +kernel)) rfl ?_
  refine am_pv_cons (v_istore_n (q := 3) (by decide +kernel) rfl) rfl ?_
  refine am_pv_cons (v_iload_n (q := 2) (by decide +kernel) rfl) rfl ?_
  refine am_pv_cons (v_aload_n (q := 0) (by decide +kernel) rfl) rfl ?_
  refine am_pv_cons (v_iload (by decide +kernel)) rfl ?_
  refine am_pv_cons (v_iload_n (q := 1) (by decide +kernel) rfl) rfl ?_
  refine am_pv_cons (v_virt (idx := 32) yv_Net_reach rfl rfl (tb4 153 (by decide +kernel) rfl) (by decide +kernel)) rfl ?_
  refine am_pv_cons (v_ior (by decide +kernel)) rfl ?_
  refine am_pv_cons (v_istore_n (q := 2) (by decide +kernel) rfl) rfl ?_
  refine am_pv_cons (v_iinc (n := 1) (by decide +kernel) (by decide +kernel)) rfl ?_
  refine am_pv_cons (v_goto (off := -44) (by decide +kernel) rfl) rfl ?_
  refine am_pv_cons (v_iconst (n := 0) (by decide +kernel) rfl) rfl ?_
  refine am_pv_cons (v_istore (by decide +kernel)) rfl ?_
  refine am_pv_cons (v_iload (by decide +kernel)) rfl ?_
  refine am_pv_cons (v_aload_n (q := 0) (by decide +kernel) rfl) rfl ?_
  refine am_pv_cons (v_get fl_Net_28 (by decide +kernel)) rfl ?_
  refine am_pv_cons (v_get fl_Net_42 (by decide +kernel)) rfl ?_
  refine am_pv_cons (v_ic_ge (off := 38) (by decide +kernel) rfl) rfl ?_
  refine am_pv_cons (v_aload_n (q := 0) (by decide +kernel) rfl) rfl ?_
  refine am_pv_cons (v_get fl_Net_28 (by decide +kernel)) rfl ?_
  refine am_pv_cons (v_iload (by decide +kernel)) rfl ?_
  refine am_pv_cons (v_virt (idx := 45) yv_Feelings_bitsOf rfl rfl (tb4 135 (by decide +kernel) rfl) (by decide +kernel)) rfl ?_
  refine am_pv_cons (v_iload_n (q := 1) (by decide +kernel) rfl) rfl ?_
  refine am_pv_cons (v_iand (by decide +kernel)) rfl ?_
  refine am_pv_cons (v_if_ne (off := 18) (by decide +kernel) rfl) rfl ?_
  refine am_pv_cons (v_aload_n (q := 0) (by decide +kernel) rfl) rfl ?_
  refine am_pv_cons (v_get fl_Net_28 (by decide +kernel)) rfl ?_
  refine am_pv_cons (v_iload (by decide +kernel)) rfl ?_
  refine am_pv_cons (v_iload_n (q := 3) (by decide +kernel) rfl) rfl ?_
  refine am_pv_cons (v_virt (idx := 52) yv_Feelings_isWrongIn rfl rfl (tb4 145 (by decide +kernel) rfl) (by decide +kernel)) rfl ?_
  refine am_pv_cons (v_if_eq (off := 5) (by decide +kernel) rfl) rfl ?_
  refine am_pv_cons (v_iconst (n := -1) (by decide +kernel) rfl) rfl ?_
  refine am_pv_cons (v_ireturn (by decide +kernel)) rfl ?_
  refine am_pv_cons (v_iinc (n := 1) (by decide +kernel) (by decide +kernel)) rfl ?_
  refine am_pv_cons (v_goto (off := -44) (by decide +kernel) rfl) rfl ?_
  refine am_pv_cons (v_iload_n (q := 3) (by decide +kernel) rfl) rfl ?_
  refine am_pv_cons (v_ireturn (by decide +kernel)) trivial ?_
  exact trivial
def P_Net_forcedBy (E : am_E) (k : Nat) : am_P := [(0, aI 1), (1, aLi 1), (2, a_ishl), (3, aSi 3), (4, aI 0), (5, aSi 4), (7, aI 0), (8, aSi 5), (10, aI 0), (11, aSi 6), (13, aLi 6), (15, aI 9), (17, c_ge 117), (20, aLi 3), (21, aLi 4), (23, c_eq 117), (26, aLi 3), (27, aSi 4), (29, aI 0), (30, aSi 7), (32, aLi 7), (34, aLa 0), (35, aGet 9 1), (38, aGet 2 0), (41, c_ge 111), (44, aLa 0), (45, aGet 9 1), (48, aLi 7), (50, aIv E k 2 1 Y_Feelings_bitsOf), (53, aSi 8), (55, aLi 8), (57, aLi 3), (58, aI (-1)), (59, a_ixor), (60, a_iand), (61, aSi 9), (63, aLi 8), (65, aLi 2), (66, a_iand), (67, z_ne 105), (70, aLi 9), (72, aIs E k 1 Y_Int_bitCount), (75, aI 1), (76, c_ne 105), (79, aLi 3), (80, aLi 8), (82, a_ior), (83, aSi 3), (84, aLa 0), (85, aGet 9 1), (88, aLi 7), (90, aLi 5), (92, aIv E k 2 2 Y_Feelings_isWrongIn), (95, z_eq 105), (98, aLi 5), (100, aLi 9), (102, a_ior), (103, aSi 5), (105, aInc 7 1), (108, aGo 32), (111, aInc 6 1), (114, aGo 13), (117, aLi 5), (119, aRi)]
set_option maxRecDepth 20000 in
theorem pv_Net_forcedBy (E : am_E) (k : Nat) : am_pv E k Y_Net_forcedBy.2.1 Y_Net_forcedBy.2.2.1 Y_Net_forcedBy.1.cls (P_Net_forcedBy E k) := by
  refine am_pv_cons (v_iconst (n := 1) (by decide +kernel) rfl) rfl ?_
  refine am_pv_cons (v_iload_n (q := 1) (by decide +kernel) rfl) rfl ?_
  refine am_pv_cons (v_ishl (by decide +kernel)) rfl ?_
  refine am_pv_cons (v_istore_n (q := 3) (by decide +kernel) rfl) rfl ?_
  refine am_pv_cons (v_iconst (n := 0) (by decide +kernel) rfl) rfl ?_
  refine am_pv_cons (v_istore (by decide +kernel)) rfl ?_
  refine am_pv_cons (v_iconst (n := 0) (by decide +kernel) rfl) rfl ?_
  refine am_pv_cons (v_istore (by decide +kernel)) rfl ?_
  refine am_pv_cons (v_iconst (n := 0) (by decide +kernel) rfl) rfl ?_
  refine am_pv_cons (v_istore (by decide +kernel)) rfl ?_
  refine am_pv_cons (v_iload (by decide +kernel)) rfl ?_
  refine am_pv_cons (v_bipush (n := 9) (by decide +kernel) (by decide +kernel)) rfl ?_
  refine am_pv_cons (v_ic_ge (off := 100) (by decide +kernel) rfl) rfl ?_
  refine am_pv_cons (v_iload_n (q := 3) (by decide +kernel) rfl) rfl ?_
  refine am_pv_cons (v_iload (by decide +kernel)) rfl ?_
  refine am_pv_cons (v_ic_eq (off := 94) (by decide +kernel) rfl) rfl ?_
  refine am_pv_cons (v_iload_n (q := 3) (by decide +kernel) rfl) rfl ?_
  refine am_pv_cons (v_istore (by decide +kernel)) rfl ?_
  refine am_pv_cons (v_iconst (n := 0) (by decide +kernel) rfl) rfl ?_
  refine am_pv_cons (v_istore (by decide +kernel)) rfl ?_
  refine am_pv_cons (v_iload (by decide +kernel)) rfl ?_
  refine am_pv_cons (v_aload_n (q := 0) (by decide +kernel) rfl) rfl ?_
  refine am_pv_cons (v_get fl_Net_28 (by decide +kernel)) rfl ?_
  refine am_pv_cons (v_get fl_Net_42 (by decide +kernel)) rfl ?_
  refine am_pv_cons (v_ic_ge (off := 70) (by decide +kernel) rfl) rfl ?_
  refine am_pv_cons (v_aload_n (q := 0) (by decide +kernel) rfl) rfl ?_
  refine am_pv_cons (v_get fl_Net_28 (by decide +kernel)) rfl ?_
  refine am_pv_cons (v_iload (by decide +kernel)) rfl ?_
  refine am_pv_cons (v_virt (idx := 45) yv_Feelings_bitsOf rfl rfl (tb4 135 (by decide +kernel) rfl) (by decide +kernel)) rfl ?_
  refine am_pv_cons (v_istore (by decide +kernel)) rfl ?_
  refine am_pv_cons (v_iload (by decide +kernel)) rfl ?_
  refine am_pv_cons (v_iload_n (q := 3) (by decide +kernel) rfl) rfl ?_
  refine am_pv_cons (v_iconst (n := -1) (by decide +kernel) rfl) rfl ?_
  refine am_pv_cons (v_ixor (by decide +kernel)) rfl ?_
  refine am_pv_cons (v_iand (by decide +kernel)) rfl ?_
  refine am_pv_cons (v_istore (by decide +kernel)) rfl ?_
  refine am_pv_cons (v_iload (by decide +kernel)) rfl ?_
  refine am_pv_cons (v_iload_n (q := 2) (by decide +kernel) rfl) rfl ?_
  refine am_pv_cons (v_iand (by decide +kernel)) rfl ?_
  refine am_pv_cons (v_if_ne (off := 38) (by decide +kernel) rfl) rfl ?_
  refine am_pv_cons (v_iload (by decide +kernel)) rfl ?_
  refine am_pv_cons (v_stat (idx := 56) ys_Int_bitCount (tb4 139 (by decide +kernel) rfl) (by decide +kernel)) rfl ?_
  refine am_pv_cons (v_iconst (n := 1) (by decide +kernel) rfl) rfl ?_
  refine am_pv_cons (v_ic_ne (off := 29) (by decide +kernel) rfl) rfl ?_
  refine am_pv_cons (v_iload_n (q := 3) (by decide +kernel) rfl) rfl ?_
  refine am_pv_cons (v_iload (by decide +kernel)) rfl ?_
  refine am_pv_cons (v_ior (by decide +kernel)) rfl ?_
  refine am_pv_cons (v_istore_n (q := 3) (by decide +kernel) rfl) rfl ?_
  refine am_pv_cons (v_aload_n (q := 0) (by decide +kernel) rfl) rfl ?_
  refine am_pv_cons (v_get fl_Net_28 (by decide +kernel)) rfl ?_
  refine am_pv_cons (v_iload (by decide +kernel)) rfl ?_
  refine am_pv_cons (v_iload (by decide +kernel)) rfl ?_
  refine am_pv_cons (v_virt (idx := 52) yv_Feelings_isWrongIn rfl rfl (tb4 145 (by decide +kernel) rfl) (by decide +kernel)) rfl ?_
  refine am_pv_cons (v_if_eq (off := 10) (by decide +kernel) rfl) rfl ?_
  refine am_pv_cons (v_iload (by decide +kernel)) rfl ?_
  refine am_pv_cons (v_iload (by decide +kernel)) rfl ?_
  refine am_pv_cons (v_ior (by decide +kernel)) rfl ?_
  refine am_pv_cons (v_istore (by decide +kernel)) rfl ?_
  refine am_pv_cons (v_iinc (n := 1) (by decide +kernel) (by decide +kernel)) rfl ?_
  refine am_pv_cons (v_goto (off := -76) (by decide +kernel) rfl) rfl ?_
  refine am_pv_cons (v_iinc (n := 1) (by decide +kernel) (by decide +kernel)) rfl ?_
  refine am_pv_cons (v_goto (off := -101) (by decide +kernel) rfl) rfl ?_
  refine am_pv_cons (v_iload (by decide +kernel)) rfl ?_
  refine am_pv_cons (v_ireturn (by decide +kernel)) trivial ?_
  exact trivial
def P_Net_searchRing (E : am_E) (k : Nat) : am_P := [(0, aLa 0), (1, aI 0), (2, aPut 9 2), (5, aI 0), (6, aSi 1), (7, aLi 1), (8, aLa 0), (9, aGet 9 0), (12, aGet 1 0), (15, c_ge 34), (18, aLa 0), (19, aLi 1), (20, aIv E k 9 1 Y_Net_walk), (23, aLa 0), (24, aLi 1), (25, aIv E k 9 1 Y_Net_keepIfShorter), (28, aInc 1 1), (31, aGo 7), (34, aRv)]
set_option maxRecDepth 20000 in
theorem pv_Net_searchRing (E : am_E) (k : Nat) : am_pv E k Y_Net_searchRing.2.1 Y_Net_searchRing.2.2.1 Y_Net_searchRing.1.cls (P_Net_searchRing E k) := by
  refine am_pv_cons (v_aload_n (q := 0) (by decide +kernel) rfl) rfl ?_
  refine am_pv_cons (v_iconst (n := 0) (by decide +kernel) rfl) rfl ?_
  refine am_pv_cons (v_put fw_Net_61 (by decide +kernel)) rfl ?_
  refine am_pv_cons (v_iconst (n := 0) (by decide +kernel) rfl) rfl ?_
  refine am_pv_cons (v_istore_n (q := 1) (by decide +kernel) rfl) rfl ?_
  refine am_pv_cons (v_iload_n (q := 1) (by decide +kernel) rfl) rfl ?_
  refine am_pv_cons (v_aload_n (q := 0) (by decide +kernel) rfl) rfl ?_
  refine am_pv_cons (v_get fl_Net_24 (by decide +kernel)) rfl ?_
  refine am_pv_cons (v_get fl_Net_36 (by decide +kernel)) rfl ?_
  refine am_pv_cons (v_ic_ge (off := 19) (by decide +kernel) rfl) rfl ?_
  refine am_pv_cons (v_aload_n (q := 0) (by decide +kernel) rfl) rfl ?_
  refine am_pv_cons (v_iload_n (q := 1) (by decide +kernel) rfl) rfl ?_
  refine am_pv_cons (v_virt (idx := 64) yv_Net_walk rfl rfl (tb4 165 (by decide +kernel) rfl) (by decide +kernel)) rfl ?_
  refine am_pv_cons (v_aload_n (q := 0) (by decide +kernel) rfl) rfl ?_
  refine am_pv_cons (v_iload_n (q := 1) (by decide +kernel) rfl) rfl ?_
  refine am_pv_cons (v_virt (idx := 68) yv_Net_keepIfShorter rfl rfl (tb4 179 (by decide +kernel) rfl) (by decide +kernel)) rfl ?_
  refine am_pv_cons (v_iinc (n := 1) (by decide +kernel) (by decide +kernel)) rfl ?_
  refine am_pv_cons (v_goto (off := -24) (by decide +kernel) rfl) rfl ?_
  refine am_pv_cons (v_return_ (by decide +kernel)) trivial ?_
  exact trivial
def P_Net_walk (E : am_E) (k : Nat) : am_P := [(0, aLa 0), (1, aGet 9 6), (4, aI (-1)), (5, aIs E k 2 Y_Arr_fill), (8, aLa 0), (9, aI 0), (10, aPut 9 5), (13, aLa 0), (14, aI 2), (15, aLi 1), (16, a_imul), (17, aI 2), (18, aLi 1), (19, a_imul), (20, aI 0), (21, aIv E k 9 3 Y_Net_arrive), (24, aI 0), (25, aSi 2), (26, aLi 2), (27, aI 18), (29, c_ge 56), (32, aLi 2), (33, aLa 0), (34, aGet 9 5), (37, c_ge 56), (40, aLa 0), (41, aLa 0), (42, aGet 9 4), (45, aLi 2), (46, aAld 0), (47, aIv E k 9 1 Y_Net_leave), (50, aInc 2 1), (53, aGo 26), (56, aRv)]
set_option maxRecDepth 20000 in
theorem pv_Net_walk (E : am_E) (k : Nat) : am_pv E k Y_Net_walk.2.1 Y_Net_walk.2.2.1 Y_Net_walk.1.cls (P_Net_walk E k) := by
  refine am_pv_cons (v_aload_n (q := 0) (by decide +kernel) rfl) rfl ?_
  refine am_pv_cons (v_get fl_Net_18 (by decide +kernel)) rfl ?_
  refine am_pv_cons (v_iconst (n := -1) (by decide +kernel) rfl) rfl ?_
  refine am_pv_cons (v_stat (idx := 71) ys_Arr_fill (tb4 169 (by decide +kernel) rfl) (by decide +kernel)) rfl ?_
  refine am_pv_cons (v_aload_n (q := 0) (by decide +kernel) rfl) rfl ?_
  refine am_pv_cons (v_iconst (n := 0) (by decide +kernel) rfl) rfl ?_
  refine am_pv_cons (v_put fw_Net_77 (by decide +kernel)) rfl ?_
  refine am_pv_cons (v_aload_n (q := 0) (by decide +kernel) rfl) rfl ?_
  refine am_pv_cons (v_iconst (n := 2) (by decide +kernel) rfl) rfl ?_
  refine am_pv_cons (v_iload_n (q := 1) (by decide +kernel) rfl) rfl ?_
  refine am_pv_cons (v_imul (by decide +kernel)) rfl ?_
  refine am_pv_cons (v_iconst (n := 2) (by decide +kernel) rfl) rfl ?_
  refine am_pv_cons (v_iload_n (q := 1) (by decide +kernel) rfl) rfl ?_
  refine am_pv_cons (v_imul (by decide +kernel)) rfl ?_
  refine am_pv_cons (v_iconst (n := 0) (by decide +kernel) rfl) rfl ?_
  refine am_pv_cons (v_virt (idx := 80) yv_Net_arrive rfl rfl (tb4 170 (by decide +kernel) rfl) (by decide +kernel)) rfl ?_
  refine am_pv_cons (v_iconst (n := 0) (by decide +kernel) rfl) rfl ?_
  refine am_pv_cons (v_istore_n (q := 2) (by decide +kernel) rfl) rfl ?_
  refine am_pv_cons (v_iload_n (q := 2) (by decide +kernel) rfl) rfl ?_
  refine am_pv_cons (v_bipush (n := 18) (by decide +kernel) (by decide +kernel)) rfl ?_
  refine am_pv_cons (v_ic_ge (off := 27) (by decide +kernel) rfl) rfl ?_
  refine am_pv_cons (v_iload_n (q := 2) (by decide +kernel) rfl) rfl ?_
  refine am_pv_cons (v_aload_n (q := 0) (by decide +kernel) rfl) rfl ?_
  refine am_pv_cons (v_get fl_Net_77 (by decide +kernel)) rfl ?_
  refine am_pv_cons (v_ic_ge (off := 19) (by decide +kernel) rfl) rfl ?_
  refine am_pv_cons (v_aload_n (q := 0) (by decide +kernel) rfl) rfl ?_
  refine am_pv_cons (v_aload_n (q := 0) (by decide +kernel) rfl) rfl ?_
  refine am_pv_cons (v_get fl_Net_15 (by decide +kernel)) rfl ?_
  refine am_pv_cons (v_iload_n (q := 2) (by decide +kernel) rfl) rfl ?_
  refine am_pv_cons (v_iald (by decide +kernel)) rfl ?_
  refine am_pv_cons (v_virt (idx := 84) yv_Net_leave rfl rfl (tb4 174 (by decide +kernel) rfl) (by decide +kernel)) rfl ?_
  refine am_pv_cons (v_iinc (n := 1) (by decide +kernel) (by decide +kernel)) rfl ?_
  refine am_pv_cons (v_goto (off := -27) (by decide +kernel) rfl) rfl ?_
  refine am_pv_cons (v_return_ (by decide +kernel)) trivial ?_
  exact trivial
def P_Net_leave (E : am_E) (k : Nat) : am_P := [(0, aLi 1), (1, aI 2), (2, a_idiv), (3, aSi 2), (4, aI 0), (5, aSi 3), (6, aLi 3), (7, aLa 0), (8, aGet 9 0), (11, aGet 1 0), (14, c_ge 83), (17, aLa 0), (18, aGet 9 1), (21, aLi 2), (22, aLi 3), (23, aIv E k 2 2 Y_Feelings_find), (26, aSi 4), (28, aLi 4), (30, aI (-1)), (31, c_eq 77), (34, aLa 0), (35, aGet 9 1), (38, aGet 2 3), (41, aLi 4), (43, aAld 0), (44, z_ge 51), (47, aI 1), (48, aGo 52), (51, aI 0), (52, aSi 5), (54, aLa 0), (55, aI 2), (56, aLi 3), (57, a_imul), (58, aLi 1), (59, aI 2), (60, a_irem), (61, aLi 5), (63, a_ixor), (64, a_iadd), (65, aLi 1), (66, aLa 0), (67, aGet 9 7), (70, aLi 1), (71, aAld 0), (72, aI 1), (73, a_iadd), (74, aIv E k 9 3 Y_Net_arrive), (77, aInc 3 1), (80, aGo 6), (83, aRv)]
set_option maxRecDepth 20000 in
theorem pv_Net_leave (E : am_E) (k : Nat) : am_pv E k Y_Net_leave.2.1 Y_Net_leave.2.2.1 Y_Net_leave.1.cls (P_Net_leave E k) := by
  refine am_pv_cons (v_iload_n (q := 1) (by decide +kernel) rfl) rfl ?_
  refine am_pv_cons (v_iconst (n := 2) (by decide +kernel) rfl) rfl ?_
  refine am_pv_cons (v_idiv (by decide +kernel)) rfl ?_
  refine am_pv_cons (v_istore_n (q := 2) (by decide +kernel) rfl) rfl ?_
  refine am_pv_cons (v_iconst (n := 0) (by decide +kernel) rfl) rfl ?_
  refine am_pv_cons (v_istore_n (q := 3) (by decide +kernel) rfl) rfl ?_
  refine am_pv_cons (v_iload_n (q := 3) (by decide +kernel) rfl) rfl ?_
  refine am_pv_cons (v_aload_n (q := 0) (by decide +kernel) rfl) rfl ?_
  refine am_pv_cons (v_get fl_Net_24 (by decide +kernel)) rfl ?_
  refine am_pv_cons (v_get fl_Net_36 (by decide +kernel)) rfl ?_
  refine am_pv_cons (v_ic_ge (off := 69) (by decide +kernel) rfl) rfl ?_
  refine am_pv_cons (v_aload_n (q := 0) (by decide +kernel) rfl) rfl ?_
  refine am_pv_cons (v_get fl_Net_28 (by decide +kernel)) rfl ?_
  refine am_pv_cons (v_iload_n (q := 2) (by decide +kernel) rfl) rfl ?_
  refine am_pv_cons (v_iload_n (q := 3) (by decide +kernel) rfl) rfl ?_
  refine am_pv_cons (v_virt (idx := 87) yv_Feelings_find rfl rfl (tb4 178 (by decide +kernel) rfl) (by decide +kernel)) rfl ?_
  refine am_pv_cons (v_istore (by decide +kernel)) rfl ?_
  refine am_pv_cons (v_iload (by decide +kernel)) rfl ?_
  refine am_pv_cons (v_iconst (n := -1) (by decide +kernel) rfl) rfl ?_
  refine am_pv_cons (v_ic_eq (off := 46) (by decide +kernel) rfl) rfl ?_
  refine am_pv_cons (v_aload_n (q := 0) (by decide +kernel) rfl) rfl ?_
  refine am_pv_cons (v_get fl_Net_28 (by decide +kernel)) rfl ?_
  refine am_pv_cons (v_get fl_Net_90 (by decide +kernel)) rfl ?_
  refine am_pv_cons (v_iload (by decide +kernel)) rfl ?_
  refine am_pv_cons (v_iald (by decide +kernel)) rfl ?_
  refine am_pv_cons (v_if_ge (off := 7) (by decide +kernel) rfl) rfl ?_
  refine am_pv_cons (v_iconst (n := 1) (by decide +kernel) rfl) rfl ?_
  refine am_pv_cons (v_goto (off := 4) (by decide +kernel) rfl) rfl ?_
  refine am_pv_cons (v_iconst (n := 0) (by decide +kernel) rfl) rfl ?_
  refine am_pv_cons (v_istore (by decide +kernel)) rfl ?_
  refine am_pv_cons (v_aload_n (q := 0) (by decide +kernel) rfl) rfl ?_
  refine am_pv_cons (v_iconst (n := 2) (by decide +kernel) rfl) rfl ?_
  refine am_pv_cons (v_iload_n (q := 3) (by decide +kernel) rfl) rfl ?_
  refine am_pv_cons (v_imul (by decide +kernel)) rfl ?_
  refine am_pv_cons (v_iload_n (q := 1) (by decide +kernel) rfl) rfl ?_
  refine am_pv_cons (v_iconst (n := 2) (by decide +kernel) rfl) rfl ?_
  refine am_pv_cons (v_irem (by decide +kernel)) rfl ?_
  refine am_pv_cons (v_iload (by decide +kernel)) rfl ?_
  refine am_pv_cons (v_ixor (by decide +kernel)) rfl ?_
  refine am_pv_cons (v_iadd (by decide +kernel)) rfl ?_
  refine am_pv_cons (v_iload_n (q := 1) (by decide +kernel) rfl) rfl ?_
  refine am_pv_cons (v_aload_n (q := 0) (by decide +kernel) rfl) rfl ?_
  refine am_pv_cons (v_get fl_Net_21 (by decide +kernel)) rfl ?_
  refine am_pv_cons (v_iload_n (q := 1) (by decide +kernel) rfl) rfl ?_
  refine am_pv_cons (v_iald (by decide +kernel)) rfl ?_
  refine am_pv_cons (v_iconst (n := 1) (by decide +kernel) rfl) rfl ?_
  refine am_pv_cons (v_iadd (by decide +kernel)) rfl ?_
  refine am_pv_cons (v_virt (idx := 80) yv_Net_arrive rfl rfl (tb4 170 (by decide +kernel) rfl) (by decide +kernel)) rfl ?_
  refine am_pv_cons (v_iinc (n := 1) (by decide +kernel) (by decide +kernel)) rfl ?_
  refine am_pv_cons (v_goto (off := -74) (by decide +kernel) rfl) rfl ?_
  refine am_pv_cons (v_return_ (by decide +kernel)) trivial ?_
  exact trivial
def P_Net_arrive (E : am_E) (k : Nat) : am_P := [(0, aLa 0), (1, aGet 9 6), (4, aLi 1), (5, aAld 0), (6, aI (-1)), (7, c_ne 53), (10, aLa 0), (11, aGet 9 5), (14, aI 18), (16, c_ge 53), (19, aLa 0), (20, aGet 9 6), (23, aLi 1), (24, aLi 2), (25, aAst), (26, aLa 0), (27, aGet 9 7), (30, aLi 1), (31, aLi 3), (32, aAst), (33, aLa 0), (34, aGet 9 4), (37, aLa 0), (38, aGet 9 5), (41, aLi 1), (42, aAst), (43, aLa 0), (44, aDup), (45, aGet 9 5), (48, aI 1), (49, a_iadd), (50, aPut 9 5), (53, aRv)]
set_option maxRecDepth 20000 in
theorem pv_Net_arrive (E : am_E) (k : Nat) : am_pv E k Y_Net_arrive.2.1 Y_Net_arrive.2.2.1 Y_Net_arrive.1.cls (P_Net_arrive E k) := by
  refine am_pv_cons (v_aload_n (q := 0) (by decide +kernel) rfl) rfl ?_
  refine am_pv_cons (v_get fl_Net_18 (by decide +kernel)) rfl ?_
  refine am_pv_cons (v_iload_n (q := 1) (by decide +kernel) rfl) rfl ?_
  refine am_pv_cons (v_iald (by decide +kernel)) rfl ?_
  refine am_pv_cons (v_iconst (n := -1) (by decide +kernel) rfl) rfl ?_
  refine am_pv_cons (v_ic_ne (off := 46) (by decide +kernel) rfl) rfl ?_
  refine am_pv_cons (v_aload_n (q := 0) (by decide +kernel) rfl) rfl ?_
  refine am_pv_cons (v_get fl_Net_77 (by decide +kernel)) rfl ?_
  refine am_pv_cons (v_bipush (n := 18) (by decide +kernel) (by decide +kernel)) rfl ?_
  refine am_pv_cons (v_ic_ge (off := 37) (by decide +kernel) rfl) rfl ?_
  refine am_pv_cons (v_aload_n (q := 0) (by decide +kernel) rfl) rfl ?_
  refine am_pv_cons (v_get fl_Net_18 (by decide +kernel)) rfl ?_
  refine am_pv_cons (v_iload_n (q := 1) (by decide +kernel) rfl) rfl ?_
  refine am_pv_cons (v_iload_n (q := 2) (by decide +kernel) rfl) rfl ?_
  refine am_pv_cons (v_iast (by decide +kernel)) rfl ?_
  refine am_pv_cons (v_aload_n (q := 0) (by decide +kernel) rfl) rfl ?_
  refine am_pv_cons (v_get fl_Net_21 (by decide +kernel)) rfl ?_
  refine am_pv_cons (v_iload_n (q := 1) (by decide +kernel) rfl) rfl ?_
  refine am_pv_cons (v_iload_n (q := 3) (by decide +kernel) rfl) rfl ?_
  refine am_pv_cons (v_iast (by decide +kernel)) rfl ?_
  refine am_pv_cons (v_aload_n (q := 0) (by decide +kernel) rfl) rfl ?_
  refine am_pv_cons (v_get fl_Net_15 (by decide +kernel)) rfl ?_
  refine am_pv_cons (v_aload_n (q := 0) (by decide +kernel) rfl) rfl ?_
  refine am_pv_cons (v_get fl_Net_77 (by decide +kernel)) rfl ?_
  refine am_pv_cons (v_iload_n (q := 1) (by decide +kernel) rfl) rfl ?_
  refine am_pv_cons (v_iast (by decide +kernel)) rfl ?_
  refine am_pv_cons (v_aload_n (q := 0) (by decide +kernel) rfl) rfl ?_
  refine am_pv_cons (v_dup (by decide +kernel)) rfl ?_
  refine am_pv_cons (v_get fl_Net_77 (by decide +kernel)) rfl ?_
  refine am_pv_cons (v_iconst (n := 1) (by decide +kernel) rfl) rfl ?_
  refine am_pv_cons (v_iadd (by decide +kernel)) rfl ?_
  refine am_pv_cons (v_put fw_Net_77 (by decide +kernel)) rfl ?_
  refine am_pv_cons (v_return_ (by decide +kernel)) trivial ?_
  exact trivial
def P_Net_keepIfShorter (E : am_E) (k : Nat) : am_P := [(0, aI 2), (1, aLi 1), (2, a_imul), (3, aI 1), (4, a_iadd), (5, aSi 2), (6, aLa 0), (7, aGet 9 6), (10, aLi 2), (11, aAld 0), (12, aI (-1)), (13, c_eq 36), (16, aLa 0), (17, aGet 9 2), (20, z_le 37), (23, aLa 0), (24, aGet 9 7), (27, aLi 2), (28, aAld 0), (29, aLa 0), (30, aGet 9 2), (33, c_lt 37), (36, aRv), (37, aLa 0), (38, aLa 0), (39, aGet 9 7), (42, aLi 2), (43, aAld 0), (44, aPut 9 2), (47, aLi 2), (48, aSi 3), (49, aLa 0), (50, aGet 9 2), (53, aI 1), (54, a_isub), (55, aSi 4), (57, aLi 4), (59, z_lt 85), (62, aLa 0), (63, aGet 9 6), (66, aLi 3), (67, aAld 0), (68, aSi 3), (69, aLa 0), (70, aGet 9 3), (73, aLi 4), (75, aLi 3), (76, aI 2), (77, a_idiv), (78, aAst), (79, aInc 4 (-1)), (82, aGo 57), (85, aRv)]
set_option maxRecDepth 20000 in
theorem pv_Net_keepIfShorter (E : am_E) (k : Nat) : am_pv E k Y_Net_keepIfShorter.2.1 Y_Net_keepIfShorter.2.2.1 Y_Net_keepIfShorter.1.cls (P_Net_keepIfShorter E k) := by
  refine am_pv_cons (v_iconst (n := 2) (by decide +kernel) rfl) rfl ?_
  refine am_pv_cons (v_iload_n (q := 1) (by decide +kernel) rfl) rfl ?_
  refine am_pv_cons (v_imul (by decide +kernel)) rfl ?_
  refine am_pv_cons (v_iconst (n := 1) (by decide +kernel) rfl) rfl ?_
  refine am_pv_cons (v_iadd (by decide +kernel)) rfl ?_
  refine am_pv_cons (v_istore_n (q := 2) (by decide +kernel) rfl) rfl ?_
  refine am_pv_cons (v_aload_n (q := 0) (by decide +kernel) rfl) rfl ?_
  refine am_pv_cons (v_get fl_Net_18 (by decide +kernel)) rfl ?_
  refine am_pv_cons (v_iload_n (q := 2) (by decide +kernel) rfl) rfl ?_
  refine am_pv_cons (v_iald (by decide +kernel)) rfl ?_
  refine am_pv_cons (v_iconst (n := -1) (by decide +kernel) rfl) rfl ?_
  refine am_pv_cons (v_ic_eq (off := 23) (by decide +kernel) rfl) rfl ?_
  refine am_pv_cons (v_aload_n (q := 0) (by decide +kernel) rfl) rfl ?_
  refine am_pv_cons (v_get fl_Net_61 (by decide +kernel)) rfl ?_
  refine am_pv_cons (v_if_le (off := 17) (by decide +kernel) rfl) rfl ?_
  refine am_pv_cons (v_aload_n (q := 0) (by decide +kernel) rfl) rfl ?_
  refine am_pv_cons (v_get fl_Net_21 (by decide +kernel)) rfl ?_
  refine am_pv_cons (v_iload_n (q := 2) (by decide +kernel) rfl) rfl ?_
  refine am_pv_cons (v_iald (by decide +kernel)) rfl ?_
  refine am_pv_cons (v_aload_n (q := 0) (by decide +kernel) rfl) rfl ?_
  refine am_pv_cons (v_get fl_Net_61 (by decide +kernel)) rfl ?_
  refine am_pv_cons (v_ic_lt (off := 4) (by decide +kernel) rfl) rfl ?_
  refine am_pv_cons (v_return_ (by decide +kernel)) rfl ?_
  refine am_pv_cons (v_aload_n (q := 0) (by decide +kernel) rfl) rfl ?_
  refine am_pv_cons (v_aload_n (q := 0) (by decide +kernel) rfl) rfl ?_
  refine am_pv_cons (v_get fl_Net_21 (by decide +kernel)) rfl ?_
  refine am_pv_cons (v_iload_n (q := 2) (by decide +kernel) rfl) rfl ?_
  refine am_pv_cons (v_iald (by decide +kernel)) rfl ?_
  refine am_pv_cons (v_put fw_Net_61 (by decide +kernel)) rfl ?_
  refine am_pv_cons (v_iload_n (q := 2) (by decide +kernel) rfl) rfl ?_
  refine am_pv_cons (v_istore_n (q := 3) (by decide +kernel) rfl) rfl ?_
  refine am_pv_cons (v_aload_n (q := 0) (by decide +kernel) rfl) rfl ?_
  refine am_pv_cons (v_get fl_Net_61 (by decide +kernel)) rfl ?_
  refine am_pv_cons (v_iconst (n := 1) (by decide +kernel) rfl) rfl ?_
  refine am_pv_cons (v_isub (by decide +kernel)) rfl ?_
  refine am_pv_cons (v_istore (by decide +kernel)) rfl ?_
  refine am_pv_cons (v_iload (by decide +kernel)) rfl ?_
  refine am_pv_cons (v_if_lt (off := 26) (by decide +kernel) rfl) rfl ?_
  refine am_pv_cons (v_aload_n (q := 0) (by decide +kernel) rfl) rfl ?_
  refine am_pv_cons (v_get fl_Net_18 (by decide +kernel)) rfl ?_
  refine am_pv_cons (v_iload_n (q := 3) (by decide +kernel) rfl) rfl ?_
  refine am_pv_cons (v_iald (by decide +kernel)) rfl ?_
  refine am_pv_cons (v_istore_n (q := 3) (by decide +kernel) rfl) rfl ?_
  refine am_pv_cons (v_aload_n (q := 0) (by decide +kernel) rfl) rfl ?_
  refine am_pv_cons (v_get fl_Net_11 (by decide +kernel)) rfl ?_
  refine am_pv_cons (v_iload (by decide +kernel)) rfl ?_
  refine am_pv_cons (v_iload_n (q := 3) (by decide +kernel) rfl) rfl ?_
  refine am_pv_cons (v_iconst (n := 2) (by decide +kernel) rfl) rfl ?_
  refine am_pv_cons (v_idiv (by decide +kernel)) rfl ?_
  refine am_pv_cons (v_iast (by decide +kernel)) rfl ?_
  refine am_pv_cons (v_iinc (n := -1) (by decide +kernel) (by decide +kernel)) rfl ?_
  refine am_pv_cons (v_goto (off := -25) (by decide +kernel) rfl) rfl ?_
  refine am_pv_cons (v_return_ (by decide +kernel)) trivial ?_
  exact trivial
def P_Best_search (E : am_E) (k : Nat) : am_P := [(0, aLa 0), (1, aGet 10 2), (4, aIv E k 4 0 Y_Law_weigh), (7, aLa 0), (8, aI (-1)), (9, aPut 10 3), (12, aLa 0), (13, aI 0), (14, aPut 10 4), (17, aI 0), (18, aSi 1), (19, aLi 1), (20, aLa 0), (21, aIv E k 10 0 Y_Best_pastCampings), (24, c_ge 115), (27, aLa 0), (28, aLi 1), (29, aIv E k 10 1 Y_Best_sumOf), (32, aSi 2), (33, aLi 2), (34, aI (-1)), (35, c_eq 64), (38, aLa 0), (39, aGet 10 3), (42, aI (-1)), (43, c_eq 54), (46, aLi 2), (47, aLa 0), (48, aGet 10 3), (51, c_ge 64), (54, aLa 0), (55, aLi 2), (56, aPut 10 3), (59, aLa 0), (60, aI 0), (61, aPut 10 4), (64, aLi 2), (65, aI (-1)), (66, c_eq 109), (69, aLi 2), (70, aLa 0), (71, aGet 10 3), (74, c_ne 109), (77, aLa 0), (78, aGet 10 4), (81, aLa 0), (82, aGet 10 5), (85, aLen), (86, c_ge 109), (89, aLa 0), (90, aGet 10 5), (93, aLa 0), (94, aGet 10 4), (97, aLi 1), (98, aAst), (99, aLa 0), (100, aDup), (101, aGet 10 4), (104, aI 1), (105, a_iadd), (106, aPut 10 4), (109, aInc 1 2), (112, aGo 19), (115, aRv)]
set_option maxRecDepth 20000 in
theorem pv_Best_search (E : am_E) (k : Nat) : am_pv E k Y_Best_search.2.1 Y_Best_search.2.2.1 Y_Best_search.1.cls (P_Best_search E k) := by
  refine am_pv_cons (v_aload_n (q := 0) (by decide +kernel) rfl) rfl ?_
  refine am_pv_cons (v_get fl_Best_26 (by decide +kernel)) rfl ?_
  refine am_pv_cons (v_virt (idx := 30) yv_Law_weigh rfl rfl (tb4 191 (by decide +kernel) rfl) (by decide +kernel)) rfl ?_
  refine am_pv_cons (v_aload_n (q := 0) (by decide +kernel) rfl) rfl ?_
  refine am_pv_cons (v_iconst (n := -1) (by decide +kernel) rfl) rfl ?_
  refine am_pv_cons (v_put fw_Best_35 (by decide +kernel)) rfl ?_
  refine am_pv_cons (v_aload_n (q := 0) (by decide +kernel) rfl) rfl ?_
  refine am_pv_cons (v_iconst (n := 0) (by decide +kernel) rfl) rfl ?_
  refine am_pv_cons (v_put fw_Best_39 (by decide +kernel)) rfl ?_
  refine am_pv_cons (v_iconst (n := 0) (by decide +kernel) rfl) rfl ?_
  refine am_pv_cons (v_istore_n (q := 1) (by decide +kernel) rfl) rfl ?_
  refine am_pv_cons (v_iload_n (q := 1) (by decide +kernel) rfl) rfl ?_
  refine am_pv_cons (v_aload_n (q := 0) (by decide +kernel) rfl) rfl ?_
  refine am_pv_cons (v_virt (idx := 42) yv_Best_pastCampings rfl rfl (tb4 192 (by decide +kernel) rfl) (by decide +kernel)) rfl ?_
  refine am_pv_cons (v_ic_ge (off := 91) (by decide +kernel) rfl) rfl ?_
  refine am_pv_cons (v_aload_n (q := 0) (by decide +kernel) rfl) rfl ?_
  refine am_pv_cons (v_iload_n (q := 1) (by decide +kernel) rfl) rfl ?_
  refine am_pv_cons (v_virt (idx := 46) yv_Best_sumOf rfl rfl (tb4 196 (by decide +kernel) rfl) (by decide +kernel)) rfl ?_
  refine am_pv_cons (v_istore_n (q := 2) (by decide +kernel) rfl) rfl ?_
  refine am_pv_cons (v_iload_n (q := 2) (by decide +kernel) rfl) rfl ?_
  refine am_pv_cons (v_iconst (n := -1) (by decide +kernel) rfl) rfl ?_
  refine am_pv_cons (v_ic_eq (off := 29) (by decide +kernel) rfl) rfl ?_
  refine am_pv_cons (v_aload_n (q := 0) (by decide +kernel) rfl) rfl ?_
  refine am_pv_cons (v_get fl_Best_35 (by decide +kernel)) rfl ?_
  refine am_pv_cons (v_iconst (n := -1) (by decide +kernel) rfl) rfl ?_
  refine am_pv_cons (v_ic_eq (off := 11) (by decide +kernel) rfl) rfl ?_
  refine am_pv_cons (v_iload_n (q := 2) (by decide +kernel) rfl) rfl ?_
  refine am_pv_cons (v_aload_n (q := 0) (by decide +kernel) rfl) rfl ?_
  refine am_pv_cons (v_get fl_Best_35 (by decide +kernel)) rfl ?_
  refine am_pv_cons (v_ic_ge (off := 13) (by decide +kernel) rfl) rfl ?_
  refine am_pv_cons (v_aload_n (q := 0) (by decide +kernel) rfl) rfl ?_
  refine am_pv_cons (v_iload_n (q := 2) (by decide +kernel) rfl) rfl ?_
  refine am_pv_cons (v_put fw_Best_35 (by decide +kernel)) rfl ?_
  refine am_pv_cons (v_aload_n (q := 0) (by decide +kernel) rfl) rfl ?_
  refine am_pv_cons (v_iconst (n := 0) (by decide +kernel) rfl) rfl ?_
  refine am_pv_cons (v_put fw_Best_39 (by decide +kernel)) rfl ?_
  refine am_pv_cons (v_iload_n (q := 2) (by decide +kernel) rfl) rfl ?_
  refine am_pv_cons (v_iconst (n := -1) (by decide +kernel) rfl) rfl ?_
  refine am_pv_cons (v_ic_eq (off := 43) (by decide +kernel) rfl) rfl ?_
  refine am_pv_cons (v_iload_n (q := 2) (by decide +kernel) rfl) rfl ?_
  refine am_pv_cons (v_aload_n (q := 0) (by decide +kernel) rfl) rfl ?_
  refine am_pv_cons (v_get fl_Best_35 (by decide +kernel)) rfl ?_
  refine am_pv_cons (v_ic_ne (off := 35) (by decide +kernel) rfl) rfl ?_
  refine am_pv_cons (v_aload_n (q := 0) (by decide +kernel) rfl) rfl ?_
  refine am_pv_cons (v_get fl_Best_39 (by decide +kernel)) rfl ?_
  refine am_pv_cons (v_aload_n (q := 0) (by decide +kernel) rfl) rfl ?_
  refine am_pv_cons (v_get fl_Best_9 (by decide +kernel)) rfl ?_
  refine am_pv_cons (v_alen (by decide +kernel)) rfl ?_
  refine am_pv_cons (v_ic_ge (off := 23) (by decide +kernel) rfl) rfl ?_
  refine am_pv_cons (v_aload_n (q := 0) (by decide +kernel) rfl) rfl ?_
  refine am_pv_cons (v_get fl_Best_9 (by decide +kernel)) rfl ?_
  refine am_pv_cons (v_aload_n (q := 0) (by decide +kernel) rfl) rfl ?_
  refine am_pv_cons (v_get fl_Best_39 (by decide +kernel)) rfl ?_
  refine am_pv_cons (v_iload_n (q := 1) (by decide +kernel) rfl) rfl ?_
  refine am_pv_cons (v_iast (by decide +kernel)) rfl ?_
  refine am_pv_cons (v_aload_n (q := 0) (by decide +kernel) rfl) rfl ?_
  refine am_pv_cons (v_dup (by decide +kernel)) rfl ?_
  refine am_pv_cons (v_get fl_Best_39 (by decide +kernel)) rfl ?_
  refine am_pv_cons (v_iconst (n := 1) (by decide +kernel) rfl) rfl ?_
  refine am_pv_cons (v_iadd (by decide +kernel)) rfl ?_
  refine am_pv_cons (v_put fw_Best_39 (by decide +kernel)) rfl ?_
  refine am_pv_cons (v_iinc (n := 2) (by decide +kernel) (by decide +kernel)) rfl ?_
  refine am_pv_cons (v_goto (off := -93) (by decide +kernel) rfl) rfl ?_
  refine am_pv_cons (v_return_ (by decide +kernel)) trivial ?_
  exact trivial
def P_Best_pastCampings (E : am_E) (k : Nat) : am_P := [(0, aLa 0), (1, aGet 10 0), (4, aGet 1 0), (7, z_ne 14), (10, aI 0), (11, aGo 23), (14, aI 1), (15, aLa 0), (16, aGet 10 0), (19, aGet 1 0), (22, a_ishl), (23, aRi)]
set_option maxRecDepth 20000 in
theorem pv_Best_pastCampings (E : am_E) (k : Nat) : am_pv E k Y_Best_pastCampings.2.1 Y_Best_pastCampings.2.2.1 Y_Best_pastCampings.1.cls (P_Best_pastCampings E k) := by
  refine am_pv_cons (v_aload_n (q := 0) (by decide +kernel) rfl) rfl ?_
  refine am_pv_cons (v_get fl_Best_18 (by decide +kernel)) rfl ?_
  refine am_pv_cons (v_get fl_Best_50 (by decide +kernel)) rfl ?_
  refine am_pv_cons (v_if_ne (off := 7) (by decide +kernel) rfl) rfl ?_
  refine am_pv_cons (v_iconst (n := 0) (by decide +kernel) rfl) rfl ?_
  refine am_pv_cons (v_goto (off := 12) (by decide +kernel) rfl) rfl ?_
  refine am_pv_cons (v_iconst (n := 1) (by decide +kernel) rfl) rfl ?_
  refine am_pv_cons (v_aload_n (q := 0) (by decide +kernel) rfl) rfl ?_
  refine am_pv_cons (v_get fl_Best_18 (by decide +kernel)) rfl ?_
  refine am_pv_cons (v_get fl_Best_50 (by decide +kernel)) rfl ?_
  refine am_pv_cons (v_ishl (by decide +kernel)) rfl ?_
  refine am_pv_cons (v_ireturn (by decide +kernel)) trivial ?_
  exact trivial
def P_Best_sumOf (E : am_E) (k : Nat) : am_P := [(0, aI 0), (1, aSi 2), (2, aI 0), (3, aSi 3), (4, aLi 3), (5, aLa 0), (6, aGet 10 1), (9, aGet 2 0), (12, c_ge 59), (15, aLa 0), (16, aGet 10 1), (19, aLi 3), (20, aLi 1), (21, aIv E k 2 2 Y_Feelings_isWrongIn), (24, z_eq 53), (27, aLa 0), (28, aGet 10 2), (31, aGet 4 5), (34, aLi 3), (35, aAld 1), (36, z_ne 41), (39, aI (-1)), (40, aRi), (41, aLi 2), (42, aLa 0), (43, aGet 10 2), (46, aGet 4 4), (49, aLi 3), (50, aAld 0), (51, a_iadd), (52, aSi 2), (53, aInc 3 1), (56, aGo 4), (59, aLi 2), (60, aRi)]
set_option maxRecDepth 20000 in
theorem pv_Best_sumOf (E : am_E) (k : Nat) : am_pv E k Y_Best_sumOf.2.1 Y_Best_sumOf.2.2.1 Y_Best_sumOf.1.cls (P_Best_sumOf E k) := by
  refine am_pv_cons (v_iconst (n := 0) (by decide +kernel) rfl) rfl ?_
  refine am_pv_cons (v_istore_n (q := 2) (by decide +kernel) rfl) rfl ?_
  refine am_pv_cons (v_iconst (n := 0) (by decide +kernel) rfl) rfl ?_
  refine am_pv_cons (v_istore_n (q := 3) (by decide +kernel) rfl) rfl ?_
  refine am_pv_cons (v_iload_n (q := 3) (by decide +kernel) rfl) rfl ?_
  refine am_pv_cons (v_aload_n (q := 0) (by decide +kernel) rfl) rfl ?_
  refine am_pv_cons (v_get fl_Best_22 (by decide +kernel)) rfl ?_
  refine am_pv_cons (v_get fl_Best_53 (by decide +kernel)) rfl ?_
  refine am_pv_cons (v_ic_ge (off := 47) (by decide +kernel) rfl) rfl ?_
  refine am_pv_cons (v_aload_n (q := 0) (by decide +kernel) rfl) rfl ?_
  refine am_pv_cons (v_get fl_Best_22 (by decide +kernel)) rfl ?_
  refine am_pv_cons (v_iload_n (q := 3) (by decide +kernel) rfl) rfl ?_
  refine am_pv_cons (v_iload_n (q := 1) (by decide +kernel) rfl) rfl ?_
  refine am_pv_cons (v_virt (idx := 56) yv_Feelings_isWrongIn rfl rfl (tb4 200 (by decide +kernel) rfl) (by decide +kernel)) rfl ?_
  refine am_pv_cons (v_if_eq (off := 29) (by decide +kernel) rfl) rfl ?_
  refine am_pv_cons (v_aload_n (q := 0) (by decide +kernel) rfl) rfl ?_
  refine am_pv_cons (v_get fl_Best_26 (by decide +kernel)) rfl ?_
  refine am_pv_cons (v_get fl_Best_60 (by decide +kernel)) rfl ?_
  refine am_pv_cons (v_iload_n (q := 3) (by decide +kernel) rfl) rfl ?_
  refine am_pv_cons (v_zald (by decide +kernel)) rfl ?_
  refine am_pv_cons (v_if_ne (off := 5) (by decide +kernel) rfl) rfl ?_
  refine am_pv_cons (v_iconst (n := -1) (by decide +kernel) rfl) rfl ?_
  refine am_pv_cons (v_ireturn (by decide +kernel)) rfl ?_
  refine am_pv_cons (v_iload_n (q := 2) (by decide +kernel) rfl) rfl ?_
  refine am_pv_cons (v_aload_n (q := 0) (by decide +kernel) rfl) rfl ?_
  refine am_pv_cons (v_get fl_Best_26 (by decide +kernel)) rfl ?_
  refine am_pv_cons (v_get fl_Best_64 (by decide +kernel)) rfl ?_
  refine am_pv_cons (v_iload_n (q := 3) (by decide +kernel) rfl) rfl ?_
  refine am_pv_cons (v_iald (by decide +kernel)) rfl ?_
  refine am_pv_cons (v_iadd (by decide +kernel)) rfl ?_
  refine am_pv_cons (v_istore_n (q := 2) (by decide +kernel) rfl) rfl ?_
  refine am_pv_cons (v_iinc (n := 1) (by decide +kernel) (by decide +kernel)) rfl ?_
  refine am_pv_cons (v_goto (off := -52) (by decide +kernel) rfl) rfl ?_
  refine am_pv_cons (v_iload_n (q := 2) (by decide +kernel) rfl) rfl ?_
  refine am_pv_cons (v_ireturn (by decide +kernel)) trivial ?_
  exact trivial
def P_Best_timesTogether (E : am_E) (k : Nat) : am_P := [(0, aI 0), (1, aSi 3), (2, aI 0), (3, aSi 4), (5, aLi 4), (7, aLa 0), (8, aGet 10 4), (11, c_ge 38), (14, aLa 0), (15, aGet 10 5), (18, aLi 4), (20, aAld 0), (21, aLi 1), (22, aLi 2), (23, aIs E k 3 Y_TC_isTogether), (26, z_eq 32), (29, aInc 3 1), (32, aInc 4 1), (35, aGo 5), (38, aLi 3), (39, aRi)]
set_option maxRecDepth 20000 in
theorem pv_Best_timesTogether (E : am_E) (k : Nat) : am_pv E k Y_Best_timesTogether.2.1 Y_Best_timesTogether.2.2.1 Y_Best_timesTogether.1.cls (P_Best_timesTogether E k) := by
  refine am_pv_cons (v_iconst (n := 0) (by decide +kernel) rfl) rfl ?_
  refine am_pv_cons (v_istore_n (q := 3) (by decide +kernel) rfl) rfl ?_
  refine am_pv_cons (v_iconst (n := 0) (by decide +kernel) rfl) rfl ?_
  refine am_pv_cons (v_istore (by decide +kernel)) rfl ?_
  refine am_pv_cons (v_iload (by decide +kernel)) rfl ?_
  refine am_pv_cons (v_aload_n (q := 0) (by decide +kernel) rfl) rfl ?_
  refine am_pv_cons (v_get fl_Best_39 (by decide +kernel)) rfl ?_
  refine am_pv_cons (v_ic_ge (off := 27) (by decide +kernel) rfl) rfl ?_
  refine am_pv_cons (v_aload_n (q := 0) (by decide +kernel) rfl) rfl ?_
  refine am_pv_cons (v_get fl_Best_9 (by decide +kernel)) rfl ?_
  refine am_pv_cons (v_iload (by decide +kernel)) rfl ?_
  refine am_pv_cons (v_iald (by decide +kernel)) rfl ?_
  refine am_pv_cons (v_iload_n (q := 1) (by decide +kernel) rfl) rfl ?_
  refine am_pv_cons (v_iload_n (q := 2) (by decide +kernel) rfl) rfl ?_
  refine am_pv_cons (v_statN (idx := 67) (host := "TwoCamps") ys_TC_isTogether (List.mem_of_getElem? (i := 7) (by decide +kernel)) (by decide +kernel)) rfl ?_
  refine am_pv_cons (v_if_eq (off := 6) (by decide +kernel) rfl) rfl ?_
  refine am_pv_cons (v_iinc (n := 1) (by decide +kernel) (by decide +kernel)) rfl ?_
  refine am_pv_cons (v_iinc (n := 1) (by decide +kernel) (by decide +kernel)) rfl ?_
  refine am_pv_cons (v_goto (off := -30) (by decide +kernel) rfl) rfl ?_
  refine am_pv_cons (v_iload_n (q := 3) (by decide +kernel) rfl) rfl ?_
  refine am_pv_cons (v_ireturn (by decide +kernel)) trivial ?_
  exact trivial
def P_Best_edgeOf (E : am_E) (k : Nat) : am_P := [(0, aI 0), (1, aSi 2), (2, aI 0), (3, aSi 3), (4, aLi 3), (5, aLa 0), (6, aGet 10 4), (9, c_ge 38), (12, aLa 0), (13, aGet 10 1), (16, aLi 1), (17, aLa 0), (18, aGet 10 5), (21, aLi 3), (22, aAld 0), (23, aIv E k 2 2 Y_Feelings_isWrongIn), (26, z_eq 32), (29, aInc 2 1), (32, aInc 3 1), (35, aGo 4), (38, aLi 2), (39, z_le 52), (42, aLi 2), (43, aLa 0), (44, aGet 10 4), (47, c_ge 52), (50, aI 0), (51, aRi), (52, aLa 0), (53, aLi 1), (54, aLi 2), (55, z_ne 62), (58, aI 1), (59, aGo 63), (62, aI 0), (63, aIv E k 10 2 Y_Best_leastSumWith), (66, aSi 3), (67, aLi 3), (68, aI (-1)), (69, c_ne 75), (72, aI 1000000), (74, aRi), (75, aLi 2), (76, z_ne 88), (79, aLi 3), (80, aLa 0), (81, aGet 10 3), (84, a_isub), (85, aGo 94), (88, aLa 0), (89, aGet 10 3), (92, aLi 3), (93, a_isub), (94, aRi)]
set_option maxRecDepth 20000 in
theorem pv_Best_edgeOf (E : am_E) (k : Nat) : am_pv E k Y_Best_edgeOf.2.1 Y_Best_edgeOf.2.2.1 Y_Best_edgeOf.1.cls (P_Best_edgeOf E k) := by
  refine am_pv_cons (v_iconst (n := 0) (by decide +kernel) rfl) rfl ?_
  refine am_pv_cons (v_istore_n (q := 2) (by decide +kernel) rfl) rfl ?_
  refine am_pv_cons (v_iconst (n := 0) (by decide +kernel) rfl) rfl ?_
  refine am_pv_cons (v_istore_n (q := 3) (by decide +kernel) rfl) rfl ?_
  refine am_pv_cons (v_iload_n (q := 3) (by decide +kernel) rfl) rfl ?_
  refine am_pv_cons (v_aload_n (q := 0) (by decide +kernel) rfl) rfl ?_
  refine am_pv_cons (v_get fl_Best_39 (by decide +kernel)) rfl ?_
  refine am_pv_cons (v_ic_ge (off := 29) (by decide +kernel) rfl) rfl ?_
  refine am_pv_cons (v_aload_n (q := 0) (by decide +kernel) rfl) rfl ?_
  refine am_pv_cons (v_get fl_Best_22 (by decide +kernel)) rfl ?_
  refine am_pv_cons (v_iload_n (q := 1) (by decide +kernel) rfl) rfl ?_
  refine am_pv_cons (v_aload_n (q := 0) (by decide +kernel) rfl) rfl ?_
  refine am_pv_cons (v_get fl_Best_9 (by decide +kernel)) rfl ?_
  refine am_pv_cons (v_iload_n (q := 3) (by decide +kernel) rfl) rfl ?_
  refine am_pv_cons (v_iald (by decide +kernel)) rfl ?_
  refine am_pv_cons (v_virt (idx := 56) yv_Feelings_isWrongIn rfl rfl (tb4 200 (by decide +kernel) rfl) (by decide +kernel)) rfl ?_
  refine am_pv_cons (v_if_eq (off := 6) (by decide +kernel) rfl) rfl ?_
  refine am_pv_cons (v_iinc (n := 1) (by decide +kernel) (by decide +kernel)) rfl ?_
  refine am_pv_cons (v_iinc (n := 1) (by decide +kernel) (by decide +kernel)) rfl ?_
  refine am_pv_cons (v_goto (off := -31) (by decide +kernel) rfl) rfl ?_
  refine am_pv_cons (v_iload_n (q := 2) (by decide +kernel) rfl) rfl ?_
  refine am_pv_cons (v_if_le (off := 13) (by decide +kernel) rfl) rfl ?_
  refine am_pv_cons (v_iload_n (q := 2) (by decide +kernel) rfl) rfl ?_
  refine am_pv_cons (v_aload_n (q := 0) (by decide +kernel) rfl) rfl ?_
  refine am_pv_cons (v_get fl_Best_39 (by decide +kernel)) rfl ?_
  refine am_pv_cons (v_ic_ge (off := 5) (by decide +kernel) rfl) rfl ?_
  refine am_pv_cons (v_iconst (n := 0) (by decide +kernel) rfl) rfl ?_
  refine am_pv_cons (v_ireturn (by decide +kernel)) rfl ?_
  refine am_pv_cons (v_aload_n (q := 0) (by decide +kernel) rfl) rfl ?_
  refine am_pv_cons (v_iload_n (q := 1) (by decide +kernel) rfl) rfl ?_
  refine am_pv_cons (v_iload_n (q := 2) (by decide +kernel) rfl) rfl ?_
  refine am_pv_cons (v_if_ne (off := 7) (by decide +kernel) rfl) rfl ?_
  refine am_pv_cons (v_iconst (n := 1) (by decide +kernel) rfl) rfl ?_
  refine am_pv_cons (v_goto (off := 4) (by decide +kernel) rfl) rfl ?_
  refine am_pv_cons (v_iconst (n := 0) (by decide +kernel) rfl) rfl ?_
  refine am_pv_cons (v_virt (idx := 71) yv_Best_leastSumWith rfl rfl (tb5 74 (by decide +kernel) rfl) (by decide +kernel)) rfl ?_
  refine am_pv_cons (v_istore_n (q := 3) (by decide +kernel) rfl) rfl ?_
  refine am_pv_cons (v_iload_n (q := 3) (by decide +kernel) rfl) rfl ?_
  refine am_pv_cons (v_iconst (n := -1) (by decide +kernel) rfl) rfl ?_
  refine am_pv_cons (v_ic_ne (off := 6) (by decide +kernel) rfl) rfl ?_
  refine am_pv_cons (v_ldc (i := 75) (tb5 78 (by decide +kernel) rfl) (by decide +kernel)) rfl ?_
  refine am_pv_cons (v_ireturn (by decide +kernel)) rfl ?_
  refine am_pv_cons (v_iload_n (q := 2) (by decide +kernel) rfl) rfl ?_
  refine am_pv_cons (v_if_ne (off := 12) (by decide +kernel) rfl) rfl ?_
  refine am_pv_cons (v_iload_n (q := 3) (by decide +kernel) rfl) rfl ?_
  refine am_pv_cons (v_aload_n (q := 0) (by decide +kernel) rfl) rfl ?_
  refine am_pv_cons (v_get fl_Best_35 (by decide +kernel)) rfl ?_
  refine am_pv_cons (v_isub (by decide +kernel)) rfl ?_
  refine am_pv_cons (v_goto (off := 9) (by decide +kernel) rfl) rfl ?_
  refine am_pv_cons (v_aload_n (q := 0) (by decide +kernel) rfl) rfl ?_
  refine am_pv_cons (v_get fl_Best_35 (by decide +kernel)) rfl ?_
  refine am_pv_cons (v_iload_n (q := 3) (by decide +kernel) rfl) rfl ?_
  refine am_pv_cons (v_isub (by decide +kernel)) rfl ?_
  refine am_pv_cons (v_ireturn (by decide +kernel)) trivial ?_
  exact trivial
def P_Best_leastSumWith (E : am_E) (k : Nat) : am_P := [(0, aI (-1)), (1, aSi 3), (2, aI 0), (3, aSi 4), (5, aLi 4), (7, aLa 0), (8, aIv E k 10 0 Y_Best_pastCampings), (11, c_ge 62), (14, aLa 0), (15, aGet 10 1), (18, aLi 1), (19, aLi 4), (21, aIv E k 2 2 Y_Feelings_isWrongIn), (24, aLi 2), (25, c_ne 56), (28, aLa 0), (29, aLi 4), (31, aIv E k 10 1 Y_Best_sumOf), (34, aSi 5), (36, aLi 5), (38, aI (-1)), (39, c_eq 56), (42, aLi 3), (43, aI (-1)), (44, c_eq 53), (47, aLi 5), (49, aLi 3), (50, c_ge 56), (53, aLi 5), (55, aSi 3), (56, aInc 4 2), (59, aGo 5), (62, aLi 3), (63, aRi)]
set_option maxRecDepth 20000 in
theorem pv_Best_leastSumWith (E : am_E) (k : Nat) : am_pv E k Y_Best_leastSumWith.2.1 Y_Best_leastSumWith.2.2.1 Y_Best_leastSumWith.1.cls (P_Best_leastSumWith E k) := by
  refine am_pv_cons (v_iconst (n := -1) (by decide +kernel) rfl) rfl ?_
  refine am_pv_cons (v_istore_n (q := 3) (by decide +kernel) rfl) rfl ?_
  refine am_pv_cons (v_iconst (n := 0) (by decide +kernel) rfl) rfl ?_
  refine am_pv_cons (v_istore (by decide +kernel)) rfl ?_
  refine am_pv_cons (v_iload (by decide +kernel)) rfl ?_
  refine am_pv_cons (v_aload_n (q := 0) (by decide +kernel) rfl) rfl ?_
  refine am_pv_cons (v_virt (idx := 42) yv_Best_pastCampings rfl rfl (tb4 192 (by decide +kernel) rfl) (by decide +kernel)) rfl ?_
  refine am_pv_cons (v_ic_ge (off := 51) (by decide +kernel) rfl) rfl ?_
  refine am_pv_cons (v_aload_n (q := 0) (by decide +kernel) rfl) rfl ?_
  refine am_pv_cons (v_get fl_Best_22 (by decide +kernel)) rfl ?_
  refine am_pv_cons (v_iload_n (q := 1) (by decide +kernel) rfl) rfl ?_
  refine am_pv_cons (v_iload (by decide +kernel)) rfl ?_
  refine am_pv_cons (v_virt (idx := 56) yv_Feelings_isWrongIn rfl rfl (tb4 200 (by decide +kernel) rfl) (by decide +kernel)) rfl ?_
  refine am_pv_cons (v_iload_n (q := 2) (by decide +kernel) rfl) rfl ?_
  refine am_pv_cons (v_ic_ne (off := 31) (by decide +kernel) rfl) rfl ?_
  refine am_pv_cons (v_aload_n (q := 0) (by decide +kernel) rfl) rfl ?_
  refine am_pv_cons (v_iload (by decide +kernel)) rfl ?_
  refine am_pv_cons (v_virt (idx := 46) yv_Best_sumOf rfl rfl (tb4 196 (by decide +kernel) rfl) (by decide +kernel)) rfl ?_
  refine am_pv_cons (v_istore (by decide +kernel)) rfl ?_
  refine am_pv_cons (v_iload (by decide +kernel)) rfl ?_
  refine am_pv_cons (v_iconst (n := -1) (by decide +kernel) rfl) rfl ?_
  refine am_pv_cons (v_ic_eq (off := 17) (by decide +kernel) rfl) rfl ?_
  refine am_pv_cons (v_iload_n (q := 3) (by decide +kernel) rfl) rfl ?_
  refine am_pv_cons (v_iconst (n := -1) (by decide +kernel) rfl) rfl ?_
  refine am_pv_cons (v_ic_eq (off := 9) (by decide +kernel) rfl) rfl ?_
  refine am_pv_cons (v_iload (by decide +kernel)) rfl ?_
  refine am_pv_cons (v_iload_n (q := 3) (by decide +kernel) rfl) rfl ?_
  refine am_pv_cons (v_ic_ge (off := 6) (by decide +kernel) rfl) rfl ?_
  refine am_pv_cons (v_iload (by decide +kernel)) rfl ?_
  refine am_pv_cons (v_istore_n (q := 3) (by decide +kernel) rfl) rfl ?_
  refine am_pv_cons (v_iinc (n := 2) (by decide +kernel) (by decide +kernel)) rfl ?_
  refine am_pv_cons (v_goto (off := -54) (by decide +kernel) rfl) rfl ?_
  refine am_pv_cons (v_iload_n (q := 3) (by decide +kernel) rfl) rfl ?_
  refine am_pv_cons (v_ireturn (by decide +kernel)) trivial ?_
  exact trivial
def P_Best_fewestToTell (E : am_E) (k : Nat) : am_P := [(0, aI 1), (1, aLi 1), (2, a_ishl), (3, aI 1), (4, aLi 2), (5, a_ishl), (6, a_ior), (7, aSi 3), (8, aI (-1)), (9, aSi 4), (11, aI 0), (12, aSi 5), (14, aLi 5), (16, aI 1), (17, aLa 0), (18, aGet 10 0), (21, aGet 1 0), (24, a_ishl), (25, c_ge 87), (28, aLi 4), (30, aI (-1)), (31, c_eq 47), (34, aLi 5), (36, aIs E k 1 Y_Int_bitCount), (39, aLi 4), (41, aIs E k 1 Y_Int_bitCount), (44, c_ge 51), (47, aI 1), (48, aGo 52), (51, aI 0), (52, aSi 6), (54, aLi 5), (56, aLi 3), (57, a_iand), (58, z_ne 81), (61, aLi 6), (63, z_eq 81), (66, aLa 0), (67, aLi 5), (69, aLi 1), (70, aLi 2), (71, aIv E k 10 3 Y_Best_isEnough), (74, z_eq 81), (77, aLi 5), (79, aSi 4), (81, aInc 5 1), (84, aGo 14), (87, aLi 4), (89, aRi)]
set_option maxRecDepth 20000 in
theorem pv_Best_fewestToTell (E : am_E) (k : Nat) : am_pv E k Y_Best_fewestToTell.2.1 Y_Best_fewestToTell.2.2.1 Y_Best_fewestToTell.1.cls (P_Best_fewestToTell E k) := by
  refine am_pv_cons (v_iconst (n := 1) (by decide +kernel) rfl) rfl ?_
  refine am_pv_cons (v_iload_n (q := 1) (by decide +kernel) rfl) rfl ?_
  refine am_pv_cons (v_ishl (by decide +kernel)) rfl ?_
  refine am_pv_cons (v_iconst (n := 1) (by decide +kernel) rfl) rfl ?_
  refine am_pv_cons (v_iload_n (q := 2) (by decide +kernel) rfl) rfl ?_
  refine am_pv_cons (v_ishl (by decide +kernel)) rfl ?_
  refine am_pv_cons (v_ior (by decide +kernel)) rfl ?_
  refine am_pv_cons (v_istore_n (q := 3) (by decide +kernel) rfl) rfl ?_
  refine am_pv_cons (v_iconst (n := -1) (by decide +kernel) rfl) rfl ?_
  refine am_pv_cons (v_istore (by decide +kernel)) rfl ?_
  refine am_pv_cons (v_iconst (n := 0) (by decide +kernel) rfl) rfl ?_
  refine am_pv_cons (v_istore (by decide +kernel)) rfl ?_
  refine am_pv_cons (v_iload (by decide +kernel)) rfl ?_
  refine am_pv_cons (v_iconst (n := 1) (by decide +kernel) rfl) rfl ?_
  refine am_pv_cons (v_aload_n (q := 0) (by decide +kernel) rfl) rfl ?_
  refine am_pv_cons (v_get fl_Best_18 (by decide +kernel)) rfl ?_
  refine am_pv_cons (v_get fl_Best_50 (by decide +kernel)) rfl ?_
  refine am_pv_cons (v_ishl (by decide +kernel)) rfl ?_
  refine am_pv_cons (v_ic_ge (off := 62) (by decide +kernel) rfl) rfl ?_
  refine am_pv_cons (v_iload (by decide +kernel)) rfl ?_
  refine am_pv_cons (v_iconst (n := -1) (by decide +kernel) rfl) rfl ?_
  refine am_pv_cons (v_ic_eq (off := 16) (by decide +kernel) rfl) rfl ?_
  refine am_pv_cons (v_iload (by decide +kernel)) rfl ?_
  refine am_pv_cons (v_stat (idx := 76) ys_Int_bitCount (tb5 88 (by decide +kernel) rfl) (by decide +kernel)) rfl ?_
  refine am_pv_cons (v_iload (by decide +kernel)) rfl ?_
  refine am_pv_cons (v_stat (idx := 76) ys_Int_bitCount (tb5 88 (by decide +kernel) rfl) (by decide +kernel)) rfl ?_
  refine am_pv_cons (v_ic_ge (off := 7) (by decide +kernel) rfl) rfl ?_
  refine am_pv_cons (v_iconst (n := 1) (by decide +kernel) rfl) rfl ?_
  refine am_pv_cons (v_goto (off := 4) (by decide +kernel) rfl) rfl ?_
  refine am_pv_cons (v_iconst (n := 0) (by decide +kernel) rfl) rfl ?_
  refine am_pv_cons (v_istore (by decide +kernel)) rfl ?_
  refine am_pv_cons (v_iload (by decide +kernel)) rfl ?_
  refine am_pv_cons (v_iload_n (q := 3) (by decide +kernel) rfl) rfl ?_
  refine am_pv_cons (v_iand (by decide +kernel)) rfl ?_
  refine am_pv_cons (v_if_ne (off := 23) (by decide +kernel) rfl) rfl ?_
  refine am_pv_cons (v_iload (by decide +kernel)) rfl ?_
  refine am_pv_cons (v_if_eq (off := 18) (by decide +kernel) rfl) rfl ?_
  refine am_pv_cons (v_aload_n (q := 0) (by decide +kernel) rfl) rfl ?_
  refine am_pv_cons (v_iload (by decide +kernel)) rfl ?_
  refine am_pv_cons (v_iload_n (q := 1) (by decide +kernel) rfl) rfl ?_
  refine am_pv_cons (v_iload_n (q := 2) (by decide +kernel) rfl) rfl ?_
  refine am_pv_cons (v_virt (idx := 81) yv_Best_isEnough rfl rfl (tb5 89 (by decide +kernel) rfl) (by decide +kernel)) rfl ?_
  refine am_pv_cons (v_if_eq (off := 7) (by decide +kernel) rfl) rfl ?_
  refine am_pv_cons (v_iload (by decide +kernel)) rfl ?_
  refine am_pv_cons (v_istore (by decide +kernel)) rfl ?_
  refine am_pv_cons (v_iinc (n := 1) (by decide +kernel) (by decide +kernel)) rfl ?_
  refine am_pv_cons (v_goto (off := -70) (by decide +kernel) rfl) rfl ?_
  refine am_pv_cons (v_iload (by decide +kernel)) rfl ?_
  refine am_pv_cons (v_ireturn (by decide +kernel)) trivial ?_
  exact trivial
def P_Best_isEnough (E : am_E) (k : Nat) : am_P := [(0, aI 0), (1, aSi 4), (3, aLi 4), (5, aLa 0), (6, aGet 10 4), (9, c_ge 54), (12, aLa 0), (13, aGet 10 5), (16, aLi 4), (18, aAld 0), (19, aLa 0), (20, aGet 10 5), (23, aI 0), (24, aAld 0), (25, a_ixor), (26, aLi 1), (27, a_iand), (28, z_ne 48), (31, aLa 0), (32, aGet 10 5), (35, aLi 4), (37, aAld 0), (38, aLi 2), (39, aLi 3), (40, aIs E k 3 Y_TC_isTogether), (43, z_ne 48), (46, aI 0), (47, aRi), (48, aInc 4 1), (51, aGo 3), (54, aI 1), (55, aRi)]
set_option maxRecDepth 20000 in
theorem pv_Best_isEnough (E : am_E) (k : Nat) : am_pv E k Y_Best_isEnough.2.1 Y_Best_isEnough.2.2.1 Y_Best_isEnough.1.cls (P_Best_isEnough E k) := by
  refine am_pv_cons (v_iconst (n := 0) (by decide +kernel) rfl) rfl ?_
  refine am_pv_cons (v_istore (by decide +kernel)) rfl ?_
  refine am_pv_cons (v_iload (by decide +kernel)) rfl ?_
  refine am_pv_cons (v_aload_n (q := 0) (by decide +kernel) rfl) rfl ?_
  refine am_pv_cons (v_get fl_Best_39 (by decide +kernel)) rfl ?_
  refine am_pv_cons (v_ic_ge (off := 45) (by decide +kernel) rfl) rfl ?_
  refine am_pv_cons (v_aload_n (q := 0) (by decide +kernel) rfl) rfl ?_
  refine am_pv_cons (v_get fl_Best_9 (by decide +kernel)) rfl ?_
  refine am_pv_cons (v_iload (by decide +kernel)) rfl ?_
  refine am_pv_cons (v_iald (by decide +kernel)) rfl ?_
  refine am_pv_cons (v_aload_n (q := 0) (by decide +kernel) rfl) rfl ?_
  refine am_pv_cons (v_get fl_Best_9 (by decide +kernel)) rfl ?_
  refine am_pv_cons (v_iconst (n := 0) (by decide +kernel) rfl) rfl ?_
  refine am_pv_cons (v_iald (by decide +kernel)) rfl ?_
  refine am_pv_cons (v_ixor (by decide +kernel)) rfl ?_
  refine am_pv_cons (v_iload_n (q := 1) (by decide +kernel) rfl) rfl ?_
  refine am_pv_cons (v_iand (by decide +kernel)) rfl ?_
  refine am_pv_cons (v_if_ne (off := 20) (by decide +kernel) rfl) rfl ?_
  refine am_pv_cons (v_aload_n (q := 0) (by decide +kernel) rfl) rfl ?_
  refine am_pv_cons (v_get fl_Best_9 (by decide +kernel)) rfl ?_
  refine am_pv_cons (v_iload (by decide +kernel)) rfl ?_
  refine am_pv_cons (v_iald (by decide +kernel)) rfl ?_
  refine am_pv_cons (v_iload_n (q := 2) (by decide +kernel) rfl) rfl ?_
  refine am_pv_cons (v_iload_n (q := 3) (by decide +kernel) rfl) rfl ?_
  refine am_pv_cons (v_statN (idx := 67) (host := "TwoCamps") ys_TC_isTogether (List.mem_of_getElem? (i := 7) (by decide +kernel)) (by decide +kernel)) rfl ?_
  refine am_pv_cons (v_if_ne (off := 5) (by decide +kernel) rfl) rfl ?_
  refine am_pv_cons (v_iconst (n := 0) (by decide +kernel) rfl) rfl ?_
  refine am_pv_cons (v_ireturn (by decide +kernel)) rfl ?_
  refine am_pv_cons (v_iinc (n := 1) (by decide +kernel) (by decide +kernel)) rfl ?_
  refine am_pv_cons (v_goto (off := -48) (by decide +kernel) rfl) rfl ?_
  refine am_pv_cons (v_iconst (n := 1) (by decide +kernel) rfl) rfl ?_
  refine am_pv_cons (v_ireturn (by decide +kernel)) trivial ?_
  exact trivial
def P_Best_leastSumIn (E : am_E) (k : Nat) : am_P := [(0, aLa 0), (1, aGet 10 2), (4, aIv E k 4 0 Y_Law_weigh), (7, aLa 0), (8, aLi 1), (9, aPut 10 7), (12, aLa 0), (13, aI (-1)), (14, aPut 10 8), (17, aLa 0), (18, aI 0), (19, aI 0), (20, aI 0), (21, aIv E k 10 3 Y_Best_spread), (24, aLa 0), (25, aGet 10 8), (28, aRi)]
set_option maxRecDepth 20000 in
theorem pv_Best_leastSumIn (E : am_E) (k : Nat) : am_pv E k Y_Best_leastSumIn.2.1 Y_Best_leastSumIn.2.2.1 Y_Best_leastSumIn.1.cls (P_Best_leastSumIn E k) := by
  refine am_pv_cons (v_aload_n (q := 0) (by decide +kernel) rfl) rfl ?_
  refine am_pv_cons (v_get fl_Best_26 (by decide +kernel)) rfl ?_
  refine am_pv_cons (v_virt (idx := 30) yv_Law_weigh rfl rfl (tb4 191 (by decide +kernel) rfl) (by decide +kernel)) rfl ?_
  refine am_pv_cons (v_aload_n (q := 0) (by decide +kernel) rfl) rfl ?_
  refine am_pv_cons (v_iload_n (q := 1) (by decide +kernel) rfl) rfl ?_
  refine am_pv_cons (v_put fw_Best_84 (by decide +kernel)) rfl ?_
  refine am_pv_cons (v_aload_n (q := 0) (by decide +kernel) rfl) rfl ?_
  refine am_pv_cons (v_iconst (n := -1) (by decide +kernel) rfl) rfl ?_
  refine am_pv_cons (v_put fw_Best_87 (by decide +kernel)) rfl ?_
  refine am_pv_cons (v_aload_n (q := 0) (by decide +kernel) rfl) rfl ?_
  refine am_pv_cons (v_iconst (n := 0) (by decide +kernel) rfl) rfl ?_
  refine am_pv_cons (v_iconst (n := 0) (by decide +kernel) rfl) rfl ?_
  refine am_pv_cons (v_iconst (n := 0) (by decide +kernel) rfl) rfl ?_
  refine am_pv_cons (v_virt (idx := 90) yv_Best_spread rfl rfl (tb4 235 (by decide +kernel) rfl) (by decide +kernel)) rfl ?_
  refine am_pv_cons (v_aload_n (q := 0) (by decide +kernel) rfl) rfl ?_
  refine am_pv_cons (v_get fl_Best_87 (by decide +kernel)) rfl ?_
  refine am_pv_cons (v_ireturn (by decide +kernel)) trivial ?_
  exact trivial
def P_Best_spread (E : am_E) (k : Nat) : am_P := [(0, aLa 0), (1, aGet 10 8), (4, aI (-1)), (5, c_eq 17), (8, aLi 3), (9, aLa 0), (10, aGet 10 8), (13, c_lt 17), (16, aRv), (17, aLi 1), (18, aLa 0), (19, aGet 10 0), (22, aGet 1 0), (25, c_lt 34), (28, aLa 0), (29, aLi 3), (30, aPut 10 8), (33, aRv), (34, aI 0), (35, aSi 4), (37, aLi 4), (39, aLa 0), (40, aGet 10 7), (43, c_ge 67), (46, aLi 4), (48, aLi 2), (49, c_gt 67), (52, aLa 0), (53, aLi 4), (55, aLi 1), (56, aLi 2), (57, aLi 3), (58, aIv E k 10 4 Y_Best_putInto), (61, aInc 4 1), (64, aGo 37), (67, aRv)]
set_option maxRecDepth 20000 in
theorem pv_Best_spread (E : am_E) (k : Nat) : am_pv E k Y_Best_spread.2.1 Y_Best_spread.2.2.1 Y_Best_spread.1.cls (P_Best_spread E k) := by
  refine am_pv_cons (v_aload_n (q := 0) (by decide +kernel) rfl) rfl ?_
  refine am_pv_cons (v_get fl_Best_87 (by decide +kernel)) rfl ?_
  refine am_pv_cons (v_iconst (n := -1) (by decide +kernel) rfl) rfl ?_
  refine am_pv_cons (v_ic_eq (off := 12) (by decide +kernel) rfl) rfl ?_
  refine am_pv_cons (v_iload_n (q := 3) (by decide +kernel) rfl) rfl ?_
  refine am_pv_cons (v_aload_n (q := 0) (by decide +kernel) rfl) rfl ?_
  refine am_pv_cons (v_get fl_Best_87 (by decide +kernel)) rfl ?_
  refine am_pv_cons (v_ic_lt (off := 4) (by decide +kernel) rfl) rfl ?_
  refine am_pv_cons (v_return_ (by decide +kernel)) rfl ?_
  refine am_pv_cons (v_iload_n (q := 1) (by decide +kernel) rfl) rfl ?_
  refine am_pv_cons (v_aload_n (q := 0) (by decide +kernel) rfl) rfl ?_
  refine am_pv_cons (v_get fl_Best_18 (by decide +kernel)) rfl ?_
  refine am_pv_cons (v_get fl_Best_50 (by decide +kernel)) rfl ?_
  refine am_pv_cons (v_ic_lt (off := 9) (by decide +kernel) rfl) rfl ?_
  refine am_pv_cons (v_aload_n (q := 0) (by decide +kernel) rfl) rfl ?_
  refine am_pv_cons (v_iload_n (q := 3) (by decide +kernel) rfl) rfl ?_
  refine am_pv_cons (v_put fw_Best_87 (by decide +kernel)) rfl ?_
  refine am_pv_cons (v_return_ (by decide +kernel)) rfl ?_
  refine am_pv_cons (v_iconst (n := 0) (by decide +kernel) rfl) rfl ?_
  refine am_pv_cons (v_istore (by decide +kernel)) rfl ?_
  refine am_pv_cons (v_iload (by decide +kernel)) rfl ?_
  refine am_pv_cons (v_aload_n (q := 0) (by decide +kernel) rfl) rfl ?_
  refine am_pv_cons (v_get fl_Best_84 (by decide +kernel)) rfl ?_
  refine am_pv_cons (v_ic_ge (off := 24) (by decide +kernel) rfl) rfl ?_
  refine am_pv_cons (v_iload (by decide +kernel)) rfl ?_
  refine am_pv_cons (v_iload_n (q := 2) (by decide +kernel) rfl) rfl ?_
  refine am_pv_cons (v_ic_gt (off := 18) (by decide +kernel) rfl) rfl ?_
  refine am_pv_cons (v_aload_n (q := 0) (by decide +kernel) rfl) rfl ?_
  refine am_pv_cons (v_iload (by decide +kernel)) rfl ?_
  refine am_pv_cons (v_iload_n (q := 1) (by decide +kernel) rfl) rfl ?_
  refine am_pv_cons (v_iload_n (q := 2) (by decide +kernel) rfl) rfl ?_
  refine am_pv_cons (v_iload_n (q := 3) (by decide +kernel) rfl) rfl ?_
  refine am_pv_cons (v_virt (idx := 94) yv_Best_putInto rfl rfl (tb4 239 (by decide +kernel) rfl) (by decide +kernel)) rfl ?_
  refine am_pv_cons (v_iinc (n := 1) (by decide +kernel) (by decide +kernel)) rfl ?_
  refine am_pv_cons (v_goto (off := -27) (by decide +kernel) rfl) rfl ?_
  refine am_pv_cons (v_return_ (by decide +kernel)) trivial ?_
  exact trivial
def P_Best_putInto (E : am_E) (k : Nat) : am_P := [(0, aLa 0), (1, aGet 10 6), (4, aLi 2), (5, aLi 1), (6, aAst), (7, aLa 0), (8, aLi 2), (9, aIv E k 10 1 Y_Best_costOfLast), (12, aSi 5), (14, aLi 5), (16, aI (-1)), (17, c_eq 39), (20, aLa 0), (21, aLi 2), (22, aI 1), (23, a_iadd), (24, aLi 3), (25, aLi 1), (26, aI 1), (27, a_iadd), (28, aMx k), (31, aLi 4), (33, aLi 5), (35, a_iadd), (36, aIv E k 10 3 Y_Best_spread), (39, aRv)]
set_option maxRecDepth 20000 in
theorem pv_Best_putInto (E : am_E) (k : Nat) : am_pv E k Y_Best_putInto.2.1 Y_Best_putInto.2.2.1 Y_Best_putInto.1.cls (P_Best_putInto E k) := by
  refine am_pv_cons (v_aload_n (q := 0) (by decide +kernel) rfl) rfl ?_
  refine am_pv_cons (v_get fl_Best_15 (by decide +kernel)) rfl ?_
  refine am_pv_cons (v_iload_n (q := 2) (by decide +kernel) rfl) rfl ?_
  refine am_pv_cons (v_iload_n (q := 1) (by decide +kernel) rfl) rfl ?_
  refine am_pv_cons (v_iast (by decide +kernel)) rfl ?_
  refine am_pv_cons (v_aload_n (q := 0) (by decide +kernel) rfl) rfl ?_
  refine am_pv_cons (v_iload_n (q := 2) (by decide +kernel) rfl) rfl ?_
  refine am_pv_cons (v_virt (idx := 98) yv_Best_costOfLast rfl rfl (tb5 3 (by decide +kernel) rfl) (by decide +kernel)) rfl ?_
  refine am_pv_cons (v_istore (by decide +kernel)) rfl ?_
  refine am_pv_cons (v_iload (by decide +kernel)) rfl ?_
  refine am_pv_cons (v_iconst (n := -1) (by decide +kernel) rfl) rfl ?_
  refine am_pv_cons (v_ic_eq (off := 22) (by decide +kernel) rfl) rfl ?_
  refine am_pv_cons (v_aload_n (q := 0) (by decide +kernel) rfl) rfl ?_
  refine am_pv_cons (v_iload_n (q := 2) (by decide +kernel) rfl) rfl ?_
  refine am_pv_cons (v_iconst (n := 1) (by decide +kernel) rfl) rfl ?_
  refine am_pv_cons (v_iadd (by decide +kernel)) rfl ?_
  refine am_pv_cons (v_iload_n (q := 3) (by decide +kernel) rfl) rfl ?_
  refine am_pv_cons (v_iload_n (q := 1) (by decide +kernel) rfl) rfl ?_
  refine am_pv_cons (v_iconst (n := 1) (by decide +kernel) rfl) rfl ?_
  refine am_pv_cons (v_iadd (by decide +kernel)) rfl ?_
  refine am_pv_cons (v_max (idx := 101) (tb5 9 (by decide +kernel) rfl) max_s math_i max_c (by decide +kernel)) rfl ?_
  refine am_pv_cons (v_iload (by decide +kernel)) rfl ?_
  refine am_pv_cons (v_iload (by decide +kernel)) rfl ?_
  refine am_pv_cons (v_iadd (by decide +kernel)) rfl ?_
  refine am_pv_cons (v_virt (idx := 90) yv_Best_spread rfl rfl (tb4 235 (by decide +kernel) rfl) (by decide +kernel)) rfl ?_
  refine am_pv_cons (v_return_ (by decide +kernel)) trivial ?_
  exact trivial
def P_Best_costOfLast (E : am_E) (k : Nat) : am_P := [(0, aI 0), (1, aSi 2), (2, aI 0), (3, aSi 3), (4, aLi 3), (5, aLi 1), (6, c_ge 92), (9, aLa 0), (10, aGet 10 1), (13, aLi 3), (14, aLi 1), (15, aIv E k 2 2 Y_Feelings_find), (18, aSi 4), (20, aLi 4), (22, aI (-1)), (23, c_eq 86), (26, aLa 0), (27, aGet 10 1), (30, aLi 4), (32, aLa 0), (33, aGet 10 6), (36, aLi 3), (37, aAld 0), (38, aLa 0), (39, aGet 10 6), (42, aLi 1), (43, aAld 0), (44, c_ne 51), (47, aI 1), (48, aGo 52), (51, aI 0), (52, aIv E k 2 2 Y_Feelings_isWrong), (55, z_eq 86), (58, aLa 0), (59, aGet 10 2), (62, aGet 4 5), (65, aLi 4), (67, aAld 1), (68, z_ne 73), (71, aI (-1)), (72, aRi), (73, aLi 2), (74, aLa 0), (75, aGet 10 2), (78, aGet 4 4), (81, aLi 4), (83, aAld 0), (84, a_iadd), (85, aSi 2), (86, aInc 3 1), (89, aGo 4), (92, aLi 2), (93, aRi)]
set_option maxRecDepth 20000 in
theorem pv_Best_costOfLast (E : am_E) (k : Nat) : am_pv E k Y_Best_costOfLast.2.1 Y_Best_costOfLast.2.2.1 Y_Best_costOfLast.1.cls (P_Best_costOfLast E k) := by
  refine am_pv_cons (v_iconst (n := 0) (by decide +kernel) rfl) rfl ?_
  refine am_pv_cons (v_istore_n (q := 2) (by decide +kernel) rfl) rfl ?_
  refine am_pv_cons (v_iconst (n := 0) (by decide +kernel) rfl) rfl ?_
  refine am_pv_cons (v_istore_n (q := 3) (by decide +kernel) rfl) rfl ?_
  refine am_pv_cons (v_iload_n (q := 3) (by decide +kernel) rfl) rfl ?_
  refine am_pv_cons (v_iload_n (q := 1) (by decide +kernel) rfl) rfl ?_
  refine am_pv_cons (v_ic_ge (off := 86) (by decide +kernel) rfl) rfl ?_
  refine am_pv_cons (v_aload_n (q := 0) (by decide +kernel) rfl) rfl ?_
  refine am_pv_cons (v_get fl_Best_22 (by decide +kernel)) rfl ?_
  refine am_pv_cons (v_iload_n (q := 3) (by decide +kernel) rfl) rfl ?_
  refine am_pv_cons (v_iload_n (q := 1) (by decide +kernel) rfl) rfl ?_
  refine am_pv_cons (v_virt (idx := 107) yv_Feelings_find rfl rfl (tb5 7 (by decide +kernel) rfl) (by decide +kernel)) rfl ?_
  refine am_pv_cons (v_istore (by decide +kernel)) rfl ?_
  refine am_pv_cons (v_iload (by decide +kernel)) rfl ?_
  refine am_pv_cons (v_iconst (n := -1) (by decide +kernel) rfl) rfl ?_
  refine am_pv_cons (v_ic_eq (off := 63) (by decide +kernel) rfl) rfl ?_
  refine am_pv_cons (v_aload_n (q := 0) (by decide +kernel) rfl) rfl ?_
  refine am_pv_cons (v_get fl_Best_22 (by decide +kernel)) rfl ?_
  refine am_pv_cons (v_iload (by decide +kernel)) rfl ?_
  refine am_pv_cons (v_aload_n (q := 0) (by decide +kernel) rfl) rfl ?_
  refine am_pv_cons (v_get fl_Best_15 (by decide +kernel)) rfl ?_
  refine am_pv_cons (v_iload_n (q := 3) (by decide +kernel) rfl) rfl ?_
  refine am_pv_cons (v_iald (by decide +kernel)) rfl ?_
  refine am_pv_cons (v_aload_n (q := 0) (by decide +kernel) rfl) rfl ?_
  refine am_pv_cons (v_get fl_Best_15 (by decide +kernel)) rfl ?_
  refine am_pv_cons (v_iload_n (q := 1) (by decide +kernel) rfl) rfl ?_
  refine am_pv_cons (v_iald (by decide +kernel)) rfl ?_
  refine am_pv_cons (v_ic_ne (off := 7) (by decide +kernel) rfl) rfl ?_
  refine am_pv_cons (v_iconst (n := 1) (by decide +kernel) rfl) rfl ?_
  refine am_pv_cons (v_goto (off := 4) (by decide +kernel) rfl) rfl ?_
  refine am_pv_cons (v_iconst (n := 0) (by decide +kernel) rfl) rfl ?_
  refine am_pv_cons (v_virt (idx := 110) yv_Feelings_isWrong rfl rfl (tb5 8 (by decide +kernel) rfl) (by decide +kernel)) rfl ?_
  refine am_pv_cons (v_if_eq (off := 31) (by decide +kernel) rfl) rfl ?_
  refine am_pv_cons (v_aload_n (q := 0) (by decide +kernel) rfl) rfl ?_
  refine am_pv_cons (v_get fl_Best_26 (by decide +kernel)) rfl ?_
  refine am_pv_cons (v_get fl_Best_60 (by decide +kernel)) rfl ?_
  refine am_pv_cons (v_iload (by decide +kernel)) rfl ?_
  refine am_pv_cons (v_zald (by decide +kernel)) rfl ?_
  refine am_pv_cons (v_if_ne (off := 5) (by decide +kernel) rfl) rfl ?_
  refine am_pv_cons (v_iconst (n := -1) (by decide +kernel) rfl) rfl ?_
  refine am_pv_cons (v_ireturn (by decide +kernel)) rfl ?_
  refine am_pv_cons (v_iload_n (q := 2) (by decide +kernel) rfl) rfl ?_
  refine am_pv_cons (v_aload_n (q := 0) (by decide +kernel) rfl) rfl ?_
  refine am_pv_cons (v_get fl_Best_26 (by decide +kernel)) rfl ?_
  refine am_pv_cons (v_get fl_Best_64 (by decide +kernel)) rfl ?_
  refine am_pv_cons (v_iload (by decide +kernel)) rfl ?_
  refine am_pv_cons (v_iald (by decide +kernel)) rfl ?_
  refine am_pv_cons (v_iadd (by decide +kernel)) rfl ?_
  refine am_pv_cons (v_istore_n (q := 2) (by decide +kernel) rfl) rfl ?_
  refine am_pv_cons (v_iinc (n := 1) (by decide +kernel) (by decide +kernel)) rfl ?_
  refine am_pv_cons (v_goto (off := -85) (by decide +kernel) rfl) rfl ?_
  refine am_pv_cons (v_iload_n (q := 2) (by decide +kernel) rfl) rfl ?_
  refine am_pv_cons (v_ireturn (by decide +kernel)) trivial ?_
  exact trivial
def P_Sheet_isThere (E : am_E) (k : Nat) : am_P := [(0, aLa 0), (1, aGet 11 0), (4, aI (-1)), (5, c_eq 12), (8, aI 1), (9, aGo 13), (12, aI 0), (13, aRi)]
set_option maxRecDepth 20000 in
theorem pv_Sheet_isThere (E : am_E) (k : Nat) : am_pv E k Y_Sheet_isThere.2.1 Y_Sheet_isThere.2.2.1 Y_Sheet_isThere.1.cls (P_Sheet_isThere E k) := by
  refine am_pv_cons (v_aload_n (q := 0) (by decide +kernel) rfl) rfl ?_
  refine am_pv_cons (v_get fl_Sheet_11 (by decide +kernel)) rfl ?_
  refine am_pv_cons (v_iconst (n := -1) (by decide +kernel) rfl) rfl ?_
  refine am_pv_cons (v_ic_eq (off := 7) (by decide +kernel) rfl) rfl ?_
  refine am_pv_cons (v_iconst (n := 1) (by decide +kernel) rfl) rfl ?_
  refine am_pv_cons (v_goto (off := 4) (by decide +kernel) rfl) rfl ?_
  refine am_pv_cons (v_iconst (n := 0) (by decide +kernel) rfl) rfl ?_
  refine am_pv_cons (v_ireturn (by decide +kernel)) trivial ?_
  exact trivial
def P_Sheet_become (E : am_E) (k : Nat) : am_P := [(0, aLa 0), (1, aLi 1), (2, aPut 11 0), (5, aLa 0), (6, aLi 2), (7, aPut 11 1), (10, aLa 0), (11, aGet 11 2), (14, aI 0), (15, aIs E k 2 Y_Arr_fill), (18, aRv)]
set_option maxRecDepth 20000 in
theorem pv_Sheet_become (E : am_E) (k : Nat) : am_pv E k Y_Sheet_become.2.1 Y_Sheet_become.2.2.1 Y_Sheet_become.1.cls (P_Sheet_become E k) := by
  refine am_pv_cons (v_aload_n (q := 0) (by decide +kernel) rfl) rfl ?_
  refine am_pv_cons (v_iload_n (q := 1) (by decide +kernel) rfl) rfl ?_
  refine am_pv_cons (v_put fw_Sheet_11 (by decide +kernel)) rfl ?_
  refine am_pv_cons (v_aload_n (q := 0) (by decide +kernel) rfl) rfl ?_
  refine am_pv_cons (v_iload_n (q := 2) (by decide +kernel) rfl) rfl ?_
  refine am_pv_cons (v_put fw_Sheet_19 (by decide +kernel)) rfl ?_
  refine am_pv_cons (v_aload_n (q := 0) (by decide +kernel) rfl) rfl ?_
  refine am_pv_cons (v_get fl_Sheet_15 (by decide +kernel)) rfl ?_
  refine am_pv_cons (v_iconst (n := 0) (by decide +kernel) rfl) rfl ?_
  refine am_pv_cons (v_stat (idx := 22) ys_Arr_fill (tb5 131 (by decide +kernel) rfl) (by decide +kernel)) rfl ?_
  refine am_pv_cons (v_return_ (by decide +kernel)) trivial ?_
  exact trivial
def P_Sheet_holds (E : am_E) (k : Nat) : am_P := [(0, aLi 1), (1, z_lt 30), (4, aLi 2), (5, z_lt 30), (8, aLi 1), (9, aLa 0), (10, aGet 11 1), (13, c_gt 30), (16, aLi 2), (17, aLa 0), (18, aGet 11 1), (21, aLi 1), (22, a_isub), (23, c_gt 30), (26, aI 1), (27, aGo 31), (30, aI 0), (31, aRi)]
set_option maxRecDepth 20000 in
theorem pv_Sheet_holds (E : am_E) (k : Nat) : am_pv E k Y_Sheet_holds.2.1 Y_Sheet_holds.2.2.1 Y_Sheet_holds.1.cls (P_Sheet_holds E k) := by
  refine am_pv_cons (v_iload_n (q := 1) (by decide +kernel) rfl) rfl ?_
  refine am_pv_cons (v_if_lt (off := 29) (by decide +kernel) rfl) rfl ?_
  refine am_pv_cons (v_iload_n (q := 2) (by decide +kernel) rfl) rfl ?_
  refine am_pv_cons (v_if_lt (off := 25) (by decide +kernel) rfl) rfl ?_
  refine am_pv_cons (v_iload_n (q := 1) (by decide +kernel) rfl) rfl ?_
  refine am_pv_cons (v_aload_n (q := 0) (by decide +kernel) rfl) rfl ?_
  refine am_pv_cons (v_get fl_Sheet_19 (by decide +kernel)) rfl ?_
  refine am_pv_cons (v_ic_gt (off := 17) (by decide +kernel) rfl) rfl ?_
  refine am_pv_cons (v_iload_n (q := 2) (by decide +kernel) rfl) rfl ?_
  refine am_pv_cons (v_aload_n (q := 0) (by decide +kernel) rfl) rfl ?_
  refine am_pv_cons (v_get fl_Sheet_19 (by decide +kernel)) rfl ?_
  refine am_pv_cons (v_iload_n (q := 1) (by decide +kernel) rfl) rfl ?_
  refine am_pv_cons (v_isub (by decide +kernel)) rfl ?_
  refine am_pv_cons (v_ic_gt (off := 7) (by decide +kernel) rfl) rfl ?_
  refine am_pv_cons (v_iconst (n := 1) (by decide +kernel) rfl) rfl ?_
  refine am_pv_cons (v_goto (off := 4) (by decide +kernel) rfl) rfl ?_
  refine am_pv_cons (v_iconst (n := 0) (by decide +kernel) rfl) rfl ?_
  refine am_pv_cons (v_ireturn (by decide +kernel)) trivial ?_
  exact trivial
def P_Sheet_put (E : am_E) (k : Nat) : am_P := [(0, aLa 0), (1, aGet 11 2), (4, aLi 1), (5, aLa 0), (6, aGet 11 0), (9, z_ne 17), (12, aLi 2), (13, a_i2b), (14, aGo 31), (17, aLa 0), (18, aGet 11 0), (21, aI 1), (22, c_ne 30), (25, aLi 2), (26, a_i2s), (27, aGo 31), (30, aLi 2), (31, aAst), (32, aRv)]
set_option maxRecDepth 20000 in
theorem pv_Sheet_put (E : am_E) (k : Nat) : am_pv E k Y_Sheet_put.2.1 Y_Sheet_put.2.2.1 Y_Sheet_put.1.cls (P_Sheet_put E k) := by
  refine am_pv_cons (v_aload_n (q := 0) (by decide +kernel) rfl) rfl ?_
  refine am_pv_cons (v_get fl_Sheet_15 (by decide +kernel)) rfl ?_
  refine am_pv_cons (v_iload_n (q := 1) (by decide +kernel) rfl) rfl ?_
  refine am_pv_cons (v_aload_n (q := 0) (by decide +kernel) rfl) rfl ?_
  refine am_pv_cons (v_get fl_Sheet_11 (by decide +kernel)) rfl ?_
  refine am_pv_cons (v_if_ne (off := 8) (by decide +kernel) rfl) rfl ?_
  refine am_pv_cons (v_iload_n (q := 2) (by decide +kernel) rfl) rfl ?_
  refine am_pv_cons (v_i2b (by decide +kernel)) rfl ?_
  refine am_pv_cons (v_goto (off := 17) (by decide +kernel) rfl) rfl ?_
  refine am_pv_cons (v_aload_n (q := 0) (by decide +kernel) rfl) rfl ?_
  refine am_pv_cons (v_get fl_Sheet_11 (by decide +kernel)) rfl ?_
  refine am_pv_cons (v_iconst (n := 1) (by decide +kernel) rfl) rfl ?_
  refine am_pv_cons (v_ic_ne (off := 8) (by decide +kernel) rfl) rfl ?_
  refine am_pv_cons (v_iload_n (q := 2) (by decide +kernel) rfl) rfl ?_
  refine am_pv_cons (v_i2s (by decide +kernel)) rfl ?_
  refine am_pv_cons (v_goto (off := 4) (by decide +kernel) rfl) rfl ?_
  refine am_pv_cons (v_iload_n (q := 2) (by decide +kernel) rfl) rfl ?_
  refine am_pv_cons (v_iast (by decide +kernel)) rfl ?_
  refine am_pv_cons (v_return_ (by decide +kernel)) trivial ?_
  exact trivial
