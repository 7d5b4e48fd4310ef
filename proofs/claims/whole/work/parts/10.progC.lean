def P_MO_in (E : am_E) (k : Nat) : am_P := [(0, aLj 0), (1, aLj 2), (2, aCmp), (3, z_lt 17), (6, aLj 0), (7, aLj 4), (9, aCmp), (10, z_gt 17), (13, aI 1), (14, aGo 18), (17, aI 0), (18, aRi)]
set_option maxRecDepth 20000 in
theorem pv_MO_in (E : am_E) (k : Nat) : am_pv E k Y_MO_in.2.1 Y_MO_in.2.2.1 Y_MO_in.1.cls (P_MO_in E k) := by
  refine am_pv_cons (v_lload_n (q := 0) (by decide +kernel) rfl) rfl ?_
  refine am_pv_cons (v_lload_n (q := 2) (by decide +kernel) rfl) rfl ?_
  refine am_pv_cons (v_lcmp (by decide +kernel)) rfl ?_
  refine am_pv_cons (v_if_lt (off := 14) (by decide +kernel) rfl) rfl ?_
  refine am_pv_cons (v_lload_n (q := 0) (by decide +kernel) rfl) rfl ?_
  refine am_pv_cons (v_lload (by decide +kernel)) rfl ?_
  refine am_pv_cons (v_lcmp (by decide +kernel)) rfl ?_
  refine am_pv_cons (v_if_gt (off := 7) (by decide +kernel) rfl) rfl ?_
  refine am_pv_cons (v_iconst (n := 1) (by decide +kernel) rfl) rfl ?_
  refine am_pv_cons (v_goto (off := 4) (by decide +kernel) rfl) rfl ?_
  refine am_pv_cons (v_iconst (n := 0) (by decide +kernel) rfl) rfl ?_
  refine am_pv_cons (v_ireturn (by decide +kernel)) trivial ?_
  exact trivial
def P_MO_spell (E : am_E) (k : Nat) : am_P := [(0, aI 0), (1, aSi 4), (3, aLi 4), (5, aI 8), (7, c_ge 40), (10, aLa 0), (11, aGet 12 1), (14, aLi 1), (15, aLi 4), (17, a_iadd), (18, aLj 2), (19, aI 56), (21, aI 8), (23, aLi 4), (25, a_imul), (26, a_isub), (27, a_lshr), (28, aJ 255), (31, a_land), (32, aL2I), (33, aAst), (34, aInc 4 1), (37, aGo 3), (40, aRv)]
set_option maxRecDepth 20000 in
theorem pv_MO_spell (E : am_E) (k : Nat) : am_pv E k Y_MO_spell.2.1 Y_MO_spell.2.2.1 Y_MO_spell.1.cls (P_MO_spell E k) := by
  refine am_pv_cons (v_iconst (n := 0) (by decide +kernel) rfl) rfl ?_
  refine am_pv_cons (v_istore (by decide +kernel)) rfl ?_
  refine am_pv_cons (v_iload (by decide +kernel)) rfl ?_
  refine am_pv_cons (v_bipush (n := 8) (by decide +kernel) (by decide +kernel)) rfl ?_
  refine am_pv_cons (v_ic_ge (off := 33) (by decide +kernel) rfl) rfl ?_
  refine am_pv_cons (v_aload_n (q := 0) (by decide +kernel) rfl) rfl ?_
  refine am_pv_cons (v_get fl_MO_13 (by decide +kernel)) rfl ?_
  refine am_pv_cons (v_iload_n (q := 1) (by decide +kernel) rfl) rfl ?_
  refine am_pv_cons (v_iload (by decide +kernel)) rfl ?_
  refine am_pv_cons (v_iadd (by decide +kernel)) rfl ?_
  refine am_pv_cons (v_lload_n (q := 2) (by decide +kernel) rfl) rfl ?_
  refine am_pv_cons (v_bipush (n := 56) (by decide +kernel) (by decide +kernel)) rfl ?_
  refine am_pv_cons (v_bipush (n := 8) (by decide +kernel) (by decide +kernel)) rfl ?_
  refine am_pv_cons (v_iload (by decide +kernel)) rfl ?_
  refine am_pv_cons (v_imul (by decide +kernel)) rfl ?_
  refine am_pv_cons (v_isub (by decide +kernel)) rfl ?_
  refine am_pv_cons (v_lshr (by decide +kernel)) rfl ?_
  refine am_pv_cons (v_ldc2 (i := 114) (tb5 170 (by decide +kernel) rfl) (by decide +kernel)) rfl ?_
  refine am_pv_cons (v_land (by decide +kernel)) rfl ?_
  refine am_pv_cons (v_l2i (by decide +kernel)) rfl ?_
  refine am_pv_cons (v_iast (by decide +kernel)) rfl ?_
  refine am_pv_cons (v_iinc (n := 1) (by decide +kernel) (by decide +kernel)) rfl ?_
  refine am_pv_cons (v_goto (off := -34) (by decide +kernel) rfl) rfl ?_
  refine am_pv_cons (v_return_ (by decide +kernel)) trivial ?_
  exact trivial
def P_MO_isPerson (E : am_E) (k : Nat) : am_P := [(0, aLi 1), (1, aI2L), (2, aJ 0), (3, aLa 0), (4, aGet 12 9), (7, aI 1), (8, a_isub), (9, aI2L), (10, aIs E k 3 Y_MO_in), (13, aRi)]
set_option maxRecDepth 20000 in
theorem pv_MO_isPerson (E : am_E) (k : Nat) : am_pv E k Y_MO_isPerson.2.1 Y_MO_isPerson.2.2.1 Y_MO_isPerson.1.cls (P_MO_isPerson E k) := by
  refine am_pv_cons (v_iload_n (q := 1) (by decide +kernel) rfl) rfl ?_
  refine am_pv_cons (v_i2l (by decide +kernel)) rfl ?_
  refine am_pv_cons (v_lconst (n := 0) (by decide +kernel) rfl) rfl ?_
  refine am_pv_cons (v_aload_n (q := 0) (by decide +kernel) rfl) rfl ?_
  refine am_pv_cons (v_get fl_MO_116 (by decide +kernel)) rfl ?_
  refine am_pv_cons (v_iconst (n := 1) (by decide +kernel) rfl) rfl ?_
  refine am_pv_cons (v_isub (by decide +kernel)) rfl ?_
  refine am_pv_cons (v_i2l (by decide +kernel)) rfl ?_
  refine am_pv_cons (v_stat (idx := 119) ys_MO_in (tb6 98 (by decide +kernel) rfl) (by decide +kernel)) rfl ?_
  refine am_pv_cons (v_ireturn (by decide +kernel)) trivial ?_
  exact trivial
def P_MO_isFeeling (E : am_E) (k : Nat) : am_P := [(0, aLi 1), (1, aI2L), (2, aJ 0), (3, aLa 0), (4, aGet 12 16), (7, aI 1), (8, a_isub), (9, aI2L), (10, aIs E k 3 Y_MO_in), (13, aRi)]
set_option maxRecDepth 20000 in
theorem pv_MO_isFeeling (E : am_E) (k : Nat) : am_pv E k Y_MO_isFeeling.2.1 Y_MO_isFeeling.2.2.1 Y_MO_isFeeling.1.cls (P_MO_isFeeling E k) := by
  refine am_pv_cons (v_iload_n (q := 1) (by decide +kernel) rfl) rfl ?_
  refine am_pv_cons (v_i2l (by decide +kernel)) rfl ?_
  refine am_pv_cons (v_lconst (n := 0) (by decide +kernel) rfl) rfl ?_
  refine am_pv_cons (v_aload_n (q := 0) (by decide +kernel) rfl) rfl ?_
  refine am_pv_cons (v_get fl_MO_123 (by decide +kernel)) rfl ?_
  refine am_pv_cons (v_iconst (n := 1) (by decide +kernel) rfl) rfl ?_
  refine am_pv_cons (v_isub (by decide +kernel)) rfl ?_
  refine am_pv_cons (v_i2l (by decide +kernel)) rfl ?_
  refine am_pv_cons (v_stat (idx := 119) ys_MO_in (tb6 98 (by decide +kernel) rfl) (by decide +kernel)) rfl ?_
  refine am_pv_cons (v_ireturn (by decide +kernel)) trivial ?_
  exact trivial
def P_MO_person (E : am_E) (k : Nat) : am_P := [(0, aLi 1), (1, aI2L), (2, aJ 0), (3, aJ 99), (6, aIs E k 3 Y_MO_in), (9, z_ne 15), (12, aI (-2)), (14, aRi), (15, aLa 0), (16, aGet 12 9), (19, aI 9), (21, c_ne 27), (24, aI (-4)), (26, aRi), (27, aLa 0), (28, aGet 12 7), (31, aLa 0), (32, aGet 12 9), (35, aLi 1), (36, aAst), (37, aLa 0), (38, aGet 12 8), (41, aLa 0), (42, aGet 12 9), (45, aI (-1)), (46, aAst), (47, aLa 0), (48, aDup), (49, aGet 12 9), (52, aI 1), (53, a_iadd), (54, aPut 12 9), (57, aLa 0), (58, aGet 12 9), (61, aI 1), (62, a_isub), (63, aRi)]
set_option maxRecDepth 20000 in
theorem pv_MO_person (E : am_E) (k : Nat) : am_pv E k Y_MO_person.2.1 Y_MO_person.2.2.1 Y_MO_person.1.cls (P_MO_person E k) := by
  refine am_pv_cons (v_iload_n (q := 1) (by decide +kernel) rfl) rfl ?_
  refine am_pv_cons (v_i2l (by decide +kernel)) rfl ?_
  refine am_pv_cons (v_lconst (n := 0) (by decide +kernel) rfl) rfl ?_
  refine am_pv_cons (v_ldc2 (i := 126) (tb6 97 (by decide +kernel) rfl) (by decide +kernel)) rfl ?_
  refine am_pv_cons (v_stat (idx := 119) ys_MO_in (tb6 98 (by decide +kernel) rfl) (by decide +kernel)) rfl ?_
  refine am_pv_cons (v_if_ne (off := 6) (by decide +kernel) rfl) rfl ?_
  refine am_pv_cons (v_bipush (n := -2) (by decide +kernel) (by decide +kernel)) rfl ?_
  refine am_pv_cons (v_ireturn (by decide +kernel)) rfl ?_
  refine am_pv_cons (v_aload_n (q := 0) (by decide +kernel) rfl) rfl ?_
  refine am_pv_cons (v_get fl_MO_116 (by decide +kernel)) rfl ?_
  refine am_pv_cons (v_bipush (n := 9) (by decide +kernel) (by decide +kernel)) rfl ?_
  refine am_pv_cons (v_ic_ne (off := 6) (by decide +kernel) rfl) rfl ?_
  refine am_pv_cons (v_bipush (n := -4) (by decide +kernel) (by decide +kernel)) rfl ?_
  refine am_pv_cons (v_ireturn (by decide +kernel)) rfl ?_
  refine am_pv_cons (v_aload_n (q := 0) (by decide +kernel) rfl) rfl ?_
  refine am_pv_cons (v_get fl_MO_23 (by decide +kernel)) rfl ?_
  refine am_pv_cons (v_aload_n (q := 0) (by decide +kernel) rfl) rfl ?_
  refine am_pv_cons (v_get fl_MO_116 (by decide +kernel)) rfl ?_
  refine am_pv_cons (v_iload_n (q := 1) (by decide +kernel) rfl) rfl ?_
  refine am_pv_cons (v_iast (by decide +kernel)) rfl ?_
  refine am_pv_cons (v_aload_n (q := 0) (by decide +kernel) rfl) rfl ?_
  refine am_pv_cons (v_get fl_MO_26 (by decide +kernel)) rfl ?_
  refine am_pv_cons (v_aload_n (q := 0) (by decide +kernel) rfl) rfl ?_
  refine am_pv_cons (v_get fl_MO_116 (by decide +kernel)) rfl ?_
  refine am_pv_cons (v_iconst (n := -1) (by decide +kernel) rfl) rfl ?_
  refine am_pv_cons (v_iast (by decide +kernel)) rfl ?_
  refine am_pv_cons (v_aload_n (q := 0) (by decide +kernel) rfl) rfl ?_
  refine am_pv_cons (v_dup (by decide +kernel)) rfl ?_
  refine am_pv_cons (v_get fl_MO_116 (by decide +kernel)) rfl ?_
  refine am_pv_cons (v_iconst (n := 1) (by decide +kernel) rfl) rfl ?_
  refine am_pv_cons (v_iadd (by decide +kernel)) rfl ?_
  refine am_pv_cons (v_put fw_MO_116 (by decide +kernel)) rfl ?_
  refine am_pv_cons (v_aload_n (q := 0) (by decide +kernel) rfl) rfl ?_
  refine am_pv_cons (v_get fl_MO_116 (by decide +kernel)) rfl ?_
  refine am_pv_cons (v_iconst (n := 1) (by decide +kernel) rfl) rfl ?_
  refine am_pv_cons (v_isub (by decide +kernel)) rfl ?_
  refine am_pv_cons (v_ireturn (by decide +kernel)) trivial ?_
  exact trivial
def P_MO_set (E : am_E) (k : Nat) : am_P := [(0, aLi 1), (1, aI2L), (2, aJ 0), (3, aJ 1), (4, aIs E k 3 Y_MO_in), (7, z_eq 48), (10, aLa 0), (11, aLi 2), (12, aIv E k 12 1 Y_MO_isPerson), (15, z_eq 48), (18, aLi 3), (19, aI2L), (20, aLi 1), (21, z_ne 28), (24, aJ 0), (25, aGo 31), (28, aJ (-1)), (31, aLi 1), (32, z_ne 41), (35, aJ 99), (38, aGo 42), (41, aJ 1), (42, aIs E k 3 Y_MO_in), (45, z_ne 51), (48, aI (-5)), (50, aRi), (51, aLi 1), (52, z_ne 64), (55, aLa 0), (56, aGet 12 7), (59, aLi 2), (60, aAld 0), (61, aGo 70), (64, aLa 0), (65, aGet 12 8), (68, aLi 2), (69, aAld 0), (70, aSi 4), (72, aLi 1), (73, z_ne 86), (76, aLa 0), (77, aGet 12 7), (80, aLi 2), (81, aLi 3), (82, aAst), (83, aGo 93), (86, aLa 0), (87, aGet 12 8), (90, aLi 2), (91, aLi 3), (92, aAst), (93, aLi 4), (95, aRi)]
set_option maxRecDepth 20000 in
theorem pv_MO_set (E : am_E) (k : Nat) : am_pv E k Y_MO_set.2.1 Y_MO_set.2.2.1 Y_MO_set.1.cls (P_MO_set E k) := by
  refine am_pv_cons (v_iload_n (q := 1) (by decide +kernel) rfl) rfl ?_
  refine am_pv_cons (v_i2l (by decide +kernel)) rfl ?_
  refine am_pv_cons (v_lconst (n := 0) (by decide +kernel) rfl) rfl ?_
  refine am_pv_cons (v_lconst (n := 1) (by decide +kernel) rfl) rfl ?_
  refine am_pv_cons (v_stat (idx := 119) ys_MO_in (tb6 98 (by decide +kernel) rfl) (by decide +kernel)) rfl ?_
  refine am_pv_cons (v_if_eq (off := 41) (by decide +kernel) rfl) rfl ?_
  refine am_pv_cons (v_aload_n (q := 0) (by decide +kernel) rfl) rfl ?_
  refine am_pv_cons (v_iload_n (q := 2) (by decide +kernel) rfl) rfl ?_
  refine am_pv_cons (v_virt (idx := 128) yv_MO_isPerson rfl rfl (tb6 105 (by decide +kernel) rfl) (by decide +kernel)) rfl ?_
  refine am_pv_cons (v_if_eq (off := 33) (by decide +kernel) rfl) rfl ?_
  refine am_pv_cons (v_iload_n (q := 3) (by decide +kernel) rfl) rfl ?_
  refine am_pv_cons (v_i2l (by decide +kernel)) rfl ?_
  refine am_pv_cons (v_iload_n (q := 1) (by decide +kernel) rfl) rfl ?_
  refine am_pv_cons (v_if_ne (off := 7) (by decide +kernel) rfl) rfl ?_
  refine am_pv_cons (v_lconst (n := 0) (by decide +kernel) rfl) rfl ?_
  refine am_pv_cons (v_goto (off := 6) (by decide +kernel) rfl) rfl ?_
  refine am_pv_cons (v_ldc2 (i := 132) (tb6 109 (by decide +kernel) rfl) (by decide +kernel)) rfl ?_
  refine am_pv_cons (v_iload_n (q := 1) (by decide +kernel) rfl) rfl ?_
  refine am_pv_cons (v_if_ne (off := 9) (by decide +kernel) rfl) rfl ?_
  refine am_pv_cons (v_ldc2 (i := 126) (tb6 97 (by decide +kernel) rfl) (by decide +kernel)) rfl ?_
  refine am_pv_cons (v_goto (off := 4) (by decide +kernel) rfl) rfl ?_
  refine am_pv_cons (v_lconst (n := 1) (by decide +kernel) rfl) rfl ?_
  refine am_pv_cons (v_stat (idx := 119) ys_MO_in (tb6 98 (by decide +kernel) rfl) (by decide +kernel)) rfl ?_
  refine am_pv_cons (v_if_ne (off := 6) (by decide +kernel) rfl) rfl ?_
  refine am_pv_cons (v_bipush (n := -5) (by decide +kernel) (by decide +kernel)) rfl ?_
  refine am_pv_cons (v_ireturn (by decide +kernel)) rfl ?_
  refine am_pv_cons (v_iload_n (q := 1) (by decide +kernel) rfl) rfl ?_
  refine am_pv_cons (v_if_ne (off := 12) (by decide +kernel) rfl) rfl ?_
  refine am_pv_cons (v_aload_n (q := 0) (by decide +kernel) rfl) rfl ?_
  refine am_pv_cons (v_get fl_MO_23 (by decide +kernel)) rfl ?_
  refine am_pv_cons (v_iload_n (q := 2) (by decide +kernel) rfl) rfl ?_
  refine am_pv_cons (v_iald (by decide +kernel)) rfl ?_
  refine am_pv_cons (v_goto (off := 9) (by decide +kernel) rfl) rfl ?_
  refine am_pv_cons (v_aload_n (q := 0) (by decide +kernel) rfl) rfl ?_
  refine am_pv_cons (v_get fl_MO_26 (by decide +kernel)) rfl ?_
  refine am_pv_cons (v_iload_n (q := 2) (by decide +kernel) rfl) rfl ?_
  refine am_pv_cons (v_iald (by decide +kernel)) rfl ?_
  refine am_pv_cons (v_istore (by decide +kernel)) rfl ?_
  refine am_pv_cons (v_iload_n (q := 1) (by decide +kernel) rfl) rfl ?_
  refine am_pv_cons (v_if_ne (off := 13) (by decide +kernel) rfl) rfl ?_
  refine am_pv_cons (v_aload_n (q := 0) (by decide +kernel) rfl) rfl ?_
  refine am_pv_cons (v_get fl_MO_23 (by decide +kernel)) rfl ?_
  refine am_pv_cons (v_iload_n (q := 2) (by decide +kernel) rfl) rfl ?_
  refine am_pv_cons (v_iload_n (q := 3) (by decide +kernel) rfl) rfl ?_
  refine am_pv_cons (v_iast (by decide +kernel)) rfl ?_
  refine am_pv_cons (v_goto (off := 10) (by decide +kernel) rfl) rfl ?_
  refine am_pv_cons (v_aload_n (q := 0) (by decide +kernel) rfl) rfl ?_
  refine am_pv_cons (v_get fl_MO_26 (by decide +kernel)) rfl ?_
  refine am_pv_cons (v_iload_n (q := 2) (by decide +kernel) rfl) rfl ?_
  refine am_pv_cons (v_iload_n (q := 3) (by decide +kernel) rfl) rfl ?_
  refine am_pv_cons (v_iast (by decide +kernel)) rfl ?_
  refine am_pv_cons (v_iload (by decide +kernel)) rfl ?_
  refine am_pv_cons (v_ireturn (by decide +kernel)) trivial ?_
  exact trivial
def P_MO_of (E : am_E) (k : Nat) : am_P := [(0, aI 0), (1, aSi 3), (2, aLi 3), (3, aLa 0), (4, aGet 12 16), (7, c_ge 58), (10, aLa 0), (11, aGet 12 10), (14, aLi 3), (15, aAld 0), (16, aLi 1), (17, c_ne 30), (20, aLa 0), (21, aGet 12 11), (24, aLi 3), (25, aAld 0), (26, aLi 2), (27, c_eq 50), (30, aLa 0), (31, aGet 12 10), (34, aLi 3), (35, aAld 0), (36, aLi 2), (37, c_ne 52), (40, aLa 0), (41, aGet 12 11), (44, aLi 3), (45, aAld 0), (46, aLi 1), (47, c_ne 52), (50, aLi 3), (51, aRi), (52, aInc 3 1), (55, aGo 2), (58, aI (-1)), (59, aRi)]
set_option maxRecDepth 20000 in
theorem pv_MO_of (E : am_E) (k : Nat) : am_pv E k Y_MO_of.2.1 Y_MO_of.2.2.1 Y_MO_of.1.cls (P_MO_of E k) := by
  refine am_pv_cons (v_iconst (n := 0) (by decide +kernel) rfl) rfl ?_
  refine am_pv_cons (v_istore_n (q := 3) (by decide +kernel) rfl) rfl ?_
  refine am_pv_cons (v_iload_n (q := 3) (by decide +kernel) rfl) rfl ?_
  refine am_pv_cons (v_aload_n (q := 0) (by decide +kernel) rfl) rfl ?_
  refine am_pv_cons (v_get fl_MO_123 (by decide +kernel)) rfl ?_
  refine am_pv_cons (v_ic_ge (off := 51) (by decide +kernel) rfl) rfl ?_
  refine am_pv_cons (v_aload_n (q := 0) (by decide +kernel) rfl) rfl ?_
  refine am_pv_cons (v_get fl_MO_29 (by decide +kernel)) rfl ?_
  refine am_pv_cons (v_iload_n (q := 3) (by decide +kernel) rfl) rfl ?_
  refine am_pv_cons (v_iald (by decide +kernel)) rfl ?_
  refine am_pv_cons (v_iload_n (q := 1) (by decide +kernel) rfl) rfl ?_
  refine am_pv_cons (v_ic_ne (off := 13) (by decide +kernel) rfl) rfl ?_
  refine am_pv_cons (v_aload_n (q := 0) (by decide +kernel) rfl) rfl ?_
  refine am_pv_cons (v_get fl_MO_32 (by decide +kernel)) rfl ?_
  refine am_pv_cons (v_iload_n (q := 3) (by decide +kernel) rfl) rfl ?_
  refine am_pv_cons (v_iald (by decide +kernel)) rfl ?_
  refine am_pv_cons (v_iload_n (q := 2) (by decide +kernel) rfl) rfl ?_
  refine am_pv_cons (v_ic_eq (off := 23) (by decide +kernel) rfl) rfl ?_
  refine am_pv_cons (v_aload_n (q := 0) (by decide +kernel) rfl) rfl ?_
  refine am_pv_cons (v_get fl_MO_29 (by decide +kernel)) rfl ?_
  refine am_pv_cons (v_iload_n (q := 3) (by decide +kernel) rfl) rfl ?_
  refine am_pv_cons (v_iald (by decide +kernel)) rfl ?_
  refine am_pv_cons (v_iload_n (q := 2) (by decide +kernel) rfl) rfl ?_
  refine am_pv_cons (v_ic_ne (off := 15) (by decide +kernel) rfl) rfl ?_
  refine am_pv_cons (v_aload_n (q := 0) (by decide +kernel) rfl) rfl ?_
  refine am_pv_cons (v_get fl_MO_32 (by decide +kernel)) rfl ?_
  refine am_pv_cons (v_iload_n (q := 3) (by decide +kernel) rfl) rfl ?_
  refine am_pv_cons (v_iald (by decide +kernel)) rfl ?_
  refine am_pv_cons (v_iload_n (q := 1) (by decide +kernel) rfl) rfl ?_
  refine am_pv_cons (v_ic_ne (off := 5) (by decide +kernel) rfl) rfl ?_
  refine am_pv_cons (v_iload_n (q := 3) (by decide +kernel) rfl) rfl ?_
  refine am_pv_cons (v_ireturn (by decide +kernel)) rfl ?_
  refine am_pv_cons (v_iinc (n := 1) (by decide +kernel) (by decide +kernel)) rfl ?_
  refine am_pv_cons (v_goto (off := -53) (by decide +kernel) rfl) rfl ?_
  refine am_pv_cons (v_iconst (n := -1) (by decide +kernel) rfl) rfl ?_
  refine am_pv_cons (v_ireturn (by decide +kernel)) trivial ?_
  exact trivial
def P_MO_tells (E : am_E) (k : Nat) : am_P := [(0, aLa 0), (1, aLi 1), (2, aLi 2), (3, aIv E k 12 2 Y_MO_of), (6, aSi 7), (8, aLi 7), (10, aI (-1)), (11, c_ne 30), (14, aLa 0), (15, aGet 12 16), (18, aSi 7), (20, aLa 0), (21, aDup), (22, aGet 12 16), (25, aI 1), (26, a_iadd), (27, aPut 12 16), (30, aLa 0), (31, aGet 12 10), (34, aLi 7), (36, aLi 1), (37, aLi 2), (38, c_ge 45), (41, aLi 1), (42, aGo 46), (45, aLi 2), (46, aAst), (47, aLa 0), (48, aGet 12 11), (51, aLi 7), (53, aLi 1), (54, aLi 2), (55, c_ge 62), (58, aLi 2), (59, aGo 63), (62, aLi 1), (63, aAst), (64, aLa 0), (65, aGet 12 12), (68, aLi 7), (70, aLi 3), (71, aAst), (72, aLa 0), (73, aGet 12 13), (76, aLi 7), (78, aLi 4), (80, aAst), (81, aLa 0), (82, aGet 12 14), (85, aLi 7), (87, aLi 5), (89, aAst), (90, aLa 0), (91, aGet 12 15), (94, aLi 7), (96, aLi 6), (98, aAst), (99, aLi 7), (101, aRi)]
set_option maxRecDepth 20000 in
theorem pv_MO_tells (E : am_E) (k : Nat) : am_pv E k Y_MO_tells.2.1 Y_MO_tells.2.2.1 Y_MO_tells.1.cls (P_MO_tells E k) := by
  refine am_pv_cons (v_aload_n (q := 0) (by decide +kernel) rfl) rfl ?_
  refine am_pv_cons (v_iload_n (q := 1) (by decide +kernel) rfl) rfl ?_
  refine am_pv_cons (v_iload_n (q := 2) (by decide +kernel) rfl) rfl ?_
  refine am_pv_cons (v_virt (idx := 134) yv_MO_of rfl rfl (tb6 119 (by decide +kernel) rfl) (by decide +kernel)) rfl ?_
  refine am_pv_cons (v_istore (by decide +kernel)) rfl ?_
  refine am_pv_cons (v_iload (by decide +kernel)) rfl ?_
  refine am_pv_cons (v_iconst (n := -1) (by decide +kernel) rfl) rfl ?_
  refine am_pv_cons (v_ic_ne (off := 19) (by decide +kernel) rfl) rfl ?_
  refine am_pv_cons (v_aload_n (q := 0) (by decide +kernel) rfl) rfl ?_
  refine am_pv_cons (v_get fl_MO_123 (by decide +kernel)) rfl ?_
  refine am_pv_cons (v_istore (by decide +kernel)) rfl ?_
  refine am_pv_cons (v_aload_n (q := 0) (by decide +kernel) rfl) rfl ?_
  refine am_pv_cons (v_dup (by decide +kernel)) rfl ?_
  refine am_pv_cons (v_get fl_MO_123 (by decide +kernel)) rfl ?_
  refine am_pv_cons (v_iconst (n := 1) (by decide +kernel) rfl) rfl ?_
  refine am_pv_cons (v_iadd (by decide +kernel)) rfl ?_
  refine am_pv_cons (v_put fw_MO_123 (by decide +kernel)) rfl ?_
  refine am_pv_cons (v_aload_n (q := 0) (by decide +kernel) rfl) rfl ?_
  refine am_pv_cons (v_get fl_MO_29 (by decide +kernel)) rfl ?_
  refine am_pv_cons (v_iload (by decide +kernel)) rfl ?_
  refine am_pv_cons (v_iload_n (q := 1) (by decide +kernel) rfl) rfl ?_
  refine am_pv_cons (v_iload_n (q := 2) (by decide +kernel) rfl) rfl ?_
  refine am_pv_cons (v_ic_ge (off := 7) (by decide +kernel) rfl) rfl ?_
  refine am_pv_cons (v_iload_n (q := 1) (by decide +kernel) rfl) rfl ?_
  refine am_pv_cons (v_goto (off := 4) (by decide +kernel) rfl) rfl ?_
  refine am_pv_cons (v_iload_n (q := 2) (by decide +kernel) rfl) rfl ?_
  refine am_pv_cons (v_iast (by decide +kernel)) rfl ?_
  refine am_pv_cons (v_aload_n (q := 0) (by decide +kernel) rfl) rfl ?_
  refine am_pv_cons (v_get fl_MO_32 (by decide +kernel)) rfl ?_
  refine am_pv_cons (v_iload (by decide +kernel)) rfl ?_
  refine am_pv_cons (v_iload_n (q := 1) (by decide +kernel) rfl) rfl ?_
  refine am_pv_cons (v_iload_n (q := 2) (by decide +kernel) rfl) rfl ?_
  refine am_pv_cons (v_ic_ge (off := 7) (by decide +kernel) rfl) rfl ?_
  refine am_pv_cons (v_iload_n (q := 2) (by decide +kernel) rfl) rfl ?_
  refine am_pv_cons (v_goto (off := 4) (by decide +kernel) rfl) rfl ?_
  refine am_pv_cons (v_iload_n (q := 1) (by decide +kernel) rfl) rfl ?_
  refine am_pv_cons (v_iast (by decide +kernel)) rfl ?_
  refine am_pv_cons (v_aload_n (q := 0) (by decide +kernel) rfl) rfl ?_
  refine am_pv_cons (v_get fl_MO_35 (by decide +kernel)) rfl ?_
  refine am_pv_cons (v_iload (by decide +kernel)) rfl ?_
  refine am_pv_cons (v_iload_n (q := 3) (by decide +kernel) rfl) rfl ?_
  refine am_pv_cons (v_iast (by decide +kernel)) rfl ?_
  refine am_pv_cons (v_aload_n (q := 0) (by decide +kernel) rfl) rfl ?_
  refine am_pv_cons (v_get fl_MO_38 (by decide +kernel)) rfl ?_
  refine am_pv_cons (v_iload (by decide +kernel)) rfl ?_
  refine am_pv_cons (v_iload (by decide +kernel)) rfl ?_
  refine am_pv_cons (v_iast (by decide +kernel)) rfl ?_
  refine am_pv_cons (v_aload_n (q := 0) (by decide +kernel) rfl) rfl ?_
  refine am_pv_cons (v_get fl_MO_41 (by decide +kernel)) rfl ?_
  refine am_pv_cons (v_iload (by decide +kernel)) rfl ?_
  refine am_pv_cons (v_iload (by decide +kernel)) rfl ?_
  refine am_pv_cons (v_iast (by decide +kernel)) rfl ?_
  refine am_pv_cons (v_aload_n (q := 0) (by decide +kernel) rfl) rfl ?_
  refine am_pv_cons (v_get fl_MO_44 (by decide +kernel)) rfl ?_
  refine am_pv_cons (v_iload (by decide +kernel)) rfl ?_
  refine am_pv_cons (v_iload (by decide +kernel)) rfl ?_
  refine am_pv_cons (v_iast (by decide +kernel)) rfl ?_
  refine am_pv_cons (v_iload (by decide +kernel)) rfl ?_
  refine am_pv_cons (v_ireturn (by decide +kernel)) trivial ?_
  exact trivial
def P_MO_feel (E : am_E) (k : Nat) : am_P := [(0, aLa 0), (1, aLi 1), (2, aIv E k 12 1 Y_MO_isPerson), (5, z_eq 57), (8, aLa 0), (9, aLi 2), (10, aIv E k 12 1 Y_MO_isPerson), (13, z_eq 57), (16, aLi 1), (17, aLi 2), (18, c_eq 57), (21, aLi 3), (22, aI 1), (23, c_eq 31), (26, aLi 3), (27, aI (-1)), (28, c_ne 57), (31, aLi 4), (33, aI2L), (34, aJ 1), (35, aJ 99), (38, aIs E k 3 Y_MO_in), (41, z_eq 57), (44, aLi 5), (46, aI2L), (47, aJ 0), (48, aJ 3), (51, aIs E k 3 Y_MO_in), (54, z_ne 60), (57, aI (-2)), (59, aRi), (60, aLa 0), (61, aLi 1), (62, aLi 2), (63, aLi 3), (64, aLi 4), (66, aLi 5), (68, aI 2), (69, a_idiv), (70, aLi 5), (72, aI 2), (73, a_irem), (74, aIv E k 12 6 Y_MO_tells), (77, aRi)]
set_option maxRecDepth 20000 in
theorem pv_MO_feel (E : am_E) (k : Nat) : am_pv E k Y_MO_feel.2.1 Y_MO_feel.2.2.1 Y_MO_feel.1.cls (P_MO_feel E k) := by
  refine am_pv_cons (v_aload_n (q := 0) (by decide +kernel) rfl) rfl ?_
  refine am_pv_cons (v_iload_n (q := 1) (by decide +kernel) rfl) rfl ?_
  refine am_pv_cons (v_virt (idx := 128) yv_MO_isPerson rfl rfl (tb6 105 (by decide +kernel) rfl) (by decide +kernel)) rfl ?_
  refine am_pv_cons (v_if_eq (off := 52) (by decide +kernel) rfl) rfl ?_
  refine am_pv_cons (v_aload_n (q := 0) (by decide +kernel) rfl) rfl ?_
  refine am_pv_cons (v_iload_n (q := 2) (by decide +kernel) rfl) rfl ?_
  refine am_pv_cons (v_virt (idx := 128) yv_MO_isPerson rfl rfl (tb6 105 (by decide +kernel) rfl) (by decide +kernel)) rfl ?_
  refine am_pv_cons (v_if_eq (off := 44) (by decide +kernel) rfl) rfl ?_
  refine am_pv_cons (v_iload_n (q := 1) (by decide +kernel) rfl) rfl ?_
  refine am_pv_cons (v_iload_n (q := 2) (by decide +kernel) rfl) rfl ?_
  refine am_pv_cons (v_ic_eq (off := 39) (by decide +kernel) rfl) rfl ?_
  refine am_pv_cons (v_iload_n (q := 3) (by decide +kernel) rfl) rfl ?_
  refine am_pv_cons (v_iconst (n := 1) (by decide +kernel) rfl) rfl ?_
  refine am_pv_cons (v_ic_eq (off := 8) (by decide +kernel) rfl) rfl ?_
  refine am_pv_cons (v_iload_n (q := 3) (by decide +kernel) rfl) rfl ?_
  refine am_pv_cons (v_iconst (n := -1) (by decide +kernel) rfl) rfl ?_
  refine am_pv_cons (v_ic_ne (off := 29) (by decide +kernel) rfl) rfl ?_
  refine am_pv_cons (v_iload (by decide +kernel)) rfl ?_
  refine am_pv_cons (v_i2l (by decide +kernel)) rfl ?_
  refine am_pv_cons (v_lconst (n := 1) (by decide +kernel) rfl) rfl ?_
  refine am_pv_cons (v_ldc2 (i := 126) (tb6 97 (by decide +kernel) rfl) (by decide +kernel)) rfl ?_
  refine am_pv_cons (v_stat (idx := 119) ys_MO_in (tb6 98 (by decide +kernel) rfl) (by decide +kernel)) rfl ?_
  refine am_pv_cons (v_if_eq (off := 16) (by decide +kernel) rfl) rfl ?_
  refine am_pv_cons (v_iload (by decide +kernel)) rfl ?_
  refine am_pv_cons (v_i2l (by decide +kernel)) rfl ?_
  refine am_pv_cons (v_lconst (n := 0) (by decide +kernel) rfl) rfl ?_
  refine am_pv_cons (v_ldc2 (i := 138) (tb6 114 (by decide +kernel) rfl) (by decide +kernel)) rfl ?_
  refine am_pv_cons (v_stat (idx := 119) ys_MO_in (tb6 98 (by decide +kernel) rfl) (by decide +kernel)) rfl ?_
  refine am_pv_cons (v_if_ne (off := 6) (by decide +kernel) rfl) rfl ?_
  refine am_pv_cons (v_bipush (n := -2) (by decide +kernel) (by decide +kernel)) rfl ?_
  refine am_pv_cons (v_ireturn (by decide +kernel)) rfl ?_
  refine am_pv_cons (v_aload_n (q := 0) (by decide +kernel) rfl) rfl ?_
  refine am_pv_cons (v_iload_n (q := 1) (by decide +kernel) rfl) rfl ?_
  refine am_pv_cons (v_iload_n (q := 2) (by decide +kernel) rfl) rfl ?_
  refine am_pv_cons (v_iload_n (q := 3) (by decide +kernel) rfl) rfl ?_
  refine am_pv_cons (v_iload (by decide +kernel)) rfl ?_
  refine am_pv_cons (v_iload (by decide +kernel)) rfl ?_
  refine am_pv_cons (v_iconst (n := 2) (by decide +kernel) rfl) rfl ?_
  refine am_pv_cons (v_idiv (by decide +kernel)) rfl ?_
  refine am_pv_cons (v_iload (by decide +kernel)) rfl ?_
  refine am_pv_cons (v_iconst (n := 2) (by decide +kernel) rfl) rfl ?_
  refine am_pv_cons (v_irem (by decide +kernel)) rfl ?_
  refine am_pv_cons (v_virt (idx := 140) yv_MO_tells rfl rfl (tb6 115 (by decide +kernel) rfl) (by decide +kernel)) rfl ?_
  refine am_pv_cons (v_ireturn (by decide +kernel)) trivial ?_
  exact trivial
def P_MO_felt (E : am_E) (k : Nat) : am_P := [(0, aLa 0), (1, aLi 1), (2, aIv E k 12 1 Y_MO_isFeeling), (5, z_ne 11), (8, aI (-5)), (10, aRi), (11, aLi 2), (12, aSw [(0, 64), (1, 71), (2, 78), (3, 85), (4, 92), (5, 99), (6, 106), (7, 112), (8, 131)] 137), (64, aLa 0), (65, aGet 12 10), (68, aLi 1), (69, aAld 0), (70, aRi), (71, aLa 0), (72, aGet 12 11), (75, aLi 1), (76, aAld 0), (77, aRi), (78, aLa 0), (79, aGet 12 12), (82, aLi 1), (83, aAld 0), (84, aRi), (85, aLa 0), (86, aGet 12 13), (89, aLi 1), (90, aAld 0), (91, aRi), (92, aLa 0), (93, aGet 12 14), (96, aLi 1), (97, aAld 0), (98, aRi), (99, aLa 0), (100, aGet 12 15), (103, aLi 1), (104, aAld 0), (105, aRi), (106, aLa 0), (107, aLi 1), (108, aIv E k 12 1 Y_MO_costOf), (111, aRi), (112, aLa 0), (113, aLa 0), (114, aGet 12 4), (117, aLi 1), (118, aI 1), (119, aIv E k 12 3 Y_MO_read), (122, z_eq 129), (125, aI 1), (126, aGo 130), (129, aI 0), (130, aRi), (131, aLa 0), (132, aLi 1), (133, aIv E k 12 1 Y_MO_badThrees), (136, aRi), (137, aI (-5)), (139, aRi)]
set_option maxRecDepth 20000 in
theorem pv_MO_felt (E : am_E) (k : Nat) : am_pv E k Y_MO_felt.2.1 Y_MO_felt.2.2.1 Y_MO_felt.1.cls (P_MO_felt E k) := by
  refine am_pv_cons (v_aload_n (q := 0) (by decide +kernel) rfl) rfl ?_
  refine am_pv_cons (v_iload_n (q := 1) (by decide +kernel) rfl) rfl ?_
  refine am_pv_cons (v_virt (idx := 144) yv_MO_isFeeling rfl rfl (tb6 127 (by decide +kernel) rfl) (by decide +kernel)) rfl ?_
  refine am_pv_cons (v_if_ne (off := 6) (by decide +kernel) rfl) rfl ?_
  refine am_pv_cons (v_bipush (n := -5) (by decide +kernel) (by decide +kernel)) rfl ?_
  refine am_pv_cons (v_ireturn (by decide +kernel)) rfl ?_
  refine am_pv_cons (v_iload_n (q := 2) (by decide +kernel) rfl) rfl ?_
  refine am_pv_cons (v_tsw (dflt := 125) (lo := 0) (hi := 8) (offs := #[52, 59, 66, 73, 80, 87, 94, 100, 119]) (len := 52) (by decide +kernel) rfl (by decide) (by decide +kernel)) rfl ?_
  refine am_pv_cons (v_aload_n (q := 0) (by decide +kernel) rfl) rfl ?_
  refine am_pv_cons (v_get fl_MO_29 (by decide +kernel)) rfl ?_
  refine am_pv_cons (v_iload_n (q := 1) (by decide +kernel) rfl) rfl ?_
  refine am_pv_cons (v_iald (by decide +kernel)) rfl ?_
  refine am_pv_cons (v_ireturn (by decide +kernel)) rfl ?_
  refine am_pv_cons (v_aload_n (q := 0) (by decide +kernel) rfl) rfl ?_
  refine am_pv_cons (v_get fl_MO_32 (by decide +kernel)) rfl ?_
  refine am_pv_cons (v_iload_n (q := 1) (by decide +kernel) rfl) rfl ?_
  refine am_pv_cons (v_iald (by decide +kernel)) rfl ?_
  refine am_pv_cons (v_ireturn (by decide +kernel)) rfl ?_
  refine am_pv_cons (v_aload_n (q := 0) (by decide +kernel) rfl) rfl ?_
  refine am_pv_cons (v_get fl_MO_35 (by decide +kernel)) rfl ?_
  refine am_pv_cons (v_iload_n (q := 1) (by decide +kernel) rfl) rfl ?_
  refine am_pv_cons (v_iald (by decide +kernel)) rfl ?_
  refine am_pv_cons (v_ireturn (by decide +kernel)) rfl ?_
  refine am_pv_cons (v_aload_n (q := 0) (by decide +kernel) rfl) rfl ?_
  refine am_pv_cons (v_get fl_MO_38 (by decide +kernel)) rfl ?_
  refine am_pv_cons (v_iload_n (q := 1) (by decide +kernel) rfl) rfl ?_
  refine am_pv_cons (v_iald (by decide +kernel)) rfl ?_
  refine am_pv_cons (v_ireturn (by decide +kernel)) rfl ?_
  refine am_pv_cons (v_aload_n (q := 0) (by decide +kernel) rfl) rfl ?_
  refine am_pv_cons (v_get fl_MO_41 (by decide +kernel)) rfl ?_
  refine am_pv_cons (v_iload_n (q := 1) (by decide +kernel) rfl) rfl ?_
  refine am_pv_cons (v_iald (by decide +kernel)) rfl ?_
  refine am_pv_cons (v_ireturn (by decide +kernel)) rfl ?_
  refine am_pv_cons (v_aload_n (q := 0) (by decide +kernel) rfl) rfl ?_
  refine am_pv_cons (v_get fl_MO_44 (by decide +kernel)) rfl ?_
  refine am_pv_cons (v_iload_n (q := 1) (by decide +kernel) rfl) rfl ?_
  refine am_pv_cons (v_iald (by decide +kernel)) rfl ?_
  refine am_pv_cons (v_ireturn (by decide +kernel)) rfl ?_
  refine am_pv_cons (v_aload_n (q := 0) (by decide +kernel) rfl) rfl ?_
  refine am_pv_cons (v_iload_n (q := 1) (by decide +kernel) rfl) rfl ?_
  refine am_pv_cons (v_virt (idx := 147) yv_MO_costOf rfl rfl (tb6 131 (by decide +kernel) rfl) (by decide +kernel)) rfl ?_
  refine am_pv_cons (v_ireturn (by decide +kernel)) rfl ?_
  refine am_pv_cons (v_aload_n (q := 0) (by decide +kernel) rfl) rfl ?_
  refine am_pv_cons (v_aload_n (q := 0) (by decide +kernel) rfl) rfl ?_
  refine am_pv_cons (v_get fl_MO_151 (by decide +kernel)) rfl ?_
  refine am_pv_cons (v_iload_n (q := 1) (by decide +kernel) rfl) rfl ?_
  refine am_pv_cons (v_iconst (n := 1) (by decide +kernel) rfl) rfl ?_
  refine am_pv_cons (v_virt (idx := 154) yv_MO_read rfl rfl (tb6 135 (by decide +kernel) rfl) (by decide +kernel)) rfl ?_
  refine am_pv_cons (v_if_eq (off := 7) (by decide +kernel) rfl) rfl ?_
  refine am_pv_cons (v_iconst (n := 1) (by decide +kernel) rfl) rfl ?_
  refine am_pv_cons (v_goto (off := 4) (by decide +kernel) rfl) rfl ?_
  refine am_pv_cons (v_iconst (n := 0) (by decide +kernel) rfl) rfl ?_
  refine am_pv_cons (v_ireturn (by decide +kernel)) rfl ?_
  refine am_pv_cons (v_aload_n (q := 0) (by decide +kernel) rfl) rfl ?_
  refine am_pv_cons (v_iload_n (q := 1) (by decide +kernel) rfl) rfl ?_
  refine am_pv_cons (v_virt (idx := 158) yv_MO_badThrees rfl rfl (tb6 215 (by decide +kernel) rfl) (by decide +kernel)) rfl ?_
  refine am_pv_cons (v_ireturn (by decide +kernel)) rfl ?_
  refine am_pv_cons (v_bipush (n := -5) (by decide +kernel) (by decide +kernel)) rfl ?_
  refine am_pv_cons (v_ireturn (by decide +kernel)) trivial ?_
  exact trivial
def P_MO_between (E : am_E) (k : Nat) : am_P := [(0, aLa 0), (1, aLi 1), (2, aIv E k 12 1 Y_MO_isPerson), (5, z_eq 30), (8, aLa 0), (9, aLi 2), (10, aIv E k 12 1 Y_MO_isPerson), (13, z_eq 30), (16, aLi 1), (17, aLi 2), (18, c_eq 30), (21, aLa 0), (22, aLi 1), (23, aLi 2), (24, aIv E k 12 2 Y_MO_of), (27, aGo 32), (30, aI (-2)), (32, aRi)]
set_option maxRecDepth 20000 in
theorem pv_MO_between (E : am_E) (k : Nat) : am_pv E k Y_MO_between.2.1 Y_MO_between.2.2.1 Y_MO_between.1.cls (P_MO_between E k) := by
  refine am_pv_cons (v_aload_n (q := 0) (by decide +kernel) rfl) rfl ?_
  refine am_pv_cons (v_iload_n (q := 1) (by decide +kernel) rfl) rfl ?_
  refine am_pv_cons (v_virt (idx := 128) yv_MO_isPerson rfl rfl (tb6 105 (by decide +kernel) rfl) (by decide +kernel)) rfl ?_
  refine am_pv_cons (v_if_eq (off := 25) (by decide +kernel) rfl) rfl ?_
  refine am_pv_cons (v_aload_n (q := 0) (by decide +kernel) rfl) rfl ?_
  refine am_pv_cons (v_iload_n (q := 2) (by decide +kernel) rfl) rfl ?_
  refine am_pv_cons (v_virt (idx := 128) yv_MO_isPerson rfl rfl (tb6 105 (by decide +kernel) rfl) (by decide +kernel)) rfl ?_
  refine am_pv_cons (v_if_eq (off := 17) (by decide +kernel) rfl) rfl ?_
  refine am_pv_cons (v_iload_n (q := 1) (by decide +kernel) rfl) rfl ?_
  refine am_pv_cons (v_iload_n (q := 2) (by decide +kernel) rfl) rfl ?_
  refine am_pv_cons (v_ic_eq (off := 12) (by decide +kernel) rfl) rfl ?_
  refine am_pv_cons (v_aload_n (q := 0) (by decide +kernel) rfl) rfl ?_
  refine am_pv_cons (v_iload_n (q := 1) (by decide +kernel) rfl) rfl ?_
  refine am_pv_cons (v_iload_n (q := 2) (by decide +kernel) rfl) rfl ?_
  refine am_pv_cons (v_virt (idx := 134) yv_MO_of rfl rfl (tb6 119 (by decide +kernel) rfl) (by decide +kernel)) rfl ?_
  refine am_pv_cons (v_goto (off := 5) (by decide +kernel) rfl) rfl ?_
  refine am_pv_cons (v_bipush (n := -2) (by decide +kernel) (by decide +kernel)) rfl ?_
  refine am_pv_cons (v_ireturn (by decide +kernel)) trivial ?_
  exact trivial
def P_MO_feed (E : am_E) (k : Nat) : am_P := [(0, aLi 1), (1, aI2L), (2, aJ 1), (3, aJ 8), (6, aIs E k 3 Y_MO_in), (9, z_ne 15), (12, aI (-2)), (14, aRi), (15, aLa 0), (16, aGet 12 6), (19, aLi 1), (20, a_iadd), (21, aI 160), (24, c_le 30), (27, aI (-4)), (29, aRi), (30, aI 0), (31, aSi 4), (33, aLi 4), (35, aLi 1), (36, c_ge 76), (39, aLa 0), (40, aGet 12 5), (43, aLa 0), (44, aGet 12 6), (47, aLj 2), (48, aI 8), (50, aLi 4), (52, a_imul), (53, a_lshr), (54, aJ 255), (57, a_land), (58, aL2I), (59, aAst), (60, aLa 0), (61, aDup), (62, aGet 12 6), (65, aI 1), (66, a_iadd), (67, aPut 12 6), (70, aInc 4 1), (73, aGo 33), (76, aLa 0), (77, aGet 12 6), (80, aRi)]
set_option maxRecDepth 20000 in
theorem pv_MO_feed (E : am_E) (k : Nat) : am_pv E k Y_MO_feed.2.1 Y_MO_feed.2.2.1 Y_MO_feed.1.cls (P_MO_feed E k) := by
  refine am_pv_cons (v_iload_n (q := 1) (by decide +kernel) rfl) rfl ?_
  refine am_pv_cons (v_i2l (by decide +kernel)) rfl ?_
  refine am_pv_cons (v_lconst (n := 1) (by decide +kernel) rfl) rfl ?_
  refine am_pv_cons (v_ldc2 (i := 161) (tb6 231 (by decide +kernel) rfl) (by decide +kernel)) rfl ?_
  refine am_pv_cons (v_stat (idx := 119) ys_MO_in (tb6 98 (by decide +kernel) rfl) (by decide +kernel)) rfl ?_
  refine am_pv_cons (v_if_ne (off := 6) (by decide +kernel) rfl) rfl ?_
  refine am_pv_cons (v_bipush (n := -2) (by decide +kernel) (by decide +kernel)) rfl ?_
  refine am_pv_cons (v_ireturn (by decide +kernel)) rfl ?_
  refine am_pv_cons (v_aload_n (q := 0) (by decide +kernel) rfl) rfl ?_
  refine am_pv_cons (v_get fl_MO_163 (by decide +kernel)) rfl ?_
  refine am_pv_cons (v_iload_n (q := 1) (by decide +kernel) rfl) rfl ?_
  refine am_pv_cons (v_iadd (by decide +kernel)) rfl ?_
  refine am_pv_cons (v_sipush (n := 160) (by decide +kernel) (by decide +kernel)) rfl ?_
  refine am_pv_cons (v_ic_le (off := 6) (by decide +kernel) rfl) rfl ?_
  refine am_pv_cons (v_bipush (n := -4) (by decide +kernel) (by decide +kernel)) rfl ?_
  refine am_pv_cons (v_ireturn (by decide +kernel)) rfl ?_
  refine am_pv_cons (v_iconst (n := 0) (by decide +kernel) rfl) rfl ?_
  refine am_pv_cons (v_istore (by decide +kernel)) rfl ?_
  refine am_pv_cons (v_iload (by decide +kernel)) rfl ?_
  refine am_pv_cons (v_iload_n (q := 1) (by decide +kernel) rfl) rfl ?_
  refine am_pv_cons (v_ic_ge (off := 40) (by decide +kernel) rfl) rfl ?_
  refine am_pv_cons (v_aload_n (q := 0) (by decide +kernel) rfl) rfl ?_
  refine am_pv_cons (v_get fl_MO_20 (by decide +kernel)) rfl ?_
  refine am_pv_cons (v_aload_n (q := 0) (by decide +kernel) rfl) rfl ?_
  refine am_pv_cons (v_get fl_MO_163 (by decide +kernel)) rfl ?_
  refine am_pv_cons (v_lload_n (q := 2) (by decide +kernel) rfl) rfl ?_
  refine am_pv_cons (v_bipush (n := 8) (by decide +kernel) (by decide +kernel)) rfl ?_
  refine am_pv_cons (v_iload (by decide +kernel)) rfl ?_
  refine am_pv_cons (v_imul (by decide +kernel)) rfl ?_
  refine am_pv_cons (v_lshr (by decide +kernel)) rfl ?_
  refine am_pv_cons (v_ldc2 (i := 114) (tb5 170 (by decide +kernel) rfl) (by decide +kernel)) rfl ?_
  refine am_pv_cons (v_land (by decide +kernel)) rfl ?_
  refine am_pv_cons (v_l2i (by decide +kernel)) rfl ?_
  refine am_pv_cons (v_iast (by decide +kernel)) rfl ?_
  refine am_pv_cons (v_aload_n (q := 0) (by decide +kernel) rfl) rfl ?_
  refine am_pv_cons (v_dup (by decide +kernel)) rfl ?_
  refine am_pv_cons (v_get fl_MO_163 (by decide +kernel)) rfl ?_
  refine am_pv_cons (v_iconst (n := 1) (by decide +kernel) rfl) rfl ?_
  refine am_pv_cons (v_iadd (by decide +kernel)) rfl ?_
  refine am_pv_cons (v_put fw_MO_163 (by decide +kernel)) rfl ?_
  refine am_pv_cons (v_iinc (n := 1) (by decide +kernel) (by decide +kernel)) rfl ?_
  refine am_pv_cons (v_goto (off := -40) (by decide +kernel) rfl) rfl ?_
  refine am_pv_cons (v_aload_n (q := 0) (by decide +kernel) rfl) rfl ?_
  refine am_pv_cons (v_get fl_MO_163 (by decide +kernel)) rfl ?_
  refine am_pv_cons (v_ireturn (by decide +kernel)) trivial ?_
  exact trivial
def P_MO_byteAt (E : am_E) (k : Nat) : am_P := [(0, aLi 1), (1, aLa 0), (2, aGet 12 18), (5, c_ge 22), (8, aLa 0), (9, aGet 12 1), (12, aLa 0), (13, aGet 12 17), (16, aLi 1), (17, a_iadd), (18, aAld 0), (19, aGo 23), (22, aI (-1)), (23, aRi)]
set_option maxRecDepth 20000 in
theorem pv_MO_byteAt (E : am_E) (k : Nat) : am_pv E k Y_MO_byteAt.2.1 Y_MO_byteAt.2.2.1 Y_MO_byteAt.1.cls (P_MO_byteAt E k) := by
  refine am_pv_cons (v_iload_n (q := 1) (by decide +kernel) rfl) rfl ?_
  refine am_pv_cons (v_aload_n (q := 0) (by decide +kernel) rfl) rfl ?_
  refine am_pv_cons (v_get fl_MO_166 (by decide +kernel)) rfl ?_
  refine am_pv_cons (v_ic_ge (off := 17) (by decide +kernel) rfl) rfl ?_
  refine am_pv_cons (v_aload_n (q := 0) (by decide +kernel) rfl) rfl ?_
  refine am_pv_cons (v_get fl_MO_13 (by decide +kernel)) rfl ?_
  refine am_pv_cons (v_aload_n (q := 0) (by decide +kernel) rfl) rfl ?_
  refine am_pv_cons (v_get fl_MO_169 (by decide +kernel)) rfl ?_
  refine am_pv_cons (v_iload_n (q := 1) (by decide +kernel) rfl) rfl ?_
  refine am_pv_cons (v_iadd (by decide +kernel)) rfl ?_
  refine am_pv_cons (v_iald (by decide +kernel)) rfl ?_
  refine am_pv_cons (v_goto (off := 4) (by decide +kernel) rfl) rfl ?_
  refine am_pv_cons (v_iconst (n := -1) (by decide +kernel) rfl) rfl ?_
  refine am_pv_cons (v_ireturn (by decide +kernel)) trivial ?_
  exact trivial
def P_MO_next (E : am_E) (k : Nat) : am_P := [(0, aLa 0), (1, aLa 0), (2, aGet 12 22), (5, aIv E k 12 1 Y_MO_byteAt), (8, aI 32), (10, c_eq 26), (13, aLa 0), (14, aLa 0), (15, aGet 12 22), (18, aIv E k 12 1 Y_MO_byteAt), (21, aI 10), (23, c_ne 39), (26, aLa 0), (27, aDup), (28, aGet 12 22), (31, aI 1), (32, a_iadd), (33, aPut 12 22), (36, aGo 0), (39, aLa 0), (40, aLa 0), (41, aGet 12 22), (44, aPut 12 20), (47, aLa 0), (48, aLa 0), (49, aGet 12 22), (52, aIv E k 12 1 Y_MO_byteAt), (55, aSi 1), (56, aLa 0), (57, aI 4), (58, aPut 12 19), (61, aLi 1), (62, z_ge 81), (65, aLa 0), (66, aI 0), (67, aPut 12 19), (70, aLa 0), (71, aLa 0), (72, aGet 12 18), (75, aPut 12 20), (78, aGo 372), (81, aLi 1), (82, aI2L), (83, aJ 97), (86, aJ 122), (89, aIs E k 3 Y_MO_in), (92, z_eq 185), (95, aLa 0), (96, aI 1), (97, aPut 12 19), (100, aLa 0), (101, aJ 0), (102, aPutj), (105, aI 0), (106, aSi 2), (107, aLa 0), (108, aLa 0), (109, aGet 12 22), (112, aIv E k 12 1 Y_MO_byteAt), (115, aI2L), (116, aJ 97), (119, aJ 122), (122, aIs E k 3 Y_MO_in), (125, z_eq 182), (128, aLa 0), (129, aLi 2), (130, aI 8), (132, c_ge 160), (135, aJ 27), (138, aLa 0), (139, aGet 12 21), (142, a_lmul), (143, aLa 0), (144, aLa 0), (145, aGet 12 22), (148, aIv E k 12 1 Y_MO_byteAt), (151, aI2L), (152, a_ladd), (153, aJ 96), (156, a_lsub), (157, aGo 163), (160, aJ (-1)), (163, aPutj), (166, aInc 2 1), (169, aLa 0), (170, aDup), (171, aGet 12 22), (174, aI 1), (175, a_iadd), (176, aPut 12 22), (179, aGo 107), (182, aGo 372), (185, aLi 1), (186, aI2L), (187, aJ 48), (190, aJ 57), (193, aIs E k 3 Y_MO_in), (196, z_eq 303), (199, aLa 0), (200, aI 2), (201, aPut 12 19), (204, aLa 0), (205, aJ 0), (206, aPutj), (209, aI 0), (210, aSi 2), (211, aLa 0), (212, aLa 0), (213, aGet 12 22), (216, aIv E k 12 1 Y_MO_byteAt), (219, aI2L), (220, aJ 48), (223, aJ 57), (226, aIs E k 3 Y_MO_in), (229, z_eq 286), (232, aLa 0), (233, aLi 2), (234, aI 4), (235, c_ge 263), (238, aJ 10), (241, aLa 0), (242, aGet 12 21), (245, a_lmul), (246, aLa 0), (247, aLa 0), (248, aGet 12 22), (251, aIv E k 12 1 Y_MO_byteAt), (254, aI2L), (255, a_ladd), (256, aJ 48), (259, a_lsub), (260, aGo 267), (263, aLa 0), (264, aGet 12 21), (267, aPutj), (270, aInc 2 1), (273, aLa 0), (274, aDup), (275, aGet 12 22), (278, aI 1), (279, a_iadd), (280, aPut 12 22), (283, aGo 211), (286, aLa 0), (287, aLi 2), (288, aI 4), (289, c_le 296), (292, aI 4), (293, aGo 297), (296, aI 2), (297, aPut 12 19), (300, aGo 372), (303, aLi 1), (304, aI 40), (306, c_eq 351), (309, aLi 1), (310, aI 41), (312, c_eq 351), (315, aLi 1), (316, aI 59), (318, c_eq 351), (321, aLi 1), (322, aI 43), (324, c_eq 351), (327, aLi 1), (328, aI 45), (330, c_eq 351), (333, aLi 1), (334, aI 42), (336, c_eq 351), (339, aLi 1), (340, aI 60), (342, c_eq 351), (345, aLi 1), (346, aI 61), (348, c_ne 372), (351, aLa 0), (352, aI 3), (353, aPut 12 19), (356, aLa 0), (357, aLi 1), (358, aI2L), (359, aPutj), (362, aLa 0), (363, aDup), (364, aGet 12 22), (367, aI 1), (368, a_iadd), (369, aPut 12 22), (372, aRv)]
set_option maxRecDepth 20000 in
theorem pv_MO_next (E : am_E) (k : Nat) : am_pv E k Y_MO_next.2.1 Y_MO_next.2.2.1 Y_MO_next.1.cls (P_MO_next E k) := by
  refine am_pv_cons (v_aload_n (q := 0) (by decide +kernel) rfl) rfl ?_
  refine am_pv_cons (v_aload_n (q := 0) (by decide +kernel) rfl) rfl ?_
  refine am_pv_cons (v_get fl_MO_172 (by decide +kernel)) rfl ?_
  refine am_pv_cons (v_virt (idx := 175) yv_MO_byteAt rfl rfl (tb6 143 (by decide +kernel) rfl) (by decide +kernel)) rfl ?_
  refine am_pv_cons (v_bipush (n := 32) (by decide +kernel) (by decide +kernel)) rfl ?_
  refine am_pv_cons (v_ic_eq (off := 16) (by decide +kernel) rfl) rfl ?_
  refine am_pv_cons (v_aload_n (q := 0) (by decide +kernel) rfl) rfl ?_
  refine am_pv_cons (v_aload_n (q := 0) (by decide +kernel) rfl) rfl ?_
  refine am_pv_cons (v_get fl_MO_172 (by decide +kernel)) rfl ?_
  refine am_pv_cons (v_virt (idx := 175) yv_MO_byteAt rfl rfl (tb6 143 (by decide +kernel) rfl) (by decide +kernel)) rfl ?_
  refine am_pv_cons (v_bipush (n := 10) (by decide +kernel) (by decide +kernel)) rfl ?_
  refine am_pv_cons (v_ic_ne (off := 16) (by decide +kernel) rfl) rfl ?_
  refine am_pv_cons (v_aload_n (q := 0) (by decide +kernel) rfl) rfl ?_
  refine am_pv_cons (v_dup (by decide +kernel)) rfl ?_
  refine am_pv_cons (v_get fl_MO_172 (by decide +kernel)) rfl ?_
  refine am_pv_cons (v_iconst (n := 1) (by decide +kernel) rfl) rfl ?_
  refine am_pv_cons (v_iadd (by decide +kernel)) rfl ?_
  refine am_pv_cons (v_put fw_MO_172 (by decide +kernel)) rfl ?_
  refine am_pv_cons (v_goto (off := -36) (by decide +kernel) rfl) rfl ?_
  refine am_pv_cons (v_aload_n (q := 0) (by decide +kernel) rfl) rfl ?_
  refine am_pv_cons (v_aload_n (q := 0) (by decide +kernel) rfl) rfl ?_
  refine am_pv_cons (v_get fl_MO_172 (by decide +kernel)) rfl ?_
  refine am_pv_cons (v_put fw_MO_178 (by decide +kernel)) rfl ?_
  refine am_pv_cons (v_aload_n (q := 0) (by decide +kernel) rfl) rfl ?_
  refine am_pv_cons (v_aload_n (q := 0) (by decide +kernel) rfl) rfl ?_
  refine am_pv_cons (v_get fl_MO_172 (by decide +kernel)) rfl ?_
  refine am_pv_cons (v_virt (idx := 175) yv_MO_byteAt rfl rfl (tb6 143 (by decide +kernel) rfl) (by decide +kernel)) rfl ?_
  refine am_pv_cons (v_istore_n (q := 1) (by decide +kernel) rfl) rfl ?_
  refine am_pv_cons (v_aload_n (q := 0) (by decide +kernel) rfl) rfl ?_
  refine am_pv_cons (v_iconst (n := 4) (by decide +kernel) rfl) rfl ?_
  refine am_pv_cons (v_put fw_MO_181 (by decide +kernel)) rfl ?_
  refine am_pv_cons (v_iload_n (q := 1) (by decide +kernel) rfl) rfl ?_
  refine am_pv_cons (v_if_ge (off := 19) (by decide +kernel) rfl) rfl ?_
  refine am_pv_cons (v_aload_n (q := 0) (by decide +kernel) rfl) rfl ?_
  refine am_pv_cons (v_iconst (n := 0) (by decide +kernel) rfl) rfl ?_
  refine am_pv_cons (v_put fw_MO_181 (by decide +kernel)) rfl ?_
  refine am_pv_cons (v_aload_n (q := 0) (by decide +kernel) rfl) rfl ?_
  refine am_pv_cons (v_aload_n (q := 0) (by decide +kernel) rfl) rfl ?_
  refine am_pv_cons (v_get fl_MO_166 (by decide +kernel)) rfl ?_
  refine am_pv_cons (v_put fw_MO_178 (by decide +kernel)) rfl ?_
  refine am_pv_cons (v_goto (off := 294) (by decide +kernel) rfl) rfl ?_
  refine am_pv_cons (v_iload_n (q := 1) (by decide +kernel) rfl) rfl ?_
  refine am_pv_cons (v_i2l (by decide +kernel)) rfl ?_
  refine am_pv_cons (v_ldc2 (i := 184) (tb6 147 (by decide +kernel) rfl) (by decide +kernel)) rfl ?_
  refine am_pv_cons (v_ldc2 (i := 186) (tb6 148 (by decide +kernel) rfl) (by decide +kernel)) rfl ?_
  refine am_pv_cons (v_stat (idx := 119) ys_MO_in (tb6 98 (by decide +kernel) rfl) (by decide +kernel)) rfl ?_
  refine am_pv_cons (v_if_eq (off := 93) (by decide +kernel) rfl) rfl ?_
  refine am_pv_cons (v_aload_n (q := 0) (by decide +kernel) rfl) rfl ?_
  refine am_pv_cons (v_iconst (n := 1) (by decide +kernel) rfl) rfl ?_
  refine am_pv_cons (v_put fw_MO_181 (by decide +kernel)) rfl ?_
  refine am_pv_cons (v_aload_n (q := 0) (by decide +kernel) rfl) rfl ?_
  refine am_pv_cons (v_lconst (n := 0) (by decide +kernel) rfl) rfl ?_
  refine am_pv_cons (v_putj fw_MO_188 (by decide +kernel)) rfl ?_
  refine am_pv_cons (v_iconst (n := 0) (by decide +kernel) rfl) rfl ?_
  refine am_pv_cons (v_istore_n (q := 2) (by decide +kernel) rfl) rfl ?_
  refine am_pv_cons (v_aload_n (q := 0) (by decide +kernel) rfl) rfl ?_
  refine am_pv_cons (v_aload_n (q := 0) (by decide +kernel) rfl) rfl ?_
  refine am_pv_cons (v_get fl_MO_172 (by decide +kernel)) rfl ?_
  refine am_pv_cons (v_virt (idx := 175) yv_MO_byteAt rfl rfl (tb6 143 (by decide +kernel) rfl) (by decide +kernel)) rfl ?_
  refine am_pv_cons (v_i2l (by decide +kernel)) rfl ?_
  refine am_pv_cons (v_ldc2 (i := 184) (tb6 147 (by decide +kernel) rfl) (by decide +kernel)) rfl ?_
  refine am_pv_cons (v_ldc2 (i := 186) (tb6 148 (by decide +kernel) rfl) (by decide +kernel)) rfl ?_
  refine am_pv_cons (v_stat (idx := 119) ys_MO_in (tb6 98 (by decide +kernel) rfl) (by decide +kernel)) rfl ?_
  refine am_pv_cons (v_if_eq (off := 57) (by decide +kernel) rfl) rfl ?_
  refine am_pv_cons (v_aload_n (q := 0) (by decide +kernel) rfl) rfl ?_
  refine am_pv_cons (v_iload_n (q := 2) (by decide +kernel) rfl) rfl ?_
  refine am_pv_cons (v_bipush (n := 8) (by decide +kernel) (by decide +kernel)) rfl ?_
  refine am_pv_cons (v_ic_ge (off := 28) (by decide +kernel) rfl) rfl ?_
  refine am_pv_cons (v_ldc2 (i := 192) (tb6 149 (by decide +kernel) rfl) (by decide +kernel)) rfl ?_
  refine am_pv_cons (v_aload_n (q := 0) (by decide +kernel) rfl) rfl ?_
  refine am_pv_cons (v_get fl_MO_188 (by decide +kernel)) rfl ?_
  refine am_pv_cons (v_lmul (by decide +kernel)) rfl ?_
  refine am_pv_cons (v_aload_n (q := 0) (by decide +kernel) rfl) rfl ?_
  refine am_pv_cons (v_aload_n (q := 0) (by decide +kernel) rfl) rfl ?_
  refine am_pv_cons (v_get fl_MO_172 (by decide +kernel)) rfl ?_
  refine am_pv_cons (v_virt (idx := 175) yv_MO_byteAt rfl rfl (tb6 143 (by decide +kernel) rfl) (by decide +kernel)) rfl ?_
  refine am_pv_cons (v_i2l (by decide +kernel)) rfl ?_
  refine am_pv_cons (v_ladd (by decide +kernel)) rfl ?_
  refine am_pv_cons (v_ldc2 (i := 194) (tb6 150 (by decide +kernel) rfl) (by decide +kernel)) rfl ?_
  refine am_pv_cons (v_lsub (by decide +kernel)) rfl ?_
  refine am_pv_cons (v_goto (off := 6) (by decide +kernel) rfl) rfl ?_
  refine am_pv_cons (v_ldc2 (i := 132) (tb6 109 (by decide +kernel) rfl) (by decide +kernel)) rfl ?_
  refine am_pv_cons (v_putj fw_MO_188 (by decide +kernel)) rfl ?_
  refine am_pv_cons (v_iinc (n := 1) (by decide +kernel) (by decide +kernel)) rfl ?_
  refine am_pv_cons (v_aload_n (q := 0) (by decide +kernel) rfl) rfl ?_
  refine am_pv_cons (v_dup (by decide +kernel)) rfl ?_
  refine am_pv_cons (v_get fl_MO_172 (by decide +kernel)) rfl ?_
  refine am_pv_cons (v_iconst (n := 1) (by decide +kernel) rfl) rfl ?_
  refine am_pv_cons (v_iadd (by decide +kernel)) rfl ?_
  refine am_pv_cons (v_put fw_MO_172 (by decide +kernel)) rfl ?_
  refine am_pv_cons (v_goto (off := -72) (by decide +kernel) rfl) rfl ?_
  refine am_pv_cons (v_goto (off := 190) (by decide +kernel) rfl) rfl ?_
  refine am_pv_cons (v_iload_n (q := 1) (by decide +kernel) rfl) rfl ?_
  refine am_pv_cons (v_i2l (by decide +kernel)) rfl ?_
  refine am_pv_cons (v_ldc2 (i := 196) (tb6 151 (by decide +kernel) rfl) (by decide +kernel)) rfl ?_
  refine am_pv_cons (v_ldc2 (i := 198) (tb6 152 (by decide +kernel) rfl) (by decide +kernel)) rfl ?_
  refine am_pv_cons (v_stat (idx := 119) ys_MO_in (tb6 98 (by decide +kernel) rfl) (by decide +kernel)) rfl ?_
  refine am_pv_cons (v_if_eq (off := 107) (by decide +kernel) rfl) rfl ?_
  refine am_pv_cons (v_aload_n (q := 0) (by decide +kernel) rfl) rfl ?_
  refine am_pv_cons (v_iconst (n := 2) (by decide +kernel) rfl) rfl ?_
  refine am_pv_cons (v_put fw_MO_181 (by decide +kernel)) rfl ?_
  refine am_pv_cons (v_aload_n (q := 0) (by decide +kernel) rfl) rfl ?_
  refine am_pv_cons (v_lconst (n := 0) (by decide +kernel) rfl) rfl ?_
  refine am_pv_cons (v_putj fw_MO_188 (by decide +kernel)) rfl ?_
  refine am_pv_cons (v_iconst (n := 0) (by decide +kernel) rfl) rfl ?_
  refine am_pv_cons (v_istore_n (q := 2) (by decide +kernel) rfl) rfl ?_
  refine am_pv_cons (v_aload_n (q := 0) (by decide +kernel) rfl) rfl ?_
  refine am_pv_cons (v_aload_n (q := 0) (by decide +kernel) rfl) rfl ?_
  refine am_pv_cons (v_get fl_MO_172 (by decide +kernel)) rfl ?_
  refine am_pv_cons (v_virt (idx := 175) yv_MO_byteAt rfl rfl (tb6 143 (by decide +kernel) rfl) (by decide +kernel)) rfl ?_
  refine am_pv_cons (v_i2l (by decide +kernel)) rfl ?_
  refine am_pv_cons (v_ldc2 (i := 196) (tb6 151 (by decide +kernel) rfl) (by decide +kernel)) rfl ?_
  refine am_pv_cons (v_ldc2 (i := 198) (tb6 152 (by decide +kernel) rfl) (by decide +kernel)) rfl ?_
  refine am_pv_cons (v_stat (idx := 119) ys_MO_in (tb6 98 (by decide +kernel) rfl) (by decide +kernel)) rfl ?_
  refine am_pv_cons (v_if_eq (off := 57) (by decide +kernel) rfl) rfl ?_
  refine am_pv_cons (v_aload_n (q := 0) (by decide +kernel) rfl) rfl ?_
  refine am_pv_cons (v_iload_n (q := 2) (by decide +kernel) rfl) rfl ?_
  refine am_pv_cons (v_iconst (n := 4) (by decide +kernel) rfl) rfl ?_
  refine am_pv_cons (v_ic_ge (off := 28) (by decide +kernel) rfl) rfl ?_
  refine am_pv_cons (v_ldc2 (i := 200) (tb6 153 (by decide +kernel) rfl) (by decide +kernel)) rfl ?_
  refine am_pv_cons (v_aload_n (q := 0) (by decide +kernel) rfl) rfl ?_
  refine am_pv_cons (v_get fl_MO_188 (by decide +kernel)) rfl ?_
  refine am_pv_cons (v_lmul (by decide +kernel)) rfl ?_
  refine am_pv_cons (v_aload_n (q := 0) (by decide +kernel) rfl) rfl ?_
  refine am_pv_cons (v_aload_n (q := 0) (by decide +kernel) rfl) rfl ?_
  refine am_pv_cons (v_get fl_MO_172 (by decide +kernel)) rfl ?_
  refine am_pv_cons (v_virt (idx := 175) yv_MO_byteAt rfl rfl (tb6 143 (by decide +kernel) rfl) (by decide +kernel)) rfl ?_
  refine am_pv_cons (v_i2l (by decide +kernel)) rfl ?_
  refine am_pv_cons (v_ladd (by decide +kernel)) rfl ?_
  refine am_pv_cons (v_ldc2 (i := 196) (tb6 151 (by decide +kernel) rfl) (by decide +kernel)) rfl ?_
  refine am_pv_cons (v_lsub (by decide +kernel)) rfl ?_
  refine am_pv_cons (v_goto (off := 7) (by decide +kernel) rfl) rfl ?_
  refine am_pv_cons (v_aload_n (q := 0) (by decide +kernel) rfl) rfl ?_
  refine am_pv_cons (v_get fl_MO_188 (by decide +kernel)) rfl ?_
  refine am_pv_cons (v_putj fw_MO_188 (by decide +kernel)) rfl ?_
  refine am_pv_cons (v_iinc (n := 1) (by decide +kernel) (by decide +kernel)) rfl ?_
  refine am_pv_cons (v_aload_n (q := 0) (by decide +kernel) rfl) rfl ?_
  refine am_pv_cons (v_dup (by decide +kernel)) rfl ?_
  refine am_pv_cons (v_get fl_MO_172 (by decide +kernel)) rfl ?_
  refine am_pv_cons (v_iconst (n := 1) (by decide +kernel) rfl) rfl ?_
  refine am_pv_cons (v_iadd (by decide +kernel)) rfl ?_
  refine am_pv_cons (v_put fw_MO_172 (by decide +kernel)) rfl ?_
  refine am_pv_cons (v_goto (off := -72) (by decide +kernel) rfl) rfl ?_
  refine am_pv_cons (v_aload_n (q := 0) (by decide +kernel) rfl) rfl ?_
  refine am_pv_cons (v_iload_n (q := 2) (by decide +kernel) rfl) rfl ?_
  refine am_pv_cons (v_iconst (n := 4) (by decide +kernel) rfl) rfl ?_
  refine am_pv_cons (v_ic_le (off := 7) (by decide +kernel) rfl) rfl ?_
  refine am_pv_cons (v_iconst (n := 4) (by decide +kernel) rfl) rfl ?_
  refine am_pv_cons (v_goto (off := 4) (by decide +kernel) rfl) rfl ?_
  refine am_pv_cons (v_iconst (n := 2) (by decide +kernel) rfl) rfl ?_
  refine am_pv_cons (v_put fw_MO_181 (by decide +kernel)) rfl ?_
  refine am_pv_cons (v_goto (off := 72) (by decide +kernel) rfl) rfl ?_
  refine am_pv_cons (v_iload_n (q := 1) (by decide +kernel) rfl) rfl ?_
  refine am_pv_cons (v_bipush (n := 40) (by decide +kernel) (by decide +kernel)) rfl ?_
  refine am_pv_cons (v_ic_eq (off := 45) (by decide +kernel) rfl) rfl ?_
  refine am_pv_cons (v_iload_n (q := 1) (by decide +kernel) rfl) rfl ?_
  refine am_pv_cons (v_bipush (n := 41) (by decide +kernel) (by decide +kernel)) rfl ?_
  refine am_pv_cons (v_ic_eq (off := 39) (by decide +kernel) rfl) rfl ?_
  refine am_pv_cons (v_iload_n (q := 1) (by decide +kernel) rfl) rfl ?_
  refine am_pv_cons (v_bipush (n := 59) (by decide +kernel) (by decide +kernel)) rfl ?_
  refine am_pv_cons (v_ic_eq (off := 33) (by decide +kernel) rfl) rfl ?_
  refine am_pv_cons (v_iload_n (q := 1) (by decide +kernel) rfl) rfl ?_
  refine am_pv_cons (v_bipush (n := 43) (by decide +kernel) (by decide +kernel)) rfl ?_
  refine am_pv_cons (v_ic_eq (off := 27) (by decide +kernel) rfl) rfl ?_
  refine am_pv_cons (v_iload_n (q := 1) (by decide +kernel) rfl) rfl ?_
  refine am_pv_cons (v_bipush (n := 45) (by decide +kernel) (by decide +kernel)) rfl ?_
  refine am_pv_cons (v_ic_eq (off := 21) (by decide +kernel) rfl) rfl ?_
  refine am_pv_cons (v_iload_n (q := 1) (by decide +kernel) rfl) rfl ?_
  refine am_pv_cons (v_bipush (n := 42) (by decide +kernel) (by decide +kernel)) rfl ?_
  refine am_pv_cons (v_ic_eq (off := 15) (by decide +kernel) rfl) rfl ?_
  refine am_pv_cons (v_iload_n (q := 1) (by decide +kernel) rfl) rfl ?_
  refine am_pv_cons (v_bipush (n := 60) (by decide +kernel) (by decide +kernel)) rfl ?_
  refine am_pv_cons (v_ic_eq (off := 9) (by decide +kernel) rfl) rfl ?_
  refine am_pv_cons (v_iload_n (q := 1) (by decide +kernel) rfl) rfl ?_
  refine am_pv_cons (v_bipush (n := 61) (by decide +kernel) (by decide +kernel)) rfl ?_
  refine am_pv_cons (v_ic_ne (off := 24) (by decide +kernel) rfl) rfl ?_
  refine am_pv_cons (v_aload_n (q := 0) (by decide +kernel) rfl) rfl ?_
  refine am_pv_cons (v_iconst (n := 3) (by decide +kernel) rfl) rfl ?_
  refine am_pv_cons (v_put fw_MO_181 (by decide +kernel)) rfl ?_
  refine am_pv_cons (v_aload_n (q := 0) (by decide +kernel) rfl) rfl ?_
  refine am_pv_cons (v_iload_n (q := 1) (by decide +kernel) rfl) rfl ?_
  refine am_pv_cons (v_i2l (by decide +kernel)) rfl ?_
  refine am_pv_cons (v_putj fw_MO_188 (by decide +kernel)) rfl ?_
  refine am_pv_cons (v_aload_n (q := 0) (by decide +kernel) rfl) rfl ?_
  refine am_pv_cons (v_dup (by decide +kernel)) rfl ?_
  refine am_pv_cons (v_get fl_MO_172 (by decide +kernel)) rfl ?_
  refine am_pv_cons (v_iconst (n := 1) (by decide +kernel) rfl) rfl ?_
  refine am_pv_cons (v_iadd (by decide +kernel)) rfl ?_
  refine am_pv_cons (v_put fw_MO_172 (by decide +kernel)) rfl ?_
  refine am_pv_cons (v_return_ (by decide +kernel)) trivial ?_
  exact trivial
def P_MO_fail (E : am_E) (k : Nat) : am_P := [(0, aLa 0), (1, aGet 12 24), (4, z_ne 20), (7, aLa 0), (8, aI 1), (9, aPutz 12 24), (12, aLa 0), (13, aLa 0), (14, aGet 12 20), (17, aPut 12 25), (20, aRv)]
set_option maxRecDepth 20000 in
theorem pv_MO_fail (E : am_E) (k : Nat) : am_pv E k Y_MO_fail.2.1 Y_MO_fail.2.2.1 Y_MO_fail.1.cls (P_MO_fail E k) := by
  refine am_pv_cons (v_aload_n (q := 0) (by decide +kernel) rfl) rfl ?_
  refine am_pv_cons (v_get fl_MO_202 (by decide +kernel)) rfl ?_
  refine am_pv_cons (v_if_ne (off := 16) (by decide +kernel) rfl) rfl ?_
  refine am_pv_cons (v_aload_n (q := 0) (by decide +kernel) rfl) rfl ?_
  refine am_pv_cons (v_iconst (n := 1) (by decide +kernel) rfl) rfl ?_
  refine am_pv_cons (v_putz fw_MO_202 (by decide +kernel)) rfl ?_
  refine am_pv_cons (v_aload_n (q := 0) (by decide +kernel) rfl) rfl ?_
  refine am_pv_cons (v_aload_n (q := 0) (by decide +kernel) rfl) rfl ?_
  refine am_pv_cons (v_get fl_MO_178 (by decide +kernel)) rfl ?_
  refine am_pv_cons (v_put fw_MO_206 (by decide +kernel)) rfl ?_
  refine am_pv_cons (v_return_ (by decide +kernel)) trivial ?_
  exact trivial
def P_MO_isWord (E : am_E) (k : Nat) : am_P := [(0, aLa 0), (1, aGet 12 24), (4, z_ne 28), (7, aLa 0), (8, aGet 12 19), (11, aI 1), (12, c_ne 28), (15, aLa 0), (16, aGet 12 21), (19, aLj 1), (20, aCmp), (21, z_ne 28), (24, aI 1), (25, aGo 29), (28, aI 0), (29, aRi)]
set_option maxRecDepth 20000 in
theorem pv_MO_isWord (E : am_E) (k : Nat) : am_pv E k Y_MO_isWord.2.1 Y_MO_isWord.2.2.1 Y_MO_isWord.1.cls (P_MO_isWord E k) := by
  refine am_pv_cons (v_aload_n (q := 0) (by decide +kernel) rfl) rfl ?_
  refine am_pv_cons (v_get fl_MO_202 (by decide +kernel)) rfl ?_
  refine am_pv_cons (v_if_ne (off := 24) (by decide +kernel) rfl) rfl ?_
  refine am_pv_cons (v_aload_n (q := 0) (by decide +kernel) rfl) rfl ?_
  refine am_pv_cons (v_get fl_MO_181 (by decide +kernel)) rfl ?_
  refine am_pv_cons (v_iconst (n := 1) (by decide +kernel) rfl) rfl ?_
  refine am_pv_cons (v_ic_ne (off := 16) (by decide +kernel) rfl) rfl ?_
  refine am_pv_cons (v_aload_n (q := 0) (by decide +kernel) rfl) rfl ?_
  refine am_pv_cons (v_get fl_MO_188 (by decide +kernel)) rfl ?_
  refine am_pv_cons (v_lload_n (q := 1) (by decide +kernel) rfl) rfl ?_
  refine am_pv_cons (v_lcmp (by decide +kernel)) rfl ?_
  refine am_pv_cons (v_if_ne (off := 7) (by decide +kernel) rfl) rfl ?_
  refine am_pv_cons (v_iconst (n := 1) (by decide +kernel) rfl) rfl ?_
  refine am_pv_cons (v_goto (off := 4) (by decide +kernel) rfl) rfl ?_
  refine am_pv_cons (v_iconst (n := 0) (by decide +kernel) rfl) rfl ?_
  refine am_pv_cons (v_ireturn (by decide +kernel)) trivial ?_
  exact trivial
def P_MO_isSign (E : am_E) (k : Nat) : am_P := [(0, aLa 0), (1, aGet 12 24), (4, z_ne 29), (7, aLa 0), (8, aGet 12 19), (11, aI 3), (12, c_ne 29), (15, aLa 0), (16, aGet 12 21), (19, aLi 1), (20, aI2L), (21, aCmp), (22, z_ne 29), (25, aI 1), (26, aGo 30), (29, aI 0), (30, aRi)]
set_option maxRecDepth 20000 in
theorem pv_MO_isSign (E : am_E) (k : Nat) : am_pv E k Y_MO_isSign.2.1 Y_MO_isSign.2.2.1 Y_MO_isSign.1.cls (P_MO_isSign E k) := by
  refine am_pv_cons (v_aload_n (q := 0) (by decide +kernel) rfl) rfl ?_
  refine am_pv_cons (v_get fl_MO_202 (by decide +kernel)) rfl ?_
  refine am_pv_cons (v_if_ne (off := 25) (by decide +kernel) rfl) rfl ?_
  refine am_pv_cons (v_aload_n (q := 0) (by decide +kernel) rfl) rfl ?_
  refine am_pv_cons (v_get fl_MO_181 (by decide +kernel)) rfl ?_
  refine am_pv_cons (v_iconst (n := 3) (by decide +kernel) rfl) rfl ?_
  refine am_pv_cons (v_ic_ne (off := 17) (by decide +kernel) rfl) rfl ?_
  refine am_pv_cons (v_aload_n (q := 0) (by decide +kernel) rfl) rfl ?_
  refine am_pv_cons (v_get fl_MO_188 (by decide +kernel)) rfl ?_
  refine am_pv_cons (v_iload_n (q := 1) (by decide +kernel) rfl) rfl ?_
  refine am_pv_cons (v_i2l (by decide +kernel)) rfl ?_
  refine am_pv_cons (v_lcmp (by decide +kernel)) rfl ?_
  refine am_pv_cons (v_if_ne (off := 7) (by decide +kernel) rfl) rfl ?_
  refine am_pv_cons (v_iconst (n := 1) (by decide +kernel) rfl) rfl ?_
  refine am_pv_cons (v_goto (off := 4) (by decide +kernel) rfl) rfl ?_
  refine am_pv_cons (v_iconst (n := 0) (by decide +kernel) rfl) rfl ?_
  refine am_pv_cons (v_ireturn (by decide +kernel)) trivial ?_
  exact trivial
def P_MO_opens (E : am_E) (k : Nat) : am_P := [(0, aLa 0), (1, aGet 12 23), (4, aI 5), (5, c_ne 14), (8, aLa 0), (9, aIv E k 12 0 Y_MO_fail), (12, aI 0), (13, aRi), (14, aLa 0), (15, aDup), (16, aGet 12 23), (19, aI 1), (20, a_iadd), (21, aPut 12 23), (24, aLa 0), (25, aIv E k 12 0 Y_MO_next), (28, aI 1), (29, aRi)]
set_option maxRecDepth 20000 in
theorem pv_MO_opens (E : am_E) (k : Nat) : am_pv E k Y_MO_opens.2.1 Y_MO_opens.2.2.1 Y_MO_opens.1.cls (P_MO_opens E k) := by
  refine am_pv_cons (v_aload_n (q := 0) (by decide +kernel) rfl) rfl ?_
  refine am_pv_cons (v_get fl_MO_209 (by decide +kernel)) rfl ?_
  refine am_pv_cons (v_iconst (n := 5) (by decide +kernel) rfl) rfl ?_
  refine am_pv_cons (v_ic_ne (off := 9) (by decide +kernel) rfl) rfl ?_
  refine am_pv_cons (v_aload_n (q := 0) (by decide +kernel) rfl) rfl ?_
  refine am_pv_cons (v_virt (idx := 212) yv_MO_fail rfl rfl (tb6 163 (by decide +kernel) rfl) (by decide +kernel)) rfl ?_
  refine am_pv_cons (v_iconst (n := 0) (by decide +kernel) rfl) rfl ?_
  refine am_pv_cons (v_ireturn (by decide +kernel)) rfl ?_
  refine am_pv_cons (v_aload_n (q := 0) (by decide +kernel) rfl) rfl ?_
  refine am_pv_cons (v_dup (by decide +kernel)) rfl ?_
  refine am_pv_cons (v_get fl_MO_209 (by decide +kernel)) rfl ?_
  refine am_pv_cons (v_iconst (n := 1) (by decide +kernel) rfl) rfl ?_
  refine am_pv_cons (v_iadd (by decide +kernel)) rfl ?_
  refine am_pv_cons (v_put fw_MO_209 (by decide +kernel)) rfl ?_
  refine am_pv_cons (v_aload_n (q := 0) (by decide +kernel) rfl) rfl ?_
  refine am_pv_cons (v_virt (idx := 215) yv_MO_next rfl rfl (tb6 139 (by decide +kernel) rfl) (by decide +kernel)) rfl ?_
  refine am_pv_cons (v_iconst (n := 1) (by decide +kernel) rfl) rfl ?_
  refine am_pv_cons (v_ireturn (by decide +kernel)) trivial ?_
  exact trivial
def P_MO_name (E : am_E) (k : Nat) : am_P := [(0, aLa 0), (1, aJ 206756339381), (4, aIv E k 12 1 Y_MO_isWord), (7, z_eq 20), (10, aLa 0), (11, aGet 12 13), (14, aLa 0), (15, aGet 12 26), (18, aAld 0), (19, aRi), (20, aLa 0), (21, aJ 158738), (24, aIv E k 12 1 Y_MO_isWord), (27, z_eq 48), (30, aLa 0), (31, aGet 12 12), (34, aLa 0), (35, aGet 12 26), (38, aAld 0), (39, z_ge 46), (42, aI 1), (43, aGo 47), (46, aI 0), (47, aRi), (48, aLa 0), (49, aJ 8276), (52, aIv E k 12 1 Y_MO_isWord), (55, z_eq 68), (58, aLa 0), (59, aGet 12 14), (62, aLa 0), (63, aGet 12 26), (66, aAld 0), (67, aRi), (68, aLa 0), (69, aJ 3383428), (72, aIv E k 12 1 Y_MO_isWord), (75, z_eq 88), (78, aLa 0), (79, aGet 12 15), (82, aLa 0), (83, aGet 12 26), (86, aAld 0), (87, aRi), (88, aLa 0), (89, aJ 6476969), (92, aIv E k 12 1 Y_MO_isWord), (95, z_eq 108), (98, aLa 0), (99, aGet 12 10), (102, aLa 0), (103, aGet 12 26), (106, aAld 0), (107, aRi), (108, aLa 0), (109, aJ 267347), (112, aIv E k 12 1 Y_MO_isWord), (115, z_eq 128), (118, aLa 0), (119, aGet 12 11), (122, aLa 0), (123, aGet 12 26), (126, aAld 0), (127, aRi), (128, aLa 0), (129, aIv E k 12 0 Y_MO_fail), (132, aI 0), (133, aRi)]
set_option maxRecDepth 20000 in
theorem pv_MO_name (E : am_E) (k : Nat) : am_pv E k Y_MO_name.2.1 Y_MO_name.2.2.1 Y_MO_name.1.cls (P_MO_name E k) := by
  refine am_pv_cons (v_aload_n (q := 0) (by decide +kernel) rfl) rfl ?_
  refine am_pv_cons (v_ldc2 (i := 218) (tb6 204 (by decide +kernel) rfl) (by decide +kernel)) rfl ?_
  refine am_pv_cons (v_virt (idx := 220) yv_MO_isWord rfl rfl (tb6 159 (by decide +kernel) rfl) (by decide +kernel)) rfl ?_
  refine am_pv_cons (v_if_eq (off := 13) (by decide +kernel) rfl) rfl ?_
  refine am_pv_cons (v_aload_n (q := 0) (by decide +kernel) rfl) rfl ?_
  refine am_pv_cons (v_get fl_MO_38 (by decide +kernel)) rfl ?_
  refine am_pv_cons (v_aload_n (q := 0) (by decide +kernel) rfl) rfl ?_
  refine am_pv_cons (v_get fl_MO_224 (by decide +kernel)) rfl ?_
  refine am_pv_cons (v_iald (by decide +kernel)) rfl ?_
  refine am_pv_cons (v_ireturn (by decide +kernel)) rfl ?_
  refine am_pv_cons (v_aload_n (q := 0) (by decide +kernel) rfl) rfl ?_
  refine am_pv_cons (v_ldc2 (i := 227) (tb6 205 (by decide +kernel) rfl) (by decide +kernel)) rfl ?_
  refine am_pv_cons (v_virt (idx := 220) yv_MO_isWord rfl rfl (tb6 159 (by decide +kernel) rfl) (by decide +kernel)) rfl ?_
  refine am_pv_cons (v_if_eq (off := 21) (by decide +kernel) rfl) rfl ?_
  refine am_pv_cons (v_aload_n (q := 0) (by decide +kernel) rfl) rfl ?_
  refine am_pv_cons (v_get fl_MO_35 (by decide +kernel)) rfl ?_
  refine am_pv_cons (v_aload_n (q := 0) (by decide +kernel) rfl) rfl ?_
  refine am_pv_cons (v_get fl_MO_224 (by decide +kernel)) rfl ?_
  refine am_pv_cons (v_iald (by decide +kernel)) rfl ?_
  refine am_pv_cons (v_if_ge (off := 7) (by decide +kernel) rfl) rfl ?_
  refine am_pv_cons (v_iconst (n := 1) (by decide +kernel) rfl) rfl ?_
  refine am_pv_cons (v_goto (off := 4) (by decide +kernel) rfl) rfl ?_
  refine am_pv_cons (v_iconst (n := 0) (by decide +kernel) rfl) rfl ?_
  refine am_pv_cons (v_ireturn (by decide +kernel)) rfl ?_
  refine am_pv_cons (v_aload_n (q := 0) (by decide +kernel) rfl) rfl ?_
  refine am_pv_cons (v_ldc2 (i := 229) (tb6 206 (by decide +kernel) rfl) (by decide +kernel)) rfl ?_
  refine am_pv_cons (v_virt (idx := 220) yv_MO_isWord rfl rfl (tb6 159 (by decide +kernel) rfl) (by decide +kernel)) rfl ?_
  refine am_pv_cons (v_if_eq (off := 13) (by decide +kernel) rfl) rfl ?_
  refine am_pv_cons (v_aload_n (q := 0) (by decide +kernel) rfl) rfl ?_
  refine am_pv_cons (v_get fl_MO_41 (by decide +kernel)) rfl ?_
  refine am_pv_cons (v_aload_n (q := 0) (by decide +kernel) rfl) rfl ?_
  refine am_pv_cons (v_get fl_MO_224 (by decide +kernel)) rfl ?_
  refine am_pv_cons (v_iald (by decide +kernel)) rfl ?_
  refine am_pv_cons (v_ireturn (by decide +kernel)) rfl ?_
  refine am_pv_cons (v_aload_n (q := 0) (by decide +kernel) rfl) rfl ?_
  refine am_pv_cons (v_ldc2 (i := 231) (tb6 207 (by decide +kernel) rfl) (by decide +kernel)) rfl ?_
  refine am_pv_cons (v_virt (idx := 220) yv_MO_isWord rfl rfl (tb6 159 (by decide +kernel) rfl) (by decide +kernel)) rfl ?_
  refine am_pv_cons (v_if_eq (off := 13) (by decide +kernel) rfl) rfl ?_
  refine am_pv_cons (v_aload_n (q := 0) (by decide +kernel) rfl) rfl ?_
  refine am_pv_cons (v_get fl_MO_44 (by decide +kernel)) rfl ?_
  refine am_pv_cons (v_aload_n (q := 0) (by decide +kernel) rfl) rfl ?_
  refine am_pv_cons (v_get fl_MO_224 (by decide +kernel)) rfl ?_
  refine am_pv_cons (v_iald (by decide +kernel)) rfl ?_
  refine am_pv_cons (v_ireturn (by decide +kernel)) rfl ?_
  refine am_pv_cons (v_aload_n (q := 0) (by decide +kernel) rfl) rfl ?_
  refine am_pv_cons (v_ldc2 (i := 233) (tb6 208 (by decide +kernel) rfl) (by decide +kernel)) rfl ?_
  refine am_pv_cons (v_virt (idx := 220) yv_MO_isWord rfl rfl (tb6 159 (by decide +kernel) rfl) (by decide +kernel)) rfl ?_
  refine am_pv_cons (v_if_eq (off := 13) (by decide +kernel) rfl) rfl ?_
  refine am_pv_cons (v_aload_n (q := 0) (by decide +kernel) rfl) rfl ?_
  refine am_pv_cons (v_get fl_MO_29 (by decide +kernel)) rfl ?_
  refine am_pv_cons (v_aload_n (q := 0) (by decide +kernel) rfl) rfl ?_
  refine am_pv_cons (v_get fl_MO_224 (by decide +kernel)) rfl ?_
  refine am_pv_cons (v_iald (by decide +kernel)) rfl ?_
  refine am_pv_cons (v_ireturn (by decide +kernel)) rfl ?_
  refine am_pv_cons (v_aload_n (q := 0) (by decide +kernel) rfl) rfl ?_
  refine am_pv_cons (v_ldc2 (i := 235) (tb6 209 (by decide +kernel) rfl) (by decide +kernel)) rfl ?_
  refine am_pv_cons (v_virt (idx := 220) yv_MO_isWord rfl rfl (tb6 159 (by decide +kernel) rfl) (by decide +kernel)) rfl ?_
  refine am_pv_cons (v_if_eq (off := 13) (by decide +kernel) rfl) rfl ?_
  refine am_pv_cons (v_aload_n (q := 0) (by decide +kernel) rfl) rfl ?_
  refine am_pv_cons (v_get fl_MO_32 (by decide +kernel)) rfl ?_
  refine am_pv_cons (v_aload_n (q := 0) (by decide +kernel) rfl) rfl ?_
  refine am_pv_cons (v_get fl_MO_224 (by decide +kernel)) rfl ?_
  refine am_pv_cons (v_iald (by decide +kernel)) rfl ?_
  refine am_pv_cons (v_ireturn (by decide +kernel)) rfl ?_
  refine am_pv_cons (v_aload_n (q := 0) (by decide +kernel) rfl) rfl ?_
  refine am_pv_cons (v_virt (idx := 212) yv_MO_fail rfl rfl (tb6 163 (by decide +kernel) rfl) (by decide +kernel)) rfl ?_
  refine am_pv_cons (v_iconst (n := 0) (by decide +kernel) rfl) rfl ?_
  refine am_pv_cons (v_ireturn (by decide +kernel)) trivial ?_
  exact trivial
def P_MO_one (E : am_E) (k : Nat) : am_P := [(0, aI 0), (1, aSi 1), (2, aLa 0), (3, aI 45), (5, aIv E k 12 1 Y_MO_isSign), (8, z_eq 37), (11, aLa 0), (12, aIv E k 12 0 Y_MO_opens), (15, z_eq 161), (18, aLa 0), (19, aIv E k 12 0 Y_MO_one), (22, a_ineg), (23, aSi 1), (24, aLa 0), (25, aDup), (26, aGet 12 23), (29, aI 1), (30, a_isub), (31, aPut 12 23), (34, aGo 161), (37, aLa 0), (38, aI 40), (40, aIv E k 12 1 Y_MO_isSign), (43, z_eq 95), (46, aLa 0), (47, aIv E k 12 0 Y_MO_opens), (50, z_eq 161), (53, aLa 0), (54, aIv E k 12 0 Y_MO_either), (57, aSi 1), (58, aLa 0), (59, aI 41), (61, aIv E k 12 1 Y_MO_isSign), (64, z_ne 71), (67, aLa 0), (68, aIv E k 12 0 Y_MO_fail), (71, aLa 0), (72, aDup), (73, aGet 12 23), (76, aI 1), (77, a_isub), (78, aPut 12 23), (81, aLa 0), (82, aGet 12 24), (85, z_ne 161), (88, aLa 0), (89, aIv E k 12 0 Y_MO_next), (92, aGo 161), (95, aLa 0), (96, aGet 12 24), (99, z_ne 123), (102, aLa 0), (103, aGet 12 19), (106, aI 2), (107, c_ne 123), (110, aLa 0), (111, aGet 12 21), (114, aL2I), (115, aSi 1), (116, aLa 0), (117, aIv E k 12 0 Y_MO_next), (120, aGo 161), (123, aLa 0), (124, aGet 12 24), (127, z_ne 157), (130, aLa 0), (131, aGet 12 19), (134, aI 1), (135, c_ne 157), (138, aLa 0), (139, aIv E k 12 0 Y_MO_name), (142, aSi 1), (143, aLa 0), (144, aGet 12 24), (147, z_ne 161), (150, aLa 0), (151, aIv E k 12 0 Y_MO_next), (154, aGo 161), (157, aLa 0), (158, aIv E k 12 0 Y_MO_fail), (161, aLi 1), (162, aRi)]
set_option maxRecDepth 20000 in
theorem pv_MO_one (E : am_E) (k : Nat) : am_pv E k Y_MO_one.2.1 Y_MO_one.2.2.1 Y_MO_one.1.cls (P_MO_one E k) := by
  refine am_pv_cons (v_iconst (n := 0) (by decide +kernel) rfl) rfl ?_
  refine am_pv_cons (v_istore_n (q := 1) (by decide +kernel) rfl) rfl ?_
  refine am_pv_cons (v_aload_n (q := 0) (by decide +kernel) rfl) rfl ?_
  refine am_pv_cons (v_bipush (n := 45) (by decide +kernel) (by decide +kernel)) rfl ?_
  refine am_pv_cons (v_virt (idx := 237) yv_MO_isSign rfl rfl (tb6 196 (by decide +kernel) rfl) (by decide +kernel)) rfl ?_
  refine am_pv_cons (v_if_eq (off := 29) (by decide +kernel) rfl) rfl ?_
  refine am_pv_cons (v_aload_n (q := 0) (by decide +kernel) rfl) rfl ?_
  refine am_pv_cons (v_virt (idx := 240) yv_MO_opens rfl rfl (tb6 180 (by decide +kernel) rfl) (by decide +kernel)) rfl ?_
  refine am_pv_cons (v_if_eq (off := 146) (by decide +kernel) rfl) rfl ?_
  refine am_pv_cons (v_aload_n (q := 0) (by decide +kernel) rfl) rfl ?_
  refine am_pv_cons (v_virt (idx := 244) yv_MO_one rfl rfl (tb6 192 (by decide +kernel) rfl) (by decide +kernel)) rfl ?_
  refine am_pv_cons (v_ineg (by decide +kernel)) rfl ?_
  refine am_pv_cons (v_istore_n (q := 1) (by decide +kernel) rfl) rfl ?_
  refine am_pv_cons (v_aload_n (q := 0) (by decide +kernel) rfl) rfl ?_
  refine am_pv_cons (v_dup (by decide +kernel)) rfl ?_
  refine am_pv_cons (v_get fl_MO_209 (by decide +kernel)) rfl ?_
  refine am_pv_cons (v_iconst (n := 1) (by decide +kernel) rfl) rfl ?_
  refine am_pv_cons (v_isub (by decide +kernel)) rfl ?_
  refine am_pv_cons (v_put fw_MO_209 (by decide +kernel)) rfl ?_
  refine am_pv_cons (v_goto (off := 127) (by decide +kernel) rfl) rfl ?_
  refine am_pv_cons (v_aload_n (q := 0) (by decide +kernel) rfl) rfl ?_
  refine am_pv_cons (v_bipush (n := 40) (by decide +kernel) (by decide +kernel)) rfl ?_
  refine am_pv_cons (v_virt (idx := 237) yv_MO_isSign rfl rfl (tb6 196 (by decide +kernel) rfl) (by decide +kernel)) rfl ?_
  refine am_pv_cons (v_if_eq (off := 52) (by decide +kernel) rfl) rfl ?_
  refine am_pv_cons (v_aload_n (q := 0) (by decide +kernel) rfl) rfl ?_
  refine am_pv_cons (v_virt (idx := 240) yv_MO_opens rfl rfl (tb6 180 (by decide +kernel) rfl) (by decide +kernel)) rfl ?_
  refine am_pv_cons (v_if_eq (off := 111) (by decide +kernel) rfl) rfl ?_
  refine am_pv_cons (v_aload_n (q := 0) (by decide +kernel) rfl) rfl ?_
  refine am_pv_cons (v_virt (idx := 248) yv_MO_either rfl rfl (tb6 167 (by decide +kernel) rfl) (by decide +kernel)) rfl ?_
  refine am_pv_cons (v_istore_n (q := 1) (by decide +kernel) rfl) rfl ?_
  refine am_pv_cons (v_aload_n (q := 0) (by decide +kernel) rfl) rfl ?_
  refine am_pv_cons (v_bipush (n := 41) (by decide +kernel) (by decide +kernel)) rfl ?_
  refine am_pv_cons (v_virt (idx := 237) yv_MO_isSign rfl rfl (tb6 196 (by decide +kernel) rfl) (by decide +kernel)) rfl ?_
  refine am_pv_cons (v_if_ne (off := 7) (by decide +kernel) rfl) rfl ?_
  refine am_pv_cons (v_aload_n (q := 0) (by decide +kernel) rfl) rfl ?_
  refine am_pv_cons (v_virt (idx := 212) yv_MO_fail rfl rfl (tb6 163 (by decide +kernel) rfl) (by decide +kernel)) rfl ?_
  refine am_pv_cons (v_aload_n (q := 0) (by decide +kernel) rfl) rfl ?_
  refine am_pv_cons (v_dup (by decide +kernel)) rfl ?_
  refine am_pv_cons (v_get fl_MO_209 (by decide +kernel)) rfl ?_
  refine am_pv_cons (v_iconst (n := 1) (by decide +kernel) rfl) rfl ?_
  refine am_pv_cons (v_isub (by decide +kernel)) rfl ?_
  refine am_pv_cons (v_put fw_MO_209 (by decide +kernel)) rfl ?_
  refine am_pv_cons (v_aload_n (q := 0) (by decide +kernel) rfl) rfl ?_
  refine am_pv_cons (v_get fl_MO_202 (by decide +kernel)) rfl ?_
  refine am_pv_cons (v_if_ne (off := 76) (by decide +kernel) rfl) rfl ?_
  refine am_pv_cons (v_aload_n (q := 0) (by decide +kernel) rfl) rfl ?_
  refine am_pv_cons (v_virt (idx := 215) yv_MO_next rfl rfl (tb6 139 (by decide +kernel) rfl) (by decide +kernel)) rfl ?_
  refine am_pv_cons (v_goto (off := 69) (by decide +kernel) rfl) rfl ?_
  refine am_pv_cons (v_aload_n (q := 0) (by decide +kernel) rfl) rfl ?_
  refine am_pv_cons (v_get fl_MO_202 (by decide +kernel)) rfl ?_
  refine am_pv_cons (v_if_ne (off := 24) (by decide +kernel) rfl) rfl ?_
  refine am_pv_cons (v_aload_n (q := 0) (by decide +kernel) rfl) rfl ?_
  refine am_pv_cons (v_get fl_MO_181 (by decide +kernel)) rfl ?_
  refine am_pv_cons (v_iconst (n := 2) (by decide +kernel) rfl) rfl ?_
  refine am_pv_cons (v_ic_ne (off := 16) (by decide +kernel) rfl) rfl ?_
  refine am_pv_cons (v_aload_n (q := 0) (by decide +kernel) rfl) rfl ?_
  refine am_pv_cons (v_get fl_MO_188 (by decide +kernel)) rfl ?_
  refine am_pv_cons (v_l2i (by decide +kernel)) rfl ?_
  refine am_pv_cons (v_istore_n (q := 1) (by decide +kernel) rfl) rfl ?_
  refine am_pv_cons (v_aload_n (q := 0) (by decide +kernel) rfl) rfl ?_
  refine am_pv_cons (v_virt (idx := 215) yv_MO_next rfl rfl (tb6 139 (by decide +kernel) rfl) (by decide +kernel)) rfl ?_
  refine am_pv_cons (v_goto (off := 41) (by decide +kernel) rfl) rfl ?_
  refine am_pv_cons (v_aload_n (q := 0) (by decide +kernel) rfl) rfl ?_
  refine am_pv_cons (v_get fl_MO_202 (by decide +kernel)) rfl ?_
  refine am_pv_cons (v_if_ne (off := 30) (by decide +kernel) rfl) rfl ?_
  refine am_pv_cons (v_aload_n (q := 0) (by decide +kernel) rfl) rfl ?_
  refine am_pv_cons (v_get fl_MO_181 (by decide +kernel)) rfl ?_
  refine am_pv_cons (v_iconst (n := 1) (by decide +kernel) rfl) rfl ?_
  refine am_pv_cons (v_ic_ne (off := 22) (by decide +kernel) rfl) rfl ?_
  refine am_pv_cons (v_aload_n (q := 0) (by decide +kernel) rfl) rfl ?_
  refine am_pv_cons (v_virt (idx := 251) yv_MO_name rfl rfl (tb6 200 (by decide +kernel) rfl) (by decide +kernel)) rfl ?_
  refine am_pv_cons (v_istore_n (q := 1) (by decide +kernel) rfl) rfl ?_
  refine am_pv_cons (v_aload_n (q := 0) (by decide +kernel) rfl) rfl ?_
  refine am_pv_cons (v_get fl_MO_202 (by decide +kernel)) rfl ?_
  refine am_pv_cons (v_if_ne (off := 14) (by decide +kernel) rfl) rfl ?_
  refine am_pv_cons (v_aload_n (q := 0) (by decide +kernel) rfl) rfl ?_
  refine am_pv_cons (v_virt (idx := 215) yv_MO_next rfl rfl (tb6 139 (by decide +kernel) rfl) (by decide +kernel)) rfl ?_
  refine am_pv_cons (v_goto (off := 7) (by decide +kernel) rfl) rfl ?_
  refine am_pv_cons (v_aload_n (q := 0) (by decide +kernel) rfl) rfl ?_
  refine am_pv_cons (v_virt (idx := 212) yv_MO_fail rfl rfl (tb6 163 (by decide +kernel) rfl) (by decide +kernel)) rfl ?_
  refine am_pv_cons (v_iload_n (q := 1) (by decide +kernel) rfl) rfl ?_
  refine am_pv_cons (v_ireturn (by decide +kernel)) trivial ?_
  exact trivial
def P_MO_term (E : am_E) (k : Nat) : am_P := [(0, aLa 0), (1, aIv E k 12 0 Y_MO_one), (4, aSi 1), (5, aLa 0), (6, aI 42), (8, aIv E k 12 1 Y_MO_isSign), (11, z_eq 28), (14, aLa 0), (15, aIv E k 12 0 Y_MO_next), (18, aLi 1), (19, aLa 0), (20, aIv E k 12 0 Y_MO_one), (23, a_imul), (24, aSi 1), (25, aGo 5), (28, aLi 1), (29, aRi)]
set_option maxRecDepth 20000 in
theorem pv_MO_term (E : am_E) (k : Nat) : am_pv E k Y_MO_term.2.1 Y_MO_term.2.2.1 Y_MO_term.1.cls (P_MO_term E k) := by
  refine am_pv_cons (v_aload_n (q := 0) (by decide +kernel) rfl) rfl ?_
  refine am_pv_cons (v_virt (idx := 244) yv_MO_one rfl rfl (tb6 192 (by decide +kernel) rfl) (by decide +kernel)) rfl ?_
  refine am_pv_cons (v_istore_n (q := 1) (by decide +kernel) rfl) rfl ?_
  refine am_pv_cons (v_aload_n (q := 0) (by decide +kernel) rfl) rfl ?_
  refine am_pv_cons (v_bipush (n := 42) (by decide +kernel) (by decide +kernel)) rfl ?_
  refine am_pv_cons (v_virt (idx := 237) yv_MO_isSign rfl rfl (tb6 196 (by decide +kernel) rfl) (by decide +kernel)) rfl ?_
  refine am_pv_cons (v_if_eq (off := 17) (by decide +kernel) rfl) rfl ?_
  refine am_pv_cons (v_aload_n (q := 0) (by decide +kernel) rfl) rfl ?_
  refine am_pv_cons (v_virt (idx := 215) yv_MO_next rfl rfl (tb6 139 (by decide +kernel) rfl) (by decide +kernel)) rfl ?_
  refine am_pv_cons (v_iload_n (q := 1) (by decide +kernel) rfl) rfl ?_
  refine am_pv_cons (v_aload_n (q := 0) (by decide +kernel) rfl) rfl ?_
  refine am_pv_cons (v_virt (idx := 244) yv_MO_one rfl rfl (tb6 192 (by decide +kernel) rfl) (by decide +kernel)) rfl ?_
  refine am_pv_cons (v_imul (by decide +kernel)) rfl ?_
  refine am_pv_cons (v_istore_n (q := 1) (by decide +kernel) rfl) rfl ?_
  refine am_pv_cons (v_goto (off := -20) (by decide +kernel) rfl) rfl ?_
  refine am_pv_cons (v_iload_n (q := 1) (by decide +kernel) rfl) rfl ?_
  refine am_pv_cons (v_ireturn (by decide +kernel)) trivial ?_
  exact trivial
def P_MO_added (E : am_E) (k : Nat) : am_P := [(0, aLa 0), (1, aIv E k 12 0 Y_MO_term), (4, aSi 1), (5, aLa 0), (6, aI 43), (8, aIv E k 12 1 Y_MO_isSign), (11, z_ne 23), (14, aLa 0), (15, aI 45), (17, aIv E k 12 1 Y_MO_isSign), (20, z_eq 66), (23, aLa 0), (24, aGet 12 21), (27, aJ 43), (30, aCmp), (31, z_ne 38), (34, aI 1), (35, aGo 39), (38, aI 0), (39, aSi 2), (40, aLa 0), (41, aIv E k 12 0 Y_MO_next), (44, aLa 0), (45, aIv E k 12 0 Y_MO_term), (48, aSi 3), (49, aLi 2), (50, z_eq 59), (53, aLi 1), (54, aLi 3), (55, a_iadd), (56, aGo 62), (59, aLi 1), (60, aLi 3), (61, a_isub), (62, aSi 1), (63, aGo 5), (66, aLi 1), (67, aRi)]
set_option maxRecDepth 20000 in
theorem pv_MO_added (E : am_E) (k : Nat) : am_pv E k Y_MO_added.2.1 Y_MO_added.2.2.1 Y_MO_added.1.cls (P_MO_added E k) := by
  refine am_pv_cons (v_aload_n (q := 0) (by decide +kernel) rfl) rfl ?_
  refine am_pv_cons (v_virt (idx := 254) yv_MO_term rfl rfl (tb6 188 (by decide +kernel) rfl) (by decide +kernel)) rfl ?_
  refine am_pv_cons (v_istore_n (q := 1) (by decide +kernel) rfl) rfl ?_
  refine am_pv_cons (v_aload_n (q := 0) (by decide +kernel) rfl) rfl ?_
  refine am_pv_cons (v_bipush (n := 43) (by decide +kernel) (by decide +kernel)) rfl ?_
  refine am_pv_cons (v_virt (idx := 237) yv_MO_isSign rfl rfl (tb6 196 (by decide +kernel) rfl) (by decide +kernel)) rfl ?_
  refine am_pv_cons (v_if_ne (off := 12) (by decide +kernel) rfl) rfl ?_
  refine am_pv_cons (v_aload_n (q := 0) (by decide +kernel) rfl) rfl ?_
  refine am_pv_cons (v_bipush (n := 45) (by decide +kernel) (by decide +kernel)) rfl ?_
  refine am_pv_cons (v_virt (idx := 237) yv_MO_isSign rfl rfl (tb6 196 (by decide +kernel) rfl) (by decide +kernel)) rfl ?_
  refine am_pv_cons (v_if_eq (off := 46) (by decide +kernel) rfl) rfl ?_
  refine am_pv_cons (v_aload_n (q := 0) (by decide +kernel) rfl) rfl ?_
  refine am_pv_cons (v_get fl_MO_188 (by decide +kernel)) rfl ?_
  refine am_pv_cons (v_ldc2 (i := 257) (tb6 210 (by decide +kernel) rfl) (by decide +kernel)) rfl ?_
  refine am_pv_cons (v_lcmp (by decide +kernel)) rfl ?_
  refine am_pv_cons (v_if_ne (off := 7) (by decide +kernel) rfl) rfl ?_
  refine am_pv_cons (v_iconst (n := 1) (by decide +kernel) rfl) rfl ?_
  refine am_pv_cons (v_goto (off := 4) (by decide +kernel) rfl) rfl ?_
  refine am_pv_cons (v_iconst (n := 0) (by decide +kernel) rfl) rfl ?_
  refine am_pv_cons (v_istore_n (q := 2) (by decide +kernel) rfl) rfl ?_
  refine am_pv_cons (v_aload_n (q := 0) (by decide +kernel) rfl) rfl ?_
  refine am_pv_cons (v_virt (idx := 215) yv_MO_next rfl rfl (tb6 139 (by decide +kernel) rfl) (by decide +kernel)) rfl ?_
  refine am_pv_cons (v_aload_n (q := 0) (by decide +kernel) rfl) rfl ?_
  refine am_pv_cons (v_virt (idx := 254) yv_MO_term rfl rfl (tb6 188 (by decide +kernel) rfl) (by decide +kernel)) rfl ?_
  refine am_pv_cons (v_istore_n (q := 3) (by decide +kernel) rfl) rfl ?_
  refine am_pv_cons (v_iload_n (q := 2) (by decide +kernel) rfl) rfl ?_
  refine am_pv_cons (v_if_eq (off := 9) (by decide +kernel) rfl) rfl ?_
  refine am_pv_cons (v_iload_n (q := 1) (by decide +kernel) rfl) rfl ?_
  refine am_pv_cons (v_iload_n (q := 3) (by decide +kernel) rfl) rfl ?_
  refine am_pv_cons (v_iadd (by decide +kernel)) rfl ?_
  refine am_pv_cons (v_goto (off := 6) (by decide +kernel) rfl) rfl ?_
  refine am_pv_cons (v_iload_n (q := 1) (by decide +kernel) rfl) rfl ?_
  refine am_pv_cons (v_iload_n (q := 3) (by decide +kernel) rfl) rfl ?_
  refine am_pv_cons (v_isub (by decide +kernel)) rfl ?_
  refine am_pv_cons (v_istore_n (q := 1) (by decide +kernel) rfl) rfl ?_
  refine am_pv_cons (v_goto (off := -58) (by decide +kernel) rfl) rfl ?_
  refine am_pv_cons (v_iload_n (q := 1) (by decide +kernel) rfl) rfl ?_
  refine am_pv_cons (v_ireturn (by decide +kernel)) trivial ?_
  exact trivial
def P_MO_not (E : am_E) (k : Nat) : am_P := [(0, aLa 0), (1, aJ 10631), (4, aIv E k 12 1 Y_MO_isWord), (7, z_eq 44), (10, aLa 0), (11, aIv E k 12 0 Y_MO_opens), (14, z_ne 19), (17, aI 0), (18, aRi), (19, aLa 0), (20, aIv E k 12 0 Y_MO_not), (23, aSi 1), (24, aLa 0), (25, aDup), (26, aGet 12 23), (29, aI 1), (30, a_isub), (31, aPut 12 23), (34, aLi 1), (35, z_ne 42), (38, aI 1), (39, aGo 43), (42, aI 0), (43, aRi), (44, aLa 0), (45, aIv E k 12 0 Y_MO_added), (48, aSi 1), (49, aLa 0), (50, aI 60), (52, aIv E k 12 1 Y_MO_isSign), (55, z_ne 69), (58, aLa 0), (59, aI 61), (61, aIv E k 12 1 Y_MO_isSign), (64, z_ne 69), (67, aLi 1), (68, aRi), (69, aLa 0), (70, aGet 12 21), (73, aJ 60), (76, aCmp), (77, z_ne 84), (80, aI 1), (81, aGo 85), (84, aI 0), (85, aSi 2), (86, aLa 0), (87, aIv E k 12 0 Y_MO_next), (90, aLa 0), (91, aIv E k 12 0 Y_MO_added), (94, aSi 3), (95, aLi 2), (96, z_eq 107), (99, aLi 1), (100, aLi 3), (101, c_ge 116), (104, aGo 112), (107, aLi 1), (108, aLi 3), (109, c_ne 116), (112, aI 1), (113, aGo 117), (116, aI 0), (117, aRi)]
set_option maxRecDepth 20000 in
theorem pv_MO_not (E : am_E) (k : Nat) : am_pv E k Y_MO_not.2.1 Y_MO_not.2.2.1 Y_MO_not.1.cls (P_MO_not E k) := by
  refine am_pv_cons (v_aload_n (q := 0) (by decide +kernel) rfl) rfl ?_
  refine am_pv_cons (v_ldc2 (i := 259) (tb6 179 (by decide +kernel) rfl) (by decide +kernel)) rfl ?_
  refine am_pv_cons (v_virt (idx := 220) yv_MO_isWord rfl rfl (tb6 159 (by decide +kernel) rfl) (by decide +kernel)) rfl ?_
  refine am_pv_cons (v_if_eq (off := 37) (by decide +kernel) rfl) rfl ?_
  refine am_pv_cons (v_aload_n (q := 0) (by decide +kernel) rfl) rfl ?_
  refine am_pv_cons (v_virt (idx := 240) yv_MO_opens rfl rfl (tb6 180 (by decide +kernel) rfl) (by decide +kernel)) rfl ?_
  refine am_pv_cons (v_if_ne (off := 5) (by decide +kernel) rfl) rfl ?_
  refine am_pv_cons (v_iconst (n := 0) (by decide +kernel) rfl) rfl ?_
  refine am_pv_cons (v_ireturn (by decide +kernel)) rfl ?_
  refine am_pv_cons (v_aload_n (q := 0) (by decide +kernel) rfl) rfl ?_
  refine am_pv_cons (v_virt (idx := 261) yv_MO_not rfl rfl (tb6 175 (by decide +kernel) rfl) (by decide +kernel)) rfl ?_
  refine am_pv_cons (v_istore_n (q := 1) (by decide +kernel) rfl) rfl ?_
  refine am_pv_cons (v_aload_n (q := 0) (by decide +kernel) rfl) rfl ?_
  refine am_pv_cons (v_dup (by decide +kernel)) rfl ?_
  refine am_pv_cons (v_get fl_MO_209 (by decide +kernel)) rfl ?_
  refine am_pv_cons (v_iconst (n := 1) (by decide +kernel) rfl) rfl ?_
  refine am_pv_cons (v_isub (by decide +kernel)) rfl ?_
  refine am_pv_cons (v_put fw_MO_209 (by decide +kernel)) rfl ?_
  refine am_pv_cons (v_iload_n (q := 1) (by decide +kernel) rfl) rfl ?_
  refine am_pv_cons (v_if_ne (off := 7) (by decide +kernel) rfl) rfl ?_
  refine am_pv_cons (v_iconst (n := 1) (by decide +kernel) rfl) rfl ?_
  refine am_pv_cons (v_goto (off := 4) (by decide +kernel) rfl) rfl ?_
  refine am_pv_cons (v_iconst (n := 0) (by decide +kernel) rfl) rfl ?_
  refine am_pv_cons (v_ireturn (by decide +kernel)) rfl ?_
  refine am_pv_cons (v_aload_n (q := 0) (by decide +kernel) rfl) rfl ?_
  refine am_pv_cons (v_virt (idx := 264) yv_MO_added rfl rfl (tb6 184 (by decide +kernel) rfl) (by decide +kernel)) rfl ?_
  refine am_pv_cons (v_istore_n (q := 1) (by decide +kernel) rfl) rfl ?_
  refine am_pv_cons (v_aload_n (q := 0) (by decide +kernel) rfl) rfl ?_
  refine am_pv_cons (v_bipush (n := 60) (by decide +kernel) (by decide +kernel)) rfl ?_
  refine am_pv_cons (v_virt (idx := 237) yv_MO_isSign rfl rfl (tb6 196 (by decide +kernel) rfl) (by decide +kernel)) rfl ?_
  refine am_pv_cons (v_if_ne (off := 14) (by decide +kernel) rfl) rfl ?_
  refine am_pv_cons (v_aload_n (q := 0) (by decide +kernel) rfl) rfl ?_
  refine am_pv_cons (v_bipush (n := 61) (by decide +kernel) (by decide +kernel)) rfl ?_
  refine am_pv_cons (v_virt (idx := 237) yv_MO_isSign rfl rfl (tb6 196 (by decide +kernel) rfl) (by decide +kernel)) rfl ?_
  refine am_pv_cons (v_if_ne (off := 5) (by decide +kernel) rfl) rfl ?_
  refine am_pv_cons (v_iload_n (q := 1) (by decide +kernel) rfl) rfl ?_
  refine am_pv_cons (v_ireturn (by decide +kernel)) rfl ?_
  refine am_pv_cons (v_aload_n (q := 0) (by decide +kernel) rfl) rfl ?_
  refine am_pv_cons (v_get fl_MO_188 (by decide +kernel)) rfl ?_
  refine am_pv_cons (v_ldc2 (i := 267) (tb6 211 (by decide +kernel) rfl) (by decide +kernel)) rfl ?_
  refine am_pv_cons (v_lcmp (by decide +kernel)) rfl ?_
  refine am_pv_cons (v_if_ne (off := 7) (by decide +kernel) rfl) rfl ?_
  refine am_pv_cons (v_iconst (n := 1) (by decide +kernel) rfl) rfl ?_
  refine am_pv_cons (v_goto (off := 4) (by decide +kernel) rfl) rfl ?_
  refine am_pv_cons (v_iconst (n := 0) (by decide +kernel) rfl) rfl ?_
  refine am_pv_cons (v_istore_n (q := 2) (by decide +kernel) rfl) rfl ?_
  refine am_pv_cons (v_aload_n (q := 0) (by decide +kernel) rfl) rfl ?_
  refine am_pv_cons (v_virt (idx := 215) yv_MO_next rfl rfl (tb6 139 (by decide +kernel) rfl) (by decide +kernel)) rfl ?_
  refine am_pv_cons (v_aload_n (q := 0) (by decide +kernel) rfl) rfl ?_
  refine am_pv_cons (v_virt (idx := 264) yv_MO_added rfl rfl (tb6 184 (by decide +kernel) rfl) (by decide +kernel)) rfl ?_
  refine am_pv_cons (v_istore_n (q := 3) (by decide +kernel) rfl) rfl ?_
  refine am_pv_cons (v_iload_n (q := 2) (by decide +kernel) rfl) rfl ?_
  refine am_pv_cons (v_if_eq (off := 11) (by decide +kernel) rfl) rfl ?_
  refine am_pv_cons (v_iload_n (q := 1) (by decide +kernel) rfl) rfl ?_
  refine am_pv_cons (v_iload_n (q := 3) (by decide +kernel) rfl) rfl ?_
  refine am_pv_cons (v_ic_ge (off := 15) (by decide +kernel) rfl) rfl ?_
  refine am_pv_cons (v_goto (off := 8) (by decide +kernel) rfl) rfl ?_
  refine am_pv_cons (v_iload_n (q := 1) (by decide +kernel) rfl) rfl ?_
  refine am_pv_cons (v_iload_n (q := 3) (by decide +kernel) rfl) rfl ?_
  refine am_pv_cons (v_ic_ne (off := 7) (by decide +kernel) rfl) rfl ?_
  refine am_pv_cons (v_iconst (n := 1) (by decide +kernel) rfl) rfl ?_
  refine am_pv_cons (v_goto (off := 4) (by decide +kernel) rfl) rfl ?_
  refine am_pv_cons (v_iconst (n := 0) (by decide +kernel) rfl) rfl ?_
  refine am_pv_cons (v_ireturn (by decide +kernel)) trivial ?_
  exact trivial
def P_MO_both (E : am_E) (k : Nat) : am_P := [(0, aLa 0), (1, aIv E k 12 0 Y_MO_not), (4, aSi 1), (5, aLa 0), (6, aJ 1111), (9, aIv E k 12 1 Y_MO_isWord), (12, z_eq 41), (15, aLa 0), (16, aIv E k 12 0 Y_MO_next), (19, aLa 0), (20, aIv E k 12 0 Y_MO_not), (23, aSi 2), (24, aLi 1), (25, z_eq 36), (28, aLi 2), (29, z_eq 36), (32, aI 1), (33, aGo 37), (36, aI 0), (37, aSi 1), (38, aGo 5), (41, aLi 1), (42, aRi)]
set_option maxRecDepth 20000 in
theorem pv_MO_both (E : am_E) (k : Nat) : am_pv E k Y_MO_both.2.1 Y_MO_both.2.2.1 Y_MO_both.1.cls (P_MO_both E k) := by
  refine am_pv_cons (v_aload_n (q := 0) (by decide +kernel) rfl) rfl ?_
  refine am_pv_cons (v_virt (idx := 261) yv_MO_not rfl rfl (tb6 175 (by decide +kernel) rfl) (by decide +kernel)) rfl ?_
  refine am_pv_cons (v_istore_n (q := 1) (by decide +kernel) rfl) rfl ?_
  refine am_pv_cons (v_aload_n (q := 0) (by decide +kernel) rfl) rfl ?_
  refine am_pv_cons (v_ldc2 (i := 269) (tb6 212 (by decide +kernel) rfl) (by decide +kernel)) rfl ?_
  refine am_pv_cons (v_virt (idx := 220) yv_MO_isWord rfl rfl (tb6 159 (by decide +kernel) rfl) (by decide +kernel)) rfl ?_
  refine am_pv_cons (v_if_eq (off := 29) (by decide +kernel) rfl) rfl ?_
  refine am_pv_cons (v_aload_n (q := 0) (by decide +kernel) rfl) rfl ?_
  refine am_pv_cons (v_virt (idx := 215) yv_MO_next rfl rfl (tb6 139 (by decide +kernel) rfl) (by decide +kernel)) rfl ?_
  refine am_pv_cons (v_aload_n (q := 0) (by decide +kernel) rfl) rfl ?_
  refine am_pv_cons (v_virt (idx := 261) yv_MO_not rfl rfl (tb6 175 (by decide +kernel) rfl) (by decide +kernel)) rfl ?_
  refine am_pv_cons (v_istore_n (q := 2) (by decide +kernel) rfl) rfl ?_
  refine am_pv_cons (v_iload_n (q := 1) (by decide +kernel) rfl) rfl ?_
  refine am_pv_cons (v_if_eq (off := 11) (by decide +kernel) rfl) rfl ?_
  refine am_pv_cons (v_iload_n (q := 2) (by decide +kernel) rfl) rfl ?_
  refine am_pv_cons (v_if_eq (off := 7) (by decide +kernel) rfl) rfl ?_
  refine am_pv_cons (v_iconst (n := 1) (by decide +kernel) rfl) rfl ?_
  refine am_pv_cons (v_goto (off := 4) (by decide +kernel) rfl) rfl ?_
  refine am_pv_cons (v_iconst (n := 0) (by decide +kernel) rfl) rfl ?_
  refine am_pv_cons (v_istore_n (q := 1) (by decide +kernel) rfl) rfl ?_
  refine am_pv_cons (v_goto (off := -33) (by decide +kernel) rfl) rfl ?_
  refine am_pv_cons (v_iload_n (q := 1) (by decide +kernel) rfl) rfl ?_
  refine am_pv_cons (v_ireturn (by decide +kernel)) trivial ?_
  exact trivial
def P_MO_either (E : am_E) (k : Nat) : am_P := [(0, aLa 0), (1, aIv E k 12 0 Y_MO_both), (4, aSi 1), (5, aLa 0), (6, aJ 423), (9, aIv E k 12 1 Y_MO_isWord), (12, z_eq 41), (15, aLa 0), (16, aIv E k 12 0 Y_MO_next), (19, aLa 0), (20, aIv E k 12 0 Y_MO_both), (23, aSi 2), (24, aLi 1), (25, z_ne 32), (28, aLi 2), (29, z_eq 36), (32, aI 1), (33, aGo 37), (36, aI 0), (37, aSi 1), (38, aGo 5), (41, aLi 1), (42, aRi)]
set_option maxRecDepth 20000 in
theorem pv_MO_either (E : am_E) (k : Nat) : am_pv E k Y_MO_either.2.1 Y_MO_either.2.2.1 Y_MO_either.1.cls (P_MO_either E k) := by
  refine am_pv_cons (v_aload_n (q := 0) (by decide +kernel) rfl) rfl ?_
  refine am_pv_cons (v_virt (idx := 271) yv_MO_both rfl rfl (tb6 171 (by decide +kernel) rfl) (by decide +kernel)) rfl ?_
  refine am_pv_cons (v_istore_n (q := 1) (by decide +kernel) rfl) rfl ?_
  refine am_pv_cons (v_aload_n (q := 0) (by decide +kernel) rfl) rfl ?_
  refine am_pv_cons (v_ldc2 (i := 274) (tb6 213 (by decide +kernel) rfl) (by decide +kernel)) rfl ?_
  refine am_pv_cons (v_virt (idx := 220) yv_MO_isWord rfl rfl (tb6 159 (by decide +kernel) rfl) (by decide +kernel)) rfl ?_
  refine am_pv_cons (v_if_eq (off := 29) (by decide +kernel) rfl) rfl ?_
  refine am_pv_cons (v_aload_n (q := 0) (by decide +kernel) rfl) rfl ?_
  refine am_pv_cons (v_virt (idx := 215) yv_MO_next rfl rfl (tb6 139 (by decide +kernel) rfl) (by decide +kernel)) rfl ?_
  refine am_pv_cons (v_aload_n (q := 0) (by decide +kernel) rfl) rfl ?_
  refine am_pv_cons (v_virt (idx := 271) yv_MO_both rfl rfl (tb6 171 (by decide +kernel) rfl) (by decide +kernel)) rfl ?_
  refine am_pv_cons (v_istore_n (q := 2) (by decide +kernel) rfl) rfl ?_
  refine am_pv_cons (v_iload_n (q := 1) (by decide +kernel) rfl) rfl ?_
  refine am_pv_cons (v_if_ne (off := 7) (by decide +kernel) rfl) rfl ?_
  refine am_pv_cons (v_iload_n (q := 2) (by decide +kernel) rfl) rfl ?_
  refine am_pv_cons (v_if_eq (off := 7) (by decide +kernel) rfl) rfl ?_
  refine am_pv_cons (v_iconst (n := 1) (by decide +kernel) rfl) rfl ?_
  refine am_pv_cons (v_goto (off := 4) (by decide +kernel) rfl) rfl ?_
  refine am_pv_cons (v_iconst (n := 0) (by decide +kernel) rfl) rfl ?_
  refine am_pv_cons (v_istore_n (q := 1) (by decide +kernel) rfl) rfl ?_
  refine am_pv_cons (v_goto (off := -33) (by decide +kernel) rfl) rfl ?_
  refine am_pv_cons (v_iload_n (q := 1) (by decide +kernel) rfl) rfl ?_
  refine am_pv_cons (v_ireturn (by decide +kernel)) trivial ?_
  exact trivial
def P_MO_part (E : am_E) (k : Nat) : am_P := [(0, aLa 0), (1, aLj 1), (2, aIv E k 12 1 Y_MO_isWord), (5, z_ne 12), (8, aLa 0), (9, aIv E k 12 0 Y_MO_fail), (12, aLa 0), (13, aGet 12 24), (16, z_ne 23), (19, aLa 0), (20, aIv E k 12 0 Y_MO_next), (23, aLa 0), (24, aGet 12 24), (27, z_eq 34), (30, aI 0), (31, aGo 38), (34, aLa 0), (35, aIv E k 12 0 Y_MO_either), (38, aSi 3), (39, aLa 0), (40, aI 59), (42, aIv E k 12 1 Y_MO_isSign), (45, z_ne 52), (48, aLa 0), (49, aIv E k 12 0 Y_MO_fail), (52, aLa 0), (53, aGet 12 24), (56, z_ne 63), (59, aLa 0), (60, aIv E k 12 0 Y_MO_next), (63, aLi 3), (64, aRi)]
set_option maxRecDepth 20000 in
theorem pv_MO_part (E : am_E) (k : Nat) : am_pv E k Y_MO_part.2.1 Y_MO_part.2.2.1 Y_MO_part.1.cls (P_MO_part E k) := by
  refine am_pv_cons (v_aload_n (q := 0) (by decide +kernel) rfl) rfl ?_
  refine am_pv_cons (v_lload_n (q := 1) (by decide +kernel) rfl) rfl ?_
  refine am_pv_cons (v_virt (idx := 220) yv_MO_isWord rfl rfl (tb6 159 (by decide +kernel) rfl) (by decide +kernel)) rfl ?_
  refine am_pv_cons (v_if_ne (off := 7) (by decide +kernel) rfl) rfl ?_
  refine am_pv_cons (v_aload_n (q := 0) (by decide +kernel) rfl) rfl ?_
  refine am_pv_cons (v_virt (idx := 212) yv_MO_fail rfl rfl (tb6 163 (by decide +kernel) rfl) (by decide +kernel)) rfl ?_
  refine am_pv_cons (v_aload_n (q := 0) (by decide +kernel) rfl) rfl ?_
  refine am_pv_cons (v_get fl_MO_202 (by decide +kernel)) rfl ?_
  refine am_pv_cons (v_if_ne (off := 7) (by decide +kernel) rfl) rfl ?_
  refine am_pv_cons (v_aload_n (q := 0) (by decide +kernel) rfl) rfl ?_
  refine am_pv_cons (v_virt (idx := 215) yv_MO_next rfl rfl (tb6 139 (by decide +kernel) rfl) (by decide +kernel)) rfl ?_
  refine am_pv_cons (v_aload_n (q := 0) (by decide +kernel) rfl) rfl ?_
  refine am_pv_cons (v_get fl_MO_202 (by decide +kernel)) rfl ?_
  refine am_pv_cons (v_if_eq (off := 7) (by decide +kernel) rfl) rfl ?_
  refine am_pv_cons (v_iconst (n := 0) (by decide +kernel) rfl) rfl ?_
  refine am_pv_cons (v_goto (off := 7) (by decide +kernel) rfl) rfl ?_
  refine am_pv_cons (v_aload_n (q := 0) (by decide +kernel) rfl) rfl ?_
  refine am_pv_cons (v_virt (idx := 248) yv_MO_either rfl rfl (tb6 167 (by decide +kernel) rfl) (by decide +kernel)) rfl ?_
  refine am_pv_cons (v_istore_n (q := 3) (by decide +kernel) rfl) rfl ?_
  refine am_pv_cons (v_aload_n (q := 0) (by decide +kernel) rfl) rfl ?_
  refine am_pv_cons (v_bipush (n := 59) (by decide +kernel) (by decide +kernel)) rfl ?_
  refine am_pv_cons (v_virt (idx := 237) yv_MO_isSign rfl rfl (tb6 196 (by decide +kernel) rfl) (by decide +kernel)) rfl ?_
  refine am_pv_cons (v_if_ne (off := 7) (by decide +kernel) rfl) rfl ?_
  refine am_pv_cons (v_aload_n (q := 0) (by decide +kernel) rfl) rfl ?_
  refine am_pv_cons (v_virt (idx := 212) yv_MO_fail rfl rfl (tb6 163 (by decide +kernel) rfl) (by decide +kernel)) rfl ?_
  refine am_pv_cons (v_aload_n (q := 0) (by decide +kernel) rfl) rfl ?_
  refine am_pv_cons (v_get fl_MO_202 (by decide +kernel)) rfl ?_
  refine am_pv_cons (v_if_ne (off := 7) (by decide +kernel) rfl) rfl ?_
  refine am_pv_cons (v_aload_n (q := 0) (by decide +kernel) rfl) rfl ?_
  refine am_pv_cons (v_virt (idx := 215) yv_MO_next rfl rfl (tb6 139 (by decide +kernel) rfl) (by decide +kernel)) rfl ?_
  refine am_pv_cons (v_iload_n (q := 3) (by decide +kernel) rfl) rfl ?_
  refine am_pv_cons (v_ireturn (by decide +kernel)) trivial ?_
  exact trivial
def P_MO_read (E : am_E) (k : Nat) : am_P := [(0, aLa 0), (1, aLi 2), (2, aPut 12 26), (5, aLa 0), (6, aI 160), (9, aLi 1), (10, a_imul), (11, aPut 12 17), (14, aLa 0), (15, aLa 0), (16, aGet 12 2), (19, aLi 1), (20, aAld 0), (21, aPut 12 18), (24, aLa 0), (25, aI 0), (26, aPut 12 22), (29, aLa 0), (30, aI 0), (31, aPut 12 23), (34, aLa 0), (35, aI 0), (36, aPutz 12 24), (39, aLa 0), (40, aIv E k 12 0 Y_MO_next), (43, aLa 0), (44, aJ 70517), (47, aIv E k 12 1 Y_MO_part), (50, aSi 4), (52, aLa 0), (53, aGet 12 24), (56, z_eq 63), (59, aI 0), (60, aGo 70), (63, aLa 0), (64, aJ 8903), (67, aIv E k 12 1 Y_MO_part), (70, aSi 5), (72, aLa 0), (73, aGet 12 24), (76, z_ne 90), (79, aLa 0), (80, aGet 12 19), (83, z_eq 90), (86, aLa 0), (87, aIv E k 12 0 Y_MO_fail), (90, aLi 3), (91, z_ne 99), (94, aLi 4), (96, aGo 101), (99, aLi 5), (101, aRi)]
set_option maxRecDepth 20000 in
theorem pv_MO_read (E : am_E) (k : Nat) : am_pv E k Y_MO_read.2.1 Y_MO_read.2.2.1 Y_MO_read.1.cls (P_MO_read E k) := by
  refine am_pv_cons (v_aload_n (q := 0) (by decide +kernel) rfl) rfl ?_
  refine am_pv_cons (v_iload_n (q := 2) (by decide +kernel) rfl) rfl ?_
  refine am_pv_cons (v_put fw_MO_224 (by decide +kernel)) rfl ?_
  refine am_pv_cons (v_aload_n (q := 0) (by decide +kernel) rfl) rfl ?_
  refine am_pv_cons (v_sipush (n := 160) (by decide +kernel) (by decide +kernel)) rfl ?_
  refine am_pv_cons (v_iload_n (q := 1) (by decide +kernel) rfl) rfl ?_
  refine am_pv_cons (v_imul (by decide +kernel)) rfl ?_
  refine am_pv_cons (v_put fw_MO_169 (by decide +kernel)) rfl ?_
  refine am_pv_cons (v_aload_n (q := 0) (by decide +kernel) rfl) rfl ?_
  refine am_pv_cons (v_aload_n (q := 0) (by decide +kernel) rfl) rfl ?_
  refine am_pv_cons (v_get fl_MO_17 (by decide +kernel)) rfl ?_
  refine am_pv_cons (v_iload_n (q := 1) (by decide +kernel) rfl) rfl ?_
  refine am_pv_cons (v_iald (by decide +kernel)) rfl ?_
  refine am_pv_cons (v_put fw_MO_166 (by decide +kernel)) rfl ?_
  refine am_pv_cons (v_aload_n (q := 0) (by decide +kernel) rfl) rfl ?_
  refine am_pv_cons (v_iconst (n := 0) (by decide +kernel) rfl) rfl ?_
  refine am_pv_cons (v_put fw_MO_172 (by decide +kernel)) rfl ?_
  refine am_pv_cons (v_aload_n (q := 0) (by decide +kernel) rfl) rfl ?_
  refine am_pv_cons (v_iconst (n := 0) (by decide +kernel) rfl) rfl ?_
  refine am_pv_cons (v_put fw_MO_209 (by decide +kernel)) rfl ?_
  refine am_pv_cons (v_aload_n (q := 0) (by decide +kernel) rfl) rfl ?_
  refine am_pv_cons (v_iconst (n := 0) (by decide +kernel) rfl) rfl ?_
  refine am_pv_cons (v_putz fw_MO_202 (by decide +kernel)) rfl ?_
  refine am_pv_cons (v_aload_n (q := 0) (by decide +kernel) rfl) rfl ?_
  refine am_pv_cons (v_virt (idx := 215) yv_MO_next rfl rfl (tb6 139 (by decide +kernel) rfl) (by decide +kernel)) rfl ?_
  refine am_pv_cons (v_aload_n (q := 0) (by decide +kernel) rfl) rfl ?_
  refine am_pv_cons (v_ldc2 (i := 276) (tb6 154 (by decide +kernel) rfl) (by decide +kernel)) rfl ?_
  refine am_pv_cons (v_virt (idx := 278) yv_MO_part rfl rfl (tb6 155 (by decide +kernel) rfl) (by decide +kernel)) rfl ?_
  refine am_pv_cons (v_istore (by decide +kernel)) rfl ?_
  refine am_pv_cons (v_aload_n (q := 0) (by decide +kernel) rfl) rfl ?_
  refine am_pv_cons (v_get fl_MO_202 (by decide +kernel)) rfl ?_
  refine am_pv_cons (v_if_eq (off := 7) (by decide +kernel) rfl) rfl ?_
  refine am_pv_cons (v_iconst (n := 0) (by decide +kernel) rfl) rfl ?_
  refine am_pv_cons (v_goto (off := 10) (by decide +kernel) rfl) rfl ?_
  refine am_pv_cons (v_aload_n (q := 0) (by decide +kernel) rfl) rfl ?_
  refine am_pv_cons (v_ldc2 (i := 282) (tb6 214 (by decide +kernel) rfl) (by decide +kernel)) rfl ?_
  refine am_pv_cons (v_virt (idx := 278) yv_MO_part rfl rfl (tb6 155 (by decide +kernel) rfl) (by decide +kernel)) rfl ?_
  refine am_pv_cons (v_istore (by decide +kernel)) rfl ?_
  refine am_pv_cons (v_aload_n (q := 0) (by decide +kernel) rfl) rfl ?_
  refine am_pv_cons (v_get fl_MO_202 (by decide +kernel)) rfl ?_
  refine am_pv_cons (v_if_ne (off := 14) (by decide +kernel) rfl) rfl ?_
  refine am_pv_cons (v_aload_n (q := 0) (by decide +kernel) rfl) rfl ?_
  refine am_pv_cons (v_get fl_MO_181 (by decide +kernel)) rfl ?_
  refine am_pv_cons (v_if_eq (off := 7) (by decide +kernel) rfl) rfl ?_
  refine am_pv_cons (v_aload_n (q := 0) (by decide +kernel) rfl) rfl ?_
  refine am_pv_cons (v_virt (idx := 212) yv_MO_fail rfl rfl (tb6 163 (by decide +kernel) rfl) (by decide +kernel)) rfl ?_
  refine am_pv_cons (v_iload_n (q := 3) (by decide +kernel) rfl) rfl ?_
  refine am_pv_cons (v_if_ne (off := 8) (by decide +kernel) rfl) rfl ?_
  refine am_pv_cons (v_iload (by decide +kernel)) rfl ?_
  refine am_pv_cons (v_goto (off := 5) (by decide +kernel) rfl) rfl ?_
  refine am_pv_cons (v_iload (by decide +kernel)) rfl ?_
  refine am_pv_cons (v_ireturn (by decide +kernel)) trivial ?_
  exact trivial
def P_MO_costOf (E : am_E) (k : Nat) : am_P := [(0, aLa 0), (1, aLa 0), (2, aGet 12 4), (5, aLi 1), (6, aI 0), (7, aIv E k 12 3 Y_MO_read), (10, aSi 2), (11, aLi 2), (12, z_ge 19), (15, aI 0), (16, aGo 33), (19, aLi 2), (20, aI 9999), (23, c_le 32), (26, aI 9999), (29, aGo 33), (32, aLi 2), (33, aRi)]
set_option maxRecDepth 20000 in
theorem pv_MO_costOf (E : am_E) (k : Nat) : am_pv E k Y_MO_costOf.2.1 Y_MO_costOf.2.2.1 Y_MO_costOf.1.cls (P_MO_costOf E k) := by
  refine am_pv_cons (v_aload_n (q := 0) (by decide +kernel) rfl) rfl ?_
  refine am_pv_cons (v_aload_n (q := 0) (by decide +kernel) rfl) rfl ?_
  refine am_pv_cons (v_get fl_MO_151 (by decide +kernel)) rfl ?_
  refine am_pv_cons (v_iload_n (q := 1) (by decide +kernel) rfl) rfl ?_
  refine am_pv_cons (v_iconst (n := 0) (by decide +kernel) rfl) rfl ?_
  refine am_pv_cons (v_virt (idx := 154) yv_MO_read rfl rfl (tb6 135 (by decide +kernel) rfl) (by decide +kernel)) rfl ?_
  refine am_pv_cons (v_istore_n (q := 2) (by decide +kernel) rfl) rfl ?_
  refine am_pv_cons (v_iload_n (q := 2) (by decide +kernel) rfl) rfl ?_
  refine am_pv_cons (v_if_ge (off := 7) (by decide +kernel) rfl) rfl ?_
  refine am_pv_cons (v_iconst (n := 0) (by decide +kernel) rfl) rfl ?_
  refine am_pv_cons (v_goto (off := 17) (by decide +kernel) rfl) rfl ?_
  refine am_pv_cons (v_iload_n (q := 2) (by decide +kernel) rfl) rfl ?_
  refine am_pv_cons (v_sipush (n := 9999) (by decide +kernel) (by decide +kernel)) rfl ?_
  refine am_pv_cons (v_ic_le (off := 9) (by decide +kernel) rfl) rfl ?_
  refine am_pv_cons (v_sipush (n := 9999) (by decide +kernel) (by decide +kernel)) rfl ?_
  refine am_pv_cons (v_goto (off := 4) (by decide +kernel) rfl) rfl ?_
  refine am_pv_cons (v_iload_n (q := 2) (by decide +kernel) rfl) rfl ?_
  refine am_pv_cons (v_ireturn (by decide +kernel)) trivial ?_
  exact trivial
def P_MO_text (E : am_E) (k : Nat) : am_P := [(0, aLa 0), (1, aGet 12 3), (4, aI 6), (6, c_ne 12), (9, aI (-4)), (11, aRi), (12, aI 0), (13, aSi 1), (14, aLi 1), (15, aLa 0), (16, aGet 12 6), (19, c_ge 49), (22, aLa 0), (23, aGet 12 1), (26, aI 160), (29, aLa 0), (30, aGet 12 3), (33, a_imul), (34, aLi 1), (35, a_iadd), (36, aLa 0), (37, aGet 12 5), (40, aLi 1), (41, aAld 0), (42, aAst), (43, aInc 1 1), (46, aGo 14), (49, aLa 0), (50, aGet 12 2), (53, aLa 0), (54, aGet 12 3), (57, aLa 0), (58, aGet 12 6), (61, aAst), (62, aLa 0), (63, aI 0), (64, aPut 12 6), (67, aLa 0), (68, aLa 0), (69, aGet 12 3), (72, aI 0), (73, aI 0), (74, aIv E k 12 3 Y_MO_read), (77, aSi 1), (78, aLa 0), (79, aGet 12 24), (82, z_eq 93), (85, aI (-100)), (87, aLa 0), (88, aGet 12 25), (91, a_isub), (92, aRi), (93, aLa 0), (94, aDup), (95, aGet 12 3), (98, aI 1), (99, a_iadd), (100, aPut 12 3), (103, aLa 0), (104, aGet 12 3), (107, aI 1), (108, a_isub), (109, aRi)]
set_option maxRecDepth 20000 in
theorem pv_MO_text (E : am_E) (k : Nat) : am_pv E k Y_MO_text.2.1 Y_MO_text.2.2.1 Y_MO_text.1.cls (P_MO_text E k) := by
  refine am_pv_cons (v_aload_n (q := 0) (by decide +kernel) rfl) rfl ?_
  refine am_pv_cons (v_get fl_MO_111 (by decide +kernel)) rfl ?_
  refine am_pv_cons (v_bipush (n := 6) (by decide +kernel) (by decide +kernel)) rfl ?_
  refine am_pv_cons (v_ic_ne (off := 6) (by decide +kernel) rfl) rfl ?_
  refine am_pv_cons (v_bipush (n := -4) (by decide +kernel) (by decide +kernel)) rfl ?_
  refine am_pv_cons (v_ireturn (by decide +kernel)) rfl ?_
  refine am_pv_cons (v_iconst (n := 0) (by decide +kernel) rfl) rfl ?_
  refine am_pv_cons (v_istore_n (q := 1) (by decide +kernel) rfl) rfl ?_
  refine am_pv_cons (v_iload_n (q := 1) (by decide +kernel) rfl) rfl ?_
  refine am_pv_cons (v_aload_n (q := 0) (by decide +kernel) rfl) rfl ?_
  refine am_pv_cons (v_get fl_MO_163 (by decide +kernel)) rfl ?_
  refine am_pv_cons (v_ic_ge (off := 30) (by decide +kernel) rfl) rfl ?_
  refine am_pv_cons (v_aload_n (q := 0) (by decide +kernel) rfl) rfl ?_
  refine am_pv_cons (v_get fl_MO_13 (by decide +kernel)) rfl ?_
  refine am_pv_cons (v_sipush (n := 160) (by decide +kernel) (by decide +kernel)) rfl ?_
  refine am_pv_cons (v_aload_n (q := 0) (by decide +kernel) rfl) rfl ?_
  refine am_pv_cons (v_get fl_MO_111 (by decide +kernel)) rfl ?_
  refine am_pv_cons (v_imul (by decide +kernel)) rfl ?_
  refine am_pv_cons (v_iload_n (q := 1) (by decide +kernel) rfl) rfl ?_
  refine am_pv_cons (v_iadd (by decide +kernel)) rfl ?_
  refine am_pv_cons (v_aload_n (q := 0) (by decide +kernel) rfl) rfl ?_
  refine am_pv_cons (v_get fl_MO_20 (by decide +kernel)) rfl ?_
  refine am_pv_cons (v_iload_n (q := 1) (by decide +kernel) rfl) rfl ?_
  refine am_pv_cons (v_iald (by decide +kernel)) rfl ?_
  refine am_pv_cons (v_iast (by decide +kernel)) rfl ?_
  refine am_pv_cons (v_iinc (n := 1) (by decide +kernel) (by decide +kernel)) rfl ?_
  refine am_pv_cons (v_goto (off := -32) (by decide +kernel) rfl) rfl ?_
  refine am_pv_cons (v_aload_n (q := 0) (by decide +kernel) rfl) rfl ?_
  refine am_pv_cons (v_get fl_MO_17 (by decide +kernel)) rfl ?_
  refine am_pv_cons (v_aload_n (q := 0) (by decide +kernel) rfl) rfl ?_
  refine am_pv_cons (v_get fl_MO_111 (by decide +kernel)) rfl ?_
  refine am_pv_cons (v_aload_n (q := 0) (by decide +kernel) rfl) rfl ?_
  refine am_pv_cons (v_get fl_MO_163 (by decide +kernel)) rfl ?_
  refine am_pv_cons (v_iast (by decide +kernel)) rfl ?_
  refine am_pv_cons (v_aload_n (q := 0) (by decide +kernel) rfl) rfl ?_
  refine am_pv_cons (v_iconst (n := 0) (by decide +kernel) rfl) rfl ?_
  refine am_pv_cons (v_put fw_MO_163 (by decide +kernel)) rfl ?_
  refine am_pv_cons (v_aload_n (q := 0) (by decide +kernel) rfl) rfl ?_
  refine am_pv_cons (v_aload_n (q := 0) (by decide +kernel) rfl) rfl ?_
  refine am_pv_cons (v_get fl_MO_111 (by decide +kernel)) rfl ?_
  refine am_pv_cons (v_iconst (n := 0) (by decide +kernel) rfl) rfl ?_
  refine am_pv_cons (v_iconst (n := 0) (by decide +kernel) rfl) rfl ?_
  refine am_pv_cons (v_virt (idx := 154) yv_MO_read rfl rfl (tb6 135 (by decide +kernel) rfl) (by decide +kernel)) rfl ?_
  refine am_pv_cons (v_istore_n (q := 1) (by decide +kernel) rfl) rfl ?_
  refine am_pv_cons (v_aload_n (q := 0) (by decide +kernel) rfl) rfl ?_
  refine am_pv_cons (v_get fl_MO_202 (by decide +kernel)) rfl ?_
  refine am_pv_cons (v_if_eq (off := 11) (by decide +kernel) rfl) rfl ?_
  refine am_pv_cons (v_bipush (n := -100) (by decide +kernel) (by decide +kernel)) rfl ?_
  refine am_pv_cons (v_aload_n (q := 0) (by decide +kernel) rfl) rfl ?_
  refine am_pv_cons (v_get fl_MO_206 (by decide +kernel)) rfl ?_
  refine am_pv_cons (v_isub (by decide +kernel)) rfl ?_
  refine am_pv_cons (v_ireturn (by decide +kernel)) rfl ?_
  refine am_pv_cons (v_aload_n (q := 0) (by decide +kernel) rfl) rfl ?_
  refine am_pv_cons (v_dup (by decide +kernel)) rfl ?_
  refine am_pv_cons (v_get fl_MO_111 (by decide +kernel)) rfl ?_
  refine am_pv_cons (v_iconst (n := 1) (by decide +kernel) rfl) rfl ?_
  refine am_pv_cons (v_iadd (by decide +kernel)) rfl ?_
  refine am_pv_cons (v_put fw_MO_111 (by decide +kernel)) rfl ?_
  refine am_pv_cons (v_aload_n (q := 0) (by decide +kernel) rfl) rfl ?_
  refine am_pv_cons (v_get fl_MO_111 (by decide +kernel)) rfl ?_
  refine am_pv_cons (v_iconst (n := 1) (by decide +kernel) rfl) rfl ?_
  refine am_pv_cons (v_isub (by decide +kernel)) rfl ?_
  refine am_pv_cons (v_ireturn (by decide +kernel)) trivial ?_
  exact trivial
def P_MO_force (E : am_E) (k : Nat) : am_P := [(0, aLi 1), (1, aI2L), (2, aJ 0), (3, aLa 0), (4, aGet 12 3), (7, aI 1), (8, a_isub), (9, aI2L), (10, aIs E k 3 Y_MO_in), (13, z_ne 19), (16, aI (-2)), (18, aRi), (19, aLa 0), (20, aGet 12 4), (23, aSi 2), (24, aLa 0), (25, aLi 1), (26, aPut 12 4), (29, aLi 2), (30, aRi)]
set_option maxRecDepth 20000 in
theorem pv_MO_force (E : am_E) (k : Nat) : am_pv E k Y_MO_force.2.1 Y_MO_force.2.2.1 Y_MO_force.1.cls (P_MO_force E k) := by
  refine am_pv_cons (v_iload_n (q := 1) (by decide +kernel) rfl) rfl ?_
  refine am_pv_cons (v_i2l (by decide +kernel)) rfl ?_
  refine am_pv_cons (v_lconst (n := 0) (by decide +kernel) rfl) rfl ?_
  refine am_pv_cons (v_aload_n (q := 0) (by decide +kernel) rfl) rfl ?_
  refine am_pv_cons (v_get fl_MO_111 (by decide +kernel)) rfl ?_
  refine am_pv_cons (v_iconst (n := 1) (by decide +kernel) rfl) rfl ?_
  refine am_pv_cons (v_isub (by decide +kernel)) rfl ?_
  refine am_pv_cons (v_i2l (by decide +kernel)) rfl ?_
  refine am_pv_cons (v_stat (idx := 119) ys_MO_in (tb6 98 (by decide +kernel) rfl) (by decide +kernel)) rfl ?_
  refine am_pv_cons (v_if_ne (off := 6) (by decide +kernel) rfl) rfl ?_
  refine am_pv_cons (v_bipush (n := -2) (by decide +kernel) (by decide +kernel)) rfl ?_
  refine am_pv_cons (v_ireturn (by decide +kernel)) rfl ?_
  refine am_pv_cons (v_aload_n (q := 0) (by decide +kernel) rfl) rfl ?_
  refine am_pv_cons (v_get fl_MO_151 (by decide +kernel)) rfl ?_
  refine am_pv_cons (v_istore_n (q := 2) (by decide +kernel) rfl) rfl ?_
  refine am_pv_cons (v_aload_n (q := 0) (by decide +kernel) rfl) rfl ?_
  refine am_pv_cons (v_iload_n (q := 1) (by decide +kernel) rfl) rfl ?_
  refine am_pv_cons (v_put fw_MO_151 (by decide +kernel)) rfl ?_
  refine am_pv_cons (v_iload_n (q := 2) (by decide +kernel) rfl) rfl ?_
  refine am_pv_cons (v_ireturn (by decide +kernel)) trivial ?_
  exact trivial
def P_MO_byteHere (E : am_E) (k : Nat) : am_P := [(0, aLa 0), (1, aGet 12 27), (4, aLa 0), (5, aGet 12 6), (8, c_ge 23), (11, aLa 0), (12, aGet 12 5), (15, aLa 0), (16, aGet 12 27), (19, aAld 0), (20, aGo 24), (23, aI (-1)), (24, aRi)]
set_option maxRecDepth 20000 in
theorem pv_MO_byteHere (E : am_E) (k : Nat) : am_pv E k Y_MO_byteHere.2.1 Y_MO_byteHere.2.2.1 Y_MO_byteHere.1.cls (P_MO_byteHere E k) := by
  refine am_pv_cons (v_aload_n (q := 0) (by decide +kernel) rfl) rfl ?_
  refine am_pv_cons (v_get fl_MO_284 (by decide +kernel)) rfl ?_
  refine am_pv_cons (v_aload_n (q := 0) (by decide +kernel) rfl) rfl ?_
  refine am_pv_cons (v_get fl_MO_163 (by decide +kernel)) rfl ?_
  refine am_pv_cons (v_ic_ge (off := 15) (by decide +kernel) rfl) rfl ?_
  refine am_pv_cons (v_aload_n (q := 0) (by decide +kernel) rfl) rfl ?_
  refine am_pv_cons (v_get fl_MO_20 (by decide +kernel)) rfl ?_
  refine am_pv_cons (v_aload_n (q := 0) (by decide +kernel) rfl) rfl ?_
  refine am_pv_cons (v_get fl_MO_284 (by decide +kernel)) rfl ?_
  refine am_pv_cons (v_iald (by decide +kernel)) rfl ?_
  refine am_pv_cons (v_goto (off := 4) (by decide +kernel) rfl) rfl ?_
  refine am_pv_cons (v_iconst (n := -1) (by decide +kernel) rfl) rfl ?_
  refine am_pv_cons (v_ireturn (by decide +kernel)) trivial ?_
  exact trivial
def P_MO_personHere (E : am_E) (k : Nat) : am_P := [(0, aLa 0), (1, aIv E k 12 0 Y_MO_byteHere), (4, aI 97), (6, a_isub), (7, aSi 2), (8, aLa 0), (9, aGet 12 28), (12, z_ne 44), (15, aLa 0), (16, aIv E k 12 0 Y_MO_byteHere), (19, aI (-1)), (20, c_eq 44), (23, aLi 2), (24, aI2L), (25, aJ 0), (26, aLa 0), (27, aGet 12 9), (30, aI 1), (31, a_isub), (32, aI2L), (33, aIs E k 3 Y_MO_in), (36, z_eq 44), (39, aLi 2), (40, aLi 1), (41, c_ne 51), (44, aLa 0), (45, aI 1), (46, aPutz 12 28), (49, aI 0), (50, aRi), (51, aLa 0), (52, aDup), (53, aGet 12 27), (56, aI 1), (57, a_iadd), (58, aPut 12 27), (61, aLi 2), (62, aRi)]
set_option maxRecDepth 20000 in
theorem pv_MO_personHere (E : am_E) (k : Nat) : am_pv E k Y_MO_personHere.2.1 Y_MO_personHere.2.2.1 Y_MO_personHere.1.cls (P_MO_personHere E k) := by
  refine am_pv_cons (v_aload_n (q := 0) (by decide +kernel) rfl) rfl ?_
  refine am_pv_cons (v_virt (idx := 287) yv_MO_byteHere rfl rfl (tb7 12 (by decide +kernel) rfl) (by decide +kernel)) rfl ?_
  refine am_pv_cons (v_bipush (n := 97) (by decide +kernel) (by decide +kernel)) rfl ?_
  refine am_pv_cons (v_isub (by decide +kernel)) rfl ?_
  refine am_pv_cons (v_istore_n (q := 2) (by decide +kernel) rfl) rfl ?_
  refine am_pv_cons (v_aload_n (q := 0) (by decide +kernel) rfl) rfl ?_
  refine am_pv_cons (v_get fl_MO_290 (by decide +kernel)) rfl ?_
  refine am_pv_cons (v_if_ne (off := 32) (by decide +kernel) rfl) rfl ?_
  refine am_pv_cons (v_aload_n (q := 0) (by decide +kernel) rfl) rfl ?_
  refine am_pv_cons (v_virt (idx := 287) yv_MO_byteHere rfl rfl (tb7 12 (by decide +kernel) rfl) (by decide +kernel)) rfl ?_
  refine am_pv_cons (v_iconst (n := -1) (by decide +kernel) rfl) rfl ?_
  refine am_pv_cons (v_ic_eq (off := 24) (by decide +kernel) rfl) rfl ?_
  refine am_pv_cons (v_iload_n (q := 2) (by decide +kernel) rfl) rfl ?_
  refine am_pv_cons (v_i2l (by decide +kernel)) rfl ?_
  refine am_pv_cons (v_lconst (n := 0) (by decide +kernel) rfl) rfl ?_
  refine am_pv_cons (v_aload_n (q := 0) (by decide +kernel) rfl) rfl ?_
  refine am_pv_cons (v_get fl_MO_116 (by decide +kernel)) rfl ?_
  refine am_pv_cons (v_iconst (n := 1) (by decide +kernel) rfl) rfl ?_
  refine am_pv_cons (v_isub (by decide +kernel)) rfl ?_
  refine am_pv_cons (v_i2l (by decide +kernel)) rfl ?_
  refine am_pv_cons (v_stat (idx := 119) ys_MO_in (tb6 98 (by decide +kernel) rfl) (by decide +kernel)) rfl ?_
  refine am_pv_cons (v_if_eq (off := 8) (by decide +kernel) rfl) rfl ?_
  refine am_pv_cons (v_iload_n (q := 2) (by decide +kernel) rfl) rfl ?_
  refine am_pv_cons (v_iload_n (q := 1) (by decide +kernel) rfl) rfl ?_
  refine am_pv_cons (v_ic_ne (off := 10) (by decide +kernel) rfl) rfl ?_
  refine am_pv_cons (v_aload_n (q := 0) (by decide +kernel) rfl) rfl ?_
  refine am_pv_cons (v_iconst (n := 1) (by decide +kernel) rfl) rfl ?_
  refine am_pv_cons (v_putz fw_MO_290 (by decide +kernel)) rfl ?_
  refine am_pv_cons (v_iconst (n := 0) (by decide +kernel) rfl) rfl ?_
  refine am_pv_cons (v_ireturn (by decide +kernel)) rfl ?_
  refine am_pv_cons (v_aload_n (q := 0) (by decide +kernel) rfl) rfl ?_
  refine am_pv_cons (v_dup (by decide +kernel)) rfl ?_
  refine am_pv_cons (v_get fl_MO_284 (by decide +kernel)) rfl ?_
  refine am_pv_cons (v_iconst (n := 1) (by decide +kernel) rfl) rfl ?_
  refine am_pv_cons (v_iadd (by decide +kernel)) rfl ?_
  refine am_pv_cons (v_put fw_MO_284 (by decide +kernel)) rfl ?_
  refine am_pv_cons (v_iload_n (q := 2) (by decide +kernel) rfl) rfl ?_
  refine am_pv_cons (v_ireturn (by decide +kernel)) trivial ?_
  exact trivial
def P_MO_strengthHere (E : am_E) (k : Nat) : am_P := [(0, aLa 0), (1, aGet 12 28), (4, z_ne 24), (7, aLa 0), (8, aIv E k 12 0 Y_MO_byteHere), (11, aI2L), (12, aJ 48), (15, aJ 57), (18, aIs E k 3 Y_MO_in), (21, z_ne 31), (24, aLa 0), (25, aI 1), (26, aPutz 12 28), (29, aI 0), (30, aRi), (31, aLa 0), (32, aIv E k 12 0 Y_MO_byteHere), (35, aI 48), (37, a_isub), (38, aSi 1), (39, aLa 0), (40, aDup), (41, aGet 12 27), (44, aI 1), (45, a_iadd), (46, aPut 12 27), (49, aLa 0), (50, aIv E k 12 0 Y_MO_byteHere), (53, aI2L), (54, aJ 48), (57, aJ 57), (60, aIs E k 3 Y_MO_in), (63, z_eq 102), (66, aLi 1), (67, z_gt 79), (70, aLa 0), (71, aIv E k 12 0 Y_MO_byteHere), (74, aI 48), (76, c_le 102), (79, aI 10), (81, aLi 1), (82, a_imul), (83, aLa 0), (84, aIv E k 12 0 Y_MO_byteHere), (87, a_iadd), (88, aI 48), (90, a_isub), (91, aSi 1), (92, aLa 0), (93, aDup), (94, aGet 12 27), (97, aI 1), (98, a_iadd), (99, aPut 12 27), (102, aLi 1), (103, z_ne 111), (106, aLa 0), (107, aI 1), (108, aPutz 12 28), (111, aLi 1), (112, aRi)]
set_option maxRecDepth 20000 in
theorem pv_MO_strengthHere (E : am_E) (k : Nat) : am_pv E k Y_MO_strengthHere.2.1 Y_MO_strengthHere.2.2.1 Y_MO_strengthHere.1.cls (P_MO_strengthHere E k) := by
  refine am_pv_cons (v_aload_n (q := 0) (by decide +kernel) rfl) rfl ?_
  refine am_pv_cons (v_get fl_MO_290 (by decide +kernel)) rfl ?_
  refine am_pv_cons (v_if_ne (off := 20) (by decide +kernel) rfl) rfl ?_
  refine am_pv_cons (v_aload_n (q := 0) (by decide +kernel) rfl) rfl ?_
  refine am_pv_cons (v_virt (idx := 287) yv_MO_byteHere rfl rfl (tb7 12 (by decide +kernel) rfl) (by decide +kernel)) rfl ?_
  refine am_pv_cons (v_i2l (by decide +kernel)) rfl ?_
  refine am_pv_cons (v_ldc2 (i := 196) (tb6 151 (by decide +kernel) rfl) (by decide +kernel)) rfl ?_
  refine am_pv_cons (v_ldc2 (i := 198) (tb6 152 (by decide +kernel) rfl) (by decide +kernel)) rfl ?_
  refine am_pv_cons (v_stat (idx := 119) ys_MO_in (tb6 98 (by decide +kernel) rfl) (by decide +kernel)) rfl ?_
  refine am_pv_cons (v_if_ne (off := 10) (by decide +kernel) rfl) rfl ?_
  refine am_pv_cons (v_aload_n (q := 0) (by decide +kernel) rfl) rfl ?_
  refine am_pv_cons (v_iconst (n := 1) (by decide +kernel) rfl) rfl ?_
  refine am_pv_cons (v_putz fw_MO_290 (by decide +kernel)) rfl ?_
  refine am_pv_cons (v_iconst (n := 0) (by decide +kernel) rfl) rfl ?_
  refine am_pv_cons (v_ireturn (by decide +kernel)) rfl ?_
  refine am_pv_cons (v_aload_n (q := 0) (by decide +kernel) rfl) rfl ?_
  refine am_pv_cons (v_virt (idx := 287) yv_MO_byteHere rfl rfl (tb7 12 (by decide +kernel) rfl) (by decide +kernel)) rfl ?_
  refine am_pv_cons (v_bipush (n := 48) (by decide +kernel) (by decide +kernel)) rfl ?_
  refine am_pv_cons (v_isub (by decide +kernel)) rfl ?_
  refine am_pv_cons (v_istore_n (q := 1) (by decide +kernel) rfl) rfl ?_
  refine am_pv_cons (v_aload_n (q := 0) (by decide +kernel) rfl) rfl ?_
  refine am_pv_cons (v_dup (by decide +kernel)) rfl ?_
  refine am_pv_cons (v_get fl_MO_284 (by decide +kernel)) rfl ?_
  refine am_pv_cons (v_iconst (n := 1) (by decide +kernel) rfl) rfl ?_
  refine am_pv_cons (v_iadd (by decide +kernel)) rfl ?_
  refine am_pv_cons (v_put fw_MO_284 (by decide +kernel)) rfl ?_
  refine am_pv_cons (v_aload_n (q := 0) (by decide +kernel) rfl) rfl ?_
  refine am_pv_cons (v_virt (idx := 287) yv_MO_byteHere rfl rfl (tb7 12 (by decide +kernel) rfl) (by decide +kernel)) rfl ?_
  refine am_pv_cons (v_i2l (by decide +kernel)) rfl ?_
  refine am_pv_cons (v_ldc2 (i := 196) (tb6 151 (by decide +kernel) rfl) (by decide +kernel)) rfl ?_
  refine am_pv_cons (v_ldc2 (i := 198) (tb6 152 (by decide +kernel) rfl) (by decide +kernel)) rfl ?_
  refine am_pv_cons (v_stat (idx := 119) ys_MO_in (tb6 98 (by decide +kernel) rfl) (by decide +kernel)) rfl ?_
  refine am_pv_cons (v_if_eq (off := 39) (by decide +kernel) rfl) rfl ?_
  refine am_pv_cons (v_iload_n (q := 1) (by decide +kernel) rfl) rfl ?_
  refine am_pv_cons (v_if_gt (off := 12) (by decide +kernel) rfl) rfl ?_
  refine am_pv_cons (v_aload_n (q := 0) (by decide +kernel) rfl) rfl ?_
  refine am_pv_cons (v_virt (idx := 287) yv_MO_byteHere rfl rfl (tb7 12 (by decide +kernel) rfl) (by decide +kernel)) rfl ?_
  refine am_pv_cons (v_bipush (n := 48) (by decide +kernel) (by decide +kernel)) rfl ?_
  refine am_pv_cons (v_ic_le (off := 26) (by decide +kernel) rfl) rfl ?_
  refine am_pv_cons (v_bipush (n := 10) (by decide +kernel) (by decide +kernel)) rfl ?_
  refine am_pv_cons (v_iload_n (q := 1) (by decide +kernel) rfl) rfl ?_
  refine am_pv_cons (v_imul (by decide +kernel)) rfl ?_
  refine am_pv_cons (v_aload_n (q := 0) (by decide +kernel) rfl) rfl ?_
  refine am_pv_cons (v_virt (idx := 287) yv_MO_byteHere rfl rfl (tb7 12 (by decide +kernel) rfl) (by decide +kernel)) rfl ?_
  refine am_pv_cons (v_iadd (by decide +kernel)) rfl ?_
  refine am_pv_cons (v_bipush (n := 48) (by decide +kernel) (by decide +kernel)) rfl ?_
  refine am_pv_cons (v_isub (by decide +kernel)) rfl ?_
  refine am_pv_cons (v_istore_n (q := 1) (by decide +kernel) rfl) rfl ?_
  refine am_pv_cons (v_aload_n (q := 0) (by decide +kernel) rfl) rfl ?_
  refine am_pv_cons (v_dup (by decide +kernel)) rfl ?_
  refine am_pv_cons (v_get fl_MO_284 (by decide +kernel)) rfl ?_
  refine am_pv_cons (v_iconst (n := 1) (by decide +kernel) rfl) rfl ?_
  refine am_pv_cons (v_iadd (by decide +kernel)) rfl ?_
  refine am_pv_cons (v_put fw_MO_284 (by decide +kernel)) rfl ?_
  refine am_pv_cons (v_iload_n (q := 1) (by decide +kernel) rfl) rfl ?_
  refine am_pv_cons (v_if_ne (off := 8) (by decide +kernel) rfl) rfl ?_
  refine am_pv_cons (v_aload_n (q := 0) (by decide +kernel) rfl) rfl ?_
  refine am_pv_cons (v_iconst (n := 1) (by decide +kernel) rfl) rfl ?_
  refine am_pv_cons (v_putz fw_MO_290 (by decide +kernel)) rfl ?_
  refine am_pv_cons (v_iload_n (q := 1) (by decide +kernel) rfl) rfl ?_
  refine am_pv_cons (v_ireturn (by decide +kernel)) trivial ?_
  exact trivial
def P_MO_may (E : am_E) (k : Nat) : am_P := [(0, aLa 0), (1, aGet 12 28), (4, z_ne 15), (7, aLa 0), (8, aIv E k 12 0 Y_MO_byteHere), (11, aLi 1), (12, c_eq 17), (15, aI 0), (16, aRi), (17, aLa 0), (18, aDup), (19, aGet 12 27), (22, aI 1), (23, a_iadd), (24, aPut 12 27), (27, aI 1), (28, aRi)]
set_option maxRecDepth 20000 in
theorem pv_MO_may (E : am_E) (k : Nat) : am_pv E k Y_MO_may.2.1 Y_MO_may.2.2.1 Y_MO_may.1.cls (P_MO_may E k) := by
  refine am_pv_cons (v_aload_n (q := 0) (by decide +kernel) rfl) rfl ?_
  refine am_pv_cons (v_get fl_MO_290 (by decide +kernel)) rfl ?_
  refine am_pv_cons (v_if_ne (off := 11) (by decide +kernel) rfl) rfl ?_
  refine am_pv_cons (v_aload_n (q := 0) (by decide +kernel) rfl) rfl ?_
  refine am_pv_cons (v_virt (idx := 287) yv_MO_byteHere rfl rfl (tb7 12 (by decide +kernel) rfl) (by decide +kernel)) rfl ?_
  refine am_pv_cons (v_iload_n (q := 1) (by decide +kernel) rfl) rfl ?_
  refine am_pv_cons (v_ic_eq (off := 5) (by decide +kernel) rfl) rfl ?_
  refine am_pv_cons (v_iconst (n := 0) (by decide +kernel) rfl) rfl ?_
  refine am_pv_cons (v_ireturn (by decide +kernel)) rfl ?_
  refine am_pv_cons (v_aload_n (q := 0) (by decide +kernel) rfl) rfl ?_
  refine am_pv_cons (v_dup (by decide +kernel)) rfl ?_
  refine am_pv_cons (v_get fl_MO_284 (by decide +kernel)) rfl ?_
  refine am_pv_cons (v_iconst (n := 1) (by decide +kernel) rfl) rfl ?_
  refine am_pv_cons (v_iadd (by decide +kernel)) rfl ?_
  refine am_pv_cons (v_put fw_MO_284 (by decide +kernel)) rfl ?_
  refine am_pv_cons (v_iconst (n := 1) (by decide +kernel) rfl) rfl ?_
  refine am_pv_cons (v_ireturn (by decide +kernel)) trivial ?_
  exact trivial
def P_MO_goesThrough (E : am_E) (k : Nat) : am_P := [(0, aLa 0), (1, aI 0), (2, aPut 12 27), (5, aLa 0), (6, aI 0), (7, aPutz 12 28), (10, aI 0), (11, aSi 2), (12, aI 1), (13, aSi 3), (14, aLi 3), (15, z_eq 179), (18, aLa 0), (19, aI (-1)), (20, aIv E k 12 1 Y_MO_personHere), (23, aSi 4), (25, aLa 0), (26, aI 43), (28, aIv E k 12 1 Y_MO_may), (31, aSi 5), (33, aLi 5), (35, z_ne 52), (38, aLa 0), (39, aI 45), (41, aIv E k 12 1 Y_MO_may), (44, z_ne 52), (47, aLa 0), (48, aI 1), (49, aPutz 12 28), (52, aLa 0), (53, aLi 4), (55, aIv E k 12 1 Y_MO_personHere), (58, aSi 6), (60, aLa 0), (61, aIv E k 12 0 Y_MO_strengthHere), (64, aSi 7), (66, aLa 0), (67, aI 107), (69, aIv E k 12 1 Y_MO_may), (72, z_eq 79), (75, aI 1), (76, aGo 80), (79, aI 0), (80, aSi 8), (82, aLa 0), (83, aI 33), (85, aIv E k 12 1 Y_MO_may), (88, z_eq 95), (91, aI 1), (92, aGo 96), (95, aI 0), (96, aSi 9), (98, aLa 0), (99, aI 59), (101, aIv E k 12 1 Y_MO_may), (104, z_ne 112), (107, aLa 0), (108, aI 1), (109, aPutz 12 28), (112, aLa 0), (113, aGet 12 28), (116, z_ne 149), (119, aLi 1), (120, z_eq 149), (123, aLa 0), (124, aLi 4), (126, aLi 6), (128, aLi 5), (130, z_eq 137), (133, aI 1), (134, aGo 138), (137, aI (-1)), (138, aLi 7), (140, aLi 8), (142, aLi 9), (144, aIv E k 12 6 Y_MO_tells), (147, aSi 10), (149, aInc 2 1), (152, aLa 0), (153, aGet 12 28), (156, z_ne 174), (159, aLa 0), (160, aGet 12 27), (163, aLa 0), (164, aGet 12 6), (167, c_ge 174), (170, aI 1), (171, aGo 175), (174, aI 0), (175, aSi 3), (176, aGo 14), (179, aLi 2), (180, aRi)]
set_option maxRecDepth 20000 in
theorem pv_MO_goesThrough (E : am_E) (k : Nat) : am_pv E k Y_MO_goesThrough.2.1 Y_MO_goesThrough.2.2.1 Y_MO_goesThrough.1.cls (P_MO_goesThrough E k) := by
  refine am_pv_cons (v_aload_n (q := 0) (by decide +kernel) rfl) rfl ?_
  refine am_pv_cons (v_iconst (n := 0) (by decide +kernel) rfl) rfl ?_
  refine am_pv_cons (v_put fw_MO_284 (by decide +kernel)) rfl ?_
  refine am_pv_cons (v_aload_n (q := 0) (by decide +kernel) rfl) rfl ?_
  refine am_pv_cons (v_iconst (n := 0) (by decide +kernel) rfl) rfl ?_
  refine am_pv_cons (v_putz fw_MO_290 (by decide +kernel)) rfl ?_
  refine am_pv_cons (v_iconst (n := 0) (by decide +kernel) rfl) rfl ?_
  refine am_pv_cons (v_istore_n (q := 2) (by decide +kernel) rfl) rfl ?_
  refine am_pv_cons (v_iconst (n := 1) (by decide +kernel) rfl) rfl ?_
  refine am_pv_cons (v_istore_n (q := 3) (by decide +kernel) rfl) rfl ?_
  refine am_pv_cons (v_iload_n (q := 3) (by decide +kernel) rfl) rfl ?_
  refine am_pv_cons (v_if_eq (off := 164) (by decide +kernel) rfl) rfl ?_
  refine am_pv_cons (v_aload_n (q := 0) (by decide +kernel) rfl) rfl ?_
  refine am_pv_cons (v_iconst (n := -1) (by decide +kernel) rfl) rfl ?_
  refine am_pv_cons (v_virt (idx := 293) yv_MO_personHere rfl rfl (tb7 8 (by decide +kernel) rfl) (by decide +kernel)) rfl ?_
  refine am_pv_cons (v_istore (by decide +kernel)) rfl ?_
  refine am_pv_cons (v_aload_n (q := 0) (by decide +kernel) rfl) rfl ?_
  refine am_pv_cons (v_bipush (n := 43) (by decide +kernel) (by decide +kernel)) rfl ?_
  refine am_pv_cons (v_virt (idx := 296) yv_MO_may rfl rfl (tb7 16 (by decide +kernel) rfl) (by decide +kernel)) rfl ?_
  refine am_pv_cons (v_istore (by decide +kernel)) rfl ?_
  refine am_pv_cons (v_iload (by decide +kernel)) rfl ?_
  refine am_pv_cons (v_if_ne (off := 17) (by decide +kernel) rfl) rfl ?_
  refine am_pv_cons (v_aload_n (q := 0) (by decide +kernel) rfl) rfl ?_
  refine am_pv_cons (v_bipush (n := 45) (by decide +kernel) (by decide +kernel)) rfl ?_
  refine am_pv_cons (v_virt (idx := 296) yv_MO_may rfl rfl (tb7 16 (by decide +kernel) rfl) (by decide +kernel)) rfl ?_
  refine am_pv_cons (v_if_ne (off := 8) (by decide +kernel) rfl) rfl ?_
  refine am_pv_cons (v_aload_n (q := 0) (by decide +kernel) rfl) rfl ?_
  refine am_pv_cons (v_iconst (n := 1) (by decide +kernel) rfl) rfl ?_
  refine am_pv_cons (v_putz fw_MO_290 (by decide +kernel)) rfl ?_
  refine am_pv_cons (v_aload_n (q := 0) (by decide +kernel) rfl) rfl ?_
  refine am_pv_cons (v_iload (by decide +kernel)) rfl ?_
  refine am_pv_cons (v_virt (idx := 293) yv_MO_personHere rfl rfl (tb7 8 (by decide +kernel) rfl) (by decide +kernel)) rfl ?_
  refine am_pv_cons (v_istore (by decide +kernel)) rfl ?_
  refine am_pv_cons (v_aload_n (q := 0) (by decide +kernel) rfl) rfl ?_
  refine am_pv_cons (v_virt (idx := 299) yv_MO_strengthHere rfl rfl (tb7 20 (by decide +kernel) rfl) (by decide +kernel)) rfl ?_
  refine am_pv_cons (v_istore (by decide +kernel)) rfl ?_
  refine am_pv_cons (v_aload_n (q := 0) (by decide +kernel) rfl) rfl ?_
  refine am_pv_cons (v_bipush (n := 107) (by decide +kernel) (by decide +kernel)) rfl ?_
  refine am_pv_cons (v_virt (idx := 296) yv_MO_may rfl rfl (tb7 16 (by decide +kernel) rfl) (by decide +kernel)) rfl ?_
  refine am_pv_cons (v_if_eq (off := 7) (by decide +kernel) rfl) rfl ?_
  refine am_pv_cons (v_iconst (n := 1) (by decide +kernel) rfl) rfl ?_
  refine am_pv_cons (v_goto (off := 4) (by decide +kernel) rfl) rfl ?_
  refine am_pv_cons (v_iconst (n := 0) (by decide +kernel) rfl) rfl ?_
  refine am_pv_cons (v_istore (by decide +kernel)) rfl ?_
  refine am_pv_cons (v_aload_n (q := 0) (by decide +kernel) rfl) rfl ?_
  refine am_pv_cons (v_bipush (n := 33) (by decide +kernel) (by decide +kernel)) rfl ?_
  refine am_pv_cons (v_virt (idx := 296) yv_MO_may rfl rfl (tb7 16 (by decide +kernel) rfl) (by decide +kernel)) rfl ?_
  refine am_pv_cons (v_if_eq (off := 7) (by decide +kernel) rfl) rfl ?_
  refine am_pv_cons (v_iconst (n := 1) (by decide +kernel) rfl) rfl ?_
  refine am_pv_cons (v_goto (off := 4) (by decide +kernel) rfl) rfl ?_
  refine am_pv_cons (v_iconst (n := 0) (by decide +kernel) rfl) rfl ?_
  refine am_pv_cons (v_istore (by decide +kernel)) rfl ?_
  refine am_pv_cons (v_aload_n (q := 0) (by decide +kernel) rfl) rfl ?_
  refine am_pv_cons (v_bipush (n := 59) (by decide +kernel) (by decide +kernel)) rfl ?_
  refine am_pv_cons (v_virt (idx := 296) yv_MO_may rfl rfl (tb7 16 (by decide +kernel) rfl) (by decide +kernel)) rfl ?_
  refine am_pv_cons (v_if_ne (off := 8) (by decide +kernel) rfl) rfl ?_
  refine am_pv_cons (v_aload_n (q := 0) (by decide +kernel) rfl) rfl ?_
  refine am_pv_cons (v_iconst (n := 1) (by decide +kernel) rfl) rfl ?_
  refine am_pv_cons (v_putz fw_MO_290 (by decide +kernel)) rfl ?_
  refine am_pv_cons (v_aload_n (q := 0) (by decide +kernel) rfl) rfl ?_
  refine am_pv_cons (v_get fl_MO_290 (by decide +kernel)) rfl ?_
  refine am_pv_cons (v_if_ne (off := 33) (by decide +kernel) rfl) rfl ?_
  refine am_pv_cons (v_iload_n (q := 1) (by decide +kernel) rfl) rfl ?_
  refine am_pv_cons (v_if_eq (off := 29) (by decide +kernel) rfl) rfl ?_
  refine am_pv_cons (v_aload_n (q := 0) (by decide +kernel) rfl) rfl ?_
  refine am_pv_cons (v_iload (by decide +kernel)) rfl ?_
  refine am_pv_cons (v_iload (by decide +kernel)) rfl ?_
  refine am_pv_cons (v_iload (by decide +kernel)) rfl ?_
  refine am_pv_cons (v_if_eq (off := 7) (by decide +kernel) rfl) rfl ?_
  refine am_pv_cons (v_iconst (n := 1) (by decide +kernel) rfl) rfl ?_
  refine am_pv_cons (v_goto (off := 4) (by decide +kernel) rfl) rfl ?_
  refine am_pv_cons (v_iconst (n := -1) (by decide +kernel) rfl) rfl ?_
  refine am_pv_cons (v_iload (by decide +kernel)) rfl ?_
  refine am_pv_cons (v_iload (by decide +kernel)) rfl ?_
  refine am_pv_cons (v_iload (by decide +kernel)) rfl ?_
  refine am_pv_cons (v_virt (idx := 140) yv_MO_tells rfl rfl (tb6 115 (by decide +kernel) rfl) (by decide +kernel)) rfl ?_
  refine am_pv_cons (v_istore (by decide +kernel)) rfl ?_
  refine am_pv_cons (v_iinc (n := 1) (by decide +kernel) (by decide +kernel)) rfl ?_
  refine am_pv_cons (v_aload_n (q := 0) (by decide +kernel) rfl) rfl ?_
  refine am_pv_cons (v_get fl_MO_290 (by decide +kernel)) rfl ?_
  refine am_pv_cons (v_if_ne (off := 18) (by decide +kernel) rfl) rfl ?_
  refine am_pv_cons (v_aload_n (q := 0) (by decide +kernel) rfl) rfl ?_
  refine am_pv_cons (v_get fl_MO_284 (by decide +kernel)) rfl ?_
  refine am_pv_cons (v_aload_n (q := 0) (by decide +kernel) rfl) rfl ?_
  refine am_pv_cons (v_get fl_MO_163 (by decide +kernel)) rfl ?_
  refine am_pv_cons (v_ic_ge (off := 7) (by decide +kernel) rfl) rfl ?_
  refine am_pv_cons (v_iconst (n := 1) (by decide +kernel) rfl) rfl ?_
  refine am_pv_cons (v_goto (off := 4) (by decide +kernel) rfl) rfl ?_
  refine am_pv_cons (v_iconst (n := 0) (by decide +kernel) rfl) rfl ?_
  refine am_pv_cons (v_istore_n (q := 3) (by decide +kernel) rfl) rfl ?_
  refine am_pv_cons (v_goto (off := -162) (by decide +kernel) rfl) rfl ?_
  refine am_pv_cons (v_iload_n (q := 2) (by decide +kernel) rfl) rfl ?_
  refine am_pv_cons (v_ireturn (by decide +kernel)) trivial ?_
  exact trivial
def P_MO_street (E : am_E) (k : Nat) : am_P := [(0, aLa 0), (1, aI 0), (2, aIv E k 12 1 Y_MO_goesThrough), (5, aSi 1), (6, aLa 0), (7, aGet 12 28), (10, z_ne 19), (13, aLa 0), (14, aI 1), (15, aIv E k 12 1 Y_MO_goesThrough), (18, aSi 1), (19, aLa 0), (20, aI 0), (21, aPut 12 6), (24, aLa 0), (25, aGet 12 28), (28, z_eq 41), (31, aI (-100)), (33, aLa 0), (34, aGet 12 27), (37, a_isub), (38, aGo 42), (41, aLi 1), (42, aRi)]
set_option maxRecDepth 20000 in
theorem pv_MO_street (E : am_E) (k : Nat) : am_pv E k Y_MO_street.2.1 Y_MO_street.2.2.1 Y_MO_street.1.cls (P_MO_street E k) := by
  refine am_pv_cons (v_aload_n (q := 0) (by decide +kernel) rfl) rfl ?_
  refine am_pv_cons (v_iconst (n := 0) (by decide +kernel) rfl) rfl ?_
  refine am_pv_cons (v_virt (idx := 302) yv_MO_goesThrough rfl rfl (tb7 4 (by decide +kernel) rfl) (by decide +kernel)) rfl ?_
  refine am_pv_cons (v_istore_n (q := 1) (by decide +kernel) rfl) rfl ?_
  refine am_pv_cons (v_aload_n (q := 0) (by decide +kernel) rfl) rfl ?_
  refine am_pv_cons (v_get fl_MO_290 (by decide +kernel)) rfl ?_
  refine am_pv_cons (v_if_ne (off := 9) (by decide +kernel) rfl) rfl ?_
  refine am_pv_cons (v_aload_n (q := 0) (by decide +kernel) rfl) rfl ?_
  refine am_pv_cons (v_iconst (n := 1) (by decide +kernel) rfl) rfl ?_
  refine am_pv_cons (v_virt (idx := 302) yv_MO_goesThrough rfl rfl (tb7 4 (by decide +kernel) rfl) (by decide +kernel)) rfl ?_
  refine am_pv_cons (v_istore_n (q := 1) (by decide +kernel) rfl) rfl ?_
  refine am_pv_cons (v_aload_n (q := 0) (by decide +kernel) rfl) rfl ?_
  refine am_pv_cons (v_iconst (n := 0) (by decide +kernel) rfl) rfl ?_
  refine am_pv_cons (v_put fw_MO_163 (by decide +kernel)) rfl ?_
  refine am_pv_cons (v_aload_n (q := 0) (by decide +kernel) rfl) rfl ?_
  refine am_pv_cons (v_get fl_MO_290 (by decide +kernel)) rfl ?_
  refine am_pv_cons (v_if_eq (off := 13) (by decide +kernel) rfl) rfl ?_
  refine am_pv_cons (v_bipush (n := -100) (by decide +kernel) (by decide +kernel)) rfl ?_
  refine am_pv_cons (v_aload_n (q := 0) (by decide +kernel) rfl) rfl ?_
  refine am_pv_cons (v_get fl_MO_284 (by decide +kernel)) rfl ?_
  refine am_pv_cons (v_isub (by decide +kernel)) rfl ?_
  refine am_pv_cons (v_goto (off := 4) (by decide +kernel) rfl) rfl ?_
  refine am_pv_cons (v_iload_n (q := 1) (by decide +kernel) rfl) rfl ?_
  refine am_pv_cons (v_ireturn (by decide +kernel)) trivial ?_
  exact trivial
def P_MO_isCamping (E : am_E) (k : Nat) : am_P := [(0, aLi 1), (1, aI2L), (2, aJ 0), (3, aLa 0), (4, aGet 12 32), (7, aI 1), (8, a_isub), (9, aI2L), (10, aIs E k 3 Y_MO_in), (13, aRi)]
set_option maxRecDepth 20000 in
theorem pv_MO_isCamping (E : am_E) (k : Nat) : am_pv E k Y_MO_isCamping.2.1 Y_MO_isCamping.2.2.1 Y_MO_isCamping.1.cls (P_MO_isCamping E k) := by
  refine am_pv_cons (v_iload_n (q := 1) (by decide +kernel) rfl) rfl ?_
  refine am_pv_cons (v_i2l (by decide +kernel)) rfl ?_
  refine am_pv_cons (v_lconst (n := 0) (by decide +kernel) rfl) rfl ?_
  refine am_pv_cons (v_aload_n (q := 0) (by decide +kernel) rfl) rfl ?_
  refine am_pv_cons (v_get fl_MO_306 (by decide +kernel)) rfl ?_
  refine am_pv_cons (v_iconst (n := 1) (by decide +kernel) rfl) rfl ?_
  refine am_pv_cons (v_isub (by decide +kernel)) rfl ?_
  refine am_pv_cons (v_i2l (by decide +kernel)) rfl ?_
  refine am_pv_cons (v_stat (idx := 119) ys_MO_in (tb6 98 (by decide +kernel) rfl) (by decide +kernel)) rfl ?_
  refine am_pv_cons (v_ireturn (by decide +kernel)) trivial ?_
  exact trivial
def P_MO_in9 (E : am_E) (k : Nat) : am_P := [(0, aLi 2), (1, aLa 0), (2, aGet 12 30), (5, aLi 1), (6, aAld 0), (7, c_ge 24), (10, aLa 0), (11, aGet 12 31), (14, aI 9), (16, aLi 1), (17, a_imul), (18, aLi 2), (19, a_iadd), (20, aAld 0), (21, aGo 25), (24, aI 0), (25, aRi)]
set_option maxRecDepth 20000 in
theorem pv_MO_in9 (E : am_E) (k : Nat) : am_pv E k Y_MO_in9.2.1 Y_MO_in9.2.2.1 Y_MO_in9.1.cls (P_MO_in9 E k) := by
  refine am_pv_cons (v_iload_n (q := 2) (by decide +kernel) rfl) rfl ?_
  refine am_pv_cons (v_aload_n (q := 0) (by decide +kernel) rfl) rfl ?_
  refine am_pv_cons (v_get fl_MO_50 (by decide +kernel)) rfl ?_
  refine am_pv_cons (v_iload_n (q := 1) (by decide +kernel) rfl) rfl ?_
  refine am_pv_cons (v_iald (by decide +kernel)) rfl ?_
  refine am_pv_cons (v_ic_ge (off := 17) (by decide +kernel) rfl) rfl ?_
  refine am_pv_cons (v_aload_n (q := 0) (by decide +kernel) rfl) rfl ?_
  refine am_pv_cons (v_get fl_MO_53 (by decide +kernel)) rfl ?_
  refine am_pv_cons (v_bipush (n := 9) (by decide +kernel) (by decide +kernel)) rfl ?_
  refine am_pv_cons (v_iload_n (q := 1) (by decide +kernel) rfl) rfl ?_
  refine am_pv_cons (v_imul (by decide +kernel)) rfl ?_
  refine am_pv_cons (v_iload_n (q := 2) (by decide +kernel) rfl) rfl ?_
  refine am_pv_cons (v_iadd (by decide +kernel)) rfl ?_
  refine am_pv_cons (v_iald (by decide +kernel)) rfl ?_
  refine am_pv_cons (v_goto (off := 4) (by decide +kernel) rfl) rfl ?_
  refine am_pv_cons (v_iconst (n := 0) (by decide +kernel) rfl) rfl ?_
  refine am_pv_cons (v_ireturn (by decide +kernel)) trivial ?_
  exact trivial
def P_MO_camping (E : am_E) (k : Nat) : am_P := [(0, aLi 1), (1, aI2L), (2, aJ 0), (3, aJ 5), (6, aIs E k 3 Y_MO_in), (9, z_eq 19), (12, aLi 2), (13, aIs E k 1 Y_MO_isSheet), (16, z_ne 22), (19, aI (-2)), (21, aRi), (22, aLa 0), (23, aGet 12 49), (26, aLi 2), (27, aAld 1), (28, z_ne 34), (31, aI (-11)), (33, aRi), (34, aLa 0), (35, aGet 12 51), (38, aLi 2), (39, aAld 0), (40, aLa 0), (41, aGet 12 9), (44, c_eq 50), (47, aI (-2)), (49, aRi), (50, aI 0), (51, aSi 3), (52, aLi 3), (53, aLa 0), (54, aGet 12 9), (57, c_ge 102), (60, aLa 0), (61, aGet 12 52), (64, aI 40), (66, aLi 2), (67, a_imul), (68, aLi 3), (69, a_iadd), (70, aAld 0), (71, aSi 4), (73, aLi 4), (75, aI2L), (76, aJ 0), (77, aJ 3), (80, aIs E k 3 Y_MO_in), (83, z_ne 96), (86, aLi 4), (88, aI 9), (90, c_eq 96), (93, aI (-2)), (95, aRi), (96, aInc 3 1), (99, aGo 52), (102, aLa 0), (103, aGet 12 32), (106, aI 10), (108, c_ne 114), (111, aI (-4)), (113, aRi), (114, aLa 0), (115, aGet 12 29), (118, aLa 0), (119, aGet 12 32), (122, aLi 1), (123, aAst), (124, aLa 0), (125, aGet 12 30), (128, aLa 0), (129, aGet 12 32), (132, aLa 0), (133, aGet 12 9), (136, aAst), (137, aI 0), (138, aSi 3), (139, aLi 3), (140, aLa 0), (141, aGet 12 9), (144, c_ge 178), (147, aLa 0), (148, aGet 12 31), (151, aI 9), (153, aLa 0), (154, aGet 12 32), (157, a_imul), (158, aLi 3), (159, a_iadd), (160, aLa 0), (161, aGet 12 52), (164, aI 40), (166, aLi 2), (167, a_imul), (168, aLi 3), (169, a_iadd), (170, aAld 0), (171, aAst), (172, aInc 3 1), (175, aGo 139), (178, aLa 0), (179, aDup), (180, aGet 12 32), (183, aI 1), (184, a_iadd), (185, aPut 12 32), (188, aLa 0), (189, aGet 12 32), (192, aI 1), (193, a_isub), (194, aRi)]
set_option maxRecDepth 20000 in
theorem pv_MO_camping (E : am_E) (k : Nat) : am_pv E k Y_MO_camping.2.1 Y_MO_camping.2.2.1 Y_MO_camping.1.cls (P_MO_camping E k) := by
  refine am_pv_cons (v_iload_n (q := 1) (by decide +kernel) rfl) rfl ?_
  refine am_pv_cons (v_i2l (by decide +kernel)) rfl ?_
  refine am_pv_cons (v_lconst (n := 0) (by decide +kernel) rfl) rfl ?_
  refine am_pv_cons (v_ldc2 (i := 309) (tb7 28 (by decide +kernel) rfl) (by decide +kernel)) rfl ?_
  refine am_pv_cons (v_stat (idx := 119) ys_MO_in (tb6 98 (by decide +kernel) rfl) (by decide +kernel)) rfl ?_
  refine am_pv_cons (v_if_eq (off := 10) (by decide +kernel) rfl) rfl ?_
  refine am_pv_cons (v_iload_n (q := 2) (by decide +kernel) rfl) rfl ?_
  refine am_pv_cons (v_stat (idx := 311) ys_MO_isSheet (tb7 29 (by decide +kernel) rfl) (by decide +kernel)) rfl ?_
  refine am_pv_cons (v_if_ne (off := 6) (by decide +kernel) rfl) rfl ?_
  refine am_pv_cons (v_bipush (n := -2) (by decide +kernel) (by decide +kernel)) rfl ?_
  refine am_pv_cons (v_ireturn (by decide +kernel)) rfl ?_
  refine am_pv_cons (v_aload_n (q := 0) (by decide +kernel) rfl) rfl ?_
  refine am_pv_cons (v_get fl_MO_87 (by decide +kernel)) rfl ?_
  refine am_pv_cons (v_iload_n (q := 2) (by decide +kernel) rfl) rfl ?_
  refine am_pv_cons (v_zald (by decide +kernel)) rfl ?_
  refine am_pv_cons (v_if_ne (off := 6) (by decide +kernel) rfl) rfl ?_
  refine am_pv_cons (v_bipush (n := -11) (by decide +kernel) (by decide +kernel)) rfl ?_
  refine am_pv_cons (v_ireturn (by decide +kernel)) rfl ?_
  refine am_pv_cons (v_aload_n (q := 0) (by decide +kernel) rfl) rfl ?_
  refine am_pv_cons (v_get fl_MO_93 (by decide +kernel)) rfl ?_
  refine am_pv_cons (v_iload_n (q := 2) (by decide +kernel) rfl) rfl ?_
  refine am_pv_cons (v_iald (by decide +kernel)) rfl ?_
  refine am_pv_cons (v_aload_n (q := 0) (by decide +kernel) rfl) rfl ?_
  refine am_pv_cons (v_get fl_MO_116 (by decide +kernel)) rfl ?_
  refine am_pv_cons (v_ic_eq (off := 6) (by decide +kernel) rfl) rfl ?_
  refine am_pv_cons (v_bipush (n := -2) (by decide +kernel) (by decide +kernel)) rfl ?_
  refine am_pv_cons (v_ireturn (by decide +kernel)) rfl ?_
  refine am_pv_cons (v_iconst (n := 0) (by decide +kernel) rfl) rfl ?_
  refine am_pv_cons (v_istore_n (q := 3) (by decide +kernel) rfl) rfl ?_
  refine am_pv_cons (v_iload_n (q := 3) (by decide +kernel) rfl) rfl ?_
  refine am_pv_cons (v_aload_n (q := 0) (by decide +kernel) rfl) rfl ?_
  refine am_pv_cons (v_get fl_MO_116 (by decide +kernel)) rfl ?_
  refine am_pv_cons (v_ic_ge (off := 45) (by decide +kernel) rfl) rfl ?_
  refine am_pv_cons (v_aload_n (q := 0) (by decide +kernel) rfl) rfl ?_
  refine am_pv_cons (v_get fl_MO_96 (by decide +kernel)) rfl ?_
  refine am_pv_cons (v_bipush (n := 40) (by decide +kernel) (by decide +kernel)) rfl ?_
  refine am_pv_cons (v_iload_n (q := 2) (by decide +kernel) rfl) rfl ?_
  refine am_pv_cons (v_imul (by decide +kernel)) rfl ?_
  refine am_pv_cons (v_iload_n (q := 3) (by decide +kernel) rfl) rfl ?_
  refine am_pv_cons (v_iadd (by decide +kernel)) rfl ?_
  refine am_pv_cons (v_iald (by decide +kernel)) rfl ?_
  refine am_pv_cons (v_istore (by decide +kernel)) rfl ?_
  refine am_pv_cons (v_iload (by decide +kernel)) rfl ?_
  refine am_pv_cons (v_i2l (by decide +kernel)) rfl ?_
  refine am_pv_cons (v_lconst (n := 0) (by decide +kernel) rfl) rfl ?_
  refine am_pv_cons (v_ldc2 (i := 138) (tb6 114 (by decide +kernel) rfl) (by decide +kernel)) rfl ?_
  refine am_pv_cons (v_stat (idx := 119) ys_MO_in (tb6 98 (by decide +kernel) rfl) (by decide +kernel)) rfl ?_
  refine am_pv_cons (v_if_ne (off := 13) (by decide +kernel) rfl) rfl ?_
  refine am_pv_cons (v_iload (by decide +kernel)) rfl ?_
  refine am_pv_cons (v_bipush (n := 9) (by decide +kernel) (by decide +kernel)) rfl ?_
  refine am_pv_cons (v_ic_eq (off := 6) (by decide +kernel) rfl) rfl ?_
  refine am_pv_cons (v_bipush (n := -2) (by decide +kernel) (by decide +kernel)) rfl ?_
  refine am_pv_cons (v_ireturn (by decide +kernel)) rfl ?_
  refine am_pv_cons (v_iinc (n := 1) (by decide +kernel) (by decide +kernel)) rfl ?_
  refine am_pv_cons (v_goto (off := -47) (by decide +kernel) rfl) rfl ?_
  refine am_pv_cons (v_aload_n (q := 0) (by decide +kernel) rfl) rfl ?_
  refine am_pv_cons (v_get fl_MO_306 (by decide +kernel)) rfl ?_
  refine am_pv_cons (v_bipush (n := 10) (by decide +kernel) (by decide +kernel)) rfl ?_
  refine am_pv_cons (v_ic_ne (off := 6) (by decide +kernel) rfl) rfl ?_
  refine am_pv_cons (v_bipush (n := -4) (by decide +kernel) (by decide +kernel)) rfl ?_
  refine am_pv_cons (v_ireturn (by decide +kernel)) rfl ?_
  refine am_pv_cons (v_aload_n (q := 0) (by decide +kernel) rfl) rfl ?_
  refine am_pv_cons (v_get fl_MO_47 (by decide +kernel)) rfl ?_
  refine am_pv_cons (v_aload_n (q := 0) (by decide +kernel) rfl) rfl ?_
  refine am_pv_cons (v_get fl_MO_306 (by decide +kernel)) rfl ?_
  refine am_pv_cons (v_iload_n (q := 1) (by decide +kernel) rfl) rfl ?_
  refine am_pv_cons (v_iast (by decide +kernel)) rfl ?_
  refine am_pv_cons (v_aload_n (q := 0) (by decide +kernel) rfl) rfl ?_
  refine am_pv_cons (v_get fl_MO_50 (by decide +kernel)) rfl ?_
  refine am_pv_cons (v_aload_n (q := 0) (by decide +kernel) rfl) rfl ?_
  refine am_pv_cons (v_get fl_MO_306 (by decide +kernel)) rfl ?_
  refine am_pv_cons (v_aload_n (q := 0) (by decide +kernel) rfl) rfl ?_
  refine am_pv_cons (v_get fl_MO_116 (by decide +kernel)) rfl ?_
  refine am_pv_cons (v_iast (by decide +kernel)) rfl ?_
  refine am_pv_cons (v_iconst (n := 0) (by decide +kernel) rfl) rfl ?_
  refine am_pv_cons (v_istore_n (q := 3) (by decide +kernel) rfl) rfl ?_
  refine am_pv_cons (v_iload_n (q := 3) (by decide +kernel) rfl) rfl ?_
  refine am_pv_cons (v_aload_n (q := 0) (by decide +kernel) rfl) rfl ?_
  refine am_pv_cons (v_get fl_MO_116 (by decide +kernel)) rfl ?_
  refine am_pv_cons (v_ic_ge (off := 34) (by decide +kernel) rfl) rfl ?_
  refine am_pv_cons (v_aload_n (q := 0) (by decide +kernel) rfl) rfl ?_
  refine am_pv_cons (v_get fl_MO_53 (by decide +kernel)) rfl ?_
  refine am_pv_cons (v_bipush (n := 9) (by decide +kernel) (by decide +kernel)) rfl ?_
  refine am_pv_cons (v_aload_n (q := 0) (by decide +kernel) rfl) rfl ?_
  refine am_pv_cons (v_get fl_MO_306 (by decide +kernel)) rfl ?_
  refine am_pv_cons (v_imul (by decide +kernel)) rfl ?_
  refine am_pv_cons (v_iload_n (q := 3) (by decide +kernel) rfl) rfl ?_
  refine am_pv_cons (v_iadd (by decide +kernel)) rfl ?_
  refine am_pv_cons (v_aload_n (q := 0) (by decide +kernel) rfl) rfl ?_
  refine am_pv_cons (v_get fl_MO_96 (by decide +kernel)) rfl ?_
  refine am_pv_cons (v_bipush (n := 40) (by decide +kernel) (by decide +kernel)) rfl ?_
  refine am_pv_cons (v_iload_n (q := 2) (by decide +kernel) rfl) rfl ?_
  refine am_pv_cons (v_imul (by decide +kernel)) rfl ?_
  refine am_pv_cons (v_iload_n (q := 3) (by decide +kernel) rfl) rfl ?_
  refine am_pv_cons (v_iadd (by decide +kernel)) rfl ?_
  refine am_pv_cons (v_iald (by decide +kernel)) rfl ?_
  refine am_pv_cons (v_iast (by decide +kernel)) rfl ?_
  refine am_pv_cons (v_iinc (n := 1) (by decide +kernel) (by decide +kernel)) rfl ?_
  refine am_pv_cons (v_goto (off := -36) (by decide +kernel) rfl) rfl ?_
  refine am_pv_cons (v_aload_n (q := 0) (by decide +kernel) rfl) rfl ?_
  refine am_pv_cons (v_dup (by decide +kernel)) rfl ?_
  refine am_pv_cons (v_get fl_MO_306 (by decide +kernel)) rfl ?_
  refine am_pv_cons (v_iconst (n := 1) (by decide +kernel) rfl) rfl ?_
  refine am_pv_cons (v_iadd (by decide +kernel)) rfl ?_
  refine am_pv_cons (v_put fw_MO_306 (by decide +kernel)) rfl ?_
  refine am_pv_cons (v_aload_n (q := 0) (by decide +kernel) rfl) rfl ?_
  refine am_pv_cons (v_get fl_MO_306 (by decide +kernel)) rfl ?_
  refine am_pv_cons (v_iconst (n := 1) (by decide +kernel) rfl) rfl ?_
  refine am_pv_cons (v_isub (by decide +kernel)) rfl ?_
  refine am_pv_cons (v_ireturn (by decide +kernel)) trivial ?_
  exact trivial
def P_MO_campsOf (E : am_E) (k : Nat) : am_P := [(0, aLi 0), (1, z_eq 9), (4, aLi 0), (5, aI 2), (6, c_ne 13), (9, aI 4), (10, aGo 23), (13, aLi 0), (14, aI 3), (15, c_ne 22), (18, aI 3), (19, aGo 23), (22, aI 2), (23, aRi)]
set_option maxRecDepth 20000 in
theorem pv_MO_campsOf (E : am_E) (k : Nat) : am_pv E k Y_MO_campsOf.2.1 Y_MO_campsOf.2.2.1 Y_MO_campsOf.1.cls (P_MO_campsOf E k) := by
  refine am_pv_cons (v_iload_n (q := 0) (by decide +kernel) rfl) rfl ?_
  refine am_pv_cons (v_if_eq (off := 8) (by decide +kernel) rfl) rfl ?_
  refine am_pv_cons (v_iload_n (q := 0) (by decide +kernel) rfl) rfl ?_
  refine am_pv_cons (v_iconst (n := 2) (by decide +kernel) rfl) rfl ?_
  refine am_pv_cons (v_ic_ne (off := 7) (by decide +kernel) rfl) rfl ?_
  refine am_pv_cons (v_iconst (n := 4) (by decide +kernel) rfl) rfl ?_
  refine am_pv_cons (v_goto (off := 13) (by decide +kernel) rfl) rfl ?_
  refine am_pv_cons (v_iload_n (q := 0) (by decide +kernel) rfl) rfl ?_
  refine am_pv_cons (v_iconst (n := 3) (by decide +kernel) rfl) rfl ?_
  refine am_pv_cons (v_ic_ne (off := 7) (by decide +kernel) rfl) rfl ?_
  refine am_pv_cons (v_iconst (n := 3) (by decide +kernel) rfl) rfl ?_
  refine am_pv_cons (v_goto (off := 4) (by decide +kernel) rfl) rfl ?_
  refine am_pv_cons (v_iconst (n := 2) (by decide +kernel) rfl) rfl ?_
  refine am_pv_cons (v_ireturn (by decide +kernel)) trivial ?_
  exact trivial
def P_MO_looksAt (E : am_E) (k : Nat) : am_P := [(0, aI 0), (1, aSi 2), (2, aLi 2), (3, aLa 0), (4, aGet 12 9), (7, c_ge 28), (10, aLa 0), (11, aGet 12 33), (14, aLi 2), (15, aLa 0), (16, aLi 1), (17, aLi 2), (18, aIv E k 12 2 Y_MO_in9), (21, aAst), (22, aInc 2 1), (25, aGo 2), (28, aRv)]
set_option maxRecDepth 20000 in
theorem pv_MO_looksAt (E : am_E) (k : Nat) : am_pv E k Y_MO_looksAt.2.1 Y_MO_looksAt.2.2.1 Y_MO_looksAt.1.cls (P_MO_looksAt E k) := by
  refine am_pv_cons (v_iconst (n := 0) (by decide +kernel) rfl) rfl ?_
  refine am_pv_cons (v_istore_n (q := 2) (by decide +kernel) rfl) rfl ?_
  refine am_pv_cons (v_iload_n (q := 2) (by decide +kernel) rfl) rfl ?_
  refine am_pv_cons (v_aload_n (q := 0) (by decide +kernel) rfl) rfl ?_
  refine am_pv_cons (v_get fl_MO_116 (by decide +kernel)) rfl ?_
  refine am_pv_cons (v_ic_ge (off := 21) (by decide +kernel) rfl) rfl ?_
  refine am_pv_cons (v_aload_n (q := 0) (by decide +kernel) rfl) rfl ?_
  refine am_pv_cons (v_get fl_MO_56 (by decide +kernel)) rfl ?_
  refine am_pv_cons (v_iload_n (q := 2) (by decide +kernel) rfl) rfl ?_
  refine am_pv_cons (v_aload_n (q := 0) (by decide +kernel) rfl) rfl ?_
  refine am_pv_cons (v_iload_n (q := 1) (by decide +kernel) rfl) rfl ?_
  refine am_pv_cons (v_iload_n (q := 2) (by decide +kernel) rfl) rfl ?_
  refine am_pv_cons (v_virt (idx := 314) yv_MO_in9 rfl rfl (tb7 44 (by decide +kernel) rfl) (by decide +kernel)) rfl ?_
  refine am_pv_cons (v_iast (by decide +kernel)) rfl ?_
  refine am_pv_cons (v_iinc (n := 1) (by decide +kernel) (by decide +kernel)) rfl ?_
  refine am_pv_cons (v_goto (off := -23) (by decide +kernel) rfl) rfl ?_
  refine am_pv_cons (v_return_ (by decide +kernel)) trivial ?_
  exact trivial
def P_MO_isWrong (E : am_E) (k : Nat) : am_P := [(0, aLa 0), (1, aGet 12 33), (4, aLa 0), (5, aGet 12 10), (8, aLi 1), (9, aAld 0), (10, aAld 0), (11, aSi 2), (12, aLa 0), (13, aGet 12 33), (16, aLa 0), (17, aGet 12 11), (20, aLi 1), (21, aAld 0), (22, aAld 0), (23, aSi 3), (24, aLi 2), (25, aI 9), (27, c_eq 62), (30, aLi 3), (31, aI 9), (33, c_eq 62), (36, aLa 0), (37, aGet 12 12), (40, aLi 1), (41, aAld 0), (42, z_le 53), (45, aLi 2), (46, aLi 3), (47, c_eq 62), (50, aGo 58), (53, aLi 2), (54, aLi 3), (55, c_ne 62), (58, aI 1), (59, aGo 63), (62, aI 0), (63, aRi)]
set_option maxRecDepth 20000 in
theorem pv_MO_isWrong (E : am_E) (k : Nat) : am_pv E k Y_MO_isWrong.2.1 Y_MO_isWrong.2.2.1 Y_MO_isWrong.1.cls (P_MO_isWrong E k) := by
  refine am_pv_cons (v_aload_n (q := 0) (by decide +kernel) rfl) rfl ?_
  refine am_pv_cons (v_get fl_MO_56 (by decide +kernel)) rfl ?_
  refine am_pv_cons (v_aload_n (q := 0) (by decide +kernel) rfl) rfl ?_
  refine am_pv_cons (v_get fl_MO_29 (by decide +kernel)) rfl ?_
  refine am_pv_cons (v_iload_n (q := 1) (by decide +kernel) rfl) rfl ?_
  refine am_pv_cons (v_iald (by decide +kernel)) rfl ?_
  refine am_pv_cons (v_iald (by decide +kernel)) rfl ?_
  refine am_pv_cons (v_istore_n (q := 2) (by decide +kernel) rfl) rfl ?_
  refine am_pv_cons (v_aload_n (q := 0) (by decide +kernel) rfl) rfl ?_
  refine am_pv_cons (v_get fl_MO_56 (by decide +kernel)) rfl ?_
  refine am_pv_cons (v_aload_n (q := 0) (by decide +kernel) rfl) rfl ?_
  refine am_pv_cons (v_get fl_MO_32 (by decide +kernel)) rfl ?_
  refine am_pv_cons (v_iload_n (q := 1) (by decide +kernel) rfl) rfl ?_
  refine am_pv_cons (v_iald (by decide +kernel)) rfl ?_
  refine am_pv_cons (v_iald (by decide +kernel)) rfl ?_
  refine am_pv_cons (v_istore_n (q := 3) (by decide +kernel) rfl) rfl ?_
  refine am_pv_cons (v_iload_n (q := 2) (by decide +kernel) rfl) rfl ?_
  refine am_pv_cons (v_bipush (n := 9) (by decide +kernel) (by decide +kernel)) rfl ?_
  refine am_pv_cons (v_ic_eq (off := 35) (by decide +kernel) rfl) rfl ?_
  refine am_pv_cons (v_iload_n (q := 3) (by decide +kernel) rfl) rfl ?_
  refine am_pv_cons (v_bipush (n := 9) (by decide +kernel) (by decide +kernel)) rfl ?_
  refine am_pv_cons (v_ic_eq (off := 29) (by decide +kernel) rfl) rfl ?_
  refine am_pv_cons (v_aload_n (q := 0) (by decide +kernel) rfl) rfl ?_
  refine am_pv_cons (v_get fl_MO_35 (by decide +kernel)) rfl ?_
  refine am_pv_cons (v_iload_n (q := 1) (by decide +kernel) rfl) rfl ?_
  refine am_pv_cons (v_iald (by decide +kernel)) rfl ?_
  refine am_pv_cons (v_if_le (off := 11) (by decide +kernel) rfl) rfl ?_
  refine am_pv_cons (v_iload_n (q := 2) (by decide +kernel) rfl) rfl ?_
  refine am_pv_cons (v_iload_n (q := 3) (by decide +kernel) rfl) rfl ?_
  refine am_pv_cons (v_ic_eq (off := 15) (by decide +kernel) rfl) rfl ?_
  refine am_pv_cons (v_goto (off := 8) (by decide +kernel) rfl) rfl ?_
  refine am_pv_cons (v_iload_n (q := 2) (by decide +kernel) rfl) rfl ?_
  refine am_pv_cons (v_iload_n (q := 3) (by decide +kernel) rfl) rfl ?_
  refine am_pv_cons (v_ic_ne (off := 7) (by decide +kernel) rfl) rfl ?_
  refine am_pv_cons (v_iconst (n := 1) (by decide +kernel) rfl) rfl ?_
  refine am_pv_cons (v_goto (off := 4) (by decide +kernel) rfl) rfl ?_
  refine am_pv_cons (v_iconst (n := 0) (by decide +kernel) rfl) rfl ?_
  refine am_pv_cons (v_ireturn (by decide +kernel)) trivial ?_
  exact trivial
def P_MO_lived (E : am_E) (k : Nat) : am_P := [(0, aI 0), (1, aSi 1), (2, aI 0), (3, aSi 2), (4, aLi 2), (5, aLa 0), (6, aGet 12 9), (9, c_ge 44), (12, aLi 1), (13, aLa 0), (14, aGet 12 33), (17, aLi 2), (18, aAld 0), (19, aI 9), (21, c_ne 28), (24, aI 0), (25, aGo 36), (28, aI 1), (29, aLa 0), (30, aGet 12 33), (33, aLi 2), (34, aAld 0), (35, a_ishl), (36, a_ior), (37, aSi 1), (38, aInc 2 1), (41, aGo 4), (44, aLi 1), (45, aIs E k 1 Y_MO_bitsOf), (48, aRi)]
set_option maxRecDepth 20000 in
theorem pv_MO_lived (E : am_E) (k : Nat) : am_pv E k Y_MO_lived.2.1 Y_MO_lived.2.2.1 Y_MO_lived.1.cls (P_MO_lived E k) := by
  refine am_pv_cons (v_iconst (n := 0) (by decide +kernel) rfl) rfl ?_
  refine am_pv_cons (v_istore_n (q := 1) (by decide +kernel) rfl) rfl ?_
  refine am_pv_cons (v_iconst (n := 0) (by decide +kernel) rfl) rfl ?_
  refine am_pv_cons (v_istore_n (q := 2) (by decide +kernel) rfl) rfl ?_
  refine am_pv_cons (v_iload_n (q := 2) (by decide +kernel) rfl) rfl ?_
  refine am_pv_cons (v_aload_n (q := 0) (by decide +kernel) rfl) rfl ?_
  refine am_pv_cons (v_get fl_MO_116 (by decide +kernel)) rfl ?_
  refine am_pv_cons (v_ic_ge (off := 35) (by decide +kernel) rfl) rfl ?_
  refine am_pv_cons (v_iload_n (q := 1) (by decide +kernel) rfl) rfl ?_
  refine am_pv_cons (v_aload_n (q := 0) (by decide +kernel) rfl) rfl ?_
  refine am_pv_cons (v_get fl_MO_56 (by decide +kernel)) rfl ?_
  refine am_pv_cons (v_iload_n (q := 2) (by decide +kernel) rfl) rfl ?_
  refine am_pv_cons (v_iald (by decide +kernel)) rfl ?_
  refine am_pv_cons (v_bipush (n := 9) (by decide +kernel) (by decide +kernel)) rfl ?_
  refine am_pv_cons (v_ic_ne (off := 7) (by decide +kernel) rfl) rfl ?_
  refine am_pv_cons (v_iconst (n := 0) (by decide +kernel) rfl) rfl ?_
  refine am_pv_cons (v_goto (off := 11) (by decide +kernel) rfl) rfl ?_
  refine am_pv_cons (v_iconst (n := 1) (by decide +kernel) rfl) rfl ?_
  refine am_pv_cons (v_aload_n (q := 0) (by decide +kernel) rfl) rfl ?_
  refine am_pv_cons (v_get fl_MO_56 (by decide +kernel)) rfl ?_
  refine am_pv_cons (v_iload_n (q := 2) (by decide +kernel) rfl) rfl ?_
  refine am_pv_cons (v_iald (by decide +kernel)) rfl ?_
  refine am_pv_cons (v_ishl (by decide +kernel)) rfl ?_
  refine am_pv_cons (v_ior (by decide +kernel)) rfl ?_
  refine am_pv_cons (v_istore_n (q := 1) (by decide +kernel) rfl) rfl ?_
  refine am_pv_cons (v_iinc (n := 1) (by decide +kernel) (by decide +kernel)) rfl ?_
  refine am_pv_cons (v_goto (off := -37) (by decide +kernel) rfl) rfl ?_
  refine am_pv_cons (v_iload_n (q := 1) (by decide +kernel) rfl) rfl ?_
  refine am_pv_cons (v_stat (idx := 317) ys_MO_bitsOf (tb7 55 (by decide +kernel) rfl) (by decide +kernel)) rfl ?_
  refine am_pv_cons (v_ireturn (by decide +kernel)) trivial ?_
  exact trivial
def P_MO_outside (E : am_E) (k : Nat) : am_P := [(0, aI 0), (1, aSi 1), (2, aI 0), (3, aSi 2), (4, aLi 2), (5, aLa 0), (6, aGet 12 9), (9, c_ge 37), (12, aLi 1), (13, aLa 0), (14, aGet 12 33), (17, aLi 2), (18, aAld 0), (19, aI 9), (21, c_ne 28), (24, aI 1), (25, aGo 29), (28, aI 0), (29, a_iadd), (30, aSi 1), (31, aInc 2 1), (34, aGo 4), (37, aLi 1), (38, aRi)]
set_option maxRecDepth 20000 in
theorem pv_MO_outside (E : am_E) (k : Nat) : am_pv E k Y_MO_outside.2.1 Y_MO_outside.2.2.1 Y_MO_outside.1.cls (P_MO_outside E k) := by
  refine am_pv_cons (v_iconst (n := 0) (by decide +kernel) rfl) rfl ?_
  refine am_pv_cons (v_istore_n (q := 1) (by decide +kernel) rfl) rfl ?_
  refine am_pv_cons (v_iconst (n := 0) (by decide +kernel) rfl) rfl ?_
  refine am_pv_cons (v_istore_n (q := 2) (by decide +kernel) rfl) rfl ?_
  refine am_pv_cons (v_iload_n (q := 2) (by decide +kernel) rfl) rfl ?_
  refine am_pv_cons (v_aload_n (q := 0) (by decide +kernel) rfl) rfl ?_
  refine am_pv_cons (v_get fl_MO_116 (by decide +kernel)) rfl ?_
  refine am_pv_cons (v_ic_ge (off := 28) (by decide +kernel) rfl) rfl ?_
  refine am_pv_cons (v_iload_n (q := 1) (by decide +kernel) rfl) rfl ?_
  refine am_pv_cons (v_aload_n (q := 0) (by decide +kernel) rfl) rfl ?_
  refine am_pv_cons (v_get fl_MO_56 (by decide +kernel)) rfl ?_
  refine am_pv_cons (v_iload_n (q := 2) (by decide +kernel) rfl) rfl ?_
  refine am_pv_cons (v_iald (by decide +kernel)) rfl ?_
  refine am_pv_cons (v_bipush (n := 9) (by decide +kernel) (by decide +kernel)) rfl ?_
  refine am_pv_cons (v_ic_ne (off := 7) (by decide +kernel) rfl) rfl ?_
  refine am_pv_cons (v_iconst (n := 1) (by decide +kernel) rfl) rfl ?_
  refine am_pv_cons (v_goto (off := 4) (by decide +kernel) rfl) rfl ?_
  refine am_pv_cons (v_iconst (n := 0) (by decide +kernel) rfl) rfl ?_
  refine am_pv_cons (v_iadd (by decide +kernel)) rfl ?_
  refine am_pv_cons (v_istore_n (q := 1) (by decide +kernel) rfl) rfl ?_
  refine am_pv_cons (v_iinc (n := 1) (by decide +kernel) (by decide +kernel)) rfl ?_
  refine am_pv_cons (v_goto (off := -30) (by decide +kernel) rfl) rfl ?_
  refine am_pv_cons (v_iload_n (q := 1) (by decide +kernel) rfl) rfl ?_
  refine am_pv_cons (v_ireturn (by decide +kernel)) trivial ?_
  exact trivial
def P_MO_wrongs (E : am_E) (k : Nat) : am_P := [(0, aI 0), (1, aSi 1), (2, aI 0), (3, aSi 2), (4, aLi 2), (5, aLa 0), (6, aGet 12 16), (9, c_ge 34), (12, aLi 1), (13, aLa 0), (14, aLi 2), (15, aIv E k 12 1 Y_MO_isWrong), (18, z_eq 25), (21, aI 1), (22, aGo 26), (25, aI 0), (26, a_iadd), (27, aSi 1), (28, aInc 2 1), (31, aGo 4), (34, aLi 1), (35, aRi)]
set_option maxRecDepth 20000 in
theorem pv_MO_wrongs (E : am_E) (k : Nat) : am_pv E k Y_MO_wrongs.2.1 Y_MO_wrongs.2.2.1 Y_MO_wrongs.1.cls (P_MO_wrongs E k) := by
  refine am_pv_cons (v_iconst (n := 0) (by decide +kernel) rfl) rfl ?_
  refine am_pv_cons (v_istore_n (q := 1) (by decide +kernel) rfl) rfl ?_
  refine am_pv_cons (v_iconst (n := 0) (by decide +kernel) rfl) rfl ?_
  refine am_pv_cons (v_istore_n (q := 2) (by decide +kernel) rfl) rfl ?_
  refine am_pv_cons (v_iload_n (q := 2) (by decide +kernel) rfl) rfl ?_
  refine am_pv_cons (v_aload_n (q := 0) (by decide +kernel) rfl) rfl ?_
  refine am_pv_cons (v_get fl_MO_123 (by decide +kernel)) rfl ?_
  refine am_pv_cons (v_ic_ge (off := 25) (by decide +kernel) rfl) rfl ?_
  refine am_pv_cons (v_iload_n (q := 1) (by decide +kernel) rfl) rfl ?_
  refine am_pv_cons (v_aload_n (q := 0) (by decide +kernel) rfl) rfl ?_
  refine am_pv_cons (v_iload_n (q := 2) (by decide +kernel) rfl) rfl ?_
  refine am_pv_cons (v_virt (idx := 320) yv_MO_isWrong rfl rfl (tb7 62 (by decide +kernel) rfl) (by decide +kernel)) rfl ?_
  refine am_pv_cons (v_if_eq (off := 7) (by decide +kernel) rfl) rfl ?_
  refine am_pv_cons (v_iconst (n := 1) (by decide +kernel) rfl) rfl ?_
  refine am_pv_cons (v_goto (off := 4) (by decide +kernel) rfl) rfl ?_
  refine am_pv_cons (v_iconst (n := 0) (by decide +kernel) rfl) rfl ?_
  refine am_pv_cons (v_iadd (by decide +kernel)) rfl ?_
  refine am_pv_cons (v_istore_n (q := 1) (by decide +kernel) rfl) rfl ?_
  refine am_pv_cons (v_iinc (n := 1) (by decide +kernel) (by decide +kernel)) rfl ?_
  refine am_pv_cons (v_goto (off := -27) (by decide +kernel) rfl) rfl ?_
  refine am_pv_cons (v_iload_n (q := 1) (by decide +kernel) rfl) rfl ?_
  refine am_pv_cons (v_ireturn (by decide +kernel)) trivial ?_
  exact trivial
def P_MO_camped (E : am_E) (k : Nat) : am_P := [(0, aLa 0), (1, aLi 1), (2, aIv E k 12 1 Y_MO_isCamping), (5, z_ne 11), (8, aI (-2)), (10, aRi), (11, aLa 0), (12, aLi 1), (13, aIv E k 12 1 Y_MO_looksAt), (16, aLi 2), (17, aSw [(0, 52), (1, 59), (2, 69), (3, 74), (4, 79)] 84), (52, aLa 0), (53, aGet 12 29), (56, aLi 1), (57, aAld 0), (58, aRi), (59, aLa 0), (60, aGet 12 29), (63, aLi 1), (64, aAld 0), (65, aIs E k 1 Y_MO_campsOf), (68, aRi), (69, aLa 0), (70, aIv E k 12 0 Y_MO_lived), (73, aRi), (74, aLa 0), (75, aIv E k 12 0 Y_MO_wrongs), (78, aRi), (79, aLa 0), (80, aIv E k 12 0 Y_MO_outside), (83, aRi), (84, aI (-2)), (86, aRi)]
set_option maxRecDepth 20000 in
theorem pv_MO_camped (E : am_E) (k : Nat) : am_pv E k Y_MO_camped.2.1 Y_MO_camped.2.2.1 Y_MO_camped.1.cls (P_MO_camped E k) := by
  refine am_pv_cons (v_aload_n (q := 0) (by decide +kernel) rfl) rfl ?_
  refine am_pv_cons (v_iload_n (q := 1) (by decide +kernel) rfl) rfl ?_
  refine am_pv_cons (v_virt (idx := 323) yv_MO_isCamping rfl rfl (tb7 36 (by decide +kernel) rfl) (by decide +kernel)) rfl ?_
  refine am_pv_cons (v_if_ne (off := 6) (by decide +kernel) rfl) rfl ?_
  refine am_pv_cons (v_bipush (n := -2) (by decide +kernel) (by decide +kernel)) rfl ?_
  refine am_pv_cons (v_ireturn (by decide +kernel)) rfl ?_
  refine am_pv_cons (v_aload_n (q := 0) (by decide +kernel) rfl) rfl ?_
  refine am_pv_cons (v_iload_n (q := 1) (by decide +kernel) rfl) rfl ?_
  refine am_pv_cons (v_virt (idx := 326) yv_MO_looksAt rfl rfl (tb7 40 (by decide +kernel) rfl) (by decide +kernel)) rfl ?_
  refine am_pv_cons (v_iload_n (q := 2) (by decide +kernel) rfl) rfl ?_
  refine am_pv_cons (v_tsw (dflt := 67) (lo := 0) (hi := 4) (offs := #[35, 42, 52, 57, 62]) (len := 35) (by decide +kernel) rfl (by decide) (by decide +kernel)) rfl ?_
  refine am_pv_cons (v_aload_n (q := 0) (by decide +kernel) rfl) rfl ?_
  refine am_pv_cons (v_get fl_MO_47 (by decide +kernel)) rfl ?_
  refine am_pv_cons (v_iload_n (q := 1) (by decide +kernel) rfl) rfl ?_
  refine am_pv_cons (v_iald (by decide +kernel)) rfl ?_
  refine am_pv_cons (v_ireturn (by decide +kernel)) rfl ?_
  refine am_pv_cons (v_aload_n (q := 0) (by decide +kernel) rfl) rfl ?_
  refine am_pv_cons (v_get fl_MO_47 (by decide +kernel)) rfl ?_
  refine am_pv_cons (v_iload_n (q := 1) (by decide +kernel) rfl) rfl ?_
  refine am_pv_cons (v_iald (by decide +kernel)) rfl ?_
  refine am_pv_cons (v_stat (idx := 330) ys_MO_campsOf (tb7 48 (by decide +kernel) rfl) (by decide +kernel)) rfl ?_
  refine am_pv_cons (v_ireturn (by decide +kernel)) rfl ?_
  refine am_pv_cons (v_aload_n (q := 0) (by decide +kernel) rfl) rfl ?_
  refine am_pv_cons (v_virt (idx := 333) yv_MO_lived rfl rfl (tb7 51 (by decide +kernel) rfl) (by decide +kernel)) rfl ?_
  refine am_pv_cons (v_ireturn (by decide +kernel)) rfl ?_
  refine am_pv_cons (v_aload_n (q := 0) (by decide +kernel) rfl) rfl ?_
  refine am_pv_cons (v_virt (idx := 336) yv_MO_wrongs rfl rfl (tb7 58 (by decide +kernel) rfl) (by decide +kernel)) rfl ?_
  refine am_pv_cons (v_ireturn (by decide +kernel)) rfl ?_
  refine am_pv_cons (v_aload_n (q := 0) (by decide +kernel) rfl) rfl ?_
  refine am_pv_cons (v_virt (idx := 339) yv_MO_outside rfl rfl (tb7 66 (by decide +kernel) rfl) (by decide +kernel)) rfl ?_
  refine am_pv_cons (v_ireturn (by decide +kernel)) rfl ?_
  refine am_pv_cons (v_bipush (n := -2) (by decide +kernel) (by decide +kernel)) rfl ?_
  refine am_pv_cons (v_ireturn (by decide +kernel)) trivial ?_
  exact trivial
def P_MO_costBy (E : am_E) (k : Nat) : am_P := [(0, aJ 0), (1, aSj 2), (2, aI 0), (3, aSi 4), (5, aLi 4), (7, aLa 0), (8, aGet 12 16), (11, c_ge 93), (14, aLa 0), (15, aLi 4), (17, aIv E k 12 1 Y_MO_isWrong), (20, z_ne 26), (23, aGo 87), (26, aLa 0), (27, aLi 4), (29, aIv E k 12 1 Y_MO_costOf), (32, aSi 5), (34, aLj 2), (35, aLi 1), (36, aI 3), (37, c_ne 58), (40, aLa 0), (41, aGet 12 12), (44, aLi 4), (46, aAld 0), (47, z_ge 58), (50, aLi 5), (52, aI 2), (53, a_idiv), (54, aI2L), (55, aGo 61), (58, aLi 5), (60, aI2L), (61, a_ladd), (62, aSj 2), (63, aLj 2), (64, aLa 0), (65, aLa 0), (66, aGet 12 4), (69, aLi 4), (71, aI 1), (72, aIv E k 12 3 Y_MO_read), (75, z_ne 84), (78, aJ 100000), (81, aGo 85), (84, aJ 0), (85, a_ladd), (86, aSj 2), (87, aInc 4 1), (90, aGo 5), (93, aLi 1), (94, aI 2), (95, c_eq 103), (98, aLi 1), (99, aI 3), (100, c_ne 115), (103, aLj 2), (104, aJ 3), (107, aLa 0), (108, aIv E k 12 0 Y_MO_lived), (111, aI2L), (112, a_lmul), (113, a_ladd), (114, aSj 2), (115, aI 0), (116, aSi 4), (118, aLi 4), (120, aLa 0), (121, aGet 12 9), (124, c_ge 257), (127, aLj 2), (128, aLi 1), (129, aI 1), (130, c_eq 143), (133, aLi 1), (134, aI 4), (135, c_eq 143), (138, aLi 1), (139, aI 5), (140, c_ne 171), (143, aLa 0), (144, aGet 12 33), (147, aLi 4), (149, aAld 0), (150, aI 2), (151, c_eq 165), (154, aLa 0), (155, aGet 12 33), (158, aLi 4), (160, aAld 0), (161, aI 3), (162, c_ne 171), (165, aJ 5000), (168, aGo 172), (171, aJ 0), (172, a_ladd), (173, aSj 2), (174, aLa 0), (175, aGet 12 33), (178, aLi 4), (180, aAld 0), (181, aI 9), (183, c_ne 208), (186, aLj 2), (187, aLi 1), (188, aI 4), (189, c_ne 203), (192, aLa 0), (193, aGet 12 7), (196, aLi 4), (198, aAld 0), (199, aI2L), (200, aGo 206), (203, aJ 7000), (206, a_ladd), (207, aSj 2), (208, aLj 2), (209, aLi 1), (210, aI 5), (211, c_ne 248), (214, aLa 0), (215, aGet 12 8), (218, aLi 4), (220, aAld 0), (221, aI (-1)), (222, c_eq 248), (225, aLa 0), (226, aGet 12 8), (229, aLi 4), (231, aAld 0), (232, aLa 0), (233, aGet 12 33), (236, aLi 4), (238, aAld 0), (239, c_eq 248), (242, aJ 50), (245, aGo 249), (248, aJ 0), (249, a_ladd), (250, aSj 2), (251, aInc 4 1), (254, aGo 118), (257, aLj 2), (258, aRl)]
set_option maxRecDepth 20000 in
theorem pv_MO_costBy (E : am_E) (k : Nat) : am_pv E k Y_MO_costBy.2.1 Y_MO_costBy.2.2.1 Y_MO_costBy.1.cls (P_MO_costBy E k) := by
  refine am_pv_cons (v_lconst (n := 0) (by decide +kernel) rfl) rfl ?_
  refine am_pv_cons (v_lstore_n (q := 2) (by decide +kernel) rfl) rfl ?_
  refine am_pv_cons (v_iconst (n := 0) (by decide +kernel) rfl) rfl ?_
  refine am_pv_cons (v_istore (by decide +kernel)) rfl ?_
  refine am_pv_cons (v_iload (by decide +kernel)) rfl ?_
  refine am_pv_cons (v_aload_n (q := 0) (by decide +kernel) rfl) rfl ?_
  refine am_pv_cons (v_get fl_MO_123 (by decide +kernel)) rfl ?_
  refine am_pv_cons (v_ic_ge (off := 82) (by decide +kernel) rfl) rfl ?_
  refine am_pv_cons (v_aload_n (q := 0) (by decide +kernel) rfl) rfl ?_
  refine am_pv_cons (v_iload (by decide +kernel)) rfl ?_
  refine am_pv_cons (v_virt (idx := 320) yv_MO_isWrong rfl rfl (tb7 62 (by decide +kernel) rfl) (by decide +kernel)) rfl ?_
  refine am_pv_cons (v_if_ne (off := 6) (by decide +kernel) rfl) rfl ?_
  refine am_pv_cons (v_goto (off := 64) (by decide +kernel) rfl) rfl ?_
  refine am_pv_cons (v_aload_n (q := 0) (by decide +kernel) rfl) rfl ?_
  refine am_pv_cons (v_iload (by decide +kernel)) rfl ?_
  refine am_pv_cons (v_virt (idx := 147) yv_MO_costOf rfl rfl (tb6 131 (by decide +kernel) rfl) (by decide +kernel)) rfl ?_
  refine am_pv_cons (v_istore (by decide +kernel)) rfl ?_
  refine am_pv_cons (v_lload_n (q := 2) (by decide +kernel) rfl) rfl ?_
  refine am_pv_cons (v_iload_n (q := 1) (by decide +kernel) rfl) rfl ?_
  refine am_pv_cons (v_iconst (n := 3) (by decide +kernel) rfl) rfl ?_
  refine am_pv_cons (v_ic_ne (off := 21) (by decide +kernel) rfl) rfl ?_
  refine am_pv_cons (v_aload_n (q := 0) (by decide +kernel) rfl) rfl ?_
  refine am_pv_cons (v_get fl_MO_35 (by decide +kernel)) rfl ?_
  refine am_pv_cons (v_iload (by decide +kernel)) rfl ?_
  refine am_pv_cons (v_iald (by decide +kernel)) rfl ?_
  refine am_pv_cons (v_if_ge (off := 11) (by decide +kernel) rfl) rfl ?_
  refine am_pv_cons (v_iload (by decide +kernel)) rfl ?_
  refine am_pv_cons (v_iconst (n := 2) (by decide +kernel) rfl) rfl ?_
  refine am_pv_cons (v_idiv (by decide +kernel)) rfl ?_
  refine am_pv_cons (v_i2l (by decide +kernel)) rfl ?_
  refine am_pv_cons (v_goto (off := 6) (by decide +kernel) rfl) rfl ?_
  refine am_pv_cons (v_iload (by decide +kernel)) rfl ?_
  refine am_pv_cons (v_i2l (by decide +kernel)) rfl ?_
  refine am_pv_cons (v_ladd (by decide +kernel)) rfl ?_
  refine am_pv_cons (v_lstore_n (q := 2) (by decide +kernel) rfl) rfl ?_
  refine am_pv_cons (v_lload_n (q := 2) (by decide +kernel) rfl) rfl ?_
  refine am_pv_cons (v_aload_n (q := 0) (by decide +kernel) rfl) rfl ?_
  refine am_pv_cons (v_aload_n (q := 0) (by decide +kernel) rfl) rfl ?_
  refine am_pv_cons (v_get fl_MO_151 (by decide +kernel)) rfl ?_
  refine am_pv_cons (v_iload (by decide +kernel)) rfl ?_
  refine am_pv_cons (v_iconst (n := 1) (by decide +kernel) rfl) rfl ?_
  refine am_pv_cons (v_virt (idx := 154) yv_MO_read rfl rfl (tb6 135 (by decide +kernel) rfl) (by decide +kernel)) rfl ?_
  refine am_pv_cons (v_if_ne (off := 9) (by decide +kernel) rfl) rfl ?_
  refine am_pv_cons (v_ldc2 (i := 342) (tb7 79 (by decide +kernel) rfl) (by decide +kernel)) rfl ?_
  refine am_pv_cons (v_goto (off := 4) (by decide +kernel) rfl) rfl ?_
  refine am_pv_cons (v_lconst (n := 0) (by decide +kernel) rfl) rfl ?_
  refine am_pv_cons (v_ladd (by decide +kernel)) rfl ?_
  refine am_pv_cons (v_lstore_n (q := 2) (by decide +kernel) rfl) rfl ?_
  refine am_pv_cons (v_iinc (n := 1) (by decide +kernel) (by decide +kernel)) rfl ?_
  refine am_pv_cons (v_goto (off := -85) (by decide +kernel) rfl) rfl ?_
  refine am_pv_cons (v_iload_n (q := 1) (by decide +kernel) rfl) rfl ?_
  refine am_pv_cons (v_iconst (n := 2) (by decide +kernel) rfl) rfl ?_
  refine am_pv_cons (v_ic_eq (off := 8) (by decide +kernel) rfl) rfl ?_
  refine am_pv_cons (v_iload_n (q := 1) (by decide +kernel) rfl) rfl ?_
  refine am_pv_cons (v_iconst (n := 3) (by decide +kernel) rfl) rfl ?_
  refine am_pv_cons (v_ic_ne (off := 15) (by decide +kernel) rfl) rfl ?_
  refine am_pv_cons (v_lload_n (q := 2) (by decide +kernel) rfl) rfl ?_
  refine am_pv_cons (v_ldc2 (i := 138) (tb6 114 (by decide +kernel) rfl) (by decide +kernel)) rfl ?_
  refine am_pv_cons (v_aload_n (q := 0) (by decide +kernel) rfl) rfl ?_
  refine am_pv_cons (v_virt (idx := 333) yv_MO_lived rfl rfl (tb7 51 (by decide +kernel) rfl) (by decide +kernel)) rfl ?_
  refine am_pv_cons (v_i2l (by decide +kernel)) rfl ?_
  refine am_pv_cons (v_lmul (by decide +kernel)) rfl ?_
  refine am_pv_cons (v_ladd (by decide +kernel)) rfl ?_
  refine am_pv_cons (v_lstore_n (q := 2) (by decide +kernel) rfl) rfl ?_
  refine am_pv_cons (v_iconst (n := 0) (by decide +kernel) rfl) rfl ?_
  refine am_pv_cons (v_istore (by decide +kernel)) rfl ?_
  refine am_pv_cons (v_iload (by decide +kernel)) rfl ?_
  refine am_pv_cons (v_aload_n (q := 0) (by decide +kernel) rfl) rfl ?_
  refine am_pv_cons (v_get fl_MO_116 (by decide +kernel)) rfl ?_
  refine am_pv_cons (v_ic_ge (off := 133) (by decide +kernel) rfl) rfl ?_
  refine am_pv_cons (v_lload_n (q := 2) (by decide +kernel) rfl) rfl ?_
  refine am_pv_cons (v_iload_n (q := 1) (by decide +kernel) rfl) rfl ?_
  refine am_pv_cons (v_iconst (n := 1) (by decide +kernel) rfl) rfl ?_
  refine am_pv_cons (v_ic_eq (off := 13) (by decide +kernel) rfl) rfl ?_
  refine am_pv_cons (v_iload_n (q := 1) (by decide +kernel) rfl) rfl ?_
  refine am_pv_cons (v_iconst (n := 4) (by decide +kernel) rfl) rfl ?_
  refine am_pv_cons (v_ic_eq (off := 8) (by decide +kernel) rfl) rfl ?_
  refine am_pv_cons (v_iload_n (q := 1) (by decide +kernel) rfl) rfl ?_
  refine am_pv_cons (v_iconst (n := 5) (by decide +kernel) rfl) rfl ?_
  refine am_pv_cons (v_ic_ne (off := 31) (by decide +kernel) rfl) rfl ?_
  refine am_pv_cons (v_aload_n (q := 0) (by decide +kernel) rfl) rfl ?_
  refine am_pv_cons (v_get fl_MO_56 (by decide +kernel)) rfl ?_
  refine am_pv_cons (v_iload (by decide +kernel)) rfl ?_
  refine am_pv_cons (v_iald (by decide +kernel)) rfl ?_
  refine am_pv_cons (v_iconst (n := 2) (by decide +kernel) rfl) rfl ?_
  refine am_pv_cons (v_ic_eq (off := 14) (by decide +kernel) rfl) rfl ?_
  refine am_pv_cons (v_aload_n (q := 0) (by decide +kernel) rfl) rfl ?_
  refine am_pv_cons (v_get fl_MO_56 (by decide +kernel)) rfl ?_
  refine am_pv_cons (v_iload (by decide +kernel)) rfl ?_
  refine am_pv_cons (v_iald (by decide +kernel)) rfl ?_
  refine am_pv_cons (v_iconst (n := 3) (by decide +kernel) rfl) rfl ?_
  refine am_pv_cons (v_ic_ne (off := 9) (by decide +kernel) rfl) rfl ?_
  refine am_pv_cons (v_ldc2 (i := 344) (tb7 80 (by decide +kernel) rfl) (by decide +kernel)) rfl ?_
  refine am_pv_cons (v_goto (off := 4) (by decide +kernel) rfl) rfl ?_
  refine am_pv_cons (v_lconst (n := 0) (by decide +kernel) rfl) rfl ?_
  refine am_pv_cons (v_ladd (by decide +kernel)) rfl ?_
  refine am_pv_cons (v_lstore_n (q := 2) (by decide +kernel) rfl) rfl ?_
  refine am_pv_cons (v_aload_n (q := 0) (by decide +kernel) rfl) rfl ?_
  refine am_pv_cons (v_get fl_MO_56 (by decide +kernel)) rfl ?_
  refine am_pv_cons (v_iload (by decide +kernel)) rfl ?_
  refine am_pv_cons (v_iald (by decide +kernel)) rfl ?_
  refine am_pv_cons (v_bipush (n := 9) (by decide +kernel) (by decide +kernel)) rfl ?_
  refine am_pv_cons (v_ic_ne (off := 25) (by decide +kernel) rfl) rfl ?_
  refine am_pv_cons (v_lload_n (q := 2) (by decide +kernel) rfl) rfl ?_
  refine am_pv_cons (v_iload_n (q := 1) (by decide +kernel) rfl) rfl ?_
  refine am_pv_cons (v_iconst (n := 4) (by decide +kernel) rfl) rfl ?_
  refine am_pv_cons (v_ic_ne (off := 14) (by decide +kernel) rfl) rfl ?_
  refine am_pv_cons (v_aload_n (q := 0) (by decide +kernel) rfl) rfl ?_
  refine am_pv_cons (v_get fl_MO_23 (by decide +kernel)) rfl ?_
  refine am_pv_cons (v_iload (by decide +kernel)) rfl ?_
  refine am_pv_cons (v_iald (by decide +kernel)) rfl ?_
  refine am_pv_cons (v_i2l (by decide +kernel)) rfl ?_
  refine am_pv_cons (v_goto (off := 6) (by decide +kernel) rfl) rfl ?_
  refine am_pv_cons (v_ldc2 (i := 346) (tb7 81 (by decide +kernel) rfl) (by decide +kernel)) rfl ?_
  refine am_pv_cons (v_ladd (by decide +kernel)) rfl ?_
  refine am_pv_cons (v_lstore_n (q := 2) (by decide +kernel) rfl) rfl ?_
  refine am_pv_cons (v_lload_n (q := 2) (by decide +kernel) rfl) rfl ?_
  refine am_pv_cons (v_iload_n (q := 1) (by decide +kernel) rfl) rfl ?_
  refine am_pv_cons (v_iconst (n := 5) (by decide +kernel) rfl) rfl ?_
  refine am_pv_cons (v_ic_ne (off := 37) (by decide +kernel) rfl) rfl ?_
  refine am_pv_cons (v_aload_n (q := 0) (by decide +kernel) rfl) rfl ?_
  refine am_pv_cons (v_get fl_MO_26 (by decide +kernel)) rfl ?_
  refine am_pv_cons (v_iload (by decide +kernel)) rfl ?_
  refine am_pv_cons (v_iald (by decide +kernel)) rfl ?_
  refine am_pv_cons (v_iconst (n := -1) (by decide +kernel) rfl) rfl ?_
  refine am_pv_cons (v_ic_eq (off := 26) (by decide +kernel) rfl) rfl ?_
  refine am_pv_cons (v_aload_n (q := 0) (by decide +kernel) rfl) rfl ?_
  refine am_pv_cons (v_get fl_MO_26 (by decide +kernel)) rfl ?_
  refine am_pv_cons (v_iload (by decide +kernel)) rfl ?_
  refine am_pv_cons (v_iald (by decide +kernel)) rfl ?_
  refine am_pv_cons (v_aload_n (q := 0) (by decide +kernel) rfl) rfl ?_
  refine am_pv_cons (v_get fl_MO_56 (by decide +kernel)) rfl ?_
  refine am_pv_cons (v_iload (by decide +kernel)) rfl ?_
  refine am_pv_cons (v_iald (by decide +kernel)) rfl ?_
  refine am_pv_cons (v_ic_eq (off := 9) (by decide +kernel) rfl) rfl ?_
  refine am_pv_cons (v_ldc2 (i := 348) (tb7 82 (by decide +kernel) rfl) (by decide +kernel)) rfl ?_
  refine am_pv_cons (v_goto (off := 4) (by decide +kernel) rfl) rfl ?_
  refine am_pv_cons (v_lconst (n := 0) (by decide +kernel) rfl) rfl ?_
  refine am_pv_cons (v_ladd (by decide +kernel)) rfl ?_
  refine am_pv_cons (v_lstore_n (q := 2) (by decide +kernel) rfl) rfl ?_
  refine am_pv_cons (v_iinc (n := 1) (by decide +kernel) (by decide +kernel)) rfl ?_
  refine am_pv_cons (v_goto (off := -136) (by decide +kernel) rfl) rfl ?_
  refine am_pv_cons (v_lload_n (q := 2) (by decide +kernel) rfl) rfl ?_
  refine am_pv_cons (v_lreturn (by decide +kernel)) trivial ?_
  exact trivial
def P_MO_cost (E : am_E) (k : Nat) : am_P := [(0, aLa 0), (1, aLi 1), (2, aIv E k 12 1 Y_MO_isCamping), (5, z_ne 12), (8, aJ (-4611686018427387904)), (11, aRl), (12, aLa 0), (13, aLi 1), (14, aIv E k 12 1 Y_MO_looksAt), (17, aLa 0), (18, aLa 0), (19, aGet 12 29), (22, aLi 1), (23, aAld 0), (24, aIv E k 12 1 Y_MO_costBy), (27, aRl)]
set_option maxRecDepth 20000 in
theorem pv_MO_cost (E : am_E) (k : Nat) : am_pv E k Y_MO_cost.2.1 Y_MO_cost.2.2.1 Y_MO_cost.1.cls (P_MO_cost E k) := by
  refine am_pv_cons (v_aload_n (q := 0) (by decide +kernel) rfl) rfl ?_
  refine am_pv_cons (v_iload_n (q := 1) (by decide +kernel) rfl) rfl ?_
  refine am_pv_cons (v_virt (idx := 323) yv_MO_isCamping rfl rfl (tb7 36 (by decide +kernel) rfl) (by decide +kernel)) rfl ?_
  refine am_pv_cons (v_if_ne (off := 7) (by decide +kernel) rfl) rfl ?_
  refine am_pv_cons (v_ldc2 (i := 350) (tb7 74 (by decide +kernel) rfl) (by decide +kernel)) rfl ?_
  refine am_pv_cons (v_lreturn (by decide +kernel)) rfl ?_
  refine am_pv_cons (v_aload_n (q := 0) (by decide +kernel) rfl) rfl ?_
  refine am_pv_cons (v_iload_n (q := 1) (by decide +kernel) rfl) rfl ?_
  refine am_pv_cons (v_virt (idx := 326) yv_MO_looksAt rfl rfl (tb7 40 (by decide +kernel) rfl) (by decide +kernel)) rfl ?_
  refine am_pv_cons (v_aload_n (q := 0) (by decide +kernel) rfl) rfl ?_
  refine am_pv_cons (v_aload_n (q := 0) (by decide +kernel) rfl) rfl ?_
  refine am_pv_cons (v_get fl_MO_47 (by decide +kernel)) rfl ?_
  refine am_pv_cons (v_iload_n (q := 1) (by decide +kernel) rfl) rfl ?_
  refine am_pv_cons (v_iald (by decide +kernel)) rfl ?_
  refine am_pv_cons (v_virt (idx := 352) yv_MO_costBy rfl rfl (tb7 75 (by decide +kernel) rfl) (by decide +kernel)) rfl ?_
  refine am_pv_cons (v_lreturn (by decide +kernel)) trivial ?_
  exact trivial
def P_MO_move (E : am_E) (k : Nat) : am_P := [(0, aLa 0), (1, aLi 1), (2, aIv E k 12 1 Y_MO_isCamping), (5, z_eq 34), (8, aLa 0), (9, aLi 2), (10, aIv E k 12 1 Y_MO_isPerson), (13, z_eq 34), (16, aLi 3), (17, aI2L), (18, aJ 0), (19, aJ 3), (22, aIs E k 3 Y_MO_in), (25, z_ne 38), (28, aLi 3), (29, aI 9), (31, c_eq 38), (34, aJ (-4611686018427387904)), (37, aRl), (38, aLa 0), (39, aLi 1), (40, aIv E k 12 1 Y_MO_looksAt), (43, aLa 0), (44, aLa 0), (45, aGet 12 29), (48, aLi 1), (49, aAld 0), (50, aIv E k 12 1 Y_MO_costBy), (53, aSj 4), (55, aLa 0), (56, aGet 12 33), (59, aLi 2), (60, aLi 3), (61, aAst), (62, aLa 0), (63, aLa 0), (64, aGet 12 29), (67, aLi 1), (68, aAld 0), (69, aIv E k 12 1 Y_MO_costBy), (72, aLj 4), (74, a_lsub), (75, aRl)]
set_option maxRecDepth 20000 in
theorem pv_MO_move (E : am_E) (k : Nat) : am_pv E k Y_MO_move.2.1 Y_MO_move.2.2.1 Y_MO_move.1.cls (P_MO_move E k) := by
  refine am_pv_cons (v_aload_n (q := 0) (by decide +kernel) rfl) rfl ?_
  refine am_pv_cons (v_iload_n (q := 1) (by decide +kernel) rfl) rfl ?_
  refine am_pv_cons (v_virt (idx := 323) yv_MO_isCamping rfl rfl (tb7 36 (by decide +kernel) rfl) (by decide +kernel)) rfl ?_
  refine am_pv_cons (v_if_eq (off := 29) (by decide +kernel) rfl) rfl ?_
  refine am_pv_cons (v_aload_n (q := 0) (by decide +kernel) rfl) rfl ?_
  refine am_pv_cons (v_iload_n (q := 2) (by decide +kernel) rfl) rfl ?_
  refine am_pv_cons (v_virt (idx := 128) yv_MO_isPerson rfl rfl (tb6 105 (by decide +kernel) rfl) (by decide +kernel)) rfl ?_
  refine am_pv_cons (v_if_eq (off := 21) (by decide +kernel) rfl) rfl ?_
  refine am_pv_cons (v_iload_n (q := 3) (by decide +kernel) rfl) rfl ?_
  refine am_pv_cons (v_i2l (by decide +kernel)) rfl ?_
  refine am_pv_cons (v_lconst (n := 0) (by decide +kernel) rfl) rfl ?_
  refine am_pv_cons (v_ldc2 (i := 138) (tb6 114 (by decide +kernel) rfl) (by decide +kernel)) rfl ?_
  refine am_pv_cons (v_stat (idx := 119) ys_MO_in (tb6 98 (by decide +kernel) rfl) (by decide +kernel)) rfl ?_
  refine am_pv_cons (v_if_ne (off := 13) (by decide +kernel) rfl) rfl ?_
  refine am_pv_cons (v_iload_n (q := 3) (by decide +kernel) rfl) rfl ?_
  refine am_pv_cons (v_bipush (n := 9) (by decide +kernel) (by decide +kernel)) rfl ?_
  refine am_pv_cons (v_ic_eq (off := 7) (by decide +kernel) rfl) rfl ?_
  refine am_pv_cons (v_ldc2 (i := 350) (tb7 74 (by decide +kernel) rfl) (by decide +kernel)) rfl ?_
  refine am_pv_cons (v_lreturn (by decide +kernel)) rfl ?_
  refine am_pv_cons (v_aload_n (q := 0) (by decide +kernel) rfl) rfl ?_
  refine am_pv_cons (v_iload_n (q := 1) (by decide +kernel) rfl) rfl ?_
  refine am_pv_cons (v_virt (idx := 326) yv_MO_looksAt rfl rfl (tb7 40 (by decide +kernel) rfl) (by decide +kernel)) rfl ?_
  refine am_pv_cons (v_aload_n (q := 0) (by decide +kernel) rfl) rfl ?_
  refine am_pv_cons (v_aload_n (q := 0) (by decide +kernel) rfl) rfl ?_
  refine am_pv_cons (v_get fl_MO_47 (by decide +kernel)) rfl ?_
  refine am_pv_cons (v_iload_n (q := 1) (by decide +kernel) rfl) rfl ?_
  refine am_pv_cons (v_iald (by decide +kernel)) rfl ?_
  refine am_pv_cons (v_virt (idx := 352) yv_MO_costBy rfl rfl (tb7 75 (by decide +kernel) rfl) (by decide +kernel)) rfl ?_
  refine am_pv_cons (v_lstore (by decide +kernel)) rfl ?_
  refine am_pv_cons (v_aload_n (q := 0) (by decide +kernel) rfl) rfl ?_
  refine am_pv_cons (v_get fl_MO_56 (by decide +kernel)) rfl ?_
  refine am_pv_cons (v_iload_n (q := 2) (by decide +kernel) rfl) rfl ?_
  refine am_pv_cons (v_iload_n (q := 3) (by decide +kernel) rfl) rfl ?_
  refine am_pv_cons (v_iast (by decide +kernel)) rfl ?_
  refine am_pv_cons (v_aload_n (q := 0) (by decide +kernel) rfl) rfl ?_
  refine am_pv_cons (v_aload_n (q := 0) (by decide +kernel) rfl) rfl ?_
  refine am_pv_cons (v_get fl_MO_47 (by decide +kernel)) rfl ?_
  refine am_pv_cons (v_iload_n (q := 1) (by decide +kernel) rfl) rfl ?_
  refine am_pv_cons (v_iald (by decide +kernel)) rfl ?_
  refine am_pv_cons (v_virt (idx := 352) yv_MO_costBy rfl rfl (tb7 75 (by decide +kernel) rfl) (by decide +kernel)) rfl ?_
  refine am_pv_cons (v_lload (by decide +kernel)) rfl ?_
  refine am_pv_cons (v_lsub (by decide +kernel)) rfl ?_
  refine am_pv_cons (v_lreturn (by decide +kernel)) trivial ?_
  exact trivial
def P_MO_same (E : am_E) (k : Nat) : am_P := [(0, aLa 0), (1, aLi 1), (2, aIv E k 12 1 Y_MO_isCamping), (5, z_eq 16), (8, aLa 0), (9, aLi 2), (10, aIv E k 12 1 Y_MO_isCamping), (13, z_ne 19), (16, aI (-2)), (18, aRi), (19, aI 0), (20, aSi 3), (21, aLi 3), (22, aLa 0), (23, aGet 12 9), (26, c_ge 134), (29, aLa 0), (30, aLi 1), (31, aLi 3), (32, aIv E k 12 2 Y_MO_in9), (35, aI 9), (37, c_ne 44), (40, aI 1), (41, aGo 45), (44, aI 0), (45, aLa 0), (46, aLi 2), (47, aLi 3), (48, aIv E k 12 2 Y_MO_in9), (51, aI 9), (53, c_ne 60), (56, aI 1), (57, aGo 61), (60, aI 0), (61, c_eq 66), (64, aI 0), (65, aRi), (66, aI 0), (67, aSi 4), (69, aLi 4), (71, aLi 3), (72, c_ge 128), (75, aLa 0), (76, aLi 1), (77, aLi 3), (78, aIv E k 12 2 Y_MO_in9), (81, aLa 0), (82, aLi 1), (83, aLi 4), (85, aIv E k 12 2 Y_MO_in9), (88, c_ne 95), (91, aI 1), (92, aGo 96), (95, aI 0), (96, aLa 0), (97, aLi 2), (98, aLi 3), (99, aIv E k 12 2 Y_MO_in9), (102, aLa 0), (103, aLi 2), (104, aLi 4), (106, aIv E k 12 2 Y_MO_in9), (109, c_ne 116), (112, aI 1), (113, aGo 117), (116, aI 0), (117, c_eq 122), (120, aI 0), (121, aRi), (122, aInc 4 1), (125, aGo 69), (128, aInc 3 1), (131, aGo 21), (134, aI 1), (135, aRi)]
set_option maxRecDepth 20000 in
theorem pv_MO_same (E : am_E) (k : Nat) : am_pv E k Y_MO_same.2.1 Y_MO_same.2.2.1 Y_MO_same.1.cls (P_MO_same E k) := by
  refine am_pv_cons (v_aload_n (q := 0) (by decide +kernel) rfl) rfl ?_
  refine am_pv_cons (v_iload_n (q := 1) (by decide +kernel) rfl) rfl ?_
  refine am_pv_cons (v_virt (idx := 323) yv_MO_isCamping rfl rfl (tb7 36 (by decide +kernel) rfl) (by decide +kernel)) rfl ?_
  refine am_pv_cons (v_if_eq (off := 11) (by decide +kernel) rfl) rfl ?_
  refine am_pv_cons (v_aload_n (q := 0) (by decide +kernel) rfl) rfl ?_
  refine am_pv_cons (v_iload_n (q := 2) (by decide +kernel) rfl) rfl ?_
  refine am_pv_cons (v_virt (idx := 323) yv_MO_isCamping rfl rfl (tb7 36 (by decide +kernel) rfl) (by decide +kernel)) rfl ?_
  refine am_pv_cons (v_if_ne (off := 6) (by decide +kernel) rfl) rfl ?_
  refine am_pv_cons (v_bipush (n := -2) (by decide +kernel) (by decide +kernel)) rfl ?_
  refine am_pv_cons (v_ireturn (by decide +kernel)) rfl ?_
  refine am_pv_cons (v_iconst (n := 0) (by decide +kernel) rfl) rfl ?_
  refine am_pv_cons (v_istore_n (q := 3) (by decide +kernel) rfl) rfl ?_
  refine am_pv_cons (v_iload_n (q := 3) (by decide +kernel) rfl) rfl ?_
  refine am_pv_cons (v_aload_n (q := 0) (by decide +kernel) rfl) rfl ?_
  refine am_pv_cons (v_get fl_MO_116 (by decide +kernel)) rfl ?_
  refine am_pv_cons (v_ic_ge (off := 108) (by decide +kernel) rfl) rfl ?_
  refine am_pv_cons (v_aload_n (q := 0) (by decide +kernel) rfl) rfl ?_
  refine am_pv_cons (v_iload_n (q := 1) (by decide +kernel) rfl) rfl ?_
  refine am_pv_cons (v_iload_n (q := 3) (by decide +kernel) rfl) rfl ?_
  refine am_pv_cons (v_virt (idx := 314) yv_MO_in9 rfl rfl (tb7 44 (by decide +kernel) rfl) (by decide +kernel)) rfl ?_
  refine am_pv_cons (v_bipush (n := 9) (by decide +kernel) (by decide +kernel)) rfl ?_
  refine am_pv_cons (v_ic_ne (off := 7) (by decide +kernel) rfl) rfl ?_
  refine am_pv_cons (v_iconst (n := 1) (by decide +kernel) rfl) rfl ?_
  refine am_pv_cons (v_goto (off := 4) (by decide +kernel) rfl) rfl ?_
  refine am_pv_cons (v_iconst (n := 0) (by decide +kernel) rfl) rfl ?_
  refine am_pv_cons (v_aload_n (q := 0) (by decide +kernel) rfl) rfl ?_
  refine am_pv_cons (v_iload_n (q := 2) (by decide +kernel) rfl) rfl ?_
  refine am_pv_cons (v_iload_n (q := 3) (by decide +kernel) rfl) rfl ?_
  refine am_pv_cons (v_virt (idx := 314) yv_MO_in9 rfl rfl (tb7 44 (by decide +kernel) rfl) (by decide +kernel)) rfl ?_
  refine am_pv_cons (v_bipush (n := 9) (by decide +kernel) (by decide +kernel)) rfl ?_
  refine am_pv_cons (v_ic_ne (off := 7) (by decide +kernel) rfl) rfl ?_
  refine am_pv_cons (v_iconst (n := 1) (by decide +kernel) rfl) rfl ?_
  refine am_pv_cons (v_goto (off := 4) (by decide +kernel) rfl) rfl ?_
  refine am_pv_cons (v_iconst (n := 0) (by decide +kernel) rfl) rfl ?_
  refine am_pv_cons (v_ic_eq (off := 5) (by decide +kernel) rfl) rfl ?_
  refine am_pv_cons (v_iconst (n := 0) (by decide +kernel) rfl) rfl ?_
  refine am_pv_cons (v_ireturn (by decide +kernel)) rfl ?_
  refine am_pv_cons (v_iconst (n := 0) (by decide +kernel) rfl) rfl ?_
  refine am_pv_cons (v_istore (by decide +kernel)) rfl ?_
  refine am_pv_cons (v_iload (by decide +kernel)) rfl ?_
  refine am_pv_cons (v_iload_n (q := 3) (by decide +kernel) rfl) rfl ?_
  refine am_pv_cons (v_ic_ge (off := 56) (by decide +kernel) rfl) rfl ?_
  refine am_pv_cons (v_aload_n (q := 0) (by decide +kernel) rfl) rfl ?_
  refine am_pv_cons (v_iload_n (q := 1) (by decide +kernel) rfl) rfl ?_
  refine am_pv_cons (v_iload_n (q := 3) (by decide +kernel) rfl) rfl ?_
  refine am_pv_cons (v_virt (idx := 314) yv_MO_in9 rfl rfl (tb7 44 (by decide +kernel) rfl) (by decide +kernel)) rfl ?_
  refine am_pv_cons (v_aload_n (q := 0) (by decide +kernel) rfl) rfl ?_
  refine am_pv_cons (v_iload_n (q := 1) (by decide +kernel) rfl) rfl ?_
  refine am_pv_cons (v_iload (by decide +kernel)) rfl ?_
  refine am_pv_cons (v_virt (idx := 314) yv_MO_in9 rfl rfl (tb7 44 (by decide +kernel) rfl) (by decide +kernel)) rfl ?_
  refine am_pv_cons (v_ic_ne (off := 7) (by decide +kernel) rfl) rfl ?_
  refine am_pv_cons (v_iconst (n := 1) (by decide +kernel) rfl) rfl ?_
  refine am_pv_cons (v_goto (off := 4) (by decide +kernel) rfl) rfl ?_
  refine am_pv_cons (v_iconst (n := 0) (by decide +kernel) rfl) rfl ?_
  refine am_pv_cons (v_aload_n (q := 0) (by decide +kernel) rfl) rfl ?_
  refine am_pv_cons (v_iload_n (q := 2) (by decide +kernel) rfl) rfl ?_
  refine am_pv_cons (v_iload_n (q := 3) (by decide +kernel) rfl) rfl ?_
  refine am_pv_cons (v_virt (idx := 314) yv_MO_in9 rfl rfl (tb7 44 (by decide +kernel) rfl) (by decide +kernel)) rfl ?_
  refine am_pv_cons (v_aload_n (q := 0) (by decide +kernel) rfl) rfl ?_
  refine am_pv_cons (v_iload_n (q := 2) (by decide +kernel) rfl) rfl ?_
  refine am_pv_cons (v_iload (by decide +kernel)) rfl ?_
  refine am_pv_cons (v_virt (idx := 314) yv_MO_in9 rfl rfl (tb7 44 (by decide +kernel) rfl) (by decide +kernel)) rfl ?_
  refine am_pv_cons (v_ic_ne (off := 7) (by decide +kernel) rfl) rfl ?_
  refine am_pv_cons (v_iconst (n := 1) (by decide +kernel) rfl) rfl ?_
  refine am_pv_cons (v_goto (off := 4) (by decide +kernel) rfl) rfl ?_
  refine am_pv_cons (v_iconst (n := 0) (by decide +kernel) rfl) rfl ?_
  refine am_pv_cons (v_ic_eq (off := 5) (by decide +kernel) rfl) rfl ?_
  refine am_pv_cons (v_iconst (n := 0) (by decide +kernel) rfl) rfl ?_
  refine am_pv_cons (v_ireturn (by decide +kernel)) rfl ?_
  refine am_pv_cons (v_iinc (n := 1) (by decide +kernel) (by decide +kernel)) rfl ?_
  refine am_pv_cons (v_goto (off := -56) (by decide +kernel) rfl) rfl ?_
  refine am_pv_cons (v_iinc (n := 1) (by decide +kernel) (by decide +kernel)) rfl ?_
  refine am_pv_cons (v_goto (off := -110) (by decide +kernel) rfl) rfl ?_
  refine am_pv_cons (v_iconst (n := 1) (by decide +kernel) rfl) rfl ?_
  refine am_pv_cons (v_ireturn (by decide +kernel)) trivial ?_
  exact trivial
def P_MO_bitsOf (E : am_E) (k : Nat) : am_P := [(0, aI 0), (1, aSi 1), (2, aLi 0), (3, aSi 2), (4, aLi 2), (5, z_eq 20), (8, aInc 1 1), (11, aLi 2), (12, aLi 2), (13, aI 1), (14, a_isub), (15, a_iand), (16, aSi 2), (17, aGo 4), (20, aLi 1), (21, aRi)]
set_option maxRecDepth 20000 in
theorem pv_MO_bitsOf (E : am_E) (k : Nat) : am_pv E k Y_MO_bitsOf.2.1 Y_MO_bitsOf.2.2.1 Y_MO_bitsOf.1.cls (P_MO_bitsOf E k) := by
  refine am_pv_cons (v_iconst (n := 0) (by decide +kernel) rfl) rfl ?_
  refine am_pv_cons (v_istore_n (q := 1) (by decide +kernel) rfl) rfl ?_
  refine am_pv_cons (v_iload_n (q := 0) (by decide +kernel) rfl) rfl ?_
  refine am_pv_cons (v_istore_n (q := 2) (by decide +kernel) rfl) rfl ?_
  refine am_pv_cons (v_iload_n (q := 2) (by decide +kernel) rfl) rfl ?_
  refine am_pv_cons (v_if_eq (off := 15) (by decide +kernel) rfl) rfl ?_
  refine am_pv_cons (v_iinc (n := 1) (by decide +kernel) (by decide +kernel)) rfl ?_
  refine am_pv_cons (v_iload_n (q := 2) (by decide +kernel) rfl) rfl ?_
  refine am_pv_cons (v_iload_n (q := 2) (by decide +kernel) rfl) rfl ?_
  refine am_pv_cons (v_iconst (n := 1) (by decide +kernel) rfl) rfl ?_
  refine am_pv_cons (v_isub (by decide +kernel)) rfl ?_
  refine am_pv_cons (v_iand (by decide +kernel)) rfl ?_
  refine am_pv_cons (v_istore_n (q := 2) (by decide +kernel) rfl) rfl ?_
  refine am_pv_cons (v_goto (off := -13) (by decide +kernel) rfl) rfl ?_
  refine am_pv_cons (v_iload_n (q := 1) (by decide +kernel) rfl) rfl ?_
  refine am_pv_cons (v_ireturn (by decide +kernel)) trivial ?_
  exact trivial
def P_MO_hangs (E : am_E) (k : Nat) : am_P := [(0, aI 1), (1, aLi 1), (2, a_ishl), (3, aSi 3), (4, aI 0), (5, aSi 4), (7, aLi 4), (9, aLi 3), (10, c_eq 77), (13, aLi 3), (14, aSi 4), (16, aI 0), (17, aSi 5), (19, aLi 5), (21, aLa 0), (22, aGet 12 16), (25, c_ge 74), (28, aI 1), (29, aLa 0), (30, aGet 12 10), (33, aLi 5), (35, aAld 0), (36, a_ishl), (37, aI 1), (38, aLa 0), (39, aGet 12 11), (42, aLi 5), (44, aAld 0), (45, a_ishl), (46, a_ior), (47, aSi 6), (49, aLi 6), (51, aLi 3), (52, a_iand), (53, z_eq 68), (56, aLi 6), (58, aLi 2), (59, a_iand), (60, z_ne 68), (63, aLi 3), (64, aLi 6), (66, a_ior), (67, aSi 3), (68, aInc 5 1), (71, aGo 19), (74, aGo 7), (77, aLi 3), (78, aRi)]
set_option maxRecDepth 20000 in
theorem pv_MO_hangs (E : am_E) (k : Nat) : am_pv E k Y_MO_hangs.2.1 Y_MO_hangs.2.2.1 Y_MO_hangs.1.cls (P_MO_hangs E k) := by
  refine am_pv_cons (v_iconst (n := 1) (by decide +kernel) rfl) rfl ?_
  refine am_pv_cons (v_iload_n (q := 1) (by decide +kernel) rfl) rfl ?_
  refine am_pv_cons (v_ishl (by decide +kernel)) rfl ?_
  refine am_pv_cons (v_istore_n (q := 3) (by decide +kernel) rfl) rfl ?_
  refine am_pv_cons (v_iconst (n := 0) (by decide +kernel) rfl) rfl ?_
  refine am_pv_cons (v_istore (by decide +kernel)) rfl ?_
  refine am_pv_cons (v_iload (by decide +kernel)) rfl ?_
  refine am_pv_cons (v_iload_n (q := 3) (by decide +kernel) rfl) rfl ?_
  refine am_pv_cons (v_ic_eq (off := 67) (by decide +kernel) rfl) rfl ?_
  refine am_pv_cons (v_iload_n (q := 3) (by decide +kernel) rfl) rfl ?_
  refine am_pv_cons (v_istore (by decide +kernel)) rfl ?_
  refine am_pv_cons (v_iconst (n := 0) (by decide +kernel) rfl) rfl ?_
  refine am_pv_cons (v_istore (by decide +kernel)) rfl ?_
  refine am_pv_cons (v_iload (by decide +kernel)) rfl ?_
  refine am_pv_cons (v_aload_n (q := 0) (by decide +kernel) rfl) rfl ?_
  refine am_pv_cons (v_get fl_MO_123 (by decide +kernel)) rfl ?_
  refine am_pv_cons (v_ic_ge (off := 49) (by decide +kernel) rfl) rfl ?_
  refine am_pv_cons (v_iconst (n := 1) (by decide +kernel) rfl) rfl ?_
  refine am_pv_cons (v_aload_n (q := 0) (by decide +kernel) rfl) rfl ?_
  refine am_pv_cons (v_get fl_MO_29 (by decide +kernel)) rfl ?_
  refine am_pv_cons (v_iload (by decide +kernel)) rfl ?_
  refine am_pv_cons (v_iald (by decide +kernel)) rfl ?_
  refine am_pv_cons (v_ishl (by decide +kernel)) rfl ?_
  refine am_pv_cons (v_iconst (n := 1) (by decide +kernel) rfl) rfl ?_
  refine am_pv_cons (v_aload_n (q := 0) (by decide +kernel) rfl) rfl ?_
  refine am_pv_cons (v_get fl_MO_32 (by decide +kernel)) rfl ?_
  refine am_pv_cons (v_iload (by decide +kernel)) rfl ?_
  refine am_pv_cons (v_iald (by decide +kernel)) rfl ?_
  refine am_pv_cons (v_ishl (by decide +kernel)) rfl ?_
  refine am_pv_cons (v_ior (by decide +kernel)) rfl ?_
  refine am_pv_cons (v_istore (by decide +kernel)) rfl ?_
  refine am_pv_cons (v_iload (by decide +kernel)) rfl ?_
  refine am_pv_cons (v_iload_n (q := 3) (by decide +kernel) rfl) rfl ?_
  refine am_pv_cons (v_iand (by decide +kernel)) rfl ?_
  refine am_pv_cons (v_if_eq (off := 15) (by decide +kernel) rfl) rfl ?_
  refine am_pv_cons (v_iload (by decide +kernel)) rfl ?_
  refine am_pv_cons (v_iload_n (q := 2) (by decide +kernel) rfl) rfl ?_
  refine am_pv_cons (v_iand (by decide +kernel)) rfl ?_
  refine am_pv_cons (v_if_ne (off := 8) (by decide +kernel) rfl) rfl ?_
  refine am_pv_cons (v_iload_n (q := 3) (by decide +kernel) rfl) rfl ?_
  refine am_pv_cons (v_iload (by decide +kernel)) rfl ?_
  refine am_pv_cons (v_ior (by decide +kernel)) rfl ?_
  refine am_pv_cons (v_istore_n (q := 3) (by decide +kernel) rfl) rfl ?_
  refine am_pv_cons (v_iinc (n := 1) (by decide +kernel) (by decide +kernel)) rfl ?_
  refine am_pv_cons (v_goto (off := -52) (by decide +kernel) rfl) rfl ?_
  refine am_pv_cons (v_goto (off := -67) (by decide +kernel) rfl) rfl ?_
  refine am_pv_cons (v_iload_n (q := 3) (by decide +kernel) rfl) rfl ?_
  refine am_pv_cons (v_ireturn (by decide +kernel)) trivial ?_
  exact trivial
def P_MO_isPeace (E : am_E) (k : Nat) : am_P := [(0, aLa 0), (1, aI 0), (2, aPut 12 34), (5, aI 0), (6, aSi 2), (7, aI 0), (8, aSi 3), (9, aLi 3), (10, aLa 0), (11, aGet 12 9), (14, c_ge 214), (17, aLi 2), (18, aLi 3), (19, a_ishr), (20, aI 1), (21, a_iand), (22, aI 1), (23, c_eq 208), (26, aLi 1), (27, aLi 3), (28, a_ishr), (29, aI 1), (30, a_iand), (31, aI 1), (32, c_ne 38), (35, aGo 208), (38, aLi 2), (39, aI 1), (40, aLi 3), (41, a_ishl), (42, a_ior), (43, aSi 2), (44, aI 1), (45, aSi 4), (47, aLi 4), (49, z_eq 208), (52, aI 0), (53, aSi 4), (55, aI 0), (56, aSi 5), (58, aLi 5), (60, aLa 0), (61, aGet 12 16), (64, c_ge 205), (67, aLa 0), (68, aGet 12 10), (71, aLi 5), (73, aAld 0), (74, aSi 6), (76, aLa 0), (77, aGet 12 11), (80, aLi 5), (82, aAld 0), (83, aSi 7), (85, aI 1), (86, aLi 6), (88, a_ishl), (89, aI 1), (90, aLi 7), (92, a_ishl), (93, a_ior), (94, aLi 1), (95, a_iand), (96, z_ne 199), (99, aLi 2), (100, aLi 6), (102, a_ishr), (103, aI 1), (104, a_iand), (105, aLi 2), (106, aLi 7), (108, a_ishr), (109, aI 1), (110, a_iand), (111, c_ne 117), (114, aGo 199), (117, aLi 2), (118, aLi 6), (120, a_ishr), (121, aI 1), (122, a_iand), (123, aI 1), (124, c_ne 132), (127, aLi 6), (129, aGo 134), (132, aLi 7), (134, aSi 8), (136, aLi 8), (138, aLi 6), (140, c_ne 148), (143, aLi 7), (145, aGo 150), (148, aLi 6), (150, aSi 9), (152, aLi 2), (153, aI 1), (154, aLi 9), (156, a_ishl), (157, a_ior), (158, aSi 2), (159, aLa 0), (160, aDup), (161, aGet 12 34), (164, aLa 0), (165, aGet 12 34), (168, aLi 8), (170, a_ishr), (171, aI 1), (172, a_iand), (173, aLa 0), (174, aGet 12 12), (177, aLi 5), (179, aAld 0), (180, z_ge 187), (183, aI 1), (184, aGo 188), (187, aI 0), (188, a_ixor), (189, aLi 9), (191, a_ishl), (192, a_ior), (193, aPut 12 34), (196, aI 1), (197, aSi 4), (199, aInc 5 1), (202, aGo 58), (205, aGo 47), (208, aInc 3 1), (211, aGo 9), (214, aI 0), (215, aSi 3), (216, aLi 3), (217, aLa 0), (218, aGet 12 16), (221, c_ge 321), (224, aI 1), (225, aLa 0), (226, aGet 12 10), (229, aLi 3), (230, aAld 0), (231, a_ishl), (232, aI 1), (233, aLa 0), (234, aGet 12 11), (237, aLi 3), (238, aAld 0), (239, a_ishl), (240, a_ior), (241, aLi 1), (242, a_iand), (243, z_eq 250), (246, aI 1), (247, aGo 251), (250, aI 0), (251, aSi 4), (253, aLa 0), (254, aGet 12 34), (257, aLa 0), (258, aGet 12 10), (261, aLi 3), (262, aAld 0), (263, a_ishr), (264, aI 1), (265, a_iand), (266, aLa 0), (267, aGet 12 34), (270, aLa 0), (271, aGet 12 11), (274, aLi 3), (275, aAld 0), (276, a_ishr), (277, aI 1), (278, a_iand), (279, c_eq 286), (282, aI 1), (283, aGo 287), (286, aI 0), (287, aSi 5), (289, aLi 4), (291, z_ne 315), (294, aLi 5), (296, aLa 0), (297, aGet 12 12), (300, aLi 3), (301, aAld 0), (302, z_ge 309), (305, aI 1), (306, aGo 310), (309, aI 0), (310, c_eq 315), (313, aI 0), (314, aRi), (315, aInc 3 1), (318, aGo 216), (321, aI 1), (322, aRi)]
set_option maxRecDepth 20000 in
theorem pv_MO_isPeace (E : am_E) (k : Nat) : am_pv E k Y_MO_isPeace.2.1 Y_MO_isPeace.2.2.1 Y_MO_isPeace.1.cls (P_MO_isPeace E k) := by
  refine am_pv_cons (v_aload_n (q := 0) (by decide +kernel) rfl) rfl ?_
  refine am_pv_cons (v_iconst (n := 0) (by decide +kernel) rfl) rfl ?_
  refine am_pv_cons (v_put fw_MO_356 (by decide +kernel)) rfl ?_
  refine am_pv_cons (v_iconst (n := 0) (by decide +kernel) rfl) rfl ?_
  refine am_pv_cons (v_istore_n (q := 2) (by decide +kernel) rfl) rfl ?_
  refine am_pv_cons (v_iconst (n := 0) (by decide +kernel) rfl) rfl ?_
  refine am_pv_cons (v_istore_n (q := 3) (by decide +kernel) rfl) rfl ?_
  refine am_pv_cons (v_iload_n (q := 3) (by decide +kernel) rfl) rfl ?_
  refine am_pv_cons (v_aload_n (q := 0) (by decide +kernel) rfl) rfl ?_
  refine am_pv_cons (v_get fl_MO_116 (by decide +kernel)) rfl ?_
  refine am_pv_cons (v_ic_ge (off := 200) (by decide +kernel) rfl) rfl ?_
  refine am_pv_cons (v_iload_n (q := 2) (by decide +kernel) rfl) rfl ?_
  refine am_pv_cons (v_iload_n (q := 3) (by decide +kernel) rfl) rfl ?_
  refine am_pv_cons (v_ishr (by decide +kernel)) rfl ?_
  refine am_pv_cons (v_iconst (n := 1) (by decide +kernel) rfl) rfl ?_
  refine am_pv_cons (v_iand (by decide +kernel)) rfl ?_
  refine am_pv_cons (v_iconst (n := 1) (by decide +kernel) rfl) rfl ?_
  refine am_pv_cons (v_ic_eq (off := 185) (by decide +kernel) rfl) rfl ?_
  refine am_pv_cons (v_iload_n (q := 1) (by decide +kernel) rfl) rfl ?_
  refine am_pv_cons (v_iload_n (q := 3) (by decide +kernel) rfl) rfl ?_
  refine am_pv_cons (v_ishr (by decide +kernel)) rfl ?_
  refine am_pv_cons (v_iconst (n := 1) (by decide +kernel) rfl) rfl ?_
  refine am_pv_cons (v_iand (by decide +kernel)) rfl ?_
  refine am_pv_cons (v_iconst (n := 1) (by decide +kernel) rfl) rfl ?_
  refine am_pv_cons (v_ic_ne (off := 6) (by decide +kernel) rfl) rfl ?_
  refine am_pv_cons (v_goto (off := 173) (by decide +kernel) rfl) rfl ?_
  refine am_pv_cons (v_iload_n (q := 2) (by decide +kernel) rfl) rfl ?_
  refine am_pv_cons (v_iconst (n := 1) (by decide +kernel) rfl) rfl ?_
  refine am_pv_cons (v_iload_n (q := 3) (by decide +kernel) rfl) rfl ?_
  refine am_pv_cons (v_ishl (by decide +kernel)) rfl ?_
  refine am_pv_cons (v_ior (by decide +kernel)) rfl ?_
  refine am_pv_cons (v_istore_n (q := 2) (by decide +kernel) rfl) rfl ?_
  refine am_pv_cons (v_iconst (n := 1) (by decide +kernel) rfl) rfl ?_
  refine am_pv_cons (v_istore (by decide +kernel)) rfl ?_
  refine am_pv_cons (v_iload (by decide +kernel)) rfl ?_
  refine am_pv_cons (v_if_eq (off := 159) (by decide +kernel) rfl) rfl ?_
  refine am_pv_cons (v_iconst (n := 0) (by decide +kernel) rfl) rfl ?_
  refine am_pv_cons (v_istore (by decide +kernel)) rfl ?_
  refine am_pv_cons (v_iconst (n := 0) (by decide +kernel) rfl) rfl ?_
  refine am_pv_cons (v_istore (by decide +kernel)) rfl ?_
  refine am_pv_cons (v_iload (by decide +kernel)) rfl ?_
  refine am_pv_cons (v_aload_n (q := 0) (by decide +kernel) rfl) rfl ?_
  refine am_pv_cons (v_get fl_MO_123 (by decide +kernel)) rfl ?_
  refine am_pv_cons (v_ic_ge (off := 141) (by decide +kernel) rfl) rfl ?_
  refine am_pv_cons (v_aload_n (q := 0) (by decide +kernel) rfl) rfl ?_
  refine am_pv_cons (v_get fl_MO_29 (by decide +kernel)) rfl ?_
  refine am_pv_cons (v_iload (by decide +kernel)) rfl ?_
  refine am_pv_cons (v_iald (by decide +kernel)) rfl ?_
  refine am_pv_cons (v_istore (by decide +kernel)) rfl ?_
  refine am_pv_cons (v_aload_n (q := 0) (by decide +kernel) rfl) rfl ?_
  refine am_pv_cons (v_get fl_MO_32 (by decide +kernel)) rfl ?_
  refine am_pv_cons (v_iload (by decide +kernel)) rfl ?_
  refine am_pv_cons (v_iald (by decide +kernel)) rfl ?_
  refine am_pv_cons (v_istore (by decide +kernel)) rfl ?_
  refine am_pv_cons (v_iconst (n := 1) (by decide +kernel) rfl) rfl ?_
  refine am_pv_cons (v_iload (by decide +kernel)) rfl ?_
  refine am_pv_cons (v_ishl (by decide +kernel)) rfl ?_
  refine am_pv_cons (v_iconst (n := 1) (by decide +kernel) rfl) rfl ?_
  refine am_pv_cons (v_iload (by decide +kernel)) rfl ?_
  refine am_pv_cons (v_ishl (by decide +kernel)) rfl ?_
  refine am_pv_cons (v_ior (by decide +kernel)) rfl ?_
  refine am_pv_cons (v_iload_n (q := 1) (by decide +kernel) rfl) rfl ?_
  refine am_pv_cons (v_iand (by decide +kernel)) rfl ?_
  refine am_pv_cons (v_if_ne (off := 103) (by decide +kernel) rfl) rfl ?_
  refine am_pv_cons (v_iload_n (q := 2) (by decide +kernel) rfl) rfl ?_
  refine am_pv_cons (v_iload (by decide +kernel)) rfl ?_
  refine am_pv_cons (v_ishr (by decide +kernel)) rfl ?_
  refine am_pv_cons (v_iconst (n := 1) (by decide +kernel) rfl) rfl ?_
  refine am_pv_cons (v_iand (by decide +kernel)) rfl ?_
  refine am_pv_cons (v_iload_n (q := 2) (by decide +kernel) rfl) rfl ?_
  refine am_pv_cons (v_iload (by decide +kernel)) rfl ?_
  refine am_pv_cons (v_ishr (by decide +kernel)) rfl ?_
  refine am_pv_cons (v_iconst (n := 1) (by decide +kernel) rfl) rfl ?_
  refine am_pv_cons (v_iand (by decide +kernel)) rfl ?_
  refine am_pv_cons (v_ic_ne (off := 6) (by decide +kernel) rfl) rfl ?_
  refine am_pv_cons (v_goto (off := 85) (by decide +kernel) rfl) rfl ?_
  refine am_pv_cons (v_iload_n (q := 2) (by decide +kernel) rfl) rfl ?_
  refine am_pv_cons (v_iload (by decide +kernel)) rfl ?_
  refine am_pv_cons (v_ishr (by decide +kernel)) rfl ?_
  refine am_pv_cons (v_iconst (n := 1) (by decide +kernel) rfl) rfl ?_
  refine am_pv_cons (v_iand (by decide +kernel)) rfl ?_
  refine am_pv_cons (v_iconst (n := 1) (by decide +kernel) rfl) rfl ?_
  refine am_pv_cons (v_ic_ne (off := 8) (by decide +kernel) rfl) rfl ?_
  refine am_pv_cons (v_iload (by decide +kernel)) rfl ?_
  refine am_pv_cons (v_goto (off := 5) (by decide +kernel) rfl) rfl ?_
  refine am_pv_cons (v_iload (by decide +kernel)) rfl ?_
  refine am_pv_cons (v_istore (by decide +kernel)) rfl ?_
  refine am_pv_cons (v_iload (by decide +kernel)) rfl ?_
  refine am_pv_cons (v_iload (by decide +kernel)) rfl ?_
  refine am_pv_cons (v_ic_ne (off := 8) (by decide +kernel) rfl) rfl ?_
  refine am_pv_cons (v_iload (by decide +kernel)) rfl ?_
  refine am_pv_cons (v_goto (off := 5) (by decide +kernel) rfl) rfl ?_
  refine am_pv_cons (v_iload (by decide +kernel)) rfl ?_
  refine am_pv_cons (v_istore (by decide +kernel)) rfl ?_
  refine am_pv_cons (v_iload_n (q := 2) (by decide +kernel) rfl) rfl ?_
  refine am_pv_cons (v_iconst (n := 1) (by decide +kernel) rfl) rfl ?_
  refine am_pv_cons (v_iload (by decide +kernel)) rfl ?_
  refine am_pv_cons (v_ishl (by decide +kernel)) rfl ?_
  refine am_pv_cons (v_ior (by decide +kernel)) rfl ?_
  refine am_pv_cons (v_istore_n (q := 2) (by decide +kernel) rfl) rfl ?_
  refine am_pv_cons (v_aload_n (q := 0) (by decide +kernel) rfl) rfl ?_
  refine am_pv_cons (v_dup (by decide +kernel)) rfl ?_
  refine am_pv_cons (v_get fl_MO_356 (by decide +kernel)) rfl ?_
  refine am_pv_cons (v_aload_n (q := 0) (by decide +kernel) rfl) rfl ?_
  refine am_pv_cons (v_get fl_MO_356 (by decide +kernel)) rfl ?_
  refine am_pv_cons (v_iload (by decide +kernel)) rfl ?_
  refine am_pv_cons (v_ishr (by decide +kernel)) rfl ?_
  refine am_pv_cons (v_iconst (n := 1) (by decide +kernel) rfl) rfl ?_
  refine am_pv_cons (v_iand (by decide +kernel)) rfl ?_
  refine am_pv_cons (v_aload_n (q := 0) (by decide +kernel) rfl) rfl ?_
  refine am_pv_cons (v_get fl_MO_35 (by decide +kernel)) rfl ?_
  refine am_pv_cons (v_iload (by decide +kernel)) rfl ?_
  refine am_pv_cons (v_iald (by decide +kernel)) rfl ?_
  refine am_pv_cons (v_if_ge (off := 7) (by decide +kernel) rfl) rfl ?_
  refine am_pv_cons (v_iconst (n := 1) (by decide +kernel) rfl) rfl ?_
  refine am_pv_cons (v_goto (off := 4) (by decide +kernel) rfl) rfl ?_
  refine am_pv_cons (v_iconst (n := 0) (by decide +kernel) rfl) rfl ?_
  refine am_pv_cons (v_ixor (by decide +kernel)) rfl ?_
  refine am_pv_cons (v_iload (by decide +kernel)) rfl ?_
  refine am_pv_cons (v_ishl (by decide +kernel)) rfl ?_
  refine am_pv_cons (v_ior (by decide +kernel)) rfl ?_
  refine am_pv_cons (v_put fw_MO_356 (by decide +kernel)) rfl ?_
  refine am_pv_cons (v_iconst (n := 1) (by decide +kernel) rfl) rfl ?_
  refine am_pv_cons (v_istore (by decide +kernel)) rfl ?_
  refine am_pv_cons (v_iinc (n := 1) (by decide +kernel) (by decide +kernel)) rfl ?_
  refine am_pv_cons (v_goto (off := -144) (by decide +kernel) rfl) rfl ?_
  refine am_pv_cons (v_goto (off := -158) (by decide +kernel) rfl) rfl ?_
  refine am_pv_cons (v_iinc (n := 1) (by decide +kernel) (by decide +kernel)) rfl ?_
  refine am_pv_cons (v_goto (off := -202) (by decide +kernel) rfl) rfl ?_
  refine am_pv_cons (v_iconst (n := 0) (by decide +kernel) rfl) rfl ?_
  refine am_pv_cons (v_istore_n (q := 3) (by decide +kernel) rfl) rfl ?_
  refine am_pv_cons (v_iload_n (q := 3) (by decide +kernel) rfl) rfl ?_
  refine am_pv_cons (v_aload_n (q := 0) (by decide +kernel) rfl) rfl ?_
  refine am_pv_cons (v_get fl_MO_123 (by decide +kernel)) rfl ?_
  refine am_pv_cons (v_ic_ge (off := 100) (by decide +kernel) rfl) rfl ?_
  refine am_pv_cons (v_iconst (n := 1) (by decide +kernel) rfl) rfl ?_
  refine am_pv_cons (v_aload_n (q := 0) (by decide +kernel) rfl) rfl ?_
  refine am_pv_cons (v_get fl_MO_29 (by decide +kernel)) rfl ?_
  refine am_pv_cons (v_iload_n (q := 3) (by decide +kernel) rfl) rfl ?_
  refine am_pv_cons (v_iald (by decide +kernel)) rfl ?_
  refine am_pv_cons (v_ishl (by decide +kernel)) rfl ?_
  refine am_pv_cons (v_iconst (n := 1) (by decide +kernel) rfl) rfl ?_
  refine am_pv_cons (v_aload_n (q := 0) (by decide +kernel) rfl) rfl ?_
  refine am_pv_cons (v_get fl_MO_32 (by decide +kernel)) rfl ?_
  refine am_pv_cons (v_iload_n (q := 3) (by decide +kernel) rfl) rfl ?_
  refine am_pv_cons (v_iald (by decide +kernel)) rfl ?_
  refine am_pv_cons (v_ishl (by decide +kernel)) rfl ?_
  refine am_pv_cons (v_ior (by decide +kernel)) rfl ?_
  refine am_pv_cons (v_iload_n (q := 1) (by decide +kernel) rfl) rfl ?_
  refine am_pv_cons (v_iand (by decide +kernel)) rfl ?_
  refine am_pv_cons (v_if_eq (off := 7) (by decide +kernel) rfl) rfl ?_
  refine am_pv_cons (v_iconst (n := 1) (by decide +kernel) rfl) rfl ?_
  refine am_pv_cons (v_goto (off := 4) (by decide +kernel) rfl) rfl ?_
  refine am_pv_cons (v_iconst (n := 0) (by decide +kernel) rfl) rfl ?_
  refine am_pv_cons (v_istore (by decide +kernel)) rfl ?_
  refine am_pv_cons (v_aload_n (q := 0) (by decide +kernel) rfl) rfl ?_
  refine am_pv_cons (v_get fl_MO_356 (by decide +kernel)) rfl ?_
  refine am_pv_cons (v_aload_n (q := 0) (by decide +kernel) rfl) rfl ?_
  refine am_pv_cons (v_get fl_MO_29 (by decide +kernel)) rfl ?_
  refine am_pv_cons (v_iload_n (q := 3) (by decide +kernel) rfl) rfl ?_
  refine am_pv_cons (v_iald (by decide +kernel)) rfl ?_
  refine am_pv_cons (v_ishr (by decide +kernel)) rfl ?_
  refine am_pv_cons (v_iconst (n := 1) (by decide +kernel) rfl) rfl ?_
  refine am_pv_cons (v_iand (by decide +kernel)) rfl ?_
  refine am_pv_cons (v_aload_n (q := 0) (by decide +kernel) rfl) rfl ?_
  refine am_pv_cons (v_get fl_MO_356 (by decide +kernel)) rfl ?_
  refine am_pv_cons (v_aload_n (q := 0) (by decide +kernel) rfl) rfl ?_
  refine am_pv_cons (v_get fl_MO_32 (by decide +kernel)) rfl ?_
  refine am_pv_cons (v_iload_n (q := 3) (by decide +kernel) rfl) rfl ?_
  refine am_pv_cons (v_iald (by decide +kernel)) rfl ?_
  refine am_pv_cons (v_ishr (by decide +kernel)) rfl ?_
  refine am_pv_cons (v_iconst (n := 1) (by decide +kernel) rfl) rfl ?_
  refine am_pv_cons (v_iand (by decide +kernel)) rfl ?_
  refine am_pv_cons (v_ic_eq (off := 7) (by decide +kernel) rfl) rfl ?_
  refine am_pv_cons (v_iconst (n := 1) (by decide +kernel) rfl) rfl ?_
  refine am_pv_cons (v_goto (off := 4) (by decide +kernel) rfl) rfl ?_
  refine am_pv_cons (v_iconst (n := 0) (by decide +kernel) rfl) rfl ?_
  refine am_pv_cons (v_istore (by decide +kernel)) rfl ?_
  refine am_pv_cons (v_iload (by decide +kernel)) rfl ?_
  refine am_pv_cons (v_if_ne (off := 24) (by decide +kernel) rfl) rfl ?_
  refine am_pv_cons (v_iload (by decide +kernel)) rfl ?_
  refine am_pv_cons (v_aload_n (q := 0) (by decide +kernel) rfl) rfl ?_
  refine am_pv_cons (v_get fl_MO_35 (by decide +kernel)) rfl ?_
  refine am_pv_cons (v_iload_n (q := 3) (by decide +kernel) rfl) rfl ?_
  refine am_pv_cons (v_iald (by decide +kernel)) rfl ?_
  refine am_pv_cons (v_if_ge (off := 7) (by decide +kernel) rfl) rfl ?_
  refine am_pv_cons (v_iconst (n := 1) (by decide +kernel) rfl) rfl ?_
  refine am_pv_cons (v_goto (off := 4) (by decide +kernel) rfl) rfl ?_
  refine am_pv_cons (v_iconst (n := 0) (by decide +kernel) rfl) rfl ?_
  refine am_pv_cons (v_ic_eq (off := 5) (by decide +kernel) rfl) rfl ?_
  refine am_pv_cons (v_iconst (n := 0) (by decide +kernel) rfl) rfl ?_
  refine am_pv_cons (v_ireturn (by decide +kernel)) rfl ?_
  refine am_pv_cons (v_iinc (n := 1) (by decide +kernel) (by decide +kernel)) rfl ?_
  refine am_pv_cons (v_goto (off := -102) (by decide +kernel) rfl) rfl ?_
  refine am_pv_cons (v_iconst (n := 1) (by decide +kernel) rfl) rfl ?_
  refine am_pv_cons (v_ireturn (by decide +kernel)) trivial ?_
  exact trivial
def P_MO_peace (E : am_E) (k : Nat) : am_P := [(0, aLa 0), (1, aI 0), (2, aIv E k 12 1 Y_MO_isPeace), (5, z_eq 15), (8, aLa 0), (9, aGet 12 34), (12, aGo 16), (15, aI (-1)), (16, aRi)]
set_option maxRecDepth 20000 in
theorem pv_MO_peace (E : am_E) (k : Nat) : am_pv E k Y_MO_peace.2.1 Y_MO_peace.2.2.1 Y_MO_peace.1.cls (P_MO_peace E k) := by
  refine am_pv_cons (v_aload_n (q := 0) (by decide +kernel) rfl) rfl ?_
  refine am_pv_cons (v_iconst (n := 0) (by decide +kernel) rfl) rfl ?_
  refine am_pv_cons (v_virt (idx := 359) yv_MO_isPeace rfl rfl (tb7 95 (by decide +kernel) rfl) (by decide +kernel)) rfl ?_
  refine am_pv_cons (v_if_eq (off := 10) (by decide +kernel) rfl) rfl ?_
  refine am_pv_cons (v_aload_n (q := 0) (by decide +kernel) rfl) rfl ?_
  refine am_pv_cons (v_get fl_MO_356 (by decide +kernel)) rfl ?_
  refine am_pv_cons (v_goto (off := 4) (by decide +kernel) rfl) rfl ?_
  refine am_pv_cons (v_iconst (n := -1) (by decide +kernel) rfl) rfl ?_
  refine am_pv_cons (v_ireturn (by decide +kernel)) trivial ?_
  exact trivial
def P_MO_walk (E : am_E) (k : Nat) : am_P := [(0, aI 0), (1, aSi 2), (2, aLi 2), (3, aI 18), (5, c_ge 28), (8, aLa 0), (9, aGet 12 37), (12, aLi 2), (13, aI (-1)), (14, aAst), (15, aLa 0), (16, aGet 12 36), (19, aLi 2), (20, aI (-1)), (21, aAst), (22, aInc 2 1), (25, aGo 2), (28, aLa 0), (29, aGet 12 35), (32, aI 0), (33, aI 2), (34, aLi 1), (35, a_imul), (36, aAst), (37, aLa 0), (38, aGet 12 37), (41, aI 2), (42, aLi 1), (43, a_imul), (44, aI 0), (45, aAst), (46, aI 1), (47, aSi 2), (48, aI 0), (49, aSi 3), (50, aLi 3), (51, aLi 2), (52, c_ge 198), (55, aLa 0), (56, aGet 12 35), (59, aLi 3), (60, aAld 0), (61, aSi 4), (63, aI 0), (64, aSi 5), (66, aLi 5), (68, aLa 0), (69, aGet 12 9), (72, c_ge 192), (75, aLi 5), (77, aLi 4), (79, aI 2), (80, a_idiv), (81, c_ne 88), (84, aI (-1)), (85, aGo 98), (88, aLa 0), (89, aLi 4), (91, aI 2), (92, a_idiv), (93, aLi 5), (95, aIv E k 12 2 Y_MO_of), (98, aSi 6), (100, aLi 6), (102, aI (-1)), (103, c_ne 109), (106, aGo 186), (109, aI 2), (110, aLi 5), (112, a_imul), (113, aLi 4), (115, aI 2), (116, a_irem), (117, aLa 0), (118, aGet 12 12), (121, aLi 6), (123, aAld 0), (124, z_ge 131), (127, aI 1), (128, aGo 132), (131, aI 0), (132, a_ixor), (133, a_iadd), (134, aSi 7), (136, aLa 0), (137, aGet 12 37), (140, aLi 7), (142, aAld 0), (143, aI (-1)), (144, c_eq 150), (147, aGo 186), (150, aLa 0), (151, aGet 12 37), (154, aLi 7), (156, aLa 0), (157, aGet 12 37), (160, aLi 4), (162, aAld 0), (163, aI 1), (164, a_iadd), (165, aAst), (166, aLa 0), (167, aGet 12 36), (170, aLi 7), (172, aLi 4), (174, aAst), (175, aLa 0), (176, aGet 12 35), (179, aLi 2), (180, aLi 7), (182, aAst), (183, aInc 2 1), (186, aInc 5 1), (189, aGo 66), (192, aInc 3 1), (195, aGo 50), (198, aLa 0), (199, aGet 12 37), (202, aI 2), (203, aLi 1), (204, a_imul), (205, aI 1), (206, a_iadd), (207, aAld 0), (208, aRi)]
set_option maxRecDepth 20000 in
theorem pv_MO_walk (E : am_E) (k : Nat) : am_pv E k Y_MO_walk.2.1 Y_MO_walk.2.2.1 Y_MO_walk.1.cls (P_MO_walk E k) := by
  refine am_pv_cons (v_iconst (n := 0) (by decide +kernel) rfl) rfl ?_
  refine am_pv_cons (v_istore_n (q := 2) (by decide +kernel) rfl) rfl ?_
  refine am_pv_cons (v_iload_n (q := 2) (by decide +kernel) rfl) rfl ?_
  refine am_pv_cons (v_bipush (n := 18) (by decide +kernel) (by decide +kernel)) rfl ?_
  refine am_pv_cons (v_ic_ge (off := 23) (by decide +kernel) rfl) rfl ?_
  refine am_pv_cons (v_aload_n (q := 0) (by decide +kernel) rfl) rfl ?_
  refine am_pv_cons (v_get fl_MO_65 (by decide +kernel)) rfl ?_
  refine am_pv_cons (v_iload_n (q := 2) (by decide +kernel) rfl) rfl ?_
  refine am_pv_cons (v_iconst (n := -1) (by decide +kernel) rfl) rfl ?_
  refine am_pv_cons (v_iast (by decide +kernel)) rfl ?_
  refine am_pv_cons (v_aload_n (q := 0) (by decide +kernel) rfl) rfl ?_
  refine am_pv_cons (v_get fl_MO_62 (by decide +kernel)) rfl ?_
  refine am_pv_cons (v_iload_n (q := 2) (by decide +kernel) rfl) rfl ?_
  refine am_pv_cons (v_iconst (n := -1) (by decide +kernel) rfl) rfl ?_
  refine am_pv_cons (v_iast (by decide +kernel)) rfl ?_
  refine am_pv_cons (v_iinc (n := 1) (by decide +kernel) (by decide +kernel)) rfl ?_
  refine am_pv_cons (v_goto (off := -23) (by decide +kernel) rfl) rfl ?_
  refine am_pv_cons (v_aload_n (q := 0) (by decide +kernel) rfl) rfl ?_
  refine am_pv_cons (v_get fl_MO_59 (by decide +kernel)) rfl ?_
  refine am_pv_cons (v_iconst (n := 0) (by decide +kernel) rfl) rfl ?_
  refine am_pv_cons (v_iconst (n := 2) (by decide +kernel) rfl) rfl ?_
  refine am_pv_cons (v_iload_n (q := 1) (by decide +kernel) rfl) rfl ?_
  refine am_pv_cons (v_imul (by decide +kernel)) rfl ?_
  refine am_pv_cons (v_iast (by decide +kernel)) rfl ?_
  refine am_pv_cons (v_aload_n (q := 0) (by decide +kernel) rfl) rfl ?_
  refine am_pv_cons (v_get fl_MO_65 (by decide +kernel)) rfl ?_
  refine am_pv_cons (v_iconst (n := 2) (by decide +kernel) rfl) rfl ?_
  refine am_pv_cons (v_iload_n (q := 1) (by decide +kernel) rfl) rfl ?_
  refine am_pv_cons (v_imul (by decide +kernel)) rfl ?_
  refine am_pv_cons (v_iconst (n := 0) (by decide +kernel) rfl) rfl ?_
  refine am_pv_cons (v_iast (by decide +kernel)) rfl ?_
  refine am_pv_cons (v_iconst (n := 1) (by decide +kernel) rfl) rfl ?_
  refine am_pv_cons (v_istore_n (q := 2) (by decide +kernel) rfl) rfl ?_
  refine am_pv_cons (v_iconst (n := 0) (by decide +kernel) rfl) rfl ?_
  refine am_pv_cons (v_istore_n (q := 3) (by decide +kernel) rfl) rfl ?_
  refine am_pv_cons (v_iload_n (q := 3) (by decide +kernel) rfl) rfl ?_
  refine am_pv_cons (v_iload_n (q := 2) (by decide +kernel) rfl) rfl ?_
  refine am_pv_cons (v_ic_ge (off := 146) (by decide +kernel) rfl) rfl ?_
  refine am_pv_cons (v_aload_n (q := 0) (by decide +kernel) rfl) rfl ?_
  refine am_pv_cons (v_get fl_MO_59 (by decide +kernel)) rfl ?_
  refine am_pv_cons (v_iload_n (q := 3) (by decide +kernel) rfl) rfl ?_
  refine am_pv_cons (v_iald (by decide +kernel)) rfl ?_
  refine am_pv_cons (v_istore (by decide +kernel)) rfl ?_
  refine am_pv_cons (v_iconst (n := 0) (by decide +kernel) rfl) rfl ?_
  refine am_pv_cons (v_istore (by decide +kernel)) rfl ?_
  refine am_pv_cons (v_iload (by decide +kernel)) rfl ?_
  refine am_pv_cons (v_aload_n (q := 0) (by decide +kernel) rfl) rfl ?_
  refine am_pv_cons (v_get fl_MO_116 (by decide +kernel)) rfl ?_
  refine am_pv_cons (v_ic_ge (off := 120) (by decide +kernel) rfl) rfl ?_
  refine am_pv_cons (v_iload (by decide +kernel)) rfl ?_
  refine am_pv_cons (v_iload (by decide +kernel)) rfl ?_
  refine am_pv_cons (v_iconst (n := 2) (by decide +kernel) rfl) rfl ?_
  refine am_pv_cons (v_idiv (by decide +kernel)) rfl ?_
  refine am_pv_cons (v_ic_ne (off := 7) (by decide +kernel) rfl) rfl ?_
  refine am_pv_cons (v_iconst (n := -1) (by decide +kernel) rfl) rfl ?_
  refine am_pv_cons (v_goto (off := 13) (by decide +kernel) rfl) rfl ?_
  refine am_pv_cons (v_aload_n (q := 0) (by decide +kernel) rfl) rfl ?_
  refine am_pv_cons (v_iload (by decide +kernel)) rfl ?_
  refine am_pv_cons (v_iconst (n := 2) (by decide +kernel) rfl) rfl ?_
  refine am_pv_cons (v_idiv (by decide +kernel)) rfl ?_
  refine am_pv_cons (v_iload (by decide +kernel)) rfl ?_
  refine am_pv_cons (v_virt (idx := 134) yv_MO_of rfl rfl (tb6 119 (by decide +kernel) rfl) (by decide +kernel)) rfl ?_
  refine am_pv_cons (v_istore (by decide +kernel)) rfl ?_
  refine am_pv_cons (v_iload (by decide +kernel)) rfl ?_
  refine am_pv_cons (v_iconst (n := -1) (by decide +kernel) rfl) rfl ?_
  refine am_pv_cons (v_ic_ne (off := 6) (by decide +kernel) rfl) rfl ?_
  refine am_pv_cons (v_goto (off := 80) (by decide +kernel) rfl) rfl ?_
  refine am_pv_cons (v_iconst (n := 2) (by decide +kernel) rfl) rfl ?_
  refine am_pv_cons (v_iload (by decide +kernel)) rfl ?_
  refine am_pv_cons (v_imul (by decide +kernel)) rfl ?_
  refine am_pv_cons (v_iload (by decide +kernel)) rfl ?_
  refine am_pv_cons (v_iconst (n := 2) (by decide +kernel) rfl) rfl ?_
  refine am_pv_cons (v_irem (by decide +kernel)) rfl ?_
  refine am_pv_cons (v_aload_n (q := 0) (by decide +kernel) rfl) rfl ?_
  refine am_pv_cons (v_get fl_MO_35 (by decide +kernel)) rfl ?_
  refine am_pv_cons (v_iload (by decide +kernel)) rfl ?_
  refine am_pv_cons (v_iald (by decide +kernel)) rfl ?_
  refine am_pv_cons (v_if_ge (off := 7) (by decide +kernel) rfl) rfl ?_
  refine am_pv_cons (v_iconst (n := 1) (by decide +kernel) rfl) rfl ?_
  refine am_pv_cons (v_goto (off := 4) (by decide +kernel) rfl) rfl ?_
  refine am_pv_cons (v_iconst (n := 0) (by decide +kernel) rfl) rfl ?_
  refine am_pv_cons (v_ixor (by decide +kernel)) rfl ?_
  refine am_pv_cons (v_iadd (by decide +kernel)) rfl ?_
  refine am_pv_cons (v_istore (by decide +kernel)) rfl ?_
  refine am_pv_cons (v_aload_n (q := 0) (by decide +kernel) rfl) rfl ?_
  refine am_pv_cons (v_get fl_MO_65 (by decide +kernel)) rfl ?_
  refine am_pv_cons (v_iload (by decide +kernel)) rfl ?_
  refine am_pv_cons (v_iald (by decide +kernel)) rfl ?_
  refine am_pv_cons (v_iconst (n := -1) (by decide +kernel) rfl) rfl ?_
  refine am_pv_cons (v_ic_eq (off := 6) (by decide +kernel) rfl) rfl ?_
  refine am_pv_cons (v_goto (off := 39) (by decide +kernel) rfl) rfl ?_
  refine am_pv_cons (v_aload_n (q := 0) (by decide +kernel) rfl) rfl ?_
  refine am_pv_cons (v_get fl_MO_65 (by decide +kernel)) rfl ?_
  refine am_pv_cons (v_iload (by decide +kernel)) rfl ?_
  refine am_pv_cons (v_aload_n (q := 0) (by decide +kernel) rfl) rfl ?_
  refine am_pv_cons (v_get fl_MO_65 (by decide +kernel)) rfl ?_
  refine am_pv_cons (v_iload (by decide +kernel)) rfl ?_
  refine am_pv_cons (v_iald (by decide +kernel)) rfl ?_
  refine am_pv_cons (v_iconst (n := 1) (by decide +kernel) rfl) rfl ?_
  refine am_pv_cons (v_iadd (by decide +kernel)) rfl ?_
  refine am_pv_cons (v_iast (by decide +kernel)) rfl ?_
  refine am_pv_cons (v_aload_n (q := 0) (by decide +kernel) rfl) rfl ?_
  refine am_pv_cons (v_get fl_MO_62 (by decide +kernel)) rfl ?_
  refine am_pv_cons (v_iload (by decide +kernel)) rfl ?_
  refine am_pv_cons (v_iload (by decide +kernel)) rfl ?_
  refine am_pv_cons (v_iast (by decide +kernel)) rfl ?_
  refine am_pv_cons (v_aload_n (q := 0) (by decide +kernel) rfl) rfl ?_
  refine am_pv_cons (v_get fl_MO_59 (by decide +kernel)) rfl ?_
  refine am_pv_cons (v_iload_n (q := 2) (by decide +kernel) rfl) rfl ?_
  refine am_pv_cons (v_iload (by decide +kernel)) rfl ?_
  refine am_pv_cons (v_iast (by decide +kernel)) rfl ?_
  refine am_pv_cons (v_iinc (n := 1) (by decide +kernel) (by decide +kernel)) rfl ?_
  refine am_pv_cons (v_iinc (n := 1) (by decide +kernel) (by decide +kernel)) rfl ?_
  refine am_pv_cons (v_goto (off := -123) (by decide +kernel) rfl) rfl ?_
  refine am_pv_cons (v_iinc (n := 1) (by decide +kernel) (by decide +kernel)) rfl ?_
  refine am_pv_cons (v_goto (off := -145) (by decide +kernel) rfl) rfl ?_
  refine am_pv_cons (v_aload_n (q := 0) (by decide +kernel) rfl) rfl ?_
  refine am_pv_cons (v_get fl_MO_65 (by decide +kernel)) rfl ?_
  refine am_pv_cons (v_iconst (n := 2) (by decide +kernel) rfl) rfl ?_
  refine am_pv_cons (v_iload_n (q := 1) (by decide +kernel) rfl) rfl ?_
  refine am_pv_cons (v_imul (by decide +kernel)) rfl ?_
  refine am_pv_cons (v_iconst (n := 1) (by decide +kernel) rfl) rfl ?_
  refine am_pv_cons (v_iadd (by decide +kernel)) rfl ?_
  refine am_pv_cons (v_iald (by decide +kernel)) rfl ?_
  refine am_pv_cons (v_ireturn (by decide +kernel)) trivial ?_
  exact trivial
def P_MO_ring (E : am_E) (k : Nat) : am_P := [(0, aI (-1)), (1, aSi 2), (2, aI (-1)), (3, aSi 3), (4, aI 0), (5, aSi 4), (7, aLi 4), (9, aLa 0), (10, aGet 12 9), (13, c_ge 56), (16, aLa 0), (17, aLi 4), (19, aIv E k 12 1 Y_MO_walk), (22, aSi 5), (24, aLi 5), (26, aI (-1)), (27, c_eq 50), (30, aLi 2), (31, aI (-1)), (32, c_eq 44), (35, aLi 5), (37, aLi 2), (38, c_lt 44), (41, aGo 50), (44, aLi 5), (46, aSi 2), (47, aLi 4), (49, aSi 3), (50, aInc 4 1), (53, aGo 7), (56, aLi 1), (57, aI (-1)), (58, c_ne 63), (61, aLi 2), (62, aRi), (63, aLi 2), (64, aI (-1)), (65, c_eq 81), (68, aLi 1), (69, aI2L), (70, aJ 0), (71, aLi 2), (72, aI 1), (73, a_isub), (74, aI2L), (75, aIs E k 3 Y_MO_in), (78, z_ne 83), (81, aI (-1)), (82, aRi), (83, aLa 0), (84, aLi 3), (85, aIv E k 12 1 Y_MO_walk), (88, aSi 4), (90, aI 2), (91, aLi 3), (92, a_imul), (93, aI 1), (94, a_iadd), (95, aSi 5), (97, aLi 4), (99, aSi 6), (101, aLi 6), (103, z_le 134), (106, aLa 0), (107, aGet 12 36), (110, aLi 5), (112, aAld 0), (113, aSi 5), (115, aLa 0), (116, aGet 12 38), (119, aLi 6), (121, aI 1), (122, a_isub), (123, aLi 5), (125, aI 2), (126, a_idiv), (127, aAst), (128, aInc 6 (-1)), (131, aGo 101), (134, aLa 0), (135, aGet 12 38), (138, aLi 1), (139, aAld 0), (140, aRi)]
set_option maxRecDepth 20000 in
theorem pv_MO_ring (E : am_E) (k : Nat) : am_pv E k Y_MO_ring.2.1 Y_MO_ring.2.2.1 Y_MO_ring.1.cls (P_MO_ring E k) := by
  refine am_pv_cons (v_iconst (n := -1) (by decide +kernel) rfl) rfl ?_
  refine am_pv_cons (v_istore_n (q := 2) (by decide +kernel) rfl) rfl ?_
  refine am_pv_cons (v_iconst (n := -1) (by decide +kernel) rfl) rfl ?_
  refine am_pv_cons (v_istore_n (q := 3) (by decide +kernel) rfl) rfl ?_
  refine am_pv_cons (v_iconst (n := 0) (by decide +kernel) rfl) rfl ?_
  refine am_pv_cons (v_istore (by decide +kernel)) rfl ?_
  refine am_pv_cons (v_iload (by decide +kernel)) rfl ?_
  refine am_pv_cons (v_aload_n (q := 0) (by decide +kernel) rfl) rfl ?_
  refine am_pv_cons (v_get fl_MO_116 (by decide +kernel)) rfl ?_
  refine am_pv_cons (v_ic_ge (off := 43) (by decide +kernel) rfl) rfl ?_
  refine am_pv_cons (v_aload_n (q := 0) (by decide +kernel) rfl) rfl ?_
  refine am_pv_cons (v_iload (by decide +kernel)) rfl ?_
  refine am_pv_cons (v_virt (idx := 362) yv_MO_walk rfl rfl (tb7 103 (by decide +kernel) rfl) (by decide +kernel)) rfl ?_
  refine am_pv_cons (v_istore (by decide +kernel)) rfl ?_
  refine am_pv_cons (v_iload (by decide +kernel)) rfl ?_
  refine am_pv_cons (v_iconst (n := -1) (by decide +kernel) rfl) rfl ?_
  refine am_pv_cons (v_ic_eq (off := 23) (by decide +kernel) rfl) rfl ?_
  refine am_pv_cons (v_iload_n (q := 2) (by decide +kernel) rfl) rfl ?_
  refine am_pv_cons (v_iconst (n := -1) (by decide +kernel) rfl) rfl ?_
  refine am_pv_cons (v_ic_eq (off := 12) (by decide +kernel) rfl) rfl ?_
  refine am_pv_cons (v_iload (by decide +kernel)) rfl ?_
  refine am_pv_cons (v_iload_n (q := 2) (by decide +kernel) rfl) rfl ?_
  refine am_pv_cons (v_ic_lt (off := 6) (by decide +kernel) rfl) rfl ?_
  refine am_pv_cons (v_goto (off := 9) (by decide +kernel) rfl) rfl ?_
  refine am_pv_cons (v_iload (by decide +kernel)) rfl ?_
  refine am_pv_cons (v_istore_n (q := 2) (by decide +kernel) rfl) rfl ?_
  refine am_pv_cons (v_iload (by decide +kernel)) rfl ?_
  refine am_pv_cons (v_istore_n (q := 3) (by decide +kernel) rfl) rfl ?_
  refine am_pv_cons (v_iinc (n := 1) (by decide +kernel) (by decide +kernel)) rfl ?_
  refine am_pv_cons (v_goto (off := -46) (by decide +kernel) rfl) rfl ?_
  refine am_pv_cons (v_iload_n (q := 1) (by decide +kernel) rfl) rfl ?_
  refine am_pv_cons (v_iconst (n := -1) (by decide +kernel) rfl) rfl ?_
  refine am_pv_cons (v_ic_ne (off := 5) (by decide +kernel) rfl) rfl ?_
  refine am_pv_cons (v_iload_n (q := 2) (by decide +kernel) rfl) rfl ?_
  refine am_pv_cons (v_ireturn (by decide +kernel)) rfl ?_
  refine am_pv_cons (v_iload_n (q := 2) (by decide +kernel) rfl) rfl ?_
  refine am_pv_cons (v_iconst (n := -1) (by decide +kernel) rfl) rfl ?_
  refine am_pv_cons (v_ic_eq (off := 16) (by decide +kernel) rfl) rfl ?_
  refine am_pv_cons (v_iload_n (q := 1) (by decide +kernel) rfl) rfl ?_
  refine am_pv_cons (v_i2l (by decide +kernel)) rfl ?_
  refine am_pv_cons (v_lconst (n := 0) (by decide +kernel) rfl) rfl ?_
  refine am_pv_cons (v_iload_n (q := 2) (by decide +kernel) rfl) rfl ?_
  refine am_pv_cons (v_iconst (n := 1) (by decide +kernel) rfl) rfl ?_
  refine am_pv_cons (v_isub (by decide +kernel)) rfl ?_
  refine am_pv_cons (v_i2l (by decide +kernel)) rfl ?_
  refine am_pv_cons (v_stat (idx := 119) ys_MO_in (tb6 98 (by decide +kernel) rfl) (by decide +kernel)) rfl ?_
  refine am_pv_cons (v_if_ne (off := 5) (by decide +kernel) rfl) rfl ?_
  refine am_pv_cons (v_iconst (n := -1) (by decide +kernel) rfl) rfl ?_
  refine am_pv_cons (v_ireturn (by decide +kernel)) rfl ?_
  refine am_pv_cons (v_aload_n (q := 0) (by decide +kernel) rfl) rfl ?_
  refine am_pv_cons (v_iload_n (q := 3) (by decide +kernel) rfl) rfl ?_
  refine am_pv_cons (v_virt (idx := 362) yv_MO_walk rfl rfl (tb7 103 (by decide +kernel) rfl) (by decide +kernel)) rfl ?_
  refine am_pv_cons (v_istore (by decide +kernel)) rfl ?_
  refine am_pv_cons (v_iconst (n := 2) (by decide +kernel) rfl) rfl ?_
  refine am_pv_cons (v_iload_n (q := 3) (by decide +kernel) rfl) rfl ?_
  refine am_pv_cons (v_imul (by decide +kernel)) rfl ?_
  refine am_pv_cons (v_iconst (n := 1) (by decide +kernel) rfl) rfl ?_
  refine am_pv_cons (v_iadd (by decide +kernel)) rfl ?_
  refine am_pv_cons (v_istore (by decide +kernel)) rfl ?_
  refine am_pv_cons (v_iload (by decide +kernel)) rfl ?_
  refine am_pv_cons (v_istore (by decide +kernel)) rfl ?_
  refine am_pv_cons (v_iload (by decide +kernel)) rfl ?_
  refine am_pv_cons (v_if_le (off := 31) (by decide +kernel) rfl) rfl ?_
  refine am_pv_cons (v_aload_n (q := 0) (by decide +kernel) rfl) rfl ?_
  refine am_pv_cons (v_get fl_MO_62 (by decide +kernel)) rfl ?_
  refine am_pv_cons (v_iload (by decide +kernel)) rfl ?_
  refine am_pv_cons (v_iald (by decide +kernel)) rfl ?_
  refine am_pv_cons (v_istore (by decide +kernel)) rfl ?_
  refine am_pv_cons (v_aload_n (q := 0) (by decide +kernel) rfl) rfl ?_
  refine am_pv_cons (v_get fl_MO_68 (by decide +kernel)) rfl ?_
  refine am_pv_cons (v_iload (by decide +kernel)) rfl ?_
  refine am_pv_cons (v_iconst (n := 1) (by decide +kernel) rfl) rfl ?_
  refine am_pv_cons (v_isub (by decide +kernel)) rfl ?_
  refine am_pv_cons (v_iload (by decide +kernel)) rfl ?_
  refine am_pv_cons (v_iconst (n := 2) (by decide +kernel) rfl) rfl ?_
  refine am_pv_cons (v_idiv (by decide +kernel)) rfl ?_
  refine am_pv_cons (v_iast (by decide +kernel)) rfl ?_
  refine am_pv_cons (v_iinc (n := -1) (by decide +kernel) (by decide +kernel)) rfl ?_
  refine am_pv_cons (v_goto (off := -30) (by decide +kernel) rfl) rfl ?_
  refine am_pv_cons (v_aload_n (q := 0) (by decide +kernel) rfl) rfl ?_
  refine am_pv_cons (v_get fl_MO_68 (by decide +kernel)) rfl ?_
  refine am_pv_cons (v_iload_n (q := 1) (by decide +kernel) rfl) rfl ?_
  refine am_pv_cons (v_iald (by decide +kernel)) rfl ?_
  refine am_pv_cons (v_ireturn (by decide +kernel)) trivial ?_
  exact trivial
def P_MO_weighs (E : am_E) (k : Nat) : am_P := [(0, aI 0), (1, aSi 1), (2, aLi 1), (3, aLa 0), (4, aGet 12 16), (7, c_ge 51), (10, aLa 0), (11, aGet 12 39), (14, aLi 1), (15, aLa 0), (16, aLi 1), (17, aIv E k 12 1 Y_MO_costOf), (20, aAst), (21, aLa 0), (22, aGet 12 40), (25, aLi 1), (26, aLa 0), (27, aLa 0), (28, aGet 12 4), (31, aLi 1), (32, aI 1), (33, aIv E k 12 3 Y_MO_read), (36, z_eq 43), (39, aI 1), (40, aGo 44), (43, aI 0), (44, aAstz), (45, aInc 1 1), (48, aGo 2), (51, aRv)]
set_option maxRecDepth 20000 in
theorem pv_MO_weighs (E : am_E) (k : Nat) : am_pv E k Y_MO_weighs.2.1 Y_MO_weighs.2.2.1 Y_MO_weighs.1.cls (P_MO_weighs E k) := by
  refine am_pv_cons (v_iconst (n := 0) (by decide +kernel) rfl) rfl ?_
  refine am_pv_cons (v_istore_n (q := 1) (by decide +kernel) rfl) rfl ?_
  refine am_pv_cons (v_iload_n (q := 1) (by decide +kernel) rfl) rfl ?_
  refine am_pv_cons (v_aload_n (q := 0) (by decide +kernel) rfl) rfl ?_
  refine am_pv_cons (v_get fl_MO_123 (by decide +kernel)) rfl ?_
  refine am_pv_cons (v_ic_ge (off := 44) (by decide +kernel) rfl) rfl ?_
  refine am_pv_cons (v_aload_n (q := 0) (by decide +kernel) rfl) rfl ?_
  refine am_pv_cons (v_get fl_MO_71 (by decide +kernel)) rfl ?_
  refine am_pv_cons (v_iload_n (q := 1) (by decide +kernel) rfl) rfl ?_
  refine am_pv_cons (v_aload_n (q := 0) (by decide +kernel) rfl) rfl ?_
  refine am_pv_cons (v_iload_n (q := 1) (by decide +kernel) rfl) rfl ?_
  refine am_pv_cons (v_virt (idx := 147) yv_MO_costOf rfl rfl (tb6 131 (by decide +kernel) rfl) (by decide +kernel)) rfl ?_
  refine am_pv_cons (v_iast (by decide +kernel)) rfl ?_
  refine am_pv_cons (v_aload_n (q := 0) (by decide +kernel) rfl) rfl ?_
  refine am_pv_cons (v_get fl_MO_74 (by decide +kernel)) rfl ?_
  refine am_pv_cons (v_iload_n (q := 1) (by decide +kernel) rfl) rfl ?_
  refine am_pv_cons (v_aload_n (q := 0) (by decide +kernel) rfl) rfl ?_
  refine am_pv_cons (v_aload_n (q := 0) (by decide +kernel) rfl) rfl ?_
  refine am_pv_cons (v_get fl_MO_151 (by decide +kernel)) rfl ?_
  refine am_pv_cons (v_iload_n (q := 1) (by decide +kernel) rfl) rfl ?_
  refine am_pv_cons (v_iconst (n := 1) (by decide +kernel) rfl) rfl ?_
  refine am_pv_cons (v_virt (idx := 154) yv_MO_read rfl rfl (tb6 135 (by decide +kernel) rfl) (by decide +kernel)) rfl ?_
  refine am_pv_cons (v_if_eq (off := 7) (by decide +kernel) rfl) rfl ?_
  refine am_pv_cons (v_iconst (n := 1) (by decide +kernel) rfl) rfl ?_
  refine am_pv_cons (v_goto (off := 4) (by decide +kernel) rfl) rfl ?_
  refine am_pv_cons (v_iconst (n := 0) (by decide +kernel) rfl) rfl ?_
  refine am_pv_cons (v_zast (by decide +kernel)) rfl ?_
  refine am_pv_cons (v_iinc (n := 1) (by decide +kernel) (by decide +kernel)) rfl ?_
  refine am_pv_cons (v_goto (off := -46) (by decide +kernel) rfl) rfl ?_
  refine am_pv_cons (v_return_ (by decide +kernel)) trivial ?_
  exact trivial
def P_MO_isWrongIn (E : am_E) (k : Nat) : am_P := [(0, aLi 2), (1, aLa 0), (2, aGet 12 10), (5, aLi 1), (6, aAld 0), (7, a_ishr), (8, aI 1), (9, a_iand), (10, aLi 2), (11, aLa 0), (12, aGet 12 11), (15, aLi 1), (16, aAld 0), (17, a_ishr), (18, aI 1), (19, a_iand), (20, c_eq 27), (23, aI 1), (24, aGo 28), (27, aI 0), (28, aLa 0), (29, aGet 12 12), (32, aLi 1), (33, aAld 0), (34, z_le 41), (37, aI 1), (38, aGo 42), (41, aI 0), (42, c_ne 49), (45, aI 1), (46, aGo 50), (49, aI 0), (50, aRi)]
set_option maxRecDepth 20000 in
theorem pv_MO_isWrongIn (E : am_E) (k : Nat) : am_pv E k Y_MO_isWrongIn.2.1 Y_MO_isWrongIn.2.2.1 Y_MO_isWrongIn.1.cls (P_MO_isWrongIn E k) := by
  refine am_pv_cons (v_iload_n (q := 2) (by decide +kernel) rfl) rfl ?_
  refine am_pv_cons (v_aload_n (q := 0) (by decide +kernel) rfl) rfl ?_
  refine am_pv_cons (v_get fl_MO_29 (by decide +kernel)) rfl ?_
  refine am_pv_cons (v_iload_n (q := 1) (by decide +kernel) rfl) rfl ?_
  refine am_pv_cons (v_iald (by decide +kernel)) rfl ?_
  refine am_pv_cons (v_ishr (by decide +kernel)) rfl ?_
  refine am_pv_cons (v_iconst (n := 1) (by decide +kernel) rfl) rfl ?_
  refine am_pv_cons (v_iand (by decide +kernel)) rfl ?_
  refine am_pv_cons (v_iload_n (q := 2) (by decide +kernel) rfl) rfl ?_
  refine am_pv_cons (v_aload_n (q := 0) (by decide +kernel) rfl) rfl ?_
  refine am_pv_cons (v_get fl_MO_32 (by decide +kernel)) rfl ?_
  refine am_pv_cons (v_iload_n (q := 1) (by decide +kernel) rfl) rfl ?_
  refine am_pv_cons (v_iald (by decide +kernel)) rfl ?_
  refine am_pv_cons (v_ishr (by decide +kernel)) rfl ?_
  refine am_pv_cons (v_iconst (n := 1) (by decide +kernel) rfl) rfl ?_
  refine am_pv_cons (v_iand (by decide +kernel)) rfl ?_
  refine am_pv_cons (v_ic_eq (off := 7) (by decide +kernel) rfl) rfl ?_
  refine am_pv_cons (v_iconst (n := 1) (by decide +kernel) rfl) rfl ?_
  refine am_pv_cons (v_goto (off := 4) (by decide +kernel) rfl) rfl ?_
  refine am_pv_cons (v_iconst (n := 0) (by decide +kernel) rfl) rfl ?_
  refine am_pv_cons (v_aload_n (q := 0) (by decide +kernel) rfl) rfl ?_
  refine am_pv_cons (v_get fl_MO_35 (by decide +kernel)) rfl ?_
  refine am_pv_cons (v_iload_n (q := 1) (by decide +kernel) rfl) rfl ?_
  refine am_pv_cons (v_iald (by decide +kernel)) rfl ?_
  refine am_pv_cons (v_if_le (off := 7) (by decide +kernel) rfl) rfl ?_
  refine am_pv_cons (v_iconst (n := 1) (by decide +kernel) rfl) rfl ?_
  refine am_pv_cons (v_goto (off := 4) (by decide +kernel) rfl) rfl ?_
  refine am_pv_cons (v_iconst (n := 0) (by decide +kernel) rfl) rfl ?_
  refine am_pv_cons (v_ic_ne (off := 7) (by decide +kernel) rfl) rfl ?_
  refine am_pv_cons (v_iconst (n := 1) (by decide +kernel) rfl) rfl ?_
  refine am_pv_cons (v_goto (off := 4) (by decide +kernel) rfl) rfl ?_
  refine am_pv_cons (v_iconst (n := 0) (by decide +kernel) rfl) rfl ?_
  refine am_pv_cons (v_ireturn (by decide +kernel)) trivial ?_
  exact trivial
def P_MO_sumOf (E : am_E) (k : Nat) : am_P := [(0, aI 0), (1, aSi 2), (2, aI 0), (3, aSi 3), (4, aLi 3), (5, aLa 0), (6, aGet 12 16), (9, c_ge 50), (12, aLa 0), (13, aLi 3), (14, aLi 1), (15, aIv E k 12 2 Y_MO_isWrongIn), (18, z_ne 24), (21, aGo 44), (24, aLa 0), (25, aGet 12 40), (28, aLi 3), (29, aAld 1), (30, z_ne 35), (33, aI (-1)), (34, aRi), (35, aLi 2), (36, aLa 0), (37, aGet 12 39), (40, aLi 3), (41, aAld 0), (42, a_iadd), (43, aSi 2), (44, aInc 3 1), (47, aGo 4), (50, aLi 2), (51, aRi)]
set_option maxRecDepth 20000 in
theorem pv_MO_sumOf (E : am_E) (k : Nat) : am_pv E k Y_MO_sumOf.2.1 Y_MO_sumOf.2.2.1 Y_MO_sumOf.1.cls (P_MO_sumOf E k) := by
  refine am_pv_cons (v_iconst (n := 0) (by decide +kernel) rfl) rfl ?_
  refine am_pv_cons (v_istore_n (q := 2) (by decide +kernel) rfl) rfl ?_
  refine am_pv_cons (v_iconst (n := 0) (by decide +kernel) rfl) rfl ?_
  refine am_pv_cons (v_istore_n (q := 3) (by decide +kernel) rfl) rfl ?_
  refine am_pv_cons (v_iload_n (q := 3) (by decide +kernel) rfl) rfl ?_
  refine am_pv_cons (v_aload_n (q := 0) (by decide +kernel) rfl) rfl ?_
  refine am_pv_cons (v_get fl_MO_123 (by decide +kernel)) rfl ?_
  refine am_pv_cons (v_ic_ge (off := 41) (by decide +kernel) rfl) rfl ?_
  refine am_pv_cons (v_aload_n (q := 0) (by decide +kernel) rfl) rfl ?_
  refine am_pv_cons (v_iload_n (q := 3) (by decide +kernel) rfl) rfl ?_
  refine am_pv_cons (v_iload_n (q := 1) (by decide +kernel) rfl) rfl ?_
  refine am_pv_cons (v_virt (idx := 365) yv_MO_isWrongIn rfl rfl (tb7 123 (by decide +kernel) rfl) (by decide +kernel)) rfl ?_
  refine am_pv_cons (v_if_ne (off := 6) (by decide +kernel) rfl) rfl ?_
  refine am_pv_cons (v_goto (off := 23) (by decide +kernel) rfl) rfl ?_
  refine am_pv_cons (v_aload_n (q := 0) (by decide +kernel) rfl) rfl ?_
  refine am_pv_cons (v_get fl_MO_74 (by decide +kernel)) rfl ?_
  refine am_pv_cons (v_iload_n (q := 3) (by decide +kernel) rfl) rfl ?_
  refine am_pv_cons (v_zald (by decide +kernel)) rfl ?_
  refine am_pv_cons (v_if_ne (off := 5) (by decide +kernel) rfl) rfl ?_
  refine am_pv_cons (v_iconst (n := -1) (by decide +kernel) rfl) rfl ?_
  refine am_pv_cons (v_ireturn (by decide +kernel)) rfl ?_
  refine am_pv_cons (v_iload_n (q := 2) (by decide +kernel) rfl) rfl ?_
  refine am_pv_cons (v_aload_n (q := 0) (by decide +kernel) rfl) rfl ?_
  refine am_pv_cons (v_get fl_MO_71 (by decide +kernel)) rfl ?_
  refine am_pv_cons (v_iload_n (q := 3) (by decide +kernel) rfl) rfl ?_
  refine am_pv_cons (v_iald (by decide +kernel)) rfl ?_
  refine am_pv_cons (v_iadd (by decide +kernel)) rfl ?_
  refine am_pv_cons (v_istore_n (q := 2) (by decide +kernel) rfl) rfl ?_
  refine am_pv_cons (v_iinc (n := 1) (by decide +kernel) (by decide +kernel)) rfl ?_
  refine am_pv_cons (v_goto (off := -43) (by decide +kernel) rfl) rfl ?_
  refine am_pv_cons (v_iload_n (q := 2) (by decide +kernel) rfl) rfl ?_
  refine am_pv_cons (v_ireturn (by decide +kernel)) trivial ?_
  exact trivial
def P_MO_goesAll (E : am_E) (k : Nat) : am_P := [(0, aLa 0), (1, aIv E k 12 0 Y_MO_weighs), (4, aI (-1)), (5, aSi 1), (6, aI 0), (7, aSi 2), (8, aLi 2), (9, aI 1), (10, aLa 0), (11, aGet 12 9), (14, a_ishl), (15, c_ge 67), (18, aLa 0), (19, aGet 12 41), (22, aLi 2), (23, aLa 0), (24, aLi 2), (25, aIv E k 12 1 Y_MO_sumOf), (28, aAst), (29, aLa 0), (30, aGet 12 41), (33, aLi 2), (34, aAld 0), (35, aI (-1)), (36, c_eq 61), (39, aLi 1), (40, aI (-1)), (41, c_eq 54), (44, aLa 0), (45, aGet 12 41), (48, aLi 2), (49, aAld 0), (50, aLi 1), (51, c_ge 61), (54, aLa 0), (55, aGet 12 41), (58, aLi 2), (59, aAld 0), (60, aSi 1), (61, aInc 2 2), (64, aGo 8), (67, aLa 0), (68, aGet 12 9), (71, z_ne 78), (74, aI (-1)), (75, aGo 79), (78, aLi 1), (79, aRi)]
set_option maxRecDepth 20000 in
theorem pv_MO_goesAll (E : am_E) (k : Nat) : am_pv E k Y_MO_goesAll.2.1 Y_MO_goesAll.2.2.1 Y_MO_goesAll.1.cls (P_MO_goesAll E k) := by
  refine am_pv_cons (v_aload_n (q := 0) (by decide +kernel) rfl) rfl ?_
  refine am_pv_cons (v_virt (idx := 369) yv_MO_weighs rfl rfl (tb7 115 (by decide +kernel) rfl) (by decide +kernel)) rfl ?_
  refine am_pv_cons (v_iconst (n := -1) (by decide +kernel) rfl) rfl ?_
  refine am_pv_cons (v_istore_n (q := 1) (by decide +kernel) rfl) rfl ?_
  refine am_pv_cons (v_iconst (n := 0) (by decide +kernel) rfl) rfl ?_
  refine am_pv_cons (v_istore_n (q := 2) (by decide +kernel) rfl) rfl ?_
  refine am_pv_cons (v_iload_n (q := 2) (by decide +kernel) rfl) rfl ?_
  refine am_pv_cons (v_iconst (n := 1) (by decide +kernel) rfl) rfl ?_
  refine am_pv_cons (v_aload_n (q := 0) (by decide +kernel) rfl) rfl ?_
  refine am_pv_cons (v_get fl_MO_116 (by decide +kernel)) rfl ?_
  refine am_pv_cons (v_ishl (by decide +kernel)) rfl ?_
  refine am_pv_cons (v_ic_ge (off := 52) (by decide +kernel) rfl) rfl ?_
  refine am_pv_cons (v_aload_n (q := 0) (by decide +kernel) rfl) rfl ?_
  refine am_pv_cons (v_get fl_MO_78 (by decide +kernel)) rfl ?_
  refine am_pv_cons (v_iload_n (q := 2) (by decide +kernel) rfl) rfl ?_
  refine am_pv_cons (v_aload_n (q := 0) (by decide +kernel) rfl) rfl ?_
  refine am_pv_cons (v_iload_n (q := 2) (by decide +kernel) rfl) rfl ?_
  refine am_pv_cons (v_virt (idx := 372) yv_MO_sumOf rfl rfl (tb7 119 (by decide +kernel) rfl) (by decide +kernel)) rfl ?_
  refine am_pv_cons (v_iast (by decide +kernel)) rfl ?_
  refine am_pv_cons (v_aload_n (q := 0) (by decide +kernel) rfl) rfl ?_
  refine am_pv_cons (v_get fl_MO_78 (by decide +kernel)) rfl ?_
  refine am_pv_cons (v_iload_n (q := 2) (by decide +kernel) rfl) rfl ?_
  refine am_pv_cons (v_iald (by decide +kernel)) rfl ?_
  refine am_pv_cons (v_iconst (n := -1) (by decide +kernel) rfl) rfl ?_
  refine am_pv_cons (v_ic_eq (off := 25) (by decide +kernel) rfl) rfl ?_
  refine am_pv_cons (v_iload_n (q := 1) (by decide +kernel) rfl) rfl ?_
  refine am_pv_cons (v_iconst (n := -1) (by decide +kernel) rfl) rfl ?_
  refine am_pv_cons (v_ic_eq (off := 13) (by decide +kernel) rfl) rfl ?_
  refine am_pv_cons (v_aload_n (q := 0) (by decide +kernel) rfl) rfl ?_
  refine am_pv_cons (v_get fl_MO_78 (by decide +kernel)) rfl ?_
  refine am_pv_cons (v_iload_n (q := 2) (by decide +kernel) rfl) rfl ?_
  refine am_pv_cons (v_iald (by decide +kernel)) rfl ?_
  refine am_pv_cons (v_iload_n (q := 1) (by decide +kernel) rfl) rfl ?_
  refine am_pv_cons (v_ic_ge (off := 10) (by decide +kernel) rfl) rfl ?_
  refine am_pv_cons (v_aload_n (q := 0) (by decide +kernel) rfl) rfl ?_
  refine am_pv_cons (v_get fl_MO_78 (by decide +kernel)) rfl ?_
  refine am_pv_cons (v_iload_n (q := 2) (by decide +kernel) rfl) rfl ?_
  refine am_pv_cons (v_iald (by decide +kernel)) rfl ?_
  refine am_pv_cons (v_istore_n (q := 1) (by decide +kernel) rfl) rfl ?_
  refine am_pv_cons (v_iinc (n := 2) (by decide +kernel) (by decide +kernel)) rfl ?_
  refine am_pv_cons (v_goto (off := -56) (by decide +kernel) rfl) rfl ?_
  refine am_pv_cons (v_aload_n (q := 0) (by decide +kernel) rfl) rfl ?_
  refine am_pv_cons (v_get fl_MO_116 (by decide +kernel)) rfl ?_
  refine am_pv_cons (v_if_ne (off := 7) (by decide +kernel) rfl) rfl ?_
  refine am_pv_cons (v_iconst (n := -1) (by decide +kernel) rfl) rfl ?_
  refine am_pv_cons (v_goto (off := 4) (by decide +kernel) rfl) rfl ?_
  refine am_pv_cons (v_iload_n (q := 1) (by decide +kernel) rfl) rfl ?_
  refine am_pv_cons (v_ireturn (by decide +kernel)) trivial ?_
  exact trivial
def P_MO_least (E : am_E) (k : Nat) : am_P := [(0, aLa 0), (1, aGet 12 9), (4, z_ne 12), (7, aI (-5)), (9, aGo 16), (12, aLa 0), (13, aIv E k 12 0 Y_MO_goesAll), (16, aRi)]
set_option maxRecDepth 20000 in
theorem pv_MO_least (E : am_E) (k : Nat) : am_pv E k Y_MO_least.2.1 Y_MO_least.2.2.1 Y_MO_least.1.cls (P_MO_least E k) := by
  refine am_pv_cons (v_aload_n (q := 0) (by decide +kernel) rfl) rfl ?_
  refine am_pv_cons (v_get fl_MO_116 (by decide +kernel)) rfl ?_
  refine am_pv_cons (v_if_ne (off := 8) (by decide +kernel) rfl) rfl ?_
  refine am_pv_cons (v_bipush (n := -5) (by decide +kernel) (by decide +kernel)) rfl ?_
  refine am_pv_cons (v_goto (off := 7) (by decide +kernel) rfl) rfl ?_
  refine am_pv_cons (v_aload_n (q := 0) (by decide +kernel) rfl) rfl ?_
  refine am_pv_cons (v_virt (idx := 375) yv_MO_goesAll rfl rfl (tb7 111 (by decide +kernel) rfl) (by decide +kernel)) rfl ?_
  refine am_pv_cons (v_ireturn (by decide +kernel)) trivial ?_
  exact trivial
def P_MO_all (E : am_E) (k : Nat) : am_P := [(0, aLa 0), (1, aIv E k 12 0 Y_MO_goesAll), (4, aSi 2), (5, aI 0), (6, aSi 3), (7, aI 0), (8, aSi 4), (10, aLi 4), (12, aI 1), (13, aLa 0), (14, aGet 12 9), (17, a_ishl), (18, c_ge 57), (21, aLi 2), (22, aI (-1)), (23, c_eq 57), (26, aLa 0), (27, aGet 12 41), (30, aLi 4), (32, aAld 0), (33, aLi 2), (34, c_eq 40), (37, aGo 51), (40, aLi 3), (41, aLi 1), (42, c_ne 48), (45, aLi 4), (47, aRi), (48, aInc 3 1), (51, aInc 4 2), (54, aGo 10), (57, aLi 1), (58, aI (-1)), (59, c_ne 66), (62, aLi 3), (63, aGo 67), (66, aI (-1)), (67, aRi)]
set_option maxRecDepth 20000 in
theorem pv_MO_all (E : am_E) (k : Nat) : am_pv E k Y_MO_all.2.1 Y_MO_all.2.2.1 Y_MO_all.1.cls (P_MO_all E k) := by
  refine am_pv_cons (v_aload_n (q := 0) (by decide +kernel) rfl) rfl ?_
  refine am_pv_cons (v_virt (idx := 375) yv_MO_goesAll rfl rfl (tb7 111 (by decide +kernel) rfl) (by decide +kernel)) rfl ?_
  refine am_pv_cons (v_istore_n (q := 2) (by decide +kernel) rfl) rfl ?_
  refine am_pv_cons (v_iconst (n := 0) (by decide +kernel) rfl) rfl ?_
  refine am_pv_cons (v_istore_n (q := 3) (by decide +kernel) rfl) rfl ?_
  refine am_pv_cons (v_iconst (n := 0) (by decide +kernel) rfl) rfl ?_
  refine am_pv_cons (v_istore (by decide +kernel)) rfl ?_
  refine am_pv_cons (v_iload (by decide +kernel)) rfl ?_
  refine am_pv_cons (v_iconst (n := 1) (by decide +kernel) rfl) rfl ?_
  refine am_pv_cons (v_aload_n (q := 0) (by decide +kernel) rfl) rfl ?_
  refine am_pv_cons (v_get fl_MO_116 (by decide +kernel)) rfl ?_
  refine am_pv_cons (v_ishl (by decide +kernel)) rfl ?_
  refine am_pv_cons (v_ic_ge (off := 39) (by decide +kernel) rfl) rfl ?_
  refine am_pv_cons (v_iload_n (q := 2) (by decide +kernel) rfl) rfl ?_
  refine am_pv_cons (v_iconst (n := -1) (by decide +kernel) rfl) rfl ?_
  refine am_pv_cons (v_ic_eq (off := 34) (by decide +kernel) rfl) rfl ?_
  refine am_pv_cons (v_aload_n (q := 0) (by decide +kernel) rfl) rfl ?_
  refine am_pv_cons (v_get fl_MO_78 (by decide +kernel)) rfl ?_
  refine am_pv_cons (v_iload (by decide +kernel)) rfl ?_
  refine am_pv_cons (v_iald (by decide +kernel)) rfl ?_
  refine am_pv_cons (v_iload_n (q := 2) (by decide +kernel) rfl) rfl ?_
  refine am_pv_cons (v_ic_eq (off := 6) (by decide +kernel) rfl) rfl ?_
  refine am_pv_cons (v_goto (off := 14) (by decide +kernel) rfl) rfl ?_
  refine am_pv_cons (v_iload_n (q := 3) (by decide +kernel) rfl) rfl ?_
  refine am_pv_cons (v_iload_n (q := 1) (by decide +kernel) rfl) rfl ?_
  refine am_pv_cons (v_ic_ne (off := 6) (by decide +kernel) rfl) rfl ?_
  refine am_pv_cons (v_iload (by decide +kernel)) rfl ?_
  refine am_pv_cons (v_ireturn (by decide +kernel)) rfl ?_
  refine am_pv_cons (v_iinc (n := 1) (by decide +kernel) (by decide +kernel)) rfl ?_
  refine am_pv_cons (v_iinc (n := 2) (by decide +kernel) (by decide +kernel)) rfl ?_
  refine am_pv_cons (v_goto (off := -44) (by decide +kernel) rfl) rfl ?_
  refine am_pv_cons (v_iload_n (q := 1) (by decide +kernel) rfl) rfl ?_
  refine am_pv_cons (v_iconst (n := -1) (by decide +kernel) rfl) rfl ?_
  refine am_pv_cons (v_ic_ne (off := 7) (by decide +kernel) rfl) rfl ?_
  refine am_pv_cons (v_iload_n (q := 3) (by decide +kernel) rfl) rfl ?_
  refine am_pv_cons (v_goto (off := 4) (by decide +kernel) rfl) rfl ?_
  refine am_pv_cons (v_iconst (n := -1) (by decide +kernel) rfl) rfl ?_
  refine am_pv_cons (v_ireturn (by decide +kernel)) trivial ?_
  exact trivial
def P_MO_togethers (E : am_E) (k : Nat) : am_P := [(0, aI 0), (1, aSi 4), (3, aI 0), (4, aSi 5), (6, aLi 5), (8, aI 1), (9, aLa 0), (10, aGet 12 9), (13, a_ishl), (14, c_ge 59), (17, aLi 4), (19, aLa 0), (20, aGet 12 41), (23, aLi 5), (25, aAld 0), (26, aLi 1), (27, c_ne 49), (30, aLi 5), (32, aLi 2), (33, a_ishr), (34, aI 1), (35, a_iand), (36, aLi 5), (38, aLi 3), (39, a_ishr), (40, aI 1), (41, a_iand), (42, c_ne 49), (45, aI 1), (46, aGo 50), (49, aI 0), (50, a_iadd), (51, aSi 4), (53, aInc 5 2), (56, aGo 6), (59, aLi 4), (61, aRi)]
set_option maxRecDepth 20000 in
theorem pv_MO_togethers (E : am_E) (k : Nat) : am_pv E k Y_MO_togethers.2.1 Y_MO_togethers.2.2.1 Y_MO_togethers.1.cls (P_MO_togethers E k) := by
  refine am_pv_cons (v_iconst (n := 0) (by decide +kernel) rfl) rfl ?_
  refine am_pv_cons (v_istore (by decide +kernel)) rfl ?_
  refine am_pv_cons (v_iconst (n := 0) (by decide +kernel) rfl) rfl ?_
  refine am_pv_cons (v_istore (by decide +kernel)) rfl ?_
  refine am_pv_cons (v_iload (by decide +kernel)) rfl ?_
  refine am_pv_cons (v_iconst (n := 1) (by decide +kernel) rfl) rfl ?_
  refine am_pv_cons (v_aload_n (q := 0) (by decide +kernel) rfl) rfl ?_
  refine am_pv_cons (v_get fl_MO_116 (by decide +kernel)) rfl ?_
  refine am_pv_cons (v_ishl (by decide +kernel)) rfl ?_
  refine am_pv_cons (v_ic_ge (off := 45) (by decide +kernel) rfl) rfl ?_
  refine am_pv_cons (v_iload (by decide +kernel)) rfl ?_
  refine am_pv_cons (v_aload_n (q := 0) (by decide +kernel) rfl) rfl ?_
  refine am_pv_cons (v_get fl_MO_78 (by decide +kernel)) rfl ?_
  refine am_pv_cons (v_iload (by decide +kernel)) rfl ?_
  refine am_pv_cons (v_iald (by decide +kernel)) rfl ?_
  refine am_pv_cons (v_iload_n (q := 1) (by decide +kernel) rfl) rfl ?_
  refine am_pv_cons (v_ic_ne (off := 22) (by decide +kernel) rfl) rfl ?_
  refine am_pv_cons (v_iload (by decide +kernel)) rfl ?_
  refine am_pv_cons (v_iload_n (q := 2) (by decide +kernel) rfl) rfl ?_
  refine am_pv_cons (v_ishr (by decide +kernel)) rfl ?_
  refine am_pv_cons (v_iconst (n := 1) (by decide +kernel) rfl) rfl ?_
  refine am_pv_cons (v_iand (by decide +kernel)) rfl ?_
  refine am_pv_cons (v_iload (by decide +kernel)) rfl ?_
  refine am_pv_cons (v_iload_n (q := 3) (by decide +kernel) rfl) rfl ?_
  refine am_pv_cons (v_ishr (by decide +kernel)) rfl ?_
  refine am_pv_cons (v_iconst (n := 1) (by decide +kernel) rfl) rfl ?_
  refine am_pv_cons (v_iand (by decide +kernel)) rfl ?_
  refine am_pv_cons (v_ic_ne (off := 7) (by decide +kernel) rfl) rfl ?_
  refine am_pv_cons (v_iconst (n := 1) (by decide +kernel) rfl) rfl ?_
  refine am_pv_cons (v_goto (off := 4) (by decide +kernel) rfl) rfl ?_
  refine am_pv_cons (v_iconst (n := 0) (by decide +kernel) rfl) rfl ?_
  refine am_pv_cons (v_iadd (by decide +kernel)) rfl ?_
  refine am_pv_cons (v_istore (by decide +kernel)) rfl ?_
  refine am_pv_cons (v_iinc (n := 2) (by decide +kernel) (by decide +kernel)) rfl ?_
  refine am_pv_cons (v_goto (off := -50) (by decide +kernel) rfl) rfl ?_
  refine am_pv_cons (v_iload (by decide +kernel)) rfl ?_
  refine am_pv_cons (v_ireturn (by decide +kernel)) trivial ?_
  exact trivial
def P_MO_alls (E : am_E) (k : Nat) : am_P := [(0, aI 0), (1, aSi 2), (2, aI 0), (3, aSi 3), (4, aLi 3), (5, aI 1), (6, aLa 0), (7, aGet 12 9), (10, a_ishl), (11, c_ge 38), (14, aLi 2), (15, aLa 0), (16, aGet 12 41), (19, aLi 3), (20, aAld 0), (21, aLi 1), (22, c_ne 29), (25, aI 1), (26, aGo 30), (29, aI 0), (30, a_iadd), (31, aSi 2), (32, aInc 3 2), (35, aGo 4), (38, aLi 2), (39, aRi)]
set_option maxRecDepth 20000 in
theorem pv_MO_alls (E : am_E) (k : Nat) : am_pv E k Y_MO_alls.2.1 Y_MO_alls.2.2.1 Y_MO_alls.1.cls (P_MO_alls E k) := by
  refine am_pv_cons (v_iconst (n := 0) (by decide +kernel) rfl) rfl ?_
  refine am_pv_cons (v_istore_n (q := 2) (by decide +kernel) rfl) rfl ?_
  refine am_pv_cons (v_iconst (n := 0) (by decide +kernel) rfl) rfl ?_
  refine am_pv_cons (v_istore_n (q := 3) (by decide +kernel) rfl) rfl ?_
  refine am_pv_cons (v_iload_n (q := 3) (by decide +kernel) rfl) rfl ?_
  refine am_pv_cons (v_iconst (n := 1) (by decide +kernel) rfl) rfl ?_
  refine am_pv_cons (v_aload_n (q := 0) (by decide +kernel) rfl) rfl ?_
  refine am_pv_cons (v_get fl_MO_116 (by decide +kernel)) rfl ?_
  refine am_pv_cons (v_ishl (by decide +kernel)) rfl ?_
  refine am_pv_cons (v_ic_ge (off := 27) (by decide +kernel) rfl) rfl ?_
  refine am_pv_cons (v_iload_n (q := 2) (by decide +kernel) rfl) rfl ?_
  refine am_pv_cons (v_aload_n (q := 0) (by decide +kernel) rfl) rfl ?_
  refine am_pv_cons (v_get fl_MO_78 (by decide +kernel)) rfl ?_
  refine am_pv_cons (v_iload_n (q := 3) (by decide +kernel) rfl) rfl ?_
  refine am_pv_cons (v_iald (by decide +kernel)) rfl ?_
  refine am_pv_cons (v_iload_n (q := 1) (by decide +kernel) rfl) rfl ?_
  refine am_pv_cons (v_ic_ne (off := 7) (by decide +kernel) rfl) rfl ?_
  refine am_pv_cons (v_iconst (n := 1) (by decide +kernel) rfl) rfl ?_
  refine am_pv_cons (v_goto (off := 4) (by decide +kernel) rfl) rfl ?_
  refine am_pv_cons (v_iconst (n := 0) (by decide +kernel) rfl) rfl ?_
  refine am_pv_cons (v_iadd (by decide +kernel)) rfl ?_
  refine am_pv_cons (v_istore_n (q := 2) (by decide +kernel) rfl) rfl ?_
  refine am_pv_cons (v_iinc (n := 2) (by decide +kernel) (by decide +kernel)) rfl ?_
  refine am_pv_cons (v_goto (off := -31) (by decide +kernel) rfl) rfl ?_
  refine am_pv_cons (v_iload_n (q := 2) (by decide +kernel) rfl) rfl ?_
  refine am_pv_cons (v_ireturn (by decide +kernel)) trivial ?_
  exact trivial
def P_MO_together (E : am_E) (k : Nat) : am_P := [(0, aLa 0), (1, aLi 1), (2, aIv E k 12 1 Y_MO_isPerson), (5, z_eq 21), (8, aLa 0), (9, aLi 2), (10, aIv E k 12 1 Y_MO_isPerson), (13, z_eq 21), (16, aLi 1), (17, aLi 2), (18, c_ne 24), (21, aI (-2)), (23, aRi), (24, aLa 0), (25, aIv E k 12 0 Y_MO_goesAll), (28, aSi 3), (29, aLi 3), (30, aI (-1)), (31, c_ne 37), (34, aI (-3)), (36, aRi), (37, aLa 0), (38, aLi 3), (39, aLi 1), (40, aLi 2), (41, aIv E k 12 3 Y_MO_togethers), (44, aSi 4), (46, aLi 4), (48, z_ne 55), (51, aI 0), (52, aGo 70), (55, aLi 4), (57, aLa 0), (58, aLi 3), (59, aIv E k 12 1 Y_MO_alls), (62, c_ne 69), (65, aI 2), (66, aGo 70), (69, aI 1), (70, aRi)]
set_option maxRecDepth 20000 in
theorem pv_MO_together (E : am_E) (k : Nat) : am_pv E k Y_MO_together.2.1 Y_MO_together.2.2.1 Y_MO_together.1.cls (P_MO_together E k) := by
  refine am_pv_cons (v_aload_n (q := 0) (by decide +kernel) rfl) rfl ?_
  refine am_pv_cons (v_iload_n (q := 1) (by decide +kernel) rfl) rfl ?_
  refine am_pv_cons (v_virt (idx := 128) yv_MO_isPerson rfl rfl (tb6 105 (by decide +kernel) rfl) (by decide +kernel)) rfl ?_
  refine am_pv_cons (v_if_eq (off := 16) (by decide +kernel) rfl) rfl ?_
  refine am_pv_cons (v_aload_n (q := 0) (by decide +kernel) rfl) rfl ?_
  refine am_pv_cons (v_iload_n (q := 2) (by decide +kernel) rfl) rfl ?_
  refine am_pv_cons (v_virt (idx := 128) yv_MO_isPerson rfl rfl (tb6 105 (by decide +kernel) rfl) (by decide +kernel)) rfl ?_
  refine am_pv_cons (v_if_eq (off := 8) (by decide +kernel) rfl) rfl ?_
  refine am_pv_cons (v_iload_n (q := 1) (by decide +kernel) rfl) rfl ?_
  refine am_pv_cons (v_iload_n (q := 2) (by decide +kernel) rfl) rfl ?_
  refine am_pv_cons (v_ic_ne (off := 6) (by decide +kernel) rfl) rfl ?_
  refine am_pv_cons (v_bipush (n := -2) (by decide +kernel) (by decide +kernel)) rfl ?_
  refine am_pv_cons (v_ireturn (by decide +kernel)) rfl ?_
  refine am_pv_cons (v_aload_n (q := 0) (by decide +kernel) rfl) rfl ?_
  refine am_pv_cons (v_virt (idx := 375) yv_MO_goesAll rfl rfl (tb7 111 (by decide +kernel) rfl) (by decide +kernel)) rfl ?_
  refine am_pv_cons (v_istore_n (q := 3) (by decide +kernel) rfl) rfl ?_
  refine am_pv_cons (v_iload_n (q := 3) (by decide +kernel) rfl) rfl ?_
  refine am_pv_cons (v_iconst (n := -1) (by decide +kernel) rfl) rfl ?_
  refine am_pv_cons (v_ic_ne (off := 6) (by decide +kernel) rfl) rfl ?_
  refine am_pv_cons (v_bipush (n := -3) (by decide +kernel) (by decide +kernel)) rfl ?_
  refine am_pv_cons (v_ireturn (by decide +kernel)) rfl ?_
  refine am_pv_cons (v_aload_n (q := 0) (by decide +kernel) rfl) rfl ?_
  refine am_pv_cons (v_iload_n (q := 3) (by decide +kernel) rfl) rfl ?_
  refine am_pv_cons (v_iload_n (q := 1) (by decide +kernel) rfl) rfl ?_
  refine am_pv_cons (v_iload_n (q := 2) (by decide +kernel) rfl) rfl ?_
  refine am_pv_cons (v_virt (idx := 378) yv_MO_togethers rfl rfl (tb7 135 (by decide +kernel) rfl) (by decide +kernel)) rfl ?_
  refine am_pv_cons (v_istore (by decide +kernel)) rfl ?_
  refine am_pv_cons (v_iload (by decide +kernel)) rfl ?_
  refine am_pv_cons (v_if_ne (off := 7) (by decide +kernel) rfl) rfl ?_
  refine am_pv_cons (v_iconst (n := 0) (by decide +kernel) rfl) rfl ?_
  refine am_pv_cons (v_goto (off := 18) (by decide +kernel) rfl) rfl ?_
  refine am_pv_cons (v_iload (by decide +kernel)) rfl ?_
  refine am_pv_cons (v_aload_n (q := 0) (by decide +kernel) rfl) rfl ?_
  refine am_pv_cons (v_iload_n (q := 3) (by decide +kernel) rfl) rfl ?_
  refine am_pv_cons (v_virt (idx := 381) yv_MO_alls rfl rfl (tb7 139 (by decide +kernel) rfl) (by decide +kernel)) rfl ?_
  refine am_pv_cons (v_ic_ne (off := 7) (by decide +kernel) rfl) rfl ?_
  refine am_pv_cons (v_iconst (n := 2) (by decide +kernel) rfl) rfl ?_
  refine am_pv_cons (v_goto (off := 4) (by decide +kernel) rfl) rfl ?_
  refine am_pv_cons (v_iconst (n := 1) (by decide +kernel) rfl) rfl ?_
  refine am_pv_cons (v_ireturn (by decide +kernel)) trivial ?_
  exact trivial
def P_MO_aside (E : am_E) (k : Nat) : am_P := [(0, aI 0), (1, aSi 1), (2, aI 0), (3, aSi 2), (4, aI 0), (5, aSi 3), (6, aI 0), (7, aSi 4), (9, aLi 4), (11, aI 1), (12, aLa 0), (13, aGet 12 9), (16, a_ishl), (17, c_ge 135), (20, aLi 3), (21, z_eq 36), (24, aLi 4), (26, aIs E k 1 Y_MO_bitsOf), (29, aLi 1), (30, aIs E k 1 Y_MO_bitsOf), (33, c_gt 129), (36, aLa 0), (37, aLi 4), (39, aIv E k 12 1 Y_MO_isPeace), (42, z_ne 48), (45, aGo 129), (48, aI 0), (49, aSi 5), (51, aI 0), (52, aSi 6), (54, aLi 6), (56, aLa 0), (57, aGet 12 9), (60, c_ge 96), (63, aLi 5), (65, aLi 4), (67, aLi 6), (69, a_ishr), (70, aI 1), (71, a_iand), (72, aI 1), (73, c_ne 86), (76, aLa 0), (77, aGet 12 7), (80, aLi 6), (82, aAld 0), (83, aGo 87), (86, aI 0), (87, a_iadd), (88, aSi 5), (90, aInc 6 1), (93, aGo 54), (96, aLi 3), (97, z_eq 121), (100, aLi 4), (102, aIs E k 1 Y_MO_bitsOf), (105, aLi 1), (106, aIs E k 1 Y_MO_bitsOf), (109, c_ne 121), (112, aLi 5), (114, aLi 2), (115, c_lt 121), (118, aGo 129), (121, aLi 4), (123, aSi 1), (124, aLi 5), (126, aSi 2), (127, aI 1), (128, aSi 3), (129, aInc 4 1), (132, aGo 9), (135, aLi 1), (136, aRi)]
set_option maxRecDepth 20000 in
theorem pv_MO_aside (E : am_E) (k : Nat) : am_pv E k Y_MO_aside.2.1 Y_MO_aside.2.2.1 Y_MO_aside.1.cls (P_MO_aside E k) := by
  refine am_pv_cons (v_iconst (n := 0) (by decide +kernel) rfl) rfl ?_
  refine am_pv_cons (v_istore_n (q := 1) (by decide +kernel) rfl) rfl ?_
  refine am_pv_cons (v_iconst (n := 0) (by decide +kernel) rfl) rfl ?_
  refine am_pv_cons (v_istore_n (q := 2) (by decide +kernel) rfl) rfl ?_
  refine am_pv_cons (v_iconst (n := 0) (by decide +kernel) rfl) rfl ?_
  refine am_pv_cons (v_istore_n (q := 3) (by decide +kernel) rfl) rfl ?_
  refine am_pv_cons (v_iconst (n := 0) (by decide +kernel) rfl) rfl ?_
  refine am_pv_cons (v_istore (by decide +kernel)) rfl ?_
  refine am_pv_cons (v_iload (by decide +kernel)) rfl ?_
  refine am_pv_cons (v_iconst (n := 1) (by decide +kernel) rfl) rfl ?_
  refine am_pv_cons (v_aload_n (q := 0) (by decide +kernel) rfl) rfl ?_
  refine am_pv_cons (v_get fl_MO_116 (by decide +kernel)) rfl ?_
  refine am_pv_cons (v_ishl (by decide +kernel)) rfl ?_
  refine am_pv_cons (v_ic_ge (off := 118) (by decide +kernel) rfl) rfl ?_
  refine am_pv_cons (v_iload_n (q := 3) (by decide +kernel) rfl) rfl ?_
  refine am_pv_cons (v_if_eq (off := 15) (by decide +kernel) rfl) rfl ?_
  refine am_pv_cons (v_iload (by decide +kernel)) rfl ?_
  refine am_pv_cons (v_stat (idx := 317) ys_MO_bitsOf (tb7 55 (by decide +kernel) rfl) (by decide +kernel)) rfl ?_
  refine am_pv_cons (v_iload_n (q := 1) (by decide +kernel) rfl) rfl ?_
  refine am_pv_cons (v_stat (idx := 317) ys_MO_bitsOf (tb7 55 (by decide +kernel) rfl) (by decide +kernel)) rfl ?_
  refine am_pv_cons (v_ic_gt (off := 96) (by decide +kernel) rfl) rfl ?_
  refine am_pv_cons (v_aload_n (q := 0) (by decide +kernel) rfl) rfl ?_
  refine am_pv_cons (v_iload (by decide +kernel)) rfl ?_
  refine am_pv_cons (v_virt (idx := 359) yv_MO_isPeace rfl rfl (tb7 95 (by decide +kernel) rfl) (by decide +kernel)) rfl ?_
  refine am_pv_cons (v_if_ne (off := 6) (by decide +kernel) rfl) rfl ?_
  refine am_pv_cons (v_goto (off := 84) (by decide +kernel) rfl) rfl ?_
  refine am_pv_cons (v_iconst (n := 0) (by decide +kernel) rfl) rfl ?_
  refine am_pv_cons (v_istore (by decide +kernel)) rfl ?_
  refine am_pv_cons (v_iconst (n := 0) (by decide +kernel) rfl) rfl ?_
  refine am_pv_cons (v_istore (by decide +kernel)) rfl ?_
  refine am_pv_cons (v_iload (by decide +kernel)) rfl ?_
  refine am_pv_cons (v_aload_n (q := 0) (by decide +kernel) rfl) rfl ?_
  refine am_pv_cons (v_get fl_MO_116 (by decide +kernel)) rfl ?_
  refine am_pv_cons (v_ic_ge (off := 36) (by decide +kernel) rfl) rfl ?_
  refine am_pv_cons (v_iload (by decide +kernel)) rfl ?_
  refine am_pv_cons (v_iload (by decide +kernel)) rfl ?_
  refine am_pv_cons (v_iload (by decide +kernel)) rfl ?_
  refine am_pv_cons (v_ishr (by decide +kernel)) rfl ?_
  refine am_pv_cons (v_iconst (n := 1) (by decide +kernel) rfl) rfl ?_
  refine am_pv_cons (v_iand (by decide +kernel)) rfl ?_
  refine am_pv_cons (v_iconst (n := 1) (by decide +kernel) rfl) rfl ?_
  refine am_pv_cons (v_ic_ne (off := 13) (by decide +kernel) rfl) rfl ?_
  refine am_pv_cons (v_aload_n (q := 0) (by decide +kernel) rfl) rfl ?_
  refine am_pv_cons (v_get fl_MO_23 (by decide +kernel)) rfl ?_
  refine am_pv_cons (v_iload (by decide +kernel)) rfl ?_
  refine am_pv_cons (v_iald (by decide +kernel)) rfl ?_
  refine am_pv_cons (v_goto (off := 4) (by decide +kernel) rfl) rfl ?_
  refine am_pv_cons (v_iconst (n := 0) (by decide +kernel) rfl) rfl ?_
  refine am_pv_cons (v_iadd (by decide +kernel)) rfl ?_
  refine am_pv_cons (v_istore (by decide +kernel)) rfl ?_
  refine am_pv_cons (v_iinc (n := 1) (by decide +kernel) (by decide +kernel)) rfl ?_
  refine am_pv_cons (v_goto (off := -39) (by decide +kernel) rfl) rfl ?_
  refine am_pv_cons (v_iload_n (q := 3) (by decide +kernel) rfl) rfl ?_
  refine am_pv_cons (v_if_eq (off := 24) (by decide +kernel) rfl) rfl ?_
  refine am_pv_cons (v_iload (by decide +kernel)) rfl ?_
  refine am_pv_cons (v_stat (idx := 317) ys_MO_bitsOf (tb7 55 (by decide +kernel) rfl) (by decide +kernel)) rfl ?_
  refine am_pv_cons (v_iload_n (q := 1) (by decide +kernel) rfl) rfl ?_
  refine am_pv_cons (v_stat (idx := 317) ys_MO_bitsOf (tb7 55 (by decide +kernel) rfl) (by decide +kernel)) rfl ?_
  refine am_pv_cons (v_ic_ne (off := 12) (by decide +kernel) rfl) rfl ?_
  refine am_pv_cons (v_iload (by decide +kernel)) rfl ?_
  refine am_pv_cons (v_iload_n (q := 2) (by decide +kernel) rfl) rfl ?_
  refine am_pv_cons (v_ic_lt (off := 6) (by decide +kernel) rfl) rfl ?_
  refine am_pv_cons (v_goto (off := 11) (by decide +kernel) rfl) rfl ?_
  refine am_pv_cons (v_iload (by decide +kernel)) rfl ?_
  refine am_pv_cons (v_istore_n (q := 1) (by decide +kernel) rfl) rfl ?_
  refine am_pv_cons (v_iload (by decide +kernel)) rfl ?_
  refine am_pv_cons (v_istore_n (q := 2) (by decide +kernel) rfl) rfl ?_
  refine am_pv_cons (v_iconst (n := 1) (by decide +kernel) rfl) rfl ?_
  refine am_pv_cons (v_istore_n (q := 3) (by decide +kernel) rfl) rfl ?_
  refine am_pv_cons (v_iinc (n := 1) (by decide +kernel) (by decide +kernel)) rfl ?_
  refine am_pv_cons (v_goto (off := -123) (by decide +kernel) rfl) rfl ?_
  refine am_pv_cons (v_iload_n (q := 1) (by decide +kernel) rfl) rfl ?_
  refine am_pv_cons (v_ireturn (by decide +kernel)) trivial ?_
  exact trivial
def P_MO_puts (E : am_E) (k : Nat) : am_P := [(0, aLa 0), (1, aGet 12 42), (4, aI (-1)), (5, c_eq 18), (8, aLi 4), (10, aLa 0), (11, aGet 12 42), (14, c_lt 18), (17, aRv), (18, aLi 1), (19, aLa 0), (20, aGet 12 9), (23, c_ne 33), (26, aLa 0), (27, aLi 4), (29, aPut 12 42), (32, aRv), (33, aI 0), (34, aSi 5), (36, aLi 5), (38, aLi 3), (39, c_gt 205), (42, aLi 5), (44, aLi 2), (45, c_ge 205), (48, aLa 0), (49, aGet 12 33), (52, aLi 1), (53, aLi 5), (55, aAst), (56, aI 0), (57, aSi 6), (59, aI 1), (60, aSi 7), (62, aI 0), (63, aSi 8), (65, aLi 8), (67, aLa 0), (68, aGet 12 16), (71, c_ge 168), (74, aLa 0), (75, aGet 12 11), (78, aLi 8), (80, aAld 0), (81, aLi 1), (82, c_ne 162), (85, aLa 0), (86, aGet 12 33), (89, aLa 0), (90, aGet 12 10), (93, aLi 8), (95, aAld 0), (96, aAld 0), (97, aLi 5), (99, c_ne 106), (102, aI 1), (103, aGo 107), (106, aI 0), (107, aLa 0), (108, aGet 12 12), (111, aLi 8), (113, aAld 0), (114, z_le 121), (117, aI 1), (118, aGo 122), (121, aI 0), (122, c_ne 128), (125, aGo 162), (128, aLi 6), (130, aLa 0), (131, aGet 12 39), (134, aLi 8), (136, aAld 0), (137, a_iadd), (138, aSi 6), (140, aLi 7), (142, z_eq 159), (145, aLa 0), (146, aGet 12 40), (149, aLi 8), (151, aAld 1), (152, z_eq 159), (155, aI 1), (156, aGo 160), (159, aI 0), (160, aSi 7), (162, aInc 8 1), (165, aGo 65), (168, aLi 7), (170, z_eq 199), (173, aLa 0), (174, aLi 1), (175, aI 1), (176, a_iadd), (177, aLi 2), (178, aLi 5), (180, aLi 3), (181, c_ne 190), (184, aLi 3), (185, aI 1), (186, a_iadd), (187, aGo 191), (190, aLi 3), (191, aLi 4), (193, aLi 6), (195, a_iadd), (196, aIv E k 12 4 Y_MO_puts), (199, aInc 5 1), (202, aGo 36), (205, aRv)]
set_option maxRecDepth 20000 in
theorem pv_MO_puts (E : am_E) (k : Nat) : am_pv E k Y_MO_puts.2.1 Y_MO_puts.2.2.1 Y_MO_puts.1.cls (P_MO_puts E k) := by
  refine am_pv_cons (v_aload_n (q := 0) (by decide +kernel) rfl) rfl ?_
  refine am_pv_cons (v_get fl_MO_384 (by decide +kernel)) rfl ?_
  refine am_pv_cons (v_iconst (n := -1) (by decide +kernel) rfl) rfl ?_
  refine am_pv_cons (v_ic_eq (off := 13) (by decide +kernel) rfl) rfl ?_
  refine am_pv_cons (v_iload (by decide +kernel)) rfl ?_
  refine am_pv_cons (v_aload_n (q := 0) (by decide +kernel) rfl) rfl ?_
  refine am_pv_cons (v_get fl_MO_384 (by decide +kernel)) rfl ?_
  refine am_pv_cons (v_ic_lt (off := 4) (by decide +kernel) rfl) rfl ?_
  refine am_pv_cons (v_return_ (by decide +kernel)) rfl ?_
  refine am_pv_cons (v_iload_n (q := 1) (by decide +kernel) rfl) rfl ?_
  refine am_pv_cons (v_aload_n (q := 0) (by decide +kernel) rfl) rfl ?_
  refine am_pv_cons (v_get fl_MO_116 (by decide +kernel)) rfl ?_
  refine am_pv_cons (v_ic_ne (off := 10) (by decide +kernel) rfl) rfl ?_
  refine am_pv_cons (v_aload_n (q := 0) (by decide +kernel) rfl) rfl ?_
  refine am_pv_cons (v_iload (by decide +kernel)) rfl ?_
  refine am_pv_cons (v_put fw_MO_384 (by decide +kernel)) rfl ?_
  refine am_pv_cons (v_return_ (by decide +kernel)) rfl ?_
  refine am_pv_cons (v_iconst (n := 0) (by decide +kernel) rfl) rfl ?_
  refine am_pv_cons (v_istore (by decide +kernel)) rfl ?_
  refine am_pv_cons (v_iload (by decide +kernel)) rfl ?_
  refine am_pv_cons (v_iload_n (q := 3) (by decide +kernel) rfl) rfl ?_
  refine am_pv_cons (v_ic_gt (off := 166) (by decide +kernel) rfl) rfl ?_
  refine am_pv_cons (v_iload (by decide +kernel)) rfl ?_
  refine am_pv_cons (v_iload_n (q := 2) (by decide +kernel) rfl) rfl ?_
  refine am_pv_cons (v_ic_ge (off := 160) (by decide +kernel) rfl) rfl ?_
  refine am_pv_cons (v_aload_n (q := 0) (by decide +kernel) rfl) rfl ?_
  refine am_pv_cons (v_get fl_MO_56 (by decide +kernel)) rfl ?_
  refine am_pv_cons (v_iload_n (q := 1) (by decide +kernel) rfl) rfl ?_
  refine am_pv_cons (v_iload (by decide +kernel)) rfl ?_
  refine am_pv_cons (v_iast (by decide +kernel)) rfl ?_
  refine am_pv_cons (v_iconst (n := 0) (by decide +kernel) rfl) rfl ?_
  refine am_pv_cons (v_istore (by decide +kernel)) rfl ?_
  refine am_pv_cons (v_iconst (n := 1) (by decide +kernel) rfl) rfl ?_
  refine am_pv_cons (v_istore (by decide +kernel)) rfl ?_
  refine am_pv_cons (v_iconst (n := 0) (by decide +kernel) rfl) rfl ?_
  refine am_pv_cons (v_istore (by decide +kernel)) rfl ?_
  refine am_pv_cons (v_iload (by decide +kernel)) rfl ?_
  refine am_pv_cons (v_aload_n (q := 0) (by decide +kernel) rfl) rfl ?_
  refine am_pv_cons (v_get fl_MO_123 (by decide +kernel)) rfl ?_
  refine am_pv_cons (v_ic_ge (off := 97) (by decide +kernel) rfl) rfl ?_
  refine am_pv_cons (v_aload_n (q := 0) (by decide +kernel) rfl) rfl ?_
  refine am_pv_cons (v_get fl_MO_32 (by decide +kernel)) rfl ?_
  refine am_pv_cons (v_iload (by decide +kernel)) rfl ?_
  refine am_pv_cons (v_iald (by decide +kernel)) rfl ?_
  refine am_pv_cons (v_iload_n (q := 1) (by decide +kernel) rfl) rfl ?_
  refine am_pv_cons (v_ic_ne (off := 80) (by decide +kernel) rfl) rfl ?_
  refine am_pv_cons (v_aload_n (q := 0) (by decide +kernel) rfl) rfl ?_
  refine am_pv_cons (v_get fl_MO_56 (by decide +kernel)) rfl ?_
  refine am_pv_cons (v_aload_n (q := 0) (by decide +kernel) rfl) rfl ?_
  refine am_pv_cons (v_get fl_MO_29 (by decide +kernel)) rfl ?_
  refine am_pv_cons (v_iload (by decide +kernel)) rfl ?_
  refine am_pv_cons (v_iald (by decide +kernel)) rfl ?_
  refine am_pv_cons (v_iald (by decide +kernel)) rfl ?_
  refine am_pv_cons (v_iload (by decide +kernel)) rfl ?_
  refine am_pv_cons (v_ic_ne (off := 7) (by decide +kernel) rfl) rfl ?_
  refine am_pv_cons (v_iconst (n := 1) (by decide +kernel) rfl) rfl ?_
  refine am_pv_cons (v_goto (off := 4) (by decide +kernel) rfl) rfl ?_
  refine am_pv_cons (v_iconst (n := 0) (by decide +kernel) rfl) rfl ?_
  refine am_pv_cons (v_aload_n (q := 0) (by decide +kernel) rfl) rfl ?_
  refine am_pv_cons (v_get fl_MO_35 (by decide +kernel)) rfl ?_
  refine am_pv_cons (v_iload (by decide +kernel)) rfl ?_
  refine am_pv_cons (v_iald (by decide +kernel)) rfl ?_
  refine am_pv_cons (v_if_le (off := 7) (by decide +kernel) rfl) rfl ?_
  refine am_pv_cons (v_iconst (n := 1) (by decide +kernel) rfl) rfl ?_
  refine am_pv_cons (v_goto (off := 4) (by decide +kernel) rfl) rfl ?_
  refine am_pv_cons (v_iconst (n := 0) (by decide +kernel) rfl) rfl ?_
  refine am_pv_cons (v_ic_ne (off := 6) (by decide +kernel) rfl) rfl ?_
  refine am_pv_cons (v_goto (off := 37) (by decide +kernel) rfl) rfl ?_
  refine am_pv_cons (v_iload (by decide +kernel)) rfl ?_
  refine am_pv_cons (v_aload_n (q := 0) (by decide +kernel) rfl) rfl ?_
  refine am_pv_cons (v_get fl_MO_71 (by decide +kernel)) rfl ?_
  refine am_pv_cons (v_iload (by decide +kernel)) rfl ?_
  refine am_pv_cons (v_iald (by decide +kernel)) rfl ?_
  refine am_pv_cons (v_iadd (by decide +kernel)) rfl ?_
  refine am_pv_cons (v_istore (by decide +kernel)) rfl ?_
  refine am_pv_cons (v_iload (by decide +kernel)) rfl ?_
  refine am_pv_cons (v_if_eq (off := 17) (by decide +kernel) rfl) rfl ?_
  refine am_pv_cons (v_aload_n (q := 0) (by decide +kernel) rfl) rfl ?_
  refine am_pv_cons (v_get fl_MO_74 (by decide +kernel)) rfl ?_
  refine am_pv_cons (v_iload (by decide +kernel)) rfl ?_
  refine am_pv_cons (v_zald (by decide +kernel)) rfl ?_
  refine am_pv_cons (v_if_eq (off := 7) (by decide +kernel) rfl) rfl ?_
  refine am_pv_cons (v_iconst (n := 1) (by decide +kernel) rfl) rfl ?_
  refine am_pv_cons (v_goto (off := 4) (by decide +kernel) rfl) rfl ?_
  refine am_pv_cons (v_iconst (n := 0) (by decide +kernel) rfl) rfl ?_
  refine am_pv_cons (v_istore (by decide +kernel)) rfl ?_
  refine am_pv_cons (v_iinc (n := 1) (by decide +kernel) (by decide +kernel)) rfl ?_
  refine am_pv_cons (v_goto (off := -100) (by decide +kernel) rfl) rfl ?_
  refine am_pv_cons (v_iload (by decide +kernel)) rfl ?_
  refine am_pv_cons (v_if_eq (off := 29) (by decide +kernel) rfl) rfl ?_
  refine am_pv_cons (v_aload_n (q := 0) (by decide +kernel) rfl) rfl ?_
  refine am_pv_cons (v_iload_n (q := 1) (by decide +kernel) rfl) rfl ?_
  refine am_pv_cons (v_iconst (n := 1) (by decide +kernel) rfl) rfl ?_
  refine am_pv_cons (v_iadd (by decide +kernel)) rfl ?_
  refine am_pv_cons (v_iload_n (q := 2) (by decide +kernel) rfl) rfl ?_
  refine am_pv_cons (v_iload (by decide +kernel)) rfl ?_
  refine am_pv_cons (v_iload_n (q := 3) (by decide +kernel) rfl) rfl ?_
  refine am_pv_cons (v_ic_ne (off := 9) (by decide +kernel) rfl) rfl ?_
  refine am_pv_cons (v_iload_n (q := 3) (by decide +kernel) rfl) rfl ?_
  refine am_pv_cons (v_iconst (n := 1) (by decide +kernel) rfl) rfl ?_
  refine am_pv_cons (v_iadd (by decide +kernel)) rfl ?_
  refine am_pv_cons (v_goto (off := 4) (by decide +kernel) rfl) rfl ?_
  refine am_pv_cons (v_iload_n (q := 3) (by decide +kernel) rfl) rfl ?_
  refine am_pv_cons (v_iload (by decide +kernel)) rfl ?_
  refine am_pv_cons (v_iload (by decide +kernel)) rfl ?_
  refine am_pv_cons (v_iadd (by decide +kernel)) rfl ?_
  refine am_pv_cons (v_virt (idx := 387) yv_MO_puts rfl rfl (tb7 152 (by decide +kernel) rfl) (by decide +kernel)) rfl ?_
  refine am_pv_cons (v_iinc (n := 1) (by decide +kernel) (by decide +kernel)) rfl ?_
  refine am_pv_cons (v_goto (off := -166) (by decide +kernel) rfl) rfl ?_
  refine am_pv_cons (v_return_ (by decide +kernel)) trivial ?_
  exact trivial
def P_MO_many (E : am_E) (k : Nat) : am_P := [(0, aLi 1), (1, aI2L), (2, aJ 1), (3, aJ 4), (6, aIs E k 3 Y_MO_in), (9, z_ne 15), (12, aI (-2)), (14, aRi), (15, aLa 0), (16, aIv E k 12 0 Y_MO_weighs), (19, aLa 0), (20, aI (-1)), (21, aPut 12 42), (24, aLa 0), (25, aI 0), (26, aLi 1), (27, aI 0), (28, aI 0), (29, aIv E k 12 4 Y_MO_puts), (32, aLa 0), (33, aGet 12 42), (36, aRi)]
set_option maxRecDepth 20000 in
theorem pv_MO_many (E : am_E) (k : Nat) : am_pv E k Y_MO_many.2.1 Y_MO_many.2.2.1 Y_MO_many.1.cls (P_MO_many E k) := by
  refine am_pv_cons (v_iload_n (q := 1) (by decide +kernel) rfl) rfl ?_
  refine am_pv_cons (v_i2l (by decide +kernel)) rfl ?_
  refine am_pv_cons (v_lconst (n := 1) (by decide +kernel) rfl) rfl ?_
  refine am_pv_cons (v_ldc2 (i := 391) (tb7 151 (by decide +kernel) rfl) (by decide +kernel)) rfl ?_
  refine am_pv_cons (v_stat (idx := 119) ys_MO_in (tb6 98 (by decide +kernel) rfl) (by decide +kernel)) rfl ?_
  refine am_pv_cons (v_if_ne (off := 6) (by decide +kernel) rfl) rfl ?_
  refine am_pv_cons (v_bipush (n := -2) (by decide +kernel) (by decide +kernel)) rfl ?_
  refine am_pv_cons (v_ireturn (by decide +kernel)) rfl ?_
  refine am_pv_cons (v_aload_n (q := 0) (by decide +kernel) rfl) rfl ?_
  refine am_pv_cons (v_virt (idx := 369) yv_MO_weighs rfl rfl (tb7 115 (by decide +kernel) rfl) (by decide +kernel)) rfl ?_
  refine am_pv_cons (v_aload_n (q := 0) (by decide +kernel) rfl) rfl ?_
  refine am_pv_cons (v_iconst (n := -1) (by decide +kernel) rfl) rfl ?_
  refine am_pv_cons (v_put fw_MO_384 (by decide +kernel)) rfl ?_
  refine am_pv_cons (v_aload_n (q := 0) (by decide +kernel) rfl) rfl ?_
  refine am_pv_cons (v_iconst (n := 0) (by decide +kernel) rfl) rfl ?_
  refine am_pv_cons (v_iload_n (q := 1) (by decide +kernel) rfl) rfl ?_
  refine am_pv_cons (v_iconst (n := 0) (by decide +kernel) rfl) rfl ?_
  refine am_pv_cons (v_iconst (n := 0) (by decide +kernel) rfl) rfl ?_
  refine am_pv_cons (v_virt (idx := 387) yv_MO_puts rfl rfl (tb7 152 (by decide +kernel) rfl) (by decide +kernel)) rfl ?_
  refine am_pv_cons (v_aload_n (q := 0) (by decide +kernel) rfl) rfl ?_
  refine am_pv_cons (v_get fl_MO_384 (by decide +kernel)) rfl ?_
  refine am_pv_cons (v_ireturn (by decide +kernel)) trivial ?_
  exact trivial
def P_MO_leastOf (E : am_E) (k : Nat) : am_P := [(0, aI 0), (1, aSi 2), (2, aLi 1), (3, aLi 2), (4, a_ishr), (5, aI 1), (6, a_iand), (7, z_ne 16), (10, aInc 2 1), (13, aGo 2), (16, aLi 2), (17, aRi)]
set_option maxRecDepth 20000 in
theorem pv_MO_leastOf (E : am_E) (k : Nat) : am_pv E k Y_MO_leastOf.2.1 Y_MO_leastOf.2.2.1 Y_MO_leastOf.1.cls (P_MO_leastOf E k) := by
  refine am_pv_cons (v_iconst (n := 0) (by decide +kernel) rfl) rfl ?_
  refine am_pv_cons (v_istore_n (q := 2) (by decide +kernel) rfl) rfl ?_
  refine am_pv_cons (v_iload_n (q := 1) (by decide +kernel) rfl) rfl ?_
  refine am_pv_cons (v_iload_n (q := 2) (by decide +kernel) rfl) rfl ?_
  refine am_pv_cons (v_ishr (by decide +kernel)) rfl ?_
  refine am_pv_cons (v_iconst (n := 1) (by decide +kernel) rfl) rfl ?_
  refine am_pv_cons (v_iand (by decide +kernel)) rfl ?_
  refine am_pv_cons (v_if_ne (off := 9) (by decide +kernel) rfl) rfl ?_
  refine am_pv_cons (v_iinc (n := 1) (by decide +kernel) (by decide +kernel)) rfl ?_
  refine am_pv_cons (v_goto (off := -11) (by decide +kernel) rfl) rfl ?_
  refine am_pv_cons (v_iload_n (q := 2) (by decide +kernel) rfl) rfl ?_
  refine am_pv_cons (v_ireturn (by decide +kernel)) trivial ?_
  exact trivial
def P_MO_part2 (E : am_E) (k : Nat) : am_P := [(0, aLa 0), (1, aLi 1), (2, aIv E k 12 1 Y_MO_isPerson), (5, z_eq 21), (8, aLa 0), (9, aLa 0), (10, aLi 1), (11, aI 0), (12, aIv E k 12 2 Y_MO_hangs), (15, aIv E k 12 1 Y_MO_leastOf), (18, aGo 23), (21, aI (-2)), (23, aRi)]
set_option maxRecDepth 20000 in
theorem pv_MO_part2 (E : am_E) (k : Nat) : am_pv E k Y_MO_part2.2.1 Y_MO_part2.2.2.1 Y_MO_part2.1.cls (P_MO_part2 E k) := by
  refine am_pv_cons (v_aload_n (q := 0) (by decide +kernel) rfl) rfl ?_
  refine am_pv_cons (v_iload_n (q := 1) (by decide +kernel) rfl) rfl ?_
  refine am_pv_cons (v_virt (idx := 128) yv_MO_isPerson rfl rfl (tb6 105 (by decide +kernel) rfl) (by decide +kernel)) rfl ?_
  refine am_pv_cons (v_if_eq (off := 16) (by decide +kernel) rfl) rfl ?_
  refine am_pv_cons (v_aload_n (q := 0) (by decide +kernel) rfl) rfl ?_
  refine am_pv_cons (v_aload_n (q := 0) (by decide +kernel) rfl) rfl ?_
  refine am_pv_cons (v_iload_n (q := 1) (by decide +kernel) rfl) rfl ?_
  refine am_pv_cons (v_iconst (n := 0) (by decide +kernel) rfl) rfl ?_
  refine am_pv_cons (v_virt (idx := 393) yv_MO_hangs rfl rfl (tb7 160 (by decide +kernel) rfl) (by decide +kernel)) rfl ?_
  refine am_pv_cons (v_virt (idx := 396) yv_MO_leastOf rfl rfl (tb7 164 (by decide +kernel) rfl) (by decide +kernel)) rfl ?_
  refine am_pv_cons (v_goto (off := 5) (by decide +kernel) rfl) rfl ?_
  refine am_pv_cons (v_bipush (n := -2) (by decide +kernel) (by decide +kernel)) rfl ?_
  refine am_pv_cons (v_ireturn (by decide +kernel)) trivial ?_
  exact trivial
def P_MO_doors (E : am_E) (k : Nat) : am_P := [(0, aI 0), (1, aSi 1), (2, aI 0), (3, aSi 2), (4, aLi 2), (5, aLa 0), (6, aGet 12 9), (9, c_ge 57), (12, aLa 0), (13, aLi 2), (14, aI 0), (15, aIv E k 12 2 Y_MO_hangs), (18, aI 1), (19, aLi 2), (20, a_ishl), (21, aI (-1)), (22, a_ixor), (23, a_iand), (24, aSi 3), (25, aLi 3), (26, z_eq 51), (29, aLa 0), (30, aLa 0), (31, aLi 3), (32, aIv E k 12 1 Y_MO_leastOf), (35, aI 1), (36, aLi 2), (37, a_ishl), (38, aIv E k 12 2 Y_MO_hangs), (41, aLi 3), (42, c_eq 51), (45, aLi 1), (46, aI 1), (47, aLi 2), (48, a_ishl), (49, a_ior), (50, aSi 1), (51, aInc 2 1), (54, aGo 4), (57, aLi 1), (58, aRi)]
set_option maxRecDepth 20000 in
theorem pv_MO_doors (E : am_E) (k : Nat) : am_pv E k Y_MO_doors.2.1 Y_MO_doors.2.2.1 Y_MO_doors.1.cls (P_MO_doors E k) := by
  refine am_pv_cons (v_iconst (n := 0) (by decide +kernel) rfl) rfl ?_
  refine am_pv_cons (v_istore_n (q := 1) (by decide +kernel) rfl) rfl ?_
  refine am_pv_cons (v_iconst (n := 0) (by decide +kernel) rfl) rfl ?_
  refine am_pv_cons (v_istore_n (q := 2) (by decide +kernel) rfl) rfl ?_
  refine am_pv_cons (v_iload_n (q := 2) (by decide +kernel) rfl) rfl ?_
  refine am_pv_cons (v_aload_n (q := 0) (by decide +kernel) rfl) rfl ?_
  refine am_pv_cons (v_get fl_MO_116 (by decide +kernel)) rfl ?_
  refine am_pv_cons (v_ic_ge (off := 48) (by decide +kernel) rfl) rfl ?_
  refine am_pv_cons (v_aload_n (q := 0) (by decide +kernel) rfl) rfl ?_
  refine am_pv_cons (v_iload_n (q := 2) (by decide +kernel) rfl) rfl ?_
  refine am_pv_cons (v_iconst (n := 0) (by decide +kernel) rfl) rfl ?_
  refine am_pv_cons (v_virt (idx := 393) yv_MO_hangs rfl rfl (tb7 160 (by decide +kernel) rfl) (by decide +kernel)) rfl ?_
  refine am_pv_cons (v_iconst (n := 1) (by decide +kernel) rfl) rfl ?_
  refine am_pv_cons (v_iload_n (q := 2) (by decide +kernel) rfl) rfl ?_
  refine am_pv_cons (v_ishl (by decide +kernel)) rfl ?_
  refine am_pv_cons (v_iconst (n := -1) (by decide +kernel) rfl) rfl ?_
  refine am_pv_cons (v_ixor (by decide +kernel)) rfl ?_
  refine am_pv_cons (v_iand (by decide +kernel)) rfl ?_
  refine am_pv_cons (v_istore_n (q := 3) (by decide +kernel) rfl) rfl ?_
  refine am_pv_cons (v_iload_n (q := 3) (by decide +kernel) rfl) rfl ?_
  refine am_pv_cons (v_if_eq (off := 25) (by decide +kernel) rfl) rfl ?_
  refine am_pv_cons (v_aload_n (q := 0) (by decide +kernel) rfl) rfl ?_
  refine am_pv_cons (v_aload_n (q := 0) (by decide +kernel) rfl) rfl ?_
  refine am_pv_cons (v_iload_n (q := 3) (by decide +kernel) rfl) rfl ?_
  refine am_pv_cons (v_virt (idx := 396) yv_MO_leastOf rfl rfl (tb7 164 (by decide +kernel) rfl) (by decide +kernel)) rfl ?_
  refine am_pv_cons (v_iconst (n := 1) (by decide +kernel) rfl) rfl ?_
  refine am_pv_cons (v_iload_n (q := 2) (by decide +kernel) rfl) rfl ?_
  refine am_pv_cons (v_ishl (by decide +kernel)) rfl ?_
  refine am_pv_cons (v_virt (idx := 393) yv_MO_hangs rfl rfl (tb7 160 (by decide +kernel) rfl) (by decide +kernel)) rfl ?_
  refine am_pv_cons (v_iload_n (q := 3) (by decide +kernel) rfl) rfl ?_
  refine am_pv_cons (v_ic_eq (off := 9) (by decide +kernel) rfl) rfl ?_
  refine am_pv_cons (v_iload_n (q := 1) (by decide +kernel) rfl) rfl ?_
  refine am_pv_cons (v_iconst (n := 1) (by decide +kernel) rfl) rfl ?_
  refine am_pv_cons (v_iload_n (q := 2) (by decide +kernel) rfl) rfl ?_
  refine am_pv_cons (v_ishl (by decide +kernel)) rfl ?_
  refine am_pv_cons (v_ior (by decide +kernel)) rfl ?_
  refine am_pv_cons (v_istore_n (q := 1) (by decide +kernel) rfl) rfl ?_
  refine am_pv_cons (v_iinc (n := 1) (by decide +kernel) (by decide +kernel)) rfl ?_
  refine am_pv_cons (v_goto (off := -50) (by decide +kernel) rfl) rfl ?_
  refine am_pv_cons (v_iload_n (q := 1) (by decide +kernel) rfl) rfl ?_
  refine am_pv_cons (v_ireturn (by decide +kernel)) trivial ?_
  exact trivial
def P_MO_isBadThree (E : am_E) (k : Nat) : am_P := [(0, aLa 0), (1, aLi 1), (2, aLi 2), (3, aIv E k 12 2 Y_MO_of), (6, aSi 4), (8, aLa 0), (9, aLi 2), (10, aLi 3), (11, aIv E k 12 2 Y_MO_of), (14, aSi 5), (16, aLa 0), (17, aLi 1), (18, aLi 3), (19, aIv E k 12 2 Y_MO_of), (22, aSi 6), (24, aLi 4), (26, aI (-1)), (27, c_eq 72), (30, aLi 5), (32, aI (-1)), (33, c_eq 72), (36, aLi 6), (38, aI (-1)), (39, c_eq 72), (42, aLa 0), (43, aGet 12 12), (46, aLi 4), (48, aAld 0), (49, aLa 0), (50, aGet 12 12), (53, aLi 5), (55, aAld 0), (56, a_imul), (57, aLa 0), (58, aGet 12 12), (61, aLi 6), (63, aAld 0), (64, a_imul), (65, z_ge 72), (68, aI 1), (69, aGo 73), (72, aI 0), (73, aRi)]
set_option maxRecDepth 20000 in
theorem pv_MO_isBadThree (E : am_E) (k : Nat) : am_pv E k Y_MO_isBadThree.2.1 Y_MO_isBadThree.2.2.1 Y_MO_isBadThree.1.cls (P_MO_isBadThree E k) := by
  refine am_pv_cons (v_aload_n (q := 0) (by decide +kernel) rfl) rfl ?_
  refine am_pv_cons (v_iload_n (q := 1) (by decide +kernel) rfl) rfl ?_
  refine am_pv_cons (v_iload_n (q := 2) (by decide +kernel) rfl) rfl ?_
  refine am_pv_cons (v_virt (idx := 134) yv_MO_of rfl rfl (tb6 119 (by decide +kernel) rfl) (by decide +kernel)) rfl ?_
  refine am_pv_cons (v_istore (by decide +kernel)) rfl ?_
  refine am_pv_cons (v_aload_n (q := 0) (by decide +kernel) rfl) rfl ?_
  refine am_pv_cons (v_iload_n (q := 2) (by decide +kernel) rfl) rfl ?_
  refine am_pv_cons (v_iload_n (q := 3) (by decide +kernel) rfl) rfl ?_
  refine am_pv_cons (v_virt (idx := 134) yv_MO_of rfl rfl (tb6 119 (by decide +kernel) rfl) (by decide +kernel)) rfl ?_
  refine am_pv_cons (v_istore (by decide +kernel)) rfl ?_
  refine am_pv_cons (v_aload_n (q := 0) (by decide +kernel) rfl) rfl ?_
  refine am_pv_cons (v_iload_n (q := 1) (by decide +kernel) rfl) rfl ?_
  refine am_pv_cons (v_iload_n (q := 3) (by decide +kernel) rfl) rfl ?_
  refine am_pv_cons (v_virt (idx := 134) yv_MO_of rfl rfl (tb6 119 (by decide +kernel) rfl) (by decide +kernel)) rfl ?_
  refine am_pv_cons (v_istore (by decide +kernel)) rfl ?_
  refine am_pv_cons (v_iload (by decide +kernel)) rfl ?_
  refine am_pv_cons (v_iconst (n := -1) (by decide +kernel) rfl) rfl ?_
  refine am_pv_cons (v_ic_eq (off := 45) (by decide +kernel) rfl) rfl ?_
  refine am_pv_cons (v_iload (by decide +kernel)) rfl ?_
  refine am_pv_cons (v_iconst (n := -1) (by decide +kernel) rfl) rfl ?_
  refine am_pv_cons (v_ic_eq (off := 39) (by decide +kernel) rfl) rfl ?_
  refine am_pv_cons (v_iload (by decide +kernel)) rfl ?_
  refine am_pv_cons (v_iconst (n := -1) (by decide +kernel) rfl) rfl ?_
  refine am_pv_cons (v_ic_eq (off := 33) (by decide +kernel) rfl) rfl ?_
  refine am_pv_cons (v_aload_n (q := 0) (by decide +kernel) rfl) rfl ?_
  refine am_pv_cons (v_get fl_MO_35 (by decide +kernel)) rfl ?_
  refine am_pv_cons (v_iload (by decide +kernel)) rfl ?_
  refine am_pv_cons (v_iald (by decide +kernel)) rfl ?_
  refine am_pv_cons (v_aload_n (q := 0) (by decide +kernel) rfl) rfl ?_
  refine am_pv_cons (v_get fl_MO_35 (by decide +kernel)) rfl ?_
  refine am_pv_cons (v_iload (by decide +kernel)) rfl ?_
  refine am_pv_cons (v_iald (by decide +kernel)) rfl ?_
  refine am_pv_cons (v_imul (by decide +kernel)) rfl ?_
  refine am_pv_cons (v_aload_n (q := 0) (by decide +kernel) rfl) rfl ?_
  refine am_pv_cons (v_get fl_MO_35 (by decide +kernel)) rfl ?_
  refine am_pv_cons (v_iload (by decide +kernel)) rfl ?_
  refine am_pv_cons (v_iald (by decide +kernel)) rfl ?_
  refine am_pv_cons (v_imul (by decide +kernel)) rfl ?_
  refine am_pv_cons (v_if_ge (off := 7) (by decide +kernel) rfl) rfl ?_
  refine am_pv_cons (v_iconst (n := 1) (by decide +kernel) rfl) rfl ?_
  refine am_pv_cons (v_goto (off := 4) (by decide +kernel) rfl) rfl ?_
  refine am_pv_cons (v_iconst (n := 0) (by decide +kernel) rfl) rfl ?_
  refine am_pv_cons (v_ireturn (by decide +kernel)) trivial ?_
  exact trivial
def P_MO_badThrees (E : am_E) (k : Nat) : am_P := [(0, aI 0), (1, aSi 2), (2, aI 0), (3, aSi 3), (4, aLi 3), (5, aLa 0), (6, aGet 12 9), (9, c_ge 66), (12, aLi 2), (13, aLi 3), (14, aLa 0), (15, aGet 12 10), (18, aLi 1), (19, aAld 0), (20, c_eq 57), (23, aLi 3), (24, aLa 0), (25, aGet 12 11), (28, aLi 1), (29, aAld 0), (30, c_eq 57), (33, aLa 0), (34, aLa 0), (35, aGet 12 10), (38, aLi 1), (39, aAld 0), (40, aLa 0), (41, aGet 12 11), (44, aLi 1), (45, aAld 0), (46, aLi 3), (47, aIv E k 12 3 Y_MO_isBadThree), (50, z_eq 57), (53, aI 1), (54, aGo 58), (57, aI 0), (58, a_iadd), (59, aSi 2), (60, aInc 3 1), (63, aGo 4), (66, aLi 2), (67, aRi)]
set_option maxRecDepth 20000 in
theorem pv_MO_badThrees (E : am_E) (k : Nat) : am_pv E k Y_MO_badThrees.2.1 Y_MO_badThrees.2.2.1 Y_MO_badThrees.1.cls (P_MO_badThrees E k) := by
  refine am_pv_cons (v_iconst (n := 0) (by decide +kernel) rfl) rfl ?_
  refine am_pv_cons (v_istore_n (q := 2) (by decide +kernel) rfl) rfl ?_
  refine am_pv_cons (v_iconst (n := 0) (by decide +kernel) rfl) rfl ?_
  refine am_pv_cons (v_istore_n (q := 3) (by decide +kernel) rfl) rfl ?_
  refine am_pv_cons (v_iload_n (q := 3) (by decide +kernel) rfl) rfl ?_
  refine am_pv_cons (v_aload_n (q := 0) (by decide +kernel) rfl) rfl ?_
  refine am_pv_cons (v_get fl_MO_116 (by decide +kernel)) rfl ?_
  refine am_pv_cons (v_ic_ge (off := 57) (by decide +kernel) rfl) rfl ?_
  refine am_pv_cons (v_iload_n (q := 2) (by decide +kernel) rfl) rfl ?_
  refine am_pv_cons (v_iload_n (q := 3) (by decide +kernel) rfl) rfl ?_
  refine am_pv_cons (v_aload_n (q := 0) (by decide +kernel) rfl) rfl ?_
  refine am_pv_cons (v_get fl_MO_29 (by decide +kernel)) rfl ?_
  refine am_pv_cons (v_iload_n (q := 1) (by decide +kernel) rfl) rfl ?_
  refine am_pv_cons (v_iald (by decide +kernel)) rfl ?_
  refine am_pv_cons (v_ic_eq (off := 37) (by decide +kernel) rfl) rfl ?_
  refine am_pv_cons (v_iload_n (q := 3) (by decide +kernel) rfl) rfl ?_
  refine am_pv_cons (v_aload_n (q := 0) (by decide +kernel) rfl) rfl ?_
  refine am_pv_cons (v_get fl_MO_32 (by decide +kernel)) rfl ?_
  refine am_pv_cons (v_iload_n (q := 1) (by decide +kernel) rfl) rfl ?_
  refine am_pv_cons (v_iald (by decide +kernel)) rfl ?_
  refine am_pv_cons (v_ic_eq (off := 27) (by decide +kernel) rfl) rfl ?_
  refine am_pv_cons (v_aload_n (q := 0) (by decide +kernel) rfl) rfl ?_
  refine am_pv_cons (v_aload_n (q := 0) (by decide +kernel) rfl) rfl ?_
  refine am_pv_cons (v_get fl_MO_29 (by decide +kernel)) rfl ?_
  refine am_pv_cons (v_iload_n (q := 1) (by decide +kernel) rfl) rfl ?_
  refine am_pv_cons (v_iald (by decide +kernel)) rfl ?_
  refine am_pv_cons (v_aload_n (q := 0) (by decide +kernel) rfl) rfl ?_
  refine am_pv_cons (v_get fl_MO_32 (by decide +kernel)) rfl ?_
  refine am_pv_cons (v_iload_n (q := 1) (by decide +kernel) rfl) rfl ?_
  refine am_pv_cons (v_iald (by decide +kernel)) rfl ?_
  refine am_pv_cons (v_iload_n (q := 3) (by decide +kernel) rfl) rfl ?_
  refine am_pv_cons (v_virt (idx := 399) yv_MO_isBadThree rfl rfl (tb6 219 (by decide +kernel) rfl) (by decide +kernel)) rfl ?_
  refine am_pv_cons (v_if_eq (off := 7) (by decide +kernel) rfl) rfl ?_
  refine am_pv_cons (v_iconst (n := 1) (by decide +kernel) rfl) rfl ?_
  refine am_pv_cons (v_goto (off := 4) (by decide +kernel) rfl) rfl ?_
  refine am_pv_cons (v_iconst (n := 0) (by decide +kernel) rfl) rfl ?_
  refine am_pv_cons (v_iadd (by decide +kernel)) rfl ?_
  refine am_pv_cons (v_istore_n (q := 2) (by decide +kernel) rfl) rfl ?_
  refine am_pv_cons (v_iinc (n := 1) (by decide +kernel) (by decide +kernel)) rfl ?_
  refine am_pv_cons (v_goto (off := -59) (by decide +kernel) rfl) rfl ?_
  refine am_pv_cons (v_iload_n (q := 2) (by decide +kernel) rfl) rfl ?_
  refine am_pv_cons (v_ireturn (by decide +kernel)) trivial ?_
  exact trivial
def P_MO_threes (E : am_E) (k : Nat) : am_P := [(0, aI 0), (1, aSi 1), (2, aI 0), (3, aSi 2), (4, aLi 2), (5, aLa 0), (6, aGet 12 9), (9, c_ge 75), (12, aLi 2), (13, aI 1), (14, a_iadd), (15, aSi 3), (16, aLi 3), (17, aLa 0), (18, aGet 12 9), (21, c_ge 69), (24, aLi 3), (25, aI 1), (26, a_iadd), (27, aSi 4), (29, aLi 4), (31, aLa 0), (32, aGet 12 9), (35, c_ge 63), (38, aLi 1), (39, aLa 0), (40, aLi 2), (41, aLi 3), (42, aLi 4), (44, aIv E k 12 3 Y_MO_isBadThree), (47, z_eq 54), (50, aI 1), (51, aGo 55), (54, aI 0), (55, a_iadd), (56, aSi 1), (57, aInc 4 1), (60, aGo 29), (63, aInc 3 1), (66, aGo 16), (69, aInc 2 1), (72, aGo 4), (75, aLi 1), (76, aRi)]
set_option maxRecDepth 20000 in
theorem pv_MO_threes (E : am_E) (k : Nat) : am_pv E k Y_MO_threes.2.1 Y_MO_threes.2.2.1 Y_MO_threes.1.cls (P_MO_threes E k) := by
  refine am_pv_cons (v_iconst (n := 0) (by decide +kernel) rfl) rfl ?_
  refine am_pv_cons (v_istore_n (q := 1) (by decide +kernel) rfl) rfl ?_
  refine am_pv_cons (v_iconst (n := 0) (by decide +kernel) rfl) rfl ?_
  refine am_pv_cons (v_istore_n (q := 2) (by decide +kernel) rfl) rfl ?_
  refine am_pv_cons (v_iload_n (q := 2) (by decide +kernel) rfl) rfl ?_
  refine am_pv_cons (v_aload_n (q := 0) (by decide +kernel) rfl) rfl ?_
  refine am_pv_cons (v_get fl_MO_116 (by decide +kernel)) rfl ?_
  refine am_pv_cons (v_ic_ge (off := 66) (by decide +kernel) rfl) rfl ?_
  refine am_pv_cons (v_iload_n (q := 2) (by decide +kernel) rfl) rfl ?_
  refine am_pv_cons (v_iconst (n := 1) (by decide +kernel) rfl) rfl ?_
  refine am_pv_cons (v_iadd (by decide +kernel)) rfl ?_
  refine am_pv_cons (v_istore_n (q := 3) (by decide +kernel) rfl) rfl ?_
  refine am_pv_cons (v_iload_n (q := 3) (by decide +kernel) rfl) rfl ?_
  refine am_pv_cons (v_aload_n (q := 0) (by decide +kernel) rfl) rfl ?_
  refine am_pv_cons (v_get fl_MO_116 (by decide +kernel)) rfl ?_
  refine am_pv_cons (v_ic_ge (off := 48) (by decide +kernel) rfl) rfl ?_
  refine am_pv_cons (v_iload_n (q := 3) (by decide +kernel) rfl) rfl ?_
  refine am_pv_cons (v_iconst (n := 1) (by decide +kernel) rfl) rfl ?_
  refine am_pv_cons (v_iadd (by decide +kernel)) rfl ?_
  refine am_pv_cons (v_istore (by decide +kernel)) rfl ?_
  refine am_pv_cons (v_iload (by decide +kernel)) rfl ?_
  refine am_pv_cons (v_aload_n (q := 0) (by decide +kernel) rfl) rfl ?_
  refine am_pv_cons (v_get fl_MO_116 (by decide +kernel)) rfl ?_
  refine am_pv_cons (v_ic_ge (off := 28) (by decide +kernel) rfl) rfl ?_
  refine am_pv_cons (v_iload_n (q := 1) (by decide +kernel) rfl) rfl ?_
  refine am_pv_cons (v_aload_n (q := 0) (by decide +kernel) rfl) rfl ?_
  refine am_pv_cons (v_iload_n (q := 2) (by decide +kernel) rfl) rfl ?_
  refine am_pv_cons (v_iload_n (q := 3) (by decide +kernel) rfl) rfl ?_
  refine am_pv_cons (v_iload (by decide +kernel)) rfl ?_
  refine am_pv_cons (v_virt (idx := 399) yv_MO_isBadThree rfl rfl (tb6 219 (by decide +kernel) rfl) (by decide +kernel)) rfl ?_
  refine am_pv_cons (v_if_eq (off := 7) (by decide +kernel) rfl) rfl ?_
  refine am_pv_cons (v_iconst (n := 1) (by decide +kernel) rfl) rfl ?_
  refine am_pv_cons (v_goto (off := 4) (by decide +kernel) rfl) rfl ?_
  refine am_pv_cons (v_iconst (n := 0) (by decide +kernel) rfl) rfl ?_
  refine am_pv_cons (v_iadd (by decide +kernel)) rfl ?_
  refine am_pv_cons (v_istore_n (q := 1) (by decide +kernel) rfl) rfl ?_
  refine am_pv_cons (v_iinc (n := 1) (by decide +kernel) (by decide +kernel)) rfl ?_
  refine am_pv_cons (v_goto (off := -31) (by decide +kernel) rfl) rfl ?_
  refine am_pv_cons (v_iinc (n := 1) (by decide +kernel) (by decide +kernel)) rfl ?_
  refine am_pv_cons (v_goto (off := -50) (by decide +kernel) rfl) rfl ?_
  refine am_pv_cons (v_iinc (n := 1) (by decide +kernel) (by decide +kernel)) rfl ?_
  refine am_pv_cons (v_goto (off := -68) (by decide +kernel) rfl) rfl ?_
  refine am_pv_cons (v_iload_n (q := 1) (by decide +kernel) rfl) rfl ?_
  refine am_pv_cons (v_ireturn (by decide +kernel)) trivial ?_
  exact trivial
def P_MO_steps (E : am_E) (k : Nat) : am_P := [(0, aI (-1)), (1, aSi 2), (2, aI 0), (3, aSi 3), (4, aI 0), (5, aSi 4), (7, aLi 4), (9, aLa 0), (10, aGet 12 16), (13, c_ge 84), (16, aLa 0), (17, aGet 12 10), (20, aLi 4), (22, aAld 0), (23, aLi 1), (24, c_eq 38), (27, aLa 0), (28, aGet 12 11), (31, aLi 4), (33, aAld 0), (34, aLi 1), (35, c_ne 78), (38, aLa 0), (39, aLa 0), (40, aGet 12 4), (43, aLi 4), (45, aI 1), (46, aIv E k 12 3 Y_MO_read), (49, z_ne 55), (52, aGo 78), (55, aLa 0), (56, aLi 4), (58, aIv E k 12 1 Y_MO_badThrees), (61, aSi 5), (63, aLi 5), (65, aLi 3), (66, c_gt 72), (69, aGo 78), (72, aLi 5), (74, aSi 3), (75, aLi 4), (77, aSi 2), (78, aInc 4 1), (81, aGo 7), (84, aLi 2), (85, aI (-1)), (86, c_eq 102), (89, aLa 0), (90, aGet 12 12), (93, aLi 2), (94, aLa 0), (95, aGet 12 12), (98, aLi 2), (99, aAld 0), (100, a_ineg), (101, aAst), (102, aLi 2), (103, aRi)]
set_option maxRecDepth 20000 in
theorem pv_MO_steps (E : am_E) (k : Nat) : am_pv E k Y_MO_steps.2.1 Y_MO_steps.2.2.1 Y_MO_steps.1.cls (P_MO_steps E k) := by
  refine am_pv_cons (v_iconst (n := -1) (by decide +kernel) rfl) rfl ?_
  refine am_pv_cons (v_istore_n (q := 2) (by decide +kernel) rfl) rfl ?_
  refine am_pv_cons (v_iconst (n := 0) (by decide +kernel) rfl) rfl ?_
  refine am_pv_cons (v_istore_n (q := 3) (by decide +kernel) rfl) rfl ?_
  refine am_pv_cons (v_iconst (n := 0) (by decide +kernel) rfl) rfl ?_
  refine am_pv_cons (v_istore (by decide +kernel)) rfl ?_
  refine am_pv_cons (v_iload (by decide +kernel)) rfl ?_
  refine am_pv_cons (v_aload_n (q := 0) (by decide +kernel) rfl) rfl ?_
  refine am_pv_cons (v_get fl_MO_123 (by decide +kernel)) rfl ?_
  refine am_pv_cons (v_ic_ge (off := 71) (by decide +kernel) rfl) rfl ?_
  refine am_pv_cons (v_aload_n (q := 0) (by decide +kernel) rfl) rfl ?_
  refine am_pv_cons (v_get fl_MO_29 (by decide +kernel)) rfl ?_
  refine am_pv_cons (v_iload (by decide +kernel)) rfl ?_
  refine am_pv_cons (v_iald (by decide +kernel)) rfl ?_
  refine am_pv_cons (v_iload_n (q := 1) (by decide +kernel) rfl) rfl ?_
  refine am_pv_cons (v_ic_eq (off := 14) (by decide +kernel) rfl) rfl ?_
  refine am_pv_cons (v_aload_n (q := 0) (by decide +kernel) rfl) rfl ?_
  refine am_pv_cons (v_get fl_MO_32 (by decide +kernel)) rfl ?_
  refine am_pv_cons (v_iload (by decide +kernel)) rfl ?_
  refine am_pv_cons (v_iald (by decide +kernel)) rfl ?_
  refine am_pv_cons (v_iload_n (q := 1) (by decide +kernel) rfl) rfl ?_
  refine am_pv_cons (v_ic_ne (off := 43) (by decide +kernel) rfl) rfl ?_
  refine am_pv_cons (v_aload_n (q := 0) (by decide +kernel) rfl) rfl ?_
  refine am_pv_cons (v_aload_n (q := 0) (by decide +kernel) rfl) rfl ?_
  refine am_pv_cons (v_get fl_MO_151 (by decide +kernel)) rfl ?_
  refine am_pv_cons (v_iload (by decide +kernel)) rfl ?_
  refine am_pv_cons (v_iconst (n := 1) (by decide +kernel) rfl) rfl ?_
  refine am_pv_cons (v_virt (idx := 154) yv_MO_read rfl rfl (tb6 135 (by decide +kernel) rfl) (by decide +kernel)) rfl ?_
  refine am_pv_cons (v_if_ne (off := 6) (by decide +kernel) rfl) rfl ?_
  refine am_pv_cons (v_goto (off := 26) (by decide +kernel) rfl) rfl ?_
  refine am_pv_cons (v_aload_n (q := 0) (by decide +kernel) rfl) rfl ?_
  refine am_pv_cons (v_iload (by decide +kernel)) rfl ?_
  refine am_pv_cons (v_virt (idx := 158) yv_MO_badThrees rfl rfl (tb6 215 (by decide +kernel) rfl) (by decide +kernel)) rfl ?_
  refine am_pv_cons (v_istore (by decide +kernel)) rfl ?_
  refine am_pv_cons (v_iload (by decide +kernel)) rfl ?_
  refine am_pv_cons (v_iload_n (q := 3) (by decide +kernel) rfl) rfl ?_
  refine am_pv_cons (v_ic_gt (off := 6) (by decide +kernel) rfl) rfl ?_
  refine am_pv_cons (v_goto (off := 9) (by decide +kernel) rfl) rfl ?_
  refine am_pv_cons (v_iload (by decide +kernel)) rfl ?_
  refine am_pv_cons (v_istore_n (q := 3) (by decide +kernel) rfl) rfl ?_
  refine am_pv_cons (v_iload (by decide +kernel)) rfl ?_
  refine am_pv_cons (v_istore_n (q := 2) (by decide +kernel) rfl) rfl ?_
  refine am_pv_cons (v_iinc (n := 1) (by decide +kernel) (by decide +kernel)) rfl ?_
  refine am_pv_cons (v_goto (off := -74) (by decide +kernel) rfl) rfl ?_
  refine am_pv_cons (v_iload_n (q := 2) (by decide +kernel) rfl) rfl ?_
  refine am_pv_cons (v_iconst (n := -1) (by decide +kernel) rfl) rfl ?_
  refine am_pv_cons (v_ic_eq (off := 16) (by decide +kernel) rfl) rfl ?_
  refine am_pv_cons (v_aload_n (q := 0) (by decide +kernel) rfl) rfl ?_
  refine am_pv_cons (v_get fl_MO_35 (by decide +kernel)) rfl ?_
  refine am_pv_cons (v_iload_n (q := 2) (by decide +kernel) rfl) rfl ?_
  refine am_pv_cons (v_aload_n (q := 0) (by decide +kernel) rfl) rfl ?_
  refine am_pv_cons (v_get fl_MO_35 (by decide +kernel)) rfl ?_
  refine am_pv_cons (v_iload_n (q := 2) (by decide +kernel) rfl) rfl ?_
  refine am_pv_cons (v_iald (by decide +kernel)) rfl ?_
  refine am_pv_cons (v_ineg (by decide +kernel)) rfl ?_
  refine am_pv_cons (v_iast (by decide +kernel)) rfl ?_
  refine am_pv_cons (v_iload_n (q := 2) (by decide +kernel) rfl) rfl ?_
  refine am_pv_cons (v_ireturn (by decide +kernel)) trivial ?_
  exact trivial
def P_MO_step (E : am_E) (k : Nat) : am_P := [(0, aLa 0), (1, aLi 1), (2, aIv E k 12 1 Y_MO_isPerson), (5, z_eq 16), (8, aLa 0), (9, aLi 1), (10, aIv E k 12 1 Y_MO_steps), (13, aGo 18), (16, aI (-2)), (18, aRi)]
set_option maxRecDepth 20000 in
theorem pv_MO_step (E : am_E) (k : Nat) : am_pv E k Y_MO_step.2.1 Y_MO_step.2.2.1 Y_MO_step.1.cls (P_MO_step E k) := by
  refine am_pv_cons (v_aload_n (q := 0) (by decide +kernel) rfl) rfl ?_
  refine am_pv_cons (v_iload_n (q := 1) (by decide +kernel) rfl) rfl ?_
  refine am_pv_cons (v_virt (idx := 128) yv_MO_isPerson rfl rfl (tb6 105 (by decide +kernel) rfl) (by decide +kernel)) rfl ?_
  refine am_pv_cons (v_if_eq (off := 11) (by decide +kernel) rfl) rfl ?_
  refine am_pv_cons (v_aload_n (q := 0) (by decide +kernel) rfl) rfl ?_
  refine am_pv_cons (v_iload_n (q := 1) (by decide +kernel) rfl) rfl ?_
  refine am_pv_cons (v_virt (idx := 403) yv_MO_steps rfl rfl (tb7 180 (by decide +kernel) rfl) (by decide +kernel)) rfl ?_
  refine am_pv_cons (v_goto (off := 5) (by decide +kernel) rfl) rfl ?_
  refine am_pv_cons (v_bipush (n := -2) (by decide +kernel) (by decide +kernel)) rfl ?_
  refine am_pv_cons (v_ireturn (by decide +kernel)) trivial ?_
  exact trivial
def P_MO_ends (E : am_E) (k : Nat) : am_P := [(0, aLi 1), (1, aI2L), (2, aJ 0), (3, aJ 20), (6, aIs E k 3 Y_MO_in), (9, z_ne 15), (12, aI (-2)), (14, aRi), (15, aI 0), (16, aSi 2), (17, aLi 2), (18, aLa 0), (19, aGet 12 16), (22, c_ge 43), (25, aLa 0), (26, aGet 12 43), (29, aLi 2), (30, aLa 0), (31, aGet 12 12), (34, aLi 2), (35, aAld 0), (36, aAst), (37, aInc 2 1), (40, aGo 17), (43, aI (-1)), (44, aSi 2), (45, aI 0), (46, aSi 3), (47, aLi 3), (48, aLi 1), (49, c_gt 117), (52, aLi 2), (53, aI (-1)), (54, c_ne 117), (57, aI 0), (58, aSi 4), (60, aI 0), (61, aSi 5), (63, aLi 5), (65, aLa 0), (66, aGet 12 9), (69, c_ge 104), (72, aLa 0), (73, aLi 5), (75, aIv E k 12 1 Y_MO_steps), (78, aSi 6), (80, aLi 4), (82, z_ne 91), (85, aLi 6), (87, aI (-1)), (88, c_eq 95), (91, aI 1), (92, aGo 96), (95, aI 0), (96, aSi 4), (98, aInc 5 1), (101, aGo 63), (104, aLi 4), (106, z_ne 111), (109, aLi 3), (110, aSi 2), (111, aInc 3 1), (114, aGo 47), (117, aI 0), (118, aSi 3), (119, aLi 3), (120, aLa 0), (121, aGet 12 16), (124, c_ge 145), (127, aLa 0), (128, aGet 12 12), (131, aLi 3), (132, aLa 0), (133, aGet 12 43), (136, aLi 3), (137, aAld 0), (138, aAst), (139, aInc 3 1), (142, aGo 119), (145, aLi 2), (146, aRi)]
set_option maxRecDepth 20000 in
theorem pv_MO_ends (E : am_E) (k : Nat) : am_pv E k Y_MO_ends.2.1 Y_MO_ends.2.2.1 Y_MO_ends.1.cls (P_MO_ends E k) := by
  refine am_pv_cons (v_iload_n (q := 1) (by decide +kernel) rfl) rfl ?_
  refine am_pv_cons (v_i2l (by decide +kernel)) rfl ?_
  refine am_pv_cons (v_lconst (n := 0) (by decide +kernel) rfl) rfl ?_
  refine am_pv_cons (v_ldc2 (i := 406) (tb7 188 (by decide +kernel) rfl) (by decide +kernel)) rfl ?_
  refine am_pv_cons (v_stat (idx := 119) ys_MO_in (tb6 98 (by decide +kernel) rfl) (by decide +kernel)) rfl ?_
  refine am_pv_cons (v_if_ne (off := 6) (by decide +kernel) rfl) rfl ?_
  refine am_pv_cons (v_bipush (n := -2) (by decide +kernel) (by decide +kernel)) rfl ?_
  refine am_pv_cons (v_ireturn (by decide +kernel)) rfl ?_
  refine am_pv_cons (v_iconst (n := 0) (by decide +kernel) rfl) rfl ?_
  refine am_pv_cons (v_istore_n (q := 2) (by decide +kernel) rfl) rfl ?_
  refine am_pv_cons (v_iload_n (q := 2) (by decide +kernel) rfl) rfl ?_
  refine am_pv_cons (v_aload_n (q := 0) (by decide +kernel) rfl) rfl ?_
  refine am_pv_cons (v_get fl_MO_123 (by decide +kernel)) rfl ?_
  refine am_pv_cons (v_ic_ge (off := 21) (by decide +kernel) rfl) rfl ?_
  refine am_pv_cons (v_aload_n (q := 0) (by decide +kernel) rfl) rfl ?_
  refine am_pv_cons (v_get fl_MO_81 (by decide +kernel)) rfl ?_
  refine am_pv_cons (v_iload_n (q := 2) (by decide +kernel) rfl) rfl ?_
  refine am_pv_cons (v_aload_n (q := 0) (by decide +kernel) rfl) rfl ?_
  refine am_pv_cons (v_get fl_MO_35 (by decide +kernel)) rfl ?_
  refine am_pv_cons (v_iload_n (q := 2) (by decide +kernel) rfl) rfl ?_
  refine am_pv_cons (v_iald (by decide +kernel)) rfl ?_
  refine am_pv_cons (v_iast (by decide +kernel)) rfl ?_
  refine am_pv_cons (v_iinc (n := 1) (by decide +kernel) (by decide +kernel)) rfl ?_
  refine am_pv_cons (v_goto (off := -23) (by decide +kernel) rfl) rfl ?_
  refine am_pv_cons (v_iconst (n := -1) (by decide +kernel) rfl) rfl ?_
  refine am_pv_cons (v_istore_n (q := 2) (by decide +kernel) rfl) rfl ?_
  refine am_pv_cons (v_iconst (n := 0) (by decide +kernel) rfl) rfl ?_
  refine am_pv_cons (v_istore_n (q := 3) (by decide +kernel) rfl) rfl ?_
  refine am_pv_cons (v_iload_n (q := 3) (by decide +kernel) rfl) rfl ?_
  refine am_pv_cons (v_iload_n (q := 1) (by decide +kernel) rfl) rfl ?_
  refine am_pv_cons (v_ic_gt (off := 68) (by decide +kernel) rfl) rfl ?_
  refine am_pv_cons (v_iload_n (q := 2) (by decide +kernel) rfl) rfl ?_
  refine am_pv_cons (v_iconst (n := -1) (by decide +kernel) rfl) rfl ?_
  refine am_pv_cons (v_ic_ne (off := 63) (by decide +kernel) rfl) rfl ?_
  refine am_pv_cons (v_iconst (n := 0) (by decide +kernel) rfl) rfl ?_
  refine am_pv_cons (v_istore (by decide +kernel)) rfl ?_
  refine am_pv_cons (v_iconst (n := 0) (by decide +kernel) rfl) rfl ?_
  refine am_pv_cons (v_istore (by decide +kernel)) rfl ?_
  refine am_pv_cons (v_iload (by decide +kernel)) rfl ?_
  refine am_pv_cons (v_aload_n (q := 0) (by decide +kernel) rfl) rfl ?_
  refine am_pv_cons (v_get fl_MO_116 (by decide +kernel)) rfl ?_
  refine am_pv_cons (v_ic_ge (off := 35) (by decide +kernel) rfl) rfl ?_
  refine am_pv_cons (v_aload_n (q := 0) (by decide +kernel) rfl) rfl ?_
  refine am_pv_cons (v_iload (by decide +kernel)) rfl ?_
  refine am_pv_cons (v_virt (idx := 403) yv_MO_steps rfl rfl (tb7 180 (by decide +kernel) rfl) (by decide +kernel)) rfl ?_
  refine am_pv_cons (v_istore (by decide +kernel)) rfl ?_
  refine am_pv_cons (v_iload (by decide +kernel)) rfl ?_
  refine am_pv_cons (v_if_ne (off := 9) (by decide +kernel) rfl) rfl ?_
  refine am_pv_cons (v_iload (by decide +kernel)) rfl ?_
  refine am_pv_cons (v_iconst (n := -1) (by decide +kernel) rfl) rfl ?_
  refine am_pv_cons (v_ic_eq (off := 7) (by decide +kernel) rfl) rfl ?_
  refine am_pv_cons (v_iconst (n := 1) (by decide +kernel) rfl) rfl ?_
  refine am_pv_cons (v_goto (off := 4) (by decide +kernel) rfl) rfl ?_
  refine am_pv_cons (v_iconst (n := 0) (by decide +kernel) rfl) rfl ?_
  refine am_pv_cons (v_istore (by decide +kernel)) rfl ?_
  refine am_pv_cons (v_iinc (n := 1) (by decide +kernel) (by decide +kernel)) rfl ?_
  refine am_pv_cons (v_goto (off := -38) (by decide +kernel) rfl) rfl ?_
  refine am_pv_cons (v_iload (by decide +kernel)) rfl ?_
  refine am_pv_cons (v_if_ne (off := 5) (by decide +kernel) rfl) rfl ?_
  refine am_pv_cons (v_iload_n (q := 3) (by decide +kernel) rfl) rfl ?_
  refine am_pv_cons (v_istore_n (q := 2) (by decide +kernel) rfl) rfl ?_
  refine am_pv_cons (v_iinc (n := 1) (by decide +kernel) (by decide +kernel)) rfl ?_
  refine am_pv_cons (v_goto (off := -67) (by decide +kernel) rfl) rfl ?_
  refine am_pv_cons (v_iconst (n := 0) (by decide +kernel) rfl) rfl ?_
  refine am_pv_cons (v_istore_n (q := 3) (by decide +kernel) rfl) rfl ?_
  refine am_pv_cons (v_iload_n (q := 3) (by decide +kernel) rfl) rfl ?_
  refine am_pv_cons (v_aload_n (q := 0) (by decide +kernel) rfl) rfl ?_
  refine am_pv_cons (v_get fl_MO_123 (by decide +kernel)) rfl ?_
  refine am_pv_cons (v_ic_ge (off := 21) (by decide +kernel) rfl) rfl ?_
  refine am_pv_cons (v_aload_n (q := 0) (by decide +kernel) rfl) rfl ?_
  refine am_pv_cons (v_get fl_MO_35 (by decide +kernel)) rfl ?_
  refine am_pv_cons (v_iload_n (q := 3) (by decide +kernel) rfl) rfl ?_
  refine am_pv_cons (v_aload_n (q := 0) (by decide +kernel) rfl) rfl ?_
  refine am_pv_cons (v_get fl_MO_81 (by decide +kernel)) rfl ?_
  refine am_pv_cons (v_iload_n (q := 3) (by decide +kernel) rfl) rfl ?_
  refine am_pv_cons (v_iald (by decide +kernel)) rfl ?_
  refine am_pv_cons (v_iast (by decide +kernel)) rfl ?_
  refine am_pv_cons (v_iinc (n := 1) (by decide +kernel) (by decide +kernel)) rfl ?_
  refine am_pv_cons (v_goto (off := -23) (by decide +kernel) rfl) rfl ?_
  refine am_pv_cons (v_iload_n (q := 2) (by decide +kernel) rfl) rfl ?_
  refine am_pv_cons (v_ireturn (by decide +kernel)) trivial ?_
  exact trivial
def P_MO_common (E : am_E) (k : Nat) : am_P := [(0, aLi 0), (1, aSi 2), (2, aLi 1), (3, aSi 3), (4, aLi 3), (5, z_eq 21), (8, aLi 2), (9, aLi 3), (10, a_irem), (11, aSi 4), (13, aLi 3), (14, aSi 2), (15, aLi 4), (17, aSi 3), (18, aGo 4), (21, aLi 2), (22, aRi)]
set_option maxRecDepth 20000 in
theorem pv_MO_common (E : am_E) (k : Nat) : am_pv E k Y_MO_common.2.1 Y_MO_common.2.2.1 Y_MO_common.1.cls (P_MO_common E k) := by
  refine am_pv_cons (v_iload_n (q := 0) (by decide +kernel) rfl) rfl ?_
  refine am_pv_cons (v_istore_n (q := 2) (by decide +kernel) rfl) rfl ?_
  refine am_pv_cons (v_iload_n (q := 1) (by decide +kernel) rfl) rfl ?_
  refine am_pv_cons (v_istore_n (q := 3) (by decide +kernel) rfl) rfl ?_
  refine am_pv_cons (v_iload_n (q := 3) (by decide +kernel) rfl) rfl ?_
  refine am_pv_cons (v_if_eq (off := 16) (by decide +kernel) rfl) rfl ?_
  refine am_pv_cons (v_iload_n (q := 2) (by decide +kernel) rfl) rfl ?_
  refine am_pv_cons (v_iload_n (q := 3) (by decide +kernel) rfl) rfl ?_
  refine am_pv_cons (v_irem (by decide +kernel)) rfl ?_
  refine am_pv_cons (v_istore (by decide +kernel)) rfl ?_
  refine am_pv_cons (v_iload_n (q := 3) (by decide +kernel) rfl) rfl ?_
  refine am_pv_cons (v_istore_n (q := 2) (by decide +kernel) rfl) rfl ?_
  refine am_pv_cons (v_iload (by decide +kernel)) rfl ?_
  refine am_pv_cons (v_istore_n (q := 3) (by decide +kernel) rfl) rfl ?_
  refine am_pv_cons (v_goto (off := -14) (by decide +kernel) rfl) rfl ?_
  refine am_pv_cons (v_iload_n (q := 2) (by decide +kernel) rfl) rfl ?_
  refine am_pv_cons (v_ireturn (by decide +kernel)) trivial ?_
  exact trivial
def P_MO_meet (E : am_E) (k : Nat) : am_P := [(0, aLa 0), (1, aLi 1), (2, aIv E k 12 1 Y_MO_isPerson), (5, z_eq 41), (8, aLa 0), (9, aLi 2), (10, aIv E k 12 1 Y_MO_isPerson), (13, z_eq 41), (16, aLi 1), (17, aLi 2), (18, c_eq 41), (21, aLi 3), (22, aI2L), (23, aJ 0), (24, aJ 1), (25, aIs E k 3 Y_MO_in), (28, z_eq 41), (31, aLa 0), (32, aLi 1), (33, aLi 2), (34, aIv E k 12 2 Y_MO_of), (37, aI (-1)), (38, c_eq 45), (41, aJ (-4611686018427387904)), (44, aRl), (45, aLa 0), (46, aIv E k 12 0 Y_MO_goesAll), (49, aSi 4), (51, aLi 4), (53, aI (-1)), (54, c_ne 61), (57, aJ (-4611686018427387904)), (60, aRl), (61, aLa 0), (62, aLi 4), (64, aLi 1), (65, aLi 2), (66, aIv E k 12 3 Y_MO_togethers), (69, aSi 5), (71, aLa 0), (72, aLi 4), (74, aIv E k 12 1 Y_MO_alls), (77, aSi 6), (79, aLi 3), (80, z_ne 88), (83, aLi 5), (85, aGo 90), (88, aLi 6), (90, aLi 5), (92, aLi 6), (94, aIs E k 2 Y_MO_common), (97, a_idiv), (98, aI2L), (99, aRl)]
set_option maxRecDepth 20000 in
theorem pv_MO_meet (E : am_E) (k : Nat) : am_pv E k Y_MO_meet.2.1 Y_MO_meet.2.2.1 Y_MO_meet.1.cls (P_MO_meet E k) := by
  refine am_pv_cons (v_aload_n (q := 0) (by decide +kernel) rfl) rfl ?_
  refine am_pv_cons (v_iload_n (q := 1) (by decide +kernel) rfl) rfl ?_
  refine am_pv_cons (v_virt (idx := 128) yv_MO_isPerson rfl rfl (tb6 105 (by decide +kernel) rfl) (by decide +kernel)) rfl ?_
  refine am_pv_cons (v_if_eq (off := 36) (by decide +kernel) rfl) rfl ?_
  refine am_pv_cons (v_aload_n (q := 0) (by decide +kernel) rfl) rfl ?_
  refine am_pv_cons (v_iload_n (q := 2) (by decide +kernel) rfl) rfl ?_
  refine am_pv_cons (v_virt (idx := 128) yv_MO_isPerson rfl rfl (tb6 105 (by decide +kernel) rfl) (by decide +kernel)) rfl ?_
  refine am_pv_cons (v_if_eq (off := 28) (by decide +kernel) rfl) rfl ?_
  refine am_pv_cons (v_iload_n (q := 1) (by decide +kernel) rfl) rfl ?_
  refine am_pv_cons (v_iload_n (q := 2) (by decide +kernel) rfl) rfl ?_
  refine am_pv_cons (v_ic_eq (off := 23) (by decide +kernel) rfl) rfl ?_
  refine am_pv_cons (v_iload_n (q := 3) (by decide +kernel) rfl) rfl ?_
  refine am_pv_cons (v_i2l (by decide +kernel)) rfl ?_
  refine am_pv_cons (v_lconst (n := 0) (by decide +kernel) rfl) rfl ?_
  refine am_pv_cons (v_lconst (n := 1) (by decide +kernel) rfl) rfl ?_
  refine am_pv_cons (v_stat (idx := 119) ys_MO_in (tb6 98 (by decide +kernel) rfl) (by decide +kernel)) rfl ?_
  refine am_pv_cons (v_if_eq (off := 13) (by decide +kernel) rfl) rfl ?_
  refine am_pv_cons (v_aload_n (q := 0) (by decide +kernel) rfl) rfl ?_
  refine am_pv_cons (v_iload_n (q := 1) (by decide +kernel) rfl) rfl ?_
  refine am_pv_cons (v_iload_n (q := 2) (by decide +kernel) rfl) rfl ?_
  refine am_pv_cons (v_virt (idx := 134) yv_MO_of rfl rfl (tb6 119 (by decide +kernel) rfl) (by decide +kernel)) rfl ?_
  refine am_pv_cons (v_iconst (n := -1) (by decide +kernel) rfl) rfl ?_
  refine am_pv_cons (v_ic_eq (off := 7) (by decide +kernel) rfl) rfl ?_
  refine am_pv_cons (v_ldc2 (i := 350) (tb7 74 (by decide +kernel) rfl) (by decide +kernel)) rfl ?_
  refine am_pv_cons (v_lreturn (by decide +kernel)) rfl ?_
  refine am_pv_cons (v_aload_n (q := 0) (by decide +kernel) rfl) rfl ?_
  refine am_pv_cons (v_virt (idx := 375) yv_MO_goesAll rfl rfl (tb7 111 (by decide +kernel) rfl) (by decide +kernel)) rfl ?_
  refine am_pv_cons (v_istore (by decide +kernel)) rfl ?_
  refine am_pv_cons (v_iload (by decide +kernel)) rfl ?_
  refine am_pv_cons (v_iconst (n := -1) (by decide +kernel) rfl) rfl ?_
  refine am_pv_cons (v_ic_ne (off := 7) (by decide +kernel) rfl) rfl ?_
  refine am_pv_cons (v_ldc2 (i := 350) (tb7 74 (by decide +kernel) rfl) (by decide +kernel)) rfl ?_
  refine am_pv_cons (v_lreturn (by decide +kernel)) rfl ?_
  refine am_pv_cons (v_aload_n (q := 0) (by decide +kernel) rfl) rfl ?_
  refine am_pv_cons (v_iload (by decide +kernel)) rfl ?_
  refine am_pv_cons (v_iload_n (q := 1) (by decide +kernel) rfl) rfl ?_
  refine am_pv_cons (v_iload_n (q := 2) (by decide +kernel) rfl) rfl ?_
  refine am_pv_cons (v_virt (idx := 378) yv_MO_togethers rfl rfl (tb7 135 (by decide +kernel) rfl) (by decide +kernel)) rfl ?_
  refine am_pv_cons (v_istore (by decide +kernel)) rfl ?_
  refine am_pv_cons (v_aload_n (q := 0) (by decide +kernel) rfl) rfl ?_
  refine am_pv_cons (v_iload (by decide +kernel)) rfl ?_
  refine am_pv_cons (v_virt (idx := 381) yv_MO_alls rfl rfl (tb7 139 (by decide +kernel) rfl) (by decide +kernel)) rfl ?_
  refine am_pv_cons (v_istore (by decide +kernel)) rfl ?_
  refine am_pv_cons (v_iload_n (q := 3) (by decide +kernel) rfl) rfl ?_
  refine am_pv_cons (v_if_ne (off := 8) (by decide +kernel) rfl) rfl ?_
  refine am_pv_cons (v_iload (by decide +kernel)) rfl ?_
  refine am_pv_cons (v_goto (off := 5) (by decide +kernel) rfl) rfl ?_
  refine am_pv_cons (v_iload (by decide +kernel)) rfl ?_
  refine am_pv_cons (v_iload (by decide +kernel)) rfl ?_
  refine am_pv_cons (v_iload (by decide +kernel)) rfl ?_
  refine am_pv_cons (v_stat (idx := 408) ys_MO_common (tb7 193 (by decide +kernel) rfl) (by decide +kernel)) rfl ?_
  refine am_pv_cons (v_idiv (by decide +kernel)) rfl ?_
  refine am_pv_cons (v_i2l (by decide +kernel)) rfl ?_
  refine am_pv_cons (v_lreturn (by decide +kernel)) trivial ?_
  exact trivial
def P_MO_edge (E : am_E) (k : Nat) : am_P := [(0, aLa 0), (1, aLi 1), (2, aIv E k 12 1 Y_MO_isFeeling), (5, z_ne 12), (8, aJ (-4611686018427387904)), (11, aRl), (12, aLa 0), (13, aIv E k 12 0 Y_MO_goesAll), (16, aSi 2), (17, aLi 2), (18, aI (-1)), (19, c_ne 26), (22, aJ (-4611686018427387904)), (25, aRl), (26, aI (-1)), (27, aSi 3), (28, aI (-1)), (29, aSi 4), (31, aI 0), (32, aSi 5), (34, aLi 5), (36, aI 1), (37, aLa 0), (38, aGet 12 9), (41, a_ishl), (42, c_ge 122), (45, aLa 0), (46, aGet 12 41), (49, aLi 5), (51, aAld 0), (52, aSi 6), (54, aLi 6), (56, aI (-1)), (57, c_ne 63), (60, aGo 116), (63, aLa 0), (64, aLi 1), (65, aLi 5), (67, aIv E k 12 2 Y_MO_isWrongIn), (70, z_eq 94), (73, aLi 3), (74, aI (-1)), (75, c_eq 84), (78, aLi 6), (80, aLi 3), (81, c_ge 89), (84, aLi 6), (86, aGo 90), (89, aLi 3), (90, aSi 3), (91, aGo 116), (94, aLi 4), (96, aI (-1)), (97, c_eq 107), (100, aLi 6), (102, aLi 4), (104, c_ge 112), (107, aLi 6), (109, aGo 114), (112, aLi 4), (114, aSi 4), (116, aInc 5 2), (119, aGo 34), (122, aLi 3), (123, aLi 2), (124, c_ne 135), (127, aLi 4), (129, aLi 2), (130, c_ne 135), (133, aJ 0), (134, aRl), (135, aLi 4), (137, aLi 2), (138, c_ne 157), (141, aLi 3), (142, aI (-1)), (143, c_ne 152), (146, aJ 1000000), (149, aGo 156), (152, aLi 3), (153, aLi 2), (154, a_isub), (155, aI2L), (156, aRl), (157, aLi 4), (159, aI (-1)), (160, c_ne 169), (163, aJ 1000000), (166, aGo 174), (169, aLi 2), (170, aLi 4), (172, a_isub), (173, aI2L), (174, aRl)]
set_option maxRecDepth 20000 in
theorem pv_MO_edge (E : am_E) (k : Nat) : am_pv E k Y_MO_edge.2.1 Y_MO_edge.2.2.1 Y_MO_edge.1.cls (P_MO_edge E k) := by
  refine am_pv_cons (v_aload_n (q := 0) (by decide +kernel) rfl) rfl ?_
  refine am_pv_cons (v_iload_n (q := 1) (by decide +kernel) rfl) rfl ?_
  refine am_pv_cons (v_virt (idx := 144) yv_MO_isFeeling rfl rfl (tb6 127 (by decide +kernel) rfl) (by decide +kernel)) rfl ?_
  refine am_pv_cons (v_if_ne (off := 7) (by decide +kernel) rfl) rfl ?_
  refine am_pv_cons (v_ldc2 (i := 350) (tb7 74 (by decide +kernel) rfl) (by decide +kernel)) rfl ?_
  refine am_pv_cons (v_lreturn (by decide +kernel)) rfl ?_
  refine am_pv_cons (v_aload_n (q := 0) (by decide +kernel) rfl) rfl ?_
  refine am_pv_cons (v_virt (idx := 375) yv_MO_goesAll rfl rfl (tb7 111 (by decide +kernel) rfl) (by decide +kernel)) rfl ?_
  refine am_pv_cons (v_istore_n (q := 2) (by decide +kernel) rfl) rfl ?_
  refine am_pv_cons (v_iload_n (q := 2) (by decide +kernel) rfl) rfl ?_
  refine am_pv_cons (v_iconst (n := -1) (by decide +kernel) rfl) rfl ?_
  refine am_pv_cons (v_ic_ne (off := 7) (by decide +kernel) rfl) rfl ?_
  refine am_pv_cons (v_ldc2 (i := 350) (tb7 74 (by decide +kernel) rfl) (by decide +kernel)) rfl ?_
  refine am_pv_cons (v_lreturn (by decide +kernel)) rfl ?_
  refine am_pv_cons (v_iconst (n := -1) (by decide +kernel) rfl) rfl ?_
  refine am_pv_cons (v_istore_n (q := 3) (by decide +kernel) rfl) rfl ?_
  refine am_pv_cons (v_iconst (n := -1) (by decide +kernel) rfl) rfl ?_
  refine am_pv_cons (v_istore (by decide +kernel)) rfl ?_
  refine am_pv_cons (v_iconst (n := 0) (by decide +kernel) rfl) rfl ?_
  refine am_pv_cons (v_istore (by decide +kernel)) rfl ?_
  refine am_pv_cons (v_iload (by decide +kernel)) rfl ?_
  refine am_pv_cons (v_iconst (n := 1) (by decide +kernel) rfl) rfl ?_
  refine am_pv_cons (v_aload_n (q := 0) (by decide +kernel) rfl) rfl ?_
  refine am_pv_cons (v_get fl_MO_116 (by decide +kernel)) rfl ?_
  refine am_pv_cons (v_ishl (by decide +kernel)) rfl ?_
  refine am_pv_cons (v_ic_ge (off := 80) (by decide +kernel) rfl) rfl ?_
  refine am_pv_cons (v_aload_n (q := 0) (by decide +kernel) rfl) rfl ?_
  refine am_pv_cons (v_get fl_MO_78 (by decide +kernel)) rfl ?_
  refine am_pv_cons (v_iload (by decide +kernel)) rfl ?_
  refine am_pv_cons (v_iald (by decide +kernel)) rfl ?_
  refine am_pv_cons (v_istore (by decide +kernel)) rfl ?_
  refine am_pv_cons (v_iload (by decide +kernel)) rfl ?_
  refine am_pv_cons (v_iconst (n := -1) (by decide +kernel) rfl) rfl ?_
  refine am_pv_cons (v_ic_ne (off := 6) (by decide +kernel) rfl) rfl ?_
  refine am_pv_cons (v_goto (off := 56) (by decide +kernel) rfl) rfl ?_
  refine am_pv_cons (v_aload_n (q := 0) (by decide +kernel) rfl) rfl ?_
  refine am_pv_cons (v_iload_n (q := 1) (by decide +kernel) rfl) rfl ?_
  refine am_pv_cons (v_iload (by decide +kernel)) rfl ?_
  refine am_pv_cons (v_virt (idx := 365) yv_MO_isWrongIn rfl rfl (tb7 123 (by decide +kernel) rfl) (by decide +kernel)) rfl ?_
  refine am_pv_cons (v_if_eq (off := 24) (by decide +kernel) rfl) rfl ?_
  refine am_pv_cons (v_iload_n (q := 3) (by decide +kernel) rfl) rfl ?_
  refine am_pv_cons (v_iconst (n := -1) (by decide +kernel) rfl) rfl ?_
  refine am_pv_cons (v_ic_eq (off := 9) (by decide +kernel) rfl) rfl ?_
  refine am_pv_cons (v_iload (by decide +kernel)) rfl ?_
  refine am_pv_cons (v_iload_n (q := 3) (by decide +kernel) rfl) rfl ?_
  refine am_pv_cons (v_ic_ge (off := 8) (by decide +kernel) rfl) rfl ?_
  refine am_pv_cons (v_iload (by decide +kernel)) rfl ?_
  refine am_pv_cons (v_goto (off := 4) (by decide +kernel) rfl) rfl ?_
  refine am_pv_cons (v_iload_n (q := 3) (by decide +kernel) rfl) rfl ?_
  refine am_pv_cons (v_istore_n (q := 3) (by decide +kernel) rfl) rfl ?_
  refine am_pv_cons (v_goto (off := 25) (by decide +kernel) rfl) rfl ?_
  refine am_pv_cons (v_iload (by decide +kernel)) rfl ?_
  refine am_pv_cons (v_iconst (n := -1) (by decide +kernel) rfl) rfl ?_
  refine am_pv_cons (v_ic_eq (off := 10) (by decide +kernel) rfl) rfl ?_
  refine am_pv_cons (v_iload (by decide +kernel)) rfl ?_
  refine am_pv_cons (v_iload (by decide +kernel)) rfl ?_
  refine am_pv_cons (v_ic_ge (off := 8) (by decide +kernel) rfl) rfl ?_
  refine am_pv_cons (v_iload (by decide +kernel)) rfl ?_
  refine am_pv_cons (v_goto (off := 5) (by decide +kernel) rfl) rfl ?_
  refine am_pv_cons (v_iload (by decide +kernel)) rfl ?_
  refine am_pv_cons (v_istore (by decide +kernel)) rfl ?_
  refine am_pv_cons (v_iinc (n := 2) (by decide +kernel) (by decide +kernel)) rfl ?_
  refine am_pv_cons (v_goto (off := -85) (by decide +kernel) rfl) rfl ?_
  refine am_pv_cons (v_iload_n (q := 3) (by decide +kernel) rfl) rfl ?_
  refine am_pv_cons (v_iload_n (q := 2) (by decide +kernel) rfl) rfl ?_
  refine am_pv_cons (v_ic_ne (off := 11) (by decide +kernel) rfl) rfl ?_
  refine am_pv_cons (v_iload (by decide +kernel)) rfl ?_
  refine am_pv_cons (v_iload_n (q := 2) (by decide +kernel) rfl) rfl ?_
  refine am_pv_cons (v_ic_ne (off := 5) (by decide +kernel) rfl) rfl ?_
  refine am_pv_cons (v_lconst (n := 0) (by decide +kernel) rfl) rfl ?_
  refine am_pv_cons (v_lreturn (by decide +kernel)) rfl ?_
  refine am_pv_cons (v_iload (by decide +kernel)) rfl ?_
  refine am_pv_cons (v_iload_n (q := 2) (by decide +kernel) rfl) rfl ?_
  refine am_pv_cons (v_ic_ne (off := 19) (by decide +kernel) rfl) rfl ?_
  refine am_pv_cons (v_iload_n (q := 3) (by decide +kernel) rfl) rfl ?_
  refine am_pv_cons (v_iconst (n := -1) (by decide +kernel) rfl) rfl ?_
  refine am_pv_cons (v_ic_ne (off := 9) (by decide +kernel) rfl) rfl ?_
  refine am_pv_cons (v_ldc2 (i := 411) (tb7 200 (by decide +kernel) rfl) (by decide +kernel)) rfl ?_
  refine am_pv_cons (v_goto (off := 7) (by decide +kernel) rfl) rfl ?_
  refine am_pv_cons (v_iload_n (q := 3) (by decide +kernel) rfl) rfl ?_
  refine am_pv_cons (v_iload_n (q := 2) (by decide +kernel) rfl) rfl ?_
  refine am_pv_cons (v_isub (by decide +kernel)) rfl ?_
  refine am_pv_cons (v_i2l (by decide +kernel)) rfl ?_
  refine am_pv_cons (v_lreturn (by decide +kernel)) rfl ?_
  refine am_pv_cons (v_iload (by decide +kernel)) rfl ?_
  refine am_pv_cons (v_iconst (n := -1) (by decide +kernel) rfl) rfl ?_
  refine am_pv_cons (v_ic_ne (off := 9) (by decide +kernel) rfl) rfl ?_
  refine am_pv_cons (v_ldc2 (i := 411) (tb7 200 (by decide +kernel) rfl) (by decide +kernel)) rfl ?_
  refine am_pv_cons (v_goto (off := 8) (by decide +kernel) rfl) rfl ?_
  refine am_pv_cons (v_iload_n (q := 2) (by decide +kernel) rfl) rfl ?_
  refine am_pv_cons (v_iload (by decide +kernel)) rfl ?_
  refine am_pv_cons (v_isub (by decide +kernel)) rfl ?_
  refine am_pv_cons (v_i2l (by decide +kernel)) rfl ?_
  refine am_pv_cons (v_lreturn (by decide +kernel)) trivial ?_
  exact trivial
def P_MO_bring (E : am_E) (k : Nat) : am_P := [(0, aLa 0), (1, aLi 1), (2, aIv E k 12 1 Y_MO_isPerson), (5, z_eq 21), (8, aLa 0), (9, aLi 2), (10, aIv E k 12 1 Y_MO_isPerson), (13, z_eq 21), (16, aLi 1), (17, aLi 2), (18, c_ne 24), (21, aI (-2)), (23, aRi), (24, aLa 0), (25, aIv E k 12 0 Y_MO_goesAll), (28, aSi 3), (29, aLi 3), (30, aI (-1)), (31, c_ne 37), (34, aI (-3)), (36, aRi), (37, aI 0), (38, aSi 4), (40, aLa 0), (41, aGet 12 41), (44, aLi 4), (46, aAld 0), (47, aLi 3), (48, c_eq 57), (51, aInc 4 2), (54, aGo 40), (57, aLi 4), (59, aLi 1), (60, a_ishr), (61, aI 1), (62, a_iand), (63, aLi 4), (65, aLi 2), (66, a_ishr), (67, aI 1), (68, a_iand), (69, c_eq 75), (72, aI (-3)), (74, aRi), (75, aI (-1)), (76, aSi 5), (78, aI 0), (79, aSi 6), (81, aLi 6), (83, aI 1), (84, aLa 0), (85, aGet 12 9), (88, a_ishl), (89, c_ge 285), (92, aLi 6), (94, aLi 1), (95, a_ishr), (96, aI 1), (97, a_iand), (98, aI 1), (99, c_eq 279), (102, aLi 6), (104, aLi 2), (105, a_ishr), (106, aI 1), (107, a_iand), (108, aI 1), (109, c_eq 279), (112, aLi 5), (114, aI (-1)), (115, c_eq 134), (118, aLi 6), (120, aIs E k 1 Y_MO_bitsOf), (123, aLi 5), (125, aIs E k 1 Y_MO_bitsOf), (128, c_lt 134), (131, aGo 279), (134, aI (-1)), (135, aSi 7), (137, aI 0), (138, aSi 8), (140, aLi 8), (142, aI 1), (143, aLa 0), (144, aGet 12 9), (147, a_ishl), (148, c_ge 206), (151, aLa 0), (152, aGet 12 41), (155, aLi 8), (157, aAld 0), (158, aI (-1)), (159, c_eq 200), (162, aLi 8), (164, aLi 4), (166, a_ixor), (167, aLi 6), (169, a_iand), (170, z_ne 200), (173, aLi 7), (175, aI (-1)), (176, c_eq 191), (179, aLa 0), (180, aGet 12 41), (183, aLi 8), (185, aAld 0), (186, aLi 7), (188, c_ge 200), (191, aLa 0), (192, aGet 12 41), (195, aLi 8), (197, aAld 0), (198, aSi 7), (200, aInc 8 2), (203, aGo 140), (206, aI 1), (207, aSi 8), (209, aI 0), (210, aSi 9), (212, aLi 9), (214, aI 1), (215, aLa 0), (216, aGet 12 9), (219, a_ishl), (220, c_ge 270), (223, aLa 0), (224, aGet 12 41), (227, aLi 9), (229, aAld 0), (230, aLi 7), (232, c_ne 264), (235, aLi 9), (237, aLi 4), (239, a_ixor), (240, aLi 6), (242, a_iand), (243, z_ne 264), (246, aLi 9), (248, aLi 1), (249, a_ishr), (250, aI 1), (251, a_iand), (252, aLi 9), (254, aLi 2), (255, a_ishr), (256, aI 1), (257, a_iand), (258, c_eq 264), (261, aI 0), (262, aSi 8), (264, aInc 9 2), (267, aGo 212), (270, aLi 8), (272, z_eq 279), (275, aLi 6), (277, aSi 5), (279, aInc 6 1), (282, aGo 81), (285, aLi 5), (287, aRi)]
set_option maxRecDepth 20000 in
theorem pv_MO_bring (E : am_E) (k : Nat) : am_pv E k Y_MO_bring.2.1 Y_MO_bring.2.2.1 Y_MO_bring.1.cls (P_MO_bring E k) := by
  refine am_pv_cons (v_aload_n (q := 0) (by decide +kernel) rfl) rfl ?_
  refine am_pv_cons (v_iload_n (q := 1) (by decide +kernel) rfl) rfl ?_
  refine am_pv_cons (v_virt (idx := 128) yv_MO_isPerson rfl rfl (tb6 105 (by decide +kernel) rfl) (by decide +kernel)) rfl ?_
  refine am_pv_cons (v_if_eq (off := 16) (by decide +kernel) rfl) rfl ?_
  refine am_pv_cons (v_aload_n (q := 0) (by decide +kernel) rfl) rfl ?_
  refine am_pv_cons (v_iload_n (q := 2) (by decide +kernel) rfl) rfl ?_
  refine am_pv_cons (v_virt (idx := 128) yv_MO_isPerson rfl rfl (tb6 105 (by decide +kernel) rfl) (by decide +kernel)) rfl ?_
  refine am_pv_cons (v_if_eq (off := 8) (by decide +kernel) rfl) rfl ?_
  refine am_pv_cons (v_iload_n (q := 1) (by decide +kernel) rfl) rfl ?_
  refine am_pv_cons (v_iload_n (q := 2) (by decide +kernel) rfl) rfl ?_
  refine am_pv_cons (v_ic_ne (off := 6) (by decide +kernel) rfl) rfl ?_
  refine am_pv_cons (v_bipush (n := -2) (by decide +kernel) (by decide +kernel)) rfl ?_
  refine am_pv_cons (v_ireturn (by decide +kernel)) rfl ?_
  refine am_pv_cons (v_aload_n (q := 0) (by decide +kernel) rfl) rfl ?_
  refine am_pv_cons (v_virt (idx := 375) yv_MO_goesAll rfl rfl (tb7 111 (by decide +kernel) rfl) (by decide +kernel)) rfl ?_
  refine am_pv_cons (v_istore_n (q := 3) (by decide +kernel) rfl) rfl ?_
  refine am_pv_cons (v_iload_n (q := 3) (by decide +kernel) rfl) rfl ?_
  refine am_pv_cons (v_iconst (n := -1) (by decide +kernel) rfl) rfl ?_
  refine am_pv_cons (v_ic_ne (off := 6) (by decide +kernel) rfl) rfl ?_
  refine am_pv_cons (v_bipush (n := -3) (by decide +kernel) (by decide +kernel)) rfl ?_
  refine am_pv_cons (v_ireturn (by decide +kernel)) rfl ?_
  refine am_pv_cons (v_iconst (n := 0) (by decide +kernel) rfl) rfl ?_
  refine am_pv_cons (v_istore (by decide +kernel)) rfl ?_
  refine am_pv_cons (v_aload_n (q := 0) (by decide +kernel) rfl) rfl ?_
  refine am_pv_cons (v_get fl_MO_78 (by decide +kernel)) rfl ?_
  refine am_pv_cons (v_iload (by decide +kernel)) rfl ?_
  refine am_pv_cons (v_iald (by decide +kernel)) rfl ?_
  refine am_pv_cons (v_iload_n (q := 3) (by decide +kernel) rfl) rfl ?_
  refine am_pv_cons (v_ic_eq (off := 9) (by decide +kernel) rfl) rfl ?_
  refine am_pv_cons (v_iinc (n := 2) (by decide +kernel) (by decide +kernel)) rfl ?_
  refine am_pv_cons (v_goto (off := -14) (by decide +kernel) rfl) rfl ?_
  refine am_pv_cons (v_iload (by decide +kernel)) rfl ?_
  refine am_pv_cons (v_iload_n (q := 1) (by decide +kernel) rfl) rfl ?_
  refine am_pv_cons (v_ishr (by decide +kernel)) rfl ?_
  refine am_pv_cons (v_iconst (n := 1) (by decide +kernel) rfl) rfl ?_
  refine am_pv_cons (v_iand (by decide +kernel)) rfl ?_
  refine am_pv_cons (v_iload (by decide +kernel)) rfl ?_
  refine am_pv_cons (v_iload_n (q := 2) (by decide +kernel) rfl) rfl ?_
  refine am_pv_cons (v_ishr (by decide +kernel)) rfl ?_
  refine am_pv_cons (v_iconst (n := 1) (by decide +kernel) rfl) rfl ?_
  refine am_pv_cons (v_iand (by decide +kernel)) rfl ?_
  refine am_pv_cons (v_ic_eq (off := 6) (by decide +kernel) rfl) rfl ?_
  refine am_pv_cons (v_bipush (n := -3) (by decide +kernel) (by decide +kernel)) rfl ?_
  refine am_pv_cons (v_ireturn (by decide +kernel)) rfl ?_
  refine am_pv_cons (v_iconst (n := -1) (by decide +kernel) rfl) rfl ?_
  refine am_pv_cons (v_istore (by decide +kernel)) rfl ?_
  refine am_pv_cons (v_iconst (n := 0) (by decide +kernel) rfl) rfl ?_
  refine am_pv_cons (v_istore (by decide +kernel)) rfl ?_
  refine am_pv_cons (v_iload (by decide +kernel)) rfl ?_
  refine am_pv_cons (v_iconst (n := 1) (by decide +kernel) rfl) rfl ?_
  refine am_pv_cons (v_aload_n (q := 0) (by decide +kernel) rfl) rfl ?_
  refine am_pv_cons (v_get fl_MO_116 (by decide +kernel)) rfl ?_
  refine am_pv_cons (v_ishl (by decide +kernel)) rfl ?_
  refine am_pv_cons (v_ic_ge (off := 196) (by decide +kernel) rfl) rfl ?_
  refine am_pv_cons (v_iload (by decide +kernel)) rfl ?_
  refine am_pv_cons (v_iload_n (q := 1) (by decide +kernel) rfl) rfl ?_
  refine am_pv_cons (v_ishr (by decide +kernel)) rfl ?_
  refine am_pv_cons (v_iconst (n := 1) (by decide +kernel) rfl) rfl ?_
  refine am_pv_cons (v_iand (by decide +kernel)) rfl ?_
  refine am_pv_cons (v_iconst (n := 1) (by decide +kernel) rfl) rfl ?_
  refine am_pv_cons (v_ic_eq (off := 180) (by decide +kernel) rfl) rfl ?_
  refine am_pv_cons (v_iload (by decide +kernel)) rfl ?_
  refine am_pv_cons (v_iload_n (q := 2) (by decide +kernel) rfl) rfl ?_
  refine am_pv_cons (v_ishr (by decide +kernel)) rfl ?_
  refine am_pv_cons (v_iconst (n := 1) (by decide +kernel) rfl) rfl ?_
  refine am_pv_cons (v_iand (by decide +kernel)) rfl ?_
  refine am_pv_cons (v_iconst (n := 1) (by decide +kernel) rfl) rfl ?_
  refine am_pv_cons (v_ic_eq (off := 170) (by decide +kernel) rfl) rfl ?_
  refine am_pv_cons (v_iload (by decide +kernel)) rfl ?_
  refine am_pv_cons (v_iconst (n := -1) (by decide +kernel) rfl) rfl ?_
  refine am_pv_cons (v_ic_eq (off := 19) (by decide +kernel) rfl) rfl ?_
  refine am_pv_cons (v_iload (by decide +kernel)) rfl ?_
  refine am_pv_cons (v_stat (idx := 317) ys_MO_bitsOf (tb7 55 (by decide +kernel) rfl) (by decide +kernel)) rfl ?_
  refine am_pv_cons (v_iload (by decide +kernel)) rfl ?_
  refine am_pv_cons (v_stat (idx := 317) ys_MO_bitsOf (tb7 55 (by decide +kernel) rfl) (by decide +kernel)) rfl ?_
  refine am_pv_cons (v_ic_lt (off := 6) (by decide +kernel) rfl) rfl ?_
  refine am_pv_cons (v_goto (off := 148) (by decide +kernel) rfl) rfl ?_
  refine am_pv_cons (v_iconst (n := -1) (by decide +kernel) rfl) rfl ?_
  refine am_pv_cons (v_istore (by decide +kernel)) rfl ?_
  refine am_pv_cons (v_iconst (n := 0) (by decide +kernel) rfl) rfl ?_
  refine am_pv_cons (v_istore (by decide +kernel)) rfl ?_
  refine am_pv_cons (v_iload (by decide +kernel)) rfl ?_
  refine am_pv_cons (v_iconst (n := 1) (by decide +kernel) rfl) rfl ?_
  refine am_pv_cons (v_aload_n (q := 0) (by decide +kernel) rfl) rfl ?_
  refine am_pv_cons (v_get fl_MO_116 (by decide +kernel)) rfl ?_
  refine am_pv_cons (v_ishl (by decide +kernel)) rfl ?_
  refine am_pv_cons (v_ic_ge (off := 58) (by decide +kernel) rfl) rfl ?_
  refine am_pv_cons (v_aload_n (q := 0) (by decide +kernel) rfl) rfl ?_
  refine am_pv_cons (v_get fl_MO_78 (by decide +kernel)) rfl ?_
  refine am_pv_cons (v_iload (by decide +kernel)) rfl ?_
  refine am_pv_cons (v_iald (by decide +kernel)) rfl ?_
  refine am_pv_cons (v_iconst (n := -1) (by decide +kernel) rfl) rfl ?_
  refine am_pv_cons (v_ic_eq (off := 41) (by decide +kernel) rfl) rfl ?_
  refine am_pv_cons (v_iload (by decide +kernel)) rfl ?_
  refine am_pv_cons (v_iload (by decide +kernel)) rfl ?_
  refine am_pv_cons (v_ixor (by decide +kernel)) rfl ?_
  refine am_pv_cons (v_iload (by decide +kernel)) rfl ?_
  refine am_pv_cons (v_iand (by decide +kernel)) rfl ?_
  refine am_pv_cons (v_if_ne (off := 30) (by decide +kernel) rfl) rfl ?_
  refine am_pv_cons (v_iload (by decide +kernel)) rfl ?_
  refine am_pv_cons (v_iconst (n := -1) (by decide +kernel) rfl) rfl ?_
  refine am_pv_cons (v_ic_eq (off := 15) (by decide +kernel) rfl) rfl ?_
  refine am_pv_cons (v_aload_n (q := 0) (by decide +kernel) rfl) rfl ?_
  refine am_pv_cons (v_get fl_MO_78 (by decide +kernel)) rfl ?_
  refine am_pv_cons (v_iload (by decide +kernel)) rfl ?_
  refine am_pv_cons (v_iald (by decide +kernel)) rfl ?_
  refine am_pv_cons (v_iload (by decide +kernel)) rfl ?_
  refine am_pv_cons (v_ic_ge (off := 12) (by decide +kernel) rfl) rfl ?_
  refine am_pv_cons (v_aload_n (q := 0) (by decide +kernel) rfl) rfl ?_
  refine am_pv_cons (v_get fl_MO_78 (by decide +kernel)) rfl ?_
  refine am_pv_cons (v_iload (by decide +kernel)) rfl ?_
  refine am_pv_cons (v_iald (by decide +kernel)) rfl ?_
  refine am_pv_cons (v_istore (by decide +kernel)) rfl ?_
  refine am_pv_cons (v_iinc (n := 2) (by decide +kernel) (by decide +kernel)) rfl ?_
  refine am_pv_cons (v_goto (off := -63) (by decide +kernel) rfl) rfl ?_
  refine am_pv_cons (v_iconst (n := 1) (by decide +kernel) rfl) rfl ?_
  refine am_pv_cons (v_istore (by decide +kernel)) rfl ?_
  refine am_pv_cons (v_iconst (n := 0) (by decide +kernel) rfl) rfl ?_
  refine am_pv_cons (v_istore (by decide +kernel)) rfl ?_
  refine am_pv_cons (v_iload (by decide +kernel)) rfl ?_
  refine am_pv_cons (v_iconst (n := 1) (by decide +kernel) rfl) rfl ?_
  refine am_pv_cons (v_aload_n (q := 0) (by decide +kernel) rfl) rfl ?_
  refine am_pv_cons (v_get fl_MO_116 (by decide +kernel)) rfl ?_
  refine am_pv_cons (v_ishl (by decide +kernel)) rfl ?_
  refine am_pv_cons (v_ic_ge (off := 50) (by decide +kernel) rfl) rfl ?_
  refine am_pv_cons (v_aload_n (q := 0) (by decide +kernel) rfl) rfl ?_
  refine am_pv_cons (v_get fl_MO_78 (by decide +kernel)) rfl ?_
  refine am_pv_cons (v_iload (by decide +kernel)) rfl ?_
  refine am_pv_cons (v_iald (by decide +kernel)) rfl ?_
  refine am_pv_cons (v_iload (by decide +kernel)) rfl ?_
  refine am_pv_cons (v_ic_ne (off := 32) (by decide +kernel) rfl) rfl ?_
  refine am_pv_cons (v_iload (by decide +kernel)) rfl ?_
  refine am_pv_cons (v_iload (by decide +kernel)) rfl ?_
  refine am_pv_cons (v_ixor (by decide +kernel)) rfl ?_
  refine am_pv_cons (v_iload (by decide +kernel)) rfl ?_
  refine am_pv_cons (v_iand (by decide +kernel)) rfl ?_
  refine am_pv_cons (v_if_ne (off := 21) (by decide +kernel) rfl) rfl ?_
  refine am_pv_cons (v_iload (by decide +kernel)) rfl ?_
  refine am_pv_cons (v_iload_n (q := 1) (by decide +kernel) rfl) rfl ?_
  refine am_pv_cons (v_ishr (by decide +kernel)) rfl ?_
  refine am_pv_cons (v_iconst (n := 1) (by decide +kernel) rfl) rfl ?_
  refine am_pv_cons (v_iand (by decide +kernel)) rfl ?_
  refine am_pv_cons (v_iload (by decide +kernel)) rfl ?_
  refine am_pv_cons (v_iload_n (q := 2) (by decide +kernel) rfl) rfl ?_
  refine am_pv_cons (v_ishr (by decide +kernel)) rfl ?_
  refine am_pv_cons (v_iconst (n := 1) (by decide +kernel) rfl) rfl ?_
  refine am_pv_cons (v_iand (by decide +kernel)) rfl ?_
  refine am_pv_cons (v_ic_eq (off := 6) (by decide +kernel) rfl) rfl ?_
  refine am_pv_cons (v_iconst (n := 0) (by decide +kernel) rfl) rfl ?_
  refine am_pv_cons (v_istore (by decide +kernel)) rfl ?_
  refine am_pv_cons (v_iinc (n := 2) (by decide +kernel) (by decide +kernel)) rfl ?_
  refine am_pv_cons (v_goto (off := -55) (by decide +kernel) rfl) rfl ?_
  refine am_pv_cons (v_iload (by decide +kernel)) rfl ?_
  refine am_pv_cons (v_if_eq (off := 7) (by decide +kernel) rfl) rfl ?_
  refine am_pv_cons (v_iload (by decide +kernel)) rfl ?_
  refine am_pv_cons (v_istore (by decide +kernel)) rfl ?_
  refine am_pv_cons (v_iinc (n := 1) (by decide +kernel) (by decide +kernel)) rfl ?_
  refine am_pv_cons (v_goto (off := -201) (by decide +kernel) rfl) rfl ?_
  refine am_pv_cons (v_iload (by decide +kernel)) rfl ?_
  refine am_pv_cons (v_ireturn (by decide +kernel)) trivial ?_
  exact trivial
def P_MO_image (E : am_E) (k : Nat) : am_P := [(0, aLa 0), (1, aI 1), (2, aPutz 12 45), (5, aLa 0), (6, aLa 0), (7, aGet 12 9), (10, aPut 12 46), (13, aLa 0), (14, aLa 0), (15, aGet 12 16), (18, aPut 12 47), (21, aLa 0), (22, aLa 0), (23, aGet 12 4), (26, aPut 12 48), (29, aI 0), (30, aSi 1), (31, aLi 1), (32, aLa 0), (33, aGet 12 16), (36, c_ge 145), (39, aLa 0), (40, aGet 12 44), (43, aI 6), (45, aLi 1), (46, a_imul), (47, aLa 0), (48, aGet 12 10), (51, aLi 1), (52, aAld 0), (53, aAst), (54, aLa 0), (55, aGet 12 44), (58, aI 6), (60, aLi 1), (61, a_imul), (62, aI 1), (63, a_iadd), (64, aLa 0), (65, aGet 12 11), (68, aLi 1), (69, aAld 0), (70, aAst), (71, aLa 0), (72, aGet 12 44), (75, aI 6), (77, aLi 1), (78, a_imul), (79, aI 2), (80, a_iadd), (81, aLa 0), (82, aGet 12 12), (85, aLi 1), (86, aAld 0), (87, aAst), (88, aLa 0), (89, aGet 12 44), (92, aI 6), (94, aLi 1), (95, a_imul), (96, aI 3), (97, a_iadd), (98, aLa 0), (99, aGet 12 13), (102, aLi 1), (103, aAld 0), (104, aAst), (105, aLa 0), (106, aGet 12 44), (109, aI 6), (111, aLi 1), (112, a_imul), (113, aI 4), (114, a_iadd), (115, aLa 0), (116, aGet 12 14), (119, aLi 1), (120, aAld 0), (121, aAst), (122, aLa 0), (123, aGet 12 44), (126, aI 6), (128, aLi 1), (129, a_imul), (130, aI 5), (131, a_iadd), (132, aLa 0), (133, aGet 12 15), (136, aLi 1), (137, aAld 0), (138, aAst), (139, aInc 1 1), (142, aGo 31), (145, aI 0), (146, aSi 1), (147, aLi 1), (148, aLa 0), (149, aGet 12 9), (152, c_ge 193), (155, aLa 0), (156, aGet 12 44), (159, aI 216), (162, aLi 1), (163, a_iadd), (164, aLa 0), (165, aGet 12 7), (168, aLi 1), (169, aAld 0), (170, aAst), (171, aLa 0), (172, aGet 12 44), (175, aI 225), (178, aLi 1), (179, a_iadd), (180, aLa 0), (181, aGet 12 8), (184, aLi 1), (185, aAld 0), (186, aAst), (187, aInc 1 1), (190, aGo 147), (193, aLa 0), (194, aGet 12 16), (197, aRi)]
set_option maxRecDepth 20000 in
theorem pv_MO_image (E : am_E) (k : Nat) : am_pv E k Y_MO_image.2.1 Y_MO_image.2.2.1 Y_MO_image.1.cls (P_MO_image E k) := by
  refine am_pv_cons (v_aload_n (q := 0) (by decide +kernel) rfl) rfl ?_
  refine am_pv_cons (v_iconst (n := 1) (by decide +kernel) rfl) rfl ?_
  refine am_pv_cons (v_putz fw_MO_413 (by decide +kernel)) rfl ?_
  refine am_pv_cons (v_aload_n (q := 0) (by decide +kernel) rfl) rfl ?_
  refine am_pv_cons (v_aload_n (q := 0) (by decide +kernel) rfl) rfl ?_
  refine am_pv_cons (v_get fl_MO_116 (by decide +kernel)) rfl ?_
  refine am_pv_cons (v_put fw_MO_416 (by decide +kernel)) rfl ?_
  refine am_pv_cons (v_aload_n (q := 0) (by decide +kernel) rfl) rfl ?_
  refine am_pv_cons (v_aload_n (q := 0) (by decide +kernel) rfl) rfl ?_
  refine am_pv_cons (v_get fl_MO_123 (by decide +kernel)) rfl ?_
  refine am_pv_cons (v_put fw_MO_419 (by decide +kernel)) rfl ?_
  refine am_pv_cons (v_aload_n (q := 0) (by decide +kernel) rfl) rfl ?_
  refine am_pv_cons (v_aload_n (q := 0) (by decide +kernel) rfl) rfl ?_
  refine am_pv_cons (v_get fl_MO_151 (by decide +kernel)) rfl ?_
  refine am_pv_cons (v_put fw_MO_422 (by decide +kernel)) rfl ?_
  refine am_pv_cons (v_iconst (n := 0) (by decide +kernel) rfl) rfl ?_
  refine am_pv_cons (v_istore_n (q := 1) (by decide +kernel) rfl) rfl ?_
  refine am_pv_cons (v_iload_n (q := 1) (by decide +kernel) rfl) rfl ?_
  refine am_pv_cons (v_aload_n (q := 0) (by decide +kernel) rfl) rfl ?_
  refine am_pv_cons (v_get fl_MO_123 (by decide +kernel)) rfl ?_
  refine am_pv_cons (v_ic_ge (off := 109) (by decide +kernel) rfl) rfl ?_
  refine am_pv_cons (v_aload_n (q := 0) (by decide +kernel) rfl) rfl ?_
  refine am_pv_cons (v_get fl_MO_84 (by decide +kernel)) rfl ?_
  refine am_pv_cons (v_bipush (n := 6) (by decide +kernel) (by decide +kernel)) rfl ?_
  refine am_pv_cons (v_iload_n (q := 1) (by decide +kernel) rfl) rfl ?_
  refine am_pv_cons (v_imul (by decide +kernel)) rfl ?_
  refine am_pv_cons (v_aload_n (q := 0) (by decide +kernel) rfl) rfl ?_
  refine am_pv_cons (v_get fl_MO_29 (by decide +kernel)) rfl ?_
  refine am_pv_cons (v_iload_n (q := 1) (by decide +kernel) rfl) rfl ?_
  refine am_pv_cons (v_iald (by decide +kernel)) rfl ?_
  refine am_pv_cons (v_iast (by decide +kernel)) rfl ?_
  refine am_pv_cons (v_aload_n (q := 0) (by decide +kernel) rfl) rfl ?_
  refine am_pv_cons (v_get fl_MO_84 (by decide +kernel)) rfl ?_
  refine am_pv_cons (v_bipush (n := 6) (by decide +kernel) (by decide +kernel)) rfl ?_
  refine am_pv_cons (v_iload_n (q := 1) (by decide +kernel) rfl) rfl ?_
  refine am_pv_cons (v_imul (by decide +kernel)) rfl ?_
  refine am_pv_cons (v_iconst (n := 1) (by decide +kernel) rfl) rfl ?_
  refine am_pv_cons (v_iadd (by decide +kernel)) rfl ?_
  refine am_pv_cons (v_aload_n (q := 0) (by decide +kernel) rfl) rfl ?_
  refine am_pv_cons (v_get fl_MO_32 (by decide +kernel)) rfl ?_
  refine am_pv_cons (v_iload_n (q := 1) (by decide +kernel) rfl) rfl ?_
  refine am_pv_cons (v_iald (by decide +kernel)) rfl ?_
  refine am_pv_cons (v_iast (by decide +kernel)) rfl ?_
  refine am_pv_cons (v_aload_n (q := 0) (by decide +kernel) rfl) rfl ?_
  refine am_pv_cons (v_get fl_MO_84 (by decide +kernel)) rfl ?_
  refine am_pv_cons (v_bipush (n := 6) (by decide +kernel) (by decide +kernel)) rfl ?_
  refine am_pv_cons (v_iload_n (q := 1) (by decide +kernel) rfl) rfl ?_
  refine am_pv_cons (v_imul (by decide +kernel)) rfl ?_
  refine am_pv_cons (v_iconst (n := 2) (by decide +kernel) rfl) rfl ?_
  refine am_pv_cons (v_iadd (by decide +kernel)) rfl ?_
  refine am_pv_cons (v_aload_n (q := 0) (by decide +kernel) rfl) rfl ?_
  refine am_pv_cons (v_get fl_MO_35 (by decide +kernel)) rfl ?_
  refine am_pv_cons (v_iload_n (q := 1) (by decide +kernel) rfl) rfl ?_
  refine am_pv_cons (v_iald (by decide +kernel)) rfl ?_
  refine am_pv_cons (v_iast (by decide +kernel)) rfl ?_
  refine am_pv_cons (v_aload_n (q := 0) (by decide +kernel) rfl) rfl ?_
  refine am_pv_cons (v_get fl_MO_84 (by decide +kernel)) rfl ?_
  refine am_pv_cons (v_bipush (n := 6) (by decide +kernel) (by decide +kernel)) rfl ?_
  refine am_pv_cons (v_iload_n (q := 1) (by decide +kernel) rfl) rfl ?_
  refine am_pv_cons (v_imul (by decide +kernel)) rfl ?_
  refine am_pv_cons (v_iconst (n := 3) (by decide +kernel) rfl) rfl ?_
  refine am_pv_cons (v_iadd (by decide +kernel)) rfl ?_
  refine am_pv_cons (v_aload_n (q := 0) (by decide +kernel) rfl) rfl ?_
  refine am_pv_cons (v_get fl_MO_38 (by decide +kernel)) rfl ?_
  refine am_pv_cons (v_iload_n (q := 1) (by decide +kernel) rfl) rfl ?_
  refine am_pv_cons (v_iald (by decide +kernel)) rfl ?_
  refine am_pv_cons (v_iast (by decide +kernel)) rfl ?_
  refine am_pv_cons (v_aload_n (q := 0) (by decide +kernel) rfl) rfl ?_
  refine am_pv_cons (v_get fl_MO_84 (by decide +kernel)) rfl ?_
  refine am_pv_cons (v_bipush (n := 6) (by decide +kernel) (by decide +kernel)) rfl ?_
  refine am_pv_cons (v_iload_n (q := 1) (by decide +kernel) rfl) rfl ?_
  refine am_pv_cons (v_imul (by decide +kernel)) rfl ?_
  refine am_pv_cons (v_iconst (n := 4) (by decide +kernel) rfl) rfl ?_
  refine am_pv_cons (v_iadd (by decide +kernel)) rfl ?_
  refine am_pv_cons (v_aload_n (q := 0) (by decide +kernel) rfl) rfl ?_
  refine am_pv_cons (v_get fl_MO_41 (by decide +kernel)) rfl ?_
  refine am_pv_cons (v_iload_n (q := 1) (by decide +kernel) rfl) rfl ?_
  refine am_pv_cons (v_iald (by decide +kernel)) rfl ?_
  refine am_pv_cons (v_iast (by decide +kernel)) rfl ?_
  refine am_pv_cons (v_aload_n (q := 0) (by decide +kernel) rfl) rfl ?_
  refine am_pv_cons (v_get fl_MO_84 (by decide +kernel)) rfl ?_
  refine am_pv_cons (v_bipush (n := 6) (by decide +kernel) (by decide +kernel)) rfl ?_
  refine am_pv_cons (v_iload_n (q := 1) (by decide +kernel) rfl) rfl ?_
  refine am_pv_cons (v_imul (by decide +kernel)) rfl ?_
  refine am_pv_cons (v_iconst (n := 5) (by decide +kernel) rfl) rfl ?_
  refine am_pv_cons (v_iadd (by decide +kernel)) rfl ?_
  refine am_pv_cons (v_aload_n (q := 0) (by decide +kernel) rfl) rfl ?_
  refine am_pv_cons (v_get fl_MO_44 (by decide +kernel)) rfl ?_
  refine am_pv_cons (v_iload_n (q := 1) (by decide +kernel) rfl) rfl ?_
  refine am_pv_cons (v_iald (by decide +kernel)) rfl ?_
  refine am_pv_cons (v_iast (by decide +kernel)) rfl ?_
  refine am_pv_cons (v_iinc (n := 1) (by decide +kernel) (by decide +kernel)) rfl ?_
  refine am_pv_cons (v_goto (off := -111) (by decide +kernel) rfl) rfl ?_
  refine am_pv_cons (v_iconst (n := 0) (by decide +kernel) rfl) rfl ?_
  refine am_pv_cons (v_istore_n (q := 1) (by decide +kernel) rfl) rfl ?_
  refine am_pv_cons (v_iload_n (q := 1) (by decide +kernel) rfl) rfl ?_
  refine am_pv_cons (v_aload_n (q := 0) (by decide +kernel) rfl) rfl ?_
  refine am_pv_cons (v_get fl_MO_116 (by decide +kernel)) rfl ?_
  refine am_pv_cons (v_ic_ge (off := 41) (by decide +kernel) rfl) rfl ?_
  refine am_pv_cons (v_aload_n (q := 0) (by decide +kernel) rfl) rfl ?_
  refine am_pv_cons (v_get fl_MO_84 (by decide +kernel)) rfl ?_
  refine am_pv_cons (v_sipush (n := 216) (by decide +kernel) (by decide +kernel)) rfl ?_
  refine am_pv_cons (v_iload_n (q := 1) (by decide +kernel) rfl) rfl ?_
  refine am_pv_cons (v_iadd (by decide +kernel)) rfl ?_
  refine am_pv_cons (v_aload_n (q := 0) (by decide +kernel) rfl) rfl ?_
  refine am_pv_cons (v_get fl_MO_23 (by decide +kernel)) rfl ?_
  refine am_pv_cons (v_iload_n (q := 1) (by decide +kernel) rfl) rfl ?_
  refine am_pv_cons (v_iald (by decide +kernel)) rfl ?_
  refine am_pv_cons (v_iast (by decide +kernel)) rfl ?_
  refine am_pv_cons (v_aload_n (q := 0) (by decide +kernel) rfl) rfl ?_
  refine am_pv_cons (v_get fl_MO_84 (by decide +kernel)) rfl ?_
  refine am_pv_cons (v_sipush (n := 225) (by decide +kernel) (by decide +kernel)) rfl ?_
  refine am_pv_cons (v_iload_n (q := 1) (by decide +kernel) rfl) rfl ?_
  refine am_pv_cons (v_iadd (by decide +kernel)) rfl ?_
  refine am_pv_cons (v_aload_n (q := 0) (by decide +kernel) rfl) rfl ?_
  refine am_pv_cons (v_get fl_MO_26 (by decide +kernel)) rfl ?_
  refine am_pv_cons (v_iload_n (q := 1) (by decide +kernel) rfl) rfl ?_
  refine am_pv_cons (v_iald (by decide +kernel)) rfl ?_
  refine am_pv_cons (v_iast (by decide +kernel)) rfl ?_
  refine am_pv_cons (v_iinc (n := 1) (by decide +kernel) (by decide +kernel)) rfl ?_
  refine am_pv_cons (v_goto (off := -43) (by decide +kernel) rfl) rfl ?_
  refine am_pv_cons (v_aload_n (q := 0) (by decide +kernel) rfl) rfl ?_
  refine am_pv_cons (v_get fl_MO_123 (by decide +kernel)) rfl ?_
  refine am_pv_cons (v_ireturn (by decide +kernel)) trivial ?_
  exact trivial
def P_MO_back (E : am_E) (k : Nat) : am_P := [(0, aLa 0), (1, aGet 12 45), (4, z_ne 10), (7, aI (-3)), (9, aRi), (10, aLa 0), (11, aLa 0), (12, aGet 12 47), (15, aPut 12 16), (18, aLa 0), (19, aLa 0), (20, aGet 12 48), (23, aPut 12 4), (26, aI 0), (27, aSi 1), (28, aLi 1), (29, aLa 0), (30, aGet 12 16), (33, c_ge 142), (36, aLa 0), (37, aGet 12 10), (40, aLi 1), (41, aLa 0), (42, aGet 12 44), (45, aI 6), (47, aLi 1), (48, a_imul), (49, aAld 0), (50, aAst), (51, aLa 0), (52, aGet 12 11), (55, aLi 1), (56, aLa 0), (57, aGet 12 44), (60, aI 6), (62, aLi 1), (63, a_imul), (64, aI 1), (65, a_iadd), (66, aAld 0), (67, aAst), (68, aLa 0), (69, aGet 12 12), (72, aLi 1), (73, aLa 0), (74, aGet 12 44), (77, aI 6), (79, aLi 1), (80, a_imul), (81, aI 2), (82, a_iadd), (83, aAld 0), (84, aAst), (85, aLa 0), (86, aGet 12 13), (89, aLi 1), (90, aLa 0), (91, aGet 12 44), (94, aI 6), (96, aLi 1), (97, a_imul), (98, aI 3), (99, a_iadd), (100, aAld 0), (101, aAst), (102, aLa 0), (103, aGet 12 14), (106, aLi 1), (107, aLa 0), (108, aGet 12 44), (111, aI 6), (113, aLi 1), (114, a_imul), (115, aI 4), (116, a_iadd), (117, aAld 0), (118, aAst), (119, aLa 0), (120, aGet 12 15), (123, aLi 1), (124, aLa 0), (125, aGet 12 44), (128, aI 6), (130, aLi 1), (131, a_imul), (132, aI 5), (133, a_iadd), (134, aAld 0), (135, aAst), (136, aInc 1 1), (139, aGo 28), (142, aI 0), (143, aSi 1), (144, aLi 1), (145, aLa 0), (146, aGet 12 46), (149, c_ge 190), (152, aLa 0), (153, aGet 12 7), (156, aLi 1), (157, aLa 0), (158, aGet 12 44), (161, aI 216), (164, aLi 1), (165, a_iadd), (166, aAld 0), (167, aAst), (168, aLa 0), (169, aGet 12 8), (172, aLi 1), (173, aLa 0), (174, aGet 12 44), (177, aI 225), (180, aLi 1), (181, a_iadd), (182, aAld 0), (183, aAst), (184, aInc 1 1), (187, aGo 144), (190, aLa 0), (191, aGet 12 16), (194, aRi)]
set_option maxRecDepth 20000 in
theorem pv_MO_back (E : am_E) (k : Nat) : am_pv E k Y_MO_back.2.1 Y_MO_back.2.2.1 Y_MO_back.1.cls (P_MO_back E k) := by
  refine am_pv_cons (v_aload_n (q := 0) (by decide +kernel) rfl) rfl ?_
  refine am_pv_cons (v_get fl_MO_413 (by decide +kernel)) rfl ?_
  refine am_pv_cons (v_if_ne (off := 6) (by decide +kernel) rfl) rfl ?_
  refine am_pv_cons (v_bipush (n := -3) (by decide +kernel) (by decide +kernel)) rfl ?_
  refine am_pv_cons (v_ireturn (by decide +kernel)) rfl ?_
  refine am_pv_cons (v_aload_n (q := 0) (by decide +kernel) rfl) rfl ?_
  refine am_pv_cons (v_aload_n (q := 0) (by decide +kernel) rfl) rfl ?_
  refine am_pv_cons (v_get fl_MO_419 (by decide +kernel)) rfl ?_
  refine am_pv_cons (v_put fw_MO_123 (by decide +kernel)) rfl ?_
  refine am_pv_cons (v_aload_n (q := 0) (by decide +kernel) rfl) rfl ?_
  refine am_pv_cons (v_aload_n (q := 0) (by decide +kernel) rfl) rfl ?_
  refine am_pv_cons (v_get fl_MO_422 (by decide +kernel)) rfl ?_
  refine am_pv_cons (v_put fw_MO_151 (by decide +kernel)) rfl ?_
  refine am_pv_cons (v_iconst (n := 0) (by decide +kernel) rfl) rfl ?_
  refine am_pv_cons (v_istore_n (q := 1) (by decide +kernel) rfl) rfl ?_
  refine am_pv_cons (v_iload_n (q := 1) (by decide +kernel) rfl) rfl ?_
  refine am_pv_cons (v_aload_n (q := 0) (by decide +kernel) rfl) rfl ?_
  refine am_pv_cons (v_get fl_MO_123 (by decide +kernel)) rfl ?_
  refine am_pv_cons (v_ic_ge (off := 109) (by decide +kernel) rfl) rfl ?_
  refine am_pv_cons (v_aload_n (q := 0) (by decide +kernel) rfl) rfl ?_
  refine am_pv_cons (v_get fl_MO_29 (by decide +kernel)) rfl ?_
  refine am_pv_cons (v_iload_n (q := 1) (by decide +kernel) rfl) rfl ?_
  refine am_pv_cons (v_aload_n (q := 0) (by decide +kernel) rfl) rfl ?_
  refine am_pv_cons (v_get fl_MO_84 (by decide +kernel)) rfl ?_
  refine am_pv_cons (v_bipush (n := 6) (by decide +kernel) (by decide +kernel)) rfl ?_
  refine am_pv_cons (v_iload_n (q := 1) (by decide +kernel) rfl) rfl ?_
  refine am_pv_cons (v_imul (by decide +kernel)) rfl ?_
  refine am_pv_cons (v_iald (by decide +kernel)) rfl ?_
  refine am_pv_cons (v_iast (by decide +kernel)) rfl ?_
  refine am_pv_cons (v_aload_n (q := 0) (by decide +kernel) rfl) rfl ?_
  refine am_pv_cons (v_get fl_MO_32 (by decide +kernel)) rfl ?_
  refine am_pv_cons (v_iload_n (q := 1) (by decide +kernel) rfl) rfl ?_
  refine am_pv_cons (v_aload_n (q := 0) (by decide +kernel) rfl) rfl ?_
  refine am_pv_cons (v_get fl_MO_84 (by decide +kernel)) rfl ?_
  refine am_pv_cons (v_bipush (n := 6) (by decide +kernel) (by decide +kernel)) rfl ?_
  refine am_pv_cons (v_iload_n (q := 1) (by decide +kernel) rfl) rfl ?_
  refine am_pv_cons (v_imul (by decide +kernel)) rfl ?_
  refine am_pv_cons (v_iconst (n := 1) (by decide +kernel) rfl) rfl ?_
  refine am_pv_cons (v_iadd (by decide +kernel)) rfl ?_
  refine am_pv_cons (v_iald (by decide +kernel)) rfl ?_
  refine am_pv_cons (v_iast (by decide +kernel)) rfl ?_
  refine am_pv_cons (v_aload_n (q := 0) (by decide +kernel) rfl) rfl ?_
  refine am_pv_cons (v_get fl_MO_35 (by decide +kernel)) rfl ?_
  refine am_pv_cons (v_iload_n (q := 1) (by decide +kernel) rfl) rfl ?_
  refine am_pv_cons (v_aload_n (q := 0) (by decide +kernel) rfl) rfl ?_
  refine am_pv_cons (v_get fl_MO_84 (by decide +kernel)) rfl ?_
  refine am_pv_cons (v_bipush (n := 6) (by decide +kernel) (by decide +kernel)) rfl ?_
  refine am_pv_cons (v_iload_n (q := 1) (by decide +kernel) rfl) rfl ?_
  refine am_pv_cons (v_imul (by decide +kernel)) rfl ?_
  refine am_pv_cons (v_iconst (n := 2) (by decide +kernel) rfl) rfl ?_
  refine am_pv_cons (v_iadd (by decide +kernel)) rfl ?_
  refine am_pv_cons (v_iald (by decide +kernel)) rfl ?_
  refine am_pv_cons (v_iast (by decide +kernel)) rfl ?_
  refine am_pv_cons (v_aload_n (q := 0) (by decide +kernel) rfl) rfl ?_
  refine am_pv_cons (v_get fl_MO_38 (by decide +kernel)) rfl ?_
  refine am_pv_cons (v_iload_n (q := 1) (by decide +kernel) rfl) rfl ?_
  refine am_pv_cons (v_aload_n (q := 0) (by decide +kernel) rfl) rfl ?_
  refine am_pv_cons (v_get fl_MO_84 (by decide +kernel)) rfl ?_
  refine am_pv_cons (v_bipush (n := 6) (by decide +kernel) (by decide +kernel)) rfl ?_
  refine am_pv_cons (v_iload_n (q := 1) (by decide +kernel) rfl) rfl ?_
  refine am_pv_cons (v_imul (by decide +kernel)) rfl ?_
  refine am_pv_cons (v_iconst (n := 3) (by decide +kernel) rfl) rfl ?_
  refine am_pv_cons (v_iadd (by decide +kernel)) rfl ?_
  refine am_pv_cons (v_iald (by decide +kernel)) rfl ?_
  refine am_pv_cons (v_iast (by decide +kernel)) rfl ?_
  refine am_pv_cons (v_aload_n (q := 0) (by decide +kernel) rfl) rfl ?_
  refine am_pv_cons (v_get fl_MO_41 (by decide +kernel)) rfl ?_
  refine am_pv_cons (v_iload_n (q := 1) (by decide +kernel) rfl) rfl ?_
  refine am_pv_cons (v_aload_n (q := 0) (by decide +kernel) rfl) rfl ?_
  refine am_pv_cons (v_get fl_MO_84 (by decide +kernel)) rfl ?_
  refine am_pv_cons (v_bipush (n := 6) (by decide +kernel) (by decide +kernel)) rfl ?_
  refine am_pv_cons (v_iload_n (q := 1) (by decide +kernel) rfl) rfl ?_
  refine am_pv_cons (v_imul (by decide +kernel)) rfl ?_
  refine am_pv_cons (v_iconst (n := 4) (by decide +kernel) rfl) rfl ?_
  refine am_pv_cons (v_iadd (by decide +kernel)) rfl ?_
  refine am_pv_cons (v_iald (by decide +kernel)) rfl ?_
  refine am_pv_cons (v_iast (by decide +kernel)) rfl ?_
  refine am_pv_cons (v_aload_n (q := 0) (by decide +kernel) rfl) rfl ?_
  refine am_pv_cons (v_get fl_MO_44 (by decide +kernel)) rfl ?_
  refine am_pv_cons (v_iload_n (q := 1) (by decide +kernel) rfl) rfl ?_
  refine am_pv_cons (v_aload_n (q := 0) (by decide +kernel) rfl) rfl ?_
  refine am_pv_cons (v_get fl_MO_84 (by decide +kernel)) rfl ?_
  refine am_pv_cons (v_bipush (n := 6) (by decide +kernel) (by decide +kernel)) rfl ?_
  refine am_pv_cons (v_iload_n (q := 1) (by decide +kernel) rfl) rfl ?_
  refine am_pv_cons (v_imul (by decide +kernel)) rfl ?_
  refine am_pv_cons (v_iconst (n := 5) (by decide +kernel) rfl) rfl ?_
  refine am_pv_cons (v_iadd (by decide +kernel)) rfl ?_
  refine am_pv_cons (v_iald (by decide +kernel)) rfl ?_
  refine am_pv_cons (v_iast (by decide +kernel)) rfl ?_
  refine am_pv_cons (v_iinc (n := 1) (by decide +kernel) (by decide +kernel)) rfl ?_
  refine am_pv_cons (v_goto (off := -111) (by decide +kernel) rfl) rfl ?_
  refine am_pv_cons (v_iconst (n := 0) (by decide +kernel) rfl) rfl ?_
  refine am_pv_cons (v_istore_n (q := 1) (by decide +kernel) rfl) rfl ?_
  refine am_pv_cons (v_iload_n (q := 1) (by decide +kernel) rfl) rfl ?_
  refine am_pv_cons (v_aload_n (q := 0) (by decide +kernel) rfl) rfl ?_
  refine am_pv_cons (v_get fl_MO_416 (by decide +kernel)) rfl ?_
  refine am_pv_cons (v_ic_ge (off := 41) (by decide +kernel) rfl) rfl ?_
  refine am_pv_cons (v_aload_n (q := 0) (by decide +kernel) rfl) rfl ?_
  refine am_pv_cons (v_get fl_MO_23 (by decide +kernel)) rfl ?_
  refine am_pv_cons (v_iload_n (q := 1) (by decide +kernel) rfl) rfl ?_
  refine am_pv_cons (v_aload_n (q := 0) (by decide +kernel) rfl) rfl ?_
  refine am_pv_cons (v_get fl_MO_84 (by decide +kernel)) rfl ?_
  refine am_pv_cons (v_sipush (n := 216) (by decide +kernel) (by decide +kernel)) rfl ?_
  refine am_pv_cons (v_iload_n (q := 1) (by decide +kernel) rfl) rfl ?_
  refine am_pv_cons (v_iadd (by decide +kernel)) rfl ?_
  refine am_pv_cons (v_iald (by decide +kernel)) rfl ?_
  refine am_pv_cons (v_iast (by decide +kernel)) rfl ?_
  refine am_pv_cons (v_aload_n (q := 0) (by decide +kernel) rfl) rfl ?_
  refine am_pv_cons (v_get fl_MO_26 (by decide +kernel)) rfl ?_
  refine am_pv_cons (v_iload_n (q := 1) (by decide +kernel) rfl) rfl ?_
  refine am_pv_cons (v_aload_n (q := 0) (by decide +kernel) rfl) rfl ?_
  refine am_pv_cons (v_get fl_MO_84 (by decide +kernel)) rfl ?_
  refine am_pv_cons (v_sipush (n := 225) (by decide +kernel) (by decide +kernel)) rfl ?_
  refine am_pv_cons (v_iload_n (q := 1) (by decide +kernel) rfl) rfl ?_
  refine am_pv_cons (v_iadd (by decide +kernel)) rfl ?_
  refine am_pv_cons (v_iald (by decide +kernel)) rfl ?_
  refine am_pv_cons (v_iast (by decide +kernel)) rfl ?_
  refine am_pv_cons (v_iinc (n := 1) (by decide +kernel) (by decide +kernel)) rfl ?_
  refine am_pv_cons (v_goto (off := -43) (by decide +kernel) rfl) rfl ?_
  refine am_pv_cons (v_aload_n (q := 0) (by decide +kernel) rfl) rfl ?_
  refine am_pv_cons (v_get fl_MO_123 (by decide +kernel)) rfl ?_
  refine am_pv_cons (v_ireturn (by decide +kernel)) trivial ?_
  exact trivial
def P_MO_count (E : am_E) (k : Nat) : am_P := [(0, aI 0), (1, aSi 2), (2, aLi 1), (3, aSw [(0, 48), (1, 53), (2, 58), (3, 63), (4, 68), (5, 73), (6, 78), (7, 113)] 153), (48, aLa 0), (49, aGet 12 9), (52, aRi), (53, aLa 0), (54, aGet 12 16), (57, aRi), (58, aLa 0), (59, aGet 12 3), (62, aRi), (63, aLa 0), (64, aGet 12 6), (67, aRi), (68, aLa 0), (69, aGet 12 4), (72, aRi), (73, aLa 0), (74, aGet 12 32), (77, aRi), (78, aI 0), (79, aSi 3), (80, aLi 3), (81, aLa 0), (82, aGet 12 16), (85, c_ge 111), (88, aLi 2), (89, aLa 0), (90, aGet 12 12), (93, aLi 3), (94, aAld 0), (95, z_ge 102), (98, aI 1), (99, aGo 103), (102, aI 0), (103, a_iadd), (104, aSi 2), (105, aInc 3 1), (108, aGo 80), (111, aLi 2), (112, aRi), (113, aI 0), (114, aSi 3), (115, aLi 3), (116, aLa 0), (117, aGet 12 9), (120, c_ge 151), (123, aLi 2), (124, aLa 0), (125, aLa 0), (126, aLi 3), (127, aI 0), (128, aIv E k 12 2 Y_MO_hangs), (131, aIv E k 12 1 Y_MO_leastOf), (134, aLi 3), (135, c_ne 142), (138, aI 1), (139, aGo 143), (142, aI 0), (143, a_iadd), (144, aSi 2), (145, aInc 3 1), (148, aGo 115), (151, aLi 2), (152, aRi), (153, aI (-2)), (155, aRi)]
set_option maxRecDepth 20000 in
theorem pv_MO_count (E : am_E) (k : Nat) : am_pv E k Y_MO_count.2.1 Y_MO_count.2.2.1 Y_MO_count.1.cls (P_MO_count E k) := by
  refine am_pv_cons (v_iconst (n := 0) (by decide +kernel) rfl) rfl ?_
  refine am_pv_cons (v_istore_n (q := 2) (by decide +kernel) rfl) rfl ?_
  refine am_pv_cons (v_iload_n (q := 1) (by decide +kernel) rfl) rfl ?_
  refine am_pv_cons (v_tsw (dflt := 150) (lo := 0) (hi := 7) (offs := #[45, 50, 55, 60, 65, 70, 75, 110]) (len := 45) (by decide +kernel) rfl (by decide) (by decide +kernel)) rfl ?_
  refine am_pv_cons (v_aload_n (q := 0) (by decide +kernel) rfl) rfl ?_
  refine am_pv_cons (v_get fl_MO_116 (by decide +kernel)) rfl ?_
  refine am_pv_cons (v_ireturn (by decide +kernel)) rfl ?_
  refine am_pv_cons (v_aload_n (q := 0) (by decide +kernel) rfl) rfl ?_
  refine am_pv_cons (v_get fl_MO_123 (by decide +kernel)) rfl ?_
  refine am_pv_cons (v_ireturn (by decide +kernel)) rfl ?_
  refine am_pv_cons (v_aload_n (q := 0) (by decide +kernel) rfl) rfl ?_
  refine am_pv_cons (v_get fl_MO_111 (by decide +kernel)) rfl ?_
  refine am_pv_cons (v_ireturn (by decide +kernel)) rfl ?_
  refine am_pv_cons (v_aload_n (q := 0) (by decide +kernel) rfl) rfl ?_
  refine am_pv_cons (v_get fl_MO_163 (by decide +kernel)) rfl ?_
  refine am_pv_cons (v_ireturn (by decide +kernel)) rfl ?_
  refine am_pv_cons (v_aload_n (q := 0) (by decide +kernel) rfl) rfl ?_
  refine am_pv_cons (v_get fl_MO_151 (by decide +kernel)) rfl ?_
  refine am_pv_cons (v_ireturn (by decide +kernel)) rfl ?_
  refine am_pv_cons (v_aload_n (q := 0) (by decide +kernel) rfl) rfl ?_
  refine am_pv_cons (v_get fl_MO_306 (by decide +kernel)) rfl ?_
  refine am_pv_cons (v_ireturn (by decide +kernel)) rfl ?_
  refine am_pv_cons (v_iconst (n := 0) (by decide +kernel) rfl) rfl ?_
  refine am_pv_cons (v_istore_n (q := 3) (by decide +kernel) rfl) rfl ?_
  refine am_pv_cons (v_iload_n (q := 3) (by decide +kernel) rfl) rfl ?_
  refine am_pv_cons (v_aload_n (q := 0) (by decide +kernel) rfl) rfl ?_
  refine am_pv_cons (v_get fl_MO_123 (by decide +kernel)) rfl ?_
  refine am_pv_cons (v_ic_ge (off := 26) (by decide +kernel) rfl) rfl ?_
  refine am_pv_cons (v_iload_n (q := 2) (by decide +kernel) rfl) rfl ?_
  refine am_pv_cons (v_aload_n (q := 0) (by decide +kernel) rfl) rfl ?_
  refine am_pv_cons (v_get fl_MO_35 (by decide +kernel)) rfl ?_
  refine am_pv_cons (v_iload_n (q := 3) (by decide +kernel) rfl) rfl ?_
  refine am_pv_cons (v_iald (by decide +kernel)) rfl ?_
  refine am_pv_cons (v_if_ge (off := 7) (by decide +kernel) rfl) rfl ?_
  refine am_pv_cons (v_iconst (n := 1) (by decide +kernel) rfl) rfl ?_
  refine am_pv_cons (v_goto (off := 4) (by decide +kernel) rfl) rfl ?_
  refine am_pv_cons (v_iconst (n := 0) (by decide +kernel) rfl) rfl ?_
  refine am_pv_cons (v_iadd (by decide +kernel)) rfl ?_
  refine am_pv_cons (v_istore_n (q := 2) (by decide +kernel) rfl) rfl ?_
  refine am_pv_cons (v_iinc (n := 1) (by decide +kernel) (by decide +kernel)) rfl ?_
  refine am_pv_cons (v_goto (off := -28) (by decide +kernel) rfl) rfl ?_
  refine am_pv_cons (v_iload_n (q := 2) (by decide +kernel) rfl) rfl ?_
  refine am_pv_cons (v_ireturn (by decide +kernel)) rfl ?_
  refine am_pv_cons (v_iconst (n := 0) (by decide +kernel) rfl) rfl ?_
  refine am_pv_cons (v_istore_n (q := 3) (by decide +kernel) rfl) rfl ?_
  refine am_pv_cons (v_iload_n (q := 3) (by decide +kernel) rfl) rfl ?_
  refine am_pv_cons (v_aload_n (q := 0) (by decide +kernel) rfl) rfl ?_
  refine am_pv_cons (v_get fl_MO_116 (by decide +kernel)) rfl ?_
  refine am_pv_cons (v_ic_ge (off := 31) (by decide +kernel) rfl) rfl ?_
  refine am_pv_cons (v_iload_n (q := 2) (by decide +kernel) rfl) rfl ?_
  refine am_pv_cons (v_aload_n (q := 0) (by decide +kernel) rfl) rfl ?_
  refine am_pv_cons (v_aload_n (q := 0) (by decide +kernel) rfl) rfl ?_
  refine am_pv_cons (v_iload_n (q := 3) (by decide +kernel) rfl) rfl ?_
  refine am_pv_cons (v_iconst (n := 0) (by decide +kernel) rfl) rfl ?_
  refine am_pv_cons (v_virt (idx := 393) yv_MO_hangs rfl rfl (tb7 160 (by decide +kernel) rfl) (by decide +kernel)) rfl ?_
  refine am_pv_cons (v_virt (idx := 396) yv_MO_leastOf rfl rfl (tb7 164 (by decide +kernel) rfl) (by decide +kernel)) rfl ?_
  refine am_pv_cons (v_iload_n (q := 3) (by decide +kernel) rfl) rfl ?_
  refine am_pv_cons (v_ic_ne (off := 7) (by decide +kernel) rfl) rfl ?_
  refine am_pv_cons (v_iconst (n := 1) (by decide +kernel) rfl) rfl ?_
  refine am_pv_cons (v_goto (off := 4) (by decide +kernel) rfl) rfl ?_
  refine am_pv_cons (v_iconst (n := 0) (by decide +kernel) rfl) rfl ?_
  refine am_pv_cons (v_iadd (by decide +kernel)) rfl ?_
  refine am_pv_cons (v_istore_n (q := 2) (by decide +kernel) rfl) rfl ?_
  refine am_pv_cons (v_iinc (n := 1) (by decide +kernel) (by decide +kernel)) rfl ?_
  refine am_pv_cons (v_goto (off := -33) (by decide +kernel) rfl) rfl ?_
  refine am_pv_cons (v_iload_n (q := 2) (by decide +kernel) rfl) rfl ?_
  refine am_pv_cons (v_ireturn (by decide +kernel)) rfl ?_
  refine am_pv_cons (v_bipush (n := -2) (by decide +kernel) (by decide +kernel)) rfl ?_
  refine am_pv_cons (v_ireturn (by decide +kernel)) trivial ?_
  exact trivial
def P_MO_isSheet (E : am_E) (k : Nat) : am_P := [(0, aLi 0), (1, aI2L), (2, aJ 0), (3, aJ 3), (6, aIs E k 3 Y_MO_in), (9, aRi)]
set_option maxRecDepth 20000 in
theorem pv_MO_isSheet (E : am_E) (k : Nat) : am_pv E k Y_MO_isSheet.2.1 Y_MO_isSheet.2.2.1 Y_MO_isSheet.1.cls (P_MO_isSheet E k) := by
  refine am_pv_cons (v_iload_n (q := 0) (by decide +kernel) rfl) rfl ?_
  refine am_pv_cons (v_i2l (by decide +kernel)) rfl ?_
  refine am_pv_cons (v_lconst (n := 0) (by decide +kernel) rfl) rfl ?_
  refine am_pv_cons (v_ldc2 (i := 138) (tb6 114 (by decide +kernel) rfl) (by decide +kernel)) rfl ?_
  refine am_pv_cons (v_stat (idx := 119) ys_MO_in (tb6 98 (by decide +kernel) rfl) (by decide +kernel)) rfl ?_
  refine am_pv_cons (v_ireturn (by decide +kernel)) trivial ?_
  exact trivial
def P_MO_sheet (E : am_E) (k : Nat) : am_P := [(0, aLi 1), (1, aIs E k 1 Y_MO_isSheet), (4, z_eq 31), (7, aLi 2), (8, aI2L), (9, aJ (-1)), (12, aJ 2), (15, aIs E k 3 Y_MO_in), (18, z_eq 31), (21, aLi 2), (22, z_lt 34), (25, aLi 3), (26, aI 40), (28, c_le 34), (31, aI (-2)), (33, aRi), (34, aLi 2), (35, z_lt 45), (38, aLi 3), (39, z_ge 45), (42, aI (-14)), (44, aRi), (45, aLa 0), (46, aGet 12 49), (49, aLi 1), (50, aLi 2), (51, z_lt 58), (54, aI 1), (55, aGo 59), (58, aI 0), (59, aAstz), (60, aLa 0), (61, aGet 12 50), (64, aLi 1), (65, aLi 2), (66, aAst), (67, aLa 0), (68, aGet 12 51), (71, aLi 1), (72, aLi 3), (73, aAst), (74, aI 0), (75, aSi 4), (77, aLi 4), (79, aLi 3), (80, c_ge 106), (83, aLi 2), (84, z_lt 106), (87, aLa 0), (88, aGet 12 52), (91, aI 40), (93, aLi 1), (94, a_imul), (95, aLi 4), (97, a_iadd), (98, aI 0), (99, aAst), (100, aInc 4 1), (103, aGo 77), (106, aI 1), (107, aRi)]
set_option maxRecDepth 20000 in
theorem pv_MO_sheet (E : am_E) (k : Nat) : am_pv E k Y_MO_sheet.2.1 Y_MO_sheet.2.2.1 Y_MO_sheet.1.cls (P_MO_sheet E k) := by
  refine am_pv_cons (v_iload_n (q := 1) (by decide +kernel) rfl) rfl ?_
  refine am_pv_cons (v_stat (idx := 311) ys_MO_isSheet (tb7 29 (by decide +kernel) rfl) (by decide +kernel)) rfl ?_
  refine am_pv_cons (v_if_eq (off := 27) (by decide +kernel) rfl) rfl ?_
  refine am_pv_cons (v_iload_n (q := 2) (by decide +kernel) rfl) rfl ?_
  refine am_pv_cons (v_i2l (by decide +kernel)) rfl ?_
  refine am_pv_cons (v_ldc2 (i := 132) (tb6 109 (by decide +kernel) rfl) (by decide +kernel)) rfl ?_
  refine am_pv_cons (v_ldc2 (i := 425) (tb7 221 (by decide +kernel) rfl) (by decide +kernel)) rfl ?_
  refine am_pv_cons (v_stat (idx := 119) ys_MO_in (tb6 98 (by decide +kernel) rfl) (by decide +kernel)) rfl ?_
  refine am_pv_cons (v_if_eq (off := 13) (by decide +kernel) rfl) rfl ?_
  refine am_pv_cons (v_iload_n (q := 2) (by decide +kernel) rfl) rfl ?_
  refine am_pv_cons (v_if_lt (off := 12) (by decide +kernel) rfl) rfl ?_
  refine am_pv_cons (v_iload_n (q := 3) (by decide +kernel) rfl) rfl ?_
  refine am_pv_cons (v_bipush (n := 40) (by decide +kernel) (by decide +kernel)) rfl ?_
  refine am_pv_cons (v_ic_le (off := 6) (by decide +kernel) rfl) rfl ?_
  refine am_pv_cons (v_bipush (n := -2) (by decide +kernel) (by decide +kernel)) rfl ?_
  refine am_pv_cons (v_ireturn (by decide +kernel)) rfl ?_
  refine am_pv_cons (v_iload_n (q := 2) (by decide +kernel) rfl) rfl ?_
  refine am_pv_cons (v_if_lt (off := 10) (by decide +kernel) rfl) rfl ?_
  refine am_pv_cons (v_iload_n (q := 3) (by decide +kernel) rfl) rfl ?_
  refine am_pv_cons (v_if_ge (off := 6) (by decide +kernel) rfl) rfl ?_
  refine am_pv_cons (v_bipush (n := -14) (by decide +kernel) (by decide +kernel)) rfl ?_
  refine am_pv_cons (v_ireturn (by decide +kernel)) rfl ?_
  refine am_pv_cons (v_aload_n (q := 0) (by decide +kernel) rfl) rfl ?_
  refine am_pv_cons (v_get fl_MO_87 (by decide +kernel)) rfl ?_
  refine am_pv_cons (v_iload_n (q := 1) (by decide +kernel) rfl) rfl ?_
  refine am_pv_cons (v_iload_n (q := 2) (by decide +kernel) rfl) rfl ?_
  refine am_pv_cons (v_if_lt (off := 7) (by decide +kernel) rfl) rfl ?_
  refine am_pv_cons (v_iconst (n := 1) (by decide +kernel) rfl) rfl ?_
  refine am_pv_cons (v_goto (off := 4) (by decide +kernel) rfl) rfl ?_
  refine am_pv_cons (v_iconst (n := 0) (by decide +kernel) rfl) rfl ?_
  refine am_pv_cons (v_zast (by decide +kernel)) rfl ?_
  refine am_pv_cons (v_aload_n (q := 0) (by decide +kernel) rfl) rfl ?_
  refine am_pv_cons (v_get fl_MO_90 (by decide +kernel)) rfl ?_
  refine am_pv_cons (v_iload_n (q := 1) (by decide +kernel) rfl) rfl ?_
  refine am_pv_cons (v_iload_n (q := 2) (by decide +kernel) rfl) rfl ?_
  refine am_pv_cons (v_iast (by decide +kernel)) rfl ?_
  refine am_pv_cons (v_aload_n (q := 0) (by decide +kernel) rfl) rfl ?_
  refine am_pv_cons (v_get fl_MO_93 (by decide +kernel)) rfl ?_
  refine am_pv_cons (v_iload_n (q := 1) (by decide +kernel) rfl) rfl ?_
  refine am_pv_cons (v_iload_n (q := 3) (by decide +kernel) rfl) rfl ?_
  refine am_pv_cons (v_iast (by decide +kernel)) rfl ?_
  refine am_pv_cons (v_iconst (n := 0) (by decide +kernel) rfl) rfl ?_
  refine am_pv_cons (v_istore (by decide +kernel)) rfl ?_
  refine am_pv_cons (v_iload (by decide +kernel)) rfl ?_
  refine am_pv_cons (v_iload_n (q := 3) (by decide +kernel) rfl) rfl ?_
  refine am_pv_cons (v_ic_ge (off := 26) (by decide +kernel) rfl) rfl ?_
  refine am_pv_cons (v_iload_n (q := 2) (by decide +kernel) rfl) rfl ?_
  refine am_pv_cons (v_if_lt (off := 22) (by decide +kernel) rfl) rfl ?_
  refine am_pv_cons (v_aload_n (q := 0) (by decide +kernel) rfl) rfl ?_
  refine am_pv_cons (v_get fl_MO_96 (by decide +kernel)) rfl ?_
  refine am_pv_cons (v_bipush (n := 40) (by decide +kernel) (by decide +kernel)) rfl ?_
  refine am_pv_cons (v_iload_n (q := 1) (by decide +kernel) rfl) rfl ?_
  refine am_pv_cons (v_imul (by decide +kernel)) rfl ?_
  refine am_pv_cons (v_iload (by decide +kernel)) rfl ?_
  refine am_pv_cons (v_iadd (by decide +kernel)) rfl ?_
  refine am_pv_cons (v_iconst (n := 0) (by decide +kernel) rfl) rfl ?_
  refine am_pv_cons (v_iast (by decide +kernel)) rfl ?_
  refine am_pv_cons (v_iinc (n := 1) (by decide +kernel) (by decide +kernel)) rfl ?_
  refine am_pv_cons (v_goto (off := -26) (by decide +kernel) rfl) rfl ?_
  refine am_pv_cons (v_iconst (n := 1) (by decide +kernel) rfl) rfl ?_
  refine am_pv_cons (v_ireturn (by decide +kernel)) trivial ?_
  exact trivial
def P_MO_cell (E : am_E) (k : Nat) : am_P := [(0, aLi 1), (1, aIs E k 1 Y_MO_isSheet), (4, z_ne 10), (7, aI (-2)), (9, aRi), (10, aLa 0), (11, aGet 12 49), (14, aLi 1), (15, aAld 1), (16, z_ne 22), (19, aI (-11)), (21, aRi), (22, aLi 2), (23, aI2L), (24, aJ 0), (25, aLa 0), (26, aGet 12 51), (29, aLi 1), (30, aAld 0), (31, aI 1), (32, a_isub), (33, aI2L), (34, aIs E k 3 Y_MO_in), (37, z_ne 43), (40, aI (-12)), (42, aRi), (43, aLa 0), (44, aGet 12 52), (47, aI 40), (49, aLi 1), (50, a_imul), (51, aLi 2), (52, a_iadd), (53, aLa 0), (54, aGet 12 50), (57, aLi 1), (58, aAld 0), (59, z_ne 67), (62, aLi 3), (63, a_i2b), (64, aGo 83), (67, aLa 0), (68, aGet 12 50), (71, aLi 1), (72, aAld 0), (73, aI 1), (74, c_ne 82), (77, aLi 3), (78, a_i2s), (79, aGo 83), (82, aLi 3), (83, aAst), (84, aI 1), (85, aRi)]
set_option maxRecDepth 20000 in
theorem pv_MO_cell (E : am_E) (k : Nat) : am_pv E k Y_MO_cell.2.1 Y_MO_cell.2.2.1 Y_MO_cell.1.cls (P_MO_cell E k) := by
  refine am_pv_cons (v_iload_n (q := 1) (by decide +kernel) rfl) rfl ?_
  refine am_pv_cons (v_stat (idx := 311) ys_MO_isSheet (tb7 29 (by decide +kernel) rfl) (by decide +kernel)) rfl ?_
  refine am_pv_cons (v_if_ne (off := 6) (by decide +kernel) rfl) rfl ?_
  refine am_pv_cons (v_bipush (n := -2) (by decide +kernel) (by decide +kernel)) rfl ?_
  refine am_pv_cons (v_ireturn (by decide +kernel)) rfl ?_
  refine am_pv_cons (v_aload_n (q := 0) (by decide +kernel) rfl) rfl ?_
  refine am_pv_cons (v_get fl_MO_87 (by decide +kernel)) rfl ?_
  refine am_pv_cons (v_iload_n (q := 1) (by decide +kernel) rfl) rfl ?_
  refine am_pv_cons (v_zald (by decide +kernel)) rfl ?_
  refine am_pv_cons (v_if_ne (off := 6) (by decide +kernel) rfl) rfl ?_
  refine am_pv_cons (v_bipush (n := -11) (by decide +kernel) (by decide +kernel)) rfl ?_
  refine am_pv_cons (v_ireturn (by decide +kernel)) rfl ?_
  refine am_pv_cons (v_iload_n (q := 2) (by decide +kernel) rfl) rfl ?_
  refine am_pv_cons (v_i2l (by decide +kernel)) rfl ?_
  refine am_pv_cons (v_lconst (n := 0) (by decide +kernel) rfl) rfl ?_
  refine am_pv_cons (v_aload_n (q := 0) (by decide +kernel) rfl) rfl ?_
  refine am_pv_cons (v_get fl_MO_93 (by decide +kernel)) rfl ?_
  refine am_pv_cons (v_iload_n (q := 1) (by decide +kernel) rfl) rfl ?_
  refine am_pv_cons (v_iald (by decide +kernel)) rfl ?_
  refine am_pv_cons (v_iconst (n := 1) (by decide +kernel) rfl) rfl ?_
  refine am_pv_cons (v_isub (by decide +kernel)) rfl ?_
  refine am_pv_cons (v_i2l (by decide +kernel)) rfl ?_
  refine am_pv_cons (v_stat (idx := 119) ys_MO_in (tb6 98 (by decide +kernel) rfl) (by decide +kernel)) rfl ?_
  refine am_pv_cons (v_if_ne (off := 6) (by decide +kernel) rfl) rfl ?_
  refine am_pv_cons (v_bipush (n := -12) (by decide +kernel) (by decide +kernel)) rfl ?_
  refine am_pv_cons (v_ireturn (by decide +kernel)) rfl ?_
  refine am_pv_cons (v_aload_n (q := 0) (by decide +kernel) rfl) rfl ?_
  refine am_pv_cons (v_get fl_MO_96 (by decide +kernel)) rfl ?_
  refine am_pv_cons (v_bipush (n := 40) (by decide +kernel) (by decide +kernel)) rfl ?_
  refine am_pv_cons (v_iload_n (q := 1) (by decide +kernel) rfl) rfl ?_
  refine am_pv_cons (v_imul (by decide +kernel)) rfl ?_
  refine am_pv_cons (v_iload_n (q := 2) (by decide +kernel) rfl) rfl ?_
  refine am_pv_cons (v_iadd (by decide +kernel)) rfl ?_
  refine am_pv_cons (v_aload_n (q := 0) (by decide +kernel) rfl) rfl ?_
  refine am_pv_cons (v_get fl_MO_90 (by decide +kernel)) rfl ?_
  refine am_pv_cons (v_iload_n (q := 1) (by decide +kernel) rfl) rfl ?_
  refine am_pv_cons (v_iald (by decide +kernel)) rfl ?_
  refine am_pv_cons (v_if_ne (off := 8) (by decide +kernel) rfl) rfl ?_
  refine am_pv_cons (v_iload_n (q := 3) (by decide +kernel) rfl) rfl ?_
  refine am_pv_cons (v_i2b (by decide +kernel)) rfl ?_
  refine am_pv_cons (v_goto (off := 19) (by decide +kernel) rfl) rfl ?_
  refine am_pv_cons (v_aload_n (q := 0) (by decide +kernel) rfl) rfl ?_
  refine am_pv_cons (v_get fl_MO_90 (by decide +kernel)) rfl ?_
  refine am_pv_cons (v_iload_n (q := 1) (by decide +kernel) rfl) rfl ?_
  refine am_pv_cons (v_iald (by decide +kernel)) rfl ?_
  refine am_pv_cons (v_iconst (n := 1) (by decide +kernel) rfl) rfl ?_
  refine am_pv_cons (v_ic_ne (off := 8) (by decide +kernel) rfl) rfl ?_
  refine am_pv_cons (v_iload_n (q := 3) (by decide +kernel) rfl) rfl ?_
  refine am_pv_cons (v_i2s (by decide +kernel)) rfl ?_
  refine am_pv_cons (v_goto (off := 4) (by decide +kernel) rfl) rfl ?_
  refine am_pv_cons (v_iload_n (q := 3) (by decide +kernel) rfl) rfl ?_
  refine am_pv_cons (v_iast (by decide +kernel)) rfl ?_
  refine am_pv_cons (v_iconst (n := 1) (by decide +kernel) rfl) rfl ?_
  refine am_pv_cons (v_ireturn (by decide +kernel)) trivial ?_
  exact trivial
def P_MO_copy (E : am_E) (k : Nat) : am_P := [(0, aLi 1), (1, aIs E k 1 Y_MO_isSheet), (4, z_eq 14), (7, aLi 3), (8, aIs E k 1 Y_MO_isSheet), (11, z_ne 17), (14, aI (-2)), (16, aRi), (17, aLa 0), (18, aGet 12 49), (21, aLi 1), (22, aAld 1), (23, z_eq 35), (26, aLa 0), (27, aGet 12 49), (30, aLi 3), (31, aAld 1), (32, z_ne 38), (35, aI (-11)), (37, aRi), (38, aLa 0), (39, aGet 12 50), (42, aLi 1), (43, aAld 0), (44, aLa 0), (45, aGet 12 50), (48, aLi 3), (49, aAld 0), (50, c_eq 56), (53, aI (-13)), (55, aRi), (56, aLi 5), (58, z_lt 97), (61, aLi 2), (62, z_lt 97), (65, aLi 4), (67, z_lt 97), (70, aLi 2), (71, aLa 0), (72, aGet 12 51), (75, aLi 1), (76, aAld 0), (77, aLi 5), (79, a_isub), (80, c_gt 97), (83, aLi 4), (85, aLa 0), (86, aGet 12 51), (89, aLi 3), (90, aAld 0), (91, aLi 5), (93, a_isub), (94, c_le 100), (97, aI (-12)), (99, aRi), (100, aLi 1), (101, aLi 3), (102, c_ne 115), (105, aLi 2), (106, aLi 4), (108, c_ge 115), (111, aI 1), (112, aGo 116), (115, aI 0), (116, aSi 6), (118, aI 0), (119, aSi 7), (121, aLi 7), (123, aLi 5), (125, c_ge 182), (128, aLi 6), (130, z_eq 143), (133, aLi 5), (135, aI 1), (136, a_isub), (137, aLi 7), (139, a_isub), (140, aGo 145), (143, aLi 7), (145, aSi 8), (147, aLa 0), (148, aGet 12 52), (151, aI 40), (153, aLi 3), (154, a_imul), (155, aLi 4), (157, a_iadd), (158, aLi 8), (160, a_iadd), (161, aLa 0), (162, aGet 12 52), (165, aI 40), (167, aLi 1), (168, a_imul), (169, aLi 2), (170, a_iadd), (171, aLi 8), (173, a_iadd), (174, aAld 0), (175, aAst), (176, aInc 7 1), (179, aGo 121), (182, aLi 5), (184, aRi)]
set_option maxRecDepth 20000 in
theorem pv_MO_copy (E : am_E) (k : Nat) : am_pv E k Y_MO_copy.2.1 Y_MO_copy.2.2.1 Y_MO_copy.1.cls (P_MO_copy E k) := by
  refine am_pv_cons (v_iload_n (q := 1) (by decide +kernel) rfl) rfl ?_
  refine am_pv_cons (v_stat (idx := 311) ys_MO_isSheet (tb7 29 (by decide +kernel) rfl) (by decide +kernel)) rfl ?_
  refine am_pv_cons (v_if_eq (off := 10) (by decide +kernel) rfl) rfl ?_
  refine am_pv_cons (v_iload_n (q := 3) (by decide +kernel) rfl) rfl ?_
  refine am_pv_cons (v_stat (idx := 311) ys_MO_isSheet (tb7 29 (by decide +kernel) rfl) (by decide +kernel)) rfl ?_
  refine am_pv_cons (v_if_ne (off := 6) (by decide +kernel) rfl) rfl ?_
  refine am_pv_cons (v_bipush (n := -2) (by decide +kernel) (by decide +kernel)) rfl ?_
  refine am_pv_cons (v_ireturn (by decide +kernel)) rfl ?_
  refine am_pv_cons (v_aload_n (q := 0) (by decide +kernel) rfl) rfl ?_
  refine am_pv_cons (v_get fl_MO_87 (by decide +kernel)) rfl ?_
  refine am_pv_cons (v_iload_n (q := 1) (by decide +kernel) rfl) rfl ?_
  refine am_pv_cons (v_zald (by decide +kernel)) rfl ?_
  refine am_pv_cons (v_if_eq (off := 12) (by decide +kernel) rfl) rfl ?_
  refine am_pv_cons (v_aload_n (q := 0) (by decide +kernel) rfl) rfl ?_
  refine am_pv_cons (v_get fl_MO_87 (by decide +kernel)) rfl ?_
  refine am_pv_cons (v_iload_n (q := 3) (by decide +kernel) rfl) rfl ?_
  refine am_pv_cons (v_zald (by decide +kernel)) rfl ?_
  refine am_pv_cons (v_if_ne (off := 6) (by decide +kernel) rfl) rfl ?_
  refine am_pv_cons (v_bipush (n := -11) (by decide +kernel) (by decide +kernel)) rfl ?_
  refine am_pv_cons (v_ireturn (by decide +kernel)) rfl ?_
  refine am_pv_cons (v_aload_n (q := 0) (by decide +kernel) rfl) rfl ?_
  refine am_pv_cons (v_get fl_MO_90 (by decide +kernel)) rfl ?_
  refine am_pv_cons (v_iload_n (q := 1) (by decide +kernel) rfl) rfl ?_
  refine am_pv_cons (v_iald (by decide +kernel)) rfl ?_
  refine am_pv_cons (v_aload_n (q := 0) (by decide +kernel) rfl) rfl ?_
  refine am_pv_cons (v_get fl_MO_90 (by decide +kernel)) rfl ?_
  refine am_pv_cons (v_iload_n (q := 3) (by decide +kernel) rfl) rfl ?_
  refine am_pv_cons (v_iald (by decide +kernel)) rfl ?_
  refine am_pv_cons (v_ic_eq (off := 6) (by decide +kernel) rfl) rfl ?_
  refine am_pv_cons (v_bipush (n := -13) (by decide +kernel) (by decide +kernel)) rfl ?_
  refine am_pv_cons (v_ireturn (by decide +kernel)) rfl ?_
  refine am_pv_cons (v_iload (by decide +kernel)) rfl ?_
  refine am_pv_cons (v_if_lt (off := 39) (by decide +kernel) rfl) rfl ?_
  refine am_pv_cons (v_iload_n (q := 2) (by decide +kernel) rfl) rfl ?_
  refine am_pv_cons (v_if_lt (off := 35) (by decide +kernel) rfl) rfl ?_
  refine am_pv_cons (v_iload (by decide +kernel)) rfl ?_
  refine am_pv_cons (v_if_lt (off := 30) (by decide +kernel) rfl) rfl ?_
  refine am_pv_cons (v_iload_n (q := 2) (by decide +kernel) rfl) rfl ?_
  refine am_pv_cons (v_aload_n (q := 0) (by decide +kernel) rfl) rfl ?_
  refine am_pv_cons (v_get fl_MO_93 (by decide +kernel)) rfl ?_
  refine am_pv_cons (v_iload_n (q := 1) (by decide +kernel) rfl) rfl ?_
  refine am_pv_cons (v_iald (by decide +kernel)) rfl ?_
  refine am_pv_cons (v_iload (by decide +kernel)) rfl ?_
  refine am_pv_cons (v_isub (by decide +kernel)) rfl ?_
  refine am_pv_cons (v_ic_gt (off := 17) (by decide +kernel) rfl) rfl ?_
  refine am_pv_cons (v_iload (by decide +kernel)) rfl ?_
  refine am_pv_cons (v_aload_n (q := 0) (by decide +kernel) rfl) rfl ?_
  refine am_pv_cons (v_get fl_MO_93 (by decide +kernel)) rfl ?_
  refine am_pv_cons (v_iload_n (q := 3) (by decide +kernel) rfl) rfl ?_
  refine am_pv_cons (v_iald (by decide +kernel)) rfl ?_
  refine am_pv_cons (v_iload (by decide +kernel)) rfl ?_
  refine am_pv_cons (v_isub (by decide +kernel)) rfl ?_
  refine am_pv_cons (v_ic_le (off := 6) (by decide +kernel) rfl) rfl ?_
  refine am_pv_cons (v_bipush (n := -12) (by decide +kernel) (by decide +kernel)) rfl ?_
  refine am_pv_cons (v_ireturn (by decide +kernel)) rfl ?_
  refine am_pv_cons (v_iload_n (q := 1) (by decide +kernel) rfl) rfl ?_
  refine am_pv_cons (v_iload_n (q := 3) (by decide +kernel) rfl) rfl ?_
  refine am_pv_cons (v_ic_ne (off := 13) (by decide +kernel) rfl) rfl ?_
  refine am_pv_cons (v_iload_n (q := 2) (by decide +kernel) rfl) rfl ?_
  refine am_pv_cons (v_iload (by decide +kernel)) rfl ?_
  refine am_pv_cons (v_ic_ge (off := 7) (by decide +kernel) rfl) rfl ?_
  refine am_pv_cons (v_iconst (n := 1) (by decide +kernel) rfl) rfl ?_
  refine am_pv_cons (v_goto (off := 4) (by decide +kernel) rfl) rfl ?_
  refine am_pv_cons (v_iconst (n := 0) (by decide +kernel) rfl) rfl ?_
  refine am_pv_cons (v_istore (by decide +kernel)) rfl ?_
  refine am_pv_cons (v_iconst (n := 0) (by decide +kernel) rfl) rfl ?_
  refine am_pv_cons (v_istore (by decide +kernel)) rfl ?_
  refine am_pv_cons (v_iload (by decide +kernel)) rfl ?_
  refine am_pv_cons (v_iload (by decide +kernel)) rfl ?_
  refine am_pv_cons (v_ic_ge (off := 57) (by decide +kernel) rfl) rfl ?_
  refine am_pv_cons (v_iload (by decide +kernel)) rfl ?_
  refine am_pv_cons (v_if_eq (off := 13) (by decide +kernel) rfl) rfl ?_
  refine am_pv_cons (v_iload (by decide +kernel)) rfl ?_
  refine am_pv_cons (v_iconst (n := 1) (by decide +kernel) rfl) rfl ?_
  refine am_pv_cons (v_isub (by decide +kernel)) rfl ?_
  refine am_pv_cons (v_iload (by decide +kernel)) rfl ?_
  refine am_pv_cons (v_isub (by decide +kernel)) rfl ?_
  refine am_pv_cons (v_goto (off := 5) (by decide +kernel) rfl) rfl ?_
  refine am_pv_cons (v_iload (by decide +kernel)) rfl ?_
  refine am_pv_cons (v_istore (by decide +kernel)) rfl ?_
  refine am_pv_cons (v_aload_n (q := 0) (by decide +kernel) rfl) rfl ?_
  refine am_pv_cons (v_get fl_MO_96 (by decide +kernel)) rfl ?_
  refine am_pv_cons (v_bipush (n := 40) (by decide +kernel) (by decide +kernel)) rfl ?_
  refine am_pv_cons (v_iload_n (q := 3) (by decide +kernel) rfl) rfl ?_
  refine am_pv_cons (v_imul (by decide +kernel)) rfl ?_
  refine am_pv_cons (v_iload (by decide +kernel)) rfl ?_
  refine am_pv_cons (v_iadd (by decide +kernel)) rfl ?_
  refine am_pv_cons (v_iload (by decide +kernel)) rfl ?_
  refine am_pv_cons (v_iadd (by decide +kernel)) rfl ?_
  refine am_pv_cons (v_aload_n (q := 0) (by decide +kernel) rfl) rfl ?_
  refine am_pv_cons (v_get fl_MO_96 (by decide +kernel)) rfl ?_
  refine am_pv_cons (v_bipush (n := 40) (by decide +kernel) (by decide +kernel)) rfl ?_
  refine am_pv_cons (v_iload_n (q := 1) (by decide +kernel) rfl) rfl ?_
  refine am_pv_cons (v_imul (by decide +kernel)) rfl ?_
  refine am_pv_cons (v_iload_n (q := 2) (by decide +kernel) rfl) rfl ?_
  refine am_pv_cons (v_iadd (by decide +kernel)) rfl ?_
  refine am_pv_cons (v_iload (by decide +kernel)) rfl ?_
  refine am_pv_cons (v_iadd (by decide +kernel)) rfl ?_
  refine am_pv_cons (v_iald (by decide +kernel)) rfl ?_
  refine am_pv_cons (v_iast (by decide +kernel)) rfl ?_
  refine am_pv_cons (v_iinc (n := 1) (by decide +kernel) (by decide +kernel)) rfl ?_
  refine am_pv_cons (v_goto (off := -58) (by decide +kernel) rfl) rfl ?_
  refine am_pv_cons (v_iload (by decide +kernel)) rfl ?_
  refine am_pv_cons (v_ireturn (by decide +kernel)) trivial ?_
  exact trivial
def P_MO_feels (E : am_E) (k : Nat) : am_P := [(0, aLi 1), (1, aIs E k 1 Y_MO_isSheet), (4, z_eq 32), (7, aLi 2), (8, aI2L), (9, aJ 0), (10, aJ 2), (13, aIs E k 3 Y_MO_in), (16, z_eq 32), (19, aLi 4), (21, aI2L), (22, aJ 0), (23, aJ 8), (26, aIs E k 3 Y_MO_in), (29, z_ne 35), (32, aI (-2)), (34, aRi), (35, aLa 0), (36, aGet 12 49), (39, aLi 1), (40, aAld 1), (41, z_eq 57), (44, aLa 0), (45, aGet 12 50), (48, aLi 1), (49, aAld 0), (50, aLi 2), (51, c_eq 57), (54, aI (-13)), (56, aRi), (57, aLa 0), (58, aGet 12 49), (61, aLi 1), (62, aAld 1), (63, z_ne 69), (66, aI (-11)), (68, aRi), (69, aI 0), (70, aSi 5), (72, aI 0), (73, aSi 6), (75, aLi 6), (77, aLi 4), (79, c_ge 185), (82, aLi 3), (83, z_lt 103), (86, aLi 3), (87, aLa 0), (88, aGet 12 51), (91, aLi 1), (92, aAld 0), (93, aI 5), (94, aLi 6), (96, a_imul), (97, a_isub), (98, aI 5), (99, a_isub), (100, c_le 106), (103, aI (-12)), (105, aRi), (106, aI 40), (108, aLi 1), (109, a_imul), (110, aLi 3), (111, a_iadd), (112, aI 5), (113, aLi 6), (115, a_imul), (116, a_iadd), (117, aSi 7), (119, aLi 5), (121, aLa 0), (122, aLa 0), (123, aGet 12 52), (126, aLi 7), (128, aAld 0), (129, aLa 0), (130, aGet 12 52), (133, aLi 7), (135, aI 1), (136, a_iadd), (137, aAld 0), (138, aLa 0), (139, aGet 12 52), (142, aLi 7), (144, aI 2), (145, a_iadd), (146, aAld 0), (147, aLa 0), (148, aGet 12 52), (151, aLi 7), (153, aI 3), (154, a_iadd), (155, aAld 0), (156, aLa 0), (157, aGet 12 52), (160, aLi 7), (162, aI 4), (163, a_iadd), (164, aAld 0), (165, aIv E k 12 5 Y_MO_feel), (168, z_lt 175), (171, aI 1), (172, aGo 176), (175, aI 0), (176, a_iadd), (177, aSi 5), (179, aInc 6 1), (182, aGo 75), (185, aLi 5), (187, aRi)]
set_option maxRecDepth 20000 in
theorem pv_MO_feels (E : am_E) (k : Nat) : am_pv E k Y_MO_feels.2.1 Y_MO_feels.2.2.1 Y_MO_feels.1.cls (P_MO_feels E k) := by
  refine am_pv_cons (v_iload_n (q := 1) (by decide +kernel) rfl) rfl ?_
  refine am_pv_cons (v_stat (idx := 311) ys_MO_isSheet (tb7 29 (by decide +kernel) rfl) (by decide +kernel)) rfl ?_
  refine am_pv_cons (v_if_eq (off := 28) (by decide +kernel) rfl) rfl ?_
  refine am_pv_cons (v_iload_n (q := 2) (by decide +kernel) rfl) rfl ?_
  refine am_pv_cons (v_i2l (by decide +kernel)) rfl ?_
  refine am_pv_cons (v_lconst (n := 0) (by decide +kernel) rfl) rfl ?_
  refine am_pv_cons (v_ldc2 (i := 425) (tb7 221 (by decide +kernel) rfl) (by decide +kernel)) rfl ?_
  refine am_pv_cons (v_stat (idx := 119) ys_MO_in (tb6 98 (by decide +kernel) rfl) (by decide +kernel)) rfl ?_
  refine am_pv_cons (v_if_eq (off := 16) (by decide +kernel) rfl) rfl ?_
  refine am_pv_cons (v_iload (by decide +kernel)) rfl ?_
  refine am_pv_cons (v_i2l (by decide +kernel)) rfl ?_
  refine am_pv_cons (v_lconst (n := 0) (by decide +kernel) rfl) rfl ?_
  refine am_pv_cons (v_ldc2 (i := 161) (tb6 231 (by decide +kernel) rfl) (by decide +kernel)) rfl ?_
  refine am_pv_cons (v_stat (idx := 119) ys_MO_in (tb6 98 (by decide +kernel) rfl) (by decide +kernel)) rfl ?_
  refine am_pv_cons (v_if_ne (off := 6) (by decide +kernel) rfl) rfl ?_
  refine am_pv_cons (v_bipush (n := -2) (by decide +kernel) (by decide +kernel)) rfl ?_
  refine am_pv_cons (v_ireturn (by decide +kernel)) rfl ?_
  refine am_pv_cons (v_aload_n (q := 0) (by decide +kernel) rfl) rfl ?_
  refine am_pv_cons (v_get fl_MO_87 (by decide +kernel)) rfl ?_
  refine am_pv_cons (v_iload_n (q := 1) (by decide +kernel) rfl) rfl ?_
  refine am_pv_cons (v_zald (by decide +kernel)) rfl ?_
  refine am_pv_cons (v_if_eq (off := 16) (by decide +kernel) rfl) rfl ?_
  refine am_pv_cons (v_aload_n (q := 0) (by decide +kernel) rfl) rfl ?_
  refine am_pv_cons (v_get fl_MO_90 (by decide +kernel)) rfl ?_
  refine am_pv_cons (v_iload_n (q := 1) (by decide +kernel) rfl) rfl ?_
  refine am_pv_cons (v_iald (by decide +kernel)) rfl ?_
  refine am_pv_cons (v_iload_n (q := 2) (by decide +kernel) rfl) rfl ?_
  refine am_pv_cons (v_ic_eq (off := 6) (by decide +kernel) rfl) rfl ?_
  refine am_pv_cons (v_bipush (n := -13) (by decide +kernel) (by decide +kernel)) rfl ?_
  refine am_pv_cons (v_ireturn (by decide +kernel)) rfl ?_
  refine am_pv_cons (v_aload_n (q := 0) (by decide +kernel) rfl) rfl ?_
  refine am_pv_cons (v_get fl_MO_87 (by decide +kernel)) rfl ?_
  refine am_pv_cons (v_iload_n (q := 1) (by decide +kernel) rfl) rfl ?_
  refine am_pv_cons (v_zald (by decide +kernel)) rfl ?_
  refine am_pv_cons (v_if_ne (off := 6) (by decide +kernel) rfl) rfl ?_
  refine am_pv_cons (v_bipush (n := -11) (by decide +kernel) (by decide +kernel)) rfl ?_
  refine am_pv_cons (v_ireturn (by decide +kernel)) rfl ?_
  refine am_pv_cons (v_iconst (n := 0) (by decide +kernel) rfl) rfl ?_
  refine am_pv_cons (v_istore (by decide +kernel)) rfl ?_
  refine am_pv_cons (v_iconst (n := 0) (by decide +kernel) rfl) rfl ?_
  refine am_pv_cons (v_istore (by decide +kernel)) rfl ?_
  refine am_pv_cons (v_iload (by decide +kernel)) rfl ?_
  refine am_pv_cons (v_iload (by decide +kernel)) rfl ?_
  refine am_pv_cons (v_ic_ge (off := 106) (by decide +kernel) rfl) rfl ?_
  refine am_pv_cons (v_iload_n (q := 3) (by decide +kernel) rfl) rfl ?_
  refine am_pv_cons (v_if_lt (off := 20) (by decide +kernel) rfl) rfl ?_
  refine am_pv_cons (v_iload_n (q := 3) (by decide +kernel) rfl) rfl ?_
  refine am_pv_cons (v_aload_n (q := 0) (by decide +kernel) rfl) rfl ?_
  refine am_pv_cons (v_get fl_MO_93 (by decide +kernel)) rfl ?_
  refine am_pv_cons (v_iload_n (q := 1) (by decide +kernel) rfl) rfl ?_
  refine am_pv_cons (v_iald (by decide +kernel)) rfl ?_
  refine am_pv_cons (v_iconst (n := 5) (by decide +kernel) rfl) rfl ?_
  refine am_pv_cons (v_iload (by decide +kernel)) rfl ?_
  refine am_pv_cons (v_imul (by decide +kernel)) rfl ?_
  refine am_pv_cons (v_isub (by decide +kernel)) rfl ?_
  refine am_pv_cons (v_iconst (n := 5) (by decide +kernel) rfl) rfl ?_
  refine am_pv_cons (v_isub (by decide +kernel)) rfl ?_
  refine am_pv_cons (v_ic_le (off := 6) (by decide +kernel) rfl) rfl ?_
  refine am_pv_cons (v_bipush (n := -12) (by decide +kernel) (by decide +kernel)) rfl ?_
  refine am_pv_cons (v_ireturn (by decide +kernel)) rfl ?_
  refine am_pv_cons (v_bipush (n := 40) (by decide +kernel) (by decide +kernel)) rfl ?_
  refine am_pv_cons (v_iload_n (q := 1) (by decide +kernel) rfl) rfl ?_
  refine am_pv_cons (v_imul (by decide +kernel)) rfl ?_
  refine am_pv_cons (v_iload_n (q := 3) (by decide +kernel) rfl) rfl ?_
  refine am_pv_cons (v_iadd (by decide +kernel)) rfl ?_
  refine am_pv_cons (v_iconst (n := 5) (by decide +kernel) rfl) rfl ?_
  refine am_pv_cons (v_iload (by decide +kernel)) rfl ?_
  refine am_pv_cons (v_imul (by decide +kernel)) rfl ?_
  refine am_pv_cons (v_iadd (by decide +kernel)) rfl ?_
  refine am_pv_cons (v_istore (by decide +kernel)) rfl ?_
  refine am_pv_cons (v_iload (by decide +kernel)) rfl ?_
  refine am_pv_cons (v_aload_n (q := 0) (by decide +kernel) rfl) rfl ?_
  refine am_pv_cons (v_aload_n (q := 0) (by decide +kernel) rfl) rfl ?_
  refine am_pv_cons (v_get fl_MO_96 (by decide +kernel)) rfl ?_
  refine am_pv_cons (v_iload (by decide +kernel)) rfl ?_
  refine am_pv_cons (v_iald (by decide +kernel)) rfl ?_
  refine am_pv_cons (v_aload_n (q := 0) (by decide +kernel) rfl) rfl ?_
  refine am_pv_cons (v_get fl_MO_96 (by decide +kernel)) rfl ?_
  refine am_pv_cons (v_iload (by decide +kernel)) rfl ?_
  refine am_pv_cons (v_iconst (n := 1) (by decide +kernel) rfl) rfl ?_
  refine am_pv_cons (v_iadd (by decide +kernel)) rfl ?_
  refine am_pv_cons (v_iald (by decide +kernel)) rfl ?_
  refine am_pv_cons (v_aload_n (q := 0) (by decide +kernel) rfl) rfl ?_
  refine am_pv_cons (v_get fl_MO_96 (by decide +kernel)) rfl ?_
  refine am_pv_cons (v_iload (by decide +kernel)) rfl ?_
  refine am_pv_cons (v_iconst (n := 2) (by decide +kernel) rfl) rfl ?_
  refine am_pv_cons (v_iadd (by decide +kernel)) rfl ?_
  refine am_pv_cons (v_iald (by decide +kernel)) rfl ?_
  refine am_pv_cons (v_aload_n (q := 0) (by decide +kernel) rfl) rfl ?_
  refine am_pv_cons (v_get fl_MO_96 (by decide +kernel)) rfl ?_
  refine am_pv_cons (v_iload (by decide +kernel)) rfl ?_
  refine am_pv_cons (v_iconst (n := 3) (by decide +kernel) rfl) rfl ?_
  refine am_pv_cons (v_iadd (by decide +kernel)) rfl ?_
  refine am_pv_cons (v_iald (by decide +kernel)) rfl ?_
  refine am_pv_cons (v_aload_n (q := 0) (by decide +kernel) rfl) rfl ?_
  refine am_pv_cons (v_get fl_MO_96 (by decide +kernel)) rfl ?_
  refine am_pv_cons (v_iload (by decide +kernel)) rfl ?_
  refine am_pv_cons (v_iconst (n := 4) (by decide +kernel) rfl) rfl ?_
  refine am_pv_cons (v_iadd (by decide +kernel)) rfl ?_
  refine am_pv_cons (v_iald (by decide +kernel)) rfl ?_
  refine am_pv_cons (v_virt (idx := 427) yv_MO_feel rfl rfl (tb7 234 (by decide +kernel) rfl) (by decide +kernel)) rfl ?_
  refine am_pv_cons (v_if_lt (off := 7) (by decide +kernel) rfl) rfl ?_
  refine am_pv_cons (v_iconst (n := 1) (by decide +kernel) rfl) rfl ?_
  refine am_pv_cons (v_goto (off := 4) (by decide +kernel) rfl) rfl ?_
  refine am_pv_cons (v_iconst (n := 0) (by decide +kernel) rfl) rfl ?_
  refine am_pv_cons (v_iadd (by decide +kernel)) rfl ?_
  refine am_pv_cons (v_istore (by decide +kernel)) rfl ?_
  refine am_pv_cons (v_iinc (n := 1) (by decide +kernel) (by decide +kernel)) rfl ?_
  refine am_pv_cons (v_goto (off := -107) (by decide +kernel) rfl) rfl ?_
  refine am_pv_cons (v_iload (by decide +kernel)) rfl ?_
  refine am_pv_cons (v_ireturn (by decide +kernel)) trivial ?_
  exact trivial
def P_MO_over (E : am_E) (k : Nat) : am_P := [(0, aLi 0), (1, z_ne 8), (4, aI (-1)), (5, aGo 32), (8, aLi 0), (9, aI 3), (10, c_ne 17), (13, aI 2), (14, aGo 32), (17, aLi 0), (18, aI 4), (19, c_eq 27), (22, aLi 0), (23, aI 5), (24, c_ne 31), (27, aI 1), (28, aGo 32), (31, aI 0), (32, aRi)]
set_option maxRecDepth 20000 in
theorem pv_MO_over (E : am_E) (k : Nat) : am_pv E k Y_MO_over.2.1 Y_MO_over.2.2.1 Y_MO_over.1.cls (P_MO_over E k) := by
  refine am_pv_cons (v_iload_n (q := 0) (by decide +kernel) rfl) rfl ?_
  refine am_pv_cons (v_if_ne (off := 7) (by decide +kernel) rfl) rfl ?_
  refine am_pv_cons (v_iconst (n := -1) (by decide +kernel) rfl) rfl ?_
  refine am_pv_cons (v_goto (off := 27) (by decide +kernel) rfl) rfl ?_
  refine am_pv_cons (v_iload_n (q := 0) (by decide +kernel) rfl) rfl ?_
  refine am_pv_cons (v_iconst (n := 3) (by decide +kernel) rfl) rfl ?_
  refine am_pv_cons (v_ic_ne (off := 7) (by decide +kernel) rfl) rfl ?_
  refine am_pv_cons (v_iconst (n := 2) (by decide +kernel) rfl) rfl ?_
  refine am_pv_cons (v_goto (off := 18) (by decide +kernel) rfl) rfl ?_
  refine am_pv_cons (v_iload_n (q := 0) (by decide +kernel) rfl) rfl ?_
  refine am_pv_cons (v_iconst (n := 4) (by decide +kernel) rfl) rfl ?_
  refine am_pv_cons (v_ic_eq (off := 8) (by decide +kernel) rfl) rfl ?_
  refine am_pv_cons (v_iload_n (q := 0) (by decide +kernel) rfl) rfl ?_
  refine am_pv_cons (v_iconst (n := 5) (by decide +kernel) rfl) rfl ?_
  refine am_pv_cons (v_ic_ne (off := 7) (by decide +kernel) rfl) rfl ?_
  refine am_pv_cons (v_iconst (n := 1) (by decide +kernel) rfl) rfl ?_
  refine am_pv_cons (v_goto (off := 4) (by decide +kernel) rfl) rfl ?_
  refine am_pv_cons (v_iconst (n := 0) (by decide +kernel) rfl) rfl ?_
  refine am_pv_cons (v_ireturn (by decide +kernel)) trivial ?_
  exact trivial
def P_MO_taken (E : am_E) (k : Nat) : am_P := [(0, aLi 2), (1, aI2L), (2, aJ 0), (3, aJ 5), (6, aIs E k 3 Y_MO_in), (9, z_ne 15), (12, aI (-2)), (14, aRi), (15, aLa 0), (16, aLi 1), (17, aIv E k 12 1 Y_MO_isCamping), (20, z_ne 26), (23, aI (-11)), (25, aRi), (26, aLa 0), (27, aGet 12 29), (30, aLi 1), (31, aAld 0), (32, aSi 3), (33, aLi 3), (34, aI (-1)), (35, c_eq 51), (38, aLi 3), (39, aLi 2), (40, c_eq 51), (43, aLi 3), (44, aIs E k 1 Y_MO_over), (47, aSi 3), (48, aGo 33), (51, aLi 3), (52, aLi 2), (53, c_ne 65), (56, aLa 0), (57, aGet 12 30), (60, aLi 1), (61, aAld 0), (62, aGo 67), (65, aI (-13)), (67, aRi)]
set_option maxRecDepth 20000 in
theorem pv_MO_taken (E : am_E) (k : Nat) : am_pv E k Y_MO_taken.2.1 Y_MO_taken.2.2.1 Y_MO_taken.1.cls (P_MO_taken E k) := by
  refine am_pv_cons (v_iload_n (q := 2) (by decide +kernel) rfl) rfl ?_
  refine am_pv_cons (v_i2l (by decide +kernel)) rfl ?_
  refine am_pv_cons (v_lconst (n := 0) (by decide +kernel) rfl) rfl ?_
  refine am_pv_cons (v_ldc2 (i := 309) (tb7 28 (by decide +kernel) rfl) (by decide +kernel)) rfl ?_
  refine am_pv_cons (v_stat (idx := 119) ys_MO_in (tb6 98 (by decide +kernel) rfl) (by decide +kernel)) rfl ?_
  refine am_pv_cons (v_if_ne (off := 6) (by decide +kernel) rfl) rfl ?_
  refine am_pv_cons (v_bipush (n := -2) (by decide +kernel) (by decide +kernel)) rfl ?_
  refine am_pv_cons (v_ireturn (by decide +kernel)) rfl ?_
  refine am_pv_cons (v_aload_n (q := 0) (by decide +kernel) rfl) rfl ?_
  refine am_pv_cons (v_iload_n (q := 1) (by decide +kernel) rfl) rfl ?_
  refine am_pv_cons (v_virt (idx := 323) yv_MO_isCamping rfl rfl (tb7 36 (by decide +kernel) rfl) (by decide +kernel)) rfl ?_
  refine am_pv_cons (v_if_ne (off := 6) (by decide +kernel) rfl) rfl ?_
  refine am_pv_cons (v_bipush (n := -11) (by decide +kernel) (by decide +kernel)) rfl ?_
  refine am_pv_cons (v_ireturn (by decide +kernel)) rfl ?_
  refine am_pv_cons (v_aload_n (q := 0) (by decide +kernel) rfl) rfl ?_
  refine am_pv_cons (v_get fl_MO_47 (by decide +kernel)) rfl ?_
  refine am_pv_cons (v_iload_n (q := 1) (by decide +kernel) rfl) rfl ?_
  refine am_pv_cons (v_iald (by decide +kernel)) rfl ?_
  refine am_pv_cons (v_istore_n (q := 3) (by decide +kernel) rfl) rfl ?_
  refine am_pv_cons (v_iload_n (q := 3) (by decide +kernel) rfl) rfl ?_
  refine am_pv_cons (v_iconst (n := -1) (by decide +kernel) rfl) rfl ?_
  refine am_pv_cons (v_ic_eq (off := 16) (by decide +kernel) rfl) rfl ?_
  refine am_pv_cons (v_iload_n (q := 3) (by decide +kernel) rfl) rfl ?_
  refine am_pv_cons (v_iload_n (q := 2) (by decide +kernel) rfl) rfl ?_
  refine am_pv_cons (v_ic_eq (off := 11) (by decide +kernel) rfl) rfl ?_
  refine am_pv_cons (v_iload_n (q := 3) (by decide +kernel) rfl) rfl ?_
  refine am_pv_cons (v_stat (idx := 431) ys_MO_over (tb7 239 (by decide +kernel) rfl) (by decide +kernel)) rfl ?_
  refine am_pv_cons (v_istore_n (q := 3) (by decide +kernel) rfl) rfl ?_
  refine am_pv_cons (v_goto (off := -15) (by decide +kernel) rfl) rfl ?_
  refine am_pv_cons (v_iload_n (q := 3) (by decide +kernel) rfl) rfl ?_
  refine am_pv_cons (v_iload_n (q := 2) (by decide +kernel) rfl) rfl ?_
  refine am_pv_cons (v_ic_ne (off := 12) (by decide +kernel) rfl) rfl ?_
  refine am_pv_cons (v_aload_n (q := 0) (by decide +kernel) rfl) rfl ?_
  refine am_pv_cons (v_get fl_MO_50 (by decide +kernel)) rfl ?_
  refine am_pv_cons (v_iload_n (q := 1) (by decide +kernel) rfl) rfl ?_
  refine am_pv_cons (v_iald (by decide +kernel)) rfl ?_
  refine am_pv_cons (v_goto (off := 5) (by decide +kernel) rfl) rfl ?_
  refine am_pv_cons (v_bipush (n := -13) (by decide +kernel) (by decide +kernel)) rfl ?_
  refine am_pv_cons (v_ireturn (by decide +kernel)) trivial ?_
  exact trivial
