def P_TC_person (E : am_E) (k : Nat) : am_P := [(0, aLi 1), (1, aIs E k 1 Y_TC_isPrice), (4, z_ne 10), (7, aI (-2)), (9, aRi), (10, aLa 0), (11, aGet 0 0), (14, aGet 1 0), (17, aI 9), (19, c_lt 25), (22, aI (-4)), (24, aRi), (25, aLa 0), (26, aGet 0 0), (29, aLi 1), (30, aIv E k 1 1 Y_People_add), (33, aRi)]
set_option maxRecDepth 20000 in
theorem pv_TC_person (E : am_E) (k : Nat) : am_pv E k Y_TC_person.2.1 Y_TC_person.2.2.1 Y_TC_person.1.cls (P_TC_person E k) := by
  refine am_pv_cons (v_iload_n (q := 1) (by decide +kernel) rfl) rfl ?_
  refine am_pv_cons (v_stat (idx := 99) ys_TC_isPrice (tb2 185 (by decide +kernel) rfl) (by decide +kernel)) rfl ?_
  refine am_pv_cons (v_if_ne (off := 6) (by decide +kernel) rfl) rfl ?_
  refine am_pv_cons (v_bipush (n := -2) (by decide +kernel) (by decide +kernel)) rfl ?_
  refine am_pv_cons (v_ireturn (by decide +kernel)) rfl ?_
  refine am_pv_cons (v_aload_n (q := 0) (by decide +kernel) rfl) rfl ?_
  refine am_pv_cons (v_get fl_TC_10 (by decide +kernel)) rfl ?_
  refine am_pv_cons (v_get fl_TC_103 (by decide +kernel)) rfl ?_
  refine am_pv_cons (v_bipush (n := 9) (by decide +kernel) (by decide +kernel)) rfl ?_
  refine am_pv_cons (v_ic_lt (off := 6) (by decide +kernel) rfl) rfl ?_
  refine am_pv_cons (v_bipush (n := -4) (by decide +kernel) (by decide +kernel)) rfl ?_
  refine am_pv_cons (v_ireturn (by decide +kernel)) rfl ?_
  refine am_pv_cons (v_aload_n (q := 0) (by decide +kernel) rfl) rfl ?_
  refine am_pv_cons (v_get fl_TC_10 (by decide +kernel)) rfl ?_
  refine am_pv_cons (v_iload_n (q := 1) (by decide +kernel) rfl) rfl ?_
  refine am_pv_cons (v_virt (idx := 107) yv_People_add rfl rfl (tb2 188 (by decide +kernel) rfl) (by decide +kernel)) rfl ?_
  refine am_pv_cons (v_ireturn (by decide +kernel)) trivial ?_
  exact trivial
def P_TC_set (E : am_E) (k : Nat) : am_P := [(0, aLa 0), (1, aGet 0 0), (4, aLi 2), (5, aIv E k 1 1 Y_People_has), (8, z_ne 14), (11, aI (-5)), (13, aRi), (14, aLi 1), (15, z_ne 49), (18, aLi 3), (19, aIs E k 1 Y_TC_isPrice), (22, z_eq 49), (25, aLa 0), (26, aGet 0 0), (29, aGet 1 1), (32, aLi 2), (33, aAld 0), (34, aSi 4), (36, aLa 0), (37, aGet 0 0), (40, aGet 1 1), (43, aLi 2), (44, aLi 3), (45, aAst), (46, aLi 4), (48, aRi), (49, aLi 1), (50, aI 1), (51, c_ne 92), (54, aLi 3), (55, aI (-1)), (56, c_eq 68), (59, aLi 3), (60, z_eq 68), (63, aLi 3), (64, aI 1), (65, c_ne 92), (68, aLa 0), (69, aGet 0 0), (72, aGet 1 2), (75, aLi 2), (76, aAld 0), (77, aSi 4), (79, aLa 0), (80, aGet 0 0), (83, aGet 1 2), (86, aLi 2), (87, aLi 3), (88, aAst), (89, aLi 4), (91, aRi), (92, aI (-5)), (94, aRi)]
set_option maxRecDepth 20000 in
theorem pv_TC_set (E : am_E) (k : Nat) : am_pv E k Y_TC_set.2.1 Y_TC_set.2.2.1 Y_TC_set.1.cls (P_TC_set E k) := by
  refine am_pv_cons (v_aload_n (q := 0) (by decide +kernel) rfl) rfl ?_
  refine am_pv_cons (v_get fl_TC_10 (by decide +kernel)) rfl ?_
  refine am_pv_cons (v_iload_n (q := 2) (by decide +kernel) rfl) rfl ?_
  refine am_pv_cons (v_virt (idx := 111) yv_People_has rfl rfl (tb2 196 (by decide +kernel) rfl) (by decide +kernel)) rfl ?_
  refine am_pv_cons (v_if_ne (off := 6) (by decide +kernel) rfl) rfl ?_
  refine am_pv_cons (v_bipush (n := -5) (by decide +kernel) (by decide +kernel)) rfl ?_
  refine am_pv_cons (v_ireturn (by decide +kernel)) rfl ?_
  refine am_pv_cons (v_iload_n (q := 1) (by decide +kernel) rfl) rfl ?_
  refine am_pv_cons (v_if_ne (off := 34) (by decide +kernel) rfl) rfl ?_
  refine am_pv_cons (v_iload_n (q := 3) (by decide +kernel) rfl) rfl ?_
  refine am_pv_cons (v_stat (idx := 99) ys_TC_isPrice (tb2 185 (by decide +kernel) rfl) (by decide +kernel)) rfl ?_
  refine am_pv_cons (v_if_eq (off := 27) (by decide +kernel) rfl) rfl ?_
  refine am_pv_cons (v_aload_n (q := 0) (by decide +kernel) rfl) rfl ?_
  refine am_pv_cons (v_get fl_TC_10 (by decide +kernel)) rfl ?_
  refine am_pv_cons (v_get fl_TC_114 (by decide +kernel)) rfl ?_
  refine am_pv_cons (v_iload_n (q := 2) (by decide +kernel) rfl) rfl ?_
  refine am_pv_cons (v_iald (by decide +kernel)) rfl ?_
  refine am_pv_cons (v_istore (by decide +kernel)) rfl ?_
  refine am_pv_cons (v_aload_n (q := 0) (by decide +kernel) rfl) rfl ?_
  refine am_pv_cons (v_get fl_TC_10 (by decide +kernel)) rfl ?_
  refine am_pv_cons (v_get fl_TC_114 (by decide +kernel)) rfl ?_
  refine am_pv_cons (v_iload_n (q := 2) (by decide +kernel) rfl) rfl ?_
  refine am_pv_cons (v_iload_n (q := 3) (by decide +kernel) rfl) rfl ?_
  refine am_pv_cons (v_iast (by decide +kernel)) rfl ?_
  refine am_pv_cons (v_iload (by decide +kernel)) rfl ?_
  refine am_pv_cons (v_ireturn (by decide +kernel)) rfl ?_
  refine am_pv_cons (v_iload_n (q := 1) (by decide +kernel) rfl) rfl ?_
  refine am_pv_cons (v_iconst (n := 1) (by decide +kernel) rfl) rfl ?_
  refine am_pv_cons (v_ic_ne (off := 41) (by decide +kernel) rfl) rfl ?_
  refine am_pv_cons (v_iload_n (q := 3) (by decide +kernel) rfl) rfl ?_
  refine am_pv_cons (v_iconst (n := -1) (by decide +kernel) rfl) rfl ?_
  refine am_pv_cons (v_ic_eq (off := 12) (by decide +kernel) rfl) rfl ?_
  refine am_pv_cons (v_iload_n (q := 3) (by decide +kernel) rfl) rfl ?_
  refine am_pv_cons (v_if_eq (off := 8) (by decide +kernel) rfl) rfl ?_
  refine am_pv_cons (v_iload_n (q := 3) (by decide +kernel) rfl) rfl ?_
  refine am_pv_cons (v_iconst (n := 1) (by decide +kernel) rfl) rfl ?_
  refine am_pv_cons (v_ic_ne (off := 27) (by decide +kernel) rfl) rfl ?_
  refine am_pv_cons (v_aload_n (q := 0) (by decide +kernel) rfl) rfl ?_
  refine am_pv_cons (v_get fl_TC_10 (by decide +kernel)) rfl ?_
  refine am_pv_cons (v_get fl_TC_118 (by decide +kernel)) rfl ?_
  refine am_pv_cons (v_iload_n (q := 2) (by decide +kernel) rfl) rfl ?_
  refine am_pv_cons (v_iald (by decide +kernel)) rfl ?_
  refine am_pv_cons (v_istore (by decide +kernel)) rfl ?_
  refine am_pv_cons (v_aload_n (q := 0) (by decide +kernel) rfl) rfl ?_
  refine am_pv_cons (v_get fl_TC_10 (by decide +kernel)) rfl ?_
  refine am_pv_cons (v_get fl_TC_118 (by decide +kernel)) rfl ?_
  refine am_pv_cons (v_iload_n (q := 2) (by decide +kernel) rfl) rfl ?_
  refine am_pv_cons (v_iload_n (q := 3) (by decide +kernel) rfl) rfl ?_
  refine am_pv_cons (v_iast (by decide +kernel)) rfl ?_
  refine am_pv_cons (v_iload (by decide +kernel)) rfl ?_
  refine am_pv_cons (v_ireturn (by decide +kernel)) rfl ?_
  refine am_pv_cons (v_bipush (n := -5) (by decide +kernel) (by decide +kernel)) rfl ?_
  refine am_pv_cons (v_ireturn (by decide +kernel)) trivial ?_
  exact trivial
def P_TC_feel (E : am_E) (k : Nat) : am_P := [(0, aLa 0), (1, aGet 0 0), (4, aLi 1), (5, aLi 2), (6, aIv E k 1 2 Y_People_hasTwo), (9, z_eq 22), (12, aLi 3), (13, aI 1), (14, c_eq 25), (17, aLi 3), (18, aI (-1)), (19, c_eq 25), (22, aI (-2)), (24, aRi), (25, aLi 4), (27, aI 1), (28, c_lt 49), (31, aLi 4), (33, aI 99), (35, c_gt 49), (38, aLi 5), (40, z_lt 49), (43, aLi 5), (45, aI 3), (46, c_le 52), (49, aI (-2)), (51, aRi), (52, aLa 0), (53, aGet 0 2), (56, aLi 1), (57, aLi 2), (58, aLi 3), (59, aLi 4), (61, aLi 5), (63, aIv E k 2 5 Y_Feelings_tell), (66, aRi)]
set_option maxRecDepth 20000 in
theorem pv_TC_feel (E : am_E) (k : Nat) : am_pv E k Y_TC_feel.2.1 Y_TC_feel.2.2.1 Y_TC_feel.1.cls (P_TC_feel E k) := by
  refine am_pv_cons (v_aload_n (q := 0) (by decide +kernel) rfl) rfl ?_
  refine am_pv_cons (v_get fl_TC_10 (by decide +kernel)) rfl ?_
  refine am_pv_cons (v_iload_n (q := 1) (by decide +kernel) rfl) rfl ?_
  refine am_pv_cons (v_iload_n (q := 2) (by decide +kernel) rfl) rfl ?_
  refine am_pv_cons (v_virt (idx := 121) yv_People_hasTwo rfl rfl (tb2 204 (by decide +kernel) rfl) (by decide +kernel)) rfl ?_
  refine am_pv_cons (v_if_eq (off := 13) (by decide +kernel) rfl) rfl ?_
  refine am_pv_cons (v_iload_n (q := 3) (by decide +kernel) rfl) rfl ?_
  refine am_pv_cons (v_iconst (n := 1) (by decide +kernel) rfl) rfl ?_
  refine am_pv_cons (v_ic_eq (off := 11) (by decide +kernel) rfl) rfl ?_
  refine am_pv_cons (v_iload_n (q := 3) (by decide +kernel) rfl) rfl ?_
  refine am_pv_cons (v_iconst (n := -1) (by decide +kernel) rfl) rfl ?_
  refine am_pv_cons (v_ic_eq (off := 6) (by decide +kernel) rfl) rfl ?_
  refine am_pv_cons (v_bipush (n := -2) (by decide +kernel) (by decide +kernel)) rfl ?_
  refine am_pv_cons (v_ireturn (by decide +kernel)) rfl ?_
  refine am_pv_cons (v_iload (by decide +kernel)) rfl ?_
  refine am_pv_cons (v_iconst (n := 1) (by decide +kernel) rfl) rfl ?_
  refine am_pv_cons (v_ic_lt (off := 21) (by decide +kernel) rfl) rfl ?_
  refine am_pv_cons (v_iload (by decide +kernel)) rfl ?_
  refine am_pv_cons (v_bipush (n := 99) (by decide +kernel) (by decide +kernel)) rfl ?_
  refine am_pv_cons (v_ic_gt (off := 14) (by decide +kernel) rfl) rfl ?_
  refine am_pv_cons (v_iload (by decide +kernel)) rfl ?_
  refine am_pv_cons (v_if_lt (off := 9) (by decide +kernel) rfl) rfl ?_
  refine am_pv_cons (v_iload (by decide +kernel)) rfl ?_
  refine am_pv_cons (v_iconst (n := 3) (by decide +kernel) rfl) rfl ?_
  refine am_pv_cons (v_ic_le (off := 6) (by decide +kernel) rfl) rfl ?_
  refine am_pv_cons (v_bipush (n := -2) (by decide +kernel) (by decide +kernel)) rfl ?_
  refine am_pv_cons (v_ireturn (by decide +kernel)) rfl ?_
  refine am_pv_cons (v_aload_n (q := 0) (by decide +kernel) rfl) rfl ?_
  refine am_pv_cons (v_get fl_TC_22 (by decide +kernel)) rfl ?_
  refine am_pv_cons (v_iload_n (q := 1) (by decide +kernel) rfl) rfl ?_
  refine am_pv_cons (v_iload_n (q := 2) (by decide +kernel) rfl) rfl ?_
  refine am_pv_cons (v_iload_n (q := 3) (by decide +kernel) rfl) rfl ?_
  refine am_pv_cons (v_iload (by decide +kernel)) rfl ?_
  refine am_pv_cons (v_iload (by decide +kernel)) rfl ?_
  refine am_pv_cons (v_virt (idx := 125) yv_Feelings_tell rfl rfl (tb2 209 (by decide +kernel) rfl) (by decide +kernel)) rfl ?_
  refine am_pv_cons (v_ireturn (by decide +kernel)) trivial ?_
  exact trivial
def P_TC_felt (E : am_E) (k : Nat) : am_P := [(0, aLa 0), (1, aGet 0 2), (4, aLi 1), (5, aIv E k 2 1 Y_Feelings_has), (8, z_ne 14), (11, aI (-5)), (13, aRi), (14, aLi 2), (15, aSw [(0, 64), (1, 74), (2, 84), (3, 94), (4, 104), (5, 116), (6, 128), (7, 137), (8, 154)] 163), (64, aLa 0), (65, aGet 0 2), (68, aGet 2 1), (71, aLi 1), (72, aAld 0), (73, aRi), (74, aLa 0), (75, aGet 0 2), (78, aGet 2 2), (81, aLi 1), (82, aAld 0), (83, aRi), (84, aLa 0), (85, aGet 0 2), (88, aGet 2 3), (91, aLi 1), (92, aAld 0), (93, aRi), (94, aLa 0), (95, aGet 0 2), (98, aGet 2 4), (101, aLi 1), (102, aAld 0), (103, aRi), (104, aLa 0), (105, aGet 0 2), (108, aGet 2 5), (111, aLi 1), (112, aAld 0), (113, aI 1), (114, a_ishr), (115, aRi), (116, aLa 0), (117, aGet 0 2), (120, aGet 2 5), (123, aLi 1), (124, aAld 0), (125, aI 1), (126, a_iand), (127, aRi), (128, aLa 0), (129, aGet 0 7), (132, aLi 1), (133, aIv E k 4 1 Y_Law_costOf), (136, aRi), (137, aLa 0), (138, aGet 0 7), (141, aLi 1), (142, aIv E k 4 1 Y_Law_canBeWrong), (145, z_eq 152), (148, aI 1), (149, aGo 153), (152, aI 0), (153, aRi), (154, aLa 0), (155, aGet 0 2), (158, aLi 1), (159, aIv E k 2 1 Y_Feelings_badThreesWith), (162, aRi), (163, aI (-5)), (165, aRi)]
set_option maxRecDepth 20000 in
theorem pv_TC_felt (E : am_E) (k : Nat) : am_pv E k Y_TC_felt.2.1 Y_TC_felt.2.2.1 Y_TC_felt.1.cls (P_TC_felt E k) := by
  refine am_pv_cons (v_aload_n (q := 0) (by decide +kernel) rfl) rfl ?_
  refine am_pv_cons (v_get fl_TC_22 (by decide +kernel)) rfl ?_
  refine am_pv_cons (v_iload_n (q := 1) (by decide +kernel) rfl) rfl ?_
  refine am_pv_cons (v_virt (idx := 129) yv_Feelings_has rfl rfl (tb2 227 (by decide +kernel) rfl) (by decide +kernel)) rfl ?_
  refine am_pv_cons (v_if_ne (off := 6) (by decide +kernel) rfl) rfl ?_
  refine am_pv_cons (v_bipush (n := -5) (by decide +kernel) (by decide +kernel)) rfl ?_
  refine am_pv_cons (v_ireturn (by decide +kernel)) rfl ?_
  refine am_pv_cons (v_iload_n (q := 2) (by decide +kernel) rfl) rfl ?_
  refine am_pv_cons (v_tsw (dflt := 148) (lo := 0) (hi := 8) (offs := #[49, 59, 69, 79, 89, 101, 113, 122, 139]) (len := 49) (by decide +kernel) rfl (by decide) (by decide +kernel)) rfl ?_
  refine am_pv_cons (v_aload_n (q := 0) (by decide +kernel) rfl) rfl ?_
  refine am_pv_cons (v_get fl_TC_22 (by decide +kernel)) rfl ?_
  refine am_pv_cons (v_get fl_TC_130 (by decide +kernel)) rfl ?_
  refine am_pv_cons (v_iload_n (q := 1) (by decide +kernel) rfl) rfl ?_
  refine am_pv_cons (v_iald (by decide +kernel)) rfl ?_
  refine am_pv_cons (v_ireturn (by decide +kernel)) rfl ?_
  refine am_pv_cons (v_aload_n (q := 0) (by decide +kernel) rfl) rfl ?_
  refine am_pv_cons (v_get fl_TC_22 (by decide +kernel)) rfl ?_
  refine am_pv_cons (v_get fl_TC_133 (by decide +kernel)) rfl ?_
  refine am_pv_cons (v_iload_n (q := 1) (by decide +kernel) rfl) rfl ?_
  refine am_pv_cons (v_iald (by decide +kernel)) rfl ?_
  refine am_pv_cons (v_ireturn (by decide +kernel)) rfl ?_
  refine am_pv_cons (v_aload_n (q := 0) (by decide +kernel) rfl) rfl ?_
  refine am_pv_cons (v_get fl_TC_22 (by decide +kernel)) rfl ?_
  refine am_pv_cons (v_get fl_TC_136 (by decide +kernel)) rfl ?_
  refine am_pv_cons (v_iload_n (q := 1) (by decide +kernel) rfl) rfl ?_
  refine am_pv_cons (v_iald (by decide +kernel)) rfl ?_
  refine am_pv_cons (v_ireturn (by decide +kernel)) rfl ?_
  refine am_pv_cons (v_aload_n (q := 0) (by decide +kernel) rfl) rfl ?_
  refine am_pv_cons (v_get fl_TC_22 (by decide +kernel)) rfl ?_
  refine am_pv_cons (v_get fl_TC_139 (by decide +kernel)) rfl ?_
  refine am_pv_cons (v_iload_n (q := 1) (by decide +kernel) rfl) rfl ?_
  refine am_pv_cons (v_iald (by decide +kernel)) rfl ?_
  refine am_pv_cons (v_ireturn (by decide +kernel)) rfl ?_
  refine am_pv_cons (v_aload_n (q := 0) (by decide +kernel) rfl) rfl ?_
  refine am_pv_cons (v_get fl_TC_22 (by decide +kernel)) rfl ?_
  refine am_pv_cons (v_get fl_TC_142 (by decide +kernel)) rfl ?_
  refine am_pv_cons (v_iload_n (q := 1) (by decide +kernel) rfl) rfl ?_
  refine am_pv_cons (v_iald (by decide +kernel)) rfl ?_
  refine am_pv_cons (v_iconst (n := 1) (by decide +kernel) rfl) rfl ?_
  refine am_pv_cons (v_ishr (by decide +kernel)) rfl ?_
  refine am_pv_cons (v_ireturn (by decide +kernel)) rfl ?_
  refine am_pv_cons (v_aload_n (q := 0) (by decide +kernel) rfl) rfl ?_
  refine am_pv_cons (v_get fl_TC_22 (by decide +kernel)) rfl ?_
  refine am_pv_cons (v_get fl_TC_142 (by decide +kernel)) rfl ?_
  refine am_pv_cons (v_iload_n (q := 1) (by decide +kernel) rfl) rfl ?_
  refine am_pv_cons (v_iald (by decide +kernel)) rfl ?_
  refine am_pv_cons (v_iconst (n := 1) (by decide +kernel) rfl) rfl ?_
  refine am_pv_cons (v_iand (by decide +kernel)) rfl ?_
  refine am_pv_cons (v_ireturn (by decide +kernel)) rfl ?_
  refine am_pv_cons (v_aload_n (q := 0) (by decide +kernel) rfl) rfl ?_
  refine am_pv_cons (v_get fl_TC_41 (by decide +kernel)) rfl ?_
  refine am_pv_cons (v_iload_n (q := 1) (by decide +kernel) rfl) rfl ?_
  refine am_pv_cons (v_virt (idx := 145) yv_Law_costOf rfl rfl (tb2 231 (by decide +kernel) rfl) (by decide +kernel)) rfl ?_
  refine am_pv_cons (v_ireturn (by decide +kernel)) rfl ?_
  refine am_pv_cons (v_aload_n (q := 0) (by decide +kernel) rfl) rfl ?_
  refine am_pv_cons (v_get fl_TC_41 (by decide +kernel)) rfl ?_
  refine am_pv_cons (v_iload_n (q := 1) (by decide +kernel) rfl) rfl ?_
  refine am_pv_cons (v_virt (idx := 148) yv_Law_canBeWrong rfl rfl (tb3 23 (by decide +kernel) rfl) (by decide +kernel)) rfl ?_
  refine am_pv_cons (v_if_eq (off := 7) (by decide +kernel) rfl) rfl ?_
  refine am_pv_cons (v_iconst (n := 1) (by decide +kernel) rfl) rfl ?_
  refine am_pv_cons (v_goto (off := 4) (by decide +kernel) rfl) rfl ?_
  refine am_pv_cons (v_iconst (n := 0) (by decide +kernel) rfl) rfl ?_
  refine am_pv_cons (v_ireturn (by decide +kernel)) rfl ?_
  refine am_pv_cons (v_aload_n (q := 0) (by decide +kernel) rfl) rfl ?_
  refine am_pv_cons (v_get fl_TC_22 (by decide +kernel)) rfl ?_
  refine am_pv_cons (v_iload_n (q := 1) (by decide +kernel) rfl) rfl ?_
  refine am_pv_cons (v_virt (idx := 151) yv_Feelings_badThreesWith rfl rfl (tb3 27 (by decide +kernel) rfl) (by decide +kernel)) rfl ?_
  refine am_pv_cons (v_ireturn (by decide +kernel)) rfl ?_
  refine am_pv_cons (v_bipush (n := -5) (by decide +kernel) (by decide +kernel)) rfl ?_
  refine am_pv_cons (v_ireturn (by decide +kernel)) trivial ?_
  exact trivial
def P_TC_between (E : am_E) (k : Nat) : am_P := [(0, aLa 0), (1, aGet 0 0), (4, aLi 1), (5, aLi 2), (6, aIv E k 1 2 Y_People_hasTwo), (9, z_eq 24), (12, aLa 0), (13, aGet 0 2), (16, aLi 1), (17, aLi 2), (18, aIv E k 2 2 Y_Feelings_find), (21, aGo 26), (24, aI (-2)), (26, aRi)]
set_option maxRecDepth 20000 in
theorem pv_TC_between (E : am_E) (k : Nat) : am_pv E k Y_TC_between.2.1 Y_TC_between.2.2.1 Y_TC_between.1.cls (P_TC_between E k) := by
  refine am_pv_cons (v_aload_n (q := 0) (by decide +kernel) rfl) rfl ?_
  refine am_pv_cons (v_get fl_TC_10 (by decide +kernel)) rfl ?_
  refine am_pv_cons (v_iload_n (q := 1) (by decide +kernel) rfl) rfl ?_
  refine am_pv_cons (v_iload_n (q := 2) (by decide +kernel) rfl) rfl ?_
  refine am_pv_cons (v_virt (idx := 121) yv_People_hasTwo rfl rfl (tb2 204 (by decide +kernel) rfl) (by decide +kernel)) rfl ?_
  refine am_pv_cons (v_if_eq (off := 15) (by decide +kernel) rfl) rfl ?_
  refine am_pv_cons (v_aload_n (q := 0) (by decide +kernel) rfl) rfl ?_
  refine am_pv_cons (v_get fl_TC_22 (by decide +kernel)) rfl ?_
  refine am_pv_cons (v_iload_n (q := 1) (by decide +kernel) rfl) rfl ?_
  refine am_pv_cons (v_iload_n (q := 2) (by decide +kernel) rfl) rfl ?_
  refine am_pv_cons (v_virt (idx := 154) yv_Feelings_find rfl rfl (tb3 35 (by decide +kernel) rfl) (by decide +kernel)) rfl ?_
  refine am_pv_cons (v_goto (off := 5) (by decide +kernel) rfl) rfl ?_
  refine am_pv_cons (v_bipush (n := -2) (by decide +kernel) (by decide +kernel)) rfl ?_
  refine am_pv_cons (v_ireturn (by decide +kernel)) trivial ?_
  exact trivial
def P_TC_isPrice (E : am_E) (k : Nat) : am_P := [(0, aLi 0), (1, z_lt 14), (4, aLi 0), (5, aI 99), (7, c_gt 14), (10, aI 1), (11, aGo 15), (14, aI 0), (15, aRi)]
set_option maxRecDepth 20000 in
theorem pv_TC_isPrice (E : am_E) (k : Nat) : am_pv E k Y_TC_isPrice.2.1 Y_TC_isPrice.2.2.1 Y_TC_isPrice.1.cls (P_TC_isPrice E k) := by
  refine am_pv_cons (v_iload_n (q := 0) (by decide +kernel) rfl) rfl ?_
  refine am_pv_cons (v_if_lt (off := 13) (by decide +kernel) rfl) rfl ?_
  refine am_pv_cons (v_iload_n (q := 0) (by decide +kernel) rfl) rfl ?_
  refine am_pv_cons (v_bipush (n := 99) (by decide +kernel) (by decide +kernel)) rfl ?_
  refine am_pv_cons (v_ic_gt (off := 7) (by decide +kernel) rfl) rfl ?_
  refine am_pv_cons (v_iconst (n := 1) (by decide +kernel) rfl) rfl ?_
  refine am_pv_cons (v_goto (off := 4) (by decide +kernel) rfl) rfl ?_
  refine am_pv_cons (v_iconst (n := 0) (by decide +kernel) rfl) rfl ?_
  refine am_pv_cons (v_ireturn (by decide +kernel)) trivial ?_
  exact trivial
def P_TC_feed (E : am_E) (k : Nat) : am_P := [(0, aLi 1), (1, aI 1), (2, c_lt 11), (5, aLi 1), (6, aI 8), (8, c_le 14), (11, aI (-2)), (13, aRi), (14, aLa 0), (15, aGet 0 6), (18, aGet 3 0), (21, aLi 1), (22, a_iadd), (23, aI 160), (26, c_le 32), (29, aI (-4)), (31, aRi), (32, aI 0), (33, aSi 4), (35, aLi 4), (37, aLi 1), (38, c_ge 66), (41, aLa 0), (42, aGet 0 6), (45, aLj 2), (46, aI 8), (48, aLi 4), (50, a_imul), (51, a_lshr), (52, aL2I), (53, aI 255), (56, a_iand), (57, aIv E k 3 1 Y_Tape_add), (60, aInc 4 1), (63, aGo 35), (66, aLa 0), (67, aGet 0 6), (70, aGet 3 0), (73, aRi)]
set_option maxRecDepth 20000 in
theorem pv_TC_feed (E : am_E) (k : Nat) : am_pv E k Y_TC_feed.2.1 Y_TC_feed.2.2.1 Y_TC_feed.1.cls (P_TC_feed E k) := by
  refine am_pv_cons (v_iload_n (q := 1) (by decide +kernel) rfl) rfl ?_
  refine am_pv_cons (v_iconst (n := 1) (by decide +kernel) rfl) rfl ?_
  refine am_pv_cons (v_ic_lt (off := 9) (by decide +kernel) rfl) rfl ?_
  refine am_pv_cons (v_iload_n (q := 1) (by decide +kernel) rfl) rfl ?_
  refine am_pv_cons (v_bipush (n := 8) (by decide +kernel) (by decide +kernel)) rfl ?_
  refine am_pv_cons (v_ic_le (off := 6) (by decide +kernel) rfl) rfl ?_
  refine am_pv_cons (v_bipush (n := -2) (by decide +kernel) (by decide +kernel)) rfl ?_
  refine am_pv_cons (v_ireturn (by decide +kernel)) rfl ?_
  refine am_pv_cons (v_aload_n (q := 0) (by decide +kernel) rfl) rfl ?_
  refine am_pv_cons (v_get fl_TC_32 (by decide +kernel)) rfl ?_
  refine am_pv_cons (v_get fl_TC_158 (by decide +kernel)) rfl ?_
  refine am_pv_cons (v_iload_n (q := 1) (by decide +kernel) rfl) rfl ?_
  refine am_pv_cons (v_iadd (by decide +kernel)) rfl ?_
  refine am_pv_cons (v_sipush (n := 160) (by decide +kernel) (by decide +kernel)) rfl ?_
  refine am_pv_cons (v_ic_le (off := 6) (by decide +kernel) rfl) rfl ?_
  refine am_pv_cons (v_bipush (n := -4) (by decide +kernel) (by decide +kernel)) rfl ?_
  refine am_pv_cons (v_ireturn (by decide +kernel)) rfl ?_
  refine am_pv_cons (v_iconst (n := 0) (by decide +kernel) rfl) rfl ?_
  refine am_pv_cons (v_istore (by decide +kernel)) rfl ?_
  refine am_pv_cons (v_iload (by decide +kernel)) rfl ?_
  refine am_pv_cons (v_iload_n (q := 1) (by decide +kernel) rfl) rfl ?_
  refine am_pv_cons (v_ic_ge (off := 28) (by decide +kernel) rfl) rfl ?_
  refine am_pv_cons (v_aload_n (q := 0) (by decide +kernel) rfl) rfl ?_
  refine am_pv_cons (v_get fl_TC_32 (by decide +kernel)) rfl ?_
  refine am_pv_cons (v_lload_n (q := 2) (by decide +kernel) rfl) rfl ?_
  refine am_pv_cons (v_bipush (n := 8) (by decide +kernel) (by decide +kernel)) rfl ?_
  refine am_pv_cons (v_iload (by decide +kernel)) rfl ?_
  refine am_pv_cons (v_imul (by decide +kernel)) rfl ?_
  refine am_pv_cons (v_lshr (by decide +kernel)) rfl ?_
  refine am_pv_cons (v_l2i (by decide +kernel)) rfl ?_
  refine am_pv_cons (v_sipush (n := 255) (by decide +kernel) (by decide +kernel)) rfl ?_
  refine am_pv_cons (v_iand (by decide +kernel)) rfl ?_
  refine am_pv_cons (v_virt (idx := 159) yv_Tape_add rfl rfl (tb3 40 (by decide +kernel) rfl) (by decide +kernel)) rfl ?_
  refine am_pv_cons (v_iinc (n := 1) (by decide +kernel) (by decide +kernel)) rfl ?_
  refine am_pv_cons (v_goto (off := -28) (by decide +kernel) rfl) rfl ?_
  refine am_pv_cons (v_aload_n (q := 0) (by decide +kernel) rfl) rfl ?_
  refine am_pv_cons (v_get fl_TC_32 (by decide +kernel)) rfl ?_
  refine am_pv_cons (v_get fl_TC_158 (by decide +kernel)) rfl ?_
  refine am_pv_cons (v_ireturn (by decide +kernel)) trivial ?_
  exact trivial
def P_TC_street (E : am_E) (k : Nat) : am_P := [(0, aLa 0), (1, aGet 0 9), (4, aIv E k 7 0 Y_StreetReader_isStreet), (7, z_eq 20), (10, aLa 0), (11, aGet 0 9), (14, aIv E k 7 0 Y_StreetReader_tellAll), (17, aGo 30), (20, aI (-100)), (22, aLa 0), (23, aGet 0 9), (26, aGet 7 3), (29, a_isub), (30, aSi 1), (31, aLa 0), (32, aGet 0 6), (35, aI 0), (36, aPut 3 0), (39, aLi 1), (40, aRi)]
set_option maxRecDepth 20000 in
theorem pv_TC_street (E : am_E) (k : Nat) : am_pv E k Y_TC_street.2.1 Y_TC_street.2.2.1 Y_TC_street.1.cls (P_TC_street E k) := by
  refine am_pv_cons (v_aload_n (q := 0) (by decide +kernel) rfl) rfl ?_
  refine am_pv_cons (v_get fl_TC_59 (by decide +kernel)) rfl ?_
  refine am_pv_cons (v_virt (idx := 162) yv_StreetReader_isStreet rfl rfl (tb3 48 (by decide +kernel) rfl) (by decide +kernel)) rfl ?_
  refine am_pv_cons (v_if_eq (off := 13) (by decide +kernel) rfl) rfl ?_
  refine am_pv_cons (v_aload_n (q := 0) (by decide +kernel) rfl) rfl ?_
  refine am_pv_cons (v_get fl_TC_59 (by decide +kernel)) rfl ?_
  refine am_pv_cons (v_virt (idx := 166) yv_StreetReader_tellAll rfl rfl (tb3 86 (by decide +kernel) rfl) (by decide +kernel)) rfl ?_
  refine am_pv_cons (v_goto (off := 13) (by decide +kernel) rfl) rfl ?_
  refine am_pv_cons (v_bipush (n := -100) (by decide +kernel) (by decide +kernel)) rfl ?_
  refine am_pv_cons (v_aload_n (q := 0) (by decide +kernel) rfl) rfl ?_
  refine am_pv_cons (v_get fl_TC_59 (by decide +kernel)) rfl ?_
  refine am_pv_cons (v_get fl_TC_170 (by decide +kernel)) rfl ?_
  refine am_pv_cons (v_isub (by decide +kernel)) rfl ?_
  refine am_pv_cons (v_istore_n (q := 1) (by decide +kernel) rfl) rfl ?_
  refine am_pv_cons (v_aload_n (q := 0) (by decide +kernel) rfl) rfl ?_
  refine am_pv_cons (v_get fl_TC_32 (by decide +kernel)) rfl ?_
  refine am_pv_cons (v_iconst (n := 0) (by decide +kernel) rfl) rfl ?_
  refine am_pv_cons (v_put fw_TC_158 (by decide +kernel)) rfl ?_
  refine am_pv_cons (v_iload_n (q := 1) (by decide +kernel) rfl) rfl ?_
  refine am_pv_cons (v_ireturn (by decide +kernel)) trivial ?_
  exact trivial
def P_TC_text (E : am_E) (k : Nat) : am_P := [(0, aLa 0), (1, aGet 0 7), (4, aGet 4 2), (7, aI 6), (9, c_lt 15), (12, aI (-4)), (14, aRi), (15, aLa 0), (16, aGet 0 8), (19, aIv E k 6 0 Y_TextReader_isText), (22, z_eq 42), (25, aLa 0), (26, aGet 0 7), (29, aLa 0), (30, aGet 0 8), (33, aGet 6 5), (36, aIv E k 4 1 Y_Law_add), (39, aGo 52), (42, aI (-100)), (44, aLa 0), (45, aGet 0 8), (48, aIv E k 6 0 Y_TextReader_place), (51, a_isub), (52, aSi 1), (53, aLa 0), (54, aGet 0 6), (57, aI 0), (58, aPut 3 0), (61, aLi 1), (62, aRi)]
set_option maxRecDepth 20000 in
theorem pv_TC_text (E : am_E) (k : Nat) : am_pv E k Y_TC_text.2.1 Y_TC_text.2.2.1 Y_TC_text.1.cls (P_TC_text E k) := by
  refine am_pv_cons (v_aload_n (q := 0) (by decide +kernel) rfl) rfl ?_
  refine am_pv_cons (v_get fl_TC_41 (by decide +kernel)) rfl ?_
  refine am_pv_cons (v_get fl_TC_173 (by decide +kernel)) rfl ?_
  refine am_pv_cons (v_bipush (n := 6) (by decide +kernel) (by decide +kernel)) rfl ?_
  refine am_pv_cons (v_ic_lt (off := 6) (by decide +kernel) rfl) rfl ?_
  refine am_pv_cons (v_bipush (n := -4) (by decide +kernel) (by decide +kernel)) rfl ?_
  refine am_pv_cons (v_ireturn (by decide +kernel)) rfl ?_
  refine am_pv_cons (v_aload_n (q := 0) (by decide +kernel) rfl) rfl ?_
  refine am_pv_cons (v_get fl_TC_50 (by decide +kernel)) rfl ?_
  refine am_pv_cons (v_virt (idx := 176) yv_TextReader_isText rfl rfl (tb3 95 (by decide +kernel) rfl) (by decide +kernel)) rfl ?_
  refine am_pv_cons (v_if_eq (off := 20) (by decide +kernel) rfl) rfl ?_
  refine am_pv_cons (v_aload_n (q := 0) (by decide +kernel) rfl) rfl ?_
  refine am_pv_cons (v_get fl_TC_41 (by decide +kernel)) rfl ?_
  refine am_pv_cons (v_aload_n (q := 0) (by decide +kernel) rfl) rfl ?_
  refine am_pv_cons (v_get fl_TC_50 (by decide +kernel)) rfl ?_
  refine am_pv_cons (v_get fl_TC_179 (by decide +kernel)) rfl ?_
  refine am_pv_cons (v_virt (idx := 183) yv_Law_add rfl rfl (tb3 235 (by decide +kernel) rfl) (by decide +kernel)) rfl ?_
  refine am_pv_cons (v_goto (off := 13) (by decide +kernel) rfl) rfl ?_
  refine am_pv_cons (v_bipush (n := -100) (by decide +kernel) (by decide +kernel)) rfl ?_
  refine am_pv_cons (v_aload_n (q := 0) (by decide +kernel) rfl) rfl ?_
  refine am_pv_cons (v_get fl_TC_50 (by decide +kernel)) rfl ?_
  refine am_pv_cons (v_virt (idx := 186) yv_TextReader_place rfl rfl (tb4 6 (by decide +kernel) rfl) (by decide +kernel)) rfl ?_
  refine am_pv_cons (v_isub (by decide +kernel)) rfl ?_
  refine am_pv_cons (v_istore_n (q := 1) (by decide +kernel) rfl) rfl ?_
  refine am_pv_cons (v_aload_n (q := 0) (by decide +kernel) rfl) rfl ?_
  refine am_pv_cons (v_get fl_TC_32 (by decide +kernel)) rfl ?_
  refine am_pv_cons (v_iconst (n := 0) (by decide +kernel) rfl) rfl ?_
  refine am_pv_cons (v_put fw_TC_158 (by decide +kernel)) rfl ?_
  refine am_pv_cons (v_iload_n (q := 1) (by decide +kernel) rfl) rfl ?_
  refine am_pv_cons (v_ireturn (by decide +kernel)) trivial ?_
  exact trivial
def P_TC_force (E : am_E) (k : Nat) : am_P := [(0, aLi 1), (1, z_lt 15), (4, aLi 1), (5, aLa 0), (6, aGet 0 7), (9, aGet 4 2), (12, c_lt 18), (15, aI (-2)), (17, aRi), (18, aLa 0), (19, aGet 0 7), (22, aGet 4 3), (25, aSi 2), (26, aLa 0), (27, aGet 0 7), (30, aLi 1), (31, aPut 4 3), (34, aLi 2), (35, aRi)]
set_option maxRecDepth 20000 in
theorem pv_TC_force (E : am_E) (k : Nat) : am_pv E k Y_TC_force.2.1 Y_TC_force.2.2.1 Y_TC_force.1.cls (P_TC_force E k) := by
  refine am_pv_cons (v_iload_n (q := 1) (by decide +kernel) rfl) rfl ?_
  refine am_pv_cons (v_if_lt (off := 14) (by decide +kernel) rfl) rfl ?_
  refine am_pv_cons (v_iload_n (q := 1) (by decide +kernel) rfl) rfl ?_
  refine am_pv_cons (v_aload_n (q := 0) (by decide +kernel) rfl) rfl ?_
  refine am_pv_cons (v_get fl_TC_41 (by decide +kernel)) rfl ?_
  refine am_pv_cons (v_get fl_TC_173 (by decide +kernel)) rfl ?_
  refine am_pv_cons (v_ic_lt (off := 6) (by decide +kernel) rfl) rfl ?_
  refine am_pv_cons (v_bipush (n := -2) (by decide +kernel) (by decide +kernel)) rfl ?_
  refine am_pv_cons (v_ireturn (by decide +kernel)) rfl ?_
  refine am_pv_cons (v_aload_n (q := 0) (by decide +kernel) rfl) rfl ?_
  refine am_pv_cons (v_get fl_TC_41 (by decide +kernel)) rfl ?_
  refine am_pv_cons (v_get fl_TC_188 (by decide +kernel)) rfl ?_
  refine am_pv_cons (v_istore_n (q := 2) (by decide +kernel) rfl) rfl ?_
  refine am_pv_cons (v_aload_n (q := 0) (by decide +kernel) rfl) rfl ?_
  refine am_pv_cons (v_get fl_TC_41 (by decide +kernel)) rfl ?_
  refine am_pv_cons (v_iload_n (q := 1) (by decide +kernel) rfl) rfl ?_
  refine am_pv_cons (v_put fw_TC_188 (by decide +kernel)) rfl ?_
  refine am_pv_cons (v_iload_n (q := 2) (by decide +kernel) rfl) rfl ?_
  refine am_pv_cons (v_ireturn (by decide +kernel)) trivial ?_
  exact trivial
def P_TC_camping (E : am_E) (k : Nat) : am_P := [(0, aLi 1), (1, aIs E k 1 Y_TC_isKind), (4, z_eq 14), (7, aLi 2), (8, aIs E k 1 Y_TC_isSheet), (11, z_ne 17), (14, aI (-2)), (16, aRi), (17, aLa 0), (18, aGet 0 15), (21, aLi 2), (22, aAa 4), (23, aSa 3), (24, aLa 3), (25, aIv E k 11 0 Y_Sheet_isThere), (28, z_ne 34), (31, aI (-11)), (33, aRi), (34, aLa 3), (35, aGet 11 1), (38, aLa 0), (39, aGet 0 0), (42, aGet 1 0), (45, c_ne 55), (48, aLa 3), (49, aIs E k 1 Y_TC_tellsCamps), (52, z_ne 58), (55, aI (-2)), (57, aRi), (58, aLa 0), (59, aGet 0 11), (62, aI 10), (64, c_lt 70), (67, aI (-4)), (69, aRi), (70, aLa 0), (71, aGet 0 10), (74, aLa 0), (75, aGet 0 11), (78, aAa 2), (79, aLi 1), (80, aLa 3), (81, aIv E k 8 2 Y_Camping_become), (84, aLa 0), (85, aDup), (86, aGet 0 11), (89, aI 1), (90, a_iadd), (91, aPut 0 11), (94, aLa 0), (95, aGet 0 11), (98, aI 1), (99, a_isub), (100, aRi)]
set_option maxRecDepth 20000 in
theorem pv_TC_camping (E : am_E) (k : Nat) : am_pv E k Y_TC_camping.2.1 Y_TC_camping.2.2.1 Y_TC_camping.1.cls (P_TC_camping E k) := by
  refine am_pv_cons (v_iload_n (q := 1) (by decide +kernel) rfl) rfl ?_
  refine am_pv_cons (v_stat (idx := 191) ys_TC_isKind (tb4 19 (by decide +kernel) rfl) (by decide +kernel)) rfl ?_
  refine am_pv_cons (v_if_eq (off := 10) (by decide +kernel) rfl) rfl ?_
  refine am_pv_cons (v_iload_n (q := 2) (by decide +kernel) rfl) rfl ?_
  refine am_pv_cons (v_stat (idx := 194) ys_TC_isSheet (tb4 22 (by decide +kernel) rfl) (by decide +kernel)) rfl ?_
  refine am_pv_cons (v_if_ne (off := 6) (by decide +kernel) rfl) rfl ?_
  refine am_pv_cons (v_bipush (n := -2) (by decide +kernel) (by decide +kernel)) rfl ?_
  refine am_pv_cons (v_ireturn (by decide +kernel)) rfl ?_
  refine am_pv_cons (v_aload_n (q := 0) (by decide +kernel) rfl) rfl ?_
  refine am_pv_cons (v_get fl_TC_94 (by decide +kernel)) rfl ?_
  refine am_pv_cons (v_iload_n (q := 2) (by decide +kernel) rfl) rfl ?_
  refine am_pv_cons (v_aa (by decide) (by decide) (by decide +kernel)) rfl ?_
  refine am_pv_cons (v_astore_n (q := 3) (by decide +kernel) rfl) rfl ?_
  refine am_pv_cons (v_aload_n (q := 3) (by decide +kernel) rfl) rfl ?_
  refine am_pv_cons (v_virt (idx := 197) yv_Sheet_isThere rfl rfl (tb4 25 (by decide +kernel) rfl) (by decide +kernel)) rfl ?_
  refine am_pv_cons (v_if_ne (off := 6) (by decide +kernel) rfl) rfl ?_
  refine am_pv_cons (v_bipush (n := -11) (by decide +kernel) (by decide +kernel)) rfl ?_
  refine am_pv_cons (v_ireturn (by decide +kernel)) rfl ?_
  refine am_pv_cons (v_aload_n (q := 3) (by decide +kernel) rfl) rfl ?_
  refine am_pv_cons (v_get fl_TC_200 (by decide +kernel)) rfl ?_
  refine am_pv_cons (v_aload_n (q := 0) (by decide +kernel) rfl) rfl ?_
  refine am_pv_cons (v_get fl_TC_10 (by decide +kernel)) rfl ?_
  refine am_pv_cons (v_get fl_TC_103 (by decide +kernel)) rfl ?_
  refine am_pv_cons (v_ic_ne (off := 10) (by decide +kernel) rfl) rfl ?_
  refine am_pv_cons (v_aload_n (q := 3) (by decide +kernel) rfl) rfl ?_
  refine am_pv_cons (v_stat (idx := 201) ys_TC_tellsCamps (tb4 29 (by decide +kernel) rfl) (by decide +kernel)) rfl ?_
  refine am_pv_cons (v_if_ne (off := 6) (by decide +kernel) rfl) rfl ?_
  refine am_pv_cons (v_bipush (n := -2) (by decide +kernel) (by decide +kernel)) rfl ?_
  refine am_pv_cons (v_ireturn (by decide +kernel)) rfl ?_
  refine am_pv_cons (v_aload_n (q := 0) (by decide +kernel) rfl) rfl ?_
  refine am_pv_cons (v_get fl_TC_205 (by decide +kernel)) rfl ?_
  refine am_pv_cons (v_bipush (n := 10) (by decide +kernel) (by decide +kernel)) rfl ?_
  refine am_pv_cons (v_ic_lt (off := 6) (by decide +kernel) rfl) rfl ?_
  refine am_pv_cons (v_bipush (n := -4) (by decide +kernel) (by decide +kernel)) rfl ?_
  refine am_pv_cons (v_ireturn (by decide +kernel)) rfl ?_
  refine am_pv_cons (v_aload_n (q := 0) (by decide +kernel) rfl) rfl ?_
  refine am_pv_cons (v_get fl_TC_65 (by decide +kernel)) rfl ?_
  refine am_pv_cons (v_aload_n (q := 0) (by decide +kernel) rfl) rfl ?_
  refine am_pv_cons (v_get fl_TC_205 (by decide +kernel)) rfl ?_
  refine am_pv_cons (v_aa (by decide) (by decide) (by decide +kernel)) rfl ?_
  refine am_pv_cons (v_iload_n (q := 1) (by decide +kernel) rfl) rfl ?_
  refine am_pv_cons (v_aload_n (q := 3) (by decide +kernel) rfl) rfl ?_
  refine am_pv_cons (v_virt (idx := 208) yv_Camping_become rfl rfl (tb4 35 (by decide +kernel) rfl) (by decide +kernel)) rfl ?_
  refine am_pv_cons (v_aload_n (q := 0) (by decide +kernel) rfl) rfl ?_
  refine am_pv_cons (v_dup (by decide +kernel)) rfl ?_
  refine am_pv_cons (v_get fl_TC_205 (by decide +kernel)) rfl ?_
  refine am_pv_cons (v_iconst (n := 1) (by decide +kernel) rfl) rfl ?_
  refine am_pv_cons (v_iadd (by decide +kernel)) rfl ?_
  refine am_pv_cons (v_put fw_TC_205 (by decide +kernel)) rfl ?_
  refine am_pv_cons (v_aload_n (q := 0) (by decide +kernel) rfl) rfl ?_
  refine am_pv_cons (v_get fl_TC_205 (by decide +kernel)) rfl ?_
  refine am_pv_cons (v_iconst (n := 1) (by decide +kernel) rfl) rfl ?_
  refine am_pv_cons (v_isub (by decide +kernel)) rfl ?_
  refine am_pv_cons (v_ireturn (by decide +kernel)) trivial ?_
  exact trivial
def P_TC_camped (E : am_E) (k : Nat) : am_P := [(0, aLa 0), (1, aLi 1), (2, aIv E k 0 1 Y_TC_isCamping), (5, z_ne 11), (8, aI (-2)), (10, aRi), (11, aLa 0), (12, aGet 0 10), (15, aLi 1), (16, aAa 2), (17, aSa 3), (18, aLi 2), (19, aSw [(0, 52), (1, 57), (2, 66), (3, 71), (4, 76)] 83), (52, aLa 3), (53, aGet 8 3), (56, aRi), (57, aGs 121), (60, aLa 3), (61, aGet 8 3), (64, aTld 121 am_room), (65, aRi), (66, aLa 3), (67, aIv E k 8 0 Y_Camping_usedCamps), (70, aRi), (71, aLa 3), (72, aIv E k 8 0 Y_Camping_wrongCount), (75, aRi), (76, aLa 3), (77, aI 9), (79, aIv E k 8 1 Y_Camping_countIn), (82, aRi), (83, aI (-2)), (85, aRi)]
set_option maxRecDepth 20000 in
theorem pv_TC_camped (E : am_E) (k : Nat) : am_pv E k Y_TC_camped.2.1 Y_TC_camped.2.2.1 Y_TC_camped.1.cls (P_TC_camped E k) := by
  refine am_pv_cons (v_aload_n (q := 0) (by decide +kernel) rfl) rfl ?_
  refine am_pv_cons (v_iload_n (q := 1) (by decide +kernel) rfl) rfl ?_
  refine am_pv_cons (v_virt (idx := 212) yv_TC_isCamping rfl rfl (tb4 44 (by decide +kernel) rfl) (by decide +kernel)) rfl ?_
  refine am_pv_cons (v_if_ne (off := 6) (by decide +kernel) rfl) rfl ?_
  refine am_pv_cons (v_bipush (n := -2) (by decide +kernel) (by decide +kernel)) rfl ?_
  refine am_pv_cons (v_ireturn (by decide +kernel)) rfl ?_
  refine am_pv_cons (v_aload_n (q := 0) (by decide +kernel) rfl) rfl ?_
  refine am_pv_cons (v_get fl_TC_65 (by decide +kernel)) rfl ?_
  refine am_pv_cons (v_iload_n (q := 1) (by decide +kernel) rfl) rfl ?_
  refine am_pv_cons (v_aa (by decide) (by decide) (by decide +kernel)) rfl ?_
  refine am_pv_cons (v_astore_n (q := 3) (by decide +kernel) rfl) rfl ?_
  refine am_pv_cons (v_iload_n (q := 2) (by decide +kernel) rfl) rfl ?_
  refine am_pv_cons (v_tsw (dflt := 64) (lo := 0) (hi := 4) (offs := #[33, 38, 47, 52, 57]) (len := 33) (by decide +kernel) rfl (by decide) (by decide +kernel)) rfl ?_
  refine am_pv_cons (v_aload_n (q := 3) (by decide +kernel) rfl) rfl ?_
  refine am_pv_cons (v_get fl_TC_215 (by decide +kernel)) rfl ?_
  refine am_pv_cons (v_ireturn (by decide +kernel)) rfl ?_
  refine am_pv_cons (v_room (idx := 218) (tb4 48 (by decide +kernel) rfl) (by decide +kernel)) rfl ?_
  refine am_pv_cons (v_aload_n (q := 3) (by decide +kernel) rfl) rfl ?_
  refine am_pv_cons (v_get fl_TC_215 (by decide +kernel)) rfl ?_
  refine am_pv_cons (v_troom (by decide +kernel)) rfl ?_
  refine am_pv_cons (v_ireturn (by decide +kernel)) rfl ?_
  refine am_pv_cons (v_aload_n (q := 3) (by decide +kernel) rfl) rfl ?_
  refine am_pv_cons (v_virt (idx := 221) yv_Camping_usedCamps rfl rfl (tb4 50 (by decide +kernel) rfl) (by decide +kernel)) rfl ?_
  refine am_pv_cons (v_ireturn (by decide +kernel)) rfl ?_
  refine am_pv_cons (v_aload_n (q := 3) (by decide +kernel) rfl) rfl ?_
  refine am_pv_cons (v_virt (idx := 224) yv_Camping_wrongCount rfl rfl (tb4 62 (by decide +kernel) rfl) (by decide +kernel)) rfl ?_
  refine am_pv_cons (v_ireturn (by decide +kernel)) rfl ?_
  refine am_pv_cons (v_aload_n (q := 3) (by decide +kernel) rfl) rfl ?_
  refine am_pv_cons (v_bipush (n := 9) (by decide +kernel) (by decide +kernel)) rfl ?_
  refine am_pv_cons (v_virt (idx := 227) yv_Camping_countIn rfl rfl (tb4 74 (by decide +kernel) rfl) (by decide +kernel)) rfl ?_
  refine am_pv_cons (v_ireturn (by decide +kernel)) rfl ?_
  refine am_pv_cons (v_bipush (n := -2) (by decide +kernel) (by decide +kernel)) rfl ?_
  refine am_pv_cons (v_ireturn (by decide +kernel)) trivial ?_
  exact trivial
def P_TC_cost (E : am_E) (k : Nat) : am_P := [(0, aLa 0), (1, aLi 1), (2, aIv E k 0 1 Y_TC_isCamping), (5, z_eq 20), (8, aLa 0), (9, aGet 0 10), (12, aLi 1), (13, aAa 2), (14, aIv E k 8 0 Y_Camping_judged), (17, aGo 23), (20, aJ (-4611686018427387904)), (23, aRl)]
set_option maxRecDepth 20000 in
theorem pv_TC_cost (E : am_E) (k : Nat) : am_pv E k Y_TC_cost.2.1 Y_TC_cost.2.2.1 Y_TC_cost.1.cls (P_TC_cost E k) := by
  refine am_pv_cons (v_aload_n (q := 0) (by decide +kernel) rfl) rfl ?_
  refine am_pv_cons (v_iload_n (q := 1) (by decide +kernel) rfl) rfl ?_
  refine am_pv_cons (v_virt (idx := 212) yv_TC_isCamping rfl rfl (tb4 44 (by decide +kernel) rfl) (by decide +kernel)) rfl ?_
  refine am_pv_cons (v_if_eq (off := 15) (by decide +kernel) rfl) rfl ?_
  refine am_pv_cons (v_aload_n (q := 0) (by decide +kernel) rfl) rfl ?_
  refine am_pv_cons (v_get fl_TC_65 (by decide +kernel)) rfl ?_
  refine am_pv_cons (v_iload_n (q := 1) (by decide +kernel) rfl) rfl ?_
  refine am_pv_cons (v_aa (by decide) (by decide) (by decide +kernel)) rfl ?_
  refine am_pv_cons (v_virt (idx := 230) yv_Camping_judged rfl rfl (tb4 79 (by decide +kernel) rfl) (by decide +kernel)) rfl ?_
  refine am_pv_cons (v_goto (off := 6) (by decide +kernel) rfl) rfl ?_
  refine am_pv_cons (v_ldc2 (i := 234) (tb4 105 (by decide +kernel) rfl) (by decide +kernel)) rfl ?_
  refine am_pv_cons (v_lreturn (by decide +kernel)) trivial ?_
  exact trivial
def P_TC_move (E : am_E) (k : Nat) : am_P := [(0, aLa 0), (1, aLi 1), (2, aIv E k 0 1 Y_TC_isCamping), (5, z_eq 26), (8, aLa 0), (9, aGet 0 0), (12, aLi 2), (13, aIv E k 1 1 Y_People_has), (16, z_eq 26), (19, aLi 3), (20, aIs E k 1 Y_TC_isCamp), (23, z_ne 30), (26, aJ (-4611686018427387904)), (29, aRl), (30, aLa 0), (31, aGet 0 12), (34, aLa 0), (35, aGet 0 10), (38, aLi 1), (39, aAa 2), (40, aLi 2), (41, aLi 3), (42, aIv E k 8 3 Y_Camping_becomeMoved), (45, aLa 0), (46, aGet 0 12), (49, aIv E k 8 0 Y_Camping_judged), (52, aLa 0), (53, aGet 0 10), (56, aLi 1), (57, aAa 2), (58, aIv E k 8 0 Y_Camping_judged), (61, a_lsub), (62, aRl)]
set_option maxRecDepth 20000 in
theorem pv_TC_move (E : am_E) (k : Nat) : am_pv E k Y_TC_move.2.1 Y_TC_move.2.2.1 Y_TC_move.1.cls (P_TC_move E k) := by
  refine am_pv_cons (v_aload_n (q := 0) (by decide +kernel) rfl) rfl ?_
  refine am_pv_cons (v_iload_n (q := 1) (by decide +kernel) rfl) rfl ?_
  refine am_pv_cons (v_virt (idx := 212) yv_TC_isCamping rfl rfl (tb4 44 (by decide +kernel) rfl) (by decide +kernel)) rfl ?_
  refine am_pv_cons (v_if_eq (off := 21) (by decide +kernel) rfl) rfl ?_
  refine am_pv_cons (v_aload_n (q := 0) (by decide +kernel) rfl) rfl ?_
  refine am_pv_cons (v_get fl_TC_10 (by decide +kernel)) rfl ?_
  refine am_pv_cons (v_iload_n (q := 2) (by decide +kernel) rfl) rfl ?_
  refine am_pv_cons (v_virt (idx := 111) yv_People_has rfl rfl (tb2 196 (by decide +kernel) rfl) (by decide +kernel)) rfl ?_
  refine am_pv_cons (v_if_eq (off := 10) (by decide +kernel) rfl) rfl ?_
  refine am_pv_cons (v_iload_n (q := 3) (by decide +kernel) rfl) rfl ?_
  refine am_pv_cons (v_stat (idx := 236) ys_TC_isCamp (tb4 32 (by decide +kernel) rfl) (by decide +kernel)) rfl ?_
  refine am_pv_cons (v_if_ne (off := 7) (by decide +kernel) rfl) rfl ?_
  refine am_pv_cons (v_ldc2 (i := 234) (tb4 105 (by decide +kernel) rfl) (by decide +kernel)) rfl ?_
  refine am_pv_cons (v_lreturn (by decide +kernel)) rfl ?_
  refine am_pv_cons (v_aload_n (q := 0) (by decide +kernel) rfl) rfl ?_
  refine am_pv_cons (v_get fl_TC_72 (by decide +kernel)) rfl ?_
  refine am_pv_cons (v_aload_n (q := 0) (by decide +kernel) rfl) rfl ?_
  refine am_pv_cons (v_get fl_TC_65 (by decide +kernel)) rfl ?_
  refine am_pv_cons (v_iload_n (q := 1) (by decide +kernel) rfl) rfl ?_
  refine am_pv_cons (v_aa (by decide) (by decide) (by decide +kernel)) rfl ?_
  refine am_pv_cons (v_iload_n (q := 2) (by decide +kernel) rfl) rfl ?_
  refine am_pv_cons (v_iload_n (q := 3) (by decide +kernel) rfl) rfl ?_
  refine am_pv_cons (v_virt (idx := 239) yv_Camping_becomeMoved rfl rfl (tb4 110 (by decide +kernel) rfl) (by decide +kernel)) rfl ?_
  refine am_pv_cons (v_aload_n (q := 0) (by decide +kernel) rfl) rfl ?_
  refine am_pv_cons (v_get fl_TC_72 (by decide +kernel)) rfl ?_
  refine am_pv_cons (v_virt (idx := 230) yv_Camping_judged rfl rfl (tb4 79 (by decide +kernel) rfl) (by decide +kernel)) rfl ?_
  refine am_pv_cons (v_aload_n (q := 0) (by decide +kernel) rfl) rfl ?_
  refine am_pv_cons (v_get fl_TC_65 (by decide +kernel)) rfl ?_
  refine am_pv_cons (v_iload_n (q := 1) (by decide +kernel) rfl) rfl ?_
  refine am_pv_cons (v_aa (by decide) (by decide) (by decide +kernel)) rfl ?_
  refine am_pv_cons (v_virt (idx := 230) yv_Camping_judged rfl rfl (tb4 79 (by decide +kernel) rfl) (by decide +kernel)) rfl ?_
  refine am_pv_cons (v_lsub (by decide +kernel)) rfl ?_
  refine am_pv_cons (v_lreturn (by decide +kernel)) trivial ?_
  exact trivial
def P_TC_same (E : am_E) (k : Nat) : am_P := [(0, aLa 0), (1, aLi 1), (2, aIv E k 0 1 Y_TC_isCamping), (5, z_eq 16), (8, aLa 0), (9, aLi 2), (10, aIv E k 0 1 Y_TC_isCamping), (13, z_ne 19), (16, aI (-2)), (18, aRi), (19, aI 0), (20, aSi 3), (21, aLi 3), (22, aLa 0), (23, aGet 0 0), (26, aGet 1 0), (29, c_ge 60), (32, aLa 0), (33, aLi 3), (34, aLa 0), (35, aGet 0 10), (38, aLi 1), (39, aAa 2), (40, aLa 0), (41, aGet 0 10), (44, aLi 2), (45, aAa 2), (46, aIv E k 0 3 Y_TC_isAlikeFor), (49, z_ne 54), (52, aI 0), (53, aRi), (54, aInc 3 1), (57, aGo 21), (60, aI 1), (61, aRi)]
set_option maxRecDepth 20000 in
theorem pv_TC_same (E : am_E) (k : Nat) : am_pv E k Y_TC_same.2.1 Y_TC_same.2.2.1 Y_TC_same.1.cls (P_TC_same E k) := by
  refine am_pv_cons (v_aload_n (q := 0) (by decide +kernel) rfl) rfl ?_
  refine am_pv_cons (v_iload_n (q := 1) (by decide +kernel) rfl) rfl ?_
  refine am_pv_cons (v_virt (idx := 212) yv_TC_isCamping rfl rfl (tb4 44 (by decide +kernel) rfl) (by decide +kernel)) rfl ?_
  refine am_pv_cons (v_if_eq (off := 11) (by decide +kernel) rfl) rfl ?_
  refine am_pv_cons (v_aload_n (q := 0) (by decide +kernel) rfl) rfl ?_
  refine am_pv_cons (v_iload_n (q := 2) (by decide +kernel) rfl) rfl ?_
  refine am_pv_cons (v_virt (idx := 212) yv_TC_isCamping rfl rfl (tb4 44 (by decide +kernel) rfl) (by decide +kernel)) rfl ?_
  refine am_pv_cons (v_if_ne (off := 6) (by decide +kernel) rfl) rfl ?_
  refine am_pv_cons (v_bipush (n := -2) (by decide +kernel) (by decide +kernel)) rfl ?_
  refine am_pv_cons (v_ireturn (by decide +kernel)) rfl ?_
  refine am_pv_cons (v_iconst (n := 0) (by decide +kernel) rfl) rfl ?_
  refine am_pv_cons (v_istore_n (q := 3) (by decide +kernel) rfl) rfl ?_
  refine am_pv_cons (v_iload_n (q := 3) (by decide +kernel) rfl) rfl ?_
  refine am_pv_cons (v_aload_n (q := 0) (by decide +kernel) rfl) rfl ?_
  refine am_pv_cons (v_get fl_TC_10 (by decide +kernel)) rfl ?_
  refine am_pv_cons (v_get fl_TC_103 (by decide +kernel)) rfl ?_
  refine am_pv_cons (v_ic_ge (off := 31) (by decide +kernel) rfl) rfl ?_
  refine am_pv_cons (v_aload_n (q := 0) (by decide +kernel) rfl) rfl ?_
  refine am_pv_cons (v_iload_n (q := 3) (by decide +kernel) rfl) rfl ?_
  refine am_pv_cons (v_aload_n (q := 0) (by decide +kernel) rfl) rfl ?_
  refine am_pv_cons (v_get fl_TC_65 (by decide +kernel)) rfl ?_
  refine am_pv_cons (v_iload_n (q := 1) (by decide +kernel) rfl) rfl ?_
  refine am_pv_cons (v_aa (by decide) (by decide) (by decide +kernel)) rfl ?_
  refine am_pv_cons (v_aload_n (q := 0) (by decide +kernel) rfl) rfl ?_
  refine am_pv_cons (v_get fl_TC_65 (by decide +kernel)) rfl ?_
  refine am_pv_cons (v_iload_n (q := 2) (by decide +kernel) rfl) rfl ?_
  refine am_pv_cons (v_aa (by decide) (by decide) (by decide +kernel)) rfl ?_
  refine am_pv_cons (v_virt (idx := 243) yv_TC_isAlikeFor rfl rfl (tb4 118 (by decide +kernel) rfl) (by decide +kernel)) rfl ?_
  refine am_pv_cons (v_if_ne (off := 5) (by decide +kernel) rfl) rfl ?_
  refine am_pv_cons (v_iconst (n := 0) (by decide +kernel) rfl) rfl ?_
  refine am_pv_cons (v_ireturn (by decide +kernel)) rfl ?_
  refine am_pv_cons (v_iinc (n := 1) (by decide +kernel) (by decide +kernel)) rfl ?_
  refine am_pv_cons (v_goto (off := -36) (by decide +kernel) rfl) rfl ?_
  refine am_pv_cons (v_iconst (n := 1) (by decide +kernel) rfl) rfl ?_
  refine am_pv_cons (v_ireturn (by decide +kernel)) trivial ?_
  exact trivial
def P_TC_isAlikeFor (E : am_E) (k : Nat) : am_P := [(0, aLa 2), (1, aLi 1), (2, aIv E k 8 1 Y_Camping_campOf), (5, aSi 4), (7, aLa 3), (8, aLi 1), (9, aIv E k 8 1 Y_Camping_campOf), (12, aSi 5), (14, aLi 4), (16, aI 9), (18, c_ne 25), (21, aI 1), (22, aGo 26), (25, aI 0), (26, aLi 5), (28, aI 9), (30, c_ne 37), (33, aI 1), (34, aGo 38), (37, aI 0), (38, c_eq 43), (41, aI 0), (42, aRi), (43, aI 0), (44, aSi 6), (46, aLi 6), (48, aLi 1), (49, c_ge 95), (52, aLa 2), (53, aLi 6), (55, aIv E k 8 1 Y_Camping_campOf), (58, aLi 4), (60, c_ne 67), (63, aI 1), (64, aGo 68), (67, aI 0), (68, aLa 3), (69, aLi 6), (71, aIv E k 8 1 Y_Camping_campOf), (74, aLi 5), (76, c_ne 83), (79, aI 1), (80, aGo 84), (83, aI 0), (84, c_eq 89), (87, aI 0), (88, aRi), (89, aInc 6 1), (92, aGo 46), (95, aI 1), (96, aRi)]
set_option maxRecDepth 20000 in
theorem pv_TC_isAlikeFor (E : am_E) (k : Nat) : am_pv E k Y_TC_isAlikeFor.2.1 Y_TC_isAlikeFor.2.2.1 Y_TC_isAlikeFor.1.cls (P_TC_isAlikeFor E k) := by
  refine am_pv_cons (v_aload_n (q := 2) (by decide +kernel) rfl) rfl ?_
  refine am_pv_cons (v_iload_n (q := 1) (by decide +kernel) rfl) rfl ?_
  refine am_pv_cons (v_virt (idx := 247) yv_Camping_campOf rfl rfl (tb4 122 (by decide +kernel) rfl) (by decide +kernel)) rfl ?_
  refine am_pv_cons (v_istore (by decide +kernel)) rfl ?_
  refine am_pv_cons (v_aload_n (q := 3) (by decide +kernel) rfl) rfl ?_
  refine am_pv_cons (v_iload_n (q := 1) (by decide +kernel) rfl) rfl ?_
  refine am_pv_cons (v_virt (idx := 247) yv_Camping_campOf rfl rfl (tb4 122 (by decide +kernel) rfl) (by decide +kernel)) rfl ?_
  refine am_pv_cons (v_istore (by decide +kernel)) rfl ?_
  refine am_pv_cons (v_iload (by decide +kernel)) rfl ?_
  refine am_pv_cons (v_bipush (n := 9) (by decide +kernel) (by decide +kernel)) rfl ?_
  refine am_pv_cons (v_ic_ne (off := 7) (by decide +kernel) rfl) rfl ?_
  refine am_pv_cons (v_iconst (n := 1) (by decide +kernel) rfl) rfl ?_
  refine am_pv_cons (v_goto (off := 4) (by decide +kernel) rfl) rfl ?_
  refine am_pv_cons (v_iconst (n := 0) (by decide +kernel) rfl) rfl ?_
  refine am_pv_cons (v_iload (by decide +kernel)) rfl ?_
  refine am_pv_cons (v_bipush (n := 9) (by decide +kernel) (by decide +kernel)) rfl ?_
  refine am_pv_cons (v_ic_ne (off := 7) (by decide +kernel) rfl) rfl ?_
  refine am_pv_cons (v_iconst (n := 1) (by decide +kernel) rfl) rfl ?_
  refine am_pv_cons (v_goto (off := 4) (by decide +kernel) rfl) rfl ?_
  refine am_pv_cons (v_iconst (n := 0) (by decide +kernel) rfl) rfl ?_
  refine am_pv_cons (v_ic_eq (off := 5) (by decide +kernel) rfl) rfl ?_
  refine am_pv_cons (v_iconst (n := 0) (by decide +kernel) rfl) rfl ?_
  refine am_pv_cons (v_ireturn (by decide +kernel)) rfl ?_
  refine am_pv_cons (v_iconst (n := 0) (by decide +kernel) rfl) rfl ?_
  refine am_pv_cons (v_istore (by decide +kernel)) rfl ?_
  refine am_pv_cons (v_iload (by decide +kernel)) rfl ?_
  refine am_pv_cons (v_iload_n (q := 1) (by decide +kernel) rfl) rfl ?_
  refine am_pv_cons (v_ic_ge (off := 46) (by decide +kernel) rfl) rfl ?_
  refine am_pv_cons (v_aload_n (q := 2) (by decide +kernel) rfl) rfl ?_
  refine am_pv_cons (v_iload (by decide +kernel)) rfl ?_
  refine am_pv_cons (v_virt (idx := 247) yv_Camping_campOf rfl rfl (tb4 122 (by decide +kernel) rfl) (by decide +kernel)) rfl ?_
  refine am_pv_cons (v_iload (by decide +kernel)) rfl ?_
  refine am_pv_cons (v_ic_ne (off := 7) (by decide +kernel) rfl) rfl ?_
  refine am_pv_cons (v_iconst (n := 1) (by decide +kernel) rfl) rfl ?_
  refine am_pv_cons (v_goto (off := 4) (by decide +kernel) rfl) rfl ?_
  refine am_pv_cons (v_iconst (n := 0) (by decide +kernel) rfl) rfl ?_
  refine am_pv_cons (v_aload_n (q := 3) (by decide +kernel) rfl) rfl ?_
  refine am_pv_cons (v_iload (by decide +kernel)) rfl ?_
  refine am_pv_cons (v_virt (idx := 247) yv_Camping_campOf rfl rfl (tb4 122 (by decide +kernel) rfl) (by decide +kernel)) rfl ?_
  refine am_pv_cons (v_iload (by decide +kernel)) rfl ?_
  refine am_pv_cons (v_ic_ne (off := 7) (by decide +kernel) rfl) rfl ?_
  refine am_pv_cons (v_iconst (n := 1) (by decide +kernel) rfl) rfl ?_
  refine am_pv_cons (v_goto (off := 4) (by decide +kernel) rfl) rfl ?_
  refine am_pv_cons (v_iconst (n := 0) (by decide +kernel) rfl) rfl ?_
  refine am_pv_cons (v_ic_eq (off := 5) (by decide +kernel) rfl) rfl ?_
  refine am_pv_cons (v_iconst (n := 0) (by decide +kernel) rfl) rfl ?_
  refine am_pv_cons (v_ireturn (by decide +kernel)) rfl ?_
  refine am_pv_cons (v_iinc (n := 1) (by decide +kernel) (by decide +kernel)) rfl ?_
  refine am_pv_cons (v_goto (off := -46) (by decide +kernel) rfl) rfl ?_
  refine am_pv_cons (v_iconst (n := 1) (by decide +kernel) rfl) rfl ?_
  refine am_pv_cons (v_ireturn (by decide +kernel)) trivial ?_
  exact trivial
def P_TC_tellsCamps (E : am_E) (k : Nat) : am_P := [(0, aI 0), (1, aSi 1), (2, aLi 1), (3, aLa 0), (4, aGet 11 1), (7, c_ge 30), (10, aLa 0), (11, aGet 11 2), (14, aLi 1), (15, aAld 0), (16, aIs E k 1 Y_TC_isCamp), (19, z_ne 24), (22, aI 0), (23, aRi), (24, aInc 1 1), (27, aGo 2), (30, aI 1), (31, aRi)]
set_option maxRecDepth 20000 in
theorem pv_TC_tellsCamps (E : am_E) (k : Nat) : am_pv E k Y_TC_tellsCamps.2.1 Y_TC_tellsCamps.2.2.1 Y_TC_tellsCamps.1.cls (P_TC_tellsCamps E k) := by
  refine am_pv_cons (v_iconst (n := 0) (by decide +kernel) rfl) rfl ?_
  refine am_pv_cons (v_istore_n (q := 1) (by decide +kernel) rfl) rfl ?_
  refine am_pv_cons (v_iload_n (q := 1) (by decide +kernel) rfl) rfl ?_
  refine am_pv_cons (v_aload_n (q := 0) (by decide +kernel) rfl) rfl ?_
  refine am_pv_cons (v_get fl_TC_200 (by decide +kernel)) rfl ?_
  refine am_pv_cons (v_ic_ge (off := 23) (by decide +kernel) rfl) rfl ?_
  refine am_pv_cons (v_aload_n (q := 0) (by decide +kernel) rfl) rfl ?_
  refine am_pv_cons (v_get fl_TC_250 (by decide +kernel)) rfl ?_
  refine am_pv_cons (v_iload_n (q := 1) (by decide +kernel) rfl) rfl ?_
  refine am_pv_cons (v_iald (by decide +kernel)) rfl ?_
  refine am_pv_cons (v_stat (idx := 236) ys_TC_isCamp (tb4 32 (by decide +kernel) rfl) (by decide +kernel)) rfl ?_
  refine am_pv_cons (v_if_ne (off := 5) (by decide +kernel) rfl) rfl ?_
  refine am_pv_cons (v_iconst (n := 0) (by decide +kernel) rfl) rfl ?_
  refine am_pv_cons (v_ireturn (by decide +kernel)) rfl ?_
  refine am_pv_cons (v_iinc (n := 1) (by decide +kernel) (by decide +kernel)) rfl ?_
  refine am_pv_cons (v_goto (off := -25) (by decide +kernel) rfl) rfl ?_
  refine am_pv_cons (v_iconst (n := 1) (by decide +kernel) rfl) rfl ?_
  refine am_pv_cons (v_ireturn (by decide +kernel)) trivial ?_
  exact trivial
def P_TC_isCamp (E : am_E) (k : Nat) : am_P := [(0, aLi 0), (1, z_lt 9), (4, aLi 0), (5, aI 4), (6, c_lt 15), (9, aLi 0), (10, aI 9), (12, c_ne 19), (15, aI 1), (16, aGo 20), (19, aI 0), (20, aRi)]
set_option maxRecDepth 20000 in
theorem pv_TC_isCamp (E : am_E) (k : Nat) : am_pv E k Y_TC_isCamp.2.1 Y_TC_isCamp.2.2.1 Y_TC_isCamp.1.cls (P_TC_isCamp E k) := by
  refine am_pv_cons (v_iload_n (q := 0) (by decide +kernel) rfl) rfl ?_
  refine am_pv_cons (v_if_lt (off := 8) (by decide +kernel) rfl) rfl ?_
  refine am_pv_cons (v_iload_n (q := 0) (by decide +kernel) rfl) rfl ?_
  refine am_pv_cons (v_iconst (n := 4) (by decide +kernel) rfl) rfl ?_
  refine am_pv_cons (v_ic_lt (off := 9) (by decide +kernel) rfl) rfl ?_
  refine am_pv_cons (v_iload_n (q := 0) (by decide +kernel) rfl) rfl ?_
  refine am_pv_cons (v_bipush (n := 9) (by decide +kernel) (by decide +kernel)) rfl ?_
  refine am_pv_cons (v_ic_ne (off := 7) (by decide +kernel) rfl) rfl ?_
  refine am_pv_cons (v_iconst (n := 1) (by decide +kernel) rfl) rfl ?_
  refine am_pv_cons (v_goto (off := 4) (by decide +kernel) rfl) rfl ?_
  refine am_pv_cons (v_iconst (n := 0) (by decide +kernel) rfl) rfl ?_
  refine am_pv_cons (v_ireturn (by decide +kernel)) trivial ?_
  exact trivial
def P_TC_isKind (E : am_E) (k : Nat) : am_P := [(0, aLi 0), (1, z_lt 14), (4, aLi 0), (5, aI 6), (7, c_ge 14), (10, aI 1), (11, aGo 15), (14, aI 0), (15, aRi)]
set_option maxRecDepth 20000 in
theorem pv_TC_isKind (E : am_E) (k : Nat) : am_pv E k Y_TC_isKind.2.1 Y_TC_isKind.2.2.1 Y_TC_isKind.1.cls (P_TC_isKind E k) := by
  refine am_pv_cons (v_iload_n (q := 0) (by decide +kernel) rfl) rfl ?_
  refine am_pv_cons (v_if_lt (off := 13) (by decide +kernel) rfl) rfl ?_
  refine am_pv_cons (v_iload_n (q := 0) (by decide +kernel) rfl) rfl ?_
  refine am_pv_cons (v_bipush (n := 6) (by decide +kernel) (by decide +kernel)) rfl ?_
  refine am_pv_cons (v_ic_ge (off := 7) (by decide +kernel) rfl) rfl ?_
  refine am_pv_cons (v_iconst (n := 1) (by decide +kernel) rfl) rfl ?_
  refine am_pv_cons (v_goto (off := 4) (by decide +kernel) rfl) rfl ?_
  refine am_pv_cons (v_iconst (n := 0) (by decide +kernel) rfl) rfl ?_
  refine am_pv_cons (v_ireturn (by decide +kernel)) trivial ?_
  exact trivial
def P_TC_isCamping (E : am_E) (k : Nat) : am_P := [(0, aLi 1), (1, z_lt 16), (4, aLi 1), (5, aLa 0), (6, aGet 0 11), (9, c_ge 16), (12, aI 1), (13, aGo 17), (16, aI 0), (17, aRi)]
set_option maxRecDepth 20000 in
theorem pv_TC_isCamping (E : am_E) (k : Nat) : am_pv E k Y_TC_isCamping.2.1 Y_TC_isCamping.2.2.1 Y_TC_isCamping.1.cls (P_TC_isCamping E k) := by
  refine am_pv_cons (v_iload_n (q := 1) (by decide +kernel) rfl) rfl ?_
  refine am_pv_cons (v_if_lt (off := 15) (by decide +kernel) rfl) rfl ?_
  refine am_pv_cons (v_iload_n (q := 1) (by decide +kernel) rfl) rfl ?_
  refine am_pv_cons (v_aload_n (q := 0) (by decide +kernel) rfl) rfl ?_
  refine am_pv_cons (v_get fl_TC_205 (by decide +kernel)) rfl ?_
  refine am_pv_cons (v_ic_ge (off := 7) (by decide +kernel) rfl) rfl ?_
  refine am_pv_cons (v_iconst (n := 1) (by decide +kernel) rfl) rfl ?_
  refine am_pv_cons (v_goto (off := 4) (by decide +kernel) rfl) rfl ?_
  refine am_pv_cons (v_iconst (n := 0) (by decide +kernel) rfl) rfl ?_
  refine am_pv_cons (v_ireturn (by decide +kernel)) trivial ?_
  exact trivial
def P_TC_isUnder (E : am_E) (k : Nat) : am_P := [(0, aLi 0), (1, aSi 2), (2, aI 0), (3, aSi 3), (4, aLi 3), (5, aI 6), (7, c_ge 36), (10, aLi 2), (11, aIs E k 1 Y_TC_isKind), (14, z_eq 36), (17, aLi 2), (18, aLi 1), (19, c_ne 24), (22, aI 1), (23, aRi), (24, aGs 120), (27, aLi 2), (28, aTld 120 am_under), (29, aSi 2), (30, aInc 3 1), (33, aGo 4), (36, aI 0), (37, aRi)]
set_option maxRecDepth 20000 in
theorem pv_TC_isUnder (E : am_E) (k : Nat) : am_pv E k Y_TC_isUnder.2.1 Y_TC_isUnder.2.2.1 Y_TC_isUnder.1.cls (P_TC_isUnder E k) := by
  refine am_pv_cons (v_iload_n (q := 0) (by decide +kernel) rfl) rfl ?_
  refine am_pv_cons (v_istore_n (q := 2) (by decide +kernel) rfl) rfl ?_
  refine am_pv_cons (v_iconst (n := 0) (by decide +kernel) rfl) rfl ?_
  refine am_pv_cons (v_istore_n (q := 3) (by decide +kernel) rfl) rfl ?_
  refine am_pv_cons (v_iload_n (q := 3) (by decide +kernel) rfl) rfl ?_
  refine am_pv_cons (v_bipush (n := 6) (by decide +kernel) (by decide +kernel)) rfl ?_
  refine am_pv_cons (v_ic_ge (off := 29) (by decide +kernel) rfl) rfl ?_
  refine am_pv_cons (v_iload_n (q := 2) (by decide +kernel) rfl) rfl ?_
  refine am_pv_cons (v_stat (idx := 191) ys_TC_isKind (tb4 19 (by decide +kernel) rfl) (by decide +kernel)) rfl ?_
  refine am_pv_cons (v_if_eq (off := 22) (by decide +kernel) rfl) rfl ?_
  refine am_pv_cons (v_iload_n (q := 2) (by decide +kernel) rfl) rfl ?_
  refine am_pv_cons (v_iload_n (q := 1) (by decide +kernel) rfl) rfl ?_
  refine am_pv_cons (v_ic_ne (off := 5) (by decide +kernel) rfl) rfl ?_
  refine am_pv_cons (v_iconst (n := 1) (by decide +kernel) rfl) rfl ?_
  refine am_pv_cons (v_ireturn (by decide +kernel)) rfl ?_
  refine am_pv_cons (v_under (idx := 253) (tb4 92 (by decide +kernel) rfl) (by decide +kernel)) rfl ?_
  refine am_pv_cons (v_iload_n (q := 2) (by decide +kernel) rfl) rfl ?_
  refine am_pv_cons (v_tund (by decide +kernel)) rfl ?_
  refine am_pv_cons (v_istore_n (q := 2) (by decide +kernel) rfl) rfl ?_
  refine am_pv_cons (v_iinc (n := 1) (by decide +kernel) (by decide +kernel)) rfl ?_
  refine am_pv_cons (v_goto (off := -29) (by decide +kernel) rfl) rfl ?_
  refine am_pv_cons (v_iconst (n := 0) (by decide +kernel) rfl) rfl ?_
  refine am_pv_cons (v_ireturn (by decide +kernel)) trivial ?_
  exact trivial
def P_TC_peace (E : am_E) (k : Nat) : am_P := [(0, aLa 0), (1, aGet 0 13), (4, aI 0), (5, aIv E k 9 1 Y_Net_peaceWithout), (8, aRi)]
set_option maxRecDepth 20000 in
theorem pv_TC_peace (E : am_E) (k : Nat) : am_pv E k Y_TC_peace.2.1 Y_TC_peace.2.2.1 Y_TC_peace.1.cls (P_TC_peace E k) := by
  refine am_pv_cons (v_aload_n (q := 0) (by decide +kernel) rfl) rfl ?_
  refine am_pv_cons (v_get fl_TC_81 (by decide +kernel)) rfl ?_
  refine am_pv_cons (v_iconst (n := 0) (by decide +kernel) rfl) rfl ?_
  refine am_pv_cons (v_virt (idx := 256) yv_Net_peaceWithout rfl rfl (tb4 127 (by decide +kernel) rfl) (by decide +kernel)) rfl ?_
  refine am_pv_cons (v_ireturn (by decide +kernel)) trivial ?_
  exact trivial
def P_TC_ring (E : am_E) (k : Nat) : am_P := [(0, aLa 0), (1, aGet 0 13), (4, aIv E k 9 0 Y_Net_searchRing), (7, aLi 1), (8, aI (-1)), (9, c_ne 30), (12, aLa 0), (13, aGet 0 13), (16, aGet 9 2), (19, z_le 30), (22, aLa 0), (23, aGet 0 13), (26, aGet 9 2), (29, aRi), (30, aLi 1), (31, z_lt 57), (34, aLi 1), (35, aLa 0), (36, aGet 0 13), (39, aGet 9 2), (42, c_ge 57), (45, aLa 0), (46, aGet 0 13), (49, aGet 9 3), (52, aLi 1), (53, aAld 0), (54, aGo 58), (57, aI (-1)), (58, aRi)]
set_option maxRecDepth 20000 in
theorem pv_TC_ring (E : am_E) (k : Nat) : am_pv E k Y_TC_ring.2.1 Y_TC_ring.2.2.1 Y_TC_ring.1.cls (P_TC_ring E k) := by
  refine am_pv_cons (v_aload_n (q := 0) (by decide +kernel) rfl) rfl ?_
  refine am_pv_cons (v_get fl_TC_81 (by decide +kernel)) rfl ?_
  refine am_pv_cons (v_virt (idx := 259) yv_Net_searchRing rfl rfl (tb4 161 (by decide +kernel) rfl) (by decide +kernel)) rfl ?_
  refine am_pv_cons (v_iload_n (q := 1) (by decide +kernel) rfl) rfl ?_
  refine am_pv_cons (v_iconst (n := -1) (by decide +kernel) rfl) rfl ?_
  refine am_pv_cons (v_ic_ne (off := 21) (by decide +kernel) rfl) rfl ?_
  refine am_pv_cons (v_aload_n (q := 0) (by decide +kernel) rfl) rfl ?_
  refine am_pv_cons (v_get fl_TC_81 (by decide +kernel)) rfl ?_
  refine am_pv_cons (v_get fl_TC_262 (by decide +kernel)) rfl ?_
  refine am_pv_cons (v_if_le (off := 11) (by decide +kernel) rfl) rfl ?_
  refine am_pv_cons (v_aload_n (q := 0) (by decide +kernel) rfl) rfl ?_
  refine am_pv_cons (v_get fl_TC_81 (by decide +kernel)) rfl ?_
  refine am_pv_cons (v_get fl_TC_262 (by decide +kernel)) rfl ?_
  refine am_pv_cons (v_ireturn (by decide +kernel)) rfl ?_
  refine am_pv_cons (v_iload_n (q := 1) (by decide +kernel) rfl) rfl ?_
  refine am_pv_cons (v_if_lt (off := 26) (by decide +kernel) rfl) rfl ?_
  refine am_pv_cons (v_iload_n (q := 1) (by decide +kernel) rfl) rfl ?_
  refine am_pv_cons (v_aload_n (q := 0) (by decide +kernel) rfl) rfl ?_
  refine am_pv_cons (v_get fl_TC_81 (by decide +kernel)) rfl ?_
  refine am_pv_cons (v_get fl_TC_262 (by decide +kernel)) rfl ?_
  refine am_pv_cons (v_ic_ge (off := 15) (by decide +kernel) rfl) rfl ?_
  refine am_pv_cons (v_aload_n (q := 0) (by decide +kernel) rfl) rfl ?_
  refine am_pv_cons (v_get fl_TC_81 (by decide +kernel)) rfl ?_
  refine am_pv_cons (v_get fl_TC_265 (by decide +kernel)) rfl ?_
  refine am_pv_cons (v_iload_n (q := 1) (by decide +kernel) rfl) rfl ?_
  refine am_pv_cons (v_iald (by decide +kernel)) rfl ?_
  refine am_pv_cons (v_goto (off := 4) (by decide +kernel) rfl) rfl ?_
  refine am_pv_cons (v_iconst (n := -1) (by decide +kernel) rfl) rfl ?_
  refine am_pv_cons (v_ireturn (by decide +kernel)) trivial ?_
  exact trivial
def P_TC_least (E : am_E) (k : Nat) : am_P := [(0, aLa 0), (1, aGet 0 0), (4, aGet 1 0), (7, z_ne 13), (10, aI (-5)), (12, aRi), (13, aLa 0), (14, aGet 0 14), (17, aIv E k 10 0 Y_Best_search), (20, aLa 0), (21, aGet 0 14), (24, aGet 10 3), (27, aRi)]
set_option maxRecDepth 20000 in
theorem pv_TC_least (E : am_E) (k : Nat) : am_pv E k Y_TC_least.2.1 Y_TC_least.2.2.1 Y_TC_least.1.cls (P_TC_least E k) := by
  refine am_pv_cons (v_aload_n (q := 0) (by decide +kernel) rfl) rfl ?_
  refine am_pv_cons (v_get fl_TC_10 (by decide +kernel)) rfl ?_
  refine am_pv_cons (v_get fl_TC_103 (by decide +kernel)) rfl ?_
  refine am_pv_cons (v_if_ne (off := 6) (by decide +kernel) rfl) rfl ?_
  refine am_pv_cons (v_bipush (n := -5) (by decide +kernel) (by decide +kernel)) rfl ?_
  refine am_pv_cons (v_ireturn (by decide +kernel)) rfl ?_
  refine am_pv_cons (v_aload_n (q := 0) (by decide +kernel) rfl) rfl ?_
  refine am_pv_cons (v_get fl_TC_88 (by decide +kernel)) rfl ?_
  refine am_pv_cons (v_virt (idx := 268) yv_Best_search rfl rfl (tb4 187 (by decide +kernel) rfl) (by decide +kernel)) rfl ?_
  refine am_pv_cons (v_aload_n (q := 0) (by decide +kernel) rfl) rfl ?_
  refine am_pv_cons (v_get fl_TC_88 (by decide +kernel)) rfl ?_
  refine am_pv_cons (v_get fl_TC_271 (by decide +kernel)) rfl ?_
  refine am_pv_cons (v_ireturn (by decide +kernel)) trivial ?_
  exact trivial
def P_TC_all (E : am_E) (k : Nat) : am_P := [(0, aLa 0), (1, aGet 0 14), (4, aIv E k 10 0 Y_Best_search), (7, aLi 1), (8, aI (-1)), (9, c_ne 20), (12, aLa 0), (13, aGet 0 14), (16, aGet 10 4), (19, aRi), (20, aLi 1), (21, z_lt 47), (24, aLi 1), (25, aLa 0), (26, aGet 0 14), (29, aGet 10 4), (32, c_ge 47), (35, aLa 0), (36, aGet 0 14), (39, aGet 10 5), (42, aLi 1), (43, aAld 0), (44, aGo 48), (47, aI (-1)), (48, aRi)]
set_option maxRecDepth 20000 in
theorem pv_TC_all (E : am_E) (k : Nat) : am_pv E k Y_TC_all.2.1 Y_TC_all.2.2.1 Y_TC_all.1.cls (P_TC_all E k) := by
  refine am_pv_cons (v_aload_n (q := 0) (by decide +kernel) rfl) rfl ?_
  refine am_pv_cons (v_get fl_TC_88 (by decide +kernel)) rfl ?_
  refine am_pv_cons (v_virt (idx := 268) yv_Best_search rfl rfl (tb4 187 (by decide +kernel) rfl) (by decide +kernel)) rfl ?_
  refine am_pv_cons (v_iload_n (q := 1) (by decide +kernel) rfl) rfl ?_
  refine am_pv_cons (v_iconst (n := -1) (by decide +kernel) rfl) rfl ?_
  refine am_pv_cons (v_ic_ne (off := 11) (by decide +kernel) rfl) rfl ?_
  refine am_pv_cons (v_aload_n (q := 0) (by decide +kernel) rfl) rfl ?_
  refine am_pv_cons (v_get fl_TC_88 (by decide +kernel)) rfl ?_
  refine am_pv_cons (v_get fl_TC_274 (by decide +kernel)) rfl ?_
  refine am_pv_cons (v_ireturn (by decide +kernel)) rfl ?_
  refine am_pv_cons (v_iload_n (q := 1) (by decide +kernel) rfl) rfl ?_
  refine am_pv_cons (v_if_lt (off := 26) (by decide +kernel) rfl) rfl ?_
  refine am_pv_cons (v_iload_n (q := 1) (by decide +kernel) rfl) rfl ?_
  refine am_pv_cons (v_aload_n (q := 0) (by decide +kernel) rfl) rfl ?_
  refine am_pv_cons (v_get fl_TC_88 (by decide +kernel)) rfl ?_
  refine am_pv_cons (v_get fl_TC_274 (by decide +kernel)) rfl ?_
  refine am_pv_cons (v_ic_ge (off := 15) (by decide +kernel) rfl) rfl ?_
  refine am_pv_cons (v_aload_n (q := 0) (by decide +kernel) rfl) rfl ?_
  refine am_pv_cons (v_get fl_TC_88 (by decide +kernel)) rfl ?_
  refine am_pv_cons (v_get fl_TC_275 (by decide +kernel)) rfl ?_
  refine am_pv_cons (v_iload_n (q := 1) (by decide +kernel) rfl) rfl ?_
  refine am_pv_cons (v_iald (by decide +kernel)) rfl ?_
  refine am_pv_cons (v_goto (off := 4) (by decide +kernel) rfl) rfl ?_
  refine am_pv_cons (v_iconst (n := -1) (by decide +kernel) rfl) rfl ?_
  refine am_pv_cons (v_ireturn (by decide +kernel)) trivial ?_
  exact trivial
def P_TC_together (E : am_E) (k : Nat) : am_P := [(0, aLa 0), (1, aGet 0 0), (4, aLi 1), (5, aLi 2), (6, aIv E k 1 2 Y_People_hasTwo), (9, z_ne 15), (12, aI (-2)), (14, aRi), (15, aLa 0), (16, aGet 0 14), (19, aIv E k 10 0 Y_Best_search), (22, aLa 0), (23, aGet 0 14), (26, aGet 10 4), (29, z_ne 35), (32, aI (-3)), (34, aRi), (35, aLa 0), (36, aGet 0 14), (39, aLi 1), (40, aLi 2), (41, aIv E k 10 2 Y_Best_timesTogether), (44, aSi 3), (45, aLi 3), (46, aLa 0), (47, aGet 0 14), (50, aGet 10 4), (53, c_ne 60), (56, aI 2), (57, aGo 69), (60, aLi 3), (61, z_le 68), (64, aI 1), (65, aGo 69), (68, aI 0), (69, aRi)]
set_option maxRecDepth 20000 in
theorem pv_TC_together (E : am_E) (k : Nat) : am_pv E k Y_TC_together.2.1 Y_TC_together.2.2.1 Y_TC_together.1.cls (P_TC_together E k) := by
  refine am_pv_cons (v_aload_n (q := 0) (by decide +kernel) rfl) rfl ?_
  refine am_pv_cons (v_get fl_TC_10 (by decide +kernel)) rfl ?_
  refine am_pv_cons (v_iload_n (q := 1) (by decide +kernel) rfl) rfl ?_
  refine am_pv_cons (v_iload_n (q := 2) (by decide +kernel) rfl) rfl ?_
  refine am_pv_cons (v_virt (idx := 121) yv_People_hasTwo rfl rfl (tb2 204 (by decide +kernel) rfl) (by decide +kernel)) rfl ?_
  refine am_pv_cons (v_if_ne (off := 6) (by decide +kernel) rfl) rfl ?_
  refine am_pv_cons (v_bipush (n := -2) (by decide +kernel) (by decide +kernel)) rfl ?_
  refine am_pv_cons (v_ireturn (by decide +kernel)) rfl ?_
  refine am_pv_cons (v_aload_n (q := 0) (by decide +kernel) rfl) rfl ?_
  refine am_pv_cons (v_get fl_TC_88 (by decide +kernel)) rfl ?_
  refine am_pv_cons (v_virt (idx := 268) yv_Best_search rfl rfl (tb4 187 (by decide +kernel) rfl) (by decide +kernel)) rfl ?_
  refine am_pv_cons (v_aload_n (q := 0) (by decide +kernel) rfl) rfl ?_
  refine am_pv_cons (v_get fl_TC_88 (by decide +kernel)) rfl ?_
  refine am_pv_cons (v_get fl_TC_274 (by decide +kernel)) rfl ?_
  refine am_pv_cons (v_if_ne (off := 6) (by decide +kernel) rfl) rfl ?_
  refine am_pv_cons (v_bipush (n := -3) (by decide +kernel) (by decide +kernel)) rfl ?_
  refine am_pv_cons (v_ireturn (by decide +kernel)) rfl ?_
  refine am_pv_cons (v_aload_n (q := 0) (by decide +kernel) rfl) rfl ?_
  refine am_pv_cons (v_get fl_TC_88 (by decide +kernel)) rfl ?_
  refine am_pv_cons (v_iload_n (q := 1) (by decide +kernel) rfl) rfl ?_
  refine am_pv_cons (v_iload_n (q := 2) (by decide +kernel) rfl) rfl ?_
  refine am_pv_cons (v_virt (idx := 278) yv_Best_timesTogether rfl rfl (tb4 209 (by decide +kernel) rfl) (by decide +kernel)) rfl ?_
  refine am_pv_cons (v_istore_n (q := 3) (by decide +kernel) rfl) rfl ?_
  refine am_pv_cons (v_iload_n (q := 3) (by decide +kernel) rfl) rfl ?_
  refine am_pv_cons (v_aload_n (q := 0) (by decide +kernel) rfl) rfl ?_
  refine am_pv_cons (v_get fl_TC_88 (by decide +kernel)) rfl ?_
  refine am_pv_cons (v_get fl_TC_274 (by decide +kernel)) rfl ?_
  refine am_pv_cons (v_ic_ne (off := 7) (by decide +kernel) rfl) rfl ?_
  refine am_pv_cons (v_iconst (n := 2) (by decide +kernel) rfl) rfl ?_
  refine am_pv_cons (v_goto (off := 12) (by decide +kernel) rfl) rfl ?_
  refine am_pv_cons (v_iload_n (q := 3) (by decide +kernel) rfl) rfl ?_
  refine am_pv_cons (v_if_le (off := 7) (by decide +kernel) rfl) rfl ?_
  refine am_pv_cons (v_iconst (n := 1) (by decide +kernel) rfl) rfl ?_
  refine am_pv_cons (v_goto (off := 4) (by decide +kernel) rfl) rfl ?_
  refine am_pv_cons (v_iconst (n := 0) (by decide +kernel) rfl) rfl ?_
  refine am_pv_cons (v_ireturn (by decide +kernel)) trivial ?_
  exact trivial
def P_TC_aside (E : am_E) (k : Nat) : am_P := [(0, aI 1), (1, aLa 0), (2, aGet 0 0), (5, aGet 1 0), (8, a_ishl), (9, aI 1), (10, a_isub), (11, aSi 1), (12, aLi 1), (13, aSi 2), (14, aI 0), (15, aSi 3), (16, aLi 3), (17, aLi 1), (18, c_ge 53), (21, aLa 0), (22, aGet 0 0), (25, aLi 3), (26, aLi 2), (27, aIv E k 1 2 Y_People_isCheaper), (30, z_eq 47), (33, aLa 0), (34, aGet 0 13), (37, aLi 3), (38, aIv E k 9 1 Y_Net_peaceWithout), (41, aI (-1)), (42, c_eq 47), (45, aLi 3), (46, aSi 2), (47, aInc 3 1), (50, aGo 16), (53, aLi 2), (54, aRi)]
set_option maxRecDepth 20000 in
theorem pv_TC_aside (E : am_E) (k : Nat) : am_pv E k Y_TC_aside.2.1 Y_TC_aside.2.2.1 Y_TC_aside.1.cls (P_TC_aside E k) := by
  refine am_pv_cons (v_iconst (n := 1) (by decide +kernel) rfl) rfl ?_
  refine am_pv_cons (v_aload_n (q := 0) (by decide +kernel) rfl) rfl ?_
  refine am_pv_cons (v_get fl_TC_10 (by decide +kernel)) rfl ?_
  refine am_pv_cons (v_get fl_TC_103 (by decide +kernel)) rfl ?_
  refine am_pv_cons (v_ishl (by decide +kernel)) rfl ?_
  refine am_pv_cons (v_iconst (n := 1) (by decide +kernel) rfl) rfl ?_
  refine am_pv_cons (v_isub (by decide +kernel)) rfl ?_
  refine am_pv_cons (v_istore_n (q := 1) (by decide +kernel) rfl) rfl ?_
  refine am_pv_cons (v_iload_n (q := 1) (by decide +kernel) rfl) rfl ?_
  refine am_pv_cons (v_istore_n (q := 2) (by decide +kernel) rfl) rfl ?_
  refine am_pv_cons (v_iconst (n := 0) (by decide +kernel) rfl) rfl ?_
  refine am_pv_cons (v_istore_n (q := 3) (by decide +kernel) rfl) rfl ?_
  refine am_pv_cons (v_iload_n (q := 3) (by decide +kernel) rfl) rfl ?_
  refine am_pv_cons (v_iload_n (q := 1) (by decide +kernel) rfl) rfl ?_
  refine am_pv_cons (v_ic_ge (off := 35) (by decide +kernel) rfl) rfl ?_
  refine am_pv_cons (v_aload_n (q := 0) (by decide +kernel) rfl) rfl ?_
  refine am_pv_cons (v_get fl_TC_10 (by decide +kernel)) rfl ?_
  refine am_pv_cons (v_iload_n (q := 3) (by decide +kernel) rfl) rfl ?_
  refine am_pv_cons (v_iload_n (q := 2) (by decide +kernel) rfl) rfl ?_
  refine am_pv_cons (v_virt (idx := 281) yv_People_isCheaper rfl rfl (tb4 218 (by decide +kernel) rfl) (by decide +kernel)) rfl ?_
  refine am_pv_cons (v_if_eq (off := 17) (by decide +kernel) rfl) rfl ?_
  refine am_pv_cons (v_aload_n (q := 0) (by decide +kernel) rfl) rfl ?_
  refine am_pv_cons (v_get fl_TC_81 (by decide +kernel)) rfl ?_
  refine am_pv_cons (v_iload_n (q := 3) (by decide +kernel) rfl) rfl ?_
  refine am_pv_cons (v_virt (idx := 256) yv_Net_peaceWithout rfl rfl (tb4 127 (by decide +kernel) rfl) (by decide +kernel)) rfl ?_
  refine am_pv_cons (v_iconst (n := -1) (by decide +kernel) rfl) rfl ?_
  refine am_pv_cons (v_ic_eq (off := 5) (by decide +kernel) rfl) rfl ?_
  refine am_pv_cons (v_iload_n (q := 3) (by decide +kernel) rfl) rfl ?_
  refine am_pv_cons (v_istore_n (q := 2) (by decide +kernel) rfl) rfl ?_
  refine am_pv_cons (v_iinc (n := 1) (by decide +kernel) (by decide +kernel)) rfl ?_
  refine am_pv_cons (v_goto (off := -34) (by decide +kernel) rfl) rfl ?_
  refine am_pv_cons (v_iload_n (q := 2) (by decide +kernel) rfl) rfl ?_
  refine am_pv_cons (v_ireturn (by decide +kernel)) trivial ?_
  exact trivial
def P_TC_many (E : am_E) (k : Nat) : am_P := [(0, aLi 1), (1, aI 1), (2, c_lt 10), (5, aLi 1), (6, aI 4), (7, c_le 15), (10, aI (-2)), (12, aGo 23), (15, aLa 0), (16, aGet 0 14), (19, aLi 1), (20, aIv E k 10 1 Y_Best_leastSumIn), (23, aRi)]
set_option maxRecDepth 20000 in
theorem pv_TC_many (E : am_E) (k : Nat) : am_pv E k Y_TC_many.2.1 Y_TC_many.2.2.1 Y_TC_many.1.cls (P_TC_many E k) := by
  refine am_pv_cons (v_iload_n (q := 1) (by decide +kernel) rfl) rfl ?_
  refine am_pv_cons (v_iconst (n := 1) (by decide +kernel) rfl) rfl ?_
  refine am_pv_cons (v_ic_lt (off := 8) (by decide +kernel) rfl) rfl ?_
  refine am_pv_cons (v_iload_n (q := 1) (by decide +kernel) rfl) rfl ?_
  refine am_pv_cons (v_iconst (n := 4) (by decide +kernel) rfl) rfl ?_
  refine am_pv_cons (v_ic_le (off := 8) (by decide +kernel) rfl) rfl ?_
  refine am_pv_cons (v_bipush (n := -2) (by decide +kernel) (by decide +kernel)) rfl ?_
  refine am_pv_cons (v_goto (off := 11) (by decide +kernel) rfl) rfl ?_
  refine am_pv_cons (v_aload_n (q := 0) (by decide +kernel) rfl) rfl ?_
  refine am_pv_cons (v_get fl_TC_88 (by decide +kernel)) rfl ?_
  refine am_pv_cons (v_iload_n (q := 1) (by decide +kernel) rfl) rfl ?_
  refine am_pv_cons (v_virt (idx := 284) yv_Best_leastSumIn rfl rfl (tb4 231 (by decide +kernel) rfl) (by decide +kernel)) rfl ?_
  refine am_pv_cons (v_ireturn (by decide +kernel)) trivial ?_
  exact trivial
def P_TC_part (E : am_E) (k : Nat) : am_P := [(0, aLa 0), (1, aGet 0 0), (4, aLi 1), (5, aIv E k 1 1 Y_People_has), (8, z_eq 22), (11, aLa 0), (12, aGet 0 13), (15, aLi 1), (16, aIv E k 9 1 Y_Net_leastOf), (19, aGo 24), (22, aI (-2)), (24, aRi)]
set_option maxRecDepth 20000 in
theorem pv_TC_part (E : am_E) (k : Nat) : am_pv E k Y_TC_part.2.1 Y_TC_part.2.2.1 Y_TC_part.1.cls (P_TC_part E k) := by
  refine am_pv_cons (v_aload_n (q := 0) (by decide +kernel) rfl) rfl ?_
  refine am_pv_cons (v_get fl_TC_10 (by decide +kernel)) rfl ?_
  refine am_pv_cons (v_iload_n (q := 1) (by decide +kernel) rfl) rfl ?_
  refine am_pv_cons (v_virt (idx := 111) yv_People_has rfl rfl (tb2 196 (by decide +kernel) rfl) (by decide +kernel)) rfl ?_
  refine am_pv_cons (v_if_eq (off := 14) (by decide +kernel) rfl) rfl ?_
  refine am_pv_cons (v_aload_n (q := 0) (by decide +kernel) rfl) rfl ?_
  refine am_pv_cons (v_get fl_TC_81 (by decide +kernel)) rfl ?_
  refine am_pv_cons (v_iload_n (q := 1) (by decide +kernel) rfl) rfl ?_
  refine am_pv_cons (v_virt (idx := 287) yv_Net_leastOf rfl rfl (tb5 14 (by decide +kernel) rfl) (by decide +kernel)) rfl ?_
  refine am_pv_cons (v_goto (off := 5) (by decide +kernel) rfl) rfl ?_
  refine am_pv_cons (v_bipush (n := -2) (by decide +kernel) (by decide +kernel)) rfl ?_
  refine am_pv_cons (v_ireturn (by decide +kernel)) trivial ?_
  exact trivial
def P_TC_doors (E : am_E) (k : Nat) : am_P := [(0, aI 0), (1, aSi 1), (2, aLa 0), (3, aGet 0 13), (6, aI 0), (7, aIv E k 9 1 Y_Net_countWithout), (10, aSi 2), (11, aI 0), (12, aSi 3), (13, aLi 3), (14, aLa 0), (15, aGet 0 0), (18, aGet 1 0), (21, c_ge 50), (24, aLa 0), (25, aGet 0 13), (28, aI 1), (29, aLi 3), (30, a_ishl), (31, aIv E k 9 1 Y_Net_countWithout), (34, aLi 2), (35, c_le 44), (38, aLi 1), (39, aI 1), (40, aLi 3), (41, a_ishl), (42, a_ior), (43, aSi 1), (44, aInc 3 1), (47, aGo 13), (50, aLi 1), (51, aRi)]
set_option maxRecDepth 20000 in
theorem pv_TC_doors (E : am_E) (k : Nat) : am_pv E k Y_TC_doors.2.1 Y_TC_doors.2.2.1 Y_TC_doors.1.cls (P_TC_doors E k) := by
  refine am_pv_cons (v_iconst (n := 0) (by decide +kernel) rfl) rfl ?_
  refine am_pv_cons (v_istore_n (q := 1) (by decide +kernel) rfl) rfl ?_
  refine am_pv_cons (v_aload_n (q := 0) (by decide +kernel) rfl) rfl ?_
  refine am_pv_cons (v_get fl_TC_81 (by decide +kernel)) rfl ?_
  refine am_pv_cons (v_iconst (n := 0) (by decide +kernel) rfl) rfl ?_
  refine am_pv_cons (v_virt (idx := 290) yv_Net_countWithout rfl rfl (tb5 22 (by decide +kernel) rfl) (by decide +kernel)) rfl ?_
  refine am_pv_cons (v_istore_n (q := 2) (by decide +kernel) rfl) rfl ?_
  refine am_pv_cons (v_iconst (n := 0) (by decide +kernel) rfl) rfl ?_
  refine am_pv_cons (v_istore_n (q := 3) (by decide +kernel) rfl) rfl ?_
  refine am_pv_cons (v_iload_n (q := 3) (by decide +kernel) rfl) rfl ?_
  refine am_pv_cons (v_aload_n (q := 0) (by decide +kernel) rfl) rfl ?_
  refine am_pv_cons (v_get fl_TC_10 (by decide +kernel)) rfl ?_
  refine am_pv_cons (v_get fl_TC_103 (by decide +kernel)) rfl ?_
  refine am_pv_cons (v_ic_ge (off := 29) (by decide +kernel) rfl) rfl ?_
  refine am_pv_cons (v_aload_n (q := 0) (by decide +kernel) rfl) rfl ?_
  refine am_pv_cons (v_get fl_TC_81 (by decide +kernel)) rfl ?_
  refine am_pv_cons (v_iconst (n := 1) (by decide +kernel) rfl) rfl ?_
  refine am_pv_cons (v_iload_n (q := 3) (by decide +kernel) rfl) rfl ?_
  refine am_pv_cons (v_ishl (by decide +kernel)) rfl ?_
  refine am_pv_cons (v_virt (idx := 290) yv_Net_countWithout rfl rfl (tb5 22 (by decide +kernel) rfl) (by decide +kernel)) rfl ?_
  refine am_pv_cons (v_iload_n (q := 2) (by decide +kernel) rfl) rfl ?_
  refine am_pv_cons (v_ic_le (off := 9) (by decide +kernel) rfl) rfl ?_
  refine am_pv_cons (v_iload_n (q := 1) (by decide +kernel) rfl) rfl ?_
  refine am_pv_cons (v_iconst (n := 1) (by decide +kernel) rfl) rfl ?_
  refine am_pv_cons (v_iload_n (q := 3) (by decide +kernel) rfl) rfl ?_
  refine am_pv_cons (v_ishl (by decide +kernel)) rfl ?_
  refine am_pv_cons (v_ior (by decide +kernel)) rfl ?_
  refine am_pv_cons (v_istore_n (q := 1) (by decide +kernel) rfl) rfl ?_
  refine am_pv_cons (v_iinc (n := 1) (by decide +kernel) (by decide +kernel)) rfl ?_
  refine am_pv_cons (v_goto (off := -34) (by decide +kernel) rfl) rfl ?_
  refine am_pv_cons (v_iload_n (q := 1) (by decide +kernel) rfl) rfl ?_
  refine am_pv_cons (v_ireturn (by decide +kernel)) trivial ?_
  exact trivial
def P_TC_threes (E : am_E) (k : Nat) : am_P := [(0, aI 0), (1, aSi 1), (2, aI 0), (3, aSi 2), (4, aLi 2), (5, aLa 0), (6, aGet 0 2), (9, aGet 2 0), (12, c_ge 32), (15, aLi 1), (16, aLa 0), (17, aGet 0 2), (20, aLi 2), (21, aIv E k 2 1 Y_Feelings_badThreesWith), (24, a_iadd), (25, aSi 1), (26, aInc 2 1), (29, aGo 4), (32, aLi 1), (33, aI 3), (34, a_idiv), (35, aRi)]
set_option maxRecDepth 20000 in
theorem pv_TC_threes (E : am_E) (k : Nat) : am_pv E k Y_TC_threes.2.1 Y_TC_threes.2.2.1 Y_TC_threes.1.cls (P_TC_threes E k) := by
  refine am_pv_cons (v_iconst (n := 0) (by decide +kernel) rfl) rfl ?_
  refine am_pv_cons (v_istore_n (q := 1) (by decide +kernel) rfl) rfl ?_
  refine am_pv_cons (v_iconst (n := 0) (by decide +kernel) rfl) rfl ?_
  refine am_pv_cons (v_istore_n (q := 2) (by decide +kernel) rfl) rfl ?_
  refine am_pv_cons (v_iload_n (q := 2) (by decide +kernel) rfl) rfl ?_
  refine am_pv_cons (v_aload_n (q := 0) (by decide +kernel) rfl) rfl ?_
  refine am_pv_cons (v_get fl_TC_22 (by decide +kernel)) rfl ?_
  refine am_pv_cons (v_get fl_TC_293 (by decide +kernel)) rfl ?_
  refine am_pv_cons (v_ic_ge (off := 20) (by decide +kernel) rfl) rfl ?_
  refine am_pv_cons (v_iload_n (q := 1) (by decide +kernel) rfl) rfl ?_
  refine am_pv_cons (v_aload_n (q := 0) (by decide +kernel) rfl) rfl ?_
  refine am_pv_cons (v_get fl_TC_22 (by decide +kernel)) rfl ?_
  refine am_pv_cons (v_iload_n (q := 2) (by decide +kernel) rfl) rfl ?_
  refine am_pv_cons (v_virt (idx := 151) yv_Feelings_badThreesWith rfl rfl (tb3 27 (by decide +kernel) rfl) (by decide +kernel)) rfl ?_
  refine am_pv_cons (v_iadd (by decide +kernel)) rfl ?_
  refine am_pv_cons (v_istore_n (q := 1) (by decide +kernel) rfl) rfl ?_
  refine am_pv_cons (v_iinc (n := 1) (by decide +kernel) (by decide +kernel)) rfl ?_
  refine am_pv_cons (v_goto (off := -25) (by decide +kernel) rfl) rfl ?_
  refine am_pv_cons (v_iload_n (q := 1) (by decide +kernel) rfl) rfl ?_
  refine am_pv_cons (v_iconst (n := 3) (by decide +kernel) rfl) rfl ?_
  refine am_pv_cons (v_idiv (by decide +kernel)) rfl ?_
  refine am_pv_cons (v_ireturn (by decide +kernel)) trivial ?_
  exact trivial
def P_TC_step (E : am_E) (k : Nat) : am_P := [(0, aLa 0), (1, aGet 0 0), (4, aLi 1), (5, aIv E k 1 1 Y_People_has), (8, z_eq 19), (11, aLa 0), (12, aLi 1), (13, aIv E k 0 1 Y_TC_turnWorst), (16, aGo 21), (19, aI (-2)), (21, aRi)]
set_option maxRecDepth 20000 in
theorem pv_TC_step (E : am_E) (k : Nat) : am_pv E k Y_TC_step.2.1 Y_TC_step.2.2.1 Y_TC_step.1.cls (P_TC_step E k) := by
  refine am_pv_cons (v_aload_n (q := 0) (by decide +kernel) rfl) rfl ?_
  refine am_pv_cons (v_get fl_TC_10 (by decide +kernel)) rfl ?_
  refine am_pv_cons (v_iload_n (q := 1) (by decide +kernel) rfl) rfl ?_
  refine am_pv_cons (v_virt (idx := 111) yv_People_has rfl rfl (tb2 196 (by decide +kernel) rfl) (by decide +kernel)) rfl ?_
  refine am_pv_cons (v_if_eq (off := 11) (by decide +kernel) rfl) rfl ?_
  refine am_pv_cons (v_aload_n (q := 0) (by decide +kernel) rfl) rfl ?_
  refine am_pv_cons (v_iload_n (q := 1) (by decide +kernel) rfl) rfl ?_
  refine am_pv_cons (v_virt (idx := 294) yv_TC_turnWorst rfl rfl (tb5 34 (by decide +kernel) rfl) (by decide +kernel)) rfl ?_
  refine am_pv_cons (v_goto (off := 5) (by decide +kernel) rfl) rfl ?_
  refine am_pv_cons (v_bipush (n := -2) (by decide +kernel) (by decide +kernel)) rfl ?_
  refine am_pv_cons (v_ireturn (by decide +kernel)) trivial ?_
  exact trivial
def P_TC_ends (E : am_E) (k : Nat) : am_P := [(0, aLi 1), (1, z_lt 10), (4, aLi 1), (5, aI 20), (7, c_le 13), (10, aI (-2)), (12, aRi), (13, aLa 0), (14, aGet 0 2), (17, aIv E k 2 0 Y_Feelings_keepSigns), (20, aI (-1)), (21, aSi 2), (22, aI 0), (23, aSi 3), (24, aLi 3), (25, aLi 1), (26, c_gt 49), (29, aLi 2), (30, aI (-1)), (31, c_ne 49), (34, aLa 0), (35, aIv E k 0 0 Y_TC_turnAll), (38, z_ne 43), (41, aLi 3), (42, aSi 2), (43, aInc 3 1), (46, aGo 24), (49, aLa 0), (50, aGet 0 2), (53, aIv E k 2 0 Y_Feelings_restoreSigns), (56, aLi 2), (57, aRi)]
set_option maxRecDepth 20000 in
theorem pv_TC_ends (E : am_E) (k : Nat) : am_pv E k Y_TC_ends.2.1 Y_TC_ends.2.2.1 Y_TC_ends.1.cls (P_TC_ends E k) := by
  refine am_pv_cons (v_iload_n (q := 1) (by decide +kernel) rfl) rfl ?_
  refine am_pv_cons (v_if_lt (off := 9) (by decide +kernel) rfl) rfl ?_
  refine am_pv_cons (v_iload_n (q := 1) (by decide +kernel) rfl) rfl ?_
  refine am_pv_cons (v_bipush (n := 20) (by decide +kernel) (by decide +kernel)) rfl ?_
  refine am_pv_cons (v_ic_le (off := 6) (by decide +kernel) rfl) rfl ?_
  refine am_pv_cons (v_bipush (n := -2) (by decide +kernel) (by decide +kernel)) rfl ?_
  refine am_pv_cons (v_ireturn (by decide +kernel)) rfl ?_
  refine am_pv_cons (v_aload_n (q := 0) (by decide +kernel) rfl) rfl ?_
  refine am_pv_cons (v_get fl_TC_22 (by decide +kernel)) rfl ?_
  refine am_pv_cons (v_virt (idx := 297) yv_Feelings_keepSigns rfl rfl (tb5 46 (by decide +kernel) rfl) (by decide +kernel)) rfl ?_
  refine am_pv_cons (v_iconst (n := -1) (by decide +kernel) rfl) rfl ?_
  refine am_pv_cons (v_istore_n (q := 2) (by decide +kernel) rfl) rfl ?_
  refine am_pv_cons (v_iconst (n := 0) (by decide +kernel) rfl) rfl ?_
  refine am_pv_cons (v_istore_n (q := 3) (by decide +kernel) rfl) rfl ?_
  refine am_pv_cons (v_iload_n (q := 3) (by decide +kernel) rfl) rfl ?_
  refine am_pv_cons (v_iload_n (q := 1) (by decide +kernel) rfl) rfl ?_
  refine am_pv_cons (v_ic_gt (off := 23) (by decide +kernel) rfl) rfl ?_
  refine am_pv_cons (v_iload_n (q := 2) (by decide +kernel) rfl) rfl ?_
  refine am_pv_cons (v_iconst (n := -1) (by decide +kernel) rfl) rfl ?_
  refine am_pv_cons (v_ic_ne (off := 18) (by decide +kernel) rfl) rfl ?_
  refine am_pv_cons (v_aload_n (q := 0) (by decide +kernel) rfl) rfl ?_
  refine am_pv_cons (v_virt (idx := 300) yv_TC_turnAll rfl rfl (tb5 51 (by decide +kernel) rfl) (by decide +kernel)) rfl ?_
  refine am_pv_cons (v_if_ne (off := 5) (by decide +kernel) rfl) rfl ?_
  refine am_pv_cons (v_iload_n (q := 3) (by decide +kernel) rfl) rfl ?_
  refine am_pv_cons (v_istore_n (q := 2) (by decide +kernel) rfl) rfl ?_
  refine am_pv_cons (v_iinc (n := 1) (by decide +kernel) (by decide +kernel)) rfl ?_
  refine am_pv_cons (v_goto (off := -22) (by decide +kernel) rfl) rfl ?_
  refine am_pv_cons (v_aload_n (q := 0) (by decide +kernel) rfl) rfl ?_
  refine am_pv_cons (v_get fl_TC_22 (by decide +kernel)) rfl ?_
  refine am_pv_cons (v_virt (idx := 303) yv_Feelings_restoreSigns rfl rfl (tb5 55 (by decide +kernel) rfl) (by decide +kernel)) rfl ?_
  refine am_pv_cons (v_iload_n (q := 2) (by decide +kernel) rfl) rfl ?_
  refine am_pv_cons (v_ireturn (by decide +kernel)) trivial ?_
  exact trivial
def P_TC_turnAll (E : am_E) (k : Nat) : am_P := [(0, aI 0), (1, aSi 1), (2, aI 0), (3, aSi 2), (4, aLi 2), (5, aLa 0), (6, aGet 0 0), (9, aGet 1 0), (12, c_ge 32), (15, aLa 0), (16, aLi 2), (17, aIv E k 0 1 Y_TC_turnWorst), (20, aI (-1)), (21, c_eq 26), (24, aI 1), (25, aSi 1), (26, aInc 2 1), (29, aGo 4), (32, aLi 1), (33, aRi)]
set_option maxRecDepth 20000 in
theorem pv_TC_turnAll (E : am_E) (k : Nat) : am_pv E k Y_TC_turnAll.2.1 Y_TC_turnAll.2.2.1 Y_TC_turnAll.1.cls (P_TC_turnAll E k) := by
  refine am_pv_cons (v_iconst (n := 0) (by decide +kernel) rfl) rfl ?_
  refine am_pv_cons (v_istore_n (q := 1) (by decide +kernel) rfl) rfl ?_
  refine am_pv_cons (v_iconst (n := 0) (by decide +kernel) rfl) rfl ?_
  refine am_pv_cons (v_istore_n (q := 2) (by decide +kernel) rfl) rfl ?_
  refine am_pv_cons (v_iload_n (q := 2) (by decide +kernel) rfl) rfl ?_
  refine am_pv_cons (v_aload_n (q := 0) (by decide +kernel) rfl) rfl ?_
  refine am_pv_cons (v_get fl_TC_10 (by decide +kernel)) rfl ?_
  refine am_pv_cons (v_get fl_TC_103 (by decide +kernel)) rfl ?_
  refine am_pv_cons (v_ic_ge (off := 20) (by decide +kernel) rfl) rfl ?_
  refine am_pv_cons (v_aload_n (q := 0) (by decide +kernel) rfl) rfl ?_
  refine am_pv_cons (v_iload_n (q := 2) (by decide +kernel) rfl) rfl ?_
  refine am_pv_cons (v_virt (idx := 294) yv_TC_turnWorst rfl rfl (tb5 34 (by decide +kernel) rfl) (by decide +kernel)) rfl ?_
  refine am_pv_cons (v_iconst (n := -1) (by decide +kernel) rfl) rfl ?_
  refine am_pv_cons (v_ic_eq (off := 5) (by decide +kernel) rfl) rfl ?_
  refine am_pv_cons (v_iconst (n := 1) (by decide +kernel) rfl) rfl ?_
  refine am_pv_cons (v_istore_n (q := 1) (by decide +kernel) rfl) rfl ?_
  refine am_pv_cons (v_iinc (n := 1) (by decide +kernel) (by decide +kernel)) rfl ?_
  refine am_pv_cons (v_goto (off := -25) (by decide +kernel) rfl) rfl ?_
  refine am_pv_cons (v_iload_n (q := 1) (by decide +kernel) rfl) rfl ?_
  refine am_pv_cons (v_ireturn (by decide +kernel)) trivial ?_
  exact trivial
def P_TC_turnWorst (E : am_E) (k : Nat) : am_P := [(0, aI (-1)), (1, aSi 2), (2, aI 0), (3, aSi 3), (4, aI 0), (5, aSi 4), (7, aLi 4), (9, aLa 0), (10, aGet 0 2), (13, aGet 2 0), (16, c_ge 73), (19, aLa 0), (20, aGet 0 2), (23, aLi 4), (25, aLi 1), (26, aIv E k 2 2 Y_Feelings_isOf), (29, z_eq 67), (32, aLa 0), (33, aGet 0 7), (36, aLi 4), (38, aIv E k 4 1 Y_Law_canBeWrong), (41, z_eq 67), (44, aLa 0), (45, aGet 0 2), (48, aLi 4), (50, aIv E k 2 1 Y_Feelings_badThreesWith), (53, aSi 5), (55, aLi 5), (57, aLi 3), (58, c_le 67), (61, aLi 4), (63, aSi 2), (64, aLi 5), (66, aSi 3), (67, aInc 4 1), (70, aGo 7), (73, aLi 2), (74, aI (-1)), (75, c_eq 97), (78, aLa 0), (79, aGet 0 2), (82, aGet 2 3), (85, aLi 2), (86, aLa 0), (87, aGet 0 2), (90, aGet 2 3), (93, aLi 2), (94, aAld 0), (95, a_ineg), (96, aAst), (97, aLi 2), (98, aRi)]
set_option maxRecDepth 20000 in
theorem pv_TC_turnWorst (E : am_E) (k : Nat) : am_pv E k Y_TC_turnWorst.2.1 Y_TC_turnWorst.2.2.1 Y_TC_turnWorst.1.cls (P_TC_turnWorst E k) := by
  refine am_pv_cons (v_iconst (n := -1) (by decide +kernel) rfl) rfl ?_
  refine am_pv_cons (v_istore_n (q := 2) (by decide +kernel) rfl) rfl ?_
  refine am_pv_cons (v_iconst (n := 0) (by decide +kernel) rfl) rfl ?_
  refine am_pv_cons (v_istore_n (q := 3) (by decide +kernel) rfl) rfl ?_
  refine am_pv_cons (v_iconst (n := 0) (by decide +kernel) rfl) rfl ?_
  refine am_pv_cons (v_istore (by decide +kernel)) rfl ?_
  refine am_pv_cons (v_iload (by decide +kernel)) rfl ?_
  refine am_pv_cons (v_aload_n (q := 0) (by decide +kernel) rfl) rfl ?_
  refine am_pv_cons (v_get fl_TC_22 (by decide +kernel)) rfl ?_
  refine am_pv_cons (v_get fl_TC_293 (by decide +kernel)) rfl ?_
  refine am_pv_cons (v_ic_ge (off := 57) (by decide +kernel) rfl) rfl ?_
  refine am_pv_cons (v_aload_n (q := 0) (by decide +kernel) rfl) rfl ?_
  refine am_pv_cons (v_get fl_TC_22 (by decide +kernel)) rfl ?_
  refine am_pv_cons (v_iload (by decide +kernel)) rfl ?_
  refine am_pv_cons (v_iload_n (q := 1) (by decide +kernel) rfl) rfl ?_
  refine am_pv_cons (v_virt (idx := 306) yv_Feelings_isOf rfl rfl (tb5 38 (by decide +kernel) rfl) (by decide +kernel)) rfl ?_
  refine am_pv_cons (v_if_eq (off := 38) (by decide +kernel) rfl) rfl ?_
  refine am_pv_cons (v_aload_n (q := 0) (by decide +kernel) rfl) rfl ?_
  refine am_pv_cons (v_get fl_TC_41 (by decide +kernel)) rfl ?_
  refine am_pv_cons (v_iload (by decide +kernel)) rfl ?_
  refine am_pv_cons (v_virt (idx := 148) yv_Law_canBeWrong rfl rfl (tb3 23 (by decide +kernel) rfl) (by decide +kernel)) rfl ?_
  refine am_pv_cons (v_if_eq (off := 26) (by decide +kernel) rfl) rfl ?_
  refine am_pv_cons (v_aload_n (q := 0) (by decide +kernel) rfl) rfl ?_
  refine am_pv_cons (v_get fl_TC_22 (by decide +kernel)) rfl ?_
  refine am_pv_cons (v_iload (by decide +kernel)) rfl ?_
  refine am_pv_cons (v_virt (idx := 151) yv_Feelings_badThreesWith rfl rfl (tb3 27 (by decide +kernel) rfl) (by decide +kernel)) rfl ?_
  refine am_pv_cons (v_istore (by decide +kernel)) rfl ?_
  refine am_pv_cons (v_iload (by decide +kernel)) rfl ?_
  refine am_pv_cons (v_iload_n (q := 3) (by decide +kernel) rfl) rfl ?_
  refine am_pv_cons (v_ic_le (off := 9) (by decide +kernel) rfl) rfl ?_
  refine am_pv_cons (v_iload (by decide +kernel)) rfl ?_
  refine am_pv_cons (v_istore_n (q := 2) (by decide +kernel) rfl) rfl ?_
  refine am_pv_cons (v_iload (by decide +kernel)) rfl ?_
  refine am_pv_cons (v_istore_n (q := 3) (by decide +kernel) rfl) rfl ?_
  refine am_pv_cons (v_iinc (n := 1) (by decide +kernel) (by decide +kernel)) rfl ?_
  refine am_pv_cons (v_goto (off := -63) (by decide +kernel) rfl) rfl ?_
  refine am_pv_cons (v_iload_n (q := 2) (by decide +kernel) rfl) rfl ?_
  refine am_pv_cons (v_iconst (n := -1) (by decide +kernel) rfl) rfl ?_
  refine am_pv_cons (v_ic_eq (off := 22) (by decide +kernel) rfl) rfl ?_
  refine am_pv_cons (v_aload_n (q := 0) (by decide +kernel) rfl) rfl ?_
  refine am_pv_cons (v_get fl_TC_22 (by decide +kernel)) rfl ?_
  refine am_pv_cons (v_get fl_TC_136 (by decide +kernel)) rfl ?_
  refine am_pv_cons (v_iload_n (q := 2) (by decide +kernel) rfl) rfl ?_
  refine am_pv_cons (v_aload_n (q := 0) (by decide +kernel) rfl) rfl ?_
  refine am_pv_cons (v_get fl_TC_22 (by decide +kernel)) rfl ?_
  refine am_pv_cons (v_get fl_TC_136 (by decide +kernel)) rfl ?_
  refine am_pv_cons (v_iload_n (q := 2) (by decide +kernel) rfl) rfl ?_
  refine am_pv_cons (v_iald (by decide +kernel)) rfl ?_
  refine am_pv_cons (v_ineg (by decide +kernel)) rfl ?_
  refine am_pv_cons (v_iast (by decide +kernel)) rfl ?_
  refine am_pv_cons (v_iload_n (q := 2) (by decide +kernel) rfl) rfl ?_
  refine am_pv_cons (v_ireturn (by decide +kernel)) trivial ?_
  exact trivial
def P_TC_meet (E : am_E) (k : Nat) : am_P := [(0, aLa 0), (1, aGet 0 0), (4, aLi 1), (5, aLi 2), (6, aIv E k 1 2 Y_People_hasTwo), (9, z_eq 34), (12, aLi 3), (13, z_lt 34), (16, aLi 3), (17, aI 1), (18, c_gt 34), (21, aLa 0), (22, aGet 0 2), (25, aLi 1), (26, aLi 2), (27, aIv E k 2 2 Y_Feelings_find), (30, aI (-1)), (31, c_eq 38), (34, aJ (-4611686018427387904)), (37, aRl), (38, aLa 0), (39, aGet 0 14), (42, aIv E k 10 0 Y_Best_search), (45, aLa 0), (46, aGet 0 14), (49, aGet 10 4), (52, z_ne 59), (55, aJ (-4611686018427387904)), (58, aRl), (59, aLa 0), (60, aGet 0 14), (63, aLi 1), (64, aLi 2), (65, aIv E k 10 2 Y_Best_timesTogether), (68, aSi 4), (70, aLi 4), (72, aLa 0), (73, aGet 0 14), (76, aGet 10 4), (79, aIs E k 2 Y_TC_commonDivisor), (82, aSi 5), (84, aLi 5), (86, z_ne 95), (89, aJ (-4611686018427387904)), (92, aGo 115), (95, aLi 3), (96, z_ne 104), (99, aLi 4), (101, aGo 111), (104, aLa 0), (105, aGet 0 14), (108, aGet 10 4), (111, aLi 5), (113, a_idiv), (114, aI2L), (115, aRl)]
set_option maxRecDepth 20000 in
theorem pv_TC_meet (E : am_E) (k : Nat) : am_pv E k Y_TC_meet.2.1 Y_TC_meet.2.2.1 Y_TC_meet.1.cls (P_TC_meet E k) := by
  refine am_pv_cons (v_aload_n (q := 0) (by decide +kernel) rfl) rfl ?_
  refine am_pv_cons (v_get fl_TC_10 (by decide +kernel)) rfl ?_
  refine am_pv_cons (v_iload_n (q := 1) (by decide +kernel) rfl) rfl ?_
  refine am_pv_cons (v_iload_n (q := 2) (by decide +kernel) rfl) rfl ?_
  refine am_pv_cons (v_virt (idx := 121) yv_People_hasTwo rfl rfl (tb2 204 (by decide +kernel) rfl) (by decide +kernel)) rfl ?_
  refine am_pv_cons (v_if_eq (off := 25) (by decide +kernel) rfl) rfl ?_
  refine am_pv_cons (v_iload_n (q := 3) (by decide +kernel) rfl) rfl ?_
  refine am_pv_cons (v_if_lt (off := 21) (by decide +kernel) rfl) rfl ?_
  refine am_pv_cons (v_iload_n (q := 3) (by decide +kernel) rfl) rfl ?_
  refine am_pv_cons (v_iconst (n := 1) (by decide +kernel) rfl) rfl ?_
  refine am_pv_cons (v_ic_gt (off := 16) (by decide +kernel) rfl) rfl ?_
  refine am_pv_cons (v_aload_n (q := 0) (by decide +kernel) rfl) rfl ?_
  refine am_pv_cons (v_get fl_TC_22 (by decide +kernel)) rfl ?_
  refine am_pv_cons (v_iload_n (q := 1) (by decide +kernel) rfl) rfl ?_
  refine am_pv_cons (v_iload_n (q := 2) (by decide +kernel) rfl) rfl ?_
  refine am_pv_cons (v_virt (idx := 154) yv_Feelings_find rfl rfl (tb3 35 (by decide +kernel) rfl) (by decide +kernel)) rfl ?_
  refine am_pv_cons (v_iconst (n := -1) (by decide +kernel) rfl) rfl ?_
  refine am_pv_cons (v_ic_eq (off := 7) (by decide +kernel) rfl) rfl ?_
  refine am_pv_cons (v_ldc2 (i := 234) (tb4 105 (by decide +kernel) rfl) (by decide +kernel)) rfl ?_
  refine am_pv_cons (v_lreturn (by decide +kernel)) rfl ?_
  refine am_pv_cons (v_aload_n (q := 0) (by decide +kernel) rfl) rfl ?_
  refine am_pv_cons (v_get fl_TC_88 (by decide +kernel)) rfl ?_
  refine am_pv_cons (v_virt (idx := 268) yv_Best_search rfl rfl (tb4 187 (by decide +kernel) rfl) (by decide +kernel)) rfl ?_
  refine am_pv_cons (v_aload_n (q := 0) (by decide +kernel) rfl) rfl ?_
  refine am_pv_cons (v_get fl_TC_88 (by decide +kernel)) rfl ?_
  refine am_pv_cons (v_get fl_TC_274 (by decide +kernel)) rfl ?_
  refine am_pv_cons (v_if_ne (off := 7) (by decide +kernel) rfl) rfl ?_
  refine am_pv_cons (v_ldc2 (i := 234) (tb4 105 (by decide +kernel) rfl) (by decide +kernel)) rfl ?_
  refine am_pv_cons (v_lreturn (by decide +kernel)) rfl ?_
  refine am_pv_cons (v_aload_n (q := 0) (by decide +kernel) rfl) rfl ?_
  refine am_pv_cons (v_get fl_TC_88 (by decide +kernel)) rfl ?_
  refine am_pv_cons (v_iload_n (q := 1) (by decide +kernel) rfl) rfl ?_
  refine am_pv_cons (v_iload_n (q := 2) (by decide +kernel) rfl) rfl ?_
  refine am_pv_cons (v_virt (idx := 278) yv_Best_timesTogether rfl rfl (tb4 209 (by decide +kernel) rfl) (by decide +kernel)) rfl ?_
  refine am_pv_cons (v_istore (by decide +kernel)) rfl ?_
  refine am_pv_cons (v_iload (by decide +kernel)) rfl ?_
  refine am_pv_cons (v_aload_n (q := 0) (by decide +kernel) rfl) rfl ?_
  refine am_pv_cons (v_get fl_TC_88 (by decide +kernel)) rfl ?_
  refine am_pv_cons (v_get fl_TC_274 (by decide +kernel)) rfl ?_
  refine am_pv_cons (v_stat (idx := 309) ys_TC_commonDivisor (tb5 63 (by decide +kernel) rfl) (by decide +kernel)) rfl ?_
  refine am_pv_cons (v_istore (by decide +kernel)) rfl ?_
  refine am_pv_cons (v_iload (by decide +kernel)) rfl ?_
  refine am_pv_cons (v_if_ne (off := 9) (by decide +kernel) rfl) rfl ?_
  refine am_pv_cons (v_ldc2 (i := 234) (tb4 105 (by decide +kernel) rfl) (by decide +kernel)) rfl ?_
  refine am_pv_cons (v_goto (off := 23) (by decide +kernel) rfl) rfl ?_
  refine am_pv_cons (v_iload_n (q := 3) (by decide +kernel) rfl) rfl ?_
  refine am_pv_cons (v_if_ne (off := 8) (by decide +kernel) rfl) rfl ?_
  refine am_pv_cons (v_iload (by decide +kernel)) rfl ?_
  refine am_pv_cons (v_goto (off := 10) (by decide +kernel) rfl) rfl ?_
  refine am_pv_cons (v_aload_n (q := 0) (by decide +kernel) rfl) rfl ?_
  refine am_pv_cons (v_get fl_TC_88 (by decide +kernel)) rfl ?_
  refine am_pv_cons (v_get fl_TC_274 (by decide +kernel)) rfl ?_
  refine am_pv_cons (v_iload (by decide +kernel)) rfl ?_
  refine am_pv_cons (v_idiv (by decide +kernel)) rfl ?_
  refine am_pv_cons (v_i2l (by decide +kernel)) rfl ?_
  refine am_pv_cons (v_lreturn (by decide +kernel)) trivial ?_
  exact trivial
def P_TC_edge (E : am_E) (k : Nat) : am_P := [(0, aLa 0), (1, aGet 0 2), (4, aLi 1), (5, aIv E k 2 1 Y_Feelings_has), (8, z_ne 15), (11, aJ (-4611686018427387904)), (14, aRl), (15, aLa 0), (16, aGet 0 14), (19, aIv E k 10 0 Y_Best_search), (22, aLa 0), (23, aGet 0 14), (26, aGet 10 4), (29, z_ne 38), (32, aJ (-4611686018427387904)), (35, aGo 47), (38, aLa 0), (39, aGet 0 14), (42, aLi 1), (43, aIv E k 10 1 Y_Best_edgeOf), (46, aI2L), (47, aRl)]
set_option maxRecDepth 20000 in
theorem pv_TC_edge (E : am_E) (k : Nat) : am_pv E k Y_TC_edge.2.1 Y_TC_edge.2.2.1 Y_TC_edge.1.cls (P_TC_edge E k) := by
  refine am_pv_cons (v_aload_n (q := 0) (by decide +kernel) rfl) rfl ?_
  refine am_pv_cons (v_get fl_TC_22 (by decide +kernel)) rfl ?_
  refine am_pv_cons (v_iload_n (q := 1) (by decide +kernel) rfl) rfl ?_
  refine am_pv_cons (v_virt (idx := 129) yv_Feelings_has rfl rfl (tb2 227 (by decide +kernel) rfl) (by decide +kernel)) rfl ?_
  refine am_pv_cons (v_if_ne (off := 7) (by decide +kernel) rfl) rfl ?_
  refine am_pv_cons (v_ldc2 (i := 234) (tb4 105 (by decide +kernel) rfl) (by decide +kernel)) rfl ?_
  refine am_pv_cons (v_lreturn (by decide +kernel)) rfl ?_
  refine am_pv_cons (v_aload_n (q := 0) (by decide +kernel) rfl) rfl ?_
  refine am_pv_cons (v_get fl_TC_88 (by decide +kernel)) rfl ?_
  refine am_pv_cons (v_virt (idx := 268) yv_Best_search rfl rfl (tb4 187 (by decide +kernel) rfl) (by decide +kernel)) rfl ?_
  refine am_pv_cons (v_aload_n (q := 0) (by decide +kernel) rfl) rfl ?_
  refine am_pv_cons (v_get fl_TC_88 (by decide +kernel)) rfl ?_
  refine am_pv_cons (v_get fl_TC_274 (by decide +kernel)) rfl ?_
  refine am_pv_cons (v_if_ne (off := 9) (by decide +kernel) rfl) rfl ?_
  refine am_pv_cons (v_ldc2 (i := 234) (tb4 105 (by decide +kernel) rfl) (by decide +kernel)) rfl ?_
  refine am_pv_cons (v_goto (off := 12) (by decide +kernel) rfl) rfl ?_
  refine am_pv_cons (v_aload_n (q := 0) (by decide +kernel) rfl) rfl ?_
  refine am_pv_cons (v_get fl_TC_88 (by decide +kernel)) rfl ?_
  refine am_pv_cons (v_iload_n (q := 1) (by decide +kernel) rfl) rfl ?_
  refine am_pv_cons (v_virt (idx := 312) yv_Best_edgeOf rfl rfl (tb5 70 (by decide +kernel) rfl) (by decide +kernel)) rfl ?_
  refine am_pv_cons (v_i2l (by decide +kernel)) rfl ?_
  refine am_pv_cons (v_lreturn (by decide +kernel)) trivial ?_
  exact trivial
def P_TC_bring (E : am_E) (k : Nat) : am_P := [(0, aLa 0), (1, aGet 0 0), (4, aLi 1), (5, aLi 2), (6, aIv E k 1 2 Y_People_hasTwo), (9, z_ne 15), (12, aI (-2)), (14, aRi), (15, aLa 0), (16, aGet 0 14), (19, aIv E k 10 0 Y_Best_search), (22, aLa 0), (23, aGet 0 14), (26, aGet 10 4), (29, z_eq 49), (32, aLa 0), (33, aGet 0 14), (36, aGet 10 5), (39, aI 0), (40, aAld 0), (41, aLi 1), (42, aLi 2), (43, aIs E k 3 Y_TC_isTogether), (46, z_ne 52), (49, aI (-3)), (51, aRi), (52, aLa 0), (53, aGet 0 14), (56, aLi 1), (57, aLi 2), (58, aIv E k 10 2 Y_Best_fewestToTell), (61, aRi)]
set_option maxRecDepth 20000 in
theorem pv_TC_bring (E : am_E) (k : Nat) : am_pv E k Y_TC_bring.2.1 Y_TC_bring.2.2.1 Y_TC_bring.1.cls (P_TC_bring E k) := by
  refine am_pv_cons (v_aload_n (q := 0) (by decide +kernel) rfl) rfl ?_
  refine am_pv_cons (v_get fl_TC_10 (by decide +kernel)) rfl ?_
  refine am_pv_cons (v_iload_n (q := 1) (by decide +kernel) rfl) rfl ?_
  refine am_pv_cons (v_iload_n (q := 2) (by decide +kernel) rfl) rfl ?_
  refine am_pv_cons (v_virt (idx := 121) yv_People_hasTwo rfl rfl (tb2 204 (by decide +kernel) rfl) (by decide +kernel)) rfl ?_
  refine am_pv_cons (v_if_ne (off := 6) (by decide +kernel) rfl) rfl ?_
  refine am_pv_cons (v_bipush (n := -2) (by decide +kernel) (by decide +kernel)) rfl ?_
  refine am_pv_cons (v_ireturn (by decide +kernel)) rfl ?_
  refine am_pv_cons (v_aload_n (q := 0) (by decide +kernel) rfl) rfl ?_
  refine am_pv_cons (v_get fl_TC_88 (by decide +kernel)) rfl ?_
  refine am_pv_cons (v_virt (idx := 268) yv_Best_search rfl rfl (tb4 187 (by decide +kernel) rfl) (by decide +kernel)) rfl ?_
  refine am_pv_cons (v_aload_n (q := 0) (by decide +kernel) rfl) rfl ?_
  refine am_pv_cons (v_get fl_TC_88 (by decide +kernel)) rfl ?_
  refine am_pv_cons (v_get fl_TC_274 (by decide +kernel)) rfl ?_
  refine am_pv_cons (v_if_eq (off := 20) (by decide +kernel) rfl) rfl ?_
  refine am_pv_cons (v_aload_n (q := 0) (by decide +kernel) rfl) rfl ?_
  refine am_pv_cons (v_get fl_TC_88 (by decide +kernel)) rfl ?_
  refine am_pv_cons (v_get fl_TC_275 (by decide +kernel)) rfl ?_
  refine am_pv_cons (v_iconst (n := 0) (by decide +kernel) rfl) rfl ?_
  refine am_pv_cons (v_iald (by decide +kernel)) rfl ?_
  refine am_pv_cons (v_iload_n (q := 1) (by decide +kernel) rfl) rfl ?_
  refine am_pv_cons (v_iload_n (q := 2) (by decide +kernel) rfl) rfl ?_
  refine am_pv_cons (v_stat (idx := 315) ys_TC_isTogether (tb5 83 (by decide +kernel) rfl) (by decide +kernel)) rfl ?_
  refine am_pv_cons (v_if_ne (off := 6) (by decide +kernel) rfl) rfl ?_
  refine am_pv_cons (v_bipush (n := -3) (by decide +kernel) (by decide +kernel)) rfl ?_
  refine am_pv_cons (v_ireturn (by decide +kernel)) rfl ?_
  refine am_pv_cons (v_aload_n (q := 0) (by decide +kernel) rfl) rfl ?_
  refine am_pv_cons (v_get fl_TC_88 (by decide +kernel)) rfl ?_
  refine am_pv_cons (v_iload_n (q := 1) (by decide +kernel) rfl) rfl ?_
  refine am_pv_cons (v_iload_n (q := 2) (by decide +kernel) rfl) rfl ?_
  refine am_pv_cons (v_virt (idx := 319) yv_Best_fewestToTell rfl rfl (tb5 84 (by decide +kernel) rfl) (by decide +kernel)) rfl ?_
  refine am_pv_cons (v_ireturn (by decide +kernel)) trivial ?_
  exact trivial
def P_TC_image (E : am_E) (k : Nat) : am_P := [(0, aLa 0), (1, aGet 0 1), (4, aLa 0), (5, aGet 0 0), (8, aIv E k 1 1 Y_People_become), (11, aLa 0), (12, aGet 0 3), (15, aLa 0), (16, aGet 0 2), (19, aIv E k 2 1 Y_Feelings_become), (22, aLa 0), (23, aLa 0), (24, aGet 0 7), (27, aGet 4 3), (30, aPut 0 5), (33, aLa 0), (34, aI 1), (35, aPutz 0 4), (38, aLa 0), (39, aGet 0 2), (42, aGet 2 0), (45, aRi)]
set_option maxRecDepth 20000 in
theorem pv_TC_image (E : am_E) (k : Nat) : am_pv E k Y_TC_image.2.1 Y_TC_image.2.2.1 Y_TC_image.1.cls (P_TC_image E k) := by
  refine am_pv_cons (v_aload_n (q := 0) (by decide +kernel) rfl) rfl ?_
  refine am_pv_cons (v_get fl_TC_16 (by decide +kernel)) rfl ?_
  refine am_pv_cons (v_aload_n (q := 0) (by decide +kernel) rfl) rfl ?_
  refine am_pv_cons (v_get fl_TC_10 (by decide +kernel)) rfl ?_
  refine am_pv_cons (v_virt (idx := 322) yv_People_become rfl rfl (tb5 97 (by decide +kernel) rfl) (by decide +kernel)) rfl ?_
  refine am_pv_cons (v_aload_n (q := 0) (by decide +kernel) rfl) rfl ?_
  refine am_pv_cons (v_get fl_TC_26 (by decide +kernel)) rfl ?_
  refine am_pv_cons (v_aload_n (q := 0) (by decide +kernel) rfl) rfl ?_
  refine am_pv_cons (v_get fl_TC_22 (by decide +kernel)) rfl ?_
  refine am_pv_cons (v_virt (idx := 325) yv_Feelings_become rfl rfl (tb5 106 (by decide +kernel) rfl) (by decide +kernel)) rfl ?_
  refine am_pv_cons (v_aload_n (q := 0) (by decide +kernel) rfl) rfl ?_
  refine am_pv_cons (v_aload_n (q := 0) (by decide +kernel) rfl) rfl ?_
  refine am_pv_cons (v_get fl_TC_41 (by decide +kernel)) rfl ?_
  refine am_pv_cons (v_get fl_TC_188 (by decide +kernel)) rfl ?_
  refine am_pv_cons (v_put fw_TC_327 (by decide +kernel)) rfl ?_
  refine am_pv_cons (v_aload_n (q := 0) (by decide +kernel) rfl) rfl ?_
  refine am_pv_cons (v_iconst (n := 1) (by decide +kernel) rfl) rfl ?_
  refine am_pv_cons (v_putz fw_TC_330 (by decide +kernel)) rfl ?_
  refine am_pv_cons (v_aload_n (q := 0) (by decide +kernel) rfl) rfl ?_
  refine am_pv_cons (v_get fl_TC_22 (by decide +kernel)) rfl ?_
  refine am_pv_cons (v_get fl_TC_293 (by decide +kernel)) rfl ?_
  refine am_pv_cons (v_ireturn (by decide +kernel)) trivial ?_
  exact trivial
def P_TC_back (E : am_E) (k : Nat) : am_P := [(0, aLa 0), (1, aGet 0 4), (4, z_ne 10), (7, aI (-3)), (9, aRi), (10, aLa 0), (11, aGet 0 0), (14, aLa 0), (15, aGet 0 1), (18, aIv E k 1 1 Y_People_takeBack), (21, aLa 0), (22, aGet 0 2), (25, aLa 0), (26, aGet 0 3), (29, aIv E k 2 1 Y_Feelings_become), (32, aLa 0), (33, aGet 0 7), (36, aLa 0), (37, aGet 0 5), (40, aPut 4 3), (43, aLa 0), (44, aGet 0 2), (47, aGet 2 0), (50, aRi)]
set_option maxRecDepth 20000 in
theorem pv_TC_back (E : am_E) (k : Nat) : am_pv E k Y_TC_back.2.1 Y_TC_back.2.2.1 Y_TC_back.1.cls (P_TC_back E k) := by
  refine am_pv_cons (v_aload_n (q := 0) (by decide +kernel) rfl) rfl ?_
  refine am_pv_cons (v_get fl_TC_330 (by decide +kernel)) rfl ?_
  refine am_pv_cons (v_if_ne (off := 6) (by decide +kernel) rfl) rfl ?_
  refine am_pv_cons (v_bipush (n := -3) (by decide +kernel) (by decide +kernel)) rfl ?_
  refine am_pv_cons (v_ireturn (by decide +kernel)) rfl ?_
  refine am_pv_cons (v_aload_n (q := 0) (by decide +kernel) rfl) rfl ?_
  refine am_pv_cons (v_get fl_TC_10 (by decide +kernel)) rfl ?_
  refine am_pv_cons (v_aload_n (q := 0) (by decide +kernel) rfl) rfl ?_
  refine am_pv_cons (v_get fl_TC_16 (by decide +kernel)) rfl ?_
  refine am_pv_cons (v_virt (idx := 334) yv_People_takeBack rfl rfl (tb5 114 (by decide +kernel) rfl) (by decide +kernel)) rfl ?_
  refine am_pv_cons (v_aload_n (q := 0) (by decide +kernel) rfl) rfl ?_
  refine am_pv_cons (v_get fl_TC_22 (by decide +kernel)) rfl ?_
  refine am_pv_cons (v_aload_n (q := 0) (by decide +kernel) rfl) rfl ?_
  refine am_pv_cons (v_get fl_TC_26 (by decide +kernel)) rfl ?_
  refine am_pv_cons (v_virt (idx := 325) yv_Feelings_become rfl rfl (tb5 106 (by decide +kernel) rfl) (by decide +kernel)) rfl ?_
  refine am_pv_cons (v_aload_n (q := 0) (by decide +kernel) rfl) rfl ?_
  refine am_pv_cons (v_get fl_TC_41 (by decide +kernel)) rfl ?_
  refine am_pv_cons (v_aload_n (q := 0) (by decide +kernel) rfl) rfl ?_
  refine am_pv_cons (v_get fl_TC_327 (by decide +kernel)) rfl ?_
  refine am_pv_cons (v_put fw_TC_188 (by decide +kernel)) rfl ?_
  refine am_pv_cons (v_aload_n (q := 0) (by decide +kernel) rfl) rfl ?_
  refine am_pv_cons (v_get fl_TC_22 (by decide +kernel)) rfl ?_
  refine am_pv_cons (v_get fl_TC_293 (by decide +kernel)) rfl ?_
  refine am_pv_cons (v_ireturn (by decide +kernel)) trivial ?_
  exact trivial
def P_TC_count (E : am_E) (k : Nat) : am_P := [(0, aLi 1), (1, aSw [(0, 48), (1, 56), (2, 64), (3, 72), (4, 80), (5, 88), (6, 93), (7, 101)] 110), (48, aLa 0), (49, aGet 0 0), (52, aGet 1 0), (55, aRi), (56, aLa 0), (57, aGet 0 2), (60, aGet 2 0), (63, aRi), (64, aLa 0), (65, aGet 0 7), (68, aGet 4 2), (71, aRi), (72, aLa 0), (73, aGet 0 6), (76, aGet 3 0), (79, aRi), (80, aLa 0), (81, aGet 0 7), (84, aGet 4 3), (87, aRi), (88, aLa 0), (89, aGet 0 11), (92, aRi), (93, aLa 0), (94, aGet 0 2), (97, aIv E k 2 0 Y_Feelings_hatreds), (100, aRi), (101, aLa 0), (102, aGet 0 13), (105, aI 0), (106, aIv E k 9 1 Y_Net_countWithout), (109, aRi), (110, aI (-2)), (112, aRi)]
set_option maxRecDepth 20000 in
theorem pv_TC_count (E : am_E) (k : Nat) : am_pv E k Y_TC_count.2.1 Y_TC_count.2.2.1 Y_TC_count.1.cls (P_TC_count E k) := by
  refine am_pv_cons (v_iload_n (q := 1) (by decide +kernel) rfl) rfl ?_
  refine am_pv_cons (v_tsw (dflt := 109) (lo := 0) (hi := 7) (offs := #[47, 55, 63, 71, 79, 87, 92, 100]) (len := 47) (by decide +kernel) rfl (by decide) (by decide +kernel)) rfl ?_
  refine am_pv_cons (v_aload_n (q := 0) (by decide +kernel) rfl) rfl ?_
  refine am_pv_cons (v_get fl_TC_10 (by decide +kernel)) rfl ?_
  refine am_pv_cons (v_get fl_TC_103 (by decide +kernel)) rfl ?_
  refine am_pv_cons (v_ireturn (by decide +kernel)) rfl ?_
  refine am_pv_cons (v_aload_n (q := 0) (by decide +kernel) rfl) rfl ?_
  refine am_pv_cons (v_get fl_TC_22 (by decide +kernel)) rfl ?_
  refine am_pv_cons (v_get fl_TC_293 (by decide +kernel)) rfl ?_
  refine am_pv_cons (v_ireturn (by decide +kernel)) rfl ?_
  refine am_pv_cons (v_aload_n (q := 0) (by decide +kernel) rfl) rfl ?_
  refine am_pv_cons (v_get fl_TC_41 (by decide +kernel)) rfl ?_
  refine am_pv_cons (v_get fl_TC_173 (by decide +kernel)) rfl ?_
  refine am_pv_cons (v_ireturn (by decide +kernel)) rfl ?_
  refine am_pv_cons (v_aload_n (q := 0) (by decide +kernel) rfl) rfl ?_
  refine am_pv_cons (v_get fl_TC_32 (by decide +kernel)) rfl ?_
  refine am_pv_cons (v_get fl_TC_158 (by decide +kernel)) rfl ?_
  refine am_pv_cons (v_ireturn (by decide +kernel)) rfl ?_
  refine am_pv_cons (v_aload_n (q := 0) (by decide +kernel) rfl) rfl ?_
  refine am_pv_cons (v_get fl_TC_41 (by decide +kernel)) rfl ?_
  refine am_pv_cons (v_get fl_TC_188 (by decide +kernel)) rfl ?_
  refine am_pv_cons (v_ireturn (by decide +kernel)) rfl ?_
  refine am_pv_cons (v_aload_n (q := 0) (by decide +kernel) rfl) rfl ?_
  refine am_pv_cons (v_get fl_TC_205 (by decide +kernel)) rfl ?_
  refine am_pv_cons (v_ireturn (by decide +kernel)) rfl ?_
  refine am_pv_cons (v_aload_n (q := 0) (by decide +kernel) rfl) rfl ?_
  refine am_pv_cons (v_get fl_TC_22 (by decide +kernel)) rfl ?_
  refine am_pv_cons (v_virt (idx := 337) yv_Feelings_hatreds rfl rfl (tb5 119 (by decide +kernel) rfl) (by decide +kernel)) rfl ?_
  refine am_pv_cons (v_ireturn (by decide +kernel)) rfl ?_
  refine am_pv_cons (v_aload_n (q := 0) (by decide +kernel) rfl) rfl ?_
  refine am_pv_cons (v_get fl_TC_81 (by decide +kernel)) rfl ?_
  refine am_pv_cons (v_iconst (n := 0) (by decide +kernel) rfl) rfl ?_
  refine am_pv_cons (v_virt (idx := 290) yv_Net_countWithout rfl rfl (tb5 22 (by decide +kernel) rfl) (by decide +kernel)) rfl ?_
  refine am_pv_cons (v_ireturn (by decide +kernel)) rfl ?_
  refine am_pv_cons (v_bipush (n := -2) (by decide +kernel) (by decide +kernel)) rfl ?_
  refine am_pv_cons (v_ireturn (by decide +kernel)) trivial ?_
  exact trivial
def P_TC_commonDivisor (E : am_E) (k : Nat) : am_P := [(0, aLi 1), (1, aSi 2), (2, aLi 0), (3, aSi 3), (4, aI 0), (5, aSi 4), (7, aLi 4), (9, aI 36), (11, c_ge 34), (14, aLi 3), (15, z_eq 34), (18, aLi 2), (19, aLi 3), (20, a_irem), (21, aSi 5), (23, aLi 3), (24, aSi 2), (25, aLi 5), (27, aSi 3), (28, aInc 4 1), (31, aGo 7), (34, aLi 2), (35, aRi)]
set_option maxRecDepth 20000 in
theorem pv_TC_commonDivisor (E : am_E) (k : Nat) : am_pv E k Y_TC_commonDivisor.2.1 Y_TC_commonDivisor.2.2.1 Y_TC_commonDivisor.1.cls (P_TC_commonDivisor E k) := by
  refine am_pv_cons (v_iload_n (q := 1) (by decide +kernel) rfl) rfl ?_
  refine am_pv_cons (v_istore_n (q := 2) (by decide +kernel) rfl) rfl ?_
  refine am_pv_cons (v_iload_n (q := 0) (by decide +kernel) rfl) rfl ?_
  refine am_pv_cons (v_istore_n (q := 3) (by decide +kernel) rfl) rfl ?_
  refine am_pv_cons (v_iconst (n := 0) (by decide +kernel) rfl) rfl ?_
  refine am_pv_cons (v_istore (by decide +kernel)) rfl ?_
  refine am_pv_cons (v_iload (by decide +kernel)) rfl ?_
  refine am_pv_cons (v_bipush (n := 36) (by decide +kernel) (by decide +kernel)) rfl ?_
  refine am_pv_cons (v_ic_ge (off := 23) (by decide +kernel) rfl) rfl ?_
  refine am_pv_cons (v_iload_n (q := 3) (by decide +kernel) rfl) rfl ?_
  refine am_pv_cons (v_if_eq (off := 19) (by decide +kernel) rfl) rfl ?_
  refine am_pv_cons (v_iload_n (q := 2) (by decide +kernel) rfl) rfl ?_
  refine am_pv_cons (v_iload_n (q := 3) (by decide +kernel) rfl) rfl ?_
  refine am_pv_cons (v_irem (by decide +kernel)) rfl ?_
  refine am_pv_cons (v_istore (by decide +kernel)) rfl ?_
  refine am_pv_cons (v_iload_n (q := 3) (by decide +kernel) rfl) rfl ?_
  refine am_pv_cons (v_istore_n (q := 2) (by decide +kernel) rfl) rfl ?_
  refine am_pv_cons (v_iload (by decide +kernel)) rfl ?_
  refine am_pv_cons (v_istore_n (q := 3) (by decide +kernel) rfl) rfl ?_
  refine am_pv_cons (v_iinc (n := 1) (by decide +kernel) (by decide +kernel)) rfl ?_
  refine am_pv_cons (v_goto (off := -24) (by decide +kernel) rfl) rfl ?_
  refine am_pv_cons (v_iload_n (q := 2) (by decide +kernel) rfl) rfl ?_
  refine am_pv_cons (v_ireturn (by decide +kernel)) trivial ?_
  exact trivial
def P_TC_isTogether (E : am_E) (k : Nat) : am_P := [(0, aLi 0), (1, aLi 1), (2, a_ishr), (3, aLi 0), (4, aLi 2), (5, a_ishr), (6, a_ixor), (7, aI 1), (8, a_iand), (9, z_ne 16), (12, aI 1), (13, aGo 17), (16, aI 0), (17, aRi)]
set_option maxRecDepth 20000 in
theorem pv_TC_isTogether (E : am_E) (k : Nat) : am_pv E k Y_TC_isTogether.2.1 Y_TC_isTogether.2.2.1 Y_TC_isTogether.1.cls (P_TC_isTogether E k) := by
  refine am_pv_cons (v_iload_n (q := 0) (by decide +kernel) rfl) rfl ?_
  refine am_pv_cons (v_iload_n (q := 1) (by decide +kernel) rfl) rfl ?_
  refine am_pv_cons (v_ishr (by decide +kernel)) rfl ?_
  refine am_pv_cons (v_iload_n (q := 0) (by decide +kernel) rfl) rfl ?_
  refine am_pv_cons (v_iload_n (q := 2) (by decide +kernel) rfl) rfl ?_
  refine am_pv_cons (v_ishr (by decide +kernel)) rfl ?_
  refine am_pv_cons (v_ixor (by decide +kernel)) rfl ?_
  refine am_pv_cons (v_iconst (n := 1) (by decide +kernel) rfl) rfl ?_
  refine am_pv_cons (v_iand (by decide +kernel)) rfl ?_
  refine am_pv_cons (v_if_ne (off := 7) (by decide +kernel) rfl) rfl ?_
  refine am_pv_cons (v_iconst (n := 1) (by decide +kernel) rfl) rfl ?_
  refine am_pv_cons (v_goto (off := 4) (by decide +kernel) rfl) rfl ?_
  refine am_pv_cons (v_iconst (n := 0) (by decide +kernel) rfl) rfl ?_
  refine am_pv_cons (v_ireturn (by decide +kernel)) trivial ?_
  exact trivial
def P_TC_sheet (E : am_E) (k : Nat) : am_P := [(0, aLi 1), (1, aIs E k 1 Y_TC_isSheet), (4, z_eq 17), (7, aLi 2), (8, aI (-1)), (9, c_lt 17), (12, aLi 2), (13, aI 2), (14, c_le 20), (17, aI (-2)), (19, aRi), (20, aLi 2), (21, aI (-1)), (22, c_ne 38), (25, aLa 0), (26, aGet 0 15), (29, aLi 1), (30, aAa 4), (31, aLi 2), (32, aI 0), (33, aIv E k 11 2 Y_Sheet_become), (36, aI 1), (37, aRi), (38, aLi 3), (39, aI 40), (41, c_le 47), (44, aI (-2)), (46, aRi), (47, aLi 3), (48, z_ge 54), (51, aI (-14)), (53, aRi), (54, aLa 0), (55, aGet 0 15), (58, aLi 1), (59, aAa 4), (60, aLi 2), (61, aLi 3), (62, aIv E k 11 2 Y_Sheet_become), (65, aI 1), (66, aRi)]
set_option maxRecDepth 20000 in
theorem pv_TC_sheet (E : am_E) (k : Nat) : am_pv E k Y_TC_sheet.2.1 Y_TC_sheet.2.2.1 Y_TC_sheet.1.cls (P_TC_sheet E k) := by
  refine am_pv_cons (v_iload_n (q := 1) (by decide +kernel) rfl) rfl ?_
  refine am_pv_cons (v_stat (idx := 194) ys_TC_isSheet (tb4 22 (by decide +kernel) rfl) (by decide +kernel)) rfl ?_
  refine am_pv_cons (v_if_eq (off := 13) (by decide +kernel) rfl) rfl ?_
  refine am_pv_cons (v_iload_n (q := 2) (by decide +kernel) rfl) rfl ?_
  refine am_pv_cons (v_iconst (n := -1) (by decide +kernel) rfl) rfl ?_
  refine am_pv_cons (v_ic_lt (off := 8) (by decide +kernel) rfl) rfl ?_
  refine am_pv_cons (v_iload_n (q := 2) (by decide +kernel) rfl) rfl ?_
  refine am_pv_cons (v_iconst (n := 2) (by decide +kernel) rfl) rfl ?_
  refine am_pv_cons (v_ic_le (off := 6) (by decide +kernel) rfl) rfl ?_
  refine am_pv_cons (v_bipush (n := -2) (by decide +kernel) (by decide +kernel)) rfl ?_
  refine am_pv_cons (v_ireturn (by decide +kernel)) rfl ?_
  refine am_pv_cons (v_iload_n (q := 2) (by decide +kernel) rfl) rfl ?_
  refine am_pv_cons (v_iconst (n := -1) (by decide +kernel) rfl) rfl ?_
  refine am_pv_cons (v_ic_ne (off := 16) (by decide +kernel) rfl) rfl ?_
  refine am_pv_cons (v_aload_n (q := 0) (by decide +kernel) rfl) rfl ?_
  refine am_pv_cons (v_get fl_TC_94 (by decide +kernel)) rfl ?_
  refine am_pv_cons (v_iload_n (q := 1) (by decide +kernel) rfl) rfl ?_
  refine am_pv_cons (v_aa (by decide) (by decide) (by decide +kernel)) rfl ?_
  refine am_pv_cons (v_iload_n (q := 2) (by decide +kernel) rfl) rfl ?_
  refine am_pv_cons (v_iconst (n := 0) (by decide +kernel) rfl) rfl ?_
  refine am_pv_cons (v_virt (idx := 340) yv_Sheet_become rfl rfl (tb5 127 (by decide +kernel) rfl) (by decide +kernel)) rfl ?_
  refine am_pv_cons (v_iconst (n := 1) (by decide +kernel) rfl) rfl ?_
  refine am_pv_cons (v_ireturn (by decide +kernel)) rfl ?_
  refine am_pv_cons (v_iload_n (q := 3) (by decide +kernel) rfl) rfl ?_
  refine am_pv_cons (v_bipush (n := 40) (by decide +kernel) (by decide +kernel)) rfl ?_
  refine am_pv_cons (v_ic_le (off := 6) (by decide +kernel) rfl) rfl ?_
  refine am_pv_cons (v_bipush (n := -2) (by decide +kernel) (by decide +kernel)) rfl ?_
  refine am_pv_cons (v_ireturn (by decide +kernel)) rfl ?_
  refine am_pv_cons (v_iload_n (q := 3) (by decide +kernel) rfl) rfl ?_
  refine am_pv_cons (v_if_ge (off := 6) (by decide +kernel) rfl) rfl ?_
  refine am_pv_cons (v_bipush (n := -14) (by decide +kernel) (by decide +kernel)) rfl ?_
  refine am_pv_cons (v_ireturn (by decide +kernel)) rfl ?_
  refine am_pv_cons (v_aload_n (q := 0) (by decide +kernel) rfl) rfl ?_
  refine am_pv_cons (v_get fl_TC_94 (by decide +kernel)) rfl ?_
  refine am_pv_cons (v_iload_n (q := 1) (by decide +kernel) rfl) rfl ?_
  refine am_pv_cons (v_aa (by decide) (by decide) (by decide +kernel)) rfl ?_
  refine am_pv_cons (v_iload_n (q := 2) (by decide +kernel) rfl) rfl ?_
  refine am_pv_cons (v_iload_n (q := 3) (by decide +kernel) rfl) rfl ?_
  refine am_pv_cons (v_virt (idx := 340) yv_Sheet_become rfl rfl (tb5 127 (by decide +kernel) rfl) (by decide +kernel)) rfl ?_
  refine am_pv_cons (v_iconst (n := 1) (by decide +kernel) rfl) rfl ?_
  refine am_pv_cons (v_ireturn (by decide +kernel)) trivial ?_
  exact trivial
def P_TC_cell (E : am_E) (k : Nat) : am_P := [(0, aLi 1), (1, aIs E k 1 Y_TC_isSheet), (4, z_ne 10), (7, aI (-2)), (9, aRi), (10, aLa 0), (11, aGet 0 15), (14, aLi 1), (15, aAa 4), (16, aIv E k 11 0 Y_Sheet_isThere), (19, z_ne 25), (22, aI (-11)), (24, aRi), (25, aLa 0), (26, aGet 0 15), (29, aLi 1), (30, aAa 4), (31, aLi 2), (32, aI 1), (33, aIv E k 11 2 Y_Sheet_holds), (36, z_ne 42), (39, aI (-12)), (41, aRi), (42, aLa 0), (43, aGet 0 15), (46, aLi 1), (47, aAa 4), (48, aLi 2), (49, aLi 3), (50, aIv E k 11 2 Y_Sheet_put), (53, aI 1), (54, aRi)]
set_option maxRecDepth 20000 in
theorem pv_TC_cell (E : am_E) (k : Nat) : am_pv E k Y_TC_cell.2.1 Y_TC_cell.2.2.1 Y_TC_cell.1.cls (P_TC_cell E k) := by
  refine am_pv_cons (v_iload_n (q := 1) (by decide +kernel) rfl) rfl ?_
  refine am_pv_cons (v_stat (idx := 194) ys_TC_isSheet (tb4 22 (by decide +kernel) rfl) (by decide +kernel)) rfl ?_
  refine am_pv_cons (v_if_ne (off := 6) (by decide +kernel) rfl) rfl ?_
  refine am_pv_cons (v_bipush (n := -2) (by decide +kernel) (by decide +kernel)) rfl ?_
  refine am_pv_cons (v_ireturn (by decide +kernel)) rfl ?_
  refine am_pv_cons (v_aload_n (q := 0) (by decide +kernel) rfl) rfl ?_
  refine am_pv_cons (v_get fl_TC_94 (by decide +kernel)) rfl ?_
  refine am_pv_cons (v_iload_n (q := 1) (by decide +kernel) rfl) rfl ?_
  refine am_pv_cons (v_aa (by decide) (by decide) (by decide +kernel)) rfl ?_
  refine am_pv_cons (v_virt (idx := 197) yv_Sheet_isThere rfl rfl (tb4 25 (by decide +kernel) rfl) (by decide +kernel)) rfl ?_
  refine am_pv_cons (v_if_ne (off := 6) (by decide +kernel) rfl) rfl ?_
  refine am_pv_cons (v_bipush (n := -11) (by decide +kernel) (by decide +kernel)) rfl ?_
  refine am_pv_cons (v_ireturn (by decide +kernel)) rfl ?_
  refine am_pv_cons (v_aload_n (q := 0) (by decide +kernel) rfl) rfl ?_
  refine am_pv_cons (v_get fl_TC_94 (by decide +kernel)) rfl ?_
  refine am_pv_cons (v_iload_n (q := 1) (by decide +kernel) rfl) rfl ?_
  refine am_pv_cons (v_aa (by decide) (by decide) (by decide +kernel)) rfl ?_
  refine am_pv_cons (v_iload_n (q := 2) (by decide +kernel) rfl) rfl ?_
  refine am_pv_cons (v_iconst (n := 1) (by decide +kernel) rfl) rfl ?_
  refine am_pv_cons (v_virt (idx := 343) yv_Sheet_holds rfl rfl (tb5 136 (by decide +kernel) rfl) (by decide +kernel)) rfl ?_
  refine am_pv_cons (v_if_ne (off := 6) (by decide +kernel) rfl) rfl ?_
  refine am_pv_cons (v_bipush (n := -12) (by decide +kernel) (by decide +kernel)) rfl ?_
  refine am_pv_cons (v_ireturn (by decide +kernel)) rfl ?_
  refine am_pv_cons (v_aload_n (q := 0) (by decide +kernel) rfl) rfl ?_
  refine am_pv_cons (v_get fl_TC_94 (by decide +kernel)) rfl ?_
  refine am_pv_cons (v_iload_n (q := 1) (by decide +kernel) rfl) rfl ?_
  refine am_pv_cons (v_aa (by decide) (by decide) (by decide +kernel)) rfl ?_
  refine am_pv_cons (v_iload_n (q := 2) (by decide +kernel) rfl) rfl ?_
  refine am_pv_cons (v_iload_n (q := 3) (by decide +kernel) rfl) rfl ?_
  refine am_pv_cons (v_virt (idx := 346) yv_Sheet_put rfl rfl (tb5 140 (by decide +kernel) rfl) (by decide +kernel)) rfl ?_
  refine am_pv_cons (v_iconst (n := 1) (by decide +kernel) rfl) rfl ?_
  refine am_pv_cons (v_ireturn (by decide +kernel)) trivial ?_
  exact trivial
def P_TC_copy (E : am_E) (k : Nat) : am_P := [(0, aLi 1), (1, aIs E k 1 Y_TC_isSheet), (4, z_eq 14), (7, aLi 3), (8, aIs E k 1 Y_TC_isSheet), (11, z_ne 17), (14, aI (-2)), (16, aRi), (17, aLa 0), (18, aGet 0 15), (21, aLi 1), (22, aAa 4), (23, aSa 6), (25, aLa 0), (26, aGet 0 15), (29, aLi 3), (30, aAa 4), (31, aSa 7), (33, aLa 6), (35, aIv E k 11 0 Y_Sheet_isThere), (38, z_eq 49), (41, aLa 7), (43, aIv E k 11 0 Y_Sheet_isThere), (46, z_ne 52), (49, aI (-11)), (51, aRi), (52, aLa 6), (54, aGet 11 0), (57, aLa 7), (59, aGet 11 0), (62, c_eq 68), (65, aI (-13)), (67, aRi), (68, aLa 6), (70, aLi 2), (71, aLi 5), (73, aIv E k 11 2 Y_Sheet_holds), (76, z_eq 91), (79, aLa 7), (81, aLi 4), (83, aLi 5), (85, aIv E k 11 2 Y_Sheet_holds), (88, z_ne 94), (91, aI (-12)), (93, aRi), (94, aLa 6), (96, aGet 11 2), (99, aLi 2), (100, aLa 7), (102, aGet 11 2), (105, aLi 4), (107, aLi 5), (109, aCpy k), (112, aLi 5), (114, aRi)]
set_option maxRecDepth 20000 in
theorem pv_TC_copy (E : am_E) (k : Nat) : am_pv E k Y_TC_copy.2.1 Y_TC_copy.2.2.1 Y_TC_copy.1.cls (P_TC_copy E k) := by
  refine am_pv_cons (v_iload_n (q := 1) (by decide +kernel) rfl) rfl ?_
  refine am_pv_cons (v_stat (idx := 194) ys_TC_isSheet (tb4 22 (by decide +kernel) rfl) (by decide +kernel)) rfl ?_
  refine am_pv_cons (v_if_eq (off := 10) (by decide +kernel) rfl) rfl ?_
  refine am_pv_cons (v_iload_n (q := 3) (by decide +kernel) rfl) rfl ?_
  refine am_pv_cons (v_stat (idx := 194) ys_TC_isSheet (tb4 22 (by decide +kernel) rfl) (by decide +kernel)) rfl ?_
  refine am_pv_cons (v_if_ne (off := 6) (by decide +kernel) rfl) rfl ?_
  refine am_pv_cons (v_bipush (n := -2) (by decide +kernel) (by decide +kernel)) rfl ?_
  refine am_pv_cons (v_ireturn (by decide +kernel)) rfl ?_
  refine am_pv_cons (v_aload_n (q := 0) (by decide +kernel) rfl) rfl ?_
  refine am_pv_cons (v_get fl_TC_94 (by decide +kernel)) rfl ?_
  refine am_pv_cons (v_iload_n (q := 1) (by decide +kernel) rfl) rfl ?_
  refine am_pv_cons (v_aa (by decide) (by decide) (by decide +kernel)) rfl ?_
  refine am_pv_cons (v_astore (by decide +kernel)) rfl ?_
  refine am_pv_cons (v_aload_n (q := 0) (by decide +kernel) rfl) rfl ?_
  refine am_pv_cons (v_get fl_TC_94 (by decide +kernel)) rfl ?_
  refine am_pv_cons (v_iload_n (q := 3) (by decide +kernel) rfl) rfl ?_
  refine am_pv_cons (v_aa (by decide) (by decide) (by decide +kernel)) rfl ?_
  refine am_pv_cons (v_astore (by decide +kernel)) rfl ?_
  refine am_pv_cons (v_aload (by decide +kernel)) rfl ?_
  refine am_pv_cons (v_virt (idx := 197) yv_Sheet_isThere rfl rfl (tb4 25 (by decide +kernel) rfl) (by decide +kernel)) rfl ?_
  refine am_pv_cons (v_if_eq (off := 11) (by decide +kernel) rfl) rfl ?_
  refine am_pv_cons (v_aload (by decide +kernel)) rfl ?_
  refine am_pv_cons (v_virt (idx := 197) yv_Sheet_isThere rfl rfl (tb4 25 (by decide +kernel) rfl) (by decide +kernel)) rfl ?_
  refine am_pv_cons (v_if_ne (off := 6) (by decide +kernel) rfl) rfl ?_
  refine am_pv_cons (v_bipush (n := -11) (by decide +kernel) (by decide +kernel)) rfl ?_
  refine am_pv_cons (v_ireturn (by decide +kernel)) rfl ?_
  refine am_pv_cons (v_aload (by decide +kernel)) rfl ?_
  refine am_pv_cons (v_get fl_TC_349 (by decide +kernel)) rfl ?_
  refine am_pv_cons (v_aload (by decide +kernel)) rfl ?_
  refine am_pv_cons (v_get fl_TC_349 (by decide +kernel)) rfl ?_
  refine am_pv_cons (v_ic_eq (off := 6) (by decide +kernel) rfl) rfl ?_
  refine am_pv_cons (v_bipush (n := -13) (by decide +kernel) (by decide +kernel)) rfl ?_
  refine am_pv_cons (v_ireturn (by decide +kernel)) rfl ?_
  refine am_pv_cons (v_aload (by decide +kernel)) rfl ?_
  refine am_pv_cons (v_iload_n (q := 2) (by decide +kernel) rfl) rfl ?_
  refine am_pv_cons (v_iload (by decide +kernel)) rfl ?_
  refine am_pv_cons (v_virt (idx := 343) yv_Sheet_holds rfl rfl (tb5 136 (by decide +kernel) rfl) (by decide +kernel)) rfl ?_
  refine am_pv_cons (v_if_eq (off := 15) (by decide +kernel) rfl) rfl ?_
  refine am_pv_cons (v_aload (by decide +kernel)) rfl ?_
  refine am_pv_cons (v_iload (by decide +kernel)) rfl ?_
  refine am_pv_cons (v_iload (by decide +kernel)) rfl ?_
  refine am_pv_cons (v_virt (idx := 343) yv_Sheet_holds rfl rfl (tb5 136 (by decide +kernel) rfl) (by decide +kernel)) rfl ?_
  refine am_pv_cons (v_if_ne (off := 6) (by decide +kernel) rfl) rfl ?_
  refine am_pv_cons (v_bipush (n := -12) (by decide +kernel) (by decide +kernel)) rfl ?_
  refine am_pv_cons (v_ireturn (by decide +kernel)) rfl ?_
  refine am_pv_cons (v_aload (by decide +kernel)) rfl ?_
  refine am_pv_cons (v_get fl_TC_250 (by decide +kernel)) rfl ?_
  refine am_pv_cons (v_iload_n (q := 2) (by decide +kernel) rfl) rfl ?_
  refine am_pv_cons (v_aload (by decide +kernel)) rfl ?_
  refine am_pv_cons (v_get fl_TC_250 (by decide +kernel)) rfl ?_
  refine am_pv_cons (v_iload (by decide +kernel)) rfl ?_
  refine am_pv_cons (v_iload (by decide +kernel)) rfl ?_
  refine am_pv_cons (v_cpy (idx := 352) (tb5 148 (by decide +kernel) rfl) cp_n cp_s cp_i (by decide +kernel)) rfl ?_
  refine am_pv_cons (v_iload (by decide +kernel)) rfl ?_
  refine am_pv_cons (v_ireturn (by decide +kernel)) trivial ?_
  exact trivial
def P_TC_feels (E : am_E) (k : Nat) : am_P := [(0, aLi 1), (1, aIs E k 1 Y_TC_isSheet), (4, z_eq 28), (7, aLi 2), (8, z_lt 28), (11, aLi 2), (12, aI 2), (13, c_gt 28), (16, aLi 4), (18, z_lt 28), (21, aLi 4), (23, aI 8), (25, c_le 31), (28, aI (-2)), (30, aRi), (31, aLa 0), (32, aGet 0 15), (35, aLi 1), (36, aAa 4), (37, aSa 5), (39, aLa 5), (41, aIv E k 11 0 Y_Sheet_isThere), (44, z_ne 50), (47, aI (-11)), (49, aRi), (50, aLa 5), (52, aGet 11 0), (55, aLi 2), (56, c_eq 62), (59, aI (-13)), (61, aRi), (62, aI 0), (63, aSi 6), (65, aLi 3), (66, aSi 7), (68, aI 0), (69, aSi 8), (71, aLi 8), (73, aLi 4), (75, c_ge 151), (78, aLa 5), (80, aLi 7), (82, aI 5), (83, aIv E k 11 2 Y_Sheet_holds), (86, z_ne 92), (89, aI (-12)), (91, aRi), (92, aLa 5), (94, aGet 11 2), (97, aSa 9), (99, aLa 0), (100, aLa 9), (102, aLi 7), (104, aAld 0), (105, aLa 9), (107, aLi 7), (109, aI 1), (110, a_iadd), (111, aAld 0), (112, aLa 9), (114, aLi 7), (116, aI 2), (117, a_iadd), (118, aAld 0), (119, aLa 9), (121, aLi 7), (123, aI 3), (124, a_iadd), (125, aAld 0), (126, aLa 9), (128, aLi 7), (130, aI 4), (131, a_iadd), (132, aAld 0), (133, aIv E k 0 5 Y_TC_feel), (136, z_lt 142), (139, aInc 6 1), (142, aInc 7 5), (145, aInc 8 1), (148, aGo 71), (151, aLi 6), (153, aRi)]
set_option maxRecDepth 20000 in
theorem pv_TC_feels (E : am_E) (k : Nat) : am_pv E k Y_TC_feels.2.1 Y_TC_feels.2.2.1 Y_TC_feels.1.cls (P_TC_feels E k) := by
  refine am_pv_cons (v_iload_n (q := 1) (by decide +kernel) rfl) rfl ?_
  refine am_pv_cons (v_stat (idx := 194) ys_TC_isSheet (tb4 22 (by decide +kernel) rfl) (by decide +kernel)) rfl ?_
  refine am_pv_cons (v_if_eq (off := 24) (by decide +kernel) rfl) rfl ?_
  refine am_pv_cons (v_iload_n (q := 2) (by decide +kernel) rfl) rfl ?_
  refine am_pv_cons (v_if_lt (off := 20) (by decide +kernel) rfl) rfl ?_
  refine am_pv_cons (v_iload_n (q := 2) (by decide +kernel) rfl) rfl ?_
  refine am_pv_cons (v_iconst (n := 2) (by decide +kernel) rfl) rfl ?_
  refine am_pv_cons (v_ic_gt (off := 15) (by decide +kernel) rfl) rfl ?_
  refine am_pv_cons (v_iload (by decide +kernel)) rfl ?_
  refine am_pv_cons (v_if_lt (off := 10) (by decide +kernel) rfl) rfl ?_
  refine am_pv_cons (v_iload (by decide +kernel)) rfl ?_
  refine am_pv_cons (v_bipush (n := 8) (by decide +kernel) (by decide +kernel)) rfl ?_
  refine am_pv_cons (v_ic_le (off := 6) (by decide +kernel) rfl) rfl ?_
  refine am_pv_cons (v_bipush (n := -2) (by decide +kernel) (by decide +kernel)) rfl ?_
  refine am_pv_cons (v_ireturn (by decide +kernel)) rfl ?_
  refine am_pv_cons (v_aload_n (q := 0) (by decide +kernel) rfl) rfl ?_
  refine am_pv_cons (v_get fl_TC_94 (by decide +kernel)) rfl ?_
  refine am_pv_cons (v_iload_n (q := 1) (by decide +kernel) rfl) rfl ?_
  refine am_pv_cons (v_aa (by decide) (by decide) (by decide +kernel)) rfl ?_
  refine am_pv_cons (v_astore (by decide +kernel)) rfl ?_
  refine am_pv_cons (v_aload (by decide +kernel)) rfl ?_
  refine am_pv_cons (v_virt (idx := 197) yv_Sheet_isThere rfl rfl (tb4 25 (by decide +kernel) rfl) (by decide +kernel)) rfl ?_
  refine am_pv_cons (v_if_ne (off := 6) (by decide +kernel) rfl) rfl ?_
  refine am_pv_cons (v_bipush (n := -11) (by decide +kernel) (by decide +kernel)) rfl ?_
  refine am_pv_cons (v_ireturn (by decide +kernel)) rfl ?_
  refine am_pv_cons (v_aload (by decide +kernel)) rfl ?_
  refine am_pv_cons (v_get fl_TC_349 (by decide +kernel)) rfl ?_
  refine am_pv_cons (v_iload_n (q := 2) (by decide +kernel) rfl) rfl ?_
  refine am_pv_cons (v_ic_eq (off := 6) (by decide +kernel) rfl) rfl ?_
  refine am_pv_cons (v_bipush (n := -13) (by decide +kernel) (by decide +kernel)) rfl ?_
  refine am_pv_cons (v_ireturn (by decide +kernel)) rfl ?_
  refine am_pv_cons (v_iconst (n := 0) (by decide +kernel) rfl) rfl ?_
  refine am_pv_cons (v_istore (by decide +kernel)) rfl ?_
  refine am_pv_cons (v_iload_n (q := 3) (by decide +kernel) rfl) rfl ?_
  refine am_pv_cons (v_istore (by decide +kernel)) rfl ?_
  refine am_pv_cons (v_iconst (n := 0) (by decide +kernel) rfl) rfl ?_
  refine am_pv_cons (v_istore (by decide +kernel)) rfl ?_
  refine am_pv_cons (v_iload (by decide +kernel)) rfl ?_
  refine am_pv_cons (v_iload (by decide +kernel)) rfl ?_
  refine am_pv_cons (v_ic_ge (off := 76) (by decide +kernel) rfl) rfl ?_
  refine am_pv_cons (v_aload (by decide +kernel)) rfl ?_
  refine am_pv_cons (v_iload (by decide +kernel)) rfl ?_
  refine am_pv_cons (v_iconst (n := 5) (by decide +kernel) rfl) rfl ?_
  refine am_pv_cons (v_virt (idx := 343) yv_Sheet_holds rfl rfl (tb5 136 (by decide +kernel) rfl) (by decide +kernel)) rfl ?_
  refine am_pv_cons (v_if_ne (off := 6) (by decide +kernel) rfl) rfl ?_
  refine am_pv_cons (v_bipush (n := -12) (by decide +kernel) (by decide +kernel)) rfl ?_
  refine am_pv_cons (v_ireturn (by decide +kernel)) rfl ?_
  refine am_pv_cons (v_aload (by decide +kernel)) rfl ?_
  refine am_pv_cons (v_get fl_TC_250 (by decide +kernel)) rfl ?_
  refine am_pv_cons (v_astore (by decide +kernel)) rfl ?_
  refine am_pv_cons (v_aload_n (q := 0) (by decide +kernel) rfl) rfl ?_
  refine am_pv_cons (v_aload (by decide +kernel)) rfl ?_
  refine am_pv_cons (v_iload (by decide +kernel)) rfl ?_
  refine am_pv_cons (v_iald (by decide +kernel)) rfl ?_
  refine am_pv_cons (v_aload (by decide +kernel)) rfl ?_
  refine am_pv_cons (v_iload (by decide +kernel)) rfl ?_
  refine am_pv_cons (v_iconst (n := 1) (by decide +kernel) rfl) rfl ?_
  refine am_pv_cons (v_iadd (by decide +kernel)) rfl ?_
  refine am_pv_cons (v_iald (by decide +kernel)) rfl ?_
  refine am_pv_cons (v_aload (by decide +kernel)) rfl ?_
  refine am_pv_cons (v_iload (by decide +kernel)) rfl ?_
  refine am_pv_cons (v_iconst (n := 2) (by decide +kernel) rfl) rfl ?_
  refine am_pv_cons (v_iadd (by decide +kernel)) rfl ?_
  refine am_pv_cons (v_iald (by decide +kernel)) rfl ?_
  refine am_pv_cons (v_aload (by decide +kernel)) rfl ?_
  refine am_pv_cons (v_iload (by decide +kernel)) rfl ?_
  refine am_pv_cons (v_iconst (n := 3) (by decide +kernel) rfl) rfl ?_
  refine am_pv_cons (v_iadd (by decide +kernel)) rfl ?_
  refine am_pv_cons (v_iald (by decide +kernel)) rfl ?_
  refine am_pv_cons (v_aload (by decide +kernel)) rfl ?_
  refine am_pv_cons (v_iload (by decide +kernel)) rfl ?_
  refine am_pv_cons (v_iconst (n := 4) (by decide +kernel) rfl) rfl ?_
  refine am_pv_cons (v_iadd (by decide +kernel)) rfl ?_
  refine am_pv_cons (v_iald (by decide +kernel)) rfl ?_
  refine am_pv_cons (v_virt (idx := 358) yv_TC_feel rfl rfl (tb5 153 (by decide +kernel) rfl) (by decide +kernel)) rfl ?_
  refine am_pv_cons (v_if_lt (off := 6) (by decide +kernel) rfl) rfl ?_
  refine am_pv_cons (v_iinc (n := 1) (by decide +kernel) (by decide +kernel)) rfl ?_
  refine am_pv_cons (v_iinc (n := 5) (by decide +kernel) (by decide +kernel)) rfl ?_
  refine am_pv_cons (v_iinc (n := 1) (by decide +kernel) (by decide +kernel)) rfl ?_
  refine am_pv_cons (v_goto (off := -77) (by decide +kernel) rfl) rfl ?_
  refine am_pv_cons (v_iload (by decide +kernel)) rfl ?_
  refine am_pv_cons (v_ireturn (by decide +kernel)) trivial ?_
  exact trivial
def P_TC_taken (E : am_E) (k : Nat) : am_P := [(0, aLi 2), (1, aIs E k 1 Y_TC_isKind), (4, z_ne 10), (7, aI (-2)), (9, aRi), (10, aLa 0), (11, aLi 1), (12, aIv E k 0 1 Y_TC_isCamping), (15, z_ne 21), (18, aI (-11)), (20, aRi), (21, aLa 0), (22, aGet 0 10), (25, aLi 1), (26, aAa 2), (27, aGet 8 3), (30, aLi 2), (31, aIs E k 2 Y_TC_isUnder), (34, z_eq 49), (37, aLa 0), (38, aGet 0 10), (41, aLi 1), (42, aAa 2), (43, aGet 8 4), (46, aGo 51), (49, aI (-13)), (51, aRi)]
set_option maxRecDepth 20000 in
theorem pv_TC_taken (E : am_E) (k : Nat) : am_pv E k Y_TC_taken.2.1 Y_TC_taken.2.2.1 Y_TC_taken.1.cls (P_TC_taken E k) := by
  refine am_pv_cons (v_iload_n (q := 2) (by decide +kernel) rfl) rfl ?_
  refine am_pv_cons (v_stat (idx := 191) ys_TC_isKind (tb4 19 (by decide +kernel) rfl) (by decide +kernel)) rfl ?_
  refine am_pv_cons (v_if_ne (off := 6) (by decide +kernel) rfl) rfl ?_
  refine am_pv_cons (v_bipush (n := -2) (by decide +kernel) (by decide +kernel)) rfl ?_
  refine am_pv_cons (v_ireturn (by decide +kernel)) rfl ?_
  refine am_pv_cons (v_aload_n (q := 0) (by decide +kernel) rfl) rfl ?_
  refine am_pv_cons (v_iload_n (q := 1) (by decide +kernel) rfl) rfl ?_
  refine am_pv_cons (v_virt (idx := 212) yv_TC_isCamping rfl rfl (tb4 44 (by decide +kernel) rfl) (by decide +kernel)) rfl ?_
  refine am_pv_cons (v_if_ne (off := 6) (by decide +kernel) rfl) rfl ?_
  refine am_pv_cons (v_bipush (n := -11) (by decide +kernel) (by decide +kernel)) rfl ?_
  refine am_pv_cons (v_ireturn (by decide +kernel)) rfl ?_
  refine am_pv_cons (v_aload_n (q := 0) (by decide +kernel) rfl) rfl ?_
  refine am_pv_cons (v_get fl_TC_65 (by decide +kernel)) rfl ?_
  refine am_pv_cons (v_iload_n (q := 1) (by decide +kernel) rfl) rfl ?_
  refine am_pv_cons (v_aa (by decide) (by decide) (by decide +kernel)) rfl ?_
  refine am_pv_cons (v_get fl_TC_215 (by decide +kernel)) rfl ?_
  refine am_pv_cons (v_iload_n (q := 2) (by decide +kernel) rfl) rfl ?_
  refine am_pv_cons (v_stat (idx := 361) ys_TC_isUnder (tb5 158 (by decide +kernel) rfl) (by decide +kernel)) rfl ?_
  refine am_pv_cons (v_if_eq (off := 15) (by decide +kernel) rfl) rfl ?_
  refine am_pv_cons (v_aload_n (q := 0) (by decide +kernel) rfl) rfl ?_
  refine am_pv_cons (v_get fl_TC_65 (by decide +kernel)) rfl ?_
  refine am_pv_cons (v_iload_n (q := 1) (by decide +kernel) rfl) rfl ?_
  refine am_pv_cons (v_aa (by decide) (by decide) (by decide +kernel)) rfl ?_
  refine am_pv_cons (v_get fl_TC_364 (by decide +kernel)) rfl ?_
  refine am_pv_cons (v_goto (off := 5) (by decide +kernel) rfl) rfl ?_
  refine am_pv_cons (v_bipush (n := -13) (by decide +kernel) (by decide +kernel)) rfl ?_
  refine am_pv_cons (v_ireturn (by decide +kernel)) trivial ?_
  exact trivial
def P_TC_isSheet (E : am_E) (k : Nat) : am_P := [(0, aLi 0), (1, z_lt 13), (4, aLi 0), (5, aI 4), (6, c_ge 13), (9, aI 1), (10, aGo 14), (13, aI 0), (14, aRi)]
set_option maxRecDepth 20000 in
theorem pv_TC_isSheet (E : am_E) (k : Nat) : am_pv E k Y_TC_isSheet.2.1 Y_TC_isSheet.2.2.1 Y_TC_isSheet.1.cls (P_TC_isSheet E k) := by
  refine am_pv_cons (v_iload_n (q := 0) (by decide +kernel) rfl) rfl ?_
  refine am_pv_cons (v_if_lt (off := 12) (by decide +kernel) rfl) rfl ?_
  refine am_pv_cons (v_iload_n (q := 0) (by decide +kernel) rfl) rfl ?_
  refine am_pv_cons (v_iconst (n := 4) (by decide +kernel) rfl) rfl ?_
  refine am_pv_cons (v_ic_ge (off := 7) (by decide +kernel) rfl) rfl ?_
  refine am_pv_cons (v_iconst (n := 1) (by decide +kernel) rfl) rfl ?_
  refine am_pv_cons (v_goto (off := 4) (by decide +kernel) rfl) rfl ?_
  refine am_pv_cons (v_iconst (n := 0) (by decide +kernel) rfl) rfl ?_
  refine am_pv_cons (v_ireturn (by decide +kernel)) trivial ?_
  exact trivial
def P_TextReader_isText (E : am_E) (k : Nat) : am_P := [(0, aLa 0), (1, aGet 6 5), (4, aIv E k 5 0 Y_Text_clear), (7, aLa 0), (8, aIv E k 6 0 Y_TextReader_layTokens), (11, aLa 0), (12, aI 0), (13, aPut 6 3), (16, aLa 0), (17, aLa 0), (18, aGet 6 1), (21, aI 0), (22, aAld 0), (23, aPut 6 4), (26, aLa 0), (27, aI (-3)), (29, aIv E k 6 1 Y_TextReader_skip), (32, z_eq 52), (35, aLa 0), (36, aI 0), (37, aIv E k 6 1 Y_TextReader_readOr), (40, z_eq 52), (43, aLa 0), (44, aI (-59)), (46, aIv E k 6 1 Y_TextReader_skip), (49, z_ne 54), (52, aI 0), (53, aRi), (54, aLa 0), (55, aGet 6 5), (58, aIv E k 5 0 Y_Text_endCost), (61, aLa 0), (62, aI (-4)), (64, aIv E k 6 1 Y_TextReader_skip), (67, z_eq 99), (70, aLa 0), (71, aI 0), (72, aIv E k 6 1 Y_TextReader_readOr), (75, z_eq 99), (78, aLa 0), (79, aI (-59)), (81, aIv E k 6 1 Y_TextReader_skip), (84, z_eq 99), (87, aLa 0), (88, aGet 6 4), (91, aI (-1)), (92, c_ne 99), (95, aI 1), (96, aGo 100), (99, aI 0), (100, aRi)]
set_option maxRecDepth 20000 in
theorem pv_TextReader_isText (E : am_E) (k : Nat) : am_pv E k Y_TextReader_isText.2.1 Y_TextReader_isText.2.2.1 Y_TextReader_isText.1.cls (P_TextReader_isText E k) := by
  refine am_pv_cons (v_aload_n (q := 0) (by decide +kernel) rfl) rfl ?_
  refine am_pv_cons (v_get fl_TextReader_21 (by decide +kernel)) rfl ?_
  refine am_pv_cons (v_virt (idx := 29) yv_Text_clear rfl rfl (tb3 99 (by decide +kernel) rfl) (by decide +kernel)) rfl ?_
  refine am_pv_cons (v_aload_n (q := 0) (by decide +kernel) rfl) rfl ?_
  refine am_pv_cons (v_virt (idx := 32) yv_TextReader_layTokens rfl rfl (tb3 103 (by decide +kernel) rfl) (by decide +kernel)) rfl ?_
  refine am_pv_cons (v_aload_n (q := 0) (by decide +kernel) rfl) rfl ?_
  refine am_pv_cons (v_iconst (n := 0) (by decide +kernel) rfl) rfl ?_
  refine am_pv_cons (v_put fw_TextReader_35 (by decide +kernel)) rfl ?_
  refine am_pv_cons (v_aload_n (q := 0) (by decide +kernel) rfl) rfl ?_
  refine am_pv_cons (v_aload_n (q := 0) (by decide +kernel) rfl) rfl ?_
  refine am_pv_cons (v_get fl_TextReader_11 (by decide +kernel)) rfl ?_
  refine am_pv_cons (v_iconst (n := 0) (by decide +kernel) rfl) rfl ?_
  refine am_pv_cons (v_iald (by decide +kernel)) rfl ?_
  refine am_pv_cons (v_put fw_TextReader_39 (by decide +kernel)) rfl ?_
  refine am_pv_cons (v_aload_n (q := 0) (by decide +kernel) rfl) rfl ?_
  refine am_pv_cons (v_bipush (n := -3) (by decide +kernel) (by decide +kernel)) rfl ?_
  refine am_pv_cons (v_virt (idx := 42) yv_TextReader_skip rfl rfl (tb3 200 (by decide +kernel) rfl) (by decide +kernel)) rfl ?_
  refine am_pv_cons (v_if_eq (off := 20) (by decide +kernel) rfl) rfl ?_
  refine am_pv_cons (v_aload_n (q := 0) (by decide +kernel) rfl) rfl ?_
  refine am_pv_cons (v_iconst (n := 0) (by decide +kernel) rfl) rfl ?_
  refine am_pv_cons (v_virt (idx := 46) yv_TextReader_readOr rfl rfl (tb3 204 (by decide +kernel) rfl) (by decide +kernel)) rfl ?_
  refine am_pv_cons (v_if_eq (off := 12) (by decide +kernel) rfl) rfl ?_
  refine am_pv_cons (v_aload_n (q := 0) (by decide +kernel) rfl) rfl ?_
  refine am_pv_cons (v_bipush (n := -59) (by decide +kernel) (by decide +kernel)) rfl ?_
  refine am_pv_cons (v_virt (idx := 42) yv_TextReader_skip rfl rfl (tb3 200 (by decide +kernel) rfl) (by decide +kernel)) rfl ?_
  refine am_pv_cons (v_if_ne (off := 5) (by decide +kernel) rfl) rfl ?_
  refine am_pv_cons (v_iconst (n := 0) (by decide +kernel) rfl) rfl ?_
  refine am_pv_cons (v_ireturn (by decide +kernel)) rfl ?_
  refine am_pv_cons (v_aload_n (q := 0) (by decide +kernel) rfl) rfl ?_
  refine am_pv_cons (v_get fl_TextReader_21 (by decide +kernel)) rfl ?_
  refine am_pv_cons (v_virt (idx := 49) yv_Text_endCost rfl rfl (tb3 234 (by decide +kernel) rfl) (by decide +kernel)) rfl ?_
  refine am_pv_cons (v_aload_n (q := 0) (by decide +kernel) rfl) rfl ?_
  refine am_pv_cons (v_bipush (n := -4) (by decide +kernel) (by decide +kernel)) rfl ?_
  refine am_pv_cons (v_virt (idx := 42) yv_TextReader_skip rfl rfl (tb3 200 (by decide +kernel) rfl) (by decide +kernel)) rfl ?_
  refine am_pv_cons (v_if_eq (off := 32) (by decide +kernel) rfl) rfl ?_
  refine am_pv_cons (v_aload_n (q := 0) (by decide +kernel) rfl) rfl ?_
  refine am_pv_cons (v_iconst (n := 0) (by decide +kernel) rfl) rfl ?_
  refine am_pv_cons (v_virt (idx := 46) yv_TextReader_readOr rfl rfl (tb3 204 (by decide +kernel) rfl) (by decide +kernel)) rfl ?_
  refine am_pv_cons (v_if_eq (off := 24) (by decide +kernel) rfl) rfl ?_
  refine am_pv_cons (v_aload_n (q := 0) (by decide +kernel) rfl) rfl ?_
  refine am_pv_cons (v_bipush (n := -59) (by decide +kernel) (by decide +kernel)) rfl ?_
  refine am_pv_cons (v_virt (idx := 42) yv_TextReader_skip rfl rfl (tb3 200 (by decide +kernel) rfl) (by decide +kernel)) rfl ?_
  refine am_pv_cons (v_if_eq (off := 15) (by decide +kernel) rfl) rfl ?_
  refine am_pv_cons (v_aload_n (q := 0) (by decide +kernel) rfl) rfl ?_
  refine am_pv_cons (v_get fl_TextReader_39 (by decide +kernel)) rfl ?_
  refine am_pv_cons (v_iconst (n := -1) (by decide +kernel) rfl) rfl ?_
  refine am_pv_cons (v_ic_ne (off := 7) (by decide +kernel) rfl) rfl ?_
  refine am_pv_cons (v_iconst (n := 1) (by decide +kernel) rfl) rfl ?_
  refine am_pv_cons (v_goto (off := 4) (by decide +kernel) rfl) rfl ?_
  refine am_pv_cons (v_iconst (n := 0) (by decide +kernel) rfl) rfl ?_
  refine am_pv_cons (v_ireturn (by decide +kernel)) trivial ?_
  exact trivial
def P_TextReader_place (E : am_E) (k : Nat) : am_P := [(0, aLa 0), (1, aGet 6 2), (4, aLa 0), (5, aGet 6 3), (8, aAld 0), (9, aRi)]
set_option maxRecDepth 20000 in
theorem pv_TextReader_place (E : am_E) (k : Nat) : am_pv E k Y_TextReader_place.2.1 Y_TextReader_place.2.2.1 Y_TextReader_place.1.cls (P_TextReader_place E k) := by
  refine am_pv_cons (v_aload_n (q := 0) (by decide +kernel) rfl) rfl ?_
  refine am_pv_cons (v_get fl_TextReader_15 (by decide +kernel)) rfl ?_
  refine am_pv_cons (v_aload_n (q := 0) (by decide +kernel) rfl) rfl ?_
  refine am_pv_cons (v_get fl_TextReader_35 (by decide +kernel)) rfl ?_
  refine am_pv_cons (v_iald (by decide +kernel)) rfl ?_
  refine am_pv_cons (v_ireturn (by decide +kernel)) trivial ?_
  exact trivial
def P_TextReader_layTokens (E : am_E) (k : Nat) : am_P := [(0, aI 0), (1, aSi 1), (2, aI 1), (3, aSi 2), (4, aI 0), (5, aSi 3), (6, aLi 3), (7, aI 161), (10, c_ge 85), (13, aLi 2), (14, z_eq 85), (17, aLa 0), (18, aLi 1), (19, aIv E k 6 1 Y_TextReader_skipBlanks), (22, aSi 4), (24, aLa 0), (25, aLi 4), (27, aIv E k 6 1 Y_TextReader_endOfToken), (30, aSi 1), (31, aLa 0), (32, aGet 6 2), (35, aLi 3), (36, aLi 4), (38, aAst), (39, aLa 0), (40, aGet 6 1), (43, aLi 3), (44, aLa 0), (45, aLi 4), (47, aLi 1), (48, aIv E k 6 2 Y_TextReader_tokenOf), (51, aAst), (52, aLa 0), (53, aGet 6 1), (56, aLi 3), (57, aAld 0), (58, aI (-1)), (59, c_eq 77), (62, aLa 0), (63, aGet 6 1), (66, aLi 3), (67, aAld 0), (68, aI (-2)), (70, c_eq 77), (73, aI 1), (74, aGo 78), (77, aI 0), (78, aSi 2), (79, aInc 3 1), (82, aGo 6), (85, aRv)]
set_option maxRecDepth 20000 in
theorem pv_TextReader_layTokens (E : am_E) (k : Nat) : am_pv E k Y_TextReader_layTokens.2.1 Y_TextReader_layTokens.2.2.1 Y_TextReader_layTokens.1.cls (P_TextReader_layTokens E k) := by
  refine am_pv_cons (v_iconst (n := 0) (by decide +kernel) rfl) rfl ?_
  refine am_pv_cons (v_istore_n (q := 1) (by decide +kernel) rfl) rfl ?_
  refine am_pv_cons (v_iconst (n := 1) (by decide +kernel) rfl) rfl ?_
  refine am_pv_cons (v_istore_n (q := 2) (by decide +kernel) rfl) rfl ?_
  refine am_pv_cons (v_iconst (n := 0) (by decide +kernel) rfl) rfl ?_
  refine am_pv_cons (v_istore_n (q := 3) (by decide +kernel) rfl) rfl ?_
  refine am_pv_cons (v_iload_n (q := 3) (by decide +kernel) rfl) rfl ?_
  refine am_pv_cons (v_sipush (n := 161) (by decide +kernel) (by decide +kernel)) rfl ?_
  refine am_pv_cons (v_ic_ge (off := 75) (by decide +kernel) rfl) rfl ?_
  refine am_pv_cons (v_iload_n (q := 2) (by decide +kernel) rfl) rfl ?_
  refine am_pv_cons (v_if_eq (off := 71) (by decide +kernel) rfl) rfl ?_
  refine am_pv_cons (v_aload_n (q := 0) (by decide +kernel) rfl) rfl ?_
  refine am_pv_cons (v_iload_n (q := 1) (by decide +kernel) rfl) rfl ?_
  refine am_pv_cons (v_virt (idx := 52) yv_TextReader_skipBlanks rfl rfl (tb3 107 (by decide +kernel) rfl) (by decide +kernel)) rfl ?_
  refine am_pv_cons (v_istore (by decide +kernel)) rfl ?_
  refine am_pv_cons (v_aload_n (q := 0) (by decide +kernel) rfl) rfl ?_
  refine am_pv_cons (v_iload (by decide +kernel)) rfl ?_
  refine am_pv_cons (v_virt (idx := 56) yv_TextReader_endOfToken rfl rfl (tb3 112 (by decide +kernel) rfl) (by decide +kernel)) rfl ?_
  refine am_pv_cons (v_istore_n (q := 1) (by decide +kernel) rfl) rfl ?_
  refine am_pv_cons (v_aload_n (q := 0) (by decide +kernel) rfl) rfl ?_
  refine am_pv_cons (v_get fl_TextReader_15 (by decide +kernel)) rfl ?_
  refine am_pv_cons (v_iload_n (q := 3) (by decide +kernel) rfl) rfl ?_
  refine am_pv_cons (v_iload (by decide +kernel)) rfl ?_
  refine am_pv_cons (v_iast (by decide +kernel)) rfl ?_
  refine am_pv_cons (v_aload_n (q := 0) (by decide +kernel) rfl) rfl ?_
  refine am_pv_cons (v_get fl_TextReader_11 (by decide +kernel)) rfl ?_
  refine am_pv_cons (v_iload_n (q := 3) (by decide +kernel) rfl) rfl ?_
  refine am_pv_cons (v_aload_n (q := 0) (by decide +kernel) rfl) rfl ?_
  refine am_pv_cons (v_iload (by decide +kernel)) rfl ?_
  refine am_pv_cons (v_iload_n (q := 1) (by decide +kernel) rfl) rfl ?_
  refine am_pv_cons (v_virt (idx := 59) yv_TextReader_tokenOf rfl rfl (tb3 125 (by decide +kernel) rfl) (by decide +kernel)) rfl ?_
  refine am_pv_cons (v_iast (by decide +kernel)) rfl ?_
  refine am_pv_cons (v_aload_n (q := 0) (by decide +kernel) rfl) rfl ?_
  refine am_pv_cons (v_get fl_TextReader_11 (by decide +kernel)) rfl ?_
  refine am_pv_cons (v_iload_n (q := 3) (by decide +kernel) rfl) rfl ?_
  refine am_pv_cons (v_iald (by decide +kernel)) rfl ?_
  refine am_pv_cons (v_iconst (n := -1) (by decide +kernel) rfl) rfl ?_
  refine am_pv_cons (v_ic_eq (off := 18) (by decide +kernel) rfl) rfl ?_
  refine am_pv_cons (v_aload_n (q := 0) (by decide +kernel) rfl) rfl ?_
  refine am_pv_cons (v_get fl_TextReader_11 (by decide +kernel)) rfl ?_
  refine am_pv_cons (v_iload_n (q := 3) (by decide +kernel) rfl) rfl ?_
  refine am_pv_cons (v_iald (by decide +kernel)) rfl ?_
  refine am_pv_cons (v_bipush (n := -2) (by decide +kernel) (by decide +kernel)) rfl ?_
  refine am_pv_cons (v_ic_eq (off := 7) (by decide +kernel) rfl) rfl ?_
  refine am_pv_cons (v_iconst (n := 1) (by decide +kernel) rfl) rfl ?_
  refine am_pv_cons (v_goto (off := 4) (by decide +kernel) rfl) rfl ?_
  refine am_pv_cons (v_iconst (n := 0) (by decide +kernel) rfl) rfl ?_
  refine am_pv_cons (v_istore_n (q := 2) (by decide +kernel) rfl) rfl ?_
  refine am_pv_cons (v_iinc (n := 1) (by decide +kernel) (by decide +kernel)) rfl ?_
  refine am_pv_cons (v_goto (off := -76) (by decide +kernel) rfl) rfl ?_
  refine am_pv_cons (v_return_ (by decide +kernel)) trivial ?_
  exact trivial
def P_TextReader_skipBlanks (E : am_E) (k : Nat) : am_P := [(0, aLi 1), (1, aSi 2), (2, aI 0), (3, aSi 3), (4, aLi 3), (5, aI 160), (8, c_ge 46), (11, aLa 0), (12, aGet 6 0), (15, aLi 2), (16, aIv E k 3 1 Y_Tape_at), (19, aI 32), (21, c_eq 37), (24, aLa 0), (25, aGet 6 0), (28, aLi 2), (29, aIv E k 3 1 Y_Tape_at), (32, aI 10), (34, c_ne 46), (37, aInc 2 1), (40, aInc 3 1), (43, aGo 4), (46, aLi 2), (47, aRi)]
set_option maxRecDepth 20000 in
theorem pv_TextReader_skipBlanks (E : am_E) (k : Nat) : am_pv E k Y_TextReader_skipBlanks.2.1 Y_TextReader_skipBlanks.2.2.1 Y_TextReader_skipBlanks.1.cls (P_TextReader_skipBlanks E k) := by
  refine am_pv_cons (v_iload_n (q := 1) (by decide +kernel) rfl) rfl ?_
  refine am_pv_cons (v_istore_n (q := 2) (by decide +kernel) rfl) rfl ?_
  refine am_pv_cons (v_iconst (n := 0) (by decide +kernel) rfl) rfl ?_
  refine am_pv_cons (v_istore_n (q := 3) (by decide +kernel) rfl) rfl ?_
  refine am_pv_cons (v_iload_n (q := 3) (by decide +kernel) rfl) rfl ?_
  refine am_pv_cons (v_sipush (n := 160) (by decide +kernel) (by decide +kernel)) rfl ?_
  refine am_pv_cons (v_ic_ge (off := 38) (by decide +kernel) rfl) rfl ?_
  refine am_pv_cons (v_aload_n (q := 0) (by decide +kernel) rfl) rfl ?_
  refine am_pv_cons (v_get fl_TextReader_25 (by decide +kernel)) rfl ?_
  refine am_pv_cons (v_iload_n (q := 2) (by decide +kernel) rfl) rfl ?_
  refine am_pv_cons (v_virt (idx := 63) yv_Tape_at rfl rfl (tb3 111 (by decide +kernel) rfl) (by decide +kernel)) rfl ?_
  refine am_pv_cons (v_bipush (n := 32) (by decide +kernel) (by decide +kernel)) rfl ?_
  refine am_pv_cons (v_ic_eq (off := 16) (by decide +kernel) rfl) rfl ?_
  refine am_pv_cons (v_aload_n (q := 0) (by decide +kernel) rfl) rfl ?_
  refine am_pv_cons (v_get fl_TextReader_25 (by decide +kernel)) rfl ?_
  refine am_pv_cons (v_iload_n (q := 2) (by decide +kernel) rfl) rfl ?_
  refine am_pv_cons (v_virt (idx := 63) yv_Tape_at rfl rfl (tb3 111 (by decide +kernel) rfl) (by decide +kernel)) rfl ?_
  refine am_pv_cons (v_bipush (n := 10) (by decide +kernel) (by decide +kernel)) rfl ?_
  refine am_pv_cons (v_ic_ne (off := 12) (by decide +kernel) rfl) rfl ?_
  refine am_pv_cons (v_iinc (n := 1) (by decide +kernel) (by decide +kernel)) rfl ?_
  refine am_pv_cons (v_iinc (n := 1) (by decide +kernel) (by decide +kernel)) rfl ?_
  refine am_pv_cons (v_goto (off := -39) (by decide +kernel) rfl) rfl ?_
  refine am_pv_cons (v_iload_n (q := 2) (by decide +kernel) rfl) rfl ?_
  refine am_pv_cons (v_ireturn (by decide +kernel)) trivial ?_
  exact trivial
def P_TextReader_endOfToken (E : am_E) (k : Nat) : am_P := [(0, aLi 1), (1, aI 1), (2, a_iadd), (3, aSi 2), (4, aLa 0), (5, aGet 6 0), (8, aLi 1), (9, aIv E k 3 1 Y_Tape_isLetter), (12, aSi 3), (13, aLa 0), (14, aGet 6 0), (17, aLi 1), (18, aIv E k 3 1 Y_Tape_isDigit), (21, aSi 4), (23, aI 0), (24, aSi 5), (26, aLi 5), (28, aI 160), (31, c_ge 74), (34, aLi 3), (35, z_eq 49), (38, aLa 0), (39, aGet 6 0), (42, aLi 2), (43, aIv E k 3 1 Y_Tape_isLetter), (46, z_ne 65), (49, aLi 4), (51, z_eq 74), (54, aLa 0), (55, aGet 6 0), (58, aLi 2), (59, aIv E k 3 1 Y_Tape_isDigit), (62, z_eq 74), (65, aInc 2 1), (68, aInc 5 1), (71, aGo 26), (74, aLi 2), (75, aRi)]
set_option maxRecDepth 20000 in
theorem pv_TextReader_endOfToken (E : am_E) (k : Nat) : am_pv E k Y_TextReader_endOfToken.2.1 Y_TextReader_endOfToken.2.2.1 Y_TextReader_endOfToken.1.cls (P_TextReader_endOfToken E k) := by
  refine am_pv_cons (v_iload_n (q := 1) (by decide +kernel) rfl) rfl ?_
  refine am_pv_cons (v_iconst (n := 1) (by decide +kernel) rfl) rfl ?_
  refine am_pv_cons (v_iadd (by decide +kernel)) rfl ?_
  refine am_pv_cons (v_istore_n (q := 2) (by decide +kernel) rfl) rfl ?_
  refine am_pv_cons (v_aload_n (q := 0) (by decide +kernel) rfl) rfl ?_
  refine am_pv_cons (v_get fl_TextReader_25 (by decide +kernel)) rfl ?_
  refine am_pv_cons (v_iload_n (q := 1) (by decide +kernel) rfl) rfl ?_
  refine am_pv_cons (v_virt (idx := 67) yv_Tape_isLetter rfl rfl (tb3 116 (by decide +kernel) rfl) (by decide +kernel)) rfl ?_
  refine am_pv_cons (v_istore_n (q := 3) (by decide +kernel) rfl) rfl ?_
  refine am_pv_cons (v_aload_n (q := 0) (by decide +kernel) rfl) rfl ?_
  refine am_pv_cons (v_get fl_TextReader_25 (by decide +kernel)) rfl ?_
  refine am_pv_cons (v_iload_n (q := 1) (by decide +kernel) rfl) rfl ?_
  refine am_pv_cons (v_virt (idx := 70) yv_Tape_isDigit rfl rfl (tb3 120 (by decide +kernel) rfl) (by decide +kernel)) rfl ?_
  refine am_pv_cons (v_istore (by decide +kernel)) rfl ?_
  refine am_pv_cons (v_iconst (n := 0) (by decide +kernel) rfl) rfl ?_
  refine am_pv_cons (v_istore (by decide +kernel)) rfl ?_
  refine am_pv_cons (v_iload (by decide +kernel)) rfl ?_
  refine am_pv_cons (v_sipush (n := 160) (by decide +kernel) (by decide +kernel)) rfl ?_
  refine am_pv_cons (v_ic_ge (off := 43) (by decide +kernel) rfl) rfl ?_
  refine am_pv_cons (v_iload_n (q := 3) (by decide +kernel) rfl) rfl ?_
  refine am_pv_cons (v_if_eq (off := 14) (by decide +kernel) rfl) rfl ?_
  refine am_pv_cons (v_aload_n (q := 0) (by decide +kernel) rfl) rfl ?_
  refine am_pv_cons (v_get fl_TextReader_25 (by decide +kernel)) rfl ?_
  refine am_pv_cons (v_iload_n (q := 2) (by decide +kernel) rfl) rfl ?_
  refine am_pv_cons (v_virt (idx := 67) yv_Tape_isLetter rfl rfl (tb3 116 (by decide +kernel) rfl) (by decide +kernel)) rfl ?_
  refine am_pv_cons (v_if_ne (off := 19) (by decide +kernel) rfl) rfl ?_
  refine am_pv_cons (v_iload (by decide +kernel)) rfl ?_
  refine am_pv_cons (v_if_eq (off := 23) (by decide +kernel) rfl) rfl ?_
  refine am_pv_cons (v_aload_n (q := 0) (by decide +kernel) rfl) rfl ?_
  refine am_pv_cons (v_get fl_TextReader_25 (by decide +kernel)) rfl ?_
  refine am_pv_cons (v_iload_n (q := 2) (by decide +kernel) rfl) rfl ?_
  refine am_pv_cons (v_virt (idx := 70) yv_Tape_isDigit rfl rfl (tb3 120 (by decide +kernel) rfl) (by decide +kernel)) rfl ?_
  refine am_pv_cons (v_if_eq (off := 12) (by decide +kernel) rfl) rfl ?_
  refine am_pv_cons (v_iinc (n := 1) (by decide +kernel) (by decide +kernel)) rfl ?_
  refine am_pv_cons (v_iinc (n := 1) (by decide +kernel) (by decide +kernel)) rfl ?_
  refine am_pv_cons (v_goto (off := -45) (by decide +kernel) rfl) rfl ?_
  refine am_pv_cons (v_iload_n (q := 2) (by decide +kernel) rfl) rfl ?_
  refine am_pv_cons (v_ireturn (by decide +kernel)) trivial ?_
  exact trivial
def P_TextReader_tokenOf (E : am_E) (k : Nat) : am_P := [(0, aLa 0), (1, aGet 6 0), (4, aLi 1), (5, aIv E k 3 1 Y_Tape_at), (8, aSi 3), (9, aLi 3), (10, aI (-1)), (11, c_ne 16), (14, aI (-1)), (15, aRi), (16, aLa 0), (17, aGet 6 0), (20, aLi 1), (21, aIv E k 3 1 Y_Tape_isLetter), (24, z_eq 34), (27, aLa 0), (28, aLi 1), (29, aLi 2), (30, aIv E k 6 2 Y_TextReader_wordOf), (33, aRi), (34, aLa 0), (35, aGet 6 0), (38, aLi 1), (39, aIv E k 3 1 Y_Tape_isDigit), (42, z_eq 52), (45, aLa 0), (46, aLi 1), (47, aLi 2), (48, aIv E k 6 2 Y_TextReader_numberOf), (51, aRi), (52, aLi 3), (53, aSw [(40, 156), (41, 156), (42, 156), (43, 156), (44, 159), (45, 156), (46, 159), (47, 159), (48, 159), (49, 159), (50, 159), (51, 159), (52, 159), (53, 159), (54, 159), (55, 159), (56, 159), (57, 159), (58, 159), (59, 156), (60, 156), (61, 156)] 159), (156, aLi 3), (157, a_ineg), (158, aRi), (159, aI (-2)), (161, aRi)]
set_option maxRecDepth 20000 in
theorem pv_TextReader_tokenOf (E : am_E) (k : Nat) : am_pv E k Y_TextReader_tokenOf.2.1 Y_TextReader_tokenOf.2.2.1 Y_TextReader_tokenOf.1.cls (P_TextReader_tokenOf E k) := by
  refine am_pv_cons (v_aload_n (q := 0) (by decide +kernel) rfl) rfl ?_
  refine am_pv_cons (v_get fl_TextReader_25 (by decide +kernel)) rfl ?_
  refine am_pv_cons (v_iload_n (q := 1) (by decide +kernel) rfl) rfl ?_
  refine am_pv_cons (v_virt (idx := 63) yv_Tape_at rfl rfl (tb3 111 (by decide +kernel) rfl) (by decide +kernel)) rfl ?_
  refine am_pv_cons (v_istore_n (q := 3) (by decide +kernel) rfl) rfl ?_
  refine am_pv_cons (v_iload_n (q := 3) (by decide +kernel) rfl) rfl ?_
  refine am_pv_cons (v_iconst (n := -1) (by decide +kernel) rfl) rfl ?_
  refine am_pv_cons (v_ic_ne (off := 5) (by decide +kernel) rfl) rfl ?_
  refine am_pv_cons (v_iconst (n := -1) (by decide +kernel) rfl) rfl ?_
  refine am_pv_cons (v_ireturn (by decide +kernel)) rfl ?_
  refine am_pv_cons (v_aload_n (q := 0) (by decide +kernel) rfl) rfl ?_
  refine am_pv_cons (v_get fl_TextReader_25 (by decide +kernel)) rfl ?_
  refine am_pv_cons (v_iload_n (q := 1) (by decide +kernel) rfl) rfl ?_
  refine am_pv_cons (v_virt (idx := 67) yv_Tape_isLetter rfl rfl (tb3 116 (by decide +kernel) rfl) (by decide +kernel)) rfl ?_
  refine am_pv_cons (v_if_eq (off := 10) (by decide +kernel) rfl) rfl ?_
  refine am_pv_cons (v_aload_n (q := 0) (by decide +kernel) rfl) rfl ?_
  refine am_pv_cons (v_iload_n (q := 1) (by decide +kernel) rfl) rfl ?_
  refine am_pv_cons (v_iload_n (q := 2) (by decide +kernel) rfl) rfl ?_
  refine am_pv_cons (v_virt (idx := 73) yv_TextReader_wordOf rfl rfl (tb3 129 (by decide +kernel) rfl) (by decide +kernel)) rfl ?_
  refine am_pv_cons (v_ireturn (by decide +kernel)) rfl ?_
  refine am_pv_cons (v_aload_n (q := 0) (by decide +kernel) rfl) rfl ?_
  refine am_pv_cons (v_get fl_TextReader_25 (by decide +kernel)) rfl ?_
  refine am_pv_cons (v_iload_n (q := 1) (by decide +kernel) rfl) rfl ?_
  refine am_pv_cons (v_virt (idx := 70) yv_Tape_isDigit rfl rfl (tb3 120 (by decide +kernel) rfl) (by decide +kernel)) rfl ?_
  refine am_pv_cons (v_if_eq (off := 10) (by decide +kernel) rfl) rfl ?_
  refine am_pv_cons (v_aload_n (q := 0) (by decide +kernel) rfl) rfl ?_
  refine am_pv_cons (v_iload_n (q := 1) (by decide +kernel) rfl) rfl ?_
  refine am_pv_cons (v_iload_n (q := 2) (by decide +kernel) rfl) rfl ?_
  refine am_pv_cons (v_virt (idx := 76) yv_TextReader_numberOf rfl rfl (tb3 196 (by decide +kernel) rfl) (by decide +kernel)) rfl ?_
  refine am_pv_cons (v_ireturn (by decide +kernel)) rfl ?_
  refine am_pv_cons (v_iload_n (q := 3) (by decide +kernel) rfl) rfl ?_
  refine am_pv_cons (v_tsw (dflt := 106) (lo := 40) (hi := 61) (offs := #[103, 103, 103, 103, 106, 103, 106, 106, 106, 106, 106, 106, 106, 106, 106, 106, 106, 106, 106, 103, 103, 103]) (len := 103) (by decide +kernel) rfl (by decide) (by decide +kernel)) rfl ?_
  refine am_pv_cons (v_iload_n (q := 3) (by decide +kernel) rfl) rfl ?_
  refine am_pv_cons (v_ineg (by decide +kernel)) rfl ?_
  refine am_pv_cons (v_ireturn (by decide +kernel)) rfl ?_
  refine am_pv_cons (v_bipush (n := -2) (by decide +kernel) (by decide +kernel)) rfl ?_
  refine am_pv_cons (v_ireturn (by decide +kernel)) trivial ?_
  exact trivial
def P_TextReader_numberOf (E : am_E) (k : Nat) : am_P := [(0, aLi 2), (1, aLi 1), (2, a_isub), (3, aI 4), (4, c_le 10), (7, aI (-2)), (9, aRi), (10, aI 0), (11, aSi 3), (12, aLi 1), (13, aSi 4), (15, aLi 4), (17, aLi 2), (18, c_ge 45), (21, aLi 3), (22, aI 10), (24, a_imul), (25, aLa 0), (26, aGet 6 0), (29, aLi 4), (31, aIv E k 3 1 Y_Tape_at), (34, a_iadd), (35, aI 48), (37, a_isub), (38, aSi 3), (39, aInc 4 1), (42, aGo 15), (45, aLi 3), (46, aRi)]
set_option maxRecDepth 20000 in
theorem pv_TextReader_numberOf (E : am_E) (k : Nat) : am_pv E k Y_TextReader_numberOf.2.1 Y_TextReader_numberOf.2.2.1 Y_TextReader_numberOf.1.cls (P_TextReader_numberOf E k) := by
  refine am_pv_cons (v_iload_n (q := 2) (by decide +kernel) rfl) rfl ?_
  refine am_pv_cons (v_iload_n (q := 1) (by decide +kernel) rfl) rfl ?_
  refine am_pv_cons (v_isub (by decide +kernel)) rfl ?_
  refine am_pv_cons (v_iconst (n := 4) (by decide +kernel) rfl) rfl ?_
  refine am_pv_cons (v_ic_le (off := 6) (by decide +kernel) rfl) rfl ?_
  refine am_pv_cons (v_bipush (n := -2) (by decide +kernel) (by decide +kernel)) rfl ?_
  refine am_pv_cons (v_ireturn (by decide +kernel)) rfl ?_
  refine am_pv_cons (v_iconst (n := 0) (by decide +kernel) rfl) rfl ?_
  refine am_pv_cons (v_istore_n (q := 3) (by decide +kernel) rfl) rfl ?_
  refine am_pv_cons (v_iload_n (q := 1) (by decide +kernel) rfl) rfl ?_
  refine am_pv_cons (v_istore (by decide +kernel)) rfl ?_
  refine am_pv_cons (v_iload (by decide +kernel)) rfl ?_
  refine am_pv_cons (v_iload_n (q := 2) (by decide +kernel) rfl) rfl ?_
  refine am_pv_cons (v_ic_ge (off := 27) (by decide +kernel) rfl) rfl ?_
  refine am_pv_cons (v_iload_n (q := 3) (by decide +kernel) rfl) rfl ?_
  refine am_pv_cons (v_bipush (n := 10) (by decide +kernel) (by decide +kernel)) rfl ?_
  refine am_pv_cons (v_imul (by decide +kernel)) rfl ?_
  refine am_pv_cons (v_aload_n (q := 0) (by decide +kernel) rfl) rfl ?_
  refine am_pv_cons (v_get fl_TextReader_25 (by decide +kernel)) rfl ?_
  refine am_pv_cons (v_iload (by decide +kernel)) rfl ?_
  refine am_pv_cons (v_virt (idx := 63) yv_Tape_at rfl rfl (tb3 111 (by decide +kernel) rfl) (by decide +kernel)) rfl ?_
  refine am_pv_cons (v_iadd (by decide +kernel)) rfl ?_
  refine am_pv_cons (v_bipush (n := 48) (by decide +kernel) (by decide +kernel)) rfl ?_
  refine am_pv_cons (v_isub (by decide +kernel)) rfl ?_
  refine am_pv_cons (v_istore_n (q := 3) (by decide +kernel) rfl) rfl ?_
  refine am_pv_cons (v_iinc (n := 1) (by decide +kernel) (by decide +kernel)) rfl ?_
  refine am_pv_cons (v_goto (off := -27) (by decide +kernel) rfl) rfl ?_
  refine am_pv_cons (v_iload_n (q := 3) (by decide +kernel) rfl) rfl ?_
  refine am_pv_cons (v_ireturn (by decide +kernel)) trivial ?_
  exact trivial
def P_TextReader_wordOf (E : am_E) (k : Nat) : am_P := [(0, aLa 0), (1, aLi 1), (2, aLi 2), (3, aGs 130), (5, aIv E k 6 3 Y_TextReader_spells), (8, z_eq 14), (11, aI (-3)), (13, aRi), (14, aLa 0), (15, aLi 1), (16, aLi 2), (17, aGs 131), (19, aIv E k 6 3 Y_TextReader_spells), (22, z_eq 28), (25, aI (-4)), (27, aRi), (28, aLa 0), (29, aLi 1), (30, aLi 2), (31, aGs 132), (33, aIv E k 6 3 Y_TextReader_spells), (36, z_eq 42), (39, aI (-5)), (41, aRi), (42, aLa 0), (43, aLi 1), (44, aLi 2), (45, aGs 133), (47, aIv E k 6 3 Y_TextReader_spells), (50, z_eq 56), (53, aI (-6)), (55, aRi), (56, aLa 0), (57, aLi 1), (58, aLi 2), (59, aGs 134), (61, aIv E k 6 3 Y_TextReader_spells), (64, z_eq 70), (67, aI (-7)), (69, aRi), (70, aLa 0), (71, aLi 1), (72, aLi 2), (73, aGs 135), (75, aIv E k 6 3 Y_TextReader_spells), (78, z_eq 84), (81, aI (-9)), (83, aRi), (84, aLa 0), (85, aLi 1), (86, aLi 2), (87, aGs 136), (89, aIv E k 6 3 Y_TextReader_spells), (92, z_eq 98), (95, aI (-10)), (97, aRi), (98, aLa 0), (99, aLi 1), (100, aLi 2), (101, aGs 137), (103, aIv E k 6 3 Y_TextReader_spells), (106, z_eq 112), (109, aI (-11)), (111, aRi), (112, aLa 0), (113, aLi 1), (114, aLi 2), (115, aGs 138), (117, aIv E k 6 3 Y_TextReader_spells), (120, z_eq 126), (123, aI (-12)), (125, aRi), (126, aLa 0), (127, aLi 1), (128, aLi 2), (129, aGs 139), (131, aIv E k 6 3 Y_TextReader_spells), (134, z_eq 140), (137, aI (-13)), (139, aRi), (140, aLa 0), (141, aLi 1), (142, aLi 2), (143, aGs 140), (145, aIv E k 6 3 Y_TextReader_spells), (148, z_eq 154), (151, aI (-14)), (153, aRi), (154, aI (-2)), (156, aRi)]
set_option maxRecDepth 20000 in
theorem pv_TextReader_wordOf (E : am_E) (k : Nat) : am_pv E k Y_TextReader_wordOf.2.1 Y_TextReader_wordOf.2.2.1 Y_TextReader_wordOf.1.cls (P_TextReader_wordOf E k) := by
  refine am_pv_cons (v_aload_n (q := 0) (by decide +kernel) rfl) rfl ?_
  refine am_pv_cons (v_iload_n (q := 1) (by decide +kernel) rfl) rfl ?_
  refine am_pv_cons (v_iload_n (q := 2) (by decide +kernel) rfl) rfl ?_
  refine am_pv_cons (v_ldcS (i := 0) (by decide +kernel) (by decide +kernel)) rfl ?_
  refine am_pv_cons (v_virt (idx := 81) yv_TextReader_spells rfl rfl (tb3 134 (by decide +kernel) rfl) (by decide +kernel)) rfl ?_
  refine am_pv_cons (v_if_eq (off := 6) (by decide +kernel) rfl) rfl ?_
  refine am_pv_cons (v_bipush (n := -3) (by decide +kernel) (by decide +kernel)) rfl ?_
  refine am_pv_cons (v_ireturn (by decide +kernel)) rfl ?_
  refine am_pv_cons (v_aload_n (q := 0) (by decide +kernel) rfl) rfl ?_
  refine am_pv_cons (v_iload_n (q := 1) (by decide +kernel) rfl) rfl ?_
  refine am_pv_cons (v_iload_n (q := 2) (by decide +kernel) rfl) rfl ?_
  refine am_pv_cons (v_ldcS (i := 1) (by decide +kernel) (by decide +kernel)) rfl ?_
  refine am_pv_cons (v_virt (idx := 81) yv_TextReader_spells rfl rfl (tb3 134 (by decide +kernel) rfl) (by decide +kernel)) rfl ?_
  refine am_pv_cons (v_if_eq (off := 6) (by decide +kernel) rfl) rfl ?_
  refine am_pv_cons (v_bipush (n := -4) (by decide +kernel) (by decide +kernel)) rfl ?_
  refine am_pv_cons (v_ireturn (by decide +kernel)) rfl ?_
  refine am_pv_cons (v_aload_n (q := 0) (by decide +kernel) rfl) rfl ?_
  refine am_pv_cons (v_iload_n (q := 1) (by decide +kernel) rfl) rfl ?_
  refine am_pv_cons (v_iload_n (q := 2) (by decide +kernel) rfl) rfl ?_
  refine am_pv_cons (v_ldcS (i := 2) (by decide +kernel) (by decide +kernel)) rfl ?_
  refine am_pv_cons (v_virt (idx := 81) yv_TextReader_spells rfl rfl (tb3 134 (by decide +kernel) rfl) (by decide +kernel)) rfl ?_
  refine am_pv_cons (v_if_eq (off := 6) (by decide +kernel) rfl) rfl ?_
  refine am_pv_cons (v_bipush (n := -5) (by decide +kernel) (by decide +kernel)) rfl ?_
  refine am_pv_cons (v_ireturn (by decide +kernel)) rfl ?_
  refine am_pv_cons (v_aload_n (q := 0) (by decide +kernel) rfl) rfl ?_
  refine am_pv_cons (v_iload_n (q := 1) (by decide +kernel) rfl) rfl ?_
  refine am_pv_cons (v_iload_n (q := 2) (by decide +kernel) rfl) rfl ?_
  refine am_pv_cons (v_ldcS (i := 3) (by decide +kernel) (by decide +kernel)) rfl ?_
  refine am_pv_cons (v_virt (idx := 81) yv_TextReader_spells rfl rfl (tb3 134 (by decide +kernel) rfl) (by decide +kernel)) rfl ?_
  refine am_pv_cons (v_if_eq (off := 6) (by decide +kernel) rfl) rfl ?_
  refine am_pv_cons (v_bipush (n := -6) (by decide +kernel) (by decide +kernel)) rfl ?_
  refine am_pv_cons (v_ireturn (by decide +kernel)) rfl ?_
  refine am_pv_cons (v_aload_n (q := 0) (by decide +kernel) rfl) rfl ?_
  refine am_pv_cons (v_iload_n (q := 1) (by decide +kernel) rfl) rfl ?_
  refine am_pv_cons (v_iload_n (q := 2) (by decide +kernel) rfl) rfl ?_
  refine am_pv_cons (v_ldcS (i := 4) (by decide +kernel) (by decide +kernel)) rfl ?_
  refine am_pv_cons (v_virt (idx := 81) yv_TextReader_spells rfl rfl (tb3 134 (by decide +kernel) rfl) (by decide +kernel)) rfl ?_
  refine am_pv_cons (v_if_eq (off := 6) (by decide +kernel) rfl) rfl ?_
  refine am_pv_cons (v_bipush (n := -7) (by decide +kernel) (by decide +kernel)) rfl ?_
  refine am_pv_cons (v_ireturn (by decide +kernel)) rfl ?_
  refine am_pv_cons (v_aload_n (q := 0) (by decide +kernel) rfl) rfl ?_
  refine am_pv_cons (v_iload_n (q := 1) (by decide +kernel) rfl) rfl ?_
  refine am_pv_cons (v_iload_n (q := 2) (by decide +kernel) rfl) rfl ?_
  refine am_pv_cons (v_ldcS (i := 5) (by decide +kernel) (by decide +kernel)) rfl ?_
  refine am_pv_cons (v_virt (idx := 81) yv_TextReader_spells rfl rfl (tb3 134 (by decide +kernel) rfl) (by decide +kernel)) rfl ?_
  refine am_pv_cons (v_if_eq (off := 6) (by decide +kernel) rfl) rfl ?_
  refine am_pv_cons (v_bipush (n := -9) (by decide +kernel) (by decide +kernel)) rfl ?_
  refine am_pv_cons (v_ireturn (by decide +kernel)) rfl ?_
  refine am_pv_cons (v_aload_n (q := 0) (by decide +kernel) rfl) rfl ?_
  refine am_pv_cons (v_iload_n (q := 1) (by decide +kernel) rfl) rfl ?_
  refine am_pv_cons (v_iload_n (q := 2) (by decide +kernel) rfl) rfl ?_
  refine am_pv_cons (v_ldcS (i := 6) (by decide +kernel) (by decide +kernel)) rfl ?_
  refine am_pv_cons (v_virt (idx := 81) yv_TextReader_spells rfl rfl (tb3 134 (by decide +kernel) rfl) (by decide +kernel)) rfl ?_
  refine am_pv_cons (v_if_eq (off := 6) (by decide +kernel) rfl) rfl ?_
  refine am_pv_cons (v_bipush (n := -10) (by decide +kernel) (by decide +kernel)) rfl ?_
  refine am_pv_cons (v_ireturn (by decide +kernel)) rfl ?_
  refine am_pv_cons (v_aload_n (q := 0) (by decide +kernel) rfl) rfl ?_
  refine am_pv_cons (v_iload_n (q := 1) (by decide +kernel) rfl) rfl ?_
  refine am_pv_cons (v_iload_n (q := 2) (by decide +kernel) rfl) rfl ?_
  refine am_pv_cons (v_ldcS (i := 7) (by decide +kernel) (by decide +kernel)) rfl ?_
  refine am_pv_cons (v_virt (idx := 81) yv_TextReader_spells rfl rfl (tb3 134 (by decide +kernel) rfl) (by decide +kernel)) rfl ?_
  refine am_pv_cons (v_if_eq (off := 6) (by decide +kernel) rfl) rfl ?_
  refine am_pv_cons (v_bipush (n := -11) (by decide +kernel) (by decide +kernel)) rfl ?_
  refine am_pv_cons (v_ireturn (by decide +kernel)) rfl ?_
  refine am_pv_cons (v_aload_n (q := 0) (by decide +kernel) rfl) rfl ?_
  refine am_pv_cons (v_iload_n (q := 1) (by decide +kernel) rfl) rfl ?_
  refine am_pv_cons (v_iload_n (q := 2) (by decide +kernel) rfl) rfl ?_
  refine am_pv_cons (v_ldcS (i := 8) (by decide +kernel) (by decide +kernel)) rfl ?_
  refine am_pv_cons (v_virt (idx := 81) yv_TextReader_spells rfl rfl (tb3 134 (by decide +kernel) rfl) (by decide +kernel)) rfl ?_
  refine am_pv_cons (v_if_eq (off := 6) (by decide +kernel) rfl) rfl ?_
  refine am_pv_cons (v_bipush (n := -12) (by decide +kernel) (by decide +kernel)) rfl ?_
  refine am_pv_cons (v_ireturn (by decide +kernel)) rfl ?_
  refine am_pv_cons (v_aload_n (q := 0) (by decide +kernel) rfl) rfl ?_
  refine am_pv_cons (v_iload_n (q := 1) (by decide +kernel) rfl) rfl ?_
  refine am_pv_cons (v_iload_n (q := 2) (by decide +kernel) rfl) rfl ?_
  refine am_pv_cons (v_ldcS (i := 9) (by decide +kernel) (by decide +kernel)) rfl ?_
  refine am_pv_cons (v_virt (idx := 81) yv_TextReader_spells rfl rfl (tb3 134 (by decide +kernel) rfl) (by decide +kernel)) rfl ?_
  refine am_pv_cons (v_if_eq (off := 6) (by decide +kernel) rfl) rfl ?_
  refine am_pv_cons (v_bipush (n := -13) (by decide +kernel) (by decide +kernel)) rfl ?_
  refine am_pv_cons (v_ireturn (by decide +kernel)) rfl ?_
  refine am_pv_cons (v_aload_n (q := 0) (by decide +kernel) rfl) rfl ?_
  refine am_pv_cons (v_iload_n (q := 1) (by decide +kernel) rfl) rfl ?_
  refine am_pv_cons (v_iload_n (q := 2) (by decide +kernel) rfl) rfl ?_
  refine am_pv_cons (v_ldcS (i := 10) (by decide +kernel) (by decide +kernel)) rfl ?_
  refine am_pv_cons (v_virt (idx := 81) yv_TextReader_spells rfl rfl (tb3 134 (by decide +kernel) rfl) (by decide +kernel)) rfl ?_
  refine am_pv_cons (v_if_eq (off := 6) (by decide +kernel) rfl) rfl ?_
  refine am_pv_cons (v_bipush (n := -14) (by decide +kernel) (by decide +kernel)) rfl ?_
  refine am_pv_cons (v_ireturn (by decide +kernel)) rfl ?_
  refine am_pv_cons (v_bipush (n := -2) (by decide +kernel) (by decide +kernel)) rfl ?_
  refine am_pv_cons (v_ireturn (by decide +kernel)) trivial ?_
  exact trivial
def P_TextReader_spells (E : am_E) (k : Nat) : am_P := [(0, aLa 3), (1, aIvs E k 0 Y_Str_length), (4, aLi 2), (5, aLi 1), (6, a_isub), (7, c_eq 12), (10, aI 0), (11, aRi), (12, aI 0), (13, aSi 4), (15, aLi 4), (17, aLa 3), (18, aIvs E k 0 Y_Str_length), (21, c_ge 52), (24, aLa 0), (25, aGet 6 0), (28, aLi 1), (29, aLi 4), (31, a_iadd), (32, aIv E k 3 1 Y_Tape_at), (35, aLa 3), (36, aLi 4), (38, aIvs E k 1 Y_Str_charAt), (41, c_eq 46), (44, aI 0), (45, aRi), (46, aInc 4 1), (49, aGo 15), (52, aI 1), (53, aRi)]
set_option maxRecDepth 20000 in
theorem pv_TextReader_spells (E : am_E) (k : Nat) : am_pv E k Y_TextReader_spells.2.1 Y_TextReader_spells.2.2.1 Y_TextReader_spells.1.cls (P_TextReader_spells E k) := by
  refine am_pv_cons (v_aload_n (q := 3) (by decide +kernel) rfl) rfl ?_
  refine am_pv_cons (v_virtS (idx := 105) yv_Str_length rfl (tb3 138 (by decide +kernel) rfl) (by decide +kernel)) rfl ?_
  refine am_pv_cons (v_iload_n (q := 2) (by decide +kernel) rfl) rfl ?_
  refine am_pv_cons (v_iload_n (q := 1) (by decide +kernel) rfl) rfl ?_
  refine am_pv_cons (v_isub (by decide +kernel)) rfl ?_
  refine am_pv_cons (v_ic_eq (off := 5) (by decide +kernel) rfl) rfl ?_
  refine am_pv_cons (v_iconst (n := 0) (by decide +kernel) rfl) rfl ?_
  refine am_pv_cons (v_ireturn (by decide +kernel)) rfl ?_
  refine am_pv_cons (v_iconst (n := 0) (by decide +kernel) rfl) rfl ?_
  refine am_pv_cons (v_istore (by decide +kernel)) rfl ?_
  refine am_pv_cons (v_iload (by decide +kernel)) rfl ?_
  refine am_pv_cons (v_aload_n (q := 3) (by decide +kernel) rfl) rfl ?_
  refine am_pv_cons (v_virtS (idx := 105) yv_Str_length rfl (tb3 138 (by decide +kernel) rfl) (by decide +kernel)) rfl ?_
  refine am_pv_cons (v_ic_ge (off := 31) (by decide +kernel) rfl) rfl ?_
  refine am_pv_cons (v_aload_n (q := 0) (by decide +kernel) rfl) rfl ?_
  refine am_pv_cons (v_get fl_TextReader_25 (by decide +kernel)) rfl ?_
  refine am_pv_cons (v_iload_n (q := 1) (by decide +kernel) rfl) rfl ?_
  refine am_pv_cons (v_iload (by decide +kernel)) rfl ?_
  refine am_pv_cons (v_iadd (by decide +kernel)) rfl ?_
  refine am_pv_cons (v_virt (idx := 63) yv_Tape_at rfl rfl (tb3 111 (by decide +kernel) rfl) (by decide +kernel)) rfl ?_
  refine am_pv_cons (v_aload_n (q := 3) (by decide +kernel) rfl) rfl ?_
  refine am_pv_cons (v_iload (by decide +kernel)) rfl ?_
  refine am_pv_cons (v_virtS (idx := 111) yv_Str_charAt rfl (tb3 148 (by decide +kernel) rfl) (by decide +kernel)) rfl ?_
  refine am_pv_cons (v_ic_eq (off := 5) (by decide +kernel) rfl) rfl ?_
  refine am_pv_cons (v_iconst (n := 0) (by decide +kernel) rfl) rfl ?_
  refine am_pv_cons (v_ireturn (by decide +kernel)) rfl ?_
  refine am_pv_cons (v_iinc (n := 1) (by decide +kernel) (by decide +kernel)) rfl ?_
  refine am_pv_cons (v_goto (off := -34) (by decide +kernel) rfl) rfl ?_
  refine am_pv_cons (v_iconst (n := 1) (by decide +kernel) rfl) rfl ?_
  refine am_pv_cons (v_ireturn (by decide +kernel)) trivial ?_
  exact trivial
def P_TextReader_readOr (E : am_E) (k : Nat) : am_P := [(0, aLa 0), (1, aLi 1), (2, aIv E k 6 1 Y_TextReader_readAnd), (5, aSi 2), (6, aI 0), (7, aSi 3), (8, aLi 3), (9, aI 160), (12, c_ge 66), (15, aLi 2), (16, z_eq 66), (19, aLa 0), (20, aGet 6 4), (23, aI (-5)), (25, c_ne 66), (28, aLa 0), (29, aI (-5)), (31, aIv E k 6 1 Y_TextReader_skip), (34, z_eq 49), (37, aLa 0), (38, aLi 1), (39, aIv E k 6 1 Y_TextReader_readAnd), (42, z_eq 49), (45, aI 1), (46, aGo 50), (49, aI 0), (50, aSi 2), (51, aLa 0), (52, aGet 6 5), (55, aI (-5)), (57, aIv E k 5 1 Y_Text_add), (60, aInc 3 1), (63, aGo 8), (66, aLi 2), (67, aRi)]
set_option maxRecDepth 20000 in
theorem pv_TextReader_readOr (E : am_E) (k : Nat) : am_pv E k Y_TextReader_readOr.2.1 Y_TextReader_readOr.2.2.1 Y_TextReader_readOr.1.cls (P_TextReader_readOr E k) := by
  refine am_pv_cons (v_aload_n (q := 0) (by decide +kernel) rfl) rfl ?_
  refine am_pv_cons (v_iload_n (q := 1) (by decide +kernel) rfl) rfl ?_
  refine am_pv_cons (v_virt (idx := 115) yv_TextReader_readAnd rfl rfl (tb3 208 (by decide +kernel) rfl) (by decide +kernel)) rfl ?_
  refine am_pv_cons (v_istore_n (q := 2) (by decide +kernel) rfl) rfl ?_
  refine am_pv_cons (v_iconst (n := 0) (by decide +kernel) rfl) rfl ?_
  refine am_pv_cons (v_istore_n (q := 3) (by decide +kernel) rfl) rfl ?_
  refine am_pv_cons (v_iload_n (q := 3) (by decide +kernel) rfl) rfl ?_
  refine am_pv_cons (v_sipush (n := 160) (by decide +kernel) (by decide +kernel)) rfl ?_
  refine am_pv_cons (v_ic_ge (off := 54) (by decide +kernel) rfl) rfl ?_
  refine am_pv_cons (v_iload_n (q := 2) (by decide +kernel) rfl) rfl ?_
  refine am_pv_cons (v_if_eq (off := 50) (by decide +kernel) rfl) rfl ?_
  refine am_pv_cons (v_aload_n (q := 0) (by decide +kernel) rfl) rfl ?_
  refine am_pv_cons (v_get fl_TextReader_39 (by decide +kernel)) rfl ?_
  refine am_pv_cons (v_bipush (n := -5) (by decide +kernel) (by decide +kernel)) rfl ?_
  refine am_pv_cons (v_ic_ne (off := 41) (by decide +kernel) rfl) rfl ?_
  refine am_pv_cons (v_aload_n (q := 0) (by decide +kernel) rfl) rfl ?_
  refine am_pv_cons (v_bipush (n := -5) (by decide +kernel) (by decide +kernel)) rfl ?_
  refine am_pv_cons (v_virt (idx := 42) yv_TextReader_skip rfl rfl (tb3 200 (by decide +kernel) rfl) (by decide +kernel)) rfl ?_
  refine am_pv_cons (v_if_eq (off := 15) (by decide +kernel) rfl) rfl ?_
  refine am_pv_cons (v_aload_n (q := 0) (by decide +kernel) rfl) rfl ?_
  refine am_pv_cons (v_iload_n (q := 1) (by decide +kernel) rfl) rfl ?_
  refine am_pv_cons (v_virt (idx := 115) yv_TextReader_readAnd rfl rfl (tb3 208 (by decide +kernel) rfl) (by decide +kernel)) rfl ?_
  refine am_pv_cons (v_if_eq (off := 7) (by decide +kernel) rfl) rfl ?_
  refine am_pv_cons (v_iconst (n := 1) (by decide +kernel) rfl) rfl ?_
  refine am_pv_cons (v_goto (off := 4) (by decide +kernel) rfl) rfl ?_
  refine am_pv_cons (v_iconst (n := 0) (by decide +kernel) rfl) rfl ?_
  refine am_pv_cons (v_istore_n (q := 2) (by decide +kernel) rfl) rfl ?_
  refine am_pv_cons (v_aload_n (q := 0) (by decide +kernel) rfl) rfl ?_
  refine am_pv_cons (v_get fl_TextReader_21 (by decide +kernel)) rfl ?_
  refine am_pv_cons (v_bipush (n := -5) (by decide +kernel) (by decide +kernel)) rfl ?_
  refine am_pv_cons (v_virt (idx := 118) yv_Text_add rfl rfl (tb3 233 (by decide +kernel) rfl) (by decide +kernel)) rfl ?_
  refine am_pv_cons (v_iinc (n := 1) (by decide +kernel) (by decide +kernel)) rfl ?_
  refine am_pv_cons (v_goto (off := -55) (by decide +kernel) rfl) rfl ?_
  refine am_pv_cons (v_iload_n (q := 2) (by decide +kernel) rfl) rfl ?_
  refine am_pv_cons (v_ireturn (by decide +kernel)) trivial ?_
  exact trivial
def P_TextReader_readAnd (E : am_E) (k : Nat) : am_P := [(0, aLa 0), (1, aLi 1), (2, aIv E k 6 1 Y_TextReader_readNot), (5, aSi 2), (6, aI 0), (7, aSi 3), (8, aLi 3), (9, aI 160), (12, c_ge 66), (15, aLi 2), (16, z_eq 66), (19, aLa 0), (20, aGet 6 4), (23, aI (-6)), (25, c_ne 66), (28, aLa 0), (29, aI (-6)), (31, aIv E k 6 1 Y_TextReader_skip), (34, z_eq 49), (37, aLa 0), (38, aLi 1), (39, aIv E k 6 1 Y_TextReader_readNot), (42, z_eq 49), (45, aI 1), (46, aGo 50), (49, aI 0), (50, aSi 2), (51, aLa 0), (52, aGet 6 5), (55, aI (-6)), (57, aIv E k 5 1 Y_Text_add), (60, aInc 3 1), (63, aGo 8), (66, aLi 2), (67, aRi)]
set_option maxRecDepth 20000 in
theorem pv_TextReader_readAnd (E : am_E) (k : Nat) : am_pv E k Y_TextReader_readAnd.2.1 Y_TextReader_readAnd.2.2.1 Y_TextReader_readAnd.1.cls (P_TextReader_readAnd E k) := by
  refine am_pv_cons (v_aload_n (q := 0) (by decide +kernel) rfl) rfl ?_
  refine am_pv_cons (v_iload_n (q := 1) (by decide +kernel) rfl) rfl ?_
  refine am_pv_cons (v_virt (idx := 122) yv_TextReader_readNot rfl rfl (tb3 212 (by decide +kernel) rfl) (by decide +kernel)) rfl ?_
  refine am_pv_cons (v_istore_n (q := 2) (by decide +kernel) rfl) rfl ?_
  refine am_pv_cons (v_iconst (n := 0) (by decide +kernel) rfl) rfl ?_
  refine am_pv_cons (v_istore_n (q := 3) (by decide +kernel) rfl) rfl ?_
  refine am_pv_cons (v_iload_n (q := 3) (by decide +kernel) rfl) rfl ?_
  refine am_pv_cons (v_sipush (n := 160) (by decide +kernel) (by decide +kernel)) rfl ?_
  refine am_pv_cons (v_ic_ge (off := 54) (by decide +kernel) rfl) rfl ?_
  refine am_pv_cons (v_iload_n (q := 2) (by decide +kernel) rfl) rfl ?_
  refine am_pv_cons (v_if_eq (off := 50) (by decide +kernel) rfl) rfl ?_
  refine am_pv_cons (v_aload_n (q := 0) (by decide +kernel) rfl) rfl ?_
  refine am_pv_cons (v_get fl_TextReader_39 (by decide +kernel)) rfl ?_
  refine am_pv_cons (v_bipush (n := -6) (by decide +kernel) (by decide +kernel)) rfl ?_
  refine am_pv_cons (v_ic_ne (off := 41) (by decide +kernel) rfl) rfl ?_
  refine am_pv_cons (v_aload_n (q := 0) (by decide +kernel) rfl) rfl ?_
  refine am_pv_cons (v_bipush (n := -6) (by decide +kernel) (by decide +kernel)) rfl ?_
  refine am_pv_cons (v_virt (idx := 42) yv_TextReader_skip rfl rfl (tb3 200 (by decide +kernel) rfl) (by decide +kernel)) rfl ?_
  refine am_pv_cons (v_if_eq (off := 15) (by decide +kernel) rfl) rfl ?_
  refine am_pv_cons (v_aload_n (q := 0) (by decide +kernel) rfl) rfl ?_
  refine am_pv_cons (v_iload_n (q := 1) (by decide +kernel) rfl) rfl ?_
  refine am_pv_cons (v_virt (idx := 122) yv_TextReader_readNot rfl rfl (tb3 212 (by decide +kernel) rfl) (by decide +kernel)) rfl ?_
  refine am_pv_cons (v_if_eq (off := 7) (by decide +kernel) rfl) rfl ?_
  refine am_pv_cons (v_iconst (n := 1) (by decide +kernel) rfl) rfl ?_
  refine am_pv_cons (v_goto (off := 4) (by decide +kernel) rfl) rfl ?_
  refine am_pv_cons (v_iconst (n := 0) (by decide +kernel) rfl) rfl ?_
  refine am_pv_cons (v_istore_n (q := 2) (by decide +kernel) rfl) rfl ?_
  refine am_pv_cons (v_aload_n (q := 0) (by decide +kernel) rfl) rfl ?_
  refine am_pv_cons (v_get fl_TextReader_21 (by decide +kernel)) rfl ?_
  refine am_pv_cons (v_bipush (n := -6) (by decide +kernel) (by decide +kernel)) rfl ?_
  refine am_pv_cons (v_virt (idx := 118) yv_Text_add rfl rfl (tb3 233 (by decide +kernel) rfl) (by decide +kernel)) rfl ?_
  refine am_pv_cons (v_iinc (n := 1) (by decide +kernel) (by decide +kernel)) rfl ?_
  refine am_pv_cons (v_goto (off := -55) (by decide +kernel) rfl) rfl ?_
  refine am_pv_cons (v_iload_n (q := 2) (by decide +kernel) rfl) rfl ?_
  refine am_pv_cons (v_ireturn (by decide +kernel)) trivial ?_
  exact trivial
def P_TextReader_readNot (E : am_E) (k : Nat) : am_P := [(0, aLa 0), (1, aGet 6 4), (4, aI (-7)), (6, c_eq 15), (9, aLa 0), (10, aLi 1), (11, aIv E k 6 1 Y_TextReader_readComparison), (14, aRi), (15, aLi 1), (16, aI 5), (17, c_ge 43), (20, aLa 0), (21, aI (-7)), (23, aIv E k 6 1 Y_TextReader_skip), (26, z_eq 43), (29, aLa 0), (30, aLi 1), (31, aI 1), (32, a_iadd), (33, aIv E k 6 1 Y_TextReader_readNot), (36, z_eq 43), (39, aI 1), (40, aGo 44), (43, aI 0), (44, aSi 2), (45, aLa 0), (46, aGet 6 5), (49, aI (-7)), (51, aIv E k 5 1 Y_Text_add), (54, aLi 2), (55, aRi)]
set_option maxRecDepth 20000 in
theorem pv_TextReader_readNot (E : am_E) (k : Nat) : am_pv E k Y_TextReader_readNot.2.1 Y_TextReader_readNot.2.2.1 Y_TextReader_readNot.1.cls (P_TextReader_readNot E k) := by
  refine am_pv_cons (v_aload_n (q := 0) (by decide +kernel) rfl) rfl ?_
  refine am_pv_cons (v_get fl_TextReader_39 (by decide +kernel)) rfl ?_
  refine am_pv_cons (v_bipush (n := -7) (by decide +kernel) (by decide +kernel)) rfl ?_
  refine am_pv_cons (v_ic_eq (off := 9) (by decide +kernel) rfl) rfl ?_
  refine am_pv_cons (v_aload_n (q := 0) (by decide +kernel) rfl) rfl ?_
  refine am_pv_cons (v_iload_n (q := 1) (by decide +kernel) rfl) rfl ?_
  refine am_pv_cons (v_virt (idx := 125) yv_TextReader_readComparison rfl rfl (tb3 216 (by decide +kernel) rfl) (by decide +kernel)) rfl ?_
  refine am_pv_cons (v_ireturn (by decide +kernel)) rfl ?_
  refine am_pv_cons (v_iload_n (q := 1) (by decide +kernel) rfl) rfl ?_
  refine am_pv_cons (v_iconst (n := 5) (by decide +kernel) rfl) rfl ?_
  refine am_pv_cons (v_ic_ge (off := 26) (by decide +kernel) rfl) rfl ?_
  refine am_pv_cons (v_aload_n (q := 0) (by decide +kernel) rfl) rfl ?_
  refine am_pv_cons (v_bipush (n := -7) (by decide +kernel) (by decide +kernel)) rfl ?_
  refine am_pv_cons (v_virt (idx := 42) yv_TextReader_skip rfl rfl (tb3 200 (by decide +kernel) rfl) (by decide +kernel)) rfl ?_
  refine am_pv_cons (v_if_eq (off := 17) (by decide +kernel) rfl) rfl ?_
  refine am_pv_cons (v_aload_n (q := 0) (by decide +kernel) rfl) rfl ?_
  refine am_pv_cons (v_iload_n (q := 1) (by decide +kernel) rfl) rfl ?_
  refine am_pv_cons (v_iconst (n := 1) (by decide +kernel) rfl) rfl ?_
  refine am_pv_cons (v_iadd (by decide +kernel)) rfl ?_
  refine am_pv_cons (v_virt (idx := 122) yv_TextReader_readNot rfl rfl (tb3 212 (by decide +kernel) rfl) (by decide +kernel)) rfl ?_
  refine am_pv_cons (v_if_eq (off := 7) (by decide +kernel) rfl) rfl ?_
  refine am_pv_cons (v_iconst (n := 1) (by decide +kernel) rfl) rfl ?_
  refine am_pv_cons (v_goto (off := 4) (by decide +kernel) rfl) rfl ?_
  refine am_pv_cons (v_iconst (n := 0) (by decide +kernel) rfl) rfl ?_
  refine am_pv_cons (v_istore_n (q := 2) (by decide +kernel) rfl) rfl ?_
  refine am_pv_cons (v_aload_n (q := 0) (by decide +kernel) rfl) rfl ?_
  refine am_pv_cons (v_get fl_TextReader_21 (by decide +kernel)) rfl ?_
  refine am_pv_cons (v_bipush (n := -7) (by decide +kernel) (by decide +kernel)) rfl ?_
  refine am_pv_cons (v_virt (idx := 118) yv_Text_add rfl rfl (tb3 233 (by decide +kernel) rfl) (by decide +kernel)) rfl ?_
  refine am_pv_cons (v_iload_n (q := 2) (by decide +kernel) rfl) rfl ?_
  refine am_pv_cons (v_ireturn (by decide +kernel)) trivial ?_
  exact trivial
def P_TextReader_readComparison (E : am_E) (k : Nat) : am_P := [(0, aLa 0), (1, aLi 1), (2, aIv E k 6 1 Y_TextReader_readSum), (5, aSi 2), (6, aLa 0), (7, aGet 6 4), (10, aSi 3), (11, aLi 2), (12, z_eq 57), (15, aLi 3), (16, aI (-60)), (18, c_eq 27), (21, aLi 3), (22, aI (-61)), (24, c_ne 57), (27, aLa 0), (28, aLi 3), (29, aIv E k 6 1 Y_TextReader_skip), (32, z_eq 47), (35, aLa 0), (36, aLi 1), (37, aIv E k 6 1 Y_TextReader_readSum), (40, z_eq 47), (43, aI 1), (44, aGo 48), (47, aI 0), (48, aSi 2), (49, aLa 0), (50, aGet 6 5), (53, aLi 3), (54, aIv E k 5 1 Y_Text_add), (57, aLi 2), (58, aRi)]
set_option maxRecDepth 20000 in
theorem pv_TextReader_readComparison (E : am_E) (k : Nat) : am_pv E k Y_TextReader_readComparison.2.1 Y_TextReader_readComparison.2.2.1 Y_TextReader_readComparison.1.cls (P_TextReader_readComparison E k) := by
  refine am_pv_cons (v_aload_n (q := 0) (by decide +kernel) rfl) rfl ?_
  refine am_pv_cons (v_iload_n (q := 1) (by decide +kernel) rfl) rfl ?_
  refine am_pv_cons (v_virt (idx := 128) yv_TextReader_readSum rfl rfl (tb3 220 (by decide +kernel) rfl) (by decide +kernel)) rfl ?_
  refine am_pv_cons (v_istore_n (q := 2) (by decide +kernel) rfl) rfl ?_
  refine am_pv_cons (v_aload_n (q := 0) (by decide +kernel) rfl) rfl ?_
  refine am_pv_cons (v_get fl_TextReader_39 (by decide +kernel)) rfl ?_
  refine am_pv_cons (v_istore_n (q := 3) (by decide +kernel) rfl) rfl ?_
  refine am_pv_cons (v_iload_n (q := 2) (by decide +kernel) rfl) rfl ?_
  refine am_pv_cons (v_if_eq (off := 45) (by decide +kernel) rfl) rfl ?_
  refine am_pv_cons (v_iload_n (q := 3) (by decide +kernel) rfl) rfl ?_
  refine am_pv_cons (v_bipush (n := -60) (by decide +kernel) (by decide +kernel)) rfl ?_
  refine am_pv_cons (v_ic_eq (off := 9) (by decide +kernel) rfl) rfl ?_
  refine am_pv_cons (v_iload_n (q := 3) (by decide +kernel) rfl) rfl ?_
  refine am_pv_cons (v_bipush (n := -61) (by decide +kernel) (by decide +kernel)) rfl ?_
  refine am_pv_cons (v_ic_ne (off := 33) (by decide +kernel) rfl) rfl ?_
  refine am_pv_cons (v_aload_n (q := 0) (by decide +kernel) rfl) rfl ?_
  refine am_pv_cons (v_iload_n (q := 3) (by decide +kernel) rfl) rfl ?_
  refine am_pv_cons (v_virt (idx := 42) yv_TextReader_skip rfl rfl (tb3 200 (by decide +kernel) rfl) (by decide +kernel)) rfl ?_
  refine am_pv_cons (v_if_eq (off := 15) (by decide +kernel) rfl) rfl ?_
  refine am_pv_cons (v_aload_n (q := 0) (by decide +kernel) rfl) rfl ?_
  refine am_pv_cons (v_iload_n (q := 1) (by decide +kernel) rfl) rfl ?_
  refine am_pv_cons (v_virt (idx := 128) yv_TextReader_readSum rfl rfl (tb3 220 (by decide +kernel) rfl) (by decide +kernel)) rfl ?_
  refine am_pv_cons (v_if_eq (off := 7) (by decide +kernel) rfl) rfl ?_
  refine am_pv_cons (v_iconst (n := 1) (by decide +kernel) rfl) rfl ?_
  refine am_pv_cons (v_goto (off := 4) (by decide +kernel) rfl) rfl ?_
  refine am_pv_cons (v_iconst (n := 0) (by decide +kernel) rfl) rfl ?_
  refine am_pv_cons (v_istore_n (q := 2) (by decide +kernel) rfl) rfl ?_
  refine am_pv_cons (v_aload_n (q := 0) (by decide +kernel) rfl) rfl ?_
  refine am_pv_cons (v_get fl_TextReader_21 (by decide +kernel)) rfl ?_
  refine am_pv_cons (v_iload_n (q := 3) (by decide +kernel) rfl) rfl ?_
  refine am_pv_cons (v_virt (idx := 118) yv_Text_add rfl rfl (tb3 233 (by decide +kernel) rfl) (by decide +kernel)) rfl ?_
  refine am_pv_cons (v_iload_n (q := 2) (by decide +kernel) rfl) rfl ?_
  refine am_pv_cons (v_ireturn (by decide +kernel)) trivial ?_
  exact trivial
def P_TextReader_readSum (E : am_E) (k : Nat) : am_P := [(0, aLa 0), (1, aLi 1), (2, aIv E k 6 1 Y_TextReader_readTerm), (5, aSi 2), (6, aI 0), (7, aSi 3), (8, aLi 3), (9, aI 160), (12, c_ge 81), (15, aLi 2), (16, z_eq 81), (19, aLa 0), (20, aGet 6 4), (23, aI (-43)), (25, c_eq 37), (28, aLa 0), (29, aGet 6 4), (32, aI (-45)), (34, c_ne 81), (37, aLa 0), (38, aGet 6 4), (41, aSi 4), (43, aLa 0), (44, aLi 4), (46, aIv E k 6 1 Y_TextReader_skip), (49, z_eq 64), (52, aLa 0), (53, aLi 1), (54, aIv E k 6 1 Y_TextReader_readTerm), (57, z_eq 64), (60, aI 1), (61, aGo 65), (64, aI 0), (65, aSi 2), (66, aLa 0), (67, aGet 6 5), (70, aLi 4), (72, aIv E k 5 1 Y_Text_add), (75, aInc 3 1), (78, aGo 8), (81, aLi 2), (82, aRi)]
set_option maxRecDepth 20000 in
theorem pv_TextReader_readSum (E : am_E) (k : Nat) : am_pv E k Y_TextReader_readSum.2.1 Y_TextReader_readSum.2.2.1 Y_TextReader_readSum.1.cls (P_TextReader_readSum E k) := by
  refine am_pv_cons (v_aload_n (q := 0) (by decide +kernel) rfl) rfl ?_
  refine am_pv_cons (v_iload_n (q := 1) (by decide +kernel) rfl) rfl ?_
  refine am_pv_cons (v_virt (idx := 131) yv_TextReader_readTerm rfl rfl (tb3 224 (by decide +kernel) rfl) (by decide +kernel)) rfl ?_
  refine am_pv_cons (v_istore_n (q := 2) (by decide +kernel) rfl) rfl ?_
  refine am_pv_cons (v_iconst (n := 0) (by decide +kernel) rfl) rfl ?_
  refine am_pv_cons (v_istore_n (q := 3) (by decide +kernel) rfl) rfl ?_
  refine am_pv_cons (v_iload_n (q := 3) (by decide +kernel) rfl) rfl ?_
  refine am_pv_cons (v_sipush (n := 160) (by decide +kernel) (by decide +kernel)) rfl ?_
  refine am_pv_cons (v_ic_ge (off := 69) (by decide +kernel) rfl) rfl ?_
  refine am_pv_cons (v_iload_n (q := 2) (by decide +kernel) rfl) rfl ?_
  refine am_pv_cons (v_if_eq (off := 65) (by decide +kernel) rfl) rfl ?_
  refine am_pv_cons (v_aload_n (q := 0) (by decide +kernel) rfl) rfl ?_
  refine am_pv_cons (v_get fl_TextReader_39 (by decide +kernel)) rfl ?_
  refine am_pv_cons (v_bipush (n := -43) (by decide +kernel) (by decide +kernel)) rfl ?_
  refine am_pv_cons (v_ic_eq (off := 12) (by decide +kernel) rfl) rfl ?_
  refine am_pv_cons (v_aload_n (q := 0) (by decide +kernel) rfl) rfl ?_
  refine am_pv_cons (v_get fl_TextReader_39 (by decide +kernel)) rfl ?_
  refine am_pv_cons (v_bipush (n := -45) (by decide +kernel) (by decide +kernel)) rfl ?_
  refine am_pv_cons (v_ic_ne (off := 47) (by decide +kernel) rfl) rfl ?_
  refine am_pv_cons (v_aload_n (q := 0) (by decide +kernel) rfl) rfl ?_
  refine am_pv_cons (v_get fl_TextReader_39 (by decide +kernel)) rfl ?_
  refine am_pv_cons (v_istore (by decide +kernel)) rfl ?_
  refine am_pv_cons (v_aload_n (q := 0) (by decide +kernel) rfl) rfl ?_
  refine am_pv_cons (v_iload (by decide +kernel)) rfl ?_
  refine am_pv_cons (v_virt (idx := 42) yv_TextReader_skip rfl rfl (tb3 200 (by decide +kernel) rfl) (by decide +kernel)) rfl ?_
  refine am_pv_cons (v_if_eq (off := 15) (by decide +kernel) rfl) rfl ?_
  refine am_pv_cons (v_aload_n (q := 0) (by decide +kernel) rfl) rfl ?_
  refine am_pv_cons (v_iload_n (q := 1) (by decide +kernel) rfl) rfl ?_
  refine am_pv_cons (v_virt (idx := 131) yv_TextReader_readTerm rfl rfl (tb3 224 (by decide +kernel) rfl) (by decide +kernel)) rfl ?_
  refine am_pv_cons (v_if_eq (off := 7) (by decide +kernel) rfl) rfl ?_
  refine am_pv_cons (v_iconst (n := 1) (by decide +kernel) rfl) rfl ?_
  refine am_pv_cons (v_goto (off := 4) (by decide +kernel) rfl) rfl ?_
  refine am_pv_cons (v_iconst (n := 0) (by decide +kernel) rfl) rfl ?_
  refine am_pv_cons (v_istore_n (q := 2) (by decide +kernel) rfl) rfl ?_
  refine am_pv_cons (v_aload_n (q := 0) (by decide +kernel) rfl) rfl ?_
  refine am_pv_cons (v_get fl_TextReader_21 (by decide +kernel)) rfl ?_
  refine am_pv_cons (v_iload (by decide +kernel)) rfl ?_
  refine am_pv_cons (v_virt (idx := 118) yv_Text_add rfl rfl (tb3 233 (by decide +kernel) rfl) (by decide +kernel)) rfl ?_
  refine am_pv_cons (v_iinc (n := 1) (by decide +kernel) (by decide +kernel)) rfl ?_
  refine am_pv_cons (v_goto (off := -70) (by decide +kernel) rfl) rfl ?_
  refine am_pv_cons (v_iload_n (q := 2) (by decide +kernel) rfl) rfl ?_
  refine am_pv_cons (v_ireturn (by decide +kernel)) trivial ?_
  exact trivial
def P_TextReader_readTerm (E : am_E) (k : Nat) : am_P := [(0, aLa 0), (1, aLi 1), (2, aIv E k 6 1 Y_TextReader_readOne), (5, aSi 2), (6, aI 0), (7, aSi 3), (8, aLi 3), (9, aI 160), (12, c_ge 66), (15, aLi 2), (16, z_eq 66), (19, aLa 0), (20, aGet 6 4), (23, aI (-42)), (25, c_ne 66), (28, aLa 0), (29, aI (-42)), (31, aIv E k 6 1 Y_TextReader_skip), (34, z_eq 49), (37, aLa 0), (38, aLi 1), (39, aIv E k 6 1 Y_TextReader_readOne), (42, z_eq 49), (45, aI 1), (46, aGo 50), (49, aI 0), (50, aSi 2), (51, aLa 0), (52, aGet 6 5), (55, aI (-42)), (57, aIv E k 5 1 Y_Text_add), (60, aInc 3 1), (63, aGo 8), (66, aLi 2), (67, aRi)]
set_option maxRecDepth 20000 in
theorem pv_TextReader_readTerm (E : am_E) (k : Nat) : am_pv E k Y_TextReader_readTerm.2.1 Y_TextReader_readTerm.2.2.1 Y_TextReader_readTerm.1.cls (P_TextReader_readTerm E k) := by
  refine am_pv_cons (v_aload_n (q := 0) (by decide +kernel) rfl) rfl ?_
  refine am_pv_cons (v_iload_n (q := 1) (by decide +kernel) rfl) rfl ?_
  refine am_pv_cons (v_virt (idx := 134) yv_TextReader_readOne rfl rfl (tb3 228 (by decide +kernel) rfl) (by decide +kernel)) rfl ?_
  refine am_pv_cons (v_istore_n (q := 2) (by decide +kernel) rfl) rfl ?_
  refine am_pv_cons (v_iconst (n := 0) (by decide +kernel) rfl) rfl ?_
  refine am_pv_cons (v_istore_n (q := 3) (by decide +kernel) rfl) rfl ?_
  refine am_pv_cons (v_iload_n (q := 3) (by decide +kernel) rfl) rfl ?_
  refine am_pv_cons (v_sipush (n := 160) (by decide +kernel) (by decide +kernel)) rfl ?_
  refine am_pv_cons (v_ic_ge (off := 54) (by decide +kernel) rfl) rfl ?_
  refine am_pv_cons (v_iload_n (q := 2) (by decide +kernel) rfl) rfl ?_
  refine am_pv_cons (v_if_eq (off := 50) (by decide +kernel) rfl) rfl ?_
  refine am_pv_cons (v_aload_n (q := 0) (by decide +kernel) rfl) rfl ?_
  refine am_pv_cons (v_get fl_TextReader_39 (by decide +kernel)) rfl ?_
  refine am_pv_cons (v_bipush (n := -42) (by decide +kernel) (by decide +kernel)) rfl ?_
  refine am_pv_cons (v_ic_ne (off := 41) (by decide +kernel) rfl) rfl ?_
  refine am_pv_cons (v_aload_n (q := 0) (by decide +kernel) rfl) rfl ?_
  refine am_pv_cons (v_bipush (n := -42) (by decide +kernel) (by decide +kernel)) rfl ?_
  refine am_pv_cons (v_virt (idx := 42) yv_TextReader_skip rfl rfl (tb3 200 (by decide +kernel) rfl) (by decide +kernel)) rfl ?_
  refine am_pv_cons (v_if_eq (off := 15) (by decide +kernel) rfl) rfl ?_
  refine am_pv_cons (v_aload_n (q := 0) (by decide +kernel) rfl) rfl ?_
  refine am_pv_cons (v_iload_n (q := 1) (by decide +kernel) rfl) rfl ?_
  refine am_pv_cons (v_virt (idx := 134) yv_TextReader_readOne rfl rfl (tb3 228 (by decide +kernel) rfl) (by decide +kernel)) rfl ?_
  refine am_pv_cons (v_if_eq (off := 7) (by decide +kernel) rfl) rfl ?_
  refine am_pv_cons (v_iconst (n := 1) (by decide +kernel) rfl) rfl ?_
  refine am_pv_cons (v_goto (off := 4) (by decide +kernel) rfl) rfl ?_
  refine am_pv_cons (v_iconst (n := 0) (by decide +kernel) rfl) rfl ?_
  refine am_pv_cons (v_istore_n (q := 2) (by decide +kernel) rfl) rfl ?_
  refine am_pv_cons (v_aload_n (q := 0) (by decide +kernel) rfl) rfl ?_
  refine am_pv_cons (v_get fl_TextReader_21 (by decide +kernel)) rfl ?_
  refine am_pv_cons (v_bipush (n := -42) (by decide +kernel) (by decide +kernel)) rfl ?_
  refine am_pv_cons (v_virt (idx := 118) yv_Text_add rfl rfl (tb3 233 (by decide +kernel) rfl) (by decide +kernel)) rfl ?_
  refine am_pv_cons (v_iinc (n := 1) (by decide +kernel) (by decide +kernel)) rfl ?_
  refine am_pv_cons (v_goto (off := -55) (by decide +kernel) rfl) rfl ?_
  refine am_pv_cons (v_iload_n (q := 2) (by decide +kernel) rfl) rfl ?_
  refine am_pv_cons (v_ireturn (by decide +kernel)) trivial ?_
  exact trivial
def P_TextReader_readOne (E : am_E) (k : Nat) : am_P := [(0, aLa 0), (1, aGet 6 4), (4, z_ge 17), (7, aLa 0), (8, aGet 6 4), (11, aIs E k 1 Y_Text_isName), (14, z_eq 37), (17, aLa 0), (18, aGet 6 5), (21, aLa 0), (22, aGet 6 4), (25, aIv E k 5 1 Y_Text_add), (28, aLa 0), (29, aLa 0), (30, aGet 6 4), (33, aIv E k 6 1 Y_TextReader_skip), (36, aRi), (37, aLi 1), (38, aI 5), (39, c_lt 44), (42, aI 0), (43, aRi), (44, aLa 0), (45, aGet 6 4), (48, aI (-40)), (50, c_ne 87), (53, aLa 0), (54, aI (-40)), (56, aIv E k 6 1 Y_TextReader_skip), (59, z_eq 85), (62, aLa 0), (63, aLi 1), (64, aI 1), (65, a_iadd), (66, aIv E k 6 1 Y_TextReader_readOr), (69, z_eq 85), (72, aLa 0), (73, aI (-41)), (75, aIv E k 6 1 Y_TextReader_skip), (78, z_eq 85), (81, aI 1), (82, aGo 86), (85, aI 0), (86, aRi), (87, aLa 0), (88, aI (-45)), (90, aIv E k 6 1 Y_TextReader_skip), (93, z_eq 110), (96, aLa 0), (97, aLi 1), (98, aI 1), (99, a_iadd), (100, aIv E k 6 1 Y_TextReader_readOne), (103, z_eq 110), (106, aI 1), (107, aGo 111), (110, aI 0), (111, aSi 2), (112, aLa 0), (113, aGet 6 5), (116, aI (-8)), (118, aIv E k 5 1 Y_Text_add), (121, aLi 2), (122, aRi)]
set_option maxRecDepth 20000 in
theorem pv_TextReader_readOne (E : am_E) (k : Nat) : am_pv E k Y_TextReader_readOne.2.1 Y_TextReader_readOne.2.2.1 Y_TextReader_readOne.1.cls (P_TextReader_readOne E k) := by
  refine am_pv_cons (v_aload_n (q := 0) (by decide +kernel) rfl) rfl ?_
  refine am_pv_cons (v_get fl_TextReader_39 (by decide +kernel)) rfl ?_
  refine am_pv_cons (v_if_ge (off := 13) (by decide +kernel) rfl) rfl ?_
  refine am_pv_cons (v_aload_n (q := 0) (by decide +kernel) rfl) rfl ?_
  refine am_pv_cons (v_get fl_TextReader_39 (by decide +kernel)) rfl ?_
  refine am_pv_cons (v_stat (idx := 137) ys_Text_isName (tb3 232 (by decide +kernel) rfl) (by decide +kernel)) rfl ?_
  refine am_pv_cons (v_if_eq (off := 23) (by decide +kernel) rfl) rfl ?_
  refine am_pv_cons (v_aload_n (q := 0) (by decide +kernel) rfl) rfl ?_
  refine am_pv_cons (v_get fl_TextReader_21 (by decide +kernel)) rfl ?_
  refine am_pv_cons (v_aload_n (q := 0) (by decide +kernel) rfl) rfl ?_
  refine am_pv_cons (v_get fl_TextReader_39 (by decide +kernel)) rfl ?_
  refine am_pv_cons (v_virt (idx := 118) yv_Text_add rfl rfl (tb3 233 (by decide +kernel) rfl) (by decide +kernel)) rfl ?_
  refine am_pv_cons (v_aload_n (q := 0) (by decide +kernel) rfl) rfl ?_
  refine am_pv_cons (v_aload_n (q := 0) (by decide +kernel) rfl) rfl ?_
  refine am_pv_cons (v_get fl_TextReader_39 (by decide +kernel)) rfl ?_
  refine am_pv_cons (v_virt (idx := 42) yv_TextReader_skip rfl rfl (tb3 200 (by decide +kernel) rfl) (by decide +kernel)) rfl ?_
  refine am_pv_cons (v_ireturn (by decide +kernel)) rfl ?_
  refine am_pv_cons (v_iload_n (q := 1) (by decide +kernel) rfl) rfl ?_
  refine am_pv_cons (v_iconst (n := 5) (by decide +kernel) rfl) rfl ?_
  refine am_pv_cons (v_ic_lt (off := 5) (by decide +kernel) rfl) rfl ?_
  refine am_pv_cons (v_iconst (n := 0) (by decide +kernel) rfl) rfl ?_
  refine am_pv_cons (v_ireturn (by decide +kernel)) rfl ?_
  refine am_pv_cons (v_aload_n (q := 0) (by decide +kernel) rfl) rfl ?_
  refine am_pv_cons (v_get fl_TextReader_39 (by decide +kernel)) rfl ?_
  refine am_pv_cons (v_bipush (n := -40) (by decide +kernel) (by decide +kernel)) rfl ?_
  refine am_pv_cons (v_ic_ne (off := 37) (by decide +kernel) rfl) rfl ?_
  refine am_pv_cons (v_aload_n (q := 0) (by decide +kernel) rfl) rfl ?_
  refine am_pv_cons (v_bipush (n := -40) (by decide +kernel) (by decide +kernel)) rfl ?_
  refine am_pv_cons (v_virt (idx := 42) yv_TextReader_skip rfl rfl (tb3 200 (by decide +kernel) rfl) (by decide +kernel)) rfl ?_
  refine am_pv_cons (v_if_eq (off := 26) (by decide +kernel) rfl) rfl ?_
  refine am_pv_cons (v_aload_n (q := 0) (by decide +kernel) rfl) rfl ?_
  refine am_pv_cons (v_iload_n (q := 1) (by decide +kernel) rfl) rfl ?_
  refine am_pv_cons (v_iconst (n := 1) (by decide +kernel) rfl) rfl ?_
  refine am_pv_cons (v_iadd (by decide +kernel)) rfl ?_
  refine am_pv_cons (v_virt (idx := 46) yv_TextReader_readOr rfl rfl (tb3 204 (by decide +kernel) rfl) (by decide +kernel)) rfl ?_
  refine am_pv_cons (v_if_eq (off := 16) (by decide +kernel) rfl) rfl ?_
  refine am_pv_cons (v_aload_n (q := 0) (by decide +kernel) rfl) rfl ?_
  refine am_pv_cons (v_bipush (n := -41) (by decide +kernel) (by decide +kernel)) rfl ?_
  refine am_pv_cons (v_virt (idx := 42) yv_TextReader_skip rfl rfl (tb3 200 (by decide +kernel) rfl) (by decide +kernel)) rfl ?_
  refine am_pv_cons (v_if_eq (off := 7) (by decide +kernel) rfl) rfl ?_
  refine am_pv_cons (v_iconst (n := 1) (by decide +kernel) rfl) rfl ?_
  refine am_pv_cons (v_goto (off := 4) (by decide +kernel) rfl) rfl ?_
  refine am_pv_cons (v_iconst (n := 0) (by decide +kernel) rfl) rfl ?_
  refine am_pv_cons (v_ireturn (by decide +kernel)) rfl ?_
  refine am_pv_cons (v_aload_n (q := 0) (by decide +kernel) rfl) rfl ?_
  refine am_pv_cons (v_bipush (n := -45) (by decide +kernel) (by decide +kernel)) rfl ?_
  refine am_pv_cons (v_virt (idx := 42) yv_TextReader_skip rfl rfl (tb3 200 (by decide +kernel) rfl) (by decide +kernel)) rfl ?_
  refine am_pv_cons (v_if_eq (off := 17) (by decide +kernel) rfl) rfl ?_
  refine am_pv_cons (v_aload_n (q := 0) (by decide +kernel) rfl) rfl ?_
  refine am_pv_cons (v_iload_n (q := 1) (by decide +kernel) rfl) rfl ?_
  refine am_pv_cons (v_iconst (n := 1) (by decide +kernel) rfl) rfl ?_
  refine am_pv_cons (v_iadd (by decide +kernel)) rfl ?_
  refine am_pv_cons (v_virt (idx := 134) yv_TextReader_readOne rfl rfl (tb3 228 (by decide +kernel) rfl) (by decide +kernel)) rfl ?_
  refine am_pv_cons (v_if_eq (off := 7) (by decide +kernel) rfl) rfl ?_
  refine am_pv_cons (v_iconst (n := 1) (by decide +kernel) rfl) rfl ?_
  refine am_pv_cons (v_goto (off := 4) (by decide +kernel) rfl) rfl ?_
  refine am_pv_cons (v_iconst (n := 0) (by decide +kernel) rfl) rfl ?_
  refine am_pv_cons (v_istore_n (q := 2) (by decide +kernel) rfl) rfl ?_
  refine am_pv_cons (v_aload_n (q := 0) (by decide +kernel) rfl) rfl ?_
  refine am_pv_cons (v_get fl_TextReader_21 (by decide +kernel)) rfl ?_
  refine am_pv_cons (v_bipush (n := -8) (by decide +kernel) (by decide +kernel)) rfl ?_
  refine am_pv_cons (v_virt (idx := 118) yv_Text_add rfl rfl (tb3 233 (by decide +kernel) rfl) (by decide +kernel)) rfl ?_
  refine am_pv_cons (v_iload_n (q := 2) (by decide +kernel) rfl) rfl ?_
  refine am_pv_cons (v_ireturn (by decide +kernel)) trivial ?_
  exact trivial
def P_TextReader_skip (E : am_E) (k : Nat) : am_P := [(0, aLa 0), (1, aGet 6 4), (4, aLi 1), (5, c_ne 20), (8, aLa 0), (9, aGet 6 3), (12, aI 1), (13, a_iadd), (14, aI 161), (17, c_lt 22), (20, aI 0), (21, aRi), (22, aLa 0), (23, aDup), (24, aGet 6 3), (27, aI 1), (28, a_iadd), (29, aPut 6 3), (32, aLa 0), (33, aLa 0), (34, aGet 6 1), (37, aLa 0), (38, aGet 6 3), (41, aAld 0), (42, aPut 6 4), (45, aI 1), (46, aRi)]
set_option maxRecDepth 20000 in
theorem pv_TextReader_skip (E : am_E) (k : Nat) : am_pv E k Y_TextReader_skip.2.1 Y_TextReader_skip.2.2.1 Y_TextReader_skip.1.cls (P_TextReader_skip E k) := by
  refine am_pv_cons (v_aload_n (q := 0) (by decide +kernel) rfl) rfl ?_
  refine am_pv_cons (v_get fl_TextReader_39 (by decide +kernel)) rfl ?_
  refine am_pv_cons (v_iload_n (q := 1) (by decide +kernel) rfl) rfl ?_
  refine am_pv_cons (v_ic_ne (off := 15) (by decide +kernel) rfl) rfl ?_
  refine am_pv_cons (v_aload_n (q := 0) (by decide +kernel) rfl) rfl ?_
  refine am_pv_cons (v_get fl_TextReader_35 (by decide +kernel)) rfl ?_
  refine am_pv_cons (v_iconst (n := 1) (by decide +kernel) rfl) rfl ?_
  refine am_pv_cons (v_iadd (by decide +kernel)) rfl ?_
  refine am_pv_cons (v_sipush (n := 161) (by decide +kernel) (by decide +kernel)) rfl ?_
  refine am_pv_cons (v_ic_lt (off := 5) (by decide +kernel) rfl) rfl ?_
  refine am_pv_cons (v_iconst (n := 0) (by decide +kernel) rfl) rfl ?_
  refine am_pv_cons (v_ireturn (by decide +kernel)) rfl ?_
  refine am_pv_cons (v_aload_n (q := 0) (by decide +kernel) rfl) rfl ?_
  refine am_pv_cons (v_dup (by decide +kernel)) rfl ?_
  refine am_pv_cons (v_get fl_TextReader_35 (by decide +kernel)) rfl ?_
  refine am_pv_cons (v_iconst (n := 1) (by decide +kernel) rfl) rfl ?_
  refine am_pv_cons (v_iadd (by decide +kernel)) rfl ?_
  refine am_pv_cons (v_put fw_TextReader_35 (by decide +kernel)) rfl ?_
  refine am_pv_cons (v_aload_n (q := 0) (by decide +kernel) rfl) rfl ?_
  refine am_pv_cons (v_aload_n (q := 0) (by decide +kernel) rfl) rfl ?_
  refine am_pv_cons (v_get fl_TextReader_11 (by decide +kernel)) rfl ?_
  refine am_pv_cons (v_aload_n (q := 0) (by decide +kernel) rfl) rfl ?_
  refine am_pv_cons (v_get fl_TextReader_35 (by decide +kernel)) rfl ?_
  refine am_pv_cons (v_iald (by decide +kernel)) rfl ?_
  refine am_pv_cons (v_put fw_TextReader_39 (by decide +kernel)) rfl ?_
  refine am_pv_cons (v_iconst (n := 1) (by decide +kernel) rfl) rfl ?_
  refine am_pv_cons (v_ireturn (by decide +kernel)) trivial ?_
  exact trivial
