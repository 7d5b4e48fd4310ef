/-! THE LAW'S OWN LOOP -/
/-- the script -/
def lw_X (E : am_E) (b L : Nat) (xs : Nat → Int32) (s : State) : Prop := E.2.1 200 = b ∧ va_X b L xs s s.heap ∧ b < s.heap.size ∧ ¬ am_Ad E b
def lw_V (E : am_E) (L : Nat) (xs : Nat → Int32) (k : Nat) (cc : ByteArray) (nL : Nat) (own : String) (pc len : Nat) (a : am_A) : Prop :=
  ∀ (p : Program) (l : Launch) (e : Env) (R : Room) (s : State) (m : MethodId) (args : Array Value) (below : List Frame) (meth : Method) (c : Code) (Q : State → Prop) (nc ns : Nat) (post : am_K), am_Ctx E k p l e R s m args below meth c Q nc ns cc nL own post → ∀ b, lw_X E b L xs s →
    am_G (am_Sem E p l e R s m args below meth c nL Q nc ns) post pc len a
theorem lw_of {E : am_E} {L : Nat} {xs : Nat → Int32} {k : Nat} {cc : ByteArray} {nL : Nat} {own : String} {pc len : Nat} {a : am_A} (h : am_V E k cc nL own pc len a) : lw_V E L xs k cc nL own pc len a :=
  fun p l e R s m args below meth c Q nc ns post C _ _ => h p l e R s m args below meth c Q nc ns post C
def lw_pv (E : am_E) (L : Nat) (xs : Nat → Int32) (k : Nat) (cc : ByteArray) (nL : Nat) (own : String) : am_P → Prop
  | [] => True
  | (pc, a) :: r => (∃ len, lw_V E L xs k cc nL own pc len a ∧ am_hd (pc + len) r) ∧ lw_pv E L xs k cc nL own r
theorem lw_pv_cons {E : am_E} {L : Nat} {xs : Nat → Int32} {k : Nat} {cc : ByteArray} {nL : Nat} {own : String} {pc len : Nat} {a : am_A} {r : am_P} (h : lw_V E L xs k cc nL own pc len a) (hh : am_hd (pc + len) r) (hr : lw_pv E L xs k cc nL own r) : lw_pv E L xs k cc nL own ((pc, a) :: r) := ⟨⟨len, h, hh⟩, hr⟩
theorem lw_pv_ok {E : am_E} {L : Nat} {xs : Nat → Int32} {k : Nat} {cc : ByteArray} {nL : Nat} {own : String} {p : Program} {l : Launch} {e : Env} {R : Room} {s : State} {m : MethodId} {args : Array Value} {below : List Frame} {meth : Method} {c : Code} {Q : State → Prop} {nc ns : Nat} {post : am_K}
    (C : am_Ctx E k p l e R s m args below meth c Q nc ns cc nL own post) {b : Nat} (X : lw_X E b L xs s) : ∀ (P : am_P), lw_pv E L xs k cc nL own P → am_ok (am_Sem E p l e R s m args below meth c nL Q nc ns) post P
  | [], _ => trivial
  | (pc, a) :: r, h => by
    obtain ⟨⟨len, h1, h2⟩, h3⟩ := h
    exact ⟨⟨len, h1 p l e R s m args below meth c Q nc ns post C b X, h2⟩, lw_pv_ok C X r h3⟩
def aSld (L : Nat) (xs : Nat → Int32) : am_A := fun K _ _ f st I w => match st with
  | .int i :: .ref o :: r => (match Nat.beq o 200 with
    | true => vp_in i L ∧ K f (.int (xs i.toNatClampNeg) :: r) I w
    | false => False)
  | _ => False
def aSln (L : Nat) : am_A := fun K _ _ f st I w => match st with
  | .ref o :: r => (match Nat.beq o 200 with
    | true => K f (.int (nI L) :: r) I w
    | false => False)
  | _ => False
theorem v_sld {E : am_E} {L : Nat} {xs : Nat → Int32} {k : Nat} {cc : ByteArray} {nL : Nat} {own : String} {pc : Nat} (hd : decode cc pc = .ok (.iaload, 1)) : lw_V E L xs k cc nL own pc 1 (aSld L xs) := by
  intro p l e R s m args below meth c Q nc ns post C b X K J f st I w ha hK hJ
  obtain ⟨⟨hx, hb, hml, hown, hts⟩, ⟨hKn, hFx, hinj, hl⟩, ⟨hR1, hR2, hR3, hR4⟩, hpost⟩ := C
  obtain ⟨rfl, x2, x3, x4⟩ := X
  simp only [aSld] at ha
  split at ha
  · rename_i i o r
    split at ha
    · rename_i hbq
      have e200 : o = 200 := Nat.eq_of_beq_eq_true hbq
      subst e200
      exact fun H locs ls hP hS hls => va_sld hx hb x2 x3 x4 hS ha.1 hd (hK _ _ _ _ ha.2 H locs ls hP hS hls)
    · exact ha.elim
  · exact ha.elim
theorem v_sln {E : am_E} {L : Nat} {xs : Nat → Int32} {k : Nat} {cc : ByteArray} {nL : Nat} {own : String} {pc : Nat} (hd : decode cc pc = .ok (.arraylength, 1)) : lw_V E L xs k cc nL own pc 1 (aSln L) := by
  intro p l e R s m args below meth c Q nc ns post C b X K J f st I w ha hK hJ
  obtain ⟨⟨hx, hb, hml, hown, hts⟩, ⟨hKn, hFx, hinj, hl⟩, ⟨hR1, hR2, hR3, hR4⟩, hpost⟩ := C
  obtain ⟨rfl, x2, x3, x4⟩ := X
  simp only [aSln] at ha
  split at ha
  · rename_i o r
    split at ha
    · rename_i hbq
      have e200 : o = 200 := Nat.eq_of_beq_eq_true hbq
      subst e200
      exact fun H locs ls hP hS hls => va_slen hx hb x2 x3 x4 hS hd (hK _ _ _ _ ha H locs ls hP hS hls)
    · exact ha.elim
  · exact ha.elim
def P_LAW (E : am_E) (k L : Nat) (xs : Nat → Int32) : am_P := [(18, aLi 3), (19, aLa 0), (20, aSln L), (21, aI 6), (23, a_isub), (24, c_gt 1297), (27, aLa 0), (28, aLi 3), (29, aSld L xs), (30, aI 63), (32, a_iand), (33, aSw [(0, 196), (1, 219), (2, 262), (3, 325), (4, 358), (5, 391), (6, 454), (7, 467), (8, 480), (9, 503), (10, 536), (11, 569), (12, 593), (13, 637), (14, 670), (15, 683), (16, 706), (17, 719), (18, 742), (19, 775), (20, 788), (21, 811), (22, 834), (23, 847), (24, 860), (25, 883), (26, 906), (27, 950), (28, 974), (29, 1007), (30, 1020), (31, 1033), (32, 1056), (33, 1099), (34, 1142), (35, 1205), (36, 1258)] 1291), (196, aLa 1), (197, aLa 0), (198, aLi 3), (199, aI 1), (200, a_iadd), (201, aSld L xs), (202, aIv E k 0 1 Y_TC_person), (205, aLa 2), (206, aLa 0), (207, aLi 3), (208, aI 1), (209, a_iadd), (210, aSld L xs), (211, aIv E k 12 1 Y_MO_person), (214, c_eq 1291), (217, aI 0), (218, aRi), (219, aLa 1), (220, aLa 0), (221, aLi 3), (222, aI 1), (223, a_iadd), (224, aSld L xs), (225, aLa 0), (226, aLi 3), (227, aI 2), (228, a_iadd), (229, aSld L xs), (230, aLa 0), (231, aLi 3), (232, aI 3), (233, a_iadd), (234, aSld L xs), (235, aIv E k 0 3 Y_TC_set), (238, aLa 2), (239, aLa 0), (240, aLi 3), (241, aI 1), (242, a_iadd), (243, aSld L xs), (244, aLa 0), (245, aLi 3), (246, aI 2), (247, a_iadd), (248, aSld L xs), (249, aLa 0), (250, aLi 3), (251, aI 3), (252, a_iadd), (253, aSld L xs), (254, aIv E k 12 3 Y_MO_set), (257, c_eq 1291), (260, aI 0), (261, aRi), (262, aLa 1), (263, aLa 0), (264, aLi 3), (265, aI 1), (266, a_iadd), (267, aSld L xs), (268, aLa 0), (269, aLi 3), (270, aI 2), (271, a_iadd), (272, aSld L xs), (273, aLa 0), (274, aLi 3), (275, aI 3), (276, a_iadd), (277, aSld L xs), (278, aLa 0), (279, aLi 3), (280, aI 4), (281, a_iadd), (282, aSld L xs), (283, aLa 0), (284, aLi 3), (285, aI 5), (286, a_iadd), (287, aSld L xs), (288, aIv E k 0 5 Y_TC_feel), (291, aLa 2), (292, aLa 0), (293, aLi 3), (294, aI 1), (295, a_iadd), (296, aSld L xs), (297, aLa 0), (298, aLi 3), (299, aI 2), (300, a_iadd), (301, aSld L xs), (302, aLa 0), (303, aLi 3), (304, aI 3), (305, a_iadd), (306, aSld L xs), (307, aLa 0), (308, aLi 3), (309, aI 4), (310, a_iadd), (311, aSld L xs), (312, aLa 0), (313, aLi 3), (314, aI 5), (315, a_iadd), (316, aSld L xs), (317, aIv E k 12 5 Y_MO_feel), (320, c_eq 1291), (323, aI 0), (324, aRi), (325, aLa 1), (326, aLa 0), (327, aLi 3), (328, aI 1), (329, a_iadd), (330, aSld L xs), (331, aLa 0), (332, aLi 3), (333, aI 2), (334, a_iadd), (335, aSld L xs), (336, aIv E k 0 2 Y_TC_felt), (339, aLa 2), (340, aLa 0), (341, aLi 3), (342, aI 1), (343, a_iadd), (344, aSld L xs), (345, aLa 0), (346, aLi 3), (347, aI 2), (348, a_iadd), (349, aSld L xs), (350, aIv E k 12 2 Y_MO_felt), (353, c_eq 1291), (356, aI 0), (357, aRi), (358, aLa 1), (359, aLa 0), (360, aLi 3), (361, aI 1), (362, a_iadd), (363, aSld L xs), (364, aLa 0), (365, aLi 3), (366, aI 2), (367, a_iadd), (368, aSld L xs), (369, aIv E k 0 2 Y_TC_between), (372, aLa 2), (373, aLa 0), (374, aLi 3), (375, aI 1), (376, a_iadd), (377, aSld L xs), (378, aLa 0), (379, aLi 3), (380, aI 2), (381, a_iadd), (382, aSld L xs), (383, aIv E k 12 2 Y_MO_between), (386, c_eq 1291), (389, aI 0), (390, aRi), (391, aLa 1), (392, aLa 0), (393, aLi 3), (394, aI 1), (395, a_iadd), (396, aSld L xs), (397, aLa 0), (398, aLi 3), (399, aI 2), (400, a_iadd), (401, aSld L xs), (402, aI2L), (403, aI 32), (405, a_lshl), (406, aLa 0), (407, aLi 3), (408, aI 3), (409, a_iadd), (410, aSld L xs), (411, aI2L), (412, aJ 4294967295), (415, a_land), (416, a_lor), (417, aIv E k 0 2 Y_TC_feed), (420, aLa 2), (421, aLa 0), (422, aLi 3), (423, aI 1), (424, a_iadd), (425, aSld L xs), (426, aLa 0), (427, aLi 3), (428, aI 2), (429, a_iadd), (430, aSld L xs), (431, aI2L), (432, aI 32), (434, a_lshl), (435, aLa 0), (436, aLi 3), (437, aI 3), (438, a_iadd), (439, aSld L xs), (440, aI2L), (441, aJ 4294967295), (444, a_land), (445, a_lor), (446, aIv E k 12 2 Y_MO_feed), (449, c_eq 1291), (452, aI 0), (453, aRi), (454, aLa 1), (455, aIv E k 0 0 Y_TC_street), (458, aLa 2), (459, aIv E k 12 0 Y_MO_street), (462, c_eq 1291), (465, aI 0), (466, aRi), (467, aLa 1), (468, aIv E k 0 0 Y_TC_text), (471, aLa 2), (472, aIv E k 12 0 Y_MO_text), (475, c_eq 1291), (478, aI 0), (479, aRi), (480, aLa 1), (481, aLa 0), (482, aLi 3), (483, aI 1), (484, a_iadd), (485, aSld L xs), (486, aIv E k 0 1 Y_TC_force), (489, aLa 2), (490, aLa 0), (491, aLi 3), (492, aI 1), (493, a_iadd), (494, aSld L xs), (495, aIv E k 12 1 Y_MO_force), (498, c_eq 1291), (501, aI 0), (502, aRi), (503, aLa 1), (504, aLa 0), (505, aLi 3), (506, aI 1), (507, a_iadd), (508, aSld L xs), (509, aLa 0), (510, aLi 3), (511, aI 2), (512, a_iadd), (513, aSld L xs), (514, aIv E k 0 2 Y_TC_camping), (517, aLa 2), (518, aLa 0), (519, aLi 3), (520, aI 1), (521, a_iadd), (522, aSld L xs), (523, aLa 0), (524, aLi 3), (525, aI 2), (526, a_iadd), (527, aSld L xs), (528, aIv E k 12 2 Y_MO_camping), (531, c_eq 1291), (534, aI 0), (535, aRi), (536, aLa 1), (537, aLa 0), (538, aLi 3), (539, aI 1), (540, a_iadd), (541, aSld L xs), (542, aLa 0), (543, aLi 3), (544, aI 2), (545, a_iadd), (546, aSld L xs), (547, aIv E k 0 2 Y_TC_camped), (550, aLa 2), (551, aLa 0), (552, aLi 3), (553, aI 1), (554, a_iadd), (555, aSld L xs), (556, aLa 0), (557, aLi 3), (558, aI 2), (559, a_iadd), (560, aSld L xs), (561, aIv E k 12 2 Y_MO_camped), (564, c_eq 1291), (567, aI 0), (568, aRi), (569, aLa 1), (570, aLa 0), (571, aLi 3), (572, aI 1), (573, a_iadd), (574, aSld L xs), (575, aIv E k 0 1 Y_TC_cost), (578, aLa 2), (579, aLa 0), (580, aLi 3), (581, aI 1), (582, a_iadd), (583, aSld L xs), (584, aIv E k 12 1 Y_MO_cost), (587, aCmp), (588, z_eq 1291), (591, aI 0), (592, aRi), (593, aLa 1), (594, aLa 0), (595, aLi 3), (596, aI 1), (597, a_iadd), (598, aSld L xs), (599, aLa 0), (600, aLi 3), (601, aI 2), (602, a_iadd), (603, aSld L xs), (604, aLa 0), (605, aLi 3), (606, aI 3), (607, a_iadd), (608, aSld L xs), (609, aIv E k 0 3 Y_TC_move), (612, aLa 2), (613, aLa 0), (614, aLi 3), (615, aI 1), (616, a_iadd), (617, aSld L xs), (618, aLa 0), (619, aLi 3), (620, aI 2), (621, a_iadd), (622, aSld L xs), (623, aLa 0), (624, aLi 3), (625, aI 3), (626, a_iadd), (627, aSld L xs), (628, aIv E k 12 3 Y_MO_move), (631, aCmp), (632, z_eq 1291), (635, aI 0), (636, aRi), (637, aLa 1), (638, aLa 0), (639, aLi 3), (640, aI 1), (641, a_iadd), (642, aSld L xs), (643, aLa 0), (644, aLi 3), (645, aI 2), (646, a_iadd), (647, aSld L xs), (648, aIv E k 0 2 Y_TC_same), (651, aLa 2), (652, aLa 0), (653, aLi 3), (654, aI 1), (655, a_iadd), (656, aSld L xs), (657, aLa 0), (658, aLi 3), (659, aI 2), (660, a_iadd), (661, aSld L xs), (662, aIv E k 12 2 Y_MO_same), (665, c_eq 1291), (668, aI 0), (669, aRi), (670, aLa 1), (671, aIv E k 0 0 Y_TC_peace), (674, aLa 2), (675, aIv E k 12 0 Y_MO_peace), (678, c_eq 1291), (681, aI 0), (682, aRi), (683, aLa 1), (684, aLa 0), (685, aLi 3), (686, aI 1), (687, a_iadd), (688, aSld L xs), (689, aIv E k 0 1 Y_TC_ring), (692, aLa 2), (693, aLa 0), (694, aLi 3), (695, aI 1), (696, a_iadd), (697, aSld L xs), (698, aIv E k 12 1 Y_MO_ring), (701, c_eq 1291), (704, aI 0), (705, aRi), (706, aLa 1), (707, aIv E k 0 0 Y_TC_least), (710, aLa 2), (711, aIv E k 12 0 Y_MO_least), (714, c_eq 1291), (717, aI 0), (718, aRi), (719, aLa 1), (720, aLa 0), (721, aLi 3), (722, aI 1), (723, a_iadd), (724, aSld L xs), (725, aIv E k 0 1 Y_TC_all), (728, aLa 2), (729, aLa 0), (730, aLi 3), (731, aI 1), (732, a_iadd), (733, aSld L xs), (734, aIv E k 12 1 Y_MO_all), (737, c_eq 1291), (740, aI 0), (741, aRi), (742, aLa 1), (743, aLa 0), (744, aLi 3), (745, aI 1), (746, a_iadd), (747, aSld L xs), (748, aLa 0), (749, aLi 3), (750, aI 2), (751, a_iadd), (752, aSld L xs), (753, aIv E k 0 2 Y_TC_together), (756, aLa 2), (757, aLa 0), (758, aLi 3), (759, aI 1), (760, a_iadd), (761, aSld L xs), (762, aLa 0), (763, aLi 3), (764, aI 2), (765, a_iadd), (766, aSld L xs), (767, aIv E k 12 2 Y_MO_together), (770, c_eq 1291), (773, aI 0), (774, aRi), (775, aLa 1), (776, aIv E k 0 0 Y_TC_aside), (779, aLa 2), (780, aIv E k 12 0 Y_MO_aside), (783, c_eq 1291), (786, aI 0), (787, aRi), (788, aLa 1), (789, aLa 0), (790, aLi 3), (791, aI 1), (792, a_iadd), (793, aSld L xs), (794, aIv E k 0 1 Y_TC_many), (797, aLa 2), (798, aLa 0), (799, aLi 3), (800, aI 1), (801, a_iadd), (802, aSld L xs), (803, aIv E k 12 1 Y_MO_many), (806, c_eq 1291), (809, aI 0), (810, aRi), (811, aLa 1), (812, aLa 0), (813, aLi 3), (814, aI 1), (815, a_iadd), (816, aSld L xs), (817, aIv E k 0 1 Y_TC_part), (820, aLa 2), (821, aLa 0), (822, aLi 3), (823, aI 1), (824, a_iadd), (825, aSld L xs), (826, aIv E k 12 1 Y_MO_part2), (829, c_eq 1291), (832, aI 0), (833, aRi), (834, aLa 1), (835, aIv E k 0 0 Y_TC_doors), (838, aLa 2), (839, aIv E k 12 0 Y_MO_doors), (842, c_eq 1291), (845, aI 0), (846, aRi), (847, aLa 1), (848, aIv E k 0 0 Y_TC_threes), (851, aLa 2), (852, aIv E k 12 0 Y_MO_threes), (855, c_eq 1291), (858, aI 0), (859, aRi), (860, aLa 1), (861, aLa 0), (862, aLi 3), (863, aI 1), (864, a_iadd), (865, aSld L xs), (866, aIv E k 0 1 Y_TC_step), (869, aLa 2), (870, aLa 0), (871, aLi 3), (872, aI 1), (873, a_iadd), (874, aSld L xs), (875, aIv E k 12 1 Y_MO_step), (878, c_eq 1291), (881, aI 0), (882, aRi), (883, aLa 1), (884, aLa 0), (885, aLi 3), (886, aI 1), (887, a_iadd), (888, aSld L xs), (889, aIv E k 0 1 Y_TC_ends), (892, aLa 2), (893, aLa 0), (894, aLi 3), (895, aI 1), (896, a_iadd), (897, aSld L xs), (898, aIv E k 12 1 Y_MO_ends), (901, c_eq 1291), (904, aI 0), (905, aRi), (906, aLa 1), (907, aLa 0), (908, aLi 3), (909, aI 1), (910, a_iadd), (911, aSld L xs), (912, aLa 0), (913, aLi 3), (914, aI 2), (915, a_iadd), (916, aSld L xs), (917, aLa 0), (918, aLi 3), (919, aI 3), (920, a_iadd), (921, aSld L xs), (922, aIv E k 0 3 Y_TC_meet), (925, aLa 2), (926, aLa 0), (927, aLi 3), (928, aI 1), (929, a_iadd), (930, aSld L xs), (931, aLa 0), (932, aLi 3), (933, aI 2), (934, a_iadd), (935, aSld L xs), (936, aLa 0), (937, aLi 3), (938, aI 3), (939, a_iadd), (940, aSld L xs), (941, aIv E k 12 3 Y_MO_meet), (944, aCmp), (945, z_eq 1291), (948, aI 0), (949, aRi), (950, aLa 1), (951, aLa 0), (952, aLi 3), (953, aI 1), (954, a_iadd), (955, aSld L xs), (956, aIv E k 0 1 Y_TC_edge), (959, aLa 2), (960, aLa 0), (961, aLi 3), (962, aI 1), (963, a_iadd), (964, aSld L xs), (965, aIv E k 12 1 Y_MO_edge), (968, aCmp), (969, z_eq 1291), (972, aI 0), (973, aRi), (974, aLa 1), (975, aLa 0), (976, aLi 3), (977, aI 1), (978, a_iadd), (979, aSld L xs), (980, aLa 0), (981, aLi 3), (982, aI 2), (983, a_iadd), (984, aSld L xs), (985, aIv E k 0 2 Y_TC_bring), (988, aLa 2), (989, aLa 0), (990, aLi 3), (991, aI 1), (992, a_iadd), (993, aSld L xs), (994, aLa 0), (995, aLi 3), (996, aI 2), (997, a_iadd), (998, aSld L xs), (999, aIv E k 12 2 Y_MO_bring), (1002, c_eq 1291), (1005, aI 0), (1006, aRi), (1007, aLa 1), (1008, aIv E k 0 0 Y_TC_image), (1011, aLa 2), (1012, aIv E k 12 0 Y_MO_image), (1015, c_eq 1291), (1018, aI 0), (1019, aRi), (1020, aLa 1), (1021, aIv E k 0 0 Y_TC_back), (1024, aLa 2), (1025, aIv E k 12 0 Y_MO_back), (1028, c_eq 1291), (1031, aI 0), (1032, aRi), (1033, aLa 1), (1034, aLa 0), (1035, aLi 3), (1036, aI 1), (1037, a_iadd), (1038, aSld L xs), (1039, aIv E k 0 1 Y_TC_count), (1042, aLa 2), (1043, aLa 0), (1044, aLi 3), (1045, aI 1), (1046, a_iadd), (1047, aSld L xs), (1048, aIv E k 12 1 Y_MO_count), (1051, c_eq 1291), (1054, aI 0), (1055, aRi), (1056, aLa 1), (1057, aLa 0), (1058, aLi 3), (1059, aI 1), (1060, a_iadd), (1061, aSld L xs), (1062, aLa 0), (1063, aLi 3), (1064, aI 2), (1065, a_iadd), (1066, aSld L xs), (1067, aLa 0), (1068, aLi 3), (1069, aI 3), (1070, a_iadd), (1071, aSld L xs), (1072, aIv E k 0 3 Y_TC_sheet), (1075, aLa 2), (1076, aLa 0), (1077, aLi 3), (1078, aI 1), (1079, a_iadd), (1080, aSld L xs), (1081, aLa 0), (1082, aLi 3), (1083, aI 2), (1084, a_iadd), (1085, aSld L xs), (1086, aLa 0), (1087, aLi 3), (1088, aI 3), (1089, a_iadd), (1090, aSld L xs), (1091, aIv E k 12 3 Y_MO_sheet), (1094, c_eq 1291), (1097, aI 0), (1098, aRi), (1099, aLa 1), (1100, aLa 0), (1101, aLi 3), (1102, aI 1), (1103, a_iadd), (1104, aSld L xs), (1105, aLa 0), (1106, aLi 3), (1107, aI 2), (1108, a_iadd), (1109, aSld L xs), (1110, aLa 0), (1111, aLi 3), (1112, aI 3), (1113, a_iadd), (1114, aSld L xs), (1115, aIv E k 0 3 Y_TC_cell), (1118, aLa 2), (1119, aLa 0), (1120, aLi 3), (1121, aI 1), (1122, a_iadd), (1123, aSld L xs), (1124, aLa 0), (1125, aLi 3), (1126, aI 2), (1127, a_iadd), (1128, aSld L xs), (1129, aLa 0), (1130, aLi 3), (1131, aI 3), (1132, a_iadd), (1133, aSld L xs), (1134, aIv E k 12 3 Y_MO_cell), (1137, c_eq 1291), (1140, aI 0), (1141, aRi), (1142, aLa 1), (1143, aLa 0), (1144, aLi 3), (1145, aI 1), (1146, a_iadd), (1147, aSld L xs), (1148, aLa 0), (1149, aLi 3), (1150, aI 2), (1151, a_iadd), (1152, aSld L xs), (1153, aLa 0), (1154, aLi 3), (1155, aI 3), (1156, a_iadd), (1157, aSld L xs), (1158, aLa 0), (1159, aLi 3), (1160, aI 4), (1161, a_iadd), (1162, aSld L xs), (1163, aLa 0), (1164, aLi 3), (1165, aI 5), (1166, a_iadd), (1167, aSld L xs), (1168, aIv E k 0 5 Y_TC_copy), (1171, aLa 2), (1172, aLa 0), (1173, aLi 3), (1174, aI 1), (1175, a_iadd), (1176, aSld L xs), (1177, aLa 0), (1178, aLi 3), (1179, aI 2), (1180, a_iadd), (1181, aSld L xs), (1182, aLa 0), (1183, aLi 3), (1184, aI 3), (1185, a_iadd), (1186, aSld L xs), (1187, aLa 0), (1188, aLi 3), (1189, aI 4), (1190, a_iadd), (1191, aSld L xs), (1192, aLa 0), (1193, aLi 3), (1194, aI 5), (1195, a_iadd), (1196, aSld L xs), (1197, aIv E k 12 5 Y_MO_copy), (1200, c_eq 1291), (1203, aI 0), (1204, aRi), (1205, aLa 1), (1206, aLa 0), (1207, aLi 3), (1208, aI 1), (1209, a_iadd), (1210, aSld L xs), (1211, aLa 0), (1212, aLi 3), (1213, aI 2), (1214, a_iadd), (1215, aSld L xs), (1216, aLa 0), (1217, aLi 3), (1218, aI 3), (1219, a_iadd), (1220, aSld L xs), (1221, aLa 0), (1222, aLi 3), (1223, aI 4), (1224, a_iadd), (1225, aSld L xs), (1226, aIv E k 0 4 Y_TC_feels), (1229, aLa 2), (1230, aLa 0), (1231, aLi 3), (1232, aI 1), (1233, a_iadd), (1234, aSld L xs), (1235, aLa 0), (1236, aLi 3), (1237, aI 2), (1238, a_iadd), (1239, aSld L xs), (1240, aLa 0), (1241, aLi 3), (1242, aI 3), (1243, a_iadd), (1244, aSld L xs), (1245, aLa 0), (1246, aLi 3), (1247, aI 4), (1248, a_iadd), (1249, aSld L xs), (1250, aIv E k 12 4 Y_MO_feels), (1253, c_eq 1291), (1256, aI 0), (1257, aRi), (1258, aLa 1), (1259, aLa 0), (1260, aLi 3), (1261, aI 1), (1262, a_iadd), (1263, aSld L xs), (1264, aLa 0), (1265, aLi 3), (1266, aI 2), (1267, a_iadd), (1268, aSld L xs), (1269, aIv E k 0 2 Y_TC_taken), (1272, aLa 2), (1273, aLa 0), (1274, aLi 3), (1275, aI 1), (1276, a_iadd), (1277, aSld L xs), (1278, aLa 0), (1279, aLi 3), (1280, aI 2), (1281, a_iadd), (1282, aSld L xs), (1283, aIv E k 12 2 Y_MO_taken), (1286, c_eq 1291), (1289, aI 0), (1290, aRi), (1291, aInc 3 6), (1294, aGo 18), (1297, aI 1), (1298, aRi)]
set_option maxRecDepth 40000 in
set_option maxHeartbeats 4000000 in
theorem pv_LAW (E : am_E) (k L : Nat) (xs : Nat → Int32) : lw_pv E L xs k code 4 "TwoCampsLaw" (P_LAW E k L xs) := by
  refine lw_pv_cons (lw_of (v_iload_n (q := 3) (by decide +kernel) rfl)) rfl ?_
  refine lw_pv_cons (lw_of (v_aload_n (q := 0) (by decide +kernel) rfl)) rfl ?_
  refine lw_pv_cons (v_sln (by decide +kernel)) rfl ?_
  refine lw_pv_cons (lw_of (v_bipush (n := 6) (by decide +kernel) (by decide +kernel))) rfl ?_
  refine lw_pv_cons (lw_of (v_isub (by decide +kernel))) rfl ?_
  refine lw_pv_cons (lw_of (v_ic_gt (off := 1273) (by decide +kernel) rfl)) rfl ?_
  refine lw_pv_cons (lw_of (v_aload_n (q := 0) (by decide +kernel) rfl)) rfl ?_
  refine lw_pv_cons (lw_of (v_iload_n (q := 3) (by decide +kernel) rfl)) rfl ?_
  refine lw_pv_cons (v_sld (by decide +kernel)) rfl ?_
  refine lw_pv_cons (lw_of (v_bipush (n := 63) (by decide +kernel) (by decide +kernel))) rfl ?_
  refine lw_pv_cons (lw_of (v_iand (by decide +kernel))) rfl ?_
  refine lw_pv_cons (lw_of (v_tsw (dflt := 1258) (lo := 0) (hi := 36) (offs := #[163, 186, 229, 292, 325, 358, 421, 434, 447, 470, 503, 536, 560, 604, 637, 650, 673, 686, 709, 742, 755, 778, 801, 814, 827, 850, 873, 917, 941, 974, 987, 1000, 1023, 1066, 1109, 1172, 1225]) (len := 163) (by decide +kernel) rfl (by decide) (by decide +kernel))) rfl ?_
  refine lw_pv_cons (lw_of (v_aload_n (q := 1) (by decide +kernel) rfl)) rfl ?_
  refine lw_pv_cons (lw_of (v_aload_n (q := 0) (by decide +kernel) rfl)) rfl ?_
  refine lw_pv_cons (lw_of (v_iload_n (q := 3) (by decide +kernel) rfl)) rfl ?_
  refine lw_pv_cons (lw_of (v_iconst (n := 1) (by decide +kernel) rfl)) rfl ?_
  refine lw_pv_cons (lw_of (v_iadd (by decide +kernel))) rfl ?_
  refine lw_pv_cons (v_sld (by decide +kernel)) rfl ?_
  refine lw_pv_cons (lw_of (v_virt (idx := 13) yv_TC_person rfl rfl (tb2 181 (by decide +kernel) rfl) (by decide +kernel))) rfl ?_
  refine lw_pv_cons (lw_of (v_aload_n (q := 2) (by decide +kernel) rfl)) rfl ?_
  refine lw_pv_cons (lw_of (v_aload_n (q := 0) (by decide +kernel) rfl)) rfl ?_
  refine lw_pv_cons (lw_of (v_iload_n (q := 3) (by decide +kernel) rfl)) rfl ?_
  refine lw_pv_cons (lw_of (v_iconst (n := 1) (by decide +kernel) rfl)) rfl ?_
  refine lw_pv_cons (lw_of (v_iadd (by decide +kernel))) rfl ?_
  refine lw_pv_cons (v_sld (by decide +kernel)) rfl ?_
  refine lw_pv_cons (lw_of (v_virt (idx := 17) yv_MO_person rfl rfl (tb6 93 (by decide +kernel) rfl) (by decide +kernel))) rfl ?_
  refine lw_pv_cons (lw_of (v_ic_eq (off := 1077) (by decide +kernel) rfl)) rfl ?_
  refine lw_pv_cons (lw_of (v_iconst (n := 0) (by decide +kernel) rfl)) rfl ?_
  refine lw_pv_cons (lw_of (v_ireturn (by decide +kernel))) rfl ?_
  refine lw_pv_cons (lw_of (v_aload_n (q := 1) (by decide +kernel) rfl)) rfl ?_
  refine lw_pv_cons (lw_of (v_aload_n (q := 0) (by decide +kernel) rfl)) rfl ?_
  refine lw_pv_cons (lw_of (v_iload_n (q := 3) (by decide +kernel) rfl)) rfl ?_
  refine lw_pv_cons (lw_of (v_iconst (n := 1) (by decide +kernel) rfl)) rfl ?_
  refine lw_pv_cons (lw_of (v_iadd (by decide +kernel))) rfl ?_
  refine lw_pv_cons (v_sld (by decide +kernel)) rfl ?_
  refine lw_pv_cons (lw_of (v_aload_n (q := 0) (by decide +kernel) rfl)) rfl ?_
  refine lw_pv_cons (lw_of (v_iload_n (q := 3) (by decide +kernel) rfl)) rfl ?_
  refine lw_pv_cons (lw_of (v_iconst (n := 2) (by decide +kernel) rfl)) rfl ?_
  refine lw_pv_cons (lw_of (v_iadd (by decide +kernel))) rfl ?_
  refine lw_pv_cons (v_sld (by decide +kernel)) rfl ?_
  refine lw_pv_cons (lw_of (v_aload_n (q := 0) (by decide +kernel) rfl)) rfl ?_
  refine lw_pv_cons (lw_of (v_iload_n (q := 3) (by decide +kernel) rfl)) rfl ?_
  refine lw_pv_cons (lw_of (v_iconst (n := 3) (by decide +kernel) rfl)) rfl ?_
  refine lw_pv_cons (lw_of (v_iadd (by decide +kernel))) rfl ?_
  refine lw_pv_cons (v_sld (by decide +kernel)) rfl ?_
  refine lw_pv_cons (lw_of (v_virt (idx := 18) yv_TC_set rfl rfl (tb2 192 (by decide +kernel) rfl) (by decide +kernel))) rfl ?_
  refine lw_pv_cons (lw_of (v_aload_n (q := 2) (by decide +kernel) rfl)) rfl ?_
  refine lw_pv_cons (lw_of (v_aload_n (q := 0) (by decide +kernel) rfl)) rfl ?_
  refine lw_pv_cons (lw_of (v_iload_n (q := 3) (by decide +kernel) rfl)) rfl ?_
  refine lw_pv_cons (lw_of (v_iconst (n := 1) (by decide +kernel) rfl)) rfl ?_
  refine lw_pv_cons (lw_of (v_iadd (by decide +kernel))) rfl ?_
  refine lw_pv_cons (v_sld (by decide +kernel)) rfl ?_
  refine lw_pv_cons (lw_of (v_aload_n (q := 0) (by decide +kernel) rfl)) rfl ?_
  refine lw_pv_cons (lw_of (v_iload_n (q := 3) (by decide +kernel) rfl)) rfl ?_
  refine lw_pv_cons (lw_of (v_iconst (n := 2) (by decide +kernel) rfl)) rfl ?_
  refine lw_pv_cons (lw_of (v_iadd (by decide +kernel))) rfl ?_
  refine lw_pv_cons (v_sld (by decide +kernel)) rfl ?_
  refine lw_pv_cons (lw_of (v_aload_n (q := 0) (by decide +kernel) rfl)) rfl ?_
  refine lw_pv_cons (lw_of (v_iload_n (q := 3) (by decide +kernel) rfl)) rfl ?_
  refine lw_pv_cons (lw_of (v_iconst (n := 3) (by decide +kernel) rfl)) rfl ?_
  refine lw_pv_cons (lw_of (v_iadd (by decide +kernel))) rfl ?_
  refine lw_pv_cons (v_sld (by decide +kernel)) rfl ?_
  refine lw_pv_cons (lw_of (v_virt (idx := 22) yv_MO_set rfl rfl (tb6 101 (by decide +kernel) rfl) (by decide +kernel))) rfl ?_
  refine lw_pv_cons (lw_of (v_ic_eq (off := 1034) (by decide +kernel) rfl)) rfl ?_
  refine lw_pv_cons (lw_of (v_iconst (n := 0) (by decide +kernel) rfl)) rfl ?_
  refine lw_pv_cons (lw_of (v_ireturn (by decide +kernel))) rfl ?_
  refine lw_pv_cons (lw_of (v_aload_n (q := 1) (by decide +kernel) rfl)) rfl ?_
  refine lw_pv_cons (lw_of (v_aload_n (q := 0) (by decide +kernel) rfl)) rfl ?_
  refine lw_pv_cons (lw_of (v_iload_n (q := 3) (by decide +kernel) rfl)) rfl ?_
  refine lw_pv_cons (lw_of (v_iconst (n := 1) (by decide +kernel) rfl)) rfl ?_
  refine lw_pv_cons (lw_of (v_iadd (by decide +kernel))) rfl ?_
  refine lw_pv_cons (v_sld (by decide +kernel)) rfl ?_
  refine lw_pv_cons (lw_of (v_aload_n (q := 0) (by decide +kernel) rfl)) rfl ?_
  refine lw_pv_cons (lw_of (v_iload_n (q := 3) (by decide +kernel) rfl)) rfl ?_
  refine lw_pv_cons (lw_of (v_iconst (n := 2) (by decide +kernel) rfl)) rfl ?_
  refine lw_pv_cons (lw_of (v_iadd (by decide +kernel))) rfl ?_
  refine lw_pv_cons (v_sld (by decide +kernel)) rfl ?_
  refine lw_pv_cons (lw_of (v_aload_n (q := 0) (by decide +kernel) rfl)) rfl ?_
  refine lw_pv_cons (lw_of (v_iload_n (q := 3) (by decide +kernel) rfl)) rfl ?_
  refine lw_pv_cons (lw_of (v_iconst (n := 3) (by decide +kernel) rfl)) rfl ?_
  refine lw_pv_cons (lw_of (v_iadd (by decide +kernel))) rfl ?_
  refine lw_pv_cons (v_sld (by decide +kernel)) rfl ?_
  refine lw_pv_cons (lw_of (v_aload_n (q := 0) (by decide +kernel) rfl)) rfl ?_
  refine lw_pv_cons (lw_of (v_iload_n (q := 3) (by decide +kernel) rfl)) rfl ?_
  refine lw_pv_cons (lw_of (v_iconst (n := 4) (by decide +kernel) rfl)) rfl ?_
  refine lw_pv_cons (lw_of (v_iadd (by decide +kernel))) rfl ?_
  refine lw_pv_cons (v_sld (by decide +kernel)) rfl ?_
  refine lw_pv_cons (lw_of (v_aload_n (q := 0) (by decide +kernel) rfl)) rfl ?_
  refine lw_pv_cons (lw_of (v_iload_n (q := 3) (by decide +kernel) rfl)) rfl ?_
  refine lw_pv_cons (lw_of (v_iconst (n := 5) (by decide +kernel) rfl)) rfl ?_
  refine lw_pv_cons (lw_of (v_iadd (by decide +kernel))) rfl ?_
  refine lw_pv_cons (v_sld (by decide +kernel)) rfl ?_
  refine lw_pv_cons (lw_of (v_virt (idx := 23) yv_TC_feel rfl rfl (tb2 200 (by decide +kernel) rfl) (by decide +kernel))) rfl ?_
  refine lw_pv_cons (lw_of (v_aload_n (q := 2) (by decide +kernel) rfl)) rfl ?_
  refine lw_pv_cons (lw_of (v_aload_n (q := 0) (by decide +kernel) rfl)) rfl ?_
  refine lw_pv_cons (lw_of (v_iload_n (q := 3) (by decide +kernel) rfl)) rfl ?_
  refine lw_pv_cons (lw_of (v_iconst (n := 1) (by decide +kernel) rfl)) rfl ?_
  refine lw_pv_cons (lw_of (v_iadd (by decide +kernel))) rfl ?_
  refine lw_pv_cons (v_sld (by decide +kernel)) rfl ?_
  refine lw_pv_cons (lw_of (v_aload_n (q := 0) (by decide +kernel) rfl)) rfl ?_
  refine lw_pv_cons (lw_of (v_iload_n (q := 3) (by decide +kernel) rfl)) rfl ?_
  refine lw_pv_cons (lw_of (v_iconst (n := 2) (by decide +kernel) rfl)) rfl ?_
  refine lw_pv_cons (lw_of (v_iadd (by decide +kernel))) rfl ?_
  refine lw_pv_cons (v_sld (by decide +kernel)) rfl ?_
  refine lw_pv_cons (lw_of (v_aload_n (q := 0) (by decide +kernel) rfl)) rfl ?_
  refine lw_pv_cons (lw_of (v_iload_n (q := 3) (by decide +kernel) rfl)) rfl ?_
  refine lw_pv_cons (lw_of (v_iconst (n := 3) (by decide +kernel) rfl)) rfl ?_
  refine lw_pv_cons (lw_of (v_iadd (by decide +kernel))) rfl ?_
  refine lw_pv_cons (v_sld (by decide +kernel)) rfl ?_
  refine lw_pv_cons (lw_of (v_aload_n (q := 0) (by decide +kernel) rfl)) rfl ?_
  refine lw_pv_cons (lw_of (v_iload_n (q := 3) (by decide +kernel) rfl)) rfl ?_
  refine lw_pv_cons (lw_of (v_iconst (n := 4) (by decide +kernel) rfl)) rfl ?_
  refine lw_pv_cons (lw_of (v_iadd (by decide +kernel))) rfl ?_
  refine lw_pv_cons (v_sld (by decide +kernel)) rfl ?_
  refine lw_pv_cons (lw_of (v_aload_n (q := 0) (by decide +kernel) rfl)) rfl ?_
  refine lw_pv_cons (lw_of (v_iload_n (q := 3) (by decide +kernel) rfl)) rfl ?_
  refine lw_pv_cons (lw_of (v_iconst (n := 5) (by decide +kernel) rfl)) rfl ?_
  refine lw_pv_cons (lw_of (v_iadd (by decide +kernel))) rfl ?_
  refine lw_pv_cons (v_sld (by decide +kernel)) rfl ?_
  refine lw_pv_cons (lw_of (v_virt (idx := 27) yv_MO_feel rfl rfl (tb6 110 (by decide +kernel) rfl) (by decide +kernel))) rfl ?_
  refine lw_pv_cons (lw_of (v_ic_eq (off := 971) (by decide +kernel) rfl)) rfl ?_
  refine lw_pv_cons (lw_of (v_iconst (n := 0) (by decide +kernel) rfl)) rfl ?_
  refine lw_pv_cons (lw_of (v_ireturn (by decide +kernel))) rfl ?_
  refine lw_pv_cons (lw_of (v_aload_n (q := 1) (by decide +kernel) rfl)) rfl ?_
  refine lw_pv_cons (lw_of (v_aload_n (q := 0) (by decide +kernel) rfl)) rfl ?_
  refine lw_pv_cons (lw_of (v_iload_n (q := 3) (by decide +kernel) rfl)) rfl ?_
  refine lw_pv_cons (lw_of (v_iconst (n := 1) (by decide +kernel) rfl)) rfl ?_
  refine lw_pv_cons (lw_of (v_iadd (by decide +kernel))) rfl ?_
  refine lw_pv_cons (v_sld (by decide +kernel)) rfl ?_
  refine lw_pv_cons (lw_of (v_aload_n (q := 0) (by decide +kernel) rfl)) rfl ?_
  refine lw_pv_cons (lw_of (v_iload_n (q := 3) (by decide +kernel) rfl)) rfl ?_
  refine lw_pv_cons (lw_of (v_iconst (n := 2) (by decide +kernel) rfl)) rfl ?_
  refine lw_pv_cons (lw_of (v_iadd (by decide +kernel))) rfl ?_
  refine lw_pv_cons (v_sld (by decide +kernel)) rfl ?_
  refine lw_pv_cons (lw_of (v_virt (idx := 28) yv_TC_felt rfl rfl (tb2 223 (by decide +kernel) rfl) (by decide +kernel))) rfl ?_
  refine lw_pv_cons (lw_of (v_aload_n (q := 2) (by decide +kernel) rfl)) rfl ?_
  refine lw_pv_cons (lw_of (v_aload_n (q := 0) (by decide +kernel) rfl)) rfl ?_
  refine lw_pv_cons (lw_of (v_iload_n (q := 3) (by decide +kernel) rfl)) rfl ?_
  refine lw_pv_cons (lw_of (v_iconst (n := 1) (by decide +kernel) rfl)) rfl ?_
  refine lw_pv_cons (lw_of (v_iadd (by decide +kernel))) rfl ?_
  refine lw_pv_cons (v_sld (by decide +kernel)) rfl ?_
  refine lw_pv_cons (lw_of (v_aload_n (q := 0) (by decide +kernel) rfl)) rfl ?_
  refine lw_pv_cons (lw_of (v_iload_n (q := 3) (by decide +kernel) rfl)) rfl ?_
  refine lw_pv_cons (lw_of (v_iconst (n := 2) (by decide +kernel) rfl)) rfl ?_
  refine lw_pv_cons (lw_of (v_iadd (by decide +kernel))) rfl ?_
  refine lw_pv_cons (v_sld (by decide +kernel)) rfl ?_
  refine lw_pv_cons (lw_of (v_virt (idx := 32) yv_MO_felt rfl rfl (tb6 123 (by decide +kernel) rfl) (by decide +kernel))) rfl ?_
  refine lw_pv_cons (lw_of (v_ic_eq (off := 938) (by decide +kernel) rfl)) rfl ?_
  refine lw_pv_cons (lw_of (v_iconst (n := 0) (by decide +kernel) rfl)) rfl ?_
  refine lw_pv_cons (lw_of (v_ireturn (by decide +kernel))) rfl ?_
  refine lw_pv_cons (lw_of (v_aload_n (q := 1) (by decide +kernel) rfl)) rfl ?_
  refine lw_pv_cons (lw_of (v_aload_n (q := 0) (by decide +kernel) rfl)) rfl ?_
  refine lw_pv_cons (lw_of (v_iload_n (q := 3) (by decide +kernel) rfl)) rfl ?_
  refine lw_pv_cons (lw_of (v_iconst (n := 1) (by decide +kernel) rfl)) rfl ?_
  refine lw_pv_cons (lw_of (v_iadd (by decide +kernel))) rfl ?_
  refine lw_pv_cons (v_sld (by decide +kernel)) rfl ?_
  refine lw_pv_cons (lw_of (v_aload_n (q := 0) (by decide +kernel) rfl)) rfl ?_
  refine lw_pv_cons (lw_of (v_iload_n (q := 3) (by decide +kernel) rfl)) rfl ?_
  refine lw_pv_cons (lw_of (v_iconst (n := 2) (by decide +kernel) rfl)) rfl ?_
  refine lw_pv_cons (lw_of (v_iadd (by decide +kernel))) rfl ?_
  refine lw_pv_cons (v_sld (by decide +kernel)) rfl ?_
  refine lw_pv_cons (lw_of (v_virt (idx := 33) yv_TC_between rfl rfl (tb3 31 (by decide +kernel) rfl) (by decide +kernel))) rfl ?_
  refine lw_pv_cons (lw_of (v_aload_n (q := 2) (by decide +kernel) rfl)) rfl ?_
  refine lw_pv_cons (lw_of (v_aload_n (q := 0) (by decide +kernel) rfl)) rfl ?_
  refine lw_pv_cons (lw_of (v_iload_n (q := 3) (by decide +kernel) rfl)) rfl ?_
  refine lw_pv_cons (lw_of (v_iconst (n := 1) (by decide +kernel) rfl)) rfl ?_
  refine lw_pv_cons (lw_of (v_iadd (by decide +kernel))) rfl ?_
  refine lw_pv_cons (v_sld (by decide +kernel)) rfl ?_
  refine lw_pv_cons (lw_of (v_aload_n (q := 0) (by decide +kernel) rfl)) rfl ?_
  refine lw_pv_cons (lw_of (v_iload_n (q := 3) (by decide +kernel) rfl)) rfl ?_
  refine lw_pv_cons (lw_of (v_iconst (n := 2) (by decide +kernel) rfl)) rfl ?_
  refine lw_pv_cons (lw_of (v_iadd (by decide +kernel))) rfl ?_
  refine lw_pv_cons (v_sld (by decide +kernel)) rfl ?_
  refine lw_pv_cons (lw_of (v_virt (idx := 36) yv_MO_between rfl rfl (tb6 223 (by decide +kernel) rfl) (by decide +kernel))) rfl ?_
  refine lw_pv_cons (lw_of (v_ic_eq (off := 905) (by decide +kernel) rfl)) rfl ?_
  refine lw_pv_cons (lw_of (v_iconst (n := 0) (by decide +kernel) rfl)) rfl ?_
  refine lw_pv_cons (lw_of (v_ireturn (by decide +kernel))) rfl ?_
  refine lw_pv_cons (lw_of (v_aload_n (q := 1) (by decide +kernel) rfl)) rfl ?_
  refine lw_pv_cons (lw_of (v_aload_n (q := 0) (by decide +kernel) rfl)) rfl ?_
  refine lw_pv_cons (lw_of (v_iload_n (q := 3) (by decide +kernel) rfl)) rfl ?_
  refine lw_pv_cons (lw_of (v_iconst (n := 1) (by decide +kernel) rfl)) rfl ?_
  refine lw_pv_cons (lw_of (v_iadd (by decide +kernel))) rfl ?_
  refine lw_pv_cons (v_sld (by decide +kernel)) rfl ?_
  refine lw_pv_cons (lw_of (v_aload_n (q := 0) (by decide +kernel) rfl)) rfl ?_
  refine lw_pv_cons (lw_of (v_iload_n (q := 3) (by decide +kernel) rfl)) rfl ?_
  refine lw_pv_cons (lw_of (v_iconst (n := 2) (by decide +kernel) rfl)) rfl ?_
  refine lw_pv_cons (lw_of (v_iadd (by decide +kernel))) rfl ?_
  refine lw_pv_cons (v_sld (by decide +kernel)) rfl ?_
  refine lw_pv_cons (lw_of (v_i2l (by decide +kernel))) rfl ?_
  refine lw_pv_cons (lw_of (v_bipush (n := 32) (by decide +kernel) (by decide +kernel))) rfl ?_
  refine lw_pv_cons (lw_of (v_lshl (by decide +kernel))) rfl ?_
  refine lw_pv_cons (lw_of (v_aload_n (q := 0) (by decide +kernel) rfl)) rfl ?_
  refine lw_pv_cons (lw_of (v_iload_n (q := 3) (by decide +kernel) rfl)) rfl ?_
  refine lw_pv_cons (lw_of (v_iconst (n := 3) (by decide +kernel) rfl)) rfl ?_
  refine lw_pv_cons (lw_of (v_iadd (by decide +kernel))) rfl ?_
  refine lw_pv_cons (v_sld (by decide +kernel)) rfl ?_
  refine lw_pv_cons (lw_of (v_i2l (by decide +kernel))) rfl ?_
  refine lw_pv_cons (lw_of (v_ldc2 (i := 37) (tb8 2 (by decide +kernel) rfl) (by decide +kernel))) rfl ?_
  refine lw_pv_cons (lw_of (v_land (by decide +kernel))) rfl ?_
  refine lw_pv_cons (lw_of (v_lor (by decide +kernel))) rfl ?_
  refine lw_pv_cons (lw_of (v_virt (idx := 39) yv_TC_feed rfl rfl (tb3 36 (by decide +kernel) rfl) (by decide +kernel))) rfl ?_
  refine lw_pv_cons (lw_of (v_aload_n (q := 2) (by decide +kernel) rfl)) rfl ?_
  refine lw_pv_cons (lw_of (v_aload_n (q := 0) (by decide +kernel) rfl)) rfl ?_
  refine lw_pv_cons (lw_of (v_iload_n (q := 3) (by decide +kernel) rfl)) rfl ?_
  refine lw_pv_cons (lw_of (v_iconst (n := 1) (by decide +kernel) rfl)) rfl ?_
  refine lw_pv_cons (lw_of (v_iadd (by decide +kernel))) rfl ?_
  refine lw_pv_cons (v_sld (by decide +kernel)) rfl ?_
  refine lw_pv_cons (lw_of (v_aload_n (q := 0) (by decide +kernel) rfl)) rfl ?_
  refine lw_pv_cons (lw_of (v_iload_n (q := 3) (by decide +kernel) rfl)) rfl ?_
  refine lw_pv_cons (lw_of (v_iconst (n := 2) (by decide +kernel) rfl)) rfl ?_
  refine lw_pv_cons (lw_of (v_iadd (by decide +kernel))) rfl ?_
  refine lw_pv_cons (v_sld (by decide +kernel)) rfl ?_
  refine lw_pv_cons (lw_of (v_i2l (by decide +kernel))) rfl ?_
  refine lw_pv_cons (lw_of (v_bipush (n := 32) (by decide +kernel) (by decide +kernel))) rfl ?_
  refine lw_pv_cons (lw_of (v_lshl (by decide +kernel))) rfl ?_
  refine lw_pv_cons (lw_of (v_aload_n (q := 0) (by decide +kernel) rfl)) rfl ?_
  refine lw_pv_cons (lw_of (v_iload_n (q := 3) (by decide +kernel) rfl)) rfl ?_
  refine lw_pv_cons (lw_of (v_iconst (n := 3) (by decide +kernel) rfl)) rfl ?_
  refine lw_pv_cons (lw_of (v_iadd (by decide +kernel))) rfl ?_
  refine lw_pv_cons (v_sld (by decide +kernel)) rfl ?_
  refine lw_pv_cons (lw_of (v_i2l (by decide +kernel))) rfl ?_
  refine lw_pv_cons (lw_of (v_ldc2 (i := 37) (tb8 2 (by decide +kernel) rfl) (by decide +kernel))) rfl ?_
  refine lw_pv_cons (lw_of (v_land (by decide +kernel))) rfl ?_
  refine lw_pv_cons (lw_of (v_lor (by decide +kernel))) rfl ?_
  refine lw_pv_cons (lw_of (v_virt (idx := 43) yv_MO_feed rfl rfl (tb6 227 (by decide +kernel) rfl) (by decide +kernel))) rfl ?_
  refine lw_pv_cons (lw_of (v_ic_eq (off := 842) (by decide +kernel) rfl)) rfl ?_
  refine lw_pv_cons (lw_of (v_iconst (n := 0) (by decide +kernel) rfl)) rfl ?_
  refine lw_pv_cons (lw_of (v_ireturn (by decide +kernel))) rfl ?_
  refine lw_pv_cons (lw_of (v_aload_n (q := 1) (by decide +kernel) rfl)) rfl ?_
  refine lw_pv_cons (lw_of (v_virt (idx := 44) yv_TC_street rfl rfl (tb3 44 (by decide +kernel) rfl) (by decide +kernel))) rfl ?_
  refine lw_pv_cons (lw_of (v_aload_n (q := 2) (by decide +kernel) rfl)) rfl ?_
  refine lw_pv_cons (lw_of (v_virt (idx := 48) yv_MO_street rfl rfl (tb7 0 (by decide +kernel) rfl) (by decide +kernel))) rfl ?_
  refine lw_pv_cons (lw_of (v_ic_eq (off := 829) (by decide +kernel) rfl)) rfl ?_
  refine lw_pv_cons (lw_of (v_iconst (n := 0) (by decide +kernel) rfl)) rfl ?_
  refine lw_pv_cons (lw_of (v_ireturn (by decide +kernel))) rfl ?_
  refine lw_pv_cons (lw_of (v_aload_n (q := 1) (by decide +kernel) rfl)) rfl ?_
  refine lw_pv_cons (lw_of (v_virt (idx := 49) yv_TC_text rfl rfl (tb3 91 (by decide +kernel) rfl) (by decide +kernel))) rfl ?_
  refine lw_pv_cons (lw_of (v_aload_n (q := 2) (by decide +kernel) rfl)) rfl ?_
  refine lw_pv_cons (lw_of (v_virt (idx := 52) yv_MO_text rfl rfl (tb6 232 (by decide +kernel) rfl) (by decide +kernel))) rfl ?_
  refine lw_pv_cons (lw_of (v_ic_eq (off := 816) (by decide +kernel) rfl)) rfl ?_
  refine lw_pv_cons (lw_of (v_iconst (n := 0) (by decide +kernel) rfl)) rfl ?_
  refine lw_pv_cons (lw_of (v_ireturn (by decide +kernel))) rfl ?_
  refine lw_pv_cons (lw_of (v_aload_n (q := 1) (by decide +kernel) rfl)) rfl ?_
  refine lw_pv_cons (lw_of (v_aload_n (q := 0) (by decide +kernel) rfl)) rfl ?_
  refine lw_pv_cons (lw_of (v_iload_n (q := 3) (by decide +kernel) rfl)) rfl ?_
  refine lw_pv_cons (lw_of (v_iconst (n := 1) (by decide +kernel) rfl)) rfl ?_
  refine lw_pv_cons (lw_of (v_iadd (by decide +kernel))) rfl ?_
  refine lw_pv_cons (v_sld (by decide +kernel)) rfl ?_
  refine lw_pv_cons (lw_of (v_virt (idx := 53) yv_TC_force rfl rfl (tb4 11 (by decide +kernel) rfl) (by decide +kernel))) rfl ?_
  refine lw_pv_cons (lw_of (v_aload_n (q := 2) (by decide +kernel) rfl)) rfl ?_
  refine lw_pv_cons (lw_of (v_aload_n (q := 0) (by decide +kernel) rfl)) rfl ?_
  refine lw_pv_cons (lw_of (v_iload_n (q := 3) (by decide +kernel) rfl)) rfl ?_
  refine lw_pv_cons (lw_of (v_iconst (n := 1) (by decide +kernel) rfl)) rfl ?_
  refine lw_pv_cons (lw_of (v_iadd (by decide +kernel))) rfl ?_
  refine lw_pv_cons (v_sld (by decide +kernel)) rfl ?_
  refine lw_pv_cons (lw_of (v_virt (idx := 56) yv_MO_force rfl rfl (tb6 236 (by decide +kernel) rfl) (by decide +kernel))) rfl ?_
  refine lw_pv_cons (lw_of (v_ic_eq (off := 793) (by decide +kernel) rfl)) rfl ?_
  refine lw_pv_cons (lw_of (v_iconst (n := 0) (by decide +kernel) rfl)) rfl ?_
  refine lw_pv_cons (lw_of (v_ireturn (by decide +kernel))) rfl ?_
  refine lw_pv_cons (lw_of (v_aload_n (q := 1) (by decide +kernel) rfl)) rfl ?_
  refine lw_pv_cons (lw_of (v_aload_n (q := 0) (by decide +kernel) rfl)) rfl ?_
  refine lw_pv_cons (lw_of (v_iload_n (q := 3) (by decide +kernel) rfl)) rfl ?_
  refine lw_pv_cons (lw_of (v_iconst (n := 1) (by decide +kernel) rfl)) rfl ?_
  refine lw_pv_cons (lw_of (v_iadd (by decide +kernel))) rfl ?_
  refine lw_pv_cons (v_sld (by decide +kernel)) rfl ?_
  refine lw_pv_cons (lw_of (v_aload_n (q := 0) (by decide +kernel) rfl)) rfl ?_
  refine lw_pv_cons (lw_of (v_iload_n (q := 3) (by decide +kernel) rfl)) rfl ?_
  refine lw_pv_cons (lw_of (v_iconst (n := 2) (by decide +kernel) rfl)) rfl ?_
  refine lw_pv_cons (lw_of (v_iadd (by decide +kernel))) rfl ?_
  refine lw_pv_cons (v_sld (by decide +kernel)) rfl ?_
  refine lw_pv_cons (lw_of (v_virt (idx := 57) yv_TC_camping rfl rfl (tb4 15 (by decide +kernel) rfl) (by decide +kernel))) rfl ?_
  refine lw_pv_cons (lw_of (v_aload_n (q := 2) (by decide +kernel) rfl)) rfl ?_
  refine lw_pv_cons (lw_of (v_aload_n (q := 0) (by decide +kernel) rfl)) rfl ?_
  refine lw_pv_cons (lw_of (v_iload_n (q := 3) (by decide +kernel) rfl)) rfl ?_
  refine lw_pv_cons (lw_of (v_iconst (n := 1) (by decide +kernel) rfl)) rfl ?_
  refine lw_pv_cons (lw_of (v_iadd (by decide +kernel))) rfl ?_
  refine lw_pv_cons (v_sld (by decide +kernel)) rfl ?_
  refine lw_pv_cons (lw_of (v_aload_n (q := 0) (by decide +kernel) rfl)) rfl ?_
  refine lw_pv_cons (lw_of (v_iload_n (q := 3) (by decide +kernel) rfl)) rfl ?_
  refine lw_pv_cons (lw_of (v_iconst (n := 2) (by decide +kernel) rfl)) rfl ?_
  refine lw_pv_cons (lw_of (v_iadd (by decide +kernel))) rfl ?_
  refine lw_pv_cons (v_sld (by decide +kernel)) rfl ?_
  refine lw_pv_cons (lw_of (v_virt (idx := 60) yv_MO_camping rfl rfl (tb7 24 (by decide +kernel) rfl) (by decide +kernel))) rfl ?_
  refine lw_pv_cons (lw_of (v_ic_eq (off := 760) (by decide +kernel) rfl)) rfl ?_
  refine lw_pv_cons (lw_of (v_iconst (n := 0) (by decide +kernel) rfl)) rfl ?_
  refine lw_pv_cons (lw_of (v_ireturn (by decide +kernel))) rfl ?_
  refine lw_pv_cons (lw_of (v_aload_n (q := 1) (by decide +kernel) rfl)) rfl ?_
  refine lw_pv_cons (lw_of (v_aload_n (q := 0) (by decide +kernel) rfl)) rfl ?_
  refine lw_pv_cons (lw_of (v_iload_n (q := 3) (by decide +kernel) rfl)) rfl ?_
  refine lw_pv_cons (lw_of (v_iconst (n := 1) (by decide +kernel) rfl)) rfl ?_
  refine lw_pv_cons (lw_of (v_iadd (by decide +kernel))) rfl ?_
  refine lw_pv_cons (v_sld (by decide +kernel)) rfl ?_
  refine lw_pv_cons (lw_of (v_aload_n (q := 0) (by decide +kernel) rfl)) rfl ?_
  refine lw_pv_cons (lw_of (v_iload_n (q := 3) (by decide +kernel) rfl)) rfl ?_
  refine lw_pv_cons (lw_of (v_iconst (n := 2) (by decide +kernel) rfl)) rfl ?_
  refine lw_pv_cons (lw_of (v_iadd (by decide +kernel))) rfl ?_
  refine lw_pv_cons (v_sld (by decide +kernel)) rfl ?_
  refine lw_pv_cons (lw_of (v_virt (idx := 61) yv_TC_camped rfl rfl (tb4 40 (by decide +kernel) rfl) (by decide +kernel))) rfl ?_
  refine lw_pv_cons (lw_of (v_aload_n (q := 2) (by decide +kernel) rfl)) rfl ?_
  refine lw_pv_cons (lw_of (v_aload_n (q := 0) (by decide +kernel) rfl)) rfl ?_
  refine lw_pv_cons (lw_of (v_iload_n (q := 3) (by decide +kernel) rfl)) rfl ?_
  refine lw_pv_cons (lw_of (v_iconst (n := 1) (by decide +kernel) rfl)) rfl ?_
  refine lw_pv_cons (lw_of (v_iadd (by decide +kernel))) rfl ?_
  refine lw_pv_cons (v_sld (by decide +kernel)) rfl ?_
  refine lw_pv_cons (lw_of (v_aload_n (q := 0) (by decide +kernel) rfl)) rfl ?_
  refine lw_pv_cons (lw_of (v_iload_n (q := 3) (by decide +kernel) rfl)) rfl ?_
  refine lw_pv_cons (lw_of (v_iconst (n := 2) (by decide +kernel) rfl)) rfl ?_
  refine lw_pv_cons (lw_of (v_iadd (by decide +kernel))) rfl ?_
  refine lw_pv_cons (v_sld (by decide +kernel)) rfl ?_
  refine lw_pv_cons (lw_of (v_virt (idx := 64) yv_MO_camped rfl rfl (tb7 32 (by decide +kernel) rfl) (by decide +kernel))) rfl ?_
  refine lw_pv_cons (lw_of (v_ic_eq (off := 727) (by decide +kernel) rfl)) rfl ?_
  refine lw_pv_cons (lw_of (v_iconst (n := 0) (by decide +kernel) rfl)) rfl ?_
  refine lw_pv_cons (lw_of (v_ireturn (by decide +kernel))) rfl ?_
  refine lw_pv_cons (lw_of (v_aload_n (q := 1) (by decide +kernel) rfl)) rfl ?_
  refine lw_pv_cons (lw_of (v_aload_n (q := 0) (by decide +kernel) rfl)) rfl ?_
  refine lw_pv_cons (lw_of (v_iload_n (q := 3) (by decide +kernel) rfl)) rfl ?_
  refine lw_pv_cons (lw_of (v_iconst (n := 1) (by decide +kernel) rfl)) rfl ?_
  refine lw_pv_cons (lw_of (v_iadd (by decide +kernel))) rfl ?_
  refine lw_pv_cons (v_sld (by decide +kernel)) rfl ?_
  refine lw_pv_cons (lw_of (v_virt (idx := 65) yv_TC_cost rfl rfl (tb4 75 (by decide +kernel) rfl) (by decide +kernel))) rfl ?_
  refine lw_pv_cons (lw_of (v_aload_n (q := 2) (by decide +kernel) rfl)) rfl ?_
  refine lw_pv_cons (lw_of (v_aload_n (q := 0) (by decide +kernel) rfl)) rfl ?_
  refine lw_pv_cons (lw_of (v_iload_n (q := 3) (by decide +kernel) rfl)) rfl ?_
  refine lw_pv_cons (lw_of (v_iconst (n := 1) (by decide +kernel) rfl)) rfl ?_
  refine lw_pv_cons (lw_of (v_iadd (by decide +kernel))) rfl ?_
  refine lw_pv_cons (v_sld (by decide +kernel)) rfl ?_
  refine lw_pv_cons (lw_of (v_virt (idx := 69) yv_MO_cost rfl rfl (tb7 70 (by decide +kernel) rfl) (by decide +kernel))) rfl ?_
  refine lw_pv_cons (lw_of (v_lcmp (by decide +kernel))) rfl ?_
  refine lw_pv_cons (lw_of (v_if_eq (off := 703) (by decide +kernel) rfl)) rfl ?_
  refine lw_pv_cons (lw_of (v_iconst (n := 0) (by decide +kernel) rfl)) rfl ?_
  refine lw_pv_cons (lw_of (v_ireturn (by decide +kernel))) rfl ?_
  refine lw_pv_cons (lw_of (v_aload_n (q := 1) (by decide +kernel) rfl)) rfl ?_
  refine lw_pv_cons (lw_of (v_aload_n (q := 0) (by decide +kernel) rfl)) rfl ?_
  refine lw_pv_cons (lw_of (v_iload_n (q := 3) (by decide +kernel) rfl)) rfl ?_
  refine lw_pv_cons (lw_of (v_iconst (n := 1) (by decide +kernel) rfl)) rfl ?_
  refine lw_pv_cons (lw_of (v_iadd (by decide +kernel))) rfl ?_
  refine lw_pv_cons (v_sld (by decide +kernel)) rfl ?_
  refine lw_pv_cons (lw_of (v_aload_n (q := 0) (by decide +kernel) rfl)) rfl ?_
  refine lw_pv_cons (lw_of (v_iload_n (q := 3) (by decide +kernel) rfl)) rfl ?_
  refine lw_pv_cons (lw_of (v_iconst (n := 2) (by decide +kernel) rfl)) rfl ?_
  refine lw_pv_cons (lw_of (v_iadd (by decide +kernel))) rfl ?_
  refine lw_pv_cons (v_sld (by decide +kernel)) rfl ?_
  refine lw_pv_cons (lw_of (v_aload_n (q := 0) (by decide +kernel) rfl)) rfl ?_
  refine lw_pv_cons (lw_of (v_iload_n (q := 3) (by decide +kernel) rfl)) rfl ?_
  refine lw_pv_cons (lw_of (v_iconst (n := 3) (by decide +kernel) rfl)) rfl ?_
  refine lw_pv_cons (lw_of (v_iadd (by decide +kernel))) rfl ?_
  refine lw_pv_cons (v_sld (by decide +kernel)) rfl ?_
  refine lw_pv_cons (lw_of (v_virt (idx := 70) yv_TC_move rfl rfl (tb4 106 (by decide +kernel) rfl) (by decide +kernel))) rfl ?_
  refine lw_pv_cons (lw_of (v_aload_n (q := 2) (by decide +kernel) rfl)) rfl ?_
  refine lw_pv_cons (lw_of (v_aload_n (q := 0) (by decide +kernel) rfl)) rfl ?_
  refine lw_pv_cons (lw_of (v_iload_n (q := 3) (by decide +kernel) rfl)) rfl ?_
  refine lw_pv_cons (lw_of (v_iconst (n := 1) (by decide +kernel) rfl)) rfl ?_
  refine lw_pv_cons (lw_of (v_iadd (by decide +kernel))) rfl ?_
  refine lw_pv_cons (v_sld (by decide +kernel)) rfl ?_
  refine lw_pv_cons (lw_of (v_aload_n (q := 0) (by decide +kernel) rfl)) rfl ?_
  refine lw_pv_cons (lw_of (v_iload_n (q := 3) (by decide +kernel) rfl)) rfl ?_
  refine lw_pv_cons (lw_of (v_iconst (n := 2) (by decide +kernel) rfl)) rfl ?_
  refine lw_pv_cons (lw_of (v_iadd (by decide +kernel))) rfl ?_
  refine lw_pv_cons (v_sld (by decide +kernel)) rfl ?_
  refine lw_pv_cons (lw_of (v_aload_n (q := 0) (by decide +kernel) rfl)) rfl ?_
  refine lw_pv_cons (lw_of (v_iload_n (q := 3) (by decide +kernel) rfl)) rfl ?_
  refine lw_pv_cons (lw_of (v_iconst (n := 3) (by decide +kernel) rfl)) rfl ?_
  refine lw_pv_cons (lw_of (v_iadd (by decide +kernel))) rfl ?_
  refine lw_pv_cons (v_sld (by decide +kernel)) rfl ?_
  refine lw_pv_cons (lw_of (v_virt (idx := 74) yv_MO_move rfl rfl (tb7 83 (by decide +kernel) rfl) (by decide +kernel))) rfl ?_
  refine lw_pv_cons (lw_of (v_lcmp (by decide +kernel))) rfl ?_
  refine lw_pv_cons (lw_of (v_if_eq (off := 659) (by decide +kernel) rfl)) rfl ?_
  refine lw_pv_cons (lw_of (v_iconst (n := 0) (by decide +kernel) rfl)) rfl ?_
  refine lw_pv_cons (lw_of (v_ireturn (by decide +kernel))) rfl ?_
  refine lw_pv_cons (lw_of (v_aload_n (q := 1) (by decide +kernel) rfl)) rfl ?_
  refine lw_pv_cons (lw_of (v_aload_n (q := 0) (by decide +kernel) rfl)) rfl ?_
  refine lw_pv_cons (lw_of (v_iload_n (q := 3) (by decide +kernel) rfl)) rfl ?_
  refine lw_pv_cons (lw_of (v_iconst (n := 1) (by decide +kernel) rfl)) rfl ?_
  refine lw_pv_cons (lw_of (v_iadd (by decide +kernel))) rfl ?_
  refine lw_pv_cons (v_sld (by decide +kernel)) rfl ?_
  refine lw_pv_cons (lw_of (v_aload_n (q := 0) (by decide +kernel) rfl)) rfl ?_
  refine lw_pv_cons (lw_of (v_iload_n (q := 3) (by decide +kernel) rfl)) rfl ?_
  refine lw_pv_cons (lw_of (v_iconst (n := 2) (by decide +kernel) rfl)) rfl ?_
  refine lw_pv_cons (lw_of (v_iadd (by decide +kernel))) rfl ?_
  refine lw_pv_cons (v_sld (by decide +kernel)) rfl ?_
  refine lw_pv_cons (lw_of (v_virt (idx := 75) yv_TC_same rfl rfl (tb4 114 (by decide +kernel) rfl) (by decide +kernel))) rfl ?_
  refine lw_pv_cons (lw_of (v_aload_n (q := 2) (by decide +kernel) rfl)) rfl ?_
  refine lw_pv_cons (lw_of (v_aload_n (q := 0) (by decide +kernel) rfl)) rfl ?_
  refine lw_pv_cons (lw_of (v_iload_n (q := 3) (by decide +kernel) rfl)) rfl ?_
  refine lw_pv_cons (lw_of (v_iconst (n := 1) (by decide +kernel) rfl)) rfl ?_
  refine lw_pv_cons (lw_of (v_iadd (by decide +kernel))) rfl ?_
  refine lw_pv_cons (v_sld (by decide +kernel)) rfl ?_
  refine lw_pv_cons (lw_of (v_aload_n (q := 0) (by decide +kernel) rfl)) rfl ?_
  refine lw_pv_cons (lw_of (v_iload_n (q := 3) (by decide +kernel) rfl)) rfl ?_
  refine lw_pv_cons (lw_of (v_iconst (n := 2) (by decide +kernel) rfl)) rfl ?_
  refine lw_pv_cons (lw_of (v_iadd (by decide +kernel))) rfl ?_
  refine lw_pv_cons (v_sld (by decide +kernel)) rfl ?_
  refine lw_pv_cons (lw_of (v_virt (idx := 78) yv_MO_same rfl rfl (tb7 87 (by decide +kernel) rfl) (by decide +kernel))) rfl ?_
  refine lw_pv_cons (lw_of (v_ic_eq (off := 626) (by decide +kernel) rfl)) rfl ?_
  refine lw_pv_cons (lw_of (v_iconst (n := 0) (by decide +kernel) rfl)) rfl ?_
  refine lw_pv_cons (lw_of (v_ireturn (by decide +kernel))) rfl ?_
  refine lw_pv_cons (lw_of (v_aload_n (q := 1) (by decide +kernel) rfl)) rfl ?_
  refine lw_pv_cons (lw_of (v_virt (idx := 79) yv_TC_peace rfl rfl (tb4 123 (by decide +kernel) rfl) (by decide +kernel))) rfl ?_
  refine lw_pv_cons (lw_of (v_aload_n (q := 2) (by decide +kernel) rfl)) rfl ?_
  refine lw_pv_cons (lw_of (v_virt (idx := 82) yv_MO_peace rfl rfl (tb7 91 (by decide +kernel) rfl) (by decide +kernel))) rfl ?_
  refine lw_pv_cons (lw_of (v_ic_eq (off := 613) (by decide +kernel) rfl)) rfl ?_
  refine lw_pv_cons (lw_of (v_iconst (n := 0) (by decide +kernel) rfl)) rfl ?_
  refine lw_pv_cons (lw_of (v_ireturn (by decide +kernel))) rfl ?_
  refine lw_pv_cons (lw_of (v_aload_n (q := 1) (by decide +kernel) rfl)) rfl ?_
  refine lw_pv_cons (lw_of (v_aload_n (q := 0) (by decide +kernel) rfl)) rfl ?_
  refine lw_pv_cons (lw_of (v_iload_n (q := 3) (by decide +kernel) rfl)) rfl ?_
  refine lw_pv_cons (lw_of (v_iconst (n := 1) (by decide +kernel) rfl)) rfl ?_
  refine lw_pv_cons (lw_of (v_iadd (by decide +kernel))) rfl ?_
  refine lw_pv_cons (v_sld (by decide +kernel)) rfl ?_
  refine lw_pv_cons (lw_of (v_virt (idx := 83) yv_TC_ring rfl rfl (tb4 157 (by decide +kernel) rfl) (by decide +kernel))) rfl ?_
  refine lw_pv_cons (lw_of (v_aload_n (q := 2) (by decide +kernel) rfl)) rfl ?_
  refine lw_pv_cons (lw_of (v_aload_n (q := 0) (by decide +kernel) rfl)) rfl ?_
  refine lw_pv_cons (lw_of (v_iload_n (q := 3) (by decide +kernel) rfl)) rfl ?_
  refine lw_pv_cons (lw_of (v_iconst (n := 1) (by decide +kernel) rfl)) rfl ?_
  refine lw_pv_cons (lw_of (v_iadd (by decide +kernel))) rfl ?_
  refine lw_pv_cons (v_sld (by decide +kernel)) rfl ?_
  refine lw_pv_cons (lw_of (v_virt (idx := 86) yv_MO_ring rfl rfl (tb7 99 (by decide +kernel) rfl) (by decide +kernel))) rfl ?_
  refine lw_pv_cons (lw_of (v_ic_eq (off := 590) (by decide +kernel) rfl)) rfl ?_
  refine lw_pv_cons (lw_of (v_iconst (n := 0) (by decide +kernel) rfl)) rfl ?_
  refine lw_pv_cons (lw_of (v_ireturn (by decide +kernel))) rfl ?_
  refine lw_pv_cons (lw_of (v_aload_n (q := 1) (by decide +kernel) rfl)) rfl ?_
  refine lw_pv_cons (lw_of (v_virt (idx := 87) yv_TC_least rfl rfl (tb4 183 (by decide +kernel) rfl) (by decide +kernel))) rfl ?_
  refine lw_pv_cons (lw_of (v_aload_n (q := 2) (by decide +kernel) rfl)) rfl ?_
  refine lw_pv_cons (lw_of (v_virt (idx := 90) yv_MO_least rfl rfl (tb7 107 (by decide +kernel) rfl) (by decide +kernel))) rfl ?_
  refine lw_pv_cons (lw_of (v_ic_eq (off := 577) (by decide +kernel) rfl)) rfl ?_
  refine lw_pv_cons (lw_of (v_iconst (n := 0) (by decide +kernel) rfl)) rfl ?_
  refine lw_pv_cons (lw_of (v_ireturn (by decide +kernel))) rfl ?_
  refine lw_pv_cons (lw_of (v_aload_n (q := 1) (by decide +kernel) rfl)) rfl ?_
  refine lw_pv_cons (lw_of (v_aload_n (q := 0) (by decide +kernel) rfl)) rfl ?_
  refine lw_pv_cons (lw_of (v_iload_n (q := 3) (by decide +kernel) rfl)) rfl ?_
  refine lw_pv_cons (lw_of (v_iconst (n := 1) (by decide +kernel) rfl)) rfl ?_
  refine lw_pv_cons (lw_of (v_iadd (by decide +kernel))) rfl ?_
  refine lw_pv_cons (v_sld (by decide +kernel)) rfl ?_
  refine lw_pv_cons (lw_of (v_virt (idx := 91) yv_TC_all rfl rfl (tb4 201 (by decide +kernel) rfl) (by decide +kernel))) rfl ?_
  refine lw_pv_cons (lw_of (v_aload_n (q := 2) (by decide +kernel) rfl)) rfl ?_
  refine lw_pv_cons (lw_of (v_aload_n (q := 0) (by decide +kernel) rfl)) rfl ?_
  refine lw_pv_cons (lw_of (v_iload_n (q := 3) (by decide +kernel) rfl)) rfl ?_
  refine lw_pv_cons (lw_of (v_iconst (n := 1) (by decide +kernel) rfl)) rfl ?_
  refine lw_pv_cons (lw_of (v_iadd (by decide +kernel))) rfl ?_
  refine lw_pv_cons (v_sld (by decide +kernel)) rfl ?_
  refine lw_pv_cons (lw_of (v_virt (idx := 94) yv_MO_all rfl rfl (tb7 127 (by decide +kernel) rfl) (by decide +kernel))) rfl ?_
  refine lw_pv_cons (lw_of (v_ic_eq (off := 554) (by decide +kernel) rfl)) rfl ?_
  refine lw_pv_cons (lw_of (v_iconst (n := 0) (by decide +kernel) rfl)) rfl ?_
  refine lw_pv_cons (lw_of (v_ireturn (by decide +kernel))) rfl ?_
  refine lw_pv_cons (lw_of (v_aload_n (q := 1) (by decide +kernel) rfl)) rfl ?_
  refine lw_pv_cons (lw_of (v_aload_n (q := 0) (by decide +kernel) rfl)) rfl ?_
  refine lw_pv_cons (lw_of (v_iload_n (q := 3) (by decide +kernel) rfl)) rfl ?_
  refine lw_pv_cons (lw_of (v_iconst (n := 1) (by decide +kernel) rfl)) rfl ?_
  refine lw_pv_cons (lw_of (v_iadd (by decide +kernel))) rfl ?_
  refine lw_pv_cons (v_sld (by decide +kernel)) rfl ?_
  refine lw_pv_cons (lw_of (v_aload_n (q := 0) (by decide +kernel) rfl)) rfl ?_
  refine lw_pv_cons (lw_of (v_iload_n (q := 3) (by decide +kernel) rfl)) rfl ?_
  refine lw_pv_cons (lw_of (v_iconst (n := 2) (by decide +kernel) rfl)) rfl ?_
  refine lw_pv_cons (lw_of (v_iadd (by decide +kernel))) rfl ?_
  refine lw_pv_cons (v_sld (by decide +kernel)) rfl ?_
  refine lw_pv_cons (lw_of (v_virt (idx := 95) yv_TC_together rfl rfl (tb4 205 (by decide +kernel) rfl) (by decide +kernel))) rfl ?_
  refine lw_pv_cons (lw_of (v_aload_n (q := 2) (by decide +kernel) rfl)) rfl ?_
  refine lw_pv_cons (lw_of (v_aload_n (q := 0) (by decide +kernel) rfl)) rfl ?_
  refine lw_pv_cons (lw_of (v_iload_n (q := 3) (by decide +kernel) rfl)) rfl ?_
  refine lw_pv_cons (lw_of (v_iconst (n := 1) (by decide +kernel) rfl)) rfl ?_
  refine lw_pv_cons (lw_of (v_iadd (by decide +kernel))) rfl ?_
  refine lw_pv_cons (v_sld (by decide +kernel)) rfl ?_
  refine lw_pv_cons (lw_of (v_aload_n (q := 0) (by decide +kernel) rfl)) rfl ?_
  refine lw_pv_cons (lw_of (v_iload_n (q := 3) (by decide +kernel) rfl)) rfl ?_
  refine lw_pv_cons (lw_of (v_iconst (n := 2) (by decide +kernel) rfl)) rfl ?_
  refine lw_pv_cons (lw_of (v_iadd (by decide +kernel))) rfl ?_
  refine lw_pv_cons (v_sld (by decide +kernel)) rfl ?_
  refine lw_pv_cons (lw_of (v_virt (idx := 98) yv_MO_together rfl rfl (tb7 131 (by decide +kernel) rfl) (by decide +kernel))) rfl ?_
  refine lw_pv_cons (lw_of (v_ic_eq (off := 521) (by decide +kernel) rfl)) rfl ?_
  refine lw_pv_cons (lw_of (v_iconst (n := 0) (by decide +kernel) rfl)) rfl ?_
  refine lw_pv_cons (lw_of (v_ireturn (by decide +kernel))) rfl ?_
  refine lw_pv_cons (lw_of (v_aload_n (q := 1) (by decide +kernel) rfl)) rfl ?_
  refine lw_pv_cons (lw_of (v_virt (idx := 99) yv_TC_aside rfl rfl (tb4 214 (by decide +kernel) rfl) (by decide +kernel))) rfl ?_
  refine lw_pv_cons (lw_of (v_aload_n (q := 2) (by decide +kernel) rfl)) rfl ?_
  refine lw_pv_cons (lw_of (v_virt (idx := 102) yv_MO_aside rfl rfl (tb7 143 (by decide +kernel) rfl) (by decide +kernel))) rfl ?_
  refine lw_pv_cons (lw_of (v_ic_eq (off := 508) (by decide +kernel) rfl)) rfl ?_
  refine lw_pv_cons (lw_of (v_iconst (n := 0) (by decide +kernel) rfl)) rfl ?_
  refine lw_pv_cons (lw_of (v_ireturn (by decide +kernel))) rfl ?_
  refine lw_pv_cons (lw_of (v_aload_n (q := 1) (by decide +kernel) rfl)) rfl ?_
  refine lw_pv_cons (lw_of (v_aload_n (q := 0) (by decide +kernel) rfl)) rfl ?_
  refine lw_pv_cons (lw_of (v_iload_n (q := 3) (by decide +kernel) rfl)) rfl ?_
  refine lw_pv_cons (lw_of (v_iconst (n := 1) (by decide +kernel) rfl)) rfl ?_
  refine lw_pv_cons (lw_of (v_iadd (by decide +kernel))) rfl ?_
  refine lw_pv_cons (v_sld (by decide +kernel)) rfl ?_
  refine lw_pv_cons (lw_of (v_virt (idx := 103) yv_TC_many rfl rfl (tb4 227 (by decide +kernel) rfl) (by decide +kernel))) rfl ?_
  refine lw_pv_cons (lw_of (v_aload_n (q := 2) (by decide +kernel) rfl)) rfl ?_
  refine lw_pv_cons (lw_of (v_aload_n (q := 0) (by decide +kernel) rfl)) rfl ?_
  refine lw_pv_cons (lw_of (v_iload_n (q := 3) (by decide +kernel) rfl)) rfl ?_
  refine lw_pv_cons (lw_of (v_iconst (n := 1) (by decide +kernel) rfl)) rfl ?_
  refine lw_pv_cons (lw_of (v_iadd (by decide +kernel))) rfl ?_
  refine lw_pv_cons (v_sld (by decide +kernel)) rfl ?_
  refine lw_pv_cons (lw_of (v_virt (idx := 106) yv_MO_many rfl rfl (tb7 147 (by decide +kernel) rfl) (by decide +kernel))) rfl ?_
  refine lw_pv_cons (lw_of (v_ic_eq (off := 485) (by decide +kernel) rfl)) rfl ?_
  refine lw_pv_cons (lw_of (v_iconst (n := 0) (by decide +kernel) rfl)) rfl ?_
  refine lw_pv_cons (lw_of (v_ireturn (by decide +kernel))) rfl ?_
  refine lw_pv_cons (lw_of (v_aload_n (q := 1) (by decide +kernel) rfl)) rfl ?_
  refine lw_pv_cons (lw_of (v_aload_n (q := 0) (by decide +kernel) rfl)) rfl ?_
  refine lw_pv_cons (lw_of (v_iload_n (q := 3) (by decide +kernel) rfl)) rfl ?_
  refine lw_pv_cons (lw_of (v_iconst (n := 1) (by decide +kernel) rfl)) rfl ?_
  refine lw_pv_cons (lw_of (v_iadd (by decide +kernel))) rfl ?_
  refine lw_pv_cons (v_sld (by decide +kernel)) rfl ?_
  refine lw_pv_cons (lw_of (v_virt (idx := 107) yv_TC_part rfl rfl (tb5 10 (by decide +kernel) rfl) (by decide +kernel))) rfl ?_
  refine lw_pv_cons (lw_of (v_aload_n (q := 2) (by decide +kernel) rfl)) rfl ?_
  refine lw_pv_cons (lw_of (v_aload_n (q := 0) (by decide +kernel) rfl)) rfl ?_
  refine lw_pv_cons (lw_of (v_iload_n (q := 3) (by decide +kernel) rfl)) rfl ?_
  refine lw_pv_cons (lw_of (v_iconst (n := 1) (by decide +kernel) rfl)) rfl ?_
  refine lw_pv_cons (lw_of (v_iadd (by decide +kernel))) rfl ?_
  refine lw_pv_cons (v_sld (by decide +kernel)) rfl ?_
  refine lw_pv_cons (lw_of (v_virt (idx := 110) yv_MO_part2 rfl rfl (tb7 156 (by decide +kernel) rfl) (by decide +kernel))) rfl ?_
  refine lw_pv_cons (lw_of (v_ic_eq (off := 462) (by decide +kernel) rfl)) rfl ?_
  refine lw_pv_cons (lw_of (v_iconst (n := 0) (by decide +kernel) rfl)) rfl ?_
  refine lw_pv_cons (lw_of (v_ireturn (by decide +kernel))) rfl ?_
  refine lw_pv_cons (lw_of (v_aload_n (q := 1) (by decide +kernel) rfl)) rfl ?_
  refine lw_pv_cons (lw_of (v_virt (idx := 111) yv_TC_doors rfl rfl (tb5 18 (by decide +kernel) rfl) (by decide +kernel))) rfl ?_
  refine lw_pv_cons (lw_of (v_aload_n (q := 2) (by decide +kernel) rfl)) rfl ?_
  refine lw_pv_cons (lw_of (v_virt (idx := 114) yv_MO_doors rfl rfl (tb7 168 (by decide +kernel) rfl) (by decide +kernel))) rfl ?_
  refine lw_pv_cons (lw_of (v_ic_eq (off := 449) (by decide +kernel) rfl)) rfl ?_
  refine lw_pv_cons (lw_of (v_iconst (n := 0) (by decide +kernel) rfl)) rfl ?_
  refine lw_pv_cons (lw_of (v_ireturn (by decide +kernel))) rfl ?_
  refine lw_pv_cons (lw_of (v_aload_n (q := 1) (by decide +kernel) rfl)) rfl ?_
  refine lw_pv_cons (lw_of (v_virt (idx := 115) yv_TC_threes rfl rfl (tb5 26 (by decide +kernel) rfl) (by decide +kernel))) rfl ?_
  refine lw_pv_cons (lw_of (v_aload_n (q := 2) (by decide +kernel) rfl)) rfl ?_
  refine lw_pv_cons (lw_of (v_virt (idx := 118) yv_MO_threes rfl rfl (tb7 172 (by decide +kernel) rfl) (by decide +kernel))) rfl ?_
  refine lw_pv_cons (lw_of (v_ic_eq (off := 436) (by decide +kernel) rfl)) rfl ?_
  refine lw_pv_cons (lw_of (v_iconst (n := 0) (by decide +kernel) rfl)) rfl ?_
  refine lw_pv_cons (lw_of (v_ireturn (by decide +kernel))) rfl ?_
  refine lw_pv_cons (lw_of (v_aload_n (q := 1) (by decide +kernel) rfl)) rfl ?_
  refine lw_pv_cons (lw_of (v_aload_n (q := 0) (by decide +kernel) rfl)) rfl ?_
  refine lw_pv_cons (lw_of (v_iload_n (q := 3) (by decide +kernel) rfl)) rfl ?_
  refine lw_pv_cons (lw_of (v_iconst (n := 1) (by decide +kernel) rfl)) rfl ?_
  refine lw_pv_cons (lw_of (v_iadd (by decide +kernel))) rfl ?_
  refine lw_pv_cons (v_sld (by decide +kernel)) rfl ?_
  refine lw_pv_cons (lw_of (v_virt (idx := 119) yv_TC_step rfl rfl (tb5 30 (by decide +kernel) rfl) (by decide +kernel))) rfl ?_
  refine lw_pv_cons (lw_of (v_aload_n (q := 2) (by decide +kernel) rfl)) rfl ?_
  refine lw_pv_cons (lw_of (v_aload_n (q := 0) (by decide +kernel) rfl)) rfl ?_
  refine lw_pv_cons (lw_of (v_iload_n (q := 3) (by decide +kernel) rfl)) rfl ?_
  refine lw_pv_cons (lw_of (v_iconst (n := 1) (by decide +kernel) rfl)) rfl ?_
  refine lw_pv_cons (lw_of (v_iadd (by decide +kernel))) rfl ?_
  refine lw_pv_cons (v_sld (by decide +kernel)) rfl ?_
  refine lw_pv_cons (lw_of (v_virt (idx := 122) yv_MO_step rfl rfl (tb7 176 (by decide +kernel) rfl) (by decide +kernel))) rfl ?_
  refine lw_pv_cons (lw_of (v_ic_eq (off := 413) (by decide +kernel) rfl)) rfl ?_
  refine lw_pv_cons (lw_of (v_iconst (n := 0) (by decide +kernel) rfl)) rfl ?_
  refine lw_pv_cons (lw_of (v_ireturn (by decide +kernel))) rfl ?_
  refine lw_pv_cons (lw_of (v_aload_n (q := 1) (by decide +kernel) rfl)) rfl ?_
  refine lw_pv_cons (lw_of (v_aload_n (q := 0) (by decide +kernel) rfl)) rfl ?_
  refine lw_pv_cons (lw_of (v_iload_n (q := 3) (by decide +kernel) rfl)) rfl ?_
  refine lw_pv_cons (lw_of (v_iconst (n := 1) (by decide +kernel) rfl)) rfl ?_
  refine lw_pv_cons (lw_of (v_iadd (by decide +kernel))) rfl ?_
  refine lw_pv_cons (v_sld (by decide +kernel)) rfl ?_
  refine lw_pv_cons (lw_of (v_virt (idx := 123) yv_TC_ends rfl rfl (tb5 42 (by decide +kernel) rfl) (by decide +kernel))) rfl ?_
  refine lw_pv_cons (lw_of (v_aload_n (q := 2) (by decide +kernel) rfl)) rfl ?_
  refine lw_pv_cons (lw_of (v_aload_n (q := 0) (by decide +kernel) rfl)) rfl ?_
  refine lw_pv_cons (lw_of (v_iload_n (q := 3) (by decide +kernel) rfl)) rfl ?_
  refine lw_pv_cons (lw_of (v_iconst (n := 1) (by decide +kernel) rfl)) rfl ?_
  refine lw_pv_cons (lw_of (v_iadd (by decide +kernel))) rfl ?_
  refine lw_pv_cons (v_sld (by decide +kernel)) rfl ?_
  refine lw_pv_cons (lw_of (v_virt (idx := 126) yv_MO_ends rfl rfl (tb7 184 (by decide +kernel) rfl) (by decide +kernel))) rfl ?_
  refine lw_pv_cons (lw_of (v_ic_eq (off := 390) (by decide +kernel) rfl)) rfl ?_
  refine lw_pv_cons (lw_of (v_iconst (n := 0) (by decide +kernel) rfl)) rfl ?_
  refine lw_pv_cons (lw_of (v_ireturn (by decide +kernel))) rfl ?_
  refine lw_pv_cons (lw_of (v_aload_n (q := 1) (by decide +kernel) rfl)) rfl ?_
  refine lw_pv_cons (lw_of (v_aload_n (q := 0) (by decide +kernel) rfl)) rfl ?_
  refine lw_pv_cons (lw_of (v_iload_n (q := 3) (by decide +kernel) rfl)) rfl ?_
  refine lw_pv_cons (lw_of (v_iconst (n := 1) (by decide +kernel) rfl)) rfl ?_
  refine lw_pv_cons (lw_of (v_iadd (by decide +kernel))) rfl ?_
  refine lw_pv_cons (v_sld (by decide +kernel)) rfl ?_
  refine lw_pv_cons (lw_of (v_aload_n (q := 0) (by decide +kernel) rfl)) rfl ?_
  refine lw_pv_cons (lw_of (v_iload_n (q := 3) (by decide +kernel) rfl)) rfl ?_
  refine lw_pv_cons (lw_of (v_iconst (n := 2) (by decide +kernel) rfl)) rfl ?_
  refine lw_pv_cons (lw_of (v_iadd (by decide +kernel))) rfl ?_
  refine lw_pv_cons (v_sld (by decide +kernel)) rfl ?_
  refine lw_pv_cons (lw_of (v_aload_n (q := 0) (by decide +kernel) rfl)) rfl ?_
  refine lw_pv_cons (lw_of (v_iload_n (q := 3) (by decide +kernel) rfl)) rfl ?_
  refine lw_pv_cons (lw_of (v_iconst (n := 3) (by decide +kernel) rfl)) rfl ?_
  refine lw_pv_cons (lw_of (v_iadd (by decide +kernel))) rfl ?_
  refine lw_pv_cons (v_sld (by decide +kernel)) rfl ?_
  refine lw_pv_cons (lw_of (v_virt (idx := 127) yv_TC_meet rfl rfl (tb5 59 (by decide +kernel) rfl) (by decide +kernel))) rfl ?_
  refine lw_pv_cons (lw_of (v_aload_n (q := 2) (by decide +kernel) rfl)) rfl ?_
  refine lw_pv_cons (lw_of (v_aload_n (q := 0) (by decide +kernel) rfl)) rfl ?_
  refine lw_pv_cons (lw_of (v_iload_n (q := 3) (by decide +kernel) rfl)) rfl ?_
  refine lw_pv_cons (lw_of (v_iconst (n := 1) (by decide +kernel) rfl)) rfl ?_
  refine lw_pv_cons (lw_of (v_iadd (by decide +kernel))) rfl ?_
  refine lw_pv_cons (v_sld (by decide +kernel)) rfl ?_
  refine lw_pv_cons (lw_of (v_aload_n (q := 0) (by decide +kernel) rfl)) rfl ?_
  refine lw_pv_cons (lw_of (v_iload_n (q := 3) (by decide +kernel) rfl)) rfl ?_
  refine lw_pv_cons (lw_of (v_iconst (n := 2) (by decide +kernel) rfl)) rfl ?_
  refine lw_pv_cons (lw_of (v_iadd (by decide +kernel))) rfl ?_
  refine lw_pv_cons (v_sld (by decide +kernel)) rfl ?_
  refine lw_pv_cons (lw_of (v_aload_n (q := 0) (by decide +kernel) rfl)) rfl ?_
  refine lw_pv_cons (lw_of (v_iload_n (q := 3) (by decide +kernel) rfl)) rfl ?_
  refine lw_pv_cons (lw_of (v_iconst (n := 3) (by decide +kernel) rfl)) rfl ?_
  refine lw_pv_cons (lw_of (v_iadd (by decide +kernel))) rfl ?_
  refine lw_pv_cons (v_sld (by decide +kernel)) rfl ?_
  refine lw_pv_cons (lw_of (v_virt (idx := 130) yv_MO_meet rfl rfl (tb7 189 (by decide +kernel) rfl) (by decide +kernel))) rfl ?_
  refine lw_pv_cons (lw_of (v_lcmp (by decide +kernel))) rfl ?_
  refine lw_pv_cons (lw_of (v_if_eq (off := 346) (by decide +kernel) rfl)) rfl ?_
  refine lw_pv_cons (lw_of (v_iconst (n := 0) (by decide +kernel) rfl)) rfl ?_
  refine lw_pv_cons (lw_of (v_ireturn (by decide +kernel))) rfl ?_
  refine lw_pv_cons (lw_of (v_aload_n (q := 1) (by decide +kernel) rfl)) rfl ?_
  refine lw_pv_cons (lw_of (v_aload_n (q := 0) (by decide +kernel) rfl)) rfl ?_
  refine lw_pv_cons (lw_of (v_iload_n (q := 3) (by decide +kernel) rfl)) rfl ?_
  refine lw_pv_cons (lw_of (v_iconst (n := 1) (by decide +kernel) rfl)) rfl ?_
  refine lw_pv_cons (lw_of (v_iadd (by decide +kernel))) rfl ?_
  refine lw_pv_cons (v_sld (by decide +kernel)) rfl ?_
  refine lw_pv_cons (lw_of (v_virt (idx := 131) yv_TC_edge rfl rfl (tb5 66 (by decide +kernel) rfl) (by decide +kernel))) rfl ?_
  refine lw_pv_cons (lw_of (v_aload_n (q := 2) (by decide +kernel) rfl)) rfl ?_
  refine lw_pv_cons (lw_of (v_aload_n (q := 0) (by decide +kernel) rfl)) rfl ?_
  refine lw_pv_cons (lw_of (v_iload_n (q := 3) (by decide +kernel) rfl)) rfl ?_
  refine lw_pv_cons (lw_of (v_iconst (n := 1) (by decide +kernel) rfl)) rfl ?_
  refine lw_pv_cons (lw_of (v_iadd (by decide +kernel))) rfl ?_
  refine lw_pv_cons (v_sld (by decide +kernel)) rfl ?_
  refine lw_pv_cons (lw_of (v_virt (idx := 134) yv_MO_edge rfl rfl (tb7 196 (by decide +kernel) rfl) (by decide +kernel))) rfl ?_
  refine lw_pv_cons (lw_of (v_lcmp (by decide +kernel))) rfl ?_
  refine lw_pv_cons (lw_of (v_if_eq (off := 322) (by decide +kernel) rfl)) rfl ?_
  refine lw_pv_cons (lw_of (v_iconst (n := 0) (by decide +kernel) rfl)) rfl ?_
  refine lw_pv_cons (lw_of (v_ireturn (by decide +kernel))) rfl ?_
  refine lw_pv_cons (lw_of (v_aload_n (q := 1) (by decide +kernel) rfl)) rfl ?_
  refine lw_pv_cons (lw_of (v_aload_n (q := 0) (by decide +kernel) rfl)) rfl ?_
  refine lw_pv_cons (lw_of (v_iload_n (q := 3) (by decide +kernel) rfl)) rfl ?_
  refine lw_pv_cons (lw_of (v_iconst (n := 1) (by decide +kernel) rfl)) rfl ?_
  refine lw_pv_cons (lw_of (v_iadd (by decide +kernel))) rfl ?_
  refine lw_pv_cons (v_sld (by decide +kernel)) rfl ?_
  refine lw_pv_cons (lw_of (v_aload_n (q := 0) (by decide +kernel) rfl)) rfl ?_
  refine lw_pv_cons (lw_of (v_iload_n (q := 3) (by decide +kernel) rfl)) rfl ?_
  refine lw_pv_cons (lw_of (v_iconst (n := 2) (by decide +kernel) rfl)) rfl ?_
  refine lw_pv_cons (lw_of (v_iadd (by decide +kernel))) rfl ?_
  refine lw_pv_cons (v_sld (by decide +kernel)) rfl ?_
  refine lw_pv_cons (lw_of (v_virt (idx := 135) yv_TC_bring rfl rfl (tb5 79 (by decide +kernel) rfl) (by decide +kernel))) rfl ?_
  refine lw_pv_cons (lw_of (v_aload_n (q := 2) (by decide +kernel) rfl)) rfl ?_
  refine lw_pv_cons (lw_of (v_aload_n (q := 0) (by decide +kernel) rfl)) rfl ?_
  refine lw_pv_cons (lw_of (v_iload_n (q := 3) (by decide +kernel) rfl)) rfl ?_
  refine lw_pv_cons (lw_of (v_iconst (n := 1) (by decide +kernel) rfl)) rfl ?_
  refine lw_pv_cons (lw_of (v_iadd (by decide +kernel))) rfl ?_
  refine lw_pv_cons (v_sld (by decide +kernel)) rfl ?_
  refine lw_pv_cons (lw_of (v_aload_n (q := 0) (by decide +kernel) rfl)) rfl ?_
  refine lw_pv_cons (lw_of (v_iload_n (q := 3) (by decide +kernel) rfl)) rfl ?_
  refine lw_pv_cons (lw_of (v_iconst (n := 2) (by decide +kernel) rfl)) rfl ?_
  refine lw_pv_cons (lw_of (v_iadd (by decide +kernel))) rfl ?_
  refine lw_pv_cons (v_sld (by decide +kernel)) rfl ?_
  refine lw_pv_cons (lw_of (v_virt (idx := 138) yv_MO_bring rfl rfl (tb7 201 (by decide +kernel) rfl) (by decide +kernel))) rfl ?_
  refine lw_pv_cons (lw_of (v_ic_eq (off := 289) (by decide +kernel) rfl)) rfl ?_
  refine lw_pv_cons (lw_of (v_iconst (n := 0) (by decide +kernel) rfl)) rfl ?_
  refine lw_pv_cons (lw_of (v_ireturn (by decide +kernel))) rfl ?_
  refine lw_pv_cons (lw_of (v_aload_n (q := 1) (by decide +kernel) rfl)) rfl ?_
  refine lw_pv_cons (lw_of (v_virt (idx := 139) yv_TC_image rfl rfl (tb5 93 (by decide +kernel) rfl) (by decide +kernel))) rfl ?_
  refine lw_pv_cons (lw_of (v_aload_n (q := 2) (by decide +kernel) rfl)) rfl ?_
  refine lw_pv_cons (lw_of (v_virt (idx := 142) yv_MO_image rfl rfl (tb7 205 (by decide +kernel) rfl) (by decide +kernel))) rfl ?_
  refine lw_pv_cons (lw_of (v_ic_eq (off := 276) (by decide +kernel) rfl)) rfl ?_
  refine lw_pv_cons (lw_of (v_iconst (n := 0) (by decide +kernel) rfl)) rfl ?_
  refine lw_pv_cons (lw_of (v_ireturn (by decide +kernel))) rfl ?_
  refine lw_pv_cons (lw_of (v_aload_n (q := 1) (by decide +kernel) rfl)) rfl ?_
  refine lw_pv_cons (lw_of (v_virt (idx := 143) yv_TC_back rfl rfl (tb5 110 (by decide +kernel) rfl) (by decide +kernel))) rfl ?_
  refine lw_pv_cons (lw_of (v_aload_n (q := 2) (by decide +kernel) rfl)) rfl ?_
  refine lw_pv_cons (lw_of (v_virt (idx := 146) yv_MO_back rfl rfl (tb7 209 (by decide +kernel) rfl) (by decide +kernel))) rfl ?_
  refine lw_pv_cons (lw_of (v_ic_eq (off := 263) (by decide +kernel) rfl)) rfl ?_
  refine lw_pv_cons (lw_of (v_iconst (n := 0) (by decide +kernel) rfl)) rfl ?_
  refine lw_pv_cons (lw_of (v_ireturn (by decide +kernel))) rfl ?_
  refine lw_pv_cons (lw_of (v_aload_n (q := 1) (by decide +kernel) rfl)) rfl ?_
  refine lw_pv_cons (lw_of (v_aload_n (q := 0) (by decide +kernel) rfl)) rfl ?_
  refine lw_pv_cons (lw_of (v_iload_n (q := 3) (by decide +kernel) rfl)) rfl ?_
  refine lw_pv_cons (lw_of (v_iconst (n := 1) (by decide +kernel) rfl)) rfl ?_
  refine lw_pv_cons (lw_of (v_iadd (by decide +kernel))) rfl ?_
  refine lw_pv_cons (v_sld (by decide +kernel)) rfl ?_
  refine lw_pv_cons (lw_of (v_virt (idx := 147) yv_TC_count rfl rfl (tb5 115 (by decide +kernel) rfl) (by decide +kernel))) rfl ?_
  refine lw_pv_cons (lw_of (v_aload_n (q := 2) (by decide +kernel) rfl)) rfl ?_
  refine lw_pv_cons (lw_of (v_aload_n (q := 0) (by decide +kernel) rfl)) rfl ?_
  refine lw_pv_cons (lw_of (v_iload_n (q := 3) (by decide +kernel) rfl)) rfl ?_
  refine lw_pv_cons (lw_of (v_iconst (n := 1) (by decide +kernel) rfl)) rfl ?_
  refine lw_pv_cons (lw_of (v_iadd (by decide +kernel))) rfl ?_
  refine lw_pv_cons (v_sld (by decide +kernel)) rfl ?_
  refine lw_pv_cons (lw_of (v_virt (idx := 150) yv_MO_count rfl rfl (tb7 213 (by decide +kernel) rfl) (by decide +kernel))) rfl ?_
  refine lw_pv_cons (lw_of (v_ic_eq (off := 240) (by decide +kernel) rfl)) rfl ?_
  refine lw_pv_cons (lw_of (v_iconst (n := 0) (by decide +kernel) rfl)) rfl ?_
  refine lw_pv_cons (lw_of (v_ireturn (by decide +kernel))) rfl ?_
  refine lw_pv_cons (lw_of (v_aload_n (q := 1) (by decide +kernel) rfl)) rfl ?_
  refine lw_pv_cons (lw_of (v_aload_n (q := 0) (by decide +kernel) rfl)) rfl ?_
  refine lw_pv_cons (lw_of (v_iload_n (q := 3) (by decide +kernel) rfl)) rfl ?_
  refine lw_pv_cons (lw_of (v_iconst (n := 1) (by decide +kernel) rfl)) rfl ?_
  refine lw_pv_cons (lw_of (v_iadd (by decide +kernel))) rfl ?_
  refine lw_pv_cons (v_sld (by decide +kernel)) rfl ?_
  refine lw_pv_cons (lw_of (v_aload_n (q := 0) (by decide +kernel) rfl)) rfl ?_
  refine lw_pv_cons (lw_of (v_iload_n (q := 3) (by decide +kernel) rfl)) rfl ?_
  refine lw_pv_cons (lw_of (v_iconst (n := 2) (by decide +kernel) rfl)) rfl ?_
  refine lw_pv_cons (lw_of (v_iadd (by decide +kernel))) rfl ?_
  refine lw_pv_cons (v_sld (by decide +kernel)) rfl ?_
  refine lw_pv_cons (lw_of (v_aload_n (q := 0) (by decide +kernel) rfl)) rfl ?_
  refine lw_pv_cons (lw_of (v_iload_n (q := 3) (by decide +kernel) rfl)) rfl ?_
  refine lw_pv_cons (lw_of (v_iconst (n := 3) (by decide +kernel) rfl)) rfl ?_
  refine lw_pv_cons (lw_of (v_iadd (by decide +kernel))) rfl ?_
  refine lw_pv_cons (v_sld (by decide +kernel)) rfl ?_
  refine lw_pv_cons (lw_of (v_virt (idx := 151) yv_TC_sheet rfl rfl (tb5 123 (by decide +kernel) rfl) (by decide +kernel))) rfl ?_
  refine lw_pv_cons (lw_of (v_aload_n (q := 2) (by decide +kernel) rfl)) rfl ?_
  refine lw_pv_cons (lw_of (v_aload_n (q := 0) (by decide +kernel) rfl)) rfl ?_
  refine lw_pv_cons (lw_of (v_iload_n (q := 3) (by decide +kernel) rfl)) rfl ?_
  refine lw_pv_cons (lw_of (v_iconst (n := 1) (by decide +kernel) rfl)) rfl ?_
  refine lw_pv_cons (lw_of (v_iadd (by decide +kernel))) rfl ?_
  refine lw_pv_cons (v_sld (by decide +kernel)) rfl ?_
  refine lw_pv_cons (lw_of (v_aload_n (q := 0) (by decide +kernel) rfl)) rfl ?_
  refine lw_pv_cons (lw_of (v_iload_n (q := 3) (by decide +kernel) rfl)) rfl ?_
  refine lw_pv_cons (lw_of (v_iconst (n := 2) (by decide +kernel) rfl)) rfl ?_
  refine lw_pv_cons (lw_of (v_iadd (by decide +kernel))) rfl ?_
  refine lw_pv_cons (v_sld (by decide +kernel)) rfl ?_
  refine lw_pv_cons (lw_of (v_aload_n (q := 0) (by decide +kernel) rfl)) rfl ?_
  refine lw_pv_cons (lw_of (v_iload_n (q := 3) (by decide +kernel) rfl)) rfl ?_
  refine lw_pv_cons (lw_of (v_iconst (n := 3) (by decide +kernel) rfl)) rfl ?_
  refine lw_pv_cons (lw_of (v_iadd (by decide +kernel))) rfl ?_
  refine lw_pv_cons (v_sld (by decide +kernel)) rfl ?_
  refine lw_pv_cons (lw_of (v_virt (idx := 154) yv_MO_sheet rfl rfl (tb7 217 (by decide +kernel) rfl) (by decide +kernel))) rfl ?_
  refine lw_pv_cons (lw_of (v_ic_eq (off := 197) (by decide +kernel) rfl)) rfl ?_
  refine lw_pv_cons (lw_of (v_iconst (n := 0) (by decide +kernel) rfl)) rfl ?_
  refine lw_pv_cons (lw_of (v_ireturn (by decide +kernel))) rfl ?_
  refine lw_pv_cons (lw_of (v_aload_n (q := 1) (by decide +kernel) rfl)) rfl ?_
  refine lw_pv_cons (lw_of (v_aload_n (q := 0) (by decide +kernel) rfl)) rfl ?_
  refine lw_pv_cons (lw_of (v_iload_n (q := 3) (by decide +kernel) rfl)) rfl ?_
  refine lw_pv_cons (lw_of (v_iconst (n := 1) (by decide +kernel) rfl)) rfl ?_
  refine lw_pv_cons (lw_of (v_iadd (by decide +kernel))) rfl ?_
  refine lw_pv_cons (v_sld (by decide +kernel)) rfl ?_
  refine lw_pv_cons (lw_of (v_aload_n (q := 0) (by decide +kernel) rfl)) rfl ?_
  refine lw_pv_cons (lw_of (v_iload_n (q := 3) (by decide +kernel) rfl)) rfl ?_
  refine lw_pv_cons (lw_of (v_iconst (n := 2) (by decide +kernel) rfl)) rfl ?_
  refine lw_pv_cons (lw_of (v_iadd (by decide +kernel))) rfl ?_
  refine lw_pv_cons (v_sld (by decide +kernel)) rfl ?_
  refine lw_pv_cons (lw_of (v_aload_n (q := 0) (by decide +kernel) rfl)) rfl ?_
  refine lw_pv_cons (lw_of (v_iload_n (q := 3) (by decide +kernel) rfl)) rfl ?_
  refine lw_pv_cons (lw_of (v_iconst (n := 3) (by decide +kernel) rfl)) rfl ?_
  refine lw_pv_cons (lw_of (v_iadd (by decide +kernel))) rfl ?_
  refine lw_pv_cons (v_sld (by decide +kernel)) rfl ?_
  refine lw_pv_cons (lw_of (v_virt (idx := 155) yv_TC_cell rfl rfl (tb5 132 (by decide +kernel) rfl) (by decide +kernel))) rfl ?_
  refine lw_pv_cons (lw_of (v_aload_n (q := 2) (by decide +kernel) rfl)) rfl ?_
  refine lw_pv_cons (lw_of (v_aload_n (q := 0) (by decide +kernel) rfl)) rfl ?_
  refine lw_pv_cons (lw_of (v_iload_n (q := 3) (by decide +kernel) rfl)) rfl ?_
  refine lw_pv_cons (lw_of (v_iconst (n := 1) (by decide +kernel) rfl)) rfl ?_
  refine lw_pv_cons (lw_of (v_iadd (by decide +kernel))) rfl ?_
  refine lw_pv_cons (v_sld (by decide +kernel)) rfl ?_
  refine lw_pv_cons (lw_of (v_aload_n (q := 0) (by decide +kernel) rfl)) rfl ?_
  refine lw_pv_cons (lw_of (v_iload_n (q := 3) (by decide +kernel) rfl)) rfl ?_
  refine lw_pv_cons (lw_of (v_iconst (n := 2) (by decide +kernel) rfl)) rfl ?_
  refine lw_pv_cons (lw_of (v_iadd (by decide +kernel))) rfl ?_
  refine lw_pv_cons (v_sld (by decide +kernel)) rfl ?_
  refine lw_pv_cons (lw_of (v_aload_n (q := 0) (by decide +kernel) rfl)) rfl ?_
  refine lw_pv_cons (lw_of (v_iload_n (q := 3) (by decide +kernel) rfl)) rfl ?_
  refine lw_pv_cons (lw_of (v_iconst (n := 3) (by decide +kernel) rfl)) rfl ?_
  refine lw_pv_cons (lw_of (v_iadd (by decide +kernel))) rfl ?_
  refine lw_pv_cons (v_sld (by decide +kernel)) rfl ?_
  refine lw_pv_cons (lw_of (v_virt (idx := 158) yv_MO_cell rfl rfl (tb7 222 (by decide +kernel) rfl) (by decide +kernel))) rfl ?_
  refine lw_pv_cons (lw_of (v_ic_eq (off := 154) (by decide +kernel) rfl)) rfl ?_
  refine lw_pv_cons (lw_of (v_iconst (n := 0) (by decide +kernel) rfl)) rfl ?_
  refine lw_pv_cons (lw_of (v_ireturn (by decide +kernel))) rfl ?_
  refine lw_pv_cons (lw_of (v_aload_n (q := 1) (by decide +kernel) rfl)) rfl ?_
  refine lw_pv_cons (lw_of (v_aload_n (q := 0) (by decide +kernel) rfl)) rfl ?_
  refine lw_pv_cons (lw_of (v_iload_n (q := 3) (by decide +kernel) rfl)) rfl ?_
  refine lw_pv_cons (lw_of (v_iconst (n := 1) (by decide +kernel) rfl)) rfl ?_
  refine lw_pv_cons (lw_of (v_iadd (by decide +kernel))) rfl ?_
  refine lw_pv_cons (v_sld (by decide +kernel)) rfl ?_
  refine lw_pv_cons (lw_of (v_aload_n (q := 0) (by decide +kernel) rfl)) rfl ?_
  refine lw_pv_cons (lw_of (v_iload_n (q := 3) (by decide +kernel) rfl)) rfl ?_
  refine lw_pv_cons (lw_of (v_iconst (n := 2) (by decide +kernel) rfl)) rfl ?_
  refine lw_pv_cons (lw_of (v_iadd (by decide +kernel))) rfl ?_
  refine lw_pv_cons (v_sld (by decide +kernel)) rfl ?_
  refine lw_pv_cons (lw_of (v_aload_n (q := 0) (by decide +kernel) rfl)) rfl ?_
  refine lw_pv_cons (lw_of (v_iload_n (q := 3) (by decide +kernel) rfl)) rfl ?_
  refine lw_pv_cons (lw_of (v_iconst (n := 3) (by decide +kernel) rfl)) rfl ?_
  refine lw_pv_cons (lw_of (v_iadd (by decide +kernel))) rfl ?_
  refine lw_pv_cons (v_sld (by decide +kernel)) rfl ?_
  refine lw_pv_cons (lw_of (v_aload_n (q := 0) (by decide +kernel) rfl)) rfl ?_
  refine lw_pv_cons (lw_of (v_iload_n (q := 3) (by decide +kernel) rfl)) rfl ?_
  refine lw_pv_cons (lw_of (v_iconst (n := 4) (by decide +kernel) rfl)) rfl ?_
  refine lw_pv_cons (lw_of (v_iadd (by decide +kernel))) rfl ?_
  refine lw_pv_cons (v_sld (by decide +kernel)) rfl ?_
  refine lw_pv_cons (lw_of (v_aload_n (q := 0) (by decide +kernel) rfl)) rfl ?_
  refine lw_pv_cons (lw_of (v_iload_n (q := 3) (by decide +kernel) rfl)) rfl ?_
  refine lw_pv_cons (lw_of (v_iconst (n := 5) (by decide +kernel) rfl)) rfl ?_
  refine lw_pv_cons (lw_of (v_iadd (by decide +kernel))) rfl ?_
  refine lw_pv_cons (v_sld (by decide +kernel)) rfl ?_
  refine lw_pv_cons (lw_of (v_virt (idx := 159) yv_TC_copy rfl rfl (tb5 144 (by decide +kernel) rfl) (by decide +kernel))) rfl ?_
  refine lw_pv_cons (lw_of (v_aload_n (q := 2) (by decide +kernel) rfl)) rfl ?_
  refine lw_pv_cons (lw_of (v_aload_n (q := 0) (by decide +kernel) rfl)) rfl ?_
  refine lw_pv_cons (lw_of (v_iload_n (q := 3) (by decide +kernel) rfl)) rfl ?_
  refine lw_pv_cons (lw_of (v_iconst (n := 1) (by decide +kernel) rfl)) rfl ?_
  refine lw_pv_cons (lw_of (v_iadd (by decide +kernel))) rfl ?_
  refine lw_pv_cons (v_sld (by decide +kernel)) rfl ?_
  refine lw_pv_cons (lw_of (v_aload_n (q := 0) (by decide +kernel) rfl)) rfl ?_
  refine lw_pv_cons (lw_of (v_iload_n (q := 3) (by decide +kernel) rfl)) rfl ?_
  refine lw_pv_cons (lw_of (v_iconst (n := 2) (by decide +kernel) rfl)) rfl ?_
  refine lw_pv_cons (lw_of (v_iadd (by decide +kernel))) rfl ?_
  refine lw_pv_cons (v_sld (by decide +kernel)) rfl ?_
  refine lw_pv_cons (lw_of (v_aload_n (q := 0) (by decide +kernel) rfl)) rfl ?_
  refine lw_pv_cons (lw_of (v_iload_n (q := 3) (by decide +kernel) rfl)) rfl ?_
  refine lw_pv_cons (lw_of (v_iconst (n := 3) (by decide +kernel) rfl)) rfl ?_
  refine lw_pv_cons (lw_of (v_iadd (by decide +kernel))) rfl ?_
  refine lw_pv_cons (v_sld (by decide +kernel)) rfl ?_
  refine lw_pv_cons (lw_of (v_aload_n (q := 0) (by decide +kernel) rfl)) rfl ?_
  refine lw_pv_cons (lw_of (v_iload_n (q := 3) (by decide +kernel) rfl)) rfl ?_
  refine lw_pv_cons (lw_of (v_iconst (n := 4) (by decide +kernel) rfl)) rfl ?_
  refine lw_pv_cons (lw_of (v_iadd (by decide +kernel))) rfl ?_
  refine lw_pv_cons (v_sld (by decide +kernel)) rfl ?_
  refine lw_pv_cons (lw_of (v_aload_n (q := 0) (by decide +kernel) rfl)) rfl ?_
  refine lw_pv_cons (lw_of (v_iload_n (q := 3) (by decide +kernel) rfl)) rfl ?_
  refine lw_pv_cons (lw_of (v_iconst (n := 5) (by decide +kernel) rfl)) rfl ?_
  refine lw_pv_cons (lw_of (v_iadd (by decide +kernel))) rfl ?_
  refine lw_pv_cons (v_sld (by decide +kernel)) rfl ?_
  refine lw_pv_cons (lw_of (v_virt (idx := 162) yv_MO_copy rfl rfl (tb7 226 (by decide +kernel) rfl) (by decide +kernel))) rfl ?_
  refine lw_pv_cons (lw_of (v_ic_eq (off := 91) (by decide +kernel) rfl)) rfl ?_
  refine lw_pv_cons (lw_of (v_iconst (n := 0) (by decide +kernel) rfl)) rfl ?_
  refine lw_pv_cons (lw_of (v_ireturn (by decide +kernel))) rfl ?_
  refine lw_pv_cons (lw_of (v_aload_n (q := 1) (by decide +kernel) rfl)) rfl ?_
  refine lw_pv_cons (lw_of (v_aload_n (q := 0) (by decide +kernel) rfl)) rfl ?_
  refine lw_pv_cons (lw_of (v_iload_n (q := 3) (by decide +kernel) rfl)) rfl ?_
  refine lw_pv_cons (lw_of (v_iconst (n := 1) (by decide +kernel) rfl)) rfl ?_
  refine lw_pv_cons (lw_of (v_iadd (by decide +kernel))) rfl ?_
  refine lw_pv_cons (v_sld (by decide +kernel)) rfl ?_
  refine lw_pv_cons (lw_of (v_aload_n (q := 0) (by decide +kernel) rfl)) rfl ?_
  refine lw_pv_cons (lw_of (v_iload_n (q := 3) (by decide +kernel) rfl)) rfl ?_
  refine lw_pv_cons (lw_of (v_iconst (n := 2) (by decide +kernel) rfl)) rfl ?_
  refine lw_pv_cons (lw_of (v_iadd (by decide +kernel))) rfl ?_
  refine lw_pv_cons (v_sld (by decide +kernel)) rfl ?_
  refine lw_pv_cons (lw_of (v_aload_n (q := 0) (by decide +kernel) rfl)) rfl ?_
  refine lw_pv_cons (lw_of (v_iload_n (q := 3) (by decide +kernel) rfl)) rfl ?_
  refine lw_pv_cons (lw_of (v_iconst (n := 3) (by decide +kernel) rfl)) rfl ?_
  refine lw_pv_cons (lw_of (v_iadd (by decide +kernel))) rfl ?_
  refine lw_pv_cons (v_sld (by decide +kernel)) rfl ?_
  refine lw_pv_cons (lw_of (v_aload_n (q := 0) (by decide +kernel) rfl)) rfl ?_
  refine lw_pv_cons (lw_of (v_iload_n (q := 3) (by decide +kernel) rfl)) rfl ?_
  refine lw_pv_cons (lw_of (v_iconst (n := 4) (by decide +kernel) rfl)) rfl ?_
  refine lw_pv_cons (lw_of (v_iadd (by decide +kernel))) rfl ?_
  refine lw_pv_cons (v_sld (by decide +kernel)) rfl ?_
  refine lw_pv_cons (lw_of (v_virt (idx := 163) yv_TC_feels rfl rfl (tb5 149 (by decide +kernel) rfl) (by decide +kernel))) rfl ?_
  refine lw_pv_cons (lw_of (v_aload_n (q := 2) (by decide +kernel) rfl)) rfl ?_
  refine lw_pv_cons (lw_of (v_aload_n (q := 0) (by decide +kernel) rfl)) rfl ?_
  refine lw_pv_cons (lw_of (v_iload_n (q := 3) (by decide +kernel) rfl)) rfl ?_
  refine lw_pv_cons (lw_of (v_iconst (n := 1) (by decide +kernel) rfl)) rfl ?_
  refine lw_pv_cons (lw_of (v_iadd (by decide +kernel))) rfl ?_
  refine lw_pv_cons (v_sld (by decide +kernel)) rfl ?_
  refine lw_pv_cons (lw_of (v_aload_n (q := 0) (by decide +kernel) rfl)) rfl ?_
  refine lw_pv_cons (lw_of (v_iload_n (q := 3) (by decide +kernel) rfl)) rfl ?_
  refine lw_pv_cons (lw_of (v_iconst (n := 2) (by decide +kernel) rfl)) rfl ?_
  refine lw_pv_cons (lw_of (v_iadd (by decide +kernel))) rfl ?_
  refine lw_pv_cons (v_sld (by decide +kernel)) rfl ?_
  refine lw_pv_cons (lw_of (v_aload_n (q := 0) (by decide +kernel) rfl)) rfl ?_
  refine lw_pv_cons (lw_of (v_iload_n (q := 3) (by decide +kernel) rfl)) rfl ?_
  refine lw_pv_cons (lw_of (v_iconst (n := 3) (by decide +kernel) rfl)) rfl ?_
  refine lw_pv_cons (lw_of (v_iadd (by decide +kernel))) rfl ?_
  refine lw_pv_cons (v_sld (by decide +kernel)) rfl ?_
  refine lw_pv_cons (lw_of (v_aload_n (q := 0) (by decide +kernel) rfl)) rfl ?_
  refine lw_pv_cons (lw_of (v_iload_n (q := 3) (by decide +kernel) rfl)) rfl ?_
  refine lw_pv_cons (lw_of (v_iconst (n := 4) (by decide +kernel) rfl)) rfl ?_
  refine lw_pv_cons (lw_of (v_iadd (by decide +kernel))) rfl ?_
  refine lw_pv_cons (v_sld (by decide +kernel)) rfl ?_
  refine lw_pv_cons (lw_of (v_virt (idx := 167) yv_MO_feels rfl rfl (tb7 230 (by decide +kernel) rfl) (by decide +kernel))) rfl ?_
  refine lw_pv_cons (lw_of (v_ic_eq (off := 38) (by decide +kernel) rfl)) rfl ?_
  refine lw_pv_cons (lw_of (v_iconst (n := 0) (by decide +kernel) rfl)) rfl ?_
  refine lw_pv_cons (lw_of (v_ireturn (by decide +kernel))) rfl ?_
  refine lw_pv_cons (lw_of (v_aload_n (q := 1) (by decide +kernel) rfl)) rfl ?_
  refine lw_pv_cons (lw_of (v_aload_n (q := 0) (by decide +kernel) rfl)) rfl ?_
  refine lw_pv_cons (lw_of (v_iload_n (q := 3) (by decide +kernel) rfl)) rfl ?_
  refine lw_pv_cons (lw_of (v_iconst (n := 1) (by decide +kernel) rfl)) rfl ?_
  refine lw_pv_cons (lw_of (v_iadd (by decide +kernel))) rfl ?_
  refine lw_pv_cons (v_sld (by decide +kernel)) rfl ?_
  refine lw_pv_cons (lw_of (v_aload_n (q := 0) (by decide +kernel) rfl)) rfl ?_
  refine lw_pv_cons (lw_of (v_iload_n (q := 3) (by decide +kernel) rfl)) rfl ?_
  refine lw_pv_cons (lw_of (v_iconst (n := 2) (by decide +kernel) rfl)) rfl ?_
  refine lw_pv_cons (lw_of (v_iadd (by decide +kernel))) rfl ?_
  refine lw_pv_cons (v_sld (by decide +kernel)) rfl ?_
  refine lw_pv_cons (lw_of (v_virt (idx := 168) yv_TC_taken rfl rfl (tb5 154 (by decide +kernel) rfl) (by decide +kernel))) rfl ?_
  refine lw_pv_cons (lw_of (v_aload_n (q := 2) (by decide +kernel) rfl)) rfl ?_
  refine lw_pv_cons (lw_of (v_aload_n (q := 0) (by decide +kernel) rfl)) rfl ?_
  refine lw_pv_cons (lw_of (v_iload_n (q := 3) (by decide +kernel) rfl)) rfl ?_
  refine lw_pv_cons (lw_of (v_iconst (n := 1) (by decide +kernel) rfl)) rfl ?_
  refine lw_pv_cons (lw_of (v_iadd (by decide +kernel))) rfl ?_
  refine lw_pv_cons (v_sld (by decide +kernel)) rfl ?_
  refine lw_pv_cons (lw_of (v_aload_n (q := 0) (by decide +kernel) rfl)) rfl ?_
  refine lw_pv_cons (lw_of (v_iload_n (q := 3) (by decide +kernel) rfl)) rfl ?_
  refine lw_pv_cons (lw_of (v_iconst (n := 2) (by decide +kernel) rfl)) rfl ?_
  refine lw_pv_cons (lw_of (v_iadd (by decide +kernel))) rfl ?_
  refine lw_pv_cons (v_sld (by decide +kernel)) rfl ?_
  refine lw_pv_cons (lw_of (v_virt (idx := 171) yv_MO_taken rfl rfl (tb7 235 (by decide +kernel) rfl) (by decide +kernel))) rfl ?_
  refine lw_pv_cons (lw_of (v_ic_eq (off := 5) (by decide +kernel) rfl)) rfl ?_
  refine lw_pv_cons (lw_of (v_iconst (n := 0) (by decide +kernel) rfl)) rfl ?_
  refine lw_pv_cons (lw_of (v_ireturn (by decide +kernel))) rfl ?_
  refine lw_pv_cons (lw_of (v_iinc (n := 6) (by decide +kernel) (by decide +kernel))) rfl ?_
  refine lw_pv_cons (lw_of (v_goto (off := -1276) (by decide +kernel) rfl)) rfl ?_
  refine lw_pv_cons (lw_of (v_iconst (n := 1) (by decide +kernel) rfl)) rfl ?_
  refine lw_pv_cons (lw_of (v_ireturn (by decide +kernel))) trivial ?_
  exact trivial
