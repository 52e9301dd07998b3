/-! code, by wip/gen/gen.py -/
def ev_c_216_0 : List (Nat × Instr × Nat) := [(0, .new 14, 3), (3, .dup, 1), (4, .invokespecial 206, 3), (7, .astore_n 1, 1), (8, .bipush 7, 2), (10, .newarray .int, 2), (12, .astore_n 2, 1), (13, .aload_n 0, 1), (14, .invokestatic 207, 3), (17, .astore_n 3, 1), (18, .aload_n 3, 1), (19, .invokestatic 211, 3), (22, .astore 4, 2), (24, .aload_n 1, 1), (25, .aload_n 1, 1), (26, .aload_n 2, 1), (27, .aload 4, 2), (29, .invokestatic 215, 3)]
set_option maxRecDepth 100000 in
theorem ev_d_216_0 : ∀ q ∈ ev_c_216_0, decode code q.1 = .ok (q.2.1, q.2.2) := by decide +kernel
def ev_c_216_1 : List (Nat × Instr × Nat) := [(32, .invokevirtual 219, 3), (35, .aload_n 3, 1), (36, .getfield 66, 3), (39, .invokevirtual 98, 3), (42, .if_icmp .eq 5, 3), (45, .iconst 0, 1), (46, .ireturn, 1), (47, .bipush 100, 2), (49, .newarray .long, 2), (51, .astore 5, 2), (53, .bipush 100, 2), (55, .newarray .long, 2), (57, .astore 6, 2), (59, .iconst 0, 1), (60, .istore 7, 2), (62, .iload 7, 2)]
set_option maxRecDepth 100000 in
theorem ev_d_216_1 : ∀ q ∈ ev_c_216_1, decode code q.1 = .ok (q.2.1, q.2.2) := by decide +kernel
def ev_c_216_2 : List (Nat × Instr × Nat) := [(64, .bipush 20, 2), (66, .if_icmp .ge 902, 3), (69, .aload_n 0, 1), (70, .bipush 10, 2), (72, .iload 7, 2), (74, .iadd, 1), (75, .invokestatic 28, 3), (78, .istore 8, 2), (80, .iload 8, 2), (82, .iconst 1, 1), (83, .iand, 1), (84, .istore 9, 2), (86, .iload 8, 2), (88, .iconst 5, 1), (89, .iushr, 1), (90, .bipush 15, 2), (92, .iand, 1), (93, .aload_n 1, 1), (94, .iconst 4, 1), (95, .invokevirtual 200, 3)]
set_option maxRecDepth 100000 in
theorem ev_d_216_2 : ∀ q ∈ ev_c_216_2, decode code q.1 = .ok (q.2.1, q.2.2) := by decide +kernel
def ev_c_216_3 : List (Nat × Instr × Nat) := [(98, .irem, 1), (99, .istore 10, 2), (101, .iload 8, 2), (103, .bipush 9, 2), (105, .iushr, 1), (106, .iconst 1, 1), (107, .iand, 1), (108, .aload_n 3, 1), (109, .getfield 45, 3), (112, .arraylength, 1), (113, .irem, 1), (114, .istore 11, 2), (116, .iload 8, 2), (118, .bipush 10, 2), (120, .iushr, 1), (121, .iconst 3, 1), (122, .iand, 1), (123, .istore 12, 2), (125, .iload 8, 2), (127, .bipush 12, 2)]
set_option maxRecDepth 100000 in
theorem ev_d_216_3 : ∀ q ∈ ev_c_216_3, decode code q.1 = .ok (q.2.1, q.2.2) := by decide +kernel
def ev_c_216_4 : List (Nat × Instr × Nat) := [(129, .iushr, 1), (130, .iconst 1, 1), (131, .iand, 1), (132, .aload_n 3, 1), (133, .getfield 41, 3), (136, .arraylength, 1), (137, .irem, 1), (138, .istore 13, 2), (140, .iconst 1, 1), (141, .iload 8, 2), (143, .bipush 13, 2), (145, .iushr, 1), (146, .iconst 3, 1), (147, .iand, 1), (148, .iadd, 1), (149, .istore 14, 2), (151, .aload_n 1, 1), (152, .aload 5, 2), (154, .invokestatic 222, 3), (157, .aload_n 1, 1), (158, .iload 9, 2)]
set_option maxRecDepth 100000 in
theorem ev_d_216_4 : ∀ q ∈ ev_c_216_4, decode code q.1 = .ok (q.2.1, q.2.2) := by decide +kernel
def ev_c_216_5 : List (Nat × Instr × Nat) := [(160, .invokevirtual 226, 3), (163, .i2l, 1), (164, .aload 5, 2), (166, .iconst 5, 1), (167, .laload, 1), (168, .lcmp, 1), (169, .ifCond .ne 17, 3), (172, .aload_n 1, 1), (173, .invokevirtual 203, 3), (176, .ifCond .ne 10, 3), (179, .aload_n 1, 1), (180, .invokestatic 229, 3), (183, .ifCond .ne 5, 3), (186, .iconst 0, 1), (187, .ireturn, 1), (188, .iload 8, 2), (190, .iconst 1, 1), (191, .iushr, 1)]
set_option maxRecDepth 100000 in
theorem ev_d_216_5 : ∀ q ∈ ev_c_216_5, decode code q.1 = .ok (q.2.1, q.2.2) := by decide +kernel
def ev_c_216_6 : List (Nat × Instr × Nat) := [(192, .bipush 15, 2), (194, .iand, 1), (195, .istore 15, 2), (197, .iload 15, 2), (199, .iconst 3, 1), (200, .if_icmp .ge 66, 3), (203, .aload_n 1, 1), (204, .iload 11, 2), (206, .iconst 1, 1), (207, .invokevirtual 233, 3), (210, .istore 16, 2), (212, .aload_n 1, 1), (213, .iload 10, 2), (215, .iload 11, 2), (217, .invokevirtual 235, 3), (220, .ifCond .ne 43, 3), (223, .aload_n 1, 1)]
set_option maxRecDepth 100000 in
theorem ev_d_216_6 : ∀ q ∈ ev_c_216_6, decode code q.1 = .ok (q.2.1, q.2.2) := by decide +kernel
def ev_c_216_7 : List (Nat × Instr × Nat) := [(224, .iload 10, 2), (226, .iload 11, 2), (228, .invokevirtual 238, 3), (231, .iload 16, 2), (233, .iconst 1, 1), (234, .iadd, 1), (235, .if_icmp .ne 26, 3), (238, .aload_n 1, 1), (239, .iload 11, 2), (241, .iload 16, 2), (243, .invokevirtual 240, 3), (246, .iload 10, 2), (248, .if_icmp .ne 13, 3), (251, .aload_n 1, 1), (252, .iload 10, 2), (254, .invokevirtual 243, 3)]
set_option maxRecDepth 100000 in
theorem ev_d_216_7 : ∀ q ∈ ev_c_216_7, decode code q.1 = .ok (q.2.1, q.2.2) := by decide +kernel
def ev_c_216_8 : List (Nat × Instr × Nat) := [(257, .iconst 2, 1), (258, .if_icmp .eq 5, 3), (261, .iconst 0, 1), (262, .ireturn, 1), (263, .goto 631, 3), (266, .iload 15, 2), (268, .bipush 6, 2), (270, .if_icmp .ge 103, 3), (273, .aload_n 1, 1), (274, .iload 11, 2), (276, .invokevirtual 246, 3), (279, .istore 16, 2), (281, .iload 16, 2), (283, .ifCond .ge 7, 3), (286, .iconst 0, 1), (287, .goto 11, 3)]
set_option maxRecDepth 100000 in
theorem ev_d_216_8 : ∀ q ∈ ev_c_216_8, decode code q.1 = .ok (q.2.1, q.2.2) := by decide +kernel
def ev_c_216_9 : List (Nat × Instr × Nat) := [(290, .aload_n 1, 1), (291, .iload 11, 2), (293, .iload 16, 2), (295, .invokevirtual 249, 3), (298, .istore 17, 2), (300, .aload_n 1, 1), (301, .iload 11, 2), (303, .iconst 1, 1), (304, .invokevirtual 233, 3), (307, .istore 18, 2), (309, .iload 16, 2), (311, .ifCond .lt 59, 3), (314, .aload_n 1, 1), (315, .iload 11, 2), (317, .iload 16, 2), (319, .invokevirtual 252, 3)]
set_option maxRecDepth 100000 in
theorem ev_d_216_9 : ∀ q ∈ ev_c_216_9, decode code q.1 = .ok (q.2.1, q.2.2) := by decide +kernel
def ev_c_216_10 : List (Nat × Instr × Nat) := [(322, .ifCond .ne 46, 3), (325, .aload_n 1, 1), (326, .iload 11, 2), (328, .iload 16, 2), (330, .invokevirtual 255, 3), (333, .iload 17, 2), (335, .if_icmp .ne 33, 3), (338, .aload_n 1, 1), (339, .iload 11, 2), (341, .iconst 1, 1), (342, .invokevirtual 233, 3), (345, .ifCond .ne 23, 3), (348, .aload_n 1, 1), (349, .bipush 7, 2), (351, .invokevirtual 200, 3)]
set_option maxRecDepth 100000 in
theorem ev_d_216_10 : ∀ q ∈ ev_c_216_10, decode code q.1 = .ok (q.2.1, q.2.2) := by decide +kernel
def ev_c_216_11 : List (Nat × Instr × Nat) := [(354, .i2l, 1), (355, .aload 5, 2), (357, .bipush 7, 2), (359, .laload, 1), (360, .iload 18, 2), (362, .i2l, 1), (363, .ladd, 1), (364, .lcmp, 1), (365, .ifCond .eq 5, 3), (368, .iconst 0, 1), (369, .ireturn, 1), (370, .goto 524, 3), (373, .iload 15, 2), (375, .bipush 6, 2), (377, .if_icmp .ne 57, 3), (380, .aload_n 1, 1), (381, .iload 11, 2), (383, .iload 12, 2)]
set_option maxRecDepth 100000 in
theorem ev_d_216_11 : ∀ q ∈ ev_c_216_11, decode code q.1 = .ok (q.2.1, q.2.2) := by decide +kernel
def ev_c_216_12 : List (Nat × Instr × Nat) := [(385, .invokevirtual 256, 3), (388, .istore 16, 2), (390, .iload 16, 2), (392, .ifCond .lt 39, 3), (395, .aload_n 1, 1), (396, .iload 16, 2), (398, .iload 11, 2), (400, .invokevirtual 238, 3), (403, .iconst 1, 1), (404, .if_icmp .lt 25, 3), (407, .aload_n 1, 1), (408, .iload 11, 2), (410, .iload 12, 2), (412, .invokevirtual 252, 3), (415, .ifCond .ne 14, 3)]
set_option maxRecDepth 100000 in
theorem ev_d_216_12 : ∀ q ∈ ev_c_216_12, decode code q.1 = .ok (q.2.1, q.2.2) := by decide +kernel
def ev_c_216_13 : List (Nat × Instr × Nat) := [(418, .aload_n 1, 1), (419, .iload 11, 2), (421, .iload 12, 2), (423, .invokevirtual 255, 3), (426, .ifCond .eq 5, 3), (429, .iconst 0, 1), (430, .ireturn, 1), (431, .goto 463, 3), (434, .iload 15, 2), (436, .bipush 7, 2), (438, .if_icmp .ne 59, 3), (441, .aload_n 1, 1), (442, .invokevirtual 259, 3), (445, .istore 16, 2), (447, .aload_n 1, 1)]
set_option maxRecDepth 100000 in
theorem ev_d_216_13 : ∀ q ∈ ev_c_216_13, decode code q.1 = .ok (q.2.1, q.2.2) := by decide +kernel
def ev_c_216_14 : List (Nat × Instr × Nat) := [(448, .invokevirtual 262, 3), (451, .istore 17, 2), (453, .iload 17, 2), (455, .iload 16, 2), (457, .if_icmp .gt 35, 3), (460, .aload_n 1, 1), (461, .invokevirtual 259, 3), (464, .iload 16, 2), (466, .iload 17, 2), (468, .isub, 1), (469, .if_icmp .ne 23, 3), (472, .aload_n 1, 1), (473, .bipush 9, 2), (475, .invokevirtual 200, 3), (478, .i2l, 1), (479, .aload 5, 2)]
set_option maxRecDepth 100000 in
theorem ev_d_216_14 : ∀ q ∈ ev_c_216_14, decode code q.1 = .ok (q.2.1, q.2.2) := by decide +kernel
def ev_c_216_15 : List (Nat × Instr × Nat) := [(481, .bipush 9, 2), (483, .laload, 1), (484, .iload 17, 2), (486, .i2l, 1), (487, .ladd, 1), (488, .lcmp, 1), (489, .ifCond .eq 5, 3), (492, .iconst 0, 1), (493, .ireturn, 1), (494, .goto 400, 3), (497, .iload 15, 2), (499, .bipush 10, 2), (501, .if_icmp .ge 77, 3), (504, .aload_n 1, 1), (505, .iload 14, 2), (507, .invokevirtual 265, 3), (510, .istore 16, 2)]
set_option maxRecDepth 100000 in
theorem ev_d_216_15 : ∀ q ∈ ev_c_216_15, decode code q.1 = .ok (q.2.1, q.2.2) := by decide +kernel
def ev_c_216_16 : List (Nat × Instr × Nat) := [(512, .aload_n 1, 1), (513, .iload 10, 2), (515, .invokevirtual 268, 3), (518, .istore 17, 2), (520, .aload_n 1, 1), (521, .iload 14, 2), (523, .invokevirtual 271, 3), (526, .iload 16, 2), (528, .if_icmp .ne 45, 3), (531, .aload_n 1, 1), (532, .bipush 14, 2), (534, .invokevirtual 200, 3), (537, .i2l, 1), (538, .aload 5, 2), (540, .bipush 14, 2), (542, .laload, 1), (543, .iload 16, 2)]
set_option maxRecDepth 100000 in
theorem ev_d_216_16 : ∀ q ∈ ev_c_216_16, decode code q.1 = .ok (q.2.1, q.2.2) := by decide +kernel
def ev_c_216_17 : List (Nat × Instr × Nat) := [(545, .i2l, 1), (546, .ladd, 1), (547, .lcmp, 1), (548, .ifCond .ne 25, 3), (551, .iload 17, 2), (553, .ifCond .lt 22, 3), (556, .iload 17, 2), (558, .iload 14, 2), (560, .if_icmp .gt 15, 3), (563, .aload_n 1, 1), (564, .iload 10, 2), (566, .iconst 4, 1), (567, .invokevirtual 177, 3), (570, .ifCond .eq 5, 3), (573, .iconst 0, 1), (574, .ireturn, 1), (575, .goto 319, 3)]
set_option maxRecDepth 100000 in
theorem ev_d_216_17 : ∀ q ∈ ev_c_216_17, decode code q.1 = .ok (q.2.1, q.2.2) := by decide +kernel
def ev_c_216_18 : List (Nat × Instr × Nat) := [(578, .iload 15, 2), (580, .bipush 12, 2), (582, .if_icmp .ge 104, 3), (585, .aload_n 1, 1), (586, .iload 10, 2), (588, .iload 12, 2), (590, .invokevirtual 274, 3), (593, .istore 16, 2), (595, .aload_n 1, 1), (596, .iload 10, 2), (598, .iload 12, 2), (600, .invokevirtual 277, 3), (603, .istore 17, 2), (605, .iconst 0, 1), (606, .istore 18, 2)]
set_option maxRecDepth 100000 in
theorem ev_d_216_18 : ∀ q ∈ ev_c_216_18, decode code q.1 = .ok (q.2.1, q.2.2) := by decide +kernel
def ev_c_216_19 : List (Nat × Instr × Nat) := [(608, .iload 18, 2), (610, .iload 16, 2), (612, .if_icmp .ge 49, 3), (615, .iload 17, 2), (617, .ifCond .ne 44, 3), (620, .aload_n 1, 1), (621, .iload 10, 2), (623, .iload 12, 2), (625, .invokevirtual 280, 3), (628, .ifCond .ne 7, 3), (631, .iconst 1, 1), (632, .goto 4, 3), (635, .iconst 0, 1), (636, .iload 18, 2), (638, .iload 16, 2)]
set_option maxRecDepth 100000 in
theorem ev_d_216_19 : ∀ q ∈ ev_c_216_19, decode code q.1 = .ok (q.2.1, q.2.2) := by decide +kernel
def ev_c_216_20 : List (Nat × Instr × Nat) := [(640, .iconst 1, 1), (641, .isub, 1), (642, .if_icmp .ne 7, 3), (645, .iconst 1, 1), (646, .goto 4, 3), (649, .iconst 0, 1), (650, .if_icmp .eq 5, 3), (653, .iconst 0, 1), (654, .ireturn, 1), (655, .iinc 18 1, 3), (658, .goto (-50), 3), (661, .iload 16, 2), (663, .ifCond .le 20, 3), (666, .iload 17, 2), (668, .ifCond .ne 15, 3), (671, .aload_n 1, 1)]
set_option maxRecDepth 100000 in
theorem ev_d_216_20 : ∀ q ∈ ev_c_216_20, decode code q.1 = .ok (q.2.1, q.2.2) := by decide +kernel
def ev_c_216_21 : List (Nat × Instr × Nat) := [(672, .iload 10, 2), (674, .iconst 5, 1), (675, .invokevirtual 177, 3), (678, .ifCond .eq 5, 3), (681, .iconst 0, 1), (682, .ireturn, 1), (683, .goto 211, 3), (686, .iload 15, 2), (688, .bipush 12, 2), (690, .if_icmp .ne 35, 3), (693, .aload_n 1, 1), (694, .iload 10, 2), (696, .invokevirtual 283, 3), (699, .ifCond .ne 195, 3), (702, .aload_n 1, 1), (703, .iload 10, 2)]
set_option maxRecDepth 100000 in
theorem ev_d_216_21 : ∀ q ∈ ev_c_216_21, decode code q.1 = .ok (q.2.1, q.2.2) := by decide +kernel
def ev_c_216_22 : List (Nat × Instr × Nat) := [(705, .invokevirtual 286, 3), (708, .iconst 1, 1), (709, .if_icmp .lt 14, 3), (712, .aload_n 1, 1), (713, .iload 10, 2), (715, .bipush 6, 2), (717, .invokevirtual 177, 3), (720, .ifCond .eq 174, 3), (723, .iconst 0, 1), (724, .ireturn, 1), (725, .iload 15, 2), (727, .bipush 15, 2), (729, .if_icmp .ge 118, 3), (732, .aload_n 1, 1), (733, .iload 13, 2), (735, .iconst 0, 1)]
set_option maxRecDepth 100000 in
theorem ev_d_216_22 : ∀ q ∈ ev_c_216_22, decode code q.1 = .ok (q.2.1, q.2.2) := by decide +kernel
def ev_c_216_23 : List (Nat × Instr × Nat) := [(736, .invokevirtual 289, 3), (739, .istore 16, 2), (741, .aload_n 1, 1), (742, .iload 13, 2), (744, .iconst 5, 1), (745, .invokevirtual 183, 3), (748, .ifCond .ne 27, 3), (751, .aload_n 1, 1), (752, .iload 13, 2), (754, .iconst 3, 1), (755, .invokevirtual 183, 3), (758, .ifCond .le 17, 3), (761, .aload_n 1, 1), (762, .iload 13, 2), (764, .invokevirtual 292, 3), (767, .iconst (-1), 1)]
set_option maxRecDepth 100000 in
theorem ev_d_216_23 : ∀ q ∈ ev_c_216_23, decode code q.1 = .ok (q.2.1, q.2.2) := by decide +kernel
def ev_c_216_24 : List (Nat × Instr × Nat) := [(768, .if_icmp .ne 7, 3), (771, .iconst 1, 1), (772, .goto 4, 3), (775, .iconst 0, 1), (776, .istore 17, 2), (778, .iload 17, 2), (780, .ifCond .eq 64, 3), (783, .aload_n 1, 1), (784, .iload 13, 2), (786, .iconst 4, 1), (787, .invokevirtual 183, 3), (790, .aload_n 1, 1), (791, .iload 13, 2), (793, .iconst 3, 1), (794, .invokevirtual 183, 3), (797, .if_icmp .ne 45, 3)]
set_option maxRecDepth 100000 in
theorem ev_d_216_24 : ∀ q ∈ ev_c_216_24, decode code q.1 = .ok (q.2.1, q.2.2) := by decide +kernel
def ev_c_216_25 : List (Nat × Instr × Nat) := [(800, .aload_n 1, 1), (801, .iload 13, 2), (803, .invokevirtual 295, 3), (806, .iload 16, 2), (808, .if_icmp .ne 34, 3), (811, .aload_n 1, 1), (812, .bipush 11, 2), (814, .invokevirtual 200, 3), (817, .i2l, 1), (818, .aload 5, 2), (820, .bipush 11, 2), (822, .laload, 1), (823, .iload 16, 2), (825, .i2l, 1), (826, .ladd, 1), (827, .lcmp, 1), (828, .ifCond .ne 14, 3), (831, .aload_n 1, 1)]
set_option maxRecDepth 100000 in
theorem ev_d_216_25 : ∀ q ∈ ev_c_216_25, decode code q.1 = .ok (q.2.1, q.2.2) := by decide +kernel
def ev_c_216_26 : List (Nat × Instr × Nat) := [(832, .iload 13, 2), (834, .iconst 5, 1), (835, .invokevirtual 183, 3), (838, .iconst 1, 1), (839, .if_icmp .eq 5, 3), (842, .iconst 0, 1), (843, .ireturn, 1), (844, .goto 50, 3), (847, .iload 14, 2), (849, .iconst 3, 1), (850, .imul, 1), (851, .iconst 3, 1), (852, .isub, 1), (853, .istore 16, 2), (855, .aload_n 1, 1), (856, .iload 10, 2), (858, .iload 16, 2), (860, .invokevirtual 298, 3), (863, .istore 17, 2)]
set_option maxRecDepth 100000 in
theorem ev_d_216_26 : ∀ q ∈ ev_c_216_26, decode code q.1 = .ok (q.2.1, q.2.2) := by decide +kernel
def ev_c_216_27 : List (Nat × Instr × Nat) := [(865, .aload_n 1, 1), (866, .iload 16, 2), (868, .invokevirtual 301, 3), (871, .i2l, 1), (872, .aload 5, 2), (874, .bipush 6, 2), (876, .laload, 1), (877, .lcmp, 1), (878, .ifCond .ne 14, 3), (881, .aload_n 1, 1), (882, .iload 10, 2), (884, .invokevirtual 268, 3), (887, .iload 17, 2), (889, .if_icmp .eq 5, 3), (892, .iconst 0, 1), (893, .ireturn, 1), (894, .aload_n 1, 1), (895, .invokevirtual 203, 3)]
set_option maxRecDepth 100000 in
theorem ev_d_216_27 : ∀ q ∈ ev_c_216_27, decode code q.1 = .ok (q.2.1, q.2.2) := by decide +kernel
def ev_c_216_28 : List (Nat × Instr × Nat) := [(898, .ifCond .ne 10, 3), (901, .aload_n 1, 1), (902, .invokestatic 229, 3), (905, .ifCond .ne 5, 3), (908, .iconst 0, 1), (909, .ireturn, 1), (910, .iload 8, 2), (912, .bipush 25, 2), (914, .iushr, 1), (915, .iconst 3, 1), (916, .iand, 1), (917, .ifCond .ne 45, 3), (920, .aload_n 1, 1), (921, .iload 9, 2), (923, .invokevirtual 304, 3), (926, .i2l, 1), (927, .aload 5, 2)]
set_option maxRecDepth 100000 in
theorem ev_d_216_28 : ∀ q ∈ ev_c_216_28, decode code q.1 = .ok (q.2.1, q.2.2) := by decide +kernel
def ev_c_216_29 : List (Nat × Instr × Nat) := [(929, .iconst 5, 1), (930, .laload, 1), (931, .lcmp, 1), (932, .ifCond .ne 10, 3), (935, .aload_n 1, 1), (936, .invokevirtual 307, 3), (939, .ifCond .eq 5, 3), (942, .iconst 0, 1), (943, .ireturn, 1), (944, .aload_n 1, 1), (945, .aload 6, 2), (947, .invokestatic 222, 3), (950, .aload 5, 2), (952, .aload 6, 2), (954, .invokestatic 310, 3), (957, .ifCond .ne 5, 3)]
set_option maxRecDepth 100000 in
theorem ev_d_216_29 : ∀ q ∈ ev_c_216_29, decode code q.1 = .ok (q.2.1, q.2.2) := by decide +kernel
def ev_c_216_30 : List (Nat × Instr × Nat) := [(960, .iconst 0, 1), (961, .ireturn, 1), (962, .iinc 7 1, 3), (965, .goto (-903), 3), (968, .aload_n 1, 1), (969, .invokevirtual 203, 3), (972, .ifCond .ne 7, 3), (975, .iconst 1, 1), (976, .goto 4, 3), (979, .iconst 0, 1), (980, .ireturn, 1)]
set_option maxRecDepth 100000 in
theorem ev_d_216_30 : ∀ q ∈ ev_c_216_30, decode code q.1 = .ok (q.2.1, q.2.2) := by decide +kernel
def ev_c_216 : List (Nat × List (Nat × Instr × Nat)) := [(0, ev_c_216_0), (1, ev_c_216_1), (2, ev_c_216_2), (3, ev_c_216_3), (4, ev_c_216_4), (5, ev_c_216_5), (6, ev_c_216_6), (7, ev_c_216_7), (8, ev_c_216_8), (9, ev_c_216_9), (10, ev_c_216_10), (11, ev_c_216_11), (12, ev_c_216_12), (13, ev_c_216_13), (14, ev_c_216_14), (15, ev_c_216_15), (16, ev_c_216_16), (17, ev_c_216_17), (18, ev_c_216_18), (19, ev_c_216_19), (20, ev_c_216_20), (21, ev_c_216_21), (22, ev_c_216_22), (23, ev_c_216_23), (24, ev_c_216_24), (25, ev_c_216_25), (26, ev_c_216_26), (27, ev_c_216_27), (28, ev_c_216_28), (29, ev_c_216_29), (30, ev_c_216_30)]
set_option maxRecDepth 100000 in
theorem ev_d_216 : ∀ q ∈ ev_c_216, ∀ z ∈ q.2, decode code z.1 = .ok (z.2.1, z.2.2) := List.forall_mem_cons.mpr ⟨ev_d_216_0, List.forall_mem_cons.mpr ⟨ev_d_216_1, List.forall_mem_cons.mpr ⟨ev_d_216_2, List.forall_mem_cons.mpr ⟨ev_d_216_3, List.forall_mem_cons.mpr ⟨ev_d_216_4, List.forall_mem_cons.mpr ⟨ev_d_216_5, List.forall_mem_cons.mpr ⟨ev_d_216_6, List.forall_mem_cons.mpr ⟨ev_d_216_7, List.forall_mem_cons.mpr ⟨ev_d_216_8, List.forall_mem_cons.mpr ⟨ev_d_216_9, List.forall_mem_cons.mpr ⟨ev_d_216_10, List.forall_mem_cons.mpr ⟨ev_d_216_11, List.forall_mem_cons.mpr ⟨ev_d_216_12, List.forall_mem_cons.mpr ⟨ev_d_216_13, List.forall_mem_cons.mpr ⟨ev_d_216_14, List.forall_mem_cons.mpr ⟨ev_d_216_15, List.forall_mem_cons.mpr ⟨ev_d_216_16, List.forall_mem_cons.mpr ⟨ev_d_216_17, List.forall_mem_cons.mpr ⟨ev_d_216_18, List.forall_mem_cons.mpr ⟨ev_d_216_19, List.forall_mem_cons.mpr ⟨ev_d_216_20, List.forall_mem_cons.mpr ⟨ev_d_216_21, List.forall_mem_cons.mpr ⟨ev_d_216_22, List.forall_mem_cons.mpr ⟨ev_d_216_23, List.forall_mem_cons.mpr ⟨ev_d_216_24, List.forall_mem_cons.mpr ⟨ev_d_216_25, List.forall_mem_cons.mpr ⟨ev_d_216_26, List.forall_mem_cons.mpr ⟨ev_d_216_27, List.forall_mem_cons.mpr ⟨ev_d_216_28, List.forall_mem_cons.mpr ⟨ev_d_216_29, List.forall_mem_cons.mpr ⟨ev_d_216_30, fun _ h => absurd h List.not_mem_nil⟩⟩⟩⟩⟩⟩⟩⟩⟩⟩⟩⟩⟩⟩⟩⟩⟩⟩⟩⟩⟩⟩⟩⟩⟩⟩⟩⟩⟩⟩⟩
