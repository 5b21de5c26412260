/-! THE LAW: the cases of its loop (written by wip/whole/gen_law.py) -/
def tlawh : List (Nat × Instr × Nat) := [(0, .new 8, 3), (3, .dup, 1), (4, .invokespecial 63, 3), (7, .astore_n 1, 1), (8, .new 64, 3), (11, .dup, 1), (12, .invokespecial 66, 3), (15, .astore_n 2, 1), (16, .iconst 1, 1), (17, .newarray .long, 2), (19, .astore_n 3, 1), (20, .iconst 0, 1), (21, .istore 4, 2), (23, .iload 4, 2), (25, .aload_n 0, 1), (26, .arraylength, 1), (27, .bipush 6, 2), (29, .isub, 1), (30, .if_icmp .gt (919), 3), (33, .aload_n 0, 1), (34, .iload 4, 2), (36, .iaload, 1), (37, .bipush 15, 2), (39, .iand, 1), (40, .tableswitch 903 0 11 #[64, 168, 224, 280, 336, 428, 496, 564, 632, 700, 780, 847], 64), (943, .iinc 4 6, 3), (946, .goto (-923), 3), (949, .iconst 1, 1), (950, .ireturn, 1)]
set_option maxRecDepth 100000 in
theorem dlawh : q_ckc code tlawh = true := by decide +kernel
def tlaw0 : List (Nat × Instr × Nat) := [(104, .aload_n 1, 1), (105, .aload_n 0, 1), (106, .iload 4, 2), (108, .iconst 1, 1), (109, .iadd, 1), (110, .iaload, 1), (111, .aload_n 0, 1), (112, .iload 4, 2), (114, .iconst 2, 1), (115, .iadd, 1), (116, .iaload, 1), (117, .aload_n 0, 1), (118, .iload 4, 2), (120, .iconst 3, 1), (121, .iadd, 1), (122, .iaload, 1), (123, .aload_n 0, 1), (124, .iload 4, 2), (126, .iconst 4, 1), (127, .iadd, 1), (128, .iaload, 1), (129, .aload_n 0, 1), (130, .iload 4, 2), (132, .iconst 5, 1), (133, .iadd, 1), (134, .iaload, 1), (135, .aload_n 3, 1), (136, .invokestatic 67, 3), (139, .istore 5, 2), (141, .aload_n 2, 1), (142, .aload_n 0, 1), (143, .iload 4, 2), (145, .iconst 1, 1), (146, .iadd, 1), (147, .iaload, 1), (148, .aload_n 0, 1), (149, .iload 4, 2), (151, .iconst 2, 1), (152, .iadd, 1), (153, .iaload, 1), (154, .aload_n 0, 1), (155, .iload 4, 2), (157, .iconst 3, 1), (158, .iadd, 1), (159, .iaload, 1), (160, .aload_n 0, 1), (161, .iload 4, 2), (163, .iconst 4, 1), (164, .iadd, 1), (165, .iaload, 1), (166, .aload_n 0, 1), (167, .iload 4, 2), (169, .iconst 5, 1), (170, .iadd, 1), (171, .iaload, 1), (172, .invokevirtual 72, 3), (175, .istore 6, 2), (177, .aload_n 2, 1), (178, .invokevirtual 73, 3), (181, .iload 5, 2), (183, .if_icmp .eq (5), 3), (186, .iconst 0, 1), (187, .ireturn, 1), (188, .iload 5, 2), (190, .ifCond .ne (15), 3), (193, .aload_n 3, 1), (194, .iconst 0, 1), (195, .laload, 1), (196, .iload 6, 2), (198, .i2l, 1), (199, .lcmp, 1), (200, .ifCond .eq (5), 3), (203, .iconst 0, 1), (204, .ireturn, 1), (205, .goto (738), 3)]
set_option maxRecDepth 100000 in
theorem dlaw0 : q_ckc code tlaw0 = true := by decide +kernel
def tlaw1 : List (Nat × Instr × Nat) := [(208, .aload_n 1, 1), (209, .aload_n 0, 1), (210, .iload 4, 2), (212, .iconst 1, 1), (213, .iadd, 1), (214, .iaload, 1), (215, .aload_n 3, 1), (216, .invokestatic 77, 3), (219, .istore 5, 2), (221, .aload_n 2, 1), (222, .aload_n 0, 1), (223, .iload 4, 2), (225, .iconst 1, 1), (226, .iadd, 1), (227, .iaload, 1), (228, .invokevirtual 80, 3), (231, .istore 6, 2), (233, .aload_n 2, 1), (234, .invokevirtual 73, 3), (237, .iload 5, 2), (239, .if_icmp .eq (5), 3), (242, .iconst 0, 1), (243, .ireturn, 1), (244, .iload 5, 2), (246, .ifCond .ne (15), 3), (249, .aload_n 3, 1), (250, .iconst 0, 1), (251, .laload, 1), (252, .iload 6, 2), (254, .i2l, 1), (255, .lcmp, 1), (256, .ifCond .eq (5), 3), (259, .iconst 0, 1), (260, .ireturn, 1), (261, .goto (682), 3)]
set_option maxRecDepth 100000 in
theorem dlaw1 : q_ckc code tlaw1 = true := by decide +kernel
def tlaw2 : List (Nat × Instr × Nat) := [(264, .aload_n 1, 1), (265, .aload_n 0, 1), (266, .iload 4, 2), (268, .iconst 1, 1), (269, .iadd, 1), (270, .iaload, 1), (271, .aload_n 3, 1), (272, .invokestatic 81, 3), (275, .istore 5, 2), (277, .aload_n 2, 1), (278, .aload_n 0, 1), (279, .iload 4, 2), (281, .iconst 1, 1), (282, .iadd, 1), (283, .iaload, 1), (284, .invokevirtual 83, 3), (287, .istore 6, 2), (289, .aload_n 2, 1), (290, .invokevirtual 73, 3), (293, .iload 5, 2), (295, .if_icmp .eq (5), 3), (298, .iconst 0, 1), (299, .ireturn, 1), (300, .iload 5, 2), (302, .ifCond .ne (15), 3), (305, .aload_n 3, 1), (306, .iconst 0, 1), (307, .laload, 1), (308, .iload 6, 2), (310, .i2l, 1), (311, .lcmp, 1), (312, .ifCond .eq (5), 3), (315, .iconst 0, 1), (316, .ireturn, 1), (317, .goto (626), 3)]
set_option maxRecDepth 100000 in
theorem dlaw2 : q_ckc code tlaw2 = true := by decide +kernel
def tlaw3 : List (Nat × Instr × Nat) := [(320, .aload_n 1, 1), (321, .aload_n 0, 1), (322, .iload 4, 2), (324, .iconst 1, 1), (325, .iadd, 1), (326, .iaload, 1), (327, .aload_n 3, 1), (328, .invokestatic 84, 3), (331, .istore 5, 2), (333, .aload_n 2, 1), (334, .aload_n 0, 1), (335, .iload 4, 2), (337, .iconst 1, 1), (338, .iadd, 1), (339, .iaload, 1), (340, .invokevirtual 86, 3), (343, .istore 6, 2), (345, .aload_n 2, 1), (346, .invokevirtual 73, 3), (349, .iload 5, 2), (351, .if_icmp .eq (5), 3), (354, .iconst 0, 1), (355, .ireturn, 1), (356, .iload 5, 2), (358, .ifCond .ne (15), 3), (361, .aload_n 3, 1), (362, .iconst 0, 1), (363, .laload, 1), (364, .iload 6, 2), (366, .i2l, 1), (367, .lcmp, 1), (368, .ifCond .eq (5), 3), (371, .iconst 0, 1), (372, .ireturn, 1), (373, .goto (570), 3)]
set_option maxRecDepth 100000 in
theorem dlaw3 : q_ckc code tlaw3 = true := by decide +kernel
def tlaw4 : List (Nat × Instr × Nat) := [(376, .aload_n 1, 1), (377, .aload_n 0, 1), (378, .iload 4, 2), (380, .iconst 1, 1), (381, .iadd, 1), (382, .iaload, 1), (383, .aload_n 0, 1), (384, .iload 4, 2), (386, .iconst 2, 1), (387, .iadd, 1), (388, .iaload, 1), (389, .aload_n 0, 1), (390, .iload 4, 2), (392, .iconst 3, 1), (393, .iadd, 1), (394, .iaload, 1), (395, .aload_n 0, 1), (396, .iload 4, 2), (398, .iconst 4, 1), (399, .iadd, 1), (400, .iaload, 1), (401, .aload_n 3, 1), (402, .invokestatic 87, 3), (405, .istore 5, 2), (407, .aload_n 2, 1), (408, .aload_n 0, 1), (409, .iload 4, 2), (411, .iconst 1, 1), (412, .iadd, 1), (413, .iaload, 1), (414, .aload_n 0, 1), (415, .iload 4, 2), (417, .iconst 2, 1), (418, .iadd, 1), (419, .iaload, 1), (420, .aload_n 0, 1), (421, .iload 4, 2), (423, .iconst 3, 1), (424, .iadd, 1), (425, .iaload, 1), (426, .aload_n 0, 1), (427, .iload 4, 2), (429, .iconst 4, 1), (430, .iadd, 1), (431, .iaload, 1), (432, .invokevirtual 90, 3), (435, .istore 6, 2), (437, .aload_n 2, 1), (438, .invokevirtual 73, 3), (441, .iload 5, 2), (443, .if_icmp .eq (5), 3), (446, .iconst 0, 1), (447, .ireturn, 1), (448, .iload 5, 2), (450, .ifCond .ne (15), 3), (453, .aload_n 3, 1), (454, .iconst 0, 1), (455, .laload, 1), (456, .iload 6, 2), (458, .i2l, 1), (459, .lcmp, 1), (460, .ifCond .eq (5), 3), (463, .iconst 0, 1), (464, .ireturn, 1), (465, .goto (478), 3)]
set_option maxRecDepth 100000 in
theorem dlaw4 : q_ckc code tlaw4 = true := by decide +kernel
def tlaw5 : List (Nat × Instr × Nat) := [(468, .aload_n 1, 1), (469, .aload_n 0, 1), (470, .iload 4, 2), (472, .iconst 1, 1), (473, .iadd, 1), (474, .iaload, 1), (475, .aload_n 0, 1), (476, .iload 4, 2), (478, .iconst 2, 1), (479, .iadd, 1), (480, .iaload, 1), (481, .aload_n 3, 1), (482, .invokestatic 91, 3), (485, .istore 5, 2), (487, .aload_n 2, 1), (488, .aload_n 0, 1), (489, .iload 4, 2), (491, .iconst 1, 1), (492, .iadd, 1), (493, .iaload, 1), (494, .aload_n 0, 1), (495, .iload 4, 2), (497, .iconst 2, 1), (498, .iadd, 1), (499, .iaload, 1), (500, .invokevirtual 94, 3), (503, .istore 6, 2), (505, .aload_n 2, 1), (506, .invokevirtual 73, 3), (509, .iload 5, 2), (511, .if_icmp .eq (5), 3), (514, .iconst 0, 1), (515, .ireturn, 1), (516, .iload 5, 2), (518, .ifCond .ne (15), 3), (521, .aload_n 3, 1), (522, .iconst 0, 1), (523, .laload, 1), (524, .iload 6, 2), (526, .i2l, 1), (527, .lcmp, 1), (528, .ifCond .eq (5), 3), (531, .iconst 0, 1), (532, .ireturn, 1), (533, .goto (410), 3)]
set_option maxRecDepth 100000 in
theorem dlaw5 : q_ckc code tlaw5 = true := by decide +kernel
def tlaw6 : List (Nat × Instr × Nat) := [(536, .aload_n 1, 1), (537, .aload_n 0, 1), (538, .iload 4, 2), (540, .iconst 1, 1), (541, .iadd, 1), (542, .iaload, 1), (543, .aload_n 0, 1), (544, .iload 4, 2), (546, .iconst 2, 1), (547, .iadd, 1), (548, .iaload, 1), (549, .aload_n 3, 1), (550, .invokestatic 95, 3), (553, .istore 5, 2), (555, .aload_n 2, 1), (556, .aload_n 0, 1), (557, .iload 4, 2), (559, .iconst 1, 1), (560, .iadd, 1), (561, .iaload, 1), (562, .aload_n 0, 1), (563, .iload 4, 2), (565, .iconst 2, 1), (566, .iadd, 1), (567, .iaload, 1), (568, .invokevirtual 97, 3), (571, .istore 6, 2), (573, .aload_n 2, 1), (574, .invokevirtual 73, 3), (577, .iload 5, 2), (579, .if_icmp .eq (5), 3), (582, .iconst 0, 1), (583, .ireturn, 1), (584, .iload 5, 2), (586, .ifCond .ne (15), 3), (589, .aload_n 3, 1), (590, .iconst 0, 1), (591, .laload, 1), (592, .iload 6, 2), (594, .i2l, 1), (595, .lcmp, 1), (596, .ifCond .eq (5), 3), (599, .iconst 0, 1), (600, .ireturn, 1), (601, .goto (342), 3)]
set_option maxRecDepth 100000 in
theorem dlaw6 : q_ckc code tlaw6 = true := by decide +kernel
def tlaw7 : List (Nat × Instr × Nat) := [(604, .aload_n 1, 1), (605, .aload_n 0, 1), (606, .iload 4, 2), (608, .iconst 1, 1), (609, .iadd, 1), (610, .iaload, 1), (611, .aload_n 0, 1), (612, .iload 4, 2), (614, .iconst 2, 1), (615, .iadd, 1), (616, .iaload, 1), (617, .aload_n 3, 1), (618, .invokestatic 98, 3), (621, .istore 5, 2), (623, .aload_n 2, 1), (624, .aload_n 0, 1), (625, .iload 4, 2), (627, .iconst 1, 1), (628, .iadd, 1), (629, .iaload, 1), (630, .aload_n 0, 1), (631, .iload 4, 2), (633, .iconst 2, 1), (634, .iadd, 1), (635, .iaload, 1), (636, .invokevirtual 100, 3), (639, .istore 6, 2), (641, .aload_n 2, 1), (642, .invokevirtual 73, 3), (645, .iload 5, 2), (647, .if_icmp .eq (5), 3), (650, .iconst 0, 1), (651, .ireturn, 1), (652, .iload 5, 2), (654, .ifCond .ne (15), 3), (657, .aload_n 3, 1), (658, .iconst 0, 1), (659, .laload, 1), (660, .iload 6, 2), (662, .i2l, 1), (663, .lcmp, 1), (664, .ifCond .eq (5), 3), (667, .iconst 0, 1), (668, .ireturn, 1), (669, .goto (274), 3)]
set_option maxRecDepth 100000 in
theorem dlaw7 : q_ckc code tlaw7 = true := by decide +kernel
def tlaw8 : List (Nat × Instr × Nat) := [(672, .aload_n 1, 1), (673, .aload_n 0, 1), (674, .iload 4, 2), (676, .iconst 1, 1), (677, .iadd, 1), (678, .iaload, 1), (679, .aload_n 0, 1), (680, .iload 4, 2), (682, .iconst 2, 1), (683, .iadd, 1), (684, .iaload, 1), (685, .aload_n 3, 1), (686, .invokestatic 101, 3), (689, .istore 5, 2), (691, .aload_n 2, 1), (692, .aload_n 0, 1), (693, .iload 4, 2), (695, .iconst 1, 1), (696, .iadd, 1), (697, .iaload, 1), (698, .aload_n 0, 1), (699, .iload 4, 2), (701, .iconst 2, 1), (702, .iadd, 1), (703, .iaload, 1), (704, .invokevirtual 103, 3), (707, .istore 6, 2), (709, .aload_n 2, 1), (710, .invokevirtual 73, 3), (713, .iload 5, 2), (715, .if_icmp .eq (5), 3), (718, .iconst 0, 1), (719, .ireturn, 1), (720, .iload 5, 2), (722, .ifCond .ne (15), 3), (725, .aload_n 3, 1), (726, .iconst 0, 1), (727, .laload, 1), (728, .iload 6, 2), (730, .i2l, 1), (731, .lcmp, 1), (732, .ifCond .eq (5), 3), (735, .iconst 0, 1), (736, .ireturn, 1), (737, .goto (206), 3)]
set_option maxRecDepth 100000 in
theorem dlaw8 : q_ckc code tlaw8 = true := by decide +kernel
def tlaw9 : List (Nat × Instr × Nat) := [(740, .aload_n 1, 1), (741, .aload_n 0, 1), (742, .iload 4, 2), (744, .iconst 1, 1), (745, .iadd, 1), (746, .iaload, 1), (747, .aload_n 0, 1), (748, .iload 4, 2), (750, .iconst 2, 1), (751, .iadd, 1), (752, .iaload, 1), (753, .aload_n 0, 1), (754, .iload 4, 2), (756, .iconst 3, 1), (757, .iadd, 1), (758, .iaload, 1), (759, .aload_n 3, 1), (760, .invokestatic 104, 3), (763, .istore 5, 2), (765, .aload_n 2, 1), (766, .aload_n 0, 1), (767, .iload 4, 2), (769, .iconst 1, 1), (770, .iadd, 1), (771, .iaload, 1), (772, .aload_n 0, 1), (773, .iload 4, 2), (775, .iconst 2, 1), (776, .iadd, 1), (777, .iaload, 1), (778, .aload_n 0, 1), (779, .iload 4, 2), (781, .iconst 3, 1), (782, .iadd, 1), (783, .iaload, 1), (784, .invokevirtual 107, 3), (787, .istore 6, 2), (789, .aload_n 2, 1), (790, .invokevirtual 73, 3), (793, .iload 5, 2), (795, .if_icmp .eq (5), 3), (798, .iconst 0, 1), (799, .ireturn, 1), (800, .iload 5, 2), (802, .ifCond .ne (15), 3), (805, .aload_n 3, 1), (806, .iconst 0, 1), (807, .laload, 1), (808, .iload 6, 2), (810, .i2l, 1), (811, .lcmp, 1), (812, .ifCond .eq (5), 3), (815, .iconst 0, 1), (816, .ireturn, 1), (817, .goto (126), 3)]
set_option maxRecDepth 100000 in
theorem dlaw9 : q_ckc code tlaw9 = true := by decide +kernel
def tlaw10 : List (Nat × Instr × Nat) := [(820, .aload_n 1, 1), (821, .aload_n 0, 1), (822, .iload 4, 2), (824, .iconst 1, 1), (825, .iadd, 1), (826, .iaload, 1), (827, .aload_n 0, 1), (828, .iload 4, 2), (830, .iconst 2, 1), (831, .iadd, 1), (832, .iaload, 1), (833, .aload_n 3, 1), (834, .invokestatic 108, 3), (837, .istore 5, 2), (839, .aload_n 2, 1), (840, .aload_n 0, 1), (841, .iload 4, 2), (843, .iconst 1, 1), (844, .iadd, 1), (845, .iaload, 1), (846, .aload_n 0, 1), (847, .iload 4, 2), (849, .iconst 2, 1), (850, .iadd, 1), (851, .iaload, 1), (852, .invokevirtual 110, 3), (855, .lstore 6, 2), (857, .aload_n 2, 1), (858, .invokevirtual 73, 3), (861, .iload 5, 2), (863, .if_icmp .eq (5), 3), (866, .iconst 0, 1), (867, .ireturn, 1), (868, .iload 5, 2), (870, .ifCond .ne (14), 3), (873, .aload_n 3, 1), (874, .iconst 0, 1), (875, .laload, 1), (876, .lload 6, 2), (878, .lcmp, 1), (879, .ifCond .eq (5), 3), (882, .iconst 0, 1), (883, .ireturn, 1), (884, .goto (59), 3)]
set_option maxRecDepth 100000 in
theorem dlaw10 : q_ckc code tlaw10 = true := by decide +kernel
def tlaw11 : List (Nat × Instr × Nat) := [(887, .aload_n 1, 1), (888, .aload_n 0, 1), (889, .iload 4, 2), (891, .iconst 1, 1), (892, .iadd, 1), (893, .iaload, 1), (894, .aload_n 3, 1), (895, .invokestatic 111, 3), (898, .istore 5, 2), (900, .aload_n 2, 1), (901, .aload_n 0, 1), (902, .iload 4, 2), (904, .iconst 1, 1), (905, .iadd, 1), (906, .iaload, 1), (907, .invokevirtual 113, 3), (910, .istore 6, 2), (912, .aload_n 2, 1), (913, .invokevirtual 73, 3), (916, .iload 5, 2), (918, .if_icmp .eq (5), 3), (921, .iconst 0, 1), (922, .ireturn, 1), (923, .iload 5, 2), (925, .ifCond .ne (15), 3), (928, .aload_n 3, 1), (929, .iconst 0, 1), (930, .laload, 1), (931, .iload 6, 2), (933, .i2l, 1), (934, .lcmp, 1), (935, .ifCond .eq (5), 3), (938, .iconst 0, 1), (939, .ireturn, 1), (940, .goto (3), 3)]
set_option maxRecDepth 100000 in
theorem dlaw11 : q_ckc code tlaw11 = true := by decide +kernel
def X (xs : Nat → Int32) (z : Int) : Int := (xs z.toNat).toInt
theorem X_R (xs : Nat → Int32) (z : Int) : R32 (X xs z) := by
  have h1 := Int32.le_toInt (xs z.toNat)
  have h2 := Int32.toInt_lt (xs z.toNat)
  unfold R32 X
  constructor <;> omega
section LW5
variable {d pc L : Nat} {xs : Nat → Int32} {h : qH} {Lo : List (Option Value)} {B : qB}
theorem m_scr {own : Nat} {ini : Bool} {z : Int} {r : List Value} (hs : h.1 1000000001 = some (.inl (1, L, fun j => .int (xs j)))) (z0 : 0 ≤ z) (z1 : z < L) (hL : L ≤ 3072) : q_mem own ini .iaload (iv z :: .ref 1000000001 :: r) h = some (iv (X xs z) :: r, h) := by
  have hi := idx_ok z0 z1 (by omega)
  have e : (Int32.ofInt z).toNatClampNeg = z.toNat := by have := hi.2; omega
  show (match h.1 1000000001 with
    | some (.inl (t, n, f)) => if (t == 1) = true ∧ q_idx (Int32.ofInt z) n = true then some (f (Int32.ofInt z).toNatClampNeg :: r, h) else none
    | _ => none) = _
  rw [hs]
  dsimp only
  rw [if_pos ⟨rfl, hi.1⟩, e]
  unfold X
  rw [iv_toInt]
theorem m_len {own : Nat} {ini : Bool} {r : List Value} (hs : h.1 1000000001 = some (.inl (1, L, fun j => .int (xs j)))) : q_mem own ini .arraylength (.ref 1000000001 :: r) h = some (.int (nI L) :: r, h) := by
  show q_alen (.ref 1000000001 :: r) h = _
  unfold q_alen
  dsimp only
  rw [hs]
  rfl
theorem m_lald {own : Nat} {ini : Bool} {r : List Value} {f : Nat → Value} {out : Int64} (ho : h.1 159 = some (.inl (2, 1, f))) (hf : f 0 = .long out) : q_mem own ini .laload (iv 0 :: .ref 159 :: r) h = some (.long out :: r, h) := by
  show (match h.1 159 with
    | some (.inl (t, n, f)) => if (t == 2) = true ∧ q_idx (Int32.ofInt 0) n = true then some (f (Int32.ofInt 0).toNatClampNeg :: r, h) else none
    | _ => none) = _
  rw [ho]
  dsimp only
  rw [if_pos ⟨rfl, by decide⟩]
  show some (f 0 :: r, h) = _
  rw [hf]
theorem o_lc0 {x y : Int64} {r : List Value} (e : x = y) : q_op .lcmp (.long y :: .long x :: r) = some (iv 0 :: r) := by
  subst e
  show some (.int (lg_cmp x x) :: r) = _
  have : lg_cmp x x = 0 := by
    unfold lg_cmp
    simp
  rw [this]
  rfl
theorem cN_ne {z : Int} (q : cN .ne z 0) : z = 0 := q
theorem v_wk {L' : List (Option Value)} {st : List Value} (w : qV d pc L' st h) (hl : lw L' Lo) : qV d pc Lo st h := by
  obtain ⟨N, F, h', h1, h2⟩ := w
  exact ⟨N, F, h', fun env he => h1 env (fun i v q => he i v (lw_at hl i v q)), h2⟩
theorem v_wrapU {k idx n np : Nat} {as r : List Value} (hd : decode qML.2.2.1 pc = .ok (.invokestatic idx, 3)) (h1 : q_mm 12 idx = none ∧ q_cpy 12 idx = false ∧ q_mth 12 idx = none) (hw : q_wl idx = some k) (hlen : as.length = np) (hnp : (q_wm k).1.2.2.2.2.2.1 = np) (hs1 : (lg_sl as).length ≤ (q_wm k).1.2.2.2.1) (hs2 : (q_wm k).1.2.2.2.1 ≤ 80) (hs3 : (r.map fun v => v.category).sum ≤ 8) (hcat : as.all (fun v => v.category == 1) = true) (x : qU d (q_wm k) 0 (as.map some ++ List.replicate n none) [] h (fun v h' => qV d (pc + 3) Lo (v.toList ++ r) h')) : qV d pc Lo (as.reverse ++ r) h := by
  obtain ⟨N, F, v, h', hr, hx⟩ := x
  have hl2 : as.reverse.length = (q_wm k).1.2.2.2.2.2.1 := by rw [List.length_reverse, hlen, hnp]
  have ht : ((as.reverse ++ r).take (q_wm k).1.2.2.2.2.2.1).reverse = as := by rw [List.take_left' hl2, List.reverse_reverse]
  have hdr : (as.reverse ++ r).drop (q_wm k).1.2.2.2.2.2.1 = r := List.drop_left' hl2
  refine v_wrap (v := v) (h' := h') hd ?_ ?_ hw ⟨by rw [List.length_append, hl2]; omega, by rw [ht]; exact hs1, hs2, by rw [hdr]; exact hs3⟩ ⟨N, F, ?_⟩ (by rw [hdr]; exact hx)
  · unfold q_mem
    dsimp only
    rw [h1.1]
    dsimp only
    rw [h1.2.1]
    exact if_neg (by decide)
  · unfold q_inv
    dsimp only
    rw [h1.2.2]
  · rw [ht]
    exact hr _ (fun i v q => by
      have := EL_args as 0 n (fun v hv => by simpa using List.all_eq_true.mp hcat v hv) i v q
      rwa [Nat.zero_add] at this)
theorem v_virtM {k' idx np nL n : Nat} {as r : List Value} (hm : h = hM 112 h B) (hd : decode qML.2.2.1 pc = .ok (.invokevirtual idx, 3)) (hmt : q_mth 12 idx = some k') (hk : (q_ms k').1 = 0 ∧ (q_ms k').2.1 = 11 ∧ (q_ms k').2.2.2.2.2.1 = np) (hlen : as.length = np) (hN : (q_ms k').2.2.2.1 = nL) (hs1 : Nat.ble (lg_sl (.ref 112 :: as)).length nL = true) (hs2 : Nat.ble nL 80 = true) (hs3 : Nat.ble (r.map fun v => v.category).sum 8 = true) (hcat : as.all (fun v => v.category == 1) = true) (x : qZ 112 h d k' 0 ((.ref 112 :: as).map some ++ List.replicate n none) [] B (fun o B' => ∃ v, o = .inl v ∧ qV d (pc + 3) Lo (v.toList ++ r) (hM 112 h B'))) : qV d pc Lo (as.reverse ++ .ref 112 :: r) h := by
  obtain ⟨N, o, B', hr, v, rfl, hx⟩ := x
  have hl2 : as.reverse.length = np := by rw [List.length_reverse]; exact hlen
  have hob : h.1 112 = some (.inr (11, (List.range 76).map (mfv 112 B))) := by
    have := hM_o (m := 112) (h0 := h) (B := B)
    rw [← hm] at this
    exact this
  refine v_call (k := k') (as := .ref 112 :: as) (r := r) hd rfl rfl (fun _ => rfl) rfl rfl (fun q => by cases q) ?_ ⟨by rw [hN]; exact Nat.le_of_ble_eq_true hs1, by rw [hN]; exact Nat.le_of_ble_eq_true hs2, Nat.le_of_ble_eq_true hs3⟩ ⟨N, ?_⟩ hx
  · show (match q_mth 12 idx with | some k => _ | none => _) = _
    rw [hmt]
    dsimp only
    obtain ⟨e1, e2, e3⟩ := hk
    rw [e1, e3, if_pos ⟨rfl, by simp; omega⟩, List.drop_left' hl2]
    dsimp only
    rw [hob]
    dsimp only
    rw [e2, if_pos ⟨rfl, by decide⟩, List.take_left' hl2, List.reverse_reverse]
  · have := hr (lv_args 0 (.ref 112 :: as)) (fun i v q => by
      have := EL_args (.ref 112 :: as) 0 n (fun v hv => by
        rcases List.mem_cons.mp hv with rfl | z
        · rfl
        · simpa using List.all_eq_true.mp hcat v z) i v q
      rwa [Nat.zero_add] at this)
    rw [← hm] at this
    exact this
end LW5
theorem V_feed {d L : Nat} {xs : Nat → Int32} {c0 s0 i : Int} {h : qH} {C B : qB} (hd : 130 ≤ d) (hj : JI L xs c0 s0 h C B) (hc : c0 + 1 ≤ 900000000) (hi : 0 ≤ i ∧ i + 6 ≤ L) (hL : L ≤ 3072) (w : ∀ (h' : qH) (C' B' : qB) (c1 s1 : Int), JI L xs c1 s1 h' C' B' → ((c1 = c0 ∧ s1 = s0) ∨ (c1 = c0 + 1 ∧ s1 = s0 + 6)) → qV d 943 [some (.ref 1000000001), some (.ref 0), some (.ref 112), some (.ref 159), some (iv i), none, none, none] [] h') : qV d 104 [some (.ref 1000000001), some (.ref 0), some (.ref 112), some (.ref 159), some (iv i), none, none, none] [] h := by
  refine v_go (r_ldk (ok := q_isA) (n := 1) (ckc_at dlaw0 0 rfl) rfl rfl (fun _ => rfl) rfl rfl) ?_
  refine v_go (r_ldk (ok := q_isA) (n := 0) (ckc_at dlaw0 1 rfl) rfl rfl (fun _ => rfl) rfl rfl) ?_
  refine v_go (r_ldk (ok := q_isI) (n := 4) (ckc_at dlaw0 2 rfl) rfl rfl (fun _ => rfl) rfl rfl) ?_
  refine v_go (r_op (ckc_at dlaw0 3 rfl) rfl (o_const _)) ?_
  refine v_go (r_op (ckc_at dlaw0 4 rfl) rfl o_iadd) ?_
  refine v_go (r_mem (ckc_at dlaw0 5 rfl) rfl rfl (fun _ => rfl) rfl (m_scr hj.2.2.2.2.1 (by omega) (by omega) hL)) ?_
  refine v_go (r_ldk (ok := q_isA) (n := 0) (ckc_at dlaw0 6 rfl) rfl rfl (fun _ => rfl) rfl rfl) ?_
  refine v_go (r_ldk (ok := q_isI) (n := 4) (ckc_at dlaw0 7 rfl) rfl rfl (fun _ => rfl) rfl rfl) ?_
  refine v_go (r_op (ckc_at dlaw0 8 rfl) rfl (o_const _)) ?_
  refine v_go (r_op (ckc_at dlaw0 9 rfl) rfl o_iadd) ?_
  refine v_go (r_mem (ckc_at dlaw0 10 rfl) rfl rfl (fun _ => rfl) rfl (m_scr hj.2.2.2.2.1 (by omega) (by omega) hL)) ?_
  refine v_go (r_ldk (ok := q_isA) (n := 0) (ckc_at dlaw0 11 rfl) rfl rfl (fun _ => rfl) rfl rfl) ?_
  refine v_go (r_ldk (ok := q_isI) (n := 4) (ckc_at dlaw0 12 rfl) rfl rfl (fun _ => rfl) rfl rfl) ?_
  refine v_go (r_op (ckc_at dlaw0 13 rfl) rfl (o_const _)) ?_
  refine v_go (r_op (ckc_at dlaw0 14 rfl) rfl o_iadd) ?_
  refine v_go (r_mem (ckc_at dlaw0 15 rfl) rfl rfl (fun _ => rfl) rfl (m_scr hj.2.2.2.2.1 (by omega) (by omega) hL)) ?_
  refine v_go (r_ldk (ok := q_isA) (n := 0) (ckc_at dlaw0 16 rfl) rfl rfl (fun _ => rfl) rfl rfl) ?_
  refine v_go (r_ldk (ok := q_isI) (n := 4) (ckc_at dlaw0 17 rfl) rfl rfl (fun _ => rfl) rfl rfl) ?_
  refine v_go (r_op (ckc_at dlaw0 18 rfl) rfl (o_const _)) ?_
  refine v_go (r_op (ckc_at dlaw0 19 rfl) rfl o_iadd) ?_
  refine v_go (r_mem (ckc_at dlaw0 20 rfl) rfl rfl (fun _ => rfl) rfl (m_scr hj.2.2.2.2.1 (by omega) (by omega) hL)) ?_
  refine v_go (r_ldk (ok := q_isA) (n := 0) (ckc_at dlaw0 21 rfl) rfl rfl (fun _ => rfl) rfl rfl) ?_
  refine v_go (r_ldk (ok := q_isI) (n := 4) (ckc_at dlaw0 22 rfl) rfl rfl (fun _ => rfl) rfl rfl) ?_
  refine v_go (r_op (ckc_at dlaw0 23 rfl) rfl (o_const _)) ?_
  refine v_go (r_op (ckc_at dlaw0 24 rfl) rfl o_iadd) ?_
  refine v_go (r_mem (ckc_at dlaw0 25 rfl) rfl rfl (fun _ => rfl) rfl (m_scr hj.2.2.2.2.1 (by omega) (by omega) hL)) ?_
  refine v_go (r_ldk (ok := q_isA) (n := 3) (ckc_at dlaw0 26 rfl) rfl rfl (fun _ => rfl) rfl rfl) ?_
  refine v_wrapU (k := 0) (as := [.ref 0, iv (X xs (i + 1)), iv (X xs (i + 2)), iv (X xs (i + 3)), iv (X xs (i + 4)), iv (X xs (i + 5)), .ref 159]) (r := []) (n := 1) (ckc_at dlaw0 27 rfl) (by decide +kernel) (by decide +kernel) rfl rfl (Nat.le_of_ble_eq_true rfl) (Nat.le_of_ble_eq_true rfl) (Nat.le_of_ble_eq_true rfl) rfl ?_
  refine J_call (mk := iv) (lg := fun a => (Int32.ofInt a).toInt64) hj (PP_feed hd hj.2.2.1 hj.2.2.2.1 hc ) (by decide) (fun a b e => iv_in e) (fun Q x => W_feed hj.o0 x) (fun z h2 C' c1 s1 out f hm hcc hz hs ho hf h9 hcs hq => ?_)
  refine v_go (r_st1 (ok := q_isI) (n := 5) (L' := [some (.ref 1000000001), some (.ref 0), some (.ref 112), some (.ref 159), some (iv i), some (iv z), none, none]) (ckc_at dlaw0 28 rfl) rfl (fun _ => rfl) (fun _ _ => rfl) rfl rfl (by decide) rfl rfl) ?_
  refine v_go (r_ldk (ok := q_isA) (n := 2) (ckc_at dlaw0 29 rfl) rfl rfl (fun _ => rfl) rfl rfl) ?_
  refine v_go (r_ldk (ok := q_isA) (n := 0) (ckc_at dlaw0 30 rfl) rfl rfl (fun _ => rfl) rfl rfl) ?_
  refine v_go (r_ldk (ok := q_isI) (n := 4) (ckc_at dlaw0 31 rfl) rfl rfl (fun _ => rfl) rfl rfl) ?_
  refine v_go (r_op (ckc_at dlaw0 32 rfl) rfl (o_const _)) ?_
  refine v_go (r_op (ckc_at dlaw0 33 rfl) rfl o_iadd) ?_
  refine v_go (r_mem (ckc_at dlaw0 34 rfl) rfl rfl (fun _ => rfl) rfl (m_scr hs (by omega) (by omega) hL)) ?_
  refine v_go (r_ldk (ok := q_isA) (n := 0) (ckc_at dlaw0 35 rfl) rfl rfl (fun _ => rfl) rfl rfl) ?_
  refine v_go (r_ldk (ok := q_isI) (n := 4) (ckc_at dlaw0 36 rfl) rfl rfl (fun _ => rfl) rfl rfl) ?_
  refine v_go (r_op (ckc_at dlaw0 37 rfl) rfl (o_const _)) ?_
  refine v_go (r_op (ckc_at dlaw0 38 rfl) rfl o_iadd) ?_
  refine v_go (r_mem (ckc_at dlaw0 39 rfl) rfl rfl (fun _ => rfl) rfl (m_scr hs (by omega) (by omega) hL)) ?_
  refine v_go (r_ldk (ok := q_isA) (n := 0) (ckc_at dlaw0 40 rfl) rfl rfl (fun _ => rfl) rfl rfl) ?_
  refine v_go (r_ldk (ok := q_isI) (n := 4) (ckc_at dlaw0 41 rfl) rfl rfl (fun _ => rfl) rfl rfl) ?_
  refine v_go (r_op (ckc_at dlaw0 42 rfl) rfl (o_const _)) ?_
  refine v_go (r_op (ckc_at dlaw0 43 rfl) rfl o_iadd) ?_
  refine v_go (r_mem (ckc_at dlaw0 44 rfl) rfl rfl (fun _ => rfl) rfl (m_scr hs (by omega) (by omega) hL)) ?_
  refine v_go (r_ldk (ok := q_isA) (n := 0) (ckc_at dlaw0 45 rfl) rfl rfl (fun _ => rfl) rfl rfl) ?_
  refine v_go (r_ldk (ok := q_isI) (n := 4) (ckc_at dlaw0 46 rfl) rfl rfl (fun _ => rfl) rfl rfl) ?_
  refine v_go (r_op (ckc_at dlaw0 47 rfl) rfl (o_const _)) ?_
  refine v_go (r_op (ckc_at dlaw0 48 rfl) rfl o_iadd) ?_
  refine v_go (r_mem (ckc_at dlaw0 49 rfl) rfl rfl (fun _ => rfl) rfl (m_scr hs (by omega) (by omega) hL)) ?_
  refine v_go (r_ldk (ok := q_isA) (n := 0) (ckc_at dlaw0 50 rfl) rfl rfl (fun _ => rfl) rfl rfl) ?_
  refine v_go (r_ldk (ok := q_isI) (n := 4) (ckc_at dlaw0 51 rfl) rfl rfl (fun _ => rfl) rfl rfl) ?_
  refine v_go (r_op (ckc_at dlaw0 52 rfl) rfl (o_const _)) ?_
  refine v_go (r_op (ckc_at dlaw0 53 rfl) rfl o_iadd) ?_
  refine v_go (r_mem (ckc_at dlaw0 54 rfl) rfl rfl (fun _ => rfl) rfl (m_scr hs (by omega) (by omega) hL)) ?_
  refine v_virtM (k' := k_feed) (as := [iv (X xs (i + 1)), iv (X xs (i + 2)), iv (X xs (i + 3)), iv (X xs (i + 4)), iv (X xs (i + 5))]) (r := []) (n := 0) hm (ckc_at dlaw0 55 rfl) (by decide +kernel) vk_feed rfl nl_feed rfl rfl rfl rfl (qZ.mono hq (Nat.le_refl _) (fun o' B' hB => ?_))
  obtain ⟨a, rfl, hB0, hB1, hI, hO⟩ := hB
  obtain ⟨y1, y2, y3, y4⟩ := jn_model (B' := B') hcc hz
  refine ⟨_, rfl, ?_⟩
  have yo : (hM 112 h2 B').1 159 = some (.inl (2, 1, f)) := y3.trans ho
  have hw := w (hM 112 h2 B') C' B' c1 s1 ⟨y1, y2, hI, hO, y4.trans hs, _, yo⟩ hcs
  clear hq hj w
  generalize hM 112 h2 B' = h3 at *
  refine v_go (r_st1 (ok := q_isI) (n := 6) (L' := [some (.ref 1000000001), some (.ref 0), some (.ref 112), some (.ref 159), some (iv i), some (iv z), some (iv a), none]) (ckc_at dlaw0 56 rfl) rfl (fun _ => rfl) (fun _ _ => rfl) rfl rfl (by decide) rfl rfl) ?_
  refine v_go (r_ldk (ok := q_isA) (n := 2) (ckc_at dlaw0 57 rfl) rfl rfl (fun _ => rfl) rfl rfl) ?_
  refine v_virtM (k' := k_thrown) (as := []) (r := []) (n := 0) y2 (ckc_at dlaw0 58 rfl) (by decide +kernel) vk_thrown rfl nl_thrown rfl rfl rfl rfl ?_
  refine qZ.mono (d := 0 + 1) (R_thrown (by decide) ⟨_, rfl, ?_⟩) (by omega) (fun _ _ q => q)
  rw [← y2, hB0]
  refine v_go (r_ldk (ok := q_isI) (n := 5) (ckc_at dlaw0 59 rfl) rfl rfl (fun _ => rfl) rfl rfl) ?_
  refine v_icmp (t := 188) (ckc_at dlaw0 60 rfl) (by decide) ⟨by omega, by omega⟩ ⟨by omega, by omega⟩ (fun _ => ?_) (fun q => absurd rfl q)
  refine v_go (r_ldk (ok := q_isI) (n := 5) (ckc_at dlaw0 63 rfl) rfl rfl (fun _ => rfl) rfl rfl) ?_
  have fin : qV d 205 [some (.ref 1000000001), some (.ref 0), some (.ref 112), some (.ref 159), some (iv i), some (iv z), some (iv a), none] [] h3 := v_go (r_goto (t := 943) (ckc_at dlaw0 74 rfl) (by decide)) (v_wk hw ⟨rfl, rfl, rfl, rfl, rfl, trivial⟩)
  refine v_ifz (t := 205) (ckc_at dlaw0 64 rfl) (by decide) ⟨by omega, by omega⟩ (fun _ => fin) (fun q => ?_)
  have z0 : z = 0 := cN_ne q
  refine v_go (r_ldk (ok := q_isA) (n := 3) (ckc_at dlaw0 65 rfl) rfl rfl (fun _ => rfl) rfl rfl) ?_
  refine v_go (r_op (ckc_at dlaw0 66 rfl) rfl (o_const _)) ?_
  refine v_go (r_mem (ckc_at dlaw0 67 rfl) rfl rfl (fun _ => rfl) rfl (m_lald yo (hf z0))) ?_
  refine v_go (r_ldk (ok := q_isI) (n := 6) (ckc_at dlaw0 68 rfl) rfl rfl (fun _ => rfl) rfl rfl) ?_
  refine v_go (r_op (ckc_at dlaw0 69 rfl) rfl rfl) ?_
  refine v_go (r_op (ckc_at dlaw0 70 rfl) rfl (o_lc0 (hB1 z0))) ?_
  exact v_ifz (t := 205) (ckc_at dlaw0 71 rfl) (by decide) ⟨by decide, by decide⟩ (fun _ => fin) (fun q => absurd rfl q)
theorem V_end {d L : Nat} {xs : Nat → Int32} {c0 s0 i : Int} {h : qH} {C B : qB} (hd : 130 ≤ d) (hj : JI L xs c0 s0 h C B) (hc : c0 + 1 ≤ 900000000) (hi : 0 ≤ i ∧ i + 6 ≤ L) (hL : L ≤ 3072) (w : ∀ (h' : qH) (C' B' : qB) (c1 s1 : Int), JI L xs c1 s1 h' C' B' → ((c1 = c0 ∧ s1 = s0) ∨ (c1 = c0 + 1 ∧ s1 = s0 + 6)) → qV d 943 [some (.ref 1000000001), some (.ref 0), some (.ref 112), some (.ref 159), some (iv i), none, none, none] [] h') : qV d 208 [some (.ref 1000000001), some (.ref 0), some (.ref 112), some (.ref 159), some (iv i), none, none, none] [] h := by
  refine v_go (r_ldk (ok := q_isA) (n := 1) (ckc_at dlaw1 0 rfl) rfl rfl (fun _ => rfl) rfl rfl) ?_
  refine v_go (r_ldk (ok := q_isA) (n := 0) (ckc_at dlaw1 1 rfl) rfl rfl (fun _ => rfl) rfl rfl) ?_
  refine v_go (r_ldk (ok := q_isI) (n := 4) (ckc_at dlaw1 2 rfl) rfl rfl (fun _ => rfl) rfl rfl) ?_
  refine v_go (r_op (ckc_at dlaw1 3 rfl) rfl (o_const _)) ?_
  refine v_go (r_op (ckc_at dlaw1 4 rfl) rfl o_iadd) ?_
  refine v_go (r_mem (ckc_at dlaw1 5 rfl) rfl rfl (fun _ => rfl) rfl (m_scr hj.2.2.2.2.1 (by omega) (by omega) hL)) ?_
  refine v_go (r_ldk (ok := q_isA) (n := 3) (ckc_at dlaw1 6 rfl) rfl rfl (fun _ => rfl) rfl rfl) ?_
  refine v_wrapU (k := 1) (as := [.ref 0, iv (X xs (i + 1)), .ref 159]) (r := []) (n := 1) (ckc_at dlaw1 7 rfl) (by decide +kernel) (by decide +kernel) rfl rfl (Nat.le_of_ble_eq_true rfl) (Nat.le_of_ble_eq_true rfl) (Nat.le_of_ble_eq_true rfl) rfl ?_
  refine J_call (mk := iv) (lg := fun a => (Int32.ofInt a).toInt64) hj (PP_end hd hj.2.2.1 hj.2.2.2.1 hc (X_R xs _)) (by decide) (fun a b e => iv_in e) (fun Q x => W_end hj.o0 x) (fun z h2 C' c1 s1 out f hm hcc hz hs ho hf h9 hcs hq => ?_)
  refine v_go (r_st1 (ok := q_isI) (n := 5) (L' := [some (.ref 1000000001), some (.ref 0), some (.ref 112), some (.ref 159), some (iv i), some (iv z), none, none]) (ckc_at dlaw1 8 rfl) rfl (fun _ => rfl) (fun _ _ => rfl) rfl rfl (by decide) rfl rfl) ?_
  refine v_go (r_ldk (ok := q_isA) (n := 2) (ckc_at dlaw1 9 rfl) rfl rfl (fun _ => rfl) rfl rfl) ?_
  refine v_go (r_ldk (ok := q_isA) (n := 0) (ckc_at dlaw1 10 rfl) rfl rfl (fun _ => rfl) rfl rfl) ?_
  refine v_go (r_ldk (ok := q_isI) (n := 4) (ckc_at dlaw1 11 rfl) rfl rfl (fun _ => rfl) rfl rfl) ?_
  refine v_go (r_op (ckc_at dlaw1 12 rfl) rfl (o_const _)) ?_
  refine v_go (r_op (ckc_at dlaw1 13 rfl) rfl o_iadd) ?_
  refine v_go (r_mem (ckc_at dlaw1 14 rfl) rfl rfl (fun _ => rfl) rfl (m_scr hs (by omega) (by omega) hL)) ?_
  refine v_virtM (k' := k_end) (as := [iv (X xs (i + 1))]) (r := []) (n := 0) hm (ckc_at dlaw1 15 rfl) (by decide +kernel) vk_end rfl nl_end rfl rfl rfl rfl (qZ.mono hq (Nat.le_refl _) (fun o' B' hB => ?_))
  obtain ⟨a, rfl, hB0, hB1, hI, hO⟩ := hB
  obtain ⟨y1, y2, y3, y4⟩ := jn_model (B' := B') hcc hz
  refine ⟨_, rfl, ?_⟩
  have yo : (hM 112 h2 B').1 159 = some (.inl (2, 1, f)) := y3.trans ho
  have hw := w (hM 112 h2 B') C' B' c1 s1 ⟨y1, y2, hI, hO, y4.trans hs, _, yo⟩ hcs
  clear hq hj w
  generalize hM 112 h2 B' = h3 at *
  refine v_go (r_st1 (ok := q_isI) (n := 6) (L' := [some (.ref 1000000001), some (.ref 0), some (.ref 112), some (.ref 159), some (iv i), some (iv z), some (iv a), none]) (ckc_at dlaw1 16 rfl) rfl (fun _ => rfl) (fun _ _ => rfl) rfl rfl (by decide) rfl rfl) ?_
  refine v_go (r_ldk (ok := q_isA) (n := 2) (ckc_at dlaw1 17 rfl) rfl rfl (fun _ => rfl) rfl rfl) ?_
  refine v_virtM (k' := k_thrown) (as := []) (r := []) (n := 0) y2 (ckc_at dlaw1 18 rfl) (by decide +kernel) vk_thrown rfl nl_thrown rfl rfl rfl rfl ?_
  refine qZ.mono (d := 0 + 1) (R_thrown (by decide) ⟨_, rfl, ?_⟩) (by omega) (fun _ _ q => q)
  rw [← y2, hB0]
  refine v_go (r_ldk (ok := q_isI) (n := 5) (ckc_at dlaw1 19 rfl) rfl rfl (fun _ => rfl) rfl rfl) ?_
  refine v_icmp (t := 244) (ckc_at dlaw1 20 rfl) (by decide) ⟨by omega, by omega⟩ ⟨by omega, by omega⟩ (fun _ => ?_) (fun q => absurd rfl q)
  refine v_go (r_ldk (ok := q_isI) (n := 5) (ckc_at dlaw1 23 rfl) rfl rfl (fun _ => rfl) rfl rfl) ?_
  have fin : qV d 261 [some (.ref 1000000001), some (.ref 0), some (.ref 112), some (.ref 159), some (iv i), some (iv z), some (iv a), none] [] h3 := v_go (r_goto (t := 943) (ckc_at dlaw1 34 rfl) (by decide)) (v_wk hw ⟨rfl, rfl, rfl, rfl, rfl, trivial⟩)
  refine v_ifz (t := 261) (ckc_at dlaw1 24 rfl) (by decide) ⟨by omega, by omega⟩ (fun _ => fin) (fun q => ?_)
  have z0 : z = 0 := cN_ne q
  refine v_go (r_ldk (ok := q_isA) (n := 3) (ckc_at dlaw1 25 rfl) rfl rfl (fun _ => rfl) rfl rfl) ?_
  refine v_go (r_op (ckc_at dlaw1 26 rfl) rfl (o_const _)) ?_
  refine v_go (r_mem (ckc_at dlaw1 27 rfl) rfl rfl (fun _ => rfl) rfl (m_lald yo (hf z0))) ?_
  refine v_go (r_ldk (ok := q_isI) (n := 6) (ckc_at dlaw1 28 rfl) rfl rfl (fun _ => rfl) rfl rfl) ?_
  refine v_go (r_op (ckc_at dlaw1 29 rfl) rfl rfl) ?_
  refine v_go (r_op (ckc_at dlaw1 30 rfl) rfl (o_lc0 (hB1 z0))) ?_
  exact v_ifz (t := 261) (ckc_at dlaw1 31 rfl) (by decide) ⟨by decide, by decide⟩ (fun _ => fin) (fun q => absurd rfl q)
theorem V_pattern {d L : Nat} {xs : Nat → Int32} {c0 s0 i : Int} {h : qH} {C B : qB} (hd : 130 ≤ d) (hj : JI L xs c0 s0 h C B) (hc : c0 + 1 ≤ 900000000) (hi : 0 ≤ i ∧ i + 6 ≤ L) (hL : L ≤ 3072) (w : ∀ (h' : qH) (C' B' : qB) (c1 s1 : Int), JI L xs c1 s1 h' C' B' → ((c1 = c0 ∧ s1 = s0) ∨ (c1 = c0 + 1 ∧ s1 = s0 + 6)) → qV d 943 [some (.ref 1000000001), some (.ref 0), some (.ref 112), some (.ref 159), some (iv i), none, none, none] [] h') : qV d 264 [some (.ref 1000000001), some (.ref 0), some (.ref 112), some (.ref 159), some (iv i), none, none, none] [] h := by
  refine v_go (r_ldk (ok := q_isA) (n := 1) (ckc_at dlaw2 0 rfl) rfl rfl (fun _ => rfl) rfl rfl) ?_
  refine v_go (r_ldk (ok := q_isA) (n := 0) (ckc_at dlaw2 1 rfl) rfl rfl (fun _ => rfl) rfl rfl) ?_
  refine v_go (r_ldk (ok := q_isI) (n := 4) (ckc_at dlaw2 2 rfl) rfl rfl (fun _ => rfl) rfl rfl) ?_
  refine v_go (r_op (ckc_at dlaw2 3 rfl) rfl (o_const _)) ?_
  refine v_go (r_op (ckc_at dlaw2 4 rfl) rfl o_iadd) ?_
  refine v_go (r_mem (ckc_at dlaw2 5 rfl) rfl rfl (fun _ => rfl) rfl (m_scr hj.2.2.2.2.1 (by omega) (by omega) hL)) ?_
  refine v_go (r_ldk (ok := q_isA) (n := 3) (ckc_at dlaw2 6 rfl) rfl rfl (fun _ => rfl) rfl rfl) ?_
  refine v_wrapU (k := 2) (as := [.ref 0, iv (X xs (i + 1)), .ref 159]) (r := []) (n := 1) (ckc_at dlaw2 7 rfl) (by decide +kernel) (by decide +kernel) rfl rfl (Nat.le_of_ble_eq_true rfl) (Nat.le_of_ble_eq_true rfl) (Nat.le_of_ble_eq_true rfl) rfl ?_
  refine J_call (mk := iv) (lg := fun a => (Int32.ofInt a).toInt64) hj (PP_pattern hd hj.2.2.1 hj.2.2.2.1 hc (X_R xs _)) (by decide) (fun a b e => iv_in e) (fun Q x => W_pattern hj.o0 x) (fun z h2 C' c1 s1 out f hm hcc hz hs ho hf h9 hcs hq => ?_)
  refine v_go (r_st1 (ok := q_isI) (n := 5) (L' := [some (.ref 1000000001), some (.ref 0), some (.ref 112), some (.ref 159), some (iv i), some (iv z), none, none]) (ckc_at dlaw2 8 rfl) rfl (fun _ => rfl) (fun _ _ => rfl) rfl rfl (by decide) rfl rfl) ?_
  refine v_go (r_ldk (ok := q_isA) (n := 2) (ckc_at dlaw2 9 rfl) rfl rfl (fun _ => rfl) rfl rfl) ?_
  refine v_go (r_ldk (ok := q_isA) (n := 0) (ckc_at dlaw2 10 rfl) rfl rfl (fun _ => rfl) rfl rfl) ?_
  refine v_go (r_ldk (ok := q_isI) (n := 4) (ckc_at dlaw2 11 rfl) rfl rfl (fun _ => rfl) rfl rfl) ?_
  refine v_go (r_op (ckc_at dlaw2 12 rfl) rfl (o_const _)) ?_
  refine v_go (r_op (ckc_at dlaw2 13 rfl) rfl o_iadd) ?_
  refine v_go (r_mem (ckc_at dlaw2 14 rfl) rfl rfl (fun _ => rfl) rfl (m_scr hs (by omega) (by omega) hL)) ?_
  refine v_virtM (k' := k_pattern) (as := [iv (X xs (i + 1))]) (r := []) (n := 2) hm (ckc_at dlaw2 15 rfl) (by decide +kernel) vk_pattern rfl nl_pattern rfl rfl rfl rfl (qZ.mono hq (Nat.le_refl _) (fun o' B' hB => ?_))
  obtain ⟨a, rfl, hB0, hB1, hI, hO⟩ := hB
  obtain ⟨y1, y2, y3, y4⟩ := jn_model (B' := B') hcc hz
  refine ⟨_, rfl, ?_⟩
  have yo : (hM 112 h2 B').1 159 = some (.inl (2, 1, f)) := y3.trans ho
  have hw := w (hM 112 h2 B') C' B' c1 s1 ⟨y1, y2, hI, hO, y4.trans hs, _, yo⟩ hcs
  clear hq hj w
  generalize hM 112 h2 B' = h3 at *
  refine v_go (r_st1 (ok := q_isI) (n := 6) (L' := [some (.ref 1000000001), some (.ref 0), some (.ref 112), some (.ref 159), some (iv i), some (iv z), some (iv a), none]) (ckc_at dlaw2 16 rfl) rfl (fun _ => rfl) (fun _ _ => rfl) rfl rfl (by decide) rfl rfl) ?_
  refine v_go (r_ldk (ok := q_isA) (n := 2) (ckc_at dlaw2 17 rfl) rfl rfl (fun _ => rfl) rfl rfl) ?_
  refine v_virtM (k' := k_thrown) (as := []) (r := []) (n := 0) y2 (ckc_at dlaw2 18 rfl) (by decide +kernel) vk_thrown rfl nl_thrown rfl rfl rfl rfl ?_
  refine qZ.mono (d := 0 + 1) (R_thrown (by decide) ⟨_, rfl, ?_⟩) (by omega) (fun _ _ q => q)
  rw [← y2, hB0]
  refine v_go (r_ldk (ok := q_isI) (n := 5) (ckc_at dlaw2 19 rfl) rfl rfl (fun _ => rfl) rfl rfl) ?_
  refine v_icmp (t := 300) (ckc_at dlaw2 20 rfl) (by decide) ⟨by omega, by omega⟩ ⟨by omega, by omega⟩ (fun _ => ?_) (fun q => absurd rfl q)
  refine v_go (r_ldk (ok := q_isI) (n := 5) (ckc_at dlaw2 23 rfl) rfl rfl (fun _ => rfl) rfl rfl) ?_
  have fin : qV d 317 [some (.ref 1000000001), some (.ref 0), some (.ref 112), some (.ref 159), some (iv i), some (iv z), some (iv a), none] [] h3 := v_go (r_goto (t := 943) (ckc_at dlaw2 34 rfl) (by decide)) (v_wk hw ⟨rfl, rfl, rfl, rfl, rfl, trivial⟩)
  refine v_ifz (t := 317) (ckc_at dlaw2 24 rfl) (by decide) ⟨by omega, by omega⟩ (fun _ => fin) (fun q => ?_)
  have z0 : z = 0 := cN_ne q
  refine v_go (r_ldk (ok := q_isA) (n := 3) (ckc_at dlaw2 25 rfl) rfl rfl (fun _ => rfl) rfl rfl) ?_
  refine v_go (r_op (ckc_at dlaw2 26 rfl) rfl (o_const _)) ?_
  refine v_go (r_mem (ckc_at dlaw2 27 rfl) rfl rfl (fun _ => rfl) rfl (m_lald yo (hf z0))) ?_
  refine v_go (r_ldk (ok := q_isI) (n := 6) (ckc_at dlaw2 28 rfl) rfl rfl (fun _ => rfl) rfl rfl) ?_
  refine v_go (r_op (ckc_at dlaw2 29 rfl) rfl rfl) ?_
  refine v_go (r_op (ckc_at dlaw2 30 rfl) rfl (o_lc0 (hB1 z0))) ?_
  exact v_ifz (t := 317) (ckc_at dlaw2 31 rfl) (by decide) ⟨by decide, by decide⟩ (fun _ => fin) (fun q => absurd rfl q)
theorem V_text {d L : Nat} {xs : Nat → Int32} {c0 s0 i : Int} {h : qH} {C B : qB} (hd : 130 ≤ d) (hj : JI L xs c0 s0 h C B) (hc : c0 + 1 ≤ 900000000) (hi : 0 ≤ i ∧ i + 6 ≤ L) (hL : L ≤ 3072) (w : ∀ (h' : qH) (C' B' : qB) (c1 s1 : Int), JI L xs c1 s1 h' C' B' → ((c1 = c0 ∧ s1 = s0) ∨ (c1 = c0 + 1 ∧ s1 = s0 + 6)) → qV d 943 [some (.ref 1000000001), some (.ref 0), some (.ref 112), some (.ref 159), some (iv i), none, none, none] [] h') : qV d 320 [some (.ref 1000000001), some (.ref 0), some (.ref 112), some (.ref 159), some (iv i), none, none, none] [] h := by
  refine v_go (r_ldk (ok := q_isA) (n := 1) (ckc_at dlaw3 0 rfl) rfl rfl (fun _ => rfl) rfl rfl) ?_
  refine v_go (r_ldk (ok := q_isA) (n := 0) (ckc_at dlaw3 1 rfl) rfl rfl (fun _ => rfl) rfl rfl) ?_
  refine v_go (r_ldk (ok := q_isI) (n := 4) (ckc_at dlaw3 2 rfl) rfl rfl (fun _ => rfl) rfl rfl) ?_
  refine v_go (r_op (ckc_at dlaw3 3 rfl) rfl (o_const _)) ?_
  refine v_go (r_op (ckc_at dlaw3 4 rfl) rfl o_iadd) ?_
  refine v_go (r_mem (ckc_at dlaw3 5 rfl) rfl rfl (fun _ => rfl) rfl (m_scr hj.2.2.2.2.1 (by omega) (by omega) hL)) ?_
  refine v_go (r_ldk (ok := q_isA) (n := 3) (ckc_at dlaw3 6 rfl) rfl rfl (fun _ => rfl) rfl rfl) ?_
  refine v_wrapU (k := 3) (as := [.ref 0, iv (X xs (i + 1)), .ref 159]) (r := []) (n := 1) (ckc_at dlaw3 7 rfl) (by decide +kernel) (by decide +kernel) rfl rfl (Nat.le_of_ble_eq_true rfl) (Nat.le_of_ble_eq_true rfl) (Nat.le_of_ble_eq_true rfl) rfl ?_
  refine J_call (mk := iv) (lg := fun a => (Int32.ofInt a).toInt64) hj (PP_text hd hj.2.2.1 hj.2.2.2.1 hc (X_R xs _)) (by decide) (fun a b e => iv_in e) (fun Q x => W_text hj.o0 x) (fun z h2 C' c1 s1 out f hm hcc hz hs ho hf h9 hcs hq => ?_)
  refine v_go (r_st1 (ok := q_isI) (n := 5) (L' := [some (.ref 1000000001), some (.ref 0), some (.ref 112), some (.ref 159), some (iv i), some (iv z), none, none]) (ckc_at dlaw3 8 rfl) rfl (fun _ => rfl) (fun _ _ => rfl) rfl rfl (by decide) rfl rfl) ?_
  refine v_go (r_ldk (ok := q_isA) (n := 2) (ckc_at dlaw3 9 rfl) rfl rfl (fun _ => rfl) rfl rfl) ?_
  refine v_go (r_ldk (ok := q_isA) (n := 0) (ckc_at dlaw3 10 rfl) rfl rfl (fun _ => rfl) rfl rfl) ?_
  refine v_go (r_ldk (ok := q_isI) (n := 4) (ckc_at dlaw3 11 rfl) rfl rfl (fun _ => rfl) rfl rfl) ?_
  refine v_go (r_op (ckc_at dlaw3 12 rfl) rfl (o_const _)) ?_
  refine v_go (r_op (ckc_at dlaw3 13 rfl) rfl o_iadd) ?_
  refine v_go (r_mem (ckc_at dlaw3 14 rfl) rfl rfl (fun _ => rfl) rfl (m_scr hs (by omega) (by omega) hL)) ?_
  refine v_virtM (k' := k_text) (as := [iv (X xs (i + 1))]) (r := []) (n := 1) hm (ckc_at dlaw3 15 rfl) (by decide +kernel) vk_text rfl nl_text rfl rfl rfl rfl (qZ.mono hq (Nat.le_refl _) (fun o' B' hB => ?_))
  obtain ⟨a, rfl, hB0, hB1, hI, hO⟩ := hB
  obtain ⟨y1, y2, y3, y4⟩ := jn_model (B' := B') hcc hz
  refine ⟨_, rfl, ?_⟩
  have yo : (hM 112 h2 B').1 159 = some (.inl (2, 1, f)) := y3.trans ho
  have hw := w (hM 112 h2 B') C' B' c1 s1 ⟨y1, y2, hI, hO, y4.trans hs, _, yo⟩ hcs
  clear hq hj w
  generalize hM 112 h2 B' = h3 at *
  refine v_go (r_st1 (ok := q_isI) (n := 6) (L' := [some (.ref 1000000001), some (.ref 0), some (.ref 112), some (.ref 159), some (iv i), some (iv z), some (iv a), none]) (ckc_at dlaw3 16 rfl) rfl (fun _ => rfl) (fun _ _ => rfl) rfl rfl (by decide) rfl rfl) ?_
  refine v_go (r_ldk (ok := q_isA) (n := 2) (ckc_at dlaw3 17 rfl) rfl rfl (fun _ => rfl) rfl rfl) ?_
  refine v_virtM (k' := k_thrown) (as := []) (r := []) (n := 0) y2 (ckc_at dlaw3 18 rfl) (by decide +kernel) vk_thrown rfl nl_thrown rfl rfl rfl rfl ?_
  refine qZ.mono (d := 0 + 1) (R_thrown (by decide) ⟨_, rfl, ?_⟩) (by omega) (fun _ _ q => q)
  rw [← y2, hB0]
  refine v_go (r_ldk (ok := q_isI) (n := 5) (ckc_at dlaw3 19 rfl) rfl rfl (fun _ => rfl) rfl rfl) ?_
  refine v_icmp (t := 356) (ckc_at dlaw3 20 rfl) (by decide) ⟨by omega, by omega⟩ ⟨by omega, by omega⟩ (fun _ => ?_) (fun q => absurd rfl q)
  refine v_go (r_ldk (ok := q_isI) (n := 5) (ckc_at dlaw3 23 rfl) rfl rfl (fun _ => rfl) rfl rfl) ?_
  have fin : qV d 373 [some (.ref 1000000001), some (.ref 0), some (.ref 112), some (.ref 159), some (iv i), some (iv z), some (iv a), none] [] h3 := v_go (r_goto (t := 943) (ckc_at dlaw3 34 rfl) (by decide)) (v_wk hw ⟨rfl, rfl, rfl, rfl, rfl, trivial⟩)
  refine v_ifz (t := 373) (ckc_at dlaw3 24 rfl) (by decide) ⟨by omega, by omega⟩ (fun _ => fin) (fun q => ?_)
  have z0 : z = 0 := cN_ne q
  refine v_go (r_ldk (ok := q_isA) (n := 3) (ckc_at dlaw3 25 rfl) rfl rfl (fun _ => rfl) rfl rfl) ?_
  refine v_go (r_op (ckc_at dlaw3 26 rfl) rfl (o_const _)) ?_
  refine v_go (r_mem (ckc_at dlaw3 27 rfl) rfl rfl (fun _ => rfl) rfl (m_lald yo (hf z0))) ?_
  refine v_go (r_ldk (ok := q_isI) (n := 6) (ckc_at dlaw3 28 rfl) rfl rfl (fun _ => rfl) rfl rfl) ?_
  refine v_go (r_op (ckc_at dlaw3 29 rfl) rfl rfl) ?_
  refine v_go (r_op (ckc_at dlaw3 30 rfl) rfl (o_lc0 (hB1 z0))) ?_
  exact v_ifz (t := 373) (ckc_at dlaw3 31 rfl) (by decide) ⟨by decide, by decide⟩ (fun _ => fin) (fun q => absurd rfl q)
theorem V_match {d L : Nat} {xs : Nat → Int32} {c0 s0 i : Int} {h : qH} {C B : qB} (hd : 130 ≤ d) (hj : JI L xs c0 s0 h C B) (hc : c0 + 1 ≤ 900000000) (hi : 0 ≤ i ∧ i + 6 ≤ L) (hL : L ≤ 3072) (w : ∀ (h' : qH) (C' B' : qB) (c1 s1 : Int), JI L xs c1 s1 h' C' B' → ((c1 = c0 ∧ s1 = s0) ∨ (c1 = c0 + 1 ∧ s1 = s0 + 6)) → qV d 943 [some (.ref 1000000001), some (.ref 0), some (.ref 112), some (.ref 159), some (iv i), none, none, none] [] h') : qV d 376 [some (.ref 1000000001), some (.ref 0), some (.ref 112), some (.ref 159), some (iv i), none, none, none] [] h := by
  refine v_go (r_ldk (ok := q_isA) (n := 1) (ckc_at dlaw4 0 rfl) rfl rfl (fun _ => rfl) rfl rfl) ?_
  refine v_go (r_ldk (ok := q_isA) (n := 0) (ckc_at dlaw4 1 rfl) rfl rfl (fun _ => rfl) rfl rfl) ?_
  refine v_go (r_ldk (ok := q_isI) (n := 4) (ckc_at dlaw4 2 rfl) rfl rfl (fun _ => rfl) rfl rfl) ?_
  refine v_go (r_op (ckc_at dlaw4 3 rfl) rfl (o_const _)) ?_
  refine v_go (r_op (ckc_at dlaw4 4 rfl) rfl o_iadd) ?_
  refine v_go (r_mem (ckc_at dlaw4 5 rfl) rfl rfl (fun _ => rfl) rfl (m_scr hj.2.2.2.2.1 (by omega) (by omega) hL)) ?_
  refine v_go (r_ldk (ok := q_isA) (n := 0) (ckc_at dlaw4 6 rfl) rfl rfl (fun _ => rfl) rfl rfl) ?_
  refine v_go (r_ldk (ok := q_isI) (n := 4) (ckc_at dlaw4 7 rfl) rfl rfl (fun _ => rfl) rfl rfl) ?_
  refine v_go (r_op (ckc_at dlaw4 8 rfl) rfl (o_const _)) ?_
  refine v_go (r_op (ckc_at dlaw4 9 rfl) rfl o_iadd) ?_
  refine v_go (r_mem (ckc_at dlaw4 10 rfl) rfl rfl (fun _ => rfl) rfl (m_scr hj.2.2.2.2.1 (by omega) (by omega) hL)) ?_
  refine v_go (r_ldk (ok := q_isA) (n := 0) (ckc_at dlaw4 11 rfl) rfl rfl (fun _ => rfl) rfl rfl) ?_
  refine v_go (r_ldk (ok := q_isI) (n := 4) (ckc_at dlaw4 12 rfl) rfl rfl (fun _ => rfl) rfl rfl) ?_
  refine v_go (r_op (ckc_at dlaw4 13 rfl) rfl (o_const _)) ?_
  refine v_go (r_op (ckc_at dlaw4 14 rfl) rfl o_iadd) ?_
  refine v_go (r_mem (ckc_at dlaw4 15 rfl) rfl rfl (fun _ => rfl) rfl (m_scr hj.2.2.2.2.1 (by omega) (by omega) hL)) ?_
  refine v_go (r_ldk (ok := q_isA) (n := 0) (ckc_at dlaw4 16 rfl) rfl rfl (fun _ => rfl) rfl rfl) ?_
  refine v_go (r_ldk (ok := q_isI) (n := 4) (ckc_at dlaw4 17 rfl) rfl rfl (fun _ => rfl) rfl rfl) ?_
  refine v_go (r_op (ckc_at dlaw4 18 rfl) rfl (o_const _)) ?_
  refine v_go (r_op (ckc_at dlaw4 19 rfl) rfl o_iadd) ?_
  refine v_go (r_mem (ckc_at dlaw4 20 rfl) rfl rfl (fun _ => rfl) rfl (m_scr hj.2.2.2.2.1 (by omega) (by omega) hL)) ?_
  refine v_go (r_ldk (ok := q_isA) (n := 3) (ckc_at dlaw4 21 rfl) rfl rfl (fun _ => rfl) rfl rfl) ?_
  refine v_wrapU (k := 4) (as := [.ref 0, iv (X xs (i + 1)), iv (X xs (i + 2)), iv (X xs (i + 3)), iv (X xs (i + 4)), .ref 159]) (r := []) (n := 1) (ckc_at dlaw4 22 rfl) (by decide +kernel) (by decide +kernel) rfl rfl (Nat.le_of_ble_eq_true rfl) (Nat.le_of_ble_eq_true rfl) (Nat.le_of_ble_eq_true rfl) rfl ?_
  refine J_call (mk := iv) (lg := fun a => (Int32.ofInt a).toInt64) hj (PP_match hd hj.2.2.1 hj.2.2.2.1 hc (X_R xs _) (X_R xs _) (X_R xs _) (X_R xs _)) (by decide) (fun a b e => iv_in e) (fun Q x => W_match hj.o0 x) (fun z h2 C' c1 s1 out f hm hcc hz hs ho hf h9 hcs hq => ?_)
  refine v_go (r_st1 (ok := q_isI) (n := 5) (L' := [some (.ref 1000000001), some (.ref 0), some (.ref 112), some (.ref 159), some (iv i), some (iv z), none, none]) (ckc_at dlaw4 23 rfl) rfl (fun _ => rfl) (fun _ _ => rfl) rfl rfl (by decide) rfl rfl) ?_
  refine v_go (r_ldk (ok := q_isA) (n := 2) (ckc_at dlaw4 24 rfl) rfl rfl (fun _ => rfl) rfl rfl) ?_
  refine v_go (r_ldk (ok := q_isA) (n := 0) (ckc_at dlaw4 25 rfl) rfl rfl (fun _ => rfl) rfl rfl) ?_
  refine v_go (r_ldk (ok := q_isI) (n := 4) (ckc_at dlaw4 26 rfl) rfl rfl (fun _ => rfl) rfl rfl) ?_
  refine v_go (r_op (ckc_at dlaw4 27 rfl) rfl (o_const _)) ?_
  refine v_go (r_op (ckc_at dlaw4 28 rfl) rfl o_iadd) ?_
  refine v_go (r_mem (ckc_at dlaw4 29 rfl) rfl rfl (fun _ => rfl) rfl (m_scr hs (by omega) (by omega) hL)) ?_
  refine v_go (r_ldk (ok := q_isA) (n := 0) (ckc_at dlaw4 30 rfl) rfl rfl (fun _ => rfl) rfl rfl) ?_
  refine v_go (r_ldk (ok := q_isI) (n := 4) (ckc_at dlaw4 31 rfl) rfl rfl (fun _ => rfl) rfl rfl) ?_
  refine v_go (r_op (ckc_at dlaw4 32 rfl) rfl (o_const _)) ?_
  refine v_go (r_op (ckc_at dlaw4 33 rfl) rfl o_iadd) ?_
  refine v_go (r_mem (ckc_at dlaw4 34 rfl) rfl rfl (fun _ => rfl) rfl (m_scr hs (by omega) (by omega) hL)) ?_
  refine v_go (r_ldk (ok := q_isA) (n := 0) (ckc_at dlaw4 35 rfl) rfl rfl (fun _ => rfl) rfl rfl) ?_
  refine v_go (r_ldk (ok := q_isI) (n := 4) (ckc_at dlaw4 36 rfl) rfl rfl (fun _ => rfl) rfl rfl) ?_
  refine v_go (r_op (ckc_at dlaw4 37 rfl) rfl (o_const _)) ?_
  refine v_go (r_op (ckc_at dlaw4 38 rfl) rfl o_iadd) ?_
  refine v_go (r_mem (ckc_at dlaw4 39 rfl) rfl rfl (fun _ => rfl) rfl (m_scr hs (by omega) (by omega) hL)) ?_
  refine v_go (r_ldk (ok := q_isA) (n := 0) (ckc_at dlaw4 40 rfl) rfl rfl (fun _ => rfl) rfl rfl) ?_
  refine v_go (r_ldk (ok := q_isI) (n := 4) (ckc_at dlaw4 41 rfl) rfl rfl (fun _ => rfl) rfl rfl) ?_
  refine v_go (r_op (ckc_at dlaw4 42 rfl) rfl (o_const _)) ?_
  refine v_go (r_op (ckc_at dlaw4 43 rfl) rfl o_iadd) ?_
  refine v_go (r_mem (ckc_at dlaw4 44 rfl) rfl rfl (fun _ => rfl) rfl (m_scr hs (by omega) (by omega) hL)) ?_
  refine v_virtM (k' := k_match) (as := [iv (X xs (i + 1)), iv (X xs (i + 2)), iv (X xs (i + 3)), iv (X xs (i + 4))]) (r := []) (n := 2) hm (ckc_at dlaw4 45 rfl) (by decide +kernel) vk_match rfl nl_match rfl rfl rfl rfl (qZ.mono hq (Nat.le_refl _) (fun o' B' hB => ?_))
  obtain ⟨a, rfl, hB0, hB1, hI, hO⟩ := hB
  obtain ⟨y1, y2, y3, y4⟩ := jn_model (B' := B') hcc hz
  refine ⟨_, rfl, ?_⟩
  have yo : (hM 112 h2 B').1 159 = some (.inl (2, 1, f)) := y3.trans ho
  have hw := w (hM 112 h2 B') C' B' c1 s1 ⟨y1, y2, hI, hO, y4.trans hs, _, yo⟩ hcs
  clear hq hj w
  generalize hM 112 h2 B' = h3 at *
  refine v_go (r_st1 (ok := q_isI) (n := 6) (L' := [some (.ref 1000000001), some (.ref 0), some (.ref 112), some (.ref 159), some (iv i), some (iv z), some (iv a), none]) (ckc_at dlaw4 46 rfl) rfl (fun _ => rfl) (fun _ _ => rfl) rfl rfl (by decide) rfl rfl) ?_
  refine v_go (r_ldk (ok := q_isA) (n := 2) (ckc_at dlaw4 47 rfl) rfl rfl (fun _ => rfl) rfl rfl) ?_
  refine v_virtM (k' := k_thrown) (as := []) (r := []) (n := 0) y2 (ckc_at dlaw4 48 rfl) (by decide +kernel) vk_thrown rfl nl_thrown rfl rfl rfl rfl ?_
  refine qZ.mono (d := 0 + 1) (R_thrown (by decide) ⟨_, rfl, ?_⟩) (by omega) (fun _ _ q => q)
  rw [← y2, hB0]
  refine v_go (r_ldk (ok := q_isI) (n := 5) (ckc_at dlaw4 49 rfl) rfl rfl (fun _ => rfl) rfl rfl) ?_
  refine v_icmp (t := 448) (ckc_at dlaw4 50 rfl) (by decide) ⟨by omega, by omega⟩ ⟨by omega, by omega⟩ (fun _ => ?_) (fun q => absurd rfl q)
  refine v_go (r_ldk (ok := q_isI) (n := 5) (ckc_at dlaw4 53 rfl) rfl rfl (fun _ => rfl) rfl rfl) ?_
  have fin : qV d 465 [some (.ref 1000000001), some (.ref 0), some (.ref 112), some (.ref 159), some (iv i), some (iv z), some (iv a), none] [] h3 := v_go (r_goto (t := 943) (ckc_at dlaw4 64 rfl) (by decide)) (v_wk hw ⟨rfl, rfl, rfl, rfl, rfl, trivial⟩)
  refine v_ifz (t := 465) (ckc_at dlaw4 54 rfl) (by decide) ⟨by omega, by omega⟩ (fun _ => fin) (fun q => ?_)
  have z0 : z = 0 := cN_ne q
  refine v_go (r_ldk (ok := q_isA) (n := 3) (ckc_at dlaw4 55 rfl) rfl rfl (fun _ => rfl) rfl rfl) ?_
  refine v_go (r_op (ckc_at dlaw4 56 rfl) rfl (o_const _)) ?_
  refine v_go (r_mem (ckc_at dlaw4 57 rfl) rfl rfl (fun _ => rfl) rfl (m_lald yo (hf z0))) ?_
  refine v_go (r_ldk (ok := q_isI) (n := 6) (ckc_at dlaw4 58 rfl) rfl rfl (fun _ => rfl) rfl rfl) ?_
  refine v_go (r_op (ckc_at dlaw4 59 rfl) rfl rfl) ?_
  refine v_go (r_op (ckc_at dlaw4 60 rfl) rfl (o_lc0 (hB1 z0))) ?_
  exact v_ifz (t := 465) (ckc_at dlaw4 61 rfl) (by decide) ⟨by decide, by decide⟩ (fun _ => fin) (fun q => absurd rfl q)
theorem V_group {d L : Nat} {xs : Nat → Int32} {c0 s0 i : Int} {h : qH} {C B : qB} (hd : 130 ≤ d) (hj : JI L xs c0 s0 h C B) (hc : c0 + 1 ≤ 900000000) (hi : 0 ≤ i ∧ i + 6 ≤ L) (hL : L ≤ 3072) (w : ∀ (h' : qH) (C' B' : qB) (c1 s1 : Int), JI L xs c1 s1 h' C' B' → ((c1 = c0 ∧ s1 = s0) ∨ (c1 = c0 + 1 ∧ s1 = s0 + 6)) → qV d 943 [some (.ref 1000000001), some (.ref 0), some (.ref 112), some (.ref 159), some (iv i), none, none, none] [] h') : qV d 468 [some (.ref 1000000001), some (.ref 0), some (.ref 112), some (.ref 159), some (iv i), none, none, none] [] h := by
  refine v_go (r_ldk (ok := q_isA) (n := 1) (ckc_at dlaw5 0 rfl) rfl rfl (fun _ => rfl) rfl rfl) ?_
  refine v_go (r_ldk (ok := q_isA) (n := 0) (ckc_at dlaw5 1 rfl) rfl rfl (fun _ => rfl) rfl rfl) ?_
  refine v_go (r_ldk (ok := q_isI) (n := 4) (ckc_at dlaw5 2 rfl) rfl rfl (fun _ => rfl) rfl rfl) ?_
  refine v_go (r_op (ckc_at dlaw5 3 rfl) rfl (o_const _)) ?_
  refine v_go (r_op (ckc_at dlaw5 4 rfl) rfl o_iadd) ?_
  refine v_go (r_mem (ckc_at dlaw5 5 rfl) rfl rfl (fun _ => rfl) rfl (m_scr hj.2.2.2.2.1 (by omega) (by omega) hL)) ?_
  refine v_go (r_ldk (ok := q_isA) (n := 0) (ckc_at dlaw5 6 rfl) rfl rfl (fun _ => rfl) rfl rfl) ?_
  refine v_go (r_ldk (ok := q_isI) (n := 4) (ckc_at dlaw5 7 rfl) rfl rfl (fun _ => rfl) rfl rfl) ?_
  refine v_go (r_op (ckc_at dlaw5 8 rfl) rfl (o_const _)) ?_
  refine v_go (r_op (ckc_at dlaw5 9 rfl) rfl o_iadd) ?_
  refine v_go (r_mem (ckc_at dlaw5 10 rfl) rfl rfl (fun _ => rfl) rfl (m_scr hj.2.2.2.2.1 (by omega) (by omega) hL)) ?_
  refine v_go (r_ldk (ok := q_isA) (n := 3) (ckc_at dlaw5 11 rfl) rfl rfl (fun _ => rfl) rfl rfl) ?_
  refine v_wrapU (k := 5) (as := [.ref 0, iv (X xs (i + 1)), iv (X xs (i + 2)), .ref 159]) (r := []) (n := 1) (ckc_at dlaw5 12 rfl) (by decide +kernel) (by decide +kernel) rfl rfl (Nat.le_of_ble_eq_true rfl) (Nat.le_of_ble_eq_true rfl) (Nat.le_of_ble_eq_true rfl) rfl ?_
  refine J_call (mk := iv) (lg := fun a => (Int32.ofInt a).toInt64) hj (PP_group hd hj.2.2.1 hj.2.2.2.1 hc (X_R xs _) (X_R xs _)) (by decide) (fun a b e => iv_in e) (fun Q x => W_group hj.o0 x) (fun z h2 C' c1 s1 out f hm hcc hz hs ho hf h9 hcs hq => ?_)
  refine v_go (r_st1 (ok := q_isI) (n := 5) (L' := [some (.ref 1000000001), some (.ref 0), some (.ref 112), some (.ref 159), some (iv i), some (iv z), none, none]) (ckc_at dlaw5 13 rfl) rfl (fun _ => rfl) (fun _ _ => rfl) rfl rfl (by decide) rfl rfl) ?_
  refine v_go (r_ldk (ok := q_isA) (n := 2) (ckc_at dlaw5 14 rfl) rfl rfl (fun _ => rfl) rfl rfl) ?_
  refine v_go (r_ldk (ok := q_isA) (n := 0) (ckc_at dlaw5 15 rfl) rfl rfl (fun _ => rfl) rfl rfl) ?_
  refine v_go (r_ldk (ok := q_isI) (n := 4) (ckc_at dlaw5 16 rfl) rfl rfl (fun _ => rfl) rfl rfl) ?_
  refine v_go (r_op (ckc_at dlaw5 17 rfl) rfl (o_const _)) ?_
  refine v_go (r_op (ckc_at dlaw5 18 rfl) rfl o_iadd) ?_
  refine v_go (r_mem (ckc_at dlaw5 19 rfl) rfl rfl (fun _ => rfl) rfl (m_scr hs (by omega) (by omega) hL)) ?_
  refine v_go (r_ldk (ok := q_isA) (n := 0) (ckc_at dlaw5 20 rfl) rfl rfl (fun _ => rfl) rfl rfl) ?_
  refine v_go (r_ldk (ok := q_isI) (n := 4) (ckc_at dlaw5 21 rfl) rfl rfl (fun _ => rfl) rfl rfl) ?_
  refine v_go (r_op (ckc_at dlaw5 22 rfl) rfl (o_const _)) ?_
  refine v_go (r_op (ckc_at dlaw5 23 rfl) rfl o_iadd) ?_
  refine v_go (r_mem (ckc_at dlaw5 24 rfl) rfl rfl (fun _ => rfl) rfl (m_scr hs (by omega) (by omega) hL)) ?_
  refine v_virtM (k' := k_group) (as := [iv (X xs (i + 1)), iv (X xs (i + 2))]) (r := []) (n := 0) hm (ckc_at dlaw5 25 rfl) (by decide +kernel) vk_group rfl nl_group rfl rfl rfl rfl (qZ.mono hq (Nat.le_refl _) (fun o' B' hB => ?_))
  obtain ⟨a, rfl, hB0, hB1, hI, hO⟩ := hB
  obtain ⟨y1, y2, y3, y4⟩ := jn_model (B' := B') hcc hz
  refine ⟨_, rfl, ?_⟩
  have yo : (hM 112 h2 B').1 159 = some (.inl (2, 1, f)) := y3.trans ho
  have hw := w (hM 112 h2 B') C' B' c1 s1 ⟨y1, y2, hI, hO, y4.trans hs, _, yo⟩ hcs
  clear hq hj w
  generalize hM 112 h2 B' = h3 at *
  refine v_go (r_st1 (ok := q_isI) (n := 6) (L' := [some (.ref 1000000001), some (.ref 0), some (.ref 112), some (.ref 159), some (iv i), some (iv z), some (iv a), none]) (ckc_at dlaw5 26 rfl) rfl (fun _ => rfl) (fun _ _ => rfl) rfl rfl (by decide) rfl rfl) ?_
  refine v_go (r_ldk (ok := q_isA) (n := 2) (ckc_at dlaw5 27 rfl) rfl rfl (fun _ => rfl) rfl rfl) ?_
  refine v_virtM (k' := k_thrown) (as := []) (r := []) (n := 0) y2 (ckc_at dlaw5 28 rfl) (by decide +kernel) vk_thrown rfl nl_thrown rfl rfl rfl rfl ?_
  refine qZ.mono (d := 0 + 1) (R_thrown (by decide) ⟨_, rfl, ?_⟩) (by omega) (fun _ _ q => q)
  rw [← y2, hB0]
  refine v_go (r_ldk (ok := q_isI) (n := 5) (ckc_at dlaw5 29 rfl) rfl rfl (fun _ => rfl) rfl rfl) ?_
  refine v_icmp (t := 516) (ckc_at dlaw5 30 rfl) (by decide) ⟨by omega, by omega⟩ ⟨by omega, by omega⟩ (fun _ => ?_) (fun q => absurd rfl q)
  refine v_go (r_ldk (ok := q_isI) (n := 5) (ckc_at dlaw5 33 rfl) rfl rfl (fun _ => rfl) rfl rfl) ?_
  have fin : qV d 533 [some (.ref 1000000001), some (.ref 0), some (.ref 112), some (.ref 159), some (iv i), some (iv z), some (iv a), none] [] h3 := v_go (r_goto (t := 943) (ckc_at dlaw5 44 rfl) (by decide)) (v_wk hw ⟨rfl, rfl, rfl, rfl, rfl, trivial⟩)
  refine v_ifz (t := 533) (ckc_at dlaw5 34 rfl) (by decide) ⟨by omega, by omega⟩ (fun _ => fin) (fun q => ?_)
  have z0 : z = 0 := cN_ne q
  refine v_go (r_ldk (ok := q_isA) (n := 3) (ckc_at dlaw5 35 rfl) rfl rfl (fun _ => rfl) rfl rfl) ?_
  refine v_go (r_op (ckc_at dlaw5 36 rfl) rfl (o_const _)) ?_
  refine v_go (r_mem (ckc_at dlaw5 37 rfl) rfl rfl (fun _ => rfl) rfl (m_lald yo (hf z0))) ?_
  refine v_go (r_ldk (ok := q_isI) (n := 6) (ckc_at dlaw5 38 rfl) rfl rfl (fun _ => rfl) rfl rfl) ?_
  refine v_go (r_op (ckc_at dlaw5 39 rfl) rfl rfl) ?_
  refine v_go (r_op (ckc_at dlaw5 40 rfl) rfl (o_lc0 (hB1 z0))) ?_
  exact v_ifz (t := 533) (ckc_at dlaw5 41 rfl) (by decide) ⟨by decide, by decide⟩ (fun _ => fin) (fun q => absurd rfl q)
theorem V_find {d L : Nat} {xs : Nat → Int32} {c0 s0 i : Int} {h : qH} {C B : qB} (hd : 130 ≤ d) (hj : JI L xs c0 s0 h C B) (hc : c0 + 1 ≤ 900000000) (hi : 0 ≤ i ∧ i + 6 ≤ L) (hL : L ≤ 3072) (w : ∀ (h' : qH) (C' B' : qB) (c1 s1 : Int), JI L xs c1 s1 h' C' B' → ((c1 = c0 ∧ s1 = s0) ∨ (c1 = c0 + 1 ∧ s1 = s0 + 6)) → qV d 943 [some (.ref 1000000001), some (.ref 0), some (.ref 112), some (.ref 159), some (iv i), none, none, none] [] h') : qV d 536 [some (.ref 1000000001), some (.ref 0), some (.ref 112), some (.ref 159), some (iv i), none, none, none] [] h := by
  refine v_go (r_ldk (ok := q_isA) (n := 1) (ckc_at dlaw6 0 rfl) rfl rfl (fun _ => rfl) rfl rfl) ?_
  refine v_go (r_ldk (ok := q_isA) (n := 0) (ckc_at dlaw6 1 rfl) rfl rfl (fun _ => rfl) rfl rfl) ?_
  refine v_go (r_ldk (ok := q_isI) (n := 4) (ckc_at dlaw6 2 rfl) rfl rfl (fun _ => rfl) rfl rfl) ?_
  refine v_go (r_op (ckc_at dlaw6 3 rfl) rfl (o_const _)) ?_
  refine v_go (r_op (ckc_at dlaw6 4 rfl) rfl o_iadd) ?_
  refine v_go (r_mem (ckc_at dlaw6 5 rfl) rfl rfl (fun _ => rfl) rfl (m_scr hj.2.2.2.2.1 (by omega) (by omega) hL)) ?_
  refine v_go (r_ldk (ok := q_isA) (n := 0) (ckc_at dlaw6 6 rfl) rfl rfl (fun _ => rfl) rfl rfl) ?_
  refine v_go (r_ldk (ok := q_isI) (n := 4) (ckc_at dlaw6 7 rfl) rfl rfl (fun _ => rfl) rfl rfl) ?_
  refine v_go (r_op (ckc_at dlaw6 8 rfl) rfl (o_const _)) ?_
  refine v_go (r_op (ckc_at dlaw6 9 rfl) rfl o_iadd) ?_
  refine v_go (r_mem (ckc_at dlaw6 10 rfl) rfl rfl (fun _ => rfl) rfl (m_scr hj.2.2.2.2.1 (by omega) (by omega) hL)) ?_
  refine v_go (r_ldk (ok := q_isA) (n := 3) (ckc_at dlaw6 11 rfl) rfl rfl (fun _ => rfl) rfl rfl) ?_
  refine v_wrapU (k := 6) (as := [.ref 0, iv (X xs (i + 1)), iv (X xs (i + 2)), .ref 159]) (r := []) (n := 1) (ckc_at dlaw6 12 rfl) (by decide +kernel) (by decide +kernel) rfl rfl (Nat.le_of_ble_eq_true rfl) (Nat.le_of_ble_eq_true rfl) (Nat.le_of_ble_eq_true rfl) rfl ?_
  refine J_call (mk := iv) (lg := fun a => (Int32.ofInt a).toInt64) hj (PP_find hd hj.2.2.1 hj.2.2.2.1 hc (X_R xs _) (X_R xs _)) (by decide) (fun a b e => iv_in e) (fun Q x => W_find hj.o0 x) (fun z h2 C' c1 s1 out f hm hcc hz hs ho hf h9 hcs hq => ?_)
  refine v_go (r_st1 (ok := q_isI) (n := 5) (L' := [some (.ref 1000000001), some (.ref 0), some (.ref 112), some (.ref 159), some (iv i), some (iv z), none, none]) (ckc_at dlaw6 13 rfl) rfl (fun _ => rfl) (fun _ _ => rfl) rfl rfl (by decide) rfl rfl) ?_
  refine v_go (r_ldk (ok := q_isA) (n := 2) (ckc_at dlaw6 14 rfl) rfl rfl (fun _ => rfl) rfl rfl) ?_
  refine v_go (r_ldk (ok := q_isA) (n := 0) (ckc_at dlaw6 15 rfl) rfl rfl (fun _ => rfl) rfl rfl) ?_
  refine v_go (r_ldk (ok := q_isI) (n := 4) (ckc_at dlaw6 16 rfl) rfl rfl (fun _ => rfl) rfl rfl) ?_
  refine v_go (r_op (ckc_at dlaw6 17 rfl) rfl (o_const _)) ?_
  refine v_go (r_op (ckc_at dlaw6 18 rfl) rfl o_iadd) ?_
  refine v_go (r_mem (ckc_at dlaw6 19 rfl) rfl rfl (fun _ => rfl) rfl (m_scr hs (by omega) (by omega) hL)) ?_
  refine v_go (r_ldk (ok := q_isA) (n := 0) (ckc_at dlaw6 20 rfl) rfl rfl (fun _ => rfl) rfl rfl) ?_
  refine v_go (r_ldk (ok := q_isI) (n := 4) (ckc_at dlaw6 21 rfl) rfl rfl (fun _ => rfl) rfl rfl) ?_
  refine v_go (r_op (ckc_at dlaw6 22 rfl) rfl (o_const _)) ?_
  refine v_go (r_op (ckc_at dlaw6 23 rfl) rfl o_iadd) ?_
  refine v_go (r_mem (ckc_at dlaw6 24 rfl) rfl rfl (fun _ => rfl) rfl (m_scr hs (by omega) (by omega) hL)) ?_
  refine v_virtM (k' := k_find) (as := [iv (X xs (i + 1)), iv (X xs (i + 2))]) (r := []) (n := 1) hm (ckc_at dlaw6 25 rfl) (by decide +kernel) vk_find rfl nl_find rfl rfl rfl rfl (qZ.mono hq (Nat.le_refl _) (fun o' B' hB => ?_))
  obtain ⟨a, rfl, hB0, hB1, hI, hO⟩ := hB
  obtain ⟨y1, y2, y3, y4⟩ := jn_model (B' := B') hcc hz
  refine ⟨_, rfl, ?_⟩
  have yo : (hM 112 h2 B').1 159 = some (.inl (2, 1, f)) := y3.trans ho
  have hw := w (hM 112 h2 B') C' B' c1 s1 ⟨y1, y2, hI, hO, y4.trans hs, _, yo⟩ hcs
  clear hq hj w
  generalize hM 112 h2 B' = h3 at *
  refine v_go (r_st1 (ok := q_isI) (n := 6) (L' := [some (.ref 1000000001), some (.ref 0), some (.ref 112), some (.ref 159), some (iv i), some (iv z), some (iv a), none]) (ckc_at dlaw6 26 rfl) rfl (fun _ => rfl) (fun _ _ => rfl) rfl rfl (by decide) rfl rfl) ?_
  refine v_go (r_ldk (ok := q_isA) (n := 2) (ckc_at dlaw6 27 rfl) rfl rfl (fun _ => rfl) rfl rfl) ?_
  refine v_virtM (k' := k_thrown) (as := []) (r := []) (n := 0) y2 (ckc_at dlaw6 28 rfl) (by decide +kernel) vk_thrown rfl nl_thrown rfl rfl rfl rfl ?_
  refine qZ.mono (d := 0 + 1) (R_thrown (by decide) ⟨_, rfl, ?_⟩) (by omega) (fun _ _ q => q)
  rw [← y2, hB0]
  refine v_go (r_ldk (ok := q_isI) (n := 5) (ckc_at dlaw6 29 rfl) rfl rfl (fun _ => rfl) rfl rfl) ?_
  refine v_icmp (t := 584) (ckc_at dlaw6 30 rfl) (by decide) ⟨by omega, by omega⟩ ⟨by omega, by omega⟩ (fun _ => ?_) (fun q => absurd rfl q)
  refine v_go (r_ldk (ok := q_isI) (n := 5) (ckc_at dlaw6 33 rfl) rfl rfl (fun _ => rfl) rfl rfl) ?_
  have fin : qV d 601 [some (.ref 1000000001), some (.ref 0), some (.ref 112), some (.ref 159), some (iv i), some (iv z), some (iv a), none] [] h3 := v_go (r_goto (t := 943) (ckc_at dlaw6 44 rfl) (by decide)) (v_wk hw ⟨rfl, rfl, rfl, rfl, rfl, trivial⟩)
  refine v_ifz (t := 601) (ckc_at dlaw6 34 rfl) (by decide) ⟨by omega, by omega⟩ (fun _ => fin) (fun q => ?_)
  have z0 : z = 0 := cN_ne q
  refine v_go (r_ldk (ok := q_isA) (n := 3) (ckc_at dlaw6 35 rfl) rfl rfl (fun _ => rfl) rfl rfl) ?_
  refine v_go (r_op (ckc_at dlaw6 36 rfl) rfl (o_const _)) ?_
  refine v_go (r_mem (ckc_at dlaw6 37 rfl) rfl rfl (fun _ => rfl) rfl (m_lald yo (hf z0))) ?_
  refine v_go (r_ldk (ok := q_isI) (n := 6) (ckc_at dlaw6 38 rfl) rfl rfl (fun _ => rfl) rfl rfl) ?_
  refine v_go (r_op (ckc_at dlaw6 39 rfl) rfl rfl) ?_
  refine v_go (r_op (ckc_at dlaw6 40 rfl) rfl (o_lc0 (hB1 z0))) ?_
  exact v_ifz (t := 601) (ckc_at dlaw6 41 rfl) (by decide) ⟨by decide, by decide⟩ (fun _ => fin) (fun q => absurd rfl q)
theorem V_found {d L : Nat} {xs : Nat → Int32} {c0 s0 i : Int} {h : qH} {C B : qB} (hd : 130 ≤ d) (hj : JI L xs c0 s0 h C B) (hc : c0 + 1 ≤ 900000000) (hi : 0 ≤ i ∧ i + 6 ≤ L) (hL : L ≤ 3072) (w : ∀ (h' : qH) (C' B' : qB) (c1 s1 : Int), JI L xs c1 s1 h' C' B' → ((c1 = c0 ∧ s1 = s0) ∨ (c1 = c0 + 1 ∧ s1 = s0 + 6)) → qV d 943 [some (.ref 1000000001), some (.ref 0), some (.ref 112), some (.ref 159), some (iv i), none, none, none] [] h') : qV d 604 [some (.ref 1000000001), some (.ref 0), some (.ref 112), some (.ref 159), some (iv i), none, none, none] [] h := by
  refine v_go (r_ldk (ok := q_isA) (n := 1) (ckc_at dlaw7 0 rfl) rfl rfl (fun _ => rfl) rfl rfl) ?_
  refine v_go (r_ldk (ok := q_isA) (n := 0) (ckc_at dlaw7 1 rfl) rfl rfl (fun _ => rfl) rfl rfl) ?_
  refine v_go (r_ldk (ok := q_isI) (n := 4) (ckc_at dlaw7 2 rfl) rfl rfl (fun _ => rfl) rfl rfl) ?_
  refine v_go (r_op (ckc_at dlaw7 3 rfl) rfl (o_const _)) ?_
  refine v_go (r_op (ckc_at dlaw7 4 rfl) rfl o_iadd) ?_
  refine v_go (r_mem (ckc_at dlaw7 5 rfl) rfl rfl (fun _ => rfl) rfl (m_scr hj.2.2.2.2.1 (by omega) (by omega) hL)) ?_
  refine v_go (r_ldk (ok := q_isA) (n := 0) (ckc_at dlaw7 6 rfl) rfl rfl (fun _ => rfl) rfl rfl) ?_
  refine v_go (r_ldk (ok := q_isI) (n := 4) (ckc_at dlaw7 7 rfl) rfl rfl (fun _ => rfl) rfl rfl) ?_
  refine v_go (r_op (ckc_at dlaw7 8 rfl) rfl (o_const _)) ?_
  refine v_go (r_op (ckc_at dlaw7 9 rfl) rfl o_iadd) ?_
  refine v_go (r_mem (ckc_at dlaw7 10 rfl) rfl rfl (fun _ => rfl) rfl (m_scr hj.2.2.2.2.1 (by omega) (by omega) hL)) ?_
  refine v_go (r_ldk (ok := q_isA) (n := 3) (ckc_at dlaw7 11 rfl) rfl rfl (fun _ => rfl) rfl rfl) ?_
  refine v_wrapU (k := 7) (as := [.ref 0, iv (X xs (i + 1)), iv (X xs (i + 2)), .ref 159]) (r := []) (n := 1) (ckc_at dlaw7 12 rfl) (by decide +kernel) (by decide +kernel) rfl rfl (Nat.le_of_ble_eq_true rfl) (Nat.le_of_ble_eq_true rfl) (Nat.le_of_ble_eq_true rfl) rfl ?_
  refine J_call (mk := iv) (lg := fun a => (Int32.ofInt a).toInt64) hj (PP_found hd hj.2.2.1 hj.2.2.2.1 hc (X_R xs _) (X_R xs _)) (by decide) (fun a b e => iv_in e) (fun Q x => W_found hj.o0 x) (fun z h2 C' c1 s1 out f hm hcc hz hs ho hf h9 hcs hq => ?_)
  refine v_go (r_st1 (ok := q_isI) (n := 5) (L' := [some (.ref 1000000001), some (.ref 0), some (.ref 112), some (.ref 159), some (iv i), some (iv z), none, none]) (ckc_at dlaw7 13 rfl) rfl (fun _ => rfl) (fun _ _ => rfl) rfl rfl (by decide) rfl rfl) ?_
  refine v_go (r_ldk (ok := q_isA) (n := 2) (ckc_at dlaw7 14 rfl) rfl rfl (fun _ => rfl) rfl rfl) ?_
  refine v_go (r_ldk (ok := q_isA) (n := 0) (ckc_at dlaw7 15 rfl) rfl rfl (fun _ => rfl) rfl rfl) ?_
  refine v_go (r_ldk (ok := q_isI) (n := 4) (ckc_at dlaw7 16 rfl) rfl rfl (fun _ => rfl) rfl rfl) ?_
  refine v_go (r_op (ckc_at dlaw7 17 rfl) rfl (o_const _)) ?_
  refine v_go (r_op (ckc_at dlaw7 18 rfl) rfl o_iadd) ?_
  refine v_go (r_mem (ckc_at dlaw7 19 rfl) rfl rfl (fun _ => rfl) rfl (m_scr hs (by omega) (by omega) hL)) ?_
  refine v_go (r_ldk (ok := q_isA) (n := 0) (ckc_at dlaw7 20 rfl) rfl rfl (fun _ => rfl) rfl rfl) ?_
  refine v_go (r_ldk (ok := q_isI) (n := 4) (ckc_at dlaw7 21 rfl) rfl rfl (fun _ => rfl) rfl rfl) ?_
  refine v_go (r_op (ckc_at dlaw7 22 rfl) rfl (o_const _)) ?_
  refine v_go (r_op (ckc_at dlaw7 23 rfl) rfl o_iadd) ?_
  refine v_go (r_mem (ckc_at dlaw7 24 rfl) rfl rfl (fun _ => rfl) rfl (m_scr hs (by omega) (by omega) hL)) ?_
  refine v_virtM (k' := k_found) (as := [iv (X xs (i + 1)), iv (X xs (i + 2))]) (r := []) (n := 0) hm (ckc_at dlaw7 25 rfl) (by decide +kernel) vk_found rfl nl_found rfl rfl rfl rfl (qZ.mono hq (Nat.le_refl _) (fun o' B' hB => ?_))
  obtain ⟨a, rfl, hB0, hB1, hI, hO⟩ := hB
  obtain ⟨y1, y2, y3, y4⟩ := jn_model (B' := B') hcc hz
  refine ⟨_, rfl, ?_⟩
  have yo : (hM 112 h2 B').1 159 = some (.inl (2, 1, f)) := y3.trans ho
  have hw := w (hM 112 h2 B') C' B' c1 s1 ⟨y1, y2, hI, hO, y4.trans hs, _, yo⟩ hcs
  clear hq hj w
  generalize hM 112 h2 B' = h3 at *
  refine v_go (r_st1 (ok := q_isI) (n := 6) (L' := [some (.ref 1000000001), some (.ref 0), some (.ref 112), some (.ref 159), some (iv i), some (iv z), some (iv a), none]) (ckc_at dlaw7 26 rfl) rfl (fun _ => rfl) (fun _ _ => rfl) rfl rfl (by decide) rfl rfl) ?_
  refine v_go (r_ldk (ok := q_isA) (n := 2) (ckc_at dlaw7 27 rfl) rfl rfl (fun _ => rfl) rfl rfl) ?_
  refine v_virtM (k' := k_thrown) (as := []) (r := []) (n := 0) y2 (ckc_at dlaw7 28 rfl) (by decide +kernel) vk_thrown rfl nl_thrown rfl rfl rfl rfl ?_
  refine qZ.mono (d := 0 + 1) (R_thrown (by decide) ⟨_, rfl, ?_⟩) (by omega) (fun _ _ q => q)
  rw [← y2, hB0]
  refine v_go (r_ldk (ok := q_isI) (n := 5) (ckc_at dlaw7 29 rfl) rfl rfl (fun _ => rfl) rfl rfl) ?_
  refine v_icmp (t := 652) (ckc_at dlaw7 30 rfl) (by decide) ⟨by omega, by omega⟩ ⟨by omega, by omega⟩ (fun _ => ?_) (fun q => absurd rfl q)
  refine v_go (r_ldk (ok := q_isI) (n := 5) (ckc_at dlaw7 33 rfl) rfl rfl (fun _ => rfl) rfl rfl) ?_
  have fin : qV d 669 [some (.ref 1000000001), some (.ref 0), some (.ref 112), some (.ref 159), some (iv i), some (iv z), some (iv a), none] [] h3 := v_go (r_goto (t := 943) (ckc_at dlaw7 44 rfl) (by decide)) (v_wk hw ⟨rfl, rfl, rfl, rfl, rfl, trivial⟩)
  refine v_ifz (t := 669) (ckc_at dlaw7 34 rfl) (by decide) ⟨by omega, by omega⟩ (fun _ => fin) (fun q => ?_)
  have z0 : z = 0 := cN_ne q
  refine v_go (r_ldk (ok := q_isA) (n := 3) (ckc_at dlaw7 35 rfl) rfl rfl (fun _ => rfl) rfl rfl) ?_
  refine v_go (r_op (ckc_at dlaw7 36 rfl) rfl (o_const _)) ?_
  refine v_go (r_mem (ckc_at dlaw7 37 rfl) rfl rfl (fun _ => rfl) rfl (m_lald yo (hf z0))) ?_
  refine v_go (r_ldk (ok := q_isI) (n := 6) (ckc_at dlaw7 38 rfl) rfl rfl (fun _ => rfl) rfl rfl) ?_
  refine v_go (r_op (ckc_at dlaw7 39 rfl) rfl rfl) ?_
  refine v_go (r_op (ckc_at dlaw7 40 rfl) rfl (o_lc0 (hB1 z0))) ?_
  exact v_ifz (t := 669) (ckc_at dlaw7 41 rfl) (by decide) ⟨by decide, by decide⟩ (fun _ => fin) (fun q => absurd rfl q)
theorem V_replace {d L : Nat} {xs : Nat → Int32} {c0 s0 i : Int} {h : qH} {C B : qB} (hd : 130 ≤ d) (hj : JI L xs c0 s0 h C B) (hc : c0 + 1 ≤ 900000000) (hi : 0 ≤ i ∧ i + 6 ≤ L) (hL : L ≤ 3072) (w : ∀ (h' : qH) (C' B' : qB) (c1 s1 : Int), JI L xs c1 s1 h' C' B' → ((c1 = c0 ∧ s1 = s0) ∨ (c1 = c0 + 1 ∧ s1 = s0 + 6)) → qV d 943 [some (.ref 1000000001), some (.ref 0), some (.ref 112), some (.ref 159), some (iv i), none, none, none] [] h') : qV d 672 [some (.ref 1000000001), some (.ref 0), some (.ref 112), some (.ref 159), some (iv i), none, none, none] [] h := by
  refine v_go (r_ldk (ok := q_isA) (n := 1) (ckc_at dlaw8 0 rfl) rfl rfl (fun _ => rfl) rfl rfl) ?_
  refine v_go (r_ldk (ok := q_isA) (n := 0) (ckc_at dlaw8 1 rfl) rfl rfl (fun _ => rfl) rfl rfl) ?_
  refine v_go (r_ldk (ok := q_isI) (n := 4) (ckc_at dlaw8 2 rfl) rfl rfl (fun _ => rfl) rfl rfl) ?_
  refine v_go (r_op (ckc_at dlaw8 3 rfl) rfl (o_const _)) ?_
  refine v_go (r_op (ckc_at dlaw8 4 rfl) rfl o_iadd) ?_
  refine v_go (r_mem (ckc_at dlaw8 5 rfl) rfl rfl (fun _ => rfl) rfl (m_scr hj.2.2.2.2.1 (by omega) (by omega) hL)) ?_
  refine v_go (r_ldk (ok := q_isA) (n := 0) (ckc_at dlaw8 6 rfl) rfl rfl (fun _ => rfl) rfl rfl) ?_
  refine v_go (r_ldk (ok := q_isI) (n := 4) (ckc_at dlaw8 7 rfl) rfl rfl (fun _ => rfl) rfl rfl) ?_
  refine v_go (r_op (ckc_at dlaw8 8 rfl) rfl (o_const _)) ?_
  refine v_go (r_op (ckc_at dlaw8 9 rfl) rfl o_iadd) ?_
  refine v_go (r_mem (ckc_at dlaw8 10 rfl) rfl rfl (fun _ => rfl) rfl (m_scr hj.2.2.2.2.1 (by omega) (by omega) hL)) ?_
  refine v_go (r_ldk (ok := q_isA) (n := 3) (ckc_at dlaw8 11 rfl) rfl rfl (fun _ => rfl) rfl rfl) ?_
  refine v_wrapU (k := 8) (as := [.ref 0, iv (X xs (i + 1)), iv (X xs (i + 2)), .ref 159]) (r := []) (n := 1) (ckc_at dlaw8 12 rfl) (by decide +kernel) (by decide +kernel) rfl rfl (Nat.le_of_ble_eq_true rfl) (Nat.le_of_ble_eq_true rfl) (Nat.le_of_ble_eq_true rfl) rfl ?_
  refine J_call (mk := iv) (lg := fun a => (Int32.ofInt a).toInt64) hj (PP_replace hd hj.2.2.1 hj.2.2.2.1 hc (X_R xs _) (X_R xs _)) (by decide) (fun a b e => iv_in e) (fun Q x => W_replace hj.o0 x) (fun z h2 C' c1 s1 out f hm hcc hz hs ho hf h9 hcs hq => ?_)
  refine v_go (r_st1 (ok := q_isI) (n := 5) (L' := [some (.ref 1000000001), some (.ref 0), some (.ref 112), some (.ref 159), some (iv i), some (iv z), none, none]) (ckc_at dlaw8 13 rfl) rfl (fun _ => rfl) (fun _ _ => rfl) rfl rfl (by decide) rfl rfl) ?_
  refine v_go (r_ldk (ok := q_isA) (n := 2) (ckc_at dlaw8 14 rfl) rfl rfl (fun _ => rfl) rfl rfl) ?_
  refine v_go (r_ldk (ok := q_isA) (n := 0) (ckc_at dlaw8 15 rfl) rfl rfl (fun _ => rfl) rfl rfl) ?_
  refine v_go (r_ldk (ok := q_isI) (n := 4) (ckc_at dlaw8 16 rfl) rfl rfl (fun _ => rfl) rfl rfl) ?_
  refine v_go (r_op (ckc_at dlaw8 17 rfl) rfl (o_const _)) ?_
  refine v_go (r_op (ckc_at dlaw8 18 rfl) rfl o_iadd) ?_
  refine v_go (r_mem (ckc_at dlaw8 19 rfl) rfl rfl (fun _ => rfl) rfl (m_scr hs (by omega) (by omega) hL)) ?_
  refine v_go (r_ldk (ok := q_isA) (n := 0) (ckc_at dlaw8 20 rfl) rfl rfl (fun _ => rfl) rfl rfl) ?_
  refine v_go (r_ldk (ok := q_isI) (n := 4) (ckc_at dlaw8 21 rfl) rfl rfl (fun _ => rfl) rfl rfl) ?_
  refine v_go (r_op (ckc_at dlaw8 22 rfl) rfl (o_const _)) ?_
  refine v_go (r_op (ckc_at dlaw8 23 rfl) rfl o_iadd) ?_
  refine v_go (r_mem (ckc_at dlaw8 24 rfl) rfl rfl (fun _ => rfl) rfl (m_scr hs (by omega) (by omega) hL)) ?_
  refine v_virtM (k' := k_replace) (as := [iv (X xs (i + 1)), iv (X xs (i + 2))]) (r := []) (n := 3) hm (ckc_at dlaw8 25 rfl) (by decide +kernel) vk_replace rfl nl_replace rfl rfl rfl rfl (qZ.mono hq (Nat.le_refl _) (fun o' B' hB => ?_))
  obtain ⟨a, rfl, hB0, hB1, hI, hO⟩ := hB
  obtain ⟨y1, y2, y3, y4⟩ := jn_model (B' := B') hcc hz
  refine ⟨_, rfl, ?_⟩
  have yo : (hM 112 h2 B').1 159 = some (.inl (2, 1, f)) := y3.trans ho
  have hw := w (hM 112 h2 B') C' B' c1 s1 ⟨y1, y2, hI, hO, y4.trans hs, _, yo⟩ hcs
  clear hq hj w
  generalize hM 112 h2 B' = h3 at *
  refine v_go (r_st1 (ok := q_isI) (n := 6) (L' := [some (.ref 1000000001), some (.ref 0), some (.ref 112), some (.ref 159), some (iv i), some (iv z), some (iv a), none]) (ckc_at dlaw8 26 rfl) rfl (fun _ => rfl) (fun _ _ => rfl) rfl rfl (by decide) rfl rfl) ?_
  refine v_go (r_ldk (ok := q_isA) (n := 2) (ckc_at dlaw8 27 rfl) rfl rfl (fun _ => rfl) rfl rfl) ?_
  refine v_virtM (k' := k_thrown) (as := []) (r := []) (n := 0) y2 (ckc_at dlaw8 28 rfl) (by decide +kernel) vk_thrown rfl nl_thrown rfl rfl rfl rfl ?_
  refine qZ.mono (d := 0 + 1) (R_thrown (by decide) ⟨_, rfl, ?_⟩) (by omega) (fun _ _ q => q)
  rw [← y2, hB0]
  refine v_go (r_ldk (ok := q_isI) (n := 5) (ckc_at dlaw8 29 rfl) rfl rfl (fun _ => rfl) rfl rfl) ?_
  refine v_icmp (t := 720) (ckc_at dlaw8 30 rfl) (by decide) ⟨by omega, by omega⟩ ⟨by omega, by omega⟩ (fun _ => ?_) (fun q => absurd rfl q)
  refine v_go (r_ldk (ok := q_isI) (n := 5) (ckc_at dlaw8 33 rfl) rfl rfl (fun _ => rfl) rfl rfl) ?_
  have fin : qV d 737 [some (.ref 1000000001), some (.ref 0), some (.ref 112), some (.ref 159), some (iv i), some (iv z), some (iv a), none] [] h3 := v_go (r_goto (t := 943) (ckc_at dlaw8 44 rfl) (by decide)) (v_wk hw ⟨rfl, rfl, rfl, rfl, rfl, trivial⟩)
  refine v_ifz (t := 737) (ckc_at dlaw8 34 rfl) (by decide) ⟨by omega, by omega⟩ (fun _ => fin) (fun q => ?_)
  have z0 : z = 0 := cN_ne q
  refine v_go (r_ldk (ok := q_isA) (n := 3) (ckc_at dlaw8 35 rfl) rfl rfl (fun _ => rfl) rfl rfl) ?_
  refine v_go (r_op (ckc_at dlaw8 36 rfl) rfl (o_const _)) ?_
  refine v_go (r_mem (ckc_at dlaw8 37 rfl) rfl rfl (fun _ => rfl) rfl (m_lald yo (hf z0))) ?_
  refine v_go (r_ldk (ok := q_isI) (n := 6) (ckc_at dlaw8 38 rfl) rfl rfl (fun _ => rfl) rfl rfl) ?_
  refine v_go (r_op (ckc_at dlaw8 39 rfl) rfl rfl) ?_
  refine v_go (r_op (ckc_at dlaw8 40 rfl) rfl (o_lc0 (hB1 z0))) ?_
  exact v_ifz (t := 737) (ckc_at dlaw8 41 rfl) (by decide) ⟨by decide, by decide⟩ (fun _ => fin) (fun q => absurd rfl q)
theorem V_span {d L : Nat} {xs : Nat → Int32} {c0 s0 i : Int} {h : qH} {C B : qB} (hd : 130 ≤ d) (hj : JI L xs c0 s0 h C B) (hc : c0 + 1 ≤ 900000000) (hi : 0 ≤ i ∧ i + 6 ≤ L) (hL : L ≤ 3072) (w : ∀ (h' : qH) (C' B' : qB) (c1 s1 : Int), JI L xs c1 s1 h' C' B' → ((c1 = c0 ∧ s1 = s0) ∨ (c1 = c0 + 1 ∧ s1 = s0 + 6)) → qV d 943 [some (.ref 1000000001), some (.ref 0), some (.ref 112), some (.ref 159), some (iv i), none, none, none] [] h') : qV d 740 [some (.ref 1000000001), some (.ref 0), some (.ref 112), some (.ref 159), some (iv i), none, none, none] [] h := by
  refine v_go (r_ldk (ok := q_isA) (n := 1) (ckc_at dlaw9 0 rfl) rfl rfl (fun _ => rfl) rfl rfl) ?_
  refine v_go (r_ldk (ok := q_isA) (n := 0) (ckc_at dlaw9 1 rfl) rfl rfl (fun _ => rfl) rfl rfl) ?_
  refine v_go (r_ldk (ok := q_isI) (n := 4) (ckc_at dlaw9 2 rfl) rfl rfl (fun _ => rfl) rfl rfl) ?_
  refine v_go (r_op (ckc_at dlaw9 3 rfl) rfl (o_const _)) ?_
  refine v_go (r_op (ckc_at dlaw9 4 rfl) rfl o_iadd) ?_
  refine v_go (r_mem (ckc_at dlaw9 5 rfl) rfl rfl (fun _ => rfl) rfl (m_scr hj.2.2.2.2.1 (by omega) (by omega) hL)) ?_
  refine v_go (r_ldk (ok := q_isA) (n := 0) (ckc_at dlaw9 6 rfl) rfl rfl (fun _ => rfl) rfl rfl) ?_
  refine v_go (r_ldk (ok := q_isI) (n := 4) (ckc_at dlaw9 7 rfl) rfl rfl (fun _ => rfl) rfl rfl) ?_
  refine v_go (r_op (ckc_at dlaw9 8 rfl) rfl (o_const _)) ?_
  refine v_go (r_op (ckc_at dlaw9 9 rfl) rfl o_iadd) ?_
  refine v_go (r_mem (ckc_at dlaw9 10 rfl) rfl rfl (fun _ => rfl) rfl (m_scr hj.2.2.2.2.1 (by omega) (by omega) hL)) ?_
  refine v_go (r_ldk (ok := q_isA) (n := 0) (ckc_at dlaw9 11 rfl) rfl rfl (fun _ => rfl) rfl rfl) ?_
  refine v_go (r_ldk (ok := q_isI) (n := 4) (ckc_at dlaw9 12 rfl) rfl rfl (fun _ => rfl) rfl rfl) ?_
  refine v_go (r_op (ckc_at dlaw9 13 rfl) rfl (o_const _)) ?_
  refine v_go (r_op (ckc_at dlaw9 14 rfl) rfl o_iadd) ?_
  refine v_go (r_mem (ckc_at dlaw9 15 rfl) rfl rfl (fun _ => rfl) rfl (m_scr hj.2.2.2.2.1 (by omega) (by omega) hL)) ?_
  refine v_go (r_ldk (ok := q_isA) (n := 3) (ckc_at dlaw9 16 rfl) rfl rfl (fun _ => rfl) rfl rfl) ?_
  refine v_wrapU (k := 9) (as := [.ref 0, iv (X xs (i + 1)), iv (X xs (i + 2)), iv (X xs (i + 3)), .ref 159]) (r := []) (n := 1) (ckc_at dlaw9 17 rfl) (by decide +kernel) (by decide +kernel) rfl rfl (Nat.le_of_ble_eq_true rfl) (Nat.le_of_ble_eq_true rfl) (Nat.le_of_ble_eq_true rfl) rfl ?_
  refine J_call (mk := iv) (lg := fun a => (Int32.ofInt a).toInt64) hj (PP_span hd hj.2.2.1 hj.2.2.2.1 hc (X_R xs _) (X_R xs _) (X_R xs _)) (by decide) (fun a b e => iv_in e) (fun Q x => W_span hj.o0 x) (fun z h2 C' c1 s1 out f hm hcc hz hs ho hf h9 hcs hq => ?_)
  refine v_go (r_st1 (ok := q_isI) (n := 5) (L' := [some (.ref 1000000001), some (.ref 0), some (.ref 112), some (.ref 159), some (iv i), some (iv z), none, none]) (ckc_at dlaw9 18 rfl) rfl (fun _ => rfl) (fun _ _ => rfl) rfl rfl (by decide) rfl rfl) ?_
  refine v_go (r_ldk (ok := q_isA) (n := 2) (ckc_at dlaw9 19 rfl) rfl rfl (fun _ => rfl) rfl rfl) ?_
  refine v_go (r_ldk (ok := q_isA) (n := 0) (ckc_at dlaw9 20 rfl) rfl rfl (fun _ => rfl) rfl rfl) ?_
  refine v_go (r_ldk (ok := q_isI) (n := 4) (ckc_at dlaw9 21 rfl) rfl rfl (fun _ => rfl) rfl rfl) ?_
  refine v_go (r_op (ckc_at dlaw9 22 rfl) rfl (o_const _)) ?_
  refine v_go (r_op (ckc_at dlaw9 23 rfl) rfl o_iadd) ?_
  refine v_go (r_mem (ckc_at dlaw9 24 rfl) rfl rfl (fun _ => rfl) rfl (m_scr hs (by omega) (by omega) hL)) ?_
  refine v_go (r_ldk (ok := q_isA) (n := 0) (ckc_at dlaw9 25 rfl) rfl rfl (fun _ => rfl) rfl rfl) ?_
  refine v_go (r_ldk (ok := q_isI) (n := 4) (ckc_at dlaw9 26 rfl) rfl rfl (fun _ => rfl) rfl rfl) ?_
  refine v_go (r_op (ckc_at dlaw9 27 rfl) rfl (o_const _)) ?_
  refine v_go (r_op (ckc_at dlaw9 28 rfl) rfl o_iadd) ?_
  refine v_go (r_mem (ckc_at dlaw9 29 rfl) rfl rfl (fun _ => rfl) rfl (m_scr hs (by omega) (by omega) hL)) ?_
  refine v_go (r_ldk (ok := q_isA) (n := 0) (ckc_at dlaw9 30 rfl) rfl rfl (fun _ => rfl) rfl rfl) ?_
  refine v_go (r_ldk (ok := q_isI) (n := 4) (ckc_at dlaw9 31 rfl) rfl rfl (fun _ => rfl) rfl rfl) ?_
  refine v_go (r_op (ckc_at dlaw9 32 rfl) rfl (o_const _)) ?_
  refine v_go (r_op (ckc_at dlaw9 33 rfl) rfl o_iadd) ?_
  refine v_go (r_mem (ckc_at dlaw9 34 rfl) rfl rfl (fun _ => rfl) rfl (m_scr hs (by omega) (by omega) hL)) ?_
  refine v_virtM (k' := k_span) (as := [iv (X xs (i + 1)), iv (X xs (i + 2)), iv (X xs (i + 3))]) (r := []) (n := 2) hm (ckc_at dlaw9 35 rfl) (by decide +kernel) vk_span rfl nl_span rfl rfl rfl rfl (qZ.mono hq (Nat.le_refl _) (fun o' B' hB => ?_))
  obtain ⟨a, rfl, hB0, hB1, hI, hO⟩ := hB
  obtain ⟨y1, y2, y3, y4⟩ := jn_model (B' := B') hcc hz
  refine ⟨_, rfl, ?_⟩
  have yo : (hM 112 h2 B').1 159 = some (.inl (2, 1, f)) := y3.trans ho
  have hw := w (hM 112 h2 B') C' B' c1 s1 ⟨y1, y2, hI, hO, y4.trans hs, _, yo⟩ hcs
  clear hq hj w
  generalize hM 112 h2 B' = h3 at *
  refine v_go (r_st1 (ok := q_isI) (n := 6) (L' := [some (.ref 1000000001), some (.ref 0), some (.ref 112), some (.ref 159), some (iv i), some (iv z), some (iv a), none]) (ckc_at dlaw9 36 rfl) rfl (fun _ => rfl) (fun _ _ => rfl) rfl rfl (by decide) rfl rfl) ?_
  refine v_go (r_ldk (ok := q_isA) (n := 2) (ckc_at dlaw9 37 rfl) rfl rfl (fun _ => rfl) rfl rfl) ?_
  refine v_virtM (k' := k_thrown) (as := []) (r := []) (n := 0) y2 (ckc_at dlaw9 38 rfl) (by decide +kernel) vk_thrown rfl nl_thrown rfl rfl rfl rfl ?_
  refine qZ.mono (d := 0 + 1) (R_thrown (by decide) ⟨_, rfl, ?_⟩) (by omega) (fun _ _ q => q)
  rw [← y2, hB0]
  refine v_go (r_ldk (ok := q_isI) (n := 5) (ckc_at dlaw9 39 rfl) rfl rfl (fun _ => rfl) rfl rfl) ?_
  refine v_icmp (t := 800) (ckc_at dlaw9 40 rfl) (by decide) ⟨by omega, by omega⟩ ⟨by omega, by omega⟩ (fun _ => ?_) (fun q => absurd rfl q)
  refine v_go (r_ldk (ok := q_isI) (n := 5) (ckc_at dlaw9 43 rfl) rfl rfl (fun _ => rfl) rfl rfl) ?_
  have fin : qV d 817 [some (.ref 1000000001), some (.ref 0), some (.ref 112), some (.ref 159), some (iv i), some (iv z), some (iv a), none] [] h3 := v_go (r_goto (t := 943) (ckc_at dlaw9 54 rfl) (by decide)) (v_wk hw ⟨rfl, rfl, rfl, rfl, rfl, trivial⟩)
  refine v_ifz (t := 817) (ckc_at dlaw9 44 rfl) (by decide) ⟨by omega, by omega⟩ (fun _ => fin) (fun q => ?_)
  have z0 : z = 0 := cN_ne q
  refine v_go (r_ldk (ok := q_isA) (n := 3) (ckc_at dlaw9 45 rfl) rfl rfl (fun _ => rfl) rfl rfl) ?_
  refine v_go (r_op (ckc_at dlaw9 46 rfl) rfl (o_const _)) ?_
  refine v_go (r_mem (ckc_at dlaw9 47 rfl) rfl rfl (fun _ => rfl) rfl (m_lald yo (hf z0))) ?_
  refine v_go (r_ldk (ok := q_isI) (n := 6) (ckc_at dlaw9 48 rfl) rfl rfl (fun _ => rfl) rfl rfl) ?_
  refine v_go (r_op (ckc_at dlaw9 49 rfl) rfl rfl) ?_
  refine v_go (r_op (ckc_at dlaw9 50 rfl) rfl (o_lc0 (hB1 z0))) ?_
  exact v_ifz (t := 817) (ckc_at dlaw9 51 rfl) (by decide) ⟨by decide, by decide⟩ (fun _ => fin) (fun q => absurd rfl q)
theorem V_word {d L : Nat} {xs : Nat → Int32} {c0 s0 i : Int} {h : qH} {C B : qB} (hd : 130 ≤ d) (hj : JI L xs c0 s0 h C B) (hc : c0 + 1 ≤ 900000000) (hi : 0 ≤ i ∧ i + 6 ≤ L) (hL : L ≤ 3072) (w : ∀ (h' : qH) (C' B' : qB) (c1 s1 : Int), JI L xs c1 s1 h' C' B' → ((c1 = c0 ∧ s1 = s0) ∨ (c1 = c0 + 1 ∧ s1 = s0 + 6)) → qV d 943 [some (.ref 1000000001), some (.ref 0), some (.ref 112), some (.ref 159), some (iv i), none, none, none] [] h') : qV d 820 [some (.ref 1000000001), some (.ref 0), some (.ref 112), some (.ref 159), some (iv i), none, none, none] [] h := by
  refine v_go (r_ldk (ok := q_isA) (n := 1) (ckc_at dlaw10 0 rfl) rfl rfl (fun _ => rfl) rfl rfl) ?_
  refine v_go (r_ldk (ok := q_isA) (n := 0) (ckc_at dlaw10 1 rfl) rfl rfl (fun _ => rfl) rfl rfl) ?_
  refine v_go (r_ldk (ok := q_isI) (n := 4) (ckc_at dlaw10 2 rfl) rfl rfl (fun _ => rfl) rfl rfl) ?_
  refine v_go (r_op (ckc_at dlaw10 3 rfl) rfl (o_const _)) ?_
  refine v_go (r_op (ckc_at dlaw10 4 rfl) rfl o_iadd) ?_
  refine v_go (r_mem (ckc_at dlaw10 5 rfl) rfl rfl (fun _ => rfl) rfl (m_scr hj.2.2.2.2.1 (by omega) (by omega) hL)) ?_
  refine v_go (r_ldk (ok := q_isA) (n := 0) (ckc_at dlaw10 6 rfl) rfl rfl (fun _ => rfl) rfl rfl) ?_
  refine v_go (r_ldk (ok := q_isI) (n := 4) (ckc_at dlaw10 7 rfl) rfl rfl (fun _ => rfl) rfl rfl) ?_
  refine v_go (r_op (ckc_at dlaw10 8 rfl) rfl (o_const _)) ?_
  refine v_go (r_op (ckc_at dlaw10 9 rfl) rfl o_iadd) ?_
  refine v_go (r_mem (ckc_at dlaw10 10 rfl) rfl rfl (fun _ => rfl) rfl (m_scr hj.2.2.2.2.1 (by omega) (by omega) hL)) ?_
  refine v_go (r_ldk (ok := q_isA) (n := 3) (ckc_at dlaw10 11 rfl) rfl rfl (fun _ => rfl) rfl rfl) ?_
  refine v_wrapU (k := 10) (as := [.ref 0, iv (X xs (i + 1)), iv (X xs (i + 2)), .ref 159]) (r := []) (n := 1) (ckc_at dlaw10 12 rfl) (by decide +kernel) (by decide +kernel) rfl rfl (Nat.le_of_ble_eq_true rfl) (Nat.le_of_ble_eq_true rfl) (Nat.le_of_ble_eq_true rfl) rfl ?_
  refine J_call (mk := wv) (lg := fun a => Int64.ofInt a) hj (PP_word hd hj.2.2.1 hj.2.2.2.1 hc (X_R xs _) (X_R xs _)) (by decide) (fun a b e => wv_in e) (fun Q x => W_word hj.o0 x) (fun z h2 C' c1 s1 out f hm hcc hz hs ho hf h9 hcs hq => ?_)
  refine v_go (r_st1 (ok := q_isI) (n := 5) (L' := [some (.ref 1000000001), some (.ref 0), some (.ref 112), some (.ref 159), some (iv i), some (iv z), none, none]) (ckc_at dlaw10 13 rfl) rfl (fun _ => rfl) (fun _ _ => rfl) rfl rfl (by decide) rfl rfl) ?_
  refine v_go (r_ldk (ok := q_isA) (n := 2) (ckc_at dlaw10 14 rfl) rfl rfl (fun _ => rfl) rfl rfl) ?_
  refine v_go (r_ldk (ok := q_isA) (n := 0) (ckc_at dlaw10 15 rfl) rfl rfl (fun _ => rfl) rfl rfl) ?_
  refine v_go (r_ldk (ok := q_isI) (n := 4) (ckc_at dlaw10 16 rfl) rfl rfl (fun _ => rfl) rfl rfl) ?_
  refine v_go (r_op (ckc_at dlaw10 17 rfl) rfl (o_const _)) ?_
  refine v_go (r_op (ckc_at dlaw10 18 rfl) rfl o_iadd) ?_
  refine v_go (r_mem (ckc_at dlaw10 19 rfl) rfl rfl (fun _ => rfl) rfl (m_scr hs (by omega) (by omega) hL)) ?_
  refine v_go (r_ldk (ok := q_isA) (n := 0) (ckc_at dlaw10 20 rfl) rfl rfl (fun _ => rfl) rfl rfl) ?_
  refine v_go (r_ldk (ok := q_isI) (n := 4) (ckc_at dlaw10 21 rfl) rfl rfl (fun _ => rfl) rfl rfl) ?_
  refine v_go (r_op (ckc_at dlaw10 22 rfl) rfl (o_const _)) ?_
  refine v_go (r_op (ckc_at dlaw10 23 rfl) rfl o_iadd) ?_
  refine v_go (r_mem (ckc_at dlaw10 24 rfl) rfl rfl (fun _ => rfl) rfl (m_scr hs (by omega) (by omega) hL)) ?_
  refine v_virtM (k' := k_word) (as := [iv (X xs (i + 1)), iv (X xs (i + 2))]) (r := []) (n := 3) hm (ckc_at dlaw10 25 rfl) (by decide +kernel) vk_word rfl nl_word rfl rfl rfl rfl (qZ.mono hq (Nat.le_refl _) (fun o' B' hB => ?_))
  obtain ⟨a, rfl, hB0, hB1, hI, hO⟩ := hB
  obtain ⟨y1, y2, y3, y4⟩ := jn_model (B' := B') hcc hz
  refine ⟨_, rfl, ?_⟩
  have yo : (hM 112 h2 B').1 159 = some (.inl (2, 1, f)) := y3.trans ho
  have hw := w (hM 112 h2 B') C' B' c1 s1 ⟨y1, y2, hI, hO, y4.trans hs, _, yo⟩ hcs
  clear hq hj w
  generalize hM 112 h2 B' = h3 at *
  refine v_go (r_st2 (n := 6) (L' := [some (.ref 1000000001), some (.ref 0), some (.ref 112), some (.ref 159), some (iv i), some (iv z), some (wv a), none]) (ckc_at dlaw10 26 rfl) rfl (fun _ => rfl) (fun _ _ => rfl) rfl rfl (by decide) rfl rfl) ?_
  refine v_go (r_ldk (ok := q_isA) (n := 2) (ckc_at dlaw10 27 rfl) rfl rfl (fun _ => rfl) rfl rfl) ?_
  refine v_virtM (k' := k_thrown) (as := []) (r := []) (n := 0) y2 (ckc_at dlaw10 28 rfl) (by decide +kernel) vk_thrown rfl nl_thrown rfl rfl rfl rfl ?_
  refine qZ.mono (d := 0 + 1) (R_thrown (by decide) ⟨_, rfl, ?_⟩) (by omega) (fun _ _ q => q)
  rw [← y2, hB0]
  refine v_go (r_ldk (ok := q_isI) (n := 5) (ckc_at dlaw10 29 rfl) rfl rfl (fun _ => rfl) rfl rfl) ?_
  refine v_icmp (t := 868) (ckc_at dlaw10 30 rfl) (by decide) ⟨by omega, by omega⟩ ⟨by omega, by omega⟩ (fun _ => ?_) (fun q => absurd rfl q)
  refine v_go (r_ldk (ok := q_isI) (n := 5) (ckc_at dlaw10 33 rfl) rfl rfl (fun _ => rfl) rfl rfl) ?_
  have fin : qV d 884 [some (.ref 1000000001), some (.ref 0), some (.ref 112), some (.ref 159), some (iv i), some (iv z), some (wv a), none] [] h3 := v_go (r_goto (t := 943) (ckc_at dlaw10 43 rfl) (by decide)) (v_wk hw ⟨rfl, rfl, rfl, rfl, rfl, trivial⟩)
  refine v_ifz (t := 884) (ckc_at dlaw10 34 rfl) (by decide) ⟨by omega, by omega⟩ (fun _ => fin) (fun q => ?_)
  have z0 : z = 0 := cN_ne q
  refine v_go (r_ldk (ok := q_isA) (n := 3) (ckc_at dlaw10 35 rfl) rfl rfl (fun _ => rfl) rfl rfl) ?_
  refine v_go (r_op (ckc_at dlaw10 36 rfl) rfl (o_const _)) ?_
  refine v_go (r_mem (ckc_at dlaw10 37 rfl) rfl rfl (fun _ => rfl) rfl (m_lald yo (hf z0))) ?_
  refine v_go (r_ldk (ok := q_isL) (n := 6) (ckc_at dlaw10 38 rfl) rfl rfl (fun _ => rfl) rfl rfl) ?_
  refine v_go (r_op (ckc_at dlaw10 39 rfl) rfl (o_lc0 (hB1 z0))) ?_
  exact v_ifz (t := 884) (ckc_at dlaw10 40 rfl) (by decide) ⟨by decide, by decide⟩ (fun _ => fin) (fun q => absurd rfl q)
theorem V_count {d L : Nat} {xs : Nat → Int32} {c0 s0 i : Int} {h : qH} {C B : qB} (hd : 130 ≤ d) (hj : JI L xs c0 s0 h C B) (hc : c0 + 1 ≤ 900000000) (hi : 0 ≤ i ∧ i + 6 ≤ L) (hL : L ≤ 3072) (w : ∀ (h' : qH) (C' B' : qB) (c1 s1 : Int), JI L xs c1 s1 h' C' B' → ((c1 = c0 ∧ s1 = s0) ∨ (c1 = c0 + 1 ∧ s1 = s0 + 6)) → qV d 943 [some (.ref 1000000001), some (.ref 0), some (.ref 112), some (.ref 159), some (iv i), none, none, none] [] h') : qV d 887 [some (.ref 1000000001), some (.ref 0), some (.ref 112), some (.ref 159), some (iv i), none, none, none] [] h := by
  refine v_go (r_ldk (ok := q_isA) (n := 1) (ckc_at dlaw11 0 rfl) rfl rfl (fun _ => rfl) rfl rfl) ?_
  refine v_go (r_ldk (ok := q_isA) (n := 0) (ckc_at dlaw11 1 rfl) rfl rfl (fun _ => rfl) rfl rfl) ?_
  refine v_go (r_ldk (ok := q_isI) (n := 4) (ckc_at dlaw11 2 rfl) rfl rfl (fun _ => rfl) rfl rfl) ?_
  refine v_go (r_op (ckc_at dlaw11 3 rfl) rfl (o_const _)) ?_
  refine v_go (r_op (ckc_at dlaw11 4 rfl) rfl o_iadd) ?_
  refine v_go (r_mem (ckc_at dlaw11 5 rfl) rfl rfl (fun _ => rfl) rfl (m_scr hj.2.2.2.2.1 (by omega) (by omega) hL)) ?_
  refine v_go (r_ldk (ok := q_isA) (n := 3) (ckc_at dlaw11 6 rfl) rfl rfl (fun _ => rfl) rfl rfl) ?_
  refine v_wrapU (k := 11) (as := [.ref 0, iv (X xs (i + 1)), .ref 159]) (r := []) (n := 1) (ckc_at dlaw11 7 rfl) (by decide +kernel) (by decide +kernel) rfl rfl (Nat.le_of_ble_eq_true rfl) (Nat.le_of_ble_eq_true rfl) (Nat.le_of_ble_eq_true rfl) rfl ?_
  refine J_call (mk := iv) (lg := fun a => (Int32.ofInt a).toInt64) hj (PP_count hd hj.2.2.1 hj.2.2.2.1 hc (X_R xs _)) (by decide) (fun a b e => iv_in e) (fun Q x => W_count hj.o0 x) (fun z h2 C' c1 s1 out f hm hcc hz hs ho hf h9 hcs hq => ?_)
  refine v_go (r_st1 (ok := q_isI) (n := 5) (L' := [some (.ref 1000000001), some (.ref 0), some (.ref 112), some (.ref 159), some (iv i), some (iv z), none, none]) (ckc_at dlaw11 8 rfl) rfl (fun _ => rfl) (fun _ _ => rfl) rfl rfl (by decide) rfl rfl) ?_
  refine v_go (r_ldk (ok := q_isA) (n := 2) (ckc_at dlaw11 9 rfl) rfl rfl (fun _ => rfl) rfl rfl) ?_
  refine v_go (r_ldk (ok := q_isA) (n := 0) (ckc_at dlaw11 10 rfl) rfl rfl (fun _ => rfl) rfl rfl) ?_
  refine v_go (r_ldk (ok := q_isI) (n := 4) (ckc_at dlaw11 11 rfl) rfl rfl (fun _ => rfl) rfl rfl) ?_
  refine v_go (r_op (ckc_at dlaw11 12 rfl) rfl (o_const _)) ?_
  refine v_go (r_op (ckc_at dlaw11 13 rfl) rfl o_iadd) ?_
  refine v_go (r_mem (ckc_at dlaw11 14 rfl) rfl rfl (fun _ => rfl) rfl (m_scr hs (by omega) (by omega) hL)) ?_
  refine v_virtM (k' := k_count) (as := [iv (X xs (i + 1))]) (r := []) (n := 0) hm (ckc_at dlaw11 15 rfl) (by decide +kernel) vk_count rfl nl_count rfl rfl rfl rfl (qZ.mono hq (Nat.le_refl _) (fun o' B' hB => ?_))
  obtain ⟨a, rfl, hB0, hB1, hI, hO⟩ := hB
  obtain ⟨y1, y2, y3, y4⟩ := jn_model (B' := B') hcc hz
  refine ⟨_, rfl, ?_⟩
  have yo : (hM 112 h2 B').1 159 = some (.inl (2, 1, f)) := y3.trans ho
  have hw := w (hM 112 h2 B') C' B' c1 s1 ⟨y1, y2, hI, hO, y4.trans hs, _, yo⟩ hcs
  clear hq hj w
  generalize hM 112 h2 B' = h3 at *
  refine v_go (r_st1 (ok := q_isI) (n := 6) (L' := [some (.ref 1000000001), some (.ref 0), some (.ref 112), some (.ref 159), some (iv i), some (iv z), some (iv a), none]) (ckc_at dlaw11 16 rfl) rfl (fun _ => rfl) (fun _ _ => rfl) rfl rfl (by decide) rfl rfl) ?_
  refine v_go (r_ldk (ok := q_isA) (n := 2) (ckc_at dlaw11 17 rfl) rfl rfl (fun _ => rfl) rfl rfl) ?_
  refine v_virtM (k' := k_thrown) (as := []) (r := []) (n := 0) y2 (ckc_at dlaw11 18 rfl) (by decide +kernel) vk_thrown rfl nl_thrown rfl rfl rfl rfl ?_
  refine qZ.mono (d := 0 + 1) (R_thrown (by decide) ⟨_, rfl, ?_⟩) (by omega) (fun _ _ q => q)
  rw [← y2, hB0]
  refine v_go (r_ldk (ok := q_isI) (n := 5) (ckc_at dlaw11 19 rfl) rfl rfl (fun _ => rfl) rfl rfl) ?_
  refine v_icmp (t := 923) (ckc_at dlaw11 20 rfl) (by decide) ⟨by omega, by omega⟩ ⟨by omega, by omega⟩ (fun _ => ?_) (fun q => absurd rfl q)
  refine v_go (r_ldk (ok := q_isI) (n := 5) (ckc_at dlaw11 23 rfl) rfl rfl (fun _ => rfl) rfl rfl) ?_
  have fin : qV d 940 [some (.ref 1000000001), some (.ref 0), some (.ref 112), some (.ref 159), some (iv i), some (iv z), some (iv a), none] [] h3 := v_go (r_goto (t := 943) (ckc_at dlaw11 34 rfl) (by decide)) (v_wk hw ⟨rfl, rfl, rfl, rfl, rfl, trivial⟩)
  refine v_ifz (t := 940) (ckc_at dlaw11 24 rfl) (by decide) ⟨by omega, by omega⟩ (fun _ => fin) (fun q => ?_)
  have z0 : z = 0 := cN_ne q
  refine v_go (r_ldk (ok := q_isA) (n := 3) (ckc_at dlaw11 25 rfl) rfl rfl (fun _ => rfl) rfl rfl) ?_
  refine v_go (r_op (ckc_at dlaw11 26 rfl) rfl (o_const _)) ?_
  refine v_go (r_mem (ckc_at dlaw11 27 rfl) rfl rfl (fun _ => rfl) rfl (m_lald yo (hf z0))) ?_
  refine v_go (r_ldk (ok := q_isI) (n := 6) (ckc_at dlaw11 28 rfl) rfl rfl (fun _ => rfl) rfl rfl) ?_
  refine v_go (r_op (ckc_at dlaw11 29 rfl) rfl rfl) ?_
  refine v_go (r_op (ckc_at dlaw11 30 rfl) rfl (o_lc0 (hB1 z0))) ?_
  exact v_ifz (t := 940) (ckc_at dlaw11 31 rfl) (by decide) ⟨by decide, by decide⟩ (fun _ => fin) (fun q => absurd rfl q)
