/-! THE LAW: the cases of its loop (written by wip/whole/gen_law.py) -/
def tlaw : List (Nat × Instr × Nat) := [(0, .new 8, 3), (3, .dup, 1), (4, .invokespecial 63, 3), (7, .astore_n 1, 1), (8, .new 64, 3), (11, .dup, 1), (12, .invokespecial 66, 3), (15, .astore_n 2, 1), (16, .iconst 1, 1), (17, .newarray .long, 2), (19, .astore_n 3, 1), (20, .iconst 0, 1), (21, .istore 4, 2), (23, .iload 4, 2), (25, .aload_n 0, 1), (26, .arraylength, 1), (27, .bipush 6, 2), (29, .isub, 1), (30, .if_icmp .gt (919), 3), (33, .aload_n 0, 1), (34, .iload 4, 2), (36, .iaload, 1), (37, .bipush 15, 2), (39, .iand, 1), (40, .tableswitch 903 0 11 #[64, 168, 224, 280, 336, 428, 496, 564, 632, 700, 780, 847], 64), (104, .aload_n 1, 1), (105, .aload_n 0, 1), (106, .iload 4, 2), (108, .iconst 1, 1), (109, .iadd, 1), (110, .iaload, 1), (111, .aload_n 0, 1), (112, .iload 4, 2), (114, .iconst 2, 1), (115, .iadd, 1), (116, .iaload, 1), (117, .aload_n 0, 1), (118, .iload 4, 2), (120, .iconst 3, 1), (121, .iadd, 1), (122, .iaload, 1), (123, .aload_n 0, 1), (124, .iload 4, 2), (126, .iconst 4, 1), (127, .iadd, 1), (128, .iaload, 1), (129, .aload_n 0, 1), (130, .iload 4, 2), (132, .iconst 5, 1), (133, .iadd, 1), (134, .iaload, 1), (135, .aload_n 3, 1), (136, .invokestatic 67, 3), (139, .istore 5, 2), (141, .aload_n 2, 1), (142, .aload_n 0, 1), (143, .iload 4, 2), (145, .iconst 1, 1), (146, .iadd, 1), (147, .iaload, 1), (148, .aload_n 0, 1), (149, .iload 4, 2), (151, .iconst 2, 1), (152, .iadd, 1), (153, .iaload, 1), (154, .aload_n 0, 1), (155, .iload 4, 2), (157, .iconst 3, 1), (158, .iadd, 1), (159, .iaload, 1), (160, .aload_n 0, 1), (161, .iload 4, 2), (163, .iconst 4, 1), (164, .iadd, 1), (165, .iaload, 1), (166, .aload_n 0, 1), (167, .iload 4, 2), (169, .iconst 5, 1), (170, .iadd, 1), (171, .iaload, 1), (172, .invokevirtual 72, 3), (175, .istore 6, 2), (177, .aload_n 2, 1), (178, .invokevirtual 73, 3), (181, .iload 5, 2), (183, .if_icmp .eq (5), 3), (186, .iconst 0, 1), (187, .ireturn, 1), (188, .iload 5, 2), (190, .ifCond .ne (15), 3), (193, .aload_n 3, 1), (194, .iconst 0, 1), (195, .laload, 1), (196, .iload 6, 2), (198, .i2l, 1), (199, .lcmp, 1), (200, .ifCond .eq (5), 3), (203, .iconst 0, 1), (204, .ireturn, 1), (205, .goto (738), 3), (208, .aload_n 1, 1), (209, .aload_n 0, 1), (210, .iload 4, 2), (212, .iconst 1, 1), (213, .iadd, 1), (214, .iaload, 1), (215, .aload_n 3, 1), (216, .invokestatic 77, 3), (219, .istore 5, 2), (221, .aload_n 2, 1), (222, .aload_n 0, 1), (223, .iload 4, 2), (225, .iconst 1, 1), (226, .iadd, 1), (227, .iaload, 1), (228, .invokevirtual 80, 3), (231, .istore 6, 2), (233, .aload_n 2, 1), (234, .invokevirtual 73, 3), (237, .iload 5, 2), (239, .if_icmp .eq (5), 3), (242, .iconst 0, 1), (243, .ireturn, 1), (244, .iload 5, 2), (246, .ifCond .ne (15), 3), (249, .aload_n 3, 1), (250, .iconst 0, 1), (251, .laload, 1), (252, .iload 6, 2), (254, .i2l, 1), (255, .lcmp, 1), (256, .ifCond .eq (5), 3), (259, .iconst 0, 1), (260, .ireturn, 1), (261, .goto (682), 3), (264, .aload_n 1, 1), (265, .aload_n 0, 1), (266, .iload 4, 2), (268, .iconst 1, 1), (269, .iadd, 1), (270, .iaload, 1), (271, .aload_n 3, 1), (272, .invokestatic 81, 3), (275, .istore 5, 2), (277, .aload_n 2, 1), (278, .aload_n 0, 1), (279, .iload 4, 2), (281, .iconst 1, 1), (282, .iadd, 1), (283, .iaload, 1), (284, .invokevirtual 83, 3), (287, .istore 6, 2), (289, .aload_n 2, 1), (290, .invokevirtual 73, 3), (293, .iload 5, 2), (295, .if_icmp .eq (5), 3), (298, .iconst 0, 1), (299, .ireturn, 1), (300, .iload 5, 2), (302, .ifCond .ne (15), 3), (305, .aload_n 3, 1), (306, .iconst 0, 1), (307, .laload, 1), (308, .iload 6, 2), (310, .i2l, 1), (311, .lcmp, 1), (312, .ifCond .eq (5), 3), (315, .iconst 0, 1), (316, .ireturn, 1), (317, .goto (626), 3), (320, .aload_n 1, 1), (321, .aload_n 0, 1), (322, .iload 4, 2), (324, .iconst 1, 1), (325, .iadd, 1), (326, .iaload, 1), (327, .aload_n 3, 1), (328, .invokestatic 84, 3), (331, .istore 5, 2), (333, .aload_n 2, 1), (334, .aload_n 0, 1), (335, .iload 4, 2), (337, .iconst 1, 1), (338, .iadd, 1), (339, .iaload, 1), (340, .invokevirtual 86, 3), (343, .istore 6, 2), (345, .aload_n 2, 1), (346, .invokevirtual 73, 3), (349, .iload 5, 2), (351, .if_icmp .eq (5), 3), (354, .iconst 0, 1), (355, .ireturn, 1), (356, .iload 5, 2), (358, .ifCond .ne (15), 3), (361, .aload_n 3, 1), (362, .iconst 0, 1), (363, .laload, 1), (364, .iload 6, 2), (366, .i2l, 1), (367, .lcmp, 1), (368, .ifCond .eq (5), 3), (371, .iconst 0, 1), (372, .ireturn, 1), (373, .goto (570), 3), (376, .aload_n 1, 1), (377, .aload_n 0, 1), (378, .iload 4, 2), (380, .iconst 1, 1), (381, .iadd, 1), (382, .iaload, 1), (383, .aload_n 0, 1), (384, .iload 4, 2), (386, .iconst 2, 1), (387, .iadd, 1), (388, .iaload, 1), (389, .aload_n 0, 1), (390, .iload 4, 2), (392, .iconst 3, 1), (393, .iadd, 1), (394, .iaload, 1), (395, .aload_n 0, 1), (396, .iload 4, 2), (398, .iconst 4, 1), (399, .iadd, 1), (400, .iaload, 1), (401, .aload_n 3, 1), (402, .invokestatic 87, 3), (405, .istore 5, 2), (407, .aload_n 2, 1), (408, .aload_n 0, 1), (409, .iload 4, 2), (411, .iconst 1, 1), (412, .iadd, 1), (413, .iaload, 1), (414, .aload_n 0, 1), (415, .iload 4, 2), (417, .iconst 2, 1), (418, .iadd, 1), (419, .iaload, 1), (420, .aload_n 0, 1), (421, .iload 4, 2), (423, .iconst 3, 1), (424, .iadd, 1), (425, .iaload, 1), (426, .aload_n 0, 1), (427, .iload 4, 2), (429, .iconst 4, 1), (430, .iadd, 1), (431, .iaload, 1), (432, .invokevirtual 90, 3), (435, .istore 6, 2), (437, .aload_n 2, 1), (438, .invokevirtual 73, 3), (441, .iload 5, 2), (443, .if_icmp .eq (5), 3), (446, .iconst 0, 1), (447, .ireturn, 1), (448, .iload 5, 2), (450, .ifCond .ne (15), 3), (453, .aload_n 3, 1), (454, .iconst 0, 1), (455, .laload, 1), (456, .iload 6, 2), (458, .i2l, 1), (459, .lcmp, 1), (460, .ifCond .eq (5), 3), (463, .iconst 0, 1), (464, .ireturn, 1), (465, .goto (478), 3), (468, .aload_n 1, 1), (469, .aload_n 0, 1), (470, .iload 4, 2), (472, .iconst 1, 1), (473, .iadd, 1), (474, .iaload, 1), (475, .aload_n 0, 1), (476, .iload 4, 2), (478, .iconst 2, 1), (479, .iadd, 1), (480, .iaload, 1), (481, .aload_n 3, 1), (482, .invokestatic 91, 3), (485, .istore 5, 2), (487, .aload_n 2, 1), (488, .aload_n 0, 1), (489, .iload 4, 2), (491, .iconst 1, 1), (492, .iadd, 1), (493, .iaload, 1), (494, .aload_n 0, 1), (495, .iload 4, 2), (497, .iconst 2, 1), (498, .iadd, 1), (499, .iaload, 1), (500, .invokevirtual 94, 3), (503, .istore 6, 2), (505, .aload_n 2, 1), (506, .invokevirtual 73, 3), (509, .iload 5, 2), (511, .if_icmp .eq (5), 3), (514, .iconst 0, 1), (515, .ireturn, 1), (516, .iload 5, 2), (518, .ifCond .ne (15), 3), (521, .aload_n 3, 1), (522, .iconst 0, 1), (523, .laload, 1), (524, .iload 6, 2), (526, .i2l, 1), (527, .lcmp, 1), (528, .ifCond .eq (5), 3), (531, .iconst 0, 1), (532, .ireturn, 1), (533, .goto (410), 3), (536, .aload_n 1, 1), (537, .aload_n 0, 1), (538, .iload 4, 2), (540, .iconst 1, 1), (541, .iadd, 1), (542, .iaload, 1), (543, .aload_n 0, 1), (544, .iload 4, 2), (546, .iconst 2, 1), (547, .iadd, 1), (548, .iaload, 1), (549, .aload_n 3, 1), (550, .invokestatic 95, 3), (553, .istore 5, 2), (555, .aload_n 2, 1), (556, .aload_n 0, 1), (557, .iload 4, 2), (559, .iconst 1, 1), (560, .iadd, 1), (561, .iaload, 1), (562, .aload_n 0, 1), (563, .iload 4, 2), (565, .iconst 2, 1), (566, .iadd, 1), (567, .iaload, 1), (568, .invokevirtual 97, 3), (571, .istore 6, 2), (573, .aload_n 2, 1), (574, .invokevirtual 73, 3), (577, .iload 5, 2), (579, .if_icmp .eq (5), 3), (582, .iconst 0, 1), (583, .ireturn, 1), (584, .iload 5, 2), (586, .ifCond .ne (15), 3), (589, .aload_n 3, 1), (590, .iconst 0, 1), (591, .laload, 1), (592, .iload 6, 2), (594, .i2l, 1), (595, .lcmp, 1), (596, .ifCond .eq (5), 3), (599, .iconst 0, 1), (600, .ireturn, 1), (601, .goto (342), 3), (604, .aload_n 1, 1), (605, .aload_n 0, 1), (606, .iload 4, 2), (608, .iconst 1, 1), (609, .iadd, 1), (610, .iaload, 1), (611, .aload_n 0, 1), (612, .iload 4, 2), (614, .iconst 2, 1), (615, .iadd, 1), (616, .iaload, 1), (617, .aload_n 3, 1), (618, .invokestatic 98, 3), (621, .istore 5, 2), (623, .aload_n 2, 1), (624, .aload_n 0, 1), (625, .iload 4, 2), (627, .iconst 1, 1), (628, .iadd, 1), (629, .iaload, 1), (630, .aload_n 0, 1), (631, .iload 4, 2), (633, .iconst 2, 1), (634, .iadd, 1), (635, .iaload, 1), (636, .invokevirtual 100, 3), (639, .istore 6, 2), (641, .aload_n 2, 1), (642, .invokevirtual 73, 3), (645, .iload 5, 2), (647, .if_icmp .eq (5), 3), (650, .iconst 0, 1), (651, .ireturn, 1), (652, .iload 5, 2), (654, .ifCond .ne (15), 3), (657, .aload_n 3, 1), (658, .iconst 0, 1), (659, .laload, 1), (660, .iload 6, 2), (662, .i2l, 1), (663, .lcmp, 1), (664, .ifCond .eq (5), 3), (667, .iconst 0, 1), (668, .ireturn, 1), (669, .goto (274), 3), (672, .aload_n 1, 1), (673, .aload_n 0, 1), (674, .iload 4, 2), (676, .iconst 1, 1), (677, .iadd, 1), (678, .iaload, 1), (679, .aload_n 0, 1), (680, .iload 4, 2), (682, .iconst 2, 1), (683, .iadd, 1), (684, .iaload, 1), (685, .aload_n 3, 1), (686, .invokestatic 101, 3), (689, .istore 5, 2), (691, .aload_n 2, 1), (692, .aload_n 0, 1), (693, .iload 4, 2), (695, .iconst 1, 1), (696, .iadd, 1), (697, .iaload, 1), (698, .aload_n 0, 1), (699, .iload 4, 2), (701, .iconst 2, 1), (702, .iadd, 1), (703, .iaload, 1), (704, .invokevirtual 103, 3), (707, .istore 6, 2), (709, .aload_n 2, 1), (710, .invokevirtual 73, 3), (713, .iload 5, 2), (715, .if_icmp .eq (5), 3), (718, .iconst 0, 1), (719, .ireturn, 1), (720, .iload 5, 2), (722, .ifCond .ne (15), 3), (725, .aload_n 3, 1), (726, .iconst 0, 1), (727, .laload, 1), (728, .iload 6, 2), (730, .i2l, 1), (731, .lcmp, 1), (732, .ifCond .eq (5), 3), (735, .iconst 0, 1), (736, .ireturn, 1), (737, .goto (206), 3), (740, .aload_n 1, 1), (741, .aload_n 0, 1), (742, .iload 4, 2), (744, .iconst 1, 1), (745, .iadd, 1), (746, .iaload, 1), (747, .aload_n 0, 1), (748, .iload 4, 2), (750, .iconst 2, 1), (751, .iadd, 1), (752, .iaload, 1), (753, .aload_n 0, 1), (754, .iload 4, 2), (756, .iconst 3, 1), (757, .iadd, 1), (758, .iaload, 1), (759, .aload_n 3, 1), (760, .invokestatic 104, 3), (763, .istore 5, 2), (765, .aload_n 2, 1), (766, .aload_n 0, 1), (767, .iload 4, 2), (769, .iconst 1, 1), (770, .iadd, 1), (771, .iaload, 1), (772, .aload_n 0, 1), (773, .iload 4, 2), (775, .iconst 2, 1), (776, .iadd, 1), (777, .iaload, 1), (778, .aload_n 0, 1), (779, .iload 4, 2), (781, .iconst 3, 1), (782, .iadd, 1), (783, .iaload, 1), (784, .invokevirtual 107, 3), (787, .istore 6, 2), (789, .aload_n 2, 1), (790, .invokevirtual 73, 3), (793, .iload 5, 2), (795, .if_icmp .eq (5), 3), (798, .iconst 0, 1), (799, .ireturn, 1), (800, .iload 5, 2), (802, .ifCond .ne (15), 3), (805, .aload_n 3, 1), (806, .iconst 0, 1), (807, .laload, 1), (808, .iload 6, 2), (810, .i2l, 1), (811, .lcmp, 1), (812, .ifCond .eq (5), 3), (815, .iconst 0, 1), (816, .ireturn, 1), (817, .goto (126), 3), (820, .aload_n 1, 1), (821, .aload_n 0, 1), (822, .iload 4, 2), (824, .iconst 1, 1), (825, .iadd, 1), (826, .iaload, 1), (827, .aload_n 0, 1), (828, .iload 4, 2), (830, .iconst 2, 1), (831, .iadd, 1), (832, .iaload, 1), (833, .aload_n 3, 1), (834, .invokestatic 108, 3), (837, .istore 5, 2), (839, .aload_n 2, 1), (840, .aload_n 0, 1), (841, .iload 4, 2), (843, .iconst 1, 1), (844, .iadd, 1), (845, .iaload, 1), (846, .aload_n 0, 1), (847, .iload 4, 2), (849, .iconst 2, 1), (850, .iadd, 1), (851, .iaload, 1), (852, .invokevirtual 110, 3), (855, .lstore 6, 2), (857, .aload_n 2, 1), (858, .invokevirtual 73, 3), (861, .iload 5, 2), (863, .if_icmp .eq (5), 3), (866, .iconst 0, 1), (867, .ireturn, 1), (868, .iload 5, 2), (870, .ifCond .ne (14), 3), (873, .aload_n 3, 1), (874, .iconst 0, 1), (875, .laload, 1), (876, .lload 6, 2), (878, .lcmp, 1), (879, .ifCond .eq (5), 3), (882, .iconst 0, 1), (883, .ireturn, 1), (884, .goto (59), 3), (887, .aload_n 1, 1), (888, .aload_n 0, 1), (889, .iload 4, 2), (891, .iconst 1, 1), (892, .iadd, 1), (893, .iaload, 1), (894, .aload_n 3, 1), (895, .invokestatic 111, 3), (898, .istore 5, 2), (900, .aload_n 2, 1), (901, .aload_n 0, 1), (902, .iload 4, 2), (904, .iconst 1, 1), (905, .iadd, 1), (906, .iaload, 1), (907, .invokevirtual 113, 3), (910, .istore 6, 2), (912, .aload_n 2, 1), (913, .invokevirtual 73, 3), (916, .iload 5, 2), (918, .if_icmp .eq (5), 3), (921, .iconst 0, 1), (922, .ireturn, 1), (923, .iload 5, 2), (925, .ifCond .ne (15), 3), (928, .aload_n 3, 1), (929, .iconst 0, 1), (930, .laload, 1), (931, .iload 6, 2), (933, .i2l, 1), (934, .lcmp, 1), (935, .ifCond .eq (5), 3), (938, .iconst 0, 1), (939, .ireturn, 1), (940, .goto (3), 3), (943, .iinc 4 6, 3), (946, .goto (-923), 3), (949, .iconst 1, 1), (950, .ireturn, 1)]
set_option maxRecDepth 100000 in
theorem dlaw : q_ckc code tlaw = true := by decide +kernel
def X (xs : Nat → Int32) (z : Int) : Int := (xs z.toNat).toInt
theorem X_R (xs : Nat → Int32) (z : Int) : R32 (X xs z) := by
  have h1 := Int32.le_toInt (xs z.toNat)
  have h2 := Int32.toInt_lt (xs z.toNat)
  unfold R32 X
  constructor <;> omega
section LW5
variable {d pc L : Nat} {xs : Nat → Int32} {h : qH} {Lo : List (Option Value)} {B : qB}
theorem m_scr {own : Nat} {ini : Bool} {z : Int} {r : List Value} (hs : h.1 1000000001 = some (.inl (1, L, fun j => .int (xs j)))) (z0 : 0 ≤ z) (z1 : z < L) (hL : L ≤ 3072) : q_mem own ini .iaload (iv z :: .ref 1000000001 :: r) h = some (iv (X xs z) :: r, h) := by
  have hi := idx_ok z0 z1 (by omega)
  have e : (Int32.ofInt z).toNatClampNeg = z.toNat := by have := hi.2; omega
  show (match h.1 1000000001 with
    | some (.inl (t, n, f)) => if (t == 1) = true ∧ q_idx (Int32.ofInt z) n = true then some (f (Int32.ofInt z).toNatClampNeg :: r, h) else none
    | _ => none) = _
  rw [hs]
  dsimp only
  rw [if_pos ⟨rfl, hi.1⟩, e]
  unfold X
  rw [iv_toInt]
theorem m_len {own : Nat} {ini : Bool} {r : List Value} (hs : h.1 1000000001 = some (.inl (1, L, fun j => .int (xs j)))) : q_mem own ini .arraylength (.ref 1000000001 :: r) h = some (.int (nI L) :: r, h) := by
  show (match h.1 1000000001 with
    | some (.inl (t, n, _)) => if t < 6 then some (.int (nI n) :: r, h) else none
    | _ => none) = _
  rw [hs]
  rfl
theorem m_lald {own : Nat} {ini : Bool} {r : List Value} {f : Nat → Value} {out : Int64} (ho : h.1 159 = some (.inl (2, 1, f))) (hf : f 0 = .long out) : q_mem own ini .laload (iv 0 :: .ref 159 :: r) h = some (.long out :: r, h) := by
  show (match h.1 159 with
    | some (.inl (t, n, f)) => if (t == 2) = true ∧ q_idx (Int32.ofInt 0) n = true then some (f (Int32.ofInt 0).toNatClampNeg :: r, h) else none
    | _ => none) = _
  rw [ho]
  dsimp only
  rw [if_pos ⟨rfl, by decide⟩]
  show some (f 0 :: r, h) = _
  rw [hf]
theorem o_lc0 {x y : Int64} {r : List Value} (e : x = y) : q_op .lcmp (.long y :: .long x :: r) = some (iv 0 :: r) := by
  subst e
  show some (.int (lg_cmp x x) :: r) = _
  have : lg_cmp x x = 0 := by
    unfold lg_cmp
    simp
  rw [this]
  rfl
theorem cN_ne {z : Int} (q : cN .ne z 0) : z = 0 := q
theorem v_wk {L' : List (Option Value)} {st : List Value} (w : qV d pc L' st h) (hl : lw L' Lo) : qV d pc Lo st h := by
  obtain ⟨N, F, h', h1, h2⟩ := w
  exact ⟨N, F, h', fun env he => h1 env (fun i v q => he i v (lw_at hl i v q)), h2⟩
theorem v_wrapU {k idx n np : Nat} {as r : List Value} (hd : decode qML.2.2.1 pc = .ok (.invokestatic idx, 3)) (h1 : q_mm 12 idx = none ∧ q_cpy 12 idx = false ∧ q_mth 12 idx = none) (hw : q_wl idx = some k) (hlen : as.length = np) (hnp : (q_wm k).1.2.2.2.2.2.1 = np) (hs1 : (lg_sl as).length ≤ (q_wm k).1.2.2.2.1) (hs2 : (q_wm k).1.2.2.2.1 ≤ 80) (hs3 : (r.map fun v => v.category).sum ≤ 8) (hcat : as.all (fun v => v.category == 1) = true) (x : qU d (q_wm k) 0 (as.map some ++ List.replicate n none) [] h (fun v h' => qV d (pc + 3) Lo (v.toList ++ r) h')) : qV d pc Lo (as.reverse ++ r) h := by
  obtain ⟨N, F, v, h', hr, hx⟩ := x
  have hl2 : as.reverse.length = (q_wm k).1.2.2.2.2.2.1 := by rw [List.length_reverse, hlen, hnp]
  have ht : ((as.reverse ++ r).take (q_wm k).1.2.2.2.2.2.1).reverse = as := by rw [List.take_left' hl2, List.reverse_reverse]
  have hdr : (as.reverse ++ r).drop (q_wm k).1.2.2.2.2.2.1 = r := List.drop_left' hl2
  refine v_wrap (v := v) (h' := h') hd ?_ ?_ hw ⟨by rw [List.length_append, hl2]; omega, by rw [ht]; exact hs1, hs2, by rw [hdr]; exact hs3⟩ ⟨N, F, ?_⟩ (by rw [hdr]; exact hx)
  · show (match q_mm 12 idx with | some b => _ | none => if q_cpy 12 idx = true then _ else none) = none
    rw [h1.1, h1.2.1]
    rfl
  · show (match q_mth 12 idx with | some k => _ | none => none) = none
    rw [h1.2.2]
  · rw [ht]
    exact hr _ (fun i v q => by
      have := EL_args as 0 n (fun v hv => by simpa using List.all_eq_true.mp hcat v hv) i v q
      rwa [Nat.zero_add] at this)
theorem v_virtM {k' idx np nL n : Nat} {as r : List Value} (hm : h = hM 112 h B) (hd : decode qML.2.2.1 pc = .ok (.invokevirtual idx, 3)) (hmt : q_mth 12 idx = some k') (hk : (q_ms k').1 = 0 ∧ (q_ms k').2.1 = 11 ∧ (q_ms k').2.2.2.2.2.1 = np) (hlen : as.length = np) (hN : (q_ms k').2.2.2.1 = nL) (hs1 : Nat.ble (lg_sl (.ref 112 :: as)).length nL = true) (hs2 : Nat.ble nL 80 = true) (hs3 : Nat.ble (r.map fun v => v.category).sum 8 = true) (hcat : as.all (fun v => v.category == 1) = true) (x : qZ 112 h d k' 0 ((.ref 112 :: as).map some ++ List.replicate n none) [] B (fun o B' => ∃ v, o = .inl v ∧ qV d (pc + 3) Lo (v.toList ++ r) (hM 112 h B'))) : qV d pc Lo (as.reverse ++ .ref 112 :: r) h := by
  obtain ⟨N, o, B', hr, v, rfl, hx⟩ := x
  have hl2 : as.reverse.length = np := by rw [List.length_reverse]; exact hlen
  have hob : h.1 112 = some (.inr (11, (List.range 76).map (mfv 112 B))) := by
    have := hM_o (m := 112) (h0 := h) (B := B)
    rw [← hm] at this
    exact this
  refine v_call (k := k') (as := .ref 112 :: as) (r := r) hd rfl rfl (fun _ => rfl) rfl rfl (fun q => by cases q) ?_ ⟨by rw [hN]; exact Nat.le_of_ble_eq_true hs1, by rw [hN]; exact Nat.le_of_ble_eq_true hs2, Nat.le_of_ble_eq_true hs3⟩ ⟨N, ?_⟩ hx
  · show (match q_mth 12 idx with | some k => _ | none => _) = _
    rw [hmt]
    dsimp only
    obtain ⟨e1, e2, e3⟩ := hk
    rw [e1, e3, if_pos ⟨rfl, by simp; omega⟩, List.drop_left' hl2]
    dsimp only
    rw [hob]
    dsimp only
    rw [e2, if_pos ⟨rfl, by decide⟩, List.take_left' hl2, List.reverse_reverse]
  · have := hr (lv_args 0 (.ref 112 :: as)) (fun i v q => by
      have := EL_args (.ref 112 :: as) 0 n (fun v hv => by
        rcases List.mem_cons.mp hv with rfl | z
        · rfl
        · simpa using List.all_eq_true.mp hcat v z) i v q
      rwa [Nat.zero_add] at this)
    rw [← hm] at this
    exact this
end LW5
theorem V_feed {d L : Nat} {xs : Nat → Int32} {c0 s0 i : Int} {h : qH} {C B : qB} (hd : 130 ≤ d) (hj : JI L xs c0 s0 h C B) (hc : c0 + 1 ≤ 900000000) (hi : 0 ≤ i ∧ i + 6 ≤ L) (hL : L ≤ 3072) (w : ∀ (h' : qH) (C' B' : qB) (c1 s1 : Int), JI L xs c1 s1 h' C' B' → ((c1 = c0 ∧ s1 = s0) ∨ (c1 = c0 + 1 ∧ s1 = s0 + 6)) → qV d 943 [some (.ref 1000000001), some (.ref 0), some (.ref 112), some (.ref 159), some (iv i), none, none, none] [] h') : qV d 104 [some (.ref 1000000001), some (.ref 0), some (.ref 112), some (.ref 159), some (iv i), none, none, none] [] h := by
  refine v_go (r_ldk (ok := q_isA) (n := 1) (ckc_at dlaw 25 rfl) rfl rfl (fun _ => rfl) rfl rfl) ?_
  refine v_go (r_ldk (ok := q_isA) (n := 0) (ckc_at dlaw 26 rfl) rfl rfl (fun _ => rfl) rfl rfl) ?_
  refine v_go (r_ldk (ok := q_isI) (n := 4) (ckc_at dlaw 27 rfl) rfl rfl (fun _ => rfl) rfl rfl) ?_
  refine v_go (r_op (ckc_at dlaw 28 rfl) rfl (o_const _)) ?_
  refine v_go (r_op (ckc_at dlaw 29 rfl) rfl o_iadd) ?_
  refine v_go (r_mem (ckc_at dlaw 30 rfl) rfl rfl (fun _ => rfl) rfl (m_scr hj.2.2.2.2.1 (by omega) (by omega) hL)) ?_
  refine v_go (r_ldk (ok := q_isA) (n := 0) (ckc_at dlaw 31 rfl) rfl rfl (fun _ => rfl) rfl rfl) ?_
  refine v_go (r_ldk (ok := q_isI) (n := 4) (ckc_at dlaw 32 rfl) rfl rfl (fun _ => rfl) rfl rfl) ?_
  refine v_go (r_op (ckc_at dlaw 33 rfl) rfl (o_const _)) ?_
  refine v_go (r_op (ckc_at dlaw 34 rfl) rfl o_iadd) ?_
  refine v_go (r_mem (ckc_at dlaw 35 rfl) rfl rfl (fun _ => rfl) rfl (m_scr hj.2.2.2.2.1 (by omega) (by omega) hL)) ?_
  refine v_go (r_ldk (ok := q_isA) (n := 0) (ckc_at dlaw 36 rfl) rfl rfl (fun _ => rfl) rfl rfl) ?_
  refine v_go (r_ldk (ok := q_isI) (n := 4) (ckc_at dlaw 37 rfl) rfl rfl (fun _ => rfl) rfl rfl) ?_
  refine v_go (r_op (ckc_at dlaw 38 rfl) rfl (o_const _)) ?_
  refine v_go (r_op (ckc_at dlaw 39 rfl) rfl o_iadd) ?_
  refine v_go (r_mem (ckc_at dlaw 40 rfl) rfl rfl (fun _ => rfl) rfl (m_scr hj.2.2.2.2.1 (by omega) (by omega) hL)) ?_
  refine v_go (r_ldk (ok := q_isA) (n := 0) (ckc_at dlaw 41 rfl) rfl rfl (fun _ => rfl) rfl rfl) ?_
  refine v_go (r_ldk (ok := q_isI) (n := 4) (ckc_at dlaw 42 rfl) rfl rfl (fun _ => rfl) rfl rfl) ?_
  refine v_go (r_op (ckc_at dlaw 43 rfl) rfl (o_const _)) ?_
  refine v_go (r_op (ckc_at dlaw 44 rfl) rfl o_iadd) ?_
  refine v_go (r_mem (ckc_at dlaw 45 rfl) rfl rfl (fun _ => rfl) rfl (m_scr hj.2.2.2.2.1 (by omega) (by omega) hL)) ?_
  refine v_go (r_ldk (ok := q_isA) (n := 0) (ckc_at dlaw 46 rfl) rfl rfl (fun _ => rfl) rfl rfl) ?_
  refine v_go (r_ldk (ok := q_isI) (n := 4) (ckc_at dlaw 47 rfl) rfl rfl (fun _ => rfl) rfl rfl) ?_
  refine v_go (r_op (ckc_at dlaw 48 rfl) rfl (o_const _)) ?_
  refine v_go (r_op (ckc_at dlaw 49 rfl) rfl o_iadd) ?_
  refine v_go (r_mem (ckc_at dlaw 50 rfl) rfl rfl (fun _ => rfl) rfl (m_scr hj.2.2.2.2.1 (by omega) (by omega) hL)) ?_
  refine v_go (r_ldk (ok := q_isA) (n := 3) (ckc_at dlaw 51 rfl) rfl rfl (fun _ => rfl) rfl rfl) ?_
  refine v_wrapU (k := 0) (as := [.ref 0, iv (X xs (i + 1)), iv (X xs (i + 2)), iv (X xs (i + 3)), iv (X xs (i + 4)), iv (X xs (i + 5)), .ref 159]) (r := []) (n := 1) (ckc_at dlaw 52 rfl) (by decide +kernel) (by decide +kernel) rfl rfl (Nat.le_of_ble_eq_true rfl) (Nat.le_of_ble_eq_true rfl) (Nat.le_of_ble_eq_true rfl) rfl ?_
  refine J_call (mk := iv) (lg := fun a => (Int32.ofInt a).toInt64) hj (PP_feed hd hj.2.2.1 hj.2.2.2.1 hc ) (by decide) (fun a b e => iv_in e) (fun Q x => W_feed hj.o0 x) (fun z h2 C' c1 s1 out f hm hcc hz hs ho hf h9 hcs hq => ?_)
  refine v_go (r_st1 (ok := q_isI) (n := 5) (L' := [some (.ref 1000000001), some (.ref 0), some (.ref 112), some (.ref 159), some (iv i), some (iv z), none, none]) (ckc_at dlaw 53 rfl) rfl (fun _ => rfl) (fun _ _ => rfl) rfl rfl (by decide) rfl rfl) ?_
  refine v_go (r_ldk (ok := q_isA) (n := 2) (ckc_at dlaw 54 rfl) rfl rfl (fun _ => rfl) rfl rfl) ?_
  refine v_go (r_ldk (ok := q_isA) (n := 0) (ckc_at dlaw 55 rfl) rfl rfl (fun _ => rfl) rfl rfl) ?_
  refine v_go (r_ldk (ok := q_isI) (n := 4) (ckc_at dlaw 56 rfl) rfl rfl (fun _ => rfl) rfl rfl) ?_
  refine v_go (r_op (ckc_at dlaw 57 rfl) rfl (o_const _)) ?_
  refine v_go (r_op (ckc_at dlaw 58 rfl) rfl o_iadd) ?_
  refine v_go (r_mem (ckc_at dlaw 59 rfl) rfl rfl (fun _ => rfl) rfl (m_scr hs (by omega) (by omega) hL)) ?_
  refine v_go (r_ldk (ok := q_isA) (n := 0) (ckc_at dlaw 60 rfl) rfl rfl (fun _ => rfl) rfl rfl) ?_
  refine v_go (r_ldk (ok := q_isI) (n := 4) (ckc_at dlaw 61 rfl) rfl rfl (fun _ => rfl) rfl rfl) ?_
  refine v_go (r_op (ckc_at dlaw 62 rfl) rfl (o_const _)) ?_
  refine v_go (r_op (ckc_at dlaw 63 rfl) rfl o_iadd) ?_
  refine v_go (r_mem (ckc_at dlaw 64 rfl) rfl rfl (fun _ => rfl) rfl (m_scr hs (by omega) (by omega) hL)) ?_
  refine v_go (r_ldk (ok := q_isA) (n := 0) (ckc_at dlaw 65 rfl) rfl rfl (fun _ => rfl) rfl rfl) ?_
  refine v_go (r_ldk (ok := q_isI) (n := 4) (ckc_at dlaw 66 rfl) rfl rfl (fun _ => rfl) rfl rfl) ?_
  refine v_go (r_op (ckc_at dlaw 67 rfl) rfl (o_const _)) ?_
  refine v_go (r_op (ckc_at dlaw 68 rfl) rfl o_iadd) ?_
  refine v_go (r_mem (ckc_at dlaw 69 rfl) rfl rfl (fun _ => rfl) rfl (m_scr hs (by omega) (by omega) hL)) ?_
  refine v_go (r_ldk (ok := q_isA) (n := 0) (ckc_at dlaw 70 rfl) rfl rfl (fun _ => rfl) rfl rfl) ?_
  refine v_go (r_ldk (ok := q_isI) (n := 4) (ckc_at dlaw 71 rfl) rfl rfl (fun _ => rfl) rfl rfl) ?_
  refine v_go (r_op (ckc_at dlaw 72 rfl) rfl (o_const _)) ?_
  refine v_go (r_op (ckc_at dlaw 73 rfl) rfl o_iadd) ?_
  refine v_go (r_mem (ckc_at dlaw 74 rfl) rfl rfl (fun _ => rfl) rfl (m_scr hs (by omega) (by omega) hL)) ?_
  refine v_go (r_ldk (ok := q_isA) (n := 0) (ckc_at dlaw 75 rfl) rfl rfl (fun _ => rfl) rfl rfl) ?_
  refine v_go (r_ldk (ok := q_isI) (n := 4) (ckc_at dlaw 76 rfl) rfl rfl (fun _ => rfl) rfl rfl) ?_
  refine v_go (r_op (ckc_at dlaw 77 rfl) rfl (o_const _)) ?_
  refine v_go (r_op (ckc_at dlaw 78 rfl) rfl o_iadd) ?_
  refine v_go (r_mem (ckc_at dlaw 79 rfl) rfl rfl (fun _ => rfl) rfl (m_scr hs (by omega) (by omega) hL)) ?_
  refine v_virtM (k' := k_feed) (as := [iv (X xs (i + 1)), iv (X xs (i + 2)), iv (X xs (i + 3)), iv (X xs (i + 4)), iv (X xs (i + 5))]) (r := []) (n := 0) hm (ckc_at dlaw 80 rfl) (by decide +kernel) vk_feed rfl nl_feed rfl rfl rfl rfl (qZ.mono hq (Nat.le_refl _) (fun o' B' hB => ?_))
  obtain ⟨a, rfl, hB0, hB1, hI, hO⟩ := hB
  obtain ⟨y1, y2, y3, y4⟩ := jn_model (B' := B') hcc hz
  refine ⟨_, rfl, ?_⟩
  have yo : (hM 112 h2 B').1 159 = some (.inl (2, 1, f)) := y3.trans ho
  have hw := w (hM 112 h2 B') C' B' c1 s1 ⟨y1, y2, hI, hO, y4.trans hs, _, yo⟩ hcs
  clear hq hj w
  generalize hM 112 h2 B' = h3 at *
  refine v_go (r_st1 (ok := q_isI) (n := 6) (L' := [some (.ref 1000000001), some (.ref 0), some (.ref 112), some (.ref 159), some (iv i), some (iv z), some (iv a), none]) (ckc_at dlaw 81 rfl) rfl (fun _ => rfl) (fun _ _ => rfl) rfl rfl (by decide) rfl rfl) ?_
  refine v_go (r_ldk (ok := q_isA) (n := 2) (ckc_at dlaw 82 rfl) rfl rfl (fun _ => rfl) rfl rfl) ?_
  refine v_virtM (k' := k_thrown) (as := []) (r := []) (n := 0) y2 (ckc_at dlaw 83 rfl) (by decide +kernel) vk_thrown rfl nl_thrown rfl rfl rfl rfl ?_
  refine qZ.mono (d := 0 + 1) (R_thrown (by decide) ⟨_, rfl, ?_⟩) (by omega) (fun _ _ q => q)
  rw [← y2, hB0]
  refine v_go (r_ldk (ok := q_isI) (n := 5) (ckc_at dlaw 84 rfl) rfl rfl (fun _ => rfl) rfl rfl) ?_
  refine v_icmp (t := 188) (ckc_at dlaw 85 rfl) (by decide) ⟨by omega, by omega⟩ ⟨by omega, by omega⟩ (fun _ => ?_) (fun q => absurd rfl q)
  refine v_go (r_ldk (ok := q_isI) (n := 5) (ckc_at dlaw 88 rfl) rfl rfl (fun _ => rfl) rfl rfl) ?_
  have fin : qV d 205 [some (.ref 1000000001), some (.ref 0), some (.ref 112), some (.ref 159), some (iv i), some (iv z), some (iv a), none] [] h3 := v_go (r_goto (t := 943) (ckc_at dlaw 99 rfl) (by decide)) (v_wk hw ⟨rfl, rfl, rfl, rfl, rfl, trivial⟩)
  refine v_ifz (t := 205) (ckc_at dlaw 89 rfl) (by decide) ⟨by omega, by omega⟩ (fun _ => fin) (fun q => ?_)
  have z0 : z = 0 := cN_ne q
  refine v_go (r_ldk (ok := q_isA) (n := 3) (ckc_at dlaw 90 rfl) rfl rfl (fun _ => rfl) rfl rfl) ?_
  refine v_go (r_op (ckc_at dlaw 91 rfl) rfl (o_const _)) ?_
  refine v_go (r_mem (ckc_at dlaw 92 rfl) rfl rfl (fun _ => rfl) rfl (m_lald yo (hf z0))) ?_
  refine v_go (r_ldk (ok := q_isI) (n := 6) (ckc_at dlaw 93 rfl) rfl rfl (fun _ => rfl) rfl rfl) ?_
  refine v_go (r_op (ckc_at dlaw 94 rfl) rfl rfl) ?_
  refine v_go (r_op (ckc_at dlaw 95 rfl) rfl (o_lc0 (hB1 z0))) ?_
  exact v_ifz (t := 205) (ckc_at dlaw 96 rfl) (by decide) ⟨by decide, by decide⟩ (fun _ => fin) (fun q => absurd rfl q)
theorem V_end {d L : Nat} {xs : Nat → Int32} {c0 s0 i : Int} {h : qH} {C B : qB} (hd : 130 ≤ d) (hj : JI L xs c0 s0 h C B) (hc : c0 + 1 ≤ 900000000) (hi : 0 ≤ i ∧ i + 6 ≤ L) (hL : L ≤ 3072) (w : ∀ (h' : qH) (C' B' : qB) (c1 s1 : Int), JI L xs c1 s1 h' C' B' → ((c1 = c0 ∧ s1 = s0) ∨ (c1 = c0 + 1 ∧ s1 = s0 + 6)) → qV d 943 [some (.ref 1000000001), some (.ref 0), some (.ref 112), some (.ref 159), some (iv i), none, none, none] [] h') : qV d 208 [some (.ref 1000000001), some (.ref 0), some (.ref 112), some (.ref 159), some (iv i), none, none, none] [] h := by
  refine v_go (r_ldk (ok := q_isA) (n := 1) (ckc_at dlaw 100 rfl) rfl rfl (fun _ => rfl) rfl rfl) ?_
  refine v_go (r_ldk (ok := q_isA) (n := 0) (ckc_at dlaw 101 rfl) rfl rfl (fun _ => rfl) rfl rfl) ?_
  refine v_go (r_ldk (ok := q_isI) (n := 4) (ckc_at dlaw 102 rfl) rfl rfl (fun _ => rfl) rfl rfl) ?_
  refine v_go (r_op (ckc_at dlaw 103 rfl) rfl (o_const _)) ?_
  refine v_go (r_op (ckc_at dlaw 104 rfl) rfl o_iadd) ?_
  refine v_go (r_mem (ckc_at dlaw 105 rfl) rfl rfl (fun _ => rfl) rfl (m_scr hj.2.2.2.2.1 (by omega) (by omega) hL)) ?_
  refine v_go (r_ldk (ok := q_isA) (n := 3) (ckc_at dlaw 106 rfl) rfl rfl (fun _ => rfl) rfl rfl) ?_
  refine v_wrapU (k := 1) (as := [.ref 0, iv (X xs (i + 1)), .ref 159]) (r := []) (n := 1) (ckc_at dlaw 107 rfl) (by decide +kernel) (by decide +kernel) rfl rfl (Nat.le_of_ble_eq_true rfl) (Nat.le_of_ble_eq_true rfl) (Nat.le_of_ble_eq_true rfl) rfl ?_
  refine J_call (mk := iv) (lg := fun a => (Int32.ofInt a).toInt64) hj (PP_end hd hj.2.2.1 hj.2.2.2.1 hc (X_R xs _)) (by decide) (fun a b e => iv_in e) (fun Q x => W_end hj.o0 x) (fun z h2 C' c1 s1 out f hm hcc hz hs ho hf h9 hcs hq => ?_)
  refine v_go (r_st1 (ok := q_isI) (n := 5) (L' := [some (.ref 1000000001), some (.ref 0), some (.ref 112), some (.ref 159), some (iv i), some (iv z), none, none]) (ckc_at dlaw 108 rfl) rfl (fun _ => rfl) (fun _ _ => rfl) rfl rfl (by decide) rfl rfl) ?_
  refine v_go (r_ldk (ok := q_isA) (n := 2) (ckc_at dlaw 109 rfl) rfl rfl (fun _ => rfl) rfl rfl) ?_
  refine v_go (r_ldk (ok := q_isA) (n := 0) (ckc_at dlaw 110 rfl) rfl rfl (fun _ => rfl) rfl rfl) ?_
  refine v_go (r_ldk (ok := q_isI) (n := 4) (ckc_at dlaw 111 rfl) rfl rfl (fun _ => rfl) rfl rfl) ?_
  refine v_go (r_op (ckc_at dlaw 112 rfl) rfl (o_const _)) ?_
  refine v_go (r_op (ckc_at dlaw 113 rfl) rfl o_iadd) ?_
  refine v_go (r_mem (ckc_at dlaw 114 rfl) rfl rfl (fun _ => rfl) rfl (m_scr hs (by omega) (by omega) hL)) ?_
  refine v_virtM (k' := k_end) (as := [iv (X xs (i + 1))]) (r := []) (n := 0) hm (ckc_at dlaw 115 rfl) (by decide +kernel) vk_end rfl nl_end rfl rfl rfl rfl (qZ.mono hq (Nat.le_refl _) (fun o' B' hB => ?_))
  obtain ⟨a, rfl, hB0, hB1, hI, hO⟩ := hB
  obtain ⟨y1, y2, y3, y4⟩ := jn_model (B' := B') hcc hz
  refine ⟨_, rfl, ?_⟩
  have yo : (hM 112 h2 B').1 159 = some (.inl (2, 1, f)) := y3.trans ho
  have hw := w (hM 112 h2 B') C' B' c1 s1 ⟨y1, y2, hI, hO, y4.trans hs, _, yo⟩ hcs
  clear hq hj w
  generalize hM 112 h2 B' = h3 at *
  refine v_go (r_st1 (ok := q_isI) (n := 6) (L' := [some (.ref 1000000001), some (.ref 0), some (.ref 112), some (.ref 159), some (iv i), some (iv z), some (iv a), none]) (ckc_at dlaw 116 rfl) rfl (fun _ => rfl) (fun _ _ => rfl) rfl rfl (by decide) rfl rfl) ?_
  refine v_go (r_ldk (ok := q_isA) (n := 2) (ckc_at dlaw 117 rfl) rfl rfl (fun _ => rfl) rfl rfl) ?_
  refine v_virtM (k' := k_thrown) (as := []) (r := []) (n := 0) y2 (ckc_at dlaw 118 rfl) (by decide +kernel) vk_thrown rfl nl_thrown rfl rfl rfl rfl ?_
  refine qZ.mono (d := 0 + 1) (R_thrown (by decide) ⟨_, rfl, ?_⟩) (by omega) (fun _ _ q => q)
  rw [← y2, hB0]
  refine v_go (r_ldk (ok := q_isI) (n := 5) (ckc_at dlaw 119 rfl) rfl rfl (fun _ => rfl) rfl rfl) ?_
  refine v_icmp (t := 244) (ckc_at dlaw 120 rfl) (by decide) ⟨by omega, by omega⟩ ⟨by omega, by omega⟩ (fun _ => ?_) (fun q => absurd rfl q)
  refine v_go (r_ldk (ok := q_isI) (n := 5) (ckc_at dlaw 123 rfl) rfl rfl (fun _ => rfl) rfl rfl) ?_
  have fin : qV d 261 [some (.ref 1000000001), some (.ref 0), some (.ref 112), some (.ref 159), some (iv i), some (iv z), some (iv a), none] [] h3 := v_go (r_goto (t := 943) (ckc_at dlaw 134 rfl) (by decide)) (v_wk hw ⟨rfl, rfl, rfl, rfl, rfl, trivial⟩)
  refine v_ifz (t := 261) (ckc_at dlaw 124 rfl) (by decide) ⟨by omega, by omega⟩ (fun _ => fin) (fun q => ?_)
  have z0 : z = 0 := cN_ne q
  refine v_go (r_ldk (ok := q_isA) (n := 3) (ckc_at dlaw 125 rfl) rfl rfl (fun _ => rfl) rfl rfl) ?_
  refine v_go (r_op (ckc_at dlaw 126 rfl) rfl (o_const _)) ?_
  refine v_go (r_mem (ckc_at dlaw 127 rfl) rfl rfl (fun _ => rfl) rfl (m_lald yo (hf z0))) ?_
  refine v_go (r_ldk (ok := q_isI) (n := 6) (ckc_at dlaw 128 rfl) rfl rfl (fun _ => rfl) rfl rfl) ?_
  refine v_go (r_op (ckc_at dlaw 129 rfl) rfl rfl) ?_
  refine v_go (r_op (ckc_at dlaw 130 rfl) rfl (o_lc0 (hB1 z0))) ?_
  exact v_ifz (t := 261) (ckc_at dlaw 131 rfl) (by decide) ⟨by decide, by decide⟩ (fun _ => fin) (fun q => absurd rfl q)
theorem V_pattern {d L : Nat} {xs : Nat → Int32} {c0 s0 i : Int} {h : qH} {C B : qB} (hd : 130 ≤ d) (hj : JI L xs c0 s0 h C B) (hc : c0 + 1 ≤ 900000000) (hi : 0 ≤ i ∧ i + 6 ≤ L) (hL : L ≤ 3072) (w : ∀ (h' : qH) (C' B' : qB) (c1 s1 : Int), JI L xs c1 s1 h' C' B' → ((c1 = c0 ∧ s1 = s0) ∨ (c1 = c0 + 1 ∧ s1 = s0 + 6)) → qV d 943 [some (.ref 1000000001), some (.ref 0), some (.ref 112), some (.ref 159), some (iv i), none, none, none] [] h') : qV d 264 [some (.ref 1000000001), some (.ref 0), some (.ref 112), some (.ref 159), some (iv i), none, none, none] [] h := by
  refine v_go (r_ldk (ok := q_isA) (n := 1) (ckc_at dlaw 135 rfl) rfl rfl (fun _ => rfl) rfl rfl) ?_
  refine v_go (r_ldk (ok := q_isA) (n := 0) (ckc_at dlaw 136 rfl) rfl rfl (fun _ => rfl) rfl rfl) ?_
  refine v_go (r_ldk (ok := q_isI) (n := 4) (ckc_at dlaw 137 rfl) rfl rfl (fun _ => rfl) rfl rfl) ?_
  refine v_go (r_op (ckc_at dlaw 138 rfl) rfl (o_const _)) ?_
  refine v_go (r_op (ckc_at dlaw 139 rfl) rfl o_iadd) ?_
  refine v_go (r_mem (ckc_at dlaw 140 rfl) rfl rfl (fun _ => rfl) rfl (m_scr hj.2.2.2.2.1 (by omega) (by omega) hL)) ?_
  refine v_go (r_ldk (ok := q_isA) (n := 3) (ckc_at dlaw 141 rfl) rfl rfl (fun _ => rfl) rfl rfl) ?_
  refine v_wrapU (k := 2) (as := [.ref 0, iv (X xs (i + 1)), .ref 159]) (r := []) (n := 1) (ckc_at dlaw 142 rfl) (by decide +kernel) (by decide +kernel) rfl rfl (Nat.le_of_ble_eq_true rfl) (Nat.le_of_ble_eq_true rfl) (Nat.le_of_ble_eq_true rfl) rfl ?_
  refine J_call (mk := iv) (lg := fun a => (Int32.ofInt a).toInt64) hj (PP_pattern hd hj.2.2.1 hj.2.2.2.1 hc (X_R xs _)) (by decide) (fun a b e => iv_in e) (fun Q x => W_pattern hj.o0 x) (fun z h2 C' c1 s1 out f hm hcc hz hs ho hf h9 hcs hq => ?_)
  refine v_go (r_st1 (ok := q_isI) (n := 5) (L' := [some (.ref 1000000001), some (.ref 0), some (.ref 112), some (.ref 159), some (iv i), some (iv z), none, none]) (ckc_at dlaw 143 rfl) rfl (fun _ => rfl) (fun _ _ => rfl) rfl rfl (by decide) rfl rfl) ?_
  refine v_go (r_ldk (ok := q_isA) (n := 2) (ckc_at dlaw 144 rfl) rfl rfl (fun _ => rfl) rfl rfl) ?_
  refine v_go (r_ldk (ok := q_isA) (n := 0) (ckc_at dlaw 145 rfl) rfl rfl (fun _ => rfl) rfl rfl) ?_
  refine v_go (r_ldk (ok := q_isI) (n := 4) (ckc_at dlaw 146 rfl) rfl rfl (fun _ => rfl) rfl rfl) ?_
  refine v_go (r_op (ckc_at dlaw 147 rfl) rfl (o_const _)) ?_
  refine v_go (r_op (ckc_at dlaw 148 rfl) rfl o_iadd) ?_
  refine v_go (r_mem (ckc_at dlaw 149 rfl) rfl rfl (fun _ => rfl) rfl (m_scr hs (by omega) (by omega) hL)) ?_
  refine v_virtM (k' := k_pattern) (as := [iv (X xs (i + 1))]) (r := []) (n := 2) hm (ckc_at dlaw 150 rfl) (by decide +kernel) vk_pattern rfl nl_pattern rfl rfl rfl rfl (qZ.mono hq (Nat.le_refl _) (fun o' B' hB => ?_))
  obtain ⟨a, rfl, hB0, hB1, hI, hO⟩ := hB
  obtain ⟨y1, y2, y3, y4⟩ := jn_model (B' := B') hcc hz
  refine ⟨_, rfl, ?_⟩
  have yo : (hM 112 h2 B').1 159 = some (.inl (2, 1, f)) := y3.trans ho
  have hw := w (hM 112 h2 B') C' B' c1 s1 ⟨y1, y2, hI, hO, y4.trans hs, _, yo⟩ hcs
  clear hq hj w
  generalize hM 112 h2 B' = h3 at *
  refine v_go (r_st1 (ok := q_isI) (n := 6) (L' := [some (.ref 1000000001), some (.ref 0), some (.ref 112), some (.ref 159), some (iv i), some (iv z), some (iv a), none]) (ckc_at dlaw 151 rfl) rfl (fun _ => rfl) (fun _ _ => rfl) rfl rfl (by decide) rfl rfl) ?_
  refine v_go (r_ldk (ok := q_isA) (n := 2) (ckc_at dlaw 152 rfl) rfl rfl (fun _ => rfl) rfl rfl) ?_
  refine v_virtM (k' := k_thrown) (as := []) (r := []) (n := 0) y2 (ckc_at dlaw 153 rfl) (by decide +kernel) vk_thrown rfl nl_thrown rfl rfl rfl rfl ?_
  refine qZ.mono (d := 0 + 1) (R_thrown (by decide) ⟨_, rfl, ?_⟩) (by omega) (fun _ _ q => q)
  rw [← y2, hB0]
  refine v_go (r_ldk (ok := q_isI) (n := 5) (ckc_at dlaw 154 rfl) rfl rfl (fun _ => rfl) rfl rfl) ?_
  refine v_icmp (t := 300) (ckc_at dlaw 155 rfl) (by decide) ⟨by omega, by omega⟩ ⟨by omega, by omega⟩ (fun _ => ?_) (fun q => absurd rfl q)
  refine v_go (r_ldk (ok := q_isI) (n := 5) (ckc_at dlaw 158 rfl) rfl rfl (fun _ => rfl) rfl rfl) ?_
  have fin : qV d 317 [some (.ref 1000000001), some (.ref 0), some (.ref 112), some (.ref 159), some (iv i), some (iv z), some (iv a), none] [] h3 := v_go (r_goto (t := 943) (ckc_at dlaw 169 rfl) (by decide)) (v_wk hw ⟨rfl, rfl, rfl, rfl, rfl, trivial⟩)
  refine v_ifz (t := 317) (ckc_at dlaw 159 rfl) (by decide) ⟨by omega, by omega⟩ (fun _ => fin) (fun q => ?_)
  have z0 : z = 0 := cN_ne q
  refine v_go (r_ldk (ok := q_isA) (n := 3) (ckc_at dlaw 160 rfl) rfl rfl (fun _ => rfl) rfl rfl) ?_
  refine v_go (r_op (ckc_at dlaw 161 rfl) rfl (o_const _)) ?_
  refine v_go (r_mem (ckc_at dlaw 162 rfl) rfl rfl (fun _ => rfl) rfl (m_lald yo (hf z0))) ?_
  refine v_go (r_ldk (ok := q_isI) (n := 6) (ckc_at dlaw 163 rfl) rfl rfl (fun _ => rfl) rfl rfl) ?_
  refine v_go (r_op (ckc_at dlaw 164 rfl) rfl rfl) ?_
  refine v_go (r_op (ckc_at dlaw 165 rfl) rfl (o_lc0 (hB1 z0))) ?_
  exact v_ifz (t := 317) (ckc_at dlaw 166 rfl) (by decide) ⟨by decide, by decide⟩ (fun _ => fin) (fun q => absurd rfl q)
theorem V_text {d L : Nat} {xs : Nat → Int32} {c0 s0 i : Int} {h : qH} {C B : qB} (hd : 130 ≤ d) (hj : JI L xs c0 s0 h C B) (hc : c0 + 1 ≤ 900000000) (hi : 0 ≤ i ∧ i + 6 ≤ L) (hL : L ≤ 3072) (w : ∀ (h' : qH) (C' B' : qB) (c1 s1 : Int), JI L xs c1 s1 h' C' B' → ((c1 = c0 ∧ s1 = s0) ∨ (c1 = c0 + 1 ∧ s1 = s0 + 6)) → qV d 943 [some (.ref 1000000001), some (.ref 0), some (.ref 112), some (.ref 159), some (iv i), none, none, none] [] h') : qV d 320 [some (.ref 1000000001), some (.ref 0), some (.ref 112), some (.ref 159), some (iv i), none, none, none] [] h := by
  refine v_go (r_ldk (ok := q_isA) (n := 1) (ckc_at dlaw 170 rfl) rfl rfl (fun _ => rfl) rfl rfl) ?_
  refine v_go (r_ldk (ok := q_isA) (n := 0) (ckc_at dlaw 171 rfl) rfl rfl (fun _ => rfl) rfl rfl) ?_
  refine v_go (r_ldk (ok := q_isI) (n := 4) (ckc_at dlaw 172 rfl) rfl rfl (fun _ => rfl) rfl rfl) ?_
  refine v_go (r_op (ckc_at dlaw 173 rfl) rfl (o_const _)) ?_
  refine v_go (r_op (ckc_at dlaw 174 rfl) rfl o_iadd) ?_
  refine v_go (r_mem (ckc_at dlaw 175 rfl) rfl rfl (fun _ => rfl) rfl (m_scr hj.2.2.2.2.1 (by omega) (by omega) hL)) ?_
  refine v_go (r_ldk (ok := q_isA) (n := 3) (ckc_at dlaw 176 rfl) rfl rfl (fun _ => rfl) rfl rfl) ?_
  refine v_wrapU (k := 3) (as := [.ref 0, iv (X xs (i + 1)), .ref 159]) (r := []) (n := 1) (ckc_at dlaw 177 rfl) (by decide +kernel) (by decide +kernel) rfl rfl (Nat.le_of_ble_eq_true rfl) (Nat.le_of_ble_eq_true rfl) (Nat.le_of_ble_eq_true rfl) rfl ?_
  refine J_call (mk := iv) (lg := fun a => (Int32.ofInt a).toInt64) hj (PP_text hd hj.2.2.1 hj.2.2.2.1 hc (X_R xs _)) (by decide) (fun a b e => iv_in e) (fun Q x => W_text hj.o0 x) (fun z h2 C' c1 s1 out f hm hcc hz hs ho hf h9 hcs hq => ?_)
  refine v_go (r_st1 (ok := q_isI) (n := 5) (L' := [some (.ref 1000000001), some (.ref 0), some (.ref 112), some (.ref 159), some (iv i), some (iv z), none, none]) (ckc_at dlaw 178 rfl) rfl (fun _ => rfl) (fun _ _ => rfl) rfl rfl (by decide) rfl rfl) ?_
  refine v_go (r_ldk (ok := q_isA) (n := 2) (ckc_at dlaw 179 rfl) rfl rfl (fun _ => rfl) rfl rfl) ?_
  refine v_go (r_ldk (ok := q_isA) (n := 0) (ckc_at dlaw 180 rfl) rfl rfl (fun _ => rfl) rfl rfl) ?_
  refine v_go (r_ldk (ok := q_isI) (n := 4) (ckc_at dlaw 181 rfl) rfl rfl (fun _ => rfl) rfl rfl) ?_
  refine v_go (r_op (ckc_at dlaw 182 rfl) rfl (o_const _)) ?_
  refine v_go (r_op (ckc_at dlaw 183 rfl) rfl o_iadd) ?_
  refine v_go (r_mem (ckc_at dlaw 184 rfl) rfl rfl (fun _ => rfl) rfl (m_scr hs (by omega) (by omega) hL)) ?_
  refine v_virtM (k' := k_text) (as := [iv (X xs (i + 1))]) (r := []) (n := 1) hm (ckc_at dlaw 185 rfl) (by decide +kernel) vk_text rfl nl_text rfl rfl rfl rfl (qZ.mono hq (Nat.le_refl _) (fun o' B' hB => ?_))
  obtain ⟨a, rfl, hB0, hB1, hI, hO⟩ := hB
  obtain ⟨y1, y2, y3, y4⟩ := jn_model (B' := B') hcc hz
  refine ⟨_, rfl, ?_⟩
  have yo : (hM 112 h2 B').1 159 = some (.inl (2, 1, f)) := y3.trans ho
  have hw := w (hM 112 h2 B') C' B' c1 s1 ⟨y1, y2, hI, hO, y4.trans hs, _, yo⟩ hcs
  clear hq hj w
  generalize hM 112 h2 B' = h3 at *
  refine v_go (r_st1 (ok := q_isI) (n := 6) (L' := [some (.ref 1000000001), some (.ref 0), some (.ref 112), some (.ref 159), some (iv i), some (iv z), some (iv a), none]) (ckc_at dlaw 186 rfl) rfl (fun _ => rfl) (fun _ _ => rfl) rfl rfl (by decide) rfl rfl) ?_
  refine v_go (r_ldk (ok := q_isA) (n := 2) (ckc_at dlaw 187 rfl) rfl rfl (fun _ => rfl) rfl rfl) ?_
  refine v_virtM (k' := k_thrown) (as := []) (r := []) (n := 0) y2 (ckc_at dlaw 188 rfl) (by decide +kernel) vk_thrown rfl nl_thrown rfl rfl rfl rfl ?_
  refine qZ.mono (d := 0 + 1) (R_thrown (by decide) ⟨_, rfl, ?_⟩) (by omega) (fun _ _ q => q)
  rw [← y2, hB0]
  refine v_go (r_ldk (ok := q_isI) (n := 5) (ckc_at dlaw 189 rfl) rfl rfl (fun _ => rfl) rfl rfl) ?_
  refine v_icmp (t := 356) (ckc_at dlaw 190 rfl) (by decide) ⟨by omega, by omega⟩ ⟨by omega, by omega⟩ (fun _ => ?_) (fun q => absurd rfl q)
  refine v_go (r_ldk (ok := q_isI) (n := 5) (ckc_at dlaw 193 rfl) rfl rfl (fun _ => rfl) rfl rfl) ?_
  have fin : qV d 373 [some (.ref 1000000001), some (.ref 0), some (.ref 112), some (.ref 159), some (iv i), some (iv z), some (iv a), none] [] h3 := v_go (r_goto (t := 943) (ckc_at dlaw 204 rfl) (by decide)) (v_wk hw ⟨rfl, rfl, rfl, rfl, rfl, trivial⟩)
  refine v_ifz (t := 373) (ckc_at dlaw 194 rfl) (by decide) ⟨by omega, by omega⟩ (fun _ => fin) (fun q => ?_)
  have z0 : z = 0 := cN_ne q
  refine v_go (r_ldk (ok := q_isA) (n := 3) (ckc_at dlaw 195 rfl) rfl rfl (fun _ => rfl) rfl rfl) ?_
  refine v_go (r_op (ckc_at dlaw 196 rfl) rfl (o_const _)) ?_
  refine v_go (r_mem (ckc_at dlaw 197 rfl) rfl rfl (fun _ => rfl) rfl (m_lald yo (hf z0))) ?_
  refine v_go (r_ldk (ok := q_isI) (n := 6) (ckc_at dlaw 198 rfl) rfl rfl (fun _ => rfl) rfl rfl) ?_
  refine v_go (r_op (ckc_at dlaw 199 rfl) rfl rfl) ?_
  refine v_go (r_op (ckc_at dlaw 200 rfl) rfl (o_lc0 (hB1 z0))) ?_
  exact v_ifz (t := 373) (ckc_at dlaw 201 rfl) (by decide) ⟨by decide, by decide⟩ (fun _ => fin) (fun q => absurd rfl q)
theorem V_match {d L : Nat} {xs : Nat → Int32} {c0 s0 i : Int} {h : qH} {C B : qB} (hd : 130 ≤ d) (hj : JI L xs c0 s0 h C B) (hc : c0 + 1 ≤ 900000000) (hi : 0 ≤ i ∧ i + 6 ≤ L) (hL : L ≤ 3072) (w : ∀ (h' : qH) (C' B' : qB) (c1 s1 : Int), JI L xs c1 s1 h' C' B' → ((c1 = c0 ∧ s1 = s0) ∨ (c1 = c0 + 1 ∧ s1 = s0 + 6)) → qV d 943 [some (.ref 1000000001), some (.ref 0), some (.ref 112), some (.ref 159), some (iv i), none, none, none] [] h') : qV d 376 [some (.ref 1000000001), some (.ref 0), some (.ref 112), some (.ref 159), some (iv i), none, none, none] [] h := by
  refine v_go (r_ldk (ok := q_isA) (n := 1) (ckc_at dlaw 205 rfl) rfl rfl (fun _ => rfl) rfl rfl) ?_
  refine v_go (r_ldk (ok := q_isA) (n := 0) (ckc_at dlaw 206 rfl) rfl rfl (fun _ => rfl) rfl rfl) ?_
  refine v_go (r_ldk (ok := q_isI) (n := 4) (ckc_at dlaw 207 rfl) rfl rfl (fun _ => rfl) rfl rfl) ?_
  refine v_go (r_op (ckc_at dlaw 208 rfl) rfl (o_const _)) ?_
  refine v_go (r_op (ckc_at dlaw 209 rfl) rfl o_iadd) ?_
  refine v_go (r_mem (ckc_at dlaw 210 rfl) rfl rfl (fun _ => rfl) rfl (m_scr hj.2.2.2.2.1 (by omega) (by omega) hL)) ?_
  refine v_go (r_ldk (ok := q_isA) (n := 0) (ckc_at dlaw 211 rfl) rfl rfl (fun _ => rfl) rfl rfl) ?_
  refine v_go (r_ldk (ok := q_isI) (n := 4) (ckc_at dlaw 212 rfl) rfl rfl (fun _ => rfl) rfl rfl) ?_
  refine v_go (r_op (ckc_at dlaw 213 rfl) rfl (o_const _)) ?_
  refine v_go (r_op (ckc_at dlaw 214 rfl) rfl o_iadd) ?_
  refine v_go (r_mem (ckc_at dlaw 215 rfl) rfl rfl (fun _ => rfl) rfl (m_scr hj.2.2.2.2.1 (by omega) (by omega) hL)) ?_
  refine v_go (r_ldk (ok := q_isA) (n := 0) (ckc_at dlaw 216 rfl) rfl rfl (fun _ => rfl) rfl rfl) ?_
  refine v_go (r_ldk (ok := q_isI) (n := 4) (ckc_at dlaw 217 rfl) rfl rfl (fun _ => rfl) rfl rfl) ?_
  refine v_go (r_op (ckc_at dlaw 218 rfl) rfl (o_const _)) ?_
  refine v_go (r_op (ckc_at dlaw 219 rfl) rfl o_iadd) ?_
  refine v_go (r_mem (ckc_at dlaw 220 rfl) rfl rfl (fun _ => rfl) rfl (m_scr hj.2.2.2.2.1 (by omega) (by omega) hL)) ?_
  refine v_go (r_ldk (ok := q_isA) (n := 0) (ckc_at dlaw 221 rfl) rfl rfl (fun _ => rfl) rfl rfl) ?_
  refine v_go (r_ldk (ok := q_isI) (n := 4) (ckc_at dlaw 222 rfl) rfl rfl (fun _ => rfl) rfl rfl) ?_
  refine v_go (r_op (ckc_at dlaw 223 rfl) rfl (o_const _)) ?_
  refine v_go (r_op (ckc_at dlaw 224 rfl) rfl o_iadd) ?_
  refine v_go (r_mem (ckc_at dlaw 225 rfl) rfl rfl (fun _ => rfl) rfl (m_scr hj.2.2.2.2.1 (by omega) (by omega) hL)) ?_
  refine v_go (r_ldk (ok := q_isA) (n := 3) (ckc_at dlaw 226 rfl) rfl rfl (fun _ => rfl) rfl rfl) ?_
  refine v_wrapU (k := 4) (as := [.ref 0, iv (X xs (i + 1)), iv (X xs (i + 2)), iv (X xs (i + 3)), iv (X xs (i + 4)), .ref 159]) (r := []) (n := 1) (ckc_at dlaw 227 rfl) (by decide +kernel) (by decide +kernel) rfl rfl (Nat.le_of_ble_eq_true rfl) (Nat.le_of_ble_eq_true rfl) (Nat.le_of_ble_eq_true rfl) rfl ?_
  refine J_call (mk := iv) (lg := fun a => (Int32.ofInt a).toInt64) hj (PP_match hd hj.2.2.1 hj.2.2.2.1 hc (X_R xs _) (X_R xs _) (X_R xs _) (X_R xs _)) (by decide) (fun a b e => iv_in e) (fun Q x => W_match hj.o0 x) (fun z h2 C' c1 s1 out f hm hcc hz hs ho hf h9 hcs hq => ?_)
  refine v_go (r_st1 (ok := q_isI) (n := 5) (L' := [some (.ref 1000000001), some (.ref 0), some (.ref 112), some (.ref 159), some (iv i), some (iv z), none, none]) (ckc_at dlaw 228 rfl) rfl (fun _ => rfl) (fun _ _ => rfl) rfl rfl (by decide) rfl rfl) ?_
  refine v_go (r_ldk (ok := q_isA) (n := 2) (ckc_at dlaw 229 rfl) rfl rfl (fun _ => rfl) rfl rfl) ?_
  refine v_go (r_ldk (ok := q_isA) (n := 0) (ckc_at dlaw 230 rfl) rfl rfl (fun _ => rfl) rfl rfl) ?_
  refine v_go (r_ldk (ok := q_isI) (n := 4) (ckc_at dlaw 231 rfl) rfl rfl (fun _ => rfl) rfl rfl) ?_
  refine v_go (r_op (ckc_at dlaw 232 rfl) rfl (o_const _)) ?_
  refine v_go (r_op (ckc_at dlaw 233 rfl) rfl o_iadd) ?_
  refine v_go (r_mem (ckc_at dlaw 234 rfl) rfl rfl (fun _ => rfl) rfl (m_scr hs (by omega) (by omega) hL)) ?_
  refine v_go (r_ldk (ok := q_isA) (n := 0) (ckc_at dlaw 235 rfl) rfl rfl (fun _ => rfl) rfl rfl) ?_
  refine v_go (r_ldk (ok := q_isI) (n := 4) (ckc_at dlaw 236 rfl) rfl rfl (fun _ => rfl) rfl rfl) ?_
  refine v_go (r_op (ckc_at dlaw 237 rfl) rfl (o_const _)) ?_
  refine v_go (r_op (ckc_at dlaw 238 rfl) rfl o_iadd) ?_
  refine v_go (r_mem (ckc_at dlaw 239 rfl) rfl rfl (fun _ => rfl) rfl (m_scr hs (by omega) (by omega) hL)) ?_
  refine v_go (r_ldk (ok := q_isA) (n := 0) (ckc_at dlaw 240 rfl) rfl rfl (fun _ => rfl) rfl rfl) ?_
  refine v_go (r_ldk (ok := q_isI) (n := 4) (ckc_at dlaw 241 rfl) rfl rfl (fun _ => rfl) rfl rfl) ?_
  refine v_go (r_op (ckc_at dlaw 242 rfl) rfl (o_const _)) ?_
  refine v_go (r_op (ckc_at dlaw 243 rfl) rfl o_iadd) ?_
  refine v_go (r_mem (ckc_at dlaw 244 rfl) rfl rfl (fun _ => rfl) rfl (m_scr hs (by omega) (by omega) hL)) ?_
  refine v_go (r_ldk (ok := q_isA) (n := 0) (ckc_at dlaw 245 rfl) rfl rfl (fun _ => rfl) rfl rfl) ?_
  refine v_go (r_ldk (ok := q_isI) (n := 4) (ckc_at dlaw 246 rfl) rfl rfl (fun _ => rfl) rfl rfl) ?_
  refine v_go (r_op (ckc_at dlaw 247 rfl) rfl (o_const _)) ?_
  refine v_go (r_op (ckc_at dlaw 248 rfl) rfl o_iadd) ?_
  refine v_go (r_mem (ckc_at dlaw 249 rfl) rfl rfl (fun _ => rfl) rfl (m_scr hs (by omega) (by omega) hL)) ?_
  refine v_virtM (k' := k_match) (as := [iv (X xs (i + 1)), iv (X xs (i + 2)), iv (X xs (i + 3)), iv (X xs (i + 4))]) (r := []) (n := 2) hm (ckc_at dlaw 250 rfl) (by decide +kernel) vk_match rfl nl_match rfl rfl rfl rfl (qZ.mono hq (Nat.le_refl _) (fun o' B' hB => ?_))
  obtain ⟨a, rfl, hB0, hB1, hI, hO⟩ := hB
  obtain ⟨y1, y2, y3, y4⟩ := jn_model (B' := B') hcc hz
  refine ⟨_, rfl, ?_⟩
  have yo : (hM 112 h2 B').1 159 = some (.inl (2, 1, f)) := y3.trans ho
  have hw := w (hM 112 h2 B') C' B' c1 s1 ⟨y1, y2, hI, hO, y4.trans hs, _, yo⟩ hcs
  clear hq hj w
  generalize hM 112 h2 B' = h3 at *
  refine v_go (r_st1 (ok := q_isI) (n := 6) (L' := [some (.ref 1000000001), some (.ref 0), some (.ref 112), some (.ref 159), some (iv i), some (iv z), some (iv a), none]) (ckc_at dlaw 251 rfl) rfl (fun _ => rfl) (fun _ _ => rfl) rfl rfl (by decide) rfl rfl) ?_
  refine v_go (r_ldk (ok := q_isA) (n := 2) (ckc_at dlaw 252 rfl) rfl rfl (fun _ => rfl) rfl rfl) ?_
  refine v_virtM (k' := k_thrown) (as := []) (r := []) (n := 0) y2 (ckc_at dlaw 253 rfl) (by decide +kernel) vk_thrown rfl nl_thrown rfl rfl rfl rfl ?_
  refine qZ.mono (d := 0 + 1) (R_thrown (by decide) ⟨_, rfl, ?_⟩) (by omega) (fun _ _ q => q)
  rw [← y2, hB0]
  refine v_go (r_ldk (ok := q_isI) (n := 5) (ckc_at dlaw 254 rfl) rfl rfl (fun _ => rfl) rfl rfl) ?_
  refine v_icmp (t := 448) (ckc_at dlaw 255 rfl) (by decide) ⟨by omega, by omega⟩ ⟨by omega, by omega⟩ (fun _ => ?_) (fun q => absurd rfl q)
  refine v_go (r_ldk (ok := q_isI) (n := 5) (ckc_at dlaw 258 rfl) rfl rfl (fun _ => rfl) rfl rfl) ?_
  have fin : qV d 465 [some (.ref 1000000001), some (.ref 0), some (.ref 112), some (.ref 159), some (iv i), some (iv z), some (iv a), none] [] h3 := v_go (r_goto (t := 943) (ckc_at dlaw 269 rfl) (by decide)) (v_wk hw ⟨rfl, rfl, rfl, rfl, rfl, trivial⟩)
  refine v_ifz (t := 465) (ckc_at dlaw 259 rfl) (by decide) ⟨by omega, by omega⟩ (fun _ => fin) (fun q => ?_)
  have z0 : z = 0 := cN_ne q
  refine v_go (r_ldk (ok := q_isA) (n := 3) (ckc_at dlaw 260 rfl) rfl rfl (fun _ => rfl) rfl rfl) ?_
  refine v_go (r_op (ckc_at dlaw 261 rfl) rfl (o_const _)) ?_
  refine v_go (r_mem (ckc_at dlaw 262 rfl) rfl rfl (fun _ => rfl) rfl (m_lald yo (hf z0))) ?_
  refine v_go (r_ldk (ok := q_isI) (n := 6) (ckc_at dlaw 263 rfl) rfl rfl (fun _ => rfl) rfl rfl) ?_
  refine v_go (r_op (ckc_at dlaw 264 rfl) rfl rfl) ?_
  refine v_go (r_op (ckc_at dlaw 265 rfl) rfl (o_lc0 (hB1 z0))) ?_
  exact v_ifz (t := 465) (ckc_at dlaw 266 rfl) (by decide) ⟨by decide, by decide⟩ (fun _ => fin) (fun q => absurd rfl q)
theorem V_group {d L : Nat} {xs : Nat → Int32} {c0 s0 i : Int} {h : qH} {C B : qB} (hd : 130 ≤ d) (hj : JI L xs c0 s0 h C B) (hc : c0 + 1 ≤ 900000000) (hi : 0 ≤ i ∧ i + 6 ≤ L) (hL : L ≤ 3072) (w : ∀ (h' : qH) (C' B' : qB) (c1 s1 : Int), JI L xs c1 s1 h' C' B' → ((c1 = c0 ∧ s1 = s0) ∨ (c1 = c0 + 1 ∧ s1 = s0 + 6)) → qV d 943 [some (.ref 1000000001), some (.ref 0), some (.ref 112), some (.ref 159), some (iv i), none, none, none] [] h') : qV d 468 [some (.ref 1000000001), some (.ref 0), some (.ref 112), some (.ref 159), some (iv i), none, none, none] [] h := by
  refine v_go (r_ldk (ok := q_isA) (n := 1) (ckc_at dlaw 270 rfl) rfl rfl (fun _ => rfl) rfl rfl) ?_
  refine v_go (r_ldk (ok := q_isA) (n := 0) (ckc_at dlaw 271 rfl) rfl rfl (fun _ => rfl) rfl rfl) ?_
  refine v_go (r_ldk (ok := q_isI) (n := 4) (ckc_at dlaw 272 rfl) rfl rfl (fun _ => rfl) rfl rfl) ?_
  refine v_go (r_op (ckc_at dlaw 273 rfl) rfl (o_const _)) ?_
  refine v_go (r_op (ckc_at dlaw 274 rfl) rfl o_iadd) ?_
  refine v_go (r_mem (ckc_at dlaw 275 rfl) rfl rfl (fun _ => rfl) rfl (m_scr hj.2.2.2.2.1 (by omega) (by omega) hL)) ?_
  refine v_go (r_ldk (ok := q_isA) (n := 0) (ckc_at dlaw 276 rfl) rfl rfl (fun _ => rfl) rfl rfl) ?_
  refine v_go (r_ldk (ok := q_isI) (n := 4) (ckc_at dlaw 277 rfl) rfl rfl (fun _ => rfl) rfl rfl) ?_
  refine v_go (r_op (ckc_at dlaw 278 rfl) rfl (o_const _)) ?_
  refine v_go (r_op (ckc_at dlaw 279 rfl) rfl o_iadd) ?_
  refine v_go (r_mem (ckc_at dlaw 280 rfl) rfl rfl (fun _ => rfl) rfl (m_scr hj.2.2.2.2.1 (by omega) (by omega) hL)) ?_
  refine v_go (r_ldk (ok := q_isA) (n := 3) (ckc_at dlaw 281 rfl) rfl rfl (fun _ => rfl) rfl rfl) ?_
  refine v_wrapU (k := 5) (as := [.ref 0, iv (X xs (i + 1)), iv (X xs (i + 2)), .ref 159]) (r := []) (n := 1) (ckc_at dlaw 282 rfl) (by decide +kernel) (by decide +kernel) rfl rfl (Nat.le_of_ble_eq_true rfl) (Nat.le_of_ble_eq_true rfl) (Nat.le_of_ble_eq_true rfl) rfl ?_
  refine J_call (mk := iv) (lg := fun a => (Int32.ofInt a).toInt64) hj (PP_group hd hj.2.2.1 hj.2.2.2.1 hc (X_R xs _) (X_R xs _)) (by decide) (fun a b e => iv_in e) (fun Q x => W_group hj.o0 x) (fun z h2 C' c1 s1 out f hm hcc hz hs ho hf h9 hcs hq => ?_)
  refine v_go (r_st1 (ok := q_isI) (n := 5) (L' := [some (.ref 1000000001), some (.ref 0), some (.ref 112), some (.ref 159), some (iv i), some (iv z), none, none]) (ckc_at dlaw 283 rfl) rfl (fun _ => rfl) (fun _ _ => rfl) rfl rfl (by decide) rfl rfl) ?_
  refine v_go (r_ldk (ok := q_isA) (n := 2) (ckc_at dlaw 284 rfl) rfl rfl (fun _ => rfl) rfl rfl) ?_
  refine v_go (r_ldk (ok := q_isA) (n := 0) (ckc_at dlaw 285 rfl) rfl rfl (fun _ => rfl) rfl rfl) ?_
  refine v_go (r_ldk (ok := q_isI) (n := 4) (ckc_at dlaw 286 rfl) rfl rfl (fun _ => rfl) rfl rfl) ?_
  refine v_go (r_op (ckc_at dlaw 287 rfl) rfl (o_const _)) ?_
  refine v_go (r_op (ckc_at dlaw 288 rfl) rfl o_iadd) ?_
  refine v_go (r_mem (ckc_at dlaw 289 rfl) rfl rfl (fun _ => rfl) rfl (m_scr hs (by omega) (by omega) hL)) ?_
  refine v_go (r_ldk (ok := q_isA) (n := 0) (ckc_at dlaw 290 rfl) rfl rfl (fun _ => rfl) rfl rfl) ?_
  refine v_go (r_ldk (ok := q_isI) (n := 4) (ckc_at dlaw 291 rfl) rfl rfl (fun _ => rfl) rfl rfl) ?_
  refine v_go (r_op (ckc_at dlaw 292 rfl) rfl (o_const _)) ?_
  refine v_go (r_op (ckc_at dlaw 293 rfl) rfl o_iadd) ?_
  refine v_go (r_mem (ckc_at dlaw 294 rfl) rfl rfl (fun _ => rfl) rfl (m_scr hs (by omega) (by omega) hL)) ?_
  refine v_virtM (k' := k_group) (as := [iv (X xs (i + 1)), iv (X xs (i + 2))]) (r := []) (n := 0) hm (ckc_at dlaw 295 rfl) (by decide +kernel) vk_group rfl nl_group rfl rfl rfl rfl (qZ.mono hq (Nat.le_refl _) (fun o' B' hB => ?_))
  obtain ⟨a, rfl, hB0, hB1, hI, hO⟩ := hB
  obtain ⟨y1, y2, y3, y4⟩ := jn_model (B' := B') hcc hz
  refine ⟨_, rfl, ?_⟩
  have yo : (hM 112 h2 B').1 159 = some (.inl (2, 1, f)) := y3.trans ho
  have hw := w (hM 112 h2 B') C' B' c1 s1 ⟨y1, y2, hI, hO, y4.trans hs, _, yo⟩ hcs
  clear hq hj w
  generalize hM 112 h2 B' = h3 at *
  refine v_go (r_st1 (ok := q_isI) (n := 6) (L' := [some (.ref 1000000001), some (.ref 0), some (.ref 112), some (.ref 159), some (iv i), some (iv z), some (iv a), none]) (ckc_at dlaw 296 rfl) rfl (fun _ => rfl) (fun _ _ => rfl) rfl rfl (by decide) rfl rfl) ?_
  refine v_go (r_ldk (ok := q_isA) (n := 2) (ckc_at dlaw 297 rfl) rfl rfl (fun _ => rfl) rfl rfl) ?_
  refine v_virtM (k' := k_thrown) (as := []) (r := []) (n := 0) y2 (ckc_at dlaw 298 rfl) (by decide +kernel) vk_thrown rfl nl_thrown rfl rfl rfl rfl ?_
  refine qZ.mono (d := 0 + 1) (R_thrown (by decide) ⟨_, rfl, ?_⟩) (by omega) (fun _ _ q => q)
  rw [← y2, hB0]
  refine v_go (r_ldk (ok := q_isI) (n := 5) (ckc_at dlaw 299 rfl) rfl rfl (fun _ => rfl) rfl rfl) ?_
  refine v_icmp (t := 516) (ckc_at dlaw 300 rfl) (by decide) ⟨by omega, by omega⟩ ⟨by omega, by omega⟩ (fun _ => ?_) (fun q => absurd rfl q)
  refine v_go (r_ldk (ok := q_isI) (n := 5) (ckc_at dlaw 303 rfl) rfl rfl (fun _ => rfl) rfl rfl) ?_
  have fin : qV d 533 [some (.ref 1000000001), some (.ref 0), some (.ref 112), some (.ref 159), some (iv i), some (iv z), some (iv a), none] [] h3 := v_go (r_goto (t := 943) (ckc_at dlaw 314 rfl) (by decide)) (v_wk hw ⟨rfl, rfl, rfl, rfl, rfl, trivial⟩)
  refine v_ifz (t := 533) (ckc_at dlaw 304 rfl) (by decide) ⟨by omega, by omega⟩ (fun _ => fin) (fun q => ?_)
  have z0 : z = 0 := cN_ne q
  refine v_go (r_ldk (ok := q_isA) (n := 3) (ckc_at dlaw 305 rfl) rfl rfl (fun _ => rfl) rfl rfl) ?_
  refine v_go (r_op (ckc_at dlaw 306 rfl) rfl (o_const _)) ?_
  refine v_go (r_mem (ckc_at dlaw 307 rfl) rfl rfl (fun _ => rfl) rfl (m_lald yo (hf z0))) ?_
  refine v_go (r_ldk (ok := q_isI) (n := 6) (ckc_at dlaw 308 rfl) rfl rfl (fun _ => rfl) rfl rfl) ?_
  refine v_go (r_op (ckc_at dlaw 309 rfl) rfl rfl) ?_
  refine v_go (r_op (ckc_at dlaw 310 rfl) rfl (o_lc0 (hB1 z0))) ?_
  exact v_ifz (t := 533) (ckc_at dlaw 311 rfl) (by decide) ⟨by decide, by decide⟩ (fun _ => fin) (fun q => absurd rfl q)
theorem V_find {d L : Nat} {xs : Nat → Int32} {c0 s0 i : Int} {h : qH} {C B : qB} (hd : 130 ≤ d) (hj : JI L xs c0 s0 h C B) (hc : c0 + 1 ≤ 900000000) (hi : 0 ≤ i ∧ i + 6 ≤ L) (hL : L ≤ 3072) (w : ∀ (h' : qH) (C' B' : qB) (c1 s1 : Int), JI L xs c1 s1 h' C' B' → ((c1 = c0 ∧ s1 = s0) ∨ (c1 = c0 + 1 ∧ s1 = s0 + 6)) → qV d 943 [some (.ref 1000000001), some (.ref 0), some (.ref 112), some (.ref 159), some (iv i), none, none, none] [] h') : qV d 536 [some (.ref 1000000001), some (.ref 0), some (.ref 112), some (.ref 159), some (iv i), none, none, none] [] h := by
  refine v_go (r_ldk (ok := q_isA) (n := 1) (ckc_at dlaw 315 rfl) rfl rfl (fun _ => rfl) rfl rfl) ?_
  refine v_go (r_ldk (ok := q_isA) (n := 0) (ckc_at dlaw 316 rfl) rfl rfl (fun _ => rfl) rfl rfl) ?_
  refine v_go (r_ldk (ok := q_isI) (n := 4) (ckc_at dlaw 317 rfl) rfl rfl (fun _ => rfl) rfl rfl) ?_
  refine v_go (r_op (ckc_at dlaw 318 rfl) rfl (o_const _)) ?_
  refine v_go (r_op (ckc_at dlaw 319 rfl) rfl o_iadd) ?_
  refine v_go (r_mem (ckc_at dlaw 320 rfl) rfl rfl (fun _ => rfl) rfl (m_scr hj.2.2.2.2.1 (by omega) (by omega) hL)) ?_
  refine v_go (r_ldk (ok := q_isA) (n := 0) (ckc_at dlaw 321 rfl) rfl rfl (fun _ => rfl) rfl rfl) ?_
  refine v_go (r_ldk (ok := q_isI) (n := 4) (ckc_at dlaw 322 rfl) rfl rfl (fun _ => rfl) rfl rfl) ?_
  refine v_go (r_op (ckc_at dlaw 323 rfl) rfl (o_const _)) ?_
  refine v_go (r_op (ckc_at dlaw 324 rfl) rfl o_iadd) ?_
  refine v_go (r_mem (ckc_at dlaw 325 rfl) rfl rfl (fun _ => rfl) rfl (m_scr hj.2.2.2.2.1 (by omega) (by omega) hL)) ?_
  refine v_go (r_ldk (ok := q_isA) (n := 3) (ckc_at dlaw 326 rfl) rfl rfl (fun _ => rfl) rfl rfl) ?_
  refine v_wrapU (k := 6) (as := [.ref 0, iv (X xs (i + 1)), iv (X xs (i + 2)), .ref 159]) (r := []) (n := 1) (ckc_at dlaw 327 rfl) (by decide +kernel) (by decide +kernel) rfl rfl (Nat.le_of_ble_eq_true rfl) (Nat.le_of_ble_eq_true rfl) (Nat.le_of_ble_eq_true rfl) rfl ?_
  refine J_call (mk := iv) (lg := fun a => (Int32.ofInt a).toInt64) hj (PP_find hd hj.2.2.1 hj.2.2.2.1 hc (X_R xs _) (X_R xs _)) (by decide) (fun a b e => iv_in e) (fun Q x => W_find hj.o0 x) (fun z h2 C' c1 s1 out f hm hcc hz hs ho hf h9 hcs hq => ?_)
  refine v_go (r_st1 (ok := q_isI) (n := 5) (L' := [some (.ref 1000000001), some (.ref 0), some (.ref 112), some (.ref 159), some (iv i), some (iv z), none, none]) (ckc_at dlaw 328 rfl) rfl (fun _ => rfl) (fun _ _ => rfl) rfl rfl (by decide) rfl rfl) ?_
  refine v_go (r_ldk (ok := q_isA) (n := 2) (ckc_at dlaw 329 rfl) rfl rfl (fun _ => rfl) rfl rfl) ?_
  refine v_go (r_ldk (ok := q_isA) (n := 0) (ckc_at dlaw 330 rfl) rfl rfl (fun _ => rfl) rfl rfl) ?_
  refine v_go (r_ldk (ok := q_isI) (n := 4) (ckc_at dlaw 331 rfl) rfl rfl (fun _ => rfl) rfl rfl) ?_
  refine v_go (r_op (ckc_at dlaw 332 rfl) rfl (o_const _)) ?_
  refine v_go (r_op (ckc_at dlaw 333 rfl) rfl o_iadd) ?_
  refine v_go (r_mem (ckc_at dlaw 334 rfl) rfl rfl (fun _ => rfl) rfl (m_scr hs (by omega) (by omega) hL)) ?_
  refine v_go (r_ldk (ok := q_isA) (n := 0) (ckc_at dlaw 335 rfl) rfl rfl (fun _ => rfl) rfl rfl) ?_
  refine v_go (r_ldk (ok := q_isI) (n := 4) (ckc_at dlaw 336 rfl) rfl rfl (fun _ => rfl) rfl rfl) ?_
  refine v_go (r_op (ckc_at dlaw 337 rfl) rfl (o_const _)) ?_
  refine v_go (r_op (ckc_at dlaw 338 rfl) rfl o_iadd) ?_
  refine v_go (r_mem (ckc_at dlaw 339 rfl) rfl rfl (fun _ => rfl) rfl (m_scr hs (by omega) (by omega) hL)) ?_
  refine v_virtM (k' := k_find) (as := [iv (X xs (i + 1)), iv (X xs (i + 2))]) (r := []) (n := 1) hm (ckc_at dlaw 340 rfl) (by decide +kernel) vk_find rfl nl_find rfl rfl rfl rfl (qZ.mono hq (Nat.le_refl _) (fun o' B' hB => ?_))
  obtain ⟨a, rfl, hB0, hB1, hI, hO⟩ := hB
  obtain ⟨y1, y2, y3, y4⟩ := jn_model (B' := B') hcc hz
  refine ⟨_, rfl, ?_⟩
  have yo : (hM 112 h2 B').1 159 = some (.inl (2, 1, f)) := y3.trans ho
  have hw := w (hM 112 h2 B') C' B' c1 s1 ⟨y1, y2, hI, hO, y4.trans hs, _, yo⟩ hcs
  clear hq hj w
  generalize hM 112 h2 B' = h3 at *
  refine v_go (r_st1 (ok := q_isI) (n := 6) (L' := [some (.ref 1000000001), some (.ref 0), some (.ref 112), some (.ref 159), some (iv i), some (iv z), some (iv a), none]) (ckc_at dlaw 341 rfl) rfl (fun _ => rfl) (fun _ _ => rfl) rfl rfl (by decide) rfl rfl) ?_
  refine v_go (r_ldk (ok := q_isA) (n := 2) (ckc_at dlaw 342 rfl) rfl rfl (fun _ => rfl) rfl rfl) ?_
  refine v_virtM (k' := k_thrown) (as := []) (r := []) (n := 0) y2 (ckc_at dlaw 343 rfl) (by decide +kernel) vk_thrown rfl nl_thrown rfl rfl rfl rfl ?_
  refine qZ.mono (d := 0 + 1) (R_thrown (by decide) ⟨_, rfl, ?_⟩) (by omega) (fun _ _ q => q)
  rw [← y2, hB0]
  refine v_go (r_ldk (ok := q_isI) (n := 5) (ckc_at dlaw 344 rfl) rfl rfl (fun _ => rfl) rfl rfl) ?_
  refine v_icmp (t := 584) (ckc_at dlaw 345 rfl) (by decide) ⟨by omega, by omega⟩ ⟨by omega, by omega⟩ (fun _ => ?_) (fun q => absurd rfl q)
  refine v_go (r_ldk (ok := q_isI) (n := 5) (ckc_at dlaw 348 rfl) rfl rfl (fun _ => rfl) rfl rfl) ?_
  have fin : qV d 601 [some (.ref 1000000001), some (.ref 0), some (.ref 112), some (.ref 159), some (iv i), some (iv z), some (iv a), none] [] h3 := v_go (r_goto (t := 943) (ckc_at dlaw 359 rfl) (by decide)) (v_wk hw ⟨rfl, rfl, rfl, rfl, rfl, trivial⟩)
  refine v_ifz (t := 601) (ckc_at dlaw 349 rfl) (by decide) ⟨by omega, by omega⟩ (fun _ => fin) (fun q => ?_)
  have z0 : z = 0 := cN_ne q
  refine v_go (r_ldk (ok := q_isA) (n := 3) (ckc_at dlaw 350 rfl) rfl rfl (fun _ => rfl) rfl rfl) ?_
  refine v_go (r_op (ckc_at dlaw 351 rfl) rfl (o_const _)) ?_
  refine v_go (r_mem (ckc_at dlaw 352 rfl) rfl rfl (fun _ => rfl) rfl (m_lald yo (hf z0))) ?_
  refine v_go (r_ldk (ok := q_isI) (n := 6) (ckc_at dlaw 353 rfl) rfl rfl (fun _ => rfl) rfl rfl) ?_
  refine v_go (r_op (ckc_at dlaw 354 rfl) rfl rfl) ?_
  refine v_go (r_op (ckc_at dlaw 355 rfl) rfl (o_lc0 (hB1 z0))) ?_
  exact v_ifz (t := 601) (ckc_at dlaw 356 rfl) (by decide) ⟨by decide, by decide⟩ (fun _ => fin) (fun q => absurd rfl q)
theorem V_found {d L : Nat} {xs : Nat → Int32} {c0 s0 i : Int} {h : qH} {C B : qB} (hd : 130 ≤ d) (hj : JI L xs c0 s0 h C B) (hc : c0 + 1 ≤ 900000000) (hi : 0 ≤ i ∧ i + 6 ≤ L) (hL : L ≤ 3072) (w : ∀ (h' : qH) (C' B' : qB) (c1 s1 : Int), JI L xs c1 s1 h' C' B' → ((c1 = c0 ∧ s1 = s0) ∨ (c1 = c0 + 1 ∧ s1 = s0 + 6)) → qV d 943 [some (.ref 1000000001), some (.ref 0), some (.ref 112), some (.ref 159), some (iv i), none, none, none] [] h') : qV d 604 [some (.ref 1000000001), some (.ref 0), some (.ref 112), some (.ref 159), some (iv i), none, none, none] [] h := by
  refine v_go (r_ldk (ok := q_isA) (n := 1) (ckc_at dlaw 360 rfl) rfl rfl (fun _ => rfl) rfl rfl) ?_
  refine v_go (r_ldk (ok := q_isA) (n := 0) (ckc_at dlaw 361 rfl) rfl rfl (fun _ => rfl) rfl rfl) ?_
  refine v_go (r_ldk (ok := q_isI) (n := 4) (ckc_at dlaw 362 rfl) rfl rfl (fun _ => rfl) rfl rfl) ?_
  refine v_go (r_op (ckc_at dlaw 363 rfl) rfl (o_const _)) ?_
  refine v_go (r_op (ckc_at dlaw 364 rfl) rfl o_iadd) ?_
  refine v_go (r_mem (ckc_at dlaw 365 rfl) rfl rfl (fun _ => rfl) rfl (m_scr hj.2.2.2.2.1 (by omega) (by omega) hL)) ?_
  refine v_go (r_ldk (ok := q_isA) (n := 0) (ckc_at dlaw 366 rfl) rfl rfl (fun _ => rfl) rfl rfl) ?_
  refine v_go (r_ldk (ok := q_isI) (n := 4) (ckc_at dlaw 367 rfl) rfl rfl (fun _ => rfl) rfl rfl) ?_
  refine v_go (r_op (ckc_at dlaw 368 rfl) rfl (o_const _)) ?_
  refine v_go (r_op (ckc_at dlaw 369 rfl) rfl o_iadd) ?_
  refine v_go (r_mem (ckc_at dlaw 370 rfl) rfl rfl (fun _ => rfl) rfl (m_scr hj.2.2.2.2.1 (by omega) (by omega) hL)) ?_
  refine v_go (r_ldk (ok := q_isA) (n := 3) (ckc_at dlaw 371 rfl) rfl rfl (fun _ => rfl) rfl rfl) ?_
  refine v_wrapU (k := 7) (as := [.ref 0, iv (X xs (i + 1)), iv (X xs (i + 2)), .ref 159]) (r := []) (n := 1) (ckc_at dlaw 372 rfl) (by decide +kernel) (by decide +kernel) rfl rfl (Nat.le_of_ble_eq_true rfl) (Nat.le_of_ble_eq_true rfl) (Nat.le_of_ble_eq_true rfl) rfl ?_
  refine J_call (mk := iv) (lg := fun a => (Int32.ofInt a).toInt64) hj (PP_found hd hj.2.2.1 hj.2.2.2.1 hc (X_R xs _) (X_R xs _)) (by decide) (fun a b e => iv_in e) (fun Q x => W_found hj.o0 x) (fun z h2 C' c1 s1 out f hm hcc hz hs ho hf h9 hcs hq => ?_)
  refine v_go (r_st1 (ok := q_isI) (n := 5) (L' := [some (.ref 1000000001), some (.ref 0), some (.ref 112), some (.ref 159), some (iv i), some (iv z), none, none]) (ckc_at dlaw 373 rfl) rfl (fun _ => rfl) (fun _ _ => rfl) rfl rfl (by decide) rfl rfl) ?_
  refine v_go (r_ldk (ok := q_isA) (n := 2) (ckc_at dlaw 374 rfl) rfl rfl (fun _ => rfl) rfl rfl) ?_
  refine v_go (r_ldk (ok := q_isA) (n := 0) (ckc_at dlaw 375 rfl) rfl rfl (fun _ => rfl) rfl rfl) ?_
  refine v_go (r_ldk (ok := q_isI) (n := 4) (ckc_at dlaw 376 rfl) rfl rfl (fun _ => rfl) rfl rfl) ?_
  refine v_go (r_op (ckc_at dlaw 377 rfl) rfl (o_const _)) ?_
  refine v_go (r_op (ckc_at dlaw 378 rfl) rfl o_iadd) ?_
  refine v_go (r_mem (ckc_at dlaw 379 rfl) rfl rfl (fun _ => rfl) rfl (m_scr hs (by omega) (by omega) hL)) ?_
  refine v_go (r_ldk (ok := q_isA) (n := 0) (ckc_at dlaw 380 rfl) rfl rfl (fun _ => rfl) rfl rfl) ?_
  refine v_go (r_ldk (ok := q_isI) (n := 4) (ckc_at dlaw 381 rfl) rfl rfl (fun _ => rfl) rfl rfl) ?_
  refine v_go (r_op (ckc_at dlaw 382 rfl) rfl (o_const _)) ?_
  refine v_go (r_op (ckc_at dlaw 383 rfl) rfl o_iadd) ?_
  refine v_go (r_mem (ckc_at dlaw 384 rfl) rfl rfl (fun _ => rfl) rfl (m_scr hs (by omega) (by omega) hL)) ?_
  refine v_virtM (k' := k_found) (as := [iv (X xs (i + 1)), iv (X xs (i + 2))]) (r := []) (n := 0) hm (ckc_at dlaw 385 rfl) (by decide +kernel) vk_found rfl nl_found rfl rfl rfl rfl (qZ.mono hq (Nat.le_refl _) (fun o' B' hB => ?_))
  obtain ⟨a, rfl, hB0, hB1, hI, hO⟩ := hB
  obtain ⟨y1, y2, y3, y4⟩ := jn_model (B' := B') hcc hz
  refine ⟨_, rfl, ?_⟩
  have yo : (hM 112 h2 B').1 159 = some (.inl (2, 1, f)) := y3.trans ho
  have hw := w (hM 112 h2 B') C' B' c1 s1 ⟨y1, y2, hI, hO, y4.trans hs, _, yo⟩ hcs
  clear hq hj w
  generalize hM 112 h2 B' = h3 at *
  refine v_go (r_st1 (ok := q_isI) (n := 6) (L' := [some (.ref 1000000001), some (.ref 0), some (.ref 112), some (.ref 159), some (iv i), some (iv z), some (iv a), none]) (ckc_at dlaw 386 rfl) rfl (fun _ => rfl) (fun _ _ => rfl) rfl rfl (by decide) rfl rfl) ?_
  refine v_go (r_ldk (ok := q_isA) (n := 2) (ckc_at dlaw 387 rfl) rfl rfl (fun _ => rfl) rfl rfl) ?_
  refine v_virtM (k' := k_thrown) (as := []) (r := []) (n := 0) y2 (ckc_at dlaw 388 rfl) (by decide +kernel) vk_thrown rfl nl_thrown rfl rfl rfl rfl ?_
  refine qZ.mono (d := 0 + 1) (R_thrown (by decide) ⟨_, rfl, ?_⟩) (by omega) (fun _ _ q => q)
  rw [← y2, hB0]
  refine v_go (r_ldk (ok := q_isI) (n := 5) (ckc_at dlaw 389 rfl) rfl rfl (fun _ => rfl) rfl rfl) ?_
  refine v_icmp (t := 652) (ckc_at dlaw 390 rfl) (by decide) ⟨by omega, by omega⟩ ⟨by omega, by omega⟩ (fun _ => ?_) (fun q => absurd rfl q)
  refine v_go (r_ldk (ok := q_isI) (n := 5) (ckc_at dlaw 393 rfl) rfl rfl (fun _ => rfl) rfl rfl) ?_
  have fin : qV d 669 [some (.ref 1000000001), some (.ref 0), some (.ref 112), some (.ref 159), some (iv i), some (iv z), some (iv a), none] [] h3 := v_go (r_goto (t := 943) (ckc_at dlaw 404 rfl) (by decide)) (v_wk hw ⟨rfl, rfl, rfl, rfl, rfl, trivial⟩)
  refine v_ifz (t := 669) (ckc_at dlaw 394 rfl) (by decide) ⟨by omega, by omega⟩ (fun _ => fin) (fun q => ?_)
  have z0 : z = 0 := cN_ne q
  refine v_go (r_ldk (ok := q_isA) (n := 3) (ckc_at dlaw 395 rfl) rfl rfl (fun _ => rfl) rfl rfl) ?_
  refine v_go (r_op (ckc_at dlaw 396 rfl) rfl (o_const _)) ?_
  refine v_go (r_mem (ckc_at dlaw 397 rfl) rfl rfl (fun _ => rfl) rfl (m_lald yo (hf z0))) ?_
  refine v_go (r_ldk (ok := q_isI) (n := 6) (ckc_at dlaw 398 rfl) rfl rfl (fun _ => rfl) rfl rfl) ?_
  refine v_go (r_op (ckc_at dlaw 399 rfl) rfl rfl) ?_
  refine v_go (r_op (ckc_at dlaw 400 rfl) rfl (o_lc0 (hB1 z0))) ?_
  exact v_ifz (t := 669) (ckc_at dlaw 401 rfl) (by decide) ⟨by decide, by decide⟩ (fun _ => fin) (fun q => absurd rfl q)
theorem V_replace {d L : Nat} {xs : Nat → Int32} {c0 s0 i : Int} {h : qH} {C B : qB} (hd : 130 ≤ d) (hj : JI L xs c0 s0 h C B) (hc : c0 + 1 ≤ 900000000) (hi : 0 ≤ i ∧ i + 6 ≤ L) (hL : L ≤ 3072) (w : ∀ (h' : qH) (C' B' : qB) (c1 s1 : Int), JI L xs c1 s1 h' C' B' → ((c1 = c0 ∧ s1 = s0) ∨ (c1 = c0 + 1 ∧ s1 = s0 + 6)) → qV d 943 [some (.ref 1000000001), some (.ref 0), some (.ref 112), some (.ref 159), some (iv i), none, none, none] [] h') : qV d 672 [some (.ref 1000000001), some (.ref 0), some (.ref 112), some (.ref 159), some (iv i), none, none, none] [] h := by
  refine v_go (r_ldk (ok := q_isA) (n := 1) (ckc_at dlaw 405 rfl) rfl rfl (fun _ => rfl) rfl rfl) ?_
  refine v_go (r_ldk (ok := q_isA) (n := 0) (ckc_at dlaw 406 rfl) rfl rfl (fun _ => rfl) rfl rfl) ?_
  refine v_go (r_ldk (ok := q_isI) (n := 4) (ckc_at dlaw 407 rfl) rfl rfl (fun _ => rfl) rfl rfl) ?_
  refine v_go (r_op (ckc_at dlaw 408 rfl) rfl (o_const _)) ?_
  refine v_go (r_op (ckc_at dlaw 409 rfl) rfl o_iadd) ?_
  refine v_go (r_mem (ckc_at dlaw 410 rfl) rfl rfl (fun _ => rfl) rfl (m_scr hj.2.2.2.2.1 (by omega) (by omega) hL)) ?_
  refine v_go (r_ldk (ok := q_isA) (n := 0) (ckc_at dlaw 411 rfl) rfl rfl (fun _ => rfl) rfl rfl) ?_
  refine v_go (r_ldk (ok := q_isI) (n := 4) (ckc_at dlaw 412 rfl) rfl rfl (fun _ => rfl) rfl rfl) ?_
  refine v_go (r_op (ckc_at dlaw 413 rfl) rfl (o_const _)) ?_
  refine v_go (r_op (ckc_at dlaw 414 rfl) rfl o_iadd) ?_
  refine v_go (r_mem (ckc_at dlaw 415 rfl) rfl rfl (fun _ => rfl) rfl (m_scr hj.2.2.2.2.1 (by omega) (by omega) hL)) ?_
  refine v_go (r_ldk (ok := q_isA) (n := 3) (ckc_at dlaw 416 rfl) rfl rfl (fun _ => rfl) rfl rfl) ?_
  refine v_wrapU (k := 8) (as := [.ref 0, iv (X xs (i + 1)), iv (X xs (i + 2)), .ref 159]) (r := []) (n := 1) (ckc_at dlaw 417 rfl) (by decide +kernel) (by decide +kernel) rfl rfl (Nat.le_of_ble_eq_true rfl) (Nat.le_of_ble_eq_true rfl) (Nat.le_of_ble_eq_true rfl) rfl ?_
  refine J_call (mk := iv) (lg := fun a => (Int32.ofInt a).toInt64) hj (PP_replace hd hj.2.2.1 hj.2.2.2.1 hc (X_R xs _) (X_R xs _)) (by decide) (fun a b e => iv_in e) (fun Q x => W_replace hj.o0 x) (fun z h2 C' c1 s1 out f hm hcc hz hs ho hf h9 hcs hq => ?_)
  refine v_go (r_st1 (ok := q_isI) (n := 5) (L' := [some (.ref 1000000001), some (.ref 0), some (.ref 112), some (.ref 159), some (iv i), some (iv z), none, none]) (ckc_at dlaw 418 rfl) rfl (fun _ => rfl) (fun _ _ => rfl) rfl rfl (by decide) rfl rfl) ?_
  refine v_go (r_ldk (ok := q_isA) (n := 2) (ckc_at dlaw 419 rfl) rfl rfl (fun _ => rfl) rfl rfl) ?_
  refine v_go (r_ldk (ok := q_isA) (n := 0) (ckc_at dlaw 420 rfl) rfl rfl (fun _ => rfl) rfl rfl) ?_
  refine v_go (r_ldk (ok := q_isI) (n := 4) (ckc_at dlaw 421 rfl) rfl rfl (fun _ => rfl) rfl rfl) ?_
  refine v_go (r_op (ckc_at dlaw 422 rfl) rfl (o_const _)) ?_
  refine v_go (r_op (ckc_at dlaw 423 rfl) rfl o_iadd) ?_
  refine v_go (r_mem (ckc_at dlaw 424 rfl) rfl rfl (fun _ => rfl) rfl (m_scr hs (by omega) (by omega) hL)) ?_
  refine v_go (r_ldk (ok := q_isA) (n := 0) (ckc_at dlaw 425 rfl) rfl rfl (fun _ => rfl) rfl rfl) ?_
  refine v_go (r_ldk (ok := q_isI) (n := 4) (ckc_at dlaw 426 rfl) rfl rfl (fun _ => rfl) rfl rfl) ?_
  refine v_go (r_op (ckc_at dlaw 427 rfl) rfl (o_const _)) ?_
  refine v_go (r_op (ckc_at dlaw 428 rfl) rfl o_iadd) ?_
  refine v_go (r_mem (ckc_at dlaw 429 rfl) rfl rfl (fun _ => rfl) rfl (m_scr hs (by omega) (by omega) hL)) ?_
  refine v_virtM (k' := k_replace) (as := [iv (X xs (i + 1)), iv (X xs (i + 2))]) (r := []) (n := 3) hm (ckc_at dlaw 430 rfl) (by decide +kernel) vk_replace rfl nl_replace rfl rfl rfl rfl (qZ.mono hq (Nat.le_refl _) (fun o' B' hB => ?_))
  obtain ⟨a, rfl, hB0, hB1, hI, hO⟩ := hB
  obtain ⟨y1, y2, y3, y4⟩ := jn_model (B' := B') hcc hz
  refine ⟨_, rfl, ?_⟩
  have yo : (hM 112 h2 B').1 159 = some (.inl (2, 1, f)) := y3.trans ho
  have hw := w (hM 112 h2 B') C' B' c1 s1 ⟨y1, y2, hI, hO, y4.trans hs, _, yo⟩ hcs
  clear hq hj w
  generalize hM 112 h2 B' = h3 at *
  refine v_go (r_st1 (ok := q_isI) (n := 6) (L' := [some (.ref 1000000001), some (.ref 0), some (.ref 112), some (.ref 159), some (iv i), some (iv z), some (iv a), none]) (ckc_at dlaw 431 rfl) rfl (fun _ => rfl) (fun _ _ => rfl) rfl rfl (by decide) rfl rfl) ?_
  refine v_go (r_ldk (ok := q_isA) (n := 2) (ckc_at dlaw 432 rfl) rfl rfl (fun _ => rfl) rfl rfl) ?_
  refine v_virtM (k' := k_thrown) (as := []) (r := []) (n := 0) y2 (ckc_at dlaw 433 rfl) (by decide +kernel) vk_thrown rfl nl_thrown rfl rfl rfl rfl ?_
  refine qZ.mono (d := 0 + 1) (R_thrown (by decide) ⟨_, rfl, ?_⟩) (by omega) (fun _ _ q => q)
  rw [← y2, hB0]
  refine v_go (r_ldk (ok := q_isI) (n := 5) (ckc_at dlaw 434 rfl) rfl rfl (fun _ => rfl) rfl rfl) ?_
  refine v_icmp (t := 720) (ckc_at dlaw 435 rfl) (by decide) ⟨by omega, by omega⟩ ⟨by omega, by omega⟩ (fun _ => ?_) (fun q => absurd rfl q)
  refine v_go (r_ldk (ok := q_isI) (n := 5) (ckc_at dlaw 438 rfl) rfl rfl (fun _ => rfl) rfl rfl) ?_
  have fin : qV d 737 [some (.ref 1000000001), some (.ref 0), some (.ref 112), some (.ref 159), some (iv i), some (iv z), some (iv a), none] [] h3 := v_go (r_goto (t := 943) (ckc_at dlaw 449 rfl) (by decide)) (v_wk hw ⟨rfl, rfl, rfl, rfl, rfl, trivial⟩)
  refine v_ifz (t := 737) (ckc_at dlaw 439 rfl) (by decide) ⟨by omega, by omega⟩ (fun _ => fin) (fun q => ?_)
  have z0 : z = 0 := cN_ne q
  refine v_go (r_ldk (ok := q_isA) (n := 3) (ckc_at dlaw 440 rfl) rfl rfl (fun _ => rfl) rfl rfl) ?_
  refine v_go (r_op (ckc_at dlaw 441 rfl) rfl (o_const _)) ?_
  refine v_go (r_mem (ckc_at dlaw 442 rfl) rfl rfl (fun _ => rfl) rfl (m_lald yo (hf z0))) ?_
  refine v_go (r_ldk (ok := q_isI) (n := 6) (ckc_at dlaw 443 rfl) rfl rfl (fun _ => rfl) rfl rfl) ?_
  refine v_go (r_op (ckc_at dlaw 444 rfl) rfl rfl) ?_
  refine v_go (r_op (ckc_at dlaw 445 rfl) rfl (o_lc0 (hB1 z0))) ?_
  exact v_ifz (t := 737) (ckc_at dlaw 446 rfl) (by decide) ⟨by decide, by decide⟩ (fun _ => fin) (fun q => absurd rfl q)
theorem V_span {d L : Nat} {xs : Nat → Int32} {c0 s0 i : Int} {h : qH} {C B : qB} (hd : 130 ≤ d) (hj : JI L xs c0 s0 h C B) (hc : c0 + 1 ≤ 900000000) (hi : 0 ≤ i ∧ i + 6 ≤ L) (hL : L ≤ 3072) (w : ∀ (h' : qH) (C' B' : qB) (c1 s1 : Int), JI L xs c1 s1 h' C' B' → ((c1 = c0 ∧ s1 = s0) ∨ (c1 = c0 + 1 ∧ s1 = s0 + 6)) → qV d 943 [some (.ref 1000000001), some (.ref 0), some (.ref 112), some (.ref 159), some (iv i), none, none, none] [] h') : qV d 740 [some (.ref 1000000001), some (.ref 0), some (.ref 112), some (.ref 159), some (iv i), none, none, none] [] h := by
  refine v_go (r_ldk (ok := q_isA) (n := 1) (ckc_at dlaw 450 rfl) rfl rfl (fun _ => rfl) rfl rfl) ?_
  refine v_go (r_ldk (ok := q_isA) (n := 0) (ckc_at dlaw 451 rfl) rfl rfl (fun _ => rfl) rfl rfl) ?_
  refine v_go (r_ldk (ok := q_isI) (n := 4) (ckc_at dlaw 452 rfl) rfl rfl (fun _ => rfl) rfl rfl) ?_
  refine v_go (r_op (ckc_at dlaw 453 rfl) rfl (o_const _)) ?_
  refine v_go (r_op (ckc_at dlaw 454 rfl) rfl o_iadd) ?_
  refine v_go (r_mem (ckc_at dlaw 455 rfl) rfl rfl (fun _ => rfl) rfl (m_scr hj.2.2.2.2.1 (by omega) (by omega) hL)) ?_
  refine v_go (r_ldk (ok := q_isA) (n := 0) (ckc_at dlaw 456 rfl) rfl rfl (fun _ => rfl) rfl rfl) ?_
  refine v_go (r_ldk (ok := q_isI) (n := 4) (ckc_at dlaw 457 rfl) rfl rfl (fun _ => rfl) rfl rfl) ?_
  refine v_go (r_op (ckc_at dlaw 458 rfl) rfl (o_const _)) ?_
  refine v_go (r_op (ckc_at dlaw 459 rfl) rfl o_iadd) ?_
  refine v_go (r_mem (ckc_at dlaw 460 rfl) rfl rfl (fun _ => rfl) rfl (m_scr hj.2.2.2.2.1 (by omega) (by omega) hL)) ?_
  refine v_go (r_ldk (ok := q_isA) (n := 0) (ckc_at dlaw 461 rfl) rfl rfl (fun _ => rfl) rfl rfl) ?_
  refine v_go (r_ldk (ok := q_isI) (n := 4) (ckc_at dlaw 462 rfl) rfl rfl (fun _ => rfl) rfl rfl) ?_
  refine v_go (r_op (ckc_at dlaw 463 rfl) rfl (o_const _)) ?_
  refine v_go (r_op (ckc_at dlaw 464 rfl) rfl o_iadd) ?_
  refine v_go (r_mem (ckc_at dlaw 465 rfl) rfl rfl (fun _ => rfl) rfl (m_scr hj.2.2.2.2.1 (by omega) (by omega) hL)) ?_
  refine v_go (r_ldk (ok := q_isA) (n := 3) (ckc_at dlaw 466 rfl) rfl rfl (fun _ => rfl) rfl rfl) ?_
  refine v_wrapU (k := 9) (as := [.ref 0, iv (X xs (i + 1)), iv (X xs (i + 2)), iv (X xs (i + 3)), .ref 159]) (r := []) (n := 1) (ckc_at dlaw 467 rfl) (by decide +kernel) (by decide +kernel) rfl rfl (Nat.le_of_ble_eq_true rfl) (Nat.le_of_ble_eq_true rfl) (Nat.le_of_ble_eq_true rfl) rfl ?_
  refine J_call (mk := iv) (lg := fun a => (Int32.ofInt a).toInt64) hj (PP_span hd hj.2.2.1 hj.2.2.2.1 hc (X_R xs _) (X_R xs _) (X_R xs _)) (by decide) (fun a b e => iv_in e) (fun Q x => W_span hj.o0 x) (fun z h2 C' c1 s1 out f hm hcc hz hs ho hf h9 hcs hq => ?_)
  refine v_go (r_st1 (ok := q_isI) (n := 5) (L' := [some (.ref 1000000001), some (.ref 0), some (.ref 112), some (.ref 159), some (iv i), some (iv z), none, none]) (ckc_at dlaw 468 rfl) rfl (fun _ => rfl) (fun _ _ => rfl) rfl rfl (by decide) rfl rfl) ?_
  refine v_go (r_ldk (ok := q_isA) (n := 2) (ckc_at dlaw 469 rfl) rfl rfl (fun _ => rfl) rfl rfl) ?_
  refine v_go (r_ldk (ok := q_isA) (n := 0) (ckc_at dlaw 470 rfl) rfl rfl (fun _ => rfl) rfl rfl) ?_
  refine v_go (r_ldk (ok := q_isI) (n := 4) (ckc_at dlaw 471 rfl) rfl rfl (fun _ => rfl) rfl rfl) ?_
  refine v_go (r_op (ckc_at dlaw 472 rfl) rfl (o_const _)) ?_
  refine v_go (r_op (ckc_at dlaw 473 rfl) rfl o_iadd) ?_
  refine v_go (r_mem (ckc_at dlaw 474 rfl) rfl rfl (fun _ => rfl) rfl (m_scr hs (by omega) (by omega) hL)) ?_
  refine v_go (r_ldk (ok := q_isA) (n := 0) (ckc_at dlaw 475 rfl) rfl rfl (fun _ => rfl) rfl rfl) ?_
  refine v_go (r_ldk (ok := q_isI) (n := 4) (ckc_at dlaw 476 rfl) rfl rfl (fun _ => rfl) rfl rfl) ?_
  refine v_go (r_op (ckc_at dlaw 477 rfl) rfl (o_const _)) ?_
  refine v_go (r_op (ckc_at dlaw 478 rfl) rfl o_iadd) ?_
  refine v_go (r_mem (ckc_at dlaw 479 rfl) rfl rfl (fun _ => rfl) rfl (m_scr hs (by omega) (by omega) hL)) ?_
  refine v_go (r_ldk (ok := q_isA) (n := 0) (ckc_at dlaw 480 rfl) rfl rfl (fun _ => rfl) rfl rfl) ?_
  refine v_go (r_ldk (ok := q_isI) (n := 4) (ckc_at dlaw 481 rfl) rfl rfl (fun _ => rfl) rfl rfl) ?_
  refine v_go (r_op (ckc_at dlaw 482 rfl) rfl (o_const _)) ?_
  refine v_go (r_op (ckc_at dlaw 483 rfl) rfl o_iadd) ?_
  refine v_go (r_mem (ckc_at dlaw 484 rfl) rfl rfl (fun _ => rfl) rfl (m_scr hs (by omega) (by omega) hL)) ?_
  refine v_virtM (k' := k_span) (as := [iv (X xs (i + 1)), iv (X xs (i + 2)), iv (X xs (i + 3))]) (r := []) (n := 2) hm (ckc_at dlaw 485 rfl) (by decide +kernel) vk_span rfl nl_span rfl rfl rfl rfl (qZ.mono hq (Nat.le_refl _) (fun o' B' hB => ?_))
  obtain ⟨a, rfl, hB0, hB1, hI, hO⟩ := hB
  obtain ⟨y1, y2, y3, y4⟩ := jn_model (B' := B') hcc hz
  refine ⟨_, rfl, ?_⟩
  have yo : (hM 112 h2 B').1 159 = some (.inl (2, 1, f)) := y3.trans ho
  have hw := w (hM 112 h2 B') C' B' c1 s1 ⟨y1, y2, hI, hO, y4.trans hs, _, yo⟩ hcs
  clear hq hj w
  generalize hM 112 h2 B' = h3 at *
  refine v_go (r_st1 (ok := q_isI) (n := 6) (L' := [some (.ref 1000000001), some (.ref 0), some (.ref 112), some (.ref 159), some (iv i), some (iv z), some (iv a), none]) (ckc_at dlaw 486 rfl) rfl (fun _ => rfl) (fun _ _ => rfl) rfl rfl (by decide) rfl rfl) ?_
  refine v_go (r_ldk (ok := q_isA) (n := 2) (ckc_at dlaw 487 rfl) rfl rfl (fun _ => rfl) rfl rfl) ?_
  refine v_virtM (k' := k_thrown) (as := []) (r := []) (n := 0) y2 (ckc_at dlaw 488 rfl) (by decide +kernel) vk_thrown rfl nl_thrown rfl rfl rfl rfl ?_
  refine qZ.mono (d := 0 + 1) (R_thrown (by decide) ⟨_, rfl, ?_⟩) (by omega) (fun _ _ q => q)
  rw [← y2, hB0]
  refine v_go (r_ldk (ok := q_isI) (n := 5) (ckc_at dlaw 489 rfl) rfl rfl (fun _ => rfl) rfl rfl) ?_
  refine v_icmp (t := 800) (ckc_at dlaw 490 rfl) (by decide) ⟨by omega, by omega⟩ ⟨by omega, by omega⟩ (fun _ => ?_) (fun q => absurd rfl q)
  refine v_go (r_ldk (ok := q_isI) (n := 5) (ckc_at dlaw 493 rfl) rfl rfl (fun _ => rfl) rfl rfl) ?_
  have fin : qV d 817 [some (.ref 1000000001), some (.ref 0), some (.ref 112), some (.ref 159), some (iv i), some (iv z), some (iv a), none] [] h3 := v_go (r_goto (t := 943) (ckc_at dlaw 504 rfl) (by decide)) (v_wk hw ⟨rfl, rfl, rfl, rfl, rfl, trivial⟩)
  refine v_ifz (t := 817) (ckc_at dlaw 494 rfl) (by decide) ⟨by omega, by omega⟩ (fun _ => fin) (fun q => ?_)
  have z0 : z = 0 := cN_ne q
  refine v_go (r_ldk (ok := q_isA) (n := 3) (ckc_at dlaw 495 rfl) rfl rfl (fun _ => rfl) rfl rfl) ?_
  refine v_go (r_op (ckc_at dlaw 496 rfl) rfl (o_const _)) ?_
  refine v_go (r_mem (ckc_at dlaw 497 rfl) rfl rfl (fun _ => rfl) rfl (m_lald yo (hf z0))) ?_
  refine v_go (r_ldk (ok := q_isI) (n := 6) (ckc_at dlaw 498 rfl) rfl rfl (fun _ => rfl) rfl rfl) ?_
  refine v_go (r_op (ckc_at dlaw 499 rfl) rfl rfl) ?_
  refine v_go (r_op (ckc_at dlaw 500 rfl) rfl (o_lc0 (hB1 z0))) ?_
  exact v_ifz (t := 817) (ckc_at dlaw 501 rfl) (by decide) ⟨by decide, by decide⟩ (fun _ => fin) (fun q => absurd rfl q)
theorem V_word {d L : Nat} {xs : Nat → Int32} {c0 s0 i : Int} {h : qH} {C B : qB} (hd : 130 ≤ d) (hj : JI L xs c0 s0 h C B) (hc : c0 + 1 ≤ 900000000) (hi : 0 ≤ i ∧ i + 6 ≤ L) (hL : L ≤ 3072) (w : ∀ (h' : qH) (C' B' : qB) (c1 s1 : Int), JI L xs c1 s1 h' C' B' → ((c1 = c0 ∧ s1 = s0) ∨ (c1 = c0 + 1 ∧ s1 = s0 + 6)) → qV d 943 [some (.ref 1000000001), some (.ref 0), some (.ref 112), some (.ref 159), some (iv i), none, none, none] [] h') : qV d 820 [some (.ref 1000000001), some (.ref 0), some (.ref 112), some (.ref 159), some (iv i), none, none, none] [] h := by
  refine v_go (r_ldk (ok := q_isA) (n := 1) (ckc_at dlaw 505 rfl) rfl rfl (fun _ => rfl) rfl rfl) ?_
  refine v_go (r_ldk (ok := q_isA) (n := 0) (ckc_at dlaw 506 rfl) rfl rfl (fun _ => rfl) rfl rfl) ?_
  refine v_go (r_ldk (ok := q_isI) (n := 4) (ckc_at dlaw 507 rfl) rfl rfl (fun _ => rfl) rfl rfl) ?_
  refine v_go (r_op (ckc_at dlaw 508 rfl) rfl (o_const _)) ?_
  refine v_go (r_op (ckc_at dlaw 509 rfl) rfl o_iadd) ?_
  refine v_go (r_mem (ckc_at dlaw 510 rfl) rfl rfl (fun _ => rfl) rfl (m_scr hj.2.2.2.2.1 (by omega) (by omega) hL)) ?_
  refine v_go (r_ldk (ok := q_isA) (n := 0) (ckc_at dlaw 511 rfl) rfl rfl (fun _ => rfl) rfl rfl) ?_
  refine v_go (r_ldk (ok := q_isI) (n := 4) (ckc_at dlaw 512 rfl) rfl rfl (fun _ => rfl) rfl rfl) ?_
  refine v_go (r_op (ckc_at dlaw 513 rfl) rfl (o_const _)) ?_
  refine v_go (r_op (ckc_at dlaw 514 rfl) rfl o_iadd) ?_
  refine v_go (r_mem (ckc_at dlaw 515 rfl) rfl rfl (fun _ => rfl) rfl (m_scr hj.2.2.2.2.1 (by omega) (by omega) hL)) ?_
  refine v_go (r_ldk (ok := q_isA) (n := 3) (ckc_at dlaw 516 rfl) rfl rfl (fun _ => rfl) rfl rfl) ?_
  refine v_wrapU (k := 10) (as := [.ref 0, iv (X xs (i + 1)), iv (X xs (i + 2)), .ref 159]) (r := []) (n := 1) (ckc_at dlaw 517 rfl) (by decide +kernel) (by decide +kernel) rfl rfl (Nat.le_of_ble_eq_true rfl) (Nat.le_of_ble_eq_true rfl) (Nat.le_of_ble_eq_true rfl) rfl ?_
  refine J_call (mk := wv) (lg := fun a => Int64.ofInt a) hj (PP_word hd hj.2.2.1 hj.2.2.2.1 hc (X_R xs _) (X_R xs _)) (by decide) (fun a b e => wv_in e) (fun Q x => W_word hj.o0 x) (fun z h2 C' c1 s1 out f hm hcc hz hs ho hf h9 hcs hq => ?_)
  refine v_go (r_st1 (ok := q_isI) (n := 5) (L' := [some (.ref 1000000001), some (.ref 0), some (.ref 112), some (.ref 159), some (iv i), some (iv z), none, none]) (ckc_at dlaw 518 rfl) rfl (fun _ => rfl) (fun _ _ => rfl) rfl rfl (by decide) rfl rfl) ?_
  refine v_go (r_ldk (ok := q_isA) (n := 2) (ckc_at dlaw 519 rfl) rfl rfl (fun _ => rfl) rfl rfl) ?_
  refine v_go (r_ldk (ok := q_isA) (n := 0) (ckc_at dlaw 520 rfl) rfl rfl (fun _ => rfl) rfl rfl) ?_
  refine v_go (r_ldk (ok := q_isI) (n := 4) (ckc_at dlaw 521 rfl) rfl rfl (fun _ => rfl) rfl rfl) ?_
  refine v_go (r_op (ckc_at dlaw 522 rfl) rfl (o_const _)) ?_
  refine v_go (r_op (ckc_at dlaw 523 rfl) rfl o_iadd) ?_
  refine v_go (r_mem (ckc_at dlaw 524 rfl) rfl rfl (fun _ => rfl) rfl (m_scr hs (by omega) (by omega) hL)) ?_
  refine v_go (r_ldk (ok := q_isA) (n := 0) (ckc_at dlaw 525 rfl) rfl rfl (fun _ => rfl) rfl rfl) ?_
  refine v_go (r_ldk (ok := q_isI) (n := 4) (ckc_at dlaw 526 rfl) rfl rfl (fun _ => rfl) rfl rfl) ?_
  refine v_go (r_op (ckc_at dlaw 527 rfl) rfl (o_const _)) ?_
  refine v_go (r_op (ckc_at dlaw 528 rfl) rfl o_iadd) ?_
  refine v_go (r_mem (ckc_at dlaw 529 rfl) rfl rfl (fun _ => rfl) rfl (m_scr hs (by omega) (by omega) hL)) ?_
  refine v_virtM (k' := k_word) (as := [iv (X xs (i + 1)), iv (X xs (i + 2))]) (r := []) (n := 3) hm (ckc_at dlaw 530 rfl) (by decide +kernel) vk_word rfl nl_word rfl rfl rfl rfl (qZ.mono hq (Nat.le_refl _) (fun o' B' hB => ?_))
  obtain ⟨a, rfl, hB0, hB1, hI, hO⟩ := hB
  obtain ⟨y1, y2, y3, y4⟩ := jn_model (B' := B') hcc hz
  refine ⟨_, rfl, ?_⟩
  have yo : (hM 112 h2 B').1 159 = some (.inl (2, 1, f)) := y3.trans ho
  have hw := w (hM 112 h2 B') C' B' c1 s1 ⟨y1, y2, hI, hO, y4.trans hs, _, yo⟩ hcs
  clear hq hj w
  generalize hM 112 h2 B' = h3 at *
  refine v_go (r_st2 (n := 6) (L' := [some (.ref 1000000001), some (.ref 0), some (.ref 112), some (.ref 159), some (iv i), some (iv z), some (wv a), none]) (ckc_at dlaw 531 rfl) rfl (fun _ => rfl) (fun _ _ => rfl) rfl rfl (by decide) rfl rfl) ?_
  refine v_go (r_ldk (ok := q_isA) (n := 2) (ckc_at dlaw 532 rfl) rfl rfl (fun _ => rfl) rfl rfl) ?_
  refine v_virtM (k' := k_thrown) (as := []) (r := []) (n := 0) y2 (ckc_at dlaw 533 rfl) (by decide +kernel) vk_thrown rfl nl_thrown rfl rfl rfl rfl ?_
  refine qZ.mono (d := 0 + 1) (R_thrown (by decide) ⟨_, rfl, ?_⟩) (by omega) (fun _ _ q => q)
  rw [← y2, hB0]
  refine v_go (r_ldk (ok := q_isI) (n := 5) (ckc_at dlaw 534 rfl) rfl rfl (fun _ => rfl) rfl rfl) ?_
  refine v_icmp (t := 868) (ckc_at dlaw 535 rfl) (by decide) ⟨by omega, by omega⟩ ⟨by omega, by omega⟩ (fun _ => ?_) (fun q => absurd rfl q)
  refine v_go (r_ldk (ok := q_isI) (n := 5) (ckc_at dlaw 538 rfl) rfl rfl (fun _ => rfl) rfl rfl) ?_
  have fin : qV d 884 [some (.ref 1000000001), some (.ref 0), some (.ref 112), some (.ref 159), some (iv i), some (iv z), some (wv a), none] [] h3 := v_go (r_goto (t := 943) (ckc_at dlaw 548 rfl) (by decide)) (v_wk hw ⟨rfl, rfl, rfl, rfl, rfl, trivial⟩)
  refine v_ifz (t := 884) (ckc_at dlaw 539 rfl) (by decide) ⟨by omega, by omega⟩ (fun _ => fin) (fun q => ?_)
  have z0 : z = 0 := cN_ne q
  refine v_go (r_ldk (ok := q_isA) (n := 3) (ckc_at dlaw 540 rfl) rfl rfl (fun _ => rfl) rfl rfl) ?_
  refine v_go (r_op (ckc_at dlaw 541 rfl) rfl (o_const _)) ?_
  refine v_go (r_mem (ckc_at dlaw 542 rfl) rfl rfl (fun _ => rfl) rfl (m_lald yo (hf z0))) ?_
  refine v_go (r_ldk (ok := q_isL) (n := 6) (ckc_at dlaw 543 rfl) rfl rfl (fun _ => rfl) rfl rfl) ?_
  refine v_go (r_op (ckc_at dlaw 544 rfl) rfl (o_lc0 (hB1 z0))) ?_
  exact v_ifz (t := 884) (ckc_at dlaw 545 rfl) (by decide) ⟨by decide, by decide⟩ (fun _ => fin) (fun q => absurd rfl q)
theorem V_count {d L : Nat} {xs : Nat → Int32} {c0 s0 i : Int} {h : qH} {C B : qB} (hd : 130 ≤ d) (hj : JI L xs c0 s0 h C B) (hc : c0 + 1 ≤ 900000000) (hi : 0 ≤ i ∧ i + 6 ≤ L) (hL : L ≤ 3072) (w : ∀ (h' : qH) (C' B' : qB) (c1 s1 : Int), JI L xs c1 s1 h' C' B' → ((c1 = c0 ∧ s1 = s0) ∨ (c1 = c0 + 1 ∧ s1 = s0 + 6)) → qV d 943 [some (.ref 1000000001), some (.ref 0), some (.ref 112), some (.ref 159), some (iv i), none, none, none] [] h') : qV d 887 [some (.ref 1000000001), some (.ref 0), some (.ref 112), some (.ref 159), some (iv i), none, none, none] [] h := by
  refine v_go (r_ldk (ok := q_isA) (n := 1) (ckc_at dlaw 549 rfl) rfl rfl (fun _ => rfl) rfl rfl) ?_
  refine v_go (r_ldk (ok := q_isA) (n := 0) (ckc_at dlaw 550 rfl) rfl rfl (fun _ => rfl) rfl rfl) ?_
  refine v_go (r_ldk (ok := q_isI) (n := 4) (ckc_at dlaw 551 rfl) rfl rfl (fun _ => rfl) rfl rfl) ?_
  refine v_go (r_op (ckc_at dlaw 552 rfl) rfl (o_const _)) ?_
  refine v_go (r_op (ckc_at dlaw 553 rfl) rfl o_iadd) ?_
  refine v_go (r_mem (ckc_at dlaw 554 rfl) rfl rfl (fun _ => rfl) rfl (m_scr hj.2.2.2.2.1 (by omega) (by omega) hL)) ?_
  refine v_go (r_ldk (ok := q_isA) (n := 3) (ckc_at dlaw 555 rfl) rfl rfl (fun _ => rfl) rfl rfl) ?_
  refine v_wrapU (k := 11) (as := [.ref 0, iv (X xs (i + 1)), .ref 159]) (r := []) (n := 1) (ckc_at dlaw 556 rfl) (by decide +kernel) (by decide +kernel) rfl rfl (Nat.le_of_ble_eq_true rfl) (Nat.le_of_ble_eq_true rfl) (Nat.le_of_ble_eq_true rfl) rfl ?_
  refine J_call (mk := iv) (lg := fun a => (Int32.ofInt a).toInt64) hj (PP_count hd hj.2.2.1 hj.2.2.2.1 hc (X_R xs _)) (by decide) (fun a b e => iv_in e) (fun Q x => W_count hj.o0 x) (fun z h2 C' c1 s1 out f hm hcc hz hs ho hf h9 hcs hq => ?_)
  refine v_go (r_st1 (ok := q_isI) (n := 5) (L' := [some (.ref 1000000001), some (.ref 0), some (.ref 112), some (.ref 159), some (iv i), some (iv z), none, none]) (ckc_at dlaw 557 rfl) rfl (fun _ => rfl) (fun _ _ => rfl) rfl rfl (by decide) rfl rfl) ?_
  refine v_go (r_ldk (ok := q_isA) (n := 2) (ckc_at dlaw 558 rfl) rfl rfl (fun _ => rfl) rfl rfl) ?_
  refine v_go (r_ldk (ok := q_isA) (n := 0) (ckc_at dlaw 559 rfl) rfl rfl (fun _ => rfl) rfl rfl) ?_
  refine v_go (r_ldk (ok := q_isI) (n := 4) (ckc_at dlaw 560 rfl) rfl rfl (fun _ => rfl) rfl rfl) ?_
  refine v_go (r_op (ckc_at dlaw 561 rfl) rfl (o_const _)) ?_
  refine v_go (r_op (ckc_at dlaw 562 rfl) rfl o_iadd) ?_
  refine v_go (r_mem (ckc_at dlaw 563 rfl) rfl rfl (fun _ => rfl) rfl (m_scr hs (by omega) (by omega) hL)) ?_
  refine v_virtM (k' := k_count) (as := [iv (X xs (i + 1))]) (r := []) (n := 0) hm (ckc_at dlaw 564 rfl) (by decide +kernel) vk_count rfl nl_count rfl rfl rfl rfl (qZ.mono hq (Nat.le_refl _) (fun o' B' hB => ?_))
  obtain ⟨a, rfl, hB0, hB1, hI, hO⟩ := hB
  obtain ⟨y1, y2, y3, y4⟩ := jn_model (B' := B') hcc hz
  refine ⟨_, rfl, ?_⟩
  have yo : (hM 112 h2 B').1 159 = some (.inl (2, 1, f)) := y3.trans ho
  have hw := w (hM 112 h2 B') C' B' c1 s1 ⟨y1, y2, hI, hO, y4.trans hs, _, yo⟩ hcs
  clear hq hj w
  generalize hM 112 h2 B' = h3 at *
  refine v_go (r_st1 (ok := q_isI) (n := 6) (L' := [some (.ref 1000000001), some (.ref 0), some (.ref 112), some (.ref 159), some (iv i), some (iv z), some (iv a), none]) (ckc_at dlaw 565 rfl) rfl (fun _ => rfl) (fun _ _ => rfl) rfl rfl (by decide) rfl rfl) ?_
  refine v_go (r_ldk (ok := q_isA) (n := 2) (ckc_at dlaw 566 rfl) rfl rfl (fun _ => rfl) rfl rfl) ?_
  refine v_virtM (k' := k_thrown) (as := []) (r := []) (n := 0) y2 (ckc_at dlaw 567 rfl) (by decide +kernel) vk_thrown rfl nl_thrown rfl rfl rfl rfl ?_
  refine qZ.mono (d := 0 + 1) (R_thrown (by decide) ⟨_, rfl, ?_⟩) (by omega) (fun _ _ q => q)
  rw [← y2, hB0]
  refine v_go (r_ldk (ok := q_isI) (n := 5) (ckc_at dlaw 568 rfl) rfl rfl (fun _ => rfl) rfl rfl) ?_
  refine v_icmp (t := 923) (ckc_at dlaw 569 rfl) (by decide) ⟨by omega, by omega⟩ ⟨by omega, by omega⟩ (fun _ => ?_) (fun q => absurd rfl q)
  refine v_go (r_ldk (ok := q_isI) (n := 5) (ckc_at dlaw 572 rfl) rfl rfl (fun _ => rfl) rfl rfl) ?_
  have fin : qV d 940 [some (.ref 1000000001), some (.ref 0), some (.ref 112), some (.ref 159), some (iv i), some (iv z), some (iv a), none] [] h3 := v_go (r_goto (t := 943) (ckc_at dlaw 583 rfl) (by decide)) (v_wk hw ⟨rfl, rfl, rfl, rfl, rfl, trivial⟩)
  refine v_ifz (t := 940) (ckc_at dlaw 573 rfl) (by decide) ⟨by omega, by omega⟩ (fun _ => fin) (fun q => ?_)
  have z0 : z = 0 := cN_ne q
  refine v_go (r_ldk (ok := q_isA) (n := 3) (ckc_at dlaw 574 rfl) rfl rfl (fun _ => rfl) rfl rfl) ?_
  refine v_go (r_op (ckc_at dlaw 575 rfl) rfl (o_const _)) ?_
  refine v_go (r_mem (ckc_at dlaw 576 rfl) rfl rfl (fun _ => rfl) rfl (m_lald yo (hf z0))) ?_
  refine v_go (r_ldk (ok := q_isI) (n := 6) (ckc_at dlaw 577 rfl) rfl rfl (fun _ => rfl) rfl rfl) ?_
  refine v_go (r_op (ckc_at dlaw 578 rfl) rfl rfl) ?_
  refine v_go (r_op (ckc_at dlaw 579 rfl) rfl (o_lc0 (hB1 z0))) ?_
  exact v_ifz (t := 940) (ckc_at dlaw 580 rfl) (by decide) ⟨by decide, by decide⟩ (fun _ => fin) (fun q => absurd rfl q)
