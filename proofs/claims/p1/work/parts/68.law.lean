def tb_law : qTb := [(23, .iload 4, 2, 0, 0), (25, .aload_n 0, 1, 0, 0), (26, .arraylength, 1, 0, 0), (27, .iconst 3, 1, 0, 0), (28, .isub, 1, 0, 0), (29, .if_icmp .gt 758, 3, 787, 0), (32, .aload_n 0, 1, 0, 0), (33, .iload 4, 2, 0, 0), (35, .iaload, 1, 0, 0), (36, .bipush 31, 2, 0, 0), (38, .iand, 1, 0, 0), (39, .tableswitch 742 0 20 #[97, 124, 137, 150, 163, 219, 275, 286, 342, 355, 368, 424, 480, 493, 506, 519, 567, 580, 636, 704, 717], 97, 0, 0), (136, .aload_n 1, 1, 0, 0), (137, .aload_n 0, 1, 0, 0), (138, .iload 4, 2, 0, 0), (140, .iconst 1, 1, 0, 0), (141, .iadd, 1, 0, 0), (142, .iaload, 1, 0, 0), (143, .i2c, 1, 0, 0), (144, .invokevirtual 46, 3, 0, 0), (147, .aload_n 2, 1, 0, 0), (148, .aload_n 0, 1, 0, 0), (149, .iload 4, 2, 0, 0), (151, .iconst 1, 1, 0, 0), (152, .iadd, 1, 0, 0), (153, .iaload, 1, 0, 0), (154, .i2c, 1, 0, 0), (155, .invokevirtual 50, 3, 30, 0), (158, .if_icmp .eq 623, 3, 781, 0), (161, .iconst 0, 1, 0, 0), (162, .ireturn, 1, 0, 0), (163, .aload_n 1, 1, 0, 0), (164, .invokevirtual 51, 3, 1, 0), (167, .aload_n 2, 1, 0, 0), (168, .invokevirtual 55, 3, 31, 0), (171, .if_icmp .eq 610, 3, 781, 0), (174, .iconst 0, 1, 0, 0), (175, .ireturn, 1, 0, 0), (176, .aload_n 1, 1, 0, 0), (177, .invokevirtual 56, 3, 2, 0), (180, .aload_n 2, 1, 0, 0), (181, .invokevirtual 59, 3, 58, 0), (184, .if_icmp .eq 597, 3, 781, 0), (187, .iconst 0, 1, 0, 0), (188, .ireturn, 1, 0, 0), (189, .aload_n 1, 1, 0, 0), (190, .invokevirtual 60, 3, 3, 0), (193, .aload_n 2, 1, 0, 0), (194, .invokevirtual 63, 3, 60, 0), (197, .if_icmp .eq 584, 3, 781, 0), (200, .iconst 0, 1, 0, 0), (201, .ireturn, 1, 0, 0), (202, .aload_n 1, 1, 0, 0), (203, .aload_n 0, 1, 0, 0), (204, .iload 4, 2, 0, 0), (206, .iconst 1, 1, 0, 0), (207, .iadd, 1, 0, 0), (208, .iaload, 1, 0, 0), (209, .aload_n 3, 1, 0, 0), (210, .invokestatic 64, 3, 9999, 4), (213, .istore 5, 2, 0, 0), (215, .aload_n 2, 1, 0, 0), (216, .aload_n 0, 1, 0, 0), (217, .iload 4, 2, 0, 0), (219, .iconst 1, 1, 0, 0), (220, .iadd, 1, 0, 0), (221, .iaload, 1, 0, 0), (222, .invokevirtual 69, 3, 65, 0), (225, .istore 6, 2, 0, 0), (227, .aload_n 2, 1, 0, 0), (228, .invokevirtual 70, 3, 28, 0), (231, .iload 5, 2, 0, 0), (233, .if_icmp .eq 5, 3, 238, 0), (236, .iconst 0, 1, 0, 0), (237, .ireturn, 1, 0, 0), (238, .iload 5, 2, 0, 0), (240, .ifCond .ne 15, 3, 255, 0), (243, .aload_n 3, 1, 0, 0), (244, .iconst 0, 1, 0, 0), (245, .laload, 1, 0, 0), (246, .iload 6, 2, 0, 0), (248, .i2l, 1, 0, 0), (249, .lcmp, 1, 0, 0), (250, .ifCond .eq 5, 3, 255, 0), (253, .iconst 0, 1, 0, 0), (254, .ireturn, 1, 0, 0), (255, .goto 526, 3, 781, 0), (258, .aload_n 1, 1, 0, 0), (259, .aload_n 0, 1, 0, 0), (260, .iload 4, 2, 0, 0), (262, .iconst 1, 1, 0, 0), (263, .iadd, 1, 0, 0), (264, .iaload, 1, 0, 0), (265, .aload_n 3, 1, 0, 0), (266, .invokestatic 73, 3, 9999, 4), (269, .istore 5, 2, 0, 0), (271, .aload_n 2, 1, 0, 0), (272, .aload_n 0, 1, 0, 0), (273, .iload 4, 2, 0, 0), (275, .iconst 1, 1, 0, 0), (276, .iadd, 1, 0, 0), (277, .iaload, 1, 0, 0), (278, .invokevirtual 75, 3, 66, 0), (281, .istore 6, 2, 0, 0), (283, .aload_n 2, 1, 0, 0), (284, .invokevirtual 70, 3, 28, 0), (287, .iload 5, 2, 0, 0), (289, .if_icmp .eq 5, 3, 294, 0), (292, .iconst 0, 1, 0, 0), (293, .ireturn, 1, 0, 0), (294, .iload 5, 2, 0, 0), (296, .ifCond .ne 15, 3, 311, 0), (299, .aload_n 3, 1, 0, 0), (300, .iconst 0, 1, 0, 0), (301, .laload, 1, 0, 0), (302, .iload 6, 2, 0, 0), (304, .i2l, 1, 0, 0), (305, .lcmp, 1, 0, 0), (306, .ifCond .eq 5, 3, 311, 0), (309, .iconst 0, 1, 0, 0), (310, .ireturn, 1, 0, 0), (311, .goto 470, 3, 781, 0), (314, .aload_n 1, 1, 0, 0), (315, .invokevirtual 76, 3, 6, 0), (318, .aload_n 2, 1, 0, 0), (319, .invokevirtual 79, 3, 67, 0), (322, .goto 459, 3, 781, 0), (325, .aload_n 1, 1, 0, 0), (326, .aload_n 0, 1, 0, 0), (327, .iload 4, 2, 0, 0), (329, .iconst 1, 1, 0, 0), (330, .iadd, 1, 0, 0), (331, .iaload, 1, 0, 0), (332, .aload_n 3, 1, 0, 0), (333, .invokestatic 80, 3, 9999, 4), (336, .istore 5, 2, 0, 0), (338, .aload_n 2, 1, 0, 0), (339, .aload_n 0, 1, 0, 0), (340, .iload 4, 2, 0, 0), (342, .iconst 1, 1, 0, 0), (343, .iadd, 1, 0, 0), (344, .iaload, 1, 0, 0), (345, .invokevirtual 82, 3, 88, 0), (348, .istore 6, 2, 0, 0), (350, .aload_n 2, 1, 0, 0), (351, .invokevirtual 70, 3, 28, 0), (354, .iload 5, 2, 0, 0), (356, .if_icmp .eq 5, 3, 361, 0), (359, .iconst 0, 1, 0, 0), (360, .ireturn, 1, 0, 0), (361, .iload 5, 2, 0, 0), (363, .ifCond .ne 15, 3, 378, 0), (366, .aload_n 3, 1, 0, 0), (367, .iconst 0, 1, 0, 0), (368, .laload, 1, 0, 0), (369, .iload 6, 2, 0, 0), (371, .i2l, 1, 0, 0), (372, .lcmp, 1, 0, 0), (373, .ifCond .eq 5, 3, 378, 0), (376, .iconst 0, 1, 0, 0), (377, .ireturn, 1, 0, 0), (378, .goto 403, 3, 781, 0), (381, .aload_n 1, 1, 0, 0), (382, .invokevirtual 83, 3, 8, 0), (385, .aload_n 2, 1, 0, 0), (386, .invokevirtual 86, 3, 89, 0), (389, .if_icmp .eq 392, 3, 781, 0), (392, .iconst 0, 1, 0, 0), (393, .ireturn, 1, 0, 0), (394, .aload_n 1, 1, 0, 0), (395, .invokevirtual 87, 3, 9, 0), (398, .aload_n 2, 1, 0, 0), (399, .invokevirtual 90, 3, 90, 0), (402, .if_icmp .eq 379, 3, 781, 0), (405, .iconst 0, 1, 0, 0), (406, .ireturn, 1, 0, 0), (407, .aload_n 1, 1, 0, 0), (408, .aload_n 0, 1, 0, 0), (409, .iload 4, 2, 0, 0), (411, .iconst 1, 1, 0, 0), (412, .iadd, 1, 0, 0), (413, .iaload, 1, 0, 0), (414, .aload_n 3, 1, 0, 0), (415, .invokestatic 91, 3, 9999, 4), (418, .istore 5, 2, 0, 0), (420, .aload_n 2, 1, 0, 0), (421, .aload_n 0, 1, 0, 0), (422, .iload 4, 2, 0, 0), (424, .iconst 1, 1, 0, 0), (425, .iadd, 1, 0, 0), (426, .iaload, 1, 0, 0), (427, .invokevirtual 93, 3, 91, 0), (430, .istore 6, 2, 0, 0), (432, .aload_n 2, 1, 0, 0), (433, .invokevirtual 70, 3, 28, 0), (436, .iload 5, 2, 0, 0), (438, .if_icmp .eq 5, 3, 443, 0), (441, .iconst 0, 1, 0, 0), (442, .ireturn, 1, 0, 0), (443, .iload 5, 2, 0, 0), (445, .ifCond .ne 15, 3, 460, 0), (448, .aload_n 3, 1, 0, 0), (449, .iconst 0, 1, 0, 0), (450, .laload, 1, 0, 0), (451, .iload 6, 2, 0, 0), (453, .i2l, 1, 0, 0), (454, .lcmp, 1, 0, 0), (455, .ifCond .eq 5, 3, 460, 0), (458, .iconst 0, 1, 0, 0), (459, .ireturn, 1, 0, 0), (460, .goto 321, 3, 781, 0), (463, .aload_n 1, 1, 0, 0), (464, .aload_n 0, 1, 0, 0), (465, .iload 4, 2, 0, 0), (467, .iconst 1, 1, 0, 0), (468, .iadd, 1, 0, 0), (469, .iaload, 1, 0, 0), (470, .aload_n 3, 1, 0, 0), (471, .invokestatic 94, 3, 9999, 4), (474, .istore 5, 2, 0, 0), (476, .aload_n 2, 1, 0, 0), (477, .aload_n 0, 1, 0, 0), (478, .iload 4, 2, 0, 0), (480, .iconst 1, 1, 0, 0), (481, .iadd, 1, 0, 0), (482, .iaload, 1, 0, 0), (483, .invokevirtual 96, 3, 92, 0), (486, .istore 6, 2, 0, 0), (488, .aload_n 2, 1, 0, 0), (489, .invokevirtual 70, 3, 28, 0), (492, .iload 5, 2, 0, 0), (494, .if_icmp .eq 5, 3, 499, 0), (497, .iconst 0, 1, 0, 0), (498, .ireturn, 1, 0, 0), (499, .iload 5, 2, 0, 0), (501, .ifCond .ne 15, 3, 516, 0), (504, .aload_n 3, 1, 0, 0), (505, .iconst 0, 1, 0, 0), (506, .laload, 1, 0, 0), (507, .iload 6, 2, 0, 0), (509, .i2l, 1, 0, 0), (510, .lcmp, 1, 0, 0), (511, .ifCond .eq 5, 3, 516, 0), (514, .iconst 0, 1, 0, 0), (515, .ireturn, 1, 0, 0), (516, .goto 265, 3, 781, 0), (519, .aload_n 1, 1, 0, 0), (520, .invokevirtual 97, 3, 12, 0), (523, .aload_n 2, 1, 0, 0), (524, .invokevirtual 100, 3, 93, 0), (527, .if_icmp .eq 254, 3, 781, 0), (530, .iconst 0, 1, 0, 0), (531, .ireturn, 1, 0, 0), (532, .aload_n 1, 1, 0, 0), (533, .invokevirtual 101, 3, 13, 0), (536, .aload_n 2, 1, 0, 0), (537, .invokevirtual 104, 3, 97, 0), (540, .if_icmp .eq 241, 3, 781, 0), (543, .iconst 0, 1, 0, 0), (544, .ireturn, 1, 0, 0), (545, .aload_n 1, 1, 0, 0), (546, .invokevirtual 105, 3, 14, 0), (549, .aload_n 2, 1, 0, 0), (550, .invokevirtual 108, 3, 102, 0), (553, .if_icmp .eq 228, 3, 781, 0), (556, .iconst 0, 1, 0, 0), (557, .ireturn, 1, 0, 0), (558, .aload_n 1, 1, 0, 0), (559, .aload_n 0, 1, 0, 0), (560, .iload 4, 2, 0, 0), (562, .iconst 1, 1, 0, 0), (563, .iadd, 1, 0, 0), (564, .iaload, 1, 0, 0), (565, .aload_n 0, 1, 0, 0), (566, .iload 4, 2, 0, 0), (568, .iconst 2, 1, 0, 0), (569, .iadd, 1, 0, 0), (570, .iaload, 1, 0, 0), (571, .invokestatic 109, 3, 9999, 4), (574, .istore 5, 2, 0, 0), (576, .aload_n 2, 1, 0, 0), (577, .aload_n 0, 1, 0, 0), (578, .iload 4, 2, 0, 0), (580, .iconst 1, 1, 0, 0), (581, .iadd, 1, 0, 0), (582, .iaload, 1, 0, 0), (583, .aload_n 0, 1, 0, 0), (584, .iload 4, 2, 0, 0), (586, .iconst 2, 1, 0, 0), (587, .iadd, 1, 0, 0), (588, .iaload, 1, 0, 0), (589, .invokevirtual 112, 3, 103, 0), (592, .aload_n 2, 1, 0, 0), (593, .invokevirtual 70, 3, 28, 0), (596, .iload 5, 2, 0, 0), (598, .if_icmp .eq 5, 3, 603, 0), (601, .iconst 0, 1, 0, 0), (602, .ireturn, 1, 0, 0), (603, .goto 178, 3, 781, 0), (606, .aload_n 1, 1, 0, 0), (607, .invokevirtual 113, 3, 16, 0), (610, .aload_n 2, 1, 0, 0), (611, .invokevirtual 116, 3, 104, 0), (614, .if_icmp .eq 167, 3, 781, 0), (617, .iconst 0, 1, 0, 0), (618, .ireturn, 1, 0, 0), (619, .aload_n 1, 1, 0, 0), (620, .aload_n 0, 1, 0, 0), (621, .iload 4, 2, 0, 0), (623, .iconst 1, 1, 0, 0), (624, .iadd, 1, 0, 0), (625, .iaload, 1, 0, 0), (626, .aload_n 3, 1, 0, 0), (627, .invokestatic 117, 3, 9999, 4), (630, .istore 5, 2, 0, 0), (632, .aload_n 2, 1, 0, 0), (633, .aload_n 0, 1, 0, 0), (634, .iload 4, 2, 0, 0), (636, .iconst 1, 1, 0, 0), (637, .iadd, 1, 0, 0), (638, .iaload, 1, 0, 0), (639, .invokevirtual 119, 3, 105, 0), (642, .istore 6, 2, 0, 0), (644, .aload_n 2, 1, 0, 0), (645, .invokevirtual 70, 3, 28, 0), (648, .iload 5, 2, 0, 0), (650, .if_icmp .eq 5, 3, 655, 0), (653, .iconst 0, 1, 0, 0), (654, .ireturn, 1, 0, 0), (655, .iload 5, 2, 0, 0), (657, .ifCond .ne 15, 3, 672, 0), (660, .aload_n 3, 1, 0, 0), (661, .iconst 0, 1, 0, 0), (662, .laload, 1, 0, 0), (663, .iload 6, 2, 0, 0), (665, .i2l, 1, 0, 0), (666, .lcmp, 1, 0, 0), (667, .ifCond .eq 5, 3, 672, 0), (670, .iconst 0, 1, 0, 0), (671, .ireturn, 1, 0, 0), (672, .goto 109, 3, 781, 0), (675, .aload_n 1, 1, 0, 0), (676, .aload_n 0, 1, 0, 0), (677, .iload 4, 2, 0, 0), (679, .iconst 1, 1, 0, 0), (680, .iadd, 1, 0, 0), (681, .iaload, 1, 0, 0), (682, .aload_n 0, 1, 0, 0), (683, .iload 4, 2, 0, 0), (685, .iconst 2, 1, 0, 0), (686, .iadd, 1, 0, 0), (687, .iaload, 1, 0, 0), (688, .aload_n 3, 1, 0, 0), (689, .invokestatic 120, 3, 9999, 4), (692, .istore 5, 2, 0, 0), (694, .aload_n 2, 1, 0, 0), (695, .aload_n 0, 1, 0, 0), (696, .iload 4, 2, 0, 0), (698, .iconst 1, 1, 0, 0), (699, .iadd, 1, 0, 0), (700, .iaload, 1, 0, 0), (701, .aload_n 0, 1, 0, 0), (702, .iload 4, 2, 0, 0), (704, .iconst 2, 1, 0, 0), (705, .iadd, 1, 0, 0), (706, .iaload, 1, 0, 0), (707, .invokevirtual 123, 3, 106, 0), (710, .istore 6, 2, 0, 0), (712, .aload_n 2, 1, 0, 0), (713, .invokevirtual 70, 3, 28, 0), (716, .iload 5, 2, 0, 0), (718, .if_icmp .eq 5, 3, 723, 0), (721, .iconst 0, 1, 0, 0), (722, .ireturn, 1, 0, 0), (723, .iload 5, 2, 0, 0), (725, .ifCond .ne 15, 3, 740, 0), (728, .aload_n 3, 1, 0, 0), (729, .iconst 0, 1, 0, 0), (730, .laload, 1, 0, 0), (731, .iload 6, 2, 0, 0), (733, .i2l, 1, 0, 0), (734, .lcmp, 1, 0, 0), (735, .ifCond .eq 5, 3, 740, 0), (738, .iconst 0, 1, 0, 0), (739, .ireturn, 1, 0, 0), (740, .goto 41, 3, 781, 0), (743, .aload_n 1, 1, 0, 0), (744, .invokevirtual 124, 3, 19, 0), (747, .aload_n 2, 1, 0, 0), (748, .invokevirtual 127, 3, 107, 0), (751, .if_icmp .eq 30, 3, 781, 0), (754, .iconst 0, 1, 0, 0), (755, .ireturn, 1, 0, 0), (756, .aload_n 1, 1, 0, 0), (757, .aload_n 0, 1, 0, 0), (758, .iload 4, 2, 0, 0), (760, .iconst 1, 1, 0, 0), (761, .iadd, 1, 0, 0), (762, .iaload, 1, 0, 0), (763, .invokevirtual 128, 3, 20, 0), (766, .aload_n 2, 1, 0, 0), (767, .aload_n 0, 1, 0, 0), (768, .iload 4, 2, 0, 0), (770, .iconst 1, 1, 0, 0), (771, .iadd, 1, 0, 0), (772, .iaload, 1, 0, 0), (773, .invokevirtual 132, 3, 108, 0), (776, .if_icmp .eq 5, 3, 781, 0), (779, .iconst 0, 1, 0, 0), (780, .ireturn, 1, 0, 0), (781, .iinc 4 3, 3, 0, 0), (784, .goto (-761), 3, 23, 0), (787, .iconst 1, 1, 0, 0), (788, .ireturn, 1, 0, 0)]
def T_law : qT := (⟨"TapedLinesLaw", "law", "([I)Z"⟩, code, 7, some .boolean, tb_law)
def q_rowk (k : Nat) (T : qT) (q : Nat × qIn) : Bool := q_dec T.2.1 q.1 q.2 && q_rowG (q_flk k) (q_ivk k) (q_ckk k) T q.1 q.2
def tbl_0 : qTb := [(23, .iload 4, 2, 0, 0), (25, .aload_n 0, 1, 0, 0), (26, .arraylength, 1, 0, 0), (27, .iconst 3, 1, 0, 0), (28, .isub, 1, 0, 0), (29, .if_icmp .gt 758, 3, 787, 0), (32, .aload_n 0, 1, 0, 0), (33, .iload 4, 2, 0, 0), (35, .iaload, 1, 0, 0), (36, .bipush 31, 2, 0, 0), (38, .iand, 1, 0, 0), (39, .tableswitch 742 0 20 #[97, 124, 137, 150, 163, 219, 275, 286, 342, 355, 368, 424, 480, 493, 506, 519, 567, 580, 636, 704, 717], 97, 0, 0), (136, .aload_n 1, 1, 0, 0), (137, .aload_n 0, 1, 0, 0), (138, .iload 4, 2, 0, 0), (140, .iconst 1, 1, 0, 0), (141, .iadd, 1, 0, 0), (142, .iaload, 1, 0, 0), (143, .i2c, 1, 0, 0), (144, .invokevirtual 46, 3, 0, 0), (147, .aload_n 2, 1, 0, 0), (148, .aload_n 0, 1, 0, 0), (149, .iload 4, 2, 0, 0), (151, .iconst 1, 1, 0, 0), (152, .iadd, 1, 0, 0), (153, .iaload, 1, 0, 0), (154, .i2c, 1, 0, 0), (155, .invokevirtual 50, 3, 30, 0), (158, .if_icmp .eq 623, 3, 781, 0), (161, .iconst 0, 1, 0, 0)]
set_option maxRecDepth 100000 in
theorem ok_law_0 : tbl_0.all (q_rowk 8 T_law) = true := by decide +kernel
def tbl_1 : qTb := [(162, .ireturn, 1, 0, 0), (163, .aload_n 1, 1, 0, 0), (164, .invokevirtual 51, 3, 1, 0), (167, .aload_n 2, 1, 0, 0), (168, .invokevirtual 55, 3, 31, 0), (171, .if_icmp .eq 610, 3, 781, 0), (174, .iconst 0, 1, 0, 0), (175, .ireturn, 1, 0, 0), (176, .aload_n 1, 1, 0, 0), (177, .invokevirtual 56, 3, 2, 0), (180, .aload_n 2, 1, 0, 0), (181, .invokevirtual 59, 3, 58, 0), (184, .if_icmp .eq 597, 3, 781, 0), (187, .iconst 0, 1, 0, 0), (188, .ireturn, 1, 0, 0), (189, .aload_n 1, 1, 0, 0), (190, .invokevirtual 60, 3, 3, 0), (193, .aload_n 2, 1, 0, 0), (194, .invokevirtual 63, 3, 60, 0), (197, .if_icmp .eq 584, 3, 781, 0), (200, .iconst 0, 1, 0, 0), (201, .ireturn, 1, 0, 0), (202, .aload_n 1, 1, 0, 0), (203, .aload_n 0, 1, 0, 0), (204, .iload 4, 2, 0, 0), (206, .iconst 1, 1, 0, 0), (207, .iadd, 1, 0, 0), (208, .iaload, 1, 0, 0), (209, .aload_n 3, 1, 0, 0), (210, .invokestatic 64, 3, 9999, 4)]
set_option maxRecDepth 100000 in
theorem ok_law_1 : tbl_1.all (q_rowk 8 T_law) = true := by decide +kernel
def tbl_2 : qTb := [(213, .istore 5, 2, 0, 0), (215, .aload_n 2, 1, 0, 0), (216, .aload_n 0, 1, 0, 0), (217, .iload 4, 2, 0, 0), (219, .iconst 1, 1, 0, 0), (220, .iadd, 1, 0, 0), (221, .iaload, 1, 0, 0), (222, .invokevirtual 69, 3, 65, 0), (225, .istore 6, 2, 0, 0), (227, .aload_n 2, 1, 0, 0), (228, .invokevirtual 70, 3, 28, 0), (231, .iload 5, 2, 0, 0), (233, .if_icmp .eq 5, 3, 238, 0), (236, .iconst 0, 1, 0, 0), (237, .ireturn, 1, 0, 0), (238, .iload 5, 2, 0, 0), (240, .ifCond .ne 15, 3, 255, 0), (243, .aload_n 3, 1, 0, 0), (244, .iconst 0, 1, 0, 0), (245, .laload, 1, 0, 0), (246, .iload 6, 2, 0, 0), (248, .i2l, 1, 0, 0), (249, .lcmp, 1, 0, 0), (250, .ifCond .eq 5, 3, 255, 0), (253, .iconst 0, 1, 0, 0), (254, .ireturn, 1, 0, 0), (255, .goto 526, 3, 781, 0), (258, .aload_n 1, 1, 0, 0), (259, .aload_n 0, 1, 0, 0), (260, .iload 4, 2, 0, 0)]
set_option maxRecDepth 100000 in
theorem ok_law_2 : tbl_2.all (q_rowk 8 T_law) = true := by decide +kernel
def tbl_3 : qTb := [(262, .iconst 1, 1, 0, 0), (263, .iadd, 1, 0, 0), (264, .iaload, 1, 0, 0), (265, .aload_n 3, 1, 0, 0), (266, .invokestatic 73, 3, 9999, 4), (269, .istore 5, 2, 0, 0), (271, .aload_n 2, 1, 0, 0), (272, .aload_n 0, 1, 0, 0), (273, .iload 4, 2, 0, 0), (275, .iconst 1, 1, 0, 0), (276, .iadd, 1, 0, 0), (277, .iaload, 1, 0, 0), (278, .invokevirtual 75, 3, 66, 0), (281, .istore 6, 2, 0, 0), (283, .aload_n 2, 1, 0, 0), (284, .invokevirtual 70, 3, 28, 0), (287, .iload 5, 2, 0, 0), (289, .if_icmp .eq 5, 3, 294, 0), (292, .iconst 0, 1, 0, 0), (293, .ireturn, 1, 0, 0), (294, .iload 5, 2, 0, 0), (296, .ifCond .ne 15, 3, 311, 0), (299, .aload_n 3, 1, 0, 0), (300, .iconst 0, 1, 0, 0), (301, .laload, 1, 0, 0), (302, .iload 6, 2, 0, 0), (304, .i2l, 1, 0, 0), (305, .lcmp, 1, 0, 0), (306, .ifCond .eq 5, 3, 311, 0), (309, .iconst 0, 1, 0, 0)]
set_option maxRecDepth 100000 in
theorem ok_law_3 : tbl_3.all (q_rowk 8 T_law) = true := by decide +kernel
def tbl_4 : qTb := [(310, .ireturn, 1, 0, 0), (311, .goto 470, 3, 781, 0), (314, .aload_n 1, 1, 0, 0), (315, .invokevirtual 76, 3, 6, 0), (318, .aload_n 2, 1, 0, 0), (319, .invokevirtual 79, 3, 67, 0), (322, .goto 459, 3, 781, 0), (325, .aload_n 1, 1, 0, 0), (326, .aload_n 0, 1, 0, 0), (327, .iload 4, 2, 0, 0), (329, .iconst 1, 1, 0, 0), (330, .iadd, 1, 0, 0), (331, .iaload, 1, 0, 0), (332, .aload_n 3, 1, 0, 0), (333, .invokestatic 80, 3, 9999, 4), (336, .istore 5, 2, 0, 0), (338, .aload_n 2, 1, 0, 0), (339, .aload_n 0, 1, 0, 0), (340, .iload 4, 2, 0, 0), (342, .iconst 1, 1, 0, 0), (343, .iadd, 1, 0, 0), (344, .iaload, 1, 0, 0), (345, .invokevirtual 82, 3, 88, 0), (348, .istore 6, 2, 0, 0), (350, .aload_n 2, 1, 0, 0), (351, .invokevirtual 70, 3, 28, 0), (354, .iload 5, 2, 0, 0), (356, .if_icmp .eq 5, 3, 361, 0), (359, .iconst 0, 1, 0, 0), (360, .ireturn, 1, 0, 0)]
set_option maxRecDepth 100000 in
theorem ok_law_4 : tbl_4.all (q_rowk 8 T_law) = true := by decide +kernel
def tbl_5 : qTb := [(361, .iload 5, 2, 0, 0), (363, .ifCond .ne 15, 3, 378, 0), (366, .aload_n 3, 1, 0, 0), (367, .iconst 0, 1, 0, 0), (368, .laload, 1, 0, 0), (369, .iload 6, 2, 0, 0), (371, .i2l, 1, 0, 0), (372, .lcmp, 1, 0, 0), (373, .ifCond .eq 5, 3, 378, 0), (376, .iconst 0, 1, 0, 0), (377, .ireturn, 1, 0, 0), (378, .goto 403, 3, 781, 0), (381, .aload_n 1, 1, 0, 0), (382, .invokevirtual 83, 3, 8, 0), (385, .aload_n 2, 1, 0, 0), (386, .invokevirtual 86, 3, 89, 0), (389, .if_icmp .eq 392, 3, 781, 0), (392, .iconst 0, 1, 0, 0), (393, .ireturn, 1, 0, 0), (394, .aload_n 1, 1, 0, 0), (395, .invokevirtual 87, 3, 9, 0), (398, .aload_n 2, 1, 0, 0), (399, .invokevirtual 90, 3, 90, 0), (402, .if_icmp .eq 379, 3, 781, 0), (405, .iconst 0, 1, 0, 0), (406, .ireturn, 1, 0, 0), (407, .aload_n 1, 1, 0, 0), (408, .aload_n 0, 1, 0, 0), (409, .iload 4, 2, 0, 0), (411, .iconst 1, 1, 0, 0)]
set_option maxRecDepth 100000 in
theorem ok_law_5 : tbl_5.all (q_rowk 8 T_law) = true := by decide +kernel
def tbl_6 : qTb := [(412, .iadd, 1, 0, 0), (413, .iaload, 1, 0, 0), (414, .aload_n 3, 1, 0, 0), (415, .invokestatic 91, 3, 9999, 4), (418, .istore 5, 2, 0, 0), (420, .aload_n 2, 1, 0, 0), (421, .aload_n 0, 1, 0, 0), (422, .iload 4, 2, 0, 0), (424, .iconst 1, 1, 0, 0), (425, .iadd, 1, 0, 0), (426, .iaload, 1, 0, 0), (427, .invokevirtual 93, 3, 91, 0), (430, .istore 6, 2, 0, 0), (432, .aload_n 2, 1, 0, 0), (433, .invokevirtual 70, 3, 28, 0), (436, .iload 5, 2, 0, 0), (438, .if_icmp .eq 5, 3, 443, 0), (441, .iconst 0, 1, 0, 0), (442, .ireturn, 1, 0, 0), (443, .iload 5, 2, 0, 0), (445, .ifCond .ne 15, 3, 460, 0), (448, .aload_n 3, 1, 0, 0), (449, .iconst 0, 1, 0, 0), (450, .laload, 1, 0, 0), (451, .iload 6, 2, 0, 0), (453, .i2l, 1, 0, 0), (454, .lcmp, 1, 0, 0), (455, .ifCond .eq 5, 3, 460, 0), (458, .iconst 0, 1, 0, 0), (459, .ireturn, 1, 0, 0)]
set_option maxRecDepth 100000 in
theorem ok_law_6 : tbl_6.all (q_rowk 8 T_law) = true := by decide +kernel
def tbl_7 : qTb := [(460, .goto 321, 3, 781, 0), (463, .aload_n 1, 1, 0, 0), (464, .aload_n 0, 1, 0, 0), (465, .iload 4, 2, 0, 0), (467, .iconst 1, 1, 0, 0), (468, .iadd, 1, 0, 0), (469, .iaload, 1, 0, 0), (470, .aload_n 3, 1, 0, 0), (471, .invokestatic 94, 3, 9999, 4), (474, .istore 5, 2, 0, 0), (476, .aload_n 2, 1, 0, 0), (477, .aload_n 0, 1, 0, 0), (478, .iload 4, 2, 0, 0), (480, .iconst 1, 1, 0, 0), (481, .iadd, 1, 0, 0), (482, .iaload, 1, 0, 0), (483, .invokevirtual 96, 3, 92, 0), (486, .istore 6, 2, 0, 0), (488, .aload_n 2, 1, 0, 0), (489, .invokevirtual 70, 3, 28, 0), (492, .iload 5, 2, 0, 0), (494, .if_icmp .eq 5, 3, 499, 0), (497, .iconst 0, 1, 0, 0), (498, .ireturn, 1, 0, 0), (499, .iload 5, 2, 0, 0), (501, .ifCond .ne 15, 3, 516, 0), (504, .aload_n 3, 1, 0, 0), (505, .iconst 0, 1, 0, 0), (506, .laload, 1, 0, 0), (507, .iload 6, 2, 0, 0)]
set_option maxRecDepth 100000 in
theorem ok_law_7 : tbl_7.all (q_rowk 8 T_law) = true := by decide +kernel
def tbl_8 : qTb := [(509, .i2l, 1, 0, 0), (510, .lcmp, 1, 0, 0), (511, .ifCond .eq 5, 3, 516, 0), (514, .iconst 0, 1, 0, 0), (515, .ireturn, 1, 0, 0), (516, .goto 265, 3, 781, 0), (519, .aload_n 1, 1, 0, 0), (520, .invokevirtual 97, 3, 12, 0), (523, .aload_n 2, 1, 0, 0), (524, .invokevirtual 100, 3, 93, 0), (527, .if_icmp .eq 254, 3, 781, 0), (530, .iconst 0, 1, 0, 0), (531, .ireturn, 1, 0, 0), (532, .aload_n 1, 1, 0, 0), (533, .invokevirtual 101, 3, 13, 0), (536, .aload_n 2, 1, 0, 0), (537, .invokevirtual 104, 3, 97, 0), (540, .if_icmp .eq 241, 3, 781, 0), (543, .iconst 0, 1, 0, 0), (544, .ireturn, 1, 0, 0), (545, .aload_n 1, 1, 0, 0), (546, .invokevirtual 105, 3, 14, 0), (549, .aload_n 2, 1, 0, 0), (550, .invokevirtual 108, 3, 102, 0), (553, .if_icmp .eq 228, 3, 781, 0), (556, .iconst 0, 1, 0, 0), (557, .ireturn, 1, 0, 0), (558, .aload_n 1, 1, 0, 0), (559, .aload_n 0, 1, 0, 0), (560, .iload 4, 2, 0, 0)]
set_option maxRecDepth 100000 in
theorem ok_law_8 : tbl_8.all (q_rowk 8 T_law) = true := by decide +kernel
def tbl_9 : qTb := [(562, .iconst 1, 1, 0, 0), (563, .iadd, 1, 0, 0), (564, .iaload, 1, 0, 0), (565, .aload_n 0, 1, 0, 0), (566, .iload 4, 2, 0, 0), (568, .iconst 2, 1, 0, 0), (569, .iadd, 1, 0, 0), (570, .iaload, 1, 0, 0), (571, .invokestatic 109, 3, 9999, 4), (574, .istore 5, 2, 0, 0), (576, .aload_n 2, 1, 0, 0), (577, .aload_n 0, 1, 0, 0), (578, .iload 4, 2, 0, 0), (580, .iconst 1, 1, 0, 0), (581, .iadd, 1, 0, 0), (582, .iaload, 1, 0, 0), (583, .aload_n 0, 1, 0, 0), (584, .iload 4, 2, 0, 0), (586, .iconst 2, 1, 0, 0), (587, .iadd, 1, 0, 0), (588, .iaload, 1, 0, 0), (589, .invokevirtual 112, 3, 103, 0), (592, .aload_n 2, 1, 0, 0), (593, .invokevirtual 70, 3, 28, 0), (596, .iload 5, 2, 0, 0), (598, .if_icmp .eq 5, 3, 603, 0), (601, .iconst 0, 1, 0, 0), (602, .ireturn, 1, 0, 0), (603, .goto 178, 3, 781, 0), (606, .aload_n 1, 1, 0, 0)]
set_option maxRecDepth 100000 in
theorem ok_law_9 : tbl_9.all (q_rowk 8 T_law) = true := by decide +kernel
def tbl_10 : qTb := [(607, .invokevirtual 113, 3, 16, 0), (610, .aload_n 2, 1, 0, 0), (611, .invokevirtual 116, 3, 104, 0), (614, .if_icmp .eq 167, 3, 781, 0), (617, .iconst 0, 1, 0, 0), (618, .ireturn, 1, 0, 0), (619, .aload_n 1, 1, 0, 0), (620, .aload_n 0, 1, 0, 0), (621, .iload 4, 2, 0, 0), (623, .iconst 1, 1, 0, 0), (624, .iadd, 1, 0, 0), (625, .iaload, 1, 0, 0), (626, .aload_n 3, 1, 0, 0), (627, .invokestatic 117, 3, 9999, 4), (630, .istore 5, 2, 0, 0), (632, .aload_n 2, 1, 0, 0), (633, .aload_n 0, 1, 0, 0), (634, .iload 4, 2, 0, 0), (636, .iconst 1, 1, 0, 0), (637, .iadd, 1, 0, 0), (638, .iaload, 1, 0, 0), (639, .invokevirtual 119, 3, 105, 0), (642, .istore 6, 2, 0, 0), (644, .aload_n 2, 1, 0, 0), (645, .invokevirtual 70, 3, 28, 0), (648, .iload 5, 2, 0, 0), (650, .if_icmp .eq 5, 3, 655, 0), (653, .iconst 0, 1, 0, 0), (654, .ireturn, 1, 0, 0), (655, .iload 5, 2, 0, 0)]
set_option maxRecDepth 100000 in
theorem ok_law_10 : tbl_10.all (q_rowk 8 T_law) = true := by decide +kernel
def tbl_11 : qTb := [(657, .ifCond .ne 15, 3, 672, 0), (660, .aload_n 3, 1, 0, 0), (661, .iconst 0, 1, 0, 0), (662, .laload, 1, 0, 0), (663, .iload 6, 2, 0, 0), (665, .i2l, 1, 0, 0), (666, .lcmp, 1, 0, 0), (667, .ifCond .eq 5, 3, 672, 0), (670, .iconst 0, 1, 0, 0), (671, .ireturn, 1, 0, 0), (672, .goto 109, 3, 781, 0), (675, .aload_n 1, 1, 0, 0), (676, .aload_n 0, 1, 0, 0), (677, .iload 4, 2, 0, 0), (679, .iconst 1, 1, 0, 0), (680, .iadd, 1, 0, 0), (681, .iaload, 1, 0, 0), (682, .aload_n 0, 1, 0, 0), (683, .iload 4, 2, 0, 0), (685, .iconst 2, 1, 0, 0), (686, .iadd, 1, 0, 0), (687, .iaload, 1, 0, 0), (688, .aload_n 3, 1, 0, 0), (689, .invokestatic 120, 3, 9999, 4), (692, .istore 5, 2, 0, 0), (694, .aload_n 2, 1, 0, 0), (695, .aload_n 0, 1, 0, 0), (696, .iload 4, 2, 0, 0), (698, .iconst 1, 1, 0, 0), (699, .iadd, 1, 0, 0)]
set_option maxRecDepth 100000 in
theorem ok_law_11 : tbl_11.all (q_rowk 8 T_law) = true := by decide +kernel
def tbl_12 : qTb := [(700, .iaload, 1, 0, 0), (701, .aload_n 0, 1, 0, 0), (702, .iload 4, 2, 0, 0), (704, .iconst 2, 1, 0, 0), (705, .iadd, 1, 0, 0), (706, .iaload, 1, 0, 0), (707, .invokevirtual 123, 3, 106, 0), (710, .istore 6, 2, 0, 0), (712, .aload_n 2, 1, 0, 0), (713, .invokevirtual 70, 3, 28, 0), (716, .iload 5, 2, 0, 0), (718, .if_icmp .eq 5, 3, 723, 0), (721, .iconst 0, 1, 0, 0), (722, .ireturn, 1, 0, 0), (723, .iload 5, 2, 0, 0), (725, .ifCond .ne 15, 3, 740, 0), (728, .aload_n 3, 1, 0, 0), (729, .iconst 0, 1, 0, 0), (730, .laload, 1, 0, 0), (731, .iload 6, 2, 0, 0), (733, .i2l, 1, 0, 0), (734, .lcmp, 1, 0, 0), (735, .ifCond .eq 5, 3, 740, 0), (738, .iconst 0, 1, 0, 0), (739, .ireturn, 1, 0, 0), (740, .goto 41, 3, 781, 0), (743, .aload_n 1, 1, 0, 0), (744, .invokevirtual 124, 3, 19, 0), (747, .aload_n 2, 1, 0, 0), (748, .invokevirtual 127, 3, 107, 0)]
set_option maxRecDepth 100000 in
theorem ok_law_12 : tbl_12.all (q_rowk 8 T_law) = true := by decide +kernel
def tbl_13 : qTb := [(751, .if_icmp .eq 30, 3, 781, 0), (754, .iconst 0, 1, 0, 0), (755, .ireturn, 1, 0, 0), (756, .aload_n 1, 1, 0, 0), (757, .aload_n 0, 1, 0, 0), (758, .iload 4, 2, 0, 0), (760, .iconst 1, 1, 0, 0), (761, .iadd, 1, 0, 0), (762, .iaload, 1, 0, 0), (763, .invokevirtual 128, 3, 20, 0), (766, .aload_n 2, 1, 0, 0), (767, .aload_n 0, 1, 0, 0), (768, .iload 4, 2, 0, 0), (770, .iconst 1, 1, 0, 0), (771, .iadd, 1, 0, 0), (772, .iaload, 1, 0, 0), (773, .invokevirtual 132, 3, 108, 0), (776, .if_icmp .eq 5, 3, 781, 0), (779, .iconst 0, 1, 0, 0), (780, .ireturn, 1, 0, 0), (781, .iinc 4 3, 3, 0, 0), (784, .goto (-761), 3, 23, 0), (787, .iconst 1, 1, 0, 0), (788, .ireturn, 1, 0, 0)]
set_option maxRecDepth 100000 in
theorem ok_law_13 : tbl_13.all (q_rowk 8 T_law) = true := by decide +kernel
set_option maxRecDepth 100000 in
theorem tb_law_eq : tb_law = tbl_0 ++ (tbl_1 ++ (tbl_2 ++ (tbl_3 ++ (tbl_4 ++ (tbl_5 ++ (tbl_6 ++ (tbl_7 ++ (tbl_8 ++ (tbl_9 ++ (tbl_10 ++ (tbl_11 ++ (tbl_12 ++ (tbl_13))))))))))))) := rfl
theorem ok_law : q_ok T_law = true := by
  refine List.any_eq_true.mpr ⟨8, by decide, ?_⟩
  rw [Bool.and_eq_true]
  refine ⟨by decide, ?_⟩
  show tb_law.all (q_rowk 8 T_law) = true
  rw [tb_law_eq]
  simp only [List.all_append, ok_law_0, ok_law_1, ok_law_2, ok_law_3, ok_law_4, ok_law_5, ok_law_6, ok_law_7, ok_law_8, ok_law_9, ok_law_10, ok_law_11, ok_law_12, ok_law_13, Bool.and_self]
set_option maxRecDepth 100000 in
set_option maxHeartbeats 4000000 in
theorem s_law_23 {l : Launch} {Γ : qG} {d r : Nat} {M : qM} {L : Nat → Int64} {Q : qO → qS → Prop} (v4 : Int32) (h : (((nI Γ.2.2.2.2) - (iI 3)) < v4 → Q (.inl (some (.int (iI 1)))) (M, L)) ∧ (¬ ((nI Γ.2.2.2.2) - (iI 3)) < v4 → vp_in v4 Γ.2.2.2.2 ∧ ((((Γ.2.2.2.1 (v4).toNatClampNeg) &&& (iI 31))).toInt = 0 → V l Γ T_law (d + 1) r 136 [.ref 50, .ref 0, .ref 27, .ref 42, .int v4, .null, .null] [] (M, L) Q) ∧ (¬ (((Γ.2.2.2.1 (v4).toNatClampNeg) &&& (iI 31))).toInt = 0 → ((((Γ.2.2.2.1 (v4).toNatClampNeg) &&& (iI 31))).toInt = 1 → V l Γ T_law (d + 1) r 163 [.ref 50, .ref 0, .ref 27, .ref 42, .int v4, .null, .null] [] (M, L) Q) ∧ (¬ (((Γ.2.2.2.1 (v4).toNatClampNeg) &&& (iI 31))).toInt = 1 → ((((Γ.2.2.2.1 (v4).toNatClampNeg) &&& (iI 31))).toInt = 2 → V l Γ T_law (d + 1) r 176 [.ref 50, .ref 0, .ref 27, .ref 42, .int v4, .null, .null] [] (M, L) Q) ∧ (¬ (((Γ.2.2.2.1 (v4).toNatClampNeg) &&& (iI 31))).toInt = 2 → ((((Γ.2.2.2.1 (v4).toNatClampNeg) &&& (iI 31))).toInt = 3 → V l Γ T_law (d + 1) r 189 [.ref 50, .ref 0, .ref 27, .ref 42, .int v4, .null, .null] [] (M, L) Q) ∧ (¬ (((Γ.2.2.2.1 (v4).toNatClampNeg) &&& (iI 31))).toInt = 3 → ((((Γ.2.2.2.1 (v4).toNatClampNeg) &&& (iI 31))).toInt = 4 → V l Γ T_law (d + 1) r 202 [.ref 50, .ref 0, .ref 27, .ref 42, .int v4, .null, .null] [] (M, L) Q) ∧ (¬ (((Γ.2.2.2.1 (v4).toNatClampNeg) &&& (iI 31))).toInt = 4 → ((((Γ.2.2.2.1 (v4).toNatClampNeg) &&& (iI 31))).toInt = 5 → V l Γ T_law (d + 1) r 258 [.ref 50, .ref 0, .ref 27, .ref 42, .int v4, .null, .null] [] (M, L) Q) ∧ (¬ (((Γ.2.2.2.1 (v4).toNatClampNeg) &&& (iI 31))).toInt = 5 → ((((Γ.2.2.2.1 (v4).toNatClampNeg) &&& (iI 31))).toInt = 6 → V l Γ T_law (d + 1) r 314 [.ref 50, .ref 0, .ref 27, .ref 42, .int v4, .null, .null] [] (M, L) Q) ∧ (¬ (((Γ.2.2.2.1 (v4).toNatClampNeg) &&& (iI 31))).toInt = 6 → ((((Γ.2.2.2.1 (v4).toNatClampNeg) &&& (iI 31))).toInt = 7 → V l Γ T_law (d + 1) r 325 [.ref 50, .ref 0, .ref 27, .ref 42, .int v4, .null, .null] [] (M, L) Q) ∧ (¬ (((Γ.2.2.2.1 (v4).toNatClampNeg) &&& (iI 31))).toInt = 7 → ((((Γ.2.2.2.1 (v4).toNatClampNeg) &&& (iI 31))).toInt = 8 → V l Γ T_law (d + 1) r 381 [.ref 50, .ref 0, .ref 27, .ref 42, .int v4, .null, .null] [] (M, L) Q) ∧ (¬ (((Γ.2.2.2.1 (v4).toNatClampNeg) &&& (iI 31))).toInt = 8 → ((((Γ.2.2.2.1 (v4).toNatClampNeg) &&& (iI 31))).toInt = 9 → V l Γ T_law (d + 1) r 394 [.ref 50, .ref 0, .ref 27, .ref 42, .int v4, .null, .null] [] (M, L) Q) ∧ (¬ (((Γ.2.2.2.1 (v4).toNatClampNeg) &&& (iI 31))).toInt = 9 → ((((Γ.2.2.2.1 (v4).toNatClampNeg) &&& (iI 31))).toInt = 10 → V l Γ T_law (d + 1) r 407 [.ref 50, .ref 0, .ref 27, .ref 42, .int v4, .null, .null] [] (M, L) Q) ∧ (¬ (((Γ.2.2.2.1 (v4).toNatClampNeg) &&& (iI 31))).toInt = 10 → ((((Γ.2.2.2.1 (v4).toNatClampNeg) &&& (iI 31))).toInt = 11 → V l Γ T_law (d + 1) r 463 [.ref 50, .ref 0, .ref 27, .ref 42, .int v4, .null, .null] [] (M, L) Q) ∧ (¬ (((Γ.2.2.2.1 (v4).toNatClampNeg) &&& (iI 31))).toInt = 11 → ((((Γ.2.2.2.1 (v4).toNatClampNeg) &&& (iI 31))).toInt = 12 → V l Γ T_law (d + 1) r 519 [.ref 50, .ref 0, .ref 27, .ref 42, .int v4, .null, .null] [] (M, L) Q) ∧ (¬ (((Γ.2.2.2.1 (v4).toNatClampNeg) &&& (iI 31))).toInt = 12 → ((((Γ.2.2.2.1 (v4).toNatClampNeg) &&& (iI 31))).toInt = 13 → V l Γ T_law (d + 1) r 532 [.ref 50, .ref 0, .ref 27, .ref 42, .int v4, .null, .null] [] (M, L) Q) ∧ (¬ (((Γ.2.2.2.1 (v4).toNatClampNeg) &&& (iI 31))).toInt = 13 → ((((Γ.2.2.2.1 (v4).toNatClampNeg) &&& (iI 31))).toInt = 14 → V l Γ T_law (d + 1) r 545 [.ref 50, .ref 0, .ref 27, .ref 42, .int v4, .null, .null] [] (M, L) Q) ∧ (¬ (((Γ.2.2.2.1 (v4).toNatClampNeg) &&& (iI 31))).toInt = 14 → ((((Γ.2.2.2.1 (v4).toNatClampNeg) &&& (iI 31))).toInt = 15 → V l Γ T_law (d + 1) r 558 [.ref 50, .ref 0, .ref 27, .ref 42, .int v4, .null, .null] [] (M, L) Q) ∧ (¬ (((Γ.2.2.2.1 (v4).toNatClampNeg) &&& (iI 31))).toInt = 15 → ((((Γ.2.2.2.1 (v4).toNatClampNeg) &&& (iI 31))).toInt = 16 → V l Γ T_law (d + 1) r 606 [.ref 50, .ref 0, .ref 27, .ref 42, .int v4, .null, .null] [] (M, L) Q) ∧ (¬ (((Γ.2.2.2.1 (v4).toNatClampNeg) &&& (iI 31))).toInt = 16 → ((((Γ.2.2.2.1 (v4).toNatClampNeg) &&& (iI 31))).toInt = 17 → V l Γ T_law (d + 1) r 619 [.ref 50, .ref 0, .ref 27, .ref 42, .int v4, .null, .null] [] (M, L) Q) ∧ (¬ (((Γ.2.2.2.1 (v4).toNatClampNeg) &&& (iI 31))).toInt = 17 → ((((Γ.2.2.2.1 (v4).toNatClampNeg) &&& (iI 31))).toInt = 18 → V l Γ T_law (d + 1) r 675 [.ref 50, .ref 0, .ref 27, .ref 42, .int v4, .null, .null] [] (M, L) Q) ∧ (¬ (((Γ.2.2.2.1 (v4).toNatClampNeg) &&& (iI 31))).toInt = 18 → ((((Γ.2.2.2.1 (v4).toNatClampNeg) &&& (iI 31))).toInt = 19 → V l Γ T_law (d + 1) r 743 [.ref 50, .ref 0, .ref 27, .ref 42, .int v4, .null, .null] [] (M, L) Q) ∧ (¬ (((Γ.2.2.2.1 (v4).toNatClampNeg) &&& (iI 31))).toInt = 19 → ((((Γ.2.2.2.1 (v4).toNatClampNeg) &&& (iI 31))).toInt = 20 → V l Γ T_law (d + 1) r 756 [.ref 50, .ref 0, .ref 27, .ref 42, .int v4, .null, .null] [] (M, L) Q) ∧ (¬ (((Γ.2.2.2.1 (v4).toNatClampNeg) &&& (iI 31))).toInt = 20 → V l Γ T_law (d + 1) r 781 [.ref 50, .ref 0, .ref 27, .ref 42, .int v4, .null, .null] [] (M, L) Q))))))))))))))))))))))) : V l Γ T_law (d + 1) r 23 [.ref 50, .ref 0, .ref 27, .ref 42, .int v4, .null, .null] [] (M, L) Q := by
  refine V.run 2 (pc' := 26) (ls' := [.ref 50, .ref 0, .ref 27, .ref 42, .int v4, .null, .null]) (st' := [.ref 50, .int v4]) (S' := (M, L)) rfl ?_
  refine V.slen rfl ?_
  refine V.run 2 (pc' := 29) (ls' := [.ref 50, .ref 0, .ref 27, .ref 42, .int v4, .null, .null]) (st' := [.int ((nI Γ.2.2.2.2) - (iI 3)), .int v4]) (S' := (M, L)) rfl ?_
  refine V.icmp (cd := .gt) rfl (fun hc => ?_) (fun hc => ?_)
  · have h := h.1 hc
    refine V.run 1 (pc' := 788) (ls' := [.ref 50, .ref 0, .ref 27, .ref 42, .int v4, .null, .null]) (st' := [.int (iI 1)]) (S' := (M, L)) rfl ?_
    exact V.zret rfl rfl (by decide) h
  · have h := h.2 hc
    refine V.run 2 (pc' := 35) (ls' := [.ref 50, .ref 0, .ref 27, .ref 42, .int v4, .null, .null]) (st' := [.int v4, .ref 50]) (S' := (M, L)) rfl ?_
    refine V.sld rfl h.1 ?_
    have h := h.2
    refine V.run 2 (pc' := 39) (ls' := [.ref 50, .ref 0, .ref 27, .ref 42, .int v4, .null, .null]) (st' := [.int ((Γ.2.2.2.1 (v4).toNatClampNeg) &&& (iI 31))]) (S' := (M, L)) rfl ?_
    refine V.swt rfl 781 [(0, 136), (1, 163), (2, 176), (3, 189), (4, 202), (5, 258), (6, 314), (7, 325), (8, 381), (9, 394), (10, 407), (11, 463), (12, 519), (13, 532), (14, 545), (15, 558), (16, 606), (17, 619), (18, 675), (19, 743), (20, 756)] (by decide) (by decide) (by decide) ?_
    refine q_swP.c (fun hc => ?_) (fun hc => ?_)
    · have h := h.1 hc
      exact h
    · have h := h.2 hc
      refine q_swP.c (fun hc => ?_) (fun hc => ?_)
      · have h := h.1 hc
        exact h
      · have h := h.2 hc
        refine q_swP.c (fun hc => ?_) (fun hc => ?_)
        · have h := h.1 hc
          exact h
        · have h := h.2 hc
          refine q_swP.c (fun hc => ?_) (fun hc => ?_)
          · have h := h.1 hc
            exact h
          · have h := h.2 hc
            refine q_swP.c (fun hc => ?_) (fun hc => ?_)
            · have h := h.1 hc
              exact h
            · have h := h.2 hc
              refine q_swP.c (fun hc => ?_) (fun hc => ?_)
              · have h := h.1 hc
                exact h
              · have h := h.2 hc
                refine q_swP.c (fun hc => ?_) (fun hc => ?_)
                · have h := h.1 hc
                  exact h
                · have h := h.2 hc
                  refine q_swP.c (fun hc => ?_) (fun hc => ?_)
                  · have h := h.1 hc
                    exact h
                  · have h := h.2 hc
                    refine q_swP.c (fun hc => ?_) (fun hc => ?_)
                    · have h := h.1 hc
                      exact h
                    · have h := h.2 hc
                      refine q_swP.c (fun hc => ?_) (fun hc => ?_)
                      · have h := h.1 hc
                        exact h
                      · have h := h.2 hc
                        refine q_swP.c (fun hc => ?_) (fun hc => ?_)
                        · have h := h.1 hc
                          exact h
                        · have h := h.2 hc
                          refine q_swP.c (fun hc => ?_) (fun hc => ?_)
                          · have h := h.1 hc
                            exact h
                          · have h := h.2 hc
                            refine q_swP.c (fun hc => ?_) (fun hc => ?_)
                            · have h := h.1 hc
                              exact h
                            · have h := h.2 hc
                              refine q_swP.c (fun hc => ?_) (fun hc => ?_)
                              · have h := h.1 hc
                                exact h
                              · have h := h.2 hc
                                refine q_swP.c (fun hc => ?_) (fun hc => ?_)
                                · have h := h.1 hc
                                  exact h
                                · have h := h.2 hc
                                  refine q_swP.c (fun hc => ?_) (fun hc => ?_)
                                  · have h := h.1 hc
                                    exact h
                                  · have h := h.2 hc
                                    refine q_swP.c (fun hc => ?_) (fun hc => ?_)
                                    · have h := h.1 hc
                                      exact h
                                    · have h := h.2 hc
                                      refine q_swP.c (fun hc => ?_) (fun hc => ?_)
                                      · have h := h.1 hc
                                        exact h
                                      · have h := h.2 hc
                                        refine q_swP.c (fun hc => ?_) (fun hc => ?_)
                                        · have h := h.1 hc
                                          exact h
                                        · have h := h.2 hc
                                          refine q_swP.c (fun hc => ?_) (fun hc => ?_)
                                          · have h := h.1 hc
                                            exact h
                                          · have h := h.2 hc
                                            refine q_swP.c (fun hc => ?_) (fun hc => ?_)
                                            · have h := h.1 hc
                                              exact h
                                            · have h := h.2 hc
                                              refine q_swP.e ?_
                                              exact h
set_option maxRecDepth 100000 in
set_option maxHeartbeats 4000000 in
theorem s_law_136 {l : Launch} {Γ : qG} {d r : Nat} {M : qM} {L : Nat → Int64} {Q : qO → qS → Prop} (v4 : Int32) (h : vp_in (v4 + (iI 1)) Γ.2.2.2.2 ∧ ∃ P1 : Int32 → qM → Prop, V l Γ T_TapedLines_type d 0 0 [.ref 0, .int (((Γ.2.2.2.1 ((v4 + (iI 1))).toNatClampNeg)).toUInt32 % 65536).toInt32] [] (M, L) (q_i L P1) ∧ ∀ (x1 : Int32) (M1 : qM), P1 x1 M1 → vp_in (v4 + (iI 1)) Γ.2.2.2.2 ∧ ∃ P2 : Int32 → qM → Prop, V l Γ T_TapedLinesModel_type d 0 0 [.ref 27, .int (((Γ.2.2.2.1 ((v4 + (iI 1))).toNatClampNeg)).toUInt32 % 65536).toInt32] [] (M1, L) (q_i L P2) ∧ ∀ (x2 : Int32) (M2 : qM), P2 x2 M2 → (x1 = x2 → V l Γ T_law (d + 1) r 781 [.ref 50, .ref 0, .ref 27, .ref 42, .int v4, .null, .null] [] (M2, L) Q) ∧ (¬ x1 = x2 → Q (.inl (some (.int (iI 0)))) (M2, L))) : V l Γ T_law (d + 1) r 136 [.ref 50, .ref 0, .ref 27, .ref 42, .int v4, .null, .null] [] (M, L) Q := by
  refine V.run 5 (pc' := 142) (ls' := [.ref 50, .ref 0, .ref 27, .ref 42, .int v4, .null, .null]) (st' := [.int (v4 + (iI 1)), .ref 50, .ref 0]) (S' := (M, L)) rfl ?_
  refine V.sld rfl h.1 ?_
  have h := h.2
  refine V.run 1 (pc' := 144) (ls' := [.ref 50, .ref 0, .ref 27, .ref 42, .int v4, .null, .null]) (st' := [.int (((Γ.2.2.2.1 ((v4 + (iI 1))).toNatClampNeg)).toUInt32 % 65536).toInt32, .ref 0]) (S' := (M, L)) rfl ?_
  obtain ⟨P1, hv1, h⟩ := h
  refine V.callVi (T2 := T_TapedLines_type) (As := [.int (((Γ.2.2.2.1 ((v4 + (iI 1))).toNatClampNeg)).toUInt32 % 65536).toInt32]) (rest := []) rfl rfl g_TapedLines_type rfl rfl rfl rfl (Nat.le_of_ble_eq_true rfl) (by simp [Value.category]) (by simp [Value.category]) (Nat.le_of_ble_eq_true rfl) (Nat.le_refl _) hv1 (fun x1 M1 hq => ?_)
  have h := h x1 M1 hq
  refine V.run 5 (pc' := 153) (ls' := [.ref 50, .ref 0, .ref 27, .ref 42, .int v4, .null, .null]) (st' := [.int (v4 + (iI 1)), .ref 50, .ref 27, .int x1]) (S' := (M1, L)) rfl ?_
  refine V.sld rfl h.1 ?_
  have h := h.2
  refine V.run 1 (pc' := 155) (ls' := [.ref 50, .ref 0, .ref 27, .ref 42, .int v4, .null, .null]) (st' := [.int (((Γ.2.2.2.1 ((v4 + (iI 1))).toNatClampNeg)).toUInt32 % 65536).toInt32, .ref 27, .int x1]) (S' := (M1, L)) rfl ?_
  obtain ⟨P2, hv2, h⟩ := h
  refine V.callVi (T2 := T_TapedLinesModel_type) (As := [.int (((Γ.2.2.2.1 ((v4 + (iI 1))).toNatClampNeg)).toUInt32 % 65536).toInt32]) (rest := [.int x1]) rfl rfl g_TapedLinesModel_type rfl rfl rfl rfl (Nat.le_of_ble_eq_true rfl) (by simp [Value.category]) (by simp [Value.category]) (Nat.le_of_ble_eq_true rfl) (Nat.le_refl _) hv2 (fun x2 M2 hq => ?_)
  have h := h x2 M2 hq
  refine V.icmp (cd := .eq) rfl (fun hc => ?_) (fun hc => ?_)
  · have h := h.1 hc
    exact h
  · have h := h.2 hc
    refine V.run 1 (pc' := 162) (ls' := [.ref 50, .ref 0, .ref 27, .ref 42, .int v4, .null, .null]) (st' := [.int (iI 0)]) (S' := (M2, L)) rfl ?_
    exact V.zret rfl rfl (by decide) h
set_option maxRecDepth 100000 in
set_option maxHeartbeats 4000000 in
theorem s_law_163 {l : Launch} {Γ : qG} {d r : Nat} {M : qM} {L : Nat → Int64} {Q : qO → qS → Prop} (v4 : Int32) (h : ∃ P1 : Int32 → qM → Prop, V l Γ T_TapedLines_wipe d 0 0 [.ref 0, .null] [] (M, L) (q_i L P1) ∧ ∀ (x1 : Int32) (M1 : qM), P1 x1 M1 → ∃ P2 : Int32 → qM → Prop, V l Γ T_TapedLinesModel_wipe d 0 0 [.ref 27, .null] [] (M1, L) (q_i L P2) ∧ ∀ (x2 : Int32) (M2 : qM), P2 x2 M2 → (x1 = x2 → V l Γ T_law (d + 1) r 781 [.ref 50, .ref 0, .ref 27, .ref 42, .int v4, .null, .null] [] (M2, L) Q) ∧ (¬ x1 = x2 → Q (.inl (some (.int (iI 0)))) (M2, L))) : V l Γ T_law (d + 1) r 163 [.ref 50, .ref 0, .ref 27, .ref 42, .int v4, .null, .null] [] (M, L) Q := by
  refine V.run 1 (pc' := 164) (ls' := [.ref 50, .ref 0, .ref 27, .ref 42, .int v4, .null, .null]) (st' := [.ref 0]) (S' := (M, L)) rfl ?_
  obtain ⟨P1, hv1, h⟩ := h
  refine V.callVi (T2 := T_TapedLines_wipe) (As := []) (rest := []) rfl rfl g_TapedLines_wipe rfl rfl rfl rfl (Nat.le_of_ble_eq_true rfl) (by simp [Value.category]) (by simp [Value.category]) (Nat.le_of_ble_eq_true rfl) (Nat.le_refl _) hv1 (fun x1 M1 hq => ?_)
  have h := h x1 M1 hq
  refine V.run 1 (pc' := 168) (ls' := [.ref 50, .ref 0, .ref 27, .ref 42, .int v4, .null, .null]) (st' := [.ref 27, .int x1]) (S' := (M1, L)) rfl ?_
  obtain ⟨P2, hv2, h⟩ := h
  refine V.callVi (T2 := T_TapedLinesModel_wipe) (As := []) (rest := [.int x1]) rfl rfl g_TapedLinesModel_wipe rfl rfl rfl rfl (Nat.le_of_ble_eq_true rfl) (by simp [Value.category]) (by simp [Value.category]) (Nat.le_of_ble_eq_true rfl) (Nat.le_refl _) hv2 (fun x2 M2 hq => ?_)
  have h := h x2 M2 hq
  refine V.icmp (cd := .eq) rfl (fun hc => ?_) (fun hc => ?_)
  · have h := h.1 hc
    exact h
  · have h := h.2 hc
    refine V.run 1 (pc' := 175) (ls' := [.ref 50, .ref 0, .ref 27, .ref 42, .int v4, .null, .null]) (st' := [.int (iI 0)]) (S' := (M2, L)) rfl ?_
    exact V.zret rfl rfl (by decide) h
set_option maxRecDepth 100000 in
set_option maxHeartbeats 4000000 in
theorem s_law_176 {l : Launch} {Γ : qG} {d r : Nat} {M : qM} {L : Nat → Int64} {Q : qO → qS → Prop} (v4 : Int32) (h : ∃ P1 : Int32 → qM → Prop, V l Γ T_TapedLines_enter d 0 0 [.ref 0, .null] [] (M, L) (q_i L P1) ∧ ∀ (x1 : Int32) (M1 : qM), P1 x1 M1 → ∃ P2 : Int32 → qM → Prop, V l Γ T_TapedLinesModel_enter d 0 0 [.ref 27, .null, .null, .null, .null] [] (M1, L) (q_i L P2) ∧ ∀ (x2 : Int32) (M2 : qM), P2 x2 M2 → (x1 = x2 → V l Γ T_law (d + 1) r 781 [.ref 50, .ref 0, .ref 27, .ref 42, .int v4, .null, .null] [] (M2, L) Q) ∧ (¬ x1 = x2 → Q (.inl (some (.int (iI 0)))) (M2, L))) : V l Γ T_law (d + 1) r 176 [.ref 50, .ref 0, .ref 27, .ref 42, .int v4, .null, .null] [] (M, L) Q := by
  refine V.run 1 (pc' := 177) (ls' := [.ref 50, .ref 0, .ref 27, .ref 42, .int v4, .null, .null]) (st' := [.ref 0]) (S' := (M, L)) rfl ?_
  obtain ⟨P1, hv1, h⟩ := h
  refine V.callVi (T2 := T_TapedLines_enter) (As := []) (rest := []) rfl rfl g_TapedLines_enter rfl rfl rfl rfl (Nat.le_of_ble_eq_true rfl) (by simp [Value.category]) (by simp [Value.category]) (Nat.le_of_ble_eq_true rfl) (Nat.le_refl _) hv1 (fun x1 M1 hq => ?_)
  have h := h x1 M1 hq
  refine V.run 1 (pc' := 181) (ls' := [.ref 50, .ref 0, .ref 27, .ref 42, .int v4, .null, .null]) (st' := [.ref 27, .int x1]) (S' := (M1, L)) rfl ?_
  obtain ⟨P2, hv2, h⟩ := h
  refine V.callVi (T2 := T_TapedLinesModel_enter) (As := []) (rest := [.int x1]) rfl rfl g_TapedLinesModel_enter rfl rfl rfl rfl (Nat.le_of_ble_eq_true rfl) (by simp [Value.category]) (by simp [Value.category]) (Nat.le_of_ble_eq_true rfl) (Nat.le_refl _) hv2 (fun x2 M2 hq => ?_)
  have h := h x2 M2 hq
  refine V.icmp (cd := .eq) rfl (fun hc => ?_) (fun hc => ?_)
  · have h := h.1 hc
    exact h
  · have h := h.2 hc
    refine V.run 1 (pc' := 188) (ls' := [.ref 50, .ref 0, .ref 27, .ref 42, .int v4, .null, .null]) (st' := [.int (iI 0)]) (S' := (M2, L)) rfl ?_
    exact V.zret rfl rfl (by decide) h
set_option maxRecDepth 100000 in
set_option maxHeartbeats 4000000 in
theorem s_law_189 {l : Launch} {Γ : qG} {d r : Nat} {M : qM} {L : Nat → Int64} {Q : qO → qS → Prop} (v4 : Int32) (h : ∃ P1 : Int32 → qM → Prop, V l Γ T_TapedLines_lines d 0 0 [.ref 0] [] (M, L) (q_i L P1) ∧ ∀ (x1 : Int32) (M1 : qM), P1 x1 M1 → ∃ P2 : Int32 → qM → Prop, V l Γ T_TapedLinesModel_lines d 0 0 [.ref 27] [] (M1, L) (q_i L P2) ∧ ∀ (x2 : Int32) (M2 : qM), P2 x2 M2 → (x1 = x2 → V l Γ T_law (d + 1) r 781 [.ref 50, .ref 0, .ref 27, .ref 42, .int v4, .null, .null] [] (M2, L) Q) ∧ (¬ x1 = x2 → Q (.inl (some (.int (iI 0)))) (M2, L))) : V l Γ T_law (d + 1) r 189 [.ref 50, .ref 0, .ref 27, .ref 42, .int v4, .null, .null] [] (M, L) Q := by
  refine V.run 1 (pc' := 190) (ls' := [.ref 50, .ref 0, .ref 27, .ref 42, .int v4, .null, .null]) (st' := [.ref 0]) (S' := (M, L)) rfl ?_
  obtain ⟨P1, hv1, h⟩ := h
  refine V.callVi (T2 := T_TapedLines_lines) (As := []) (rest := []) rfl rfl g_TapedLines_lines rfl rfl rfl rfl (Nat.le_of_ble_eq_true rfl) (by simp [Value.category]) (by simp [Value.category]) (Nat.le_of_ble_eq_true rfl) (Nat.le_refl _) hv1 (fun x1 M1 hq => ?_)
  have h := h x1 M1 hq
  refine V.run 1 (pc' := 194) (ls' := [.ref 50, .ref 0, .ref 27, .ref 42, .int v4, .null, .null]) (st' := [.ref 27, .int x1]) (S' := (M1, L)) rfl ?_
  obtain ⟨P2, hv2, h⟩ := h
  refine V.callVi (T2 := T_TapedLinesModel_lines) (As := []) (rest := [.int x1]) rfl rfl g_TapedLinesModel_lines rfl rfl rfl rfl (Nat.le_of_ble_eq_true rfl) (by simp [Value.category]) (by simp [Value.category]) (Nat.le_of_ble_eq_true rfl) (Nat.le_refl _) hv2 (fun x2 M2 hq => ?_)
  have h := h x2 M2 hq
  refine V.icmp (cd := .eq) rfl (fun hc => ?_) (fun hc => ?_)
  · have h := h.1 hc
    exact h
  · have h := h.2 hc
    refine V.run 1 (pc' := 201) (ls' := [.ref 50, .ref 0, .ref 27, .ref 42, .int v4, .null, .null]) (st' := [.int (iI 0)]) (S' := (M2, L)) rfl ?_
    exact V.zret rfl rfl (by decide) h
set_option maxRecDepth 100000 in
set_option maxHeartbeats 4000000 in
theorem s_law_202 {l : Launch} {Γ : qG} {d r : Nat} {M : qM} {L : Nat → Int64} {Q : qO → qS → Prop} (v4 : Int32) (h : vp_in (v4 + (iI 1)) Γ.2.2.2.2 ∧ ∃ P1 : Int32 → qM → (Nat → Int64) → Prop, VH l Γ T_law_list hh_list d 1 0 [.ref 0, .int (Γ.2.2.2.1 ((v4 + (iI 1))).toNatClampNeg), .ref 42, .null] [] (M, L) (q_h P1) ∧ ∀ (x1 : Int32) (M1 : qM) (L1 : Nat → Int64), P1 x1 M1 L1 → vp_in (v4 + (iI 1)) Γ.2.2.2.2 ∧ ∃ P2 : Int32 → qM → Prop, V l Γ T_TapedLinesModel_list d 0 0 [.ref 27, .int (Γ.2.2.2.1 ((v4 + (iI 1))).toNatClampNeg), .null, .null, .null, .null] [] (M1, L1) (q_i L1 P2) ∧ ∀ (x2 : Int32) (M2 : qM), P2 x2 M2 → ∃ P3 : Int32 → qM → Prop, V l Γ T_TapedLinesModel_thrown d 0 0 [.ref 27] [] (M2, L1) (q_i L1 P3) ∧ ∀ (x3 : Int32) (M3 : qM), P3 x3 M3 → (x3 = x1 → (¬ x1 = 0 → V l Γ T_law (d + 1) r 781 [.ref 50, .ref 0, .ref 27, .ref 42, .int v4, .null, .null] [] (M3, L1) Q) ∧ (¬ (¬ x1 = 0) → ((lg_cmp (L1 ((iI 0)).toNatClampNeg) (x2).toInt64) = 0 → V l Γ T_law (d + 1) r 781 [.ref 50, .ref 0, .ref 27, .ref 42, .int v4, .null, .null] [] (M3, L1) Q) ∧ (¬ (lg_cmp (L1 ((iI 0)).toNatClampNeg) (x2).toInt64) = 0 → Q (.inl (some (.int (iI 0)))) (M3, L1)))) ∧ (¬ x3 = x1 → Q (.inl (some (.int (iI 0)))) (M3, L1))) : V l Γ T_law (d + 1) (r + 1) 202 [.ref 50, .ref 0, .ref 27, .ref 42, .int v4, .null, .null] [] (M, L) Q := by
  refine V.run 5 (pc' := 208) (ls' := [.ref 50, .ref 0, .ref 27, .ref 42, .int v4, .null, .null]) (st' := [.int (v4 + (iI 1)), .ref 50, .ref 0]) (S' := (M, L)) rfl ?_
  refine V.sld rfl h.1 ?_
  have h := h.2
  refine V.run 1 (pc' := 210) (ls' := [.ref 50, .ref 0, .ref 27, .ref 42, .int v4, .null, .null]) (st' := [.ref 42, .int (Γ.2.2.2.1 ((v4 + (iI 1))).toNatClampNeg), .ref 0]) (S' := (M, L)) rfl ?_
  obtain ⟨P1, hv1, h⟩ := h
  refine V.callSHi (n := 3) (T2 := T_law_list) (As := [.ref 0, .int (Γ.2.2.2.1 ((v4 + (iI 1))).toNatClampNeg), .ref 42]) (rest := []) rfl ok_law_list (by decide) cw_law_list ⟨(q_w 603 (by decide +kernel)), (q_w 604 (by decide +kernel)), (q_w 93 (by decide +kernel))⟩ (by decide) (by decide +kernel) rfl (Nat.le_of_ble_eq_true rfl) (by decide) (by simp [Value.category]) (by simp [Value.category]) (Nat.le_of_ble_eq_true rfl) (Nat.le_refl _) hv1 (fun x1 M1 L1 hq => ?_)
  have h := h x1 M1 L1 hq
  refine V.run 6 (pc' := 221) (ls' := [.ref 50, .ref 0, .ref 27, .ref 42, .int v4, .int x1, .null]) (st' := [.int (v4 + (iI 1)), .ref 50, .ref 27]) (S' := (M1, L1)) rfl ?_
  refine V.sld rfl h.1 ?_
  have h := h.2
  obtain ⟨P2, hv2, h⟩ := h
  refine V.callVi (T2 := T_TapedLinesModel_list) (As := [.int (Γ.2.2.2.1 ((v4 + (iI 1))).toNatClampNeg)]) (rest := []) rfl rfl g_TapedLinesModel_list rfl rfl rfl rfl (Nat.le_of_ble_eq_true rfl) (by simp [Value.category]) (by simp [Value.category]) (Nat.le_of_ble_eq_true rfl) (Nat.le_refl _) hv2 (fun x2 M2 hq => ?_)
  have h := h x2 M2 hq
  refine V.run 2 (pc' := 228) (ls' := [.ref 50, .ref 0, .ref 27, .ref 42, .int v4, .int x1, .int x2]) (st' := [.ref 27]) (S' := (M2, L1)) rfl ?_
  obtain ⟨P3, hv3, h⟩ := h
  refine V.callVi (T2 := T_TapedLinesModel_thrown) (As := []) (rest := []) rfl rfl g_TapedLinesModel_thrown rfl rfl rfl rfl (Nat.le_of_ble_eq_true rfl) (by simp [Value.category]) (by simp [Value.category]) (Nat.le_of_ble_eq_true rfl) (Nat.le_refl _) hv3 (fun x3 M3 hq => ?_)
  have h := h x3 M3 hq
  refine V.run 1 (pc' := 233) (ls' := [.ref 50, .ref 0, .ref 27, .ref 42, .int v4, .int x1, .int x2]) (st' := [.int x1, .int x3]) (S' := (M3, L1)) rfl ?_
  refine V.icmp (cd := .eq) rfl (fun hc => ?_) (fun hc => ?_)
  · have h := h.1 hc
    refine V.run 1 (pc' := 240) (ls' := [.ref 50, .ref 0, .ref 27, .ref 42, .int v4, .int x1, .int x2]) (st' := [.int x1]) (S' := (M3, L1)) rfl ?_
    refine V.ifc (cd := .ne) rfl (fun hc => ?_) (fun hc => ?_)
    · have h := h.1 hc
      refine V.run 1 (pc' := 781) (ls' := [.ref 50, .ref 0, .ref 27, .ref 42, .int v4, .int x1, .int x2]) (st' := []) (S' := (M3, L1)) rfl ?_
      refine V.forget (ls' := [.ref 50, .ref 0, .ref 27, .ref 42, .int v4, .null, .null]) ⟨Or.inr rfl, Or.inr rfl, Or.inr rfl, Or.inr rfl, Or.inr rfl, Or.inl rfl, Or.inl rfl, trivial⟩ ?_
      exact h
    · have h := h.2 hc
      refine V.run 2 (pc' := 245) (ls' := [.ref 50, .ref 0, .ref 27, .ref 42, .int v4, .int x1, .int x2]) (st' := [.int (iI 0), .ref 42]) (S' := (M3, L1)) rfl ?_
      refine V.lald rfl (iI_in (by decide) (by decide) (by decide)) ?_
      refine V.run 1 (pc' := 248) (ls' := [.ref 50, .ref 0, .ref 27, .ref 42, .int v4, .int x1, .int x2]) (st' := [.int x2, .long (L1 ((iI 0)).toNatClampNeg)]) (S' := (M3, L1)) rfl ?_
      refine V.i2l rfl ?_
      refine V.lcmp rfl ?_
      refine V.ifc (cd := .eq) rfl (fun hc => ?_) (fun hc => ?_)
      · have h := h.1 hc
        refine V.run 1 (pc' := 781) (ls' := [.ref 50, .ref 0, .ref 27, .ref 42, .int v4, .int x1, .int x2]) (st' := []) (S' := (M3, L1)) rfl ?_
        refine V.forget (ls' := [.ref 50, .ref 0, .ref 27, .ref 42, .int v4, .null, .null]) ⟨Or.inr rfl, Or.inr rfl, Or.inr rfl, Or.inr rfl, Or.inr rfl, Or.inl rfl, Or.inl rfl, trivial⟩ ?_
        exact h
      · have h := h.2 hc
        refine V.run 1 (pc' := 254) (ls' := [.ref 50, .ref 0, .ref 27, .ref 42, .int v4, .int x1, .int x2]) (st' := [.int (iI 0)]) (S' := (M3, L1)) rfl ?_
        exact V.zret rfl rfl (by decide) h
  · have h := h.2 hc
    refine V.run 1 (pc' := 237) (ls' := [.ref 50, .ref 0, .ref 27, .ref 42, .int v4, .int x1, .int x2]) (st' := [.int (iI 0)]) (S' := (M3, L1)) rfl ?_
    exact V.zret rfl rfl (by decide) h
set_option maxRecDepth 100000 in
set_option maxHeartbeats 4000000 in
theorem s_law_258 {l : Launch} {Γ : qG} {d r : Nat} {M : qM} {L : Nat → Int64} {Q : qO → qS → Prop} (v4 : Int32) (h : vp_in (v4 + (iI 1)) Γ.2.2.2.2 ∧ ∃ P1 : Int32 → qM → (Nat → Int64) → Prop, VH l Γ T_law_programByte hh_programByte d 1 0 [.ref 0, .int (Γ.2.2.2.1 ((v4 + (iI 1))).toNatClampNeg), .ref 42, .null] [] (M, L) (q_h P1) ∧ ∀ (x1 : Int32) (M1 : qM) (L1 : Nat → Int64), P1 x1 M1 L1 → vp_in (v4 + (iI 1)) Γ.2.2.2.2 ∧ ∃ P2 : Int32 → qM → Prop, V l Γ T_TapedLinesModel_programByte d 0 0 [.ref 27, .int (Γ.2.2.2.1 ((v4 + (iI 1))).toNatClampNeg)] [] (M1, L1) (q_i L1 P2) ∧ ∀ (x2 : Int32) (M2 : qM), P2 x2 M2 → ∃ P3 : Int32 → qM → Prop, V l Γ T_TapedLinesModel_thrown d 0 0 [.ref 27] [] (M2, L1) (q_i L1 P3) ∧ ∀ (x3 : Int32) (M3 : qM), P3 x3 M3 → (x3 = x1 → (¬ x1 = 0 → V l Γ T_law (d + 1) r 781 [.ref 50, .ref 0, .ref 27, .ref 42, .int v4, .null, .null] [] (M3, L1) Q) ∧ (¬ (¬ x1 = 0) → ((lg_cmp (L1 ((iI 0)).toNatClampNeg) (x2).toInt64) = 0 → V l Γ T_law (d + 1) r 781 [.ref 50, .ref 0, .ref 27, .ref 42, .int v4, .null, .null] [] (M3, L1) Q) ∧ (¬ (lg_cmp (L1 ((iI 0)).toNatClampNeg) (x2).toInt64) = 0 → Q (.inl (some (.int (iI 0)))) (M3, L1)))) ∧ (¬ x3 = x1 → Q (.inl (some (.int (iI 0)))) (M3, L1))) : V l Γ T_law (d + 1) (r + 1) 258 [.ref 50, .ref 0, .ref 27, .ref 42, .int v4, .null, .null] [] (M, L) Q := by
  refine V.run 5 (pc' := 264) (ls' := [.ref 50, .ref 0, .ref 27, .ref 42, .int v4, .null, .null]) (st' := [.int (v4 + (iI 1)), .ref 50, .ref 0]) (S' := (M, L)) rfl ?_
  refine V.sld rfl h.1 ?_
  have h := h.2
  refine V.run 1 (pc' := 266) (ls' := [.ref 50, .ref 0, .ref 27, .ref 42, .int v4, .null, .null]) (st' := [.ref 42, .int (Γ.2.2.2.1 ((v4 + (iI 1))).toNatClampNeg), .ref 0]) (S' := (M, L)) rfl ?_
  obtain ⟨P1, hv1, h⟩ := h
  refine V.callSHi (n := 3) (T2 := T_law_programByte) (As := [.ref 0, .int (Γ.2.2.2.1 ((v4 + (iI 1))).toNatClampNeg), .ref 42]) (rest := []) rfl ok_law_programByte (by decide) cw_law_programByte ⟨(q_w 686 (by decide +kernel)), (q_w 687 (by decide +kernel)), (q_w 93 (by decide +kernel))⟩ (by decide) (by decide +kernel) rfl (Nat.le_of_ble_eq_true rfl) (by decide) (by simp [Value.category]) (by simp [Value.category]) (Nat.le_of_ble_eq_true rfl) (Nat.le_refl _) hv1 (fun x1 M1 L1 hq => ?_)
  have h := h x1 M1 L1 hq
  refine V.run 6 (pc' := 277) (ls' := [.ref 50, .ref 0, .ref 27, .ref 42, .int v4, .int x1, .null]) (st' := [.int (v4 + (iI 1)), .ref 50, .ref 27]) (S' := (M1, L1)) rfl ?_
  refine V.sld rfl h.1 ?_
  have h := h.2
  obtain ⟨P2, hv2, h⟩ := h
  refine V.callVi (T2 := T_TapedLinesModel_programByte) (As := [.int (Γ.2.2.2.1 ((v4 + (iI 1))).toNatClampNeg)]) (rest := []) rfl rfl g_TapedLinesModel_programByte rfl rfl rfl rfl (Nat.le_of_ble_eq_true rfl) (by simp [Value.category]) (by simp [Value.category]) (Nat.le_of_ble_eq_true rfl) (Nat.le_refl _) hv2 (fun x2 M2 hq => ?_)
  have h := h x2 M2 hq
  refine V.run 2 (pc' := 284) (ls' := [.ref 50, .ref 0, .ref 27, .ref 42, .int v4, .int x1, .int x2]) (st' := [.ref 27]) (S' := (M2, L1)) rfl ?_
  obtain ⟨P3, hv3, h⟩ := h
  refine V.callVi (T2 := T_TapedLinesModel_thrown) (As := []) (rest := []) rfl rfl g_TapedLinesModel_thrown rfl rfl rfl rfl (Nat.le_of_ble_eq_true rfl) (by simp [Value.category]) (by simp [Value.category]) (Nat.le_of_ble_eq_true rfl) (Nat.le_refl _) hv3 (fun x3 M3 hq => ?_)
  have h := h x3 M3 hq
  refine V.run 1 (pc' := 289) (ls' := [.ref 50, .ref 0, .ref 27, .ref 42, .int v4, .int x1, .int x2]) (st' := [.int x1, .int x3]) (S' := (M3, L1)) rfl ?_
  refine V.icmp (cd := .eq) rfl (fun hc => ?_) (fun hc => ?_)
  · have h := h.1 hc
    refine V.run 1 (pc' := 296) (ls' := [.ref 50, .ref 0, .ref 27, .ref 42, .int v4, .int x1, .int x2]) (st' := [.int x1]) (S' := (M3, L1)) rfl ?_
    refine V.ifc (cd := .ne) rfl (fun hc => ?_) (fun hc => ?_)
    · have h := h.1 hc
      refine V.run 1 (pc' := 781) (ls' := [.ref 50, .ref 0, .ref 27, .ref 42, .int v4, .int x1, .int x2]) (st' := []) (S' := (M3, L1)) rfl ?_
      refine V.forget (ls' := [.ref 50, .ref 0, .ref 27, .ref 42, .int v4, .null, .null]) ⟨Or.inr rfl, Or.inr rfl, Or.inr rfl, Or.inr rfl, Or.inr rfl, Or.inl rfl, Or.inl rfl, trivial⟩ ?_
      exact h
    · have h := h.2 hc
      refine V.run 2 (pc' := 301) (ls' := [.ref 50, .ref 0, .ref 27, .ref 42, .int v4, .int x1, .int x2]) (st' := [.int (iI 0), .ref 42]) (S' := (M3, L1)) rfl ?_
      refine V.lald rfl (iI_in (by decide) (by decide) (by decide)) ?_
      refine V.run 1 (pc' := 304) (ls' := [.ref 50, .ref 0, .ref 27, .ref 42, .int v4, .int x1, .int x2]) (st' := [.int x2, .long (L1 ((iI 0)).toNatClampNeg)]) (S' := (M3, L1)) rfl ?_
      refine V.i2l rfl ?_
      refine V.lcmp rfl ?_
      refine V.ifc (cd := .eq) rfl (fun hc => ?_) (fun hc => ?_)
      · have h := h.1 hc
        refine V.run 1 (pc' := 781) (ls' := [.ref 50, .ref 0, .ref 27, .ref 42, .int v4, .int x1, .int x2]) (st' := []) (S' := (M3, L1)) rfl ?_
        refine V.forget (ls' := [.ref 50, .ref 0, .ref 27, .ref 42, .int v4, .null, .null]) ⟨Or.inr rfl, Or.inr rfl, Or.inr rfl, Or.inr rfl, Or.inr rfl, Or.inl rfl, Or.inl rfl, trivial⟩ ?_
        exact h
      · have h := h.2 hc
        refine V.run 1 (pc' := 310) (ls' := [.ref 50, .ref 0, .ref 27, .ref 42, .int v4, .int x1, .int x2]) (st' := [.int (iI 0)]) (S' := (M3, L1)) rfl ?_
        exact V.zret rfl rfl (by decide) h
  · have h := h.2 hc
    refine V.run 1 (pc' := 293) (ls' := [.ref 50, .ref 0, .ref 27, .ref 42, .int v4, .int x1, .int x2]) (st' := [.int (iI 0)]) (S' := (M3, L1)) rfl ?_
    exact V.zret rfl rfl (by decide) h
set_option maxRecDepth 100000 in
set_option maxHeartbeats 4000000 in
theorem s_law_314 {l : Launch} {Γ : qG} {d r : Nat} {M : qM} {L : Nat → Int64} {Q : qO → qS → Prop} (v4 : Int32) (h : ∃ P1 : qM → Prop, V l Γ T_TapedLines_start d 0 0 [.ref 0] [] (M, L) (q_n L P1) ∧ ∀ (M1 : qM), P1 M1 → ∃ P2 : qM → Prop, V l Γ T_TapedLinesModel_start d 0 0 [.ref 27, .null] [] (M1, L) (q_n L P2) ∧ ∀ (M2 : qM), P2 M2 → V l Γ T_law (d + 1) r 781 [.ref 50, .ref 0, .ref 27, .ref 42, .int v4, .null, .null] [] (M2, L) Q) : V l Γ T_law (d + 1) r 314 [.ref 50, .ref 0, .ref 27, .ref 42, .int v4, .null, .null] [] (M, L) Q := by
  refine V.run 1 (pc' := 315) (ls' := [.ref 50, .ref 0, .ref 27, .ref 42, .int v4, .null, .null]) (st' := [.ref 0]) (S' := (M, L)) rfl ?_
  obtain ⟨P1, hv1, h⟩ := h
  refine V.callVv (T2 := T_TapedLines_start) (As := []) (rest := []) rfl rfl g_TapedLines_start rfl rfl rfl rfl (Nat.le_of_ble_eq_true rfl) (by simp [Value.category]) (by simp [Value.category]) (Nat.le_of_ble_eq_true rfl) (Nat.le_refl _) hv1 (fun M1 hq => ?_)
  have h := h M1 hq
  refine V.run 1 (pc' := 319) (ls' := [.ref 50, .ref 0, .ref 27, .ref 42, .int v4, .null, .null]) (st' := [.ref 27]) (S' := (M1, L)) rfl ?_
  obtain ⟨P2, hv2, h⟩ := h
  refine V.callVv (T2 := T_TapedLinesModel_start) (As := []) (rest := []) rfl rfl g_TapedLinesModel_start rfl rfl rfl rfl (Nat.le_of_ble_eq_true rfl) (by simp [Value.category]) (by simp [Value.category]) (Nat.le_of_ble_eq_true rfl) (Nat.le_refl _) hv2 (fun M2 hq => ?_)
  have h := h M2 hq
  refine V.run 1 (pc' := 781) (ls' := [.ref 50, .ref 0, .ref 27, .ref 42, .int v4, .null, .null]) (st' := []) (S' := (M2, L)) rfl ?_
  exact h
set_option maxRecDepth 100000 in
set_option maxHeartbeats 4000000 in
theorem s_law_325 {l : Launch} {Γ : qG} {d r : Nat} {M : qM} {L : Nat → Int64} {Q : qO → qS → Prop} (v4 : Int32) (h : vp_in (v4 + (iI 1)) Γ.2.2.2.2 ∧ ∃ P1 : Int32 → qM → (Nat → Int64) → Prop, VH l Γ T_law_run hh_run d 1 0 [.ref 0, .int (Γ.2.2.2.1 ((v4 + (iI 1))).toNatClampNeg), .ref 42, .null] [] (M, L) (q_h P1) ∧ ∀ (x1 : Int32) (M1 : qM) (L1 : Nat → Int64), P1 x1 M1 L1 → vp_in (v4 + (iI 1)) Γ.2.2.2.2 ∧ ∃ P2 : Int32 → qM → Prop, V l Γ T_TapedLinesModel_run d 0 0 [.ref 27, .int (Γ.2.2.2.1 ((v4 + (iI 1))).toNatClampNeg), .null] [] (M1, L1) (q_i L1 P2) ∧ ∀ (x2 : Int32) (M2 : qM), P2 x2 M2 → ∃ P3 : Int32 → qM → Prop, V l Γ T_TapedLinesModel_thrown d 0 0 [.ref 27] [] (M2, L1) (q_i L1 P3) ∧ ∀ (x3 : Int32) (M3 : qM), P3 x3 M3 → (x3 = x1 → (¬ x1 = 0 → V l Γ T_law (d + 1) r 781 [.ref 50, .ref 0, .ref 27, .ref 42, .int v4, .null, .null] [] (M3, L1) Q) ∧ (¬ (¬ x1 = 0) → ((lg_cmp (L1 ((iI 0)).toNatClampNeg) (x2).toInt64) = 0 → V l Γ T_law (d + 1) r 781 [.ref 50, .ref 0, .ref 27, .ref 42, .int v4, .null, .null] [] (M3, L1) Q) ∧ (¬ (lg_cmp (L1 ((iI 0)).toNatClampNeg) (x2).toInt64) = 0 → Q (.inl (some (.int (iI 0)))) (M3, L1)))) ∧ (¬ x3 = x1 → Q (.inl (some (.int (iI 0)))) (M3, L1))) : V l Γ T_law (d + 1) (r + 1) 325 [.ref 50, .ref 0, .ref 27, .ref 42, .int v4, .null, .null] [] (M, L) Q := by
  refine V.run 5 (pc' := 331) (ls' := [.ref 50, .ref 0, .ref 27, .ref 42, .int v4, .null, .null]) (st' := [.int (v4 + (iI 1)), .ref 50, .ref 0]) (S' := (M, L)) rfl ?_
  refine V.sld rfl h.1 ?_
  have h := h.2
  refine V.run 1 (pc' := 333) (ls' := [.ref 50, .ref 0, .ref 27, .ref 42, .int v4, .null, .null]) (st' := [.ref 42, .int (Γ.2.2.2.1 ((v4 + (iI 1))).toNatClampNeg), .ref 0]) (S' := (M, L)) rfl ?_
  obtain ⟨P1, hv1, h⟩ := h
  refine V.callSHi (n := 3) (T2 := T_law_run) (As := [.ref 0, .int (Γ.2.2.2.1 ((v4 + (iI 1))).toNatClampNeg), .ref 42]) (rest := []) rfl ok_law_run (by decide) cw_law_run ⟨(q_w 693 (by decide +kernel)), (q_w 694 (by decide +kernel)), (q_w 93 (by decide +kernel))⟩ (by decide) (by decide +kernel) rfl (Nat.le_of_ble_eq_true rfl) (by decide) (by simp [Value.category]) (by simp [Value.category]) (Nat.le_of_ble_eq_true rfl) (Nat.le_refl _) hv1 (fun x1 M1 L1 hq => ?_)
  have h := h x1 M1 L1 hq
  refine V.run 6 (pc' := 344) (ls' := [.ref 50, .ref 0, .ref 27, .ref 42, .int v4, .int x1, .null]) (st' := [.int (v4 + (iI 1)), .ref 50, .ref 27]) (S' := (M1, L1)) rfl ?_
  refine V.sld rfl h.1 ?_
  have h := h.2
  obtain ⟨P2, hv2, h⟩ := h
  refine V.callVi (T2 := T_TapedLinesModel_run) (As := [.int (Γ.2.2.2.1 ((v4 + (iI 1))).toNatClampNeg)]) (rest := []) rfl rfl g_TapedLinesModel_run rfl rfl rfl rfl (Nat.le_of_ble_eq_true rfl) (by simp [Value.category]) (by simp [Value.category]) (Nat.le_of_ble_eq_true rfl) (Nat.le_refl _) hv2 (fun x2 M2 hq => ?_)
  have h := h x2 M2 hq
  refine V.run 2 (pc' := 351) (ls' := [.ref 50, .ref 0, .ref 27, .ref 42, .int v4, .int x1, .int x2]) (st' := [.ref 27]) (S' := (M2, L1)) rfl ?_
  obtain ⟨P3, hv3, h⟩ := h
  refine V.callVi (T2 := T_TapedLinesModel_thrown) (As := []) (rest := []) rfl rfl g_TapedLinesModel_thrown rfl rfl rfl rfl (Nat.le_of_ble_eq_true rfl) (by simp [Value.category]) (by simp [Value.category]) (Nat.le_of_ble_eq_true rfl) (Nat.le_refl _) hv3 (fun x3 M3 hq => ?_)
  have h := h x3 M3 hq
  refine V.run 1 (pc' := 356) (ls' := [.ref 50, .ref 0, .ref 27, .ref 42, .int v4, .int x1, .int x2]) (st' := [.int x1, .int x3]) (S' := (M3, L1)) rfl ?_
  refine V.icmp (cd := .eq) rfl (fun hc => ?_) (fun hc => ?_)
  · have h := h.1 hc
    refine V.run 1 (pc' := 363) (ls' := [.ref 50, .ref 0, .ref 27, .ref 42, .int v4, .int x1, .int x2]) (st' := [.int x1]) (S' := (M3, L1)) rfl ?_
    refine V.ifc (cd := .ne) rfl (fun hc => ?_) (fun hc => ?_)
    · have h := h.1 hc
      refine V.run 1 (pc' := 781) (ls' := [.ref 50, .ref 0, .ref 27, .ref 42, .int v4, .int x1, .int x2]) (st' := []) (S' := (M3, L1)) rfl ?_
      refine V.forget (ls' := [.ref 50, .ref 0, .ref 27, .ref 42, .int v4, .null, .null]) ⟨Or.inr rfl, Or.inr rfl, Or.inr rfl, Or.inr rfl, Or.inr rfl, Or.inl rfl, Or.inl rfl, trivial⟩ ?_
      exact h
    · have h := h.2 hc
      refine V.run 2 (pc' := 368) (ls' := [.ref 50, .ref 0, .ref 27, .ref 42, .int v4, .int x1, .int x2]) (st' := [.int (iI 0), .ref 42]) (S' := (M3, L1)) rfl ?_
      refine V.lald rfl (iI_in (by decide) (by decide) (by decide)) ?_
      refine V.run 1 (pc' := 371) (ls' := [.ref 50, .ref 0, .ref 27, .ref 42, .int v4, .int x1, .int x2]) (st' := [.int x2, .long (L1 ((iI 0)).toNatClampNeg)]) (S' := (M3, L1)) rfl ?_
      refine V.i2l rfl ?_
      refine V.lcmp rfl ?_
      refine V.ifc (cd := .eq) rfl (fun hc => ?_) (fun hc => ?_)
      · have h := h.1 hc
        refine V.run 1 (pc' := 781) (ls' := [.ref 50, .ref 0, .ref 27, .ref 42, .int v4, .int x1, .int x2]) (st' := []) (S' := (M3, L1)) rfl ?_
        refine V.forget (ls' := [.ref 50, .ref 0, .ref 27, .ref 42, .int v4, .null, .null]) ⟨Or.inr rfl, Or.inr rfl, Or.inr rfl, Or.inr rfl, Or.inr rfl, Or.inl rfl, Or.inl rfl, trivial⟩ ?_
        exact h
      · have h := h.2 hc
        refine V.run 1 (pc' := 377) (ls' := [.ref 50, .ref 0, .ref 27, .ref 42, .int v4, .int x1, .int x2]) (st' := [.int (iI 0)]) (S' := (M3, L1)) rfl ?_
        exact V.zret rfl rfl (by decide) h
  · have h := h.2 hc
    refine V.run 1 (pc' := 360) (ls' := [.ref 50, .ref 0, .ref 27, .ref 42, .int v4, .int x1, .int x2]) (st' := [.int (iI 0)]) (S' := (M3, L1)) rfl ?_
    exact V.zret rfl rfl (by decide) h
set_option maxRecDepth 100000 in
set_option maxHeartbeats 4000000 in
theorem s_law_381 {l : Launch} {Γ : qG} {d r : Nat} {M : qM} {L : Nat → Int64} {Q : qO → qS → Prop} (v4 : Int32) (h : ∃ P1 : Int32 → qM → Prop, V l Γ T_TapedLines_state d 0 0 [.ref 0] [] (M, L) (q_i L P1) ∧ ∀ (x1 : Int32) (M1 : qM), P1 x1 M1 → ∃ P2 : Int32 → qM → Prop, V l Γ T_TapedLinesModel_state d 0 0 [.ref 27] [] (M1, L) (q_i L P2) ∧ ∀ (x2 : Int32) (M2 : qM), P2 x2 M2 → (x1 = x2 → V l Γ T_law (d + 1) r 781 [.ref 50, .ref 0, .ref 27, .ref 42, .int v4, .null, .null] [] (M2, L) Q) ∧ (¬ x1 = x2 → Q (.inl (some (.int (iI 0)))) (M2, L))) : V l Γ T_law (d + 1) r 381 [.ref 50, .ref 0, .ref 27, .ref 42, .int v4, .null, .null] [] (M, L) Q := by
  refine V.run 1 (pc' := 382) (ls' := [.ref 50, .ref 0, .ref 27, .ref 42, .int v4, .null, .null]) (st' := [.ref 0]) (S' := (M, L)) rfl ?_
  obtain ⟨P1, hv1, h⟩ := h
  refine V.callVi (T2 := T_TapedLines_state) (As := []) (rest := []) rfl rfl g_TapedLines_state rfl rfl rfl rfl (Nat.le_of_ble_eq_true rfl) (by simp [Value.category]) (by simp [Value.category]) (Nat.le_of_ble_eq_true rfl) (Nat.le_refl _) hv1 (fun x1 M1 hq => ?_)
  have h := h x1 M1 hq
  refine V.run 1 (pc' := 386) (ls' := [.ref 50, .ref 0, .ref 27, .ref 42, .int v4, .null, .null]) (st' := [.ref 27, .int x1]) (S' := (M1, L)) rfl ?_
  obtain ⟨P2, hv2, h⟩ := h
  refine V.callVi (T2 := T_TapedLinesModel_state) (As := []) (rest := [.int x1]) rfl rfl g_TapedLinesModel_state rfl rfl rfl rfl (Nat.le_of_ble_eq_true rfl) (by simp [Value.category]) (by simp [Value.category]) (Nat.le_of_ble_eq_true rfl) (Nat.le_refl _) hv2 (fun x2 M2 hq => ?_)
  have h := h x2 M2 hq
  refine V.icmp (cd := .eq) rfl (fun hc => ?_) (fun hc => ?_)
  · have h := h.1 hc
    exact h
  · have h := h.2 hc
    refine V.run 1 (pc' := 393) (ls' := [.ref 50, .ref 0, .ref 27, .ref 42, .int v4, .null, .null]) (st' := [.int (iI 0)]) (S' := (M2, L)) rfl ?_
    exact V.zret rfl rfl (by decide) h
set_option maxRecDepth 100000 in
set_option maxHeartbeats 4000000 in
theorem s_law_394 {l : Launch} {Γ : qG} {d r : Nat} {M : qM} {L : Nat → Int64} {Q : qO → qS → Prop} (v4 : Int32) (h : ∃ P1 : Int32 → qM → Prop, V l Γ T_TapedLines_place d 0 0 [.ref 0, .null] [] (M, L) (q_i L P1) ∧ ∀ (x1 : Int32) (M1 : qM), P1 x1 M1 → ∃ P2 : Int32 → qM → Prop, V l Γ T_TapedLinesModel_place d 0 0 [.ref 27] [] (M1, L) (q_i L P2) ∧ ∀ (x2 : Int32) (M2 : qM), P2 x2 M2 → (x1 = x2 → V l Γ T_law (d + 1) r 781 [.ref 50, .ref 0, .ref 27, .ref 42, .int v4, .null, .null] [] (M2, L) Q) ∧ (¬ x1 = x2 → Q (.inl (some (.int (iI 0)))) (M2, L))) : V l Γ T_law (d + 1) r 394 [.ref 50, .ref 0, .ref 27, .ref 42, .int v4, .null, .null] [] (M, L) Q := by
  refine V.run 1 (pc' := 395) (ls' := [.ref 50, .ref 0, .ref 27, .ref 42, .int v4, .null, .null]) (st' := [.ref 0]) (S' := (M, L)) rfl ?_
  obtain ⟨P1, hv1, h⟩ := h
  refine V.callVi (T2 := T_TapedLines_place) (As := []) (rest := []) rfl rfl g_TapedLines_place rfl rfl rfl rfl (Nat.le_of_ble_eq_true rfl) (by simp [Value.category]) (by simp [Value.category]) (Nat.le_of_ble_eq_true rfl) (Nat.le_refl _) hv1 (fun x1 M1 hq => ?_)
  have h := h x1 M1 hq
  refine V.run 1 (pc' := 399) (ls' := [.ref 50, .ref 0, .ref 27, .ref 42, .int v4, .null, .null]) (st' := [.ref 27, .int x1]) (S' := (M1, L)) rfl ?_
  obtain ⟨P2, hv2, h⟩ := h
  refine V.callVi (T2 := T_TapedLinesModel_place) (As := []) (rest := [.int x1]) rfl rfl g_TapedLinesModel_place rfl rfl rfl rfl (Nat.le_of_ble_eq_true rfl) (by simp [Value.category]) (by simp [Value.category]) (Nat.le_of_ble_eq_true rfl) (Nat.le_refl _) hv2 (fun x2 M2 hq => ?_)
  have h := h x2 M2 hq
  refine V.icmp (cd := .eq) rfl (fun hc => ?_) (fun hc => ?_)
  · have h := h.1 hc
    exact h
  · have h := h.2 hc
    refine V.run 1 (pc' := 406) (ls' := [.ref 50, .ref 0, .ref 27, .ref 42, .int v4, .null, .null]) (st' := [.int (iI 0)]) (S' := (M2, L)) rfl ?_
    exact V.zret rfl rfl (by decide) h
set_option maxRecDepth 100000 in
set_option maxHeartbeats 4000000 in
theorem s_law_407 {l : Launch} {Γ : qG} {d r : Nat} {M : qM} {L : Nat → Int64} {Q : qO → qS → Prop} (v4 : Int32) (h : vp_in (v4 + (iI 1)) Γ.2.2.2.2 ∧ ∃ P1 : Int32 → qM → (Nat → Int64) → Prop, VH l Γ T_law_variable hh_variable d 1 0 [.ref 0, .int (Γ.2.2.2.1 ((v4 + (iI 1))).toNatClampNeg), .ref 42, .null] [] (M, L) (q_h P1) ∧ ∀ (x1 : Int32) (M1 : qM) (L1 : Nat → Int64), P1 x1 M1 L1 → vp_in (v4 + (iI 1)) Γ.2.2.2.2 ∧ ∃ P2 : Int32 → qM → Prop, V l Γ T_TapedLinesModel_variable d 0 0 [.ref 27, .int (Γ.2.2.2.1 ((v4 + (iI 1))).toNatClampNeg)] [] (M1, L1) (q_i L1 P2) ∧ ∀ (x2 : Int32) (M2 : qM), P2 x2 M2 → ∃ P3 : Int32 → qM → Prop, V l Γ T_TapedLinesModel_thrown d 0 0 [.ref 27] [] (M2, L1) (q_i L1 P3) ∧ ∀ (x3 : Int32) (M3 : qM), P3 x3 M3 → (x3 = x1 → (¬ x1 = 0 → V l Γ T_law (d + 1) r 781 [.ref 50, .ref 0, .ref 27, .ref 42, .int v4, .null, .null] [] (M3, L1) Q) ∧ (¬ (¬ x1 = 0) → ((lg_cmp (L1 ((iI 0)).toNatClampNeg) (x2).toInt64) = 0 → V l Γ T_law (d + 1) r 781 [.ref 50, .ref 0, .ref 27, .ref 42, .int v4, .null, .null] [] (M3, L1) Q) ∧ (¬ (lg_cmp (L1 ((iI 0)).toNatClampNeg) (x2).toInt64) = 0 → Q (.inl (some (.int (iI 0)))) (M3, L1)))) ∧ (¬ x3 = x1 → Q (.inl (some (.int (iI 0)))) (M3, L1))) : V l Γ T_law (d + 1) (r + 1) 407 [.ref 50, .ref 0, .ref 27, .ref 42, .int v4, .null, .null] [] (M, L) Q := by
  refine V.run 5 (pc' := 413) (ls' := [.ref 50, .ref 0, .ref 27, .ref 42, .int v4, .null, .null]) (st' := [.int (v4 + (iI 1)), .ref 50, .ref 0]) (S' := (M, L)) rfl ?_
  refine V.sld rfl h.1 ?_
  have h := h.2
  refine V.run 1 (pc' := 415) (ls' := [.ref 50, .ref 0, .ref 27, .ref 42, .int v4, .null, .null]) (st' := [.ref 42, .int (Γ.2.2.2.1 ((v4 + (iI 1))).toNatClampNeg), .ref 0]) (S' := (M, L)) rfl ?_
  obtain ⟨P1, hv1, h⟩ := h
  refine V.callSHi (n := 3) (T2 := T_law_variable) (As := [.ref 0, .int (Γ.2.2.2.1 ((v4 + (iI 1))).toNatClampNeg), .ref 42]) (rest := []) rfl ok_law_variable (by decide) cw_law_variable ⟨(q_w 844 (by decide +kernel)), (q_w 845 (by decide +kernel)), (q_w 93 (by decide +kernel))⟩ (by decide) (by decide +kernel) rfl (Nat.le_of_ble_eq_true rfl) (by decide) (by simp [Value.category]) (by simp [Value.category]) (Nat.le_of_ble_eq_true rfl) (Nat.le_refl _) hv1 (fun x1 M1 L1 hq => ?_)
  have h := h x1 M1 L1 hq
  refine V.run 6 (pc' := 426) (ls' := [.ref 50, .ref 0, .ref 27, .ref 42, .int v4, .int x1, .null]) (st' := [.int (v4 + (iI 1)), .ref 50, .ref 27]) (S' := (M1, L1)) rfl ?_
  refine V.sld rfl h.1 ?_
  have h := h.2
  obtain ⟨P2, hv2, h⟩ := h
  refine V.callVi (T2 := T_TapedLinesModel_variable) (As := [.int (Γ.2.2.2.1 ((v4 + (iI 1))).toNatClampNeg)]) (rest := []) rfl rfl g_TapedLinesModel_variable rfl rfl rfl rfl (Nat.le_of_ble_eq_true rfl) (by simp [Value.category]) (by simp [Value.category]) (Nat.le_of_ble_eq_true rfl) (Nat.le_refl _) hv2 (fun x2 M2 hq => ?_)
  have h := h x2 M2 hq
  refine V.run 2 (pc' := 433) (ls' := [.ref 50, .ref 0, .ref 27, .ref 42, .int v4, .int x1, .int x2]) (st' := [.ref 27]) (S' := (M2, L1)) rfl ?_
  obtain ⟨P3, hv3, h⟩ := h
  refine V.callVi (T2 := T_TapedLinesModel_thrown) (As := []) (rest := []) rfl rfl g_TapedLinesModel_thrown rfl rfl rfl rfl (Nat.le_of_ble_eq_true rfl) (by simp [Value.category]) (by simp [Value.category]) (Nat.le_of_ble_eq_true rfl) (Nat.le_refl _) hv3 (fun x3 M3 hq => ?_)
  have h := h x3 M3 hq
  refine V.run 1 (pc' := 438) (ls' := [.ref 50, .ref 0, .ref 27, .ref 42, .int v4, .int x1, .int x2]) (st' := [.int x1, .int x3]) (S' := (M3, L1)) rfl ?_
  refine V.icmp (cd := .eq) rfl (fun hc => ?_) (fun hc => ?_)
  · have h := h.1 hc
    refine V.run 1 (pc' := 445) (ls' := [.ref 50, .ref 0, .ref 27, .ref 42, .int v4, .int x1, .int x2]) (st' := [.int x1]) (S' := (M3, L1)) rfl ?_
    refine V.ifc (cd := .ne) rfl (fun hc => ?_) (fun hc => ?_)
    · have h := h.1 hc
      refine V.run 1 (pc' := 781) (ls' := [.ref 50, .ref 0, .ref 27, .ref 42, .int v4, .int x1, .int x2]) (st' := []) (S' := (M3, L1)) rfl ?_
      refine V.forget (ls' := [.ref 50, .ref 0, .ref 27, .ref 42, .int v4, .null, .null]) ⟨Or.inr rfl, Or.inr rfl, Or.inr rfl, Or.inr rfl, Or.inr rfl, Or.inl rfl, Or.inl rfl, trivial⟩ ?_
      exact h
    · have h := h.2 hc
      refine V.run 2 (pc' := 450) (ls' := [.ref 50, .ref 0, .ref 27, .ref 42, .int v4, .int x1, .int x2]) (st' := [.int (iI 0), .ref 42]) (S' := (M3, L1)) rfl ?_
      refine V.lald rfl (iI_in (by decide) (by decide) (by decide)) ?_
      refine V.run 1 (pc' := 453) (ls' := [.ref 50, .ref 0, .ref 27, .ref 42, .int v4, .int x1, .int x2]) (st' := [.int x2, .long (L1 ((iI 0)).toNatClampNeg)]) (S' := (M3, L1)) rfl ?_
      refine V.i2l rfl ?_
      refine V.lcmp rfl ?_
      refine V.ifc (cd := .eq) rfl (fun hc => ?_) (fun hc => ?_)
      · have h := h.1 hc
        refine V.run 1 (pc' := 781) (ls' := [.ref 50, .ref 0, .ref 27, .ref 42, .int v4, .int x1, .int x2]) (st' := []) (S' := (M3, L1)) rfl ?_
        refine V.forget (ls' := [.ref 50, .ref 0, .ref 27, .ref 42, .int v4, .null, .null]) ⟨Or.inr rfl, Or.inr rfl, Or.inr rfl, Or.inr rfl, Or.inr rfl, Or.inl rfl, Or.inl rfl, trivial⟩ ?_
        exact h
      · have h := h.2 hc
        refine V.run 1 (pc' := 459) (ls' := [.ref 50, .ref 0, .ref 27, .ref 42, .int v4, .int x1, .int x2]) (st' := [.int (iI 0)]) (S' := (M3, L1)) rfl ?_
        exact V.zret rfl rfl (by decide) h
  · have h := h.2 hc
    refine V.run 1 (pc' := 442) (ls' := [.ref 50, .ref 0, .ref 27, .ref 42, .int v4, .int x1, .int x2]) (st' := [.int (iI 0)]) (S' := (M3, L1)) rfl ?_
    exact V.zret rfl rfl (by decide) h
set_option maxRecDepth 100000 in
set_option maxHeartbeats 4000000 in
theorem s_law_463 {l : Launch} {Γ : qG} {d r : Nat} {M : qM} {L : Nat → Int64} {Q : qO → qS → Prop} (v4 : Int32) (h : vp_in (v4 + (iI 1)) Γ.2.2.2.2 ∧ ∃ P1 : Int32 → qM → (Nat → Int64) → Prop, VH l Γ T_law_cell hh_cell d 1 0 [.ref 0, .int (Γ.2.2.2.1 ((v4 + (iI 1))).toNatClampNeg), .ref 42, .null] [] (M, L) (q_h P1) ∧ ∀ (x1 : Int32) (M1 : qM) (L1 : Nat → Int64), P1 x1 M1 L1 → vp_in (v4 + (iI 1)) Γ.2.2.2.2 ∧ ∃ P2 : Int32 → qM → Prop, V l Γ T_TapedLinesModel_cell d 0 0 [.ref 27, .int (Γ.2.2.2.1 ((v4 + (iI 1))).toNatClampNeg)] [] (M1, L1) (q_i L1 P2) ∧ ∀ (x2 : Int32) (M2 : qM), P2 x2 M2 → ∃ P3 : Int32 → qM → Prop, V l Γ T_TapedLinesModel_thrown d 0 0 [.ref 27] [] (M2, L1) (q_i L1 P3) ∧ ∀ (x3 : Int32) (M3 : qM), P3 x3 M3 → (x3 = x1 → (¬ x1 = 0 → V l Γ T_law (d + 1) r 781 [.ref 50, .ref 0, .ref 27, .ref 42, .int v4, .null, .null] [] (M3, L1) Q) ∧ (¬ (¬ x1 = 0) → ((lg_cmp (L1 ((iI 0)).toNatClampNeg) (x2).toInt64) = 0 → V l Γ T_law (d + 1) r 781 [.ref 50, .ref 0, .ref 27, .ref 42, .int v4, .null, .null] [] (M3, L1) Q) ∧ (¬ (lg_cmp (L1 ((iI 0)).toNatClampNeg) (x2).toInt64) = 0 → Q (.inl (some (.int (iI 0)))) (M3, L1)))) ∧ (¬ x3 = x1 → Q (.inl (some (.int (iI 0)))) (M3, L1))) : V l Γ T_law (d + 1) (r + 1) 463 [.ref 50, .ref 0, .ref 27, .ref 42, .int v4, .null, .null] [] (M, L) Q := by
  refine V.run 5 (pc' := 469) (ls' := [.ref 50, .ref 0, .ref 27, .ref 42, .int v4, .null, .null]) (st' := [.int (v4 + (iI 1)), .ref 50, .ref 0]) (S' := (M, L)) rfl ?_
  refine V.sld rfl h.1 ?_
  have h := h.2
  refine V.run 1 (pc' := 471) (ls' := [.ref 50, .ref 0, .ref 27, .ref 42, .int v4, .null, .null]) (st' := [.ref 42, .int (Γ.2.2.2.1 ((v4 + (iI 1))).toNatClampNeg), .ref 0]) (S' := (M, L)) rfl ?_
  obtain ⟨P1, hv1, h⟩ := h
  refine V.callSHi (n := 3) (T2 := T_law_cell) (As := [.ref 0, .int (Γ.2.2.2.1 ((v4 + (iI 1))).toNatClampNeg), .ref 42]) (rest := []) rfl ok_law_cell (by decide) cw_law_cell ⟨(q_w 851 (by decide +kernel)), (q_w 852 (by decide +kernel)), (q_w 93 (by decide +kernel))⟩ (by decide) (by decide +kernel) rfl (Nat.le_of_ble_eq_true rfl) (by decide) (by simp [Value.category]) (by simp [Value.category]) (Nat.le_of_ble_eq_true rfl) (Nat.le_refl _) hv1 (fun x1 M1 L1 hq => ?_)
  have h := h x1 M1 L1 hq
  refine V.run 6 (pc' := 482) (ls' := [.ref 50, .ref 0, .ref 27, .ref 42, .int v4, .int x1, .null]) (st' := [.int (v4 + (iI 1)), .ref 50, .ref 27]) (S' := (M1, L1)) rfl ?_
  refine V.sld rfl h.1 ?_
  have h := h.2
  obtain ⟨P2, hv2, h⟩ := h
  refine V.callVi (T2 := T_TapedLinesModel_cell) (As := [.int (Γ.2.2.2.1 ((v4 + (iI 1))).toNatClampNeg)]) (rest := []) rfl rfl g_TapedLinesModel_cell rfl rfl rfl rfl (Nat.le_of_ble_eq_true rfl) (by simp [Value.category]) (by simp [Value.category]) (Nat.le_of_ble_eq_true rfl) (Nat.le_refl _) hv2 (fun x2 M2 hq => ?_)
  have h := h x2 M2 hq
  refine V.run 2 (pc' := 489) (ls' := [.ref 50, .ref 0, .ref 27, .ref 42, .int v4, .int x1, .int x2]) (st' := [.ref 27]) (S' := (M2, L1)) rfl ?_
  obtain ⟨P3, hv3, h⟩ := h
  refine V.callVi (T2 := T_TapedLinesModel_thrown) (As := []) (rest := []) rfl rfl g_TapedLinesModel_thrown rfl rfl rfl rfl (Nat.le_of_ble_eq_true rfl) (by simp [Value.category]) (by simp [Value.category]) (Nat.le_of_ble_eq_true rfl) (Nat.le_refl _) hv3 (fun x3 M3 hq => ?_)
  have h := h x3 M3 hq
  refine V.run 1 (pc' := 494) (ls' := [.ref 50, .ref 0, .ref 27, .ref 42, .int v4, .int x1, .int x2]) (st' := [.int x1, .int x3]) (S' := (M3, L1)) rfl ?_
  refine V.icmp (cd := .eq) rfl (fun hc => ?_) (fun hc => ?_)
  · have h := h.1 hc
    refine V.run 1 (pc' := 501) (ls' := [.ref 50, .ref 0, .ref 27, .ref 42, .int v4, .int x1, .int x2]) (st' := [.int x1]) (S' := (M3, L1)) rfl ?_
    refine V.ifc (cd := .ne) rfl (fun hc => ?_) (fun hc => ?_)
    · have h := h.1 hc
      refine V.run 1 (pc' := 781) (ls' := [.ref 50, .ref 0, .ref 27, .ref 42, .int v4, .int x1, .int x2]) (st' := []) (S' := (M3, L1)) rfl ?_
      refine V.forget (ls' := [.ref 50, .ref 0, .ref 27, .ref 42, .int v4, .null, .null]) ⟨Or.inr rfl, Or.inr rfl, Or.inr rfl, Or.inr rfl, Or.inr rfl, Or.inl rfl, Or.inl rfl, trivial⟩ ?_
      exact h
    · have h := h.2 hc
      refine V.run 2 (pc' := 506) (ls' := [.ref 50, .ref 0, .ref 27, .ref 42, .int v4, .int x1, .int x2]) (st' := [.int (iI 0), .ref 42]) (S' := (M3, L1)) rfl ?_
      refine V.lald rfl (iI_in (by decide) (by decide) (by decide)) ?_
      refine V.run 1 (pc' := 509) (ls' := [.ref 50, .ref 0, .ref 27, .ref 42, .int v4, .int x1, .int x2]) (st' := [.int x2, .long (L1 ((iI 0)).toNatClampNeg)]) (S' := (M3, L1)) rfl ?_
      refine V.i2l rfl ?_
      refine V.lcmp rfl ?_
      refine V.ifc (cd := .eq) rfl (fun hc => ?_) (fun hc => ?_)
      · have h := h.1 hc
        refine V.run 1 (pc' := 781) (ls' := [.ref 50, .ref 0, .ref 27, .ref 42, .int v4, .int x1, .int x2]) (st' := []) (S' := (M3, L1)) rfl ?_
        refine V.forget (ls' := [.ref 50, .ref 0, .ref 27, .ref 42, .int v4, .null, .null]) ⟨Or.inr rfl, Or.inr rfl, Or.inr rfl, Or.inr rfl, Or.inr rfl, Or.inl rfl, Or.inl rfl, trivial⟩ ?_
        exact h
      · have h := h.2 hc
        refine V.run 1 (pc' := 515) (ls' := [.ref 50, .ref 0, .ref 27, .ref 42, .int v4, .int x1, .int x2]) (st' := [.int (iI 0)]) (S' := (M3, L1)) rfl ?_
        exact V.zret rfl rfl (by decide) h
  · have h := h.2 hc
    refine V.run 1 (pc' := 498) (ls' := [.ref 50, .ref 0, .ref 27, .ref 42, .int v4, .int x1, .int x2]) (st' := [.int (iI 0)]) (S' := (M3, L1)) rfl ?_
    exact V.zret rfl rfl (by decide) h
set_option maxRecDepth 100000 in
set_option maxHeartbeats 4000000 in
theorem s_law_519 {l : Launch} {Γ : qG} {d r : Nat} {M : qM} {L : Nat → Int64} {Q : qO → qS → Prop} (v4 : Int32) (h : ∃ P1 : Int32 → qM → Prop, V l Γ T_TapedLines_output d 0 0 [.ref 0] [] (M, L) (q_i L P1) ∧ ∀ (x1 : Int32) (M1 : qM), P1 x1 M1 → ∃ P2 : Int32 → qM → Prop, V l Γ T_TapedLinesModel_output d 0 0 [.ref 27, .null] [] (M1, L) (q_i L P2) ∧ ∀ (x2 : Int32) (M2 : qM), P2 x2 M2 → (x1 = x2 → V l Γ T_law (d + 1) r 781 [.ref 50, .ref 0, .ref 27, .ref 42, .int v4, .null, .null] [] (M2, L) Q) ∧ (¬ x1 = x2 → Q (.inl (some (.int (iI 0)))) (M2, L))) : V l Γ T_law (d + 1) r 519 [.ref 50, .ref 0, .ref 27, .ref 42, .int v4, .null, .null] [] (M, L) Q := by
  refine V.run 1 (pc' := 520) (ls' := [.ref 50, .ref 0, .ref 27, .ref 42, .int v4, .null, .null]) (st' := [.ref 0]) (S' := (M, L)) rfl ?_
  obtain ⟨P1, hv1, h⟩ := h
  refine V.callVi (T2 := T_TapedLines_output) (As := []) (rest := []) rfl rfl g_TapedLines_output rfl rfl rfl rfl (Nat.le_of_ble_eq_true rfl) (by simp [Value.category]) (by simp [Value.category]) (Nat.le_of_ble_eq_true rfl) (Nat.le_refl _) hv1 (fun x1 M1 hq => ?_)
  have h := h x1 M1 hq
  refine V.run 1 (pc' := 524) (ls' := [.ref 50, .ref 0, .ref 27, .ref 42, .int v4, .null, .null]) (st' := [.ref 27, .int x1]) (S' := (M1, L)) rfl ?_
  obtain ⟨P2, hv2, h⟩ := h
  refine V.callVi (T2 := T_TapedLinesModel_output) (As := []) (rest := [.int x1]) rfl rfl g_TapedLinesModel_output rfl rfl rfl rfl (Nat.le_of_ble_eq_true rfl) (by simp [Value.category]) (by simp [Value.category]) (Nat.le_of_ble_eq_true rfl) (Nat.le_refl _) hv2 (fun x2 M2 hq => ?_)
  have h := h x2 M2 hq
  refine V.icmp (cd := .eq) rfl (fun hc => ?_) (fun hc => ?_)
  · have h := h.1 hc
    exact h
  · have h := h.2 hc
    refine V.run 1 (pc' := 531) (ls' := [.ref 50, .ref 0, .ref 27, .ref 42, .int v4, .null, .null]) (st' := [.int (iI 0)]) (S' := (M2, L)) rfl ?_
    exact V.zret rfl rfl (by decide) h
set_option maxRecDepth 100000 in
set_option maxHeartbeats 4000000 in
theorem s_law_532 {l : Launch} {Γ : qG} {d r : Nat} {M : qM} {L : Nat → Int64} {Q : qO → qS → Prop} (v4 : Int32) (h : ∃ P1 : Int32 → qM → Prop, V l Γ T_TapedLines_save d 0 0 [.ref 0] [] (M, L) (q_i L P1) ∧ ∀ (x1 : Int32) (M1 : qM), P1 x1 M1 → ∃ P2 : Int32 → qM → Prop, V l Γ T_TapedLinesModel_save d 0 0 [.ref 27, .null, .null] [] (M1, L) (q_i L P2) ∧ ∀ (x2 : Int32) (M2 : qM), P2 x2 M2 → (x1 = x2 → V l Γ T_law (d + 1) r 781 [.ref 50, .ref 0, .ref 27, .ref 42, .int v4, .null, .null] [] (M2, L) Q) ∧ (¬ x1 = x2 → Q (.inl (some (.int (iI 0)))) (M2, L))) : V l Γ T_law (d + 1) r 532 [.ref 50, .ref 0, .ref 27, .ref 42, .int v4, .null, .null] [] (M, L) Q := by
  refine V.run 1 (pc' := 533) (ls' := [.ref 50, .ref 0, .ref 27, .ref 42, .int v4, .null, .null]) (st' := [.ref 0]) (S' := (M, L)) rfl ?_
  obtain ⟨P1, hv1, h⟩ := h
  refine V.callVi (T2 := T_TapedLines_save) (As := []) (rest := []) rfl rfl g_TapedLines_save rfl rfl rfl rfl (Nat.le_of_ble_eq_true rfl) (by simp [Value.category]) (by simp [Value.category]) (Nat.le_of_ble_eq_true rfl) (Nat.le_refl _) hv1 (fun x1 M1 hq => ?_)
  have h := h x1 M1 hq
  refine V.run 1 (pc' := 537) (ls' := [.ref 50, .ref 0, .ref 27, .ref 42, .int v4, .null, .null]) (st' := [.ref 27, .int x1]) (S' := (M1, L)) rfl ?_
  obtain ⟨P2, hv2, h⟩ := h
  refine V.callVi (T2 := T_TapedLinesModel_save) (As := []) (rest := [.int x1]) rfl rfl g_TapedLinesModel_save rfl rfl rfl rfl (Nat.le_of_ble_eq_true rfl) (by simp [Value.category]) (by simp [Value.category]) (Nat.le_of_ble_eq_true rfl) (Nat.le_refl _) hv2 (fun x2 M2 hq => ?_)
  have h := h x2 M2 hq
  refine V.icmp (cd := .eq) rfl (fun hc => ?_) (fun hc => ?_)
  · have h := h.1 hc
    exact h
  · have h := h.2 hc
    refine V.run 1 (pc' := 544) (ls' := [.ref 50, .ref 0, .ref 27, .ref 42, .int v4, .null, .null]) (st' := [.int (iI 0)]) (S' := (M2, L)) rfl ?_
    exact V.zret rfl rfl (by decide) h
set_option maxRecDepth 100000 in
set_option maxHeartbeats 4000000 in
theorem s_law_545 {l : Launch} {Γ : qG} {d r : Nat} {M : qM} {L : Nat → Int64} {Q : qO → qS → Prop} (v4 : Int32) (h : ∃ P1 : Int32 → qM → Prop, V l Γ T_TapedLines_load d 0 0 [.ref 0, .null] [] (M, L) (q_i L P1) ∧ ∀ (x1 : Int32) (M1 : qM), P1 x1 M1 → ∃ P2 : Int32 → qM → Prop, V l Γ T_TapedLinesModel_load d 0 0 [.ref 27, .null, .null, .null, .null] [] (M1, L) (q_i L P2) ∧ ∀ (x2 : Int32) (M2 : qM), P2 x2 M2 → (x1 = x2 → V l Γ T_law (d + 1) r 781 [.ref 50, .ref 0, .ref 27, .ref 42, .int v4, .null, .null] [] (M2, L) Q) ∧ (¬ x1 = x2 → Q (.inl (some (.int (iI 0)))) (M2, L))) : V l Γ T_law (d + 1) r 545 [.ref 50, .ref 0, .ref 27, .ref 42, .int v4, .null, .null] [] (M, L) Q := by
  refine V.run 1 (pc' := 546) (ls' := [.ref 50, .ref 0, .ref 27, .ref 42, .int v4, .null, .null]) (st' := [.ref 0]) (S' := (M, L)) rfl ?_
  obtain ⟨P1, hv1, h⟩ := h
  refine V.callVi (T2 := T_TapedLines_load) (As := []) (rest := []) rfl rfl g_TapedLines_load rfl rfl rfl rfl (Nat.le_of_ble_eq_true rfl) (by simp [Value.category]) (by simp [Value.category]) (Nat.le_of_ble_eq_true rfl) (Nat.le_refl _) hv1 (fun x1 M1 hq => ?_)
  have h := h x1 M1 hq
  refine V.run 1 (pc' := 550) (ls' := [.ref 50, .ref 0, .ref 27, .ref 42, .int v4, .null, .null]) (st' := [.ref 27, .int x1]) (S' := (M1, L)) rfl ?_
  obtain ⟨P2, hv2, h⟩ := h
  refine V.callVi (T2 := T_TapedLinesModel_load) (As := []) (rest := [.int x1]) rfl rfl g_TapedLinesModel_load rfl rfl rfl rfl (Nat.le_of_ble_eq_true rfl) (by simp [Value.category]) (by simp [Value.category]) (Nat.le_of_ble_eq_true rfl) (Nat.le_refl _) hv2 (fun x2 M2 hq => ?_)
  have h := h x2 M2 hq
  refine V.icmp (cd := .eq) rfl (fun hc => ?_) (fun hc => ?_)
  · have h := h.1 hc
    exact h
  · have h := h.2 hc
    refine V.run 1 (pc' := 557) (ls' := [.ref 50, .ref 0, .ref 27, .ref 42, .int v4, .null, .null]) (st' := [.int (iI 0)]) (S' := (M2, L)) rfl ?_
    exact V.zret rfl rfl (by decide) h
set_option maxRecDepth 100000 in
set_option maxHeartbeats 4000000 in
theorem s_law_558 {l : Launch} {Γ : qG} {d r : Nat} {M : qM} {L : Nat → Int64} {Q : qO → qS → Prop} (v4 : Int32) (h : vp_in (v4 + (iI 1)) Γ.2.2.2.2 ∧ vp_in (v4 + (iI 2)) Γ.2.2.2.2 ∧ ∃ P1 : Int32 → qM → (Nat → Int64) → Prop, VH l Γ T_law_wobble hh_wobble d 1 0 [.ref 0, .int (Γ.2.2.2.1 ((v4 + (iI 1))).toNatClampNeg), .int (Γ.2.2.2.1 ((v4 + (iI 2))).toNatClampNeg), .null] [] (M, L) (q_h P1) ∧ ∀ (x1 : Int32) (M1 : qM) (L1 : Nat → Int64), P1 x1 M1 L1 → vp_in (v4 + (iI 1)) Γ.2.2.2.2 ∧ vp_in (v4 + (iI 2)) Γ.2.2.2.2 ∧ ∃ P2 : qM → Prop, V l Γ T_TapedLinesModel_wobble d 0 0 [.ref 27, .int (Γ.2.2.2.1 ((v4 + (iI 1))).toNatClampNeg), .int (Γ.2.2.2.1 ((v4 + (iI 2))).toNatClampNeg), .null, .null, .null] [] (M1, L1) (q_n L1 P2) ∧ ∀ (M2 : qM), P2 M2 → ∃ P3 : Int32 → qM → Prop, V l Γ T_TapedLinesModel_thrown d 0 0 [.ref 27] [] (M2, L1) (q_i L1 P3) ∧ ∀ (x3 : Int32) (M3 : qM), P3 x3 M3 → (x3 = x1 → V l Γ T_law (d + 1) r 781 [.ref 50, .ref 0, .ref 27, .ref 42, .int v4, .null, .null] [] (M3, L1) Q) ∧ (¬ x3 = x1 → Q (.inl (some (.int (iI 0)))) (M3, L1))) : V l Γ T_law (d + 1) (r + 1) 558 [.ref 50, .ref 0, .ref 27, .ref 42, .int v4, .null, .null] [] (M, L) Q := by
  refine V.run 5 (pc' := 564) (ls' := [.ref 50, .ref 0, .ref 27, .ref 42, .int v4, .null, .null]) (st' := [.int (v4 + (iI 1)), .ref 50, .ref 0]) (S' := (M, L)) rfl ?_
  refine V.sld rfl h.1 ?_
  have h := h.2
  refine V.run 4 (pc' := 570) (ls' := [.ref 50, .ref 0, .ref 27, .ref 42, .int v4, .null, .null]) (st' := [.int (v4 + (iI 2)), .ref 50, .int (Γ.2.2.2.1 ((v4 + (iI 1))).toNatClampNeg), .ref 0]) (S' := (M, L)) rfl ?_
  refine V.sld rfl h.1 ?_
  have h := h.2
  obtain ⟨P1, hv1, h⟩ := h
  refine V.callSHi (n := 3) (T2 := T_law_wobble) (As := [.ref 0, .int (Γ.2.2.2.1 ((v4 + (iI 1))).toNatClampNeg), .int (Γ.2.2.2.1 ((v4 + (iI 2))).toNatClampNeg)]) (rest := []) rfl ok_law_wobble (by decide) cw_law_wobble ⟨(q_w 858 (by decide +kernel)), (q_w 859 (by decide +kernel)), (q_w 93 (by decide +kernel))⟩ (by decide) (by decide +kernel) rfl (Nat.le_of_ble_eq_true rfl) (by decide) (by simp [Value.category]) (by simp [Value.category]) (Nat.le_of_ble_eq_true rfl) (Nat.le_refl _) hv1 (fun x1 M1 L1 hq => ?_)
  have h := h x1 M1 L1 hq
  refine V.run 6 (pc' := 582) (ls' := [.ref 50, .ref 0, .ref 27, .ref 42, .int v4, .int x1, .null]) (st' := [.int (v4 + (iI 1)), .ref 50, .ref 27]) (S' := (M1, L1)) rfl ?_
  refine V.sld rfl h.1 ?_
  have h := h.2
  refine V.run 4 (pc' := 588) (ls' := [.ref 50, .ref 0, .ref 27, .ref 42, .int v4, .int x1, .null]) (st' := [.int (v4 + (iI 2)), .ref 50, .int (Γ.2.2.2.1 ((v4 + (iI 1))).toNatClampNeg), .ref 27]) (S' := (M1, L1)) rfl ?_
  refine V.sld rfl h.1 ?_
  have h := h.2
  obtain ⟨P2, hv2, h⟩ := h
  refine V.callVv (T2 := T_TapedLinesModel_wobble) (As := [.int (Γ.2.2.2.1 ((v4 + (iI 1))).toNatClampNeg), .int (Γ.2.2.2.1 ((v4 + (iI 2))).toNatClampNeg)]) (rest := []) rfl rfl g_TapedLinesModel_wobble rfl rfl rfl rfl (Nat.le_of_ble_eq_true rfl) (by simp [Value.category]) (by simp [Value.category]) (Nat.le_of_ble_eq_true rfl) (Nat.le_refl _) hv2 (fun M2 hq => ?_)
  have h := h M2 hq
  refine V.run 1 (pc' := 593) (ls' := [.ref 50, .ref 0, .ref 27, .ref 42, .int v4, .int x1, .null]) (st' := [.ref 27]) (S' := (M2, L1)) rfl ?_
  obtain ⟨P3, hv3, h⟩ := h
  refine V.callVi (T2 := T_TapedLinesModel_thrown) (As := []) (rest := []) rfl rfl g_TapedLinesModel_thrown rfl rfl rfl rfl (Nat.le_of_ble_eq_true rfl) (by simp [Value.category]) (by simp [Value.category]) (Nat.le_of_ble_eq_true rfl) (Nat.le_refl _) hv3 (fun x3 M3 hq => ?_)
  have h := h x3 M3 hq
  refine V.run 1 (pc' := 598) (ls' := [.ref 50, .ref 0, .ref 27, .ref 42, .int v4, .int x1, .null]) (st' := [.int x1, .int x3]) (S' := (M3, L1)) rfl ?_
  refine V.icmp (cd := .eq) rfl (fun hc => ?_) (fun hc => ?_)
  · have h := h.1 hc
    refine V.run 1 (pc' := 781) (ls' := [.ref 50, .ref 0, .ref 27, .ref 42, .int v4, .int x1, .null]) (st' := []) (S' := (M3, L1)) rfl ?_
    refine V.forget (ls' := [.ref 50, .ref 0, .ref 27, .ref 42, .int v4, .null, .null]) ⟨Or.inr rfl, Or.inr rfl, Or.inr rfl, Or.inr rfl, Or.inr rfl, Or.inl rfl, Or.inl rfl, trivial⟩ ?_
    exact h
  · have h := h.2 hc
    refine V.run 1 (pc' := 602) (ls' := [.ref 50, .ref 0, .ref 27, .ref 42, .int v4, .int x1, .null]) (st' := [.int (iI 0)]) (S' := (M3, L1)) rfl ?_
    exact V.zret rfl rfl (by decide) h
set_option maxRecDepth 100000 in
set_option maxHeartbeats 4000000 in
theorem s_law_606 {l : Launch} {Γ : qG} {d r : Nat} {M : qM} {L : Nat → Int64} {Q : qO → qS → Prop} (v4 : Int32) (h : ∃ P1 : Int32 → qM → Prop, V l Γ T_TapedLines_waves d 0 0 [.ref 0] [] (M, L) (q_i L P1) ∧ ∀ (x1 : Int32) (M1 : qM), P1 x1 M1 → ∃ P2 : Int32 → qM → Prop, V l Γ T_TapedLinesModel_waves d 0 0 [.ref 27] [] (M1, L) (q_i L P2) ∧ ∀ (x2 : Int32) (M2 : qM), P2 x2 M2 → (x1 = x2 → V l Γ T_law (d + 1) r 781 [.ref 50, .ref 0, .ref 27, .ref 42, .int v4, .null, .null] [] (M2, L) Q) ∧ (¬ x1 = x2 → Q (.inl (some (.int (iI 0)))) (M2, L))) : V l Γ T_law (d + 1) r 606 [.ref 50, .ref 0, .ref 27, .ref 42, .int v4, .null, .null] [] (M, L) Q := by
  refine V.run 1 (pc' := 607) (ls' := [.ref 50, .ref 0, .ref 27, .ref 42, .int v4, .null, .null]) (st' := [.ref 0]) (S' := (M, L)) rfl ?_
  obtain ⟨P1, hv1, h⟩ := h
  refine V.callVi (T2 := T_TapedLines_waves) (As := []) (rest := []) rfl rfl g_TapedLines_waves rfl rfl rfl rfl (Nat.le_of_ble_eq_true rfl) (by simp [Value.category]) (by simp [Value.category]) (Nat.le_of_ble_eq_true rfl) (Nat.le_refl _) hv1 (fun x1 M1 hq => ?_)
  have h := h x1 M1 hq
  refine V.run 1 (pc' := 611) (ls' := [.ref 50, .ref 0, .ref 27, .ref 42, .int v4, .null, .null]) (st' := [.ref 27, .int x1]) (S' := (M1, L)) rfl ?_
  obtain ⟨P2, hv2, h⟩ := h
  refine V.callVi (T2 := T_TapedLinesModel_waves) (As := []) (rest := [.int x1]) rfl rfl g_TapedLinesModel_waves rfl rfl rfl rfl (Nat.le_of_ble_eq_true rfl) (by simp [Value.category]) (by simp [Value.category]) (Nat.le_of_ble_eq_true rfl) (Nat.le_refl _) hv2 (fun x2 M2 hq => ?_)
  have h := h x2 M2 hq
  refine V.icmp (cd := .eq) rfl (fun hc => ?_) (fun hc => ?_)
  · have h := h.1 hc
    exact h
  · have h := h.2 hc
    refine V.run 1 (pc' := 618) (ls' := [.ref 50, .ref 0, .ref 27, .ref 42, .int v4, .null, .null]) (st' := [.int (iI 0)]) (S' := (M2, L)) rfl ?_
    exact V.zret rfl rfl (by decide) h
set_option maxRecDepth 100000 in
set_option maxHeartbeats 4000000 in
theorem s_law_619 {l : Launch} {Γ : qG} {d r : Nat} {M : qM} {L : Nat → Int64} {Q : qO → qS → Prop} (v4 : Int32) (h : vp_in (v4 + (iI 1)) Γ.2.2.2.2 ∧ ∃ P1 : Int32 → qM → (Nat → Int64) → Prop, VH l Γ T_law_wave hh_wave d 1 0 [.ref 0, .int (Γ.2.2.2.1 ((v4 + (iI 1))).toNatClampNeg), .ref 42, .null] [] (M, L) (q_h P1) ∧ ∀ (x1 : Int32) (M1 : qM) (L1 : Nat → Int64), P1 x1 M1 L1 → vp_in (v4 + (iI 1)) Γ.2.2.2.2 ∧ ∃ P2 : Int32 → qM → Prop, V l Γ T_TapedLinesModel_wave d 0 0 [.ref 27, .int (Γ.2.2.2.1 ((v4 + (iI 1))).toNatClampNeg)] [] (M1, L1) (q_i L1 P2) ∧ ∀ (x2 : Int32) (M2 : qM), P2 x2 M2 → ∃ P3 : Int32 → qM → Prop, V l Γ T_TapedLinesModel_thrown d 0 0 [.ref 27] [] (M2, L1) (q_i L1 P3) ∧ ∀ (x3 : Int32) (M3 : qM), P3 x3 M3 → (x3 = x1 → (¬ x1 = 0 → V l Γ T_law (d + 1) r 781 [.ref 50, .ref 0, .ref 27, .ref 42, .int v4, .null, .null] [] (M3, L1) Q) ∧ (¬ (¬ x1 = 0) → ((lg_cmp (L1 ((iI 0)).toNatClampNeg) (x2).toInt64) = 0 → V l Γ T_law (d + 1) r 781 [.ref 50, .ref 0, .ref 27, .ref 42, .int v4, .null, .null] [] (M3, L1) Q) ∧ (¬ (lg_cmp (L1 ((iI 0)).toNatClampNeg) (x2).toInt64) = 0 → Q (.inl (some (.int (iI 0)))) (M3, L1)))) ∧ (¬ x3 = x1 → Q (.inl (some (.int (iI 0)))) (M3, L1))) : V l Γ T_law (d + 1) (r + 1) 619 [.ref 50, .ref 0, .ref 27, .ref 42, .int v4, .null, .null] [] (M, L) Q := by
  refine V.run 5 (pc' := 625) (ls' := [.ref 50, .ref 0, .ref 27, .ref 42, .int v4, .null, .null]) (st' := [.int (v4 + (iI 1)), .ref 50, .ref 0]) (S' := (M, L)) rfl ?_
  refine V.sld rfl h.1 ?_
  have h := h.2
  refine V.run 1 (pc' := 627) (ls' := [.ref 50, .ref 0, .ref 27, .ref 42, .int v4, .null, .null]) (st' := [.ref 42, .int (Γ.2.2.2.1 ((v4 + (iI 1))).toNatClampNeg), .ref 0]) (S' := (M, L)) rfl ?_
  obtain ⟨P1, hv1, h⟩ := h
  refine V.callSHi (n := 3) (T2 := T_law_wave) (As := [.ref 0, .int (Γ.2.2.2.1 ((v4 + (iI 1))).toNatClampNeg), .ref 42]) (rest := []) rfl ok_law_wave (by decide) cw_law_wave ⟨(q_w 876 (by decide +kernel)), (q_w 877 (by decide +kernel)), (q_w 93 (by decide +kernel))⟩ (by decide) (by decide +kernel) rfl (Nat.le_of_ble_eq_true rfl) (by decide) (by simp [Value.category]) (by simp [Value.category]) (Nat.le_of_ble_eq_true rfl) (Nat.le_refl _) hv1 (fun x1 M1 L1 hq => ?_)
  have h := h x1 M1 L1 hq
  refine V.run 6 (pc' := 638) (ls' := [.ref 50, .ref 0, .ref 27, .ref 42, .int v4, .int x1, .null]) (st' := [.int (v4 + (iI 1)), .ref 50, .ref 27]) (S' := (M1, L1)) rfl ?_
  refine V.sld rfl h.1 ?_
  have h := h.2
  obtain ⟨P2, hv2, h⟩ := h
  refine V.callVi (T2 := T_TapedLinesModel_wave) (As := [.int (Γ.2.2.2.1 ((v4 + (iI 1))).toNatClampNeg)]) (rest := []) rfl rfl g_TapedLinesModel_wave rfl rfl rfl rfl (Nat.le_of_ble_eq_true rfl) (by simp [Value.category]) (by simp [Value.category]) (Nat.le_of_ble_eq_true rfl) (Nat.le_refl _) hv2 (fun x2 M2 hq => ?_)
  have h := h x2 M2 hq
  refine V.run 2 (pc' := 645) (ls' := [.ref 50, .ref 0, .ref 27, .ref 42, .int v4, .int x1, .int x2]) (st' := [.ref 27]) (S' := (M2, L1)) rfl ?_
  obtain ⟨P3, hv3, h⟩ := h
  refine V.callVi (T2 := T_TapedLinesModel_thrown) (As := []) (rest := []) rfl rfl g_TapedLinesModel_thrown rfl rfl rfl rfl (Nat.le_of_ble_eq_true rfl) (by simp [Value.category]) (by simp [Value.category]) (Nat.le_of_ble_eq_true rfl) (Nat.le_refl _) hv3 (fun x3 M3 hq => ?_)
  have h := h x3 M3 hq
  refine V.run 1 (pc' := 650) (ls' := [.ref 50, .ref 0, .ref 27, .ref 42, .int v4, .int x1, .int x2]) (st' := [.int x1, .int x3]) (S' := (M3, L1)) rfl ?_
  refine V.icmp (cd := .eq) rfl (fun hc => ?_) (fun hc => ?_)
  · have h := h.1 hc
    refine V.run 1 (pc' := 657) (ls' := [.ref 50, .ref 0, .ref 27, .ref 42, .int v4, .int x1, .int x2]) (st' := [.int x1]) (S' := (M3, L1)) rfl ?_
    refine V.ifc (cd := .ne) rfl (fun hc => ?_) (fun hc => ?_)
    · have h := h.1 hc
      refine V.run 1 (pc' := 781) (ls' := [.ref 50, .ref 0, .ref 27, .ref 42, .int v4, .int x1, .int x2]) (st' := []) (S' := (M3, L1)) rfl ?_
      refine V.forget (ls' := [.ref 50, .ref 0, .ref 27, .ref 42, .int v4, .null, .null]) ⟨Or.inr rfl, Or.inr rfl, Or.inr rfl, Or.inr rfl, Or.inr rfl, Or.inl rfl, Or.inl rfl, trivial⟩ ?_
      exact h
    · have h := h.2 hc
      refine V.run 2 (pc' := 662) (ls' := [.ref 50, .ref 0, .ref 27, .ref 42, .int v4, .int x1, .int x2]) (st' := [.int (iI 0), .ref 42]) (S' := (M3, L1)) rfl ?_
      refine V.lald rfl (iI_in (by decide) (by decide) (by decide)) ?_
      refine V.run 1 (pc' := 665) (ls' := [.ref 50, .ref 0, .ref 27, .ref 42, .int v4, .int x1, .int x2]) (st' := [.int x2, .long (L1 ((iI 0)).toNatClampNeg)]) (S' := (M3, L1)) rfl ?_
      refine V.i2l rfl ?_
      refine V.lcmp rfl ?_
      refine V.ifc (cd := .eq) rfl (fun hc => ?_) (fun hc => ?_)
      · have h := h.1 hc
        refine V.run 1 (pc' := 781) (ls' := [.ref 50, .ref 0, .ref 27, .ref 42, .int v4, .int x1, .int x2]) (st' := []) (S' := (M3, L1)) rfl ?_
        refine V.forget (ls' := [.ref 50, .ref 0, .ref 27, .ref 42, .int v4, .null, .null]) ⟨Or.inr rfl, Or.inr rfl, Or.inr rfl, Or.inr rfl, Or.inr rfl, Or.inl rfl, Or.inl rfl, trivial⟩ ?_
        exact h
      · have h := h.2 hc
        refine V.run 1 (pc' := 671) (ls' := [.ref 50, .ref 0, .ref 27, .ref 42, .int v4, .int x1, .int x2]) (st' := [.int (iI 0)]) (S' := (M3, L1)) rfl ?_
        exact V.zret rfl rfl (by decide) h
  · have h := h.2 hc
    refine V.run 1 (pc' := 654) (ls' := [.ref 50, .ref 0, .ref 27, .ref 42, .int v4, .int x1, .int x2]) (st' := [.int (iI 0)]) (S' := (M3, L1)) rfl ?_
    exact V.zret rfl rfl (by decide) h
set_option maxRecDepth 100000 in
set_option maxHeartbeats 4000000 in
theorem s_law_675 {l : Launch} {Γ : qG} {d r : Nat} {M : qM} {L : Nat → Int64} {Q : qO → qS → Prop} (v4 : Int32) (h : vp_in (v4 + (iI 1)) Γ.2.2.2.2 ∧ vp_in (v4 + (iI 2)) Γ.2.2.2.2 ∧ ∃ P1 : Int32 → qM → (Nat → Int64) → Prop, VH l Γ T_law_setWave hh_setWave d 1 0 [.ref 0, .int (Γ.2.2.2.1 ((v4 + (iI 1))).toNatClampNeg), .int (Γ.2.2.2.1 ((v4 + (iI 2))).toNatClampNeg), .ref 42, .null] [] (M, L) (q_h P1) ∧ ∀ (x1 : Int32) (M1 : qM) (L1 : Nat → Int64), P1 x1 M1 L1 → vp_in (v4 + (iI 1)) Γ.2.2.2.2 ∧ vp_in (v4 + (iI 2)) Γ.2.2.2.2 ∧ ∃ P2 : Int32 → qM → Prop, V l Γ T_TapedLinesModel_setWave d 0 0 [.ref 27, .int (Γ.2.2.2.1 ((v4 + (iI 1))).toNatClampNeg), .int (Γ.2.2.2.1 ((v4 + (iI 2))).toNatClampNeg), .null] [] (M1, L1) (q_i L1 P2) ∧ ∀ (x2 : Int32) (M2 : qM), P2 x2 M2 → ∃ P3 : Int32 → qM → Prop, V l Γ T_TapedLinesModel_thrown d 0 0 [.ref 27] [] (M2, L1) (q_i L1 P3) ∧ ∀ (x3 : Int32) (M3 : qM), P3 x3 M3 → (x3 = x1 → (¬ x1 = 0 → V l Γ T_law (d + 1) r 781 [.ref 50, .ref 0, .ref 27, .ref 42, .int v4, .null, .null] [] (M3, L1) Q) ∧ (¬ (¬ x1 = 0) → ((lg_cmp (L1 ((iI 0)).toNatClampNeg) (x2).toInt64) = 0 → V l Γ T_law (d + 1) r 781 [.ref 50, .ref 0, .ref 27, .ref 42, .int v4, .null, .null] [] (M3, L1) Q) ∧ (¬ (lg_cmp (L1 ((iI 0)).toNatClampNeg) (x2).toInt64) = 0 → Q (.inl (some (.int (iI 0)))) (M3, L1)))) ∧ (¬ x3 = x1 → Q (.inl (some (.int (iI 0)))) (M3, L1))) : V l Γ T_law (d + 1) (r + 1) 675 [.ref 50, .ref 0, .ref 27, .ref 42, .int v4, .null, .null] [] (M, L) Q := by
  refine V.run 5 (pc' := 681) (ls' := [.ref 50, .ref 0, .ref 27, .ref 42, .int v4, .null, .null]) (st' := [.int (v4 + (iI 1)), .ref 50, .ref 0]) (S' := (M, L)) rfl ?_
  refine V.sld rfl h.1 ?_
  have h := h.2
  refine V.run 4 (pc' := 687) (ls' := [.ref 50, .ref 0, .ref 27, .ref 42, .int v4, .null, .null]) (st' := [.int (v4 + (iI 2)), .ref 50, .int (Γ.2.2.2.1 ((v4 + (iI 1))).toNatClampNeg), .ref 0]) (S' := (M, L)) rfl ?_
  refine V.sld rfl h.1 ?_
  have h := h.2
  refine V.run 1 (pc' := 689) (ls' := [.ref 50, .ref 0, .ref 27, .ref 42, .int v4, .null, .null]) (st' := [.ref 42, .int (Γ.2.2.2.1 ((v4 + (iI 2))).toNatClampNeg), .int (Γ.2.2.2.1 ((v4 + (iI 1))).toNatClampNeg), .ref 0]) (S' := (M, L)) rfl ?_
  obtain ⟨P1, hv1, h⟩ := h
  refine V.callSHi (n := 4) (T2 := T_law_setWave) (As := [.ref 0, .int (Γ.2.2.2.1 ((v4 + (iI 1))).toNatClampNeg), .int (Γ.2.2.2.1 ((v4 + (iI 2))).toNatClampNeg), .ref 42]) (rest := []) rfl ok_law_setWave (by decide) cw_law_setWave ⟨(q_w 883 (by decide +kernel)), (q_w 884 (by decide +kernel)), (q_w 93 (by decide +kernel))⟩ (by decide) (by decide +kernel) rfl (Nat.le_of_ble_eq_true rfl) (by decide) (by simp [Value.category]) (by simp [Value.category]) (Nat.le_of_ble_eq_true rfl) (Nat.le_refl _) hv1 (fun x1 M1 L1 hq => ?_)
  have h := h x1 M1 L1 hq
  refine V.run 6 (pc' := 700) (ls' := [.ref 50, .ref 0, .ref 27, .ref 42, .int v4, .int x1, .null]) (st' := [.int (v4 + (iI 1)), .ref 50, .ref 27]) (S' := (M1, L1)) rfl ?_
  refine V.sld rfl h.1 ?_
  have h := h.2
  refine V.run 4 (pc' := 706) (ls' := [.ref 50, .ref 0, .ref 27, .ref 42, .int v4, .int x1, .null]) (st' := [.int (v4 + (iI 2)), .ref 50, .int (Γ.2.2.2.1 ((v4 + (iI 1))).toNatClampNeg), .ref 27]) (S' := (M1, L1)) rfl ?_
  refine V.sld rfl h.1 ?_
  have h := h.2
  obtain ⟨P2, hv2, h⟩ := h
  refine V.callVi (T2 := T_TapedLinesModel_setWave) (As := [.int (Γ.2.2.2.1 ((v4 + (iI 1))).toNatClampNeg), .int (Γ.2.2.2.1 ((v4 + (iI 2))).toNatClampNeg)]) (rest := []) rfl rfl g_TapedLinesModel_setWave rfl rfl rfl rfl (Nat.le_of_ble_eq_true rfl) (by simp [Value.category]) (by simp [Value.category]) (Nat.le_of_ble_eq_true rfl) (Nat.le_refl _) hv2 (fun x2 M2 hq => ?_)
  have h := h x2 M2 hq
  refine V.run 2 (pc' := 713) (ls' := [.ref 50, .ref 0, .ref 27, .ref 42, .int v4, .int x1, .int x2]) (st' := [.ref 27]) (S' := (M2, L1)) rfl ?_
  obtain ⟨P3, hv3, h⟩ := h
  refine V.callVi (T2 := T_TapedLinesModel_thrown) (As := []) (rest := []) rfl rfl g_TapedLinesModel_thrown rfl rfl rfl rfl (Nat.le_of_ble_eq_true rfl) (by simp [Value.category]) (by simp [Value.category]) (Nat.le_of_ble_eq_true rfl) (Nat.le_refl _) hv3 (fun x3 M3 hq => ?_)
  have h := h x3 M3 hq
  refine V.run 1 (pc' := 718) (ls' := [.ref 50, .ref 0, .ref 27, .ref 42, .int v4, .int x1, .int x2]) (st' := [.int x1, .int x3]) (S' := (M3, L1)) rfl ?_
  refine V.icmp (cd := .eq) rfl (fun hc => ?_) (fun hc => ?_)
  · have h := h.1 hc
    refine V.run 1 (pc' := 725) (ls' := [.ref 50, .ref 0, .ref 27, .ref 42, .int v4, .int x1, .int x2]) (st' := [.int x1]) (S' := (M3, L1)) rfl ?_
    refine V.ifc (cd := .ne) rfl (fun hc => ?_) (fun hc => ?_)
    · have h := h.1 hc
      refine V.run 1 (pc' := 781) (ls' := [.ref 50, .ref 0, .ref 27, .ref 42, .int v4, .int x1, .int x2]) (st' := []) (S' := (M3, L1)) rfl ?_
      refine V.forget (ls' := [.ref 50, .ref 0, .ref 27, .ref 42, .int v4, .null, .null]) ⟨Or.inr rfl, Or.inr rfl, Or.inr rfl, Or.inr rfl, Or.inr rfl, Or.inl rfl, Or.inl rfl, trivial⟩ ?_
      exact h
    · have h := h.2 hc
      refine V.run 2 (pc' := 730) (ls' := [.ref 50, .ref 0, .ref 27, .ref 42, .int v4, .int x1, .int x2]) (st' := [.int (iI 0), .ref 42]) (S' := (M3, L1)) rfl ?_
      refine V.lald rfl (iI_in (by decide) (by decide) (by decide)) ?_
      refine V.run 1 (pc' := 733) (ls' := [.ref 50, .ref 0, .ref 27, .ref 42, .int v4, .int x1, .int x2]) (st' := [.int x2, .long (L1 ((iI 0)).toNatClampNeg)]) (S' := (M3, L1)) rfl ?_
      refine V.i2l rfl ?_
      refine V.lcmp rfl ?_
      refine V.ifc (cd := .eq) rfl (fun hc => ?_) (fun hc => ?_)
      · have h := h.1 hc
        refine V.run 1 (pc' := 781) (ls' := [.ref 50, .ref 0, .ref 27, .ref 42, .int v4, .int x1, .int x2]) (st' := []) (S' := (M3, L1)) rfl ?_
        refine V.forget (ls' := [.ref 50, .ref 0, .ref 27, .ref 42, .int v4, .null, .null]) ⟨Or.inr rfl, Or.inr rfl, Or.inr rfl, Or.inr rfl, Or.inr rfl, Or.inl rfl, Or.inl rfl, trivial⟩ ?_
        exact h
      · have h := h.2 hc
        refine V.run 1 (pc' := 739) (ls' := [.ref 50, .ref 0, .ref 27, .ref 42, .int v4, .int x1, .int x2]) (st' := [.int (iI 0)]) (S' := (M3, L1)) rfl ?_
        exact V.zret rfl rfl (by decide) h
  · have h := h.2 hc
    refine V.run 1 (pc' := 722) (ls' := [.ref 50, .ref 0, .ref 27, .ref 42, .int v4, .int x1, .int x2]) (st' := [.int (iI 0)]) (S' := (M3, L1)) rfl ?_
    exact V.zret rfl rfl (by decide) h
set_option maxRecDepth 100000 in
set_option maxHeartbeats 4000000 in
theorem s_law_743 {l : Launch} {Γ : qG} {d r : Nat} {M : qM} {L : Nat → Int64} {Q : qO → qS → Prop} (v4 : Int32) (h : ∃ P1 : Int32 → qM → Prop, V l Γ T_TapedLines_length d 0 0 [.ref 0] [] (M, L) (q_i L P1) ∧ ∀ (x1 : Int32) (M1 : qM), P1 x1 M1 → ∃ P2 : Int32 → qM → Prop, V l Γ T_TapedLinesModel_length d 0 0 [.ref 27] [] (M1, L) (q_i L P2) ∧ ∀ (x2 : Int32) (M2 : qM), P2 x2 M2 → (x1 = x2 → V l Γ T_law (d + 1) r 781 [.ref 50, .ref 0, .ref 27, .ref 42, .int v4, .null, .null] [] (M2, L) Q) ∧ (¬ x1 = x2 → Q (.inl (some (.int (iI 0)))) (M2, L))) : V l Γ T_law (d + 1) r 743 [.ref 50, .ref 0, .ref 27, .ref 42, .int v4, .null, .null] [] (M, L) Q := by
  refine V.run 1 (pc' := 744) (ls' := [.ref 50, .ref 0, .ref 27, .ref 42, .int v4, .null, .null]) (st' := [.ref 0]) (S' := (M, L)) rfl ?_
  obtain ⟨P1, hv1, h⟩ := h
  refine V.callVi (T2 := T_TapedLines_length) (As := []) (rest := []) rfl rfl g_TapedLines_length rfl rfl rfl rfl (Nat.le_of_ble_eq_true rfl) (by simp [Value.category]) (by simp [Value.category]) (Nat.le_of_ble_eq_true rfl) (Nat.le_refl _) hv1 (fun x1 M1 hq => ?_)
  have h := h x1 M1 hq
  refine V.run 1 (pc' := 748) (ls' := [.ref 50, .ref 0, .ref 27, .ref 42, .int v4, .null, .null]) (st' := [.ref 27, .int x1]) (S' := (M1, L)) rfl ?_
  obtain ⟨P2, hv2, h⟩ := h
  refine V.callVi (T2 := T_TapedLinesModel_length) (As := []) (rest := [.int x1]) rfl rfl g_TapedLinesModel_length rfl rfl rfl rfl (Nat.le_of_ble_eq_true rfl) (by simp [Value.category]) (by simp [Value.category]) (Nat.le_of_ble_eq_true rfl) (Nat.le_refl _) hv2 (fun x2 M2 hq => ?_)
  have h := h x2 M2 hq
  refine V.icmp (cd := .eq) rfl (fun hc => ?_) (fun hc => ?_)
  · have h := h.1 hc
    exact h
  · have h := h.2 hc
    refine V.run 1 (pc' := 755) (ls' := [.ref 50, .ref 0, .ref 27, .ref 42, .int v4, .null, .null]) (st' := [.int (iI 0)]) (S' := (M2, L)) rfl ?_
    exact V.zret rfl rfl (by decide) h
set_option maxRecDepth 100000 in
set_option maxHeartbeats 4000000 in
theorem s_law_756 {l : Launch} {Γ : qG} {d r : Nat} {M : qM} {L : Nat → Int64} {Q : qO → qS → Prop} (v4 : Int32) (h : vp_in (v4 + (iI 1)) Γ.2.2.2.2 ∧ ∃ P1 : Int32 → qM → Prop, V l Γ T_TapedLines_charAt d 0 0 [.ref 0, .int (Γ.2.2.2.1 ((v4 + (iI 1))).toNatClampNeg)] [] (M, L) (q_i L P1) ∧ ∀ (x1 : Int32) (M1 : qM), P1 x1 M1 → vp_in (v4 + (iI 1)) Γ.2.2.2.2 ∧ ∃ P2 : Int32 → qM → Prop, V l Γ T_TapedLinesModel_charAt d 0 0 [.ref 27, .int (Γ.2.2.2.1 ((v4 + (iI 1))).toNatClampNeg)] [] (M1, L) (q_i L P2) ∧ ∀ (x2 : Int32) (M2 : qM), P2 x2 M2 → (x1 = x2 → V l Γ T_law (d + 1) r 781 [.ref 50, .ref 0, .ref 27, .ref 42, .int v4, .null, .null] [] (M2, L) Q) ∧ (¬ x1 = x2 → Q (.inl (some (.int (iI 0)))) (M2, L))) : V l Γ T_law (d + 1) r 756 [.ref 50, .ref 0, .ref 27, .ref 42, .int v4, .null, .null] [] (M, L) Q := by
  refine V.run 5 (pc' := 762) (ls' := [.ref 50, .ref 0, .ref 27, .ref 42, .int v4, .null, .null]) (st' := [.int (v4 + (iI 1)), .ref 50, .ref 0]) (S' := (M, L)) rfl ?_
  refine V.sld rfl h.1 ?_
  have h := h.2
  obtain ⟨P1, hv1, h⟩ := h
  refine V.callVi (T2 := T_TapedLines_charAt) (As := [.int (Γ.2.2.2.1 ((v4 + (iI 1))).toNatClampNeg)]) (rest := []) rfl rfl g_TapedLines_charAt rfl rfl rfl rfl (Nat.le_of_ble_eq_true rfl) (by simp [Value.category]) (by simp [Value.category]) (Nat.le_of_ble_eq_true rfl) (Nat.le_refl _) hv1 (fun x1 M1 hq => ?_)
  have h := h x1 M1 hq
  refine V.run 5 (pc' := 772) (ls' := [.ref 50, .ref 0, .ref 27, .ref 42, .int v4, .null, .null]) (st' := [.int (v4 + (iI 1)), .ref 50, .ref 27, .int x1]) (S' := (M1, L)) rfl ?_
  refine V.sld rfl h.1 ?_
  have h := h.2
  obtain ⟨P2, hv2, h⟩ := h
  refine V.callVi (T2 := T_TapedLinesModel_charAt) (As := [.int (Γ.2.2.2.1 ((v4 + (iI 1))).toNatClampNeg)]) (rest := [.int x1]) rfl rfl g_TapedLinesModel_charAt rfl rfl rfl rfl (Nat.le_of_ble_eq_true rfl) (by simp [Value.category]) (by simp [Value.category]) (Nat.le_of_ble_eq_true rfl) (Nat.le_refl _) hv2 (fun x2 M2 hq => ?_)
  have h := h x2 M2 hq
  refine V.icmp (cd := .eq) rfl (fun hc => ?_) (fun hc => ?_)
  · have h := h.1 hc
    exact h
  · have h := h.2 hc
    refine V.run 1 (pc' := 780) (ls' := [.ref 50, .ref 0, .ref 27, .ref 42, .int v4, .null, .null]) (st' := [.int (iI 0)]) (S' := (M2, L)) rfl ?_
    exact V.zret rfl rfl (by decide) h
set_option maxRecDepth 100000 in
set_option maxHeartbeats 4000000 in
theorem s_law_781 {l : Launch} {Γ : qG} {d r : Nat} {M : qM} {L : Nat → Int64} {Q : qO → qS → Prop} (v4 : Int32) (h : V l Γ T_law (d + 1) r 23 [.ref 50, .ref 0, .ref 27, .ref 42, .int (v4 + (iI 3)), .null, .null] [] (M, L) Q) : V l Γ T_law (d + 1) r 781 [.ref 50, .ref 0, .ref 27, .ref 42, .int v4, .null, .null] [] (M, L) Q := by
  refine V.run 2 (pc' := 23) (ls' := [.ref 50, .ref 0, .ref 27, .ref 42, .int (v4 + (iI 3)), .null, .null]) (st' := []) (S' := (M, L)) rfl ?_
  exact h
