/-! ===== the law: its body from the loop on ===== -/
def kl_head : List Op := [(23, .iload 4, []), (25, .aload_n 0, []), (26, .arraylength, [2]), (27, .bipush 6, []), (29, .isub, []), (30, .if_icmp .gt 1405, [1435]), (33, .aload_n 0, []), (34, .iload 4, []), (36, .iaload, [2]), (37, .bipush 63, []), (39, .iand, []), (40, .tableswitch 1389 0 39 #[176, 249, 274, 287, 300, 337, 405, 442, 467, 492, 541, 566, 591, 616, 629, 666, 691, 759, 784, 864, 889, 914, 951, 964, 1001, 1038, 1063, 1076, 1101, 1114, 1127, 1140, 1177, 1226, 1251, 1276, 1289, 1314, 1339, 1364], [1429, 216, 289, 314, 327, 340, 377, 445, 482, 507, 532, 581, 606, 631, 656, 669, 706, 731, 799, 824, 904, 929, 954, 991, 1004, 1041, 1078, 1103, 1116, 1141, 1154, 1167, 1180, 1217, 1266, 1291, 1316, 1329, 1354, 1379, 1404]), (1435, .iconst 1, []), (1436, .ireturn, [1]), (216, .nop, [0, 1, 2, 3, 4]), (289, .nop, [0, 1, 2, 3, 4]), (314, .nop, [0, 1, 2, 3, 4]), (327, .nop, [0, 1, 2, 3, 4]), (340, .nop, [0, 1, 2, 3, 4]), (377, .nop, [0, 1, 2, 3, 4]), (445, .nop, [0, 1, 2, 3, 4]), (482, .nop, [0, 1, 2, 3, 4]), (507, .nop, [0, 1, 2, 3, 4]), (532, .nop, [0, 1, 2, 3, 4]), (581, .nop, [0, 1, 2, 3, 4]), (606, .nop, [0, 1, 2, 3, 4]), (631, .nop, [0, 1, 2, 3, 4]), (656, .nop, [0, 1, 2, 3, 4]), (669, .nop, [0, 1, 2, 3, 4]), (706, .nop, [0, 1, 2, 3, 4]), (731, .nop, [0, 1, 2, 3, 4]), (799, .nop, [0, 1, 2, 3, 4]), (824, .nop, [0, 1, 2, 3, 4]), (904, .nop, [0, 1, 2, 3, 4]), (929, .nop, [0, 1, 2, 3, 4]), (954, .nop, [0, 1, 2, 3, 4]), (991, .nop, [0, 1, 2, 3, 4]), (1004, .nop, [0, 1, 2, 3, 4]), (1041, .nop, [0, 1, 2, 3, 4]), (1078, .nop, [0, 1, 2, 3, 4]), (1103, .nop, [0, 1, 2, 3, 4]), (1116, .nop, [0, 1, 2, 3, 4]), (1141, .nop, [0, 1, 2, 3, 4]), (1154, .nop, [0, 1, 2, 3, 4]), (1167, .nop, [0, 1, 2, 3, 4]), (1180, .nop, [0, 1, 2, 3, 4]), (1217, .nop, [0, 1, 2, 3, 4]), (1266, .nop, [0, 1, 2, 3, 4]), (1291, .nop, [0, 1, 2, 3, 4]), (1316, .nop, [0, 1, 2, 3, 4]), (1329, .nop, [0, 1, 2, 3, 4]), (1354, .nop, [0, 1, 2, 3, 4]), (1379, .nop, [0, 1, 2, 3, 4]), (1404, .nop, [0, 1, 2, 3, 4]), (1429, .nop, [0, 1, 2, 3, 4])]
set_option maxRecDepth 100000 in
theorem ok_kl_head : chkJ true 278 14 kl_head = true := by decide +kernel
def kl_inc : List Op := [(1429, .iinc 4 6, []), (1432, .goto (-1409), [23]), (23, .nop, [0, 1, 2, 3, 4])]
set_option maxRecDepth 100000 in
theorem ok_kl_inc : chkJ true 278 14 kl_inc = true := by decide +kernel
def kl_0 : List Op := [(216, .aload_n 1, []), (217, .aload_n 0, []), (218, .iload 4, []), (220, .iconst 1, []), (221, .iadd, []), (222, .iaload, [2]), (223, .aload_n 0, []), (224, .iload 4, []), (226, .iconst 2, []), (227, .iadd, []), (228, .iaload, [2]), (229, .aload_n 0, []), (230, .iload 4, []), (232, .iconst 3, []), (233, .iadd, []), (234, .iaload, [2]), (235, .aload_n 0, []), (236, .iload 4, []), (238, .iconst 4, []), (239, .iadd, []), (240, .iaload, [2]), (241, .aload_n 0, []), (242, .iload 4, []), (244, .iconst 5, []), (245, .iadd, []), (246, .iaload, [2]), (247, .invokevirtual 26, [1, 0, 5, 1, 11]), (250, .aload_n 2, []), (251, .aload_n 0, []), (252, .iload 4, []), (254, .iconst 1, []), (255, .iadd, []), (256, .iaload, [2]), (257, .aload_n 0, []), (258, .iload 4, []), (260, .iconst 2, []), (261, .iadd, []), (262, .iaload, [2]), (263, .aload_n 0, []), (264, .iload 4, []), (266, .iconst 3, []), (267, .iadd, []), (268, .iaload, [2]), (269, .aload_n 0, []), (270, .iload 4, []), (272, .iconst 4, []), (273, .iadd, []), (274, .iaload, [2]), (275, .aload_n 0, []), (276, .iload 4, []), (278, .iconst 5, []), (279, .iadd, []), (280, .iaload, [2]), (281, .invokevirtual 30, [1, 53, 5, 1, 12]), (284, .if_icmp .eq 1145, [1429]), (287, .iconst 0, []), (288, .ireturn, [1]), (1429, .nop, [0, 1, 2, 3, 4])]
set_option maxRecDepth 100000 in
theorem ok_kl_0 : chkJ true 278 14 kl_0 = true := by decide +kernel
def kl_1 : List Op := [(289, .aload_n 1, []), (290, .aload_n 0, []), (291, .iload 4, []), (293, .iconst 1, []), (294, .iadd, []), (295, .iaload, [2]), (296, .invokevirtual 31, [1, 1, 1, 1, 11]), (299, .aload_n 2, []), (300, .aload_n 0, []), (301, .iload 4, []), (303, .iconst 1, []), (304, .iadd, []), (305, .iaload, [2]), (306, .invokevirtual 35, [1, 55, 1, 1, 12]), (309, .if_icmp .eq 1120, [1429]), (312, .iconst 0, []), (313, .ireturn, [1]), (1429, .nop, [0, 1, 2, 3, 4])]
set_option maxRecDepth 100000 in
theorem ok_kl_1 : chkJ true 278 14 kl_1 = true := by decide +kernel
def kl_2 : List Op := [(314, .aload_n 1, []), (315, .invokevirtual 36, [1, 2, 0, 1, 11]), (318, .aload_n 2, []), (319, .invokevirtual 40, [1, 84, 0, 1, 12]), (322, .if_icmp .eq 1107, [1429]), (325, .iconst 0, []), (326, .ireturn, [1]), (1429, .nop, [0, 1, 2, 3, 4])]
set_option maxRecDepth 100000 in
theorem ok_kl_2 : chkJ true 278 14 kl_2 = true := by decide +kernel
def kl_3 : List Op := [(327, .aload_n 1, []), (328, .invokevirtual 41, [1, 3, 0, 1, 11]), (331, .aload_n 2, []), (332, .invokevirtual 44, [1, 85, 0, 1, 12]), (335, .if_icmp .eq 1094, [1429]), (338, .iconst 0, []), (339, .ireturn, [1]), (1429, .nop, [0, 1, 2, 3, 4])]
set_option maxRecDepth 100000 in
theorem ok_kl_3 : chkJ true 278 14 kl_3 = true := by decide +kernel
def kl_4 : List Op := [(340, .aload_n 1, []), (341, .aload_n 0, []), (342, .iload 4, []), (344, .iconst 1, []), (345, .iadd, []), (346, .iaload, [2]), (347, .aload_n 0, []), (348, .iload 4, []), (350, .iconst 2, []), (351, .iadd, []), (352, .iaload, [2]), (353, .invokevirtual 45, [1, 4, 2, 1, 11]), (356, .aload_n 2, []), (357, .aload_n 0, []), (358, .iload 4, []), (360, .iconst 1, []), (361, .iadd, []), (362, .iaload, [2]), (363, .aload_n 0, []), (364, .iload 4, []), (366, .iconst 2, []), (367, .iadd, []), (368, .iaload, [2]), (369, .invokevirtual 48, [1, 96, 2, 1, 12]), (372, .if_icmp .eq 1057, [1429]), (375, .iconst 0, []), (376, .ireturn, [1]), (1429, .nop, [0, 1, 2, 3, 4])]
set_option maxRecDepth 100000 in
theorem ok_kl_4 : chkJ true 278 14 kl_4 = true := by decide +kernel
def kl_5 : List Op := [(377, .aload_n 1, []), (378, .aload_n 0, []), (379, .iload 4, []), (381, .iconst 1, []), (382, .iadd, []), (383, .iaload, [2]), (384, .aload_n 0, []), (385, .iload 4, []), (387, .iconst 2, []), (388, .iadd, []), (389, .iaload, [2]), (390, .aload_n 3, []), (391, .invokestatic 49, [11, 275, 4, 1]), (394, .istore 5, []), (396, .aload_n 2, []), (397, .aload_n 0, []), (398, .iload 4, []), (400, .iconst 1, []), (401, .iadd, []), (402, .iaload, [2]), (403, .aload_n 0, []), (404, .iload 4, []), (406, .iconst 2, []), (407, .iadd, []), (408, .iaload, [2]), (409, .invokevirtual 54, [1, 97, 2, 1, 12]), (412, .istore 6, []), (414, .aload_n 2, []), (415, .invokevirtual 55, [1, 51, 0, 1, 12]), (418, .iload 5, []), (420, .if_icmp .eq 5, [425]), (423, .iconst 0, []), (424, .ireturn, [1]), (425, .iload 5, []), (427, .ifCond .ne 15, [442]), (430, .aload_n 3, []), (431, .iconst 0, []), (432, .laload, []), (433, .iload 6, []), (435, .i2l, []), (436, .lcmp, []), (437, .ifCond .eq 5, [442]), (440, .iconst 0, []), (441, .ireturn, [1]), (442, .goto 987, [1429]), (1429, .nop, [0, 1, 2, 3, 4])]
set_option maxRecDepth 100000 in
theorem ok_kl_5 : chkJ true 278 14 kl_5 = true := by decide +kernel
def kl_6 : List Op := [(445, .aload_n 1, []), (446, .aload_n 0, []), (447, .iload 4, []), (449, .iconst 1, []), (450, .iadd, []), (451, .iaload, [2]), (452, .aload_n 0, []), (453, .iload 4, []), (455, .iconst 2, []), (456, .iadd, []), (457, .iaload, [2]), (458, .invokevirtual 58, [1, 6, 2, 1, 11]), (461, .aload_n 2, []), (462, .aload_n 0, []), (463, .iload 4, []), (465, .iconst 1, []), (466, .iadd, []), (467, .iaload, [2]), (468, .aload_n 0, []), (469, .iload 4, []), (471, .iconst 2, []), (472, .iadd, []), (473, .iaload, [2]), (474, .invokevirtual 61, [1, 98, 2, 1, 12]), (477, .if_icmp .eq 952, [1429]), (480, .iconst 0, []), (481, .ireturn, [1]), (1429, .nop, [0, 1, 2, 3, 4])]
set_option maxRecDepth 100000 in
theorem ok_kl_6 : chkJ true 278 14 kl_6 = true := by decide +kernel
def kl_7 : List Op := [(482, .aload_n 1, []), (483, .aload_n 0, []), (484, .iload 4, []), (486, .iconst 1, []), (487, .iadd, []), (488, .iaload, [2]), (489, .invokevirtual 62, [1, 7, 1, 1, 11]), (492, .aload_n 2, []), (493, .aload_n 0, []), (494, .iload 4, []), (496, .iconst 1, []), (497, .iadd, []), (498, .iaload, [2]), (499, .invokevirtual 66, [1, 101, 1, 1, 12]), (502, .if_icmp .eq 927, [1429]), (505, .iconst 0, []), (506, .ireturn, [1]), (1429, .nop, [0, 1, 2, 3, 4])]
set_option maxRecDepth 100000 in
theorem ok_kl_7 : chkJ true 278 14 kl_7 = true := by decide +kernel
def kl_8 : List Op := [(507, .aload_n 1, []), (508, .aload_n 0, []), (509, .iload 4, []), (511, .iconst 1, []), (512, .iadd, []), (513, .iaload, [2]), (514, .invokevirtual 67, [1, 8, 1, 1, 11]), (517, .aload_n 2, []), (518, .aload_n 0, []), (519, .iload 4, []), (521, .iconst 1, []), (522, .iadd, []), (523, .iaload, [2]), (524, .invokevirtual 70, [1, 102, 1, 1, 12]), (527, .if_icmp .eq 902, [1429]), (530, .iconst 0, []), (531, .ireturn, [1]), (1429, .nop, [0, 1, 2, 3, 4])]
set_option maxRecDepth 100000 in
theorem ok_kl_8 : chkJ true 278 14 kl_8 = true := by decide +kernel
def kl_9 : List Op := [(532, .aload_n 1, []), (533, .aload_n 0, []), (534, .iload 4, []), (536, .iconst 1, []), (537, .iadd, []), (538, .iaload, [2]), (539, .aload_n 0, []), (540, .iload 4, []), (542, .iconst 2, []), (543, .iadd, []), (544, .iaload, [2]), (545, .aload_n 0, []), (546, .iload 4, []), (548, .iconst 3, []), (549, .iadd, []), (550, .iaload, [2]), (551, .invokevirtual 71, [1, 9, 3, 1, 11]), (554, .aload_n 2, []), (555, .aload_n 0, []), (556, .iload 4, []), (558, .iconst 1, []), (559, .iadd, []), (560, .iaload, [2]), (561, .aload_n 0, []), (562, .iload 4, []), (564, .iconst 2, []), (565, .iadd, []), (566, .iaload, [2]), (567, .aload_n 0, []), (568, .iload 4, []), (570, .iconst 3, []), (571, .iadd, []), (572, .iaload, [2]), (573, .invokevirtual 74, [1, 113, 3, 1, 12]), (576, .if_icmp .eq 853, [1429]), (579, .iconst 0, []), (580, .ireturn, [1]), (1429, .nop, [0, 1, 2, 3, 4])]
set_option maxRecDepth 100000 in
theorem ok_kl_9 : chkJ true 278 14 kl_9 = true := by decide +kernel
def kl_10 : List Op := [(581, .aload_n 1, []), (582, .aload_n 0, []), (583, .iload 4, []), (585, .iconst 1, []), (586, .iadd, []), (587, .iaload, [2]), (588, .invokevirtual 75, [1, 10, 1, 1, 11]), (591, .aload_n 2, []), (592, .aload_n 0, []), (593, .iload 4, []), (595, .iconst 1, []), (596, .iadd, []), (597, .iaload, [2]), (598, .invokevirtual 78, [1, 114, 1, 1, 12]), (601, .if_icmp .eq 828, [1429]), (604, .iconst 0, []), (605, .ireturn, [1]), (1429, .nop, [0, 1, 2, 3, 4])]
set_option maxRecDepth 100000 in
theorem ok_kl_10 : chkJ true 278 14 kl_10 = true := by decide +kernel
def kl_11 : List Op := [(606, .aload_n 1, []), (607, .aload_n 0, []), (608, .iload 4, []), (610, .iconst 1, []), (611, .iadd, []), (612, .iaload, [2]), (613, .invokevirtual 79, [1, 11, 1, 1, 11]), (616, .aload_n 2, []), (617, .aload_n 0, []), (618, .iload 4, []), (620, .iconst 1, []), (621, .iadd, []), (622, .iaload, [2]), (623, .invokevirtual 82, [1, 115, 1, 1, 12]), (626, .if_icmp .eq 803, [1429]), (629, .iconst 0, []), (630, .ireturn, [1]), (1429, .nop, [0, 1, 2, 3, 4])]
set_option maxRecDepth 100000 in
theorem ok_kl_11 : chkJ true 278 14 kl_11 = true := by decide +kernel
def kl_12 : List Op := [(631, .aload_n 1, []), (632, .aload_n 0, []), (633, .iload 4, []), (635, .iconst 1, []), (636, .iadd, []), (637, .iaload, [2]), (638, .invokevirtual 83, [1, 12, 1, 1, 11]), (641, .aload_n 2, []), (642, .aload_n 0, []), (643, .iload 4, []), (645, .iconst 1, []), (646, .iadd, []), (647, .iaload, [2]), (648, .invokevirtual 86, [1, 116, 1, 1, 12]), (651, .if_icmp .eq 778, [1429]), (654, .iconst 0, []), (655, .ireturn, [1]), (1429, .nop, [0, 1, 2, 3, 4])]
set_option maxRecDepth 100000 in
theorem ok_kl_12 : chkJ true 278 14 kl_12 = true := by decide +kernel
def kl_13 : List Op := [(656, .aload_n 1, []), (657, .invokevirtual 87, [1, 13, 0, 1, 11]), (660, .aload_n 2, []), (661, .invokevirtual 90, [1, 118, 0, 1, 12]), (664, .if_icmp .eq 765, [1429]), (667, .iconst 0, []), (668, .ireturn, [1]), (1429, .nop, [0, 1, 2, 3, 4])]
set_option maxRecDepth 100000 in
theorem ok_kl_13 : chkJ true 278 14 kl_13 = true := by decide +kernel
def kl_14 : List Op := [(669, .aload_n 1, []), (670, .aload_n 0, []), (671, .iload 4, []), (673, .iconst 1, []), (674, .iadd, []), (675, .iaload, [2]), (676, .aload_n 0, []), (677, .iload 4, []), (679, .iconst 2, []), (680, .iadd, []), (681, .iaload, [2]), (682, .invokevirtual 91, [1, 14, 2, 1, 11]), (685, .aload_n 2, []), (686, .aload_n 0, []), (687, .iload 4, []), (689, .iconst 1, []), (690, .iadd, []), (691, .iaload, [2]), (692, .aload_n 0, []), (693, .iload 4, []), (695, .iconst 2, []), (696, .iadd, []), (697, .iaload, [2]), (698, .invokevirtual 94, [1, 121, 2, 1, 12]), (701, .if_icmp .eq 728, [1429]), (704, .iconst 0, []), (705, .ireturn, [1]), (1429, .nop, [0, 1, 2, 3, 4])]
set_option maxRecDepth 100000 in
theorem ok_kl_14 : chkJ true 278 14 kl_14 = true := by decide +kernel
def kl_15 : List Op := [(706, .aload_n 1, []), (707, .aload_n 0, []), (708, .iload 4, []), (710, .iconst 1, []), (711, .iadd, []), (712, .iaload, [2]), (713, .invokevirtual 95, [1, 15, 1, 1, 11]), (716, .aload_n 2, []), (717, .aload_n 0, []), (718, .iload 4, []), (720, .iconst 1, []), (721, .iadd, []), (722, .iaload, [2]), (723, .invokevirtual 98, [1, 122, 1, 1, 12]), (726, .if_icmp .eq 703, [1429]), (729, .iconst 0, []), (730, .ireturn, [1]), (1429, .nop, [0, 1, 2, 3, 4])]
set_option maxRecDepth 100000 in
theorem ok_kl_15 : chkJ true 278 14 kl_15 = true := by decide +kernel
def kl_16 : List Op := [(731, .aload_n 1, []), (732, .aload_n 0, []), (733, .iload 4, []), (735, .iconst 1, []), (736, .iadd, []), (737, .iaload, [2]), (738, .aload_n 0, []), (739, .iload 4, []), (741, .iconst 2, []), (742, .iadd, []), (743, .iaload, [2]), (744, .aload_n 3, []), (745, .invokestatic 99, [11, 276, 4, 1]), (748, .istore 5, []), (750, .aload_n 2, []), (751, .aload_n 0, []), (752, .iload 4, []), (754, .iconst 1, []), (755, .iadd, []), (756, .iaload, [2]), (757, .aload_n 0, []), (758, .iload 4, []), (760, .iconst 2, []), (761, .iadd, []), (762, .iaload, [2]), (763, .invokevirtual 101, [1, 127, 2, 1, 12]), (766, .istore 6, []), (768, .aload_n 2, []), (769, .invokevirtual 55, [1, 51, 0, 1, 12]), (772, .iload 5, []), (774, .if_icmp .eq 5, [779]), (777, .iconst 0, []), (778, .ireturn, [1]), (779, .iload 5, []), (781, .ifCond .ne 15, [796]), (784, .aload_n 3, []), (785, .iconst 0, []), (786, .laload, []), (787, .iload 6, []), (789, .i2l, []), (790, .lcmp, []), (791, .ifCond .eq 5, [796]), (794, .iconst 0, []), (795, .ireturn, [1]), (796, .goto 633, [1429]), (1429, .nop, [0, 1, 2, 3, 4])]
set_option maxRecDepth 100000 in
theorem ok_kl_16 : chkJ true 278 14 kl_16 = true := by decide +kernel
def kl_17 : List Op := [(799, .aload_n 1, []), (800, .aload_n 0, []), (801, .iload 4, []), (803, .iconst 1, []), (804, .iadd, []), (805, .iaload, [2]), (806, .invokevirtual 102, [1, 17, 1, 1, 11]), (809, .aload_n 2, []), (810, .aload_n 0, []), (811, .iload 4, []), (813, .iconst 1, []), (814, .iadd, []), (815, .iaload, [2]), (816, .invokevirtual 105, [1, 128, 1, 1, 12]), (819, .if_icmp .eq 610, [1429]), (822, .iconst 0, []), (823, .ireturn, [1]), (1429, .nop, [0, 1, 2, 3, 4])]
set_option maxRecDepth 100000 in
theorem ok_kl_17 : chkJ true 278 14 kl_17 = true := by decide +kernel
def kl_18 : List Op := [(824, .aload_n 1, []), (825, .aload_n 0, []), (826, .iload 4, []), (828, .iconst 1, []), (829, .iadd, []), (830, .iaload, [2]), (831, .aload_n 0, []), (832, .iload 4, []), (834, .iconst 2, []), (835, .iadd, []), (836, .iaload, [2]), (837, .aload_n 0, []), (838, .iload 4, []), (840, .iconst 3, []), (841, .iadd, []), (842, .iaload, [2]), (843, .aload_n 3, []), (844, .invokestatic 106, [11, 277, 5, 1]), (847, .istore 5, []), (849, .aload_n 2, []), (850, .aload_n 0, []), (851, .iload 4, []), (853, .iconst 1, []), (854, .iadd, []), (855, .iaload, [2]), (856, .aload_n 0, []), (857, .iload 4, []), (859, .iconst 2, []), (860, .iadd, []), (861, .iaload, [2]), (862, .aload_n 0, []), (863, .iload 4, []), (865, .iconst 3, []), (866, .iadd, []), (867, .iaload, [2]), (868, .invokevirtual 109, [1, 129, 3, 1, 12]), (871, .istore 6, []), (873, .aload_n 2, []), (874, .invokevirtual 55, [1, 51, 0, 1, 12]), (877, .iload 5, []), (879, .if_icmp .eq 5, [884]), (882, .iconst 0, []), (883, .ireturn, [1]), (884, .iload 5, []), (886, .ifCond .ne 15, [901]), (889, .aload_n 3, []), (890, .iconst 0, []), (891, .laload, []), (892, .iload 6, []), (894, .i2l, []), (895, .lcmp, []), (896, .ifCond .eq 5, [901]), (899, .iconst 0, []), (900, .ireturn, [1]), (901, .goto 528, [1429]), (1429, .nop, [0, 1, 2, 3, 4])]
set_option maxRecDepth 100000 in
theorem ok_kl_18 : chkJ true 278 14 kl_18 = true := by decide +kernel
def kl_19 : List Op := [(904, .aload_n 1, []), (905, .aload_n 0, []), (906, .iload 4, []), (908, .iconst 1, []), (909, .iadd, []), (910, .iaload, [2]), (911, .invokevirtual 110, [1, 19, 1, 1, 11]), (914, .aload_n 2, []), (915, .aload_n 0, []), (916, .iload 4, []), (918, .iconst 1, []), (919, .iadd, []), (920, .iaload, [2]), (921, .invokevirtual 113, [1, 131, 1, 1, 12]), (924, .if_icmp .eq 505, [1429]), (927, .iconst 0, []), (928, .ireturn, [1]), (1429, .nop, [0, 1, 2, 3, 4])]
set_option maxRecDepth 100000 in
theorem ok_kl_19 : chkJ true 278 14 kl_19 = true := by decide +kernel
def kl_20 : List Op := [(929, .aload_n 1, []), (930, .aload_n 0, []), (931, .iload 4, []), (933, .iconst 1, []), (934, .iadd, []), (935, .iaload, [2]), (936, .invokevirtual 114, [1, 21, 1, 1, 11]), (939, .aload_n 2, []), (940, .aload_n 0, []), (941, .iload 4, []), (943, .iconst 1, []), (944, .iadd, []), (945, .iaload, [2]), (946, .invokevirtual 117, [1, 132, 1, 1, 12]), (949, .if_icmp .eq 480, [1429]), (952, .iconst 0, []), (953, .ireturn, [1]), (1429, .nop, [0, 1, 2, 3, 4])]
set_option maxRecDepth 100000 in
theorem ok_kl_20 : chkJ true 278 14 kl_20 = true := by decide +kernel
def kl_21 : List Op := [(954, .aload_n 1, []), (955, .aload_n 0, []), (956, .iload 4, []), (958, .iconst 1, []), (959, .iadd, []), (960, .iaload, [2]), (961, .aload_n 0, []), (962, .iload 4, []), (964, .iconst 2, []), (965, .iadd, []), (966, .iaload, [2]), (967, .invokevirtual 118, [1, 22, 2, 1, 11]), (970, .aload_n 2, []), (971, .aload_n 0, []), (972, .iload 4, []), (974, .iconst 1, []), (975, .iadd, []), (976, .iaload, [2]), (977, .aload_n 0, []), (978, .iload 4, []), (980, .iconst 2, []), (981, .iadd, []), (982, .iaload, [2]), (983, .invokevirtual 121, [1, 137, 2, 1, 12]), (986, .if_icmp .eq 443, [1429]), (989, .iconst 0, []), (990, .ireturn, [1]), (1429, .nop, [0, 1, 2, 3, 4])]
set_option maxRecDepth 100000 in
theorem ok_kl_21 : chkJ true 278 14 kl_21 = true := by decide +kernel
def kl_22 : List Op := [(991, .aload_n 1, []), (992, .invokevirtual 122, [1, 25, 0, 1, 11]), (995, .aload_n 2, []), (996, .invokevirtual 125, [1, 138, 0, 1, 12]), (999, .if_icmp .eq 430, [1429]), (1002, .iconst 0, []), (1003, .ireturn, [1]), (1429, .nop, [0, 1, 2, 3, 4])]
set_option maxRecDepth 100000 in
theorem ok_kl_22 : chkJ true 278 14 kl_22 = true := by decide +kernel
def kl_23 : List Op := [(1004, .aload_n 1, []), (1005, .aload_n 0, []), (1006, .iload 4, []), (1008, .iconst 1, []), (1009, .iadd, []), (1010, .iaload, [2]), (1011, .aload_n 0, []), (1012, .iload 4, []), (1014, .iconst 2, []), (1015, .iadd, []), (1016, .iaload, [2]), (1017, .invokevirtual 126, [1, 26, 2, 1, 11]), (1020, .aload_n 2, []), (1021, .aload_n 0, []), (1022, .iload 4, []), (1024, .iconst 1, []), (1025, .iadd, []), (1026, .iaload, [2]), (1027, .aload_n 0, []), (1028, .iload 4, []), (1030, .iconst 2, []), (1031, .iadd, []), (1032, .iaload, [2]), (1033, .invokevirtual 129, [1, 139, 2, 1, 12]), (1036, .if_icmp .eq 393, [1429]), (1039, .iconst 0, []), (1040, .ireturn, [1]), (1429, .nop, [0, 1, 2, 3, 4])]
set_option maxRecDepth 100000 in
theorem ok_kl_23 : chkJ true 278 14 kl_23 = true := by decide +kernel
def kl_24 : List Op := [(1041, .aload_n 1, []), (1042, .aload_n 0, []), (1043, .iload 4, []), (1045, .iconst 1, []), (1046, .iadd, []), (1047, .iaload, [2]), (1048, .aload_n 0, []), (1049, .iload 4, []), (1051, .iconst 2, []), (1052, .iadd, []), (1053, .iaload, [2]), (1054, .invokevirtual 130, [1, 27, 2, 1, 11]), (1057, .aload_n 2, []), (1058, .aload_n 0, []), (1059, .iload 4, []), (1061, .iconst 1, []), (1062, .iadd, []), (1063, .iaload, [2]), (1064, .aload_n 0, []), (1065, .iload 4, []), (1067, .iconst 2, []), (1068, .iadd, []), (1069, .iaload, [2]), (1070, .invokevirtual 133, [1, 140, 2, 1, 12]), (1073, .if_icmp .eq 356, [1429]), (1076, .iconst 0, []), (1077, .ireturn, [1]), (1429, .nop, [0, 1, 2, 3, 4])]
set_option maxRecDepth 100000 in
theorem ok_kl_24 : chkJ true 278 14 kl_24 = true := by decide +kernel
def kl_25 : List Op := [(1078, .aload_n 1, []), (1079, .aload_n 0, []), (1080, .iload 4, []), (1082, .iconst 1, []), (1083, .iadd, []), (1084, .iaload, [2]), (1085, .invokevirtual 134, [1, 28, 1, 1, 11]), (1088, .aload_n 2, []), (1089, .aload_n 0, []), (1090, .iload 4, []), (1092, .iconst 1, []), (1093, .iadd, []), (1094, .iaload, [2]), (1095, .invokevirtual 137, [1, 141, 1, 1, 12]), (1098, .if_icmp .eq 331, [1429]), (1101, .iconst 0, []), (1102, .ireturn, [1]), (1429, .nop, [0, 1, 2, 3, 4])]
set_option maxRecDepth 100000 in
theorem ok_kl_25 : chkJ true 278 14 kl_25 = true := by decide +kernel
def kl_26 : List Op := [(1103, .aload_n 1, []), (1104, .invokevirtual 138, [1, 29, 0, 1, 11]), (1107, .aload_n 2, []), (1108, .invokevirtual 141, [1, 142, 0, 1, 12]), (1111, .if_icmp .eq 318, [1429]), (1114, .iconst 0, []), (1115, .ireturn, [1]), (1429, .nop, [0, 1, 2, 3, 4])]
set_option maxRecDepth 100000 in
theorem ok_kl_26 : chkJ true 278 14 kl_26 = true := by decide +kernel
def kl_27 : List Op := [(1116, .aload_n 1, []), (1117, .aload_n 0, []), (1118, .iload 4, []), (1120, .iconst 1, []), (1121, .iadd, []), (1122, .iaload, [2]), (1123, .invokevirtual 142, [1, 31, 1, 1, 11]), (1126, .aload_n 2, []), (1127, .aload_n 0, []), (1128, .iload 4, []), (1130, .iconst 1, []), (1131, .iadd, []), (1132, .iaload, [2]), (1133, .invokevirtual 145, [1, 143, 1, 1, 12]), (1136, .if_icmp .eq 293, [1429]), (1139, .iconst 0, []), (1140, .ireturn, [1]), (1429, .nop, [0, 1, 2, 3, 4])]
set_option maxRecDepth 100000 in
theorem ok_kl_27 : chkJ true 278 14 kl_27 = true := by decide +kernel
def kl_28 : List Op := [(1141, .aload_n 1, []), (1142, .invokevirtual 146, [1, 33, 0, 1, 11]), (1145, .aload_n 2, []), (1146, .invokevirtual 149, [1, 144, 0, 1, 12]), (1149, .if_icmp .eq 280, [1429]), (1152, .iconst 0, []), (1153, .ireturn, [1]), (1429, .nop, [0, 1, 2, 3, 4])]
set_option maxRecDepth 100000 in
theorem ok_kl_28 : chkJ true 278 14 kl_28 = true := by decide +kernel
def kl_29 : List Op := [(1154, .aload_n 1, []), (1155, .invokevirtual 150, [1, 34, 0, 1, 11]), (1158, .aload_n 2, []), (1159, .invokevirtual 153, [1, 145, 0, 1, 12]), (1162, .if_icmp .eq 267, [1429]), (1165, .iconst 0, []), (1166, .ireturn, [1]), (1429, .nop, [0, 1, 2, 3, 4])]
set_option maxRecDepth 100000 in
theorem ok_kl_29 : chkJ true 278 14 kl_29 = true := by decide +kernel
def kl_30 : List Op := [(1167, .aload_n 1, []), (1168, .invokevirtual 154, [1, 35, 0, 1, 11]), (1171, .aload_n 2, []), (1172, .invokevirtual 157, [1, 146, 0, 1, 12]), (1175, .if_icmp .eq 254, [1429]), (1178, .iconst 0, []), (1179, .ireturn, [1]), (1429, .nop, [0, 1, 2, 3, 4])]
set_option maxRecDepth 100000 in
theorem ok_kl_30 : chkJ true 278 14 kl_30 = true := by decide +kernel
def kl_31 : List Op := [(1180, .aload_n 1, []), (1181, .aload_n 0, []), (1182, .iload 4, []), (1184, .iconst 1, []), (1185, .iadd, []), (1186, .iaload, [2]), (1187, .aload_n 0, []), (1188, .iload 4, []), (1190, .iconst 2, []), (1191, .iadd, []), (1192, .iaload, [2]), (1193, .invokevirtual 158, [1, 36, 2, 1, 11]), (1196, .aload_n 2, []), (1197, .aload_n 0, []), (1198, .iload 4, []), (1200, .iconst 1, []), (1201, .iadd, []), (1202, .iaload, [2]), (1203, .aload_n 0, []), (1204, .iload 4, []), (1206, .iconst 2, []), (1207, .iadd, []), (1208, .iaload, [2]), (1209, .invokevirtual 161, [1, 149, 2, 1, 12]), (1212, .if_icmp .eq 217, [1429]), (1215, .iconst 0, []), (1216, .ireturn, [1]), (1429, .nop, [0, 1, 2, 3, 4])]
set_option maxRecDepth 100000 in
theorem ok_kl_31 : chkJ true 278 14 kl_31 = true := by decide +kernel
def kl_32 : List Op := [(1217, .aload_n 1, []), (1218, .aload_n 0, []), (1219, .iload 4, []), (1221, .iconst 1, []), (1222, .iadd, []), (1223, .iaload, [2]), (1224, .aload_n 0, []), (1225, .iload 4, []), (1227, .iconst 2, []), (1228, .iadd, []), (1229, .iaload, [2]), (1230, .aload_n 0, []), (1231, .iload 4, []), (1233, .iconst 3, []), (1234, .iadd, []), (1235, .iaload, [2]), (1236, .invokevirtual 162, [1, 37, 3, 1, 11]), (1239, .aload_n 2, []), (1240, .aload_n 0, []), (1241, .iload 4, []), (1243, .iconst 1, []), (1244, .iadd, []), (1245, .iaload, [2]), (1246, .aload_n 0, []), (1247, .iload 4, []), (1249, .iconst 2, []), (1250, .iadd, []), (1251, .iaload, [2]), (1252, .aload_n 0, []), (1253, .iload 4, []), (1255, .iconst 3, []), (1256, .iadd, []), (1257, .iaload, [2]), (1258, .invokevirtual 165, [1, 150, 3, 1, 12]), (1261, .if_icmp .eq 168, [1429]), (1264, .iconst 0, []), (1265, .ireturn, [1]), (1429, .nop, [0, 1, 2, 3, 4])]
set_option maxRecDepth 100000 in
theorem ok_kl_32 : chkJ true 278 14 kl_32 = true := by decide +kernel
def kl_33 : List Op := [(1266, .aload_n 1, []), (1267, .aload_n 0, []), (1268, .iload 4, []), (1270, .iconst 1, []), (1271, .iadd, []), (1272, .iaload, [2]), (1273, .invokevirtual 166, [1, 38, 1, 1, 11]), (1276, .aload_n 2, []), (1277, .aload_n 0, []), (1278, .iload 4, []), (1280, .iconst 1, []), (1281, .iadd, []), (1282, .iaload, [2]), (1283, .invokevirtual 169, [1, 154, 1, 1, 12]), (1286, .if_icmp .eq 143, [1429]), (1289, .iconst 0, []), (1290, .ireturn, [1]), (1429, .nop, [0, 1, 2, 3, 4])]
set_option maxRecDepth 100000 in
theorem ok_kl_33 : chkJ true 278 14 kl_33 = true := by decide +kernel
def kl_34 : List Op := [(1291, .aload_n 1, []), (1292, .aload_n 0, []), (1293, .iload 4, []), (1295, .iconst 1, []), (1296, .iadd, []), (1297, .iaload, [2]), (1298, .invokevirtual 170, [1, 39, 1, 1, 11]), (1301, .aload_n 2, []), (1302, .aload_n 0, []), (1303, .iload 4, []), (1305, .iconst 1, []), (1306, .iadd, []), (1307, .iaload, [2]), (1308, .invokevirtual 173, [1, 155, 1, 1, 12]), (1311, .if_icmp .eq 118, [1429]), (1314, .iconst 0, []), (1315, .ireturn, [1]), (1429, .nop, [0, 1, 2, 3, 4])]
set_option maxRecDepth 100000 in
theorem ok_kl_34 : chkJ true 278 14 kl_34 = true := by decide +kernel
def kl_35 : List Op := [(1316, .aload_n 1, []), (1317, .invokevirtual 174, [1, 40, 0, 1, 11]), (1320, .aload_n 2, []), (1321, .invokevirtual 177, [1, 162, 0, 1, 12]), (1324, .if_icmp .eq 105, [1429]), (1327, .iconst 0, []), (1328, .ireturn, [1]), (1429, .nop, [0, 1, 2, 3, 4])]
set_option maxRecDepth 100000 in
theorem ok_kl_35 : chkJ true 278 14 kl_35 = true := by decide +kernel
def kl_36 : List Op := [(1329, .aload_n 1, []), (1330, .aload_n 0, []), (1331, .iload 4, []), (1333, .iconst 1, []), (1334, .iadd, []), (1335, .iaload, [2]), (1336, .invokevirtual 178, [1, 41, 1, 1, 11]), (1339, .aload_n 2, []), (1340, .aload_n 0, []), (1341, .iload 4, []), (1343, .iconst 1, []), (1344, .iadd, []), (1345, .iaload, [2]), (1346, .invokevirtual 181, [1, 165, 1, 1, 12]), (1349, .if_icmp .eq 80, [1429]), (1352, .iconst 0, []), (1353, .ireturn, [1]), (1429, .nop, [0, 1, 2, 3, 4])]
set_option maxRecDepth 100000 in
theorem ok_kl_36 : chkJ true 278 14 kl_36 = true := by decide +kernel
def kl_37 : List Op := [(1354, .aload_n 1, []), (1355, .aload_n 0, []), (1356, .iload 4, []), (1358, .iconst 1, []), (1359, .iadd, []), (1360, .iaload, [2]), (1361, .invokevirtual 182, [1, 42, 1, 1, 11]), (1364, .aload_n 2, []), (1365, .aload_n 0, []), (1366, .iload 4, []), (1368, .iconst 1, []), (1369, .iadd, []), (1370, .iaload, [2]), (1371, .invokevirtual 185, [1, 166, 1, 1, 12]), (1374, .if_icmp .eq 55, [1429]), (1377, .iconst 0, []), (1378, .ireturn, [1]), (1429, .nop, [0, 1, 2, 3, 4])]
set_option maxRecDepth 100000 in
theorem ok_kl_37 : chkJ true 278 14 kl_37 = true := by decide +kernel
def kl_38 : List Op := [(1379, .aload_n 1, []), (1380, .aload_n 0, []), (1381, .iload 4, []), (1383, .iconst 1, []), (1384, .iadd, []), (1385, .iaload, [2]), (1386, .invokevirtual 186, [1, 43, 1, 1, 11]), (1389, .aload_n 2, []), (1390, .aload_n 0, []), (1391, .iload 4, []), (1393, .iconst 1, []), (1394, .iadd, []), (1395, .iaload, [2]), (1396, .invokevirtual 189, [1, 167, 1, 1, 12]), (1399, .if_icmp .eq 30, [1429]), (1402, .iconst 0, []), (1403, .ireturn, [1]), (1429, .nop, [0, 1, 2, 3, 4])]
set_option maxRecDepth 100000 in
theorem ok_kl_38 : chkJ true 278 14 kl_38 = true := by decide +kernel
def kl_39 : List Op := [(1404, .aload_n 1, []), (1405, .aload_n 0, []), (1406, .iload 4, []), (1408, .iconst 1, []), (1409, .iadd, []), (1410, .iaload, [2]), (1411, .invokevirtual 190, [1, 44, 1, 1, 11]), (1414, .aload_n 2, []), (1415, .aload_n 0, []), (1416, .iload 4, []), (1418, .iconst 1, []), (1419, .iadd, []), (1420, .iaload, [2]), (1421, .invokevirtual 193, [1, 168, 1, 1, 12]), (1424, .if_icmp .eq 5, [1429]), (1427, .iconst 0, []), (1428, .ireturn, [1]), (1429, .nop, [0, 1, 2, 3, 4])]
set_option maxRecDepth 100000 in
theorem ok_kl_39 : chkJ true 278 14 kl_39 = true := by decide +kernel
theorem bI (w : Int32) : -2147483648 ≤ w.toInt ∧ w.toInt < 2147483648 := ⟨w.minValue_le_toInt, by have := w.toInt_lt; omega⟩
theorem sw_t_house (w0 w1 : Int32) : SameT 5 97 [.int w0, .int w1] := by
  have h := t_house (x := w0.toInt) (y := w1.toInt) (bI w0) (bI w1)
  simpa only [I_of_toInt] using h
theorem sw_t_sure (w0 w1 w2 : Int32) : SameT 18 129 [.int w0, .int w1, .int w2] := by
  have h := t_sure (x := w0.toInt) (y := w1.toInt) (w := w2.toInt) (bI w0) (bI w1) (bI w2)
  simpa only [I_of_toInt] using h
theorem sw_t_plan (w0 w1 : Int32) : SameT 16 127 [.int w0, .int w1] := by
  have h := t_plan (x := w0.toInt) (y := w1.toInt) (bI w0) (bI w1)
  simpa only [I_of_toInt] using h
theorem sw_s_wall (w0 w1 : Int32) : Same 4 96 [.int w0, .int w1] := by
  have h := s_wall (x := w0.toInt) (y := w1.toInt) (bI w0) (bI w1)
  simpa only [I_of_toInt] using h
theorem sw_s_drain (w0 w1 : Int32) : Same 6 98 [.int w0, .int w1] := by
  have h := s_drain (x := w0.toInt) (y := w1.toInt) (bI w0) (bI w1)
  simpa only [I_of_toInt] using h
theorem sw_s_now (w0 : Int32) : Same 7 101 [.int w0] := by
  have h := s_now (x := w0.toInt) (bI w0)
  simpa only [I_of_toInt] using h
theorem sw_s_posted (w0 : Int32) : Same 8 102 [.int w0] := by
  have h := s_posted (x := w0.toInt) (bI w0)
  simpa only [I_of_toInt] using h
theorem sw_s_takes (w0 w1 : Int32) : Same 14 121 [.int w0, .int w1] := by
  have h := s_takes (x := w0.toInt) (y := w1.toInt) (bI w0) (bI w1)
  simpa only [I_of_toInt] using h
theorem sw_s_lacks (w0 : Int32) : Same 15 122 [.int w0] := by
  have h := s_lacks (x := w0.toInt) (bI w0)
  simpa only [I_of_toInt] using h
theorem sw_s_leaks (w0 w1 : Int32) : Same 27 140 [.int w0, .int w1] := by
  have h := s_leaks (x := w0.toInt) (y := w1.toInt) (bI w0) (bI w1)
  simpa only [I_of_toInt] using h
theorem sw_s_count (w0 : Int32) : Same 44 168 [.int w0] := by
  have h := s_count (x := w0.toInt) (bI w0)
  simpa only [I_of_toInt] using h
theorem sw_s_fault : Same 3 85 [] := by
  have h := s_fault  
  exact h
theorem sw_s_crewed (w0 : Int32) : Same 21 132 [.int w0] := by
  have h := s_crewed (x := w0.toInt) (bI w0)
  simpa only [I_of_toInt] using h
theorem sw_s_walling : Same 25 138 [] := by
  have h := s_walling  
  exact h
theorem sw_s_carried : Same 33 144 [] := by
  have h := s_carried  
  exact h
theorem sw_s_most : Same 35 146 [] := by
  have h := s_most  
  exact h
theorem sw_s_told (w0 : Int32) : Same 39 155 [.int w0] := by
  have h := s_told (x := w0.toInt) (bI w0)
  simpa only [I_of_toInt] using h
theorem sw_s_planAt (w0 : Int32) : Same 17 128 [.int w0] := by
  have h := s_planAt (x := w0.toInt) (bI w0)
  simpa only [I_of_toInt] using h
theorem sw_s_due (w0 w1 : Int32) : Same 26 139 [.int w0, .int w1] := by
  have h := s_due (x := w0.toInt) (y := w1.toInt) (bI w0) (bI w1)
  simpa only [I_of_toInt] using h
theorem sw_s_when (w0 : Int32) : Same 28 141 [.int w0] := by
  have h := s_when (x := w0.toInt) (bI w0)
  simpa only [I_of_toInt] using h
theorem sw_s_last : Same 29 142 [] := by
  have h := s_last  
  exact h
theorem sw_s_odds (w0 w1 w2 : Int32) : Same 37 150 [.int w0, .int w1, .int w2] := by
  have h := s_odds (x := w0.toInt) (y := w1.toInt) (i := w2) (bI w0) (bI w1)
  simpa only [I_of_toInt] using h
theorem sw_s_post (w0 w1 w2 : Int32) : Same 9 113 [.int w0, .int w1, .int w2] := by
  have h := s_post (x := w0.toInt) (y := w1.toInt) (w := w2.toInt) (bI w0) (bI w1) (bI w2)
  simpa only [I_of_toInt] using h
theorem sw_s_quit (w0 : Int32) : Same 10 114 [.int w0] := by
  have h := s_quit (x := w0.toInt) (bI w0)
  simpa only [I_of_toInt] using h
theorem sw_s_up (w0 : Int32) : Same 11 115 [.int w0] := by
  have h := s_up (x := w0.toInt) (bI w0)
  simpa only [I_of_toInt] using h
theorem sw_s_hours (w0 : Int32) : Same 12 116 [.int w0] := by
  have h := s_hours (x := w0.toInt) (bI w0)
  simpa only [I_of_toInt] using h
theorem sw_s_drawn (w0 w1 : Int32) : Same 36 149 [.int w0, .int w1] := by
  have h := s_drawn (x := w0.toInt) (i := w1) (bI w0)
  simpa only [I_of_toInt] using h
theorem sw_s_undo : Same 13 118 [] := by
  have h := s_undo  
  exact h
theorem sw_s_rests (w0 w1 : Int32) : Same 22 137 [.int w0, .int w1] := by
  have h := s_rests (x := w0.toInt) (y := w1.toInt) (bI w0) (bI w1)
  simpa only [I_of_toInt] using h
theorem sw_s_carpets (w0 : Int32) : Same 31 143 [.int w0] := by
  have h := s_carpets (x := w0.toInt) (bI w0)
  simpa only [I_of_toInt] using h
theorem sw_s_crew (w0 : Int32) : Same 19 131 [.int w0] := by
  have h := s_crew (x := w0.toInt) (bI w0)
  simpa only [I_of_toInt] using h
theorem sw_s_built : Same 34 145 [] := by
  have h := s_built  
  exact h
theorem sw_s_feed (w0 w1 w2 w3 w4 : Int32) : Same 0 53 [.int w0, .int w1, .int w2, .int w3, .int w4] := by
  have h := s_feed (a := w0) (b := w1) (c := w2) (e := w3) (f := w4) 
  exact h
theorem sw_s_end (w0 : Int32) : Same 1 55 [.int w0] := by
  have h := s_end (x := w0.toInt) (bI w0)
  simpa only [I_of_toInt] using h
theorem sw_s_said (w0 : Int32) : Same 41 165 [.int w0] := by
  have h := s_said (x := w0.toInt) (bI w0)
  simpa only [I_of_toInt] using h
theorem sw_s_image (w0 : Int32) : Same 42 166 [.int w0] := by
  have h := s_image (x := w0.toInt) (bI w0)
  simpa only [I_of_toInt] using h
theorem sw_s_restore (w0 : Int32) : Same 43 167 [.int w0] := by
  have h := s_restore (x := w0.toInt) (bI w0)
  simpa only [I_of_toInt] using h
theorem sw_s_street : Same 2 84 [] := by
  have h := s_street  
  exact h
theorem sw_s_book (w0 : Int32) : Same 38 154 [.int w0] := by
  have h := s_book (x := w0.toInt) (bI w0)
  simpa only [I_of_toInt] using h
theorem sw_s_sentence : Same 40 162 [] := by
  have h := s_sentence  
  exact h
def RtL : Option Value → Mm → Prop := fun r _ => r = some (.int (I 1))
def LLx (x : Int32) : List Value := [.ref 501, .ref 1, .ref 400, .ref 500, .int x, .retAddr 0, .retAddr 0]
def StepL (N n : Nat) (f : Nat → Int32) (At : JJ) : Prop := ∀ (C : List Op), chkJ true 278 14 C = true → ∀ (pc : Nat), hdP C = some pc → ∀ (L S : List Value) (M : Mm), wp (EL 40 N) At RtL (n, f) C 1000 C L S M → At pc L S M
theorem lay1 : lay 1 = 11 := by decide +kernel
theorem lay400 : lay 400 = 12 := by decide +kernel
theorem lay500 : lay 500 = 101 := by decide +kernel
theorem ld_in {i n : Nat} {k : Int} (h0 : 0 ≤ k) (h5 : k < 6) (hi : i + 6 ≤ n) (hn : n ≤ 3072) : inR (I (i : Int) + I k) n := by
  rw [I_add]
  exact inRI (by omega) (by omega) (by omega)
theorem e_thr {P : Mm} : Ev 40 51 [.ref 400] P (some (.int (P.1 400 0))) P := by
  obtain ⟨r, N, e, rfl, rfl⟩ := e_R_thrown (d := 39) (M := P) (Q := fun r N => r = some (.int (P.1 400 0)) ∧ N = P) (fun _ _ => ⟨rfl, rfl⟩)
  exact e
theorem EL_e {N z : Nat} {as : List Value} {M M' : Mm} {v : Option Value} (hz : z ∉ yLaw) (h : Ev 40 z as M v M') : EL 40 N z as M v M' := ⟨fun _ => h, fun q => absurd q hz⟩
theorem EL_l {N z : Nat} {as : List Value} {M M' : Mm} {v : Option Value} (hz : z ∈ yLaw) (h : EvL 40 z as M v M') (hg : gh M' = gh M + 1) (hN : gh M + 1 ≤ N) : EL 40 N z as M v M' := ⟨fun q => absurd hz q, fun _ => ⟨h, hg, by omega⟩⟩
theorem swT_all {k : Nat → Prop} {x : Int32} {dflt : Nat} : ∀ {ts : List Nat} {lo : Int} {P : Prop}, (∀ t, t ∈ ts → k t) → k dflt → swT k x lo dflt P ts
  | [], _, _, _, h => fun _ => h
  | t :: r, _, _, h1, h2 => ⟨fun _ => h1 t List.mem_cons_self, swT_all (fun t' ht => h1 t' (List.mem_cons_of_mem _ ht)) h2⟩
section LAWC
variable {At : JJ} {n i N : Nat} {f : Nat → Int32} {M : Mm}
theorem lc_0 (step : StepL N n f At) (hi : i + 6 ≤ n) (hn : n ≤ 3072) (hJ : JJJ M) (k29 : ∀ M', JJJ M' → At 1429 (LLx (I (i : Int))) [] M') : At 216 (LLx (I (i : Int))) [] M := by
  obtain ⟨v, N1, e1, N2, e2, hJ2⟩ := sw_s_feed (f (I (i : Int) + I 1).toNatClampNeg) (f (I (i : Int) + I 2).toNatClampNeg) (f (I (i : Int) + I 3).toNatClampNeg) (f (I (i : Int) + I 4).toNatClampNeg) (f (I (i : Int) + I 5).toNatClampNeg) M hJ
  exact step kl_0 ok_kl_0 216 rfl _ _ _ ⟨rfl, ld_in (by decide) (by decide) hi hn, rfl, ld_in (by decide) (by decide) hi hn, rfl, ld_in (by decide) (by decide) hi hn, rfl, ld_in (by decide) (by decide) hi hn, rfl, ld_in (by decide) (by decide) hi hn, lay1, v, N1, EL_e (by decide) e1, rfl, ld_in (by decide) (by decide) hi hn, rfl, ld_in (by decide) (by decide) hi hn, rfl, ld_in (by decide) (by decide) hi hn, rfl, ld_in (by decide) (by decide) hi hn, rfl, ld_in (by decide) (by decide) hi hn, lay400, v, N2, EL_e (by decide) e2, fun _ => k29 N2 hJ2, fun h => absurd rfl h⟩
theorem lc_1 (step : StepL N n f At) (hi : i + 6 ≤ n) (hn : n ≤ 3072) (hJ : JJJ M) (k29 : ∀ M', JJJ M' → At 1429 (LLx (I (i : Int))) [] M') : At 289 (LLx (I (i : Int))) [] M := by
  obtain ⟨v, N1, e1, N2, e2, hJ2⟩ := sw_s_end (f (I (i : Int) + I 1).toNatClampNeg) M hJ
  exact step kl_1 ok_kl_1 289 rfl _ _ _ ⟨rfl, ld_in (by decide) (by decide) hi hn, lay1, v, N1, EL_e (by decide) e1, rfl, ld_in (by decide) (by decide) hi hn, lay400, v, N2, EL_e (by decide) e2, fun _ => k29 N2 hJ2, fun h => absurd rfl h⟩
theorem lc_2 (step : StepL N n f At) (hi : i + 6 ≤ n) (hn : n ≤ 3072) (hJ : JJJ M) (k29 : ∀ M', JJJ M' → At 1429 (LLx (I (i : Int))) [] M') : At 314 (LLx (I (i : Int))) [] M := by
  obtain ⟨v, N1, e1, N2, e2, hJ2⟩ := sw_s_street  M hJ
  exact step kl_2 ok_kl_2 314 rfl _ _ _ ⟨lay1, v, N1, EL_e (by decide) e1, lay400, v, N2, EL_e (by decide) e2, fun _ => k29 N2 hJ2, fun h => absurd rfl h⟩
theorem lc_3 (step : StepL N n f At) (hi : i + 6 ≤ n) (hn : n ≤ 3072) (hJ : JJJ M) (k29 : ∀ M', JJJ M' → At 1429 (LLx (I (i : Int))) [] M') : At 327 (LLx (I (i : Int))) [] M := by
  obtain ⟨v, N1, e1, N2, e2, hJ2⟩ := sw_s_fault  M hJ
  exact step kl_3 ok_kl_3 327 rfl _ _ _ ⟨lay1, v, N1, EL_e (by decide) e1, lay400, v, N2, EL_e (by decide) e2, fun _ => k29 N2 hJ2, fun h => absurd rfl h⟩
theorem lc_4 (step : StepL N n f At) (hi : i + 6 ≤ n) (hn : n ≤ 3072) (hJ : JJJ M) (k29 : ∀ M', JJJ M' → At 1429 (LLx (I (i : Int))) [] M') : At 340 (LLx (I (i : Int))) [] M := by
  obtain ⟨v, N1, e1, N2, e2, hJ2⟩ := sw_s_wall (f (I (i : Int) + I 1).toNatClampNeg) (f (I (i : Int) + I 2).toNatClampNeg) M hJ
  exact step kl_4 ok_kl_4 340 rfl _ _ _ ⟨rfl, ld_in (by decide) (by decide) hi hn, rfl, ld_in (by decide) (by decide) hi hn, lay1, v, N1, EL_e (by decide) e1, rfl, ld_in (by decide) (by decide) hi hn, rfl, ld_in (by decide) (by decide) hi hn, lay400, v, N2, EL_e (by decide) e2, fun _ => k29 N2 hJ2, fun h => absurd rfl h⟩
theorem lc_5 (step : StepL N n f At) (hi : i + 6 ≤ n) (hn : n ≤ 3072) (hN : gh M + 1 ≤ N) (hJ : JJJ M) (k29 : ∀ M', JJJ M' → At 1429 (LLx (I (i : Int))) [] M') : At 377 (LLx (I (i : Int))) [] M := by
  obtain ⟨ok, a, N0, hE, hgh, hok, hno⟩ := sw_t_house (f (I (i : Int) + I 1).toNatClampNeg) (f (I (i : Int) + I 2).toNatClampNeg) M hJ
  by_cases q : ok
  · have e1 := l_house_ok hE q (hgh q)
    obtain ⟨P, e2, hJP, hth, h5⟩ := hok q (sL (gs N0) 500 0 (I a).toInt64) fun c h1 h2 => ⟨rfl, up2_ne h1, gs_3 h2⟩
    have h50 : P.2.1 500 0 = (I a).toInt64 := by rw [h5]; show up2 N0.2.1 500 0 (I a).toInt64 500 0 = _; rw [up2_eq, upf_eq]
    exact step kl_5 ok_kl_5 377 rfl _ _ _ ⟨rfl, ld_in (by decide) (by decide) hi hn, rfl, ld_in (by decide) (by decide) hi hn, _, _, EL_l (by decide) e1 (by rw [gh_sL, gs_gh, hgh q]) hN, rfl, ld_in (by decide) (by decide) hi hn, rfl, ld_in (by decide) (by decide) hi hn, lay400, _, P, EL_e (by decide) e2, lay400, _, P, EL_e (by decide) e_thr, fun _ => ⟨fun h => absurd rfl h, fun _ => ⟨lay500, inR_e (show alen 500 = 1 by decide +kernel) (inR_c 0 1 (by decide)), fun _ => k29 P hJP, fun h => absurd (lg0.mpr h50) h⟩⟩, fun h => absurd hth h⟩
  · have e1 := l_house_no hE q
    obtain ⟨v, P, e2, hJP, hth⟩ := hno q (gs M) fun c h1 h2 => ⟨rfl, rfl, gs_3 h2⟩
    exact step kl_5 ok_kl_5 377 rfl _ _ _ ⟨rfl, ld_in (by decide) (by decide) hi hn, rfl, ld_in (by decide) (by decide) hi hn, _, _, EL_l (by decide) e1 gs_gh hN, rfl, ld_in (by decide) (by decide) hi hn, rfl, ld_in (by decide) (by decide) hi hn, lay400, _, P, EL_e (by decide) e2, lay400, _, P, EL_e (by decide) e_thr, fun _ => ⟨fun _ => k29 P hJP, fun h => absurd (show ¬ (I 1 = 0) by decide) h⟩, fun h => absurd hth h⟩
theorem lc_6 (step : StepL N n f At) (hi : i + 6 ≤ n) (hn : n ≤ 3072) (hJ : JJJ M) (k29 : ∀ M', JJJ M' → At 1429 (LLx (I (i : Int))) [] M') : At 445 (LLx (I (i : Int))) [] M := by
  obtain ⟨v, N1, e1, N2, e2, hJ2⟩ := sw_s_drain (f (I (i : Int) + I 1).toNatClampNeg) (f (I (i : Int) + I 2).toNatClampNeg) M hJ
  exact step kl_6 ok_kl_6 445 rfl _ _ _ ⟨rfl, ld_in (by decide) (by decide) hi hn, rfl, ld_in (by decide) (by decide) hi hn, lay1, v, N1, EL_e (by decide) e1, rfl, ld_in (by decide) (by decide) hi hn, rfl, ld_in (by decide) (by decide) hi hn, lay400, v, N2, EL_e (by decide) e2, fun _ => k29 N2 hJ2, fun h => absurd rfl h⟩
theorem lc_7 (step : StepL N n f At) (hi : i + 6 ≤ n) (hn : n ≤ 3072) (hJ : JJJ M) (k29 : ∀ M', JJJ M' → At 1429 (LLx (I (i : Int))) [] M') : At 482 (LLx (I (i : Int))) [] M := by
  obtain ⟨v, N1, e1, N2, e2, hJ2⟩ := sw_s_now (f (I (i : Int) + I 1).toNatClampNeg) M hJ
  exact step kl_7 ok_kl_7 482 rfl _ _ _ ⟨rfl, ld_in (by decide) (by decide) hi hn, lay1, v, N1, EL_e (by decide) e1, rfl, ld_in (by decide) (by decide) hi hn, lay400, v, N2, EL_e (by decide) e2, fun _ => k29 N2 hJ2, fun h => absurd rfl h⟩
theorem lc_8 (step : StepL N n f At) (hi : i + 6 ≤ n) (hn : n ≤ 3072) (hJ : JJJ M) (k29 : ∀ M', JJJ M' → At 1429 (LLx (I (i : Int))) [] M') : At 507 (LLx (I (i : Int))) [] M := by
  obtain ⟨v, N1, e1, N2, e2, hJ2⟩ := sw_s_posted (f (I (i : Int) + I 1).toNatClampNeg) M hJ
  exact step kl_8 ok_kl_8 507 rfl _ _ _ ⟨rfl, ld_in (by decide) (by decide) hi hn, lay1, v, N1, EL_e (by decide) e1, rfl, ld_in (by decide) (by decide) hi hn, lay400, v, N2, EL_e (by decide) e2, fun _ => k29 N2 hJ2, fun h => absurd rfl h⟩
theorem lc_9 (step : StepL N n f At) (hi : i + 6 ≤ n) (hn : n ≤ 3072) (hJ : JJJ M) (k29 : ∀ M', JJJ M' → At 1429 (LLx (I (i : Int))) [] M') : At 532 (LLx (I (i : Int))) [] M := by
  obtain ⟨v, N1, e1, N2, e2, hJ2⟩ := sw_s_post (f (I (i : Int) + I 1).toNatClampNeg) (f (I (i : Int) + I 2).toNatClampNeg) (f (I (i : Int) + I 3).toNatClampNeg) M hJ
  exact step kl_9 ok_kl_9 532 rfl _ _ _ ⟨rfl, ld_in (by decide) (by decide) hi hn, rfl, ld_in (by decide) (by decide) hi hn, rfl, ld_in (by decide) (by decide) hi hn, lay1, v, N1, EL_e (by decide) e1, rfl, ld_in (by decide) (by decide) hi hn, rfl, ld_in (by decide) (by decide) hi hn, rfl, ld_in (by decide) (by decide) hi hn, lay400, v, N2, EL_e (by decide) e2, fun _ => k29 N2 hJ2, fun h => absurd rfl h⟩
theorem lc_10 (step : StepL N n f At) (hi : i + 6 ≤ n) (hn : n ≤ 3072) (hJ : JJJ M) (k29 : ∀ M', JJJ M' → At 1429 (LLx (I (i : Int))) [] M') : At 581 (LLx (I (i : Int))) [] M := by
  obtain ⟨v, N1, e1, N2, e2, hJ2⟩ := sw_s_quit (f (I (i : Int) + I 1).toNatClampNeg) M hJ
  exact step kl_10 ok_kl_10 581 rfl _ _ _ ⟨rfl, ld_in (by decide) (by decide) hi hn, lay1, v, N1, EL_e (by decide) e1, rfl, ld_in (by decide) (by decide) hi hn, lay400, v, N2, EL_e (by decide) e2, fun _ => k29 N2 hJ2, fun h => absurd rfl h⟩
theorem lc_11 (step : StepL N n f At) (hi : i + 6 ≤ n) (hn : n ≤ 3072) (hJ : JJJ M) (k29 : ∀ M', JJJ M' → At 1429 (LLx (I (i : Int))) [] M') : At 606 (LLx (I (i : Int))) [] M := by
  obtain ⟨v, N1, e1, N2, e2, hJ2⟩ := sw_s_up (f (I (i : Int) + I 1).toNatClampNeg) M hJ
  exact step kl_11 ok_kl_11 606 rfl _ _ _ ⟨rfl, ld_in (by decide) (by decide) hi hn, lay1, v, N1, EL_e (by decide) e1, rfl, ld_in (by decide) (by decide) hi hn, lay400, v, N2, EL_e (by decide) e2, fun _ => k29 N2 hJ2, fun h => absurd rfl h⟩
theorem lc_12 (step : StepL N n f At) (hi : i + 6 ≤ n) (hn : n ≤ 3072) (hJ : JJJ M) (k29 : ∀ M', JJJ M' → At 1429 (LLx (I (i : Int))) [] M') : At 631 (LLx (I (i : Int))) [] M := by
  obtain ⟨v, N1, e1, N2, e2, hJ2⟩ := sw_s_hours (f (I (i : Int) + I 1).toNatClampNeg) M hJ
  exact step kl_12 ok_kl_12 631 rfl _ _ _ ⟨rfl, ld_in (by decide) (by decide) hi hn, lay1, v, N1, EL_e (by decide) e1, rfl, ld_in (by decide) (by decide) hi hn, lay400, v, N2, EL_e (by decide) e2, fun _ => k29 N2 hJ2, fun h => absurd rfl h⟩
theorem lc_13 (step : StepL N n f At) (hi : i + 6 ≤ n) (hn : n ≤ 3072) (hJ : JJJ M) (k29 : ∀ M', JJJ M' → At 1429 (LLx (I (i : Int))) [] M') : At 656 (LLx (I (i : Int))) [] M := by
  obtain ⟨v, N1, e1, N2, e2, hJ2⟩ := sw_s_undo  M hJ
  exact step kl_13 ok_kl_13 656 rfl _ _ _ ⟨lay1, v, N1, EL_e (by decide) e1, lay400, v, N2, EL_e (by decide) e2, fun _ => k29 N2 hJ2, fun h => absurd rfl h⟩
theorem lc_14 (step : StepL N n f At) (hi : i + 6 ≤ n) (hn : n ≤ 3072) (hJ : JJJ M) (k29 : ∀ M', JJJ M' → At 1429 (LLx (I (i : Int))) [] M') : At 669 (LLx (I (i : Int))) [] M := by
  obtain ⟨v, N1, e1, N2, e2, hJ2⟩ := sw_s_takes (f (I (i : Int) + I 1).toNatClampNeg) (f (I (i : Int) + I 2).toNatClampNeg) M hJ
  exact step kl_14 ok_kl_14 669 rfl _ _ _ ⟨rfl, ld_in (by decide) (by decide) hi hn, rfl, ld_in (by decide) (by decide) hi hn, lay1, v, N1, EL_e (by decide) e1, rfl, ld_in (by decide) (by decide) hi hn, rfl, ld_in (by decide) (by decide) hi hn, lay400, v, N2, EL_e (by decide) e2, fun _ => k29 N2 hJ2, fun h => absurd rfl h⟩
theorem lc_15 (step : StepL N n f At) (hi : i + 6 ≤ n) (hn : n ≤ 3072) (hJ : JJJ M) (k29 : ∀ M', JJJ M' → At 1429 (LLx (I (i : Int))) [] M') : At 706 (LLx (I (i : Int))) [] M := by
  obtain ⟨v, N1, e1, N2, e2, hJ2⟩ := sw_s_lacks (f (I (i : Int) + I 1).toNatClampNeg) M hJ
  exact step kl_15 ok_kl_15 706 rfl _ _ _ ⟨rfl, ld_in (by decide) (by decide) hi hn, lay1, v, N1, EL_e (by decide) e1, rfl, ld_in (by decide) (by decide) hi hn, lay400, v, N2, EL_e (by decide) e2, fun _ => k29 N2 hJ2, fun h => absurd rfl h⟩
theorem lc_16 (step : StepL N n f At) (hi : i + 6 ≤ n) (hn : n ≤ 3072) (hN : gh M + 1 ≤ N) (hJ : JJJ M) (k29 : ∀ M', JJJ M' → At 1429 (LLx (I (i : Int))) [] M') : At 731 (LLx (I (i : Int))) [] M := by
  obtain ⟨ok, a, N0, hE, hgh, hok, hno⟩ := sw_t_plan (f (I (i : Int) + I 1).toNatClampNeg) (f (I (i : Int) + I 2).toNatClampNeg) M hJ
  by_cases q : ok
  · have e1 := l_plan_ok hE q (hgh q)
    obtain ⟨P, e2, hJP, hth, h5⟩ := hok q (sL (gs N0) 500 0 (I a).toInt64) fun c h1 h2 => ⟨rfl, up2_ne h1, gs_3 h2⟩
    have h50 : P.2.1 500 0 = (I a).toInt64 := by rw [h5]; show up2 N0.2.1 500 0 (I a).toInt64 500 0 = _; rw [up2_eq, upf_eq]
    exact step kl_16 ok_kl_16 731 rfl _ _ _ ⟨rfl, ld_in (by decide) (by decide) hi hn, rfl, ld_in (by decide) (by decide) hi hn, _, _, EL_l (by decide) e1 (by rw [gh_sL, gs_gh, hgh q]) hN, rfl, ld_in (by decide) (by decide) hi hn, rfl, ld_in (by decide) (by decide) hi hn, lay400, _, P, EL_e (by decide) e2, lay400, _, P, EL_e (by decide) e_thr, fun _ => ⟨fun h => absurd rfl h, fun _ => ⟨lay500, inR_e (show alen 500 = 1 by decide +kernel) (inR_c 0 1 (by decide)), fun _ => k29 P hJP, fun h => absurd (lg0.mpr h50) h⟩⟩, fun h => absurd hth h⟩
  · have e1 := l_plan_no hE q
    obtain ⟨v, P, e2, hJP, hth⟩ := hno q (gs M) fun c h1 h2 => ⟨rfl, rfl, gs_3 h2⟩
    exact step kl_16 ok_kl_16 731 rfl _ _ _ ⟨rfl, ld_in (by decide) (by decide) hi hn, rfl, ld_in (by decide) (by decide) hi hn, _, _, EL_l (by decide) e1 gs_gh hN, rfl, ld_in (by decide) (by decide) hi hn, rfl, ld_in (by decide) (by decide) hi hn, lay400, _, P, EL_e (by decide) e2, lay400, _, P, EL_e (by decide) e_thr, fun _ => ⟨fun _ => k29 P hJP, fun h => absurd (show ¬ (I 1 = 0) by decide) h⟩, fun h => absurd hth h⟩
theorem lc_17 (step : StepL N n f At) (hi : i + 6 ≤ n) (hn : n ≤ 3072) (hJ : JJJ M) (k29 : ∀ M', JJJ M' → At 1429 (LLx (I (i : Int))) [] M') : At 799 (LLx (I (i : Int))) [] M := by
  obtain ⟨v, N1, e1, N2, e2, hJ2⟩ := sw_s_planAt (f (I (i : Int) + I 1).toNatClampNeg) M hJ
  exact step kl_17 ok_kl_17 799 rfl _ _ _ ⟨rfl, ld_in (by decide) (by decide) hi hn, lay1, v, N1, EL_e (by decide) e1, rfl, ld_in (by decide) (by decide) hi hn, lay400, v, N2, EL_e (by decide) e2, fun _ => k29 N2 hJ2, fun h => absurd rfl h⟩
theorem lc_18 (step : StepL N n f At) (hi : i + 6 ≤ n) (hn : n ≤ 3072) (hN : gh M + 1 ≤ N) (hJ : JJJ M) (k29 : ∀ M', JJJ M' → At 1429 (LLx (I (i : Int))) [] M') : At 824 (LLx (I (i : Int))) [] M := by
  obtain ⟨ok, a, N0, hE, hgh, hok, hno⟩ := sw_t_sure (f (I (i : Int) + I 1).toNatClampNeg) (f (I (i : Int) + I 2).toNatClampNeg) (f (I (i : Int) + I 3).toNatClampNeg) M hJ
  by_cases q : ok
  · have e1 := l_sure_ok hE q (hgh q)
    obtain ⟨P, e2, hJP, hth, h5⟩ := hok q (sL (gs N0) 500 0 (I a).toInt64) fun c h1 h2 => ⟨rfl, up2_ne h1, gs_3 h2⟩
    have h50 : P.2.1 500 0 = (I a).toInt64 := by rw [h5]; show up2 N0.2.1 500 0 (I a).toInt64 500 0 = _; rw [up2_eq, upf_eq]
    exact step kl_18 ok_kl_18 824 rfl _ _ _ ⟨rfl, ld_in (by decide) (by decide) hi hn, rfl, ld_in (by decide) (by decide) hi hn, rfl, ld_in (by decide) (by decide) hi hn, _, _, EL_l (by decide) e1 (by rw [gh_sL, gs_gh, hgh q]) hN, rfl, ld_in (by decide) (by decide) hi hn, rfl, ld_in (by decide) (by decide) hi hn, rfl, ld_in (by decide) (by decide) hi hn, lay400, _, P, EL_e (by decide) e2, lay400, _, P, EL_e (by decide) e_thr, fun _ => ⟨fun h => absurd rfl h, fun _ => ⟨lay500, inR_e (show alen 500 = 1 by decide +kernel) (inR_c 0 1 (by decide)), fun _ => k29 P hJP, fun h => absurd (lg0.mpr h50) h⟩⟩, fun h => absurd hth h⟩
  · have e1 := l_sure_no hE q
    obtain ⟨v, P, e2, hJP, hth⟩ := hno q (gs M) fun c h1 h2 => ⟨rfl, rfl, gs_3 h2⟩
    exact step kl_18 ok_kl_18 824 rfl _ _ _ ⟨rfl, ld_in (by decide) (by decide) hi hn, rfl, ld_in (by decide) (by decide) hi hn, rfl, ld_in (by decide) (by decide) hi hn, _, _, EL_l (by decide) e1 gs_gh hN, rfl, ld_in (by decide) (by decide) hi hn, rfl, ld_in (by decide) (by decide) hi hn, rfl, ld_in (by decide) (by decide) hi hn, lay400, _, P, EL_e (by decide) e2, lay400, _, P, EL_e (by decide) e_thr, fun _ => ⟨fun _ => k29 P hJP, fun h => absurd (show ¬ (I 1 = 0) by decide) h⟩, fun h => absurd hth h⟩
theorem lc_19 (step : StepL N n f At) (hi : i + 6 ≤ n) (hn : n ≤ 3072) (hJ : JJJ M) (k29 : ∀ M', JJJ M' → At 1429 (LLx (I (i : Int))) [] M') : At 904 (LLx (I (i : Int))) [] M := by
  obtain ⟨v, N1, e1, N2, e2, hJ2⟩ := sw_s_crew (f (I (i : Int) + I 1).toNatClampNeg) M hJ
  exact step kl_19 ok_kl_19 904 rfl _ _ _ ⟨rfl, ld_in (by decide) (by decide) hi hn, lay1, v, N1, EL_e (by decide) e1, rfl, ld_in (by decide) (by decide) hi hn, lay400, v, N2, EL_e (by decide) e2, fun _ => k29 N2 hJ2, fun h => absurd rfl h⟩
theorem lc_20 (step : StepL N n f At) (hi : i + 6 ≤ n) (hn : n ≤ 3072) (hJ : JJJ M) (k29 : ∀ M', JJJ M' → At 1429 (LLx (I (i : Int))) [] M') : At 929 (LLx (I (i : Int))) [] M := by
  obtain ⟨v, N1, e1, N2, e2, hJ2⟩ := sw_s_crewed (f (I (i : Int) + I 1).toNatClampNeg) M hJ
  exact step kl_20 ok_kl_20 929 rfl _ _ _ ⟨rfl, ld_in (by decide) (by decide) hi hn, lay1, v, N1, EL_e (by decide) e1, rfl, ld_in (by decide) (by decide) hi hn, lay400, v, N2, EL_e (by decide) e2, fun _ => k29 N2 hJ2, fun h => absurd rfl h⟩
theorem lc_21 (step : StepL N n f At) (hi : i + 6 ≤ n) (hn : n ≤ 3072) (hJ : JJJ M) (k29 : ∀ M', JJJ M' → At 1429 (LLx (I (i : Int))) [] M') : At 954 (LLx (I (i : Int))) [] M := by
  obtain ⟨v, N1, e1, N2, e2, hJ2⟩ := sw_s_rests (f (I (i : Int) + I 1).toNatClampNeg) (f (I (i : Int) + I 2).toNatClampNeg) M hJ
  exact step kl_21 ok_kl_21 954 rfl _ _ _ ⟨rfl, ld_in (by decide) (by decide) hi hn, rfl, ld_in (by decide) (by decide) hi hn, lay1, v, N1, EL_e (by decide) e1, rfl, ld_in (by decide) (by decide) hi hn, rfl, ld_in (by decide) (by decide) hi hn, lay400, v, N2, EL_e (by decide) e2, fun _ => k29 N2 hJ2, fun h => absurd rfl h⟩
theorem lc_22 (step : StepL N n f At) (hi : i + 6 ≤ n) (hn : n ≤ 3072) (hJ : JJJ M) (k29 : ∀ M', JJJ M' → At 1429 (LLx (I (i : Int))) [] M') : At 991 (LLx (I (i : Int))) [] M := by
  obtain ⟨v, N1, e1, N2, e2, hJ2⟩ := sw_s_walling  M hJ
  exact step kl_22 ok_kl_22 991 rfl _ _ _ ⟨lay1, v, N1, EL_e (by decide) e1, lay400, v, N2, EL_e (by decide) e2, fun _ => k29 N2 hJ2, fun h => absurd rfl h⟩
theorem lc_23 (step : StepL N n f At) (hi : i + 6 ≤ n) (hn : n ≤ 3072) (hJ : JJJ M) (k29 : ∀ M', JJJ M' → At 1429 (LLx (I (i : Int))) [] M') : At 1004 (LLx (I (i : Int))) [] M := by
  obtain ⟨v, N1, e1, N2, e2, hJ2⟩ := sw_s_due (f (I (i : Int) + I 1).toNatClampNeg) (f (I (i : Int) + I 2).toNatClampNeg) M hJ
  exact step kl_23 ok_kl_23 1004 rfl _ _ _ ⟨rfl, ld_in (by decide) (by decide) hi hn, rfl, ld_in (by decide) (by decide) hi hn, lay1, v, N1, EL_e (by decide) e1, rfl, ld_in (by decide) (by decide) hi hn, rfl, ld_in (by decide) (by decide) hi hn, lay400, v, N2, EL_e (by decide) e2, fun _ => k29 N2 hJ2, fun h => absurd rfl h⟩
theorem lc_24 (step : StepL N n f At) (hi : i + 6 ≤ n) (hn : n ≤ 3072) (hJ : JJJ M) (k29 : ∀ M', JJJ M' → At 1429 (LLx (I (i : Int))) [] M') : At 1041 (LLx (I (i : Int))) [] M := by
  obtain ⟨v, N1, e1, N2, e2, hJ2⟩ := sw_s_leaks (f (I (i : Int) + I 1).toNatClampNeg) (f (I (i : Int) + I 2).toNatClampNeg) M hJ
  exact step kl_24 ok_kl_24 1041 rfl _ _ _ ⟨rfl, ld_in (by decide) (by decide) hi hn, rfl, ld_in (by decide) (by decide) hi hn, lay1, v, N1, EL_e (by decide) e1, rfl, ld_in (by decide) (by decide) hi hn, rfl, ld_in (by decide) (by decide) hi hn, lay400, v, N2, EL_e (by decide) e2, fun _ => k29 N2 hJ2, fun h => absurd rfl h⟩
theorem lc_25 (step : StepL N n f At) (hi : i + 6 ≤ n) (hn : n ≤ 3072) (hJ : JJJ M) (k29 : ∀ M', JJJ M' → At 1429 (LLx (I (i : Int))) [] M') : At 1078 (LLx (I (i : Int))) [] M := by
  obtain ⟨v, N1, e1, N2, e2, hJ2⟩ := sw_s_when (f (I (i : Int) + I 1).toNatClampNeg) M hJ
  exact step kl_25 ok_kl_25 1078 rfl _ _ _ ⟨rfl, ld_in (by decide) (by decide) hi hn, lay1, v, N1, EL_e (by decide) e1, rfl, ld_in (by decide) (by decide) hi hn, lay400, v, N2, EL_e (by decide) e2, fun _ => k29 N2 hJ2, fun h => absurd rfl h⟩
theorem lc_26 (step : StepL N n f At) (hi : i + 6 ≤ n) (hn : n ≤ 3072) (hJ : JJJ M) (k29 : ∀ M', JJJ M' → At 1429 (LLx (I (i : Int))) [] M') : At 1103 (LLx (I (i : Int))) [] M := by
  obtain ⟨v, N1, e1, N2, e2, hJ2⟩ := sw_s_last  M hJ
  exact step kl_26 ok_kl_26 1103 rfl _ _ _ ⟨lay1, v, N1, EL_e (by decide) e1, lay400, v, N2, EL_e (by decide) e2, fun _ => k29 N2 hJ2, fun h => absurd rfl h⟩
theorem lc_27 (step : StepL N n f At) (hi : i + 6 ≤ n) (hn : n ≤ 3072) (hJ : JJJ M) (k29 : ∀ M', JJJ M' → At 1429 (LLx (I (i : Int))) [] M') : At 1116 (LLx (I (i : Int))) [] M := by
  obtain ⟨v, N1, e1, N2, e2, hJ2⟩ := sw_s_carpets (f (I (i : Int) + I 1).toNatClampNeg) M hJ
  exact step kl_27 ok_kl_27 1116 rfl _ _ _ ⟨rfl, ld_in (by decide) (by decide) hi hn, lay1, v, N1, EL_e (by decide) e1, rfl, ld_in (by decide) (by decide) hi hn, lay400, v, N2, EL_e (by decide) e2, fun _ => k29 N2 hJ2, fun h => absurd rfl h⟩
theorem lc_28 (step : StepL N n f At) (hi : i + 6 ≤ n) (hn : n ≤ 3072) (hJ : JJJ M) (k29 : ∀ M', JJJ M' → At 1429 (LLx (I (i : Int))) [] M') : At 1141 (LLx (I (i : Int))) [] M := by
  obtain ⟨v, N1, e1, N2, e2, hJ2⟩ := sw_s_carried  M hJ
  exact step kl_28 ok_kl_28 1141 rfl _ _ _ ⟨lay1, v, N1, EL_e (by decide) e1, lay400, v, N2, EL_e (by decide) e2, fun _ => k29 N2 hJ2, fun h => absurd rfl h⟩
theorem lc_29 (step : StepL N n f At) (hi : i + 6 ≤ n) (hn : n ≤ 3072) (hJ : JJJ M) (k29 : ∀ M', JJJ M' → At 1429 (LLx (I (i : Int))) [] M') : At 1154 (LLx (I (i : Int))) [] M := by
  obtain ⟨v, N1, e1, N2, e2, hJ2⟩ := sw_s_built  M hJ
  exact step kl_29 ok_kl_29 1154 rfl _ _ _ ⟨lay1, v, N1, EL_e (by decide) e1, lay400, v, N2, EL_e (by decide) e2, fun _ => k29 N2 hJ2, fun h => absurd rfl h⟩
theorem lc_30 (step : StepL N n f At) (hi : i + 6 ≤ n) (hn : n ≤ 3072) (hJ : JJJ M) (k29 : ∀ M', JJJ M' → At 1429 (LLx (I (i : Int))) [] M') : At 1167 (LLx (I (i : Int))) [] M := by
  obtain ⟨v, N1, e1, N2, e2, hJ2⟩ := sw_s_most  M hJ
  exact step kl_30 ok_kl_30 1167 rfl _ _ _ ⟨lay1, v, N1, EL_e (by decide) e1, lay400, v, N2, EL_e (by decide) e2, fun _ => k29 N2 hJ2, fun h => absurd rfl h⟩
theorem lc_31 (step : StepL N n f At) (hi : i + 6 ≤ n) (hn : n ≤ 3072) (hJ : JJJ M) (k29 : ∀ M', JJJ M' → At 1429 (LLx (I (i : Int))) [] M') : At 1180 (LLx (I (i : Int))) [] M := by
  obtain ⟨v, N1, e1, N2, e2, hJ2⟩ := sw_s_drawn (f (I (i : Int) + I 1).toNatClampNeg) (f (I (i : Int) + I 2).toNatClampNeg) M hJ
  exact step kl_31 ok_kl_31 1180 rfl _ _ _ ⟨rfl, ld_in (by decide) (by decide) hi hn, rfl, ld_in (by decide) (by decide) hi hn, lay1, v, N1, EL_e (by decide) e1, rfl, ld_in (by decide) (by decide) hi hn, rfl, ld_in (by decide) (by decide) hi hn, lay400, v, N2, EL_e (by decide) e2, fun _ => k29 N2 hJ2, fun h => absurd rfl h⟩
theorem lc_32 (step : StepL N n f At) (hi : i + 6 ≤ n) (hn : n ≤ 3072) (hJ : JJJ M) (k29 : ∀ M', JJJ M' → At 1429 (LLx (I (i : Int))) [] M') : At 1217 (LLx (I (i : Int))) [] M := by
  obtain ⟨v, N1, e1, N2, e2, hJ2⟩ := sw_s_odds (f (I (i : Int) + I 1).toNatClampNeg) (f (I (i : Int) + I 2).toNatClampNeg) (f (I (i : Int) + I 3).toNatClampNeg) M hJ
  exact step kl_32 ok_kl_32 1217 rfl _ _ _ ⟨rfl, ld_in (by decide) (by decide) hi hn, rfl, ld_in (by decide) (by decide) hi hn, rfl, ld_in (by decide) (by decide) hi hn, lay1, v, N1, EL_e (by decide) e1, rfl, ld_in (by decide) (by decide) hi hn, rfl, ld_in (by decide) (by decide) hi hn, rfl, ld_in (by decide) (by decide) hi hn, lay400, v, N2, EL_e (by decide) e2, fun _ => k29 N2 hJ2, fun h => absurd rfl h⟩
theorem lc_33 (step : StepL N n f At) (hi : i + 6 ≤ n) (hn : n ≤ 3072) (hJ : JJJ M) (k29 : ∀ M', JJJ M' → At 1429 (LLx (I (i : Int))) [] M') : At 1266 (LLx (I (i : Int))) [] M := by
  obtain ⟨v, N1, e1, N2, e2, hJ2⟩ := sw_s_book (f (I (i : Int) + I 1).toNatClampNeg) M hJ
  exact step kl_33 ok_kl_33 1266 rfl _ _ _ ⟨rfl, ld_in (by decide) (by decide) hi hn, lay1, v, N1, EL_e (by decide) e1, rfl, ld_in (by decide) (by decide) hi hn, lay400, v, N2, EL_e (by decide) e2, fun _ => k29 N2 hJ2, fun h => absurd rfl h⟩
theorem lc_34 (step : StepL N n f At) (hi : i + 6 ≤ n) (hn : n ≤ 3072) (hJ : JJJ M) (k29 : ∀ M', JJJ M' → At 1429 (LLx (I (i : Int))) [] M') : At 1291 (LLx (I (i : Int))) [] M := by
  obtain ⟨v, N1, e1, N2, e2, hJ2⟩ := sw_s_told (f (I (i : Int) + I 1).toNatClampNeg) M hJ
  exact step kl_34 ok_kl_34 1291 rfl _ _ _ ⟨rfl, ld_in (by decide) (by decide) hi hn, lay1, v, N1, EL_e (by decide) e1, rfl, ld_in (by decide) (by decide) hi hn, lay400, v, N2, EL_e (by decide) e2, fun _ => k29 N2 hJ2, fun h => absurd rfl h⟩
theorem lc_35 (step : StepL N n f At) (hi : i + 6 ≤ n) (hn : n ≤ 3072) (hJ : JJJ M) (k29 : ∀ M', JJJ M' → At 1429 (LLx (I (i : Int))) [] M') : At 1316 (LLx (I (i : Int))) [] M := by
  obtain ⟨v, N1, e1, N2, e2, hJ2⟩ := sw_s_sentence  M hJ
  exact step kl_35 ok_kl_35 1316 rfl _ _ _ ⟨lay1, v, N1, EL_e (by decide) e1, lay400, v, N2, EL_e (by decide) e2, fun _ => k29 N2 hJ2, fun h => absurd rfl h⟩
theorem lc_36 (step : StepL N n f At) (hi : i + 6 ≤ n) (hn : n ≤ 3072) (hJ : JJJ M) (k29 : ∀ M', JJJ M' → At 1429 (LLx (I (i : Int))) [] M') : At 1329 (LLx (I (i : Int))) [] M := by
  obtain ⟨v, N1, e1, N2, e2, hJ2⟩ := sw_s_said (f (I (i : Int) + I 1).toNatClampNeg) M hJ
  exact step kl_36 ok_kl_36 1329 rfl _ _ _ ⟨rfl, ld_in (by decide) (by decide) hi hn, lay1, v, N1, EL_e (by decide) e1, rfl, ld_in (by decide) (by decide) hi hn, lay400, v, N2, EL_e (by decide) e2, fun _ => k29 N2 hJ2, fun h => absurd rfl h⟩
theorem lc_37 (step : StepL N n f At) (hi : i + 6 ≤ n) (hn : n ≤ 3072) (hJ : JJJ M) (k29 : ∀ M', JJJ M' → At 1429 (LLx (I (i : Int))) [] M') : At 1354 (LLx (I (i : Int))) [] M := by
  obtain ⟨v, N1, e1, N2, e2, hJ2⟩ := sw_s_image (f (I (i : Int) + I 1).toNatClampNeg) M hJ
  exact step kl_37 ok_kl_37 1354 rfl _ _ _ ⟨rfl, ld_in (by decide) (by decide) hi hn, lay1, v, N1, EL_e (by decide) e1, rfl, ld_in (by decide) (by decide) hi hn, lay400, v, N2, EL_e (by decide) e2, fun _ => k29 N2 hJ2, fun h => absurd rfl h⟩
theorem lc_38 (step : StepL N n f At) (hi : i + 6 ≤ n) (hn : n ≤ 3072) (hJ : JJJ M) (k29 : ∀ M', JJJ M' → At 1429 (LLx (I (i : Int))) [] M') : At 1379 (LLx (I (i : Int))) [] M := by
  obtain ⟨v, N1, e1, N2, e2, hJ2⟩ := sw_s_restore (f (I (i : Int) + I 1).toNatClampNeg) M hJ
  exact step kl_38 ok_kl_38 1379 rfl _ _ _ ⟨rfl, ld_in (by decide) (by decide) hi hn, lay1, v, N1, EL_e (by decide) e1, rfl, ld_in (by decide) (by decide) hi hn, lay400, v, N2, EL_e (by decide) e2, fun _ => k29 N2 hJ2, fun h => absurd rfl h⟩
theorem lc_39 (step : StepL N n f At) (hi : i + 6 ≤ n) (hn : n ≤ 3072) (hJ : JJJ M) (k29 : ∀ M', JJJ M' → At 1429 (LLx (I (i : Int))) [] M') : At 1404 (LLx (I (i : Int))) [] M := by
  obtain ⟨v, N1, e1, N2, e2, hJ2⟩ := sw_s_count (f (I (i : Int) + I 1).toNatClampNeg) M hJ
  exact step kl_39 ok_kl_39 1404 rfl _ _ _ ⟨rfl, ld_in (by decide) (by decide) hi hn, lay1, v, N1, EL_e (by decide) e1, rfl, ld_in (by decide) (by decide) hi hn, lay400, v, N2, EL_e (by decide) e2, fun _ => k29 N2 hJ2, fun h => absurd rfl h⟩
theorem l_inc (step : StepL N n f At) (k23 : At 23 (LLx (I ((i + 6 : Nat) : Int))) [] M) : At 1429 (LLx (I (i : Int))) [] M := by
  refine step kl_inc ok_kl_inc 1429 rfl _ _ _ ?_
  have e : I (i : Int) + I 6 = I ((i + 6 : Nat) : Int) := by rw [I_add]; rfl
  show At 23 (LLx (I (i : Int) + I 6)) [] M
  rw [e]
  exact k23
theorem l_head (step : StepL N n f At) (hn : n ≤ 3072) (hi : i ≤ n) (hN : gh M + 1 ≤ N) (hJ : JJJ M) (k29 : i + 6 ≤ n → ∀ M', JJJ M' → At 1429 (LLx (I (i : Int))) [] M') : At 23 (LLx (I (i : Int))) [] M := by
  refine step kl_head ok_kl_head 23 rfl _ _ _ ⟨rfl, fun _ => ⟨Or.inr rfl, rfl⟩, fun hle => ?_⟩
  have h6 : i + 6 ≤ n := by
    have hle : ¬ (I (n : Int) - I 6 < I (i : Int)) := hle
    rw [I_sub, I_lt (by omega) (by omega) (by omega) (by omega)] at hle
    omega
  refine ⟨rfl, ?_, swT_all (fun t ht => ?_) (k29 h6 M hJ)⟩
  · have := ld_in (k := 0) (by decide) (by decide) h6 hn
    rw [I_add, Int.add_zero] at this
    exact this
  · have ht : t ∈ ([216, 289, 314, 327, 340, 377, 445, 482, 507, 532, 581, 606, 631, 656, 669, 706, 731, 799, 824, 904, 929, 954, 991, 1004, 1041, 1078, 1103, 1116, 1141, 1154, 1167, 1180, 1217, 1266, 1291, 1316, 1329, 1354, 1379, 1404] : List Nat) := ht
    simp only [List.mem_cons, List.not_mem_nil, or_false] at ht
    rcases ht with rfl | rfl | rfl | rfl | rfl | rfl | rfl | rfl | rfl | rfl | rfl | rfl | rfl | rfl | rfl | rfl | rfl | rfl | rfl | rfl | rfl | rfl | rfl | rfl | rfl | rfl | rfl | rfl | rfl | rfl | rfl | rfl | rfl | rfl | rfl | rfl | rfl | rfl | rfl | rfl
    · exact lc_0 step h6 hn hJ (k29 h6)
    · exact lc_1 step h6 hn hJ (k29 h6)
    · exact lc_2 step h6 hn hJ (k29 h6)
    · exact lc_3 step h6 hn hJ (k29 h6)
    · exact lc_4 step h6 hn hJ (k29 h6)
    · exact lc_5 step h6 hn hN hJ (k29 h6)
    · exact lc_6 step h6 hn hJ (k29 h6)
    · exact lc_7 step h6 hn hJ (k29 h6)
    · exact lc_8 step h6 hn hJ (k29 h6)
    · exact lc_9 step h6 hn hJ (k29 h6)
    · exact lc_10 step h6 hn hJ (k29 h6)
    · exact lc_11 step h6 hn hJ (k29 h6)
    · exact lc_12 step h6 hn hJ (k29 h6)
    · exact lc_13 step h6 hn hJ (k29 h6)
    · exact lc_14 step h6 hn hJ (k29 h6)
    · exact lc_15 step h6 hn hJ (k29 h6)
    · exact lc_16 step h6 hn hN hJ (k29 h6)
    · exact lc_17 step h6 hn hJ (k29 h6)
    · exact lc_18 step h6 hn hN hJ (k29 h6)
    · exact lc_19 step h6 hn hJ (k29 h6)
    · exact lc_20 step h6 hn hJ (k29 h6)
    · exact lc_21 step h6 hn hJ (k29 h6)
    · exact lc_22 step h6 hn hJ (k29 h6)
    · exact lc_23 step h6 hn hJ (k29 h6)
    · exact lc_24 step h6 hn hJ (k29 h6)
    · exact lc_25 step h6 hn hJ (k29 h6)
    · exact lc_26 step h6 hn hJ (k29 h6)
    · exact lc_27 step h6 hn hJ (k29 h6)
    · exact lc_28 step h6 hn hJ (k29 h6)
    · exact lc_29 step h6 hn hJ (k29 h6)
    · exact lc_30 step h6 hn hJ (k29 h6)
    · exact lc_31 step h6 hn hJ (k29 h6)
    · exact lc_32 step h6 hn hJ (k29 h6)
    · exact lc_33 step h6 hn hJ (k29 h6)
    · exact lc_34 step h6 hn hJ (k29 h6)
    · exact lc_35 step h6 hn hJ (k29 h6)
    · exact lc_36 step h6 hn hJ (k29 h6)
    · exact lc_37 step h6 hn hJ (k29 h6)
    · exact lc_38 step h6 hn hJ (k29 h6)
    · exact lc_39 step h6 hn hJ (k29 h6)
end LAWC
