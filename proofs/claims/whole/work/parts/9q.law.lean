/-! the law: its loop -/
def C_law : List EI := [(16, .iconst 0, 1, []), (17, .istore_n 3, 1, []), (18, .iload_n 3, 1, []), (19, .aload_n 0, 1, []), (20, .arraylength, 1, []), (21, .bipush 6, 2, []), (23, .isub, 1, []), (24, .if_icmp .gt 1649, 3, [1153]), (27, .aload_n 0, 1, []), (28, .iload_n 3, 1, []), (29, .iaload, 1, []), (30, .bipush 63, 2, []), (32, .iand, 1, []), (33, .tableswitch 1634 0 44 #[195, 258, 281, 294, 327, 360, 383, 416, 449, 472, 505, 518, 541, 564, 587, 630, 673, 716, 765, 814, 847, 870, 893, 916, 959, 992, 1025, 1074, 1097, 1120, 1143, 1192, 1225, 1258, 1281, 1304, 1347, 1400, 1443, 1466, 1489, 1512, 1545, 1578, 1611], 195, [1151, 14, 71, 88, 95, 122, 149, 166, 193, 220, 237, 264, 271, 288, 305, 322, 359, 396, 433, 468, 503, 530, 547, 564, 581, 618, 645, 672, 707, 724, 741, 758, 793, 820, 847, 864, 881, 918, 965, 1002, 1019, 1036, 1053, 1080, 1107, 1134]), (228, .aload_n 1, 1, []), (229, .aload_n 0, 1, []), (230, .iload_n 3, 1, []), (231, .iconst 1, 1, []), (232, .iadd, 1, []), (233, .iaload, 1, []), (234, .aload_n 0, 1, []), (235, .iload_n 3, 1, []), (236, .iconst 2, 1, []), (237, .iadd, 1, []), (238, .iaload, 1, []), (239, .aload_n 0, 1, []), (240, .iload_n 3, 1, []), (241, .iconst 3, 1, []), (242, .iadd, 1, []), (243, .iaload, 1, []), (244, .aload_n 0, 1, []), (245, .iload_n 3, 1, []), (246, .iconst 4, 1, []), (247, .iadd, 1, []), (248, .iaload, 1, []), (249, .aload_n 0, 1, []), (250, .iload_n 3, 1, []), (251, .iconst 5, 1, []), (252, .iadd, 1, []), (253, .iaload, 1, []), (254, .invokevirtual 13, 3, [0, 5, 11, 1, 0, 2, 78]), (257, .aload_n 2, 1, []), (258, .aload_n 0, 1, []), (259, .iload_n 3, 1, []), (260, .iconst 1, 1, []), (261, .iadd, 1, []), (262, .iaload, 1, []), (263, .aload_n 0, 1, []), (264, .iload_n 3, 1, []), (265, .iconst 2, 1, []), (266, .iadd, 1, []), (267, .iaload, 1, []), (268, .aload_n 0, 1, []), (269, .iload_n 3, 1, []), (270, .iconst 3, 1, []), (271, .iadd, 1, []), (272, .iaload, 1, []), (273, .aload_n 0, 1, []), (274, .iload_n 3, 1, []), (275, .iconst 4, 1, []), (276, .iadd, 1, []), (277, .iaload, 1, []), (278, .aload_n 0, 1, []), (279, .iload_n 3, 1, []), (280, .iconst 5, 1, []), (281, .iadd, 1, []), (282, .iaload, 1, []), (283, .invokevirtual 17, 3, [1, 5, 12, 1, 0, 7, 110]), (286, .if_icmp .eq 1381, 3, [1151]), (289, .iconst 0, 1, []), (290, .ireturn, 1, []), (291, .aload_n 1, 1, []), (292, .aload_n 0, 1, []), (293, .iload_n 3, 1, []), (294, .iconst 1, 1, []), (295, .iadd, 1, []), (296, .iaload, 1, []), (297, .invokevirtual 18, 3, [2, 1, 11, 1, 0, 2, 90]), (300, .aload_n 2, 1, []), (301, .aload_n 0, 1, []), (302, .iload_n 3, 1, []), (303, .iconst 1, 1, []), (304, .iadd, 1, []), (305, .iaload, 1, []), (306, .invokevirtual 22, 3, [3, 1, 12, 1, 0, 7, 118]), (309, .if_icmp .eq 1358, 3, [1151]), (312, .iconst 0, 1, []), (313, .ireturn, 1, []), (314, .aload_n 1, 1, []), (315, .invokevirtual 23, 3, [4, 0, 11, 1, 0, 2, 98]), (318, .aload_n 2, 1, []), (319, .invokevirtual 27, 3, [5, 0, 12, 1, 0, 7, 122]), (322, .if_icmp .eq 1345, 3, [1151]), (325, .iconst 0, 1, []), (326, .ireturn, 1, []), (327, .aload_n 1, 1, []), (328, .aload_n 0, 1, []), (329, .iload_n 3, 1, []), (330, .iconst 1, 1, []), (331, .iadd, 1, []), (332, .iaload, 1, []), (333, .aload_n 0, 1, []), (334, .iload_n 3, 1, []), (335, .iconst 2, 1, []), (336, .iadd, 1, []), (337, .iaload, 1, []), (338, .invokevirtual 28, 3, [6, 2, 11, 1, 0, 3, 32]), (341, .aload_n 2, 1, []), (342, .aload_n 0, 1, []), (343, .iload_n 3, 1, []), (344, .iconst 1, 1, []), (345, .iadd, 1, []), (346, .iaload, 1, []), (347, .aload_n 0, 1, []), (348, .iload_n 3, 1, []), (349, .iconst 2, 1, []), (350, .iadd, 1, []), (351, .iaload, 1, []), (352, .invokevirtual 32, 3, [7, 2, 12, 1, 0, 7, 50]), (355, .if_icmp .eq 1312, 3, [1151]), (358, .iconst 0, 1, []), (359, .ireturn, 1, []), (360, .aload_n 1, 1, []), (361, .aload_n 0, 1, []), (362, .iload_n 3, 1, []), (363, .iconst 1, 1, []), (364, .iadd, 1, []), (365, .iaload, 1, []), (366, .aload_n 0, 1, []), (367, .iload_n 3, 1, []), (368, .iconst 2, 1, []), (369, .iadd, 1, []), (370, .iaload, 1, []), (371, .invokevirtual 33, 3, [8, 2, 11, 1, 0, 3, 59]), (374, .aload_n 2, 1, []), (375, .aload_n 0, 1, []), (376, .iload_n 3, 1, []), (377, .iconst 1, 1, []), (378, .iadd, 1, []), (379, .iaload, 1, []), (380, .aload_n 0, 1, []), (381, .iload_n 3, 1, []), (382, .iconst 2, 1, []), (383, .iadd, 1, []), (384, .iaload, 1, []), (385, .invokevirtual 36, 3, [9, 2, 12, 1, 0, 7, 62]), (388, .if_icmp .eq 1279, 3, [1151]), (391, .iconst 0, 1, []), (392, .ireturn, 1, []), (393, .aload_n 1, 1, []), (394, .aload_n 0, 1, []), (395, .iload_n 3, 1, []), (396, .iconst 1, 1, []), (397, .iadd, 1, []), (398, .iaload, 1, []), (399, .invokevirtual 37, 3, [10, 1, 11, 1, 0, 3, 66]), (402, .aload_n 2, 1, []), (403, .aload_n 0, 1, []), (404, .iload_n 3, 1, []), (405, .iconst 1, 1, []), (406, .iadd, 1, []), (407, .iaload, 1, []), (408, .invokevirtual 40, 3, [11, 1, 12, 1, 0, 7, 66]), (411, .if_icmp .eq 1256, 3, [1151]), (414, .iconst 0, 1, []), (415, .ireturn, 1, []), (416, .aload_n 1, 1, []), (417, .aload_n 0, 1, []), (418, .iload_n 3, 1, []), (419, .iconst 1, 1, []), (420, .iadd, 1, []), (421, .iaload, 1, []), (422, .aload_n 0, 1, []), (423, .iload_n 3, 1, []), (424, .iconst 2, 1, []), (425, .iadd, 1, []), (426, .iaload, 1, []), (427, .invokevirtual 41, 3, [12, 2, 11, 1, 0, 3, 70]), (430, .aload_n 2, 1, []), (431, .aload_n 0, 1, []), (432, .iload_n 3, 1, []), (433, .iconst 1, 1, []), (434, .iadd, 1, []), (435, .iaload, 1, []), (436, .aload_n 0, 1, []), (437, .iload_n 3, 1, []), (438, .iconst 2, 1, []), (439, .iadd, 1, []), (440, .iaload, 1, []), (441, .invokevirtual 44, 3, [13, 2, 12, 1, 0, 7, 70]), (444, .if_icmp .eq 1223, 3, [1151]), (447, .iconst 0, 1, []), (448, .ireturn, 1, []), (449, .aload_n 1, 1, []), (450, .aload_n 0, 1, []), (451, .iload_n 3, 1, []), (452, .iconst 1, 1, []), (453, .iadd, 1, []), (454, .iaload, 1, []), (455, .aload_n 0, 1, []), (456, .iload_n 3, 1, []), (457, .iconst 2, 1, []), (458, .iadd, 1, []), (459, .iaload, 1, []), (460, .invokevirtual 45, 3, [14, 2, 11, 1, 0, 3, 86]), (463, .aload_n 2, 1, []), (464, .aload_n 0, 1, []), (465, .iload_n 3, 1, []), (466, .iconst 1, 1, []), (467, .iadd, 1, []), (468, .iaload, 1, []), (469, .aload_n 0, 1, []), (470, .iload_n 3, 1, []), (471, .iconst 2, 1, []), (472, .iadd, 1, []), (473, .iaload, 1, []), (474, .invokevirtual 48, 3, [15, 2, 12, 1, 0, 7, 86]), (477, .if_icmp .eq 1190, 3, [1151]), (480, .iconst 0, 1, []), (481, .ireturn, 1, []), (482, .aload_n 1, 1, []), (483, .aload_n 0, 1, []), (484, .iload_n 3, 1, []), (485, .iconst 1, 1, []), (486, .iadd, 1, []), (487, .iaload, 1, []), (488, .invokevirtual 49, 3, [16, 1, 11, 1, 0, 3, 94]), (491, .aload_n 2, 1, []), (492, .aload_n 0, 1, []), (493, .iload_n 3, 1, []), (494, .iconst 1, 1, []), (495, .iadd, 1, []), (496, .iaload, 1, []), (497, .invokevirtual 52, 3, [17, 1, 12, 1, 0, 7, 90]), (500, .if_icmp .eq 1167, 3, [1151]), (503, .iconst 0, 1, []), (504, .ireturn, 1, []), (505, .aload_n 1, 1, []), (506, .aload_n 0, 1, []), (507, .iload_n 3, 1, []), (508, .iconst 1, 1, []), (509, .iadd, 1, []), (510, .iaload, 1, []), (511, .aload_n 0, 1, []), (512, .iload_n 3, 1, []), (513, .iconst 2, 1, []), (514, .iadd, 1, []), (515, .iaload, 1, []), (516, .invokevirtual 53, 3, [18, 2, 11, 1, 0, 3, 98]), (519, .aload_n 2, 1, []), (520, .aload_n 0, 1, []), (521, .iload_n 3, 1, []), (522, .iconst 1, 1, []), (523, .iadd, 1, []), (524, .iaload, 1, []), (525, .aload_n 0, 1, []), (526, .iload_n 3, 1, []), (527, .iconst 2, 1, []), (528, .iadd, 1, []), (529, .iaload, 1, []), (530, .invokevirtual 56, 3, [19, 2, 12, 1, 0, 7, 94]), (533, .if_icmp .eq 1134, 3, [1151]), (536, .iconst 0, 1, []), (537, .ireturn, 1, []), (538, .aload_n 1, 1, []), (539, .invokevirtual 57, 3, [20, 0, 11, 1, 0, 3, 110]), (542, .aload_n 2, 1, []), (543, .invokevirtual 60, 3, [21, 0, 12, 1, 0, 7, 98]), (546, .if_icmp .eq 1121, 3, [1151]), (549, .iconst 0, 1, []), (550, .ireturn, 1, []), (551, .aload_n 1, 1, []), (552, .aload_n 0, 1, []), (553, .iload_n 3, 1, []), (554, .iconst 1, 1, []), (555, .iadd, 1, []), (556, .iaload, 1, []), (557, .invokevirtual 61, 3, [22, 1, 11, 1, 0, 3, 122]), (560, .aload_n 2, 1, []), (561, .aload_n 0, 1, []), (562, .iload_n 3, 1, []), (563, .iconst 1, 1, []), (564, .iadd, 1, []), (565, .iaload, 1, []), (566, .invokevirtual 64, 3, [23, 1, 12, 1, 0, 7, 102]), (569, .if_icmp .eq 1098, 3, [1151]), (572, .iconst 0, 1, []), (573, .ireturn, 1, []), (574, .aload_n 1, 1, []), (575, .aload_n 0, 1, []), (576, .iload_n 3, 1, []), (577, .iconst 1, 1, []), (578, .iadd, 1, []), (579, .iaload, 1, []), (580, .invokevirtual 65, 3, [24, 1, 11, 1, 0, 3, 126]), (583, .aload_n 2, 1, []), (584, .aload_n 0, 1, []), (585, .iload_n 3, 1, []), (586, .iconst 1, 1, []), (587, .iadd, 1, []), (588, .iaload, 1, []), (589, .invokevirtual 68, 3, [25, 1, 12, 1, 0, 7, 106]), (592, .if_icmp .eq 1075, 3, [1151]), (595, .iconst 0, 1, []), (596, .ireturn, 1, []), (597, .aload_n 1, 1, []), (598, .aload_n 0, 1, []), (599, .iload_n 3, 1, []), (600, .iconst 1, 1, []), (601, .iadd, 1, []), (602, .iaload, 1, []), (603, .invokevirtual 69, 3, [26, 1, 11, 1, 0, 3, 130]), (606, .aload_n 2, 1, []), (607, .aload_n 0, 1, []), (608, .iload_n 3, 1, []), (609, .iconst 1, 1, []), (610, .iadd, 1, []), (611, .iaload, 1, []), (612, .invokevirtual 72, 3, [27, 1, 12, 1, 0, 5, 227]), (615, .if_icmp .eq 1052, 3, [1151]), (618, .iconst 0, 1, []), (619, .ireturn, 1, []), (620, .aload_n 1, 1, []), (621, .aload_n 0, 1, []), (622, .iload_n 3, 1, []), (623, .iconst 1, 1, []), (624, .iadd, 1, []), (625, .iaload, 1, []), (626, .aload_n 0, 1, []), (627, .iload_n 3, 1, []), (628, .iconst 2, 1, []), (629, .iadd, 1, []), (630, .iaload, 1, []), (631, .aload_n 0, 1, []), (632, .iload_n 3, 1, []), (633, .iconst 3, 1, []), (634, .iadd, 1, []), (635, .iaload, 1, []), (636, .invokevirtual 73, 3, [28, 3, 11, 1, 0, 3, 134]), (639, .aload_n 2, 1, []), (640, .aload_n 0, 1, []), (641, .iload_n 3, 1, []), (642, .iconst 1, 1, []), (643, .iadd, 1, []), (644, .iaload, 1, []), (645, .aload_n 0, 1, []), (646, .iload_n 3, 1, []), (647, .iconst 2, 1, []), (648, .iadd, 1, []), (649, .iaload, 1, []), (650, .aload_n 0, 1, []), (651, .iload_n 3, 1, []), (652, .iconst 3, 1, []), (653, .iadd, 1, []), (654, .iaload, 1, []), (655, .invokevirtual 77, 3, [29, 3, 12, 1, 0, 6, 24]), (658, .if_icmp .eq 1009, 3, [1151]), (661, .iconst 0, 1, []), (662, .ireturn, 1, []), (663, .aload_n 1, 1, []), (664, .aload_n 0, 1, []), (665, .iload_n 3, 1, []), (666, .iconst 1, 1, []), (667, .iadd, 1, []), (668, .iaload, 1, []), (669, .aload_n 0, 1, []), (670, .iload_n 3, 1, []), (671, .iconst 2, 1, []), (672, .iadd, 1, []), (673, .iaload, 1, []), (674, .aload_n 0, 1, []), (675, .iload_n 3, 1, []), (676, .iconst 3, 1, []), (677, .iadd, 1, []), (678, .iaload, 1, []), (679, .invokevirtual 78, 3, [30, 3, 11, 1, 0, 3, 161]), (682, .aload_n 2, 1, []), (683, .aload_n 0, 1, []), (684, .iload_n 3, 1, []), (685, .iconst 1, 1, []), (686, .iadd, 1, []), (687, .iaload, 1, []), (688, .aload_n 0, 1, []), (689, .iload_n 3, 1, []), (690, .iconst 2, 1, []), (691, .iadd, 1, []), (692, .iaload, 1, []), (693, .aload_n 0, 1, []), (694, .iload_n 3, 1, []), (695, .iconst 3, 1, []), (696, .iadd, 1, []), (697, .iaload, 1, []), (698, .invokevirtual 81, 3, [31, 3, 12, 1, 0, 6, 36]), (701, .if_icmp .eq 966, 3, [1151]), (704, .iconst 0, 1, []), (705, .ireturn, 1, []), (706, .aload_n 1, 1, []), (707, .aload_n 0, 1, []), (708, .iload_n 3, 1, []), (709, .iconst 1, 1, []), (710, .iadd, 1, []), (711, .iaload, 1, []), (712, .aload_n 0, 1, []), (713, .iload_n 3, 1, []), (714, .iconst 2, 1, []), (715, .iadd, 1, []), (716, .iaload, 1, []), (717, .aload_n 0, 1, []), (718, .iload_n 3, 1, []), (719, .iconst 3, 1, []), (720, .iadd, 1, []), (721, .iaload, 1, []), (722, .invokevirtual 82, 3, [32, 3, 11, 1, 0, 3, 166]), (725, .aload_n 2, 1, []), (726, .aload_n 0, 1, []), (727, .iload_n 3, 1, []), (728, .iconst 1, 1, []), (729, .iadd, 1, []), (730, .iaload, 1, []), (731, .aload_n 0, 1, []), (732, .iload_n 3, 1, []), (733, .iconst 2, 1, []), (734, .iadd, 1, []), (735, .iaload, 1, []), (736, .aload_n 0, 1, []), (737, .iload_n 3, 1, []), (738, .iconst 3, 1, []), (739, .iadd, 1, []), (740, .iaload, 1, []), (741, .invokevirtual 85, 3, [33, 3, 12, 1, 0, 6, 40]), (744, .if_icmp .eq 923, 3, [1151]), (747, .iconst 0, 1, []), (748, .ireturn, 1, []), (749, .aload_n 1, 1, []), (750, .aload_n 0, 1, []), (751, .iload_n 3, 1, []), (752, .iconst 1, 1, []), (753, .iadd, 1, []), (754, .iaload, 1, []), (755, .ifCond .eq 7, 3, [442]), (758, .iconst 1, 1, []), (759, .goto 4, 3, [443]), (762, .iconst 0, 1, []), (763, .aload_n 0, 1, []), (764, .iload_n 3, 1, []), (765, .iconst 2, 1, []), (766, .iadd, 1, []), (767, .iaload, 1, []), (768, .invokevirtual 86, 3, [34, 2, 11, 1, 0, 3, 223]), (771, .aload_n 2, 1, []), (772, .aload_n 0, 1, []), (773, .iload_n 3, 1, []), (774, .iconst 1, 1, []), (775, .iadd, 1, []), (776, .iaload, 1, []), (777, .ifCond .eq 7, 3, [458]), (780, .iconst 1, 1, []), (781, .goto 4, 3, [459]), (784, .iconst 0, 1, []), (785, .aload_n 0, 1, []), (786, .iload_n 3, 1, []), (787, .iconst 2, 1, []), (788, .iadd, 1, []), (789, .iaload, 1, []), (790, .invokevirtual 90, 3, [35, 2, 12, 1, 0, 6, 60]), (793, .if_icmp .eq 874, 3, [1151]), (796, .iconst 0, 1, []), (797, .ireturn, 1, []), (798, .aload_n 1, 1, []), (799, .aload_n 0, 1, []), (800, .iload_n 3, 1, []), (801, .iconst 1, 1, []), (802, .iadd, 1, []), (803, .iaload, 1, []), (804, .ifCond .eq 7, 3, [477]), (807, .iconst 1, 1, []), (808, .goto 4, 3, [478]), (811, .iconst 0, 1, []), (812, .aload_n 0, 1, []), (813, .iload_n 3, 1, []), (814, .iconst 2, 1, []), (815, .iadd, 1, []), (816, .iaload, 1, []), (817, .invokevirtual 91, 3, [36, 2, 11, 1, 0, 3, 237]), (820, .aload_n 2, 1, []), (821, .aload_n 0, 1, []), (822, .iload_n 3, 1, []), (823, .iconst 1, 1, []), (824, .iadd, 1, []), (825, .iaload, 1, []), (826, .ifCond .eq 7, 3, [493]), (829, .iconst 1, 1, []), (830, .goto 4, 3, [494]), (833, .iconst 0, 1, []), (834, .aload_n 0, 1, []), (835, .iload_n 3, 1, []), (836, .iconst 2, 1, []), (837, .iadd, 1, []), (838, .iaload, 1, []), (839, .invokevirtual 94, 3, [37, 2, 12, 1, 0, 6, 72]), (842, .if_icmp .eq 825, 3, [1151]), (845, .iconst 0, 1, []), (846, .ireturn, 1, []), (847, .aload_n 1, 1, []), (848, .aload_n 0, 1, []), (849, .iload_n 3, 1, []), (850, .iconst 1, 1, []), (851, .iadd, 1, []), (852, .iaload, 1, []), (853, .aload_n 0, 1, []), (854, .iload_n 3, 1, []), (855, .iconst 2, 1, []), (856, .iadd, 1, []), (857, .iaload, 1, []), (858, .invokevirtual 95, 3, [38, 2, 11, 1, 0, 4, 15]), (861, .aload_n 2, 1, []), (862, .aload_n 0, 1, []), (863, .iload_n 3, 1, []), (864, .iconst 1, 1, []), (865, .iadd, 1, []), (866, .iaload, 1, []), (867, .aload_n 0, 1, []), (868, .iload_n 3, 1, []), (869, .iconst 2, 1, []), (870, .iadd, 1, []), (871, .iaload, 1, []), (872, .invokevirtual 98, 3, [39, 2, 12, 1, 0, 6, 76]), (875, .if_icmp .eq 792, 3, [1151]), (878, .iconst 0, 1, []), (879, .ireturn, 1, []), (880, .aload_n 1, 1, []), (881, .aload_n 0, 1, []), (882, .iload_n 3, 1, []), (883, .iconst 1, 1, []), (884, .iadd, 1, []), (885, .iaload, 1, []), (886, .invokevirtual 99, 3, [40, 1, 11, 1, 0, 4, 65]), (889, .aload_n 2, 1, []), (890, .aload_n 0, 1, []), (891, .iload_n 3, 1, []), (892, .iconst 1, 1, []), (893, .iadd, 1, []), (894, .iaload, 1, []), (895, .invokevirtual 102, 3, [41, 1, 12, 1, 0, 6, 100]), (898, .if_icmp .eq 769, 3, [1151]), (901, .iconst 0, 1, []), (902, .ireturn, 1, []), (903, .aload_n 1, 1, []), (904, .aload_n 0, 1, []), (905, .iload_n 3, 1, []), (906, .iconst 1, 1, []), (907, .iadd, 1, []), (908, .iaload, 1, []), (909, .invokevirtual 103, 3, [42, 1, 11, 1, 0, 4, 81]), (912, .aload_n 2, 1, []), (913, .aload_n 0, 1, []), (914, .iload_n 3, 1, []), (915, .iconst 1, 1, []), (916, .iadd, 1, []), (917, .iaload, 1, []), (918, .invokevirtual 106, 3, [43, 1, 12, 1, 0, 6, 104]), (921, .if_icmp .eq 746, 3, [1151]), (924, .iconst 0, 1, []), (925, .ireturn, 1, []), (926, .aload_n 1, 1, []), (927, .aload_n 0, 1, []), (928, .iload_n 3, 1, []), (929, .iconst 1, 1, []), (930, .iadd, 1, []), (931, .iaload, 1, []), (932, .invokevirtual 107, 3, [44, 1, 11, 1, 0, 4, 108]), (935, .aload_n 2, 1, []), (936, .aload_n 0, 1, []), (937, .iload_n 3, 1, []), (938, .iconst 1, 1, []), (939, .iadd, 1, []), (940, .iaload, 1, []), (941, .invokevirtual 110, 3, [45, 1, 12, 1, 0, 6, 129]), (944, .if_icmp .eq 723, 3, [1151]), (947, .iconst 0, 1, []), (948, .ireturn, 1, []), (949, .aload_n 1, 1, []), (950, .aload_n 0, 1, []), (951, .iload_n 3, 1, []), (952, .iconst 1, 1, []), (953, .iadd, 1, []), (954, .iaload, 1, []), (955, .aload_n 0, 1, []), (956, .iload_n 3, 1, []), (957, .iconst 2, 1, []), (958, .iadd, 1, []), (959, .iaload, 1, []), (960, .aload_n 0, 1, []), (961, .iload_n 3, 1, []), (962, .iconst 3, 1, []), (963, .iadd, 1, []), (964, .iaload, 1, []), (965, .invokevirtual 111, 3, [46, 3, 11, 1, 0, 3, 184]), (968, .aload_n 2, 1, []), (969, .aload_n 0, 1, []), (970, .iload_n 3, 1, []), (971, .iconst 1, 1, []), (972, .iadd, 1, []), (973, .iaload, 1, []), (974, .aload_n 0, 1, []), (975, .iload_n 3, 1, []), (976, .iconst 2, 1, []), (977, .iadd, 1, []), (978, .iaload, 1, []), (979, .aload_n 0, 1, []), (980, .iload_n 3, 1, []), (981, .iconst 3, 1, []), (982, .iadd, 1, []), (983, .iaload, 1, []), (984, .invokevirtual 114, 3, [47, 3, 12, 1, 0, 6, 139]), (987, .if_icmp .eq 680, 3, [1151]), (990, .iconst 0, 1, []), (991, .ireturn, 1, []), (992, .aload_n 1, 1, []), (993, .aload_n 0, 1, []), (994, .iload_n 3, 1, []), (995, .iconst 1, 1, []), (996, .iadd, 1, []), (997, .iaload, 1, []), (998, .aload_n 0, 1, []), (999, .iload_n 3, 1, []), (1000, .iconst 2, 1, []), (1001, .iadd, 1, []), (1002, .iaload, 1, []), (1003, .invokevirtual 115, 3, [48, 2, 11, 1, 0, 4, 186]), (1006, .aload_n 2, 1, []), (1007, .aload_n 0, 1, []), (1008, .iload_n 3, 1, []), (1009, .iconst 1, 1, []), (1010, .iadd, 1, []), (1011, .iaload, 1, []), (1012, .aload_n 0, 1, []), (1013, .iload_n 3, 1, []), (1014, .iconst 2, 1, []), (1015, .iadd, 1, []), (1016, .iaload, 1, []), (1017, .invokevirtual 118, 3, [49, 2, 12, 1, 0, 6, 147]), (1020, .if_icmp .eq 647, 3, [1151]), (1023, .iconst 0, 1, []), (1024, .ireturn, 1, []), (1025, .aload_n 1, 1, []), (1026, .aload_n 0, 1, []), (1027, .iload_n 3, 1, []), (1028, .iconst 1, 1, []), (1029, .iadd, 1, []), (1030, .iaload, 1, []), (1031, .aload_n 0, 1, []), (1032, .iload_n 3, 1, []), (1033, .iconst 2, 1, []), (1034, .iadd, 1, []), (1035, .iaload, 1, []), (1036, .invokevirtual 119, 3, [50, 2, 11, 1, 0, 4, 231]), (1039, .aload_n 2, 1, []), (1040, .aload_n 0, 1, []), (1041, .iload_n 3, 1, []), (1042, .iconst 1, 1, []), (1043, .iadd, 1, []), (1044, .iaload, 1, []), (1045, .aload_n 0, 1, []), (1046, .iload_n 3, 1, []), (1047, .iconst 2, 1, []), (1048, .iadd, 1, []), (1049, .iaload, 1, []), (1050, .invokevirtual 122, 3, [51, 2, 12, 1, 0, 6, 163]), (1053, .if_icmp .eq 614, 3, [1151]), (1056, .iconst 0, 1, []), (1057, .ireturn, 1, []), (1058, .aload_n 1, 1, []), (1059, .aload_n 0, 1, []), (1060, .iload_n 3, 1, []), (1061, .iconst 1, 1, []), (1062, .iadd, 1, []), (1063, .iaload, 1, []), (1064, .aload_n 0, 1, []), (1065, .iload_n 3, 1, []), (1066, .iconst 2, 1, []), (1067, .iadd, 1, []), (1068, .iaload, 1, []), (1069, .ifCond .eq 7, 3, [686]), (1072, .iconst 1, 1, []), (1073, .goto 4, 3, [687]), (1076, .iconst 0, 1, []), (1077, .invokevirtual 123, 3, [52, 2, 11, 1, 0, 5, 54]), (1080, .aload_n 2, 1, []), (1081, .aload_n 0, 1, []), (1082, .iload_n 3, 1, []), (1083, .iconst 1, 1, []), (1084, .iadd, 1, []), (1085, .iaload, 1, []), (1086, .aload_n 0, 1, []), (1087, .iload_n 3, 1, []), (1088, .iconst 2, 1, []), (1089, .iadd, 1, []), (1090, .iaload, 1, []), (1091, .ifCond .eq 7, 3, [702]), (1094, .iconst 1, 1, []), (1095, .goto 4, 3, [703]), (1098, .iconst 0, 1, []), (1099, .invokevirtual 127, 3, [53, 2, 12, 1, 0, 6, 171]), (1102, .if_icmp .eq 565, 3, [1151]), (1105, .iconst 0, 1, []), (1106, .ireturn, 1, []), (1107, .aload_n 1, 1, []), (1108, .aload_n 0, 1, []), (1109, .iload_n 3, 1, []), (1110, .iconst 1, 1, []), (1111, .iadd, 1, []), (1112, .iaload, 1, []), (1113, .invokevirtual 128, 3, [54, 1, 11, 1, 0, 5, 72]), (1116, .aload_n 2, 1, []), (1117, .aload_n 0, 1, []), (1118, .iload_n 3, 1, []), (1119, .iconst 1, 1, []), (1120, .iadd, 1, []), (1121, .iaload, 1, []), (1122, .invokevirtual 131, 3, [55, 1, 12, 1, 0, 6, 179]), (1125, .if_icmp .eq 542, 3, [1151]), (1128, .iconst 0, 1, []), (1129, .ireturn, 1, []), (1130, .aload_n 1, 1, []), (1131, .aload_n 0, 1, []), (1132, .iload_n 3, 1, []), (1133, .iconst 1, 1, []), (1134, .iadd, 1, []), (1135, .iaload, 1, []), (1136, .invokevirtual 132, 3, [56, 1, 11, 1, 0, 5, 3]), (1139, .aload_n 2, 1, []), (1140, .aload_n 0, 1, []), (1141, .iload_n 3, 1, []), (1142, .iconst 1, 1, []), (1143, .iadd, 1, []), (1144, .iaload, 1, []), (1145, .invokevirtual 135, 3, [57, 1, 12, 1, 0, 6, 199]), (1148, .if_icmp .eq 519, 3, [1151]), (1151, .iconst 0, 1, []), (1152, .ireturn, 1, []), (1153, .aload_n 1, 1, []), (1154, .aload_n 0, 1, []), (1155, .iload_n 3, 1, []), (1156, .iconst 1, 1, []), (1157, .iadd, 1, []), (1158, .iaload, 1, []), (1159, .invokevirtual 136, 3, [58, 1, 11, 1, 0, 4, 118]), (1162, .aload_n 2, 1, []), (1163, .aload_n 0, 1, []), (1164, .iload_n 3, 1, []), (1165, .iconst 1, 1, []), (1166, .iadd, 1, []), (1167, .iaload, 1, []), (1168, .invokevirtual 139, 3, [59, 1, 12, 1, 0, 6, 207]), (1171, .if_icmp .eq 496, 3, [1151]), (1174, .iconst 0, 1, []), (1175, .ireturn, 1, []), (1176, .aload_n 1, 1, []), (1177, .aload_n 0, 1, []), (1178, .iload_n 3, 1, []), (1179, .iconst 1, 1, []), (1180, .iadd, 1, []), (1181, .iaload, 1, []), (1182, .ifCond .eq 7, 3, [767]), (1185, .iconst 1, 1, []), (1186, .goto 4, 3, [768]), (1189, .iconst 0, 1, []), (1190, .aload_n 0, 1, []), (1191, .iload_n 3, 1, []), (1192, .iconst 2, 1, []), (1193, .iadd, 1, []), (1194, .iaload, 1, []), (1195, .invokevirtual 140, 3, [60, 2, 11, 1, 0, 4, 128]), (1198, .aload_n 2, 1, []), (1199, .aload_n 0, 1, []), (1200, .iload_n 3, 1, []), (1201, .iconst 1, 1, []), (1202, .iadd, 1, []), (1203, .iaload, 1, []), (1204, .ifCond .eq 7, 3, [783]), (1207, .iconst 1, 1, []), (1208, .goto 4, 3, [784]), (1211, .iconst 0, 1, []), (1212, .aload_n 0, 1, []), (1213, .iload_n 3, 1, []), (1214, .iconst 2, 1, []), (1215, .iadd, 1, []), (1216, .iaload, 1, []), (1217, .invokevirtual 143, 3, [61, 2, 12, 1, 0, 6, 215]), (1220, .if_icmp .eq 447, 3, [1151]), (1223, .iconst 0, 1, []), (1224, .ireturn, 1, []), (1225, .aload_n 1, 1, []), (1226, .aload_n 0, 1, []), (1227, .iload_n 3, 1, []), (1228, .iconst 1, 1, []), (1229, .iadd, 1, []), (1230, .iaload, 1, []), (1231, .aload_n 0, 1, []), (1232, .iload_n 3, 1, []), (1233, .iconst 2, 1, []), (1234, .iadd, 1, []), (1235, .iaload, 1, []), (1236, .invokevirtual 144, 3, [62, 2, 11, 1, 0, 4, 173]), (1239, .aload_n 2, 1, []), (1240, .aload_n 0, 1, []), (1241, .iload_n 3, 1, []), (1242, .iconst 1, 1, []), (1243, .iadd, 1, []), (1244, .iaload, 1, []), (1245, .aload_n 0, 1, []), (1246, .iload_n 3, 1, []), (1247, .iconst 2, 1, []), (1248, .iadd, 1, []), (1249, .iaload, 1, []), (1250, .invokevirtual 147, 3, [63, 2, 12, 1, 0, 6, 224]), (1253, .if_icmp .eq 414, 3, [1151]), (1256, .iconst 0, 1, []), (1257, .ireturn, 1, []), (1258, .aload_n 1, 1, []), (1259, .aload_n 0, 1, []), (1260, .iload_n 3, 1, []), (1261, .iconst 1, 1, []), (1262, .iadd, 1, []), (1263, .iaload, 1, []), (1264, .aload_n 0, 1, []), (1265, .iload_n 3, 1, []), (1266, .iconst 2, 1, []), (1267, .iadd, 1, []), (1268, .iaload, 1, []), (1269, .invokevirtual 148, 3, [64, 2, 11, 1, 0, 4, 2]), (1272, .aload_n 2, 1, []), (1273, .aload_n 0, 1, []), (1274, .iload_n 3, 1, []), (1275, .iconst 1, 1, []), (1276, .iadd, 1, []), (1277, .iaload, 1, []), (1278, .aload_n 0, 1, []), (1279, .iload_n 3, 1, []), (1280, .iconst 2, 1, []), (1281, .iadd, 1, []), (1282, .iaload, 1, []), (1283, .invokevirtual 151, 3, [65, 2, 12, 1, 0, 7, 0]), (1286, .if_icmp .eq 381, 3, [1151]), (1289, .iconst 0, 1, []), (1290, .ireturn, 1, []), (1291, .aload_n 1, 1, []), (1292, .aload_n 0, 1, []), (1293, .iload_n 3, 1, []), (1294, .iconst 1, 1, []), (1295, .iadd, 1, []), (1296, .iaload, 1, []), (1297, .invokevirtual 152, 3, [66, 1, 11, 1, 0, 4, 157]), (1300, .aload_n 2, 1, []), (1301, .aload_n 0, 1, []), (1302, .iload_n 3, 1, []), (1303, .iconst 1, 1, []), (1304, .iadd, 1, []), (1305, .iaload, 1, []), (1306, .invokevirtual 155, 3, [67, 1, 12, 1, 0, 7, 13]), (1309, .if_icmp .eq 358, 3, [1151]), (1312, .iconst 0, 1, []), (1313, .ireturn, 1, []), (1314, .aload_n 1, 1, []), (1315, .aload_n 0, 1, []), (1316, .iload_n 3, 1, []), (1317, .iconst 1, 1, []), (1318, .iadd, 1, []), (1319, .iaload, 1, []), (1320, .invokevirtual 156, 3, [68, 1, 11, 1, 0, 5, 96]), (1323, .aload_n 2, 1, []), (1324, .aload_n 0, 1, []), (1325, .iload_n 3, 1, []), (1326, .iconst 1, 1, []), (1327, .iadd, 1, []), (1328, .iaload, 1, []), (1329, .invokevirtual 159, 3, [69, 1, 12, 1, 0, 7, 21]), (1332, .if_icmp .eq 335, 3, [1151]), (1335, .iconst 0, 1, []), (1336, .ireturn, 1, []), (1337, .aload_n 1, 1, []), (1338, .aload_n 0, 1, []), (1339, .iload_n 3, 1, []), (1340, .iconst 1, 1, []), (1341, .iadd, 1, []), (1342, .iaload, 1, []), (1343, .aload_n 0, 1, []), (1344, .iload_n 3, 1, []), (1345, .iconst 2, 1, []), (1346, .iadd, 1, []), (1347, .iaload, 1, []), (1348, .aload_n 0, 1, []), (1349, .iload_n 3, 1, []), (1350, .iconst 3, 1, []), (1351, .iadd, 1, []), (1352, .iaload, 1, []), (1353, .invokevirtual 160, 3, [70, 3, 11, 1, 0, 3, 196]), (1356, .aload_n 2, 1, []), (1357, .aload_n 0, 1, []), (1358, .iload_n 3, 1, []), (1359, .iconst 1, 1, []), (1360, .iadd, 1, []), (1361, .iaload, 1, []), (1362, .aload_n 0, 1, []), (1363, .iload_n 3, 1, []), (1364, .iconst 2, 1, []), (1365, .iadd, 1, []), (1366, .iaload, 1, []), (1367, .aload_n 0, 1, []), (1368, .iload_n 3, 1, []), (1369, .iconst 3, 1, []), (1370, .iadd, 1, []), (1371, .iaload, 1, []), (1372, .invokevirtual 163, 3, [71, 3, 12, 1, 0, 7, 34]), (1375, .if_icmp .eq 292, 3, [1151]), (1378, .iconst 0, 1, []), (1379, .ireturn, 1, []), (1380, .aload_n 1, 1, []), (1381, .aload_n 0, 1, []), (1382, .iload_n 3, 1, []), (1383, .iconst 1, 1, []), (1384, .iadd, 1, []), (1385, .iaload, 1, []), (1386, .aload_n 0, 1, []), (1387, .iload_n 3, 1, []), (1388, .iconst 2, 1, []), (1389, .iadd, 1, []), (1390, .iaload, 1, []), (1391, .aload_n 0, 1, []), (1392, .iload_n 3, 1, []), (1393, .iconst 3, 1, []), (1394, .iadd, 1, []), (1395, .iaload, 1, []), (1396, .aload_n 0, 1, []), (1397, .iload_n 3, 1, []), (1398, .iconst 4, 1, []), (1399, .iadd, 1, []), (1400, .iaload, 1, []), (1401, .invokevirtual 164, 3, [72, 4, 11, 1, 0, 3, 205]), (1404, .aload_n 2, 1, []), (1405, .aload_n 0, 1, []), (1406, .iload_n 3, 1, []), (1407, .iconst 1, 1, []), (1408, .iadd, 1, []), (1409, .iaload, 1, []), (1410, .aload_n 0, 1, []), (1411, .iload_n 3, 1, []), (1412, .iconst 2, 1, []), (1413, .iadd, 1, []), (1414, .iaload, 1, []), (1415, .aload_n 0, 1, []), (1416, .iload_n 3, 1, []), (1417, .iconst 3, 1, []), (1418, .iadd, 1, []), (1419, .iaload, 1, []), (1420, .aload_n 0, 1, []), (1421, .iload_n 3, 1, []), (1422, .iconst 4, 1, []), (1423, .iadd, 1, []), (1424, .iaload, 1, []), (1425, .invokevirtual 168, 3, [73, 4, 12, 1, 0, 6, 6]), (1428, .if_icmp .eq 239, 3, [1151]), (1431, .iconst 0, 1, []), (1432, .ireturn, 1, []), (1433, .aload_n 1, 1, []), (1434, .aload_n 0, 1, []), (1435, .iload_n 3, 1, []), (1436, .iconst 1, 1, []), (1437, .iadd, 1, []), (1438, .iaload, 1, []), (1439, .aload_n 0, 1, []), (1440, .iload_n 3, 1, []), (1441, .iconst 2, 1, []), (1442, .iadd, 1, []), (1443, .iaload, 1, []), (1444, .aload_n 0, 1, []), (1445, .iload_n 3, 1, []), (1446, .iconst 3, 1, []), (1447, .iadd, 1, []), (1448, .iaload, 1, []), (1449, .invokevirtual 169, 3, [74, 3, 11, 1, 0, 3, 102]), (1452, .aload_n 2, 1, []), (1453, .aload_n 0, 1, []), (1454, .iload_n 3, 1, []), (1455, .iconst 1, 1, []), (1456, .iadd, 1, []), (1457, .iaload, 1, []), (1458, .aload_n 0, 1, []), (1459, .iload_n 3, 1, []), (1460, .iconst 2, 1, []), (1461, .iadd, 1, []), (1462, .iaload, 1, []), (1463, .aload_n 0, 1, []), (1464, .iload_n 3, 1, []), (1465, .iconst 3, 1, []), (1466, .iadd, 1, []), (1467, .iaload, 1, []), (1468, .invokevirtual 172, 3, [75, 3, 12, 1, 0, 8, 41]), (1471, .if_icmp .eq 196, 3, [1151]), (1474, .iconst 0, 1, []), (1475, .ireturn, 1, []), (1476, .aload_n 1, 1, []), (1477, .aload_n 0, 1, []), (1478, .iload_n 3, 1, []), (1479, .iconst 1, 1, []), (1480, .iadd, 1, []), (1481, .iaload, 1, []), (1482, .invokevirtual 173, 3, [76, 1, 11, 1, 0, 4, 137]), (1485, .aload_n 2, 1, []), (1486, .aload_n 0, 1, []), (1487, .iload_n 3, 1, []), (1488, .iconst 1, 1, []), (1489, .iadd, 1, []), (1490, .iaload, 1, []), (1491, .invokevirtual 176, 3, [77, 1, 12, 1, 0, 8, 46]), (1494, .if_icmp .eq 173, 3, [1151]), (1497, .iconst 0, 1, []), (1498, .ireturn, 1, []), (1499, .aload_n 1, 1, []), (1500, .aload_n 0, 1, []), (1501, .iload_n 3, 1, []), (1502, .iconst 1, 1, []), (1503, .iadd, 1, []), (1504, .iaload, 1, []), (1505, .invokevirtual 177, 3, [78, 1, 11, 1, 0, 5, 34]), (1508, .aload_n 2, 1, []), (1509, .aload_n 0, 1, []), (1510, .iload_n 3, 1, []), (1511, .iconst 1, 1, []), (1512, .iadd, 1, []), (1513, .iaload, 1, []), (1514, .invokevirtual 180, 3, [79, 1, 12, 1, 0, 8, 54]), (1517, .if_icmp .eq 150, 3, [1151]), (1520, .iconst 0, 1, []), (1521, .ireturn, 1, []), (1522, .aload_n 1, 1, []), (1523, .aload_n 0, 1, []), (1524, .iload_n 3, 1, []), (1525, .iconst 1, 1, []), (1526, .iadd, 1, []), (1527, .iaload, 1, []), (1528, .invokevirtual 181, 3, [80, 1, 11, 1, 0, 5, 15]), (1531, .aload_n 2, 1, []), (1532, .aload_n 0, 1, []), (1533, .iload_n 3, 1, []), (1534, .iconst 1, 1, []), (1535, .iadd, 1, []), (1536, .iaload, 1, []), (1537, .invokevirtual 184, 3, [81, 1, 12, 1, 0, 8, 78]), (1540, .if_icmp .eq 127, 3, [1151]), (1543, .iconst 0, 1, []), (1544, .ireturn, 1, []), (1545, .aload_n 1, 1, []), (1546, .aload_n 0, 1, []), (1547, .iload_n 3, 1, []), (1548, .iconst 1, 1, []), (1549, .iadd, 1, []), (1550, .iaload, 1, []), (1551, .aload_n 0, 1, []), (1552, .iload_n 3, 1, []), (1553, .iconst 2, 1, []), (1554, .iadd, 1, []), (1555, .iaload, 1, []), (1556, .invokevirtual 185, 3, [82, 2, 11, 1, 0, 4, 149]), (1559, .aload_n 2, 1, []), (1560, .aload_n 0, 1, []), (1561, .iload_n 3, 1, []), (1562, .iconst 1, 1, []), (1563, .iadd, 1, []), (1564, .iaload, 1, []), (1565, .aload_n 0, 1, []), (1566, .iload_n 3, 1, []), (1567, .iconst 2, 1, []), (1568, .iadd, 1, []), (1569, .iaload, 1, []), (1570, .invokevirtual 188, 3, [83, 2, 12, 1, 0, 8, 82]), (1573, .if_icmp .eq 94, 3, [1151]), (1576, .iconst 0, 1, []), (1577, .ireturn, 1, []), (1578, .aload_n 1, 1, []), (1579, .aload_n 0, 1, []), (1580, .iload_n 3, 1, []), (1581, .iconst 1, 1, []), (1582, .iadd, 1, []), (1583, .iaload, 1, []), (1584, .aload_n 0, 1, []), (1585, .iload_n 3, 1, []), (1586, .iconst 2, 1, []), (1587, .iadd, 1, []), (1588, .iaload, 1, []), (1589, .invokevirtual 189, 3, [84, 2, 11, 1, 0, 4, 73]), (1592, .aload_n 2, 1, []), (1593, .aload_n 0, 1, []), (1594, .iload_n 3, 1, []), (1595, .iconst 1, 1, []), (1596, .iadd, 1, []), (1597, .iaload, 1, []), (1598, .aload_n 0, 1, []), (1599, .iload_n 3, 1, []), (1600, .iconst 2, 1, []), (1601, .iadd, 1, []), (1602, .iaload, 1, []), (1603, .invokevirtual 192, 3, [85, 2, 12, 1, 0, 8, 37]), (1606, .if_icmp .eq 61, 3, [1151]), (1609, .iconst 0, 1, []), (1610, .ireturn, 1, []), (1611, .aload_n 1, 1, []), (1612, .aload_n 0, 1, []), (1613, .iload_n 3, 1, []), (1614, .iconst 1, 1, []), (1615, .iadd, 1, []), (1616, .iaload, 1, []), (1617, .aload_n 0, 1, []), (1618, .iload_n 3, 1, []), (1619, .iconst 2, 1, []), (1620, .iadd, 1, []), (1621, .iaload, 1, []), (1622, .invokevirtual 193, 3, [86, 2, 11, 1, 0, 3, 218]), (1625, .aload_n 2, 1, []), (1626, .aload_n 0, 1, []), (1627, .iload_n 3, 1, []), (1628, .iconst 1, 1, []), (1629, .iadd, 1, []), (1630, .iaload, 1, []), (1631, .aload_n 0, 1, []), (1632, .iload_n 3, 1, []), (1633, .iconst 2, 1, []), (1634, .iadd, 1, []), (1635, .iaload, 1, []), (1636, .invokevirtual 196, 3, [87, 2, 12, 1, 0, 8, 33]), (1639, .if_icmp .eq 28, 3, [1151]), (1642, .iconst 0, 1, []), (1643, .ireturn, 1, []), (1644, .aload_n 1, 1, []), (1645, .aload_n 0, 1, []), (1646, .iload_n 3, 1, []), (1647, .iconst 1, 1, []), (1648, .iadd, 1, []), (1649, .iaload, 1, []), (1650, .invokevirtual 197, 3, [88, 1, 11, 1, 0, 5, 105]), (1653, .aload_n 2, 1, []), (1654, .aload_n 0, 1, []), (1655, .iload_n 3, 1, []), (1656, .iconst 1, 1, []), (1657, .iadd, 1, []), (1658, .iaload, 1, []), (1659, .invokevirtual 200, 3, [89, 1, 12, 1, 0, 7, 38]), (1662, .if_icmp .eq 5, 3, [1151]), (1665, .iconst 0, 1, []), (1666, .ireturn, 1, []), (1667, .iinc 3 6, 3, []), (1670, .goto (-1652), 3, [2]), (1673, .iconst 1, 1, []), (1674, .ireturn, 1, [])]
def cal_law : List (MI × GS) := [(I_Wr_feed, S_Wr_feed), (I_Mo_feed, S_Mo_feed), (I_Wr_end, S_Wr_end), (I_Mo_end, S_Mo_end), (I_Wr_tell, S_Wr_tell), (I_Mo_tell, S_Mo_tell), (I_Wr_put, S_Wr_put), (I_Mo_put, S_Mo_put), (I_Wr_insert, S_Wr_insert), (I_Mo_insert, S_Mo_insert), (I_Wr_drop, S_Wr_drop), (I_Mo_drop, S_Mo_drop), (I_Wr_turn, S_Wr_turn), (I_Mo_turn, S_Mo_turn), (I_Wr_again, S_Wr_again), (I_Mo_again, S_Mo_again), (I_Wr_rotate, S_Wr_rotate), (I_Mo_rotate, S_Mo_rotate), (I_Wr_only, S_Wr_only), (I_Mo_only, S_Mo_only), (I_Wr_undo, S_Wr_undo), (I_Mo_undo, S_Mo_undo), (I_Wr_keep, S_Wr_keep), (I_Mo_keep, S_Mo_keep), (I_Wr_back, S_Wr_back), (I_Mo_back, S_Mo_back), (I_Wr_letter, S_Wr_letter), (I_Mo_letter, S_Mo_letter), (I_Wr_border, S_Wr_border), (I_Mo_border, S_Mo_border), (I_Wr_period, S_Wr_period), (I_Mo_period, S_Mo_period), (I_Wr_root, S_Wr_root), (I_Mo_root, S_Mo_root), (I_Wr_lyndon, S_Wr_lyndon), (I_Mo_lyndon, S_Mo_lyndon), (I_Wr_longest, S_Wr_longest), (I_Mo_longest, S_Mo_longest), (I_Wr_run, S_Wr_run), (I_Mo_run, S_Mo_run), (I_Wr_runs, S_Wr_runs), (I_Mo_runs, S_Mo_runs), (I_Wr_squares, S_Wr_squares), (I_Mo_squares, S_Mo_squares), (I_Wr_power, S_Wr_power), (I_Mo_power, S_Mo_power), (I_Wr_cover, S_Wr_cover), (I_Mo_cover, S_Mo_cover), (I_Wr_seed, S_Wr_seed), (I_Mo_seed, S_Mo_seed), (I_Wr_cloak, S_Wr_cloak), (I_Mo_cloak, S_Mo_cloak), (I_Wr_mirror, S_Wr_mirror), (I_Mo_mirror, S_Mo_mirror), (I_Wr_mirrors, S_Wr_mirrors), (I_Mo_mirrors, S_Mo_mirrors), (I_Wr_factors, S_Wr_factors), (I_Mo_factors, S_Mo_factors), (I_Wr_bare, S_Wr_bare), (I_Mo_bare, S_Mo_bare), (I_Wr_twice, S_Wr_twice), (I_Mo_twice, S_Mo_twice), (I_Wr_phrase, S_Wr_phrase), (I_Mo_phrase, S_Mo_phrase), (I_Wr_ends, S_Wr_ends), (I_Mo_ends, S_Mo_ends), (I_Wr_abel, S_Wr_abel), (I_Mo_abel, S_Mo_abel), (I_Wr_often, S_Wr_often), (I_Mo_often, S_Mo_often), (I_Wr_lies, S_Wr_lies), (I_Mo_lies, S_Mo_lies), (I_Wr_compare, S_Wr_compare), (I_Mo_compare, S_Mo_compare), (I_Wr_sub, S_Wr_sub), (I_Mo_sub, S_Mo_sub), (I_Wr_closed, S_Wr_closed), (I_Mo_closed, S_Mo_closed), (I_Wr_absent, S_Wr_absent), (I_Mo_absent, S_Mo_absent), (I_Wr_special, S_Wr_special), (I_Mo_special, S_Mo_special), (I_Wr_gapped, S_Wr_gapped), (I_Mo_gapped, S_Mo_gapped), (I_Wr_change, S_Wr_change), (I_Mo_change, S_Mo_change), (I_Wr_alike, S_Wr_alike), (I_Mo_alike, S_Mo_alike), (I_Wr_count, S_Wr_count), (I_Mo_count, S_Mo_count)]
def okEl (k : Nat) : Bool := match C_law[k]? with
  | some q => okE "WordRunsLaw" (cal_law.map (fun z => z.1)) code 2 4 C_law k q
  | none => false
def okCh (a n : Nat) : Bool := (List.range n).all (fun j => okEl (a + j))
def Ih (n : Nat) (L : List AV) (σ : SS) : Prop := ∃ v : Int, L = [vR 61 0, vR 11 0, vR 12 0, vI v] ∧ n = (20000 - 2 * v).toNat ∧ (0 ≤ v ∧ v ≤ 4000) ∧ Sim σ
def Ic (ln : Int) (n : Nat) (L : List AV) (σ : SS) : Prop := ∃ v : Int, L = [vR 61 0, vR 11 0, vR 12 0, vI v] ∧ n = (20000 - 2 * v - 1).toNat ∧ (0 ≤ v ∧ v + 6 ≤ ln) ∧ Sim σ
def cutL : List Nat := [14, 71, 88, 95, 122, 149, 166, 193, 220, 237, 264, 271, 288, 305, 322, 359, 396, 433, 468, 503, 530, 547, 564, 581, 618, 645, 672, 707, 724, 741, 758, 793, 820, 847, 864, 881, 918, 965, 1002, 1019, 1036, 1053, 1080, 1107, 1134]
def cutB (k : Nat) : Bool := cutL.any (fun x => Nat.beq k x)
def Iv_law (ln : Int) (k : Nat) : Option (List Nat × (Nat → List AV → SS → Prop)) := match Nat.beq k 2 with
  | true => some ([], Ih)
  | false => match cutB k with
    | true => some ([], Ic ln)
    | false => none
abbrev Jl (ln : Int) (n : Nat) : Nat → Option (List AV → SS → Prop) := fun k' => (Iv_law ln k').map (fun z' => fun L' σ'' => ∃ n', n' < n ∧ z'.2 n' (fgL z'.1 L') σ'')
def VL_lawH (ln : Int) (xs : Int → Int) (K : AV → SS → Prop) (v : Int) (σ : SS) (n : Nat) : Prop := (InR (ln - 6) ∧ (((ln - 6) < v → ((0 ≤ (1 : Int) ∧ (1 : Int) ≤ 1) ∧ K (vI 1) σ)) ∧ (v ≤ (ln - 6) → ((0 ≤ (v : Int) ∧ (v : Int) < ln) ∧ ((((andI (xs v) 63) = 0 → (∃ n', n' < n ∧ Ic ln n' [vR 61 0, vR 11 0, vR 12 0, vI v] σ)) ∧ (((andI (xs v) 63) = 1 → (∃ n', n' < n ∧ Ic ln n' [vR 61 0, vR 11 0, vR 12 0, vI v] σ)) ∧ (((andI (xs v) 63) = 2 → (∃ n', n' < n ∧ Ic ln n' [vR 61 0, vR 11 0, vR 12 0, vI v] σ)) ∧ (((andI (xs v) 63) = 3 → (∃ n', n' < n ∧ Ic ln n' [vR 61 0, vR 11 0, vR 12 0, vI v] σ)) ∧ (((andI (xs v) 63) = 4 → (∃ n', n' < n ∧ Ic ln n' [vR 61 0, vR 11 0, vR 12 0, vI v] σ)) ∧ (((andI (xs v) 63) = 5 → (∃ n', n' < n ∧ Ic ln n' [vR 61 0, vR 11 0, vR 12 0, vI v] σ)) ∧ (((andI (xs v) 63) = 6 → (∃ n', n' < n ∧ Ic ln n' [vR 61 0, vR 11 0, vR 12 0, vI v] σ)) ∧ (((andI (xs v) 63) = 7 → (∃ n', n' < n ∧ Ic ln n' [vR 61 0, vR 11 0, vR 12 0, vI v] σ)) ∧ (((andI (xs v) 63) = 8 → (∃ n', n' < n ∧ Ic ln n' [vR 61 0, vR 11 0, vR 12 0, vI v] σ)) ∧ (((andI (xs v) 63) = 9 → (∃ n', n' < n ∧ Ic ln n' [vR 61 0, vR 11 0, vR 12 0, vI v] σ)) ∧ (((andI (xs v) 63) = 10 → (∃ n', n' < n ∧ Ic ln n' [vR 61 0, vR 11 0, vR 12 0, vI v] σ)) ∧ (((andI (xs v) 63) = 11 → (∃ n', n' < n ∧ Ic ln n' [vR 61 0, vR 11 0, vR 12 0, vI v] σ)) ∧ (((andI (xs v) 63) = 12 → (∃ n', n' < n ∧ Ic ln n' [vR 61 0, vR 11 0, vR 12 0, vI v] σ)) ∧ (((andI (xs v) 63) = 13 → (∃ n', n' < n ∧ Ic ln n' [vR 61 0, vR 11 0, vR 12 0, vI v] σ)) ∧ (((andI (xs v) 63) = 14 → (∃ n', n' < n ∧ Ic ln n' [vR 61 0, vR 11 0, vR 12 0, vI v] σ)) ∧ (((andI (xs v) 63) = 15 → (∃ n', n' < n ∧ Ic ln n' [vR 61 0, vR 11 0, vR 12 0, vI v] σ)) ∧ (((andI (xs v) 63) = 16 → (∃ n', n' < n ∧ Ic ln n' [vR 61 0, vR 11 0, vR 12 0, vI v] σ)) ∧ (((andI (xs v) 63) = 17 → (∃ n', n' < n ∧ Ic ln n' [vR 61 0, vR 11 0, vR 12 0, vI v] σ)) ∧ (((andI (xs v) 63) = 18 → (∃ n', n' < n ∧ Ic ln n' [vR 61 0, vR 11 0, vR 12 0, vI v] σ)) ∧ (((andI (xs v) 63) = 19 → (∃ n', n' < n ∧ Ic ln n' [vR 61 0, vR 11 0, vR 12 0, vI v] σ)) ∧ (((andI (xs v) 63) = 20 → (∃ n', n' < n ∧ Ic ln n' [vR 61 0, vR 11 0, vR 12 0, vI v] σ)) ∧ (((andI (xs v) 63) = 21 → (∃ n', n' < n ∧ Ic ln n' [vR 61 0, vR 11 0, vR 12 0, vI v] σ)) ∧ (((andI (xs v) 63) = 22 → (∃ n', n' < n ∧ Ic ln n' [vR 61 0, vR 11 0, vR 12 0, vI v] σ)) ∧ (((andI (xs v) 63) = 23 → (∃ n', n' < n ∧ Ic ln n' [vR 61 0, vR 11 0, vR 12 0, vI v] σ)) ∧ (((andI (xs v) 63) = 24 → (∃ n', n' < n ∧ Ic ln n' [vR 61 0, vR 11 0, vR 12 0, vI v] σ)) ∧ (((andI (xs v) 63) = 25 → (∃ n', n' < n ∧ Ic ln n' [vR 61 0, vR 11 0, vR 12 0, vI v] σ)) ∧ (((andI (xs v) 63) = 26 → (∃ n', n' < n ∧ Ic ln n' [vR 61 0, vR 11 0, vR 12 0, vI v] σ)) ∧ (((andI (xs v) 63) = 27 → (∃ n', n' < n ∧ Ic ln n' [vR 61 0, vR 11 0, vR 12 0, vI v] σ)) ∧ (((andI (xs v) 63) = 28 → (∃ n', n' < n ∧ Ic ln n' [vR 61 0, vR 11 0, vR 12 0, vI v] σ)) ∧ (((andI (xs v) 63) = 29 → (∃ n', n' < n ∧ Ic ln n' [vR 61 0, vR 11 0, vR 12 0, vI v] σ)) ∧ (((andI (xs v) 63) = 30 → (∃ n', n' < n ∧ Ic ln n' [vR 61 0, vR 11 0, vR 12 0, vI v] σ)) ∧ (((andI (xs v) 63) = 31 → (∃ n', n' < n ∧ Ic ln n' [vR 61 0, vR 11 0, vR 12 0, vI v] σ)) ∧ (((andI (xs v) 63) = 32 → (∃ n', n' < n ∧ Ic ln n' [vR 61 0, vR 11 0, vR 12 0, vI v] σ)) ∧ (((andI (xs v) 63) = 33 → (∃ n', n' < n ∧ Ic ln n' [vR 61 0, vR 11 0, vR 12 0, vI v] σ)) ∧ (((andI (xs v) 63) = 34 → (∃ n', n' < n ∧ Ic ln n' [vR 61 0, vR 11 0, vR 12 0, vI v] σ)) ∧ (((andI (xs v) 63) = 35 → (∃ n', n' < n ∧ Ic ln n' [vR 61 0, vR 11 0, vR 12 0, vI v] σ)) ∧ (((andI (xs v) 63) = 36 → (∃ n', n' < n ∧ Ic ln n' [vR 61 0, vR 11 0, vR 12 0, vI v] σ)) ∧ (((andI (xs v) 63) = 37 → (∃ n', n' < n ∧ Ic ln n' [vR 61 0, vR 11 0, vR 12 0, vI v] σ)) ∧ (((andI (xs v) 63) = 38 → (∃ n', n' < n ∧ Ic ln n' [vR 61 0, vR 11 0, vR 12 0, vI v] σ)) ∧ (((andI (xs v) 63) = 39 → (∃ n', n' < n ∧ Ic ln n' [vR 61 0, vR 11 0, vR 12 0, vI v] σ)) ∧ (((andI (xs v) 63) = 40 → (∃ n', n' < n ∧ Ic ln n' [vR 61 0, vR 11 0, vR 12 0, vI v] σ)) ∧ (((andI (xs v) 63) = 41 → (∃ n', n' < n ∧ Ic ln n' [vR 61 0, vR 11 0, vR 12 0, vI v] σ)) ∧ (((andI (xs v) 63) = 42 → (∃ n', n' < n ∧ Ic ln n' [vR 61 0, vR 11 0, vR 12 0, vI v] σ)) ∧ (((andI (xs v) 63) = 43 → (∃ n', n' < n ∧ Ic ln n' [vR 61 0, vR 11 0, vR 12 0, vI v] σ)) ∧ (((andI (xs v) 63) = 44 → (∃ n', n' < n ∧ Ic ln n' [vR 61 0, vR 11 0, vR 12 0, vI v] σ)) ∧ True))))))))))))))))))))))))))))))))))))))))))))) ∧ ((andI (xs v) 63) < 0 ∨ 44 < (andI (xs v) 63) → (InR (v + 6) ∧ (∃ n', n' < n ∧ Ih n' [vR 61 0, vR 11 0, vR 12 0, vI (v + 6)] σ))))))))
theorem l_lawH (ln : Int) (xs : Int → Int) (K : AV → SS → Prop) (v : Int) (σ : SS) (n : Nat) (hK : ∀ σ, K (vI 1) σ) (hl : 0 ≤ ln ∧ ln ≤ 3072) (hn : n = (20000 - 2 * v).toNat) (hb : 0 ≤ v ∧ v ≤ 4000) (hS : Sim σ) : VL_lawH ln xs K v σ n := by
  unfold VL_lawH
  refine ⟨by omega, ?_⟩
  refine ⟨fun c => ?_, fun c => ?_⟩
  · exact ⟨by omega, hK _⟩
  · skip
    refine ⟨⟨by omega, by omega⟩, ?_⟩
    refine ⟨⟨fun c => ?_, fun c => ?_, fun c => ?_, fun c => ?_, fun c => ?_, fun c => ?_, fun c => ?_, fun c => ?_, fun c => ?_, fun c => ?_, fun c => ?_, fun c => ?_, fun c => ?_, fun c => ?_, fun c => ?_, fun c => ?_, fun c => ?_, fun c => ?_, fun c => ?_, fun c => ?_, fun c => ?_, fun c => ?_, fun c => ?_, fun c => ?_, fun c => ?_, fun c => ?_, fun c => ?_, fun c => ?_, fun c => ?_, fun c => ?_, fun c => ?_, fun c => ?_, fun c => ?_, fun c => ?_, fun c => ?_, fun c => ?_, fun c => ?_, fun c => ?_, fun c => ?_, fun c => ?_, fun c => ?_, fun c => ?_, fun c => ?_, fun c => ?_, fun c => ?_, trivial⟩, fun c => ?_⟩
    · skip
      refine ⟨_, ?_, _, rfl, rfl, ?_, hS⟩
      · omega
      · omega
    · skip
      refine ⟨_, ?_, _, rfl, rfl, ?_, hS⟩
      · omega
      · omega
    · skip
      refine ⟨_, ?_, _, rfl, rfl, ?_, hS⟩
      · omega
      · omega
    · skip
      refine ⟨_, ?_, _, rfl, rfl, ?_, hS⟩
      · omega
      · omega
    · skip
      refine ⟨_, ?_, _, rfl, rfl, ?_, hS⟩
      · omega
      · omega
    · skip
      refine ⟨_, ?_, _, rfl, rfl, ?_, hS⟩
      · omega
      · omega
    · skip
      refine ⟨_, ?_, _, rfl, rfl, ?_, hS⟩
      · omega
      · omega
    · skip
      refine ⟨_, ?_, _, rfl, rfl, ?_, hS⟩
      · omega
      · omega
    · skip
      refine ⟨_, ?_, _, rfl, rfl, ?_, hS⟩
      · omega
      · omega
    · skip
      refine ⟨_, ?_, _, rfl, rfl, ?_, hS⟩
      · omega
      · omega
    · skip
      refine ⟨_, ?_, _, rfl, rfl, ?_, hS⟩
      · omega
      · omega
    · skip
      refine ⟨_, ?_, _, rfl, rfl, ?_, hS⟩
      · omega
      · omega
    · skip
      refine ⟨_, ?_, _, rfl, rfl, ?_, hS⟩
      · omega
      · omega
    · skip
      refine ⟨_, ?_, _, rfl, rfl, ?_, hS⟩
      · omega
      · omega
    · skip
      refine ⟨_, ?_, _, rfl, rfl, ?_, hS⟩
      · omega
      · omega
    · skip
      refine ⟨_, ?_, _, rfl, rfl, ?_, hS⟩
      · omega
      · omega
    · skip
      refine ⟨_, ?_, _, rfl, rfl, ?_, hS⟩
      · omega
      · omega
    · skip
      refine ⟨_, ?_, _, rfl, rfl, ?_, hS⟩
      · omega
      · omega
    · skip
      refine ⟨_, ?_, _, rfl, rfl, ?_, hS⟩
      · omega
      · omega
    · skip
      refine ⟨_, ?_, _, rfl, rfl, ?_, hS⟩
      · omega
      · omega
    · skip
      refine ⟨_, ?_, _, rfl, rfl, ?_, hS⟩
      · omega
      · omega
    · skip
      refine ⟨_, ?_, _, rfl, rfl, ?_, hS⟩
      · omega
      · omega
    · skip
      refine ⟨_, ?_, _, rfl, rfl, ?_, hS⟩
      · omega
      · omega
    · skip
      refine ⟨_, ?_, _, rfl, rfl, ?_, hS⟩
      · omega
      · omega
    · skip
      refine ⟨_, ?_, _, rfl, rfl, ?_, hS⟩
      · omega
      · omega
    · skip
      refine ⟨_, ?_, _, rfl, rfl, ?_, hS⟩
      · omega
      · omega
    · skip
      refine ⟨_, ?_, _, rfl, rfl, ?_, hS⟩
      · omega
      · omega
    · skip
      refine ⟨_, ?_, _, rfl, rfl, ?_, hS⟩
      · omega
      · omega
    · skip
      refine ⟨_, ?_, _, rfl, rfl, ?_, hS⟩
      · omega
      · omega
    · skip
      refine ⟨_, ?_, _, rfl, rfl, ?_, hS⟩
      · omega
      · omega
    · skip
      refine ⟨_, ?_, _, rfl, rfl, ?_, hS⟩
      · omega
      · omega
    · skip
      refine ⟨_, ?_, _, rfl, rfl, ?_, hS⟩
      · omega
      · omega
    · skip
      refine ⟨_, ?_, _, rfl, rfl, ?_, hS⟩
      · omega
      · omega
    · skip
      refine ⟨_, ?_, _, rfl, rfl, ?_, hS⟩
      · omega
      · omega
    · skip
      refine ⟨_, ?_, _, rfl, rfl, ?_, hS⟩
      · omega
      · omega
    · skip
      refine ⟨_, ?_, _, rfl, rfl, ?_, hS⟩
      · omega
      · omega
    · skip
      refine ⟨_, ?_, _, rfl, rfl, ?_, hS⟩
      · omega
      · omega
    · skip
      refine ⟨_, ?_, _, rfl, rfl, ?_, hS⟩
      · omega
      · omega
    · skip
      refine ⟨_, ?_, _, rfl, rfl, ?_, hS⟩
      · omega
      · omega
    · skip
      refine ⟨_, ?_, _, rfl, rfl, ?_, hS⟩
      · omega
      · omega
    · skip
      refine ⟨_, ?_, _, rfl, rfl, ?_, hS⟩
      · omega
      · omega
    · skip
      refine ⟨_, ?_, _, rfl, rfl, ?_, hS⟩
      · omega
      · omega
    · skip
      refine ⟨_, ?_, _, rfl, rfl, ?_, hS⟩
      · omega
      · omega
    · skip
      refine ⟨_, ?_, _, rfl, rfl, ?_, hS⟩
      · omega
      · omega
    · skip
      refine ⟨_, ?_, _, rfl, rfl, ?_, hS⟩
      · omega
      · omega
    · skip
      refine ⟨by omega, ?_⟩
      refine ⟨_, ?_, _, rfl, rfl, ?_, hS⟩
      · omega
      · omega
def VL_law0 (ln : Int) (xs : Int → Int) (K : AV → SS → Prop) (v : Int) (σ : SS) (n : Nat) : Prop := (InR (v + 1) ∧ ((0 ≤ (v + 1 : Int) ∧ (v + 1 : Int) < ln) ∧ (InR (v + 2) ∧ ((0 ≤ (v + 2 : Int) ∧ (v + 2 : Int) < ln) ∧ (InR (v + 3) ∧ ((0 ≤ (v + 3 : Int) ∧ (v + 3 : Int) < ln) ∧ (InR (v + 4) ∧ ((0 ≤ (v + 4 : Int) ∧ (v + 4 : Int) < ln) ∧ (InR (v + 5) ∧ ((0 ≤ (v + 5 : Int) ∧ (v + 5 : Int) < ln) ∧ (S_Wr_feed [vR 11 0, vI (xs (v + 1)), vI (xs (v + 2)), vI (xs (v + 3)), vI (xs (v + 4)), vI (xs (v + 5))] σ (kI fun r1 σ1 => (InR (v + 1) ∧ ((0 ≤ (v + 1 : Int) ∧ (v + 1 : Int) < ln) ∧ (InR (v + 2) ∧ ((0 ≤ (v + 2 : Int) ∧ (v + 2 : Int) < ln) ∧ (InR (v + 3) ∧ ((0 ≤ (v + 3 : Int) ∧ (v + 3 : Int) < ln) ∧ (InR (v + 4) ∧ ((0 ≤ (v + 4 : Int) ∧ (v + 4 : Int) < ln) ∧ (InR (v + 5) ∧ ((0 ≤ (v + 5 : Int) ∧ (v + 5 : Int) < ln) ∧ (S_Mo_feed [vR 12 0, vI (xs (v + 1)), vI (xs (v + 2)), vI (xs (v + 3)), vI (xs (v + 4)), vI (xs (v + 5))] σ1 (kI fun r2 σ2 => ((r1 = r2 → (InR (v + 6) ∧ (∃ n', n' < n ∧ Ih n' [vR 61 0, vR 11 0, vR 12 0, vI (v + 6)] σ2))) ∧ (r1 ≠ r2 → ((0 ≤ (0 : Int) ∧ (0 : Int) ≤ 1) ∧ K (vI 0) σ2)))))))))))))))))))))))))))
theorem l_law0 (ln : Int) (xs : Int → Int) (K : AV → SS → Prop) (v : Int) (σ : SS) (n : Nat) (hl : 0 ≤ ln ∧ ln ≤ 3072) (hn : n = (20000 - 2 * v - 1).toNat) (hb : 0 ≤ v ∧ v + 6 ≤ ln) (hS : Sim σ) : VL_law0 ln xs K v σ n := by
  unfold VL_law0
  refine ⟨by omega, ?_⟩
  refine ⟨⟨by omega, by omega⟩, ?_⟩
  refine ⟨by omega, ?_⟩
  refine ⟨⟨by omega, by omega⟩, ?_⟩
  refine ⟨by omega, ?_⟩
  refine ⟨⟨by omega, by omega⟩, ?_⟩
  refine ⟨by omega, ?_⟩
  refine ⟨⟨by omega, by omega⟩, ?_⟩
  refine ⟨by omega, ?_⟩
  refine ⟨⟨by omega, by omega⟩, ?_⟩
  refine cp_feed hS (fun r1 σ1 hm => ?_)
  refine ⟨by omega, ?_⟩
  refine ⟨⟨by omega, by omega⟩, ?_⟩
  refine ⟨by omega, ?_⟩
  refine ⟨⟨by omega, by omega⟩, ?_⟩
  refine ⟨by omega, ?_⟩
  refine ⟨⟨by omega, by omega⟩, ?_⟩
  refine ⟨by omega, ?_⟩
  refine ⟨⟨by omega, by omega⟩, ?_⟩
  refine ⟨by omega, ?_⟩
  refine ⟨⟨by omega, by omega⟩, ?_⟩
  refine hm _ (fun σ2 hS2 => ?_)
  refine ⟨fun _ => ?_, fun z => absurd rfl z⟩
  refine ⟨by omega, ?_⟩
  refine ⟨_, ?_, _, rfl, rfl, ?_, hS2⟩
  · omega
  · omega
def VL_law1 (ln : Int) (xs : Int → Int) (K : AV → SS → Prop) (v : Int) (σ : SS) (n : Nat) : Prop := (InR (v + 1) ∧ ((0 ≤ (v + 1 : Int) ∧ (v + 1 : Int) < ln) ∧ (S_Wr_end [vR 11 0, vI (xs (v + 1))] σ (kI fun r1 σ1 => (InR (v + 1) ∧ ((0 ≤ (v + 1 : Int) ∧ (v + 1 : Int) < ln) ∧ (S_Mo_end [vR 12 0, vI (xs (v + 1))] σ1 (kI fun r2 σ2 => ((r1 = r2 → (InR (v + 6) ∧ (∃ n', n' < n ∧ Ih n' [vR 61 0, vR 11 0, vR 12 0, vI (v + 6)] σ2))) ∧ (r1 ≠ r2 → ((0 ≤ (0 : Int) ∧ (0 : Int) ≤ 1) ∧ K (vI 0) σ2)))))))))))
theorem l_law1 (ln : Int) (xs : Int → Int) (K : AV → SS → Prop) (v : Int) (σ : SS) (n : Nat) (hl : 0 ≤ ln ∧ ln ≤ 3072) (hn : n = (20000 - 2 * v - 1).toNat) (hb : 0 ≤ v ∧ v + 6 ≤ ln) (hS : Sim σ) : VL_law1 ln xs K v σ n := by
  unfold VL_law1
  refine ⟨by omega, ?_⟩
  refine ⟨⟨by omega, by omega⟩, ?_⟩
  refine cp_end hS (fun r1 σ1 hm => ?_)
  refine ⟨by omega, ?_⟩
  refine ⟨⟨by omega, by omega⟩, ?_⟩
  refine hm _ (fun σ2 hS2 => ?_)
  refine ⟨fun _ => ?_, fun z => absurd rfl z⟩
  refine ⟨by omega, ?_⟩
  refine ⟨_, ?_, _, rfl, rfl, ?_, hS2⟩
  · omega
  · omega
def VL_law2 (ln : Int) (xs : Int → Int) (K : AV → SS → Prop) (v : Int) (σ : SS) (n : Nat) : Prop := (S_Wr_tell [vR 11 0] σ (kI fun r1 σ1 => (S_Mo_tell [vR 12 0] σ1 (kI fun r2 σ2 => ((r1 = r2 → (InR (v + 6) ∧ (∃ n', n' < n ∧ Ih n' [vR 61 0, vR 11 0, vR 12 0, vI (v + 6)] σ2))) ∧ (r1 ≠ r2 → ((0 ≤ (0 : Int) ∧ (0 : Int) ≤ 1) ∧ K (vI 0) σ2)))))))
theorem l_law2 (ln : Int) (xs : Int → Int) (K : AV → SS → Prop) (v : Int) (σ : SS) (n : Nat) (hl : 0 ≤ ln ∧ ln ≤ 3072) (hn : n = (20000 - 2 * v - 1).toNat) (hb : 0 ≤ v ∧ v + 6 ≤ ln) (hS : Sim σ) : VL_law2 ln xs K v σ n := by
  unfold VL_law2
  refine cp_tell hS (fun r1 σ1 hm => ?_)
  refine hm _ (fun σ2 hS2 => ?_)
  refine ⟨fun _ => ?_, fun z => absurd rfl z⟩
  refine ⟨by omega, ?_⟩
  refine ⟨_, ?_, _, rfl, rfl, ?_, hS2⟩
  · omega
  · omega
def VL_law3 (ln : Int) (xs : Int → Int) (K : AV → SS → Prop) (v : Int) (σ : SS) (n : Nat) : Prop := (InR (v + 1) ∧ ((0 ≤ (v + 1 : Int) ∧ (v + 1 : Int) < ln) ∧ (InR (v + 2) ∧ ((0 ≤ (v + 2 : Int) ∧ (v + 2 : Int) < ln) ∧ (S_Wr_put [vR 11 0, vI (xs (v + 1)), vI (xs (v + 2))] σ (kI fun r1 σ1 => (InR (v + 1) ∧ ((0 ≤ (v + 1 : Int) ∧ (v + 1 : Int) < ln) ∧ (InR (v + 2) ∧ ((0 ≤ (v + 2 : Int) ∧ (v + 2 : Int) < ln) ∧ (S_Mo_put [vR 12 0, vI (xs (v + 1)), vI (xs (v + 2))] σ1 (kI fun r2 σ2 => ((r1 = r2 → (InR (v + 6) ∧ (∃ n', n' < n ∧ Ih n' [vR 61 0, vR 11 0, vR 12 0, vI (v + 6)] σ2))) ∧ (r1 ≠ r2 → ((0 ≤ (0 : Int) ∧ (0 : Int) ≤ 1) ∧ K (vI 0) σ2)))))))))))))))
theorem l_law3 (ln : Int) (xs : Int → Int) (K : AV → SS → Prop) (v : Int) (σ : SS) (n : Nat) (hl : 0 ≤ ln ∧ ln ≤ 3072) (hn : n = (20000 - 2 * v - 1).toNat) (hb : 0 ≤ v ∧ v + 6 ≤ ln) (hS : Sim σ) : VL_law3 ln xs K v σ n := by
  unfold VL_law3
  refine ⟨by omega, ?_⟩
  refine ⟨⟨by omega, by omega⟩, ?_⟩
  refine ⟨by omega, ?_⟩
  refine ⟨⟨by omega, by omega⟩, ?_⟩
  refine cp_put hS (fun r1 σ1 hm => ?_)
  refine ⟨by omega, ?_⟩
  refine ⟨⟨by omega, by omega⟩, ?_⟩
  refine ⟨by omega, ?_⟩
  refine ⟨⟨by omega, by omega⟩, ?_⟩
  refine hm _ (fun σ2 hS2 => ?_)
  refine ⟨fun _ => ?_, fun z => absurd rfl z⟩
  refine ⟨by omega, ?_⟩
  refine ⟨_, ?_, _, rfl, rfl, ?_, hS2⟩
  · omega
  · omega
def VL_law4 (ln : Int) (xs : Int → Int) (K : AV → SS → Prop) (v : Int) (σ : SS) (n : Nat) : Prop := (InR (v + 1) ∧ ((0 ≤ (v + 1 : Int) ∧ (v + 1 : Int) < ln) ∧ (InR (v + 2) ∧ ((0 ≤ (v + 2 : Int) ∧ (v + 2 : Int) < ln) ∧ (S_Wr_insert [vR 11 0, vI (xs (v + 1)), vI (xs (v + 2))] σ (kI fun r1 σ1 => (InR (v + 1) ∧ ((0 ≤ (v + 1 : Int) ∧ (v + 1 : Int) < ln) ∧ (InR (v + 2) ∧ ((0 ≤ (v + 2 : Int) ∧ (v + 2 : Int) < ln) ∧ (S_Mo_insert [vR 12 0, vI (xs (v + 1)), vI (xs (v + 2))] σ1 (kI fun r2 σ2 => ((r1 = r2 → (InR (v + 6) ∧ (∃ n', n' < n ∧ Ih n' [vR 61 0, vR 11 0, vR 12 0, vI (v + 6)] σ2))) ∧ (r1 ≠ r2 → ((0 ≤ (0 : Int) ∧ (0 : Int) ≤ 1) ∧ K (vI 0) σ2)))))))))))))))
theorem l_law4 (ln : Int) (xs : Int → Int) (K : AV → SS → Prop) (v : Int) (σ : SS) (n : Nat) (hl : 0 ≤ ln ∧ ln ≤ 3072) (hn : n = (20000 - 2 * v - 1).toNat) (hb : 0 ≤ v ∧ v + 6 ≤ ln) (hS : Sim σ) : VL_law4 ln xs K v σ n := by
  unfold VL_law4
  refine ⟨by omega, ?_⟩
  refine ⟨⟨by omega, by omega⟩, ?_⟩
  refine ⟨by omega, ?_⟩
  refine ⟨⟨by omega, by omega⟩, ?_⟩
  refine cp_insert hS (fun r1 σ1 hm => ?_)
  refine ⟨by omega, ?_⟩
  refine ⟨⟨by omega, by omega⟩, ?_⟩
  refine ⟨by omega, ?_⟩
  refine ⟨⟨by omega, by omega⟩, ?_⟩
  refine hm _ (fun σ2 hS2 => ?_)
  refine ⟨fun _ => ?_, fun z => absurd rfl z⟩
  refine ⟨by omega, ?_⟩
  refine ⟨_, ?_, _, rfl, rfl, ?_, hS2⟩
  · omega
  · omega
def VL_law5 (ln : Int) (xs : Int → Int) (K : AV → SS → Prop) (v : Int) (σ : SS) (n : Nat) : Prop := (InR (v + 1) ∧ ((0 ≤ (v + 1 : Int) ∧ (v + 1 : Int) < ln) ∧ (S_Wr_drop [vR 11 0, vI (xs (v + 1))] σ (kI fun r1 σ1 => (InR (v + 1) ∧ ((0 ≤ (v + 1 : Int) ∧ (v + 1 : Int) < ln) ∧ (S_Mo_drop [vR 12 0, vI (xs (v + 1))] σ1 (kI fun r2 σ2 => ((r1 = r2 → (InR (v + 6) ∧ (∃ n', n' < n ∧ Ih n' [vR 61 0, vR 11 0, vR 12 0, vI (v + 6)] σ2))) ∧ (r1 ≠ r2 → ((0 ≤ (0 : Int) ∧ (0 : Int) ≤ 1) ∧ K (vI 0) σ2)))))))))))
theorem l_law5 (ln : Int) (xs : Int → Int) (K : AV → SS → Prop) (v : Int) (σ : SS) (n : Nat) (hl : 0 ≤ ln ∧ ln ≤ 3072) (hn : n = (20000 - 2 * v - 1).toNat) (hb : 0 ≤ v ∧ v + 6 ≤ ln) (hS : Sim σ) : VL_law5 ln xs K v σ n := by
  unfold VL_law5
  refine ⟨by omega, ?_⟩
  refine ⟨⟨by omega, by omega⟩, ?_⟩
  refine cp_drop hS (fun r1 σ1 hm => ?_)
  refine ⟨by omega, ?_⟩
  refine ⟨⟨by omega, by omega⟩, ?_⟩
  refine hm _ (fun σ2 hS2 => ?_)
  refine ⟨fun _ => ?_, fun z => absurd rfl z⟩
  refine ⟨by omega, ?_⟩
  refine ⟨_, ?_, _, rfl, rfl, ?_, hS2⟩
  · omega
  · omega
def VL_law6 (ln : Int) (xs : Int → Int) (K : AV → SS → Prop) (v : Int) (σ : SS) (n : Nat) : Prop := (InR (v + 1) ∧ ((0 ≤ (v + 1 : Int) ∧ (v + 1 : Int) < ln) ∧ (InR (v + 2) ∧ ((0 ≤ (v + 2 : Int) ∧ (v + 2 : Int) < ln) ∧ (S_Wr_turn [vR 11 0, vI (xs (v + 1)), vI (xs (v + 2))] σ (kI fun r1 σ1 => (InR (v + 1) ∧ ((0 ≤ (v + 1 : Int) ∧ (v + 1 : Int) < ln) ∧ (InR (v + 2) ∧ ((0 ≤ (v + 2 : Int) ∧ (v + 2 : Int) < ln) ∧ (S_Mo_turn [vR 12 0, vI (xs (v + 1)), vI (xs (v + 2))] σ1 (kI fun r2 σ2 => ((r1 = r2 → (InR (v + 6) ∧ (∃ n', n' < n ∧ Ih n' [vR 61 0, vR 11 0, vR 12 0, vI (v + 6)] σ2))) ∧ (r1 ≠ r2 → ((0 ≤ (0 : Int) ∧ (0 : Int) ≤ 1) ∧ K (vI 0) σ2)))))))))))))))
theorem l_law6 (ln : Int) (xs : Int → Int) (K : AV → SS → Prop) (v : Int) (σ : SS) (n : Nat) (hl : 0 ≤ ln ∧ ln ≤ 3072) (hn : n = (20000 - 2 * v - 1).toNat) (hb : 0 ≤ v ∧ v + 6 ≤ ln) (hS : Sim σ) : VL_law6 ln xs K v σ n := by
  unfold VL_law6
  refine ⟨by omega, ?_⟩
  refine ⟨⟨by omega, by omega⟩, ?_⟩
  refine ⟨by omega, ?_⟩
  refine ⟨⟨by omega, by omega⟩, ?_⟩
  refine cp_turn hS (fun r1 σ1 hm => ?_)
  refine ⟨by omega, ?_⟩
  refine ⟨⟨by omega, by omega⟩, ?_⟩
  refine ⟨by omega, ?_⟩
  refine ⟨⟨by omega, by omega⟩, ?_⟩
  refine hm _ (fun σ2 hS2 => ?_)
  refine ⟨fun _ => ?_, fun z => absurd rfl z⟩
  refine ⟨by omega, ?_⟩
  refine ⟨_, ?_, _, rfl, rfl, ?_, hS2⟩
  · omega
  · omega
def VL_law7 (ln : Int) (xs : Int → Int) (K : AV → SS → Prop) (v : Int) (σ : SS) (n : Nat) : Prop := (InR (v + 1) ∧ ((0 ≤ (v + 1 : Int) ∧ (v + 1 : Int) < ln) ∧ (InR (v + 2) ∧ ((0 ≤ (v + 2 : Int) ∧ (v + 2 : Int) < ln) ∧ (S_Wr_again [vR 11 0, vI (xs (v + 1)), vI (xs (v + 2))] σ (kI fun r1 σ1 => (InR (v + 1) ∧ ((0 ≤ (v + 1 : Int) ∧ (v + 1 : Int) < ln) ∧ (InR (v + 2) ∧ ((0 ≤ (v + 2 : Int) ∧ (v + 2 : Int) < ln) ∧ (S_Mo_again [vR 12 0, vI (xs (v + 1)), vI (xs (v + 2))] σ1 (kI fun r2 σ2 => ((r1 = r2 → (InR (v + 6) ∧ (∃ n', n' < n ∧ Ih n' [vR 61 0, vR 11 0, vR 12 0, vI (v + 6)] σ2))) ∧ (r1 ≠ r2 → ((0 ≤ (0 : Int) ∧ (0 : Int) ≤ 1) ∧ K (vI 0) σ2)))))))))))))))
theorem l_law7 (ln : Int) (xs : Int → Int) (K : AV → SS → Prop) (v : Int) (σ : SS) (n : Nat) (hl : 0 ≤ ln ∧ ln ≤ 3072) (hn : n = (20000 - 2 * v - 1).toNat) (hb : 0 ≤ v ∧ v + 6 ≤ ln) (hS : Sim σ) : VL_law7 ln xs K v σ n := by
  unfold VL_law7
  refine ⟨by omega, ?_⟩
  refine ⟨⟨by omega, by omega⟩, ?_⟩
  refine ⟨by omega, ?_⟩
  refine ⟨⟨by omega, by omega⟩, ?_⟩
  refine cp_again hS (fun r1 σ1 hm => ?_)
  refine ⟨by omega, ?_⟩
  refine ⟨⟨by omega, by omega⟩, ?_⟩
  refine ⟨by omega, ?_⟩
  refine ⟨⟨by omega, by omega⟩, ?_⟩
  refine hm _ (fun σ2 hS2 => ?_)
  refine ⟨fun _ => ?_, fun z => absurd rfl z⟩
  refine ⟨by omega, ?_⟩
  refine ⟨_, ?_, _, rfl, rfl, ?_, hS2⟩
  · omega
  · omega
def VL_law8 (ln : Int) (xs : Int → Int) (K : AV → SS → Prop) (v : Int) (σ : SS) (n : Nat) : Prop := (InR (v + 1) ∧ ((0 ≤ (v + 1 : Int) ∧ (v + 1 : Int) < ln) ∧ (S_Wr_rotate [vR 11 0, vI (xs (v + 1))] σ (kI fun r1 σ1 => (InR (v + 1) ∧ ((0 ≤ (v + 1 : Int) ∧ (v + 1 : Int) < ln) ∧ (S_Mo_rotate [vR 12 0, vI (xs (v + 1))] σ1 (kI fun r2 σ2 => ((r1 = r2 → (InR (v + 6) ∧ (∃ n', n' < n ∧ Ih n' [vR 61 0, vR 11 0, vR 12 0, vI (v + 6)] σ2))) ∧ (r1 ≠ r2 → ((0 ≤ (0 : Int) ∧ (0 : Int) ≤ 1) ∧ K (vI 0) σ2)))))))))))
theorem l_law8 (ln : Int) (xs : Int → Int) (K : AV → SS → Prop) (v : Int) (σ : SS) (n : Nat) (hl : 0 ≤ ln ∧ ln ≤ 3072) (hn : n = (20000 - 2 * v - 1).toNat) (hb : 0 ≤ v ∧ v + 6 ≤ ln) (hS : Sim σ) : VL_law8 ln xs K v σ n := by
  unfold VL_law8
  refine ⟨by omega, ?_⟩
  refine ⟨⟨by omega, by omega⟩, ?_⟩
  refine cp_rotate hS (fun r1 σ1 hm => ?_)
  refine ⟨by omega, ?_⟩
  refine ⟨⟨by omega, by omega⟩, ?_⟩
  refine hm _ (fun σ2 hS2 => ?_)
  refine ⟨fun _ => ?_, fun z => absurd rfl z⟩
  refine ⟨by omega, ?_⟩
  refine ⟨_, ?_, _, rfl, rfl, ?_, hS2⟩
  · omega
  · omega
def VL_law9 (ln : Int) (xs : Int → Int) (K : AV → SS → Prop) (v : Int) (σ : SS) (n : Nat) : Prop := (InR (v + 1) ∧ ((0 ≤ (v + 1 : Int) ∧ (v + 1 : Int) < ln) ∧ (InR (v + 2) ∧ ((0 ≤ (v + 2 : Int) ∧ (v + 2 : Int) < ln) ∧ (S_Wr_only [vR 11 0, vI (xs (v + 1)), vI (xs (v + 2))] σ (kI fun r1 σ1 => (InR (v + 1) ∧ ((0 ≤ (v + 1 : Int) ∧ (v + 1 : Int) < ln) ∧ (InR (v + 2) ∧ ((0 ≤ (v + 2 : Int) ∧ (v + 2 : Int) < ln) ∧ (S_Mo_only [vR 12 0, vI (xs (v + 1)), vI (xs (v + 2))] σ1 (kI fun r2 σ2 => ((r1 = r2 → (InR (v + 6) ∧ (∃ n', n' < n ∧ Ih n' [vR 61 0, vR 11 0, vR 12 0, vI (v + 6)] σ2))) ∧ (r1 ≠ r2 → ((0 ≤ (0 : Int) ∧ (0 : Int) ≤ 1) ∧ K (vI 0) σ2)))))))))))))))
theorem l_law9 (ln : Int) (xs : Int → Int) (K : AV → SS → Prop) (v : Int) (σ : SS) (n : Nat) (hl : 0 ≤ ln ∧ ln ≤ 3072) (hn : n = (20000 - 2 * v - 1).toNat) (hb : 0 ≤ v ∧ v + 6 ≤ ln) (hS : Sim σ) : VL_law9 ln xs K v σ n := by
  unfold VL_law9
  refine ⟨by omega, ?_⟩
  refine ⟨⟨by omega, by omega⟩, ?_⟩
  refine ⟨by omega, ?_⟩
  refine ⟨⟨by omega, by omega⟩, ?_⟩
  refine cp_only hS (fun r1 σ1 hm => ?_)
  refine ⟨by omega, ?_⟩
  refine ⟨⟨by omega, by omega⟩, ?_⟩
  refine ⟨by omega, ?_⟩
  refine ⟨⟨by omega, by omega⟩, ?_⟩
  refine hm _ (fun σ2 hS2 => ?_)
  refine ⟨fun _ => ?_, fun z => absurd rfl z⟩
  refine ⟨by omega, ?_⟩
  refine ⟨_, ?_, _, rfl, rfl, ?_, hS2⟩
  · omega
  · omega
def VL_law10 (ln : Int) (xs : Int → Int) (K : AV → SS → Prop) (v : Int) (σ : SS) (n : Nat) : Prop := (S_Wr_undo [vR 11 0] σ (kI fun r1 σ1 => (S_Mo_undo [vR 12 0] σ1 (kI fun r2 σ2 => ((r1 = r2 → (InR (v + 6) ∧ (∃ n', n' < n ∧ Ih n' [vR 61 0, vR 11 0, vR 12 0, vI (v + 6)] σ2))) ∧ (r1 ≠ r2 → ((0 ≤ (0 : Int) ∧ (0 : Int) ≤ 1) ∧ K (vI 0) σ2)))))))
theorem l_law10 (ln : Int) (xs : Int → Int) (K : AV → SS → Prop) (v : Int) (σ : SS) (n : Nat) (hl : 0 ≤ ln ∧ ln ≤ 3072) (hn : n = (20000 - 2 * v - 1).toNat) (hb : 0 ≤ v ∧ v + 6 ≤ ln) (hS : Sim σ) : VL_law10 ln xs K v σ n := by
  unfold VL_law10
  refine cp_undo hS (fun r1 σ1 hm => ?_)
  refine hm _ (fun σ2 hS2 => ?_)
  refine ⟨fun _ => ?_, fun z => absurd rfl z⟩
  refine ⟨by omega, ?_⟩
  refine ⟨_, ?_, _, rfl, rfl, ?_, hS2⟩
  · omega
  · omega
def VL_law11 (ln : Int) (xs : Int → Int) (K : AV → SS → Prop) (v : Int) (σ : SS) (n : Nat) : Prop := (InR (v + 1) ∧ ((0 ≤ (v + 1 : Int) ∧ (v + 1 : Int) < ln) ∧ (S_Wr_keep [vR 11 0, vI (xs (v + 1))] σ (kI fun r1 σ1 => (InR (v + 1) ∧ ((0 ≤ (v + 1 : Int) ∧ (v + 1 : Int) < ln) ∧ (S_Mo_keep [vR 12 0, vI (xs (v + 1))] σ1 (kI fun r2 σ2 => ((r1 = r2 → (InR (v + 6) ∧ (∃ n', n' < n ∧ Ih n' [vR 61 0, vR 11 0, vR 12 0, vI (v + 6)] σ2))) ∧ (r1 ≠ r2 → ((0 ≤ (0 : Int) ∧ (0 : Int) ≤ 1) ∧ K (vI 0) σ2)))))))))))
theorem l_law11 (ln : Int) (xs : Int → Int) (K : AV → SS → Prop) (v : Int) (σ : SS) (n : Nat) (hl : 0 ≤ ln ∧ ln ≤ 3072) (hn : n = (20000 - 2 * v - 1).toNat) (hb : 0 ≤ v ∧ v + 6 ≤ ln) (hS : Sim σ) : VL_law11 ln xs K v σ n := by
  unfold VL_law11
  refine ⟨by omega, ?_⟩
  refine ⟨⟨by omega, by omega⟩, ?_⟩
  refine cp_keep hS (fun r1 σ1 hm => ?_)
  refine ⟨by omega, ?_⟩
  refine ⟨⟨by omega, by omega⟩, ?_⟩
  refine hm _ (fun σ2 hS2 => ?_)
  refine ⟨fun _ => ?_, fun z => absurd rfl z⟩
  refine ⟨by omega, ?_⟩
  refine ⟨_, ?_, _, rfl, rfl, ?_, hS2⟩
  · omega
  · omega
def VL_law12 (ln : Int) (xs : Int → Int) (K : AV → SS → Prop) (v : Int) (σ : SS) (n : Nat) : Prop := (InR (v + 1) ∧ ((0 ≤ (v + 1 : Int) ∧ (v + 1 : Int) < ln) ∧ (S_Wr_back [vR 11 0, vI (xs (v + 1))] σ (kI fun r1 σ1 => (InR (v + 1) ∧ ((0 ≤ (v + 1 : Int) ∧ (v + 1 : Int) < ln) ∧ (S_Mo_back [vR 12 0, vI (xs (v + 1))] σ1 (kI fun r2 σ2 => ((r1 = r2 → (InR (v + 6) ∧ (∃ n', n' < n ∧ Ih n' [vR 61 0, vR 11 0, vR 12 0, vI (v + 6)] σ2))) ∧ (r1 ≠ r2 → ((0 ≤ (0 : Int) ∧ (0 : Int) ≤ 1) ∧ K (vI 0) σ2)))))))))))
theorem l_law12 (ln : Int) (xs : Int → Int) (K : AV → SS → Prop) (v : Int) (σ : SS) (n : Nat) (hl : 0 ≤ ln ∧ ln ≤ 3072) (hn : n = (20000 - 2 * v - 1).toNat) (hb : 0 ≤ v ∧ v + 6 ≤ ln) (hS : Sim σ) : VL_law12 ln xs K v σ n := by
  unfold VL_law12
  refine ⟨by omega, ?_⟩
  refine ⟨⟨by omega, by omega⟩, ?_⟩
  refine cp_back hS (fun r1 σ1 hm => ?_)
  refine ⟨by omega, ?_⟩
  refine ⟨⟨by omega, by omega⟩, ?_⟩
  refine hm _ (fun σ2 hS2 => ?_)
  refine ⟨fun _ => ?_, fun z => absurd rfl z⟩
  refine ⟨by omega, ?_⟩
  refine ⟨_, ?_, _, rfl, rfl, ?_, hS2⟩
  · omega
  · omega
def VL_law13 (ln : Int) (xs : Int → Int) (K : AV → SS → Prop) (v : Int) (σ : SS) (n : Nat) : Prop := (InR (v + 1) ∧ ((0 ≤ (v + 1 : Int) ∧ (v + 1 : Int) < ln) ∧ (S_Wr_letter [vR 11 0, vI (xs (v + 1))] σ (kI fun r1 σ1 => (InR (v + 1) ∧ ((0 ≤ (v + 1 : Int) ∧ (v + 1 : Int) < ln) ∧ (S_Mo_letter [vR 12 0, vI (xs (v + 1))] σ1 (kI fun r2 σ2 => ((r1 = r2 → (InR (v + 6) ∧ (∃ n', n' < n ∧ Ih n' [vR 61 0, vR 11 0, vR 12 0, vI (v + 6)] σ2))) ∧ (r1 ≠ r2 → ((0 ≤ (0 : Int) ∧ (0 : Int) ≤ 1) ∧ K (vI 0) σ2)))))))))))
theorem l_law13 (ln : Int) (xs : Int → Int) (K : AV → SS → Prop) (v : Int) (σ : SS) (n : Nat) (hl : 0 ≤ ln ∧ ln ≤ 3072) (hn : n = (20000 - 2 * v - 1).toNat) (hb : 0 ≤ v ∧ v + 6 ≤ ln) (hS : Sim σ) : VL_law13 ln xs K v σ n := by
  unfold VL_law13
  refine ⟨by omega, ?_⟩
  refine ⟨⟨by omega, by omega⟩, ?_⟩
  refine cp_letter hS (fun r1 σ1 hm => ?_)
  refine ⟨by omega, ?_⟩
  refine ⟨⟨by omega, by omega⟩, ?_⟩
  refine hm _ (fun σ2 hS2 => ?_)
  refine ⟨fun _ => ?_, fun z => absurd rfl z⟩
  refine ⟨by omega, ?_⟩
  refine ⟨_, ?_, _, rfl, rfl, ?_, hS2⟩
  · omega
  · omega
def VL_law14 (ln : Int) (xs : Int → Int) (K : AV → SS → Prop) (v : Int) (σ : SS) (n : Nat) : Prop := (InR (v + 1) ∧ ((0 ≤ (v + 1 : Int) ∧ (v + 1 : Int) < ln) ∧ (InR (v + 2) ∧ ((0 ≤ (v + 2 : Int) ∧ (v + 2 : Int) < ln) ∧ (InR (v + 3) ∧ ((0 ≤ (v + 3 : Int) ∧ (v + 3 : Int) < ln) ∧ (S_Wr_border [vR 11 0, vI (xs (v + 1)), vI (xs (v + 2)), vI (xs (v + 3))] σ (kI fun r1 σ1 => (InR (v + 1) ∧ ((0 ≤ (v + 1 : Int) ∧ (v + 1 : Int) < ln) ∧ (InR (v + 2) ∧ ((0 ≤ (v + 2 : Int) ∧ (v + 2 : Int) < ln) ∧ (InR (v + 3) ∧ ((0 ≤ (v + 3 : Int) ∧ (v + 3 : Int) < ln) ∧ (S_Mo_border [vR 12 0, vI (xs (v + 1)), vI (xs (v + 2)), vI (xs (v + 3))] σ1 (kI fun r2 σ2 => ((r1 = r2 → (InR (v + 6) ∧ (∃ n', n' < n ∧ Ih n' [vR 61 0, vR 11 0, vR 12 0, vI (v + 6)] σ2))) ∧ (r1 ≠ r2 → ((0 ≤ (0 : Int) ∧ (0 : Int) ≤ 1) ∧ K (vI 0) σ2)))))))))))))))))))
theorem l_law14 (ln : Int) (xs : Int → Int) (K : AV → SS → Prop) (v : Int) (σ : SS) (n : Nat) (hl : 0 ≤ ln ∧ ln ≤ 3072) (hn : n = (20000 - 2 * v - 1).toNat) (hb : 0 ≤ v ∧ v + 6 ≤ ln) (hS : Sim σ) : VL_law14 ln xs K v σ n := by
  unfold VL_law14
  refine ⟨by omega, ?_⟩
  refine ⟨⟨by omega, by omega⟩, ?_⟩
  refine ⟨by omega, ?_⟩
  refine ⟨⟨by omega, by omega⟩, ?_⟩
  refine ⟨by omega, ?_⟩
  refine ⟨⟨by omega, by omega⟩, ?_⟩
  refine cp_border hS (fun r1 σ1 hm => ?_)
  refine ⟨by omega, ?_⟩
  refine ⟨⟨by omega, by omega⟩, ?_⟩
  refine ⟨by omega, ?_⟩
  refine ⟨⟨by omega, by omega⟩, ?_⟩
  refine ⟨by omega, ?_⟩
  refine ⟨⟨by omega, by omega⟩, ?_⟩
  refine hm _ (fun σ2 hS2 => ?_)
  refine ⟨fun _ => ?_, fun z => absurd rfl z⟩
  refine ⟨by omega, ?_⟩
  refine ⟨_, ?_, _, rfl, rfl, ?_, hS2⟩
  · omega
  · omega
def VL_law15 (ln : Int) (xs : Int → Int) (K : AV → SS → Prop) (v : Int) (σ : SS) (n : Nat) : Prop := (InR (v + 1) ∧ ((0 ≤ (v + 1 : Int) ∧ (v + 1 : Int) < ln) ∧ (InR (v + 2) ∧ ((0 ≤ (v + 2 : Int) ∧ (v + 2 : Int) < ln) ∧ (InR (v + 3) ∧ ((0 ≤ (v + 3 : Int) ∧ (v + 3 : Int) < ln) ∧ (S_Wr_period [vR 11 0, vI (xs (v + 1)), vI (xs (v + 2)), vI (xs (v + 3))] σ (kI fun r1 σ1 => (InR (v + 1) ∧ ((0 ≤ (v + 1 : Int) ∧ (v + 1 : Int) < ln) ∧ (InR (v + 2) ∧ ((0 ≤ (v + 2 : Int) ∧ (v + 2 : Int) < ln) ∧ (InR (v + 3) ∧ ((0 ≤ (v + 3 : Int) ∧ (v + 3 : Int) < ln) ∧ (S_Mo_period [vR 12 0, vI (xs (v + 1)), vI (xs (v + 2)), vI (xs (v + 3))] σ1 (kI fun r2 σ2 => ((r1 = r2 → (InR (v + 6) ∧ (∃ n', n' < n ∧ Ih n' [vR 61 0, vR 11 0, vR 12 0, vI (v + 6)] σ2))) ∧ (r1 ≠ r2 → ((0 ≤ (0 : Int) ∧ (0 : Int) ≤ 1) ∧ K (vI 0) σ2)))))))))))))))))))
theorem l_law15 (ln : Int) (xs : Int → Int) (K : AV → SS → Prop) (v : Int) (σ : SS) (n : Nat) (hl : 0 ≤ ln ∧ ln ≤ 3072) (hn : n = (20000 - 2 * v - 1).toNat) (hb : 0 ≤ v ∧ v + 6 ≤ ln) (hS : Sim σ) : VL_law15 ln xs K v σ n := by
  unfold VL_law15
  refine ⟨by omega, ?_⟩
  refine ⟨⟨by omega, by omega⟩, ?_⟩
  refine ⟨by omega, ?_⟩
  refine ⟨⟨by omega, by omega⟩, ?_⟩
  refine ⟨by omega, ?_⟩
  refine ⟨⟨by omega, by omega⟩, ?_⟩
  refine cp_period hS (fun r1 σ1 hm => ?_)
  refine ⟨by omega, ?_⟩
  refine ⟨⟨by omega, by omega⟩, ?_⟩
  refine ⟨by omega, ?_⟩
  refine ⟨⟨by omega, by omega⟩, ?_⟩
  refine ⟨by omega, ?_⟩
  refine ⟨⟨by omega, by omega⟩, ?_⟩
  refine hm _ (fun σ2 hS2 => ?_)
  refine ⟨fun _ => ?_, fun z => absurd rfl z⟩
  refine ⟨by omega, ?_⟩
  refine ⟨_, ?_, _, rfl, rfl, ?_, hS2⟩
  · omega
  · omega
def VL_law16 (ln : Int) (xs : Int → Int) (K : AV → SS → Prop) (v : Int) (σ : SS) (n : Nat) : Prop := (InR (v + 1) ∧ ((0 ≤ (v + 1 : Int) ∧ (v + 1 : Int) < ln) ∧ (InR (v + 2) ∧ ((0 ≤ (v + 2 : Int) ∧ (v + 2 : Int) < ln) ∧ (InR (v + 3) ∧ ((0 ≤ (v + 3 : Int) ∧ (v + 3 : Int) < ln) ∧ (S_Wr_root [vR 11 0, vI (xs (v + 1)), vI (xs (v + 2)), vI (xs (v + 3))] σ (kI fun r1 σ1 => (InR (v + 1) ∧ ((0 ≤ (v + 1 : Int) ∧ (v + 1 : Int) < ln) ∧ (InR (v + 2) ∧ ((0 ≤ (v + 2 : Int) ∧ (v + 2 : Int) < ln) ∧ (InR (v + 3) ∧ ((0 ≤ (v + 3 : Int) ∧ (v + 3 : Int) < ln) ∧ (S_Mo_root [vR 12 0, vI (xs (v + 1)), vI (xs (v + 2)), vI (xs (v + 3))] σ1 (kI fun r2 σ2 => ((r1 = r2 → (InR (v + 6) ∧ (∃ n', n' < n ∧ Ih n' [vR 61 0, vR 11 0, vR 12 0, vI (v + 6)] σ2))) ∧ (r1 ≠ r2 → ((0 ≤ (0 : Int) ∧ (0 : Int) ≤ 1) ∧ K (vI 0) σ2)))))))))))))))))))
theorem l_law16 (ln : Int) (xs : Int → Int) (K : AV → SS → Prop) (v : Int) (σ : SS) (n : Nat) (hl : 0 ≤ ln ∧ ln ≤ 3072) (hn : n = (20000 - 2 * v - 1).toNat) (hb : 0 ≤ v ∧ v + 6 ≤ ln) (hS : Sim σ) : VL_law16 ln xs K v σ n := by
  unfold VL_law16
  refine ⟨by omega, ?_⟩
  refine ⟨⟨by omega, by omega⟩, ?_⟩
  refine ⟨by omega, ?_⟩
  refine ⟨⟨by omega, by omega⟩, ?_⟩
  refine ⟨by omega, ?_⟩
  refine ⟨⟨by omega, by omega⟩, ?_⟩
  refine cp_root hS (fun r1 σ1 hm => ?_)
  refine ⟨by omega, ?_⟩
  refine ⟨⟨by omega, by omega⟩, ?_⟩
  refine ⟨by omega, ?_⟩
  refine ⟨⟨by omega, by omega⟩, ?_⟩
  refine ⟨by omega, ?_⟩
  refine ⟨⟨by omega, by omega⟩, ?_⟩
  refine hm _ (fun σ2 hS2 => ?_)
  refine ⟨fun _ => ?_, fun z => absurd rfl z⟩
  refine ⟨by omega, ?_⟩
  refine ⟨_, ?_, _, rfl, rfl, ?_, hS2⟩
  · omega
  · omega
def VL_law17 (ln : Int) (xs : Int → Int) (K : AV → SS → Prop) (v : Int) (σ : SS) (n : Nat) : Prop := (InR (v + 1) ∧ ((0 ≤ (v + 1 : Int) ∧ (v + 1 : Int) < ln) ∧ (((xs (v + 1)) = 0 → (InR (v + 2) ∧ ((0 ≤ (v + 2 : Int) ∧ (v + 2 : Int) < ln) ∧ (S_Wr_lyndon [vR 11 0, vI 0, vI (xs (v + 2))] σ (kI fun r1 σ1 => (InR (v + 1) ∧ ((0 ≤ (v + 1 : Int) ∧ (v + 1 : Int) < ln) ∧ (((xs (v + 1)) = 0 → (InR (v + 2) ∧ ((0 ≤ (v + 2 : Int) ∧ (v + 2 : Int) < ln) ∧ (S_Mo_lyndon [vR 12 0, vI 0, vI (xs (v + 2))] σ1 (kI fun r2 σ2 => ((r1 = r2 → (InR (v + 6) ∧ (∃ n', n' < n ∧ Ih n' [vR 61 0, vR 11 0, vR 12 0, vI (v + 6)] σ2))) ∧ (r1 ≠ r2 → ((0 ≤ (0 : Int) ∧ (0 : Int) ≤ 1) ∧ K (vI 0) σ2)))))))) ∧ ((xs (v + 1)) ≠ 0 → (InR (v + 2) ∧ ((0 ≤ (v + 2 : Int) ∧ (v + 2 : Int) < ln) ∧ (S_Mo_lyndon [vR 12 0, vI 1, vI (xs (v + 2))] σ1 (kI fun r3 σ3 => ((r1 = r3 → (InR (v + 6) ∧ (∃ n', n' < n ∧ Ih n' [vR 61 0, vR 11 0, vR 12 0, vI (v + 6)] σ3))) ∧ (r1 ≠ r3 → ((0 ≤ (0 : Int) ∧ (0 : Int) ≤ 1) ∧ K (vI 0) σ3)))))))))))))))) ∧ ((xs (v + 1)) ≠ 0 → (InR (v + 2) ∧ ((0 ≤ (v + 2 : Int) ∧ (v + 2 : Int) < ln) ∧ (S_Wr_lyndon [vR 11 0, vI 1, vI (xs (v + 2))] σ (kI fun r4 σ4 => (InR (v + 1) ∧ ((0 ≤ (v + 1 : Int) ∧ (v + 1 : Int) < ln) ∧ (((xs (v + 1)) = 0 → (InR (v + 2) ∧ ((0 ≤ (v + 2 : Int) ∧ (v + 2 : Int) < ln) ∧ (S_Mo_lyndon [vR 12 0, vI 0, vI (xs (v + 2))] σ4 (kI fun r5 σ5 => ((r4 = r5 → (InR (v + 6) ∧ (∃ n', n' < n ∧ Ih n' [vR 61 0, vR 11 0, vR 12 0, vI (v + 6)] σ5))) ∧ (r4 ≠ r5 → ((0 ≤ (0 : Int) ∧ (0 : Int) ≤ 1) ∧ K (vI 0) σ5)))))))) ∧ ((xs (v + 1)) ≠ 0 → (InR (v + 2) ∧ ((0 ≤ (v + 2 : Int) ∧ (v + 2 : Int) < ln) ∧ (S_Mo_lyndon [vR 12 0, vI 1, vI (xs (v + 2))] σ4 (kI fun r6 σ6 => ((r4 = r6 → (InR (v + 6) ∧ (∃ n', n' < n ∧ Ih n' [vR 61 0, vR 11 0, vR 12 0, vI (v + 6)] σ6))) ∧ (r4 ≠ r6 → ((0 ≤ (0 : Int) ∧ (0 : Int) ≤ 1) ∧ K (vI 0) σ6)))))))))))))))))))
theorem l_law17 (ln : Int) (xs : Int → Int) (K : AV → SS → Prop) (v : Int) (σ : SS) (n : Nat) (hl : 0 ≤ ln ∧ ln ≤ 3072) (hn : n = (20000 - 2 * v - 1).toNat) (hb : 0 ≤ v ∧ v + 6 ≤ ln) (hS : Sim σ) : VL_law17 ln xs K v σ n := by
  unfold VL_law17
  refine ⟨by omega, ?_⟩
  refine ⟨⟨by omega, by omega⟩, ?_⟩
  refine ⟨fun c => ?_, fun c => ?_⟩
  · skip
    have d0 := c
    refine ⟨by omega, ?_⟩
    refine ⟨⟨by omega, by omega⟩, ?_⟩
    refine cp_lyndon hS (fun r1 σ1 hm => ?_)
    refine ⟨by omega, ?_⟩
    refine ⟨⟨by omega, by omega⟩, ?_⟩
    refine ⟨fun c => ?_, fun c => ?_⟩
    · skip
      refine ⟨by omega, ?_⟩
      refine ⟨⟨by omega, by omega⟩, ?_⟩
      refine hm _ (fun σ2 hS2 => ?_)
      refine ⟨fun _ => ?_, fun z => absurd rfl z⟩
      refine ⟨by omega, ?_⟩
      refine ⟨_, ?_, _, rfl, rfl, ?_, hS2⟩
      · omega
      · omega
    · exact absurd d0 c
  · skip
    have d0 := c
    refine ⟨by omega, ?_⟩
    refine ⟨⟨by omega, by omega⟩, ?_⟩
    refine cp_lyndon hS (fun r1 σ1 hm => ?_)
    refine ⟨by omega, ?_⟩
    refine ⟨⟨by omega, by omega⟩, ?_⟩
    refine ⟨fun c => ?_, fun c => ?_⟩
    · exact absurd c d0
    · skip
      refine ⟨by omega, ?_⟩
      refine ⟨⟨by omega, by omega⟩, ?_⟩
      refine hm _ (fun σ2 hS2 => ?_)
      refine ⟨fun _ => ?_, fun z => absurd rfl z⟩
      refine ⟨by omega, ?_⟩
      refine ⟨_, ?_, _, rfl, rfl, ?_, hS2⟩
      · omega
      · omega
def VL_law18 (ln : Int) (xs : Int → Int) (K : AV → SS → Prop) (v : Int) (σ : SS) (n : Nat) : Prop := (InR (v + 1) ∧ ((0 ≤ (v + 1 : Int) ∧ (v + 1 : Int) < ln) ∧ (((xs (v + 1)) = 0 → (InR (v + 2) ∧ ((0 ≤ (v + 2 : Int) ∧ (v + 2 : Int) < ln) ∧ (S_Wr_longest [vR 11 0, vI 0, vI (xs (v + 2))] σ (kI fun r1 σ1 => (InR (v + 1) ∧ ((0 ≤ (v + 1 : Int) ∧ (v + 1 : Int) < ln) ∧ (((xs (v + 1)) = 0 → (InR (v + 2) ∧ ((0 ≤ (v + 2 : Int) ∧ (v + 2 : Int) < ln) ∧ (S_Mo_longest [vR 12 0, vI 0, vI (xs (v + 2))] σ1 (kI fun r2 σ2 => ((r1 = r2 → (InR (v + 6) ∧ (∃ n', n' < n ∧ Ih n' [vR 61 0, vR 11 0, vR 12 0, vI (v + 6)] σ2))) ∧ (r1 ≠ r2 → ((0 ≤ (0 : Int) ∧ (0 : Int) ≤ 1) ∧ K (vI 0) σ2)))))))) ∧ ((xs (v + 1)) ≠ 0 → (InR (v + 2) ∧ ((0 ≤ (v + 2 : Int) ∧ (v + 2 : Int) < ln) ∧ (S_Mo_longest [vR 12 0, vI 1, vI (xs (v + 2))] σ1 (kI fun r3 σ3 => ((r1 = r3 → (InR (v + 6) ∧ (∃ n', n' < n ∧ Ih n' [vR 61 0, vR 11 0, vR 12 0, vI (v + 6)] σ3))) ∧ (r1 ≠ r3 → ((0 ≤ (0 : Int) ∧ (0 : Int) ≤ 1) ∧ K (vI 0) σ3)))))))))))))))) ∧ ((xs (v + 1)) ≠ 0 → (InR (v + 2) ∧ ((0 ≤ (v + 2 : Int) ∧ (v + 2 : Int) < ln) ∧ (S_Wr_longest [vR 11 0, vI 1, vI (xs (v + 2))] σ (kI fun r4 σ4 => (InR (v + 1) ∧ ((0 ≤ (v + 1 : Int) ∧ (v + 1 : Int) < ln) ∧ (((xs (v + 1)) = 0 → (InR (v + 2) ∧ ((0 ≤ (v + 2 : Int) ∧ (v + 2 : Int) < ln) ∧ (S_Mo_longest [vR 12 0, vI 0, vI (xs (v + 2))] σ4 (kI fun r5 σ5 => ((r4 = r5 → (InR (v + 6) ∧ (∃ n', n' < n ∧ Ih n' [vR 61 0, vR 11 0, vR 12 0, vI (v + 6)] σ5))) ∧ (r4 ≠ r5 → ((0 ≤ (0 : Int) ∧ (0 : Int) ≤ 1) ∧ K (vI 0) σ5)))))))) ∧ ((xs (v + 1)) ≠ 0 → (InR (v + 2) ∧ ((0 ≤ (v + 2 : Int) ∧ (v + 2 : Int) < ln) ∧ (S_Mo_longest [vR 12 0, vI 1, vI (xs (v + 2))] σ4 (kI fun r6 σ6 => ((r4 = r6 → (InR (v + 6) ∧ (∃ n', n' < n ∧ Ih n' [vR 61 0, vR 11 0, vR 12 0, vI (v + 6)] σ6))) ∧ (r4 ≠ r6 → ((0 ≤ (0 : Int) ∧ (0 : Int) ≤ 1) ∧ K (vI 0) σ6)))))))))))))))))))
theorem l_law18 (ln : Int) (xs : Int → Int) (K : AV → SS → Prop) (v : Int) (σ : SS) (n : Nat) (hl : 0 ≤ ln ∧ ln ≤ 3072) (hn : n = (20000 - 2 * v - 1).toNat) (hb : 0 ≤ v ∧ v + 6 ≤ ln) (hS : Sim σ) : VL_law18 ln xs K v σ n := by
  unfold VL_law18
  refine ⟨by omega, ?_⟩
  refine ⟨⟨by omega, by omega⟩, ?_⟩
  refine ⟨fun c => ?_, fun c => ?_⟩
  · skip
    have d0 := c
    refine ⟨by omega, ?_⟩
    refine ⟨⟨by omega, by omega⟩, ?_⟩
    refine cp_longest hS (fun r1 σ1 hm => ?_)
    refine ⟨by omega, ?_⟩
    refine ⟨⟨by omega, by omega⟩, ?_⟩
    refine ⟨fun c => ?_, fun c => ?_⟩
    · skip
      refine ⟨by omega, ?_⟩
      refine ⟨⟨by omega, by omega⟩, ?_⟩
      refine hm _ (fun σ2 hS2 => ?_)
      refine ⟨fun _ => ?_, fun z => absurd rfl z⟩
      refine ⟨by omega, ?_⟩
      refine ⟨_, ?_, _, rfl, rfl, ?_, hS2⟩
      · omega
      · omega
    · exact absurd d0 c
  · skip
    have d0 := c
    refine ⟨by omega, ?_⟩
    refine ⟨⟨by omega, by omega⟩, ?_⟩
    refine cp_longest hS (fun r1 σ1 hm => ?_)
    refine ⟨by omega, ?_⟩
    refine ⟨⟨by omega, by omega⟩, ?_⟩
    refine ⟨fun c => ?_, fun c => ?_⟩
    · exact absurd c d0
    · skip
      refine ⟨by omega, ?_⟩
      refine ⟨⟨by omega, by omega⟩, ?_⟩
      refine hm _ (fun σ2 hS2 => ?_)
      refine ⟨fun _ => ?_, fun z => absurd rfl z⟩
      refine ⟨by omega, ?_⟩
      refine ⟨_, ?_, _, rfl, rfl, ?_, hS2⟩
      · omega
      · omega
def VL_law19 (ln : Int) (xs : Int → Int) (K : AV → SS → Prop) (v : Int) (σ : SS) (n : Nat) : Prop := (InR (v + 1) ∧ ((0 ≤ (v + 1 : Int) ∧ (v + 1 : Int) < ln) ∧ (InR (v + 2) ∧ ((0 ≤ (v + 2 : Int) ∧ (v + 2 : Int) < ln) ∧ (S_Wr_run [vR 11 0, vI (xs (v + 1)), vI (xs (v + 2))] σ (kI fun r1 σ1 => (InR (v + 1) ∧ ((0 ≤ (v + 1 : Int) ∧ (v + 1 : Int) < ln) ∧ (InR (v + 2) ∧ ((0 ≤ (v + 2 : Int) ∧ (v + 2 : Int) < ln) ∧ (S_Mo_run [vR 12 0, vI (xs (v + 1)), vI (xs (v + 2))] σ1 (kI fun r2 σ2 => ((r1 = r2 → (InR (v + 6) ∧ (∃ n', n' < n ∧ Ih n' [vR 61 0, vR 11 0, vR 12 0, vI (v + 6)] σ2))) ∧ (r1 ≠ r2 → ((0 ≤ (0 : Int) ∧ (0 : Int) ≤ 1) ∧ K (vI 0) σ2)))))))))))))))
theorem l_law19 (ln : Int) (xs : Int → Int) (K : AV → SS → Prop) (v : Int) (σ : SS) (n : Nat) (hl : 0 ≤ ln ∧ ln ≤ 3072) (hn : n = (20000 - 2 * v - 1).toNat) (hb : 0 ≤ v ∧ v + 6 ≤ ln) (hS : Sim σ) : VL_law19 ln xs K v σ n := by
  unfold VL_law19
  refine ⟨by omega, ?_⟩
  refine ⟨⟨by omega, by omega⟩, ?_⟩
  refine ⟨by omega, ?_⟩
  refine ⟨⟨by omega, by omega⟩, ?_⟩
  refine cp_run hS (fun r1 σ1 hm => ?_)
  refine ⟨by omega, ?_⟩
  refine ⟨⟨by omega, by omega⟩, ?_⟩
  refine ⟨by omega, ?_⟩
  refine ⟨⟨by omega, by omega⟩, ?_⟩
  refine hm _ (fun σ2 hS2 => ?_)
  refine ⟨fun _ => ?_, fun z => absurd rfl z⟩
  refine ⟨by omega, ?_⟩
  refine ⟨_, ?_, _, rfl, rfl, ?_, hS2⟩
  · omega
  · omega
def VL_law20 (ln : Int) (xs : Int → Int) (K : AV → SS → Prop) (v : Int) (σ : SS) (n : Nat) : Prop := (InR (v + 1) ∧ ((0 ≤ (v + 1 : Int) ∧ (v + 1 : Int) < ln) ∧ (S_Wr_runs [vR 11 0, vI (xs (v + 1))] σ (kI fun r1 σ1 => (InR (v + 1) ∧ ((0 ≤ (v + 1 : Int) ∧ (v + 1 : Int) < ln) ∧ (S_Mo_runs [vR 12 0, vI (xs (v + 1))] σ1 (kI fun r2 σ2 => ((r1 = r2 → (InR (v + 6) ∧ (∃ n', n' < n ∧ Ih n' [vR 61 0, vR 11 0, vR 12 0, vI (v + 6)] σ2))) ∧ (r1 ≠ r2 → ((0 ≤ (0 : Int) ∧ (0 : Int) ≤ 1) ∧ K (vI 0) σ2)))))))))))
theorem l_law20 (ln : Int) (xs : Int → Int) (K : AV → SS → Prop) (v : Int) (σ : SS) (n : Nat) (hl : 0 ≤ ln ∧ ln ≤ 3072) (hn : n = (20000 - 2 * v - 1).toNat) (hb : 0 ≤ v ∧ v + 6 ≤ ln) (hS : Sim σ) : VL_law20 ln xs K v σ n := by
  unfold VL_law20
  refine ⟨by omega, ?_⟩
  refine ⟨⟨by omega, by omega⟩, ?_⟩
  refine cp_runs hS (fun r1 σ1 hm => ?_)
  refine ⟨by omega, ?_⟩
  refine ⟨⟨by omega, by omega⟩, ?_⟩
  refine hm _ (fun σ2 hS2 => ?_)
  refine ⟨fun _ => ?_, fun z => absurd rfl z⟩
  refine ⟨by omega, ?_⟩
  refine ⟨_, ?_, _, rfl, rfl, ?_, hS2⟩
  · omega
  · omega
def VL_law21 (ln : Int) (xs : Int → Int) (K : AV → SS → Prop) (v : Int) (σ : SS) (n : Nat) : Prop := (InR (v + 1) ∧ ((0 ≤ (v + 1 : Int) ∧ (v + 1 : Int) < ln) ∧ (S_Wr_squares [vR 11 0, vI (xs (v + 1))] σ (kI fun r1 σ1 => (InR (v + 1) ∧ ((0 ≤ (v + 1 : Int) ∧ (v + 1 : Int) < ln) ∧ (S_Mo_squares [vR 12 0, vI (xs (v + 1))] σ1 (kI fun r2 σ2 => ((r1 = r2 → (InR (v + 6) ∧ (∃ n', n' < n ∧ Ih n' [vR 61 0, vR 11 0, vR 12 0, vI (v + 6)] σ2))) ∧ (r1 ≠ r2 → ((0 ≤ (0 : Int) ∧ (0 : Int) ≤ 1) ∧ K (vI 0) σ2)))))))))))
theorem l_law21 (ln : Int) (xs : Int → Int) (K : AV → SS → Prop) (v : Int) (σ : SS) (n : Nat) (hl : 0 ≤ ln ∧ ln ≤ 3072) (hn : n = (20000 - 2 * v - 1).toNat) (hb : 0 ≤ v ∧ v + 6 ≤ ln) (hS : Sim σ) : VL_law21 ln xs K v σ n := by
  unfold VL_law21
  refine ⟨by omega, ?_⟩
  refine ⟨⟨by omega, by omega⟩, ?_⟩
  refine cp_squares hS (fun r1 σ1 hm => ?_)
  refine ⟨by omega, ?_⟩
  refine ⟨⟨by omega, by omega⟩, ?_⟩
  refine hm _ (fun σ2 hS2 => ?_)
  refine ⟨fun _ => ?_, fun z => absurd rfl z⟩
  refine ⟨by omega, ?_⟩
  refine ⟨_, ?_, _, rfl, rfl, ?_, hS2⟩
  · omega
  · omega
def VL_law22 (ln : Int) (xs : Int → Int) (K : AV → SS → Prop) (v : Int) (σ : SS) (n : Nat) : Prop := (InR (v + 1) ∧ ((0 ≤ (v + 1 : Int) ∧ (v + 1 : Int) < ln) ∧ (S_Wr_power [vR 11 0, vI (xs (v + 1))] σ (kI fun r1 σ1 => (InR (v + 1) ∧ ((0 ≤ (v + 1 : Int) ∧ (v + 1 : Int) < ln) ∧ (S_Mo_power [vR 12 0, vI (xs (v + 1))] σ1 (kI fun r2 σ2 => ((r1 = r2 → (InR (v + 6) ∧ (∃ n', n' < n ∧ Ih n' [vR 61 0, vR 11 0, vR 12 0, vI (v + 6)] σ2))) ∧ (r1 ≠ r2 → ((0 ≤ (0 : Int) ∧ (0 : Int) ≤ 1) ∧ K (vI 0) σ2)))))))))))
theorem l_law22 (ln : Int) (xs : Int → Int) (K : AV → SS → Prop) (v : Int) (σ : SS) (n : Nat) (hl : 0 ≤ ln ∧ ln ≤ 3072) (hn : n = (20000 - 2 * v - 1).toNat) (hb : 0 ≤ v ∧ v + 6 ≤ ln) (hS : Sim σ) : VL_law22 ln xs K v σ n := by
  unfold VL_law22
  refine ⟨by omega, ?_⟩
  refine ⟨⟨by omega, by omega⟩, ?_⟩
  refine cp_power hS (fun r1 σ1 hm => ?_)
  refine ⟨by omega, ?_⟩
  refine ⟨⟨by omega, by omega⟩, ?_⟩
  refine hm _ (fun σ2 hS2 => ?_)
  refine ⟨fun _ => ?_, fun z => absurd rfl z⟩
  refine ⟨by omega, ?_⟩
  refine ⟨_, ?_, _, rfl, rfl, ?_, hS2⟩
  · omega
  · omega
def VL_law23 (ln : Int) (xs : Int → Int) (K : AV → SS → Prop) (v : Int) (σ : SS) (n : Nat) : Prop := (InR (v + 1) ∧ ((0 ≤ (v + 1 : Int) ∧ (v + 1 : Int) < ln) ∧ (InR (v + 2) ∧ ((0 ≤ (v + 2 : Int) ∧ (v + 2 : Int) < ln) ∧ (InR (v + 3) ∧ ((0 ≤ (v + 3 : Int) ∧ (v + 3 : Int) < ln) ∧ (S_Wr_cover [vR 11 0, vI (xs (v + 1)), vI (xs (v + 2)), vI (xs (v + 3))] σ (kI fun r1 σ1 => (InR (v + 1) ∧ ((0 ≤ (v + 1 : Int) ∧ (v + 1 : Int) < ln) ∧ (InR (v + 2) ∧ ((0 ≤ (v + 2 : Int) ∧ (v + 2 : Int) < ln) ∧ (InR (v + 3) ∧ ((0 ≤ (v + 3 : Int) ∧ (v + 3 : Int) < ln) ∧ (S_Mo_cover [vR 12 0, vI (xs (v + 1)), vI (xs (v + 2)), vI (xs (v + 3))] σ1 (kI fun r2 σ2 => ((r1 = r2 → (InR (v + 6) ∧ (∃ n', n' < n ∧ Ih n' [vR 61 0, vR 11 0, vR 12 0, vI (v + 6)] σ2))) ∧ (r1 ≠ r2 → ((0 ≤ (0 : Int) ∧ (0 : Int) ≤ 1) ∧ K (vI 0) σ2)))))))))))))))))))
theorem l_law23 (ln : Int) (xs : Int → Int) (K : AV → SS → Prop) (v : Int) (σ : SS) (n : Nat) (hl : 0 ≤ ln ∧ ln ≤ 3072) (hn : n = (20000 - 2 * v - 1).toNat) (hb : 0 ≤ v ∧ v + 6 ≤ ln) (hS : Sim σ) : VL_law23 ln xs K v σ n := by
  unfold VL_law23
  refine ⟨by omega, ?_⟩
  refine ⟨⟨by omega, by omega⟩, ?_⟩
  refine ⟨by omega, ?_⟩
  refine ⟨⟨by omega, by omega⟩, ?_⟩
  refine ⟨by omega, ?_⟩
  refine ⟨⟨by omega, by omega⟩, ?_⟩
  refine cp_cover hS (fun r1 σ1 hm => ?_)
  refine ⟨by omega, ?_⟩
  refine ⟨⟨by omega, by omega⟩, ?_⟩
  refine ⟨by omega, ?_⟩
  refine ⟨⟨by omega, by omega⟩, ?_⟩
  refine ⟨by omega, ?_⟩
  refine ⟨⟨by omega, by omega⟩, ?_⟩
  refine hm _ (fun σ2 hS2 => ?_)
  refine ⟨fun _ => ?_, fun z => absurd rfl z⟩
  refine ⟨by omega, ?_⟩
  refine ⟨_, ?_, _, rfl, rfl, ?_, hS2⟩
  · omega
  · omega
def VL_law24 (ln : Int) (xs : Int → Int) (K : AV → SS → Prop) (v : Int) (σ : SS) (n : Nat) : Prop := (InR (v + 1) ∧ ((0 ≤ (v + 1 : Int) ∧ (v + 1 : Int) < ln) ∧ (InR (v + 2) ∧ ((0 ≤ (v + 2 : Int) ∧ (v + 2 : Int) < ln) ∧ (S_Wr_seed [vR 11 0, vI (xs (v + 1)), vI (xs (v + 2))] σ (kI fun r1 σ1 => (InR (v + 1) ∧ ((0 ≤ (v + 1 : Int) ∧ (v + 1 : Int) < ln) ∧ (InR (v + 2) ∧ ((0 ≤ (v + 2 : Int) ∧ (v + 2 : Int) < ln) ∧ (S_Mo_seed [vR 12 0, vI (xs (v + 1)), vI (xs (v + 2))] σ1 (kI fun r2 σ2 => ((r1 = r2 → (InR (v + 6) ∧ (∃ n', n' < n ∧ Ih n' [vR 61 0, vR 11 0, vR 12 0, vI (v + 6)] σ2))) ∧ (r1 ≠ r2 → ((0 ≤ (0 : Int) ∧ (0 : Int) ≤ 1) ∧ K (vI 0) σ2)))))))))))))))
theorem l_law24 (ln : Int) (xs : Int → Int) (K : AV → SS → Prop) (v : Int) (σ : SS) (n : Nat) (hl : 0 ≤ ln ∧ ln ≤ 3072) (hn : n = (20000 - 2 * v - 1).toNat) (hb : 0 ≤ v ∧ v + 6 ≤ ln) (hS : Sim σ) : VL_law24 ln xs K v σ n := by
  unfold VL_law24
  refine ⟨by omega, ?_⟩
  refine ⟨⟨by omega, by omega⟩, ?_⟩
  refine ⟨by omega, ?_⟩
  refine ⟨⟨by omega, by omega⟩, ?_⟩
  refine cp_seed hS (fun r1 σ1 hm => ?_)
  refine ⟨by omega, ?_⟩
  refine ⟨⟨by omega, by omega⟩, ?_⟩
  refine ⟨by omega, ?_⟩
  refine ⟨⟨by omega, by omega⟩, ?_⟩
  refine hm _ (fun σ2 hS2 => ?_)
  refine ⟨fun _ => ?_, fun z => absurd rfl z⟩
  refine ⟨by omega, ?_⟩
  refine ⟨_, ?_, _, rfl, rfl, ?_, hS2⟩
  · omega
  · omega
def VL_law25 (ln : Int) (xs : Int → Int) (K : AV → SS → Prop) (v : Int) (σ : SS) (n : Nat) : Prop := (InR (v + 1) ∧ ((0 ≤ (v + 1 : Int) ∧ (v + 1 : Int) < ln) ∧ (InR (v + 2) ∧ ((0 ≤ (v + 2 : Int) ∧ (v + 2 : Int) < ln) ∧ (S_Wr_cloak [vR 11 0, vI (xs (v + 1)), vI (xs (v + 2))] σ (kI fun r1 σ1 => (InR (v + 1) ∧ ((0 ≤ (v + 1 : Int) ∧ (v + 1 : Int) < ln) ∧ (InR (v + 2) ∧ ((0 ≤ (v + 2 : Int) ∧ (v + 2 : Int) < ln) ∧ (S_Mo_cloak [vR 12 0, vI (xs (v + 1)), vI (xs (v + 2))] σ1 (kI fun r2 σ2 => ((r1 = r2 → (InR (v + 6) ∧ (∃ n', n' < n ∧ Ih n' [vR 61 0, vR 11 0, vR 12 0, vI (v + 6)] σ2))) ∧ (r1 ≠ r2 → ((0 ≤ (0 : Int) ∧ (0 : Int) ≤ 1) ∧ K (vI 0) σ2)))))))))))))))
theorem l_law25 (ln : Int) (xs : Int → Int) (K : AV → SS → Prop) (v : Int) (σ : SS) (n : Nat) (hl : 0 ≤ ln ∧ ln ≤ 3072) (hn : n = (20000 - 2 * v - 1).toNat) (hb : 0 ≤ v ∧ v + 6 ≤ ln) (hS : Sim σ) : VL_law25 ln xs K v σ n := by
  unfold VL_law25
  refine ⟨by omega, ?_⟩
  refine ⟨⟨by omega, by omega⟩, ?_⟩
  refine ⟨by omega, ?_⟩
  refine ⟨⟨by omega, by omega⟩, ?_⟩
  refine cp_cloak hS (fun r1 σ1 hm => ?_)
  refine ⟨by omega, ?_⟩
  refine ⟨⟨by omega, by omega⟩, ?_⟩
  refine ⟨by omega, ?_⟩
  refine ⟨⟨by omega, by omega⟩, ?_⟩
  refine hm _ (fun σ2 hS2 => ?_)
  refine ⟨fun _ => ?_, fun z => absurd rfl z⟩
  refine ⟨by omega, ?_⟩
  refine ⟨_, ?_, _, rfl, rfl, ?_, hS2⟩
  · omega
  · omega
def VL_law26 (ln : Int) (xs : Int → Int) (K : AV → SS → Prop) (v : Int) (σ : SS) (n : Nat) : Prop := (InR (v + 1) ∧ ((0 ≤ (v + 1 : Int) ∧ (v + 1 : Int) < ln) ∧ (InR (v + 2) ∧ ((0 ≤ (v + 2 : Int) ∧ (v + 2 : Int) < ln) ∧ (((xs (v + 2)) = 0 → (S_Wr_mirror [vR 11 0, vI (xs (v + 1)), vI 0] σ (kI fun r1 σ1 => (InR (v + 1) ∧ ((0 ≤ (v + 1 : Int) ∧ (v + 1 : Int) < ln) ∧ (InR (v + 2) ∧ ((0 ≤ (v + 2 : Int) ∧ (v + 2 : Int) < ln) ∧ (((xs (v + 2)) = 0 → (S_Mo_mirror [vR 12 0, vI (xs (v + 1)), vI 0] σ1 (kI fun r2 σ2 => ((r1 = r2 → (InR (v + 6) ∧ (∃ n', n' < n ∧ Ih n' [vR 61 0, vR 11 0, vR 12 0, vI (v + 6)] σ2))) ∧ (r1 ≠ r2 → ((0 ≤ (0 : Int) ∧ (0 : Int) ≤ 1) ∧ K (vI 0) σ2)))))) ∧ ((xs (v + 2)) ≠ 0 → (S_Mo_mirror [vR 12 0, vI (xs (v + 1)), vI 1] σ1 (kI fun r3 σ3 => ((r1 = r3 → (InR (v + 6) ∧ (∃ n', n' < n ∧ Ih n' [vR 61 0, vR 11 0, vR 12 0, vI (v + 6)] σ3))) ∧ (r1 ≠ r3 → ((0 ≤ (0 : Int) ∧ (0 : Int) ≤ 1) ∧ K (vI 0) σ3)))))))))))))) ∧ ((xs (v + 2)) ≠ 0 → (S_Wr_mirror [vR 11 0, vI (xs (v + 1)), vI 1] σ (kI fun r4 σ4 => (InR (v + 1) ∧ ((0 ≤ (v + 1 : Int) ∧ (v + 1 : Int) < ln) ∧ (InR (v + 2) ∧ ((0 ≤ (v + 2 : Int) ∧ (v + 2 : Int) < ln) ∧ (((xs (v + 2)) = 0 → (S_Mo_mirror [vR 12 0, vI (xs (v + 1)), vI 0] σ4 (kI fun r5 σ5 => ((r4 = r5 → (InR (v + 6) ∧ (∃ n', n' < n ∧ Ih n' [vR 61 0, vR 11 0, vR 12 0, vI (v + 6)] σ5))) ∧ (r4 ≠ r5 → ((0 ≤ (0 : Int) ∧ (0 : Int) ≤ 1) ∧ K (vI 0) σ5)))))) ∧ ((xs (v + 2)) ≠ 0 → (S_Mo_mirror [vR 12 0, vI (xs (v + 1)), vI 1] σ4 (kI fun r6 σ6 => ((r4 = r6 → (InR (v + 6) ∧ (∃ n', n' < n ∧ Ih n' [vR 61 0, vR 11 0, vR 12 0, vI (v + 6)] σ6))) ∧ (r4 ≠ r6 → ((0 ≤ (0 : Int) ∧ (0 : Int) ≤ 1) ∧ K (vI 0) σ6)))))))))))))))))))
theorem l_law26 (ln : Int) (xs : Int → Int) (K : AV → SS → Prop) (v : Int) (σ : SS) (n : Nat) (hl : 0 ≤ ln ∧ ln ≤ 3072) (hn : n = (20000 - 2 * v - 1).toNat) (hb : 0 ≤ v ∧ v + 6 ≤ ln) (hS : Sim σ) : VL_law26 ln xs K v σ n := by
  unfold VL_law26
  refine ⟨by omega, ?_⟩
  refine ⟨⟨by omega, by omega⟩, ?_⟩
  refine ⟨by omega, ?_⟩
  refine ⟨⟨by omega, by omega⟩, ?_⟩
  refine ⟨fun c => ?_, fun c => ?_⟩
  · skip
    have d0 := c
    refine cp_mirror hS (fun r1 σ1 hm => ?_)
    refine ⟨by omega, ?_⟩
    refine ⟨⟨by omega, by omega⟩, ?_⟩
    refine ⟨by omega, ?_⟩
    refine ⟨⟨by omega, by omega⟩, ?_⟩
    refine ⟨fun c => ?_, fun c => ?_⟩
    · skip
      refine hm _ (fun σ2 hS2 => ?_)
      refine ⟨fun _ => ?_, fun z => absurd rfl z⟩
      refine ⟨by omega, ?_⟩
      refine ⟨_, ?_, _, rfl, rfl, ?_, hS2⟩
      · omega
      · omega
    · exact absurd d0 c
  · skip
    have d0 := c
    refine cp_mirror hS (fun r1 σ1 hm => ?_)
    refine ⟨by omega, ?_⟩
    refine ⟨⟨by omega, by omega⟩, ?_⟩
    refine ⟨by omega, ?_⟩
    refine ⟨⟨by omega, by omega⟩, ?_⟩
    refine ⟨fun c => ?_, fun c => ?_⟩
    · exact absurd c d0
    · skip
      refine hm _ (fun σ2 hS2 => ?_)
      refine ⟨fun _ => ?_, fun z => absurd rfl z⟩
      refine ⟨by omega, ?_⟩
      refine ⟨_, ?_, _, rfl, rfl, ?_, hS2⟩
      · omega
      · omega
def VL_law27 (ln : Int) (xs : Int → Int) (K : AV → SS → Prop) (v : Int) (σ : SS) (n : Nat) : Prop := (InR (v + 1) ∧ ((0 ≤ (v + 1 : Int) ∧ (v + 1 : Int) < ln) ∧ (S_Wr_mirrors [vR 11 0, vI (xs (v + 1))] σ (kI fun r1 σ1 => (InR (v + 1) ∧ ((0 ≤ (v + 1 : Int) ∧ (v + 1 : Int) < ln) ∧ (S_Mo_mirrors [vR 12 0, vI (xs (v + 1))] σ1 (kI fun r2 σ2 => ((r1 = r2 → (InR (v + 6) ∧ (∃ n', n' < n ∧ Ih n' [vR 61 0, vR 11 0, vR 12 0, vI (v + 6)] σ2))) ∧ (r1 ≠ r2 → ((0 ≤ (0 : Int) ∧ (0 : Int) ≤ 1) ∧ K (vI 0) σ2)))))))))))
theorem l_law27 (ln : Int) (xs : Int → Int) (K : AV → SS → Prop) (v : Int) (σ : SS) (n : Nat) (hl : 0 ≤ ln ∧ ln ≤ 3072) (hn : n = (20000 - 2 * v - 1).toNat) (hb : 0 ≤ v ∧ v + 6 ≤ ln) (hS : Sim σ) : VL_law27 ln xs K v σ n := by
  unfold VL_law27
  refine ⟨by omega, ?_⟩
  refine ⟨⟨by omega, by omega⟩, ?_⟩
  refine cp_mirrors hS (fun r1 σ1 hm => ?_)
  refine ⟨by omega, ?_⟩
  refine ⟨⟨by omega, by omega⟩, ?_⟩
  refine hm _ (fun σ2 hS2 => ?_)
  refine ⟨fun _ => ?_, fun z => absurd rfl z⟩
  refine ⟨by omega, ?_⟩
  refine ⟨_, ?_, _, rfl, rfl, ?_, hS2⟩
  · omega
  · omega
def VL_law28 (ln : Int) (xs : Int → Int) (K : AV → SS → Prop) (v : Int) (σ : SS) (n : Nat) : Prop := (InR (v + 1) ∧ ((0 ≤ (v + 1 : Int) ∧ (v + 1 : Int) < ln) ∧ (S_Wr_factors [vR 11 0, vI (xs (v + 1))] σ (kI fun r1 σ1 => (InR (v + 1) ∧ ((0 ≤ (v + 1 : Int) ∧ (v + 1 : Int) < ln) ∧ (S_Mo_factors [vR 12 0, vI (xs (v + 1))] σ1 (kI fun r2 σ2 => ((r1 = r2 → (InR (v + 6) ∧ (∃ n', n' < n ∧ Ih n' [vR 61 0, vR 11 0, vR 12 0, vI (v + 6)] σ2))) ∧ (r1 ≠ r2 → ((0 ≤ (0 : Int) ∧ (0 : Int) ≤ 1) ∧ K (vI 0) σ2)))))))))))
theorem l_law28 (ln : Int) (xs : Int → Int) (K : AV → SS → Prop) (v : Int) (σ : SS) (n : Nat) (hl : 0 ≤ ln ∧ ln ≤ 3072) (hn : n = (20000 - 2 * v - 1).toNat) (hb : 0 ≤ v ∧ v + 6 ≤ ln) (hS : Sim σ) : VL_law28 ln xs K v σ n := by
  unfold VL_law28
  refine ⟨by omega, ?_⟩
  refine ⟨⟨by omega, by omega⟩, ?_⟩
  refine cp_factors hS (fun r1 σ1 hm => ?_)
  refine ⟨by omega, ?_⟩
  refine ⟨⟨by omega, by omega⟩, ?_⟩
  refine hm _ (fun σ2 hS2 => ?_)
  refine ⟨fun _ => ?_, fun z => absurd rfl z⟩
  refine ⟨by omega, ?_⟩
  refine ⟨_, ?_, _, rfl, rfl, ?_, hS2⟩
  · omega
  · omega
def VL_law29 (ln : Int) (xs : Int → Int) (K : AV → SS → Prop) (v : Int) (σ : SS) (n : Nat) : Prop := (InR (v + 1) ∧ ((0 ≤ (v + 1 : Int) ∧ (v + 1 : Int) < ln) ∧ (S_Wr_bare [vR 11 0, vI (xs (v + 1))] σ (kI fun r1 σ1 => (InR (v + 1) ∧ ((0 ≤ (v + 1 : Int) ∧ (v + 1 : Int) < ln) ∧ (S_Mo_bare [vR 12 0, vI (xs (v + 1))] σ1 (kI fun r2 σ2 => ((r1 = r2 → (InR (v + 6) ∧ (∃ n', n' < n ∧ Ih n' [vR 61 0, vR 11 0, vR 12 0, vI (v + 6)] σ2))) ∧ (r1 ≠ r2 → ((0 ≤ (0 : Int) ∧ (0 : Int) ≤ 1) ∧ K (vI 0) σ2)))))))))))
theorem l_law29 (ln : Int) (xs : Int → Int) (K : AV → SS → Prop) (v : Int) (σ : SS) (n : Nat) (hl : 0 ≤ ln ∧ ln ≤ 3072) (hn : n = (20000 - 2 * v - 1).toNat) (hb : 0 ≤ v ∧ v + 6 ≤ ln) (hS : Sim σ) : VL_law29 ln xs K v σ n := by
  unfold VL_law29
  refine ⟨by omega, ?_⟩
  refine ⟨⟨by omega, by omega⟩, ?_⟩
  refine cp_bare hS (fun r1 σ1 hm => ?_)
  refine ⟨by omega, ?_⟩
  refine ⟨⟨by omega, by omega⟩, ?_⟩
  refine hm _ (fun σ2 hS2 => ?_)
  refine ⟨fun _ => ?_, fun z => absurd rfl z⟩
  refine ⟨by omega, ?_⟩
  refine ⟨_, ?_, _, rfl, rfl, ?_, hS2⟩
  · omega
  · omega
def VL_law30 (ln : Int) (xs : Int → Int) (K : AV → SS → Prop) (v : Int) (σ : SS) (n : Nat) : Prop := (InR (v + 1) ∧ ((0 ≤ (v + 1 : Int) ∧ (v + 1 : Int) < ln) ∧ (((xs (v + 1)) = 0 → (InR (v + 2) ∧ ((0 ≤ (v + 2 : Int) ∧ (v + 2 : Int) < ln) ∧ (S_Wr_twice [vR 11 0, vI 0, vI (xs (v + 2))] σ (kI fun r1 σ1 => (InR (v + 1) ∧ ((0 ≤ (v + 1 : Int) ∧ (v + 1 : Int) < ln) ∧ (((xs (v + 1)) = 0 → (InR (v + 2) ∧ ((0 ≤ (v + 2 : Int) ∧ (v + 2 : Int) < ln) ∧ (S_Mo_twice [vR 12 0, vI 0, vI (xs (v + 2))] σ1 (kI fun r2 σ2 => ((r1 = r2 → (InR (v + 6) ∧ (∃ n', n' < n ∧ Ih n' [vR 61 0, vR 11 0, vR 12 0, vI (v + 6)] σ2))) ∧ (r1 ≠ r2 → ((0 ≤ (0 : Int) ∧ (0 : Int) ≤ 1) ∧ K (vI 0) σ2)))))))) ∧ ((xs (v + 1)) ≠ 0 → (InR (v + 2) ∧ ((0 ≤ (v + 2 : Int) ∧ (v + 2 : Int) < ln) ∧ (S_Mo_twice [vR 12 0, vI 1, vI (xs (v + 2))] σ1 (kI fun r3 σ3 => ((r1 = r3 → (InR (v + 6) ∧ (∃ n', n' < n ∧ Ih n' [vR 61 0, vR 11 0, vR 12 0, vI (v + 6)] σ3))) ∧ (r1 ≠ r3 → ((0 ≤ (0 : Int) ∧ (0 : Int) ≤ 1) ∧ K (vI 0) σ3)))))))))))))))) ∧ ((xs (v + 1)) ≠ 0 → (InR (v + 2) ∧ ((0 ≤ (v + 2 : Int) ∧ (v + 2 : Int) < ln) ∧ (S_Wr_twice [vR 11 0, vI 1, vI (xs (v + 2))] σ (kI fun r4 σ4 => (InR (v + 1) ∧ ((0 ≤ (v + 1 : Int) ∧ (v + 1 : Int) < ln) ∧ (((xs (v + 1)) = 0 → (InR (v + 2) ∧ ((0 ≤ (v + 2 : Int) ∧ (v + 2 : Int) < ln) ∧ (S_Mo_twice [vR 12 0, vI 0, vI (xs (v + 2))] σ4 (kI fun r5 σ5 => ((r4 = r5 → (InR (v + 6) ∧ (∃ n', n' < n ∧ Ih n' [vR 61 0, vR 11 0, vR 12 0, vI (v + 6)] σ5))) ∧ (r4 ≠ r5 → ((0 ≤ (0 : Int) ∧ (0 : Int) ≤ 1) ∧ K (vI 0) σ5)))))))) ∧ ((xs (v + 1)) ≠ 0 → (InR (v + 2) ∧ ((0 ≤ (v + 2 : Int) ∧ (v + 2 : Int) < ln) ∧ (S_Mo_twice [vR 12 0, vI 1, vI (xs (v + 2))] σ4 (kI fun r6 σ6 => ((r4 = r6 → (InR (v + 6) ∧ (∃ n', n' < n ∧ Ih n' [vR 61 0, vR 11 0, vR 12 0, vI (v + 6)] σ6))) ∧ (r4 ≠ r6 → ((0 ≤ (0 : Int) ∧ (0 : Int) ≤ 1) ∧ K (vI 0) σ6)))))))))))))))))))
theorem l_law30 (ln : Int) (xs : Int → Int) (K : AV → SS → Prop) (v : Int) (σ : SS) (n : Nat) (hl : 0 ≤ ln ∧ ln ≤ 3072) (hn : n = (20000 - 2 * v - 1).toNat) (hb : 0 ≤ v ∧ v + 6 ≤ ln) (hS : Sim σ) : VL_law30 ln xs K v σ n := by
  unfold VL_law30
  refine ⟨by omega, ?_⟩
  refine ⟨⟨by omega, by omega⟩, ?_⟩
  refine ⟨fun c => ?_, fun c => ?_⟩
  · skip
    have d0 := c
    refine ⟨by omega, ?_⟩
    refine ⟨⟨by omega, by omega⟩, ?_⟩
    refine cp_twice hS (fun r1 σ1 hm => ?_)
    refine ⟨by omega, ?_⟩
    refine ⟨⟨by omega, by omega⟩, ?_⟩
    refine ⟨fun c => ?_, fun c => ?_⟩
    · skip
      refine ⟨by omega, ?_⟩
      refine ⟨⟨by omega, by omega⟩, ?_⟩
      refine hm _ (fun σ2 hS2 => ?_)
      refine ⟨fun _ => ?_, fun z => absurd rfl z⟩
      refine ⟨by omega, ?_⟩
      refine ⟨_, ?_, _, rfl, rfl, ?_, hS2⟩
      · omega
      · omega
    · exact absurd d0 c
  · skip
    have d0 := c
    refine ⟨by omega, ?_⟩
    refine ⟨⟨by omega, by omega⟩, ?_⟩
    refine cp_twice hS (fun r1 σ1 hm => ?_)
    refine ⟨by omega, ?_⟩
    refine ⟨⟨by omega, by omega⟩, ?_⟩
    refine ⟨fun c => ?_, fun c => ?_⟩
    · exact absurd c d0
    · skip
      refine ⟨by omega, ?_⟩
      refine ⟨⟨by omega, by omega⟩, ?_⟩
      refine hm _ (fun σ2 hS2 => ?_)
      refine ⟨fun _ => ?_, fun z => absurd rfl z⟩
      refine ⟨by omega, ?_⟩
      refine ⟨_, ?_, _, rfl, rfl, ?_, hS2⟩
      · omega
      · omega
def VL_law31 (ln : Int) (xs : Int → Int) (K : AV → SS → Prop) (v : Int) (σ : SS) (n : Nat) : Prop := (InR (v + 1) ∧ ((0 ≤ (v + 1 : Int) ∧ (v + 1 : Int) < ln) ∧ (InR (v + 2) ∧ ((0 ≤ (v + 2 : Int) ∧ (v + 2 : Int) < ln) ∧ (S_Wr_phrase [vR 11 0, vI (xs (v + 1)), vI (xs (v + 2))] σ (kI fun r1 σ1 => (InR (v + 1) ∧ ((0 ≤ (v + 1 : Int) ∧ (v + 1 : Int) < ln) ∧ (InR (v + 2) ∧ ((0 ≤ (v + 2 : Int) ∧ (v + 2 : Int) < ln) ∧ (S_Mo_phrase [vR 12 0, vI (xs (v + 1)), vI (xs (v + 2))] σ1 (kI fun r2 σ2 => ((r1 = r2 → (InR (v + 6) ∧ (∃ n', n' < n ∧ Ih n' [vR 61 0, vR 11 0, vR 12 0, vI (v + 6)] σ2))) ∧ (r1 ≠ r2 → ((0 ≤ (0 : Int) ∧ (0 : Int) ≤ 1) ∧ K (vI 0) σ2)))))))))))))))
theorem l_law31 (ln : Int) (xs : Int → Int) (K : AV → SS → Prop) (v : Int) (σ : SS) (n : Nat) (hl : 0 ≤ ln ∧ ln ≤ 3072) (hn : n = (20000 - 2 * v - 1).toNat) (hb : 0 ≤ v ∧ v + 6 ≤ ln) (hS : Sim σ) : VL_law31 ln xs K v σ n := by
  unfold VL_law31
  refine ⟨by omega, ?_⟩
  refine ⟨⟨by omega, by omega⟩, ?_⟩
  refine ⟨by omega, ?_⟩
  refine ⟨⟨by omega, by omega⟩, ?_⟩
  refine cp_phrase hS (fun r1 σ1 hm => ?_)
  refine ⟨by omega, ?_⟩
  refine ⟨⟨by omega, by omega⟩, ?_⟩
  refine ⟨by omega, ?_⟩
  refine ⟨⟨by omega, by omega⟩, ?_⟩
  refine hm _ (fun σ2 hS2 => ?_)
  refine ⟨fun _ => ?_, fun z => absurd rfl z⟩
  refine ⟨by omega, ?_⟩
  refine ⟨_, ?_, _, rfl, rfl, ?_, hS2⟩
  · omega
  · omega
def VL_law32 (ln : Int) (xs : Int → Int) (K : AV → SS → Prop) (v : Int) (σ : SS) (n : Nat) : Prop := (InR (v + 1) ∧ ((0 ≤ (v + 1 : Int) ∧ (v + 1 : Int) < ln) ∧ (InR (v + 2) ∧ ((0 ≤ (v + 2 : Int) ∧ (v + 2 : Int) < ln) ∧ (S_Wr_ends [vR 11 0, vI (xs (v + 1)), vI (xs (v + 2))] σ (kI fun r1 σ1 => (InR (v + 1) ∧ ((0 ≤ (v + 1 : Int) ∧ (v + 1 : Int) < ln) ∧ (InR (v + 2) ∧ ((0 ≤ (v + 2 : Int) ∧ (v + 2 : Int) < ln) ∧ (S_Mo_ends [vR 12 0, vI (xs (v + 1)), vI (xs (v + 2))] σ1 (kI fun r2 σ2 => ((r1 = r2 → (InR (v + 6) ∧ (∃ n', n' < n ∧ Ih n' [vR 61 0, vR 11 0, vR 12 0, vI (v + 6)] σ2))) ∧ (r1 ≠ r2 → ((0 ≤ (0 : Int) ∧ (0 : Int) ≤ 1) ∧ K (vI 0) σ2)))))))))))))))
theorem l_law32 (ln : Int) (xs : Int → Int) (K : AV → SS → Prop) (v : Int) (σ : SS) (n : Nat) (hl : 0 ≤ ln ∧ ln ≤ 3072) (hn : n = (20000 - 2 * v - 1).toNat) (hb : 0 ≤ v ∧ v + 6 ≤ ln) (hS : Sim σ) : VL_law32 ln xs K v σ n := by
  unfold VL_law32
  refine ⟨by omega, ?_⟩
  refine ⟨⟨by omega, by omega⟩, ?_⟩
  refine ⟨by omega, ?_⟩
  refine ⟨⟨by omega, by omega⟩, ?_⟩
  refine cp_ends hS (fun r1 σ1 hm => ?_)
  refine ⟨by omega, ?_⟩
  refine ⟨⟨by omega, by omega⟩, ?_⟩
  refine ⟨by omega, ?_⟩
  refine ⟨⟨by omega, by omega⟩, ?_⟩
  refine hm _ (fun σ2 hS2 => ?_)
  refine ⟨fun _ => ?_, fun z => absurd rfl z⟩
  refine ⟨by omega, ?_⟩
  refine ⟨_, ?_, _, rfl, rfl, ?_, hS2⟩
  · omega
  · omega
def VL_law33 (ln : Int) (xs : Int → Int) (K : AV → SS → Prop) (v : Int) (σ : SS) (n : Nat) : Prop := (InR (v + 1) ∧ ((0 ≤ (v + 1 : Int) ∧ (v + 1 : Int) < ln) ∧ (S_Wr_abel [vR 11 0, vI (xs (v + 1))] σ (kI fun r1 σ1 => (InR (v + 1) ∧ ((0 ≤ (v + 1 : Int) ∧ (v + 1 : Int) < ln) ∧ (S_Mo_abel [vR 12 0, vI (xs (v + 1))] σ1 (kI fun r2 σ2 => ((r1 = r2 → (InR (v + 6) ∧ (∃ n', n' < n ∧ Ih n' [vR 61 0, vR 11 0, vR 12 0, vI (v + 6)] σ2))) ∧ (r1 ≠ r2 → ((0 ≤ (0 : Int) ∧ (0 : Int) ≤ 1) ∧ K (vI 0) σ2)))))))))))
theorem l_law33 (ln : Int) (xs : Int → Int) (K : AV → SS → Prop) (v : Int) (σ : SS) (n : Nat) (hl : 0 ≤ ln ∧ ln ≤ 3072) (hn : n = (20000 - 2 * v - 1).toNat) (hb : 0 ≤ v ∧ v + 6 ≤ ln) (hS : Sim σ) : VL_law33 ln xs K v σ n := by
  unfold VL_law33
  refine ⟨by omega, ?_⟩
  refine ⟨⟨by omega, by omega⟩, ?_⟩
  refine cp_abel hS (fun r1 σ1 hm => ?_)
  refine ⟨by omega, ?_⟩
  refine ⟨⟨by omega, by omega⟩, ?_⟩
  refine hm _ (fun σ2 hS2 => ?_)
  refine ⟨fun _ => ?_, fun z => absurd rfl z⟩
  refine ⟨by omega, ?_⟩
  refine ⟨_, ?_, _, rfl, rfl, ?_, hS2⟩
  · omega
  · omega
def VL_law34 (ln : Int) (xs : Int → Int) (K : AV → SS → Prop) (v : Int) (σ : SS) (n : Nat) : Prop := (InR (v + 1) ∧ ((0 ≤ (v + 1 : Int) ∧ (v + 1 : Int) < ln) ∧ (S_Wr_often [vR 11 0, vI (xs (v + 1))] σ (kI fun r1 σ1 => (InR (v + 1) ∧ ((0 ≤ (v + 1 : Int) ∧ (v + 1 : Int) < ln) ∧ (S_Mo_often [vR 12 0, vI (xs (v + 1))] σ1 (kI fun r2 σ2 => ((r1 = r2 → (InR (v + 6) ∧ (∃ n', n' < n ∧ Ih n' [vR 61 0, vR 11 0, vR 12 0, vI (v + 6)] σ2))) ∧ (r1 ≠ r2 → ((0 ≤ (0 : Int) ∧ (0 : Int) ≤ 1) ∧ K (vI 0) σ2)))))))))))
theorem l_law34 (ln : Int) (xs : Int → Int) (K : AV → SS → Prop) (v : Int) (σ : SS) (n : Nat) (hl : 0 ≤ ln ∧ ln ≤ 3072) (hn : n = (20000 - 2 * v - 1).toNat) (hb : 0 ≤ v ∧ v + 6 ≤ ln) (hS : Sim σ) : VL_law34 ln xs K v σ n := by
  unfold VL_law34
  refine ⟨by omega, ?_⟩
  refine ⟨⟨by omega, by omega⟩, ?_⟩
  refine cp_often hS (fun r1 σ1 hm => ?_)
  refine ⟨by omega, ?_⟩
  refine ⟨⟨by omega, by omega⟩, ?_⟩
  refine hm _ (fun σ2 hS2 => ?_)
  refine ⟨fun _ => ?_, fun z => absurd rfl z⟩
  refine ⟨by omega, ?_⟩
  refine ⟨_, ?_, _, rfl, rfl, ?_, hS2⟩
  · omega
  · omega
def VL_law35 (ln : Int) (xs : Int → Int) (K : AV → SS → Prop) (v : Int) (σ : SS) (n : Nat) : Prop := (InR (v + 1) ∧ ((0 ≤ (v + 1 : Int) ∧ (v + 1 : Int) < ln) ∧ (InR (v + 2) ∧ ((0 ≤ (v + 2 : Int) ∧ (v + 2 : Int) < ln) ∧ (InR (v + 3) ∧ ((0 ≤ (v + 3 : Int) ∧ (v + 3 : Int) < ln) ∧ (S_Wr_lies [vR 11 0, vI (xs (v + 1)), vI (xs (v + 2)), vI (xs (v + 3))] σ (kI fun r1 σ1 => (InR (v + 1) ∧ ((0 ≤ (v + 1 : Int) ∧ (v + 1 : Int) < ln) ∧ (InR (v + 2) ∧ ((0 ≤ (v + 2 : Int) ∧ (v + 2 : Int) < ln) ∧ (InR (v + 3) ∧ ((0 ≤ (v + 3 : Int) ∧ (v + 3 : Int) < ln) ∧ (S_Mo_lies [vR 12 0, vI (xs (v + 1)), vI (xs (v + 2)), vI (xs (v + 3))] σ1 (kI fun r2 σ2 => ((r1 = r2 → (InR (v + 6) ∧ (∃ n', n' < n ∧ Ih n' [vR 61 0, vR 11 0, vR 12 0, vI (v + 6)] σ2))) ∧ (r1 ≠ r2 → ((0 ≤ (0 : Int) ∧ (0 : Int) ≤ 1) ∧ K (vI 0) σ2)))))))))))))))))))
theorem l_law35 (ln : Int) (xs : Int → Int) (K : AV → SS → Prop) (v : Int) (σ : SS) (n : Nat) (hl : 0 ≤ ln ∧ ln ≤ 3072) (hn : n = (20000 - 2 * v - 1).toNat) (hb : 0 ≤ v ∧ v + 6 ≤ ln) (hS : Sim σ) : VL_law35 ln xs K v σ n := by
  unfold VL_law35
  refine ⟨by omega, ?_⟩
  refine ⟨⟨by omega, by omega⟩, ?_⟩
  refine ⟨by omega, ?_⟩
  refine ⟨⟨by omega, by omega⟩, ?_⟩
  refine ⟨by omega, ?_⟩
  refine ⟨⟨by omega, by omega⟩, ?_⟩
  refine cp_lies hS (fun r1 σ1 hm => ?_)
  refine ⟨by omega, ?_⟩
  refine ⟨⟨by omega, by omega⟩, ?_⟩
  refine ⟨by omega, ?_⟩
  refine ⟨⟨by omega, by omega⟩, ?_⟩
  refine ⟨by omega, ?_⟩
  refine ⟨⟨by omega, by omega⟩, ?_⟩
  refine hm _ (fun σ2 hS2 => ?_)
  refine ⟨fun _ => ?_, fun z => absurd rfl z⟩
  refine ⟨by omega, ?_⟩
  refine ⟨_, ?_, _, rfl, rfl, ?_, hS2⟩
  · omega
  · omega
def VL_law36 (ln : Int) (xs : Int → Int) (K : AV → SS → Prop) (v : Int) (σ : SS) (n : Nat) : Prop := (InR (v + 1) ∧ ((0 ≤ (v + 1 : Int) ∧ (v + 1 : Int) < ln) ∧ (InR (v + 2) ∧ ((0 ≤ (v + 2 : Int) ∧ (v + 2 : Int) < ln) ∧ (InR (v + 3) ∧ ((0 ≤ (v + 3 : Int) ∧ (v + 3 : Int) < ln) ∧ (InR (v + 4) ∧ ((0 ≤ (v + 4 : Int) ∧ (v + 4 : Int) < ln) ∧ (S_Wr_compare [vR 11 0, vI (xs (v + 1)), vI (xs (v + 2)), vI (xs (v + 3)), vI (xs (v + 4))] σ (kI fun r1 σ1 => (InR (v + 1) ∧ ((0 ≤ (v + 1 : Int) ∧ (v + 1 : Int) < ln) ∧ (InR (v + 2) ∧ ((0 ≤ (v + 2 : Int) ∧ (v + 2 : Int) < ln) ∧ (InR (v + 3) ∧ ((0 ≤ (v + 3 : Int) ∧ (v + 3 : Int) < ln) ∧ (InR (v + 4) ∧ ((0 ≤ (v + 4 : Int) ∧ (v + 4 : Int) < ln) ∧ (S_Mo_compare [vR 12 0, vI (xs (v + 1)), vI (xs (v + 2)), vI (xs (v + 3)), vI (xs (v + 4))] σ1 (kI fun r2 σ2 => ((r1 = r2 → (InR (v + 6) ∧ (∃ n', n' < n ∧ Ih n' [vR 61 0, vR 11 0, vR 12 0, vI (v + 6)] σ2))) ∧ (r1 ≠ r2 → ((0 ≤ (0 : Int) ∧ (0 : Int) ≤ 1) ∧ K (vI 0) σ2)))))))))))))))))))))))
theorem l_law36 (ln : Int) (xs : Int → Int) (K : AV → SS → Prop) (v : Int) (σ : SS) (n : Nat) (hl : 0 ≤ ln ∧ ln ≤ 3072) (hn : n = (20000 - 2 * v - 1).toNat) (hb : 0 ≤ v ∧ v + 6 ≤ ln) (hS : Sim σ) : VL_law36 ln xs K v σ n := by
  unfold VL_law36
  refine ⟨by omega, ?_⟩
  refine ⟨⟨by omega, by omega⟩, ?_⟩
  refine ⟨by omega, ?_⟩
  refine ⟨⟨by omega, by omega⟩, ?_⟩
  refine ⟨by omega, ?_⟩
  refine ⟨⟨by omega, by omega⟩, ?_⟩
  refine ⟨by omega, ?_⟩
  refine ⟨⟨by omega, by omega⟩, ?_⟩
  refine cp_compare hS (fun r1 σ1 hm => ?_)
  refine ⟨by omega, ?_⟩
  refine ⟨⟨by omega, by omega⟩, ?_⟩
  refine ⟨by omega, ?_⟩
  refine ⟨⟨by omega, by omega⟩, ?_⟩
  refine ⟨by omega, ?_⟩
  refine ⟨⟨by omega, by omega⟩, ?_⟩
  refine ⟨by omega, ?_⟩
  refine ⟨⟨by omega, by omega⟩, ?_⟩
  refine hm _ (fun σ2 hS2 => ?_)
  refine ⟨fun _ => ?_, fun z => absurd rfl z⟩
  refine ⟨by omega, ?_⟩
  refine ⟨_, ?_, _, rfl, rfl, ?_, hS2⟩
  · omega
  · omega
def VL_law37 (ln : Int) (xs : Int → Int) (K : AV → SS → Prop) (v : Int) (σ : SS) (n : Nat) : Prop := (InR (v + 1) ∧ ((0 ≤ (v + 1 : Int) ∧ (v + 1 : Int) < ln) ∧ (InR (v + 2) ∧ ((0 ≤ (v + 2 : Int) ∧ (v + 2 : Int) < ln) ∧ (InR (v + 3) ∧ ((0 ≤ (v + 3 : Int) ∧ (v + 3 : Int) < ln) ∧ (S_Wr_sub [vR 11 0, vI (xs (v + 1)), vI (xs (v + 2)), vI (xs (v + 3))] σ (kI fun r1 σ1 => (InR (v + 1) ∧ ((0 ≤ (v + 1 : Int) ∧ (v + 1 : Int) < ln) ∧ (InR (v + 2) ∧ ((0 ≤ (v + 2 : Int) ∧ (v + 2 : Int) < ln) ∧ (InR (v + 3) ∧ ((0 ≤ (v + 3 : Int) ∧ (v + 3 : Int) < ln) ∧ (S_Mo_sub [vR 12 0, vI (xs (v + 1)), vI (xs (v + 2)), vI (xs (v + 3))] σ1 (kI fun r2 σ2 => ((r1 = r2 → (InR (v + 6) ∧ (∃ n', n' < n ∧ Ih n' [vR 61 0, vR 11 0, vR 12 0, vI (v + 6)] σ2))) ∧ (r1 ≠ r2 → ((0 ≤ (0 : Int) ∧ (0 : Int) ≤ 1) ∧ K (vI 0) σ2)))))))))))))))))))
theorem l_law37 (ln : Int) (xs : Int → Int) (K : AV → SS → Prop) (v : Int) (σ : SS) (n : Nat) (hl : 0 ≤ ln ∧ ln ≤ 3072) (hn : n = (20000 - 2 * v - 1).toNat) (hb : 0 ≤ v ∧ v + 6 ≤ ln) (hS : Sim σ) : VL_law37 ln xs K v σ n := by
  unfold VL_law37
  refine ⟨by omega, ?_⟩
  refine ⟨⟨by omega, by omega⟩, ?_⟩
  refine ⟨by omega, ?_⟩
  refine ⟨⟨by omega, by omega⟩, ?_⟩
  refine ⟨by omega, ?_⟩
  refine ⟨⟨by omega, by omega⟩, ?_⟩
  refine cp_sub hS (fun r1 σ1 hm => ?_)
  refine ⟨by omega, ?_⟩
  refine ⟨⟨by omega, by omega⟩, ?_⟩
  refine ⟨by omega, ?_⟩
  refine ⟨⟨by omega, by omega⟩, ?_⟩
  refine ⟨by omega, ?_⟩
  refine ⟨⟨by omega, by omega⟩, ?_⟩
  refine hm _ (fun σ2 hS2 => ?_)
  refine ⟨fun _ => ?_, fun z => absurd rfl z⟩
  refine ⟨by omega, ?_⟩
  refine ⟨_, ?_, _, rfl, rfl, ?_, hS2⟩
  · omega
  · omega
def VL_law38 (ln : Int) (xs : Int → Int) (K : AV → SS → Prop) (v : Int) (σ : SS) (n : Nat) : Prop := (InR (v + 1) ∧ ((0 ≤ (v + 1 : Int) ∧ (v + 1 : Int) < ln) ∧ (S_Wr_closed [vR 11 0, vI (xs (v + 1))] σ (kI fun r1 σ1 => (InR (v + 1) ∧ ((0 ≤ (v + 1 : Int) ∧ (v + 1 : Int) < ln) ∧ (S_Mo_closed [vR 12 0, vI (xs (v + 1))] σ1 (kI fun r2 σ2 => ((r1 = r2 → (InR (v + 6) ∧ (∃ n', n' < n ∧ Ih n' [vR 61 0, vR 11 0, vR 12 0, vI (v + 6)] σ2))) ∧ (r1 ≠ r2 → ((0 ≤ (0 : Int) ∧ (0 : Int) ≤ 1) ∧ K (vI 0) σ2)))))))))))
theorem l_law38 (ln : Int) (xs : Int → Int) (K : AV → SS → Prop) (v : Int) (σ : SS) (n : Nat) (hl : 0 ≤ ln ∧ ln ≤ 3072) (hn : n = (20000 - 2 * v - 1).toNat) (hb : 0 ≤ v ∧ v + 6 ≤ ln) (hS : Sim σ) : VL_law38 ln xs K v σ n := by
  unfold VL_law38
  refine ⟨by omega, ?_⟩
  refine ⟨⟨by omega, by omega⟩, ?_⟩
  refine cp_closed hS (fun r1 σ1 hm => ?_)
  refine ⟨by omega, ?_⟩
  refine ⟨⟨by omega, by omega⟩, ?_⟩
  refine hm _ (fun σ2 hS2 => ?_)
  refine ⟨fun _ => ?_, fun z => absurd rfl z⟩
  refine ⟨by omega, ?_⟩
  refine ⟨_, ?_, _, rfl, rfl, ?_, hS2⟩
  · omega
  · omega
def VL_law39 (ln : Int) (xs : Int → Int) (K : AV → SS → Prop) (v : Int) (σ : SS) (n : Nat) : Prop := (InR (v + 1) ∧ ((0 ≤ (v + 1 : Int) ∧ (v + 1 : Int) < ln) ∧ (S_Wr_absent [vR 11 0, vI (xs (v + 1))] σ (kI fun r1 σ1 => (InR (v + 1) ∧ ((0 ≤ (v + 1 : Int) ∧ (v + 1 : Int) < ln) ∧ (S_Mo_absent [vR 12 0, vI (xs (v + 1))] σ1 (kI fun r2 σ2 => ((r1 = r2 → (InR (v + 6) ∧ (∃ n', n' < n ∧ Ih n' [vR 61 0, vR 11 0, vR 12 0, vI (v + 6)] σ2))) ∧ (r1 ≠ r2 → ((0 ≤ (0 : Int) ∧ (0 : Int) ≤ 1) ∧ K (vI 0) σ2)))))))))))
theorem l_law39 (ln : Int) (xs : Int → Int) (K : AV → SS → Prop) (v : Int) (σ : SS) (n : Nat) (hl : 0 ≤ ln ∧ ln ≤ 3072) (hn : n = (20000 - 2 * v - 1).toNat) (hb : 0 ≤ v ∧ v + 6 ≤ ln) (hS : Sim σ) : VL_law39 ln xs K v σ n := by
  unfold VL_law39
  refine ⟨by omega, ?_⟩
  refine ⟨⟨by omega, by omega⟩, ?_⟩
  refine cp_absent hS (fun r1 σ1 hm => ?_)
  refine ⟨by omega, ?_⟩
  refine ⟨⟨by omega, by omega⟩, ?_⟩
  refine hm _ (fun σ2 hS2 => ?_)
  refine ⟨fun _ => ?_, fun z => absurd rfl z⟩
  refine ⟨by omega, ?_⟩
  refine ⟨_, ?_, _, rfl, rfl, ?_, hS2⟩
  · omega
  · omega
def VL_law40 (ln : Int) (xs : Int → Int) (K : AV → SS → Prop) (v : Int) (σ : SS) (n : Nat) : Prop := (InR (v + 1) ∧ ((0 ≤ (v + 1 : Int) ∧ (v + 1 : Int) < ln) ∧ (S_Wr_special [vR 11 0, vI (xs (v + 1))] σ (kI fun r1 σ1 => (InR (v + 1) ∧ ((0 ≤ (v + 1 : Int) ∧ (v + 1 : Int) < ln) ∧ (S_Mo_special [vR 12 0, vI (xs (v + 1))] σ1 (kI fun r2 σ2 => ((r1 = r2 → (InR (v + 6) ∧ (∃ n', n' < n ∧ Ih n' [vR 61 0, vR 11 0, vR 12 0, vI (v + 6)] σ2))) ∧ (r1 ≠ r2 → ((0 ≤ (0 : Int) ∧ (0 : Int) ≤ 1) ∧ K (vI 0) σ2)))))))))))
theorem l_law40 (ln : Int) (xs : Int → Int) (K : AV → SS → Prop) (v : Int) (σ : SS) (n : Nat) (hl : 0 ≤ ln ∧ ln ≤ 3072) (hn : n = (20000 - 2 * v - 1).toNat) (hb : 0 ≤ v ∧ v + 6 ≤ ln) (hS : Sim σ) : VL_law40 ln xs K v σ n := by
  unfold VL_law40
  refine ⟨by omega, ?_⟩
  refine ⟨⟨by omega, by omega⟩, ?_⟩
  refine cp_special hS (fun r1 σ1 hm => ?_)
  refine ⟨by omega, ?_⟩
  refine ⟨⟨by omega, by omega⟩, ?_⟩
  refine hm _ (fun σ2 hS2 => ?_)
  refine ⟨fun _ => ?_, fun z => absurd rfl z⟩
  refine ⟨by omega, ?_⟩
  refine ⟨_, ?_, _, rfl, rfl, ?_, hS2⟩
  · omega
  · omega
def VL_law41 (ln : Int) (xs : Int → Int) (K : AV → SS → Prop) (v : Int) (σ : SS) (n : Nat) : Prop := (InR (v + 1) ∧ ((0 ≤ (v + 1 : Int) ∧ (v + 1 : Int) < ln) ∧ (InR (v + 2) ∧ ((0 ≤ (v + 2 : Int) ∧ (v + 2 : Int) < ln) ∧ (S_Wr_gapped [vR 11 0, vI (xs (v + 1)), vI (xs (v + 2))] σ (kI fun r1 σ1 => (InR (v + 1) ∧ ((0 ≤ (v + 1 : Int) ∧ (v + 1 : Int) < ln) ∧ (InR (v + 2) ∧ ((0 ≤ (v + 2 : Int) ∧ (v + 2 : Int) < ln) ∧ (S_Mo_gapped [vR 12 0, vI (xs (v + 1)), vI (xs (v + 2))] σ1 (kI fun r2 σ2 => ((r1 = r2 → (InR (v + 6) ∧ (∃ n', n' < n ∧ Ih n' [vR 61 0, vR 11 0, vR 12 0, vI (v + 6)] σ2))) ∧ (r1 ≠ r2 → ((0 ≤ (0 : Int) ∧ (0 : Int) ≤ 1) ∧ K (vI 0) σ2)))))))))))))))
theorem l_law41 (ln : Int) (xs : Int → Int) (K : AV → SS → Prop) (v : Int) (σ : SS) (n : Nat) (hl : 0 ≤ ln ∧ ln ≤ 3072) (hn : n = (20000 - 2 * v - 1).toNat) (hb : 0 ≤ v ∧ v + 6 ≤ ln) (hS : Sim σ) : VL_law41 ln xs K v σ n := by
  unfold VL_law41
  refine ⟨by omega, ?_⟩
  refine ⟨⟨by omega, by omega⟩, ?_⟩
  refine ⟨by omega, ?_⟩
  refine ⟨⟨by omega, by omega⟩, ?_⟩
  refine cp_gapped hS (fun r1 σ1 hm => ?_)
  refine ⟨by omega, ?_⟩
  refine ⟨⟨by omega, by omega⟩, ?_⟩
  refine ⟨by omega, ?_⟩
  refine ⟨⟨by omega, by omega⟩, ?_⟩
  refine hm _ (fun σ2 hS2 => ?_)
  refine ⟨fun _ => ?_, fun z => absurd rfl z⟩
  refine ⟨by omega, ?_⟩
  refine ⟨_, ?_, _, rfl, rfl, ?_, hS2⟩
  · omega
  · omega
def VL_law42 (ln : Int) (xs : Int → Int) (K : AV → SS → Prop) (v : Int) (σ : SS) (n : Nat) : Prop := (InR (v + 1) ∧ ((0 ≤ (v + 1 : Int) ∧ (v + 1 : Int) < ln) ∧ (InR (v + 2) ∧ ((0 ≤ (v + 2 : Int) ∧ (v + 2 : Int) < ln) ∧ (S_Wr_change [vR 11 0, vI (xs (v + 1)), vI (xs (v + 2))] σ (kI fun r1 σ1 => (InR (v + 1) ∧ ((0 ≤ (v + 1 : Int) ∧ (v + 1 : Int) < ln) ∧ (InR (v + 2) ∧ ((0 ≤ (v + 2 : Int) ∧ (v + 2 : Int) < ln) ∧ (S_Mo_change [vR 12 0, vI (xs (v + 1)), vI (xs (v + 2))] σ1 (kI fun r2 σ2 => ((r1 = r2 → (InR (v + 6) ∧ (∃ n', n' < n ∧ Ih n' [vR 61 0, vR 11 0, vR 12 0, vI (v + 6)] σ2))) ∧ (r1 ≠ r2 → ((0 ≤ (0 : Int) ∧ (0 : Int) ≤ 1) ∧ K (vI 0) σ2)))))))))))))))
theorem l_law42 (ln : Int) (xs : Int → Int) (K : AV → SS → Prop) (v : Int) (σ : SS) (n : Nat) (hl : 0 ≤ ln ∧ ln ≤ 3072) (hn : n = (20000 - 2 * v - 1).toNat) (hb : 0 ≤ v ∧ v + 6 ≤ ln) (hS : Sim σ) : VL_law42 ln xs K v σ n := by
  unfold VL_law42
  refine ⟨by omega, ?_⟩
  refine ⟨⟨by omega, by omega⟩, ?_⟩
  refine ⟨by omega, ?_⟩
  refine ⟨⟨by omega, by omega⟩, ?_⟩
  refine cp_change hS (fun r1 σ1 hm => ?_)
  refine ⟨by omega, ?_⟩
  refine ⟨⟨by omega, by omega⟩, ?_⟩
  refine ⟨by omega, ?_⟩
  refine ⟨⟨by omega, by omega⟩, ?_⟩
  refine hm _ (fun σ2 hS2 => ?_)
  refine ⟨fun _ => ?_, fun z => absurd rfl z⟩
  refine ⟨by omega, ?_⟩
  refine ⟨_, ?_, _, rfl, rfl, ?_, hS2⟩
  · omega
  · omega
def VL_law43 (ln : Int) (xs : Int → Int) (K : AV → SS → Prop) (v : Int) (σ : SS) (n : Nat) : Prop := (InR (v + 1) ∧ ((0 ≤ (v + 1 : Int) ∧ (v + 1 : Int) < ln) ∧ (InR (v + 2) ∧ ((0 ≤ (v + 2 : Int) ∧ (v + 2 : Int) < ln) ∧ (S_Wr_alike [vR 11 0, vI (xs (v + 1)), vI (xs (v + 2))] σ (kI fun r1 σ1 => (InR (v + 1) ∧ ((0 ≤ (v + 1 : Int) ∧ (v + 1 : Int) < ln) ∧ (InR (v + 2) ∧ ((0 ≤ (v + 2 : Int) ∧ (v + 2 : Int) < ln) ∧ (S_Mo_alike [vR 12 0, vI (xs (v + 1)), vI (xs (v + 2))] σ1 (kI fun r2 σ2 => ((r1 = r2 → (InR (v + 6) ∧ (∃ n', n' < n ∧ Ih n' [vR 61 0, vR 11 0, vR 12 0, vI (v + 6)] σ2))) ∧ (r1 ≠ r2 → ((0 ≤ (0 : Int) ∧ (0 : Int) ≤ 1) ∧ K (vI 0) σ2)))))))))))))))
theorem l_law43 (ln : Int) (xs : Int → Int) (K : AV → SS → Prop) (v : Int) (σ : SS) (n : Nat) (hl : 0 ≤ ln ∧ ln ≤ 3072) (hn : n = (20000 - 2 * v - 1).toNat) (hb : 0 ≤ v ∧ v + 6 ≤ ln) (hS : Sim σ) : VL_law43 ln xs K v σ n := by
  unfold VL_law43
  refine ⟨by omega, ?_⟩
  refine ⟨⟨by omega, by omega⟩, ?_⟩
  refine ⟨by omega, ?_⟩
  refine ⟨⟨by omega, by omega⟩, ?_⟩
  refine cp_alike hS (fun r1 σ1 hm => ?_)
  refine ⟨by omega, ?_⟩
  refine ⟨⟨by omega, by omega⟩, ?_⟩
  refine ⟨by omega, ?_⟩
  refine ⟨⟨by omega, by omega⟩, ?_⟩
  refine hm _ (fun σ2 hS2 => ?_)
  refine ⟨fun _ => ?_, fun z => absurd rfl z⟩
  refine ⟨by omega, ?_⟩
  refine ⟨_, ?_, _, rfl, rfl, ?_, hS2⟩
  · omega
  · omega
def VL_law44 (ln : Int) (xs : Int → Int) (K : AV → SS → Prop) (v : Int) (σ : SS) (n : Nat) : Prop := (InR (v + 1) ∧ ((0 ≤ (v + 1 : Int) ∧ (v + 1 : Int) < ln) ∧ (S_Wr_count [vR 11 0, vI (xs (v + 1))] σ (kI fun r1 σ1 => (InR (v + 1) ∧ ((0 ≤ (v + 1 : Int) ∧ (v + 1 : Int) < ln) ∧ (S_Mo_count [vR 12 0, vI (xs (v + 1))] σ1 (kI fun r2 σ2 => ((r1 = r2 → (InR (v + 6) ∧ (∃ n', n' < n ∧ Ih n' [vR 61 0, vR 11 0, vR 12 0, vI (v + 6)] σ2))) ∧ (r1 ≠ r2 → ((0 ≤ (0 : Int) ∧ (0 : Int) ≤ 1) ∧ K (vI 0) σ2)))))))))))
theorem l_law44 (ln : Int) (xs : Int → Int) (K : AV → SS → Prop) (v : Int) (σ : SS) (n : Nat) (hl : 0 ≤ ln ∧ ln ≤ 3072) (hn : n = (20000 - 2 * v - 1).toNat) (hb : 0 ≤ v ∧ v + 6 ≤ ln) (hS : Sim σ) : VL_law44 ln xs K v σ n := by
  unfold VL_law44
  refine ⟨by omega, ?_⟩
  refine ⟨⟨by omega, by omega⟩, ?_⟩
  refine cp_count hS (fun r1 σ1 hm => ?_)
  refine ⟨by omega, ?_⟩
  refine ⟨⟨by omega, by omega⟩, ?_⟩
  refine hm _ (fun σ2 hS2 => ?_)
  refine ⟨fun _ => ?_, fun z => absurd rfl z⟩
  refine ⟨by omega, ?_⟩
  refine ⟨_, ?_, _, rfl, rfl, ?_, hS2⟩
  · omega
  · omega
