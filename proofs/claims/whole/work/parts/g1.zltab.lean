/-! ===== the law: its instructions, its words ===== -/
def tb_Zl_0 : List (Nat × Instr × Nat) := [(0, .new 8, 3),
  (3, .dup, 1),
  (4, .invokespecial 151, 3),
  (7, .astore_n 1, 1),
  (8, .new 152, 3),
  (11, .dup, 1),
  (12, .invokespecial 154, 3),
  (15, .astore_n 2, 1),
  (16, .iconst 1, 1),
  (17, .newarray .long, 2),
  (19, .astore_n 3, 1),
  (20, .iconst 0, 1),
  (21, .istore 4, 2),
  (23, .iload 4, 2),
  (25, .aload_n 0, 1),
  (26, .arraylength, 1),
  (27, .bipush 7, 2),
  (29, .isub, 1),
  (30, .if_icmp .gt 3231, 3),
  (33, .aload_n 0, 1),
  (34, .iload 4, 2),
  (36, .iaload, 1),
  (37, .bipush 63, 2),
  (39, .iand, 1),
  (40, .tableswitch 3215 0 58 #[252, 308, 364, 377, 390, 403, 416, 429, 485, 541, 597, 665, 721, 784, 840, 915, 983, 1058, 1114, 1182, 1257, 1332, 1388, 1451, 1464, 1477, 1552, 1565, 1628, 1641, 1697, 1772, 1828, 1896, 1909, 1965, 2021, 2089, 2145, 2158, 2214, 2277, 2345, 2401, 2469, 2482, 2525, 2566, 2658, 2776, 2832, 2900, 2992, 3005, 3018, 3074, 3099, 3143, 3179], 252),
  (292, .aload_n 1, 1),
  (293, .aload_n 0, 1),
  (294, .iload 4, 2),
  (296, .iconst 1, 1),
  (297, .iadd, 1),
  (298, .iaload, 1),
  (299, .aload_n 3, 1),
  (300, .invokestatic 155, 3),
  (303, .istore 5, 2),
  (305, .aload_n 2, 1),
  (306, .aload_n 0, 1),
  (307, .iload 4, 2),
  (309, .iconst 1, 1),
  (310, .iadd, 1),
  (311, .iaload, 1),
  (312, .invokevirtual 160, 3),
  (315, .istore 6, 2),
  (317, .aload_n 2, 1),
  (318, .invokevirtual 161, 3),
  (321, .iload 5, 2),
  (323, .if_icmp .eq 5, 3),
  (326, .iconst 0, 1),
  (327, .ireturn, 1),
  (328, .iload 5, 2),
  (330, .ifCond .ne 15, 3),
  (333, .aload_n 3, 1),
  (334, .iconst 0, 1),
  (335, .laload, 1),
  (336, .iload 6, 2),
  (338, .i2l, 1),
  (339, .lcmp, 1),
  (340, .ifCond .eq 5, 3),
  (343, .iconst 0, 1),
  (344, .ireturn, 1),
  (345, .goto 2910, 3),
  (348, .aload_n 1, 1),
  (349, .aload_n 0, 1),
  (350, .iload 4, 2),
  (352, .iconst 1, 1),
  (353, .iadd, 1),
  (354, .iaload, 1),
  (355, .aload_n 3, 1),
  (356, .invokestatic 164, 3),
  (359, .istore 5, 2),
  (361, .aload_n 2, 1),
  (362, .aload_n 0, 1),
  (363, .iload 4, 2),
  (365, .iconst 1, 1),
  (366, .iadd, 1),
  (367, .iaload, 1),
  (368, .invokevirtual 166, 3),
  (371, .istore 6, 2),
  (373, .aload_n 2, 1),
  (374, .invokevirtual 161, 3),
  (377, .iload 5, 2),
  (379, .if_icmp .eq 5, 3),
  (382, .iconst 0, 1),
  (383, .ireturn, 1),
  (384, .iload 5, 2),
  (386, .ifCond .ne 15, 3),
  (389, .aload_n 3, 1),
  (390, .iconst 0, 1),
  (391, .laload, 1),
  (392, .iload 6, 2),
  (394, .i2l, 1),
  (395, .lcmp, 1),
  (396, .ifCond .eq 5, 3),
  (399, .iconst 0, 1),
  (400, .ireturn, 1),
  (401, .goto 2854, 3),
  (404, .aload_n 1, 1),
  (405, .invokevirtual 167, 3),
  (408, .aload_n 2, 1),
  (409, .invokevirtual 170, 3),
  (412, .if_icmp .eq 2843, 3)]
def tb_Zl_1 : List (Nat × Instr × Nat) := [(415, .iconst 0, 1),
  (416, .ireturn, 1),
  (417, .aload_n 1, 1),
  (418, .invokevirtual 171, 3),
  (421, .aload_n 2, 1),
  (422, .invokevirtual 174, 3),
  (425, .if_icmp .eq 2830, 3),
  (428, .iconst 0, 1),
  (429, .ireturn, 1),
  (430, .aload_n 1, 1),
  (431, .invokevirtual 175, 3),
  (434, .aload_n 2, 1),
  (435, .invokevirtual 178, 3),
  (438, .if_icmp .eq 2817, 3),
  (441, .iconst 0, 1),
  (442, .ireturn, 1),
  (443, .aload_n 1, 1),
  (444, .invokevirtual 179, 3),
  (447, .aload_n 2, 1),
  (448, .invokevirtual 182, 3),
  (451, .if_icmp .eq 2804, 3),
  (454, .iconst 0, 1),
  (455, .ireturn, 1),
  (456, .aload_n 1, 1),
  (457, .invokevirtual 183, 3),
  (460, .aload_n 2, 1),
  (461, .invokevirtual 186, 3),
  (464, .if_icmp .eq 2791, 3),
  (467, .iconst 0, 1),
  (468, .ireturn, 1),
  (469, .aload_n 1, 1),
  (470, .aload_n 0, 1),
  (471, .iload 4, 2),
  (473, .iconst 1, 1),
  (474, .iadd, 1),
  (475, .iaload, 1),
  (476, .aload_n 3, 1),
  (477, .invokestatic 187, 3),
  (480, .istore 5, 2),
  (482, .aload_n 2, 1),
  (483, .aload_n 0, 1),
  (484, .iload 4, 2),
  (486, .iconst 1, 1),
  (487, .iadd, 1),
  (488, .iaload, 1),
  (489, .invokevirtual 189, 3),
  (492, .istore 6, 2),
  (494, .aload_n 2, 1),
  (495, .invokevirtual 161, 3),
  (498, .iload 5, 2),
  (500, .if_icmp .eq 5, 3),
  (503, .iconst 0, 1),
  (504, .ireturn, 1),
  (505, .iload 5, 2),
  (507, .ifCond .ne 15, 3),
  (510, .aload_n 3, 1),
  (511, .iconst 0, 1),
  (512, .laload, 1),
  (513, .iload 6, 2),
  (515, .i2l, 1),
  (516, .lcmp, 1),
  (517, .ifCond .eq 5, 3),
  (520, .iconst 0, 1),
  (521, .ireturn, 1),
  (522, .goto 2733, 3),
  (525, .aload_n 1, 1),
  (526, .aload_n 0, 1),
  (527, .iload 4, 2),
  (529, .iconst 1, 1),
  (530, .iadd, 1),
  (531, .iaload, 1),
  (532, .aload_n 3, 1),
  (533, .invokestatic 190, 3),
  (536, .istore 5, 2),
  (538, .aload_n 2, 1),
  (539, .aload_n 0, 1),
  (540, .iload 4, 2),
  (542, .iconst 1, 1),
  (543, .iadd, 1),
  (544, .iaload, 1),
  (545, .invokevirtual 192, 3),
  (548, .istore 6, 2),
  (550, .aload_n 2, 1),
  (551, .invokevirtual 161, 3),
  (554, .iload 5, 2),
  (556, .if_icmp .eq 5, 3),
  (559, .iconst 0, 1),
  (560, .ireturn, 1),
  (561, .iload 5, 2),
  (563, .ifCond .ne 15, 3),
  (566, .aload_n 3, 1),
  (567, .iconst 0, 1),
  (568, .laload, 1),
  (569, .iload 6, 2),
  (571, .i2l, 1),
  (572, .lcmp, 1),
  (573, .ifCond .eq 5, 3),
  (576, .iconst 0, 1),
  (577, .ireturn, 1),
  (578, .goto 2677, 3)]
def tb_Zl_2 : List (Nat × Instr × Nat) := [(581, .aload_n 1, 1),
  (582, .aload_n 0, 1),
  (583, .iload 4, 2),
  (585, .iconst 1, 1),
  (586, .iadd, 1),
  (587, .iaload, 1),
  (588, .aload_n 3, 1),
  (589, .invokestatic 193, 3),
  (592, .istore 5, 2),
  (594, .aload_n 2, 1),
  (595, .aload_n 0, 1),
  (596, .iload 4, 2),
  (598, .iconst 1, 1),
  (599, .iadd, 1),
  (600, .iaload, 1),
  (601, .invokevirtual 195, 3),
  (604, .istore 6, 2),
  (606, .aload_n 2, 1),
  (607, .invokevirtual 161, 3),
  (610, .iload 5, 2),
  (612, .if_icmp .eq 5, 3),
  (615, .iconst 0, 1),
  (616, .ireturn, 1),
  (617, .iload 5, 2),
  (619, .ifCond .ne 15, 3),
  (622, .aload_n 3, 1),
  (623, .iconst 0, 1),
  (624, .laload, 1),
  (625, .iload 6, 2),
  (627, .i2l, 1),
  (628, .lcmp, 1),
  (629, .ifCond .eq 5, 3),
  (632, .iconst 0, 1),
  (633, .ireturn, 1),
  (634, .goto 2621, 3),
  (637, .aload_n 1, 1),
  (638, .aload_n 0, 1),
  (639, .iload 4, 2),
  (641, .iconst 1, 1),
  (642, .iadd, 1),
  (643, .iaload, 1),
  (644, .aload_n 0, 1),
  (645, .iload 4, 2),
  (647, .iconst 2, 1),
  (648, .iadd, 1),
  (649, .iaload, 1),
  (650, .aload_n 3, 1),
  (651, .invokestatic 196, 3),
  (654, .istore 5, 2),
  (656, .aload_n 2, 1),
  (657, .aload_n 0, 1),
  (658, .iload 4, 2),
  (660, .iconst 1, 1),
  (661, .iadd, 1),
  (662, .iaload, 1),
  (663, .aload_n 0, 1),
  (664, .iload 4, 2),
  (666, .iconst 2, 1),
  (667, .iadd, 1),
  (668, .iaload, 1),
  (669, .invokevirtual 199, 3),
  (672, .istore 6, 2),
  (674, .aload_n 2, 1),
  (675, .invokevirtual 161, 3),
  (678, .iload 5, 2),
  (680, .if_icmp .eq 5, 3),
  (683, .iconst 0, 1),
  (684, .ireturn, 1),
  (685, .iload 5, 2),
  (687, .ifCond .ne 15, 3),
  (690, .aload_n 3, 1),
  (691, .iconst 0, 1),
  (692, .laload, 1),
  (693, .iload 6, 2),
  (695, .i2l, 1),
  (696, .lcmp, 1),
  (697, .ifCond .eq 5, 3),
  (700, .iconst 0, 1),
  (701, .ireturn, 1),
  (702, .goto 2553, 3),
  (705, .aload_n 1, 1),
  (706, .aload_n 0, 1),
  (707, .iload 4, 2),
  (709, .iconst 1, 1),
  (710, .iadd, 1),
  (711, .iaload, 1),
  (712, .aload_n 3, 1),
  (713, .invokestatic 200, 3),
  (716, .istore 5, 2),
  (718, .aload_n 2, 1),
  (719, .aload_n 0, 1),
  (720, .iload 4, 2),
  (722, .iconst 1, 1),
  (723, .iadd, 1),
  (724, .iaload, 1),
  (725, .invokevirtual 202, 3),
  (728, .istore 6, 2),
  (730, .aload_n 2, 1),
  (731, .invokevirtual 161, 3),
  (734, .iload 5, 2)]
def tb_Zl_3 : List (Nat × Instr × Nat) := [(736, .if_icmp .eq 5, 3),
  (739, .iconst 0, 1),
  (740, .ireturn, 1),
  (741, .iload 5, 2),
  (743, .ifCond .ne 15, 3),
  (746, .aload_n 3, 1),
  (747, .iconst 0, 1),
  (748, .laload, 1),
  (749, .iload 6, 2),
  (751, .i2l, 1),
  (752, .lcmp, 1),
  (753, .ifCond .eq 5, 3),
  (756, .iconst 0, 1),
  (757, .ireturn, 1),
  (758, .goto 2497, 3),
  (761, .aload_n 1, 1),
  (762, .aload_n 0, 1),
  (763, .iload 4, 2),
  (765, .iconst 1, 1),
  (766, .iadd, 1),
  (767, .iaload, 1),
  (768, .aload_n 3, 1),
  (769, .invokestatic 203, 3),
  (772, .istore 5, 2),
  (774, .aload_n 2, 1),
  (775, .aload_n 0, 1),
  (776, .iload 4, 2),
  (778, .iconst 1, 1),
  (779, .iadd, 1),
  (780, .iaload, 1),
  (781, .invokevirtual 205, 3),
  (784, .istore 6, 2),
  (786, .aload_n 2, 1),
  (787, .invokevirtual 161, 3),
  (790, .iload 5, 2),
  (792, .if_icmp .eq 5, 3),
  (795, .iconst 0, 1),
  (796, .ireturn, 1),
  (797, .iload 5, 2),
  (799, .ifCond .ne 22, 3),
  (802, .aload_n 3, 1),
  (803, .iconst 0, 1),
  (804, .laload, 1),
  (805, .iload 6, 2),
  (807, .ifCond .eq 7, 3),
  (810, .lconst 1, 1),
  (811, .goto 4, 3),
  (814, .lconst 0, 1),
  (815, .lcmp, 1),
  (816, .ifCond .eq 5, 3),
  (819, .iconst 0, 1),
  (820, .ireturn, 1),
  (821, .goto 2434, 3),
  (824, .aload_n 1, 1),
  (825, .aload_n 0, 1),
  (826, .iload 4, 2),
  (828, .iconst 1, 1),
  (829, .iadd, 1),
  (830, .iaload, 1),
  (831, .aload_n 3, 1),
  (832, .invokestatic 206, 3),
  (835, .istore 5, 2),
  (837, .aload_n 2, 1),
  (838, .aload_n 0, 1),
  (839, .iload 4, 2),
  (841, .iconst 1, 1),
  (842, .iadd, 1),
  (843, .iaload, 1),
  (844, .invokevirtual 208, 3),
  (847, .istore 6, 2),
  (849, .aload_n 2, 1),
  (850, .invokevirtual 161, 3),
  (853, .iload 5, 2),
  (855, .if_icmp .eq 5, 3),
  (858, .iconst 0, 1),
  (859, .ireturn, 1),
  (860, .iload 5, 2),
  (862, .ifCond .ne 15, 3),
  (865, .aload_n 3, 1),
  (866, .iconst 0, 1),
  (867, .laload, 1),
  (868, .iload 6, 2),
  (870, .i2l, 1),
  (871, .lcmp, 1),
  (872, .ifCond .eq 5, 3),
  (875, .iconst 0, 1),
  (876, .ireturn, 1),
  (877, .goto 2378, 3),
  (880, .aload_n 1, 1),
  (881, .aload_n 0, 1),
  (882, .iload 4, 2),
  (884, .iconst 1, 1),
  (885, .iadd, 1),
  (886, .iaload, 1),
  (887, .aload_n 0, 1),
  (888, .iload 4, 2),
  (890, .iconst 2, 1),
  (891, .iadd, 1),
  (892, .iaload, 1),
  (893, .aload_n 3, 1)]
def tb_Zl_4 : List (Nat × Instr × Nat) := [(894, .invokestatic 209, 3),
  (897, .istore 5, 2),
  (899, .aload_n 2, 1),
  (900, .aload_n 0, 1),
  (901, .iload 4, 2),
  (903, .iconst 1, 1),
  (904, .iadd, 1),
  (905, .iaload, 1),
  (906, .aload_n 0, 1),
  (907, .iload 4, 2),
  (909, .iconst 2, 1),
  (910, .iadd, 1),
  (911, .iaload, 1),
  (912, .invokevirtual 211, 3),
  (915, .istore 6, 2),
  (917, .aload_n 2, 1),
  (918, .invokevirtual 161, 3),
  (921, .iload 5, 2),
  (923, .if_icmp .eq 5, 3),
  (926, .iconst 0, 1),
  (927, .ireturn, 1),
  (928, .iload 5, 2),
  (930, .ifCond .ne 22, 3),
  (933, .aload_n 3, 1),
  (934, .iconst 0, 1),
  (935, .laload, 1),
  (936, .iload 6, 2),
  (938, .ifCond .eq 7, 3),
  (941, .lconst 1, 1),
  (942, .goto 4, 3),
  (945, .lconst 0, 1),
  (946, .lcmp, 1),
  (947, .ifCond .eq 5, 3),
  (950, .iconst 0, 1),
  (951, .ireturn, 1),
  (952, .goto 2303, 3),
  (955, .aload_n 1, 1),
  (956, .aload_n 0, 1),
  (957, .iload 4, 2),
  (959, .iconst 1, 1),
  (960, .iadd, 1),
  (961, .iaload, 1),
  (962, .aload_n 0, 1),
  (963, .iload 4, 2),
  (965, .iconst 2, 1),
  (966, .iadd, 1),
  (967, .iaload, 1),
  (968, .aload_n 3, 1),
  (969, .invokestatic 212, 3),
  (972, .istore 5, 2),
  (974, .aload_n 2, 1),
  (975, .aload_n 0, 1),
  (976, .iload 4, 2),
  (978, .iconst 1, 1),
  (979, .iadd, 1),
  (980, .iaload, 1),
  (981, .aload_n 0, 1),
  (982, .iload 4, 2),
  (984, .iconst 2, 1),
  (985, .iadd, 1),
  (986, .iaload, 1),
  (987, .invokevirtual 214, 3),
  (990, .istore 6, 2),
  (992, .aload_n 2, 1),
  (993, .invokevirtual 161, 3),
  (996, .iload 5, 2),
  (998, .if_icmp .eq 5, 3),
  (1001, .iconst 0, 1),
  (1002, .ireturn, 1),
  (1003, .iload 5, 2),
  (1005, .ifCond .ne 15, 3),
  (1008, .aload_n 3, 1),
  (1009, .iconst 0, 1),
  (1010, .laload, 1),
  (1011, .iload 6, 2),
  (1013, .i2l, 1),
  (1014, .lcmp, 1),
  (1015, .ifCond .eq 5, 3),
  (1018, .iconst 0, 1),
  (1019, .ireturn, 1),
  (1020, .goto 2235, 3),
  (1023, .aload_n 1, 1),
  (1024, .aload_n 0, 1),
  (1025, .iload 4, 2),
  (1027, .iconst 1, 1),
  (1028, .iadd, 1),
  (1029, .iaload, 1),
  (1030, .aload_n 0, 1),
  (1031, .iload 4, 2),
  (1033, .iconst 2, 1),
  (1034, .iadd, 1),
  (1035, .iaload, 1),
  (1036, .aload_n 3, 1),
  (1037, .invokestatic 215, 3),
  (1040, .istore 5, 2),
  (1042, .aload_n 2, 1),
  (1043, .aload_n 0, 1),
  (1044, .iload 4, 2),
  (1046, .iconst 1, 1),
  (1047, .iadd, 1)]
def tb_Zl_5 : List (Nat × Instr × Nat) := [(1048, .iaload, 1),
  (1049, .aload_n 0, 1),
  (1050, .iload 4, 2),
  (1052, .iconst 2, 1),
  (1053, .iadd, 1),
  (1054, .iaload, 1),
  (1055, .invokevirtual 217, 3),
  (1058, .istore 6, 2),
  (1060, .aload_n 2, 1),
  (1061, .invokevirtual 161, 3),
  (1064, .iload 5, 2),
  (1066, .if_icmp .eq 5, 3),
  (1069, .iconst 0, 1),
  (1070, .ireturn, 1),
  (1071, .iload 5, 2),
  (1073, .ifCond .ne 22, 3),
  (1076, .aload_n 3, 1),
  (1077, .iconst 0, 1),
  (1078, .laload, 1),
  (1079, .iload 6, 2),
  (1081, .ifCond .eq 7, 3),
  (1084, .lconst 1, 1),
  (1085, .goto 4, 3),
  (1088, .lconst 0, 1),
  (1089, .lcmp, 1),
  (1090, .ifCond .eq 5, 3),
  (1093, .iconst 0, 1),
  (1094, .ireturn, 1),
  (1095, .goto 2160, 3),
  (1098, .aload_n 1, 1),
  (1099, .aload_n 0, 1),
  (1100, .iload 4, 2),
  (1102, .iconst 1, 1),
  (1103, .iadd, 1),
  (1104, .iaload, 1),
  (1105, .aload_n 3, 1),
  (1106, .invokestatic 218, 3),
  (1109, .istore 5, 2),
  (1111, .aload_n 2, 1),
  (1112, .aload_n 0, 1),
  (1113, .iload 4, 2),
  (1115, .iconst 1, 1),
  (1116, .iadd, 1),
  (1117, .iaload, 1),
  (1118, .invokevirtual 220, 3),
  (1121, .istore 6, 2),
  (1123, .aload_n 2, 1),
  (1124, .invokevirtual 161, 3),
  (1127, .iload 5, 2),
  (1129, .if_icmp .eq 5, 3),
  (1132, .iconst 0, 1),
  (1133, .ireturn, 1),
  (1134, .iload 5, 2),
  (1136, .ifCond .ne 15, 3),
  (1139, .aload_n 3, 1),
  (1140, .iconst 0, 1),
  (1141, .laload, 1),
  (1142, .iload 6, 2),
  (1144, .i2l, 1),
  (1145, .lcmp, 1),
  (1146, .ifCond .eq 5, 3),
  (1149, .iconst 0, 1),
  (1150, .ireturn, 1),
  (1151, .goto 2104, 3),
  (1154, .aload_n 1, 1),
  (1155, .aload_n 0, 1),
  (1156, .iload 4, 2),
  (1158, .iconst 1, 1),
  (1159, .iadd, 1),
  (1160, .iaload, 1),
  (1161, .aload_n 0, 1),
  (1162, .iload 4, 2),
  (1164, .iconst 2, 1),
  (1165, .iadd, 1),
  (1166, .iaload, 1),
  (1167, .aload_n 3, 1),
  (1168, .invokestatic 221, 3),
  (1171, .istore 5, 2),
  (1173, .aload_n 2, 1),
  (1174, .aload_n 0, 1),
  (1175, .iload 4, 2),
  (1177, .iconst 1, 1),
  (1178, .iadd, 1),
  (1179, .iaload, 1),
  (1180, .aload_n 0, 1),
  (1181, .iload 4, 2),
  (1183, .iconst 2, 1),
  (1184, .iadd, 1),
  (1185, .iaload, 1),
  (1186, .invokevirtual 223, 3),
  (1189, .istore 6, 2),
  (1191, .aload_n 2, 1),
  (1192, .invokevirtual 161, 3),
  (1195, .iload 5, 2),
  (1197, .if_icmp .eq 5, 3),
  (1200, .iconst 0, 1),
  (1201, .ireturn, 1),
  (1202, .iload 5, 2),
  (1204, .ifCond .ne 15, 3),
  (1207, .aload_n 3, 1)]
def tb_Zl_6 : List (Nat × Instr × Nat) := [(1208, .iconst 0, 1),
  (1209, .laload, 1),
  (1210, .iload 6, 2),
  (1212, .i2l, 1),
  (1213, .lcmp, 1),
  (1214, .ifCond .eq 5, 3),
  (1217, .iconst 0, 1),
  (1218, .ireturn, 1),
  (1219, .goto 2036, 3),
  (1222, .aload_n 1, 1),
  (1223, .aload_n 0, 1),
  (1224, .iload 4, 2),
  (1226, .iconst 1, 1),
  (1227, .iadd, 1),
  (1228, .iaload, 1),
  (1229, .aload_n 0, 1),
  (1230, .iload 4, 2),
  (1232, .iconst 2, 1),
  (1233, .iadd, 1),
  (1234, .iaload, 1),
  (1235, .aload_n 3, 1),
  (1236, .invokestatic 224, 3),
  (1239, .istore 5, 2),
  (1241, .aload_n 2, 1),
  (1242, .aload_n 0, 1),
  (1243, .iload 4, 2),
  (1245, .iconst 1, 1),
  (1246, .iadd, 1),
  (1247, .iaload, 1),
  (1248, .aload_n 0, 1),
  (1249, .iload 4, 2),
  (1251, .iconst 2, 1),
  (1252, .iadd, 1),
  (1253, .iaload, 1),
  (1254, .invokevirtual 226, 3),
  (1257, .istore 6, 2),
  (1259, .aload_n 2, 1),
  (1260, .invokevirtual 161, 3),
  (1263, .iload 5, 2),
  (1265, .if_icmp .eq 5, 3),
  (1268, .iconst 0, 1),
  (1269, .ireturn, 1),
  (1270, .iload 5, 2),
  (1272, .ifCond .ne 22, 3),
  (1275, .aload_n 3, 1),
  (1276, .iconst 0, 1),
  (1277, .laload, 1),
  (1278, .iload 6, 2),
  (1280, .ifCond .eq 7, 3),
  (1283, .lconst 1, 1),
  (1284, .goto 4, 3),
  (1287, .lconst 0, 1),
  (1288, .lcmp, 1),
  (1289, .ifCond .eq 5, 3),
  (1292, .iconst 0, 1),
  (1293, .ireturn, 1),
  (1294, .goto 1961, 3),
  (1297, .aload_n 1, 1),
  (1298, .aload_n 0, 1),
  (1299, .iload 4, 2),
  (1301, .iconst 1, 1),
  (1302, .iadd, 1),
  (1303, .iaload, 1),
  (1304, .aload_n 0, 1),
  (1305, .iload 4, 2),
  (1307, .iconst 2, 1),
  (1308, .iadd, 1),
  (1309, .iaload, 1),
  (1310, .aload_n 3, 1),
  (1311, .invokestatic 227, 3),
  (1314, .istore 5, 2),
  (1316, .aload_n 2, 1),
  (1317, .aload_n 0, 1),
  (1318, .iload 4, 2),
  (1320, .iconst 1, 1),
  (1321, .iadd, 1),
  (1322, .iaload, 1),
  (1323, .aload_n 0, 1),
  (1324, .iload 4, 2),
  (1326, .iconst 2, 1),
  (1327, .iadd, 1),
  (1328, .iaload, 1),
  (1329, .invokevirtual 229, 3),
  (1332, .istore 6, 2),
  (1334, .aload_n 2, 1),
  (1335, .invokevirtual 161, 3),
  (1338, .iload 5, 2),
  (1340, .if_icmp .eq 5, 3),
  (1343, .iconst 0, 1),
  (1344, .ireturn, 1),
  (1345, .iload 5, 2),
  (1347, .ifCond .ne 22, 3),
  (1350, .aload_n 3, 1),
  (1351, .iconst 0, 1),
  (1352, .laload, 1),
  (1353, .iload 6, 2),
  (1355, .ifCond .eq 7, 3),
  (1358, .lconst 1, 1),
  (1359, .goto 4, 3),
  (1362, .lconst 0, 1)]
def tb_Zl_7 : List (Nat × Instr × Nat) := [(1363, .lcmp, 1),
  (1364, .ifCond .eq 5, 3),
  (1367, .iconst 0, 1),
  (1368, .ireturn, 1),
  (1369, .goto 1886, 3),
  (1372, .aload_n 1, 1),
  (1373, .aload_n 0, 1),
  (1374, .iload 4, 2),
  (1376, .iconst 1, 1),
  (1377, .iadd, 1),
  (1378, .iaload, 1),
  (1379, .aload_n 3, 1),
  (1380, .invokestatic 230, 3),
  (1383, .istore 5, 2),
  (1385, .aload_n 2, 1),
  (1386, .aload_n 0, 1),
  (1387, .iload 4, 2),
  (1389, .iconst 1, 1),
  (1390, .iadd, 1),
  (1391, .iaload, 1),
  (1392, .invokevirtual 232, 3),
  (1395, .istore 6, 2),
  (1397, .aload_n 2, 1),
  (1398, .invokevirtual 161, 3),
  (1401, .iload 5, 2),
  (1403, .if_icmp .eq 5, 3),
  (1406, .iconst 0, 1),
  (1407, .ireturn, 1),
  (1408, .iload 5, 2),
  (1410, .ifCond .ne 15, 3),
  (1413, .aload_n 3, 1),
  (1414, .iconst 0, 1),
  (1415, .laload, 1),
  (1416, .iload 6, 2),
  (1418, .i2l, 1),
  (1419, .lcmp, 1),
  (1420, .ifCond .eq 5, 3),
  (1423, .iconst 0, 1),
  (1424, .ireturn, 1),
  (1425, .goto 1830, 3),
  (1428, .aload_n 1, 1),
  (1429, .aload_n 0, 1),
  (1430, .iload 4, 2),
  (1432, .iconst 1, 1),
  (1433, .iadd, 1),
  (1434, .iaload, 1),
  (1435, .aload_n 3, 1),
  (1436, .invokestatic 233, 3),
  (1439, .istore 5, 2),
  (1441, .aload_n 2, 1),
  (1442, .aload_n 0, 1),
  (1443, .iload 4, 2),
  (1445, .iconst 1, 1),
  (1446, .iadd, 1),
  (1447, .iaload, 1),
  (1448, .invokevirtual 235, 3),
  (1451, .istore 6, 2),
  (1453, .aload_n 2, 1),
  (1454, .invokevirtual 161, 3),
  (1457, .iload 5, 2),
  (1459, .if_icmp .eq 5, 3),
  (1462, .iconst 0, 1),
  (1463, .ireturn, 1),
  (1464, .iload 5, 2),
  (1466, .ifCond .ne 22, 3),
  (1469, .aload_n 3, 1),
  (1470, .iconst 0, 1),
  (1471, .laload, 1),
  (1472, .iload 6, 2),
  (1474, .ifCond .eq 7, 3),
  (1477, .lconst 1, 1),
  (1478, .goto 4, 3),
  (1481, .lconst 0, 1),
  (1482, .lcmp, 1),
  (1483, .ifCond .eq 5, 3),
  (1486, .iconst 0, 1),
  (1487, .ireturn, 1),
  (1488, .goto 1767, 3),
  (1491, .aload_n 1, 1),
  (1492, .invokevirtual 236, 3),
  (1495, .aload_n 2, 1),
  (1496, .invokevirtual 239, 3),
  (1499, .if_icmp .eq 1756, 3),
  (1502, .iconst 0, 1),
  (1503, .ireturn, 1),
  (1504, .aload_n 1, 1),
  (1505, .invokevirtual 240, 3),
  (1508, .aload_n 2, 1),
  (1509, .invokevirtual 243, 3),
  (1512, .if_icmp .eq 1743, 3),
  (1515, .iconst 0, 1),
  (1516, .ireturn, 1),
  (1517, .aload_n 1, 1),
  (1518, .aload_n 0, 1),
  (1519, .iload 4, 2),
  (1521, .iconst 1, 1),
  (1522, .iadd, 1),
  (1523, .iaload, 1),
  (1524, .aload_n 0, 1),
  (1525, .iload 4, 2)]
def tb_Zl_8 : List (Nat × Instr × Nat) := [(1527, .iconst 2, 1),
  (1528, .iadd, 1),
  (1529, .iaload, 1),
  (1530, .aload_n 3, 1),
  (1531, .invokestatic 244, 3),
  (1534, .istore 5, 2),
  (1536, .aload_n 2, 1),
  (1537, .aload_n 0, 1),
  (1538, .iload 4, 2),
  (1540, .iconst 1, 1),
  (1541, .iadd, 1),
  (1542, .iaload, 1),
  (1543, .aload_n 0, 1),
  (1544, .iload 4, 2),
  (1546, .iconst 2, 1),
  (1547, .iadd, 1),
  (1548, .iaload, 1),
  (1549, .invokevirtual 246, 3),
  (1552, .istore 6, 2),
  (1554, .aload_n 2, 1),
  (1555, .invokevirtual 161, 3),
  (1558, .iload 5, 2),
  (1560, .if_icmp .eq 5, 3),
  (1563, .iconst 0, 1),
  (1564, .ireturn, 1),
  (1565, .iload 5, 2),
  (1567, .ifCond .ne 22, 3),
  (1570, .aload_n 3, 1),
  (1571, .iconst 0, 1),
  (1572, .laload, 1),
  (1573, .iload 6, 2),
  (1575, .ifCond .eq 7, 3),
  (1578, .lconst 1, 1),
  (1579, .goto 4, 3),
  (1582, .lconst 0, 1),
  (1583, .lcmp, 1),
  (1584, .ifCond .eq 5, 3),
  (1587, .iconst 0, 1),
  (1588, .ireturn, 1),
  (1589, .goto 1666, 3),
  (1592, .aload_n 1, 1),
  (1593, .invokevirtual 247, 3),
  (1596, .aload_n 2, 1),
  (1597, .invokevirtual 250, 3),
  (1600, .if_icmp .eq 1655, 3),
  (1603, .iconst 0, 1),
  (1604, .ireturn, 1),
  (1605, .aload_n 1, 1),
  (1606, .aload_n 0, 1),
  (1607, .iload 4, 2),
  (1609, .iconst 1, 1),
  (1610, .iadd, 1),
  (1611, .iaload, 1),
  (1612, .aload_n 3, 1),
  (1613, .invokestatic 251, 3),
  (1616, .istore 5, 2),
  (1618, .aload_n 2, 1),
  (1619, .aload_n 0, 1),
  (1620, .iload 4, 2),
  (1622, .iconst 1, 1),
  (1623, .iadd, 1),
  (1624, .iaload, 1),
  (1625, .invokevirtual 253, 3),
  (1628, .istore 6, 2),
  (1630, .aload_n 2, 1),
  (1631, .invokevirtual 161, 3),
  (1634, .iload 5, 2),
  (1636, .if_icmp .eq 5, 3),
  (1639, .iconst 0, 1),
  (1640, .ireturn, 1),
  (1641, .iload 5, 2),
  (1643, .ifCond .ne 22, 3),
  (1646, .aload_n 3, 1),
  (1647, .iconst 0, 1),
  (1648, .laload, 1),
  (1649, .iload 6, 2),
  (1651, .ifCond .eq 7, 3),
  (1654, .lconst 1, 1),
  (1655, .goto 4, 3),
  (1658, .lconst 0, 1),
  (1659, .lcmp, 1),
  (1660, .ifCond .eq 5, 3),
  (1663, .iconst 0, 1),
  (1664, .ireturn, 1),
  (1665, .goto 1590, 3),
  (1668, .aload_n 1, 1),
  (1669, .invokevirtual 254, 3),
  (1672, .aload_n 2, 1),
  (1673, .invokevirtual 257, 3),
  (1676, .if_icmp .eq 1579, 3),
  (1679, .iconst 0, 1),
  (1680, .ireturn, 1),
  (1681, .aload_n 1, 1),
  (1682, .aload_n 0, 1),
  (1683, .iload 4, 2),
  (1685, .iconst 1, 1),
  (1686, .iadd, 1),
  (1687, .iaload, 1),
  (1688, .aload_n 3, 1),
  (1689, .invokestatic 258, 3)]
def tb_Zl_9 : List (Nat × Instr × Nat) := [(1692, .istore 5, 2),
  (1694, .aload_n 2, 1),
  (1695, .aload_n 0, 1),
  (1696, .iload 4, 2),
  (1698, .iconst 1, 1),
  (1699, .iadd, 1),
  (1700, .iaload, 1),
  (1701, .invokevirtual 260, 3),
  (1704, .istore 6, 2),
  (1706, .aload_n 2, 1),
  (1707, .invokevirtual 161, 3),
  (1710, .iload 5, 2),
  (1712, .if_icmp .eq 5, 3),
  (1715, .iconst 0, 1),
  (1716, .ireturn, 1),
  (1717, .iload 5, 2),
  (1719, .ifCond .ne 15, 3),
  (1722, .aload_n 3, 1),
  (1723, .iconst 0, 1),
  (1724, .laload, 1),
  (1725, .iload 6, 2),
  (1727, .i2l, 1),
  (1728, .lcmp, 1),
  (1729, .ifCond .eq 5, 3),
  (1732, .iconst 0, 1),
  (1733, .ireturn, 1),
  (1734, .goto 1521, 3),
  (1737, .aload_n 1, 1),
  (1738, .aload_n 0, 1),
  (1739, .iload 4, 2),
  (1741, .iconst 1, 1),
  (1742, .iadd, 1),
  (1743, .iaload, 1),
  (1744, .aload_n 0, 1),
  (1745, .iload 4, 2),
  (1747, .iconst 2, 1),
  (1748, .iadd, 1),
  (1749, .iaload, 1),
  (1750, .aload_n 3, 1),
  (1751, .invokestatic 261, 3),
  (1754, .istore 5, 2),
  (1756, .aload_n 2, 1),
  (1757, .aload_n 0, 1),
  (1758, .iload 4, 2),
  (1760, .iconst 1, 1),
  (1761, .iadd, 1),
  (1762, .iaload, 1),
  (1763, .aload_n 0, 1),
  (1764, .iload 4, 2),
  (1766, .iconst 2, 1),
  (1767, .iadd, 1),
  (1768, .iaload, 1),
  (1769, .invokevirtual 263, 3),
  (1772, .istore 6, 2),
  (1774, .aload_n 2, 1),
  (1775, .invokevirtual 161, 3),
  (1778, .iload 5, 2),
  (1780, .if_icmp .eq 5, 3),
  (1783, .iconst 0, 1),
  (1784, .ireturn, 1),
  (1785, .iload 5, 2),
  (1787, .ifCond .ne 22, 3),
  (1790, .aload_n 3, 1),
  (1791, .iconst 0, 1),
  (1792, .laload, 1),
  (1793, .iload 6, 2),
  (1795, .ifCond .eq 7, 3),
  (1798, .lconst 1, 1),
  (1799, .goto 4, 3),
  (1802, .lconst 0, 1),
  (1803, .lcmp, 1),
  (1804, .ifCond .eq 5, 3),
  (1807, .iconst 0, 1),
  (1808, .ireturn, 1),
  (1809, .goto 1446, 3),
  (1812, .aload_n 1, 1),
  (1813, .aload_n 0, 1),
  (1814, .iload 4, 2),
  (1816, .iconst 1, 1),
  (1817, .iadd, 1),
  (1818, .iaload, 1),
  (1819, .aload_n 3, 1),
  (1820, .invokestatic 264, 3),
  (1823, .istore 5, 2),
  (1825, .aload_n 2, 1),
  (1826, .aload_n 0, 1),
  (1827, .iload 4, 2),
  (1829, .iconst 1, 1),
  (1830, .iadd, 1),
  (1831, .iaload, 1),
  (1832, .invokevirtual 266, 3),
  (1835, .istore 6, 2),
  (1837, .aload_n 2, 1),
  (1838, .invokevirtual 161, 3),
  (1841, .iload 5, 2),
  (1843, .if_icmp .eq 5, 3),
  (1846, .iconst 0, 1),
  (1847, .ireturn, 1),
  (1848, .iload 5, 2),
  (1850, .ifCond .ne 15, 3)]
def tb_Zl_10 : List (Nat × Instr × Nat) := [(1853, .aload_n 3, 1),
  (1854, .iconst 0, 1),
  (1855, .laload, 1),
  (1856, .iload 6, 2),
  (1858, .i2l, 1),
  (1859, .lcmp, 1),
  (1860, .ifCond .eq 5, 3),
  (1863, .iconst 0, 1),
  (1864, .ireturn, 1),
  (1865, .goto 1390, 3),
  (1868, .aload_n 1, 1),
  (1869, .aload_n 0, 1),
  (1870, .iload 4, 2),
  (1872, .iconst 1, 1),
  (1873, .iadd, 1),
  (1874, .iaload, 1),
  (1875, .aload_n 0, 1),
  (1876, .iload 4, 2),
  (1878, .iconst 2, 1),
  (1879, .iadd, 1),
  (1880, .iaload, 1),
  (1881, .aload_n 3, 1),
  (1882, .invokestatic 267, 3),
  (1885, .istore 5, 2),
  (1887, .aload_n 2, 1),
  (1888, .aload_n 0, 1),
  (1889, .iload 4, 2),
  (1891, .iconst 1, 1),
  (1892, .iadd, 1),
  (1893, .iaload, 1),
  (1894, .aload_n 0, 1),
  (1895, .iload 4, 2),
  (1897, .iconst 2, 1),
  (1898, .iadd, 1),
  (1899, .iaload, 1),
  (1900, .invokevirtual 269, 3),
  (1903, .istore 6, 2),
  (1905, .aload_n 2, 1),
  (1906, .invokevirtual 161, 3),
  (1909, .iload 5, 2),
  (1911, .if_icmp .eq 5, 3),
  (1914, .iconst 0, 1),
  (1915, .ireturn, 1),
  (1916, .iload 5, 2),
  (1918, .ifCond .ne 15, 3),
  (1921, .aload_n 3, 1),
  (1922, .iconst 0, 1),
  (1923, .laload, 1),
  (1924, .iload 6, 2),
  (1926, .i2l, 1),
  (1927, .lcmp, 1),
  (1928, .ifCond .eq 5, 3),
  (1931, .iconst 0, 1),
  (1932, .ireturn, 1),
  (1933, .goto 1322, 3),
  (1936, .aload_n 1, 1),
  (1937, .invokevirtual 270, 3),
  (1940, .aload_n 2, 1),
  (1941, .invokevirtual 273, 3),
  (1944, .if_icmp .eq 1311, 3),
  (1947, .iconst 0, 1),
  (1948, .ireturn, 1),
  (1949, .aload_n 1, 1),
  (1950, .aload_n 0, 1),
  (1951, .iload 4, 2),
  (1953, .iconst 1, 1),
  (1954, .iadd, 1),
  (1955, .iaload, 1),
  (1956, .aload_n 3, 1),
  (1957, .invokestatic 274, 3),
  (1960, .istore 5, 2),
  (1962, .aload_n 2, 1),
  (1963, .aload_n 0, 1),
  (1964, .iload 4, 2),
  (1966, .iconst 1, 1),
  (1967, .iadd, 1),
  (1968, .iaload, 1),
  (1969, .invokevirtual 276, 3),
  (1972, .istore 6, 2),
  (1974, .aload_n 2, 1),
  (1975, .invokevirtual 161, 3),
  (1978, .iload 5, 2),
  (1980, .if_icmp .eq 5, 3),
  (1983, .iconst 0, 1),
  (1984, .ireturn, 1),
  (1985, .iload 5, 2),
  (1987, .ifCond .ne 15, 3),
  (1990, .aload_n 3, 1),
  (1991, .iconst 0, 1),
  (1992, .laload, 1),
  (1993, .iload 6, 2),
  (1995, .i2l, 1),
  (1996, .lcmp, 1),
  (1997, .ifCond .eq 5, 3),
  (2000, .iconst 0, 1),
  (2001, .ireturn, 1),
  (2002, .goto 1253, 3),
  (2005, .aload_n 1, 1),
  (2006, .aload_n 0, 1),
  (2007, .iload 4, 2)]
def tb_Zl_11 : List (Nat × Instr × Nat) := [(2009, .iconst 1, 1),
  (2010, .iadd, 1),
  (2011, .iaload, 1),
  (2012, .aload_n 3, 1),
  (2013, .invokestatic 277, 3),
  (2016, .istore 5, 2),
  (2018, .aload_n 2, 1),
  (2019, .aload_n 0, 1),
  (2020, .iload 4, 2),
  (2022, .iconst 1, 1),
  (2023, .iadd, 1),
  (2024, .iaload, 1),
  (2025, .invokevirtual 279, 3),
  (2028, .istore 6, 2),
  (2030, .aload_n 2, 1),
  (2031, .invokevirtual 161, 3),
  (2034, .iload 5, 2),
  (2036, .if_icmp .eq 5, 3),
  (2039, .iconst 0, 1),
  (2040, .ireturn, 1),
  (2041, .iload 5, 2),
  (2043, .ifCond .ne 15, 3),
  (2046, .aload_n 3, 1),
  (2047, .iconst 0, 1),
  (2048, .laload, 1),
  (2049, .iload 6, 2),
  (2051, .i2l, 1),
  (2052, .lcmp, 1),
  (2053, .ifCond .eq 5, 3),
  (2056, .iconst 0, 1),
  (2057, .ireturn, 1),
  (2058, .goto 1197, 3),
  (2061, .aload_n 1, 1),
  (2062, .aload_n 0, 1),
  (2063, .iload 4, 2),
  (2065, .iconst 1, 1),
  (2066, .iadd, 1),
  (2067, .iaload, 1),
  (2068, .aload_n 0, 1),
  (2069, .iload 4, 2),
  (2071, .iconst 2, 1),
  (2072, .iadd, 1),
  (2073, .iaload, 1),
  (2074, .aload_n 3, 1),
  (2075, .invokestatic 280, 3),
  (2078, .istore 5, 2),
  (2080, .aload_n 2, 1),
  (2081, .aload_n 0, 1),
  (2082, .iload 4, 2),
  (2084, .iconst 1, 1),
  (2085, .iadd, 1),
  (2086, .iaload, 1),
  (2087, .aload_n 0, 1),
  (2088, .iload 4, 2),
  (2090, .iconst 2, 1),
  (2091, .iadd, 1),
  (2092, .iaload, 1),
  (2093, .invokevirtual 282, 3),
  (2096, .istore 6, 2),
  (2098, .aload_n 2, 1),
  (2099, .invokevirtual 161, 3),
  (2102, .iload 5, 2),
  (2104, .if_icmp .eq 5, 3),
  (2107, .iconst 0, 1),
  (2108, .ireturn, 1),
  (2109, .iload 5, 2),
  (2111, .ifCond .ne 15, 3),
  (2114, .aload_n 3, 1),
  (2115, .iconst 0, 1),
  (2116, .laload, 1),
  (2117, .iload 6, 2),
  (2119, .i2l, 1),
  (2120, .lcmp, 1),
  (2121, .ifCond .eq 5, 3),
  (2124, .iconst 0, 1),
  (2125, .ireturn, 1),
  (2126, .goto 1129, 3),
  (2129, .aload_n 1, 1),
  (2130, .aload_n 0, 1),
  (2131, .iload 4, 2),
  (2133, .iconst 1, 1),
  (2134, .iadd, 1),
  (2135, .iaload, 1),
  (2136, .aload_n 3, 1),
  (2137, .invokestatic 283, 3),
  (2140, .istore 5, 2),
  (2142, .aload_n 2, 1),
  (2143, .aload_n 0, 1),
  (2144, .iload 4, 2),
  (2146, .iconst 1, 1),
  (2147, .iadd, 1),
  (2148, .iaload, 1),
  (2149, .invokevirtual 285, 3),
  (2152, .istore 6, 2),
  (2154, .aload_n 2, 1),
  (2155, .invokevirtual 161, 3),
  (2158, .iload 5, 2),
  (2160, .if_icmp .eq 5, 3),
  (2163, .iconst 0, 1),
  (2164, .ireturn, 1)]
def tb_Zl_12 : List (Nat × Instr × Nat) := [(2165, .iload 5, 2),
  (2167, .ifCond .ne 15, 3),
  (2170, .aload_n 3, 1),
  (2171, .iconst 0, 1),
  (2172, .laload, 1),
  (2173, .iload 6, 2),
  (2175, .i2l, 1),
  (2176, .lcmp, 1),
  (2177, .ifCond .eq 5, 3),
  (2180, .iconst 0, 1),
  (2181, .ireturn, 1),
  (2182, .goto 1073, 3),
  (2185, .aload_n 1, 1),
  (2186, .invokevirtual 286, 3),
  (2189, .aload_n 2, 1),
  (2190, .invokevirtual 289, 3),
  (2193, .if_icmp .eq 1062, 3),
  (2196, .iconst 0, 1),
  (2197, .ireturn, 1),
  (2198, .aload_n 1, 1),
  (2199, .aload_n 0, 1),
  (2200, .iload 4, 2),
  (2202, .iconst 1, 1),
  (2203, .iadd, 1),
  (2204, .iaload, 1),
  (2205, .aload_n 3, 1),
  (2206, .invokestatic 290, 3),
  (2209, .istore 5, 2),
  (2211, .aload_n 2, 1),
  (2212, .aload_n 0, 1),
  (2213, .iload 4, 2),
  (2215, .iconst 1, 1),
  (2216, .iadd, 1),
  (2217, .iaload, 1),
  (2218, .invokevirtual 292, 3),
  (2221, .istore 6, 2),
  (2223, .aload_n 2, 1),
  (2224, .invokevirtual 161, 3),
  (2227, .iload 5, 2),
  (2229, .if_icmp .eq 5, 3),
  (2232, .iconst 0, 1),
  (2233, .ireturn, 1),
  (2234, .iload 5, 2),
  (2236, .ifCond .ne 15, 3),
  (2239, .aload_n 3, 1),
  (2240, .iconst 0, 1),
  (2241, .laload, 1),
  (2242, .iload 6, 2),
  (2244, .i2l, 1),
  (2245, .lcmp, 1),
  (2246, .ifCond .eq 5, 3),
  (2249, .iconst 0, 1),
  (2250, .ireturn, 1),
  (2251, .goto 1004, 3),
  (2254, .aload_n 1, 1),
  (2255, .aload_n 0, 1),
  (2256, .iload 4, 2),
  (2258, .iconst 1, 1),
  (2259, .iadd, 1),
  (2260, .iaload, 1),
  (2261, .aload_n 3, 1),
  (2262, .invokestatic 293, 3),
  (2265, .istore 5, 2),
  (2267, .aload_n 2, 1),
  (2268, .aload_n 0, 1),
  (2269, .iload 4, 2),
  (2271, .iconst 1, 1),
  (2272, .iadd, 1),
  (2273, .iaload, 1),
  (2274, .invokevirtual 295, 3),
  (2277, .istore 6, 2),
  (2279, .aload_n 2, 1),
  (2280, .invokevirtual 161, 3),
  (2283, .iload 5, 2),
  (2285, .if_icmp .eq 5, 3),
  (2288, .iconst 0, 1),
  (2289, .ireturn, 1),
  (2290, .iload 5, 2),
  (2292, .ifCond .ne 22, 3),
  (2295, .aload_n 3, 1),
  (2296, .iconst 0, 1),
  (2297, .laload, 1),
  (2298, .iload 6, 2),
  (2300, .ifCond .eq 7, 3),
  (2303, .lconst 1, 1),
  (2304, .goto 4, 3),
  (2307, .lconst 0, 1),
  (2308, .lcmp, 1),
  (2309, .ifCond .eq 5, 3),
  (2312, .iconst 0, 1),
  (2313, .ireturn, 1),
  (2314, .goto 941, 3),
  (2317, .aload_n 1, 1),
  (2318, .aload_n 0, 1),
  (2319, .iload 4, 2),
  (2321, .iconst 1, 1),
  (2322, .iadd, 1),
  (2323, .iaload, 1),
  (2324, .aload_n 0, 1),
  (2325, .iload 4, 2)]
def tb_Zl_13 : List (Nat × Instr × Nat) := [(2327, .iconst 2, 1),
  (2328, .iadd, 1),
  (2329, .iaload, 1),
  (2330, .aload_n 3, 1),
  (2331, .invokestatic 296, 3),
  (2334, .istore 5, 2),
  (2336, .aload_n 2, 1),
  (2337, .aload_n 0, 1),
  (2338, .iload 4, 2),
  (2340, .iconst 1, 1),
  (2341, .iadd, 1),
  (2342, .iaload, 1),
  (2343, .aload_n 0, 1),
  (2344, .iload 4, 2),
  (2346, .iconst 2, 1),
  (2347, .iadd, 1),
  (2348, .iaload, 1),
  (2349, .invokevirtual 298, 3),
  (2352, .istore 6, 2),
  (2354, .aload_n 2, 1),
  (2355, .invokevirtual 161, 3),
  (2358, .iload 5, 2),
  (2360, .if_icmp .eq 5, 3),
  (2363, .iconst 0, 1),
  (2364, .ireturn, 1),
  (2365, .iload 5, 2),
  (2367, .ifCond .ne 15, 3),
  (2370, .aload_n 3, 1),
  (2371, .iconst 0, 1),
  (2372, .laload, 1),
  (2373, .iload 6, 2),
  (2375, .i2l, 1),
  (2376, .lcmp, 1),
  (2377, .ifCond .eq 5, 3),
  (2380, .iconst 0, 1),
  (2381, .ireturn, 1),
  (2382, .goto 873, 3),
  (2385, .aload_n 1, 1),
  (2386, .aload_n 0, 1),
  (2387, .iload 4, 2),
  (2389, .iconst 1, 1),
  (2390, .iadd, 1),
  (2391, .iaload, 1),
  (2392, .aload_n 3, 1),
  (2393, .invokestatic 299, 3),
  (2396, .istore 5, 2),
  (2398, .aload_n 2, 1),
  (2399, .aload_n 0, 1),
  (2400, .iload 4, 2),
  (2402, .iconst 1, 1),
  (2403, .iadd, 1),
  (2404, .iaload, 1),
  (2405, .invokevirtual 301, 3),
  (2408, .istore 6, 2),
  (2410, .aload_n 2, 1),
  (2411, .invokevirtual 161, 3),
  (2414, .iload 5, 2),
  (2416, .if_icmp .eq 5, 3),
  (2419, .iconst 0, 1),
  (2420, .ireturn, 1),
  (2421, .iload 5, 2),
  (2423, .ifCond .ne 15, 3),
  (2426, .aload_n 3, 1),
  (2427, .iconst 0, 1),
  (2428, .laload, 1),
  (2429, .iload 6, 2),
  (2431, .i2l, 1),
  (2432, .lcmp, 1),
  (2433, .ifCond .eq 5, 3),
  (2436, .iconst 0, 1),
  (2437, .ireturn, 1),
  (2438, .goto 817, 3),
  (2441, .aload_n 1, 1),
  (2442, .aload_n 0, 1),
  (2443, .iload 4, 2),
  (2445, .iconst 1, 1),
  (2446, .iadd, 1),
  (2447, .iaload, 1),
  (2448, .aload_n 0, 1),
  (2449, .iload 4, 2),
  (2451, .iconst 2, 1),
  (2452, .iadd, 1),
  (2453, .iaload, 1),
  (2454, .aload_n 3, 1),
  (2455, .invokestatic 302, 3),
  (2458, .istore 5, 2),
  (2460, .aload_n 2, 1),
  (2461, .aload_n 0, 1),
  (2462, .iload 4, 2),
  (2464, .iconst 1, 1),
  (2465, .iadd, 1),
  (2466, .iaload, 1),
  (2467, .aload_n 0, 1),
  (2468, .iload 4, 2),
  (2470, .iconst 2, 1),
  (2471, .iadd, 1),
  (2472, .iaload, 1),
  (2473, .invokevirtual 304, 3),
  (2476, .istore 6, 2),
  (2478, .aload_n 2, 1)]
def tb_Zl_14 : List (Nat × Instr × Nat) := [(2479, .invokevirtual 161, 3),
  (2482, .iload 5, 2),
  (2484, .if_icmp .eq 5, 3),
  (2487, .iconst 0, 1),
  (2488, .ireturn, 1),
  (2489, .iload 5, 2),
  (2491, .ifCond .ne 15, 3),
  (2494, .aload_n 3, 1),
  (2495, .iconst 0, 1),
  (2496, .laload, 1),
  (2497, .iload 6, 2),
  (2499, .i2l, 1),
  (2500, .lcmp, 1),
  (2501, .ifCond .eq 5, 3),
  (2504, .iconst 0, 1),
  (2505, .ireturn, 1),
  (2506, .goto 749, 3),
  (2509, .aload_n 1, 1),
  (2510, .invokevirtual 305, 3),
  (2513, .aload_n 2, 1),
  (2514, .invokevirtual 308, 3),
  (2517, .if_icmp .eq 738, 3),
  (2520, .iconst 0, 1),
  (2521, .ireturn, 1),
  (2522, .aload_n 1, 1),
  (2523, .invokevirtual 309, 3),
  (2526, .f2d, 1),
  (2527, .dstore 5, 2),
  (2529, .aload_n 2, 1),
  (2530, .invokevirtual 313, 3),
  (2533, .f2d, 1),
  (2534, .dstore 7, 2),
  (2536, .dload 5, 2),
  (2538, .dload 7, 2),
  (2540, .dcmp .l, 1),
  (2541, .ifCond .eq 21, 3),
  (2544, .dload 5, 2),
  (2546, .dload 5, 2),
  (2548, .dcmp .l, 1),
  (2549, .ifCond .eq 11, 3),
  (2552, .dload 7, 2),
  (2554, .dload 7, 2),
  (2556, .dcmp .l, 1),
  (2557, .ifCond .ne 5, 3),
  (2560, .iconst 0, 1),
  (2561, .ireturn, 1),
  (2562, .goto 693, 3),
  (2565, .aload_n 1, 1),
  (2566, .invokevirtual 314, 3),
  (2569, .dstore 5, 2),
  (2571, .aload_n 2, 1),
  (2572, .invokevirtual 318, 3),
  (2575, .dstore 7, 2),
  (2577, .dload 5, 2),
  (2579, .dload 7, 2),
  (2581, .dcmp .l, 1),
  (2582, .ifCond .eq 21, 3),
  (2585, .dload 5, 2),
  (2587, .dload 5, 2),
  (2589, .dcmp .l, 1),
  (2590, .ifCond .eq 11, 3),
  (2593, .dload 7, 2),
  (2595, .dload 7, 2),
  (2597, .dcmp .l, 1),
  (2598, .ifCond .ne 5, 3),
  (2601, .iconst 0, 1),
  (2602, .ireturn, 1),
  (2603, .goto 652, 3),
  (2606, .aload_n 1, 1),
  (2607, .aload_n 0, 1),
  (2608, .iload 4, 2),
  (2610, .iconst 1, 1),
  (2611, .iadd, 1),
  (2612, .iaload, 1),
  (2613, .aload_n 0, 1),
  (2614, .iload 4, 2),
  (2616, .iconst 2, 1),
  (2617, .iadd, 1),
  (2618, .iaload, 1),
  (2619, .aload_n 0, 1),
  (2620, .iload 4, 2),
  (2622, .iconst 3, 1),
  (2623, .iadd, 1),
  (2624, .iaload, 1),
  (2625, .aload_n 0, 1),
  (2626, .iload 4, 2),
  (2628, .iconst 4, 1),
  (2629, .iadd, 1),
  (2630, .iaload, 1),
  (2631, .aload_n 3, 1),
  (2632, .invokestatic 319, 3),
  (2635, .istore 5, 2),
  (2637, .aload_n 2, 1),
  (2638, .aload_n 0, 1),
  (2639, .iload 4, 2),
  (2641, .iconst 1, 1),
  (2642, .iadd, 1),
  (2643, .iaload, 1),
  (2644, .aload_n 0, 1),
  (2645, .iload 4, 2)]
def tb_Zl_15 : List (Nat × Instr × Nat) := [(2647, .iconst 2, 1),
  (2648, .iadd, 1),
  (2649, .iaload, 1),
  (2650, .aload_n 0, 1),
  (2651, .iload 4, 2),
  (2653, .iconst 3, 1),
  (2654, .iadd, 1),
  (2655, .iaload, 1),
  (2656, .aload_n 0, 1),
  (2657, .iload 4, 2),
  (2659, .iconst 4, 1),
  (2660, .iadd, 1),
  (2661, .iaload, 1),
  (2662, .invokevirtual 322, 3),
  (2665, .istore 6, 2),
  (2667, .aload_n 2, 1),
  (2668, .invokevirtual 161, 3),
  (2671, .iload 5, 2),
  (2673, .if_icmp .eq 5, 3),
  (2676, .iconst 0, 1),
  (2677, .ireturn, 1),
  (2678, .iload 5, 2),
  (2680, .ifCond .ne 15, 3),
  (2683, .aload_n 3, 1),
  (2684, .iconst 0, 1),
  (2685, .laload, 1),
  (2686, .iload 6, 2),
  (2688, .i2l, 1),
  (2689, .lcmp, 1),
  (2690, .ifCond .eq 5, 3),
  (2693, .iconst 0, 1),
  (2694, .ireturn, 1),
  (2695, .goto 560, 3),
  (2698, .aload_n 1, 1),
  (2699, .aload_n 0, 1),
  (2700, .iload 4, 2),
  (2702, .iconst 1, 1),
  (2703, .iadd, 1),
  (2704, .iaload, 1),
  (2705, .aload_n 0, 1),
  (2706, .iload 4, 2),
  (2708, .iconst 2, 1),
  (2709, .iadd, 1),
  (2710, .iaload, 1),
  (2711, .aload_n 0, 1),
  (2712, .iload 4, 2),
  (2714, .iconst 3, 1),
  (2715, .iadd, 1),
  (2716, .iaload, 1),
  (2717, .aload_n 0, 1),
  (2718, .iload 4, 2),
  (2720, .iconst 4, 1),
  (2721, .iadd, 1),
  (2722, .iaload, 1),
  (2723, .aload_n 0, 1),
  (2724, .iload 4, 2),
  (2726, .iconst 5, 1),
  (2727, .iadd, 1),
  (2728, .iaload, 1),
  (2729, .aload_n 0, 1),
  (2730, .iload 4, 2),
  (2732, .bipush 6, 2),
  (2734, .iadd, 1),
  (2735, .iaload, 1),
  (2736, .aload_n 3, 1),
  (2737, .invokestatic 323, 3),
  (2740, .istore 5, 2),
  (2742, .aload_n 2, 1),
  (2743, .aload_n 0, 1),
  (2744, .iload 4, 2),
  (2746, .iconst 1, 1),
  (2747, .iadd, 1),
  (2748, .iaload, 1),
  (2749, .aload_n 0, 1),
  (2750, .iload 4, 2),
  (2752, .iconst 2, 1),
  (2753, .iadd, 1),
  (2754, .iaload, 1),
  (2755, .aload_n 0, 1),
  (2756, .iload 4, 2),
  (2758, .iconst 3, 1),
  (2759, .iadd, 1),
  (2760, .iaload, 1),
  (2761, .aload_n 0, 1),
  (2762, .iload 4, 2),
  (2764, .iconst 4, 1),
  (2765, .iadd, 1),
  (2766, .iaload, 1),
  (2767, .aload_n 0, 1),
  (2768, .iload 4, 2),
  (2770, .iconst 5, 1),
  (2771, .iadd, 1),
  (2772, .iaload, 1),
  (2773, .aload_n 0, 1),
  (2774, .iload 4, 2),
  (2776, .bipush 6, 2),
  (2778, .iadd, 1),
  (2779, .iaload, 1),
  (2780, .invokevirtual 326, 3),
  (2783, .istore 6, 2)]
def tb_Zl_16 : List (Nat × Instr × Nat) := [(2785, .aload_n 2, 1),
  (2786, .invokevirtual 161, 3),
  (2789, .iload 5, 2),
  (2791, .if_icmp .eq 5, 3),
  (2794, .iconst 0, 1),
  (2795, .ireturn, 1),
  (2796, .iload 5, 2),
  (2798, .ifCond .ne 15, 3),
  (2801, .aload_n 3, 1),
  (2802, .iconst 0, 1),
  (2803, .laload, 1),
  (2804, .iload 6, 2),
  (2806, .i2l, 1),
  (2807, .lcmp, 1),
  (2808, .ifCond .eq 5, 3),
  (2811, .iconst 0, 1),
  (2812, .ireturn, 1),
  (2813, .goto 442, 3),
  (2816, .aload_n 1, 1),
  (2817, .aload_n 0, 1),
  (2818, .iload 4, 2),
  (2820, .iconst 1, 1),
  (2821, .iadd, 1),
  (2822, .iaload, 1),
  (2823, .aload_n 3, 1),
  (2824, .invokestatic 327, 3),
  (2827, .istore 5, 2),
  (2829, .aload_n 2, 1),
  (2830, .aload_n 0, 1),
  (2831, .iload 4, 2),
  (2833, .iconst 1, 1),
  (2834, .iadd, 1),
  (2835, .iaload, 1),
  (2836, .invokevirtual 329, 3),
  (2839, .istore 6, 2),
  (2841, .aload_n 2, 1),
  (2842, .invokevirtual 161, 3),
  (2845, .iload 5, 2),
  (2847, .if_icmp .eq 5, 3),
  (2850, .iconst 0, 1),
  (2851, .ireturn, 1),
  (2852, .iload 5, 2),
  (2854, .ifCond .ne 15, 3),
  (2857, .aload_n 3, 1),
  (2858, .iconst 0, 1),
  (2859, .laload, 1),
  (2860, .iload 6, 2),
  (2862, .i2l, 1),
  (2863, .lcmp, 1),
  (2864, .ifCond .eq 5, 3),
  (2867, .iconst 0, 1),
  (2868, .ireturn, 1),
  (2869, .goto 386, 3),
  (2872, .aload_n 1, 1),
  (2873, .aload_n 0, 1),
  (2874, .iload 4, 2),
  (2876, .iconst 1, 1),
  (2877, .iadd, 1),
  (2878, .iaload, 1),
  (2879, .aload_n 0, 1),
  (2880, .iload 4, 2),
  (2882, .iconst 2, 1),
  (2883, .iadd, 1),
  (2884, .iaload, 1),
  (2885, .aload_n 3, 1),
  (2886, .invokestatic 330, 3),
  (2889, .istore 5, 2),
  (2891, .aload_n 2, 1),
  (2892, .aload_n 0, 1),
  (2893, .iload 4, 2),
  (2895, .iconst 1, 1),
  (2896, .iadd, 1),
  (2897, .iaload, 1),
  (2898, .aload_n 0, 1),
  (2899, .iload 4, 2),
  (2901, .iconst 2, 1),
  (2902, .iadd, 1),
  (2903, .iaload, 1),
  (2904, .invokevirtual 332, 3),
  (2907, .istore 6, 2),
  (2909, .aload_n 2, 1),
  (2910, .invokevirtual 161, 3),
  (2913, .iload 5, 2),
  (2915, .if_icmp .eq 5, 3),
  (2918, .iconst 0, 1),
  (2919, .ireturn, 1),
  (2920, .iload 5, 2),
  (2922, .ifCond .ne 15, 3),
  (2925, .aload_n 3, 1),
  (2926, .iconst 0, 1),
  (2927, .laload, 1),
  (2928, .iload 6, 2),
  (2930, .i2l, 1),
  (2931, .lcmp, 1),
  (2932, .ifCond .eq 5, 3),
  (2935, .iconst 0, 1),
  (2936, .ireturn, 1),
  (2937, .goto 318, 3),
  (2940, .aload_n 1, 1),
  (2941, .aload_n 0, 1)]
def tb_Zl_17 : List (Nat × Instr × Nat) := [(2942, .iload 4, 2),
  (2944, .iconst 1, 1),
  (2945, .iadd, 1),
  (2946, .iaload, 1),
  (2947, .aload_n 0, 1),
  (2948, .iload 4, 2),
  (2950, .iconst 2, 1),
  (2951, .iadd, 1),
  (2952, .iaload, 1),
  (2953, .aload_n 0, 1),
  (2954, .iload 4, 2),
  (2956, .iconst 3, 1),
  (2957, .iadd, 1),
  (2958, .iaload, 1),
  (2959, .aload_n 0, 1),
  (2960, .iload 4, 2),
  (2962, .iconst 4, 1),
  (2963, .iadd, 1),
  (2964, .iaload, 1),
  (2965, .aload_n 3, 1),
  (2966, .invokestatic 333, 3),
  (2969, .istore 5, 2),
  (2971, .aload_n 2, 1),
  (2972, .aload_n 0, 1),
  (2973, .iload 4, 2),
  (2975, .iconst 1, 1),
  (2976, .iadd, 1),
  (2977, .iaload, 1),
  (2978, .aload_n 0, 1),
  (2979, .iload 4, 2),
  (2981, .iconst 2, 1),
  (2982, .iadd, 1),
  (2983, .iaload, 1),
  (2984, .aload_n 0, 1),
  (2985, .iload 4, 2),
  (2987, .iconst 3, 1),
  (2988, .iadd, 1),
  (2989, .iaload, 1),
  (2990, .aload_n 0, 1),
  (2991, .iload 4, 2),
  (2993, .iconst 4, 1),
  (2994, .iadd, 1),
  (2995, .iaload, 1),
  (2996, .invokevirtual 335, 3),
  (2999, .istore 6, 2),
  (3001, .aload_n 2, 1),
  (3002, .invokevirtual 161, 3),
  (3005, .iload 5, 2),
  (3007, .if_icmp .eq 5, 3),
  (3010, .iconst 0, 1),
  (3011, .ireturn, 1),
  (3012, .iload 5, 2),
  (3014, .ifCond .ne 15, 3),
  (3017, .aload_n 3, 1),
  (3018, .iconst 0, 1),
  (3019, .laload, 1),
  (3020, .iload 6, 2),
  (3022, .i2l, 1),
  (3023, .lcmp, 1),
  (3024, .ifCond .eq 5, 3),
  (3027, .iconst 0, 1),
  (3028, .ireturn, 1),
  (3029, .goto 226, 3),
  (3032, .aload_n 1, 1),
  (3033, .invokevirtual 336, 3),
  (3036, .aload_n 2, 1),
  (3037, .invokevirtual 339, 3),
  (3040, .if_icmp .eq 215, 3),
  (3043, .iconst 0, 1),
  (3044, .ireturn, 1),
  (3045, .aload_n 1, 1),
  (3046, .invokevirtual 340, 3),
  (3049, .aload_n 2, 1),
  (3050, .invokevirtual 343, 3),
  (3053, .if_icmp .eq 202, 3),
  (3056, .iconst 0, 1),
  (3057, .ireturn, 1),
  (3058, .aload_n 1, 1),
  (3059, .aload_n 0, 1),
  (3060, .iload 4, 2),
  (3062, .iconst 1, 1),
  (3063, .iadd, 1),
  (3064, .iaload, 1),
  (3065, .aload_n 3, 1),
  (3066, .invokestatic 344, 3),
  (3069, .istore 5, 2),
  (3071, .aload_n 2, 1),
  (3072, .aload_n 0, 1),
  (3073, .iload 4, 2),
  (3075, .iconst 1, 1),
  (3076, .iadd, 1),
  (3077, .iaload, 1),
  (3078, .invokevirtual 346, 3),
  (3081, .istore 6, 2),
  (3083, .aload_n 2, 1),
  (3084, .invokevirtual 161, 3),
  (3087, .iload 5, 2),
  (3089, .if_icmp .eq 5, 3),
  (3092, .iconst 0, 1),
  (3093, .ireturn, 1)]
def tb_Zl_18 : List (Nat × Instr × Nat) := [(3094, .iload 5, 2),
  (3096, .ifCond .ne 15, 3),
  (3099, .aload_n 3, 1),
  (3100, .iconst 0, 1),
  (3101, .laload, 1),
  (3102, .iload 6, 2),
  (3104, .i2l, 1),
  (3105, .lcmp, 1),
  (3106, .ifCond .eq 5, 3),
  (3109, .iconst 0, 1),
  (3110, .ireturn, 1),
  (3111, .goto 144, 3),
  (3114, .aload_n 1, 1),
  (3115, .aload_n 0, 1),
  (3116, .iload 4, 2),
  (3118, .iconst 1, 1),
  (3119, .iadd, 1),
  (3120, .iaload, 1),
  (3121, .invokevirtual 347, 3),
  (3124, .aload_n 2, 1),
  (3125, .aload_n 0, 1),
  (3126, .iload 4, 2),
  (3128, .iconst 1, 1),
  (3129, .iadd, 1),
  (3130, .iaload, 1),
  (3131, .invokevirtual 350, 3),
  (3134, .if_icmp .eq 121, 3),
  (3137, .iconst 0, 1),
  (3138, .ireturn, 1),
  (3139, .aload_n 1, 1),
  (3140, .aload_n 3, 1),
  (3141, .invokestatic 351, 3),
  (3144, .istore 5, 2),
  (3146, .aload_n 2, 1),
  (3147, .invokevirtual 354, 3),
  (3150, .istore 6, 2),
  (3152, .aload_n 2, 1),
  (3153, .invokevirtual 161, 3),
  (3156, .iload 5, 2),
  (3158, .if_icmp .eq 5, 3),
  (3161, .iconst 0, 1),
  (3162, .ireturn, 1),
  (3163, .iload 5, 2),
  (3165, .ifCond .ne 15, 3),
  (3168, .aload_n 3, 1),
  (3169, .iconst 0, 1),
  (3170, .laload, 1),
  (3171, .iload 6, 2),
  (3173, .i2l, 1),
  (3174, .lcmp, 1),
  (3175, .ifCond .eq 5, 3),
  (3178, .iconst 0, 1),
  (3179, .ireturn, 1),
  (3180, .goto 75, 3),
  (3183, .aload_n 1, 1),
  (3184, .aload_n 0, 1),
  (3185, .iload 4, 2),
  (3187, .iconst 1, 1),
  (3188, .iadd, 1),
  (3189, .iaload, 1),
  (3190, .invokestatic 355, 3),
  (3193, .istore 5, 2),
  (3195, .aload_n 2, 1),
  (3196, .aload_n 0, 1),
  (3197, .iload 4, 2),
  (3199, .iconst 1, 1),
  (3200, .iadd, 1),
  (3201, .iaload, 1),
  (3202, .invokevirtual 358, 3),
  (3205, .aload_n 2, 1),
  (3206, .invokevirtual 161, 3),
  (3209, .iload 5, 2),
  (3211, .if_icmp .eq 5, 3),
  (3214, .iconst 0, 1),
  (3215, .ireturn, 1),
  (3216, .goto 39, 3),
  (3219, .aload_n 1, 1),
  (3220, .aload_n 0, 1),
  (3221, .iload 4, 2),
  (3223, .iconst 1, 1),
  (3224, .iadd, 1),
  (3225, .iaload, 1),
  (3226, .invokestatic 359, 3),
  (3229, .istore 5, 2),
  (3231, .aload_n 2, 1),
  (3232, .aload_n 0, 1),
  (3233, .iload 4, 2),
  (3235, .iconst 1, 1),
  (3236, .iadd, 1),
  (3237, .iaload, 1),
  (3238, .invokevirtual 361, 3),
  (3241, .aload_n 2, 1),
  (3242, .invokevirtual 161, 3),
  (3245, .iload 5, 2),
  (3247, .if_icmp .eq 5, 3),
  (3250, .iconst 0, 1),
  (3251, .ireturn, 1),
  (3252, .goto 3, 3),
  (3255, .iinc 4 7, 3),
  (3258, .goto (-3235), 3)]
def tb_Zl_19 : List (Nat × Instr × Nat) := [(3261, .iconst 1, 1),
  (3262, .ireturn, 1)]
def tb_Z_law : List (Nat × Instr × Nat) := tb_Zl_0 ++ (tb_Zl_1 ++ (tb_Zl_2 ++ (tb_Zl_3 ++ (tb_Zl_4 ++ (tb_Zl_5 ++ (tb_Zl_6 ++ (tb_Zl_7 ++ (tb_Zl_8 ++ (tb_Zl_9 ++ (tb_Zl_10 ++ (tb_Zl_11 ++ (tb_Zl_12 ++ (tb_Zl_13 ++ (tb_Zl_14 ++ (tb_Zl_15 ++ (tb_Zl_16 ++ (tb_Zl_17 ++ (tb_Zl_18 ++ (tb_Zl_19)))))))))))))))))))
def mi_Z_law : mi_T := ("DataflowLabLaw", ({ cls := "DataflowLabLaw", name := "law", desc := "([I)Z" } : MethodName), code, 9, (some .boolean), [], tb_Z_law)
theorem mo_Zl_0 : ∀ q ∈ tb_Zl_0, decode code q.1 = .ok q.2 := by decide +kernel
theorem mo_Zl_1 : ∀ q ∈ tb_Zl_1, decode code q.1 = .ok q.2 := by decide +kernel
theorem mo_Zl_2 : ∀ q ∈ tb_Zl_2, decode code q.1 = .ok q.2 := by decide +kernel
theorem mo_Zl_3 : ∀ q ∈ tb_Zl_3, decode code q.1 = .ok q.2 := by decide +kernel
theorem mo_Zl_4 : ∀ q ∈ tb_Zl_4, decode code q.1 = .ok q.2 := by decide +kernel
theorem mo_Zl_5 : ∀ q ∈ tb_Zl_5, decode code q.1 = .ok q.2 := by decide +kernel
theorem mo_Zl_6 : ∀ q ∈ tb_Zl_6, decode code q.1 = .ok q.2 := by decide +kernel
theorem mo_Zl_7 : ∀ q ∈ tb_Zl_7, decode code q.1 = .ok q.2 := by decide +kernel
theorem mo_Zl_8 : ∀ q ∈ tb_Zl_8, decode code q.1 = .ok q.2 := by decide +kernel
theorem mo_Zl_9 : ∀ q ∈ tb_Zl_9, decode code q.1 = .ok q.2 := by decide +kernel
theorem mo_Zl_10 : ∀ q ∈ tb_Zl_10, decode code q.1 = .ok q.2 := by decide +kernel
theorem mo_Zl_11 : ∀ q ∈ tb_Zl_11, decode code q.1 = .ok q.2 := by decide +kernel
theorem mo_Zl_12 : ∀ q ∈ tb_Zl_12, decode code q.1 = .ok q.2 := by decide +kernel
theorem mo_Zl_13 : ∀ q ∈ tb_Zl_13, decode code q.1 = .ok q.2 := by decide +kernel
theorem mo_Zl_14 : ∀ q ∈ tb_Zl_14, decode code q.1 = .ok q.2 := by decide +kernel
theorem mo_Zl_15 : ∀ q ∈ tb_Zl_15, decode code q.1 = .ok q.2 := by decide +kernel
theorem mo_Zl_16 : ∀ q ∈ tb_Zl_16, decode code q.1 = .ok q.2 := by decide +kernel
theorem mo_Zl_17 : ∀ q ∈ tb_Zl_17, decode code q.1 = .ok q.2 := by decide +kernel
theorem mo_Zl_18 : ∀ q ∈ tb_Zl_18, decode code q.1 = .ok q.2 := by decide +kernel
theorem mo_Zl_19 : ∀ q ∈ tb_Zl_19, decode code q.1 = .ok q.2 := by decide +kernel
theorem mo_Z_law : mi_ok mi_Z_law := by
  show ∀ q ∈ tb_Z_law, decode code q.1 = .ok q.2
  exact List.forall_mem_append.mpr ⟨mo_Zl_0, List.forall_mem_append.mpr ⟨mo_Zl_1, List.forall_mem_append.mpr ⟨mo_Zl_2, List.forall_mem_append.mpr ⟨mo_Zl_3, List.forall_mem_append.mpr ⟨mo_Zl_4, List.forall_mem_append.mpr ⟨mo_Zl_5, List.forall_mem_append.mpr ⟨mo_Zl_6, List.forall_mem_append.mpr ⟨mo_Zl_7, List.forall_mem_append.mpr ⟨mo_Zl_8, List.forall_mem_append.mpr ⟨mo_Zl_9, List.forall_mem_append.mpr ⟨mo_Zl_10, List.forall_mem_append.mpr ⟨mo_Zl_11, List.forall_mem_append.mpr ⟨mo_Zl_12, List.forall_mem_append.mpr ⟨mo_Zl_13, List.forall_mem_append.mpr ⟨mo_Zl_14, List.forall_mem_append.mpr ⟨mo_Zl_15, List.forall_mem_append.mpr ⟨mo_Zl_16, List.forall_mem_append.mpr ⟨mo_Zl_17, List.forall_mem_append.mpr ⟨mo_Zl_18, mo_Zl_19⟩⟩⟩⟩⟩⟩⟩⟩⟩⟩⟩⟩⟩⟩⟩⟩⟩⟩⟩
theorem tz_0 {q : Nat × Instr × Nat} (j : Nat) (h : tb_Zl_0[j]? = some q) : (mi_tb mi_Z_law)[0 + j]? = some q := by
  show tb_Z_law[0 + j]? = some q
  unfold tb_Z_law
  rw [Nat.zero_add]
  rw [List.getElem?_append_left (List.getElem?_eq_some_iff.mp h).1]
  exact h
theorem tz_1 {q : Nat × Instr × Nat} (j : Nat) (h : tb_Zl_1[j]? = some q) : (mi_tb mi_Z_law)[100 + j]? = some q := by
  show tb_Z_law[100 + j]? = some q
  unfold tb_Z_law
  rw [List.getElem?_append_right (by show tb_Zl_0.length ≤ _; rw [show tb_Zl_0.length = 100 from rfl]; omega), show tb_Zl_0.length = 100 from rfl, show 100 + j - 100 = 0 + j by omega]
  rw [Nat.zero_add]
  rw [List.getElem?_append_left (List.getElem?_eq_some_iff.mp h).1]
  exact h
theorem tz_2 {q : Nat × Instr × Nat} (j : Nat) (h : tb_Zl_2[j]? = some q) : (mi_tb mi_Z_law)[200 + j]? = some q := by
  show tb_Z_law[200 + j]? = some q
  unfold tb_Z_law
  rw [List.getElem?_append_right (by show tb_Zl_0.length ≤ _; rw [show tb_Zl_0.length = 100 from rfl]; omega), show tb_Zl_0.length = 100 from rfl, show 200 + j - 100 = 100 + j by omega]
  rw [List.getElem?_append_right (by show tb_Zl_1.length ≤ _; rw [show tb_Zl_1.length = 100 from rfl]; omega), show tb_Zl_1.length = 100 from rfl, show 100 + j - 100 = 0 + j by omega]
  rw [Nat.zero_add]
  rw [List.getElem?_append_left (List.getElem?_eq_some_iff.mp h).1]
  exact h
theorem tz_3 {q : Nat × Instr × Nat} (j : Nat) (h : tb_Zl_3[j]? = some q) : (mi_tb mi_Z_law)[300 + j]? = some q := by
  show tb_Z_law[300 + j]? = some q
  unfold tb_Z_law
  rw [List.getElem?_append_right (by show tb_Zl_0.length ≤ _; rw [show tb_Zl_0.length = 100 from rfl]; omega), show tb_Zl_0.length = 100 from rfl, show 300 + j - 100 = 200 + j by omega]
  rw [List.getElem?_append_right (by show tb_Zl_1.length ≤ _; rw [show tb_Zl_1.length = 100 from rfl]; omega), show tb_Zl_1.length = 100 from rfl, show 200 + j - 100 = 100 + j by omega]
  rw [List.getElem?_append_right (by show tb_Zl_2.length ≤ _; rw [show tb_Zl_2.length = 100 from rfl]; omega), show tb_Zl_2.length = 100 from rfl, show 100 + j - 100 = 0 + j by omega]
  rw [Nat.zero_add]
  rw [List.getElem?_append_left (List.getElem?_eq_some_iff.mp h).1]
  exact h
theorem tz_4 {q : Nat × Instr × Nat} (j : Nat) (h : tb_Zl_4[j]? = some q) : (mi_tb mi_Z_law)[400 + j]? = some q := by
  show tb_Z_law[400 + j]? = some q
  unfold tb_Z_law
  rw [List.getElem?_append_right (by show tb_Zl_0.length ≤ _; rw [show tb_Zl_0.length = 100 from rfl]; omega), show tb_Zl_0.length = 100 from rfl, show 400 + j - 100 = 300 + j by omega]
  rw [List.getElem?_append_right (by show tb_Zl_1.length ≤ _; rw [show tb_Zl_1.length = 100 from rfl]; omega), show tb_Zl_1.length = 100 from rfl, show 300 + j - 100 = 200 + j by omega]
  rw [List.getElem?_append_right (by show tb_Zl_2.length ≤ _; rw [show tb_Zl_2.length = 100 from rfl]; omega), show tb_Zl_2.length = 100 from rfl, show 200 + j - 100 = 100 + j by omega]
  rw [List.getElem?_append_right (by show tb_Zl_3.length ≤ _; rw [show tb_Zl_3.length = 100 from rfl]; omega), show tb_Zl_3.length = 100 from rfl, show 100 + j - 100 = 0 + j by omega]
  rw [Nat.zero_add]
  rw [List.getElem?_append_left (List.getElem?_eq_some_iff.mp h).1]
  exact h
theorem tz_5 {q : Nat × Instr × Nat} (j : Nat) (h : tb_Zl_5[j]? = some q) : (mi_tb mi_Z_law)[500 + j]? = some q := by
  show tb_Z_law[500 + j]? = some q
  unfold tb_Z_law
  rw [List.getElem?_append_right (by show tb_Zl_0.length ≤ _; rw [show tb_Zl_0.length = 100 from rfl]; omega), show tb_Zl_0.length = 100 from rfl, show 500 + j - 100 = 400 + j by omega]
  rw [List.getElem?_append_right (by show tb_Zl_1.length ≤ _; rw [show tb_Zl_1.length = 100 from rfl]; omega), show tb_Zl_1.length = 100 from rfl, show 400 + j - 100 = 300 + j by omega]
  rw [List.getElem?_append_right (by show tb_Zl_2.length ≤ _; rw [show tb_Zl_2.length = 100 from rfl]; omega), show tb_Zl_2.length = 100 from rfl, show 300 + j - 100 = 200 + j by omega]
  rw [List.getElem?_append_right (by show tb_Zl_3.length ≤ _; rw [show tb_Zl_3.length = 100 from rfl]; omega), show tb_Zl_3.length = 100 from rfl, show 200 + j - 100 = 100 + j by omega]
  rw [List.getElem?_append_right (by show tb_Zl_4.length ≤ _; rw [show tb_Zl_4.length = 100 from rfl]; omega), show tb_Zl_4.length = 100 from rfl, show 100 + j - 100 = 0 + j by omega]
  rw [Nat.zero_add]
  rw [List.getElem?_append_left (List.getElem?_eq_some_iff.mp h).1]
  exact h
theorem tz_6 {q : Nat × Instr × Nat} (j : Nat) (h : tb_Zl_6[j]? = some q) : (mi_tb mi_Z_law)[600 + j]? = some q := by
  show tb_Z_law[600 + j]? = some q
  unfold tb_Z_law
  rw [List.getElem?_append_right (by show tb_Zl_0.length ≤ _; rw [show tb_Zl_0.length = 100 from rfl]; omega), show tb_Zl_0.length = 100 from rfl, show 600 + j - 100 = 500 + j by omega]
  rw [List.getElem?_append_right (by show tb_Zl_1.length ≤ _; rw [show tb_Zl_1.length = 100 from rfl]; omega), show tb_Zl_1.length = 100 from rfl, show 500 + j - 100 = 400 + j by omega]
  rw [List.getElem?_append_right (by show tb_Zl_2.length ≤ _; rw [show tb_Zl_2.length = 100 from rfl]; omega), show tb_Zl_2.length = 100 from rfl, show 400 + j - 100 = 300 + j by omega]
  rw [List.getElem?_append_right (by show tb_Zl_3.length ≤ _; rw [show tb_Zl_3.length = 100 from rfl]; omega), show tb_Zl_3.length = 100 from rfl, show 300 + j - 100 = 200 + j by omega]
  rw [List.getElem?_append_right (by show tb_Zl_4.length ≤ _; rw [show tb_Zl_4.length = 100 from rfl]; omega), show tb_Zl_4.length = 100 from rfl, show 200 + j - 100 = 100 + j by omega]
  rw [List.getElem?_append_right (by show tb_Zl_5.length ≤ _; rw [show tb_Zl_5.length = 100 from rfl]; omega), show tb_Zl_5.length = 100 from rfl, show 100 + j - 100 = 0 + j by omega]
  rw [Nat.zero_add]
  rw [List.getElem?_append_left (List.getElem?_eq_some_iff.mp h).1]
  exact h
theorem tz_7 {q : Nat × Instr × Nat} (j : Nat) (h : tb_Zl_7[j]? = some q) : (mi_tb mi_Z_law)[700 + j]? = some q := by
  show tb_Z_law[700 + j]? = some q
  unfold tb_Z_law
  rw [List.getElem?_append_right (by show tb_Zl_0.length ≤ _; rw [show tb_Zl_0.length = 100 from rfl]; omega), show tb_Zl_0.length = 100 from rfl, show 700 + j - 100 = 600 + j by omega]
  rw [List.getElem?_append_right (by show tb_Zl_1.length ≤ _; rw [show tb_Zl_1.length = 100 from rfl]; omega), show tb_Zl_1.length = 100 from rfl, show 600 + j - 100 = 500 + j by omega]
  rw [List.getElem?_append_right (by show tb_Zl_2.length ≤ _; rw [show tb_Zl_2.length = 100 from rfl]; omega), show tb_Zl_2.length = 100 from rfl, show 500 + j - 100 = 400 + j by omega]
  rw [List.getElem?_append_right (by show tb_Zl_3.length ≤ _; rw [show tb_Zl_3.length = 100 from rfl]; omega), show tb_Zl_3.length = 100 from rfl, show 400 + j - 100 = 300 + j by omega]
  rw [List.getElem?_append_right (by show tb_Zl_4.length ≤ _; rw [show tb_Zl_4.length = 100 from rfl]; omega), show tb_Zl_4.length = 100 from rfl, show 300 + j - 100 = 200 + j by omega]
  rw [List.getElem?_append_right (by show tb_Zl_5.length ≤ _; rw [show tb_Zl_5.length = 100 from rfl]; omega), show tb_Zl_5.length = 100 from rfl, show 200 + j - 100 = 100 + j by omega]
  rw [List.getElem?_append_right (by show tb_Zl_6.length ≤ _; rw [show tb_Zl_6.length = 100 from rfl]; omega), show tb_Zl_6.length = 100 from rfl, show 100 + j - 100 = 0 + j by omega]
  rw [Nat.zero_add]
  rw [List.getElem?_append_left (List.getElem?_eq_some_iff.mp h).1]
  exact h
theorem tz_8 {q : Nat × Instr × Nat} (j : Nat) (h : tb_Zl_8[j]? = some q) : (mi_tb mi_Z_law)[800 + j]? = some q := by
  show tb_Z_law[800 + j]? = some q
  unfold tb_Z_law
  rw [List.getElem?_append_right (by show tb_Zl_0.length ≤ _; rw [show tb_Zl_0.length = 100 from rfl]; omega), show tb_Zl_0.length = 100 from rfl, show 800 + j - 100 = 700 + j by omega]
  rw [List.getElem?_append_right (by show tb_Zl_1.length ≤ _; rw [show tb_Zl_1.length = 100 from rfl]; omega), show tb_Zl_1.length = 100 from rfl, show 700 + j - 100 = 600 + j by omega]
  rw [List.getElem?_append_right (by show tb_Zl_2.length ≤ _; rw [show tb_Zl_2.length = 100 from rfl]; omega), show tb_Zl_2.length = 100 from rfl, show 600 + j - 100 = 500 + j by omega]
  rw [List.getElem?_append_right (by show tb_Zl_3.length ≤ _; rw [show tb_Zl_3.length = 100 from rfl]; omega), show tb_Zl_3.length = 100 from rfl, show 500 + j - 100 = 400 + j by omega]
  rw [List.getElem?_append_right (by show tb_Zl_4.length ≤ _; rw [show tb_Zl_4.length = 100 from rfl]; omega), show tb_Zl_4.length = 100 from rfl, show 400 + j - 100 = 300 + j by omega]
  rw [List.getElem?_append_right (by show tb_Zl_5.length ≤ _; rw [show tb_Zl_5.length = 100 from rfl]; omega), show tb_Zl_5.length = 100 from rfl, show 300 + j - 100 = 200 + j by omega]
  rw [List.getElem?_append_right (by show tb_Zl_6.length ≤ _; rw [show tb_Zl_6.length = 100 from rfl]; omega), show tb_Zl_6.length = 100 from rfl, show 200 + j - 100 = 100 + j by omega]
  rw [List.getElem?_append_right (by show tb_Zl_7.length ≤ _; rw [show tb_Zl_7.length = 100 from rfl]; omega), show tb_Zl_7.length = 100 from rfl, show 100 + j - 100 = 0 + j by omega]
  rw [Nat.zero_add]
  rw [List.getElem?_append_left (List.getElem?_eq_some_iff.mp h).1]
  exact h
theorem tz_9 {q : Nat × Instr × Nat} (j : Nat) (h : tb_Zl_9[j]? = some q) : (mi_tb mi_Z_law)[900 + j]? = some q := by
  show tb_Z_law[900 + j]? = some q
  unfold tb_Z_law
  rw [List.getElem?_append_right (by show tb_Zl_0.length ≤ _; rw [show tb_Zl_0.length = 100 from rfl]; omega), show tb_Zl_0.length = 100 from rfl, show 900 + j - 100 = 800 + j by omega]
  rw [List.getElem?_append_right (by show tb_Zl_1.length ≤ _; rw [show tb_Zl_1.length = 100 from rfl]; omega), show tb_Zl_1.length = 100 from rfl, show 800 + j - 100 = 700 + j by omega]
  rw [List.getElem?_append_right (by show tb_Zl_2.length ≤ _; rw [show tb_Zl_2.length = 100 from rfl]; omega), show tb_Zl_2.length = 100 from rfl, show 700 + j - 100 = 600 + j by omega]
  rw [List.getElem?_append_right (by show tb_Zl_3.length ≤ _; rw [show tb_Zl_3.length = 100 from rfl]; omega), show tb_Zl_3.length = 100 from rfl, show 600 + j - 100 = 500 + j by omega]
  rw [List.getElem?_append_right (by show tb_Zl_4.length ≤ _; rw [show tb_Zl_4.length = 100 from rfl]; omega), show tb_Zl_4.length = 100 from rfl, show 500 + j - 100 = 400 + j by omega]
  rw [List.getElem?_append_right (by show tb_Zl_5.length ≤ _; rw [show tb_Zl_5.length = 100 from rfl]; omega), show tb_Zl_5.length = 100 from rfl, show 400 + j - 100 = 300 + j by omega]
  rw [List.getElem?_append_right (by show tb_Zl_6.length ≤ _; rw [show tb_Zl_6.length = 100 from rfl]; omega), show tb_Zl_6.length = 100 from rfl, show 300 + j - 100 = 200 + j by omega]
  rw [List.getElem?_append_right (by show tb_Zl_7.length ≤ _; rw [show tb_Zl_7.length = 100 from rfl]; omega), show tb_Zl_7.length = 100 from rfl, show 200 + j - 100 = 100 + j by omega]
  rw [List.getElem?_append_right (by show tb_Zl_8.length ≤ _; rw [show tb_Zl_8.length = 100 from rfl]; omega), show tb_Zl_8.length = 100 from rfl, show 100 + j - 100 = 0 + j by omega]
  rw [Nat.zero_add]
  rw [List.getElem?_append_left (List.getElem?_eq_some_iff.mp h).1]
  exact h
theorem tz_10 {q : Nat × Instr × Nat} (j : Nat) (h : tb_Zl_10[j]? = some q) : (mi_tb mi_Z_law)[1000 + j]? = some q := by
  show tb_Z_law[1000 + j]? = some q
  unfold tb_Z_law
  rw [List.getElem?_append_right (by show tb_Zl_0.length ≤ _; rw [show tb_Zl_0.length = 100 from rfl]; omega), show tb_Zl_0.length = 100 from rfl, show 1000 + j - 100 = 900 + j by omega]
  rw [List.getElem?_append_right (by show tb_Zl_1.length ≤ _; rw [show tb_Zl_1.length = 100 from rfl]; omega), show tb_Zl_1.length = 100 from rfl, show 900 + j - 100 = 800 + j by omega]
  rw [List.getElem?_append_right (by show tb_Zl_2.length ≤ _; rw [show tb_Zl_2.length = 100 from rfl]; omega), show tb_Zl_2.length = 100 from rfl, show 800 + j - 100 = 700 + j by omega]
  rw [List.getElem?_append_right (by show tb_Zl_3.length ≤ _; rw [show tb_Zl_3.length = 100 from rfl]; omega), show tb_Zl_3.length = 100 from rfl, show 700 + j - 100 = 600 + j by omega]
  rw [List.getElem?_append_right (by show tb_Zl_4.length ≤ _; rw [show tb_Zl_4.length = 100 from rfl]; omega), show tb_Zl_4.length = 100 from rfl, show 600 + j - 100 = 500 + j by omega]
  rw [List.getElem?_append_right (by show tb_Zl_5.length ≤ _; rw [show tb_Zl_5.length = 100 from rfl]; omega), show tb_Zl_5.length = 100 from rfl, show 500 + j - 100 = 400 + j by omega]
  rw [List.getElem?_append_right (by show tb_Zl_6.length ≤ _; rw [show tb_Zl_6.length = 100 from rfl]; omega), show tb_Zl_6.length = 100 from rfl, show 400 + j - 100 = 300 + j by omega]
  rw [List.getElem?_append_right (by show tb_Zl_7.length ≤ _; rw [show tb_Zl_7.length = 100 from rfl]; omega), show tb_Zl_7.length = 100 from rfl, show 300 + j - 100 = 200 + j by omega]
  rw [List.getElem?_append_right (by show tb_Zl_8.length ≤ _; rw [show tb_Zl_8.length = 100 from rfl]; omega), show tb_Zl_8.length = 100 from rfl, show 200 + j - 100 = 100 + j by omega]
  rw [List.getElem?_append_right (by show tb_Zl_9.length ≤ _; rw [show tb_Zl_9.length = 100 from rfl]; omega), show tb_Zl_9.length = 100 from rfl, show 100 + j - 100 = 0 + j by omega]
  rw [Nat.zero_add]
  rw [List.getElem?_append_left (List.getElem?_eq_some_iff.mp h).1]
  exact h
theorem tz_11 {q : Nat × Instr × Nat} (j : Nat) (h : tb_Zl_11[j]? = some q) : (mi_tb mi_Z_law)[1100 + j]? = some q := by
  show tb_Z_law[1100 + j]? = some q
  unfold tb_Z_law
  rw [List.getElem?_append_right (by show tb_Zl_0.length ≤ _; rw [show tb_Zl_0.length = 100 from rfl]; omega), show tb_Zl_0.length = 100 from rfl, show 1100 + j - 100 = 1000 + j by omega]
  rw [List.getElem?_append_right (by show tb_Zl_1.length ≤ _; rw [show tb_Zl_1.length = 100 from rfl]; omega), show tb_Zl_1.length = 100 from rfl, show 1000 + j - 100 = 900 + j by omega]
  rw [List.getElem?_append_right (by show tb_Zl_2.length ≤ _; rw [show tb_Zl_2.length = 100 from rfl]; omega), show tb_Zl_2.length = 100 from rfl, show 900 + j - 100 = 800 + j by omega]
  rw [List.getElem?_append_right (by show tb_Zl_3.length ≤ _; rw [show tb_Zl_3.length = 100 from rfl]; omega), show tb_Zl_3.length = 100 from rfl, show 800 + j - 100 = 700 + j by omega]
  rw [List.getElem?_append_right (by show tb_Zl_4.length ≤ _; rw [show tb_Zl_4.length = 100 from rfl]; omega), show tb_Zl_4.length = 100 from rfl, show 700 + j - 100 = 600 + j by omega]
  rw [List.getElem?_append_right (by show tb_Zl_5.length ≤ _; rw [show tb_Zl_5.length = 100 from rfl]; omega), show tb_Zl_5.length = 100 from rfl, show 600 + j - 100 = 500 + j by omega]
  rw [List.getElem?_append_right (by show tb_Zl_6.length ≤ _; rw [show tb_Zl_6.length = 100 from rfl]; omega), show tb_Zl_6.length = 100 from rfl, show 500 + j - 100 = 400 + j by omega]
  rw [List.getElem?_append_right (by show tb_Zl_7.length ≤ _; rw [show tb_Zl_7.length = 100 from rfl]; omega), show tb_Zl_7.length = 100 from rfl, show 400 + j - 100 = 300 + j by omega]
  rw [List.getElem?_append_right (by show tb_Zl_8.length ≤ _; rw [show tb_Zl_8.length = 100 from rfl]; omega), show tb_Zl_8.length = 100 from rfl, show 300 + j - 100 = 200 + j by omega]
  rw [List.getElem?_append_right (by show tb_Zl_9.length ≤ _; rw [show tb_Zl_9.length = 100 from rfl]; omega), show tb_Zl_9.length = 100 from rfl, show 200 + j - 100 = 100 + j by omega]
  rw [List.getElem?_append_right (by show tb_Zl_10.length ≤ _; rw [show tb_Zl_10.length = 100 from rfl]; omega), show tb_Zl_10.length = 100 from rfl, show 100 + j - 100 = 0 + j by omega]
  rw [Nat.zero_add]
  rw [List.getElem?_append_left (List.getElem?_eq_some_iff.mp h).1]
  exact h
theorem tz_12 {q : Nat × Instr × Nat} (j : Nat) (h : tb_Zl_12[j]? = some q) : (mi_tb mi_Z_law)[1200 + j]? = some q := by
  show tb_Z_law[1200 + j]? = some q
  unfold tb_Z_law
  rw [List.getElem?_append_right (by show tb_Zl_0.length ≤ _; rw [show tb_Zl_0.length = 100 from rfl]; omega), show tb_Zl_0.length = 100 from rfl, show 1200 + j - 100 = 1100 + j by omega]
  rw [List.getElem?_append_right (by show tb_Zl_1.length ≤ _; rw [show tb_Zl_1.length = 100 from rfl]; omega), show tb_Zl_1.length = 100 from rfl, show 1100 + j - 100 = 1000 + j by omega]
  rw [List.getElem?_append_right (by show tb_Zl_2.length ≤ _; rw [show tb_Zl_2.length = 100 from rfl]; omega), show tb_Zl_2.length = 100 from rfl, show 1000 + j - 100 = 900 + j by omega]
  rw [List.getElem?_append_right (by show tb_Zl_3.length ≤ _; rw [show tb_Zl_3.length = 100 from rfl]; omega), show tb_Zl_3.length = 100 from rfl, show 900 + j - 100 = 800 + j by omega]
  rw [List.getElem?_append_right (by show tb_Zl_4.length ≤ _; rw [show tb_Zl_4.length = 100 from rfl]; omega), show tb_Zl_4.length = 100 from rfl, show 800 + j - 100 = 700 + j by omega]
  rw [List.getElem?_append_right (by show tb_Zl_5.length ≤ _; rw [show tb_Zl_5.length = 100 from rfl]; omega), show tb_Zl_5.length = 100 from rfl, show 700 + j - 100 = 600 + j by omega]
  rw [List.getElem?_append_right (by show tb_Zl_6.length ≤ _; rw [show tb_Zl_6.length = 100 from rfl]; omega), show tb_Zl_6.length = 100 from rfl, show 600 + j - 100 = 500 + j by omega]
  rw [List.getElem?_append_right (by show tb_Zl_7.length ≤ _; rw [show tb_Zl_7.length = 100 from rfl]; omega), show tb_Zl_7.length = 100 from rfl, show 500 + j - 100 = 400 + j by omega]
  rw [List.getElem?_append_right (by show tb_Zl_8.length ≤ _; rw [show tb_Zl_8.length = 100 from rfl]; omega), show tb_Zl_8.length = 100 from rfl, show 400 + j - 100 = 300 + j by omega]
  rw [List.getElem?_append_right (by show tb_Zl_9.length ≤ _; rw [show tb_Zl_9.length = 100 from rfl]; omega), show tb_Zl_9.length = 100 from rfl, show 300 + j - 100 = 200 + j by omega]
  rw [List.getElem?_append_right (by show tb_Zl_10.length ≤ _; rw [show tb_Zl_10.length = 100 from rfl]; omega), show tb_Zl_10.length = 100 from rfl, show 200 + j - 100 = 100 + j by omega]
  rw [List.getElem?_append_right (by show tb_Zl_11.length ≤ _; rw [show tb_Zl_11.length = 100 from rfl]; omega), show tb_Zl_11.length = 100 from rfl, show 100 + j - 100 = 0 + j by omega]
  rw [Nat.zero_add]
  rw [List.getElem?_append_left (List.getElem?_eq_some_iff.mp h).1]
  exact h
theorem tz_13 {q : Nat × Instr × Nat} (j : Nat) (h : tb_Zl_13[j]? = some q) : (mi_tb mi_Z_law)[1300 + j]? = some q := by
  show tb_Z_law[1300 + j]? = some q
  unfold tb_Z_law
  rw [List.getElem?_append_right (by show tb_Zl_0.length ≤ _; rw [show tb_Zl_0.length = 100 from rfl]; omega), show tb_Zl_0.length = 100 from rfl, show 1300 + j - 100 = 1200 + j by omega]
  rw [List.getElem?_append_right (by show tb_Zl_1.length ≤ _; rw [show tb_Zl_1.length = 100 from rfl]; omega), show tb_Zl_1.length = 100 from rfl, show 1200 + j - 100 = 1100 + j by omega]
  rw [List.getElem?_append_right (by show tb_Zl_2.length ≤ _; rw [show tb_Zl_2.length = 100 from rfl]; omega), show tb_Zl_2.length = 100 from rfl, show 1100 + j - 100 = 1000 + j by omega]
  rw [List.getElem?_append_right (by show tb_Zl_3.length ≤ _; rw [show tb_Zl_3.length = 100 from rfl]; omega), show tb_Zl_3.length = 100 from rfl, show 1000 + j - 100 = 900 + j by omega]
  rw [List.getElem?_append_right (by show tb_Zl_4.length ≤ _; rw [show tb_Zl_4.length = 100 from rfl]; omega), show tb_Zl_4.length = 100 from rfl, show 900 + j - 100 = 800 + j by omega]
  rw [List.getElem?_append_right (by show tb_Zl_5.length ≤ _; rw [show tb_Zl_5.length = 100 from rfl]; omega), show tb_Zl_5.length = 100 from rfl, show 800 + j - 100 = 700 + j by omega]
  rw [List.getElem?_append_right (by show tb_Zl_6.length ≤ _; rw [show tb_Zl_6.length = 100 from rfl]; omega), show tb_Zl_6.length = 100 from rfl, show 700 + j - 100 = 600 + j by omega]
  rw [List.getElem?_append_right (by show tb_Zl_7.length ≤ _; rw [show tb_Zl_7.length = 100 from rfl]; omega), show tb_Zl_7.length = 100 from rfl, show 600 + j - 100 = 500 + j by omega]
  rw [List.getElem?_append_right (by show tb_Zl_8.length ≤ _; rw [show tb_Zl_8.length = 100 from rfl]; omega), show tb_Zl_8.length = 100 from rfl, show 500 + j - 100 = 400 + j by omega]
  rw [List.getElem?_append_right (by show tb_Zl_9.length ≤ _; rw [show tb_Zl_9.length = 100 from rfl]; omega), show tb_Zl_9.length = 100 from rfl, show 400 + j - 100 = 300 + j by omega]
  rw [List.getElem?_append_right (by show tb_Zl_10.length ≤ _; rw [show tb_Zl_10.length = 100 from rfl]; omega), show tb_Zl_10.length = 100 from rfl, show 300 + j - 100 = 200 + j by omega]
  rw [List.getElem?_append_right (by show tb_Zl_11.length ≤ _; rw [show tb_Zl_11.length = 100 from rfl]; omega), show tb_Zl_11.length = 100 from rfl, show 200 + j - 100 = 100 + j by omega]
  rw [List.getElem?_append_right (by show tb_Zl_12.length ≤ _; rw [show tb_Zl_12.length = 100 from rfl]; omega), show tb_Zl_12.length = 100 from rfl, show 100 + j - 100 = 0 + j by omega]
  rw [Nat.zero_add]
  rw [List.getElem?_append_left (List.getElem?_eq_some_iff.mp h).1]
  exact h
theorem tz_14 {q : Nat × Instr × Nat} (j : Nat) (h : tb_Zl_14[j]? = some q) : (mi_tb mi_Z_law)[1400 + j]? = some q := by
  show tb_Z_law[1400 + j]? = some q
  unfold tb_Z_law
  rw [List.getElem?_append_right (by show tb_Zl_0.length ≤ _; rw [show tb_Zl_0.length = 100 from rfl]; omega), show tb_Zl_0.length = 100 from rfl, show 1400 + j - 100 = 1300 + j by omega]
  rw [List.getElem?_append_right (by show tb_Zl_1.length ≤ _; rw [show tb_Zl_1.length = 100 from rfl]; omega), show tb_Zl_1.length = 100 from rfl, show 1300 + j - 100 = 1200 + j by omega]
  rw [List.getElem?_append_right (by show tb_Zl_2.length ≤ _; rw [show tb_Zl_2.length = 100 from rfl]; omega), show tb_Zl_2.length = 100 from rfl, show 1200 + j - 100 = 1100 + j by omega]
  rw [List.getElem?_append_right (by show tb_Zl_3.length ≤ _; rw [show tb_Zl_3.length = 100 from rfl]; omega), show tb_Zl_3.length = 100 from rfl, show 1100 + j - 100 = 1000 + j by omega]
  rw [List.getElem?_append_right (by show tb_Zl_4.length ≤ _; rw [show tb_Zl_4.length = 100 from rfl]; omega), show tb_Zl_4.length = 100 from rfl, show 1000 + j - 100 = 900 + j by omega]
  rw [List.getElem?_append_right (by show tb_Zl_5.length ≤ _; rw [show tb_Zl_5.length = 100 from rfl]; omega), show tb_Zl_5.length = 100 from rfl, show 900 + j - 100 = 800 + j by omega]
  rw [List.getElem?_append_right (by show tb_Zl_6.length ≤ _; rw [show tb_Zl_6.length = 100 from rfl]; omega), show tb_Zl_6.length = 100 from rfl, show 800 + j - 100 = 700 + j by omega]
  rw [List.getElem?_append_right (by show tb_Zl_7.length ≤ _; rw [show tb_Zl_7.length = 100 from rfl]; omega), show tb_Zl_7.length = 100 from rfl, show 700 + j - 100 = 600 + j by omega]
  rw [List.getElem?_append_right (by show tb_Zl_8.length ≤ _; rw [show tb_Zl_8.length = 100 from rfl]; omega), show tb_Zl_8.length = 100 from rfl, show 600 + j - 100 = 500 + j by omega]
  rw [List.getElem?_append_right (by show tb_Zl_9.length ≤ _; rw [show tb_Zl_9.length = 100 from rfl]; omega), show tb_Zl_9.length = 100 from rfl, show 500 + j - 100 = 400 + j by omega]
  rw [List.getElem?_append_right (by show tb_Zl_10.length ≤ _; rw [show tb_Zl_10.length = 100 from rfl]; omega), show tb_Zl_10.length = 100 from rfl, show 400 + j - 100 = 300 + j by omega]
  rw [List.getElem?_append_right (by show tb_Zl_11.length ≤ _; rw [show tb_Zl_11.length = 100 from rfl]; omega), show tb_Zl_11.length = 100 from rfl, show 300 + j - 100 = 200 + j by omega]
  rw [List.getElem?_append_right (by show tb_Zl_12.length ≤ _; rw [show tb_Zl_12.length = 100 from rfl]; omega), show tb_Zl_12.length = 100 from rfl, show 200 + j - 100 = 100 + j by omega]
  rw [List.getElem?_append_right (by show tb_Zl_13.length ≤ _; rw [show tb_Zl_13.length = 100 from rfl]; omega), show tb_Zl_13.length = 100 from rfl, show 100 + j - 100 = 0 + j by omega]
  rw [Nat.zero_add]
  rw [List.getElem?_append_left (List.getElem?_eq_some_iff.mp h).1]
  exact h
theorem tz_15 {q : Nat × Instr × Nat} (j : Nat) (h : tb_Zl_15[j]? = some q) : (mi_tb mi_Z_law)[1500 + j]? = some q := by
  show tb_Z_law[1500 + j]? = some q
  unfold tb_Z_law
  rw [List.getElem?_append_right (by show tb_Zl_0.length ≤ _; rw [show tb_Zl_0.length = 100 from rfl]; omega), show tb_Zl_0.length = 100 from rfl, show 1500 + j - 100 = 1400 + j by omega]
  rw [List.getElem?_append_right (by show tb_Zl_1.length ≤ _; rw [show tb_Zl_1.length = 100 from rfl]; omega), show tb_Zl_1.length = 100 from rfl, show 1400 + j - 100 = 1300 + j by omega]
  rw [List.getElem?_append_right (by show tb_Zl_2.length ≤ _; rw [show tb_Zl_2.length = 100 from rfl]; omega), show tb_Zl_2.length = 100 from rfl, show 1300 + j - 100 = 1200 + j by omega]
  rw [List.getElem?_append_right (by show tb_Zl_3.length ≤ _; rw [show tb_Zl_3.length = 100 from rfl]; omega), show tb_Zl_3.length = 100 from rfl, show 1200 + j - 100 = 1100 + j by omega]
  rw [List.getElem?_append_right (by show tb_Zl_4.length ≤ _; rw [show tb_Zl_4.length = 100 from rfl]; omega), show tb_Zl_4.length = 100 from rfl, show 1100 + j - 100 = 1000 + j by omega]
  rw [List.getElem?_append_right (by show tb_Zl_5.length ≤ _; rw [show tb_Zl_5.length = 100 from rfl]; omega), show tb_Zl_5.length = 100 from rfl, show 1000 + j - 100 = 900 + j by omega]
  rw [List.getElem?_append_right (by show tb_Zl_6.length ≤ _; rw [show tb_Zl_6.length = 100 from rfl]; omega), show tb_Zl_6.length = 100 from rfl, show 900 + j - 100 = 800 + j by omega]
  rw [List.getElem?_append_right (by show tb_Zl_7.length ≤ _; rw [show tb_Zl_7.length = 100 from rfl]; omega), show tb_Zl_7.length = 100 from rfl, show 800 + j - 100 = 700 + j by omega]
  rw [List.getElem?_append_right (by show tb_Zl_8.length ≤ _; rw [show tb_Zl_8.length = 100 from rfl]; omega), show tb_Zl_8.length = 100 from rfl, show 700 + j - 100 = 600 + j by omega]
  rw [List.getElem?_append_right (by show tb_Zl_9.length ≤ _; rw [show tb_Zl_9.length = 100 from rfl]; omega), show tb_Zl_9.length = 100 from rfl, show 600 + j - 100 = 500 + j by omega]
  rw [List.getElem?_append_right (by show tb_Zl_10.length ≤ _; rw [show tb_Zl_10.length = 100 from rfl]; omega), show tb_Zl_10.length = 100 from rfl, show 500 + j - 100 = 400 + j by omega]
  rw [List.getElem?_append_right (by show tb_Zl_11.length ≤ _; rw [show tb_Zl_11.length = 100 from rfl]; omega), show tb_Zl_11.length = 100 from rfl, show 400 + j - 100 = 300 + j by omega]
  rw [List.getElem?_append_right (by show tb_Zl_12.length ≤ _; rw [show tb_Zl_12.length = 100 from rfl]; omega), show tb_Zl_12.length = 100 from rfl, show 300 + j - 100 = 200 + j by omega]
  rw [List.getElem?_append_right (by show tb_Zl_13.length ≤ _; rw [show tb_Zl_13.length = 100 from rfl]; omega), show tb_Zl_13.length = 100 from rfl, show 200 + j - 100 = 100 + j by omega]
  rw [List.getElem?_append_right (by show tb_Zl_14.length ≤ _; rw [show tb_Zl_14.length = 100 from rfl]; omega), show tb_Zl_14.length = 100 from rfl, show 100 + j - 100 = 0 + j by omega]
  rw [Nat.zero_add]
  rw [List.getElem?_append_left (List.getElem?_eq_some_iff.mp h).1]
  exact h
theorem tz_16 {q : Nat × Instr × Nat} (j : Nat) (h : tb_Zl_16[j]? = some q) : (mi_tb mi_Z_law)[1600 + j]? = some q := by
  show tb_Z_law[1600 + j]? = some q
  unfold tb_Z_law
  rw [List.getElem?_append_right (by show tb_Zl_0.length ≤ _; rw [show tb_Zl_0.length = 100 from rfl]; omega), show tb_Zl_0.length = 100 from rfl, show 1600 + j - 100 = 1500 + j by omega]
  rw [List.getElem?_append_right (by show tb_Zl_1.length ≤ _; rw [show tb_Zl_1.length = 100 from rfl]; omega), show tb_Zl_1.length = 100 from rfl, show 1500 + j - 100 = 1400 + j by omega]
  rw [List.getElem?_append_right (by show tb_Zl_2.length ≤ _; rw [show tb_Zl_2.length = 100 from rfl]; omega), show tb_Zl_2.length = 100 from rfl, show 1400 + j - 100 = 1300 + j by omega]
  rw [List.getElem?_append_right (by show tb_Zl_3.length ≤ _; rw [show tb_Zl_3.length = 100 from rfl]; omega), show tb_Zl_3.length = 100 from rfl, show 1300 + j - 100 = 1200 + j by omega]
  rw [List.getElem?_append_right (by show tb_Zl_4.length ≤ _; rw [show tb_Zl_4.length = 100 from rfl]; omega), show tb_Zl_4.length = 100 from rfl, show 1200 + j - 100 = 1100 + j by omega]
  rw [List.getElem?_append_right (by show tb_Zl_5.length ≤ _; rw [show tb_Zl_5.length = 100 from rfl]; omega), show tb_Zl_5.length = 100 from rfl, show 1100 + j - 100 = 1000 + j by omega]
  rw [List.getElem?_append_right (by show tb_Zl_6.length ≤ _; rw [show tb_Zl_6.length = 100 from rfl]; omega), show tb_Zl_6.length = 100 from rfl, show 1000 + j - 100 = 900 + j by omega]
  rw [List.getElem?_append_right (by show tb_Zl_7.length ≤ _; rw [show tb_Zl_7.length = 100 from rfl]; omega), show tb_Zl_7.length = 100 from rfl, show 900 + j - 100 = 800 + j by omega]
  rw [List.getElem?_append_right (by show tb_Zl_8.length ≤ _; rw [show tb_Zl_8.length = 100 from rfl]; omega), show tb_Zl_8.length = 100 from rfl, show 800 + j - 100 = 700 + j by omega]
  rw [List.getElem?_append_right (by show tb_Zl_9.length ≤ _; rw [show tb_Zl_9.length = 100 from rfl]; omega), show tb_Zl_9.length = 100 from rfl, show 700 + j - 100 = 600 + j by omega]
  rw [List.getElem?_append_right (by show tb_Zl_10.length ≤ _; rw [show tb_Zl_10.length = 100 from rfl]; omega), show tb_Zl_10.length = 100 from rfl, show 600 + j - 100 = 500 + j by omega]
  rw [List.getElem?_append_right (by show tb_Zl_11.length ≤ _; rw [show tb_Zl_11.length = 100 from rfl]; omega), show tb_Zl_11.length = 100 from rfl, show 500 + j - 100 = 400 + j by omega]
  rw [List.getElem?_append_right (by show tb_Zl_12.length ≤ _; rw [show tb_Zl_12.length = 100 from rfl]; omega), show tb_Zl_12.length = 100 from rfl, show 400 + j - 100 = 300 + j by omega]
  rw [List.getElem?_append_right (by show tb_Zl_13.length ≤ _; rw [show tb_Zl_13.length = 100 from rfl]; omega), show tb_Zl_13.length = 100 from rfl, show 300 + j - 100 = 200 + j by omega]
  rw [List.getElem?_append_right (by show tb_Zl_14.length ≤ _; rw [show tb_Zl_14.length = 100 from rfl]; omega), show tb_Zl_14.length = 100 from rfl, show 200 + j - 100 = 100 + j by omega]
  rw [List.getElem?_append_right (by show tb_Zl_15.length ≤ _; rw [show tb_Zl_15.length = 100 from rfl]; omega), show tb_Zl_15.length = 100 from rfl, show 100 + j - 100 = 0 + j by omega]
  rw [Nat.zero_add]
  rw [List.getElem?_append_left (List.getElem?_eq_some_iff.mp h).1]
  exact h
theorem tz_17 {q : Nat × Instr × Nat} (j : Nat) (h : tb_Zl_17[j]? = some q) : (mi_tb mi_Z_law)[1700 + j]? = some q := by
  show tb_Z_law[1700 + j]? = some q
  unfold tb_Z_law
  rw [List.getElem?_append_right (by show tb_Zl_0.length ≤ _; rw [show tb_Zl_0.length = 100 from rfl]; omega), show tb_Zl_0.length = 100 from rfl, show 1700 + j - 100 = 1600 + j by omega]
  rw [List.getElem?_append_right (by show tb_Zl_1.length ≤ _; rw [show tb_Zl_1.length = 100 from rfl]; omega), show tb_Zl_1.length = 100 from rfl, show 1600 + j - 100 = 1500 + j by omega]
  rw [List.getElem?_append_right (by show tb_Zl_2.length ≤ _; rw [show tb_Zl_2.length = 100 from rfl]; omega), show tb_Zl_2.length = 100 from rfl, show 1500 + j - 100 = 1400 + j by omega]
  rw [List.getElem?_append_right (by show tb_Zl_3.length ≤ _; rw [show tb_Zl_3.length = 100 from rfl]; omega), show tb_Zl_3.length = 100 from rfl, show 1400 + j - 100 = 1300 + j by omega]
  rw [List.getElem?_append_right (by show tb_Zl_4.length ≤ _; rw [show tb_Zl_4.length = 100 from rfl]; omega), show tb_Zl_4.length = 100 from rfl, show 1300 + j - 100 = 1200 + j by omega]
  rw [List.getElem?_append_right (by show tb_Zl_5.length ≤ _; rw [show tb_Zl_5.length = 100 from rfl]; omega), show tb_Zl_5.length = 100 from rfl, show 1200 + j - 100 = 1100 + j by omega]
  rw [List.getElem?_append_right (by show tb_Zl_6.length ≤ _; rw [show tb_Zl_6.length = 100 from rfl]; omega), show tb_Zl_6.length = 100 from rfl, show 1100 + j - 100 = 1000 + j by omega]
  rw [List.getElem?_append_right (by show tb_Zl_7.length ≤ _; rw [show tb_Zl_7.length = 100 from rfl]; omega), show tb_Zl_7.length = 100 from rfl, show 1000 + j - 100 = 900 + j by omega]
  rw [List.getElem?_append_right (by show tb_Zl_8.length ≤ _; rw [show tb_Zl_8.length = 100 from rfl]; omega), show tb_Zl_8.length = 100 from rfl, show 900 + j - 100 = 800 + j by omega]
  rw [List.getElem?_append_right (by show tb_Zl_9.length ≤ _; rw [show tb_Zl_9.length = 100 from rfl]; omega), show tb_Zl_9.length = 100 from rfl, show 800 + j - 100 = 700 + j by omega]
  rw [List.getElem?_append_right (by show tb_Zl_10.length ≤ _; rw [show tb_Zl_10.length = 100 from rfl]; omega), show tb_Zl_10.length = 100 from rfl, show 700 + j - 100 = 600 + j by omega]
  rw [List.getElem?_append_right (by show tb_Zl_11.length ≤ _; rw [show tb_Zl_11.length = 100 from rfl]; omega), show tb_Zl_11.length = 100 from rfl, show 600 + j - 100 = 500 + j by omega]
  rw [List.getElem?_append_right (by show tb_Zl_12.length ≤ _; rw [show tb_Zl_12.length = 100 from rfl]; omega), show tb_Zl_12.length = 100 from rfl, show 500 + j - 100 = 400 + j by omega]
  rw [List.getElem?_append_right (by show tb_Zl_13.length ≤ _; rw [show tb_Zl_13.length = 100 from rfl]; omega), show tb_Zl_13.length = 100 from rfl, show 400 + j - 100 = 300 + j by omega]
  rw [List.getElem?_append_right (by show tb_Zl_14.length ≤ _; rw [show tb_Zl_14.length = 100 from rfl]; omega), show tb_Zl_14.length = 100 from rfl, show 300 + j - 100 = 200 + j by omega]
  rw [List.getElem?_append_right (by show tb_Zl_15.length ≤ _; rw [show tb_Zl_15.length = 100 from rfl]; omega), show tb_Zl_15.length = 100 from rfl, show 200 + j - 100 = 100 + j by omega]
  rw [List.getElem?_append_right (by show tb_Zl_16.length ≤ _; rw [show tb_Zl_16.length = 100 from rfl]; omega), show tb_Zl_16.length = 100 from rfl, show 100 + j - 100 = 0 + j by omega]
  rw [Nat.zero_add]
  rw [List.getElem?_append_left (List.getElem?_eq_some_iff.mp h).1]
  exact h
theorem tz_18 {q : Nat × Instr × Nat} (j : Nat) (h : tb_Zl_18[j]? = some q) : (mi_tb mi_Z_law)[1800 + j]? = some q := by
  show tb_Z_law[1800 + j]? = some q
  unfold tb_Z_law
  rw [List.getElem?_append_right (by show tb_Zl_0.length ≤ _; rw [show tb_Zl_0.length = 100 from rfl]; omega), show tb_Zl_0.length = 100 from rfl, show 1800 + j - 100 = 1700 + j by omega]
  rw [List.getElem?_append_right (by show tb_Zl_1.length ≤ _; rw [show tb_Zl_1.length = 100 from rfl]; omega), show tb_Zl_1.length = 100 from rfl, show 1700 + j - 100 = 1600 + j by omega]
  rw [List.getElem?_append_right (by show tb_Zl_2.length ≤ _; rw [show tb_Zl_2.length = 100 from rfl]; omega), show tb_Zl_2.length = 100 from rfl, show 1600 + j - 100 = 1500 + j by omega]
  rw [List.getElem?_append_right (by show tb_Zl_3.length ≤ _; rw [show tb_Zl_3.length = 100 from rfl]; omega), show tb_Zl_3.length = 100 from rfl, show 1500 + j - 100 = 1400 + j by omega]
  rw [List.getElem?_append_right (by show tb_Zl_4.length ≤ _; rw [show tb_Zl_4.length = 100 from rfl]; omega), show tb_Zl_4.length = 100 from rfl, show 1400 + j - 100 = 1300 + j by omega]
  rw [List.getElem?_append_right (by show tb_Zl_5.length ≤ _; rw [show tb_Zl_5.length = 100 from rfl]; omega), show tb_Zl_5.length = 100 from rfl, show 1300 + j - 100 = 1200 + j by omega]
  rw [List.getElem?_append_right (by show tb_Zl_6.length ≤ _; rw [show tb_Zl_6.length = 100 from rfl]; omega), show tb_Zl_6.length = 100 from rfl, show 1200 + j - 100 = 1100 + j by omega]
  rw [List.getElem?_append_right (by show tb_Zl_7.length ≤ _; rw [show tb_Zl_7.length = 100 from rfl]; omega), show tb_Zl_7.length = 100 from rfl, show 1100 + j - 100 = 1000 + j by omega]
  rw [List.getElem?_append_right (by show tb_Zl_8.length ≤ _; rw [show tb_Zl_8.length = 100 from rfl]; omega), show tb_Zl_8.length = 100 from rfl, show 1000 + j - 100 = 900 + j by omega]
  rw [List.getElem?_append_right (by show tb_Zl_9.length ≤ _; rw [show tb_Zl_9.length = 100 from rfl]; omega), show tb_Zl_9.length = 100 from rfl, show 900 + j - 100 = 800 + j by omega]
  rw [List.getElem?_append_right (by show tb_Zl_10.length ≤ _; rw [show tb_Zl_10.length = 100 from rfl]; omega), show tb_Zl_10.length = 100 from rfl, show 800 + j - 100 = 700 + j by omega]
  rw [List.getElem?_append_right (by show tb_Zl_11.length ≤ _; rw [show tb_Zl_11.length = 100 from rfl]; omega), show tb_Zl_11.length = 100 from rfl, show 700 + j - 100 = 600 + j by omega]
  rw [List.getElem?_append_right (by show tb_Zl_12.length ≤ _; rw [show tb_Zl_12.length = 100 from rfl]; omega), show tb_Zl_12.length = 100 from rfl, show 600 + j - 100 = 500 + j by omega]
  rw [List.getElem?_append_right (by show tb_Zl_13.length ≤ _; rw [show tb_Zl_13.length = 100 from rfl]; omega), show tb_Zl_13.length = 100 from rfl, show 500 + j - 100 = 400 + j by omega]
  rw [List.getElem?_append_right (by show tb_Zl_14.length ≤ _; rw [show tb_Zl_14.length = 100 from rfl]; omega), show tb_Zl_14.length = 100 from rfl, show 400 + j - 100 = 300 + j by omega]
  rw [List.getElem?_append_right (by show tb_Zl_15.length ≤ _; rw [show tb_Zl_15.length = 100 from rfl]; omega), show tb_Zl_15.length = 100 from rfl, show 300 + j - 100 = 200 + j by omega]
  rw [List.getElem?_append_right (by show tb_Zl_16.length ≤ _; rw [show tb_Zl_16.length = 100 from rfl]; omega), show tb_Zl_16.length = 100 from rfl, show 200 + j - 100 = 100 + j by omega]
  rw [List.getElem?_append_right (by show tb_Zl_17.length ≤ _; rw [show tb_Zl_17.length = 100 from rfl]; omega), show tb_Zl_17.length = 100 from rfl, show 100 + j - 100 = 0 + j by omega]
  rw [Nat.zero_add]
  rw [List.getElem?_append_left (List.getElem?_eq_some_iff.mp h).1]
  exact h
theorem tz_19 {q : Nat × Instr × Nat} (j : Nat) (h : tb_Zl_19[j]? = some q) : (mi_tb mi_Z_law)[1900 + j]? = some q := by
  show tb_Z_law[1900 + j]? = some q
  unfold tb_Z_law
  rw [List.getElem?_append_right (by show tb_Zl_0.length ≤ _; rw [show tb_Zl_0.length = 100 from rfl]; omega), show tb_Zl_0.length = 100 from rfl, show 1900 + j - 100 = 1800 + j by omega]
  rw [List.getElem?_append_right (by show tb_Zl_1.length ≤ _; rw [show tb_Zl_1.length = 100 from rfl]; omega), show tb_Zl_1.length = 100 from rfl, show 1800 + j - 100 = 1700 + j by omega]
  rw [List.getElem?_append_right (by show tb_Zl_2.length ≤ _; rw [show tb_Zl_2.length = 100 from rfl]; omega), show tb_Zl_2.length = 100 from rfl, show 1700 + j - 100 = 1600 + j by omega]
  rw [List.getElem?_append_right (by show tb_Zl_3.length ≤ _; rw [show tb_Zl_3.length = 100 from rfl]; omega), show tb_Zl_3.length = 100 from rfl, show 1600 + j - 100 = 1500 + j by omega]
  rw [List.getElem?_append_right (by show tb_Zl_4.length ≤ _; rw [show tb_Zl_4.length = 100 from rfl]; omega), show tb_Zl_4.length = 100 from rfl, show 1500 + j - 100 = 1400 + j by omega]
  rw [List.getElem?_append_right (by show tb_Zl_5.length ≤ _; rw [show tb_Zl_5.length = 100 from rfl]; omega), show tb_Zl_5.length = 100 from rfl, show 1400 + j - 100 = 1300 + j by omega]
  rw [List.getElem?_append_right (by show tb_Zl_6.length ≤ _; rw [show tb_Zl_6.length = 100 from rfl]; omega), show tb_Zl_6.length = 100 from rfl, show 1300 + j - 100 = 1200 + j by omega]
  rw [List.getElem?_append_right (by show tb_Zl_7.length ≤ _; rw [show tb_Zl_7.length = 100 from rfl]; omega), show tb_Zl_7.length = 100 from rfl, show 1200 + j - 100 = 1100 + j by omega]
  rw [List.getElem?_append_right (by show tb_Zl_8.length ≤ _; rw [show tb_Zl_8.length = 100 from rfl]; omega), show tb_Zl_8.length = 100 from rfl, show 1100 + j - 100 = 1000 + j by omega]
  rw [List.getElem?_append_right (by show tb_Zl_9.length ≤ _; rw [show tb_Zl_9.length = 100 from rfl]; omega), show tb_Zl_9.length = 100 from rfl, show 1000 + j - 100 = 900 + j by omega]
  rw [List.getElem?_append_right (by show tb_Zl_10.length ≤ _; rw [show tb_Zl_10.length = 100 from rfl]; omega), show tb_Zl_10.length = 100 from rfl, show 900 + j - 100 = 800 + j by omega]
  rw [List.getElem?_append_right (by show tb_Zl_11.length ≤ _; rw [show tb_Zl_11.length = 100 from rfl]; omega), show tb_Zl_11.length = 100 from rfl, show 800 + j - 100 = 700 + j by omega]
  rw [List.getElem?_append_right (by show tb_Zl_12.length ≤ _; rw [show tb_Zl_12.length = 100 from rfl]; omega), show tb_Zl_12.length = 100 from rfl, show 700 + j - 100 = 600 + j by omega]
  rw [List.getElem?_append_right (by show tb_Zl_13.length ≤ _; rw [show tb_Zl_13.length = 100 from rfl]; omega), show tb_Zl_13.length = 100 from rfl, show 600 + j - 100 = 500 + j by omega]
  rw [List.getElem?_append_right (by show tb_Zl_14.length ≤ _; rw [show tb_Zl_14.length = 100 from rfl]; omega), show tb_Zl_14.length = 100 from rfl, show 500 + j - 100 = 400 + j by omega]
  rw [List.getElem?_append_right (by show tb_Zl_15.length ≤ _; rw [show tb_Zl_15.length = 100 from rfl]; omega), show tb_Zl_15.length = 100 from rfl, show 400 + j - 100 = 300 + j by omega]
  rw [List.getElem?_append_right (by show tb_Zl_16.length ≤ _; rw [show tb_Zl_16.length = 100 from rfl]; omega), show tb_Zl_16.length = 100 from rfl, show 300 + j - 100 = 200 + j by omega]
  rw [List.getElem?_append_right (by show tb_Zl_17.length ≤ _; rw [show tb_Zl_17.length = 100 from rfl]; omega), show tb_Zl_17.length = 100 from rfl, show 200 + j - 100 = 100 + j by omega]
  rw [List.getElem?_append_right (by show tb_Zl_18.length ≤ _; rw [show tb_Zl_18.length = 100 from rfl]; omega), show tb_Zl_18.length = 100 from rfl, show 100 + j - 100 = 0 + j by omega]
  rw [Nat.zero_add]
  exact h
theorem lm_Z_155 : Cond.methodLink "DataflowLabLaw" 155 (mi_y mi_Z_appendText) ∈ tb_G := tb_m 1142 (by decide +kernel) rfl
theorem lk_Z_160 : lk_M "DataflowLabLaw" 160 mi_M_appendText := Or.inl (tb_m 1914 (by decide +kernel) rfl)
theorem lk_Z_161 : lk_M "DataflowLabLaw" 161 mi_M_thrown := Or.inl (tb_m 1910 (by decide +kernel) rfl)
theorem lm_Z_164 : Cond.methodLink "DataflowLabLaw" 164 (mi_y mi_Z_truncateText) ∈ tb_G := tb_m 1223 (by decide +kernel) rfl
theorem lk_Z_166 : lk_M "DataflowLabLaw" 166 mi_M_truncateText := Or.inl (tb_m 1918 (by decide +kernel) rfl)
theorem lk_Z_167 : lk_M "DataflowLabLaw" 167 mi_D_loadProgram := Or.inl (tb_m 650 (by decide +kernel) rfl)
theorem lk_Z_170 : lk_M "DataflowLabLaw" 170 mi_M_loadProgram := Or.inl (tb_m 1922 (by decide +kernel) rfl)
theorem lk_Z_171 : lk_M "DataflowLabLaw" 171 mi_D_errorCode := Or.inl (tb_m 674 (by decide +kernel) rfl)
theorem lk_Z_174 : lk_M "DataflowLabLaw" 174 mi_M_errorCode := Or.inl (tb_m 2015 (by decide +kernel) rfl)
theorem lk_Z_175 : lk_M "DataflowLabLaw" 175 mi_D_errorPosition := Or.inl (tb_m 678 (by decide +kernel) rfl)
theorem lk_Z_178 : lk_M "DataflowLabLaw" 178 mi_M_errorPosition := Or.inl (tb_m 2019 (by decide +kernel) rfl)
theorem lk_Z_179 : lk_M "DataflowLabLaw" 179 mi_D_blockCount := Or.inl (tb_m 682 (by decide +kernel) rfl)
theorem lk_Z_182 : lk_M "DataflowLabLaw" 182 mi_M_blockCount := Or.inl (tb_m 2023 (by decide +kernel) rfl)
theorem lk_Z_183 : lk_M "DataflowLabLaw" 183 mi_D_instructionCount := Or.inl (tb_m 686 (by decide +kernel) rfl)
theorem lk_Z_186 : lk_M "DataflowLabLaw" 186 mi_M_instructionCount := Or.inl (tb_m 2027 (by decide +kernel) rfl)
theorem lm_Z_187 : Cond.methodLink "DataflowLabLaw" 187 (mi_y mi_Z_instructionsIn) ∈ tb_G := tb_m 1251 (by decide +kernel) rfl
theorem lk_Z_189 : lk_M "DataflowLabLaw" 189 mi_M_instructionsIn := Or.inl (tb_m 2031 (by decide +kernel) rfl)
theorem lm_Z_190 : Cond.methodLink "DataflowLabLaw" 190 (mi_y mi_Z_blockOf) ∈ tb_G := tb_m 1283 (by decide +kernel) rfl
theorem lk_Z_192 : lk_M "DataflowLabLaw" 192 mi_M_blockOf := Or.inl (tb_m 2039 (by decide +kernel) rfl)
theorem lm_Z_193 : Cond.methodLink "DataflowLabLaw" 193 (mi_y mi_Z_kindOf) ∈ tb_G := tb_m 1296 (by decide +kernel) rfl
theorem lk_Z_195 : lk_M "DataflowLabLaw" 195 mi_M_kindOf := Or.inl (tb_m 2059 (by decide +kernel) rfl)
theorem lm_Z_196 : Cond.methodLink "DataflowLabLaw" 196 (mi_y mi_Z_successor) ∈ tb_G := tb_m 1303 (by decide +kernel) rfl
theorem lk_Z_199 : lk_M "DataflowLabLaw" 199 mi_M_successor := Or.inl (tb_m 2067 (by decide +kernel) rfl)
theorem lm_Z_200 : Cond.methodLink "DataflowLabLaw" 200 (mi_y mi_Z_predecessors) ∈ tb_G := tb_m 1329 (by decide +kernel) rfl
theorem lk_Z_202 : lk_M "DataflowLabLaw" 202 mi_M_predecessors := Or.inl (tb_m 2071 (by decide +kernel) rfl)
theorem lm_Z_203 : Cond.methodLink "DataflowLabLaw" 203 (mi_y mi_Z_isReachable) ∈ tb_G := tb_m 1341 (by decide +kernel) rfl
theorem lk_Z_205 : lk_M "DataflowLabLaw" 205 mi_M_isReachable := Or.inl (tb_m 2082 (by decide +kernel) rfl)
theorem lm_Z_206 : Cond.methodLink "DataflowLabLaw" 206 (mi_y mi_Z_distanceTo) ∈ tb_G := tb_m 1349 (by decide +kernel) rfl
theorem lk_Z_208 : lk_M "DataflowLabLaw" 208 mi_M_distanceTo := Or.inl (tb_m 2110 (by decide +kernel) rfl)
theorem lm_Z_209 : Cond.methodLink "DataflowLabLaw" 209 (mi_y mi_Z_reaches) ∈ tb_G := tb_m 1360 (by decide +kernel) rfl
theorem lk_Z_211 : lk_M "DataflowLabLaw" 211 mi_M_reaches := Or.inl (tb_m 2114 (by decide +kernel) rfl)
theorem lm_Z_212 : Cond.methodLink "DataflowLabLaw" 212 (mi_y mi_Z_reachingDefinitions) ∈ tb_G := tb_m 1373 (by decide +kernel) rfl
theorem lk_Z_214 : lk_M "DataflowLabLaw" 214 mi_M_reachingDefinitions := Or.inl (tb_m 2122 (by decide +kernel) rfl)
theorem lm_Z_215 : Cond.methodLink "DataflowLabLaw" 215 (mi_y mi_Z_isInitialReaching) ∈ tb_G := tb_m 1394 (by decide +kernel) rfl
theorem lk_Z_217 : lk_M "DataflowLabLaw" 217 mi_M_isInitialReaching := Or.inl (tb_m 2130 (by decide +kernel) rfl)
theorem lm_Z_218 : Cond.methodLink "DataflowLabLaw" 218 (mi_y mi_Z_usesOf) ∈ tb_G := tb_m 1402 (by decide +kernel) rfl
theorem lk_Z_220 : lk_M "DataflowLabLaw" 220 mi_M_usesOf := Or.inl (tb_m 2138 (by decide +kernel) rfl)
theorem lm_Z_221 : Cond.methodLink "DataflowLabLaw" 221 (mi_y mi_Z_onlyDefinition) ∈ tb_G := tb_m 1415 (by decide +kernel) rfl
theorem lk_Z_223 : lk_M "DataflowLabLaw" 223 mi_M_onlyDefinition := Or.inl (tb_m 2154 (by decide +kernel) rfl)
theorem lm_Z_224 : Cond.methodLink "DataflowLabLaw" 224 (mi_y mi_Z_isLiveIn) ∈ tb_G := tb_m 1430 (by decide +kernel) rfl
theorem lk_Z_226 : lk_M "DataflowLabLaw" 226 mi_M_isLiveIn := Or.inl (tb_m 2162 (by decide +kernel) rfl)
theorem lm_Z_227 : Cond.methodLink "DataflowLabLaw" 227 (mi_y mi_Z_isLiveOut) ∈ tb_G := tb_m 1441 (by decide +kernel) rfl
theorem lk_Z_229 : lk_M "DataflowLabLaw" 229 mi_M_isLiveOut := Or.inl (tb_m 2182 (by decide +kernel) rfl)
theorem lm_Z_230 : Cond.methodLink "DataflowLabLaw" 230 (mi_y mi_Z_liveBefore) ∈ tb_G := tb_m 1453 (by decide +kernel) rfl
theorem lk_Z_232 : lk_M "DataflowLabLaw" 232 mi_M_liveBefore := Or.inl (tb_m 2186 (by decide +kernel) rfl)
theorem lm_Z_233 : Cond.methodLink "DataflowLabLaw" 233 (mi_y mi_Z_isDead) ∈ tb_G := tb_m 1460 (by decide +kernel) rfl
theorem lk_Z_235 : lk_M "DataflowLabLaw" 235 mi_M_isDead := Or.inl (tb_m 2194 (by decide +kernel) rfl)
theorem lk_Z_236 : lk_M "DataflowLabLaw" 236 mi_D_deadDefinitions := Or.inl (tb_m 690 (by decide +kernel) rfl)
theorem lk_Z_239 : lk_M "DataflowLabLaw" 239 mi_M_deadDefinitions := Or.inl (tb_m 2202 (by decide +kernel) rfl)
theorem lk_Z_240 : lk_M "DataflowLabLaw" 240 mi_D_pressure := Or.inl (tb_m 772 (by decide +kernel) rfl)
theorem lk_Z_243 : lk_M "DataflowLabLaw" 243 mi_M_pressure := Or.inl (tb_m 2210 (by decide +kernel) rfl)
theorem lm_Z_244 : Cond.methodLink "DataflowLabLaw" 244 (mi_y mi_Z_interfere) ∈ tb_G := tb_m 1467 (by decide +kernel) rfl
theorem lk_Z_246 : lk_M "DataflowLabLaw" 246 mi_M_interfere := Or.inl (tb_m 2215 (by decide +kernel) rfl)
theorem lk_Z_247 : lk_M "DataflowLabLaw" 247 mi_D_expressionCount := Or.inl (tb_m 789 (by decide +kernel) rfl)
theorem lk_Z_250 : lk_M "DataflowLabLaw" 250 mi_M_expressionCount := Or.inl (tb_m 2223 (by decide +kernel) rfl)
theorem lm_Z_251 : Cond.methodLink "DataflowLabLaw" 251 (mi_y mi_Z_isRedundant) ∈ tb_G := tb_m 1480 (by decide +kernel) rfl
theorem lk_Z_253 : lk_M "DataflowLabLaw" 253 mi_M_isRedundant := Or.inl (tb_m 2235 (by decide +kernel) rfl)
theorem lk_Z_254 : lk_M "DataflowLabLaw" 254 mi_D_redundantCount := Or.inl (tb_m 896 (by decide +kernel) rfl)
theorem lk_Z_257 : lk_M "DataflowLabLaw" 257 mi_M_redundantCount := Or.inl (tb_m 2255 (by decide +kernel) rfl)
theorem lm_Z_258 : Cond.methodLink "DataflowLabLaw" 258 (mi_y mi_Z_availableAt) ∈ tb_G := tb_m 1488 (by decide +kernel) rfl
theorem lk_Z_260 : lk_M "DataflowLabLaw" 260 mi_M_availableAt := Or.inl (tb_m 2259 (by decide +kernel) rfl)
theorem lm_Z_261 : Cond.methodLink "DataflowLabLaw" 261 (mi_y mi_Z_dominates) ∈ tb_G := tb_m 1499 (by decide +kernel) rfl
theorem lk_Z_263 : lk_M "DataflowLabLaw" 263 mi_M_dominates := Or.inl (tb_m 2263 (by decide +kernel) rfl)
theorem lm_Z_264 : Cond.methodLink "DataflowLabLaw" 264 (mi_y mi_Z_immediateDominator) ∈ tb_G := tb_m 1510 (by decide +kernel) rfl
theorem lk_Z_266 : lk_M "DataflowLabLaw" 266 mi_M_immediateDominator := Or.inl (tb_m 2271 (by decide +kernel) rfl)
theorem lm_Z_267 : Cond.methodLink "DataflowLabLaw" 267 (mi_y mi_Z_commonDominator) ∈ tb_G := tb_m 1521 (by decide +kernel) rfl
theorem lk_Z_269 : lk_M "DataflowLabLaw" 269 mi_M_commonDominator := Or.inl (tb_m 2283 (by decide +kernel) rfl)
theorem lk_Z_270 : lk_M "DataflowLabLaw" 270 mi_D_backEdges := Or.inl (tb_m 909 (by decide +kernel) rfl)
theorem lk_Z_273 : lk_M "DataflowLabLaw" 273 mi_M_backEdges := Or.inl (tb_m 2287 (by decide +kernel) rfl)
theorem lm_Z_274 : Cond.methodLink "DataflowLabLaw" 274 (mi_y mi_Z_loopSize) ∈ tb_G := tb_m 1528 (by decide +kernel) rfl
theorem lk_Z_276 : lk_M "DataflowLabLaw" 276 mi_M_loopSize := Or.inl (tb_m 2295 (by decide +kernel) rfl)
theorem lm_Z_277 : Cond.methodLink "DataflowLabLaw" 277 (mi_y mi_Z_loopDepth) ∈ tb_G := tb_m 1539 (by decide +kernel) rfl
theorem lk_Z_279 : lk_M "DataflowLabLaw" 279 mi_M_loopDepth := Or.inl (tb_m 2307 (by decide +kernel) rfl)
theorem lm_Z_280 : Cond.methodLink "DataflowLabLaw" 280 (mi_y mi_Z_constantAt) ∈ tb_G := tb_m 1550 (by decide +kernel) rfl
theorem lk_Z_282 : lk_M "DataflowLabLaw" 282 mi_M_constantAt := Or.inl (tb_m 2311 (by decide +kernel) rfl)
theorem lm_Z_283 : Cond.methodLink "DataflowLabLaw" 283 (mi_y mi_Z_constantOf) ∈ tb_G := tb_m 1558 (by decide +kernel) rfl
theorem lk_Z_285 : lk_M "DataflowLabLaw" 285 mi_M_constantOf := Or.inl (tb_m 2342 (by decide +kernel) rfl)
theorem lk_Z_286 : lk_M "DataflowLabLaw" 286 mi_D_decidedBranches := Or.inl (tb_m 918 (by decide +kernel) rfl)
theorem lk_Z_289 : lk_M "DataflowLabLaw" 289 mi_M_decidedBranches := Or.inl (tb_m 2350 (by decide +kernel) rfl)
theorem lm_Z_290 : Cond.methodLink "DataflowLabLaw" 290 (mi_y mi_Z_runSteps) ∈ tb_G := tb_m 1565 (by decide +kernel) rfl
theorem lk_Z_292 : lk_M "DataflowLabLaw" 292 mi_M_runSteps := Or.inl (tb_m 2354 (by decide +kernel) rfl)
theorem lm_Z_293 : Cond.methodLink "DataflowLabLaw" 293 (mi_y mi_Z_runEnds) ∈ tb_G := tb_m 1582 (by decide +kernel) rfl
theorem lk_Z_295 : lk_M "DataflowLabLaw" 295 mi_M_runEnds := Or.inl (tb_m 2378 (by decide +kernel) rfl)
theorem lm_Z_296 : Cond.methodLink "DataflowLabLaw" 296 (mi_y mi_Z_valueAfter) ∈ tb_G := tb_m 1589 (by decide +kernel) rfl
theorem lk_Z_298 : lk_M "DataflowLabLaw" 298 mi_M_valueAfter := Or.inl (tb_m 2382 (by decide +kernel) rfl)
theorem lm_Z_299 : Cond.methodLink "DataflowLabLaw" 299 (mi_y mi_Z_lastShown) ∈ tb_G := tb_m 1604 (by decide +kernel) rfl
theorem lk_Z_301 : lk_M "DataflowLabLaw" 301 mi_M_lastShown := Or.inl (tb_m 2386 (by decide +kernel) rfl)
theorem lm_Z_302 : Cond.methodLink "DataflowLabLaw" 302 (mi_y mi_Z_visits) ∈ tb_G := tb_m 1611 (by decide +kernel) rfl
theorem lk_Z_304 : lk_M "DataflowLabLaw" 304 mi_M_visits := Or.inl (tb_m 2390 (by decide +kernel) rfl)
theorem lk_Z_305 : lk_M "DataflowLabLaw" 305 mi_D_auditDifference := Or.inl (tb_m 991 (by decide +kernel) rfl)
theorem lk_Z_308 : lk_M "DataflowLabLaw" 308 mi_M_auditDifference := Or.inl (tb_m 2394 (by decide +kernel) rfl)
theorem lk_Z_309 : lk_M "DataflowLabLaw" 309 mi_D_deadShare := Or.inl (tb_m 1075 (by decide +kernel) rfl)
theorem lk_Z_313 : lk_M "DataflowLabLaw" 313 mi_M_deadShare := Or.inl (tb_m 2398 (by decide +kernel) rfl)
theorem lk_Z_314 : lk_M "DataflowLabLaw" 314 mi_D_meanLive := Or.inl (tb_m 1084 (by decide +kernel) rfl)
theorem lk_Z_318 : lk_M "DataflowLabLaw" 318 mi_M_meanLive := Or.inl (tb_m 2406 (by decide +kernel) rfl)
theorem lm_Z_319 : Cond.methodLink "DataflowLabLaw" 319 (mi_y mi_Z_insertSet) ∈ tb_G := tb_m 1622 (by decide +kernel) rfl
theorem lk_Z_322 : lk_M "DataflowLabLaw" 322 mi_M_insertSet := Or.inl (tb_m 2410 (by decide +kernel) rfl)
theorem lm_Z_323 : Cond.methodLink "DataflowLabLaw" 323 (mi_y mi_Z_insertCalc) ∈ tb_G := tb_m 1656 (by decide +kernel) rfl
theorem lk_Z_326 : lk_M "DataflowLabLaw" 326 mi_M_insertCalc := Or.inl (tb_m 2426 (by decide +kernel) rfl)
theorem lm_Z_327 : Cond.methodLink "DataflowLabLaw" 327 (mi_y mi_Z_removeInstruction) ∈ tb_G := tb_m 1670 (by decide +kernel) rfl
theorem lk_Z_329 : lk_M "DataflowLabLaw" 329 mi_M_removeInstruction := Or.inl (tb_m 2430 (by decide +kernel) rfl)
theorem lm_Z_330 : Cond.methodLink "DataflowLabLaw" 330 (mi_y mi_Z_setGoto) ∈ tb_G := tb_m 1677 (by decide +kernel) rfl
theorem lk_Z_332 : lk_M "DataflowLabLaw" 332 mi_M_setGoto := Or.inl (tb_m 2438 (by decide +kernel) rfl)
theorem lm_Z_333 : Cond.methodLink "DataflowLabLaw" 333 (mi_y mi_Z_setBranch) ∈ tb_G := tb_m 1689 (by decide +kernel) rfl
theorem lk_Z_335 : lk_M "DataflowLabLaw" 335 mi_M_setBranch := Or.inl (tb_m 2446 (by decide +kernel) rfl)
theorem lk_Z_336 : lk_M "DataflowLabLaw" 336 mi_D_removeDead := Or.inl (tb_m 1092 (by decide +kernel) rfl)
theorem lk_Z_339 : lk_M "DataflowLabLaw" 339 mi_M_removeDead := Or.inl (tb_m 2450 (by decide +kernel) rfl)
theorem lk_Z_340 : lk_M "DataflowLabLaw" 340 mi_D_foldConstants := Or.inl (tb_m 1115 (by decide +kernel) rfl)
theorem lk_Z_343 : lk_M "DataflowLabLaw" 343 mi_M_foldConstants := Or.inl (tb_m 2458 (by decide +kernel) rfl)
theorem lm_Z_344 : Cond.methodLink "DataflowLabLaw" 344 (mi_y mi_Z_writeBlock) ∈ tb_G := tb_m 1697 (by decide +kernel) rfl
theorem lk_Z_346 : lk_M "DataflowLabLaw" 346 mi_M_writeBlock := Or.inl (tb_m 2462 (by decide +kernel) rfl)
theorem lk_Z_347 : lk_M "DataflowLabLaw" 347 mi_D_outputByte := Or.inl (tb_m 1133 (by decide +kernel) rfl)
theorem lk_Z_350 : lk_M "DataflowLabLaw" 350 mi_M_outputByte := Or.inl (tb_m 2493 (by decide +kernel) rfl)
theorem lm_Z_351 : Cond.methodLink "DataflowLabLaw" 351 (mi_y mi_Z_undo) ∈ tb_G := tb_m 1763 (by decide +kernel) rfl
theorem lk_Z_354 : lk_M "DataflowLabLaw" 354 mi_M_undo := Or.inl (tb_m 2497 (by decide +kernel) rfl)
theorem lm_Z_355 : Cond.methodLink "DataflowLabLaw" 355 (mi_y mi_Z_saveSnapshot) ∈ tb_G := tb_m 1775 (by decide +kernel) rfl
theorem lk_Z_358 : lk_M "DataflowLabLaw" 358 mi_M_saveSnapshot := Or.inl (tb_m 2501 (by decide +kernel) rfl)
theorem lm_Z_359 : Cond.methodLink "DataflowLabLaw" 359 (mi_y mi_Z_restoreSnapshot) ∈ tb_G := tb_m 1783 (by decide +kernel) rfl
theorem lk_Z_361 : lk_M "DataflowLabLaw" 361 mi_M_restoreSnapshot := Or.inl (tb_m 2505 (by decide +kernel) rfl)
theorem nw_Z_8 : nw_W "DataflowLabLaw" 8 10 := ⟨by decide, tb_m 171 (by decide +kernel) rfl, tb_m 172 (by decide +kernel) rfl, tb_m 144 (by decide +kernel) rfl⟩
theorem lk_Z_151 : lk_M "DataflowLabLaw" 151 mi_D_init := Or.inl (tb_m 173 (by decide +kernel) rfl)
theorem nw_Z_152 : nw_W "DataflowLabLaw" 152 11 := ⟨by decide, tb_m 1791 (by decide +kernel) rfl, tb_m 1792 (by decide +kernel) rfl, tb_m 161 (by decide +kernel) rfl⟩
theorem lk_Z_154 : lk_M "DataflowLabLaw" 154 mi_M_init := Or.inl (tb_m 1793 (by decide +kernel) rfl)
