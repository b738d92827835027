-- constants and rows of the tables
theorem ic_m1 : Int32.ofInt (-1) = (-1) := by decide
theorem ic_0 : Int32.ofInt (0) = (nI 0) := by decide
theorem ic_1 : Int32.ofInt (1) = (nI 1) := by decide
theorem ic_2 : Int32.ofInt (2) = (nI 2) := by decide
theorem ic_3 : Int32.ofInt (3) = (nI 3) := by decide
theorem ic_4 : Int32.ofInt (4) = (nI 4) := by decide
theorem ic_5 : Int32.ofInt (5) = (nI 5) := by decide
theorem bi_m29 : (Int8.ofInt (-29)).toInt32 = (-29) := by decide
theorem bi_m16 : (Int8.ofInt (-16)).toInt32 = (-16) := by decide
theorem bi_m13 : (Int8.ofInt (-13)).toInt32 = (-13) := by decide
theorem bi_m12 : (Int8.ofInt (-12)).toInt32 = (-12) := by decide
theorem bi_m11 : (Int8.ofInt (-11)).toInt32 = (-11) := by decide
theorem bi_m10 : (Int8.ofInt (-10)).toInt32 = (-10) := by decide
theorem bi_6 : (Int8.ofInt (6)).toInt32 = (nI 6) := by decide
theorem bi_7 : (Int8.ofInt (7)).toInt32 = (nI 7) := by decide
theorem bi_8 : (Int8.ofInt (8)).toInt32 = (nI 8) := by decide
theorem bi_9 : (Int8.ofInt (9)).toInt32 = (nI 9) := by decide
theorem bi_10 : (Int8.ofInt (10)).toInt32 = (nI 10) := by decide
theorem bi_11 : (Int8.ofInt (11)).toInt32 = (nI 11) := by decide
theorem bi_15 : (Int8.ofInt (15)).toInt32 = (nI 15) := by decide
theorem bi_16 : (Int8.ofInt (16)).toInt32 = (nI 16) := by decide
theorem bi_18 : (Int8.ofInt (18)).toInt32 = (nI 18) := by decide
theorem bi_19 : (Int8.ofInt (19)).toInt32 = (nI 19) := by decide
theorem bi_20 : (Int8.ofInt (20)).toInt32 = (nI 20) := by decide
theorem bi_24 : (Int8.ofInt (24)).toInt32 = (nI 24) := by decide
theorem bi_30 : (Int8.ofInt (30)).toInt32 = (nI 30) := by decide
theorem bi_32 : (Int8.ofInt (32)).toInt32 = (nI 32) := by decide
theorem bi_40 : (Int8.ofInt (40)).toInt32 = (nI 40) := by decide
theorem bi_42 : (Int8.ofInt (42)).toInt32 = (nI 42) := by decide
theorem bi_44 : (Int8.ofInt (44)).toInt32 = (nI 44) := by decide
theorem bi_48 : (Int8.ofInt (48)).toInt32 = (nI 48) := by decide
theorem bi_49 : (Int8.ofInt (49)).toInt32 = (nI 49) := by decide
theorem bi_50 : (Int8.ofInt (50)).toInt32 = (nI 50) := by decide
theorem bi_51 : (Int8.ofInt (51)).toInt32 = (nI 51) := by decide
theorem bi_52 : (Int8.ofInt (52)).toInt32 = (nI 52) := by decide
theorem bi_56 : (Int8.ofInt (56)).toInt32 = (nI 56) := by decide
theorem bi_57 : (Int8.ofInt (57)).toInt32 = (nI 57) := by decide
theorem bi_58 : (Int8.ofInt (58)).toInt32 = (nI 58) := by decide
theorem bi_59 : (Int8.ofInt (59)).toInt32 = (nI 59) := by decide
theorem bi_61 : (Int8.ofInt (61)).toInt32 = (nI 61) := by decide
theorem bi_63 : (Int8.ofInt (63)).toInt32 = (nI 63) := by decide
theorem bi_64 : (Int8.ofInt (64)).toInt32 = (nI 64) := by decide
theorem bi_100 : (Int8.ofInt (100)).toInt32 = (nI 100) := by decide
theorem bi_114 : (Int8.ofInt (114)).toInt32 = (nI 114) := by decide
theorem bi_115 : (Int8.ofInt (115)).toInt32 = (nI 115) := by decide
theorem bi_119 : (Int8.ofInt (119)).toInt32 = (nI 119) := by decide
theorem bi_127 : (Int8.ofInt (127)).toInt32 = (nI 127) := by decide
theorem si_128 : (Int16.ofInt (128)).toInt32 = (nI 128) := by decide
theorem si_200 : (Int16.ofInt (200)).toInt32 = (nI 200) := by decide
theorem si_201 : (Int16.ofInt (201)).toInt32 = (nI 201) := by decide
theorem si_223 : (Int16.ofInt (223)).toInt32 = (nI 223) := by decide
theorem si_255 : (Int16.ofInt (255)).toInt32 = (nI 255) := by decide
theorem si_256 : (Int16.ofInt (256)).toInt32 = (nI 256) := by decide
theorem si_512 : (Int16.ofInt (512)).toInt32 = (nI 512) := by decide
theorem f_0_11 : fR 0 11 = some (0, 0) := by decide +kernel
theorem f_0_17 : fR 0 17 = some (0, 1) := by decide +kernel
theorem f_0_23 : fR 0 23 = some (0, 2) := by decide +kernel
theorem f_0_27 : fR 0 27 = some (0, 3) := by decide +kernel
theorem f_0_30 : fR 0 30 = some (0, 4) := by decide +kernel
theorem f_0_36 : fR 0 36 = some (0, 5) := by decide +kernel
theorem f_0_40 : fR 0 40 = some (0, 6) := by decide +kernel
theorem f_0_43 : fR 0 43 = some (0, 7) := by decide +kernel
theorem f_0_46 : fR 0 46 = some (0, 8) := by decide +kernel
theorem f_0_49 : fR 0 49 = some (0, 9) := by decide +kernel
theorem f_0_53 : fR 0 53 = some (0, 10) := by decide +kernel
theorem f_0_56 : fR 0 56 = some (0, 11) := by decide +kernel
theorem f_0_59 : fR 0 59 = some (0, 12) := by decide +kernel
theorem f_0_62 : fR 0 62 = some (0, 13) := by decide +kernel
theorem f_0_93 : fR 0 93 = some (2, 0) := by decide +kernel
theorem f_0_100 : fR 0 100 = some (2, 2) := by decide +kernel
theorem f_0_103 : fR 0 103 = some (2, 1) := by decide +kernel
theorem f_0_106 : fR 0 106 = some (5, 0) := by decide +kernel
theorem f_0_109 : fR 0 109 = some (5, 1) := by decide +kernel
theorem f_0_112 : fR 0 112 = some (5, 2) := by decide +kernel
theorem f_0_127 : fR 0 127 = some (3, 1) := by decide +kernel
theorem f_0_131 : fR 0 131 = some (3, 2) := by decide +kernel
theorem f_0_134 : fR 0 134 = some (3, 0) := by decide +kernel
theorem f_0_137 : fR 0 137 = some (2, 5) := by decide +kernel
theorem f_0_205 : fR 0 205 = some (2, 6) := by decide +kernel
theorem f_0_240 : fR 0 240 = some (2, 3) := by decide +kernel
theorem f_1_11 : fR 1 11 = some (1, 0) := by decide +kernel
theorem f_1_17 : fR 1 17 = some (1, 1) := by decide +kernel
theorem f_1_21 : fR 1 21 = some (1, 2) := by decide +kernel
theorem f_1_25 : fR 1 25 = some (1, 3) := by decide +kernel
theorem f_1_28 : fR 1 28 = some (1, 4) := by decide +kernel
theorem f_1_31 : fR 1 31 = some (1, 5) := by decide +kernel
theorem f_1_43 : fR 1 43 = some (3, 0) := by decide +kernel
theorem f_1_47 : fR 1 47 = some (3, 1) := by decide +kernel
theorem f_1_50 : fR 1 50 = some (3, 2) := by decide +kernel
theorem f_1_53 : fR 1 53 = some (3, 3) := by decide +kernel
theorem f_1_54 : fR 1 54 = some (3, 4) := by decide +kernel
theorem f_2_9 : fR 2 9 = some (2, 0) := by decide +kernel
theorem f_2_15 : fR 2 15 = some (2, 1) := by decide +kernel
theorem f_2_18 : fR 2 18 = some (2, 2) := by decide +kernel
theorem f_2_22 : fR 2 22 = some (2, 3) := by decide +kernel
theorem f_2_25 : fR 2 25 = some (2, 4) := by decide +kernel
theorem f_2_29 : fR 2 29 = some (2, 5) := by decide +kernel
theorem f_2_32 : fR 2 32 = some (2, 6) := by decide +kernel
theorem f_3_9 : fR 3 9 = some (3, 0) := by decide +kernel
theorem f_3_15 : fR 3 15 = some (3, 1) := by decide +kernel
theorem f_3_19 : fR 3 19 = some (3, 2) := by decide +kernel
theorem f_3_22 : fR 3 22 = some (3, 3) := by decide +kernel
theorem f_3_25 : fR 3 25 = some (3, 4) := by decide +kernel
theorem f_4_9 : fR 4 9 = some (4, 0) := by decide +kernel
theorem f_4_15 : fR 4 15 = some (4, 1) := by decide +kernel
theorem f_4_19 : fR 4 19 = some (4, 2) := by decide +kernel
theorem f_4_22 : fR 4 22 = some (4, 3) := by decide +kernel
theorem f_4_25 : fR 4 25 = some (4, 4) := by decide +kernel
theorem f_4_28 : fR 4 28 = some (4, 5) := by decide +kernel
theorem f_4_31 : fR 4 31 = some (4, 6) := by decide +kernel
theorem f_4_34 : fR 4 34 = some (4, 7) := by decide +kernel
theorem f_4_37 : fR 4 37 = some (4, 8) := by decide +kernel
theorem f_4_40 : fR 4 40 = some (4, 9) := by decide +kernel
theorem f_5_9 : fR 5 9 = some (5, 0) := by decide +kernel
theorem f_5_15 : fR 5 15 = some (5, 1) := by decide +kernel
theorem f_5_18 : fR 5 18 = some (5, 2) := by decide +kernel
theorem f_5_21 : fR 5 21 = some (5, 3) := by decide +kernel
theorem f_5_25 : fR 5 25 = some (5, 4) := by decide +kernel
theorem f_5_28 : fR 5 28 = some (5, 5) := by decide +kernel
theorem f_6_10 : fR 6 10 = some (6, 0) := by decide +kernel
theorem f_6_16 : fR 6 16 = some (6, 1) := by decide +kernel
theorem f_6_19 : fR 6 19 = some (6, 2) := by decide +kernel
theorem f_6_22 : fR 6 22 = some (6, 3) := by decide +kernel
theorem f_6_26 : fR 6 26 = some (6, 4) := by decide +kernel
theorem f_6_33 : fR 6 33 = some (6, 5) := by decide +kernel
theorem f_6_41 : fR 6 41 = some (0, 5) := by decide +kernel
theorem f_6_45 : fR 6 45 = some (5, 0) := by decide +kernel
theorem f_6_57 : fR 6 57 = some (0, 1) := by decide +kernel
theorem f_6_60 : fR 6 60 = some (0, 3) := by decide +kernel
theorem f_6_84 : fR 6 84 = some (2, 2) := by decide +kernel
theorem f_6_99 : fR 6 99 = some (0, 4) := by decide +kernel
theorem f_6_115 : fR 6 115 = some (1, 1) := by decide +kernel
theorem f_6_154 : fR 6 154 = some (2, 5) := by decide +kernel
theorem f_6_184 : fR 6 184 = some (4, 1) := by decide +kernel
theorem f_6_245 : fR 6 245 = some (4, 5) := by decide +kernel
theorem f_6_248 : fR 6 248 = some (4, 8) := by decide +kernel
theorem f_6_251 : fR 6 251 = some (4, 6) := by decide +kernel
theorem f_6_254 : fR 6 254 = some (4, 7) := by decide +kernel
theorem f_6_257 : fR 6 257 = some (4, 9) := by decide +kernel
theorem c_0_35 : cR 0 35 = some (21, 6) := by decide +kernel
theorem c_0_65 : cR 0 65 = some (5, 6) := by decide +kernel
theorem c_0_66 : cR 0 66 = some (14, 6) := by decide +kernel
theorem c_0_67 : cR 0 67 = some (6, 1) := by decide +kernel
theorem c_0_71 : cR 0 71 = some (15, 1) := by decide +kernel
theorem c_0_74 : cR 0 74 = some (22, 1) := by decide +kernel
theorem c_0_77 : cR 0 77 = some (29, 0) := by decide +kernel
theorem c_0_81 : cR 0 81 = some (30, 0) := by decide +kernel
theorem c_0_85 : cR 0 85 = some (7, 1) := by decide +kernel
theorem c_0_89 : cR 0 89 = some (31, 0) := by decide +kernel
theorem c_0_96 : cR 0 96 = some (34, 0) := by decide +kernel
theorem c_0_115 : cR 0 115 = some (26, 1) := by decide +kernel
theorem c_0_119 : cR 0 119 = some (32, 0) := by decide +kernel
theorem c_0_122 : cR 0 122 = some (2, 1) := by decide +kernel
theorem c_0_128 : cR 0 128 = some (35, 0) := by decide +kernel
theorem c_0_146 : cR 0 146 = some (44, 0) := by decide +kernel
theorem c_0_150 : cR 0 150 = some (39, 0) := by decide +kernel
theorem c_0_153 : cR 0 153 = some (45, 0) := by decide +kernel
theorem c_0_156 : cR 0 156 = some (47, 0) := by decide +kernel
theorem c_0_159 : cR 0 159 = some (51, 0) := by decide +kernel
theorem c_0_162 : cR 0 162 = some (54, 0) := by decide +kernel
theorem c_0_165 : cR 0 165 = some (50, 0) := by decide +kernel
theorem c_0_168 : cR 0 168 = some (56, 0) := by decide +kernel
theorem c_0_171 : cR 0 171 = some (55, 0) := by decide +kernel
theorem c_0_174 : cR 0 174 = some (61, 0) := by decide +kernel
theorem c_0_177 : cR 0 177 = some (62, 0) := by decide +kernel
theorem c_0_180 : cR 0 180 = some (24, 1) := by decide +kernel
theorem c_0_184 : cR 0 184 = some (46, 0) := by decide +kernel
theorem c_0_188 : cR 0 188 = some (33, 0) := by decide +kernel
theorem c_0_192 : cR 0 192 = some (48, 0) := by decide +kernel
theorem c_0_196 : cR 0 196 = some (49, 0) := by decide +kernel
theorem c_0_199 : cR 0 199 = some (3, 1) := by decide +kernel
theorem c_0_202 : cR 0 202 = some (11, 1) := by decide +kernel
theorem c_0_208 : cR 0 208 = some (17, 1) := by decide +kernel
theorem c_0_209 : cR 0 209 = some (52, 0) := by decide +kernel
theorem c_0_212 : cR 0 212 = some (53, 0) := by decide +kernel
theorem c_0_215 : cR 0 215 = some (19, 1) := by decide +kernel
theorem c_0_218 : cR 0 218 = some (12, 1) := by decide +kernel
theorem c_0_221 : cR 0 221 = some (59, 0) := by decide +kernel
theorem c_0_225 : cR 0 225 = some (60, 0) := by decide +kernel
theorem c_0_228 : cR 0 228 = some (18, 1) := by decide +kernel
theorem c_0_231 : cR 0 231 = some (57, 0) := by decide +kernel
theorem c_0_234 : cR 0 234 = some (58, 0) := by decide +kernel
theorem c_0_237 : cR 0 237 = some (10, 1) := by decide +kernel
theorem c_1_34 : cR 1 34 = some (0, 6) := by decide +kernel
theorem c_1_35 : cR 1 35 = some (1, 1) := by decide +kernel
theorem c_1_39 : cR 1 39 = some (119, 3) := by decide +kernel
theorem c_1_58 : cR 1 58 = some (7, 0) := by decide +kernel
theorem c_1_62 : cR 1 62 = some (10, 0) := by decide +kernel
theorem c_2_35 : cR 2 35 = some (119, 3) := by decide +kernel
theorem c_3_29 : cR 3 29 = some (3, 0) := by decide +kernel
theorem c_4_44 : cR 4 44 = some (65, 0) := by decide +kernel
theorem c_4_47 : cR 4 47 = some (67, 0) := by decide +kernel
theorem c_4_51 : cR 4 51 = some (78, 0) := by decide +kernel
theorem c_4_55 : cR 4 55 = some (68, 0) := by decide +kernel
theorem c_4_58 : cR 4 58 = some (74, 0) := by decide +kernel
theorem c_4_62 : cR 4 62 = some (69, 0) := by decide +kernel
theorem c_4_65 : cR 4 65 = some (70, 0) := by decide +kernel
theorem c_4_68 : cR 4 68 = some (71, 0) := by decide +kernel
theorem c_4_71 : cR 4 71 = some (76, 0) := by decide +kernel
theorem c_4_74 : cR 4 74 = some (73, 0) := by decide +kernel
theorem c_4_78 : cR 4 78 = some (72, 0) := by decide +kernel
theorem c_4_81 : cR 4 81 = some (75, 0) := by decide +kernel
theorem c_4_84 : cR 4 84 = some (77, 2) := by decide +kernel
theorem c_5_31 : cR 5 31 = some (119, 3) := by decide +kernel
theorem c_5_41 : cR 5 41 = some (25, 0) := by decide +kernel
theorem c_6_9 : cR 6 9 = some (27, 6) := by decide +kernel
theorem c_6_32 : cR 6 32 = some (63, 6) := by decide +kernel
theorem c_6_37 : cR 6 37 = some (110, 2) := by decide +kernel
theorem c_6_50 : cR 6 50 = some (116, 0) := by decide +kernel
theorem c_6_53 : cR 6 53 = some (28, 1) := by decide +kernel
theorem c_6_70 : cR 6 70 = some (34, 1) := by decide +kernel
theorem c_6_76 : cR 6 76 = some (36, 1) := by decide +kernel
theorem c_6_80 : cR 6 80 = some (112, 0) := by decide +kernel
theorem c_6_92 : cR 6 92 = some (37, 1) := by decide +kernel
theorem c_6_96 : cR 6 96 = some (16, 1) := by decide +kernel
theorem c_6_102 : cR 6 102 = some (111, 0) := by decide +kernel
theorem c_6_111 : cR 6 111 = some (113, 0) := by decide +kernel
theorem c_6_122 : cR 6 122 = some (33, 1) := by decide +kernel
theorem c_6_128 : cR 6 128 = some (9, 1) := by decide +kernel
theorem c_6_131 : cR 6 131 = some (42, 1) := by decide +kernel
theorem c_6_135 : cR 6 135 = some (43, 1) := by decide +kernel
theorem c_6_138 : cR 6 138 = some (13, 1) := by decide +kernel
theorem c_6_141 : cR 6 141 = some (7, 1) := by decide +kernel
theorem c_6_150 : cR 6 150 = some (4, 1) := by decide +kernel
theorem c_6_153 : cR 6 153 = some (20, 1) := by decide +kernel
theorem c_6_157 : cR 6 157 = some (17, 1) := by decide +kernel
theorem c_6_160 : cR 6 160 = some (38, 1) := by decide +kernel
theorem c_6_161 : cR 6 161 = some (23, 1) := by decide +kernel
theorem c_6_166 : cR 6 166 = some (25, 1) := by decide +kernel
theorem c_6_168 : cR 6 168 = some (115, 0) := by decide +kernel
theorem c_6_171 : cR 6 171 = some (41, 1) := by decide +kernel
theorem c_6_175 : cR 6 175 = some (40, 1) := by decide +kernel
theorem c_6_178 : cR 6 178 = some (30, 1) := by decide +kernel
theorem c_6_189 : cR 6 189 = some (64, 1) := by decide +kernel
theorem c_6_192 : cR 6 192 = some (66, 1) := by decide +kernel
theorem c_6_195 : cR 6 195 = some (65, 1) := by decide +kernel
theorem c_6_198 : cR 6 198 = some (67, 1) := by decide +kernel
theorem c_6_202 : cR 6 202 = some (114, 0) := by decide +kernel
theorem c_6_205 : cR 6 205 = some (118, 0) := by decide +kernel
theorem c_6_213 : cR 6 213 = some (106, 2) := by decide +kernel
theorem c_6_217 : cR 6 217 = some (107, 0) := by decide +kernel
theorem c_6_220 : cR 6 220 = some (31, 1) := by decide +kernel
theorem c_6_223 : cR 6 223 = some (109, 2) := by decide +kernel
theorem c_6_229 : cR 6 229 = some (108, 2) := by decide +kernel
theorem c_6_241 : cR 6 241 = some (8, 1) := by decide +kernel
theorem c_6_261 : cR 6 261 = some (117, 0) := by decide +kernel
theorem c_8_9 : cR 8 9 = some (80, 0) := by decide +kernel
theorem c_8_17 : cR 8 17 = some (81, 0) := by decide +kernel
theorem c_8_23 : cR 8 23 = some (82, 0) := by decide +kernel
theorem c_8_29 : cR 8 29 = some (83, 0) := by decide +kernel
theorem c_8_32 : cR 8 32 = some (84, 0) := by decide +kernel
theorem c_8_35 : cR 8 35 = some (85, 0) := by decide +kernel
theorem c_8_39 : cR 8 39 = some (86, 0) := by decide +kernel
theorem c_8_43 : cR 8 43 = some (87, 0) := by decide +kernel
theorem c_8_46 : cR 8 46 = some (88, 0) := by decide +kernel
theorem c_8_49 : cR 8 49 = some (90, 0) := by decide +kernel
theorem c_8_52 : cR 8 52 = some (91, 0) := by decide +kernel
theorem c_8_55 : cR 8 55 = some (92, 0) := by decide +kernel
theorem c_8_58 : cR 8 58 = some (93, 0) := by decide +kernel
theorem c_8_61 : cR 8 61 = some (94, 0) := by decide +kernel
theorem c_8_64 : cR 8 64 = some (95, 0) := by decide +kernel
theorem c_8_67 : cR 8 67 = some (97, 0) := by decide +kernel
theorem c_8_70 : cR 8 70 = some (99, 0) := by decide +kernel
theorem c_8_73 : cR 8 73 = some (101, 0) := by decide +kernel
theorem c_8_76 : cR 8 76 = some (104, 0) := by decide +kernel
theorem c_8_80 : cR 8 80 = some (133, 4) := by decide +kernel
theorem c_8_85 : cR 8 85 = some (129, 4) := by decide +kernel
theorem c_8_88 : cR 8 88 = some (135, 4) := by decide +kernel
theorem c_8_90 : cR 8 90 = some (130, 4) := by decide +kernel
theorem c_8_93 : cR 8 93 = some (131, 4) := by decide +kernel
theorem c_8_95 : cR 8 95 = some (132, 4) := by decide +kernel
theorem c_8_97 : cR 8 97 = some (134, 4) := by decide +kernel
theorem c_8_99 : cR 8 99 = some (96, 0) := by decide +kernel
theorem c_8_102 : cR 8 102 = some (136, 4) := by decide +kernel
theorem c_8_104 : cR 8 104 = some (139, 2) := by decide +kernel
theorem c_8_108 : cR 8 108 = some (89, 0) := by decide +kernel
theorem c_8_111 : cR 8 111 = some (138, 4) := by decide +kernel
theorem c_8_113 : cR 8 113 = some (128, 4) := by decide +kernel
theorem c_8_115 : cR 8 115 = some (98, 0) := by decide +kernel
theorem c_8_118 : cR 8 118 = some (102, 0) := by decide +kernel
theorem c_8_121 : cR 8 121 = some (103, 0) := by decide +kernel
theorem c_8_124 : cR 8 124 = some (137, 4) := by decide +kernel
theorem c_8_126 : cR 8 126 = some (127, 4) := by decide +kernel
theorem c_8_128 : cR 8 128 = some (105, 0) := by decide +kernel
theorem c_8_132 : cR 8 132 = some (120, 4) := by decide +kernel
theorem c_8_134 : cR 8 134 = some (121, 4) := by decide +kernel
theorem c_8_136 : cR 8 136 = some (122, 4) := by decide +kernel
theorem c_8_139 : cR 8 139 = some (123, 4) := by decide +kernel
theorem c_8_141 : cR 8 141 = some (124, 4) := by decide +kernel
theorem c_8_143 : cR 8 143 = some (125, 4) := by decide +kernel
theorem c_8_152 : cR 8 152 = some (126, 4) := by decide +kernel
theorem c_8_154 : cR 8 154 = some (141, 2) := by decide +kernel
theorem c_8_158 : cR 8 158 = some (142, 2) := by decide +kernel
theorem c_8_162 : cR 8 162 = some (143, 2) := by decide +kernel
theorem c_8_166 : cR 8 166 = some (79, 5) := by decide +kernel
theorem c_8_167 : cR 8 167 = some (140, 2) := by decide +kernel
theorem c_8_171 : cR 8 171 = some (100, 2) := by decide +kernel
theorem c_8_175 : cR 8 175 = some (145, 2) := by decide +kernel
theorem c_8_178 : cR 8 178 = some (144, 2) := by decide +kernel
section TS
variable {m pc : Nat} {ls r : List Value} {w : Wd} {I : MI} {L : ML} {P : MP}
theorem go_tsI {dflt lo hi z off : Int} {offs : Array Int} {len t k : Nat} (hd : decode (mB m) pc = .ok (.tableswitch dflt lo hi offs, len)) (hx : (nI k).toInt = z) (h1 : ¬ z < lo) (h2 : ¬ hi < z) (ho : offs[(z - lo).toNat]? = some off) (ht : (pc : Int) + off = (t : Int)) : go m pc ls (.int (nI k) :: r) w I L P = go m t ls r w I L P := by
  refine go_A (n := (t, ls, r)) hd ?_
  simp only [stA, hx]
  rw [if_neg (by omega), ho]
  exact jmp_at ht
theorem go_tsO {dflt lo hi : Int} {offs : Array Int} {len t : Nat} {x : Int32} (hd : decode (mB m) pc = .ok (.tableswitch dflt lo hi offs, len)) (h : x.toInt < lo ∨ hi < x.toInt) (ht : (pc : Int) + dflt = (t : Int)) : go m pc ls (.int x :: r) w I L P = go m t ls r w I L P := by
  refine go_A (n := (t, ls, r)) hd ?_
  simp only [stA]
  rw [if_pos h]
  exact jmp_at ht
theorem go_lsI {dflt z off : Int} {ps : Array (Int × Int)} {len t k : Nat} (hd : decode (mB m) pc = .ok (.lookupswitch dflt ps, len)) (hp : (ps.toList.zip (ps.toList.drop 1)).all (fun (a, next) => a.1 < next.1) = true) (hx : (nI k).toInt = z) (ho : Op.lookupswitch.offset ps.toList dflt z = off) (ht : (pc : Int) + off = (t : Int)) : go m pc ls (.int (nI k) :: r) w I L P = go m t ls r w I L P := by
  refine go_A (n := (t, ls, r)) hd ?_
  simp only [stA, hx, ho]
  rw [if_pos hp]
  exact jmp_at ht
theorem go_lsO {dflt off : Int} {ps : Array (Int × Int)} {len t : Nat} {x : Int32} (hd : decode (mB m) pc = .ok (.lookupswitch dflt ps, len)) (hp : (ps.toList.zip (ps.toList.drop 1)).all (fun (a, next) => a.1 < next.1) = true) (ho : Op.lookupswitch.offset ps.toList dflt x.toInt = off) (ht : (pc : Int) + off = (t : Int)) : go m pc ls (.int x :: r) w I L P = go m t ls r w I L P := by
  refine go_A (n := (t, ls, r)) hd ?_
  simp only [stA, ho]
  rw [if_pos hp]
  exact jmp_at ht
end TS
