-- constants and rows of the tables
theorem ic_m1 : Int32.ofInt (-1) = (-1) := by decide
theorem ic_0 : Int32.ofInt (0) = (nI 0) := by decide
theorem ic_1 : Int32.ofInt (1) = (nI 1) := by decide
theorem ic_2 : Int32.ofInt (2) = (nI 2) := by decide
theorem ic_3 : Int32.ofInt (3) = (nI 3) := by decide
theorem ic_4 : Int32.ofInt (4) = (nI 4) := by decide
theorem ic_5 : Int32.ofInt (5) = (nI 5) := by decide
theorem ic_6 : Int32.ofInt (6) = (nI 6) := by decide
theorem bi_m10 : (Int8.ofInt (-10)).toInt32 = (-10) := by decide
theorem bi_6 : (Int8.ofInt (6)).toInt32 = (nI 6) := by decide
theorem bi_7 : (Int8.ofInt (7)).toInt32 = (nI 7) := by decide
theorem bi_8 : (Int8.ofInt (8)).toInt32 = (nI 8) := by decide
theorem bi_9 : (Int8.ofInt (9)).toInt32 = (nI 9) := by decide
theorem bi_10 : (Int8.ofInt (10)).toInt32 = (nI 10) := by decide
theorem bi_11 : (Int8.ofInt (11)).toInt32 = (nI 11) := by decide
theorem bi_12 : (Int8.ofInt (12)).toInt32 = (nI 12) := by decide
theorem bi_13 : (Int8.ofInt (13)).toInt32 = (nI 13) := by decide
theorem bi_14 : (Int8.ofInt (14)).toInt32 = (nI 14) := by decide
theorem bi_15 : (Int8.ofInt (15)).toInt32 = (nI 15) := by decide
theorem bi_16 : (Int8.ofInt (16)).toInt32 = (nI 16) := by decide
theorem bi_22 : (Int8.ofInt (22)).toInt32 = (nI 22) := by decide
theorem bi_24 : (Int8.ofInt (24)).toInt32 = (nI 24) := by decide
theorem bi_31 : (Int8.ofInt (31)).toInt32 = (nI 31) := by decide
theorem bi_32 : (Int8.ofInt (32)).toInt32 = (nI 32) := by decide
theorem bi_40 : (Int8.ofInt (40)).toInt32 = (nI 40) := by decide
theorem bi_42 : (Int8.ofInt (42)).toInt32 = (nI 42) := by decide
theorem bi_44 : (Int8.ofInt (44)).toInt32 = (nI 44) := by decide
theorem bi_48 : (Int8.ofInt (48)).toInt32 = (nI 48) := by decide
theorem bi_49 : (Int8.ofInt (49)).toInt32 = (nI 49) := by decide
theorem bi_50 : (Int8.ofInt (50)).toInt32 = (nI 50) := by decide
theorem bi_52 : (Int8.ofInt (52)).toInt32 = (nI 52) := by decide
theorem bi_57 : (Int8.ofInt (57)).toInt32 = (nI 57) := by decide
theorem bi_58 : (Int8.ofInt (58)).toInt32 = (nI 58) := by decide
theorem bi_59 : (Int8.ofInt (59)).toInt32 = (nI 59) := by decide
theorem bi_61 : (Int8.ofInt (61)).toInt32 = (nI 61) := by decide
theorem bi_63 : (Int8.ofInt (63)).toInt32 = (nI 63) := by decide
theorem bi_64 : (Int8.ofInt (64)).toInt32 = (nI 64) := by decide
theorem bi_100 : (Int8.ofInt (100)).toInt32 = (nI 100) := by decide
theorem bi_114 : (Int8.ofInt (114)).toInt32 = (nI 114) := by decide
theorem bi_115 : (Int8.ofInt (115)).toInt32 = (nI 115) := by decide
theorem bi_119 : (Int8.ofInt (119)).toInt32 = (nI 119) := by decide
theorem bi_127 : (Int8.ofInt (127)).toInt32 = (nI 127) := by decide
theorem si_200 : (Int16.ofInt (200)).toInt32 = (nI 200) := by decide
theorem si_207 : (Int16.ofInt (207)).toInt32 = (nI 207) := by decide
theorem si_255 : (Int16.ofInt (255)).toInt32 = (nI 255) := by decide
theorem si_256 : (Int16.ofInt (256)).toInt32 = (nI 256) := by decide
theorem si_327 : (Int16.ofInt (327)).toInt32 = (nI 327) := by decide
theorem si_459 : (Int16.ofInt (459)).toInt32 = (nI 459) := by decide
theorem si_1836 : (Int16.ofInt (1836)).toInt32 = (nI 1836) := by decide
theorem f_0_11 : fR 0 11 = some (0, 0) := by decide +kernel
theorem f_0_17 : fR 0 17 = some (0, 1) := by decide +kernel
theorem f_0_23 : fR 0 23 = some (0, 2) := by decide +kernel
theorem f_0_27 : fR 0 27 = some (0, 3) := by decide +kernel
theorem f_0_30 : fR 0 30 = some (0, 4) := by decide +kernel
theorem f_0_36 : fR 0 36 = some (0, 5) := by decide +kernel
theorem f_0_40 : fR 0 40 = some (0, 6) := by decide +kernel
theorem f_0_43 : fR 0 43 = some (0, 7) := by decide +kernel
theorem f_0_46 : fR 0 46 = some (0, 8) := by decide +kernel
theorem f_0_49 : fR 0 49 = some (0, 9) := by decide +kernel
theorem f_0_53 : fR 0 53 = some (0, 10) := by decide +kernel
theorem f_0_56 : fR 0 56 = some (0, 11) := by decide +kernel
theorem f_0_59 : fR 0 59 = some (0, 12) := by decide +kernel
theorem f_0_62 : fR 0 62 = some (0, 13) := by decide +kernel
theorem f_0_93 : fR 0 93 = some (2, 0) := by decide +kernel
theorem f_0_100 : fR 0 100 = some (2, 2) := by decide +kernel
theorem f_0_103 : fR 0 103 = some (2, 1) := by decide +kernel
theorem f_0_106 : fR 0 106 = some (5, 0) := by decide +kernel
theorem f_0_109 : fR 0 109 = some (5, 1) := by decide +kernel
theorem f_0_112 : fR 0 112 = some (5, 2) := by decide +kernel
theorem f_0_127 : fR 0 127 = some (3, 1) := by decide +kernel
theorem f_0_131 : fR 0 131 = some (3, 2) := by decide +kernel
theorem f_0_134 : fR 0 134 = some (3, 0) := by decide +kernel
theorem f_0_137 : fR 0 137 = some (2, 5) := by decide +kernel
theorem f_0_205 : fR 0 205 = some (2, 6) := by decide +kernel
theorem f_0_240 : fR 0 240 = some (2, 3) := by decide +kernel
theorem f_1_11 : fR 1 11 = some (1, 0) := by decide +kernel
theorem f_1_17 : fR 1 17 = some (1, 1) := by decide +kernel
theorem f_1_21 : fR 1 21 = some (1, 2) := by decide +kernel
theorem f_1_25 : fR 1 25 = some (1, 3) := by decide +kernel
theorem f_1_28 : fR 1 28 = some (1, 4) := by decide +kernel
theorem f_1_31 : fR 1 31 = some (1, 5) := by decide +kernel
theorem f_1_43 : fR 1 43 = some (3, 0) := by decide +kernel
theorem f_1_47 : fR 1 47 = some (3, 1) := by decide +kernel
theorem f_1_50 : fR 1 50 = some (3, 2) := by decide +kernel
theorem f_1_53 : fR 1 53 = some (3, 3) := by decide +kernel
theorem f_1_54 : fR 1 54 = some (3, 4) := by decide +kernel
theorem f_2_9 : fR 2 9 = some (2, 0) := by decide +kernel
theorem f_2_15 : fR 2 15 = some (2, 1) := by decide +kernel
theorem f_2_18 : fR 2 18 = some (2, 2) := by decide +kernel
theorem f_2_22 : fR 2 22 = some (2, 3) := by decide +kernel
theorem f_2_25 : fR 2 25 = some (2, 4) := by decide +kernel
theorem f_2_29 : fR 2 29 = some (2, 5) := by decide +kernel
theorem f_2_32 : fR 2 32 = some (2, 6) := by decide +kernel
theorem f_3_9 : fR 3 9 = some (3, 0) := by decide +kernel
theorem f_3_15 : fR 3 15 = some (3, 1) := by decide +kernel
theorem f_3_19 : fR 3 19 = some (3, 2) := by decide +kernel
theorem f_3_22 : fR 3 22 = some (3, 3) := by decide +kernel
theorem f_3_25 : fR 3 25 = some (3, 4) := by decide +kernel
theorem f_4_9 : fR 4 9 = some (4, 0) := by decide +kernel
theorem f_4_15 : fR 4 15 = some (4, 1) := by decide +kernel
theorem f_4_19 : fR 4 19 = some (4, 2) := by decide +kernel
theorem f_4_22 : fR 4 22 = some (4, 3) := by decide +kernel
theorem f_4_25 : fR 4 25 = some (4, 4) := by decide +kernel
theorem f_4_28 : fR 4 28 = some (4, 5) := by decide +kernel
theorem f_4_31 : fR 4 31 = some (4, 6) := by decide +kernel
theorem f_4_34 : fR 4 34 = some (4, 7) := by decide +kernel
theorem f_4_37 : fR 4 37 = some (4, 8) := by decide +kernel
theorem f_4_40 : fR 4 40 = some (4, 9) := by decide +kernel
theorem f_5_9 : fR 5 9 = some (5, 0) := by decide +kernel
theorem f_5_15 : fR 5 15 = some (5, 1) := by decide +kernel
theorem f_5_18 : fR 5 18 = some (5, 2) := by decide +kernel
theorem f_5_21 : fR 5 21 = some (5, 3) := by decide +kernel
theorem f_5_25 : fR 5 25 = some (5, 4) := by decide +kernel
theorem f_5_28 : fR 5 28 = some (5, 5) := by decide +kernel
theorem f_6_10 : fR 6 10 = some (6, 0) := by decide +kernel
theorem f_6_16 : fR 6 16 = some (6, 1) := by decide +kernel
theorem f_6_19 : fR 6 19 = some (6, 2) := by decide +kernel
theorem f_6_22 : fR 6 22 = some (6, 3) := by decide +kernel
theorem f_6_26 : fR 6 26 = some (6, 4) := by decide +kernel
theorem f_6_33 : fR 6 33 = some (6, 5) := by decide +kernel
theorem f_6_41 : fR 6 41 = some (0, 5) := by decide +kernel
theorem f_6_45 : fR 6 45 = some (5, 0) := by decide +kernel
theorem f_6_57 : fR 6 57 = some (0, 1) := by decide +kernel
theorem f_6_60 : fR 6 60 = some (0, 3) := by decide +kernel
theorem f_6_84 : fR 6 84 = some (2, 2) := by decide +kernel
theorem f_6_99 : fR 6 99 = some (0, 4) := by decide +kernel
theorem f_6_115 : fR 6 115 = some (1, 1) := by decide +kernel
theorem f_6_154 : fR 6 154 = some (2, 5) := by decide +kernel
theorem f_6_181 : fR 6 181 = some (5, 1) := by decide +kernel
theorem f_6_184 : fR 6 184 = some (4, 1) := by decide +kernel
theorem f_6_245 : fR 6 245 = some (4, 5) := by decide +kernel
theorem f_6_248 : fR 6 248 = some (4, 8) := by decide +kernel
theorem f_6_251 : fR 6 251 = some (4, 6) := by decide +kernel
theorem f_6_254 : fR 6 254 = some (4, 7) := by decide +kernel
theorem f_6_257 : fR 6 257 = some (4, 9) := by decide +kernel
theorem f_7_7 : fR 7 7 = some (7, 0) := by decide +kernel
theorem f_7_13 : fR 7 13 = some (7, 1) := by decide +kernel
theorem f_7_16 : fR 7 16 = some (7, 3) := by decide +kernel
theorem f_7_19 : fR 7 19 = some (7, 4) := by decide +kernel
theorem f_7_26 : fR 7 26 = some (7, 6) := by decide +kernel
theorem f_7_34 : fR 7 34 = some (7, 2) := by decide +kernel
theorem f_7_44 : fR 7 44 = some (7, 7) := by decide +kernel
theorem f_7_213 : fR 7 213 = some (7, 5) := by decide +kernel
theorem f_7_216 : fR 7 216 = some (7, 8) := by decide +kernel
theorem f_7_219 : fR 7 219 = some (7, 9) := by decide +kernel
theorem f_7_238 : fR 7 238 = some (7, 14) := by decide +kernel
theorem f_7_242 : fR 7 242 = some (7, 13) := by decide +kernel
theorem f_7_247 : fR 7 247 = some (7, 10) := by decide +kernel
theorem f_7_253 : fR 7 253 = some (7, 11) := by decide +kernel
theorem f_7_259 : fR 7 259 = some (7, 12) := by decide +kernel
theorem f_7_276 : fR 7 276 = some (7, 15) := by decide +kernel
theorem c_0_35 : cR 0 35 = some (21, 6) := by decide +kernel
theorem c_0_65 : cR 0 65 = some (5, 6) := by decide +kernel
theorem c_0_66 : cR 0 66 = some (14, 6) := by decide +kernel
theorem c_0_67 : cR 0 67 = some (6, 1) := by decide +kernel
theorem c_0_71 : cR 0 71 = some (15, 1) := by decide +kernel
theorem c_0_74 : cR 0 74 = some (22, 1) := by decide +kernel
theorem c_0_77 : cR 0 77 = some (29, 0) := by decide +kernel
theorem c_0_81 : cR 0 81 = some (30, 0) := by decide +kernel
theorem c_0_85 : cR 0 85 = some (7, 1) := by decide +kernel
theorem c_0_89 : cR 0 89 = some (31, 0) := by decide +kernel
theorem c_0_96 : cR 0 96 = some (34, 0) := by decide +kernel
theorem c_0_115 : cR 0 115 = some (26, 1) := by decide +kernel
theorem c_0_119 : cR 0 119 = some (32, 0) := by decide +kernel
theorem c_0_122 : cR 0 122 = some (2, 1) := by decide +kernel
theorem c_0_128 : cR 0 128 = some (35, 0) := by decide +kernel
theorem c_0_146 : cR 0 146 = some (44, 0) := by decide +kernel
theorem c_0_150 : cR 0 150 = some (39, 0) := by decide +kernel
theorem c_0_153 : cR 0 153 = some (45, 0) := by decide +kernel
theorem c_0_156 : cR 0 156 = some (47, 0) := by decide +kernel
theorem c_0_159 : cR 0 159 = some (51, 0) := by decide +kernel
theorem c_0_162 : cR 0 162 = some (54, 0) := by decide +kernel
theorem c_0_165 : cR 0 165 = some (50, 0) := by decide +kernel
theorem c_0_168 : cR 0 168 = some (56, 0) := by decide +kernel
theorem c_0_171 : cR 0 171 = some (55, 0) := by decide +kernel
theorem c_0_174 : cR 0 174 = some (61, 0) := by decide +kernel
theorem c_0_177 : cR 0 177 = some (62, 0) := by decide +kernel
theorem c_0_180 : cR 0 180 = some (24, 1) := by decide +kernel
theorem c_0_184 : cR 0 184 = some (46, 0) := by decide +kernel
theorem c_0_188 : cR 0 188 = some (33, 0) := by decide +kernel
theorem c_0_192 : cR 0 192 = some (48, 0) := by decide +kernel
theorem c_0_196 : cR 0 196 = some (49, 0) := by decide +kernel
theorem c_0_199 : cR 0 199 = some (3, 1) := by decide +kernel
theorem c_0_202 : cR 0 202 = some (11, 1) := by decide +kernel
theorem c_0_208 : cR 0 208 = some (17, 1) := by decide +kernel
theorem c_0_209 : cR 0 209 = some (52, 0) := by decide +kernel
theorem c_0_212 : cR 0 212 = some (53, 0) := by decide +kernel
theorem c_0_215 : cR 0 215 = some (19, 1) := by decide +kernel
theorem c_0_218 : cR 0 218 = some (12, 1) := by decide +kernel
theorem c_0_221 : cR 0 221 = some (59, 0) := by decide +kernel
theorem c_0_225 : cR 0 225 = some (60, 0) := by decide +kernel
theorem c_0_228 : cR 0 228 = some (18, 1) := by decide +kernel
theorem c_0_231 : cR 0 231 = some (57, 0) := by decide +kernel
theorem c_0_234 : cR 0 234 = some (58, 0) := by decide +kernel
theorem c_0_237 : cR 0 237 = some (10, 1) := by decide +kernel
theorem c_1_34 : cR 1 34 = some (0, 6) := by decide +kernel
theorem c_1_35 : cR 1 35 = some (1, 1) := by decide +kernel
theorem c_1_39 : cR 1 39 = some (119, 3) := by decide +kernel
theorem c_1_58 : cR 1 58 = some (7, 0) := by decide +kernel
theorem c_1_62 : cR 1 62 = some (10, 0) := by decide +kernel
theorem c_2_35 : cR 2 35 = some (119, 3) := by decide +kernel
theorem c_3_29 : cR 3 29 = some (3, 0) := by decide +kernel
theorem c_4_44 : cR 4 44 = some (65, 0) := by decide +kernel
theorem c_4_47 : cR 4 47 = some (67, 0) := by decide +kernel
theorem c_4_51 : cR 4 51 = some (78, 0) := by decide +kernel
theorem c_4_55 : cR 4 55 = some (68, 0) := by decide +kernel
theorem c_4_58 : cR 4 58 = some (74, 0) := by decide +kernel
theorem c_4_62 : cR 4 62 = some (69, 0) := by decide +kernel
theorem c_4_65 : cR 4 65 = some (70, 0) := by decide +kernel
theorem c_4_68 : cR 4 68 = some (71, 0) := by decide +kernel
theorem c_4_71 : cR 4 71 = some (76, 0) := by decide +kernel
theorem c_4_74 : cR 4 74 = some (73, 0) := by decide +kernel
theorem c_4_78 : cR 4 78 = some (72, 0) := by decide +kernel
theorem c_4_81 : cR 4 81 = some (75, 0) := by decide +kernel
theorem c_4_84 : cR 4 84 = some (77, 2) := by decide +kernel
theorem c_5_31 : cR 5 31 = some (119, 3) := by decide +kernel
theorem c_5_41 : cR 5 41 = some (25, 0) := by decide +kernel
theorem c_6_9 : cR 6 9 = some (27, 6) := by decide +kernel
theorem c_6_32 : cR 6 32 = some (63, 6) := by decide +kernel
theorem c_6_37 : cR 6 37 = some (110, 2) := by decide +kernel
theorem c_6_50 : cR 6 50 = some (116, 0) := by decide +kernel
theorem c_6_53 : cR 6 53 = some (28, 1) := by decide +kernel
theorem c_6_70 : cR 6 70 = some (34, 1) := by decide +kernel
theorem c_6_76 : cR 6 76 = some (36, 1) := by decide +kernel
theorem c_6_80 : cR 6 80 = some (112, 0) := by decide +kernel
theorem c_6_92 : cR 6 92 = some (37, 1) := by decide +kernel
theorem c_6_96 : cR 6 96 = some (16, 1) := by decide +kernel
theorem c_6_102 : cR 6 102 = some (111, 0) := by decide +kernel
theorem c_6_111 : cR 6 111 = some (113, 0) := by decide +kernel
theorem c_6_122 : cR 6 122 = some (33, 1) := by decide +kernel
theorem c_6_128 : cR 6 128 = some (9, 1) := by decide +kernel
theorem c_6_131 : cR 6 131 = some (42, 1) := by decide +kernel
theorem c_6_135 : cR 6 135 = some (43, 1) := by decide +kernel
theorem c_6_138 : cR 6 138 = some (13, 1) := by decide +kernel
theorem c_6_141 : cR 6 141 = some (7, 1) := by decide +kernel
theorem c_6_150 : cR 6 150 = some (4, 1) := by decide +kernel
theorem c_6_153 : cR 6 153 = some (20, 1) := by decide +kernel
theorem c_6_157 : cR 6 157 = some (17, 1) := by decide +kernel
theorem c_6_160 : cR 6 160 = some (38, 1) := by decide +kernel
theorem c_6_161 : cR 6 161 = some (23, 1) := by decide +kernel
theorem c_6_166 : cR 6 166 = some (25, 1) := by decide +kernel
theorem c_6_168 : cR 6 168 = some (115, 0) := by decide +kernel
theorem c_6_171 : cR 6 171 = some (41, 1) := by decide +kernel
theorem c_6_175 : cR 6 175 = some (40, 1) := by decide +kernel
theorem c_6_178 : cR 6 178 = some (30, 1) := by decide +kernel
theorem c_6_189 : cR 6 189 = some (64, 1) := by decide +kernel
theorem c_6_192 : cR 6 192 = some (66, 1) := by decide +kernel
theorem c_6_195 : cR 6 195 = some (65, 1) := by decide +kernel
theorem c_6_198 : cR 6 198 = some (67, 1) := by decide +kernel
theorem c_6_202 : cR 6 202 = some (114, 0) := by decide +kernel
theorem c_6_205 : cR 6 205 = some (118, 0) := by decide +kernel
theorem c_6_213 : cR 6 213 = some (106, 2) := by decide +kernel
theorem c_6_217 : cR 6 217 = some (107, 0) := by decide +kernel
theorem c_6_220 : cR 6 220 = some (31, 1) := by decide +kernel
theorem c_6_223 : cR 6 223 = some (109, 2) := by decide +kernel
theorem c_6_229 : cR 6 229 = some (108, 2) := by decide +kernel
theorem c_6_241 : cR 6 241 = some (8, 1) := by decide +kernel
theorem c_6_261 : cR 6 261 = some (117, 0) := by decide +kernel
theorem c_7_22 : cR 7 22 = some (125, 0) := by decide +kernel
theorem c_7_30 : cR 7 30 = some (124, 2) := by decide +kernel
theorem c_7_37 : cR 7 37 = some (122, 0) := by decide +kernel
theorem c_7_41 : cR 7 41 = some (136, 0) := by decide +kernel
theorem c_7_47 : cR 7 47 = some (123, 0) := by decide +kernel
theorem c_7_50 : cR 7 50 = some (128, 0) := by decide +kernel
theorem c_7_54 : cR 7 54 = some (127, 0) := by decide +kernel
theorem c_7_58 : cR 7 58 = some (140, 0) := by decide +kernel
theorem c_7_62 : cR 7 62 = some (139, 0) := by decide +kernel
theorem c_7_65 : cR 7 65 = some (133, 0) := by decide +kernel
theorem c_7_69 : cR 7 69 = some (142, 0) := by decide +kernel
theorem c_7_73 : cR 7 73 = some (141, 0) := by decide +kernel
theorem c_7_76 : cR 7 76 = some (129, 0) := by decide +kernel
theorem c_7_80 : cR 7 80 = some (147, 0) := by decide +kernel
theorem c_7_83 : cR 7 83 = some (144, 0) := by decide +kernel
theorem c_7_87 : cR 7 87 = some (149, 0) := by decide +kernel
theorem c_7_90 : cR 7 90 = some (145, 0) := by decide +kernel
theorem c_7_93 : cR 7 93 = some (148, 0) := by decide +kernel
theorem c_7_96 : cR 7 96 = some (130, 0) := by decide +kernel
theorem c_7_99 : cR 7 99 = some (146, 0) := by decide +kernel
theorem c_7_102 : cR 7 102 = some (126, 0) := by decide +kernel
theorem c_7_105 : cR 7 105 = some (154, 0) := by decide +kernel
theorem c_7_108 : cR 7 108 = some (143, 0) := by decide +kernel
theorem c_7_112 : cR 7 112 = some (150, 0) := by decide +kernel
theorem c_7_115 : cR 7 115 = some (151, 0) := by decide +kernel
theorem c_7_118 : cR 7 118 = some (152, 0) := by decide +kernel
theorem c_7_121 : cR 7 121 = some (153, 0) := by decide +kernel
theorem c_7_124 : cR 7 124 = some (155, 0) := by decide +kernel
theorem c_7_127 : cR 7 127 = some (156, 2) := by decide +kernel
theorem c_7_130 : cR 7 130 = some (158, 0) := by decide +kernel
theorem c_7_134 : cR 7 134 = some (157, 0) := by decide +kernel
theorem c_7_145 : cR 7 145 = some (131, 0) := by decide +kernel
theorem c_7_152 : cR 7 152 = some (160, 2) := by decide +kernel
theorem c_7_160 : cR 7 160 = some (134, 0) := by decide +kernel
theorem c_7_165 : cR 7 165 = some (132, 0) := by decide +kernel
theorem c_7_168 : cR 7 168 = some (165, 0) := by decide +kernel
theorem c_7_171 : cR 7 171 = some (161, 0) := by decide +kernel
theorem c_7_175 : cR 7 175 = some (137, 0) := by decide +kernel
theorem c_7_178 : cR 7 178 = some (162, 0) := by decide +kernel
theorem c_7_181 : cR 7 181 = some (159, 0) := by decide +kernel
theorem c_7_186 : cR 7 186 = some (174, 0) := by decide +kernel
theorem c_7_193 : cR 7 193 = some (179, 0) := by decide +kernel
theorem c_7_196 : cR 7 196 = some (182, 0) := by decide +kernel
theorem c_7_201 : cR 7 201 = some (181, 0) := by decide +kernel
theorem c_7_204 : cR 7 204 = some (135, 0) := by decide +kernel
theorem c_7_207 : cR 7 207 = some (184, 0) := by decide +kernel
theorem c_7_210 : cR 7 210 = some (186, 0) := by decide +kernel
theorem c_7_222 : cR 7 222 = some (193, 0) := by decide +kernel
theorem c_7_225 : cR 7 225 = some (194, 0) := by decide +kernel
theorem c_7_232 : cR 7 232 = some (197, 2) := by decide +kernel
theorem c_7_235 : cR 7 235 = some (198, 0) := by decide +kernel
theorem c_7_250 : cR 7 250 = some (196, 0) := by decide +kernel
theorem c_7_256 : cR 7 256 = some (195, 0) := by decide +kernel
theorem c_7_262 : cR 7 262 = some (199, 0) := by decide +kernel
theorem c_7_265 : cR 7 265 = some (200, 0) := by decide +kernel
theorem c_7_268 : cR 7 268 = some (201, 0) := by decide +kernel
theorem c_7_271 : cR 7 271 = some (202, 0) := by decide +kernel
theorem c_7_281 : cR 7 281 = some (204, 0) := by decide +kernel
theorem c_8_7 : cR 8 7 = some (80, 0) := by decide +kernel
theorem c_8_15 : cR 8 15 = some (81, 0) := by decide +kernel
theorem c_8_21 : cR 8 21 = some (82, 0) := by decide +kernel
theorem c_8_27 : cR 8 27 = some (83, 0) := by decide +kernel
theorem c_8_30 : cR 8 30 = some (84, 0) := by decide +kernel
theorem c_8_33 : cR 8 33 = some (85, 0) := by decide +kernel
theorem c_8_37 : cR 8 37 = some (86, 0) := by decide +kernel
theorem c_8_41 : cR 8 41 = some (87, 0) := by decide +kernel
theorem c_8_44 : cR 8 44 = some (88, 0) := by decide +kernel
theorem c_8_47 : cR 8 47 = some (90, 0) := by decide +kernel
theorem c_8_50 : cR 8 50 = some (91, 0) := by decide +kernel
theorem c_8_53 : cR 8 53 = some (92, 0) := by decide +kernel
theorem c_8_56 : cR 8 56 = some (93, 0) := by decide +kernel
theorem c_8_59 : cR 8 59 = some (94, 0) := by decide +kernel
theorem c_8_62 : cR 8 62 = some (95, 0) := by decide +kernel
theorem c_8_65 : cR 8 65 = some (97, 0) := by decide +kernel
theorem c_8_68 : cR 8 68 = some (99, 0) := by decide +kernel
theorem c_8_71 : cR 8 71 = some (101, 0) := by decide +kernel
theorem c_8_74 : cR 8 74 = some (104, 0) := by decide +kernel
theorem c_8_78 : cR 8 78 = some (79, 5) := by decide +kernel
theorem c_8_81 : cR 8 81 = some (120, 5) := by decide +kernel
theorem c_8_82 : cR 8 82 = some (206, 4) := by decide +kernel
theorem c_8_87 : cR 8 87 = some (163, 0) := by decide +kernel
theorem c_8_88 : cR 8 88 = some (121, 0) := by decide +kernel
theorem c_8_91 : cR 8 91 = some (207, 4) := by decide +kernel
theorem c_8_94 : cR 8 94 = some (164, 0) := by decide +kernel
theorem c_8_95 : cR 8 95 = some (208, 4) := by decide +kernel
theorem c_8_98 : cR 8 98 = some (166, 0) := by decide +kernel
theorem c_8_99 : cR 8 99 = some (209, 4) := by decide +kernel
theorem c_8_101 : cR 8 101 = some (167, 0) := by decide +kernel
theorem c_8_102 : cR 8 102 = some (210, 4) := by decide +kernel
theorem c_8_104 : cR 8 104 = some (168, 0) := by decide +kernel
theorem c_8_107 : cR 8 107 = some (211, 4) := by decide +kernel
theorem c_8_110 : cR 8 110 = some (169, 0) := by decide +kernel
theorem c_8_111 : cR 8 111 = some (212, 4) := by decide +kernel
theorem c_8_114 : cR 8 114 = some (170, 0) := by decide +kernel
theorem c_8_115 : cR 8 115 = some (213, 4) := by decide +kernel
theorem c_8_117 : cR 8 117 = some (171, 0) := by decide +kernel
theorem c_8_118 : cR 8 118 = some (214, 4) := by decide +kernel
theorem c_8_120 : cR 8 120 = some (172, 0) := by decide +kernel
theorem c_8_121 : cR 8 121 = some (89, 0) := by decide +kernel
theorem c_8_124 : cR 8 124 = some (173, 0) := by decide +kernel
theorem c_8_125 : cR 8 125 = some (215, 4) := by decide +kernel
theorem c_8_127 : cR 8 127 = some (175, 0) := by decide +kernel
theorem c_8_128 : cR 8 128 = some (216, 4) := by decide +kernel
theorem c_8_130 : cR 8 130 = some (176, 0) := by decide +kernel
theorem c_8_131 : cR 8 131 = some (217, 4) := by decide +kernel
theorem c_8_133 : cR 8 133 = some (177, 0) := by decide +kernel
theorem c_8_134 : cR 8 134 = some (218, 4) := by decide +kernel
theorem c_8_136 : cR 8 136 = some (178, 0) := by decide +kernel
theorem c_8_137 : cR 8 137 = some (219, 4) := by decide +kernel
theorem c_8_139 : cR 8 139 = some (180, 0) := by decide +kernel
theorem c_8_140 : cR 8 140 = some (220, 4) := by decide +kernel
theorem c_8_142 : cR 8 142 = some (183, 0) := by decide +kernel
theorem c_8_143 : cR 8 143 = some (96, 0) := by decide +kernel
theorem c_8_146 : cR 8 146 = some (185, 0) := by decide +kernel
theorem c_8_147 : cR 8 147 = some (221, 4) := by decide +kernel
theorem c_8_149 : cR 8 149 = some (187, 0) := by decide +kernel
theorem c_8_150 : cR 8 150 = some (98, 0) := by decide +kernel
theorem c_8_153 : cR 8 153 = some (188, 0) := by decide +kernel
theorem c_8_154 : cR 8 154 = some (222, 4) := by decide +kernel
theorem c_8_156 : cR 8 156 = some (189, 0) := by decide +kernel
theorem c_8_157 : cR 8 157 = some (100, 0) := by decide +kernel
theorem c_8_161 : cR 8 161 = some (190, 0) := by decide +kernel
theorem c_8_162 : cR 8 162 = some (223, 4) := by decide +kernel
theorem c_8_164 : cR 8 164 = some (191, 0) := by decide +kernel
theorem c_8_165 : cR 8 165 = some (102, 0) := by decide +kernel
theorem c_8_168 : cR 8 168 = some (192, 0) := by decide +kernel
theorem c_8_169 : cR 8 169 = some (103, 0) := by decide +kernel
theorem c_8_172 : cR 8 172 = some (203, 0) := by decide +kernel
theorem c_8_173 : cR 8 173 = some (224, 4) := by decide +kernel
theorem c_8_176 : cR 8 176 = some (138, 0) := by decide +kernel
theorem c_8_177 : cR 8 177 = some (105, 0) := by decide +kernel
theorem c_8_181 : cR 8 181 = some (205, 0) := by decide +kernel
section TS
variable {m pc : Nat} {ls r : List Value} {w : Wd} {I : MI} {L : ML} {P : MP}
theorem go_tsI {dflt lo hi z off : Int} {offs : Array Int} {len t k : Nat} (hd : decode (mB m) pc = .ok (.tableswitch dflt lo hi offs, len)) (hx : (nI k).toInt = z) (h1 : ¬ z < lo) (h2 : ¬ hi < z) (ho : offs[(z - lo).toNat]? = some off) (ht : (pc : Int) + off = (t : Int)) : go m pc ls (.int (nI k) :: r) w I L P = go m t ls r w I L P := by
  refine go_A (n := (t, ls, r)) hd ?_
  simp only [stA, hx]
  rw [if_neg (by omega), ho]
  exact jmp_at ht
theorem go_tsO {dflt lo hi : Int} {offs : Array Int} {len t : Nat} {x : Int32} (hd : decode (mB m) pc = .ok (.tableswitch dflt lo hi offs, len)) (h : x.toInt < lo ∨ hi < x.toInt) (ht : (pc : Int) + dflt = (t : Int)) : go m pc ls (.int x :: r) w I L P = go m t ls r w I L P := by
  refine go_A (n := (t, ls, r)) hd ?_
  simp only [stA]
  rw [if_pos h]
  exact jmp_at ht
theorem go_lsI {dflt z off : Int} {ps : Array (Int × Int)} {len t k : Nat} (hd : decode (mB m) pc = .ok (.lookupswitch dflt ps, len)) (hp : (ps.toList.zip (ps.toList.drop 1)).all (fun (a, next) => a.1 < next.1) = true) (hx : (nI k).toInt = z) (ho : Op.lookupswitch.offset ps.toList dflt z = off) (ht : (pc : Int) + off = (t : Int)) : go m pc ls (.int (nI k) :: r) w I L P = go m t ls r w I L P := by
  refine go_A (n := (t, ls, r)) hd ?_
  simp only [stA, hx, ho]
  rw [if_pos hp]
  exact jmp_at ht
theorem go_lsO {dflt off : Int} {ps : Array (Int × Int)} {len t : Nat} {x : Int32} (hd : decode (mB m) pc = .ok (.lookupswitch dflt ps, len)) (hp : (ps.toList.zip (ps.toList.drop 1)).all (fun (a, next) => a.1 < next.1) = true) (ho : Op.lookupswitch.offset ps.toList dflt x.toInt = off) (ht : (pc : Int) + off = (t : Int)) : go m pc ls (.int x :: r) w I L P = go m t ls r w I L P := by
  refine go_A (n := (t, ls, r)) hd ?_
  simp only [stA, ho]
  rw [if_pos hp]
  exact jmp_at ht
end TS
