/-! ===== numbers, links, methods that the equations name ===== -/
def lt_let (x : lt_m) (k : lt_m → Option lt_r) : Option lt_r := k x
theorem lt_let_x {x : lt_m} {F k : lt_m → Option lt_r} (h : ∀ y, F y = k y) : F x = lt_let x k := h x
theorem ic_n8 : Int32.ofInt (-8) = (-8 : Int32) := by decide +kernel
theorem ic_n1 : Int32.ofInt (-1) = (-1 : Int32) := by decide +kernel
theorem ic_0 : Int32.ofInt (0) = (0 : Int32) := by decide +kernel
theorem ic_1 : Int32.ofInt (1) = (1 : Int32) := by decide +kernel
theorem ic_2 : Int32.ofInt (2) = (2 : Int32) := by decide +kernel
theorem ic_3 : Int32.ofInt (3) = (3 : Int32) := by decide +kernel
theorem ic_4 : Int32.ofInt (4) = (4 : Int32) := by decide +kernel
theorem ic_5 : Int32.ofInt (5) = (5 : Int32) := by decide +kernel
theorem bi_n21 : (Int8.ofInt (-21)).toInt32 = (-21 : Int32) := by decide +kernel
theorem bi_n3 : (Int8.ofInt (-3)).toInt32 = (-3 : Int32) := by decide +kernel
theorem bi_n2 : (Int8.ofInt (-2)).toInt32 = (-2 : Int32) := by decide +kernel
theorem bi_6 : (Int8.ofInt (6)).toInt32 = (6 : Int32) := by decide +kernel
theorem bi_7 : (Int8.ofInt (7)).toInt32 = (7 : Int32) := by decide +kernel
theorem bi_8 : (Int8.ofInt (8)).toInt32 = (8 : Int32) := by decide +kernel
theorem bi_10 : (Int8.ofInt (10)).toInt32 = (10 : Int32) := by decide +kernel
theorem bi_12 : (Int8.ofInt (12)).toInt32 = (12 : Int32) := by decide +kernel
theorem bi_16 : (Int8.ofInt (16)).toInt32 = (16 : Int32) := by decide +kernel
theorem bi_19 : (Int8.ofInt (19)).toInt32 = (19 : Int32) := by decide +kernel
theorem bi_20 : (Int8.ofInt (20)).toInt32 = (20 : Int32) := by decide +kernel
theorem bi_24 : (Int8.ofInt (24)).toInt32 = (24 : Int32) := by decide +kernel
theorem bi_30 : (Int8.ofInt (30)).toInt32 = (30 : Int32) := by decide +kernel
theorem bi_40 : (Int8.ofInt (40)).toInt32 = (40 : Int32) := by decide +kernel
theorem bi_44 : (Int8.ofInt (44)).toInt32 = (44 : Int32) := by decide +kernel
theorem bi_45 : (Int8.ofInt (45)).toInt32 = (45 : Int32) := by decide +kernel
theorem bi_48 : (Int8.ofInt (48)).toInt32 = (48 : Int32) := by decide +kernel
theorem bi_57 : (Int8.ofInt (57)).toInt32 = (57 : Int32) := by decide +kernel
theorem bi_58 : (Int8.ofInt (58)).toInt32 = (58 : Int32) := by decide +kernel
theorem bi_63 : (Int8.ofInt (63)).toInt32 = (63 : Int32) := by decide +kernel
theorem bi_72 : (Int8.ofInt (72)).toInt32 = (72 : Int32) := by decide +kernel
theorem bi_99 : (Int8.ofInt (99)).toInt32 = (99 : Int32) := by decide +kernel
theorem bi_100 : (Int8.ofInt (100)).toInt32 = (100 : Int32) := by decide +kernel
theorem bi_124 : (Int8.ofInt (124)).toInt32 = (124 : Int32) := by decide +kernel
theorem si_200 : (Int16.ofInt (200)).toInt32 = (200 : Int32) := by decide +kernel
theorem si_255 : (Int16.ofInt (255)).toInt32 = (255 : Int32) := by decide +kernel
theorem si_999 : (Int16.ofInt (999)).toInt32 = (999 : Int32) := by decide +kernel
theorem bi_0_25 : ts_bi 0 25 = 2 := by decide +kernel
theorem bi_0_31 : ts_bi 0 31 = 0 := by decide +kernel
theorem bi_0_39 : ts_bi 0 39 = 0 := by decide +kernel
theorem bi_0_43 : ts_bi 0 43 = 0 := by decide +kernel
theorem bi_1_33 : ts_bi 1 33 = 2 := by decide +kernel
theorem bi_2_50 : ts_bi 2 50 = 0 := by decide +kernel
theorem bi_2_65 : ts_bi 2 65 = 0 := by decide +kernel
theorem bi_2_69 : ts_bi 2 69 = 0 := by decide +kernel
theorem bi_2_130 : ts_bi 2 130 = 0 := by decide +kernel
theorem bi_4_31 : ts_bi 4 31 = 0 := by decide +kernel
theorem bi_4_68 : ts_bi 4 68 = 0 := by decide +kernel
theorem bi_4_82 : ts_bi 4 82 = 0 := by decide +kernel
theorem bi_5_47 : ts_bi 5 47 = 0 := by decide +kernel
theorem bi_5_63 : ts_bi 5 63 = 0 := by decide +kernel
theorem bi_5_96 : ts_bi 5 96 = 0 := by decide +kernel
theorem bi_5_107 : ts_bi 5 107 = 0 := by decide +kernel
theorem bi_5_142 : ts_bi 5 142 = 2 := by decide +kernel
theorem bi_6_54 : ts_bi 6 54 = 0 := by decide +kernel
theorem bi_7_19 : ts_bi 7 19 = 0 := by decide +kernel
theorem bi_7_49 : ts_bi 7 49 = 0 := by decide +kernel
theorem bi_8_19 : ts_bi 8 19 = 0 := by decide +kernel
theorem bi_8_23 : ts_bi 8 23 = 0 := by decide +kernel
theorem bi_10_19 : ts_bi 10 19 = 0 := by decide +kernel
theorem bi_11_152 : ts_bi 11 152 = 0 := by decide +kernel
theorem bi_11_159 : ts_bi 11 159 = 0 := by decide +kernel
theorem bi_11_162 : ts_bi 11 162 = 0 := by decide +kernel
theorem bi_11_214 : ts_bi 11 214 = 0 := by decide +kernel
theorem bi_11_335 : ts_bi 11 335 = 0 := by decide +kernel
theorem bi_11_338 : ts_bi 11 338 = 2 := by decide +kernel
theorem bi_11_420 : ts_bi 11 420 = 3 := by decide +kernel
theorem bi_14_40 : ts_bi 14 40 = 0 := by decide +kernel
theorem ca_0_31 : ts_cal 0 31 = some (17, 3, 1, 1) := by decide +kernel
theorem ca_0_35 : ts_cal 0 35 = some (165, 0, 0, 0) := by decide +kernel
theorem ca_0_39 : ts_cal 0 39 = some (16, 2, 1, 1) := by decide +kernel
theorem ca_0_43 : ts_cal 0 43 = some (84, 2, 1, 1) := by decide +kernel
theorem ca_1_39 : ts_cal 1 39 = some (82, 0, 0, 0) := by decide +kernel
theorem ca_1_43 : ts_cal 1 43 = some (83, 1, 0, 0) := by decide +kernel
theorem ca_1_47 : ts_cal 1 47 = some (81, 1, 0, 0) := by decide +kernel
theorem ca_2_47 : ts_cal 2 47 = some (54, 0, 0, 0) := by decide +kernel
theorem ca_2_50 : ts_cal 2 50 = some (84, 2, 1, 1) := by decide +kernel
theorem ca_2_54 : ts_cal 2 54 = some (85, 1, 0, 0) := by decide +kernel
theorem ca_2_58 : ts_cal 2 58 = some (86, 1, 0, 0) := by decide +kernel
theorem ca_2_61 : ts_cal 2 61 = some (88, 3, 0, 0) := by decide +kernel
theorem ca_2_65 : ts_cal 2 65 = some (17, 3, 1, 1) := by decide +kernel
theorem ca_2_69 : ts_cal 2 69 = some (16, 2, 1, 1) := by decide +kernel
theorem ca_2_73 : ts_cal 2 73 = some (94, 1, 0, 0) := by decide +kernel
theorem ca_2_77 : ts_cal 2 77 = some (91, 1, 0, 0) := by decide +kernel
theorem ca_2_80 : ts_cal 2 80 = some (92, 1, 0, 0) := by decide +kernel
theorem ca_2_87 : ts_cal 2 87 = some (65, 0, 0, 0) := by decide +kernel
theorem ca_2_114 : ts_cal 2 114 = some (105, 1, 0, 0) := by decide +kernel
theorem ca_2_121 : ts_cal 2 121 = some (112, 3, 0, 0) := by decide +kernel
theorem ca_2_124 : ts_cal 2 124 = some (126, 1, 0, 0) := by decide +kernel
theorem ca_2_127 : ts_cal 2 127 = some (128, 1, 0, 0) := by decide +kernel
theorem ca_2_130 : ts_cal 2 130 = some (60, 1, 1, 0) := by decide +kernel
theorem ca_2_135 : ts_cal 2 135 = some (127, 0, 0, 0) := by decide +kernel
theorem ca_2_141 : ts_cal 2 141 = some (120, 1, 0, 0) := by decide +kernel
theorem ca_4_31 : ts_cal 4 31 = some (16, 2, 1, 1) := by decide +kernel
theorem ca_4_38 : ts_cal 4 38 = some (64, 1, 0, 0) := by decide +kernel
theorem ca_4_67 : ts_cal 4 67 = some (102, 1, 0, 0) := by decide +kernel
theorem ca_4_68 : ts_cal 4 68 = some (17, 3, 1, 1) := by decide +kernel
theorem ca_4_72 : ts_cal 4 72 = some (110, 1, 0, 0) := by decide +kernel
theorem ca_4_82 : ts_cal 4 82 = some (84, 2, 1, 1) := by decide +kernel
theorem ca_5_38 : ts_cal 5 38 = some (12, 0, 0, 0) := by decide +kernel
theorem ca_5_41 : ts_cal 5 41 = some (19, 0, 0, 0) := by decide +kernel
theorem ca_5_47 : ts_cal 5 47 = some (16, 2, 1, 1) := by decide +kernel
theorem ca_5_51 : ts_cal 5 51 = some (49, 1, 0, 0) := by decide +kernel
theorem ca_5_59 : ts_cal 5 59 = some (14, 1, 0, 0) := by decide +kernel
theorem ca_5_63 : ts_cal 5 63 = some (15, 2, 1, 0) := by decide +kernel
theorem ca_5_68 : ts_cal 5 68 = some (31, 0, 0, 0) := by decide +kernel
theorem ca_5_73 : ts_cal 5 73 = some (32, 0, 0, 0) := by decide +kernel
theorem ca_5_76 : ts_cal 5 76 = some (34, 1, 0, 0) := by decide +kernel
theorem ca_5_80 : ts_cal 5 80 = some (44, 1, 0, 0) := by decide +kernel
theorem ca_5_83 : ts_cal 5 83 = some (50, 1, 0, 0) := by decide +kernel
theorem ca_5_86 : ts_cal 5 86 = some (51, 0, 0, 0) := by decide +kernel
theorem ca_5_89 : ts_cal 5 89 = some (38, 0, 0, 0) := by decide +kernel
theorem ca_5_96 : ts_cal 5 96 = some (33, 1, 1, 1) := by decide +kernel
theorem ca_5_100 : ts_cal 5 100 = some (35, 0, 0, 0) := by decide +kernel
theorem ca_5_104 : ts_cal 5 104 = some (37, 2, 0, 0) := by decide +kernel
theorem ca_5_107 : ts_cal 5 107 = some (17, 3, 1, 1) := by decide +kernel
theorem ca_5_111 : ts_cal 5 111 = some (39, 0, 0, 0) := by decide +kernel
theorem ca_5_114 : ts_cal 5 114 = some (42, 1, 0, 0) := by decide +kernel
theorem ca_5_118 : ts_cal 5 118 = some (45, 0, 0, 0) := by decide +kernel
theorem ca_5_121 : ts_cal 5 121 = some (46, 1, 0, 0) := by decide +kernel
theorem ca_5_125 : ts_cal 5 125 = some (47, 1, 0, 0) := by decide +kernel
theorem ca_5_128 : ts_cal 5 128 = some (43, 1, 0, 0) := by decide +kernel
theorem ca_5_131 : ts_cal 5 131 = some (13, 2, 0, 0) := by decide +kernel
theorem ca_5_133 : ts_cal 5 133 = some (41, 0, 0, 0) := by decide +kernel
theorem ca_5_136 : ts_cal 5 136 = some (48, 3, 0, 0) := by decide +kernel
theorem ca_5_140 : ts_cal 5 140 = some (18, 2, 0, 0) := by decide +kernel
theorem ca_5_147 : ts_cal 5 147 = some (20, 1, 0, 0) := by decide +kernel
theorem ca_5_151 : ts_cal 5 151 = some (21, 1, 0, 0) := by decide +kernel
theorem ca_5_154 : ts_cal 5 154 = some (22, 1, 0, 0) := by decide +kernel
theorem ca_5_157 : ts_cal 5 157 = some (23, 1, 0, 0) := by decide +kernel
theorem ca_5_160 : ts_cal 5 160 = some (24, 3, 0, 0) := by decide +kernel
theorem ca_5_164 : ts_cal 5 164 = some (25, 1, 0, 0) := by decide +kernel
theorem ca_6_25 : ts_cal 6 25 = some (27, 0, 0, 0) := by decide +kernel
theorem ca_6_29 : ts_cal 6 29 = some (36, 1, 0, 0) := by decide +kernel
theorem ca_6_33 : ts_cal 6 33 = some (43, 1, 0, 0) := by decide +kernel
theorem ca_6_37 : ts_cal 6 37 = some (39, 0, 0, 0) := by decide +kernel
theorem ca_6_40 : ts_cal 6 40 = some (45, 0, 0, 0) := by decide +kernel
theorem ca_6_44 : ts_cal 6 44 = some (20, 1, 0, 0) := by decide +kernel
theorem ca_6_48 : ts_cal 6 48 = some (38, 0, 0, 0) := by decide +kernel
theorem ca_6_51 : ts_cal 6 51 = some (35, 0, 0, 0) := by decide +kernel
theorem ca_6_54 : ts_cal 6 54 = some (40, 1, 1, 1) := by decide +kernel
theorem ca_6_57 : ts_cal 6 57 = some (41, 0, 0, 0) := by decide +kernel
theorem ca_7_19 : ts_cal 7 19 = some (16, 2, 1, 1) := by decide +kernel
theorem ca_7_26 : ts_cal 7 26 = some (31, 0, 0, 0) := by decide +kernel
theorem ca_7_35 : ts_cal 7 35 = some (37, 2, 0, 0) := by decide +kernel
theorem ca_7_39 : ts_cal 7 39 = some (102, 1, 0, 0) := by decide +kernel
theorem ca_7_43 : ts_cal 7 43 = some (13, 2, 0, 0) := by decide +kernel
theorem ca_7_46 : ts_cal 7 46 = some (41, 0, 0, 0) := by decide +kernel
theorem ca_7_49 : ts_cal 7 49 = some (17, 3, 1, 1) := by decide +kernel
theorem ca_7_53 : ts_cal 7 53 = some (43, 1, 0, 0) := by decide +kernel
theorem ca_7_57 : ts_cal 7 57 = some (39, 0, 0, 0) := by decide +kernel
theorem ca_7_60 : ts_cal 7 60 = some (51, 0, 0, 0) := by decide +kernel
theorem ca_8_19 : ts_cal 8 19 = some (17, 3, 1, 1) := by decide +kernel
theorem ca_8_23 : ts_cal 8 23 = some (16, 2, 1, 1) := by decide +kernel
theorem ca_10_19 : ts_cal 10 19 = some (17, 3, 1, 1) := by decide +kernel
theorem ca_10_23 : ts_cal 10 23 = some (23, 1, 0, 0) := by decide +kernel
theorem ca_11_72 : ts_cal 11 72 = some (27, 0, 0, 0) := by decide +kernel
theorem ca_11_78 : ts_cal 11 78 = some (23, 1, 0, 0) := by decide +kernel
theorem ca_11_82 : ts_cal 11 82 = some (20, 1, 0, 0) := by decide +kernel
theorem ca_11_85 : ts_cal 11 85 = some (30, 1, 0, 0) := by decide +kernel
theorem ca_11_89 : ts_cal 11 89 = some (38, 0, 0, 0) := by decide +kernel
theorem ca_11_93 : ts_cal 11 93 = some (52, 0, 0, 0) := by decide +kernel
theorem ca_11_96 : ts_cal 11 96 = some (53, 0, 0, 0) := by decide +kernel
theorem ca_11_99 : ts_cal 11 99 = some (55, 0, 0, 0) := by decide +kernel
theorem ca_11_100 : ts_cal 11 100 = some (56, 0, 0, 0) := by decide +kernel
theorem ca_11_105 : ts_cal 11 105 = some (14, 1, 0, 0) := by decide +kernel
theorem ca_11_109 : ts_cal 11 109 = some (13, 2, 0, 0) := by decide +kernel
theorem ca_11_113 : ts_cal 11 113 = some (21, 1, 0, 0) := by decide +kernel
theorem ca_11_123 : ts_cal 11 123 = some (18, 2, 0, 0) := by decide +kernel
theorem ca_11_144 : ts_cal 11 144 = some (74, 2, 0, 0) := by decide +kernel
theorem ca_11_152 : ts_cal 11 152 = some (60, 1, 1, 0) := by decide +kernel
theorem ca_11_157 : ts_cal 11 157 = some (75, 1, 0, 0) := by decide +kernel
theorem ca_11_159 : ts_cal 11 159 = some (79, 1, 1, 0) := by decide +kernel
theorem ca_11_162 : ts_cal 11 162 = some (80, 1, 1, 0) := by decide +kernel
theorem ca_11_168 : ts_cal 11 168 = some (81, 1, 0, 0) := by decide +kernel
theorem ca_11_172 : ts_cal 11 172 = some (87, 2, 0, 0) := by decide +kernel
theorem ca_11_175 : ts_cal 11 175 = some (90, 1, 0, 0) := by decide +kernel
theorem ca_11_178 : ts_cal 11 178 = some (91, 1, 0, 0) := by decide +kernel
theorem ca_11_185 : ts_cal 11 185 = some (94, 1, 0, 0) := by decide +kernel
theorem ca_11_188 : ts_cal 11 188 = some (95, 1, 0, 0) := by decide +kernel
theorem ca_11_191 : ts_cal 11 191 = some (96, 1, 0, 0) := by decide +kernel
theorem ca_11_194 : ts_cal 11 194 = some (68, 1, 0, 0) := by decide +kernel
theorem ca_11_195 : ts_cal 11 195 = some (97, 1, 0, 0) := by decide +kernel
theorem ca_11_198 : ts_cal 11 198 = some (99, 2, 0, 0) := by decide +kernel
theorem ca_11_201 : ts_cal 11 201 = some (101, 2, 0, 0) := by decide +kernel
theorem ca_11_204 : ts_cal 11 204 = some (103, 1, 0, 0) := by decide +kernel
theorem ca_11_207 : ts_cal 11 207 = some (104, 0, 0, 0) := by decide +kernel
theorem ca_11_211 : ts_cal 11 211 = some (25, 1, 0, 0) := by decide +kernel
theorem ca_11_214 : ts_cal 11 214 = some (106, 2, 1, 0) := by decide +kernel
theorem ca_11_217 : ts_cal 11 217 = some (108, 5, 0, 0) := by decide +kernel
theorem ca_11_226 : ts_cal 11 226 = some (109, 2, 0, 0) := by decide +kernel
theorem ca_11_233 : ts_cal 11 233 = some (111, 2, 0, 0) := by decide +kernel
theorem ca_11_240 : ts_cal 11 240 = some (114, 1, 0, 0) := by decide +kernel
theorem ca_11_244 : ts_cal 11 244 = some (62, 0, 0, 0) := by decide +kernel
theorem ca_11_247 : ts_cal 11 247 = some (115, 0, 0, 0) := by decide +kernel
theorem ca_11_250 : ts_cal 11 250 = some (116, 1, 0, 0) := by decide +kernel
theorem ca_11_263 : ts_cal 11 263 = some (118, 0, 0, 0) := by decide +kernel
theorem ca_11_275 : ts_cal 11 275 = some (120, 1, 0, 0) := by decide +kernel
theorem ca_11_281 : ts_cal 11 281 = some (122, 1, 0, 0) := by decide +kernel
theorem ca_11_285 : ts_cal 11 285 = some (125, 1, 0, 0) := by decide +kernel
theorem ca_11_299 : ts_cal 11 299 = some (63, 0, 0, 0) := by decide +kernel
theorem ca_11_302 : ts_cal 11 302 = some (64, 1, 0, 0) := by decide +kernel
theorem ca_11_305 : ts_cal 11 305 = some (131, 1, 0, 0) := by decide +kernel
theorem ca_11_308 : ts_cal 11 308 = some (133, 1, 0, 0) := by decide +kernel
theorem ca_11_319 : ts_cal 11 319 = some (65, 0, 0, 0) := by decide +kernel
theorem ca_11_322 : ts_cal 11 322 = some (139, 0, 0, 0) := by decide +kernel
theorem ca_11_325 : ts_cal 11 325 = some (141, 1, 0, 0) := by decide +kernel
theorem ca_11_329 : ts_cal 11 329 = some (92, 1, 0, 0) := by decide +kernel
theorem ca_11_335 : ts_cal 11 335 = some (107, 1, 1, 0) := by decide +kernel
theorem ca_11_343 : ts_cal 11 343 = some (149, 2, 0, 0) := by decide +kernel
theorem ca_11_346 : ts_cal 11 346 = some (151, 3, 0, 0) := by decide +kernel
theorem ca_11_350 : ts_cal 11 350 = some (153, 1, 0, 0) := by decide +kernel
theorem ca_11_353 : ts_cal 11 353 = some (154, 2, 0, 0) := by decide +kernel
theorem ca_11_372 : ts_cal 11 372 = some (110, 1, 0, 0) := by decide +kernel
theorem ca_11_375 : ts_cal 11 375 = some (102, 1, 0, 0) := by decide +kernel
theorem ca_11_381 : ts_cal 11 381 = some (164, 2, 0, 0) := by decide +kernel
theorem ca_11_392 : ts_cal 11 392 = some (168, 1, 0, 0) := by decide +kernel
theorem ca_11_399 : ts_cal 11 399 = some (170, 1, 0, 0) := by decide +kernel
theorem ca_11_402 : ts_cal 11 402 = some (172, 1, 0, 0) := by decide +kernel
theorem ca_11_409 : ts_cal 11 409 = some (165, 0, 0, 0) := by decide +kernel
theorem ca_11_410 : ts_cal 11 410 = some (174, 0, 0, 0) := by decide +kernel
theorem ca_11_417 : ts_cal 11 417 = some (142, 1, 0, 0) := by decide +kernel
theorem ca_11_423 : ts_cal 11 423 = some (150, 2, 0, 0) := by decide +kernel
theorem ca_14_27 : ts_cal 14 27 = some (173, 1, 0, 0) := by decide +kernel
theorem ca_14_30 : ts_cal 14 30 = some (140, 0, 0, 0) := by decide +kernel
theorem ca_14_33 : ts_cal 14 33 = some (137, 1, 0, 0) := by decide +kernel
theorem ca_14_36 : ts_cal 14 36 = some (175, 1, 0, 0) := by decide +kernel
theorem ca_14_40 : ts_cal 14 40 = some (60, 1, 1, 0) := by decide +kernel
theorem ca_14_45 : ts_cal 14 45 = some (138, 1, 0, 0) := by decide +kernel
theorem ca_14_48 : ts_cal 14 48 = some (93, 1, 0, 0) := by decide +kernel
theorem ca_14_51 : ts_cal 14 51 = some (98, 1, 0, 0) := by decide +kernel
theorem ca_14_54 : ts_cal 14 54 = some (147, 2, 0, 0) := by decide +kernel
theorem ca_14_58 : ts_cal 14 58 = some (148, 2, 0, 0) := by decide +kernel
theorem ca_14_61 : ts_cal 14 61 = some (152, 2, 0, 0) := by decide +kernel
theorem ca_14_64 : ts_cal 14 64 = some (129, 2, 0, 0) := by decide +kernel
theorem ca_14_67 : ts_cal 14 67 = some (130, 2, 0, 0) := by decide +kernel
theorem ca_14_70 : ts_cal 14 70 = some (132, 1, 0, 0) := by decide +kernel
theorem cI_4_51 : ts_cI 4 51 = some (1000000 : Int32) := by decide +kernel
theorem cI_5_67 : ts_cI 5 67 = some (1000000 : Int32) := by decide +kernel
theorem cI_11_126 : ts_cI 11 126 = some (1000000 : Int32) := by decide +kernel
theorem cI_11_284 : ts_cI 11 284 = some (99999 : Int32) := by decide +kernel
theorem cI_11_426 : ts_cI 11 426 = some (999999 : Int32) := by decide +kernel
theorem cI_13_265 : ts_cI 13 265 = some (1431655765 : Int32) := by decide +kernel
theorem cI_13_266 : ts_cI 13 266 = some (858993459 : Int32) := by decide +kernel
theorem cI_13_267 : ts_cI 13 267 = some (252645135 : Int32) := by decide +kernel
theorem fa_0_9 : ts_fld 0 9 = some (0, 0) := by decide +kernel
theorem fa_0_15 : ts_fld 0 15 = some (0, 1) := by decide +kernel
theorem fa_0_18 : ts_fld 0 18 = some (0, 2) := by decide +kernel
theorem fa_0_21 : ts_fld 0 21 = some (0, 3) := by decide +kernel
theorem fa_1_11 : ts_fld 1 11 = some (1, 0) := by decide +kernel
theorem fa_1_18 : ts_fld 1 18 = some (1, 1) := by decide +kernel
theorem fa_1_22 : ts_fld 1 22 = some (1, 4) := by decide +kernel
theorem fa_1_26 : ts_fld 1 26 = some (1, 2) := by decide +kernel
theorem fa_1_30 : ts_fld 1 30 = some (1, 3) := by decide +kernel
theorem fa_2_9 : ts_fld 2 9 = some (2, 0) := by decide +kernel
theorem fa_2_15 : ts_fld 2 15 = some (2, 1) := by decide +kernel
theorem fa_2_20 : ts_fld 2 20 = some (2, 2) := by decide +kernel
theorem fa_2_27 : ts_fld 2 27 = some (2, 3) := by decide +kernel
theorem fa_2_34 : ts_fld 2 34 = some (2, 4) := by decide +kernel
theorem fa_2_38 : ts_fld 2 38 = some (2, 5) := by decide +kernel
theorem fa_2_41 : ts_fld 2 41 = some (2, 6) := by decide +kernel
theorem fa_2_44 : ts_fld 2 44 = some (4, 7) := by decide +kernel
theorem fa_2_84 : ts_fld 2 84 = some (4, 5) := by decide +kernel
theorem fa_2_91 : ts_fld 2 91 = some (4, 1) := by decide +kernel
theorem fa_2_94 : ts_fld 2 94 = some (4, 10) := by decide +kernel
theorem fa_2_97 : ts_fld 2 97 = some (4, 11) := by decide +kernel
theorem fa_2_118 : ts_fld 2 118 = some (4, 0) := by decide +kernel
theorem fa_2_138 : ts_fld 2 138 = some (4, 4) := by decide +kernel
theorem fa_4_9 : ts_fld 4 9 = some (4, 7) := by decide +kernel
theorem fa_4_15 : ts_fld 4 15 = some (4, 12) := by decide +kernel
theorem fa_4_19 : ts_fld 4 19 = some (4, 13) := by decide +kernel
theorem fa_4_22 : ts_fld 4 22 = some (4, 0) := by decide +kernel
theorem fa_4_25 : ts_fld 4 25 = some (4, 1) := by decide +kernel
theorem fa_4_28 : ts_fld 4 28 = some (4, 8) := by decide +kernel
theorem fa_4_35 : ts_fld 4 35 = some (4, 9) := by decide +kernel
theorem fa_4_48 : ts_fld 4 48 = some (4, 6) := by decide +kernel
theorem fa_4_52 : ts_fld 4 52 = some (4, 2) := by decide +kernel
theorem fa_4_55 : ts_fld 4 55 = some (4, 3) := by decide +kernel
theorem fa_4_58 : ts_fld 4 58 = some (4, 4) := by decide +kernel
theorem fa_4_61 : ts_fld 4 61 = some (4, 5) := by decide +kernel
theorem fa_4_64 : ts_fld 4 64 = some (7, 1) := by decide +kernel
theorem fa_4_75 : ts_fld 4 75 = some (4, 10) := by decide +kernel
theorem fa_4_78 : ts_fld 4 78 = some (4, 11) := by decide +kernel
theorem fa_5_9 : ts_fld 5 9 = some (5, 0) := by decide +kernel
theorem fa_5_15 : ts_fld 5 15 = some (5, 1) := by decide +kernel
theorem fa_5_18 : ts_fld 5 18 = some (5, 2) := by decide +kernel
theorem fa_5_21 : ts_fld 5 21 = some (5, 3) := by decide +kernel
theorem fa_5_24 : ts_fld 5 24 = some (5, 4) := by decide +kernel
theorem fa_5_30 : ts_fld 5 30 = some (5, 5) := by decide +kernel
theorem fa_5_34 : ts_fld 5 34 = some (5, 6) := by decide +kernel
theorem fa_5_44 : ts_fld 5 44 = some (5, 8) := by decide +kernel
theorem fa_5_93 : ts_fld 5 93 = some (5, 7) := by decide +kernel
theorem fa_6_12 : ts_fld 6 12 = some (6, 0) := by decide +kernel
theorem fa_6_18 : ts_fld 6 18 = some (6, 2) := by decide +kernel
theorem fa_6_22 : ts_fld 6 22 = some (6, 1) := by decide +kernel
theorem fa_7_9 : ts_fld 7 9 = some (7, 0) := by decide +kernel
theorem fa_7_15 : ts_fld 7 15 = some (7, 1) := by decide +kernel
theorem fa_7_23 : ts_fld 7 23 = some (7, 2) := by decide +kernel
theorem fa_7_31 : ts_fld 7 31 = some (5, 6) := by decide +kernel
theorem fa_8_9 : ts_fld 8 9 = some (8, 0) := by decide +kernel
theorem fa_8_15 : ts_fld 8 15 = some (8, 1) := by decide +kernel
theorem fa_10_9 : ts_fld 10 9 = some (10, 0) := by decide +kernel
theorem fa_10_15 : ts_fld 10 15 = some (10, 1) := by decide +kernel
theorem fa_11_10 : ts_fld 11 10 = some (11, 0) := by decide +kernel
theorem fa_11_19 : ts_fld 11 19 = some (11, 1) := by decide +kernel
theorem fa_11_26 : ts_fld 11 26 = some (11, 2) := by decide +kernel
theorem fa_11_47 : ts_fld 11 47 = some (11, 5) := by decide +kernel
theorem fa_11_54 : ts_fld 11 54 = some (11, 6) := by decide +kernel
theorem fa_11_61 : ts_fld 11 61 = some (11, 7) := by decide +kernel
theorem fa_11_65 : ts_fld 11 65 = some (11, 8) := by decide +kernel
theorem fa_11_68 : ts_fld 11 68 = some (6, 0) := by decide +kernel
theorem fa_11_101 : ts_fld 11 101 = some (5, 6) := by decide +kernel
theorem fa_11_165 : ts_fld 11 165 = some (2, 5) := by decide +kernel
theorem fa_11_223 : ts_fld 11 223 = some (2, 4) := by decide +kernel
theorem fa_11_230 : ts_fld 11 230 = some (2, 6) := by decide +kernel
theorem fa_11_237 : ts_fld 11 237 = some (4, 0) := by decide +kernel
theorem fa_11_253 : ts_fld 11 253 = some (4, 8) := by decide +kernel
theorem fa_11_256 : ts_fld 11 256 = some (4, 9) := by decide +kernel
theorem fa_11_259 : ts_fld 11 259 = some (4, 11) := by decide +kernel
theorem fa_11_266 : ts_fld 11 266 = some (4, 3) := by decide +kernel
theorem fa_11_269 : ts_fld 11 269 = some (4, 7) := by decide +kernel
theorem fa_11_272 : ts_fld 11 272 = some (4, 2) := by decide +kernel
theorem fa_11_278 : ts_fld 11 278 = some (4, 10) := by decide +kernel
theorem fa_11_288 : ts_fld 11 288 = some (4, 1) := by decide +kernel
theorem fa_11_291 : ts_fld 11 291 = some (4, 4) := by decide +kernel
theorem fa_11_294 : ts_fld 11 294 = some (4, 5) := by decide +kernel
theorem fa_11_296 : ts_fld 11 296 = some (4, 6) := by decide +kernel
theorem fa_11_315 : ts_fld 11 315 = some (2, 2) := by decide +kernel
theorem fa_11_369 : ts_fld 11 369 = some (7, 2) := by decide +kernel
theorem fa_11_376 : ts_fld 11 376 = some (7, 1) := by decide +kernel
theorem fa_11_377 : ts_fld 11 377 = some (2, 3) := by decide +kernel
theorem fa_11_396 : ts_fld 11 396 = some (1, 4) := by decide +kernel
theorem fa_11_405 : ts_fld 11 405 = some (5, 7) := by decide +kernel
theorem fa_11_408 : ts_fld 11 408 = some (5, 8) := by decide +kernel
theorem kd_12 : ts_knd 12 = 0 := by decide +kernel
theorem kl_12 : ts_cls 12 = 5 := by decide +kernel
theorem kd_13 : ts_knd 13 = 1 := by decide +kernel
theorem kl_13 : ts_cls 13 = 5 := by decide +kernel
theorem kd_14 : ts_knd 14 = 1 := by decide +kernel
theorem kl_14 : ts_cls 14 = 5 := by decide +kernel
theorem kd_15 : ts_knd 15 = 1 := by decide +kernel
theorem kl_15 : ts_cls 15 = 5 := by decide +kernel
theorem kd_16 : ts_knd 16 = 1 := by decide +kernel
theorem kl_16 : ts_cls 16 = 11 := by decide +kernel
theorem kd_17 : ts_knd 17 = 0 := by decide +kernel
theorem kl_17 : ts_cls 17 = 11 := by decide +kernel
theorem kd_18 : ts_knd 18 = 1 := by decide +kernel
theorem kl_18 : ts_cls 18 = 5 := by decide +kernel
theorem kd_19 : ts_knd 19 = 0 := by decide +kernel
theorem kl_19 : ts_cls 19 = 5 := by decide +kernel
theorem kd_20 : ts_knd 20 = 0 := by decide +kernel
theorem kl_20 : ts_cls 20 = 10 := by decide +kernel
theorem kd_21 : ts_knd 21 = 1 := by decide +kernel
theorem kl_21 : ts_cls 21 = 5 := by decide +kernel
theorem kd_22 : ts_knd 22 = 0 := by decide +kernel
theorem kl_22 : ts_cls 22 = 10 := by decide +kernel
theorem kd_23 : ts_knd 23 = 0 := by decide +kernel
theorem kl_23 : ts_cls 23 = 10 := by decide +kernel
theorem kd_24 : ts_knd 24 = 0 := by decide +kernel
theorem kl_24 : ts_cls 24 = 5 := by decide +kernel
theorem kd_25 : ts_knd 25 = 1 := by decide +kernel
theorem kl_25 : ts_cls 25 = 5 := by decide +kernel
theorem kd_26 : ts_knd 26 = 1 := by decide +kernel
theorem kl_26 : ts_cls 26 = 11 := by decide +kernel
theorem kd_27 : ts_knd 27 = 1 := by decide +kernel
theorem kl_27 : ts_cls 27 = 10 := by decide +kernel
theorem kd_28 : ts_knd 28 = 1 := by decide +kernel
theorem kl_28 : ts_cls 28 = 11 := by decide +kernel
theorem kd_29 : ts_knd 29 = 1 := by decide +kernel
theorem kl_29 : ts_cls 29 = 11 := by decide +kernel
theorem kd_30 : ts_knd 30 = 0 := by decide +kernel
theorem kl_30 : ts_cls 30 = 5 := by decide +kernel
theorem kd_31 : ts_knd 31 = 0 := by decide +kernel
theorem kl_31 : ts_cls 31 = 6 := by decide +kernel
theorem kd_32 : ts_knd 32 = 0 := by decide +kernel
theorem kl_32 : ts_cls 32 = 5 := by decide +kernel
theorem kd_33 : ts_knd 33 = 0 := by decide +kernel
theorem kl_33 : ts_cls 33 = 11 := by decide +kernel
theorem kd_34 : ts_knd 34 = 0 := by decide +kernel
theorem kl_34 : ts_cls 34 = 5 := by decide +kernel
theorem kd_35 : ts_knd 35 = 1 := by decide +kernel
theorem kl_35 : ts_cls 35 = 6 := by decide +kernel
theorem kd_36 : ts_knd 36 = 1 := by decide +kernel
theorem kl_36 : ts_cls 36 = 10 := by decide +kernel
theorem kd_37 : ts_knd 37 = 1 := by decide +kernel
theorem kl_37 : ts_cls 37 = 6 := by decide +kernel
theorem kd_38 : ts_knd 38 = 1 := by decide +kernel
theorem kl_38 : ts_cls 38 = 6 := by decide +kernel
theorem kd_39 : ts_knd 39 = 0 := by decide +kernel
theorem kl_39 : ts_cls 39 = 6 := by decide +kernel
theorem kd_40 : ts_knd 40 = 1 := by decide +kernel
theorem kl_40 : ts_cls 40 = 11 := by decide +kernel
theorem kd_41 : ts_knd 41 = 0 := by decide +kernel
theorem kl_41 : ts_cls 41 = 6 := by decide +kernel
theorem kd_42 : ts_knd 42 = 0 := by decide +kernel
theorem kl_42 : ts_cls 42 = 6 := by decide +kernel
theorem kd_43 : ts_knd 43 = 1 := by decide +kernel
theorem kl_43 : ts_cls 43 = 6 := by decide +kernel
theorem kd_44 : ts_knd 44 = 0 := by decide +kernel
theorem kl_44 : ts_cls 44 = 5 := by decide +kernel
theorem kd_45 : ts_knd 45 = 1 := by decide +kernel
theorem kl_45 : ts_cls 45 = 6 := by decide +kernel
theorem kd_46 : ts_knd 46 = 1 := by decide +kernel
theorem kl_46 : ts_cls 46 = 6 := by decide +kernel
theorem kd_47 : ts_knd 47 = 0 := by decide +kernel
theorem kl_47 : ts_cls 47 = 5 := by decide +kernel
theorem kd_48 : ts_knd 48 = 0 := by decide +kernel
theorem kl_48 : ts_cls 48 = 5 := by decide +kernel
theorem kd_49 : ts_knd 49 = 1 := by decide +kernel
theorem kl_49 : ts_cls 49 = 5 := by decide +kernel
theorem kd_50 : ts_knd 50 = 0 := by decide +kernel
theorem kl_50 : ts_cls 50 = 5 := by decide +kernel
theorem kd_51 : ts_knd 51 = 0 := by decide +kernel
theorem kl_51 : ts_cls 51 = 6 := by decide +kernel
theorem kd_52 : ts_knd 52 = 1 := by decide +kernel
theorem kl_52 : ts_cls 52 = 6 := by decide +kernel
theorem kd_53 : ts_knd 53 = 0 := by decide +kernel
theorem kl_53 : ts_cls 53 = 2 := by decide +kernel
theorem kd_54 : ts_knd 54 = 0 := by decide +kernel
theorem kl_54 : ts_cls 54 = 0 := by decide +kernel
theorem kd_55 : ts_knd 55 = 0 := by decide +kernel
theorem kl_55 : ts_cls 55 = 1 := by decide +kernel
theorem kd_56 : ts_knd 56 = 0 := by decide +kernel
theorem kl_56 : ts_cls 56 = 8 := by decide +kernel
theorem kd_60 : ts_knd 60 = 1 := by decide +kernel
theorem kl_60 : ts_cls 60 = 13 := by decide +kernel
theorem kd_62 : ts_knd 62 = 1 := by decide +kernel
theorem kl_62 : ts_cls 62 = 4 := by decide +kernel
theorem kd_63 : ts_knd 63 = 1 := by decide +kernel
theorem kl_63 : ts_cls 63 = 4 := by decide +kernel
theorem kd_64 : ts_knd 64 = 1 := by decide +kernel
theorem kl_64 : ts_cls 64 = 4 := by decide +kernel
theorem kd_65 : ts_knd 65 = 1 := by decide +kernel
theorem kl_65 : ts_cls 65 = 4 := by decide +kernel
theorem kd_68 : ts_knd 68 = 0 := by decide +kernel
theorem kl_68 : ts_cls 68 = 8 := by decide +kernel
theorem kd_74 : ts_knd 74 = 0 := by decide +kernel
theorem kl_74 : ts_cls 74 = 11 := by decide +kernel
theorem kd_75 : ts_knd 75 = 0 := by decide +kernel
theorem kl_75 : ts_cls 75 = 11 := by decide +kernel
theorem kd_78 : ts_knd 78 = 1 := by decide +kernel
theorem kl_78 : ts_cls 78 = 11 := by decide +kernel
theorem kd_79 : ts_knd 79 = 1 := by decide +kernel
theorem kl_79 : ts_cls 79 = 11 := by decide +kernel
theorem kd_80 : ts_knd 80 = 1 := by decide +kernel
theorem kl_80 : ts_cls 80 = 11 := by decide +kernel
theorem kd_81 : ts_knd 81 = 0 := by decide +kernel
theorem kl_81 : ts_cls 81 = 1 := by decide +kernel
theorem kd_82 : ts_knd 82 = 3 := by decide +kernel
theorem kl_82 : ts_cls 82 = 1 := by decide +kernel
theorem kd_83 : ts_knd 83 = 0 := by decide +kernel
theorem kl_83 : ts_cls 83 = 2 := by decide +kernel
theorem kd_84 : ts_knd 84 = 0 := by decide +kernel
theorem kl_84 : ts_cls 84 = 11 := by decide +kernel
theorem kd_85 : ts_knd 85 = 0 := by decide +kernel
theorem kl_85 : ts_cls 85 = 4 := by decide +kernel
theorem kd_86 : ts_knd 86 = 0 := by decide +kernel
theorem kl_86 : ts_cls 86 = 0 := by decide +kernel
theorem kd_87 : ts_knd 87 = 1 := by decide +kernel
theorem kl_87 : ts_cls 87 = 2 := by decide +kernel
theorem kd_88 : ts_knd 88 = 0 := by decide +kernel
theorem kl_88 : ts_cls 88 = 2 := by decide +kernel
theorem kd_90 : ts_knd 90 = 1 := by decide +kernel
theorem kl_90 : ts_cls 90 = 2 := by decide +kernel
theorem kd_91 : ts_knd 91 = 1 := by decide +kernel
theorem kl_91 : ts_cls 91 = 2 := by decide +kernel
theorem kd_92 : ts_knd 92 = 1 := by decide +kernel
theorem kl_92 : ts_cls 92 = 4 := by decide +kernel
theorem kd_93 : ts_knd 93 = 1 := by decide +kernel
theorem kl_93 : ts_cls 93 = 11 := by decide +kernel
theorem kd_94 : ts_knd 94 = 1 := by decide +kernel
theorem kl_94 : ts_cls 94 = 2 := by decide +kernel
theorem kd_95 : ts_knd 95 = 1 := by decide +kernel
theorem kl_95 : ts_cls 95 = 2 := by decide +kernel
theorem kd_96 : ts_knd 96 = 1 := by decide +kernel
theorem kl_96 : ts_cls 96 = 2 := by decide +kernel
theorem kd_97 : ts_knd 97 = 1 := by decide +kernel
theorem kl_97 : ts_cls 97 = 2 := by decide +kernel
theorem kd_98 : ts_knd 98 = 1 := by decide +kernel
theorem kl_98 : ts_cls 98 = 11 := by decide +kernel
theorem kd_99 : ts_knd 99 = 1 := by decide +kernel
theorem kl_99 : ts_cls 99 = 2 := by decide +kernel
theorem kd_100 : ts_knd 100 = 1 := by decide +kernel
theorem kl_100 : ts_cls 100 = 11 := by decide +kernel
theorem kd_101 : ts_knd 101 = 0 := by decide +kernel
theorem kl_101 : ts_cls 101 = 7 := by decide +kernel
theorem kd_102 : ts_knd 102 = 1 := by decide +kernel
theorem kl_102 : ts_cls 102 = 7 := by decide +kernel
theorem kd_103 : ts_knd 103 = 1 := by decide +kernel
theorem kl_103 : ts_cls 103 = 5 := by decide +kernel
theorem kd_104 : ts_knd 104 = 3 := by decide +kernel
theorem kl_104 : ts_cls 104 = 2 := by decide +kernel
theorem kd_105 : ts_knd 105 = 3 := by decide +kernel
theorem kl_105 : ts_cls 105 = 2 := by decide +kernel
theorem kd_106 : ts_knd 106 = 1 := by decide +kernel
theorem kl_106 : ts_cls 106 = 11 := by decide +kernel
theorem kd_107 : ts_knd 107 = 1 := by decide +kernel
theorem kl_107 : ts_cls 107 = 11 := by decide +kernel
theorem kd_108 : ts_knd 108 = 0 := by decide +kernel
theorem kl_108 : ts_cls 108 = 4 := by decide +kernel
theorem kd_109 : ts_knd 109 = 0 := by decide +kernel
theorem kl_109 : ts_cls 109 = 4 := by decide +kernel
theorem kd_110 : ts_knd 110 = 1 := by decide +kernel
theorem kl_110 : ts_cls 110 = 7 := by decide +kernel
theorem kd_111 : ts_knd 111 = 0 := by decide +kernel
theorem kl_111 : ts_cls 111 = 2 := by decide +kernel
theorem kd_112 : ts_knd 112 = 0 := by decide +kernel
theorem kl_112 : ts_cls 112 = 0 := by decide +kernel
theorem kd_113 : ts_knd 113 = 1 := by decide +kernel
theorem kl_113 : ts_cls 113 = 11 := by decide +kernel
theorem kd_114 : ts_knd 114 = 3 := by decide +kernel
theorem kl_114 : ts_cls 114 = 2 := by decide +kernel
theorem kd_115 : ts_knd 115 = 1 := by decide +kernel
theorem kl_115 : ts_cls 115 = 4 := by decide +kernel
theorem kd_116 : ts_knd 116 = 0 := by decide +kernel
theorem kl_116 : ts_cls 116 = 4 := by decide +kernel
theorem kd_117 : ts_knd 117 = 1 := by decide +kernel
theorem kl_117 : ts_cls 117 = 11 := by decide +kernel
theorem kd_118 : ts_knd 118 = 1 := by decide +kernel
theorem kl_118 : ts_cls 118 = 2 := by decide +kernel
theorem kd_119 : ts_knd 119 = 1 := by decide +kernel
theorem kl_119 : ts_cls 119 = 11 := by decide +kernel
theorem kd_120 : ts_knd 120 = 0 := by decide +kernel
theorem kl_120 : ts_cls 120 = 4 := by decide +kernel
theorem kd_121 : ts_knd 121 = 1 := by decide +kernel
theorem kl_121 : ts_cls 121 = 11 := by decide +kernel
theorem kd_122 : ts_knd 122 = 1 := by decide +kernel
theorem kl_122 : ts_cls 122 = 4 := by decide +kernel
theorem kd_123 : ts_knd 123 = 1 := by decide +kernel
theorem kl_123 : ts_cls 123 = 11 := by decide +kernel
theorem kd_124 : ts_knd 124 = 1 := by decide +kernel
theorem kl_124 : ts_cls 124 = 11 := by decide +kernel
theorem kd_125 : ts_knd 125 = 1 := by decide +kernel
theorem kl_125 : ts_cls 125 = 2 := by decide +kernel
theorem kd_126 : ts_knd 126 = 3 := by decide +kernel
theorem kl_126 : ts_cls 126 = 2 := by decide +kernel
theorem kd_127 : ts_knd 127 = 1 := by decide +kernel
theorem kl_127 : ts_cls 127 = 4 := by decide +kernel
theorem kd_128 : ts_knd 128 = 0 := by decide +kernel
theorem kl_128 : ts_cls 128 = 2 := by decide +kernel
theorem kd_129 : ts_knd 129 = 1 := by decide +kernel
theorem kl_129 : ts_cls 129 = 11 := by decide +kernel
theorem kd_130 : ts_knd 130 = 1 := by decide +kernel
theorem kl_130 : ts_cls 130 = 11 := by decide +kernel
theorem kd_131 : ts_knd 131 = 1 := by decide +kernel
theorem kl_131 : ts_cls 131 = 4 := by decide +kernel
theorem kd_132 : ts_knd 132 = 1 := by decide +kernel
theorem kl_132 : ts_cls 132 = 11 := by decide +kernel
theorem kd_133 : ts_knd 133 = 1 := by decide +kernel
theorem kl_133 : ts_cls 133 = 11 := by decide +kernel
theorem kd_137 : ts_knd 137 = 1 := by decide +kernel
theorem kl_137 : ts_cls 137 = 11 := by decide +kernel
theorem kd_138 : ts_knd 138 = 1 := by decide +kernel
theorem kl_138 : ts_cls 138 = 11 := by decide +kernel
theorem kd_139 : ts_knd 139 = 1 := by decide +kernel
theorem kl_139 : ts_cls 139 = 4 := by decide +kernel
theorem kd_140 : ts_knd 140 = 1 := by decide +kernel
theorem kl_140 : ts_cls 140 = 11 := by decide +kernel
theorem kd_141 : ts_knd 141 = 1 := by decide +kernel
theorem kl_141 : ts_cls 141 = 11 := by decide +kernel
theorem kd_142 : ts_knd 142 = 1 := by decide +kernel
theorem kl_142 : ts_cls 142 = 11 := by decide +kernel
theorem kd_147 : ts_knd 147 = 1 := by decide +kernel
theorem kl_147 : ts_cls 147 = 11 := by decide +kernel
theorem kd_148 : ts_knd 148 = 1 := by decide +kernel
theorem kl_148 : ts_cls 148 = 11 := by decide +kernel
theorem kd_149 : ts_knd 149 = 1 := by decide +kernel
theorem kl_149 : ts_cls 149 = 11 := by decide +kernel
theorem kd_150 : ts_knd 150 = 1 := by decide +kernel
theorem kl_150 : ts_cls 150 = 2 := by decide +kernel
theorem kd_151 : ts_knd 151 = 1 := by decide +kernel
theorem kl_151 : ts_cls 151 = 11 := by decide +kernel
theorem kd_152 : ts_knd 152 = 1 := by decide +kernel
theorem kl_152 : ts_cls 152 = 11 := by decide +kernel
theorem kd_153 : ts_knd 153 = 1 := by decide +kernel
theorem kl_153 : ts_cls 153 = 11 := by decide +kernel
theorem kd_154 : ts_knd 154 = 1 := by decide +kernel
theorem kl_154 : ts_cls 154 = 11 := by decide +kernel
theorem kd_160 : ts_knd 160 = 1 := by decide +kernel
theorem kl_160 : ts_cls 160 = 11 := by decide +kernel
theorem kd_163 : ts_knd 163 = 1 := by decide +kernel
theorem kl_163 : ts_cls 163 = 11 := by decide +kernel
theorem kd_164 : ts_knd 164 = 1 := by decide +kernel
theorem kl_164 : ts_cls 164 = 0 := by decide +kernel
theorem kd_165 : ts_knd 165 = 1 := by decide +kernel
theorem kl_165 : ts_cls 165 = 0 := by decide +kernel
theorem kd_167 : ts_knd 167 = 1 := by decide +kernel
theorem kl_167 : ts_cls 167 = 11 := by decide +kernel
theorem kd_168 : ts_knd 168 = 1 := by decide +kernel
theorem kl_168 : ts_cls 168 = 1 := by decide +kernel
theorem kd_169 : ts_knd 169 = 1 := by decide +kernel
theorem kl_169 : ts_cls 169 = 11 := by decide +kernel
theorem kd_170 : ts_knd 170 = 0 := by decide +kernel
theorem kl_170 : ts_cls 170 = 1 := by decide +kernel
theorem kd_171 : ts_knd 171 = 1 := by decide +kernel
theorem kl_171 : ts_cls 171 = 11 := by decide +kernel
theorem kd_172 : ts_knd 172 = 1 := by decide +kernel
theorem kl_172 : ts_cls 172 = 1 := by decide +kernel
theorem kd_173 : ts_knd 173 = 1 := by decide +kernel
theorem kl_173 : ts_cls 173 = 11 := by decide +kernel
theorem kd_174 : ts_knd 174 = 1 := by decide +kernel
theorem kl_174 : ts_cls 174 = 8 := by decide +kernel
theorem kd_175 : ts_knd 175 = 2 := by decide +kernel
theorem kl_175 : ts_cls 175 = 11 := by decide +kernel
theorem kd_176 : ts_knd 176 = 1 := by decide +kernel
theorem kl_176 : ts_cls 176 = 8 := by decide +kernel
theorem kd_177 : ts_knd 177 = 1 := by decide +kernel
theorem kl_177 : ts_cls 177 = 14 := by decide +kernel
/-- TransitSeals$Net.measureWays()V -/
abbrev Y12 : ts_Y := (yX5_measureWays, cX5_measureWays, 5, none, 5)
set_option maxRecDepth 20000 in
theorem hY12 : ts_mL[12]? = some Y12 := rfl
/-- TransitSeals$Net.roadHours(II)I -/
abbrev Y13 : ts_Y := (yX5_roadHours, cX5_roadHours, 3, (some .int), 5)
set_option maxRecDepth 20000 in
theorem hY13 : ts_mL[13]? = some Y13 := rfl
/-- TransitSeals$Net.hasOffice(I)Z -/
abbrev Y14 : ts_Y := (yX5_hasOffice, cX5_hasOffice, 2, (some .boolean), 5)
set_option maxRecDepth 20000 in
theorem hY14 : ts_mL[14]? = some Y14 := rfl
/-- TransitSeals$Net.pair(II)I -/
abbrev Y15 : ts_Y := (yX5_pair, cX5_pair, 2, (some .int), 5)
set_option maxRecDepth 20000 in
theorem hY15 : ts_mL[15]? = some Y15 := rfl
/-- TransitSeals.numberIn([II)I -/
abbrev Y16 : ts_Y := (yX11_numberIn, cX11_numberIn, 2, (some .int), 11)
set_option maxRecDepth 20000 in
theorem hY16 : ts_mL[16]? = some Y16 := rfl
/-- TransitSeals.put([III)V -/
abbrev Y17 : ts_Y := (yX11_put, cX11_put, 3, none, 11)
set_option maxRecDepth 20000 in
theorem hY17 : ts_mL[17]? = some Y17 := rfl
/-- TransitSeals$Net.wayHours(II)I -/
abbrev Y18 : ts_Y := (yX5_wayHours, cX5_wayHours, 3, (some .int), 5)
set_option maxRecDepth 20000 in
theorem hY18 : ts_mL[18]? = some Y18 := rfl
/-- TransitSeals$Net.writeDown()V -/
abbrev Y19 : ts_Y := (yX5_writeDown, cX5_writeDown, 4, none, 5)
set_option maxRecDepth 20000 in
theorem hY19 : ts_mL[19]? = some Y19 := rfl
/-- TransitSeals$Text.cutTo(I)V -/
abbrev Y20 : ts_Y := (yX10_cutTo, cX10_cutTo, 2, none, 10)
set_option maxRecDepth 20000 in
theorem hY20 : ts_mL[20]? = some Y20 := rfl
/-- TransitSeals$Net.countryOf(I)I -/
abbrev Y21 : ts_Y := (yX5_countryOf, cX5_countryOf, 2, (some .int), 5)
set_option maxRecDepth 20000 in
theorem hY21 : ts_mL[21]? = some Y21 := rfl
/-- TransitSeals$Text.addNumber(I)V -/
abbrev Y22 : ts_Y := (yX10_addNumber, cX10_addNumber, 2, none, 10)
set_option maxRecDepth 20000 in
theorem hY22 : ts_mL[22]? = some Y22 := rfl
/-- TransitSeals$Text.add(I)V -/
abbrev Y23 : ts_Y := (yX10_add, cX10_add, 2, none, 10)
set_option maxRecDepth 20000 in
theorem hY23 : ts_mL[23]? = some Y23 := rfl
/-- TransitSeals$Net.writeRoad(IIZ)V -/
abbrev Y24 : ts_Y := (yX5_writeRoad, cX5_writeRoad, 4, none, 5)
set_option maxRecDepth 20000 in
theorem hY24 : ts_mL[24]? = some Y24 := rfl
/-- TransitSeals$Net.dutyOf(I)I -/
abbrev Y25 : ts_Y := (yX5_dutyOf, cX5_dutyOf, 2, (some .int), 5)
set_option maxRecDepth 20000 in
theorem hY25 : ts_mL[25]? = some Y25 := rfl
/-- TransitSeals.sign(I)I -/
abbrev Y26 : ts_Y := (yX11_sign, cX11_sign, 4, (some .int), 11)
set_option maxRecDepth 20000 in
theorem hY26 : ts_mL[26]? = some Y26 := rfl
/-- TransitSeals$Text.size()I -/
abbrev Y27 : ts_Y := (yX10_size, cX10_size, 1, (some .int), 10)
set_option maxRecDepth 20000 in
theorem hY27 : ts_mL[27]? = some Y27 := rfl
/-- TransitSeals.end(I)Z -/
abbrev Y28 : ts_Y := (yX11_end, cX11_end, 2, (some .boolean), 11)
set_option maxRecDepth 20000 in
theorem hY28 : ts_mL[28]? = some Y28 := rfl
/-- TransitSeals.net()I -/
abbrev Y29 : ts_Y := (yX11_net, cX11_net, 2, (some .int), 11)
set_option maxRecDepth 20000 in
theorem hY29 : ts_mL[29]? = some Y29 := rfl
/-- TransitSeals$Net.readFrom(LTransitSeals$Reader;)V -/
abbrev Y30 : ts_Y := (yX5_readFrom, cX5_readFrom, 2, none, 5)
set_option maxRecDepth 20000 in
theorem hY30 : ts_mL[30]? = some Y30 := rfl
/-- TransitSeals$Reader.begin()V -/
abbrev Y31 : ts_Y := (yX6_begin, cX6_begin, 1, none, 6)
set_option maxRecDepth 20000 in
theorem hY31 : ts_mL[31]? = some Y31 := rfl
/-- TransitSeals$Net.clear()V -/
abbrev Y32 : ts_Y := (yX5_clear, cX5_clear, 1, none, 5)
set_option maxRecDepth 20000 in
theorem hY32 : ts_mL[32]? = some Y32 := rfl
/-- TransitSeals.wipe([I)V -/
abbrev Y33 : ts_Y := (yX11_wipe, cX11_wipe, 2, none, 11)
set_option maxRecDepth 20000 in
theorem hY33 : ts_mL[33]? = some Y33 := rfl
/-- TransitSeals$Net.readCountries(LTransitSeals$Reader;)V -/
abbrev Y34 : ts_Y := (yX5_readCountries, cX5_readCountries, 3, none, 5)
set_option maxRecDepth 20000 in
theorem hY34 : ts_mL[34]? = some Y34 := rfl
/-- TransitSeals$Reader.digit()I -/
abbrev Y35 : ts_Y := (yX6_digit, cX6_digit, 2, (some .int), 6)
set_option maxRecDepth 20000 in
theorem hY35 : ts_mL[35]? = some Y35 := rfl
/-- TransitSeals$Text.signAt(I)I -/
abbrev Y36 : ts_Y := (yX10_signAt, cX10_signAt, 2, (some .int), 10)
set_option maxRecDepth 20000 in
theorem hY36 : ts_mL[36]? = some Y36 := rfl
/-- TransitSeals$Reader.number(II)I -/
abbrev Y37 : ts_Y := (yX6_number, cX6_number, 6, (some .int), 6)
set_option maxRecDepth 20000 in
theorem hY37 : ts_mL[37]? = some Y37 := rfl
/-- TransitSeals$Reader.failed()Z -/
abbrev Y38 : ts_Y := (yX6_failed, cX6_failed, 1, (some .boolean), 6)
set_option maxRecDepth 20000 in
theorem hY38 : ts_mL[38]? = some Y38 := rfl
/-- TransitSeals$Reader.refuseHere()V -/
abbrev Y39 : ts_Y := (yX6_refuseHere, cX6_refuseHere, 1, none, 6)
set_option maxRecDepth 20000 in
theorem hY39 : ts_mL[39]? = some Y39 := rfl
/-- TransitSeals.digitsOf(I)I -/
abbrev Y40 : ts_Y := (yX11_digitsOf, cX11_digitsOf, 1, (some .int), 11)
set_option maxRecDepth 20000 in
theorem hY40 : ts_mL[40]? = some Y40 := rfl
/-- TransitSeals$Reader.refuseLast()V -/
abbrev Y41 : ts_Y := (yX6_refuseLast, cX6_refuseLast, 1, none, 6)
set_option maxRecDepth 20000 in
theorem hY41 : ts_mL[41]? = some Y41 := rfl
/-- TransitSeals$Reader.needs(C)V -/
abbrev Y42 : ts_Y := (yX6_needs, cX6_needs, 2, none, 6)
set_option maxRecDepth 20000 in
theorem hY42 : ts_mL[42]? = some Y42 := rfl
/-- TransitSeals$Reader.takes(C)Z -/
abbrev Y43 : ts_Y := (yX6_takes, cX6_takes, 2, (some .boolean), 6)
set_option maxRecDepth 20000 in
theorem hY43 : ts_mL[43]? = some Y43 := rfl
/-- TransitSeals$Net.readRoads(LTransitSeals$Reader;)V -/
abbrev Y44 : ts_Y := (yX5_readRoads, cX5_readRoads, 3, none, 5)
set_option maxRecDepth 20000 in
theorem hY44 : ts_mL[44]? = some Y44 := rfl
/-- TransitSeals$Reader.atEnd()Z -/
abbrev Y45 : ts_Y := (yX6_atEnd, cX6_atEnd, 1, (some .boolean), 6)
set_option maxRecDepth 20000 in
theorem hY45 : ts_mL[45]? = some Y45 := rfl
/-- TransitSeals$Reader.sees(C)Z -/
abbrev Y46 : ts_Y := (yX6_sees, cX6_sees, 2, (some .boolean), 6)
set_option maxRecDepth 20000 in
theorem hY46 : ts_mL[46]? = some Y46 := rfl
/-- TransitSeals$Net.readRoad(LTransitSeals$Reader;)V -/
abbrev Y47 : ts_Y := (yX5_readRoad, cX5_readRoad, 5, none, 5)
set_option maxRecDepth 20000 in
theorem hY47 : ts_mL[47]? = some Y47 := rfl
/-- TransitSeals$Net.join(III)V -/
abbrev Y48 : ts_Y := (yX5_join, cX5_join, 4, none, 5)
set_option maxRecDepth 20000 in
theorem hY48 : ts_mL[48]? = some Y48 := rfl
/-- TransitSeals$Net.near(I)I -/
abbrev Y49 : ts_Y := (yX5_near, cX5_near, 2, (some .int), 5)
set_option maxRecDepth 20000 in
theorem hY49 : ts_mL[49]? = some Y49 := rfl
/-- TransitSeals$Net.readDuties(LTransitSeals$Reader;)V -/
abbrev Y50 : ts_Y := (yX5_readDuties, cX5_readDuties, 3, none, 5)
set_option maxRecDepth 20000 in
theorem hY50 : ts_mL[50]? = some Y50 := rfl
/-- TransitSeals$Reader.finish()V -/
abbrev Y51 : ts_Y := (yX6_finish, cX6_finish, 1, none, 6)
set_option maxRecDepth 20000 in
theorem hY51 : ts_mL[51]? = some Y51 := rfl
/-- TransitSeals$Reader.refusal()I -/
abbrev Y52 : ts_Y := (yX6_refusal, cX6_refusal, 1, (some .int), 6)
set_option maxRecDepth 20000 in
theorem hY52 : ts_mL[52]? = some Y52 := rfl
/-- TransitSeals$Ledger.clear()V -/
abbrev Y53 : ts_Y := (yX2_clear, cX2_clear, 5, none, 2)
set_option maxRecDepth 20000 in
theorem hY53 : ts_mL[53]? = some Y53 := rfl
/-- TransitSeals$Book.clear()V -/
abbrev Y54 : ts_Y := (yX0_clear, cX0_clear, 1, none, 0)
set_option maxRecDepth 20000 in
theorem hY54 : ts_mL[54]? = some Y54 := rfl
/-- TransitSeals$History.clear()V -/
abbrev Y55 : ts_Y := (yX1_clear, cX1_clear, 1, none, 1)
set_option maxRecDepth 20000 in
theorem hY55 : ts_mL[55]? = some Y55 := rfl
/-- TransitSeals$Row.clear()V -/
abbrev Y56 : ts_Y := (yX8_clear, cX8_clear, 1, none, 8)
set_option maxRecDepth 20000 in
theorem hY56 : ts_mL[56]? = some Y56 := rfl
/-- java/lang/Integer.bitCount(I)I -/
abbrev Y60 : ts_Y := (yJ6_bitCount_0f7a4, cJ6_bitCount_0f7a4, 1, (some .int), 13)
set_option maxRecDepth 20000 in
theorem hY60 : ts_mL[60]? = some Y60 := rfl
/-- TransitSeals$Movement.isUnderway()Z -/
abbrev Y62 : ts_Y := (yX4_isUnderway, cX4_isUnderway, 1, (some .boolean), 4)
set_option maxRecDepth 20000 in
theorem hY62 : ts_mL[62]? = some Y62 := rfl
/-- TransitSeals$Movement.seen()I -/
abbrev Y63 : ts_Y := (yX4_seen, cX4_seen, 1, (some .int), 4)
set_option maxRecDepth 20000 in
theorem hY63 : ts_mL[63]? = some Y63 := rfl
/-- TransitSeals$Movement.officeAt(I)I -/
abbrev Y64 : ts_Y := (yX4_officeAt, cX4_officeAt, 2, (some .int), 4)
set_option maxRecDepth 20000 in
theorem hY64 : ts_mL[64]? = some Y64 := rfl
/-- TransitSeals$Movement.bit()I -/
abbrev Y65 : ts_Y := (yX4_bit, cX4_bit, 1, (some .int), 4)
set_option maxRecDepth 20000 in
theorem hY65 : ts_mL[65]? = some Y65 := rfl
/-- TransitSeals$Row.add(I)V -/
abbrev Y68 : ts_Y := (yX8_add, cX8_add, 2, none, 8)
set_option maxRecDepth 20000 in
theorem hY68 : ts_mL[68]? = some Y68 := rfl
/-- TransitSeals.tell(II)V -/
abbrev Y74 : ts_Y := (yX11_tell_, cX11_tell_, 3, none, 11)
set_option maxRecDepth 20000 in
theorem hY74 : ts_mL[74]? = some Y74 := rfl
/-- TransitSeals.tell(I)V -/
abbrev Y75 : ts_Y := (yX11_tell, cX11_tell, 2, none, 11)
set_option maxRecDepth 20000 in
theorem hY75 : ts_mL[75]? = some Y75 := rfl
/-- TransitSeals.trader(II)I -/
abbrev Y78 : ts_Y := (yX11_trader, cX11_trader, 3, (some .int), 11)
set_option maxRecDepth 20000 in
theorem hY78 : ts_mL[78]? = some Y78 := rfl
/-- TransitSeals.isSum(I)Z -/
abbrev Y79 : ts_Y := (yX11_isSum, cX11_isSum, 1, (some .boolean), 11)
set_option maxRecDepth 20000 in
theorem hY79 : ts_mL[79]? = some Y79 := rfl
/-- TransitSeals.isLevel(I)Z -/
abbrev Y80 : ts_Y := (yX11_isLevel, cX11_isLevel, 1, (some .boolean), 11)
set_option maxRecDepth 20000 in
theorem hY80 : ts_mL[80]? = some Y80 := rfl
/-- TransitSeals$History.remember(LTransitSeals$Ledger;)V -/
abbrev Y81 : ts_Y := (yX1_remember, cX1_remember, 3, none, 1)
set_option maxRecDepth 20000 in
theorem hY81 : ts_mL[81]? = some Y81 := rfl
/-- TransitSeals$History.latestBefore()LTransitSeals$Ledger; -/
abbrev Y82 : ts_Y := (yX1_latestBefore, cX1_latestBefore, 1, (some (.object "TransitSeals$Ledger")), 1)
set_option maxRecDepth 20000 in
theorem hY82 : ts_mL[82]? = some Y82 := rfl
/-- TransitSeals$Ledger.copyFrom(LTransitSeals$Ledger;)V -/
abbrev Y83 : ts_Y := (yX2_copyFrom, cX2_copyFrom, 3, none, 2)
set_option maxRecDepth 20000 in
theorem hY83 : ts_mL[83]? = some Y83 := rfl
/-- TransitSeals.copy([I[I)V -/
abbrev Y84 : ts_Y := (yX11_copy, cX11_copy, 3, none, 11)
set_option maxRecDepth 20000 in
theorem hY84 : ts_mL[84]? = some Y84 := rfl
/-- TransitSeals$Movement.copyFrom(LTransitSeals$Movement;)V -/
abbrev Y85 : ts_Y := (yX4_copyFrom, cX4_copyFrom, 2, none, 4)
set_option maxRecDepth 20000 in
theorem hY85 : ts_mL[85]? = some Y85 := rfl
/-- TransitSeals$Book.copyFrom(LTransitSeals$Book;)V -/
abbrev Y86 : ts_Y := (yX0_copyFrom, cX0_copyFrom, 2, none, 0)
set_option maxRecDepth 20000 in
theorem hY86 : ts_mL[86]? = some Y86 := rfl
/-- TransitSeals$Ledger.addTrader(II)I -/
abbrev Y87 : ts_Y := (yX2_addTrader, cX2_addTrader, 3, (some .int), 2)
set_option maxRecDepth 20000 in
theorem hY87 : ts_mL[87]? = some Y87 := rfl
/-- TransitSeals$Ledger.setTrader(III)V -/
abbrev Y88 : ts_Y := (yX2_setTrader, cX2_setTrader, 4, none, 2)
set_option maxRecDepth 20000 in
theorem hY88 : ts_mL[88]? = some Y88 := rfl
/-- TransitSeals$Ledger.hasTrader(I)Z -/
abbrev Y90 : ts_Y := (yX2_hasTrader, cX2_hasTrader, 2, (some .boolean), 2)
set_option maxRecDepth 20000 in
theorem hY90 : ts_mL[90]? = some Y90 := rfl
/-- TransitSeals$Ledger.sharesOf(I)I -/
abbrev Y91 : ts_Y := (yX2_sharesOf, cX2_sharesOf, 7, (some .int), 2)
set_option maxRecDepth 20000 in
theorem hY91 : ts_mL[91]? = some Y91 := rfl
/-- TransitSeals$Movement.isOpenFor(I)Z -/
abbrev Y92 : ts_Y := (yX4_isOpenFor, cX4_isOpenFor, 2, (some .boolean), 4)
set_option maxRecDepth 20000 in
theorem hY92 : ts_mL[92]? = some Y92 := rfl
/-- TransitSeals.inUse(I)I -/
abbrev Y93 : ts_Y := (yX11_inUse, cX11_inUse, 2, (some .int), 11)
set_option maxRecDepth 20000 in
theorem hY93 : ts_mL[93]? = some Y93 := rfl
/-- TransitSeals$Ledger.sumOf(I)I -/
abbrev Y94 : ts_Y := (yX2_sumOf, cX2_sumOf, 2, (some .int), 2)
set_option maxRecDepth 20000 in
theorem hY94 : ts_mL[94]? = some Y94 := rfl
/-- TransitSeals$Ledger.levelOf(I)I -/
abbrev Y95 : ts_Y := (yX2_levelOf, cX2_levelOf, 2, (some .int), 2)
set_option maxRecDepth 20000 in
theorem hY95 : ts_mL[95]? = some Y95 := rfl
/-- TransitSeals$Ledger.freeOf(I)I -/
abbrev Y96 : ts_Y := (yX2_freeOf, cX2_freeOf, 2, (some .int), 2)
set_option maxRecDepth 20000 in
theorem hY96 : ts_mL[96]? = some Y96 := rfl
/-- TransitSeals$Ledger.openOf(I)I -/
abbrev Y97 : ts_Y := (yX2_openOf, cX2_openOf, 7, (some .int), 2)
set_option maxRecDepth 20000 in
theorem hY97 : ts_mL[97]? = some Y97 := rfl
/-- TransitSeals.owes(I)I -/
abbrev Y98 : ts_Y := (yX11_owes, cX11_owes, 2, (some .int), 11)
set_option maxRecDepth 20000 in
theorem hY98 : ts_mL[98]? = some Y98 := rfl
/-- TransitSeals$Ledger.debtsOf(II)I -/
abbrev Y99 : ts_Y := (yX2_debtsOf, cX2_debtsOf, 8, (some .int), 2)
set_option maxRecDepth 20000 in
theorem hY99 : ts_mL[99]? = some Y99 := rfl
/-- TransitSeals.starts(III)I -/
abbrev Y100 : ts_Y := (yX11_starts, cX11_starts, 7, (some .int), 11)
set_option maxRecDepth 20000 in
theorem hY100 : ts_mL[100]? = some Y100 := rfl
/-- TransitSeals$Route.readFrom(LTransitSeals$Reader;LTransitSeals$Net;)V -/
abbrev Y101 : ts_Y := (yX7_readFrom, cX7_readFrom, 7, none, 7)
set_option maxRecDepth 20000 in
theorem hY101 : ts_mL[101]? = some Y101 := rfl
/-- TransitSeals$Route.officeAt(I)I -/
abbrev Y102 : ts_Y := (yX7_officeAt, cX7_officeAt, 2, (some .int), 7)
set_option maxRecDepth 20000 in
theorem hY102 : ts_mL[102]? = some Y102 := rfl
/-- TransitSeals$Net.hasGoods(I)Z -/
abbrev Y103 : ts_Y := (yX5_hasGoods, cX5_hasGoods, 2, (some .boolean), 5)
set_option maxRecDepth 20000 in
theorem hY103 : ts_mL[103]? = some Y103 := rfl
/-- TransitSeals$Ledger.nextToStart()LTransitSeals$Movement; -/
abbrev Y104 : ts_Y := (yX2_nextToStart, cX2_nextToStart, 1, (some (.object "TransitSeals$Movement")), 2)
set_option maxRecDepth 20000 in
theorem hY104 : ts_mL[104]? = some Y104 := rfl
/-- TransitSeals$Ledger.movementAt(I)LTransitSeals$Movement; -/
abbrev Y105 : ts_Y := (yX2_movementAt, cX2_movementAt, 2, (some (.object "TransitSeals$Movement")), 2)
set_option maxRecDepth 20000 in
theorem hY105 : ts_mL[105]? = some Y105 := rfl
/-- TransitSeals.share(II)I -/
abbrev Y106 : ts_Y := (yX11_share, cX11_share, 3, (some .int), 11)
set_option maxRecDepth 20000 in
theorem hY106 : ts_mL[106]? = some Y106 := rfl
/-- TransitSeals.partsOf(I)I -/
abbrev Y107 : ts_Y := (yX11_partsOf, cX11_partsOf, 1, (some .int), 11)
set_option maxRecDepth 20000 in
theorem hY107 : ts_mL[107]? = some Y107 := rfl
/-- TransitSeals$Movement.load(IIIII)V -/
abbrev Y108 : ts_Y := (yX4_load, cX4_load, 6, none, 4)
set_option maxRecDepth 20000 in
theorem hY108 : ts_mL[108]? = some Y108 := rfl
/-- TransitSeals$Movement.start(LTransitSeals$Route;I)V -/
abbrev Y109 : ts_Y := (yX4_start, cX4_start, 4, none, 4)
set_option maxRecDepth 20000 in
theorem hY109 : ts_mL[109]? = some Y109 := rfl
/-- TransitSeals$Route.termFrom(I)I -/
abbrev Y110 : ts_Y := (yX7_termFrom, cX7_termFrom, 2, (some .int), 7)
set_option maxRecDepth 20000 in
theorem hY110 : ts_mL[110]? = some Y110 := rfl
/-- TransitSeals$Ledger.write(ILTransitSeals$Movement;)V -/
abbrev Y111 : ts_Y := (yX2_write, cX2_write, 3, none, 2)
set_option maxRecDepth 20000 in
theorem hY111 : ts_mL[111]? = some Y111 := rfl
/-- TransitSeals$Book.add(III)V -/
abbrev Y112 : ts_Y := (yX0_add, cX0_add, 5, none, 0)
set_option maxRecDepth 20000 in
theorem hY112 : ts_mL[112]? = some Y112 := rfl
/-- TransitSeals.stamps(II)I -/
abbrev Y113 : ts_Y := (yX11_stamps, cX11_stamps, 4, (some .int), 11)
set_option maxRecDepth 20000 in
theorem hY113 : ts_mL[113]? = some Y113 := rfl
/-- TransitSeals$Ledger.find(I)LTransitSeals$Movement; -/
abbrev Y114 : ts_Y := (yX2_find, cX2_find, 2, (some (.object "TransitSeals$Movement")), 2)
set_option maxRecDepth 20000 in
theorem hY114 : ts_mL[114]? = some Y114 := rfl
/-- TransitSeals$Movement.comesTo()I -/
abbrev Y115 : ts_Y := (yX4_comesTo, cX4_comesTo, 1, (some .int), 4)
set_option maxRecDepth 20000 in
theorem hY115 : ts_mL[115]? = some Y115 := rfl
/-- TransitSeals$Movement.stamp(I)V -/
abbrev Y116 : ts_Y := (yX4_stamp, cX4_stamp, 2, none, 4)
set_option maxRecDepth 20000 in
theorem hY116 : ts_mL[116]? = some Y116 := rfl
/-- TransitSeals.breaks(I)I -/
abbrev Y117 : ts_Y := (yX11_breaks, cX11_breaks, 3, (some .int), 11)
set_option maxRecDepth 20000 in
theorem hY117 : ts_mL[117]? = some Y117 := rfl
/-- TransitSeals$Ledger.brokenSeals()I -/
abbrev Y118 : ts_Y := (yX2_brokenSeals, cX2_brokenSeals, 6, (some .int), 2)
set_option maxRecDepth 20000 in
theorem hY118 : ts_mL[118]? = some Y118 := rfl
/-- TransitSeals.controls(II)I -/
abbrev Y119 : ts_Y := (yX11_controls, cX11_controls, 5, (some .int), 11)
set_option maxRecDepth 20000 in
theorem hY119 : ts_mL[119]? = some Y119 := rfl
/-- TransitSeals$Movement.owe(I)V -/
abbrev Y120 : ts_Y := (yX4_owe, cX4_owe, 2, none, 4)
set_option maxRecDepth 20000 in
theorem hY120 : ts_mL[120]? = some Y120 := rfl
/-- TransitSeals.proves(I)I -/
abbrev Y121 : ts_Y := (yX11_proves, cX11_proves, 4, (some .int), 11)
set_option maxRecDepth 20000 in
theorem hY121 : ts_mL[121]? = some Y121 := rfl
/-- TransitSeals$Movement.step(I)I -/
abbrev Y122 : ts_Y := (yX4_step, cX4_step, 2, (some .int), 4)
set_option maxRecDepth 20000 in
theorem hY122 : ts_mL[122]? = some Y122 := rfl
/-- TransitSeals.pays(I)I -/
abbrev Y123 : ts_Y := (yX11_pays, cX11_pays, 3, (some .int), 11)
set_option maxRecDepth 20000 in
theorem hY123 : ts_mL[123]? = some Y123 := rfl
/-- TransitSeals.hours(I)I -/
abbrev Y124 : ts_Y := (yX11_hours, cX11_hours, 2, (some .int), 11)
set_option maxRecDepth 20000 in
theorem hY124 : ts_mL[124]? = some Y124 := rfl
/-- TransitSeals$Ledger.letPass(I)I -/
abbrev Y125 : ts_Y := (yX2_letPass, cX2_letPass, 6, (some .int), 2)
set_option maxRecDepth 20000 in
theorem hY125 : ts_mL[125]? = some Y125 := rfl
/-- TransitSeals$Ledger.firstToChange(I)LTransitSeals$Movement; -/
abbrev Y126 : ts_Y := (yX2_firstToChange, cX2_firstToChange, 7, (some (.object "TransitSeals$Movement")), 2)
set_option maxRecDepth 20000 in
theorem hY126 : ts_mL[126]? = some Y126 := rfl
/-- TransitSeals$Movement.changesAt()I -/
abbrev Y127 : ts_Y := (yX4_changesAt, cX4_changesAt, 1, (some .int), 4)
set_option maxRecDepth 20000 in
theorem hY127 : ts_mL[127]? = some Y127 := rfl
/-- TransitSeals$Ledger.change(LTransitSeals$Movement;)V -/
abbrev Y128 : ts_Y := (yX2_change, cX2_change, 3, none, 2)
set_option maxRecDepth 20000 in
theorem hY128 : ts_mL[128]? = some Y128 := rfl
/-- TransitSeals.movement(II)I -/
abbrev Y129 : ts_Y := (yX11_movement, cX11_movement, 4, (some .int), 11)
set_option maxRecDepth 20000 in
theorem hY129 : ts_mL[129]? = some Y129 := rfl
/-- TransitSeals.stop(II)I -/
abbrev Y130 : ts_Y := (yX11_stop, cX11_stop, 4, (some .int), 11)
set_option maxRecDepth 20000 in
theorem hY130 : ts_mL[130]? = some Y130 := rfl
/-- TransitSeals$Movement.stampedAt(I)I -/
abbrev Y131 : ts_Y := (yX4_stampedAt, cX4_stampedAt, 2, (some .int), 4)
set_option maxRecDepth 20000 in
theorem hY131 : ts_mL[131]? = some Y131 := rfl
/-- TransitSeals.left(I)I -/
abbrev Y132 : ts_Y := (yX11_left, cX11_left, 3, (some .int), 11)
set_option maxRecDepth 20000 in
theorem hY132 : ts_mL[132]? = some Y132 := rfl
/-- TransitSeals.hoursToGo(LTransitSeals$Movement;)I -/
abbrev Y133 : ts_Y := (yX11_hoursToGo, cX11_hoursToGo, 4, (some .int), 11)
set_option maxRecDepth 20000 in
theorem hY133 : ts_mL[133]? = some Y133 := rfl
/-- TransitSeals.states(I)I -/
abbrev Y137 : ts_Y := (yX11_states, cX11_states, 8, (some .int), 11)
set_option maxRecDepth 20000 in
theorem hY137 : ts_mL[137]? = some Y137 := rfl
/-- TransitSeals.owed(I)I -/
abbrev Y138 : ts_Y := (yX11_owed, cX11_owed, 9, (some .int), 11)
set_option maxRecDepth 20000 in
theorem hY138 : ts_mL[138]? = some Y138 := rfl
/-- TransitSeals$Movement.isIndebted()Z -/
abbrev Y139 : ts_Y := (yX4_isIndebted, cX4_isIndebted, 1, (some .boolean), 4)
set_option maxRecDepth 20000 in
theorem hY139 : ts_mL[139]? = some Y139 := rfl
/-- TransitSeals.late()I -/
abbrev Y140 : ts_Y := (yX11_late, cX11_late, 6, (some .int), 11)
set_option maxRecDepth 20000 in
theorem hY140 : ts_mL[140]? = some Y140 := rfl
/-- TransitSeals.isLate(LTransitSeals$Movement;)Z -/
abbrev Y141 : ts_Y := (yX11_isLate, cX11_isLate, 2, (some .boolean), 11)
set_option maxRecDepth 20000 in
theorem hY141 : ts_mL[141]? = some Y141 := rfl
/-- TransitSeals.hourOfArrival(LTransitSeals$Movement;)I -/
abbrev Y142 : ts_Y := (yX11_hourOfArrival, cX11_hourOfArrival, 2, (some .int), 11)
set_option maxRecDepth 20000 in
theorem hY142 : ts_mL[142]? = some Y142 := rfl
/-- TransitSeals.can(II)I -/
abbrev Y147 : ts_Y := (yX11_can, cX11_can, 6, (some .int), 11)
set_option maxRecDepth 20000 in
theorem hY147 : ts_mL[147]? = some Y147 := rfl
/-- TransitSeals.frees(II)I -/
abbrev Y148 : ts_Y := (yX11_frees, cX11_frees, 6, (some .int), 11)
set_option maxRecDepth 20000 in
theorem hY148 : ts_mL[148]? = some Y148 := rfl
/-- TransitSeals.fewestFreeing(II)I -/
abbrev Y149 : ts_Y := (yX11_fewestFreeing, cX11_fewestFreeing, 4, (some .int), 11)
set_option maxRecDepth 20000 in
theorem hY149 : ts_mL[149]? = some Y149 := rfl
/-- TransitSeals$Ledger.greatestShares(II)I -/
abbrev Y150 : ts_Y := (yX2_greatestShares, cX2_greatestShares, 11, (some .int), 2)
set_option maxRecDepth 20000 in
theorem hY150 : ts_mL[150]? = some Y150 := rfl
/-- TransitSeals.leastBitsFreeing(III)I -/
abbrev Y151 : ts_Y := (yX11_leastBitsFreeing, cX11_leastBitsFreeing, 10, (some .int), 11)
set_option maxRecDepth 20000 in
theorem hY151 : ts_mL[151]? = some Y151 := rfl
/-- TransitSeals.when(II)I -/
abbrev Y152 : ts_Y := (yX11_when, cX11_when, 10, (some .int), 11)
set_option maxRecDepth 20000 in
theorem hY152 : ts_mL[152]? = some Y152 := rfl
/-- TransitSeals.closingHour(LTransitSeals$Movement;)I -/
abbrev Y153 : ts_Y := (yX11_closingHour, cX11_closingHour, 3, (some .int), 11)
set_option maxRecDepth 20000 in
theorem hY153 : ts_mL[153]? = some Y153 := rfl
/-- TransitSeals.freedUntil(II)I -/
abbrev Y154 : ts_Y := (yX11_freedUntil, cX11_freedUntil, 8, (some .int), 11)
set_option maxRecDepth 20000 in
theorem hY154 : ts_mL[154]? = some Y154 := rfl
/-- TransitSeals.detour()I -/
abbrev Y160 : ts_Y := (yX11_detour, cX11_detour, 1, (some .int), 11)
set_option maxRecDepth 20000 in
theorem hY160 : ts_mL[160]? = some Y160 := rfl
/-- TransitSeals.book(II)I -/
abbrev Y163 : ts_Y := (yX11_book, cX11_book, 3, (some .int), 11)
set_option maxRecDepth 20000 in
theorem hY163 : ts_mL[163]? = some Y163 := rfl
/-- TransitSeals$Book.read(II)I -/
abbrev Y164 : ts_Y := (yX0_read, cX0_read, 4, (some .int), 0)
set_option maxRecDepth 20000 in
theorem hY164 : ts_mL[164]? = some Y164 := rfl
/-- TransitSeals$Book.size()I -/
abbrev Y165 : ts_Y := (yX0_size, cX0_size, 1, (some .int), 0)
set_option maxRecDepth 20000 in
theorem hY165 : ts_mL[165]? = some Y165 := rfl
/-- TransitSeals.undo()I -/
abbrev Y167 : ts_Y := (yX11_undo, cX11_undo, 1, (some .int), 11)
set_option maxRecDepth 20000 in
theorem hY167 : ts_mL[167]? = some Y167 := rfl
/-- TransitSeals$History.takeBack(LTransitSeals$Ledger;)Z -/
abbrev Y168 : ts_Y := (yX1_takeBack, cX1_takeBack, 3, (some .boolean), 1)
set_option maxRecDepth 20000 in
theorem hY168 : ts_mL[168]? = some Y168 := rfl
/-- TransitSeals.keeps()I -/
abbrev Y169 : ts_Y := (yX11_keeps, cX11_keeps, 1, (some .int), 11)
set_option maxRecDepth 20000 in
theorem hY169 : ts_mL[169]? = some Y169 := rfl
/-- TransitSeals$History.keep(LTransitSeals$Ledger;)V -/
abbrev Y170 : ts_Y := (yX1_keep, cX1_keep, 2, none, 1)
set_option maxRecDepth 20000 in
theorem hY170 : ts_mL[170]? = some Y170 := rfl
/-- TransitSeals.back()I -/
abbrev Y171 : ts_Y := (yX11_back, cX11_back, 1, (some .int), 11)
set_option maxRecDepth 20000 in
theorem hY171 : ts_mL[171]? = some Y171 := rfl
/-- TransitSeals$History.bringBack(LTransitSeals$Ledger;)Z -/
abbrev Y172 : ts_Y := (yX1_bringBack, cX1_bringBack, 2, (some .boolean), 1)
set_option maxRecDepth 20000 in
theorem hY172 : ts_mL[172]? = some Y172 := rfl
/-- TransitSeals.count(I)I -/
abbrev Y173 : ts_Y := (yX11_count, cX11_count, 2, (some .int), 11)
set_option maxRecDepth 20000 in
theorem hY173 : ts_mL[173]? = some Y173 := rfl
/-- TransitSeals$Row.size()I -/
abbrev Y174 : ts_Y := (yX8_size, cX8_size, 1, (some .int), 8)
set_option maxRecDepth 20000 in
theorem hY174 : ts_mL[174]? = some Y174 := rfl
/-- TransitSeals$Row.numberAt(I)I -/
abbrev Y176 : ts_Y := (yX8_numberAt, cX8_numberAt, 2, (some .int), 8)
set_option maxRecDepth 20000 in
theorem hY176 : ts_mL[176]? = some Y176 := rfl
/-- TransitSealsLaw.holds(LTransitSeals;I)Z -/
abbrev Y177 : ts_Y := (yL_holds, cL_holds, 20, (some .boolean), 14)
set_option maxRecDepth 20000 in
theorem hY177 : ts_mL[177]? = some Y177 := rfl
