/-! ===== numbers, links, methods that the equations name ===== -/
def lt_let (x : lt_m) (k : lt_m → Option lt_r) : Option lt_r := k x
theorem lt_let_x {x : lt_m} {F k : lt_m → Option lt_r} (h : ∀ y, F y = k y) : F x = lt_let x k := h x
theorem ic_n8 : Int32.ofInt (-8) = (-8 : Int32) := by decide +kernel
theorem ic_n1 : Int32.ofInt (-1) = (-1 : Int32) := by decide +kernel
theorem ic_0 : Int32.ofInt (0) = (0 : Int32) := by decide +kernel
theorem ic_1 : Int32.ofInt (1) = (1 : Int32) := by decide +kernel
theorem ic_2 : Int32.ofInt (2) = (2 : Int32) := by decide +kernel
theorem ic_3 : Int32.ofInt (3) = (3 : Int32) := by decide +kernel
theorem ic_4 : Int32.ofInt (4) = (4 : Int32) := by decide +kernel
theorem ic_5 : Int32.ofInt (5) = (5 : Int32) := by decide +kernel
theorem bi_n21 : (Int8.ofInt (-21)).toInt32 = (-21 : Int32) := by decide +kernel
theorem bi_n3 : (Int8.ofInt (-3)).toInt32 = (-3 : Int32) := by decide +kernel
theorem bi_n2 : (Int8.ofInt (-2)).toInt32 = (-2 : Int32) := by decide +kernel
theorem bi_6 : (Int8.ofInt (6)).toInt32 = (6 : Int32) := by decide +kernel
theorem bi_7 : (Int8.ofInt (7)).toInt32 = (7 : Int32) := by decide +kernel
theorem bi_8 : (Int8.ofInt (8)).toInt32 = (8 : Int32) := by decide +kernel
theorem bi_9 : (Int8.ofInt (9)).toInt32 = (9 : Int32) := by decide +kernel
theorem bi_10 : (Int8.ofInt (10)).toInt32 = (10 : Int32) := by decide +kernel
theorem bi_12 : (Int8.ofInt (12)).toInt32 = (12 : Int32) := by decide +kernel
theorem bi_16 : (Int8.ofInt (16)).toInt32 = (16 : Int32) := by decide +kernel
theorem bi_18 : (Int8.ofInt (18)).toInt32 = (18 : Int32) := by decide +kernel
theorem bi_19 : (Int8.ofInt (19)).toInt32 = (19 : Int32) := by decide +kernel
theorem bi_20 : (Int8.ofInt (20)).toInt32 = (20 : Int32) := by decide +kernel
theorem bi_24 : (Int8.ofInt (24)).toInt32 = (24 : Int32) := by decide +kernel
theorem bi_26 : (Int8.ofInt (26)).toInt32 = (26 : Int32) := by decide +kernel
theorem bi_30 : (Int8.ofInt (30)).toInt32 = (30 : Int32) := by decide +kernel
theorem bi_40 : (Int8.ofInt (40)).toInt32 = (40 : Int32) := by decide +kernel
theorem bi_44 : (Int8.ofInt (44)).toInt32 = (44 : Int32) := by decide +kernel
theorem bi_45 : (Int8.ofInt (45)).toInt32 = (45 : Int32) := by decide +kernel
theorem bi_48 : (Int8.ofInt (48)).toInt32 = (48 : Int32) := by decide +kernel
theorem bi_57 : (Int8.ofInt (57)).toInt32 = (57 : Int32) := by decide +kernel
theorem bi_58 : (Int8.ofInt (58)).toInt32 = (58 : Int32) := by decide +kernel
theorem bi_63 : (Int8.ofInt (63)).toInt32 = (63 : Int32) := by decide +kernel
theorem bi_72 : (Int8.ofInt (72)).toInt32 = (72 : Int32) := by decide +kernel
theorem bi_99 : (Int8.ofInt (99)).toInt32 = (99 : Int32) := by decide +kernel
theorem bi_100 : (Int8.ofInt (100)).toInt32 = (100 : Int32) := by decide +kernel
theorem bi_124 : (Int8.ofInt (124)).toInt32 = (124 : Int32) := by decide +kernel
theorem si_144 : (Int16.ofInt (144)).toInt32 = (144 : Int32) := by decide +kernel
theorem si_200 : (Int16.ofInt (200)).toInt32 = (200 : Int32) := by decide +kernel
theorem si_255 : (Int16.ofInt (255)).toInt32 = (255 : Int32) := by decide +kernel
theorem si_536 : (Int16.ofInt (536)).toInt32 = (536 : Int32) := by decide +kernel
theorem si_623 : (Int16.ofInt (623)).toInt32 = (623 : Int32) := by decide +kernel
theorem si_626 : (Int16.ofInt (626)).toInt32 = (626 : Int32) := by decide +kernel
theorem si_999 : (Int16.ofInt (999)).toInt32 = (999 : Int32) := by decide +kernel
theorem si_1000 : (Int16.ofInt (1000)).toInt32 = (1000 : Int32) := by decide +kernel
theorem si_5008 : (Int16.ofInt (5008)).toInt32 = (5008 : Int32) := by decide +kernel
theorem bi_0_25 : ts_bi 0 25 = 2 := by decide +kernel
theorem bi_0_31 : ts_bi 0 31 = 0 := by decide +kernel
theorem bi_0_39 : ts_bi 0 39 = 0 := by decide +kernel
theorem bi_0_43 : ts_bi 0 43 = 0 := by decide +kernel
theorem bi_1_33 : ts_bi 1 33 = 2 := by decide +kernel
theorem bi_2_50 : ts_bi 2 50 = 0 := by decide +kernel
theorem bi_2_65 : ts_bi 2 65 = 0 := by decide +kernel
theorem bi_2_69 : ts_bi 2 69 = 0 := by decide +kernel
theorem bi_2_130 : ts_bi 2 130 = 0 := by decide +kernel
theorem bi_3_42 : ts_bi 3 42 = 0 := by decide +kernel
theorem bi_3_57 : ts_bi 3 57 = 0 := by decide +kernel
theorem bi_3_65 : ts_bi 3 65 = 0 := by decide +kernel
theorem bi_4_31 : ts_bi 4 31 = 0 := by decide +kernel
theorem bi_4_42 : ts_bi 4 42 = 3 := by decide +kernel
theorem bi_4_68 : ts_bi 4 68 = 0 := by decide +kernel
theorem bi_4_82 : ts_bi 4 82 = 0 := by decide +kernel
theorem bi_5_47 : ts_bi 5 47 = 0 := by decide +kernel
theorem bi_5_54 : ts_bi 5 54 = 0 := by decide +kernel
theorem bi_5_63 : ts_bi 5 63 = 0 := by decide +kernel
theorem bi_5_96 : ts_bi 5 96 = 0 := by decide +kernel
theorem bi_5_107 : ts_bi 5 107 = 0 := by decide +kernel
theorem bi_5_142 : ts_bi 5 142 = 2 := by decide +kernel
theorem bi_6_54 : ts_bi 6 54 = 0 := by decide +kernel
theorem bi_7_19 : ts_bi 7 19 = 0 := by decide +kernel
theorem bi_7_49 : ts_bi 7 49 = 0 := by decide +kernel
theorem bi_8_19 : ts_bi 8 19 = 0 := by decide +kernel
theorem bi_8_23 : ts_bi 8 23 = 0 := by decide +kernel
theorem bi_9_29 : ts_bi 9 29 = 0 := by decide +kernel
theorem bi_9_50 : ts_bi 9 50 = 2 := by decide +kernel
theorem bi_9_55 : ts_bi 9 55 = 3 := by decide +kernel
theorem bi_10_19 : ts_bi 10 19 = 0 := by decide +kernel
theorem bi_11_152 : ts_bi 11 152 = 0 := by decide +kernel
theorem bi_11_159 : ts_bi 11 159 = 0 := by decide +kernel
theorem bi_11_162 : ts_bi 11 162 = 0 := by decide +kernel
theorem bi_11_214 : ts_bi 11 214 = 0 := by decide +kernel
theorem bi_11_335 : ts_bi 11 335 = 0 := by decide +kernel
theorem bi_11_338 : ts_bi 11 338 = 2 := by decide +kernel
theorem bi_11_420 : ts_bi 11 420 = 3 := by decide +kernel
theorem bi_12_76 : ts_bi 12 76 = 0 := by decide +kernel
theorem bi_12_186 : ts_bi 12 186 = 2 := by decide +kernel
theorem bi_12_207 : ts_bi 12 207 = 3 := by decide +kernel
theorem bi_12_213 : ts_bi 12 213 = 0 := by decide +kernel
theorem bi_12_216 : ts_bi 12 216 = 0 := by decide +kernel
theorem bi_12_240 : ts_bi 12 240 = 0 := by decide +kernel
theorem bi_12_269 : ts_bi 12 269 = 0 := by decide +kernel
theorem bi_12_304 : ts_bi 12 304 = 0 := by decide +kernel
theorem ca_0_31 : ts_cal 0 31 = some (17, 3, 1, 1) := by decide +kernel
theorem ca_0_35 : ts_cal 0 35 = some (165, 0, 0, 0) := by decide +kernel
theorem ca_0_39 : ts_cal 0 39 = some (16, 2, 1, 1) := by decide +kernel
theorem ca_0_43 : ts_cal 0 43 = some (84, 2, 1, 1) := by decide +kernel
theorem ca_1_39 : ts_cal 1 39 = some (82, 0, 0, 0) := by decide +kernel
theorem ca_1_43 : ts_cal 1 43 = some (83, 1, 0, 0) := by decide +kernel
theorem ca_1_47 : ts_cal 1 47 = some (81, 1, 0, 0) := by decide +kernel
theorem ca_2_47 : ts_cal 2 47 = some (54, 0, 0, 0) := by decide +kernel
theorem ca_2_50 : ts_cal 2 50 = some (84, 2, 1, 1) := by decide +kernel
theorem ca_2_54 : ts_cal 2 54 = some (85, 1, 0, 0) := by decide +kernel
theorem ca_2_58 : ts_cal 2 58 = some (86, 1, 0, 0) := by decide +kernel
theorem ca_2_61 : ts_cal 2 61 = some (88, 3, 0, 0) := by decide +kernel
theorem ca_2_65 : ts_cal 2 65 = some (17, 3, 1, 1) := by decide +kernel
theorem ca_2_69 : ts_cal 2 69 = some (16, 2, 1, 1) := by decide +kernel
theorem ca_2_73 : ts_cal 2 73 = some (94, 1, 0, 0) := by decide +kernel
theorem ca_2_77 : ts_cal 2 77 = some (91, 1, 0, 0) := by decide +kernel
theorem ca_2_80 : ts_cal 2 80 = some (92, 1, 0, 0) := by decide +kernel
theorem ca_2_87 : ts_cal 2 87 = some (65, 0, 0, 0) := by decide +kernel
theorem ca_2_101 : ts_cal 2 101 = some (62, 0, 0, 0) := by decide +kernel
theorem ca_2_105 : ts_cal 2 105 = some (63, 0, 0, 0) := by decide +kernel
theorem ca_2_111 : ts_cal 2 111 = some (136, 1, 0, 0) := by decide +kernel
theorem ca_2_114 : ts_cal 2 114 = some (105, 1, 0, 0) := by decide +kernel
theorem ca_2_121 : ts_cal 2 121 = some (112, 3, 0, 0) := by decide +kernel
theorem ca_2_124 : ts_cal 2 124 = some (126, 1, 0, 0) := by decide +kernel
theorem ca_2_127 : ts_cal 2 127 = some (128, 1, 0, 0) := by decide +kernel
theorem ca_2_130 : ts_cal 2 130 = some (60, 1, 1, 0) := by decide +kernel
theorem ca_2_135 : ts_cal 2 135 = some (127, 0, 0, 0) := by decide +kernel
theorem ca_2_141 : ts_cal 2 141 = some (120, 1, 0, 0) := by decide +kernel
theorem ca_3_21 : ts_cal 3 21 = some (31, 0, 0, 0) := by decide +kernel
theorem ca_3_30 : ts_cal 3 30 = some (45, 0, 0, 0) := by decide +kernel
theorem ca_3_38 : ts_cal 3 38 = some (37, 2, 0, 0) := by decide +kernel
theorem ca_3_42 : ts_cal 3 42 = some (17, 3, 1, 1) := by decide +kernel
theorem ca_3_46 : ts_cal 3 46 = some (42, 1, 0, 0) := by decide +kernel
theorem ca_3_50 : ts_cal 3 50 = some (43, 1, 0, 0) := by decide +kernel
theorem ca_3_54 : ts_cal 3 54 = some (51, 0, 0, 0) := by decide +kernel
theorem ca_3_57 : ts_cal 3 57 = some (16, 2, 1, 1) := by decide +kernel
theorem ca_3_61 : ts_cal 3 61 = some (25, 1, 0, 0) := by decide +kernel
theorem ca_3_65 : ts_cal 3 65 = some (106, 2, 1, 1) := by decide +kernel
theorem ca_3_77 : ts_cal 3 77 = some (158, 2, 0, 0) := by decide +kernel
theorem ca_3_80 : ts_cal 3 80 = some (159, 2, 0, 0) := by decide +kernel
theorem ca_4_31 : ts_cal 4 31 = some (16, 2, 1, 1) := by decide +kernel
theorem ca_4_38 : ts_cal 4 38 = some (64, 1, 0, 0) := by decide +kernel
theorem ca_4_67 : ts_cal 4 67 = some (102, 1, 0, 0) := by decide +kernel
theorem ca_4_68 : ts_cal 4 68 = some (17, 3, 1, 1) := by decide +kernel
theorem ca_4_72 : ts_cal 4 72 = some (110, 1, 0, 0) := by decide +kernel
theorem ca_4_82 : ts_cal 4 82 = some (84, 2, 1, 1) := by decide +kernel
theorem ca_5_38 : ts_cal 5 38 = some (12, 0, 0, 0) := by decide +kernel
theorem ca_5_41 : ts_cal 5 41 = some (19, 0, 0, 0) := by decide +kernel
theorem ca_5_47 : ts_cal 5 47 = some (16, 2, 1, 1) := by decide +kernel
theorem ca_5_51 : ts_cal 5 51 = some (49, 1, 0, 0) := by decide +kernel
theorem ca_5_54 : ts_cal 5 54 = some (60, 1, 1, 0) := by decide +kernel
theorem ca_5_59 : ts_cal 5 59 = some (14, 1, 0, 0) := by decide +kernel
theorem ca_5_63 : ts_cal 5 63 = some (15, 2, 1, 0) := by decide +kernel
theorem ca_5_68 : ts_cal 5 68 = some (31, 0, 0, 0) := by decide +kernel
theorem ca_5_73 : ts_cal 5 73 = some (32, 0, 0, 0) := by decide +kernel
theorem ca_5_76 : ts_cal 5 76 = some (34, 1, 0, 0) := by decide +kernel
theorem ca_5_80 : ts_cal 5 80 = some (44, 1, 0, 0) := by decide +kernel
theorem ca_5_83 : ts_cal 5 83 = some (50, 1, 0, 0) := by decide +kernel
theorem ca_5_86 : ts_cal 5 86 = some (51, 0, 0, 0) := by decide +kernel
theorem ca_5_89 : ts_cal 5 89 = some (38, 0, 0, 0) := by decide +kernel
theorem ca_5_96 : ts_cal 5 96 = some (33, 1, 1, 1) := by decide +kernel
theorem ca_5_100 : ts_cal 5 100 = some (35, 0, 0, 0) := by decide +kernel
theorem ca_5_104 : ts_cal 5 104 = some (37, 2, 0, 0) := by decide +kernel
theorem ca_5_107 : ts_cal 5 107 = some (17, 3, 1, 1) := by decide +kernel
theorem ca_5_111 : ts_cal 5 111 = some (39, 0, 0, 0) := by decide +kernel
theorem ca_5_114 : ts_cal 5 114 = some (42, 1, 0, 0) := by decide +kernel
theorem ca_5_118 : ts_cal 5 118 = some (45, 0, 0, 0) := by decide +kernel
theorem ca_5_121 : ts_cal 5 121 = some (46, 1, 0, 0) := by decide +kernel
theorem ca_5_125 : ts_cal 5 125 = some (47, 1, 0, 0) := by decide +kernel
theorem ca_5_128 : ts_cal 5 128 = some (43, 1, 0, 0) := by decide +kernel
theorem ca_5_131 : ts_cal 5 131 = some (13, 2, 0, 0) := by decide +kernel
theorem ca_5_133 : ts_cal 5 133 = some (41, 0, 0, 0) := by decide +kernel
theorem ca_5_136 : ts_cal 5 136 = some (48, 3, 0, 0) := by decide +kernel
theorem ca_5_140 : ts_cal 5 140 = some (18, 2, 0, 0) := by decide +kernel
theorem ca_5_147 : ts_cal 5 147 = some (20, 1, 0, 0) := by decide +kernel
theorem ca_5_151 : ts_cal 5 151 = some (21, 1, 0, 0) := by decide +kernel
theorem ca_5_154 : ts_cal 5 154 = some (22, 1, 0, 0) := by decide +kernel
theorem ca_5_157 : ts_cal 5 157 = some (23, 1, 0, 0) := by decide +kernel
theorem ca_5_160 : ts_cal 5 160 = some (24, 3, 0, 0) := by decide +kernel
theorem ca_5_164 : ts_cal 5 164 = some (25, 1, 0, 0) := by decide +kernel
theorem ca_5_167 : ts_cal 5 167 = some (56, 0, 0, 0) := by decide +kernel
theorem ca_5_170 : ts_cal 5 170 = some (68, 1, 0, 0) := by decide +kernel
theorem ca_5_171 : ts_cal 5 171 = some (69, 2, 0, 0) := by decide +kernel
theorem ca_6_25 : ts_cal 6 25 = some (27, 0, 0, 0) := by decide +kernel
theorem ca_6_29 : ts_cal 6 29 = some (36, 1, 0, 0) := by decide +kernel
theorem ca_6_33 : ts_cal 6 33 = some (43, 1, 0, 0) := by decide +kernel
theorem ca_6_37 : ts_cal 6 37 = some (39, 0, 0, 0) := by decide +kernel
theorem ca_6_40 : ts_cal 6 40 = some (45, 0, 0, 0) := by decide +kernel
theorem ca_6_44 : ts_cal 6 44 = some (20, 1, 0, 0) := by decide +kernel
theorem ca_6_48 : ts_cal 6 48 = some (38, 0, 0, 0) := by decide +kernel
theorem ca_6_51 : ts_cal 6 51 = some (35, 0, 0, 0) := by decide +kernel
theorem ca_6_54 : ts_cal 6 54 = some (40, 1, 1, 1) := by decide +kernel
theorem ca_6_57 : ts_cal 6 57 = some (41, 0, 0, 0) := by decide +kernel
theorem ca_7_19 : ts_cal 7 19 = some (16, 2, 1, 1) := by decide +kernel
theorem ca_7_26 : ts_cal 7 26 = some (31, 0, 0, 0) := by decide +kernel
theorem ca_7_35 : ts_cal 7 35 = some (37, 2, 0, 0) := by decide +kernel
theorem ca_7_39 : ts_cal 7 39 = some (102, 1, 0, 0) := by decide +kernel
theorem ca_7_43 : ts_cal 7 43 = some (13, 2, 0, 0) := by decide +kernel
theorem ca_7_46 : ts_cal 7 46 = some (41, 0, 0, 0) := by decide +kernel
theorem ca_7_49 : ts_cal 7 49 = some (17, 3, 1, 1) := by decide +kernel
theorem ca_7_53 : ts_cal 7 53 = some (43, 1, 0, 0) := by decide +kernel
theorem ca_7_57 : ts_cal 7 57 = some (39, 0, 0, 0) := by decide +kernel
theorem ca_7_60 : ts_cal 7 60 = some (51, 0, 0, 0) := by decide +kernel
theorem ca_8_19 : ts_cal 8 19 = some (17, 3, 1, 1) := by decide +kernel
theorem ca_8_23 : ts_cal 8 23 = some (16, 2, 1, 1) := by decide +kernel
theorem ca_9_29 : ts_cal 9 29 = some (72, 5, 1, 0) := by decide +kernel
theorem ca_9_33 : ts_cal 9 33 = some (13, 2, 0, 0) := by decide +kernel
theorem ca_9_39 : ts_cal 9 39 = some (73, 1, 0, 0) := by decide +kernel
theorem ca_9_43 : ts_cal 9 43 = some (49, 1, 0, 0) := by decide +kernel
theorem ca_10_19 : ts_cal 10 19 = some (17, 3, 1, 1) := by decide +kernel
theorem ca_10_23 : ts_cal 10 23 = some (23, 1, 0, 0) := by decide +kernel
theorem ca_11_72 : ts_cal 11 72 = some (27, 0, 0, 0) := by decide +kernel
theorem ca_11_78 : ts_cal 11 78 = some (23, 1, 0, 0) := by decide +kernel
theorem ca_11_82 : ts_cal 11 82 = some (20, 1, 0, 0) := by decide +kernel
theorem ca_11_85 : ts_cal 11 85 = some (30, 1, 0, 0) := by decide +kernel
theorem ca_11_89 : ts_cal 11 89 = some (38, 0, 0, 0) := by decide +kernel
theorem ca_11_93 : ts_cal 11 93 = some (52, 0, 0, 0) := by decide +kernel
theorem ca_11_96 : ts_cal 11 96 = some (53, 0, 0, 0) := by decide +kernel
theorem ca_11_99 : ts_cal 11 99 = some (55, 0, 0, 0) := by decide +kernel
theorem ca_11_100 : ts_cal 11 100 = some (56, 0, 0, 0) := by decide +kernel
theorem ca_11_105 : ts_cal 11 105 = some (14, 1, 0, 0) := by decide +kernel
theorem ca_11_109 : ts_cal 11 109 = some (13, 2, 0, 0) := by decide +kernel
theorem ca_11_113 : ts_cal 11 113 = some (21, 1, 0, 0) := by decide +kernel
theorem ca_11_117 : ts_cal 11 117 = some (59, 1, 0, 0) := by decide +kernel
theorem ca_11_120 : ts_cal 11 120 = some (61, 1, 0, 0) := by decide +kernel
theorem ca_11_123 : ts_cal 11 123 = some (18, 2, 0, 0) := by decide +kernel
theorem ca_11_127 : ts_cal 11 127 = some (67, 3, 0, 0) := by decide +kernel
theorem ca_11_131 : ts_cal 11 131 = some (71, 3, 0, 0) := by decide +kernel
theorem ca_11_144 : ts_cal 11 144 = some (74, 2, 0, 0) := by decide +kernel
theorem ca_11_148 : ts_cal 11 148 = some (77, 3, 0, 0) := by decide +kernel
theorem ca_11_152 : ts_cal 11 152 = some (60, 1, 1, 0) := by decide +kernel
theorem ca_11_157 : ts_cal 11 157 = some (75, 1, 0, 0) := by decide +kernel
theorem ca_11_159 : ts_cal 11 159 = some (79, 1, 1, 0) := by decide +kernel
theorem ca_11_162 : ts_cal 11 162 = some (80, 1, 1, 0) := by decide +kernel
theorem ca_11_168 : ts_cal 11 168 = some (81, 1, 0, 0) := by decide +kernel
theorem ca_11_172 : ts_cal 11 172 = some (87, 2, 0, 0) := by decide +kernel
theorem ca_11_175 : ts_cal 11 175 = some (90, 1, 0, 0) := by decide +kernel
theorem ca_11_178 : ts_cal 11 178 = some (91, 1, 0, 0) := by decide +kernel
theorem ca_11_181 : ts_cal 11 181 = some (88, 3, 0, 0) := by decide +kernel
theorem ca_11_185 : ts_cal 11 185 = some (94, 1, 0, 0) := by decide +kernel
theorem ca_11_188 : ts_cal 11 188 = some (95, 1, 0, 0) := by decide +kernel
theorem ca_11_191 : ts_cal 11 191 = some (96, 1, 0, 0) := by decide +kernel
theorem ca_11_194 : ts_cal 11 194 = some (68, 1, 0, 0) := by decide +kernel
theorem ca_11_195 : ts_cal 11 195 = some (97, 1, 0, 0) := by decide +kernel
theorem ca_11_198 : ts_cal 11 198 = some (99, 2, 0, 0) := by decide +kernel
theorem ca_11_201 : ts_cal 11 201 = some (101, 2, 0, 0) := by decide +kernel
theorem ca_11_204 : ts_cal 11 204 = some (103, 1, 0, 0) := by decide +kernel
theorem ca_11_207 : ts_cal 11 207 = some (104, 0, 0, 0) := by decide +kernel
theorem ca_11_211 : ts_cal 11 211 = some (25, 1, 0, 0) := by decide +kernel
theorem ca_11_214 : ts_cal 11 214 = some (106, 2, 1, 0) := by decide +kernel
theorem ca_11_217 : ts_cal 11 217 = some (108, 5, 0, 0) := by decide +kernel
theorem ca_11_226 : ts_cal 11 226 = some (109, 2, 0, 0) := by decide +kernel
theorem ca_11_233 : ts_cal 11 233 = some (111, 2, 0, 0) := by decide +kernel
theorem ca_11_240 : ts_cal 11 240 = some (114, 1, 0, 0) := by decide +kernel
theorem ca_11_244 : ts_cal 11 244 = some (62, 0, 0, 0) := by decide +kernel
theorem ca_11_247 : ts_cal 11 247 = some (115, 0, 0, 0) := by decide +kernel
theorem ca_11_250 : ts_cal 11 250 = some (116, 1, 0, 0) := by decide +kernel
theorem ca_11_263 : ts_cal 11 263 = some (118, 0, 0, 0) := by decide +kernel
theorem ca_11_275 : ts_cal 11 275 = some (120, 1, 0, 0) := by decide +kernel
theorem ca_11_281 : ts_cal 11 281 = some (122, 1, 0, 0) := by decide +kernel
theorem ca_11_285 : ts_cal 11 285 = some (125, 1, 0, 0) := by decide +kernel
theorem ca_11_299 : ts_cal 11 299 = some (63, 0, 0, 0) := by decide +kernel
theorem ca_11_302 : ts_cal 11 302 = some (64, 1, 0, 0) := by decide +kernel
theorem ca_11_305 : ts_cal 11 305 = some (131, 1, 0, 0) := by decide +kernel
theorem ca_11_308 : ts_cal 11 308 = some (133, 1, 0, 0) := by decide +kernel
theorem ca_11_312 : ts_cal 11 312 = some (136, 1, 0, 0) := by decide +kernel
theorem ca_11_319 : ts_cal 11 319 = some (65, 0, 0, 0) := by decide +kernel
theorem ca_11_322 : ts_cal 11 322 = some (139, 0, 0, 0) := by decide +kernel
theorem ca_11_325 : ts_cal 11 325 = some (141, 1, 0, 0) := by decide +kernel
theorem ca_11_329 : ts_cal 11 329 = some (92, 1, 0, 0) := by decide +kernel
theorem ca_11_332 : ts_cal 11 332 = some (146, 1, 0, 0) := by decide +kernel
theorem ca_11_335 : ts_cal 11 335 = some (107, 1, 1, 0) := by decide +kernel
theorem ca_11_343 : ts_cal 11 343 = some (149, 2, 0, 0) := by decide +kernel
theorem ca_11_346 : ts_cal 11 346 = some (151, 3, 0, 0) := by decide +kernel
theorem ca_11_350 : ts_cal 11 350 = some (153, 1, 0, 0) := by decide +kernel
theorem ca_11_353 : ts_cal 11 353 = some (154, 2, 0, 0) := by decide +kernel
theorem ca_11_356 : ts_cal 11 356 = some (156, 2, 0, 0) := by decide +kernel
theorem ca_11_357 : ts_cal 11 357 = some (157, 3, 0, 0) := by decide +kernel
theorem ca_11_372 : ts_cal 11 372 = some (110, 1, 0, 0) := by decide +kernel
theorem ca_11_375 : ts_cal 11 375 = some (102, 1, 0, 0) := by decide +kernel
theorem ca_11_381 : ts_cal 11 381 = some (164, 2, 0, 0) := by decide +kernel
theorem ca_11_389 : ts_cal 11 389 = some (36, 1, 0, 0) := by decide +kernel
theorem ca_11_392 : ts_cal 11 392 = some (168, 1, 0, 0) := by decide +kernel
theorem ca_11_399 : ts_cal 11 399 = some (170, 1, 0, 0) := by decide +kernel
theorem ca_11_402 : ts_cal 11 402 = some (172, 1, 0, 0) := by decide +kernel
theorem ca_11_409 : ts_cal 11 409 = some (165, 0, 0, 0) := by decide +kernel
theorem ca_11_410 : ts_cal 11 410 = some (174, 0, 0, 0) := by decide +kernel
theorem ca_11_417 : ts_cal 11 417 = some (142, 1, 0, 0) := by decide +kernel
theorem ca_11_423 : ts_cal 11 423 = some (150, 2, 0, 0) := by decide +kernel
theorem ca_12_76 : ts_cal 12 76 = some (181, 3, 1, 0) := by decide +kernel
theorem ca_12_83 : ts_cal 12 83 = some (198, 2, 0, 0) := by decide +kernel
theorem ca_12_87 : ts_cal 12 87 = some (197, 1, 0, 0) := by decide +kernel
theorem ca_12_94 : ts_cal 12 94 = some (228, 3, 0, 0) := by decide +kernel
theorem ca_12_98 : ts_cal 12 98 = some (229, 3, 0, 0) := by decide +kernel
theorem ca_12_110 : ts_cal 12 110 = some (186, 0, 0, 0) := by decide +kernel
theorem ca_12_114 : ts_cal 12 114 = some (187, 1, 0, 0) := by decide +kernel
theorem ca_12_122 : ts_cal 12 122 = some (188, 3, 0, 0) := by decide +kernel
theorem ca_12_129 : ts_cal 12 129 = some (189, 1, 0, 0) := by decide +kernel
theorem ca_12_133 : ts_cal 12 133 = some (191, 1, 0, 0) := by decide +kernel
theorem ca_12_142 : ts_cal 12 142 = some (185, 0, 0, 0) := by decide +kernel
theorem ca_12_145 : ts_cal 12 145 = some (190, 0, 0, 0) := by decide +kernel
theorem ca_12_148 : ts_cal 12 148 = some (183, 0, 0, 0) := by decide +kernel
theorem ca_12_151 : ts_cal 12 151 = some (184, 0, 0, 0) := by decide +kernel
theorem ca_12_167 : ts_cal 12 167 = some (194, 2, 0, 0) := by decide +kernel
theorem ca_12_170 : ts_cal 12 170 = some (225, 1, 0, 0) := by decide +kernel
theorem ca_12_174 : ts_cal 12 174 = some (193, 1, 0, 0) := by decide +kernel
theorem ca_12_179 : ts_cal 12 179 = some (196, 1, 0, 0) := by decide +kernel
theorem ca_12_182 : ts_cal 12 182 = some (199, 1, 0, 0) := by decide +kernel
theorem ca_12_191 : ts_cal 12 191 = some (201, 1, 0, 0) := by decide +kernel
theorem ca_12_194 : ts_cal 12 194 = some (202, 1, 0, 0) := by decide +kernel
theorem ca_12_213 : ts_cal 12 213 = some (206, 1, 1, 0) := by decide +kernel
theorem ca_12_216 : ts_cal 12 216 = some (207, 2, 1, 0) := by decide +kernel
theorem ca_12_220 : ts_cal 12 220 = some (205, 4, 0, 0) := by decide +kernel
theorem ca_12_224 : ts_cal 12 224 = some (204, 2, 0, 0) := by decide +kernel
theorem ca_12_231 : ts_cal 12 231 = some (215, 1, 0, 0) := by decide +kernel
theorem ca_12_234 : ts_cal 12 234 = some (217, 1, 0, 0) := by decide +kernel
theorem ca_12_237 : ts_cal 12 237 = some (214, 1, 0, 0) := by decide +kernel
theorem ca_12_240 : ts_cal 12 240 = some (210, 2, 1, 0) := by decide +kernel
theorem ca_12_243 : ts_cal 12 243 = some (211, 0, 0, 0) := by decide +kernel
theorem ca_12_246 : ts_cal 12 246 = some (213, 1, 0, 0) := by decide +kernel
theorem ca_12_249 : ts_cal 12 249 = some (218, 1, 0, 0) := by decide +kernel
theorem ca_12_252 : ts_cal 12 252 = some (219, 1, 0, 0) := by decide +kernel
theorem ca_12_255 : ts_cal 12 255 = some (220, 1, 0, 0) := by decide +kernel
theorem ca_12_258 : ts_cal 12 258 = some (222, 2, 0, 0) := by decide +kernel
theorem ca_12_261 : ts_cal 12 261 = some (224, 0, 0, 0) := by decide +kernel
theorem ca_12_264 : ts_cal 12 264 = some (226, 1, 0, 0) := by decide +kernel
theorem ca_12_269 : ts_cal 12 269 = some (227, 2, 1, 0) := by decide +kernel
theorem ca_12_272 : ts_cal 12 272 = some (231, 1, 0, 0) := by decide +kernel
theorem ca_12_275 : ts_cal 12 275 = some (233, 0, 0, 0) := by decide +kernel
theorem ca_12_278 : ts_cal 12 278 = some (235, 3, 0, 0) := by decide +kernel
theorem ca_12_281 : ts_cal 12 281 = some (237, 1, 0, 0) := by decide +kernel
theorem ca_12_284 : ts_cal 12 284 = some (241, 1, 0, 0) := by decide +kernel
theorem ca_12_288 : ts_cal 12 288 = some (240, 1, 0, 0) := by decide +kernel
theorem ca_12_293 : ts_cal 12 293 = some (245, 1, 0, 0) := by decide +kernel
theorem ca_12_298 : ts_cal 12 298 = some (252, 1, 0, 0) := by decide +kernel
theorem ca_12_301 : ts_cal 12 301 = some (251, 1, 0, 0) := by decide +kernel
theorem ca_12_304 : ts_cal 12 304 = some (258, 1, 1, 0) := by decide +kernel
theorem ca_12_307 : ts_cal 12 307 = some (259, 2, 0, 0) := by decide +kernel
theorem ca_12_313 : ts_cal 12 313 = some (262, 0, 0, 0) := by decide +kernel
theorem ca_12_321 : ts_cal 12 321 = some (268, 1, 0, 0) := by decide +kernel
theorem ca_12_324 : ts_cal 12 324 = some (269, 1, 0, 0) := by decide +kernel
theorem ca_12_327 : ts_cal 12 327 = some (275, 0, 0, 0) := by decide +kernel
theorem cI_4_51 : ts_cI 4 51 = some (1000000 : Int32) := by decide +kernel
theorem cI_5_67 : ts_cI 5 67 = some (1000000 : Int32) := by decide +kernel
theorem cI_9_22 : ts_cI 9 22 = some (1000000 : Int32) := by decide +kernel
theorem cI_11_126 : ts_cI 11 126 = some (1000000 : Int32) := by decide +kernel
theorem cI_11_284 : ts_cI 11 284 = some (99999 : Int32) := by decide +kernel
theorem cI_11_426 : ts_cI 11 426 = some (999999 : Int32) := by decide +kernel
theorem cI_12_185 : ts_cI 12 185 = some (1000000000 : Int32) := by decide +kernel
theorem cI_12_287 : ts_cI 12 287 = some (99999 : Int32) := by decide +kernel
theorem cI_13_265 : ts_cI 13 265 = some (1431655765 : Int32) := by decide +kernel
theorem cI_13_266 : ts_cI 13 266 = some (858993459 : Int32) := by decide +kernel
theorem cI_13_267 : ts_cI 13 267 = some (252645135 : Int32) := by decide +kernel
theorem cJ_12_118 : ts_cJ 12 118 = some (48 : Int64) := by decide +kernel
theorem cJ_12_120 : ts_cJ 12 120 = some (57 : Int64) := by decide +kernel
theorem cJ_12_177 : ts_cJ 12 177 = some (2 : Int64) := by decide +kernel
theorem cJ_12_227 : ts_cJ 12 227 = some (999999 : Int64) := by decide +kernel
theorem cJ_12_229 : ts_cJ 12 229 = some (3 : Int64) := by decide +kernel
theorem cJ_12_267 : ts_cJ 12 267 = some (999 : Int64) := by decide +kernel
theorem cJ_12_291 : ts_cJ 12 291 = some (-1 : Int64) := by decide +kernel
theorem cJ_12_296 : ts_cJ 12 296 = some (5 : Int64) := by decide +kernel
theorem cJ_12_316 : ts_cJ 12 316 = some (1000 : Int64) := by decide +kernel
theorem fa_0_9 : ts_fld 0 9 = some (0, 0) := by decide +kernel
theorem fa_0_15 : ts_fld 0 15 = some (0, 1) := by decide +kernel
theorem fa_0_18 : ts_fld 0 18 = some (0, 2) := by decide +kernel
theorem fa_0_21 : ts_fld 0 21 = some (0, 3) := by decide +kernel
theorem fa_1_11 : ts_fld 1 11 = some (1, 0) := by decide +kernel
theorem fa_1_18 : ts_fld 1 18 = some (1, 1) := by decide +kernel
theorem fa_1_22 : ts_fld 1 22 = some (1, 4) := by decide +kernel
theorem fa_1_26 : ts_fld 1 26 = some (1, 2) := by decide +kernel
theorem fa_1_30 : ts_fld 1 30 = some (1, 3) := by decide +kernel
theorem fa_2_9 : ts_fld 2 9 = some (2, 0) := by decide +kernel
theorem fa_2_15 : ts_fld 2 15 = some (2, 1) := by decide +kernel
theorem fa_2_20 : ts_fld 2 20 = some (2, 2) := by decide +kernel
theorem fa_2_27 : ts_fld 2 27 = some (2, 3) := by decide +kernel
theorem fa_2_34 : ts_fld 2 34 = some (2, 4) := by decide +kernel
theorem fa_2_38 : ts_fld 2 38 = some (2, 5) := by decide +kernel
theorem fa_2_41 : ts_fld 2 41 = some (2, 6) := by decide +kernel
theorem fa_2_44 : ts_fld 2 44 = some (4, 7) := by decide +kernel
theorem fa_2_84 : ts_fld 2 84 = some (4, 5) := by decide +kernel
theorem fa_2_91 : ts_fld 2 91 = some (4, 1) := by decide +kernel
theorem fa_2_94 : ts_fld 2 94 = some (4, 10) := by decide +kernel
theorem fa_2_97 : ts_fld 2 97 = some (4, 11) := by decide +kernel
theorem fa_2_108 : ts_fld 2 108 = some (4, 9) := by decide +kernel
theorem fa_2_118 : ts_fld 2 118 = some (4, 0) := by decide +kernel
theorem fa_2_138 : ts_fld 2 138 = some (4, 4) := by decide +kernel
theorem fa_3_9 : ts_fld 3 9 = some (3, 0) := by decide +kernel
theorem fa_3_15 : ts_fld 3 15 = some (3, 1) := by decide +kernel
theorem fa_3_18 : ts_fld 3 18 = some (3, 2) := by decide +kernel
theorem fa_3_26 : ts_fld 3 26 = some (3, 3) := by decide +kernel
theorem fa_3_34 : ts_fld 3 34 = some (5, 8) := by decide +kernel
theorem fa_3_68 : ts_fld 3 68 = some (3, 4) := by decide +kernel
theorem fa_3_71 : ts_fld 3 71 = some (3, 5) := by decide +kernel
theorem fa_3_74 : ts_fld 3 74 = some (3, 6) := by decide +kernel
theorem fa_4_9 : ts_fld 4 9 = some (4, 7) := by decide +kernel
theorem fa_4_15 : ts_fld 4 15 = some (4, 12) := by decide +kernel
theorem fa_4_19 : ts_fld 4 19 = some (4, 13) := by decide +kernel
theorem fa_4_22 : ts_fld 4 22 = some (4, 0) := by decide +kernel
theorem fa_4_25 : ts_fld 4 25 = some (4, 1) := by decide +kernel
theorem fa_4_28 : ts_fld 4 28 = some (4, 8) := by decide +kernel
theorem fa_4_35 : ts_fld 4 35 = some (4, 9) := by decide +kernel
theorem fa_4_48 : ts_fld 4 48 = some (4, 6) := by decide +kernel
theorem fa_4_52 : ts_fld 4 52 = some (4, 2) := by decide +kernel
theorem fa_4_55 : ts_fld 4 55 = some (4, 3) := by decide +kernel
theorem fa_4_58 : ts_fld 4 58 = some (4, 4) := by decide +kernel
theorem fa_4_61 : ts_fld 4 61 = some (4, 5) := by decide +kernel
theorem fa_4_64 : ts_fld 4 64 = some (7, 1) := by decide +kernel
theorem fa_4_75 : ts_fld 4 75 = some (4, 10) := by decide +kernel
theorem fa_4_78 : ts_fld 4 78 = some (4, 11) := by decide +kernel
theorem fa_5_9 : ts_fld 5 9 = some (5, 0) := by decide +kernel
theorem fa_5_15 : ts_fld 5 15 = some (5, 1) := by decide +kernel
theorem fa_5_18 : ts_fld 5 18 = some (5, 2) := by decide +kernel
theorem fa_5_21 : ts_fld 5 21 = some (5, 3) := by decide +kernel
theorem fa_5_24 : ts_fld 5 24 = some (5, 4) := by decide +kernel
theorem fa_5_30 : ts_fld 5 30 = some (5, 5) := by decide +kernel
theorem fa_5_34 : ts_fld 5 34 = some (5, 6) := by decide +kernel
theorem fa_5_44 : ts_fld 5 44 = some (5, 8) := by decide +kernel
theorem fa_5_93 : ts_fld 5 93 = some (5, 7) := by decide +kernel
theorem fa_6_12 : ts_fld 6 12 = some (6, 0) := by decide +kernel
theorem fa_6_18 : ts_fld 6 18 = some (6, 2) := by decide +kernel
theorem fa_6_22 : ts_fld 6 22 = some (6, 1) := by decide +kernel
theorem fa_7_9 : ts_fld 7 9 = some (7, 0) := by decide +kernel
theorem fa_7_15 : ts_fld 7 15 = some (7, 1) := by decide +kernel
theorem fa_7_23 : ts_fld 7 23 = some (7, 2) := by decide +kernel
theorem fa_7_31 : ts_fld 7 31 = some (5, 6) := by decide +kernel
theorem fa_8_9 : ts_fld 8 9 = some (8, 0) := by decide +kernel
theorem fa_8_15 : ts_fld 8 15 = some (8, 1) := by decide +kernel
theorem fa_9_9 : ts_fld 9 9 = some (9, 0) := by decide +kernel
theorem fa_9_15 : ts_fld 9 15 = some (9, 1) := by decide +kernel
theorem fa_9_19 : ts_fld 9 19 = some (9, 2) := by decide +kernel
theorem fa_9_23 : ts_fld 9 23 = some (9, 3) := by decide +kernel
theorem fa_9_26 : ts_fld 9 26 = some (9, 4) := by decide +kernel
theorem fa_9_47 : ts_fld 9 47 = some (5, 6) := by decide +kernel
theorem fa_10_9 : ts_fld 10 9 = some (10, 0) := by decide +kernel
theorem fa_10_15 : ts_fld 10 15 = some (10, 1) := by decide +kernel
theorem fa_11_10 : ts_fld 11 10 = some (11, 0) := by decide +kernel
theorem fa_11_19 : ts_fld 11 19 = some (11, 1) := by decide +kernel
theorem fa_11_26 : ts_fld 11 26 = some (11, 2) := by decide +kernel
theorem fa_11_33 : ts_fld 11 33 = some (11, 3) := by decide +kernel
theorem fa_11_40 : ts_fld 11 40 = some (11, 4) := by decide +kernel
theorem fa_11_47 : ts_fld 11 47 = some (11, 5) := by decide +kernel
theorem fa_11_54 : ts_fld 11 54 = some (11, 6) := by decide +kernel
theorem fa_11_61 : ts_fld 11 61 = some (11, 7) := by decide +kernel
theorem fa_11_65 : ts_fld 11 65 = some (11, 8) := by decide +kernel
theorem fa_11_68 : ts_fld 11 68 = some (6, 0) := by decide +kernel
theorem fa_11_101 : ts_fld 11 101 = some (5, 6) := by decide +kernel
theorem fa_11_135 : ts_fld 11 135 = some (9, 2) := by decide +kernel
theorem fa_11_138 : ts_fld 11 138 = some (9, 3) := by decide +kernel
theorem fa_11_141 : ts_fld 11 141 = some (9, 4) := by decide +kernel
theorem fa_11_165 : ts_fld 11 165 = some (2, 5) := by decide +kernel
theorem fa_11_223 : ts_fld 11 223 = some (2, 4) := by decide +kernel
theorem fa_11_230 : ts_fld 11 230 = some (2, 6) := by decide +kernel
theorem fa_11_237 : ts_fld 11 237 = some (4, 0) := by decide +kernel
theorem fa_11_253 : ts_fld 11 253 = some (4, 8) := by decide +kernel
theorem fa_11_256 : ts_fld 11 256 = some (4, 9) := by decide +kernel
theorem fa_11_259 : ts_fld 11 259 = some (4, 11) := by decide +kernel
theorem fa_11_266 : ts_fld 11 266 = some (4, 3) := by decide +kernel
theorem fa_11_269 : ts_fld 11 269 = some (4, 7) := by decide +kernel
theorem fa_11_272 : ts_fld 11 272 = some (4, 2) := by decide +kernel
theorem fa_11_278 : ts_fld 11 278 = some (4, 10) := by decide +kernel
theorem fa_11_288 : ts_fld 11 288 = some (4, 1) := by decide +kernel
theorem fa_11_291 : ts_fld 11 291 = some (4, 4) := by decide +kernel
theorem fa_11_294 : ts_fld 11 294 = some (4, 5) := by decide +kernel
theorem fa_11_296 : ts_fld 11 296 = some (4, 6) := by decide +kernel
theorem fa_11_315 : ts_fld 11 315 = some (2, 2) := by decide +kernel
theorem fa_11_360 : ts_fld 11 360 = some (3, 5) := by decide +kernel
theorem fa_11_363 : ts_fld 11 363 = some (3, 6) := by decide +kernel
theorem fa_11_366 : ts_fld 11 366 = some (3, 4) := by decide +kernel
theorem fa_11_369 : ts_fld 11 369 = some (7, 2) := by decide +kernel
theorem fa_11_376 : ts_fld 11 376 = some (7, 1) := by decide +kernel
theorem fa_11_377 : ts_fld 11 377 = some (2, 3) := by decide +kernel
theorem fa_11_386 : ts_fld 11 386 = some (5, 5) := by decide +kernel
theorem fa_11_396 : ts_fld 11 396 = some (1, 4) := by decide +kernel
theorem fa_11_405 : ts_fld 11 405 = some (5, 7) := by decide +kernel
theorem fa_11_408 : ts_fld 11 408 = some (5, 8) := by decide +kernel
theorem fa_12_7 : ts_fld 12 7 = some (12, 0) := by decide +kernel
theorem fa_12_13 : ts_fld 12 13 = some (12, 1) := by decide +kernel
theorem fa_12_16 : ts_fld 12 16 = some (12, 3) := by decide +kernel
theorem fa_12_19 : ts_fld 12 19 = some (12, 5) := by decide +kernel
theorem fa_12_22 : ts_fld 12 22 = some (12, 6) := by decide +kernel
theorem fa_12_25 : ts_fld 12 25 = some (12, 7) := by decide +kernel
theorem fa_12_28 : ts_fld 12 28 = some (12, 8) := by decide +kernel
theorem fa_12_32 : ts_fld 12 32 = some (12, 11) := by decide +kernel
theorem fa_12_36 : ts_fld 12 36 = some (12, 13) := by decide +kernel
theorem fa_12_40 : ts_fld 12 40 = some (12, 20) := by decide +kernel
theorem fa_12_43 : ts_fld 12 43 = some (12, 21) := by decide +kernel
theorem fa_12_46 : ts_fld 12 46 = some (12, 23) := by decide +kernel
theorem fa_12_49 : ts_fld 12 49 = some (12, 25) := by decide +kernel
theorem fa_12_52 : ts_fld 12 52 = some (12, 28) := by decide +kernel
theorem fa_12_55 : ts_fld 12 55 = some (12, 33) := by decide +kernel
theorem fa_12_58 : ts_fld 12 58 = some (12, 34) := by decide +kernel
theorem fa_12_61 : ts_fld 12 61 = some (12, 35) := by decide +kernel
theorem fa_12_64 : ts_fld 12 64 = some (12, 37) := by decide +kernel
theorem fa_12_67 : ts_fld 12 67 = some (12, 15) := by decide +kernel
theorem fa_12_70 : ts_fld 12 70 = some (12, 14) := by decide +kernel
theorem fa_12_73 : ts_fld 12 73 = some (12, 12) := by decide +kernel
theorem fa_12_80 : ts_fld 12 80 = some (12, 10) := by decide +kernel
theorem fa_12_91 : ts_fld 12 91 = some (12, 4) := by decide +kernel
theorem fa_12_101 : ts_fld 12 101 = some (12, 16) := by decide +kernel
theorem fa_12_104 : ts_fld 12 104 = some (12, 17) := by decide +kernel
theorem fa_12_107 : ts_fld 12 107 = some (12, 18) := by decide +kernel
theorem fa_12_126 : ts_fld 12 126 = some (12, 19) := by decide +kernel
theorem fa_12_136 : ts_fld 12 136 = some (12, 22) := by decide +kernel
theorem fa_12_139 : ts_fld 12 139 = some (12, 24) := by decide +kernel
theorem fa_12_154 : ts_fld 12 154 = some (12, 9) := by decide +kernel
theorem fa_12_157 : ts_fld 12 157 = some (12, 2) := by decide +kernel
theorem fa_12_161 : ts_fld 12 161 = some (12, 26) := by decide +kernel
theorem fa_12_164 : ts_fld 12 164 = some (12, 27) := by decide +kernel
theorem fa_12_198 : ts_fld 12 198 = some (12, 29) := by decide +kernel
theorem fa_12_201 : ts_fld 12 201 = some (12, 30) := by decide +kernel
theorem fa_12_204 : ts_fld 12 204 = some (12, 31) := by decide +kernel
theorem fa_12_210 : ts_fld 12 210 = some (12, 32) := by decide +kernel
theorem fa_12_310 : ts_fld 12 310 = some (12, 36) := by decide +kernel
theorem fa_12_318 : ts_fld 12 318 = some (12, 38) := by decide +kernel
theorem kd_12 : ts_knd 12 = 0 := by decide +kernel
theorem kl_12 : ts_cls 12 = 5 := by decide +kernel
theorem kd_13 : ts_knd 13 = 1 := by decide +kernel
theorem kl_13 : ts_cls 13 = 5 := by decide +kernel
theorem kd_14 : ts_knd 14 = 1 := by decide +kernel
theorem kl_14 : ts_cls 14 = 5 := by decide +kernel
theorem kd_15 : ts_knd 15 = 1 := by decide +kernel
theorem kl_15 : ts_cls 15 = 5 := by decide +kernel
theorem kd_16 : ts_knd 16 = 1 := by decide +kernel
theorem kl_16 : ts_cls 16 = 11 := by decide +kernel
theorem kd_17 : ts_knd 17 = 0 := by decide +kernel
theorem kl_17 : ts_cls 17 = 11 := by decide +kernel
theorem kd_18 : ts_knd 18 = 1 := by decide +kernel
theorem kl_18 : ts_cls 18 = 5 := by decide +kernel
theorem kd_19 : ts_knd 19 = 0 := by decide +kernel
theorem kl_19 : ts_cls 19 = 5 := by decide +kernel
theorem kd_20 : ts_knd 20 = 0 := by decide +kernel
theorem kl_20 : ts_cls 20 = 10 := by decide +kernel
theorem kd_21 : ts_knd 21 = 1 := by decide +kernel
theorem kl_21 : ts_cls 21 = 5 := by decide +kernel
theorem kd_22 : ts_knd 22 = 0 := by decide +kernel
theorem kl_22 : ts_cls 22 = 10 := by decide +kernel
theorem kd_23 : ts_knd 23 = 0 := by decide +kernel
theorem kl_23 : ts_cls 23 = 10 := by decide +kernel
theorem kd_24 : ts_knd 24 = 0 := by decide +kernel
theorem kl_24 : ts_cls 24 = 5 := by decide +kernel
theorem kd_25 : ts_knd 25 = 1 := by decide +kernel
theorem kl_25 : ts_cls 25 = 5 := by decide +kernel
theorem kd_26 : ts_knd 26 = 1 := by decide +kernel
theorem kl_26 : ts_cls 26 = 11 := by decide +kernel
theorem kd_27 : ts_knd 27 = 1 := by decide +kernel
theorem kl_27 : ts_cls 27 = 10 := by decide +kernel
theorem kd_28 : ts_knd 28 = 1 := by decide +kernel
theorem kl_28 : ts_cls 28 = 11 := by decide +kernel
theorem kd_29 : ts_knd 29 = 1 := by decide +kernel
theorem kl_29 : ts_cls 29 = 11 := by decide +kernel
theorem kd_30 : ts_knd 30 = 0 := by decide +kernel
theorem kl_30 : ts_cls 30 = 5 := by decide +kernel
theorem kd_31 : ts_knd 31 = 0 := by decide +kernel
theorem kl_31 : ts_cls 31 = 6 := by decide +kernel
theorem kd_32 : ts_knd 32 = 0 := by decide +kernel
theorem kl_32 : ts_cls 32 = 5 := by decide +kernel
theorem kd_33 : ts_knd 33 = 0 := by decide +kernel
theorem kl_33 : ts_cls 33 = 11 := by decide +kernel
theorem kd_34 : ts_knd 34 = 0 := by decide +kernel
theorem kl_34 : ts_cls 34 = 5 := by decide +kernel
theorem kd_35 : ts_knd 35 = 1 := by decide +kernel
theorem kl_35 : ts_cls 35 = 6 := by decide +kernel
theorem kd_36 : ts_knd 36 = 1 := by decide +kernel
theorem kl_36 : ts_cls 36 = 10 := by decide +kernel
theorem kd_37 : ts_knd 37 = 1 := by decide +kernel
theorem kl_37 : ts_cls 37 = 6 := by decide +kernel
theorem kd_38 : ts_knd 38 = 1 := by decide +kernel
theorem kl_38 : ts_cls 38 = 6 := by decide +kernel
theorem kd_39 : ts_knd 39 = 0 := by decide +kernel
theorem kl_39 : ts_cls 39 = 6 := by decide +kernel
theorem kd_40 : ts_knd 40 = 1 := by decide +kernel
theorem kl_40 : ts_cls 40 = 11 := by decide +kernel
theorem kd_41 : ts_knd 41 = 0 := by decide +kernel
theorem kl_41 : ts_cls 41 = 6 := by decide +kernel
theorem kd_42 : ts_knd 42 = 0 := by decide +kernel
theorem kl_42 : ts_cls 42 = 6 := by decide +kernel
theorem kd_43 : ts_knd 43 = 1 := by decide +kernel
theorem kl_43 : ts_cls 43 = 6 := by decide +kernel
theorem kd_44 : ts_knd 44 = 0 := by decide +kernel
theorem kl_44 : ts_cls 44 = 5 := by decide +kernel
theorem kd_45 : ts_knd 45 = 1 := by decide +kernel
theorem kl_45 : ts_cls 45 = 6 := by decide +kernel
theorem kd_46 : ts_knd 46 = 1 := by decide +kernel
theorem kl_46 : ts_cls 46 = 6 := by decide +kernel
theorem kd_47 : ts_knd 47 = 0 := by decide +kernel
theorem kl_47 : ts_cls 47 = 5 := by decide +kernel
theorem kd_48 : ts_knd 48 = 0 := by decide +kernel
theorem kl_48 : ts_cls 48 = 5 := by decide +kernel
theorem kd_49 : ts_knd 49 = 1 := by decide +kernel
theorem kl_49 : ts_cls 49 = 5 := by decide +kernel
theorem kd_50 : ts_knd 50 = 0 := by decide +kernel
theorem kl_50 : ts_cls 50 = 5 := by decide +kernel
theorem kd_51 : ts_knd 51 = 0 := by decide +kernel
theorem kl_51 : ts_cls 51 = 6 := by decide +kernel
theorem kd_52 : ts_knd 52 = 1 := by decide +kernel
theorem kl_52 : ts_cls 52 = 6 := by decide +kernel
theorem kd_53 : ts_knd 53 = 0 := by decide +kernel
theorem kl_53 : ts_cls 53 = 2 := by decide +kernel
theorem kd_54 : ts_knd 54 = 0 := by decide +kernel
theorem kl_54 : ts_cls 54 = 0 := by decide +kernel
theorem kd_55 : ts_knd 55 = 0 := by decide +kernel
theorem kl_55 : ts_cls 55 = 1 := by decide +kernel
theorem kd_56 : ts_knd 56 = 0 := by decide +kernel
theorem kl_56 : ts_cls 56 = 8 := by decide +kernel
theorem kd_57 : ts_knd 57 = 1 := by decide +kernel
theorem kl_57 : ts_cls 57 = 11 := by decide +kernel
theorem kd_58 : ts_knd 58 = 1 := by decide +kernel
theorem kl_58 : ts_cls 58 = 11 := by decide +kernel
theorem kd_59 : ts_knd 59 = 1 := by decide +kernel
theorem kl_59 : ts_cls 59 = 5 := by decide +kernel
theorem kd_60 : ts_knd 60 = 1 := by decide +kernel
theorem kl_60 : ts_cls 60 = 13 := by decide +kernel
theorem kd_61 : ts_knd 61 = 1 := by decide +kernel
theorem kl_61 : ts_cls 61 = 2 := by decide +kernel
theorem kd_62 : ts_knd 62 = 1 := by decide +kernel
theorem kl_62 : ts_cls 62 = 4 := by decide +kernel
theorem kd_63 : ts_knd 63 = 1 := by decide +kernel
theorem kl_63 : ts_cls 63 = 4 := by decide +kernel
theorem kd_64 : ts_knd 64 = 1 := by decide +kernel
theorem kl_64 : ts_cls 64 = 4 := by decide +kernel
theorem kd_65 : ts_knd 65 = 1 := by decide +kernel
theorem kl_65 : ts_cls 65 = 4 := by decide +kernel
theorem kd_66 : ts_knd 66 = 1 := by decide +kernel
theorem kl_66 : ts_cls 66 = 11 := by decide +kernel
theorem kd_67 : ts_knd 67 = 0 := by decide +kernel
theorem kl_67 : ts_cls 67 = 5 := by decide +kernel
theorem kd_68 : ts_knd 68 = 0 := by decide +kernel
theorem kl_68 : ts_cls 68 = 8 := by decide +kernel
theorem kd_69 : ts_knd 69 = 1 := by decide +kernel
theorem kl_69 : ts_cls 69 = 5 := by decide +kernel
theorem kd_70 : ts_knd 70 = 1 := by decide +kernel
theorem kl_70 : ts_cls 70 = 11 := by decide +kernel
theorem kd_71 : ts_knd 71 = 0 := by decide +kernel
theorem kl_71 : ts_cls 71 = 9 := by decide +kernel
theorem kd_72 : ts_knd 72 = 0 := by decide +kernel
theorem kl_72 : ts_cls 72 = 9 := by decide +kernel
theorem kd_73 : ts_knd 73 = 0 := by decide +kernel
theorem kl_73 : ts_cls 73 = 9 := by decide +kernel
theorem kd_74 : ts_knd 74 = 0 := by decide +kernel
theorem kl_74 : ts_cls 74 = 11 := by decide +kernel
theorem kd_75 : ts_knd 75 = 0 := by decide +kernel
theorem kl_75 : ts_cls 75 = 11 := by decide +kernel
theorem kd_76 : ts_knd 76 = 1 := by decide +kernel
theorem kl_76 : ts_cls 76 = 11 := by decide +kernel
theorem kd_77 : ts_knd 77 = 1 := by decide +kernel
theorem kl_77 : ts_cls 77 = 5 := by decide +kernel
theorem kd_78 : ts_knd 78 = 1 := by decide +kernel
theorem kl_78 : ts_cls 78 = 11 := by decide +kernel
theorem kd_79 : ts_knd 79 = 1 := by decide +kernel
theorem kl_79 : ts_cls 79 = 11 := by decide +kernel
theorem kd_80 : ts_knd 80 = 1 := by decide +kernel
theorem kl_80 : ts_cls 80 = 11 := by decide +kernel
theorem kd_81 : ts_knd 81 = 0 := by decide +kernel
theorem kl_81 : ts_cls 81 = 1 := by decide +kernel
theorem kd_82 : ts_knd 82 = 3 := by decide +kernel
theorem kl_82 : ts_cls 82 = 1 := by decide +kernel
theorem kd_83 : ts_knd 83 = 0 := by decide +kernel
theorem kl_83 : ts_cls 83 = 2 := by decide +kernel
theorem kd_84 : ts_knd 84 = 0 := by decide +kernel
theorem kl_84 : ts_cls 84 = 11 := by decide +kernel
theorem kd_85 : ts_knd 85 = 0 := by decide +kernel
theorem kl_85 : ts_cls 85 = 4 := by decide +kernel
theorem kd_86 : ts_knd 86 = 0 := by decide +kernel
theorem kl_86 : ts_cls 86 = 0 := by decide +kernel
theorem kd_87 : ts_knd 87 = 1 := by decide +kernel
theorem kl_87 : ts_cls 87 = 2 := by decide +kernel
theorem kd_88 : ts_knd 88 = 0 := by decide +kernel
theorem kl_88 : ts_cls 88 = 2 := by decide +kernel
theorem kd_89 : ts_knd 89 = 1 := by decide +kernel
theorem kl_89 : ts_cls 89 = 11 := by decide +kernel
theorem kd_90 : ts_knd 90 = 1 := by decide +kernel
theorem kl_90 : ts_cls 90 = 2 := by decide +kernel
theorem kd_91 : ts_knd 91 = 1 := by decide +kernel
theorem kl_91 : ts_cls 91 = 2 := by decide +kernel
theorem kd_92 : ts_knd 92 = 1 := by decide +kernel
theorem kl_92 : ts_cls 92 = 4 := by decide +kernel
theorem kd_93 : ts_knd 93 = 1 := by decide +kernel
theorem kl_93 : ts_cls 93 = 11 := by decide +kernel
theorem kd_94 : ts_knd 94 = 1 := by decide +kernel
theorem kl_94 : ts_cls 94 = 2 := by decide +kernel
theorem kd_95 : ts_knd 95 = 1 := by decide +kernel
theorem kl_95 : ts_cls 95 = 2 := by decide +kernel
theorem kd_96 : ts_knd 96 = 1 := by decide +kernel
theorem kl_96 : ts_cls 96 = 2 := by decide +kernel
theorem kd_97 : ts_knd 97 = 1 := by decide +kernel
theorem kl_97 : ts_cls 97 = 2 := by decide +kernel
theorem kd_98 : ts_knd 98 = 1 := by decide +kernel
theorem kl_98 : ts_cls 98 = 11 := by decide +kernel
theorem kd_99 : ts_knd 99 = 1 := by decide +kernel
theorem kl_99 : ts_cls 99 = 2 := by decide +kernel
theorem kd_100 : ts_knd 100 = 1 := by decide +kernel
theorem kl_100 : ts_cls 100 = 11 := by decide +kernel
theorem kd_101 : ts_knd 101 = 0 := by decide +kernel
theorem kl_101 : ts_cls 101 = 7 := by decide +kernel
theorem kd_102 : ts_knd 102 = 1 := by decide +kernel
theorem kl_102 : ts_cls 102 = 7 := by decide +kernel
theorem kd_103 : ts_knd 103 = 1 := by decide +kernel
theorem kl_103 : ts_cls 103 = 5 := by decide +kernel
theorem kd_104 : ts_knd 104 = 3 := by decide +kernel
theorem kl_104 : ts_cls 104 = 2 := by decide +kernel
theorem kd_105 : ts_knd 105 = 3 := by decide +kernel
theorem kl_105 : ts_cls 105 = 2 := by decide +kernel
theorem kd_106 : ts_knd 106 = 1 := by decide +kernel
theorem kl_106 : ts_cls 106 = 11 := by decide +kernel
theorem kd_107 : ts_knd 107 = 1 := by decide +kernel
theorem kl_107 : ts_cls 107 = 11 := by decide +kernel
theorem kd_108 : ts_knd 108 = 0 := by decide +kernel
theorem kl_108 : ts_cls 108 = 4 := by decide +kernel
theorem kd_109 : ts_knd 109 = 0 := by decide +kernel
theorem kl_109 : ts_cls 109 = 4 := by decide +kernel
theorem kd_110 : ts_knd 110 = 1 := by decide +kernel
theorem kl_110 : ts_cls 110 = 7 := by decide +kernel
theorem kd_111 : ts_knd 111 = 0 := by decide +kernel
theorem kl_111 : ts_cls 111 = 2 := by decide +kernel
theorem kd_112 : ts_knd 112 = 0 := by decide +kernel
theorem kl_112 : ts_cls 112 = 0 := by decide +kernel
theorem kd_113 : ts_knd 113 = 1 := by decide +kernel
theorem kl_113 : ts_cls 113 = 11 := by decide +kernel
theorem kd_114 : ts_knd 114 = 3 := by decide +kernel
theorem kl_114 : ts_cls 114 = 2 := by decide +kernel
theorem kd_115 : ts_knd 115 = 1 := by decide +kernel
theorem kl_115 : ts_cls 115 = 4 := by decide +kernel
theorem kd_116 : ts_knd 116 = 0 := by decide +kernel
theorem kl_116 : ts_cls 116 = 4 := by decide +kernel
theorem kd_117 : ts_knd 117 = 1 := by decide +kernel
theorem kl_117 : ts_cls 117 = 11 := by decide +kernel
theorem kd_118 : ts_knd 118 = 1 := by decide +kernel
theorem kl_118 : ts_cls 118 = 2 := by decide +kernel
theorem kd_119 : ts_knd 119 = 1 := by decide +kernel
theorem kl_119 : ts_cls 119 = 11 := by decide +kernel
theorem kd_120 : ts_knd 120 = 0 := by decide +kernel
theorem kl_120 : ts_cls 120 = 4 := by decide +kernel
theorem kd_121 : ts_knd 121 = 1 := by decide +kernel
theorem kl_121 : ts_cls 121 = 11 := by decide +kernel
theorem kd_122 : ts_knd 122 = 1 := by decide +kernel
theorem kl_122 : ts_cls 122 = 4 := by decide +kernel
theorem kd_123 : ts_knd 123 = 1 := by decide +kernel
theorem kl_123 : ts_cls 123 = 11 := by decide +kernel
theorem kd_124 : ts_knd 124 = 1 := by decide +kernel
theorem kl_124 : ts_cls 124 = 11 := by decide +kernel
theorem kd_125 : ts_knd 125 = 1 := by decide +kernel
theorem kl_125 : ts_cls 125 = 2 := by decide +kernel
theorem kd_126 : ts_knd 126 = 3 := by decide +kernel
theorem kl_126 : ts_cls 126 = 2 := by decide +kernel
theorem kd_127 : ts_knd 127 = 1 := by decide +kernel
theorem kl_127 : ts_cls 127 = 4 := by decide +kernel
theorem kd_128 : ts_knd 128 = 0 := by decide +kernel
theorem kl_128 : ts_cls 128 = 2 := by decide +kernel
theorem kd_129 : ts_knd 129 = 1 := by decide +kernel
theorem kl_129 : ts_cls 129 = 11 := by decide +kernel
theorem kd_130 : ts_knd 130 = 1 := by decide +kernel
theorem kl_130 : ts_cls 130 = 11 := by decide +kernel
theorem kd_131 : ts_knd 131 = 1 := by decide +kernel
theorem kl_131 : ts_cls 131 = 4 := by decide +kernel
theorem kd_132 : ts_knd 132 = 1 := by decide +kernel
theorem kl_132 : ts_cls 132 = 11 := by decide +kernel
theorem kd_133 : ts_knd 133 = 1 := by decide +kernel
theorem kl_133 : ts_cls 133 = 11 := by decide +kernel
theorem kd_134 : ts_knd 134 = 1 := by decide +kernel
theorem kl_134 : ts_cls 134 = 11 := by decide +kernel
theorem kd_135 : ts_knd 135 = 1 := by decide +kernel
theorem kl_135 : ts_cls 135 = 11 := by decide +kernel
theorem kd_136 : ts_knd 136 = 1 := by decide +kernel
theorem kl_136 : ts_cls 136 = 4 := by decide +kernel
theorem kd_137 : ts_knd 137 = 1 := by decide +kernel
theorem kl_137 : ts_cls 137 = 11 := by decide +kernel
theorem kd_138 : ts_knd 138 = 1 := by decide +kernel
theorem kl_138 : ts_cls 138 = 11 := by decide +kernel
theorem kd_139 : ts_knd 139 = 1 := by decide +kernel
theorem kl_139 : ts_cls 139 = 4 := by decide +kernel
theorem kd_140 : ts_knd 140 = 1 := by decide +kernel
theorem kl_140 : ts_cls 140 = 11 := by decide +kernel
theorem kd_141 : ts_knd 141 = 1 := by decide +kernel
theorem kl_141 : ts_cls 141 = 11 := by decide +kernel
theorem kd_142 : ts_knd 142 = 1 := by decide +kernel
theorem kl_142 : ts_cls 142 = 11 := by decide +kernel
theorem kd_143 : ts_knd 143 = 1 := by decide +kernel
theorem kl_143 : ts_cls 143 = 11 := by decide +kernel
theorem kd_144 : ts_knd 144 = 1 := by decide +kernel
theorem kl_144 : ts_cls 144 = 11 := by decide +kernel
theorem kd_145 : ts_knd 145 = 1 := by decide +kernel
theorem kl_145 : ts_cls 145 = 11 := by decide +kernel
theorem kd_146 : ts_knd 146 = 1 := by decide +kernel
theorem kl_146 : ts_cls 146 = 2 := by decide +kernel
theorem kd_147 : ts_knd 147 = 1 := by decide +kernel
theorem kl_147 : ts_cls 147 = 11 := by decide +kernel
theorem kd_148 : ts_knd 148 = 1 := by decide +kernel
theorem kl_148 : ts_cls 148 = 11 := by decide +kernel
theorem kd_149 : ts_knd 149 = 1 := by decide +kernel
theorem kl_149 : ts_cls 149 = 11 := by decide +kernel
theorem kd_150 : ts_knd 150 = 1 := by decide +kernel
theorem kl_150 : ts_cls 150 = 2 := by decide +kernel
theorem kd_151 : ts_knd 151 = 1 := by decide +kernel
theorem kl_151 : ts_cls 151 = 11 := by decide +kernel
theorem kd_152 : ts_knd 152 = 1 := by decide +kernel
theorem kl_152 : ts_cls 152 = 11 := by decide +kernel
theorem kd_153 : ts_knd 153 = 1 := by decide +kernel
theorem kl_153 : ts_cls 153 = 11 := by decide +kernel
theorem kd_154 : ts_knd 154 = 1 := by decide +kernel
theorem kl_154 : ts_cls 154 = 11 := by decide +kernel
theorem kd_155 : ts_knd 155 = 1 := by decide +kernel
theorem kl_155 : ts_cls 155 = 11 := by decide +kernel
theorem kd_156 : ts_knd 156 = 0 := by decide +kernel
theorem kl_156 : ts_cls 156 = 3 := by decide +kernel
theorem kd_157 : ts_knd 157 = 0 := by decide +kernel
theorem kl_157 : ts_cls 157 = 3 := by decide +kernel
theorem kd_158 : ts_knd 158 = 1 := by decide +kernel
theorem kl_158 : ts_cls 158 = 3 := by decide +kernel
theorem kd_159 : ts_knd 159 = 1 := by decide +kernel
theorem kl_159 : ts_cls 159 = 3 := by decide +kernel
theorem kd_160 : ts_knd 160 = 1 := by decide +kernel
theorem kl_160 : ts_cls 160 = 11 := by decide +kernel
theorem kd_161 : ts_knd 161 = 1 := by decide +kernel
theorem kl_161 : ts_cls 161 = 11 := by decide +kernel
theorem kd_162 : ts_knd 162 = 1 := by decide +kernel
theorem kl_162 : ts_cls 162 = 11 := by decide +kernel
theorem kd_163 : ts_knd 163 = 1 := by decide +kernel
theorem kl_163 : ts_cls 163 = 11 := by decide +kernel
theorem kd_164 : ts_knd 164 = 1 := by decide +kernel
theorem kl_164 : ts_cls 164 = 0 := by decide +kernel
theorem kd_165 : ts_knd 165 = 1 := by decide +kernel
theorem kl_165 : ts_cls 165 = 0 := by decide +kernel
theorem kd_166 : ts_knd 166 = 1 := by decide +kernel
theorem kl_166 : ts_cls 166 = 11 := by decide +kernel
theorem kd_167 : ts_knd 167 = 1 := by decide +kernel
theorem kl_167 : ts_cls 167 = 11 := by decide +kernel
theorem kd_168 : ts_knd 168 = 1 := by decide +kernel
theorem kl_168 : ts_cls 168 = 1 := by decide +kernel
theorem kd_169 : ts_knd 169 = 1 := by decide +kernel
theorem kl_169 : ts_cls 169 = 11 := by decide +kernel
theorem kd_170 : ts_knd 170 = 0 := by decide +kernel
theorem kl_170 : ts_cls 170 = 1 := by decide +kernel
theorem kd_171 : ts_knd 171 = 1 := by decide +kernel
theorem kl_171 : ts_cls 171 = 11 := by decide +kernel
theorem kd_172 : ts_knd 172 = 1 := by decide +kernel
theorem kl_172 : ts_cls 172 = 1 := by decide +kernel
theorem kd_173 : ts_knd 173 = 1 := by decide +kernel
theorem kl_173 : ts_cls 173 = 11 := by decide +kernel
theorem kd_174 : ts_knd 174 = 1 := by decide +kernel
theorem kl_174 : ts_cls 174 = 8 := by decide +kernel
theorem kd_176 : ts_knd 176 = 1 := by decide +kernel
theorem kl_176 : ts_cls 176 = 8 := by decide +kernel
theorem kd_178 : ts_knd 178 = 1 := by decide +kernel
theorem kl_178 : ts_cls 178 = 12 := by decide +kernel
theorem kd_179 : ts_knd 179 = 1 := by decide +kernel
theorem kl_179 : ts_cls 179 = 12 := by decide +kernel
theorem kd_180 : ts_knd 180 = 1 := by decide +kernel
theorem kl_180 : ts_cls 180 = 12 := by decide +kernel
theorem kd_181 : ts_knd 181 = 1 := by decide +kernel
theorem kl_181 : ts_cls 181 = 12 := by decide +kernel
theorem kd_182 : ts_knd 182 = 1 := by decide +kernel
theorem kl_182 : ts_cls 182 = 12 := by decide +kernel
theorem kd_183 : ts_knd 183 = 0 := by decide +kernel
theorem kl_183 : ts_cls 183 = 12 := by decide +kernel
theorem kd_184 : ts_knd 184 = 0 := by decide +kernel
theorem kl_184 : ts_cls 184 = 12 := by decide +kernel
theorem kd_185 : ts_knd 185 = 0 := by decide +kernel
theorem kl_185 : ts_cls 185 = 12 := by decide +kernel
theorem kd_186 : ts_knd 186 = 1 := by decide +kernel
theorem kl_186 : ts_cls 186 = 12 := by decide +kernel
theorem kd_187 : ts_knd 187 = 0 := by decide +kernel
theorem kl_187 : ts_cls 187 = 12 := by decide +kernel
theorem kd_188 : ts_knd 188 = 1 := by decide +kernel
theorem kl_188 : ts_cls 188 = 12 := by decide +kernel
theorem kd_189 : ts_knd 189 = 0 := by decide +kernel
theorem kl_189 : ts_cls 189 = 12 := by decide +kernel
theorem kd_190 : ts_knd 190 = 0 := by decide +kernel
theorem kl_190 : ts_cls 190 = 12 := by decide +kernel
theorem kd_191 : ts_knd 191 = 1 := by decide +kernel
theorem kl_191 : ts_cls 191 = 12 := by decide +kernel
theorem kd_192 : ts_knd 192 = 1 := by decide +kernel
theorem kl_192 : ts_cls 192 = 12 := by decide +kernel
theorem kd_193 : ts_knd 193 = 1 := by decide +kernel
theorem kl_193 : ts_cls 193 = 12 := by decide +kernel
theorem kd_194 : ts_knd 194 = 1 := by decide +kernel
theorem kl_194 : ts_cls 194 = 12 := by decide +kernel
theorem kd_195 : ts_knd 195 = 1 := by decide +kernel
theorem kl_195 : ts_cls 195 = 12 := by decide +kernel
theorem kd_196 : ts_knd 196 = 1 := by decide +kernel
theorem kl_196 : ts_cls 196 = 12 := by decide +kernel
theorem kd_197 : ts_knd 197 = 1 := by decide +kernel
theorem kl_197 : ts_cls 197 = 12 := by decide +kernel
theorem kd_198 : ts_knd 198 = 1 := by decide +kernel
theorem kl_198 : ts_cls 198 = 12 := by decide +kernel
theorem kd_199 : ts_knd 199 = 1 := by decide +kernel
theorem kl_199 : ts_cls 199 = 12 := by decide +kernel
theorem kd_200 : ts_knd 200 = 1 := by decide +kernel
theorem kl_200 : ts_cls 200 = 12 := by decide +kernel
theorem kd_201 : ts_knd 201 = 0 := by decide +kernel
theorem kl_201 : ts_cls 201 = 12 := by decide +kernel
theorem kd_202 : ts_knd 202 = 0 := by decide +kernel
theorem kl_202 : ts_cls 202 = 12 := by decide +kernel
theorem kd_203 : ts_knd 203 = 1 := by decide +kernel
theorem kl_203 : ts_cls 203 = 12 := by decide +kernel
theorem kd_204 : ts_knd 204 = 1 := by decide +kernel
theorem kl_204 : ts_cls 204 = 12 := by decide +kernel
theorem kd_205 : ts_knd 205 = 0 := by decide +kernel
theorem kl_205 : ts_cls 205 = 12 := by decide +kernel
theorem kd_206 : ts_knd 206 = 1 := by decide +kernel
theorem kl_206 : ts_cls 206 = 12 := by decide +kernel
theorem kd_207 : ts_knd 207 = 1 := by decide +kernel
theorem kl_207 : ts_cls 207 = 12 := by decide +kernel
theorem kd_208 : ts_knd 208 = 1 := by decide +kernel
theorem kl_208 : ts_cls 208 = 12 := by decide +kernel
theorem kd_209 : ts_knd 209 = 1 := by decide +kernel
theorem kl_209 : ts_cls 209 = 12 := by decide +kernel
theorem kd_210 : ts_knd 210 = 1 := by decide +kernel
theorem kl_210 : ts_cls 210 = 12 := by decide +kernel
theorem kd_211 : ts_knd 211 = 0 := by decide +kernel
theorem kl_211 : ts_cls 211 = 12 := by decide +kernel
theorem kd_212 : ts_knd 212 = 1 := by decide +kernel
theorem kl_212 : ts_cls 212 = 12 := by decide +kernel
theorem kd_213 : ts_knd 213 = 1 := by decide +kernel
theorem kl_213 : ts_cls 213 = 12 := by decide +kernel
theorem kd_214 : ts_knd 214 = 1 := by decide +kernel
theorem kl_214 : ts_cls 214 = 12 := by decide +kernel
theorem kd_215 : ts_knd 215 = 1 := by decide +kernel
theorem kl_215 : ts_cls 215 = 12 := by decide +kernel
theorem kd_216 : ts_knd 216 = 1 := by decide +kernel
theorem kl_216 : ts_cls 216 = 12 := by decide +kernel
theorem kd_217 : ts_knd 217 = 1 := by decide +kernel
theorem kl_217 : ts_cls 217 = 12 := by decide +kernel
theorem kd_218 : ts_knd 218 = 1 := by decide +kernel
theorem kl_218 : ts_cls 218 = 12 := by decide +kernel
theorem kd_219 : ts_knd 219 = 1 := by decide +kernel
theorem kl_219 : ts_cls 219 = 12 := by decide +kernel
theorem kd_220 : ts_knd 220 = 1 := by decide +kernel
theorem kl_220 : ts_cls 220 = 12 := by decide +kernel
theorem kd_221 : ts_knd 221 = 1 := by decide +kernel
theorem kl_221 : ts_cls 221 = 12 := by decide +kernel
theorem kd_222 : ts_knd 222 = 1 := by decide +kernel
theorem kl_222 : ts_cls 222 = 12 := by decide +kernel
theorem kd_223 : ts_knd 223 = 1 := by decide +kernel
theorem kl_223 : ts_cls 223 = 12 := by decide +kernel
theorem kd_224 : ts_knd 224 = 0 := by decide +kernel
theorem kl_224 : ts_cls 224 = 12 := by decide +kernel
theorem kd_225 : ts_knd 225 = 1 := by decide +kernel
theorem kl_225 : ts_cls 225 = 12 := by decide +kernel
theorem kd_226 : ts_knd 226 = 1 := by decide +kernel
theorem kl_226 : ts_cls 226 = 12 := by decide +kernel
theorem kd_227 : ts_knd 227 = 1 := by decide +kernel
theorem kl_227 : ts_cls 227 = 12 := by decide +kernel
theorem kd_228 : ts_knd 228 = 0 := by decide +kernel
theorem kl_228 : ts_cls 228 = 12 := by decide +kernel
theorem kd_229 : ts_knd 229 = 0 := by decide +kernel
theorem kl_229 : ts_cls 229 = 12 := by decide +kernel
theorem kd_230 : ts_knd 230 = 1 := by decide +kernel
theorem kl_230 : ts_cls 230 = 12 := by decide +kernel
theorem kd_231 : ts_knd 231 = 1 := by decide +kernel
theorem kl_231 : ts_cls 231 = 12 := by decide +kernel
theorem kd_232 : ts_knd 232 = 1 := by decide +kernel
theorem kl_232 : ts_cls 232 = 12 := by decide +kernel
theorem kd_233 : ts_knd 233 = 1 := by decide +kernel
theorem kl_233 : ts_cls 233 = 12 := by decide +kernel
theorem kd_234 : ts_knd 234 = 1 := by decide +kernel
theorem kl_234 : ts_cls 234 = 12 := by decide +kernel
theorem kd_235 : ts_knd 235 = 0 := by decide +kernel
theorem kl_235 : ts_cls 235 = 12 := by decide +kernel
theorem kd_236 : ts_knd 236 = 1 := by decide +kernel
theorem kl_236 : ts_cls 236 = 12 := by decide +kernel
theorem kd_237 : ts_knd 237 = 1 := by decide +kernel
theorem kl_237 : ts_cls 237 = 12 := by decide +kernel
theorem kd_238 : ts_knd 238 = 1 := by decide +kernel
theorem kl_238 : ts_cls 238 = 12 := by decide +kernel
theorem kd_239 : ts_knd 239 = 1 := by decide +kernel
theorem kl_239 : ts_cls 239 = 12 := by decide +kernel
theorem kd_240 : ts_knd 240 = 1 := by decide +kernel
theorem kl_240 : ts_cls 240 = 12 := by decide +kernel
theorem kd_241 : ts_knd 241 = 1 := by decide +kernel
theorem kl_241 : ts_cls 241 = 12 := by decide +kernel
theorem kd_242 : ts_knd 242 = 1 := by decide +kernel
theorem kl_242 : ts_cls 242 = 12 := by decide +kernel
theorem kd_243 : ts_knd 243 = 1 := by decide +kernel
theorem kl_243 : ts_cls 243 = 12 := by decide +kernel
theorem kd_244 : ts_knd 244 = 1 := by decide +kernel
theorem kl_244 : ts_cls 244 = 12 := by decide +kernel
theorem kd_245 : ts_knd 245 = 1 := by decide +kernel
theorem kl_245 : ts_cls 245 = 12 := by decide +kernel
theorem kd_246 : ts_knd 246 = 1 := by decide +kernel
theorem kl_246 : ts_cls 246 = 12 := by decide +kernel
theorem kd_247 : ts_knd 247 = 1 := by decide +kernel
theorem kl_247 : ts_cls 247 = 12 := by decide +kernel
theorem kd_248 : ts_knd 248 = 1 := by decide +kernel
theorem kl_248 : ts_cls 248 = 12 := by decide +kernel
theorem kd_249 : ts_knd 249 = 1 := by decide +kernel
theorem kl_249 : ts_cls 249 = 12 := by decide +kernel
theorem kd_250 : ts_knd 250 = 1 := by decide +kernel
theorem kl_250 : ts_cls 250 = 12 := by decide +kernel
theorem kd_251 : ts_knd 251 = 1 := by decide +kernel
theorem kl_251 : ts_cls 251 = 12 := by decide +kernel
theorem kd_252 : ts_knd 252 = 1 := by decide +kernel
theorem kl_252 : ts_cls 252 = 12 := by decide +kernel
theorem kd_253 : ts_knd 253 = 1 := by decide +kernel
theorem kl_253 : ts_cls 253 = 12 := by decide +kernel
theorem kd_254 : ts_knd 254 = 1 := by decide +kernel
theorem kl_254 : ts_cls 254 = 12 := by decide +kernel
theorem kd_255 : ts_knd 255 = 1 := by decide +kernel
theorem kl_255 : ts_cls 255 = 12 := by decide +kernel
theorem kd_256 : ts_knd 256 = 1 := by decide +kernel
theorem kl_256 : ts_cls 256 = 12 := by decide +kernel
theorem kd_257 : ts_knd 257 = 1 := by decide +kernel
theorem kl_257 : ts_cls 257 = 12 := by decide +kernel
theorem kd_258 : ts_knd 258 = 1 := by decide +kernel
theorem kl_258 : ts_cls 258 = 12 := by decide +kernel
theorem kd_259 : ts_knd 259 = 1 := by decide +kernel
theorem kl_259 : ts_cls 259 = 12 := by decide +kernel
theorem kd_260 : ts_knd 260 = 1 := by decide +kernel
theorem kl_260 : ts_cls 260 = 12 := by decide +kernel
theorem kd_261 : ts_knd 261 = 1 := by decide +kernel
theorem kl_261 : ts_cls 261 = 12 := by decide +kernel
theorem kd_262 : ts_knd 262 = 0 := by decide +kernel
theorem kl_262 : ts_cls 262 = 12 := by decide +kernel
theorem kd_263 : ts_knd 263 = 1 := by decide +kernel
theorem kl_263 : ts_cls 263 = 12 := by decide +kernel
theorem kd_264 : ts_knd 264 = 1 := by decide +kernel
theorem kl_264 : ts_cls 264 = 12 := by decide +kernel
theorem kd_265 : ts_knd 265 = 1 := by decide +kernel
theorem kl_265 : ts_cls 265 = 12 := by decide +kernel
theorem kd_266 : ts_knd 266 = 1 := by decide +kernel
theorem kl_266 : ts_cls 266 = 12 := by decide +kernel
theorem kd_267 : ts_knd 267 = 1 := by decide +kernel
theorem kl_267 : ts_cls 267 = 12 := by decide +kernel
theorem kd_268 : ts_knd 268 = 0 := by decide +kernel
theorem kl_268 : ts_cls 268 = 12 := by decide +kernel
theorem kd_269 : ts_knd 269 = 0 := by decide +kernel
theorem kl_269 : ts_cls 269 = 12 := by decide +kernel
theorem kd_270 : ts_knd 270 = 1 := by decide +kernel
theorem kl_270 : ts_cls 270 = 12 := by decide +kernel
theorem kd_271 : ts_knd 271 = 1 := by decide +kernel
theorem kl_271 : ts_cls 271 = 12 := by decide +kernel
theorem kd_272 : ts_knd 272 = 1 := by decide +kernel
theorem kl_272 : ts_cls 272 = 12 := by decide +kernel
theorem kd_273 : ts_knd 273 = 1 := by decide +kernel
theorem kl_273 : ts_cls 273 = 12 := by decide +kernel
theorem kd_274 : ts_knd 274 = 2 := by decide +kernel
theorem kl_274 : ts_cls 274 = 12 := by decide +kernel
theorem kd_275 : ts_knd 275 = 1 := by decide +kernel
theorem kl_275 : ts_cls 275 = 12 := by decide +kernel
/-- TransitSeals$Net.measureWays()V -/
abbrev Y12 : ts_Y := (yX5_measureWays, cX5_measureWays, 5, none, 5)
set_option maxRecDepth 20000 in
theorem hY12 : ts_mL[12]? = some Y12 := rfl
/-- TransitSeals$Net.roadHours(II)I -/
abbrev Y13 : ts_Y := (yX5_roadHours, cX5_roadHours, 3, (some .int), 5)
set_option maxRecDepth 20000 in
theorem hY13 : ts_mL[13]? = some Y13 := rfl
/-- TransitSeals$Net.hasOffice(I)Z -/
abbrev Y14 : ts_Y := (yX5_hasOffice, cX5_hasOffice, 2, (some .boolean), 5)
set_option maxRecDepth 20000 in
theorem hY14 : ts_mL[14]? = some Y14 := rfl
/-- TransitSeals$Net.pair(II)I -/
abbrev Y15 : ts_Y := (yX5_pair, cX5_pair, 2, (some .int), 5)
set_option maxRecDepth 20000 in
theorem hY15 : ts_mL[15]? = some Y15 := rfl
/-- TransitSeals.numberIn([II)I -/
abbrev Y16 : ts_Y := (yX11_numberIn, cX11_numberIn, 2, (some .int), 11)
set_option maxRecDepth 20000 in
theorem hY16 : ts_mL[16]? = some Y16 := rfl
/-- TransitSeals.put([III)V -/
abbrev Y17 : ts_Y := (yX11_put, cX11_put, 3, none, 11)
set_option maxRecDepth 20000 in
theorem hY17 : ts_mL[17]? = some Y17 := rfl
/-- TransitSeals$Net.wayHours(II)I -/
abbrev Y18 : ts_Y := (yX5_wayHours, cX5_wayHours, 3, (some .int), 5)
set_option maxRecDepth 20000 in
theorem hY18 : ts_mL[18]? = some Y18 := rfl
/-- TransitSeals$Net.writeDown()V -/
abbrev Y19 : ts_Y := (yX5_writeDown, cX5_writeDown, 4, none, 5)
set_option maxRecDepth 20000 in
theorem hY19 : ts_mL[19]? = some Y19 := rfl
/-- TransitSeals$Text.cutTo(I)V -/
abbrev Y20 : ts_Y := (yX10_cutTo, cX10_cutTo, 2, none, 10)
set_option maxRecDepth 20000 in
theorem hY20 : ts_mL[20]? = some Y20 := rfl
/-- TransitSeals$Net.countryOf(I)I -/
abbrev Y21 : ts_Y := (yX5_countryOf, cX5_countryOf, 2, (some .int), 5)
set_option maxRecDepth 20000 in
theorem hY21 : ts_mL[21]? = some Y21 := rfl
/-- TransitSeals$Text.addNumber(I)V -/
abbrev Y22 : ts_Y := (yX10_addNumber, cX10_addNumber, 2, none, 10)
set_option maxRecDepth 20000 in
theorem hY22 : ts_mL[22]? = some Y22 := rfl
/-- TransitSeals$Text.add(I)V -/
abbrev Y23 : ts_Y := (yX10_add, cX10_add, 2, none, 10)
set_option maxRecDepth 20000 in
theorem hY23 : ts_mL[23]? = some Y23 := rfl
/-- TransitSeals$Net.writeRoad(IIZ)V -/
abbrev Y24 : ts_Y := (yX5_writeRoad, cX5_writeRoad, 4, none, 5)
set_option maxRecDepth 20000 in
theorem hY24 : ts_mL[24]? = some Y24 := rfl
/-- TransitSeals$Net.dutyOf(I)I -/
abbrev Y25 : ts_Y := (yX5_dutyOf, cX5_dutyOf, 2, (some .int), 5)
set_option maxRecDepth 20000 in
theorem hY25 : ts_mL[25]? = some Y25 := rfl
/-- TransitSeals.sign(I)I -/
abbrev Y26 : ts_Y := (yX11_sign, cX11_sign, 4, (some .int), 11)
set_option maxRecDepth 20000 in
theorem hY26 : ts_mL[26]? = some Y26 := rfl
/-- TransitSeals$Text.size()I -/
abbrev Y27 : ts_Y := (yX10_size, cX10_size, 1, (some .int), 10)
set_option maxRecDepth 20000 in
theorem hY27 : ts_mL[27]? = some Y27 := rfl
/-- TransitSeals.end(I)Z -/
abbrev Y28 : ts_Y := (yX11_end, cX11_end, 2, (some .boolean), 11)
set_option maxRecDepth 20000 in
theorem hY28 : ts_mL[28]? = some Y28 := rfl
/-- TransitSeals.net()I -/
abbrev Y29 : ts_Y := (yX11_net, cX11_net, 2, (some .int), 11)
set_option maxRecDepth 20000 in
theorem hY29 : ts_mL[29]? = some Y29 := rfl
/-- TransitSeals$Net.readFrom(LTransitSeals$Reader;)V -/
abbrev Y30 : ts_Y := (yX5_readFrom, cX5_readFrom, 2, none, 5)
set_option maxRecDepth 20000 in
theorem hY30 : ts_mL[30]? = some Y30 := rfl
/-- TransitSeals$Reader.begin()V -/
abbrev Y31 : ts_Y := (yX6_begin, cX6_begin, 1, none, 6)
set_option maxRecDepth 20000 in
theorem hY31 : ts_mL[31]? = some Y31 := rfl
/-- TransitSeals$Net.clear()V -/
abbrev Y32 : ts_Y := (yX5_clear, cX5_clear, 1, none, 5)
set_option maxRecDepth 20000 in
theorem hY32 : ts_mL[32]? = some Y32 := rfl
/-- TransitSeals.wipe([I)V -/
abbrev Y33 : ts_Y := (yX11_wipe, cX11_wipe, 2, none, 11)
set_option maxRecDepth 20000 in
theorem hY33 : ts_mL[33]? = some Y33 := rfl
/-- TransitSeals$Net.readCountries(LTransitSeals$Reader;)V -/
abbrev Y34 : ts_Y := (yX5_readCountries, cX5_readCountries, 3, none, 5)
set_option maxRecDepth 20000 in
theorem hY34 : ts_mL[34]? = some Y34 := rfl
/-- TransitSeals$Reader.digit()I -/
abbrev Y35 : ts_Y := (yX6_digit, cX6_digit, 2, (some .int), 6)
set_option maxRecDepth 20000 in
theorem hY35 : ts_mL[35]? = some Y35 := rfl
/-- TransitSeals$Text.signAt(I)I -/
abbrev Y36 : ts_Y := (yX10_signAt, cX10_signAt, 2, (some .int), 10)
set_option maxRecDepth 20000 in
theorem hY36 : ts_mL[36]? = some Y36 := rfl
/-- TransitSeals$Reader.number(II)I -/
abbrev Y37 : ts_Y := (yX6_number, cX6_number, 6, (some .int), 6)
set_option maxRecDepth 20000 in
theorem hY37 : ts_mL[37]? = some Y37 := rfl
/-- TransitSeals$Reader.failed()Z -/
abbrev Y38 : ts_Y := (yX6_failed, cX6_failed, 1, (some .boolean), 6)
set_option maxRecDepth 20000 in
theorem hY38 : ts_mL[38]? = some Y38 := rfl
/-- TransitSeals$Reader.refuseHere()V -/
abbrev Y39 : ts_Y := (yX6_refuseHere, cX6_refuseHere, 1, none, 6)
set_option maxRecDepth 20000 in
theorem hY39 : ts_mL[39]? = some Y39 := rfl
/-- TransitSeals.digitsOf(I)I -/
abbrev Y40 : ts_Y := (yX11_digitsOf, cX11_digitsOf, 1, (some .int), 11)
set_option maxRecDepth 20000 in
theorem hY40 : ts_mL[40]? = some Y40 := rfl
/-- TransitSeals$Reader.refuseLast()V -/
abbrev Y41 : ts_Y := (yX6_refuseLast, cX6_refuseLast, 1, none, 6)
set_option maxRecDepth 20000 in
theorem hY41 : ts_mL[41]? = some Y41 := rfl
/-- TransitSeals$Reader.needs(C)V -/
abbrev Y42 : ts_Y := (yX6_needs, cX6_needs, 2, none, 6)
set_option maxRecDepth 20000 in
theorem hY42 : ts_mL[42]? = some Y42 := rfl
/-- TransitSeals$Reader.takes(C)Z -/
abbrev Y43 : ts_Y := (yX6_takes, cX6_takes, 2, (some .boolean), 6)
set_option maxRecDepth 20000 in
theorem hY43 : ts_mL[43]? = some Y43 := rfl
/-- TransitSeals$Net.readRoads(LTransitSeals$Reader;)V -/
abbrev Y44 : ts_Y := (yX5_readRoads, cX5_readRoads, 3, none, 5)
set_option maxRecDepth 20000 in
theorem hY44 : ts_mL[44]? = some Y44 := rfl
/-- TransitSeals$Reader.atEnd()Z -/
abbrev Y45 : ts_Y := (yX6_atEnd, cX6_atEnd, 1, (some .boolean), 6)
set_option maxRecDepth 20000 in
theorem hY45 : ts_mL[45]? = some Y45 := rfl
/-- TransitSeals$Reader.sees(C)Z -/
abbrev Y46 : ts_Y := (yX6_sees, cX6_sees, 2, (some .boolean), 6)
set_option maxRecDepth 20000 in
theorem hY46 : ts_mL[46]? = some Y46 := rfl
/-- TransitSeals$Net.readRoad(LTransitSeals$Reader;)V -/
abbrev Y47 : ts_Y := (yX5_readRoad, cX5_readRoad, 5, none, 5)
set_option maxRecDepth 20000 in
theorem hY47 : ts_mL[47]? = some Y47 := rfl
/-- TransitSeals$Net.join(III)V -/
abbrev Y48 : ts_Y := (yX5_join, cX5_join, 4, none, 5)
set_option maxRecDepth 20000 in
theorem hY48 : ts_mL[48]? = some Y48 := rfl
/-- TransitSeals$Net.near(I)I -/
abbrev Y49 : ts_Y := (yX5_near, cX5_near, 2, (some .int), 5)
set_option maxRecDepth 20000 in
theorem hY49 : ts_mL[49]? = some Y49 := rfl
/-- TransitSeals$Net.readDuties(LTransitSeals$Reader;)V -/
abbrev Y50 : ts_Y := (yX5_readDuties, cX5_readDuties, 3, none, 5)
set_option maxRecDepth 20000 in
theorem hY50 : ts_mL[50]? = some Y50 := rfl
/-- TransitSeals$Reader.finish()V -/
abbrev Y51 : ts_Y := (yX6_finish, cX6_finish, 1, none, 6)
set_option maxRecDepth 20000 in
theorem hY51 : ts_mL[51]? = some Y51 := rfl
/-- TransitSeals$Reader.refusal()I -/
abbrev Y52 : ts_Y := (yX6_refusal, cX6_refusal, 1, (some .int), 6)
set_option maxRecDepth 20000 in
theorem hY52 : ts_mL[52]? = some Y52 := rfl
/-- TransitSeals$Ledger.clear()V -/
abbrev Y53 : ts_Y := (yX2_clear, cX2_clear, 5, none, 2)
set_option maxRecDepth 20000 in
theorem hY53 : ts_mL[53]? = some Y53 := rfl
/-- TransitSeals$Book.clear()V -/
abbrev Y54 : ts_Y := (yX0_clear, cX0_clear, 1, none, 0)
set_option maxRecDepth 20000 in
theorem hY54 : ts_mL[54]? = some Y54 := rfl
/-- TransitSeals$History.clear()V -/
abbrev Y55 : ts_Y := (yX1_clear, cX1_clear, 1, none, 1)
set_option maxRecDepth 20000 in
theorem hY55 : ts_mL[55]? = some Y55 := rfl
/-- TransitSeals$Row.clear()V -/
abbrev Y56 : ts_Y := (yX8_clear, cX8_clear, 1, none, 8)
set_option maxRecDepth 20000 in
theorem hY56 : ts_mL[56]? = some Y56 := rfl
/-- TransitSeals.road(II)I -/
abbrev Y57 : ts_Y := (yX11_road, cX11_road, 4, (some .int), 11)
set_option maxRecDepth 20000 in
theorem hY57 : ts_mL[57]? = some Y57 := rfl
/-- TransitSeals.office(II)I -/
abbrev Y58 : ts_Y := (yX11_office, cX11_office, 3, (some .int), 11)
set_option maxRecDepth 20000 in
theorem hY58 : ts_mL[58]? = some Y58 := rfl
/-- TransitSeals$Net.roadsAt(I)I -/
abbrev Y59 : ts_Y := (yX5_roadsAt, cX5_roadsAt, 2, (some .int), 5)
set_option maxRecDepth 20000 in
theorem hY59 : ts_mL[59]? = some Y59 := rfl
/-- java/lang/Integer.bitCount(I)I -/
abbrev Y60 : ts_Y := (yJ6_bitCount_0f7a4, cJ6_bitCount_0f7a4, 1, (some .int), 13)
set_option maxRecDepth 20000 in
theorem hY60 : ts_mL[60]? = some Y60 := rfl
/-- TransitSeals$Ledger.underwaySeenAt(I)I -/
abbrev Y61 : ts_Y := (yX2_underwaySeenAt, cX2_underwaySeenAt, 7, (some .int), 2)
set_option maxRecDepth 20000 in
theorem hY61 : ts_mL[61]? = some Y61 := rfl
/-- TransitSeals$Movement.isUnderway()Z -/
abbrev Y62 : ts_Y := (yX4_isUnderway, cX4_isUnderway, 1, (some .boolean), 4)
set_option maxRecDepth 20000 in
theorem hY62 : ts_mL[62]? = some Y62 := rfl
/-- TransitSeals$Movement.seen()I -/
abbrev Y63 : ts_Y := (yX4_seen, cX4_seen, 1, (some .int), 4)
set_option maxRecDepth 20000 in
theorem hY63 : ts_mL[63]? = some Y63 := rfl
/-- TransitSeals$Movement.officeAt(I)I -/
abbrev Y64 : ts_Y := (yX4_officeAt, cX4_officeAt, 2, (some .int), 4)
set_option maxRecDepth 20000 in
theorem hY64 : ts_mL[64]? = some Y64 := rfl
/-- TransitSeals$Movement.bit()I -/
abbrev Y65 : ts_Y := (yX4_bit, cX4_bit, 1, (some .int), 4)
set_option maxRecDepth 20000 in
theorem hY65 : ts_mL[65]? = some Y65 := rfl
/-- TransitSeals.way(II)I -/
abbrev Y66 : ts_Y := (yX11_way, cX11_way, 4, (some .int), 11)
set_option maxRecDepth 20000 in
theorem hY66 : ts_mL[66]? = some Y66 := rfl
/-- TransitSeals$Net.tellWay(IILTransitSeals$Row;)V -/
abbrev Y67 : ts_Y := (yX5_tellWay, cX5_tellWay, 6, none, 5)
set_option maxRecDepth 20000 in
theorem hY67 : ts_mL[67]? = some Y67 := rfl
/-- TransitSeals$Row.add(I)V -/
abbrev Y68 : ts_Y := (yX8_add, cX8_add, 2, none, 8)
set_option maxRecDepth 20000 in
theorem hY68 : ts_mL[68]? = some Y68 := rfl
/-- TransitSeals$Net.firstOnTheWay(II)I -/
abbrev Y69 : ts_Y := (yX5_firstOnTheWay, cX5_firstOnTheWay, 5, (some .int), 5)
set_option maxRecDepth 20000 in
theorem hY69 : ts_mL[69]? = some Y69 := rfl
/-- TransitSeals.routes(II)I -/
abbrev Y70 : ts_Y := (yX11_routes, cX11_routes, 3, (some .int), 11)
set_option maxRecDepth 20000 in
theorem hY70 : ts_mL[70]? = some Y70 := rfl
/-- TransitSeals$Search.run(LTransitSeals$Net;II)V -/
abbrev Y71 : ts_Y := (yX9_run, cX9_run, 4, none, 9)
set_option maxRecDepth 20000 in
theorem hY71 : ts_mL[71]? = some Y71 := rfl
/-- TransitSeals$Search.follow(LTransitSeals$Search;IIII)V -/
abbrev Y72 : ts_Y := (yX9_follow, cX9_follow, 9, none, 9)
set_option maxRecDepth 20000 in
theorem hY72 : ts_mL[72]? = some Y72 := rfl
/-- TransitSeals$Search.arrive(I)V -/
abbrev Y73 : ts_Y := (yX9_arrive, cX9_arrive, 2, none, 9)
set_option maxRecDepth 20000 in
theorem hY73 : ts_mL[73]? = some Y73 := rfl
/-- TransitSeals.tell(II)V -/
abbrev Y74 : ts_Y := (yX11_tell_, cX11_tell_, 3, none, 11)
set_option maxRecDepth 20000 in
theorem hY74 : ts_mL[74]? = some Y74 := rfl
/-- TransitSeals.tell(I)V -/
abbrev Y75 : ts_Y := (yX11_tell, cX11_tell, 2, none, 11)
set_option maxRecDepth 20000 in
theorem hY75 : ts_mL[75]? = some Y75 := rfl
/-- TransitSeals.gates(II)I -/
abbrev Y76 : ts_Y := (yX11_gates, cX11_gates, 5, (some .int), 11)
set_option maxRecDepth 20000 in
theorem hY76 : ts_mL[76]? = some Y76 := rfl
/-- TransitSeals$Net.hasRoute(III)Z -/
abbrev Y77 : ts_Y := (yX5_hasRoute, cX5_hasRoute, 9, (some .boolean), 5)
set_option maxRecDepth 20000 in
theorem hY77 : ts_mL[77]? = some Y77 := rfl
/-- TransitSeals.trader(II)I -/
abbrev Y78 : ts_Y := (yX11_trader, cX11_trader, 3, (some .int), 11)
set_option maxRecDepth 20000 in
theorem hY78 : ts_mL[78]? = some Y78 := rfl
/-- TransitSeals.isSum(I)Z -/
abbrev Y79 : ts_Y := (yX11_isSum, cX11_isSum, 1, (some .boolean), 11)
set_option maxRecDepth 20000 in
theorem hY79 : ts_mL[79]? = some Y79 := rfl
/-- TransitSeals.isLevel(I)Z -/
abbrev Y80 : ts_Y := (yX11_isLevel, cX11_isLevel, 1, (some .boolean), 11)
set_option maxRecDepth 20000 in
theorem hY80 : ts_mL[80]? = some Y80 := rfl
/-- TransitSeals$History.remember(LTransitSeals$Ledger;)V -/
abbrev Y81 : ts_Y := (yX1_remember, cX1_remember, 3, none, 1)
set_option maxRecDepth 20000 in
theorem hY81 : ts_mL[81]? = some Y81 := rfl
/-- TransitSeals$History.latestBefore()LTransitSeals$Ledger; -/
abbrev Y82 : ts_Y := (yX1_latestBefore, cX1_latestBefore, 1, (some (.object "TransitSeals$Ledger")), 1)
set_option maxRecDepth 20000 in
theorem hY82 : ts_mL[82]? = some Y82 := rfl
/-- TransitSeals$Ledger.copyFrom(LTransitSeals$Ledger;)V -/
abbrev Y83 : ts_Y := (yX2_copyFrom, cX2_copyFrom, 3, none, 2)
set_option maxRecDepth 20000 in
theorem hY83 : ts_mL[83]? = some Y83 := rfl
/-- TransitSeals.copy([I[I)V -/
abbrev Y84 : ts_Y := (yX11_copy, cX11_copy, 3, none, 11)
set_option maxRecDepth 20000 in
theorem hY84 : ts_mL[84]? = some Y84 := rfl
/-- TransitSeals$Movement.copyFrom(LTransitSeals$Movement;)V -/
abbrev Y85 : ts_Y := (yX4_copyFrom, cX4_copyFrom, 2, none, 4)
set_option maxRecDepth 20000 in
theorem hY85 : ts_mL[85]? = some Y85 := rfl
/-- TransitSeals$Book.copyFrom(LTransitSeals$Book;)V -/
abbrev Y86 : ts_Y := (yX0_copyFrom, cX0_copyFrom, 2, none, 0)
set_option maxRecDepth 20000 in
theorem hY86 : ts_mL[86]? = some Y86 := rfl
/-- TransitSeals$Ledger.addTrader(II)I -/
abbrev Y87 : ts_Y := (yX2_addTrader, cX2_addTrader, 3, (some .int), 2)
set_option maxRecDepth 20000 in
theorem hY87 : ts_mL[87]? = some Y87 := rfl
/-- TransitSeals$Ledger.setTrader(III)V -/
abbrev Y88 : ts_Y := (yX2_setTrader, cX2_setTrader, 4, none, 2)
set_option maxRecDepth 20000 in
theorem hY88 : ts_mL[88]? = some Y88 := rfl
/-- TransitSeals.sums(III)I -/
abbrev Y89 : ts_Y := (yX11_sums, cX11_sums, 5, (some .int), 11)
set_option maxRecDepth 20000 in
theorem hY89 : ts_mL[89]? = some Y89 := rfl
/-- TransitSeals$Ledger.hasTrader(I)Z -/
abbrev Y90 : ts_Y := (yX2_hasTrader, cX2_hasTrader, 2, (some .boolean), 2)
set_option maxRecDepth 20000 in
theorem hY90 : ts_mL[90]? = some Y90 := rfl
/-- TransitSeals$Ledger.sharesOf(I)I -/
abbrev Y91 : ts_Y := (yX2_sharesOf, cX2_sharesOf, 7, (some .int), 2)
set_option maxRecDepth 20000 in
theorem hY91 : ts_mL[91]? = some Y91 := rfl
/-- TransitSeals$Movement.isOpenFor(I)Z -/
abbrev Y92 : ts_Y := (yX4_isOpenFor, cX4_isOpenFor, 2, (some .boolean), 4)
set_option maxRecDepth 20000 in
theorem hY92 : ts_mL[92]? = some Y92 := rfl
/-- TransitSeals.inUse(I)I -/
abbrev Y93 : ts_Y := (yX11_inUse, cX11_inUse, 2, (some .int), 11)
set_option maxRecDepth 20000 in
theorem hY93 : ts_mL[93]? = some Y93 := rfl
/-- TransitSeals$Ledger.sumOf(I)I -/
abbrev Y94 : ts_Y := (yX2_sumOf, cX2_sumOf, 2, (some .int), 2)
set_option maxRecDepth 20000 in
theorem hY94 : ts_mL[94]? = some Y94 := rfl
/-- TransitSeals$Ledger.levelOf(I)I -/
abbrev Y95 : ts_Y := (yX2_levelOf, cX2_levelOf, 2, (some .int), 2)
set_option maxRecDepth 20000 in
theorem hY95 : ts_mL[95]? = some Y95 := rfl
/-- TransitSeals$Ledger.freeOf(I)I -/
abbrev Y96 : ts_Y := (yX2_freeOf, cX2_freeOf, 2, (some .int), 2)
set_option maxRecDepth 20000 in
theorem hY96 : ts_mL[96]? = some Y96 := rfl
/-- TransitSeals$Ledger.openOf(I)I -/
abbrev Y97 : ts_Y := (yX2_openOf, cX2_openOf, 7, (some .int), 2)
set_option maxRecDepth 20000 in
theorem hY97 : ts_mL[97]? = some Y97 := rfl
/-- TransitSeals.owes(I)I -/
abbrev Y98 : ts_Y := (yX11_owes, cX11_owes, 2, (some .int), 11)
set_option maxRecDepth 20000 in
theorem hY98 : ts_mL[98]? = some Y98 := rfl
/-- TransitSeals$Ledger.debtsOf(II)I -/
abbrev Y99 : ts_Y := (yX2_debtsOf, cX2_debtsOf, 8, (some .int), 2)
set_option maxRecDepth 20000 in
theorem hY99 : ts_mL[99]? = some Y99 := rfl
/-- TransitSeals.starts(III)I -/
abbrev Y100 : ts_Y := (yX11_starts, cX11_starts, 7, (some .int), 11)
set_option maxRecDepth 20000 in
theorem hY100 : ts_mL[100]? = some Y100 := rfl
/-- TransitSeals$Route.readFrom(LTransitSeals$Reader;LTransitSeals$Net;)V -/
abbrev Y101 : ts_Y := (yX7_readFrom, cX7_readFrom, 7, none, 7)
set_option maxRecDepth 20000 in
theorem hY101 : ts_mL[101]? = some Y101 := rfl
/-- TransitSeals$Route.officeAt(I)I -/
abbrev Y102 : ts_Y := (yX7_officeAt, cX7_officeAt, 2, (some .int), 7)
set_option maxRecDepth 20000 in
theorem hY102 : ts_mL[102]? = some Y102 := rfl
/-- TransitSeals$Net.hasGoods(I)Z -/
abbrev Y103 : ts_Y := (yX5_hasGoods, cX5_hasGoods, 2, (some .boolean), 5)
set_option maxRecDepth 20000 in
theorem hY103 : ts_mL[103]? = some Y103 := rfl
/-- TransitSeals$Ledger.nextToStart()LTransitSeals$Movement; -/
abbrev Y104 : ts_Y := (yX2_nextToStart, cX2_nextToStart, 1, (some (.object "TransitSeals$Movement")), 2)
set_option maxRecDepth 20000 in
theorem hY104 : ts_mL[104]? = some Y104 := rfl
/-- TransitSeals$Ledger.movementAt(I)LTransitSeals$Movement; -/
abbrev Y105 : ts_Y := (yX2_movementAt, cX2_movementAt, 2, (some (.object "TransitSeals$Movement")), 2)
set_option maxRecDepth 20000 in
theorem hY105 : ts_mL[105]? = some Y105 := rfl
/-- TransitSeals.share(II)I -/
abbrev Y106 : ts_Y := (yX11_share, cX11_share, 3, (some .int), 11)
set_option maxRecDepth 20000 in
theorem hY106 : ts_mL[106]? = some Y106 := rfl
/-- TransitSeals.partsOf(I)I -/
abbrev Y107 : ts_Y := (yX11_partsOf, cX11_partsOf, 1, (some .int), 11)
set_option maxRecDepth 20000 in
theorem hY107 : ts_mL[107]? = some Y107 := rfl
/-- TransitSeals$Movement.load(IIIII)V -/
abbrev Y108 : ts_Y := (yX4_load, cX4_load, 6, none, 4)
set_option maxRecDepth 20000 in
theorem hY108 : ts_mL[108]? = some Y108 := rfl
/-- TransitSeals$Movement.start(LTransitSeals$Route;I)V -/
abbrev Y109 : ts_Y := (yX4_start, cX4_start, 4, none, 4)
set_option maxRecDepth 20000 in
theorem hY109 : ts_mL[109]? = some Y109 := rfl
/-- TransitSeals$Route.termFrom(I)I -/
abbrev Y110 : ts_Y := (yX7_termFrom, cX7_termFrom, 2, (some .int), 7)
set_option maxRecDepth 20000 in
theorem hY110 : ts_mL[110]? = some Y110 := rfl
/-- TransitSeals$Ledger.write(ILTransitSeals$Movement;)V -/
abbrev Y111 : ts_Y := (yX2_write, cX2_write, 3, none, 2)
set_option maxRecDepth 20000 in
theorem hY111 : ts_mL[111]? = some Y111 := rfl
/-- TransitSeals$Book.add(III)V -/
abbrev Y112 : ts_Y := (yX0_add, cX0_add, 5, none, 0)
set_option maxRecDepth 20000 in
theorem hY112 : ts_mL[112]? = some Y112 := rfl
/-- TransitSeals.stamps(II)I -/
abbrev Y113 : ts_Y := (yX11_stamps, cX11_stamps, 4, (some .int), 11)
set_option maxRecDepth 20000 in
theorem hY113 : ts_mL[113]? = some Y113 := rfl
/-- TransitSeals$Ledger.find(I)LTransitSeals$Movement; -/
abbrev Y114 : ts_Y := (yX2_find, cX2_find, 2, (some (.object "TransitSeals$Movement")), 2)
set_option maxRecDepth 20000 in
theorem hY114 : ts_mL[114]? = some Y114 := rfl
/-- TransitSeals$Movement.comesTo()I -/
abbrev Y115 : ts_Y := (yX4_comesTo, cX4_comesTo, 1, (some .int), 4)
set_option maxRecDepth 20000 in
theorem hY115 : ts_mL[115]? = some Y115 := rfl
/-- TransitSeals$Movement.stamp(I)V -/
abbrev Y116 : ts_Y := (yX4_stamp, cX4_stamp, 2, none, 4)
set_option maxRecDepth 20000 in
theorem hY116 : ts_mL[116]? = some Y116 := rfl
/-- TransitSeals.breaks(I)I -/
abbrev Y117 : ts_Y := (yX11_breaks, cX11_breaks, 3, (some .int), 11)
set_option maxRecDepth 20000 in
theorem hY117 : ts_mL[117]? = some Y117 := rfl
/-- TransitSeals$Ledger.brokenSeals()I -/
abbrev Y118 : ts_Y := (yX2_brokenSeals, cX2_brokenSeals, 6, (some .int), 2)
set_option maxRecDepth 20000 in
theorem hY118 : ts_mL[118]? = some Y118 := rfl
/-- TransitSeals.controls(II)I -/
abbrev Y119 : ts_Y := (yX11_controls, cX11_controls, 5, (some .int), 11)
set_option maxRecDepth 20000 in
theorem hY119 : ts_mL[119]? = some Y119 := rfl
/-- TransitSeals$Movement.owe(I)V -/
abbrev Y120 : ts_Y := (yX4_owe, cX4_owe, 2, none, 4)
set_option maxRecDepth 20000 in
theorem hY120 : ts_mL[120]? = some Y120 := rfl
/-- TransitSeals.proves(I)I -/
abbrev Y121 : ts_Y := (yX11_proves, cX11_proves, 4, (some .int), 11)
set_option maxRecDepth 20000 in
theorem hY121 : ts_mL[121]? = some Y121 := rfl
/-- TransitSeals$Movement.step(I)I -/
abbrev Y122 : ts_Y := (yX4_step, cX4_step, 2, (some .int), 4)
set_option maxRecDepth 20000 in
theorem hY122 : ts_mL[122]? = some Y122 := rfl
/-- TransitSeals.pays(I)I -/
abbrev Y123 : ts_Y := (yX11_pays, cX11_pays, 3, (some .int), 11)
set_option maxRecDepth 20000 in
theorem hY123 : ts_mL[123]? = some Y123 := rfl
/-- TransitSeals.hours(I)I -/
abbrev Y124 : ts_Y := (yX11_hours, cX11_hours, 2, (some .int), 11)
set_option maxRecDepth 20000 in
theorem hY124 : ts_mL[124]? = some Y124 := rfl
/-- TransitSeals$Ledger.letPass(I)I -/
abbrev Y125 : ts_Y := (yX2_letPass, cX2_letPass, 6, (some .int), 2)
set_option maxRecDepth 20000 in
theorem hY125 : ts_mL[125]? = some Y125 := rfl
/-- TransitSeals$Ledger.firstToChange(I)LTransitSeals$Movement; -/
abbrev Y126 : ts_Y := (yX2_firstToChange, cX2_firstToChange, 7, (some (.object "TransitSeals$Movement")), 2)
set_option maxRecDepth 20000 in
theorem hY126 : ts_mL[126]? = some Y126 := rfl
/-- TransitSeals$Movement.changesAt()I -/
abbrev Y127 : ts_Y := (yX4_changesAt, cX4_changesAt, 1, (some .int), 4)
set_option maxRecDepth 20000 in
theorem hY127 : ts_mL[127]? = some Y127 := rfl
/-- TransitSeals$Ledger.change(LTransitSeals$Movement;)V -/
abbrev Y128 : ts_Y := (yX2_change, cX2_change, 3, none, 2)
set_option maxRecDepth 20000 in
theorem hY128 : ts_mL[128]? = some Y128 := rfl
/-- TransitSeals.movement(II)I -/
abbrev Y129 : ts_Y := (yX11_movement, cX11_movement, 4, (some .int), 11)
set_option maxRecDepth 20000 in
theorem hY129 : ts_mL[129]? = some Y129 := rfl
/-- TransitSeals.stop(II)I -/
abbrev Y130 : ts_Y := (yX11_stop, cX11_stop, 4, (some .int), 11)
set_option maxRecDepth 20000 in
theorem hY130 : ts_mL[130]? = some Y130 := rfl
/-- TransitSeals$Movement.stampedAt(I)I -/
abbrev Y131 : ts_Y := (yX4_stampedAt, cX4_stampedAt, 2, (some .int), 4)
set_option maxRecDepth 20000 in
theorem hY131 : ts_mL[131]? = some Y131 := rfl
/-- TransitSeals.left(I)I -/
abbrev Y132 : ts_Y := (yX11_left, cX11_left, 3, (some .int), 11)
set_option maxRecDepth 20000 in
theorem hY132 : ts_mL[132]? = some Y132 := rfl
/-- TransitSeals.hoursToGo(LTransitSeals$Movement;)I -/
abbrev Y133 : ts_Y := (yX11_hoursToGo, cX11_hoursToGo, 4, (some .int), 11)
set_option maxRecDepth 20000 in
theorem hY133 : ts_mL[133]? = some Y133 := rfl
/-- TransitSeals.borders(I)I -/
abbrev Y134 : ts_Y := (yX11_borders, cX11_borders, 7, (some .int), 11)
set_option maxRecDepth 20000 in
theorem hY134 : ts_mL[134]? = some Y134 := rfl
/-- TransitSeals.asked(I)I -/
abbrev Y135 : ts_Y := (yX11_asked, cX11_asked, 4, (some .int), 11)
set_option maxRecDepth 20000 in
theorem hY135 : ts_mL[135]? = some Y135 := rfl
/-- TransitSeals$Movement.officesFrom(I)I -/
abbrev Y136 : ts_Y := (yX4_officesFrom, cX4_officesFrom, 4, (some .int), 4)
set_option maxRecDepth 20000 in
theorem hY136 : ts_mL[136]? = some Y136 := rfl
/-- TransitSeals.states(I)I -/
abbrev Y137 : ts_Y := (yX11_states, cX11_states, 8, (some .int), 11)
set_option maxRecDepth 20000 in
theorem hY137 : ts_mL[137]? = some Y137 := rfl
/-- TransitSeals.owed(I)I -/
abbrev Y138 : ts_Y := (yX11_owed, cX11_owed, 9, (some .int), 11)
set_option maxRecDepth 20000 in
theorem hY138 : ts_mL[138]? = some Y138 := rfl
/-- TransitSeals$Movement.isIndebted()Z -/
abbrev Y139 : ts_Y := (yX4_isIndebted, cX4_isIndebted, 1, (some .boolean), 4)
set_option maxRecDepth 20000 in
theorem hY139 : ts_mL[139]? = some Y139 := rfl
/-- TransitSeals.late()I -/
abbrev Y140 : ts_Y := (yX11_late, cX11_late, 6, (some .int), 11)
set_option maxRecDepth 20000 in
theorem hY140 : ts_mL[140]? = some Y140 := rfl
/-- TransitSeals.isLate(LTransitSeals$Movement;)Z -/
abbrev Y141 : ts_Y := (yX11_isLate, cX11_isLate, 2, (some .boolean), 11)
set_option maxRecDepth 20000 in
theorem hY141 : ts_mL[141]? = some Y141 := rfl
/-- TransitSeals.hourOfArrival(LTransitSeals$Movement;)I -/
abbrev Y142 : ts_Y := (yX11_hourOfArrival, cX11_hourOfArrival, 2, (some .int), 11)
set_option maxRecDepth 20000 in
theorem hY142 : ts_mL[142]? = some Y142 := rfl
/-- TransitSeals.next(I)I -/
abbrev Y143 : ts_Y := (yX11_next, cX11_next, 8, (some .int), 11)
set_option maxRecDepth 20000 in
theorem hY143 : ts_mL[143]? = some Y143 := rfl
/-- TransitSeals.worth(I)I -/
abbrev Y144 : ts_Y := (yX11_worth, cX11_worth, 8, (some .int), 11)
set_option maxRecDepth 20000 in
theorem hY144 : ts_mL[144]? = some Y144 := rfl
/-- TransitSeals.busiest()I -/
abbrev Y145 : ts_Y := (yX11_busiest, cX11_busiest, 5, (some .int), 11)
set_option maxRecDepth 20000 in
theorem hY145 : ts_mL[145]? = some Y145 := rfl
/-- TransitSeals$Ledger.stillToCome(I)I -/
abbrev Y146 : ts_Y := (yX2_stillToCome, cX2_stillToCome, 7, (some .int), 2)
set_option maxRecDepth 20000 in
theorem hY146 : ts_mL[146]? = some Y146 := rfl
/-- TransitSeals.can(II)I -/
abbrev Y147 : ts_Y := (yX11_can, cX11_can, 6, (some .int), 11)
set_option maxRecDepth 20000 in
theorem hY147 : ts_mL[147]? = some Y147 := rfl
/-- TransitSeals.frees(II)I -/
abbrev Y148 : ts_Y := (yX11_frees, cX11_frees, 6, (some .int), 11)
set_option maxRecDepth 20000 in
theorem hY148 : ts_mL[148]? = some Y148 := rfl
/-- TransitSeals.fewestFreeing(II)I -/
abbrev Y149 : ts_Y := (yX11_fewestFreeing, cX11_fewestFreeing, 4, (some .int), 11)
set_option maxRecDepth 20000 in
theorem hY149 : ts_mL[149]? = some Y149 := rfl
/-- TransitSeals$Ledger.greatestShares(II)I -/
abbrev Y150 : ts_Y := (yX2_greatestShares, cX2_greatestShares, 11, (some .int), 2)
set_option maxRecDepth 20000 in
theorem hY150 : ts_mL[150]? = some Y150 := rfl
/-- TransitSeals.leastBitsFreeing(III)I -/
abbrev Y151 : ts_Y := (yX11_leastBitsFreeing, cX11_leastBitsFreeing, 10, (some .int), 11)
set_option maxRecDepth 20000 in
theorem hY151 : ts_mL[151]? = some Y151 := rfl
/-- TransitSeals.when(II)I -/
abbrev Y152 : ts_Y := (yX11_when, cX11_when, 10, (some .int), 11)
set_option maxRecDepth 20000 in
theorem hY152 : ts_mL[152]? = some Y152 := rfl
/-- TransitSeals.closingHour(LTransitSeals$Movement;)I -/
abbrev Y153 : ts_Y := (yX11_closingHour, cX11_closingHour, 3, (some .int), 11)
set_option maxRecDepth 20000 in
theorem hY153 : ts_mL[153]? = some Y153 := rfl
/-- TransitSeals.freedUntil(II)I -/
abbrev Y154 : ts_Y := (yX11_freedUntil, cX11_freedUntil, 8, (some .int), 11)
set_option maxRecDepth 20000 in
theorem hY154 : ts_mL[154]? = some Y154 := rfl
/-- TransitSeals.fits(I)I -/
abbrev Y155 : ts_Y := (yX11_fits, cX11_fits, 2, (some .int), 11)
set_option maxRecDepth 20000 in
theorem hY155 : ts_mL[155]? = some Y155 := rfl
/-- TransitSeals$Loads.readFrom(LTransitSeals$Reader;LTransitSeals$Net;)V -/
abbrev Y156 : ts_Y := (yX3_readFrom, cX3_readFrom, 4, none, 3)
set_option maxRecDepth 20000 in
theorem hY156 : ts_mL[156]? = some Y156 := rfl
/-- TransitSeals$Loads.choose(LTransitSeals$Net;II)V -/
abbrev Y157 : ts_Y := (yX3_choose, cX3_choose, 7, none, 3)
set_option maxRecDepth 20000 in
theorem hY157 : ts_mL[157]? = some Y157 := rfl
/-- TransitSeals$Loads.together([II)I -/
abbrev Y158 : ts_Y := (yX3_together, cX3_together, 5, (some .int), 3)
set_option maxRecDepth 20000 in
theorem hY158 : ts_mL[158]? = some Y158 := rfl
/-- TransitSeals$Loads.isBetter(II)Z -/
abbrev Y159 : ts_Y := (yX3_isBetter, cX3_isBetter, 3, (some .boolean), 3)
set_option maxRecDepth 20000 in
theorem hY159 : ts_mL[159]? = some Y159 := rfl
/-- TransitSeals.detour()I -/
abbrev Y160 : ts_Y := (yX11_detour, cX11_detour, 1, (some .int), 11)
set_option maxRecDepth 20000 in
theorem hY160 : ts_mL[160]? = some Y160 := rfl
/-- TransitSeals.risk(I)I -/
abbrev Y161 : ts_Y := (yX11_risk, cX11_risk, 3, (some .int), 11)
set_option maxRecDepth 20000 in
theorem hY161 : ts_mL[161]? = some Y161 := rfl
/-- TransitSeals.tightest()I -/
abbrev Y162 : ts_Y := (yX11_tightest, cX11_tightest, 6, (some .int), 11)
set_option maxRecDepth 20000 in
theorem hY162 : ts_mL[162]? = some Y162 := rfl
/-- TransitSeals.book(II)I -/
abbrev Y163 : ts_Y := (yX11_book, cX11_book, 3, (some .int), 11)
set_option maxRecDepth 20000 in
theorem hY163 : ts_mL[163]? = some Y163 := rfl
/-- TransitSeals$Book.read(II)I -/
abbrev Y164 : ts_Y := (yX0_read, cX0_read, 4, (some .int), 0)
set_option maxRecDepth 20000 in
theorem hY164 : ts_mL[164]? = some Y164 := rfl
/-- TransitSeals$Book.size()I -/
abbrev Y165 : ts_Y := (yX0_size, cX0_size, 1, (some .int), 0)
set_option maxRecDepth 20000 in
theorem hY165 : ts_mL[165]? = some Y165 := rfl
/-- TransitSeals.written(I)I -/
abbrev Y166 : ts_Y := (yX11_written, cX11_written, 2, (some .int), 11)
set_option maxRecDepth 20000 in
theorem hY166 : ts_mL[166]? = some Y166 := rfl
/-- TransitSeals.undo()I -/
abbrev Y167 : ts_Y := (yX11_undo, cX11_undo, 1, (some .int), 11)
set_option maxRecDepth 20000 in
theorem hY167 : ts_mL[167]? = some Y167 := rfl
/-- TransitSeals$History.takeBack(LTransitSeals$Ledger;)Z -/
abbrev Y168 : ts_Y := (yX1_takeBack, cX1_takeBack, 3, (some .boolean), 1)
set_option maxRecDepth 20000 in
theorem hY168 : ts_mL[168]? = some Y168 := rfl
/-- TransitSeals.keeps()I -/
abbrev Y169 : ts_Y := (yX11_keeps, cX11_keeps, 1, (some .int), 11)
set_option maxRecDepth 20000 in
theorem hY169 : ts_mL[169]? = some Y169 := rfl
/-- TransitSeals$History.keep(LTransitSeals$Ledger;)V -/
abbrev Y170 : ts_Y := (yX1_keep, cX1_keep, 2, none, 1)
set_option maxRecDepth 20000 in
theorem hY170 : ts_mL[170]? = some Y170 := rfl
/-- TransitSeals.back()I -/
abbrev Y171 : ts_Y := (yX11_back, cX11_back, 1, (some .int), 11)
set_option maxRecDepth 20000 in
theorem hY171 : ts_mL[171]? = some Y171 := rfl
/-- TransitSeals$History.bringBack(LTransitSeals$Ledger;)Z -/
abbrev Y172 : ts_Y := (yX1_bringBack, cX1_bringBack, 2, (some .boolean), 1)
set_option maxRecDepth 20000 in
theorem hY172 : ts_mL[172]? = some Y172 := rfl
/-- TransitSeals.count(I)I -/
abbrev Y173 : ts_Y := (yX11_count, cX11_count, 2, (some .int), 11)
set_option maxRecDepth 20000 in
theorem hY173 : ts_mL[173]? = some Y173 := rfl
/-- TransitSeals$Row.size()I -/
abbrev Y174 : ts_Y := (yX8_size, cX8_size, 1, (some .int), 8)
set_option maxRecDepth 20000 in
theorem hY174 : ts_mL[174]? = some Y174 := rfl
/-- TransitSeals$Row.numberAt(I)I -/
abbrev Y176 : ts_Y := (yX8_numberAt, cX8_numberAt, 2, (some .int), 8)
set_option maxRecDepth 20000 in
theorem hY176 : ts_mL[176]? = some Y176 := rfl
/-- TransitSealsModel.thrown()I -/
abbrev Y178 : ts_Y := (yX12_thrown, cX12_thrown, 1, (some .int), 12)
set_option maxRecDepth 20000 in
theorem hY178 : ts_mL[178]? = some Y178 := rfl
/-- TransitSealsModel.sign(I)I -/
abbrev Y179 : ts_Y := (yX12_sign, cX12_sign, 3, (some .int), 12)
set_option maxRecDepth 20000 in
theorem hY179 : ts_mL[179]? = some Y179 := rfl
/-- TransitSealsModel.end(I)Z -/
abbrev Y180 : ts_Y := (yX12_end, cX12_end, 2, (some .boolean), 12)
set_option maxRecDepth 20000 in
theorem hY180 : ts_mL[180]? = some Y180 := rfl
/-- TransitSealsModel.in(JJJ)Z -/
abbrev Y181 : ts_Y := (yX12_in, cX12_in, 6, (some .boolean), 12)
set_option maxRecDepth 20000 in
theorem hY181 : ts_mL[181]? = some Y181 := rfl
/-- TransitSealsModel.net()I -/
abbrev Y182 : ts_Y := (yX12_net, cX12_net, 2, (some .int), 12)
set_option maxRecDepth 20000 in
theorem hY182 : ts_mL[182]? = some Y182 := rfl
/-- TransitSealsModel.begin()V -/
abbrev Y183 : ts_Y := (yX12_begin, cX12_begin, 1, none, 12)
set_option maxRecDepth 20000 in
theorem hY183 : ts_mL[183]? = some Y183 := rfl
/-- TransitSealsModel.readsNet()V -/
abbrev Y184 : ts_Y := (yX12_readsNet, cX12_readsNet, 3, none, 12)
set_option maxRecDepth 20000 in
theorem hY184 : ts_mL[184]? = some Y184 := rfl
/-- TransitSealsModel.readsOffices()V -/
abbrev Y185 : ts_Y := (yX12_readsOffices, cX12_readsOffices, 2, none, 12)
set_option maxRecDepth 20000 in
theorem hY185 : ts_mL[185]? = some Y185 := rfl
/-- TransitSealsModel.sees()I -/
abbrev Y186 : ts_Y := (yX12_sees, cX12_sees, 1, (some .int), 12)
set_option maxRecDepth 20000 in
theorem hY186 : ts_mL[186]? = some Y186 := rfl
/-- TransitSealsModel.fault(I)V -/
abbrev Y187 : ts_Y := (yX12_fault, cX12_fault, 2, none, 12)
set_option maxRecDepth 20000 in
theorem hY187 : ts_mL[187]? = some Y187 := rfl
/-- TransitSealsModel.number(III)I -/
abbrev Y188 : ts_Y := (yX12_number, cX12_number, 6, (some .int), 12)
set_option maxRecDepth 20000 in
theorem hY188 : ts_mL[188]? = some Y188 := rfl
/-- TransitSealsModel.expect(C)V -/
abbrev Y189 : ts_Y := (yX12_expect, cX12_expect, 2, none, 12)
set_option maxRecDepth 20000 in
theorem hY189 : ts_mL[189]? = some Y189 := rfl
/-- TransitSealsModel.readsRoad()V -/
abbrev Y190 : ts_Y := (yX12_readsRoad, cX12_readsRoad, 4, none, 12)
set_option maxRecDepth 20000 in
theorem hY190 : ts_mL[190]? = some Y190 := rfl
/-- TransitSealsModel.officeNumber(I)I -/
abbrev Y191 : ts_Y := (yX12_officeNumber, cX12_officeNumber, 2, (some .int), 12)
set_option maxRecDepth 20000 in
theorem hY191 : ts_mL[191]? = some Y191 := rfl
/-- TransitSealsModel.road(II)I -/
abbrev Y192 : ts_Y := (yX12_road, cX12_road, 3, (some .int), 12)
set_option maxRecDepth 20000 in
theorem hY192 : ts_mL[192]? = some Y192 := rfl
/-- TransitSealsModel.isOffice(I)Z -/
abbrev Y193 : ts_Y := (yX12_isOffice, cX12_isOffice, 2, (some .boolean), 12)
set_option maxRecDepth 20000 in
theorem hY193 : ts_mL[193]? = some Y193 := rfl
/-- TransitSealsModel.hoursOf(II)I -/
abbrev Y194 : ts_Y := (yX12_hoursOf, cX12_hoursOf, 3, (some .int), 12)
set_option maxRecDepth 20000 in
theorem hY194 : ts_mL[194]? = some Y194 := rfl
/-- TransitSealsModel.office(II)I -/
abbrev Y195 : ts_Y := (yX12_office, cX12_office, 6, (some .int), 12)
set_option maxRecDepth 20000 in
theorem hY195 : ts_mL[195]? = some Y195 := rfl
/-- TransitSealsModel.goes(I)Z -/
abbrev Y196 : ts_Y := (yX12_goes, cX12_goes, 2, (some .boolean), 12)
set_option maxRecDepth 20000 in
theorem hY196 : ts_mL[196]? = some Y196 := rfl
/-- TransitSealsModel.state(I)I -/
abbrev Y197 : ts_Y := (yX12_state, cX12_state, 2, (some .int), 12)
set_option maxRecDepth 20000 in
theorem hY197 : ts_mL[197]? = some Y197 := rfl
/-- TransitSealsModel.of(II)I -/
abbrev Y198 : ts_Y := (yX12_of, cX12_of, 3, (some .int), 12)
set_option maxRecDepth 20000 in
theorem hY198 : ts_mL[198]? = some Y198 := rfl
/-- TransitSealsModel.seenAt(I)I -/
abbrev Y199 : ts_Y := (yX12_seenAt, cX12_seenAt, 2, (some .int), 12)
set_option maxRecDepth 20000 in
theorem hY199 : ts_mL[199]? = some Y199 := rfl
/-- TransitSealsModel.way(II)I -/
abbrev Y200 : ts_Y := (yX12_way, cX12_way, 5, (some .int), 12)
set_option maxRecDepth 20000 in
theorem hY200 : ts_mL[200]? = some Y200 := rfl
/-- TransitSealsModel.goesTo(I)V -/
abbrev Y201 : ts_Y := (yX12_goesTo, cX12_goesTo, 5, none, 12)
set_option maxRecDepth 20000 in
theorem hY201 : ts_mL[201]? = some Y201 := rfl
/-- TransitSealsModel.tell(J)V -/
abbrev Y202 : ts_Y := (yX12_tell, cX12_tell, 3, none, 12)
set_option maxRecDepth 20000 in
theorem hY202 : ts_mL[202]? = some Y202 := rfl
/-- TransitSealsModel.routes(II)I -/
abbrev Y203 : ts_Y := (yX12_routes, cX12_routes, 3, (some .int), 12)
set_option maxRecDepth 20000 in
theorem hY203 : ts_mL[203]? = some Y203 := rfl
/-- TransitSealsModel.findsRoutes(II)Z -/
abbrev Y204 : ts_Y := (yX12_findsRoutes, cX12_findsRoutes, 3, (some .boolean), 12)
set_option maxRecDepth 20000 in
theorem hY204 : ts_mL[204]? = some Y204 := rfl
/-- TransitSealsModel.walks(IIII)V -/
abbrev Y205 : ts_Y := (yX12_walks, cX12_walks, 6, none, 12)
set_option maxRecDepth 20000 in
theorem hY205 : ts_mL[205]? = some Y205 := rfl
/-- TransitSealsModel.ones(I)I -/
abbrev Y206 : ts_Y := (yX12_ones, cX12_ones, 3, (some .int), 12)
set_option maxRecDepth 20000 in
theorem hY206 : ts_mL[206]? = some Y206 := rfl
/-- TransitSealsModel.has(II)Z -/
abbrev Y207 : ts_Y := (yX12_has, cX12_has, 2, (some .boolean), 12)
set_option maxRecDepth 20000 in
theorem hY207 : ts_mL[207]? = some Y207 := rfl
/-- TransitSealsModel.gates(II)I -/
abbrev Y208 : ts_Y := (yX12_gates, cX12_gates, 4, (some .int), 12)
set_option maxRecDepth 20000 in
theorem hY208 : ts_mL[208]? = some Y208 := rfl
/-- TransitSealsModel.trader(II)I -/
abbrev Y209 : ts_Y := (yX12_trader, cX12_trader, 3, (some .int), 12)
set_option maxRecDepth 20000 in
theorem hY209 : ts_mL[209]? = some Y209 := rfl
/-- TransitSealsModel.isSum(II)Z -/
abbrev Y210 : ts_Y := (yX12_isSum, cX12_isSum, 2, (some .boolean), 12)
set_option maxRecDepth 20000 in
theorem hY210 : ts_mL[210]? = some Y210 := rfl
/-- TransitSealsModel.does()V -/
abbrev Y211 : ts_Y := (yX12_does, cX12_does, 2, none, 12)
set_option maxRecDepth 20000 in
theorem hY211 : ts_mL[211]? = some Y211 := rfl
/-- TransitSealsModel.sums(III)I -/
abbrev Y212 : ts_Y := (yX12_sums, cX12_sums, 4, (some .int), 12)
set_option maxRecDepth 20000 in
theorem hY212 : ts_mL[212]? = some Y212 := rfl
/-- TransitSealsModel.isTrader(I)Z -/
abbrev Y213 : ts_Y := (yX12_isTrader, cX12_isTrader, 2, (some .boolean), 12)
set_option maxRecDepth 20000 in
theorem hY213 : ts_mL[213]? = some Y213 := rfl
/-- TransitSealsModel.used(I)I -/
abbrev Y214 : ts_Y := (yX12_used, cX12_used, 4, (some .int), 12)
set_option maxRecDepth 20000 in
theorem hY214 : ts_mL[214]? = some Y214 := rfl
/-- TransitSealsModel.isOpen(I)Z -/
abbrev Y215 : ts_Y := (yX12_isOpen, cX12_isOpen, 2, (some .boolean), 12)
set_option maxRecDepth 20000 in
theorem hY215 : ts_mL[215]? = some Y215 := rfl
/-- TransitSealsModel.inUse(I)I -/
abbrev Y216 : ts_Y := (yX12_inUse, cX12_inUse, 2, (some .int), 12)
set_option maxRecDepth 20000 in
theorem hY216 : ts_mL[216]? = some Y216 := rfl
/-- TransitSealsModel.sumOf(I)I -/
abbrev Y217 : ts_Y := (yX12_sumOf, cX12_sumOf, 2, (some .int), 12)
set_option maxRecDepth 20000 in
theorem hY217 : ts_mL[217]? = some Y217 := rfl
/-- TransitSealsModel.levelOf(I)I -/
abbrev Y218 : ts_Y := (yX12_levelOf, cX12_levelOf, 2, (some .int), 12)
set_option maxRecDepth 20000 in
theorem hY218 : ts_mL[218]? = some Y218 := rfl
/-- TransitSealsModel.free(I)I -/
abbrev Y219 : ts_Y := (yX12_free, cX12_free, 2, (some .int), 12)
set_option maxRecDepth 20000 in
theorem hY219 : ts_mL[219]? = some Y219 := rfl
/-- TransitSealsModel.openSet(I)I -/
abbrev Y220 : ts_Y := (yX12_openSet, cX12_openSet, 4, (some .int), 12)
set_option maxRecDepth 20000 in
theorem hY220 : ts_mL[220]? = some Y220 := rfl
/-- TransitSealsModel.owes(I)I -/
abbrev Y221 : ts_Y := (yX12_owes, cX12_owes, 2, (some .int), 12)
set_option maxRecDepth 20000 in
theorem hY221 : ts_mL[221]? = some Y221 := rfl
/-- TransitSealsModel.debts(II)I -/
abbrev Y222 : ts_Y := (yX12_debts, cX12_debts, 5, (some .int), 12)
set_option maxRecDepth 20000 in
theorem hY222 : ts_mL[222]? = some Y222 := rfl
/-- TransitSealsModel.starts(III)I -/
abbrev Y223 : ts_Y := (yX12_starts, cX12_starts, 7, (some .int), 12)
set_option maxRecDepth 20000 in
theorem hY223 : ts_mL[223]? = some Y223 := rfl
/-- TransitSealsModel.readsRoute()V -/
abbrev Y224 : ts_Y := (yX12_readsRoute, cX12_readsRoute, 4, none, 12)
set_option maxRecDepth 20000 in
theorem hY224 : ts_mL[224]? = some Y224 := rfl
/-- TransitSealsModel.isOnRoute(I)Z -/
abbrev Y225 : ts_Y := (yX12_isOnRoute, cX12_isOnRoute, 3, (some .boolean), 12)
set_option maxRecDepth 20000 in
theorem hY225 : ts_mL[225]? = some Y225 := rfl
/-- TransitSealsModel.isGoods(I)Z -/
abbrev Y226 : ts_Y := (yX12_isGoods, cX12_isGoods, 2, (some .boolean), 12)
set_option maxRecDepth 20000 in
theorem hY226 : ts_mL[226]? = some Y226 := rfl
/-- TransitSealsModel.shareBy(II)I -/
abbrev Y227 : ts_Y := (yX12_shareBy, cX12_shareBy, 2, (some .int), 12)
set_option maxRecDepth 20000 in
theorem hY227 : ts_mL[227]? = some Y227 := rfl
/-- TransitSealsModel.sets(III)V -/
abbrev Y228 : ts_Y := (yX12_sets, cX12_sets, 4, none, 12)
set_option maxRecDepth 20000 in
theorem hY228 : ts_mL[228]? = some Y228 := rfl
/-- TransitSealsModel.notes(III)V -/
abbrev Y229 : ts_Y := (yX12_notes, cX12_notes, 5, none, 12)
set_option maxRecDepth 20000 in
theorem hY229 : ts_mL[229]? = some Y229 := rfl
/-- TransitSealsModel.stamps(II)I -/
abbrev Y230 : ts_Y := (yX12_stamps, cX12_stamps, 5, (some .int), 12)
set_option maxRecDepth 20000 in
theorem hY230 : ts_mL[230]? = some Y230 := rfl
/-- TransitSealsModel.isMove(I)Z -/
abbrev Y231 : ts_Y := (yX12_isMove, cX12_isMove, 2, (some .boolean), 12)
set_option maxRecDepth 20000 in
theorem hY231 : ts_mL[231]? = some Y231 := rfl
/-- TransitSealsModel.breaks(I)I -/
abbrev Y232 : ts_Y := (yX12_breaks, cX12_breaks, 2, (some .int), 12)
set_option maxRecDepth 20000 in
theorem hY232 : ts_mL[232]? = some Y232 := rfl
/-- TransitSealsModel.brokenSeals()I -/
abbrev Y233 : ts_Y := (yX12_brokenSeals, cX12_brokenSeals, 3, (some .int), 12)
set_option maxRecDepth 20000 in
theorem hY233 : ts_mL[233]? = some Y233 := rfl
/-- TransitSealsModel.controls(II)I -/
abbrev Y234 : ts_Y := (yX12_controls, cX12_controls, 4, (some .int), 12)
set_option maxRecDepth 20000 in
theorem hY234 : ts_mL[234]? = some Y234 := rfl
/-- TransitSealsModel.becomes(III)V -/
abbrev Y235 : ts_Y := (yX12_becomes, cX12_becomes, 4, none, 12)
set_option maxRecDepth 20000 in
theorem hY235 : ts_mL[235]? = some Y235 := rfl
/-- TransitSealsModel.proves(I)I -/
abbrev Y236 : ts_Y := (yX12_proves, cX12_proves, 2, (some .int), 12)
set_option maxRecDepth 20000 in
theorem hY236 : ts_mL[236]? = some Y236 := rfl
/-- TransitSealsModel.stepOf(I)I -/
abbrev Y237 : ts_Y := (yX12_stepOf, cX12_stepOf, 2, (some .int), 12)
set_option maxRecDepth 20000 in
theorem hY237 : ts_mL[237]? = some Y237 := rfl
/-- TransitSealsModel.pays(I)I -/
abbrev Y238 : ts_Y := (yX12_pays, cX12_pays, 2, (some .int), 12)
set_option maxRecDepth 20000 in
theorem hY238 : ts_mL[238]? = some Y238 := rfl
/-- TransitSealsModel.hours(I)I -/
abbrev Y239 : ts_Y := (yX12_hours, cX12_hours, 4, (some .int), 12)
set_option maxRecDepth 20000 in
theorem hY239 : ts_mL[239]? = some Y239 := rfl
/-- TransitSealsModel.turns(I)I -/
abbrev Y240 : ts_Y := (yX12_turns, cX12_turns, 4, (some .int), 12)
set_option maxRecDepth 20000 in
theorem hY240 : ts_mL[240]? = some Y240 := rfl
/-- TransitSealsModel.dutyOf(I)I -/
abbrev Y241 : ts_Y := (yX12_dutyOf, cX12_dutyOf, 2, (some .int), 12)
set_option maxRecDepth 20000 in
theorem hY241 : ts_mL[241]? = some Y241 := rfl
/-- TransitSealsModel.movement(II)I -/
abbrev Y242 : ts_Y := (yX12_movement, cX12_movement, 3, (some .int), 12)
set_option maxRecDepth 20000 in
theorem hY242 : ts_mL[242]? = some Y242 := rfl
/-- TransitSealsModel.stop(II)I -/
abbrev Y243 : ts_Y := (yX12_stop, cX12_stop, 3, (some .int), 12)
set_option maxRecDepth 20000 in
theorem hY243 : ts_mL[243]? = some Y243 := rfl
/-- TransitSealsModel.left(I)I -/
abbrev Y244 : ts_Y := (yX12_left, cX12_left, 3, (some .int), 12)
set_option maxRecDepth 20000 in
theorem hY244 : ts_mL[244]? = some Y244 := rfl
/-- TransitSealsModel.leftOf(I)I -/
abbrev Y245 : ts_Y := (yX12_leftOf, cX12_leftOf, 4, (some .int), 12)
set_option maxRecDepth 20000 in
theorem hY245 : ts_mL[245]? = some Y245 := rfl
/-- TransitSealsModel.borders(I)I -/
abbrev Y246 : ts_Y := (yX12_borders, cX12_borders, 6, (some .int), 12)
set_option maxRecDepth 20000 in
theorem hY246 : ts_mL[246]? = some Y246 := rfl
/-- TransitSealsModel.asked(I)I -/
abbrev Y247 : ts_Y := (yX12_asked, cX12_asked, 5, (some .int), 12)
set_option maxRecDepth 20000 in
theorem hY247 : ts_mL[247]? = some Y247 := rfl
/-- TransitSealsModel.states(I)I -/
abbrev Y248 : ts_Y := (yX12_states, cX12_states, 5, (some .int), 12)
set_option maxRecDepth 20000 in
theorem hY248 : ts_mL[248]? = some Y248 := rfl
/-- TransitSealsModel.owed(I)I -/
abbrev Y249 : ts_Y := (yX12_owed, cX12_owed, 6, (some .int), 12)
set_option maxRecDepth 20000 in
theorem hY249 : ts_mL[249]? = some Y249 := rfl
/-- TransitSealsModel.late()I -/
abbrev Y250 : ts_Y := (yX12_late, cX12_late, 3, (some .int), 12)
set_option maxRecDepth 20000 in
theorem hY250 : ts_mL[250]? = some Y250 := rfl
/-- TransitSealsModel.isLate(I)Z -/
abbrev Y251 : ts_Y := (yX12_isLate, cX12_isLate, 2, (some .boolean), 12)
set_option maxRecDepth 20000 in
theorem hY251 : ts_mL[251]? = some Y251 := rfl
/-- TransitSealsModel.endOf(I)I -/
abbrev Y252 : ts_Y := (yX12_endOf, cX12_endOf, 2, (some .int), 12)
set_option maxRecDepth 20000 in
theorem hY252 : ts_mL[252]? = some Y252 := rfl
/-- TransitSealsModel.busiest()I -/
abbrev Y253 : ts_Y := (yX12_busiest, cX12_busiest, 7, (some .int), 12)
set_option maxRecDepth 20000 in
theorem hY253 : ts_mL[253]? = some Y253 := rfl
/-- TransitSealsModel.next(I)I -/
abbrev Y254 : ts_Y := (yX12_next, cX12_next, 5, (some .int), 12)
set_option maxRecDepth 20000 in
theorem hY254 : ts_mL[254]? = some Y254 := rfl
/-- TransitSealsModel.worth(I)I -/
abbrev Y255 : ts_Y := (yX12_worth, cX12_worth, 5, (some .int), 12)
set_option maxRecDepth 20000 in
theorem hY255 : ts_mL[255]? = some Y255 := rfl
/-- TransitSealsModel.can(II)I -/
abbrev Y256 : ts_Y := (yX12_can, cX12_can, 4, (some .int), 12)
set_option maxRecDepth 20000 in
theorem hY256 : ts_mL[256]? = some Y256 := rfl
/-- TransitSealsModel.frees(II)I -/
abbrev Y257 : ts_Y := (yX12_frees, cX12_frees, 9, (some .int), 12)
set_option maxRecDepth 20000 in
theorem hY257 : ts_mL[257]? = some Y257 := rfl
/-- TransitSealsModel.isShare(I)Z -/
abbrev Y258 : ts_Y := (yX12_isShare, cX12_isShare, 1, (some .boolean), 12)
set_option maxRecDepth 20000 in
theorem hY258 : ts_mL[258]? = some Y258 := rfl
/-- TransitSealsModel.most(II)I -/
abbrev Y259 : ts_Y := (yX12_most, cX12_most, 8, (some .int), 12)
set_option maxRecDepth 20000 in
theorem hY259 : ts_mL[259]? = some Y259 := rfl
/-- TransitSealsModel.when(II)I -/
abbrev Y260 : ts_Y := (yX12_when, cX12_when, 8, (some .int), 12)
set_option maxRecDepth 20000 in
theorem hY260 : ts_mL[260]? = some Y260 := rfl
/-- TransitSealsModel.fits(I)I -/
abbrev Y261 : ts_Y := (yX12_fits, cX12_fits, 9, (some .int), 12)
set_option maxRecDepth 20000 in
theorem hY261 : ts_mL[261]? = some Y261 := rfl
/-- TransitSealsModel.readsLoads()V -/
abbrev Y262 : ts_Y := (yX12_readsLoads, cX12_readsLoads, 2, none, 12)
set_option maxRecDepth 20000 in
theorem hY262 : ts_mL[262]? = some Y262 := rfl
/-- TransitSealsModel.detour()I -/
abbrev Y263 : ts_Y := (yX12_detour, cX12_detour, 1, (some .int), 12)
set_option maxRecDepth 20000 in
theorem hY263 : ts_mL[263]? = some Y263 := rfl
/-- TransitSealsModel.risk(I)I -/
abbrev Y264 : ts_Y := (yX12_risk, cX12_risk, 2, (some .int), 12)
set_option maxRecDepth 20000 in
theorem hY264 : ts_mL[264]? = some Y264 := rfl
/-- TransitSealsModel.tightest()I -/
abbrev Y265 : ts_Y := (yX12_tightest, cX12_tightest, 7, (some .int), 12)
set_option maxRecDepth 20000 in
theorem hY265 : ts_mL[265]? = some Y265 := rfl
/-- TransitSealsModel.book(II)I -/
abbrev Y266 : ts_Y := (yX12_book, cX12_book, 3, (some .int), 12)
set_option maxRecDepth 20000 in
theorem hY266 : ts_mL[266]? = some Y266 := rfl
/-- TransitSealsModel.written(I)I -/
abbrev Y267 : ts_Y := (yX12_written, cX12_written, 4, (some .int), 12)
set_option maxRecDepth 20000 in
theorem hY267 : ts_mL[267]? = some Y267 := rfl
/-- TransitSealsModel.writes(I)V -/
abbrev Y268 : ts_Y := (yX12_writes, cX12_writes, 2, none, 12)
set_option maxRecDepth 20000 in
theorem hY268 : ts_mL[268]? = some Y268 := rfl
/-- TransitSealsModel.writesNumber(I)V -/
abbrev Y269 : ts_Y := (yX12_writesNumber, cX12_writesNumber, 2, none, 12)
set_option maxRecDepth 20000 in
theorem hY269 : ts_mL[269]? = some Y269 := rfl
/-- TransitSealsModel.undo()I -/
abbrev Y270 : ts_Y := (yX12_undo, cX12_undo, 2, (some .int), 12)
set_option maxRecDepth 20000 in
theorem hY270 : ts_mL[270]? = some Y270 := rfl
/-- TransitSealsModel.keeps()I -/
abbrev Y271 : ts_Y := (yX12_keeps, cX12_keeps, 2, (some .int), 12)
set_option maxRecDepth 20000 in
theorem hY271 : ts_mL[271]? = some Y271 := rfl
/-- TransitSealsModel.back()I -/
abbrev Y272 : ts_Y := (yX12_back, cX12_back, 2, (some .int), 12)
set_option maxRecDepth 20000 in
theorem hY272 : ts_mL[272]? = some Y272 := rfl
/-- TransitSealsModel.count(I)I -/
abbrev Y273 : ts_Y := (yX12_count, cX12_count, 2, (some .int), 12)
set_option maxRecDepth 20000 in
theorem hY273 : ts_mL[273]? = some Y273 := rfl
/-- TransitSealsModel.row(I)J -/
abbrev Y274 : ts_Y := (yX12_row, cX12_row, 2, (some .long), 12)
set_option maxRecDepth 20000 in
theorem hY274 : ts_mL[274]? = some Y274 := rfl
/-- TransitSealsModel.lost()I -/
abbrev Y275 : ts_Y := (yX12_lost, cX12_lost, 1, (some .int), 12)
set_option maxRecDepth 20000 in
theorem hY275 : ts_mL[275]? = some Y275 := rfl
