/-! printed by wip/gen/dec.py: fields -/
abbrev fe0_7 : Nat × Nat × List Nat × String × Nat := (7, 0, [0, 1, 5], "PlatePeas$Fork", 1)
theorem fl0_7 : mFchk RX0 [fe0_7] = true := by decide +kernel
abbrev fe0_13 : Nat × Nat × List Nat × String × Nat := (13, 1, [0, 1, 5], "PlatePeas$Fork", 1)
theorem fl0_13 : mFchk RX0 [fe0_13] = true := by decide +kernel
abbrev fe1_7 : Nat × Nat × List Nat × String × Nat := (7, 1, [0, 1, 5], "PlatePeas$Knife", 2)
theorem fl1_7 : mFchk RX1 [fe1_7] = true := by decide +kernel
abbrev fe2_9 : Nat × Nat × List Nat × String × Nat := (9, 5, [2], "PlatePeas$Plate", 1)
theorem fl2_9 : mFchk RX2 [fe2_9] = true := by decide +kernel
abbrev fe2_15 : Nat × Nat × List Nat × String × Nat := (15, 6, [2], "PlatePeas$Plate", 1)
theorem fl2_15 : mFchk RX2 [fe2_15] = true := by decide +kernel
abbrev fe2_18 : Nat × Nat × List Nat × String × Nat := (18, 7, [2], "PlatePeas$Plate", 1)
theorem fl2_18 : mFchk RX2 [fe2_18] = true := by decide +kernel
abbrev fe2_23 : Nat × Nat × List Nat × String × Nat := (23, 8, [2], "PlatePeas$Plate", 1)
theorem fl2_23 : mFchk RX2 [fe2_23] = true := by decide +kernel
abbrev fe2_27 : Nat × Nat × List Nat × String × Nat := (27, 9, [2], "PlatePeas$Plate", 1)
theorem fl2_27 : mFchk RX2 [fe2_27] = true := by decide +kernel
abbrev fe2_30 : Nat × Nat × List Nat × String × Nat := (30, 10, [2], "PlatePeas$Plate", 1)
theorem fl2_30 : mFchk RX2 [fe2_30] = true := by decide +kernel
abbrev fe2_33 : Nat × Nat × List Nat × String × Nat := (33, 3, [2], "PlatePeas$Plate", 0)
theorem fl2_33 : mFchk RX2 [fe2_33] = true := by decide +kernel
abbrev fe2_37 : Nat × Nat × List Nat × String × Nat := (37, 11, [2], "PlatePeas$Plate", 0)
theorem fl2_37 : mFchk RX2 [fe2_37] = true := by decide +kernel
abbrev fe2_44 : Nat × Nat × List Nat × String × Nat := (44, 2, [2], "PlatePeas$Plate", 0)
theorem fl2_44 : mFchk RX2 [fe2_44] = true := by decide +kernel
abbrev fe2_58 : Nat × Nat × List Nat × String × Nat := (58, 1, [2], "PlatePeas$Plate", 0)
theorem fl2_58 : mFchk RX2 [fe2_58] = true := by decide +kernel
abbrev fe2_67 : Nat × Nat × List Nat × String × Nat := (67, 0, [2], "PlatePeas$Plate", 0)
theorem fl2_67 : mFchk RX2 [fe2_67] = true := by decide +kernel
abbrev fe2_92 : Nat × Nat × List Nat × String × Nat := (92, 4, [2], "PlatePeas$Plate", 0)
theorem fl2_92 : mFchk RX2 [fe2_92] = true := by decide +kernel
abbrev fe3_11 : Nat × Nat × List Nat × String × Nat := (11, 0, [3], "PlatePeas$Search", 1)
theorem fl3_11 : mFchk RX3 [fe3_11] = true := by decide +kernel
abbrev fe4_9 : Nat × Nat × List Nat × String × Nat := (9, 0, [4], "PlatePeas$Sheet", 1)
theorem fl4_9 : mFchk RX4 [fe4_9] = true := by decide +kernel
abbrev fe4_15 : Nat × Nat × List Nat × String × Nat := (15, 2, [4], "PlatePeas$Sheet", 0)
theorem fl4_15 : mFchk RX4 [fe4_15] = true := by decide +kernel
abbrev fe4_19 : Nat × Nat × List Nat × String × Nat := (19, 1, [4], "PlatePeas$Sheet", 0)
theorem fl4_19 : mFchk RX4 [fe4_19] = true := by decide +kernel
abbrev fe6_9 : Nat × Nat × List Nat × String × Nat := (9, 4, [6], "PlatePeas$Spots", 1)
theorem fl6_9 : mFchk RX6 [fe6_9] = true := by decide +kernel
abbrev fe6_15 : Nat × Nat × List Nat × String × Nat := (15, 0, [6], "PlatePeas$Spots", 0)
theorem fl6_15 : mFchk RX6 [fe6_15] = true := by decide +kernel
abbrev fe6_19 : Nat × Nat × List Nat × String × Nat := (19, 3, [6], "PlatePeas$Spots", 0)
theorem fl6_19 : mFchk RX6 [fe6_19] = true := by decide +kernel
abbrev fe6_23 : Nat × Nat × List Nat × String × Nat := (23, 1, [6], "PlatePeas$Spots", 0)
theorem fl6_23 : mFchk RX6 [fe6_23] = true := by decide +kernel
abbrev fe6_26 : Nat × Nat × List Nat × String × Nat := (26, 2, [6], "PlatePeas$Spots", 0)
theorem fl6_26 : mFchk RX6 [fe6_26] = true := by decide +kernel
abbrev fe7_7 : Nat × Nat × List Nat × String × Nat := (7, 0, [7], "PlatePeas$Trace", 0)
theorem fl7_7 : mFchk RX7 [fe7_7] = true := by decide +kernel
abbrev fe8_11 : Nat × Nat × List Nat × String × Nat := (11, 3, [8], "PlatePeas", 1)
theorem fl8_11 : mFchk RX8 [fe8_11] = true := by decide +kernel
abbrev fe8_15 : Nat × Nat × List Nat × String × Nat := (15, 5, [8], "PlatePeas", 1)
theorem fl8_15 : mFchk RX8 [fe8_15] = true := by decide +kernel
abbrev fe8_18 : Nat × Nat × List Nat × String × Nat := (18, 6, [8], "PlatePeas", 1)
theorem fl8_18 : mFchk RX8 [fe8_18] = true := by decide +kernel
abbrev fe8_23 : Nat × Nat × List Nat × String × Nat := (23, 11, [8], "PlatePeas", 1)
theorem fl8_23 : mFchk RX8 [fe8_23] = true := by decide +kernel
abbrev fe8_30 : Nat × Nat × List Nat × String × Nat := (30, 12, [8], "PlatePeas", 1)
theorem fl8_30 : mFchk RX8 [fe8_30] = true := by decide +kernel
abbrev fe8_42 : Nat × Nat × List Nat × String × Nat := (42, 8, [8], "PlatePeas", 1)
theorem fl8_42 : mFchk RX8 [fe8_42] = true := by decide +kernel
abbrev fe8_46 : Nat × Nat × List Nat × String × Nat := (46, 9, [8], "PlatePeas", 1)
theorem fl8_46 : mFchk RX8 [fe8_46] = true := by decide +kernel
abbrev fe8_52 : Nat × Nat × List Nat × String × Nat := (52, 10, [8], "PlatePeas", 1)
theorem fl8_52 : mFchk RX8 [fe8_52] = true := by decide +kernel
abbrev fe8_56 : Nat × Nat × List Nat × String × Nat := (56, 0, [8], "PlatePeas", 0)
theorem fl8_56 : mFchk RX8 [fe8_56] = true := by decide +kernel
abbrev fe8_60 : Nat × Nat × List Nat × String × Nat := (60, 1, [8], "PlatePeas", 0)
theorem fl8_60 : mFchk RX8 [fe8_60] = true := by decide +kernel
abbrev fe8_64 : Nat × Nat × List Nat × String × Nat := (64, 13, [8], "PlatePeas", 0)
theorem fl8_64 : mFchk RX8 [fe8_64] = true := by decide +kernel
abbrev fe8_91 : Nat × Nat × List Nat × String × Nat := (91, 2, [2], "PlatePeas$Plate", 0)
theorem fl8_91 : mFchk RX8 [fe8_91] = true := by decide +kernel
abbrev fe8_121 : Nat × Nat × List Nat × String × Nat := (121, 1, [0, 1, 5], "PlatePeas$Fork", 2)
theorem fl8_121 : mFchk RX8 [fe8_121] = true := by decide +kernel
abbrev fe8_131 : Nat × Nat × List Nat × String × Nat := (131, 2, [8], "PlatePeas", 0)
theorem fl8_131 : mFchk RX8 [fe8_131] = true := by decide +kernel
abbrev fe8_137 : Nat × Nat × List Nat × String × Nat := (137, 4, [8], "PlatePeas", 0)
theorem fl8_137 : mFchk RX8 [fe8_137] = true := by decide +kernel
abbrev fe8_153 : Nat × Nat × List Nat × String × Nat := (153, 1, [6], "PlatePeas$Spots", 0)
theorem fl8_153 : mFchk RX8 [fe8_153] = true := by decide +kernel
abbrev fe8_156 : Nat × Nat × List Nat × String × Nat := (156, 2, [6], "PlatePeas$Spots", 0)
theorem fl8_156 : mFchk RX8 [fe8_156] = true := by decide +kernel
abbrev fe8_176 : Nat × Nat × List Nat × String × Nat := (176, 0, [3], "PlatePeas$Search", 2)
theorem fl8_176 : mFchk RX8 [fe8_176] = true := by decide +kernel
abbrev fe8_184 : Nat × Nat × List Nat × String × Nat := (184, 1, [3], "PlatePeas$Search", 2)
theorem fl8_184 : mFchk RX8 [fe8_184] = true := by decide +kernel
abbrev fe8_213 : Nat × Nat × List Nat × String × Nat := (213, 7, [8], "PlatePeas", 0)
theorem fl8_213 : mFchk RX8 [fe8_213] = true := by decide +kernel
abbrev fe8_216 : Nat × Nat × List Nat × String × Nat := (216, 4, [2], "PlatePeas$Plate", 0)
theorem fl8_216 : mFchk RX8 [fe8_216] = true := by decide +kernel
abbrev fe8_219 : Nat × Nat × List Nat × String × Nat := (219, 5, [2], "PlatePeas$Plate", 2)
theorem fl8_219 : mFchk RX8 [fe8_219] = true := by decide +kernel
abbrev fe8_251 : Nat × Nat × List Nat × String × Nat := (251, 1, [4], "PlatePeas$Sheet", 0)
theorem fl8_251 : mFchk RX8 [fe8_251] = true := by decide +kernel
abbrev fe8_257 : Nat × Nat × List Nat × String × Nat := (257, 0, [4], "PlatePeas$Sheet", 2)
theorem fl8_257 : mFchk RX8 [fe8_257] = true := by decide +kernel
abbrev fe8_277 : Nat × Nat × List Nat × String × Nat := (277, 0, [7], "PlatePeas$Trace", 0)
theorem fl8_277 : mFchk RX8 [fe8_277] = true := by decide +kernel
abbrev fe8_280 : Nat × Nat × List Nat × String × Nat := (280, 0, [2], "PlatePeas$Plate", 0)
theorem fl8_280 : mFchk RX8 [fe8_280] = true := by decide +kernel
abbrev fe8_283 : Nat × Nat × List Nat × String × Nat := (283, 1, [2], "PlatePeas$Plate", 0)
theorem fl8_283 : mFchk RX8 [fe8_283] = true := by decide +kernel
abbrev fe8_286 : Nat × Nat × List Nat × String × Nat := (286, 3, [2], "PlatePeas$Plate", 0)
theorem fl8_286 : mFchk RX8 [fe8_286] = true := by decide +kernel
abbrev fe8_309 : Nat × Nat × List Nat × String × Nat := (309, 0, [6], "PlatePeas$Spots", 0)
theorem fl8_309 : mFchk RX8 [fe8_309] = true := by decide +kernel
abbrev fe9_7 : Nat × Nat × List Nat × String × Nat := (7, 2, [9], "PlatePeasModel", 1)
theorem fl9_7 : mFchk RX9 [fe9_7] = true := by decide +kernel
abbrev fe9_13 : Nat × Nat × List Nat × String × Nat := (13, 4, [9], "PlatePeasModel", 1)
theorem fl9_13 : mFchk RX9 [fe9_13] = true := by decide +kernel
abbrev fe9_16 : Nat × Nat × List Nat × String × Nat := (16, 6, [9], "PlatePeasModel", 1)
theorem fl9_16 : mFchk RX9 [fe9_16] = true := by decide +kernel
abbrev fe9_19 : Nat × Nat × List Nat × String × Nat := (19, 7, [9], "PlatePeasModel", 1)
theorem fl9_19 : mFchk RX9 [fe9_19] = true := by decide +kernel
abbrev fe9_22 : Nat × Nat × List Nat × String × Nat := (22, 10, [9], "PlatePeasModel", 1)
theorem fl9_22 : mFchk RX9 [fe9_22] = true := by decide +kernel
abbrev fe9_25 : Nat × Nat × List Nat × String × Nat := (25, 12, [9], "PlatePeasModel", 1)
theorem fl9_25 : mFchk RX9 [fe9_25] = true := by decide +kernel
abbrev fe9_28 : Nat × Nat × List Nat × String × Nat := (28, 13, [9], "PlatePeasModel", 1)
theorem fl9_28 : mFchk RX9 [fe9_28] = true := by decide +kernel
abbrev fe9_31 : Nat × Nat × List Nat × String × Nat := (31, 16, [9], "PlatePeasModel", 1)
theorem fl9_31 : mFchk RX9 [fe9_31] = true := by decide +kernel
abbrev fe9_34 : Nat × Nat × List Nat × String × Nat := (34, 17, [9], "PlatePeasModel", 1)
theorem fl9_34 : mFchk RX9 [fe9_34] = true := by decide +kernel
abbrev fe9_37 : Nat × Nat × List Nat × String × Nat := (37, 18, [9], "PlatePeasModel", 1)
theorem fl9_37 : mFchk RX9 [fe9_37] = true := by decide +kernel
abbrev fe9_40 : Nat × Nat × List Nat × String × Nat := (40, 19, [9], "PlatePeasModel", 1)
theorem fl9_40 : mFchk RX9 [fe9_40] = true := by decide +kernel
abbrev fe9_43 : Nat × Nat × List Nat × String × Nat := (43, 25, [9], "PlatePeasModel", 1)
theorem fl9_43 : mFchk RX9 [fe9_43] = true := by decide +kernel
abbrev fe9_46 : Nat × Nat × List Nat × String × Nat := (46, 26, [9], "PlatePeasModel", 1)
theorem fl9_46 : mFchk RX9 [fe9_46] = true := by decide +kernel
abbrev fe9_49 : Nat × Nat × List Nat × String × Nat := (49, 28, [9], "PlatePeasModel", 1)
theorem fl9_49 : mFchk RX9 [fe9_49] = true := by decide +kernel
abbrev fe9_52 : Nat × Nat × List Nat × String × Nat := (52, 29, [9], "PlatePeasModel", 1)
theorem fl9_52 : mFchk RX9 [fe9_52] = true := by decide +kernel
abbrev fe9_55 : Nat × Nat × List Nat × String × Nat := (55, 30, [9], "PlatePeasModel", 1)
theorem fl9_55 : mFchk RX9 [fe9_55] = true := by decide +kernel
abbrev fe9_58 : Nat × Nat × List Nat × String × Nat := (58, 31, [9], "PlatePeasModel", 1)
theorem fl9_58 : mFchk RX9 [fe9_58] = true := by decide +kernel
abbrev fe9_61 : Nat × Nat × List Nat × String × Nat := (61, 32, [9], "PlatePeasModel", 1)
theorem fl9_61 : mFchk RX9 [fe9_61] = true := by decide +kernel
abbrev fe9_64 : Nat × Nat × List Nat × String × Nat := (64, 15, [9], "PlatePeasModel", 0)
theorem fl9_64 : mFchk RX9 [fe9_64] = true := by decide +kernel
abbrev fe9_68 : Nat × Nat × List Nat × String × Nat := (68, 1, [9], "PlatePeasModel", 0)
theorem fl9_68 : mFchk RX9 [fe9_68] = true := by decide +kernel
abbrev fe9_75 : Nat × Nat × List Nat × String × Nat := (75, 3, [9], "PlatePeasModel", 0)
theorem fl9_75 : mFchk RX9 [fe9_75] = true := by decide +kernel
abbrev fe9_78 : Nat × Nat × List Nat × String × Nat := (78, 5, [9], "PlatePeasModel", 0)
theorem fl9_78 : mFchk RX9 [fe9_78] = true := by decide +kernel
abbrev fe9_109 : Nat × Nat × List Nat × String × Nat := (109, 20, [9], "PlatePeasModel", 0)
theorem fl9_109 : mFchk RX9 [fe9_109] = true := by decide +kernel
abbrev fe9_112 : Nat × Nat × List Nat × String × Nat := (112, 21, [9], "PlatePeasModel", 0)
theorem fl9_112 : mFchk RX9 [fe9_112] = true := by decide +kernel
abbrev fe9_115 : Nat × Nat × List Nat × String × Nat := (115, 24, [9], "PlatePeasModel", 0)
theorem fl9_115 : mFchk RX9 [fe9_115] = true := by decide +kernel
abbrev fe9_118 : Nat × Nat × List Nat × String × Nat := (118, 22, [9], "PlatePeasModel", 0)
theorem fl9_118 : mFchk RX9 [fe9_118] = true := by decide +kernel
abbrev fe9_121 : Nat × Nat × List Nat × String × Nat := (121, 23, [9], "PlatePeasModel", 0)
theorem fl9_121 : mFchk RX9 [fe9_121] = true := by decide +kernel
abbrev fe9_130 : Nat × Nat × List Nat × String × Nat := (130, 27, [9], "PlatePeasModel", 0)
theorem fl9_130 : mFchk RX9 [fe9_130] = true := by decide +kernel
abbrev fe9_147 : Nat × Nat × List Nat × String × Nat := (147, 0, [9], "PlatePeasModel", 0)
theorem fl9_147 : mFchk RX9 [fe9_147] = true := by decide +kernel
abbrev fe9_150 : Nat × Nat × List Nat × String × Nat := (150, 8, [9], "PlatePeasModel", 0)
theorem fl9_150 : mFchk RX9 [fe9_150] = true := by decide +kernel
abbrev fe9_153 : Nat × Nat × List Nat × String × Nat := (153, 9, [9], "PlatePeasModel", 0)
theorem fl9_153 : mFchk RX9 [fe9_153] = true := by decide +kernel
abbrev fe9_156 : Nat × Nat × List Nat × String × Nat := (156, 11, [9], "PlatePeasModel", 0)
theorem fl9_156 : mFchk RX9 [fe9_156] = true := by decide +kernel
abbrev fe9_249 : Nat × Nat × List Nat × String × Nat := (249, 14, [9], "PlatePeasModel", 0)
theorem fl9_249 : mFchk RX9 [fe9_249] = true := by decide +kernel
