/-! printed by wip/gen/dec.py: the law: words, call sites, its loop as a function, and that it meets it -/
theorem csL_law_193 : mRun mL_law 193 mX8_plate "PlatePeas" 5 := run_V dL_law_193 (by decide) w_f988ea52 w_9439db0e w_9d1f5fca w_25532a91 w_289bd0b1 (by decide +kernel) (by decide +kernel) (by decide)
theorem csL_law_217 : mRun mL_law 217 mX9_plate "PlatePeasModel" 5 := run_V dL_law_217 (by decide) w_14c918a2 w_a6e382ca w_372bbe3a w_18407ce9 w_b1626c8f (by decide +kernel) (by decide +kernel) (by decide)
theorem csL_law_231 : mRun mL_law 231 mX8_sign "PlatePeas" 2 := run_V dL_law_231 (by decide) w_aa43eb15 w_3c108e76 w_4a0c1aa5 w_25532a91 w_fca8ca51 (by decide +kernel) (by decide +kernel) (by decide)
theorem csL_law_240 : mRun mL_law 240 mX9_sign "PlatePeasModel" 2 := run_V dL_law_240 (by decide) w_91aceaa2 w_2cbdc50a w_0ef9f613 w_18407ce9 w_4c3683a3 (by decide +kernel) (by decide +kernel) (by decide)
theorem csL_law_259 : mRun mL_law 259 mX8_set "PlatePeas" 3 := run_V dL_law_259 (by decide) w_489ed496 w_4a012b65 w_abcdcb6b w_25532a91 w_64c4251e (by decide +kernel) (by decide +kernel) (by decide)
theorem csL_law_273 : mRun mL_law 273 mX9_set "PlatePeasModel" 3 := run_V dL_law_273 (by decide) w_04e06b0d w_03056e78 w_ba107ae6 w_18407ce9 w_cb4753f3 (by decide +kernel) (by decide +kernel) (by decide)
theorem csL_law_292 : mRun mL_law 292 mX8_ofEater "PlatePeas" 3 := run_V dL_law_292 (by decide) w_1befd83d w_ac031055 w_31d2f6c4 w_25532a91 w_df6e45ec (by decide +kernel) (by decide +kernel) (by decide)
theorem csL_law_306 : mRun mL_law 306 mX9_ofEater "PlatePeasModel" 3 := run_V dL_law_306 (by decide) w_8d649b39 w_5499b30a w_7e038bea w_18407ce9 w_51a409a0 (by decide +kernel) (by decide +kernel) (by decide)
theorem csL_law_320 : mRun mL_law 320 mX8_law "PlatePeas" 2 := run_V dL_law_320 (by decide) w_6fd3ae23 w_a4c4f407 w_546b9591 w_25532a91 w_f61db1bf (by decide +kernel) (by decide +kernel) (by decide)
theorem csL_law_329 : mRun mL_law 329 mX9_law "PlatePeasModel" 2 := run_V dL_law_329 (by decide) w_37120e4a w_251e5091 w_0f8dbf06 w_18407ce9 w_4beeeac0 (by decide +kernel) (by decide +kernel) (by decide)
theorem csL_law_353 : mRun mL_law 353 mX8_push "PlatePeas" 4 := run_V dL_law_353 (by decide) w_7f541228 w_16b8e8f9 w_7a687334 w_25532a91 w_c0182a08 (by decide +kernel) (by decide +kernel) (by decide)
theorem csL_law_372 : mRun mL_law 372 mX9_push "PlatePeasModel" 4 := run_V dL_law_372 (by decide) w_338954b0 w_3c36c2ca w_b78d8cd4 w_18407ce9 w_61c85ded (by decide +kernel) (by decide +kernel) (by decide)
theorem csL_law_386 : mRun mL_law 386 mX8_undo "PlatePeas" 2 := run_V dL_law_386 (by decide) w_58ef0881 w_b50f8e9e w_5ffd9ded w_25532a91 w_74e578ef (by decide +kernel) (by decide +kernel) (by decide)
theorem csL_law_395 : mRun mL_law 395 mX9_undo "PlatePeasModel" 2 := run_V dL_law_395 (by decide) w_643f2fb9 w_f28c625d w_7b144a4e w_18407ce9 w_0deb985c (by decide +kernel) (by decide +kernel) (by decide)
theorem csL_law_409 : mRun mL_law 409 mX8_where "PlatePeas" 2 := run_V dL_law_409 (by decide) w_c8c9b505 w_cf7a8134 w_17d8d35c w_25532a91 w_98623c36 (by decide +kernel) (by decide +kernel) (by decide)
theorem csL_law_418 : mRun mL_law 418 mX9_where "PlatePeasModel" 2 := run_V dL_law_418 (by decide) w_a67a6d28 w_62205425 w_f1367b12 w_18407ce9 w_6fee7bcc (by decide +kernel) (by decide +kernel) (by decide)
theorem csL_law_432 : mRun mL_law 432 mX8_peas "PlatePeas" 2 := run_V dL_law_432 (by decide) w_fa869d12 w_8c7c8fb8 w_e0b2648e w_25532a91 w_0377dca2 (by decide +kernel) (by decide +kernel) (by decide)
theorem csL_law_441 : mRun mL_law 441 mX9_peas "PlatePeasModel" 2 := run_V dL_law_441 (by decide) w_5d7f8346 w_f9fb9679 w_8168bc76 w_18407ce9 w_8beff006 (by decide +kernel) (by decide +kernel) (by decide)
theorem csL_law_470 : mRun mL_law 470 mX8_would "PlatePeas" 5 := run_V dL_law_470 (by decide) w_ec397768 w_16ab4dcf w_91fe509c w_25532a91 w_762f58b7 (by decide +kernel) (by decide +kernel) (by decide)
theorem csL_law_494 : mRun mL_law 494 mX9_would "PlatePeasModel" 5 := run_V dL_law_494 (by decide) w_fb204748 w_9dcee958 w_28f0f77f w_18407ce9 w_f79cda01 (by decide +kernel) (by decide +kernel) (by decide)
theorem csL_law_513 : mRun mL_law 513 mX8_fewest "PlatePeas" 3 := run_V dL_law_513 (by decide) w_cd2e8525 w_59213310 w_c9c829db w_25532a91 w_2d07635b (by decide +kernel) (by decide +kernel) (by decide)
theorem csL_law_527 : mRun mL_law 527 mX9_fewest "PlatePeasModel" 3 := run_V dL_law_527 (by decide) w_64823fb6 w_97b43218 w_132586b5 w_18407ce9 w_934ae702 (by decide +kernel) (by decide +kernel) (by decide)
theorem csL_law_541 : mRun mL_law 541 mX8_most "PlatePeas" 2 := run_V dL_law_541 (by decide) w_58504b6e w_f75450bc w_605a9152 w_25532a91 w_1327071e (by decide +kernel) (by decide +kernel) (by decide)
theorem csL_law_550 : mRun mL_law 550 mX9_most "PlatePeasModel" 2 := run_V dL_law_550 (by decide) w_6f99ce44 w_a0f24e7b w_70069b70 w_18407ce9 w_0532d7a9 (by decide +kernel) (by decide +kernel) (by decide)
theorem csL_law_574 : mRun mL_law 574 mX8_wall "PlatePeas" 4 := run_V dL_law_574 (by decide) w_cf2a800e w_022012ef w_40e4e10e w_25532a91 w_051d2f39 (by decide +kernel) (by decide +kernel) (by decide)
theorem csL_law_593 : mRun mL_law 593 mX9_wall "PlatePeasModel" 4 := run_V dL_law_593 (by decide) w_d3246f65 w_79f299f1 w_e6ce60a4 w_18407ce9 w_b310b6df (by decide +kernel) (by decide +kernel) (by decide)
theorem csL_law_622 : mRun mL_law 622 mX8_row "PlatePeas" 5 := run_V dL_law_622 (by decide) w_b1770b2b w_68f2c303 w_e28804c7 w_25532a91 w_c7156879 (by decide +kernel) (by decide +kernel) (by decide)
theorem csL_law_646 : mRun mL_law 646 mX9_row "PlatePeasModel" 5 := run_V dL_law_646 (by decide) w_33173ba7 w_cee18903 w_398f7788 w_18407ce9 w_f852307c (by decide +kernel) (by decide +kernel) (by decide)
theorem csL_law_670 : mRun mL_law 670 mX8_odds "PlatePeas" 4 := run_V dL_law_670 (by decide) w_c408aac5 w_92abb506 w_d6926040 w_25532a91 w_a4009c2f (by decide +kernel) (by decide +kernel) (by decide)
theorem csL_law_689 : mRun mL_law 689 mX9_odds "PlatePeasModel" 4 := run_V dL_law_689 (by decide) w_e15bbe0d w_ea0402e7 w_ec08de11 w_18407ce9 w_be4a7f34 (by decide +kernel) (by decide +kernel) (by decide)
theorem csL_law_709 : mRun mL_law 709 mX8_reading "PlatePeas" 3 := run_V dL_law_709 (by decide) w_bbaaed2d w_e2acdab3 w_525445a5 w_25532a91 w_da414baf (by decide +kernel) (by decide +kernel) (by decide)
theorem csL_law_723 : mRun mL_law 723 mX9_reading "PlatePeasModel" 3 := run_V dL_law_723 (by decide) w_e3fa6c64 w_d77d0f21 w_cb53938f w_18407ce9 w_7063d60c (by decide +kernel) (by decide +kernel) (by decide)
theorem csL_law_737 : mRun mL_law 737 mX8_back "PlatePeas" 2 := run_V dL_law_737 (by decide) w_270c9a02 w_8f507c7e w_a2f8049b w_25532a91 w_9b637135 (by decide +kernel) (by decide +kernel) (by decide)
theorem csL_law_746 : mRun mL_law 746 mX9_back "PlatePeasModel" 2 := run_V dL_law_746 (by decide) w_f9fd0e8f w_034b4cc7 w_22400e14 w_18407ce9 w_d39b140c (by decide +kernel) (by decide +kernel) (by decide)
theorem csL_law_760 : mRun mL_law 760 mX8_last "PlatePeas" 2 := run_V dL_law_760 (by decide) w_d5075f92 w_1f9ad76c w_5018229a w_25532a91 w_6148c8a4 (by decide +kernel) (by decide +kernel) (by decide)
theorem csL_law_769 : mRun mL_law 769 mX9_last "PlatePeasModel" 2 := run_V dL_law_769 (by decide) w_ed75fc0a w_4415d3e2 w_32643540 w_18407ce9 w_b9c9d380 (by decide +kernel) (by decide +kernel) (by decide)
theorem csL_law_778 : mRun mL_law 778 mX8_laws "PlatePeas" 1 := run_V dL_law_778 (by decide) w_1edbae40 w_f4782132 w_15b2b241 w_25532a91 w_cd3e44e3 (by decide +kernel) (by decide +kernel) (by decide)
theorem csL_law_782 : mRun mL_law 782 mX9_laws "PlatePeasModel" 1 := run_V dL_law_782 (by decide) w_aa35d9fd w_ce36d462 w_9e5c9807 w_18407ce9 w_afdfc3ad (by decide +kernel) (by decide +kernel) (by decide)
theorem csL_law_791 : mRun mL_law 791 mX8_never "PlatePeas" 1 := run_V dL_law_791 (by decide) w_f7915896 w_4b33ebbf w_8081ec56 w_25532a91 w_dca8343a (by decide +kernel) (by decide +kernel) (by decide)
theorem csL_law_795 : mRun mL_law 795 mX9_never "PlatePeasModel" 1 := run_V dL_law_795 (by decide) w_441ea7df w_b742c8d2 w_c81d8964 w_18407ce9 w_55347341 (by decide +kernel) (by decide +kernel) (by decide)
theorem csL_law_819 : mRun mL_law 819 mX8_sheet "PlatePeas" 4 := run_V dL_law_819 (by decide) w_e7bf2069 w_1d3c82db w_23e4c848 w_25532a91 w_9efdad91 (by decide +kernel) (by decide +kernel) (by decide)
theorem csL_law_838 : mRun mL_law 838 mX9_sheet "PlatePeasModel" 4 := run_V dL_law_838 (by decide) w_9329d688 w_37896ac9 w_5f3c6ad5 w_18407ce9 w_dd8516b5 (by decide +kernel) (by decide +kernel) (by decide)
theorem csL_law_852 : mRun mL_law 852 mX8_lose "PlatePeas" 2 := run_V dL_law_852 (by decide) w_0b257d84 w_10a1d620 w_b0168778 w_25532a91 w_00356ca3 (by decide +kernel) (by decide +kernel) (by decide)
theorem csL_law_861 : mRun mL_law 861 mX9_lose "PlatePeasModel" 2 := run_V dL_law_861 (by decide) w_ea4290e6 w_e25b4939 w_f37ab5e8 w_18407ce9 w_7b2d0563 (by decide +kernel) (by decide +kernel) (by decide)
theorem csL_law_885 : mRun mL_law 885 mX8_put "PlatePeas" 4 := run_V dL_law_885 (by decide) w_4ed926c1 w_5f655346 w_01aca12c w_25532a91 w_c246fb65 (by decide +kernel) (by decide +kernel) (by decide)
theorem csL_law_904 : mRun mL_law 904 mX9_put "PlatePeasModel" 4 := run_V dL_law_904 (by decide) w_05e96fd7 w_5152edc5 w_bfbb951d w_18407ce9 w_3b565a15 (by decide +kernel) (by decide +kernel) (by decide)
theorem csL_law_928 : mRun mL_law 928 mX8_cell "PlatePeas" 4 := run_V dL_law_928 (by decide) w_45d1bf7d w_fde6fdfc w_874360bd w_25532a91 w_a3d8c868 (by decide +kernel) (by decide +kernel) (by decide)
theorem csL_law_947 : mRun mL_law 947 mX9_cell "PlatePeasModel" 4 := run_V dL_law_947 (by decide) w_b321bf0a w_99a74163 w_7120707d w_18407ce9 w_1cb8cc7b (by decide +kernel) (by decide +kernel) (by decide)
theorem csL_law_982 : mRun mL_law 982 mX8_copy "PlatePeas" 6 := run_V dL_law_982 (by decide) w_d913dffd w_1f7591dd w_20fa151e w_25532a91 w_8c97c44b (by decide +kernel) (by decide +kernel) (by decide)
theorem csL_law_1011 : mRun mL_law 1011 mX9_copy "PlatePeasModel" 6 := run_V dL_law_1011 (by decide) w_d1e5bab2 w_4816f950 w_cbd82484 w_18407ce9 w_4becfae2 (by decide +kernel) (by decide +kernel) (by decide)
theorem csL_law_1025 : mRun mL_law 1025 mX8_tell "PlatePeas" 2 := run_V dL_law_1025 (by decide) w_83476226 w_b7d1219f w_17f2daa6 w_25532a91 w_e9fd5f2a (by decide +kernel) (by decide +kernel) (by decide)
theorem csL_law_1034 : mRun mL_law 1034 mX9_tell "PlatePeasModel" 2 := run_V dL_law_1034 (by decide) w_dd46a399 w_e8ccb734 w_9e76750b w_18407ce9 w_7110eb82 (by decide +kernel) (by decide +kernel) (by decide)
theorem csL_law_1048 : mRun mL_law 1048 mX8_polish "PlatePeas" 2 := run_V dL_law_1048 (by decide) w_cde0a7bb w_77279b3b w_6bd30764 w_25532a91 w_5abd29d2 (by decide +kernel) (by decide +kernel) (by decide)
theorem csL_law_1057 : mRun mL_law 1057 mX9_polish "PlatePeasModel" 2 := run_V dL_law_1057 (by decide) w_130b522a w_405b5ce7 w_046c676e w_18407ce9 w_9196540a (by decide +kernel) (by decide +kernel) (by decide)
theorem csL_law_1076 : mRun mL_law 1076 mX8_as "PlatePeas" 3 := run_V dL_law_1076 (by decide) w_c1463dc5 w_0aba0cc2 w_0ad155bd w_25532a91 w_4579aa2f (by decide +kernel) (by decide +kernel) (by decide)
theorem csL_law_1090 : mRun mL_law 1090 mX9_as "PlatePeasModel" 3 := run_V dL_law_1090 (by decide) w_164c2870 w_c9cda0c7 w_a0399803 w_18407ce9 w_df9c992e (by decide +kernel) (by decide +kernel) (by decide)
theorem csL_law_1099 : mRun mL_law 1099 mX8_trace "PlatePeas" 1 := run_V dL_law_1099 (by decide) w_2cc2563c w_36dac39c w_b07d049b w_25532a91 w_fe6081f9 (by decide +kernel) (by decide +kernel) (by decide)
theorem csL_law_1103 : mRun mL_law 1103 mX9_trace "PlatePeasModel" 1 := run_V dL_law_1103 (by decide) w_99a1fbb6 w_2624a7c1 w_f681d188 w_18407ce9 w_440f4751 (by decide +kernel) (by decide +kernel) (by decide)
theorem csL_law_1112 : mRun mL_law 1112 mX8_fault "PlatePeas" 1 := run_V dL_law_1112 (by decide) w_83535da5 w_7ccb0acc w_39584172 w_25532a91 w_9c3269dc (by decide +kernel) (by decide +kernel) (by decide)
theorem csL_law_1116 : mRun mL_law 1116 mX9_fault "PlatePeasModel" 1 := run_V dL_law_1116 (by decide) w_42870bcb w_1cf9296c w_6653eade w_18407ce9 w_4a99e7b8 (by decide +kernel) (by decide +kernel) (by decide)
theorem csL_law_1130 : mRun mL_law 1130 mX8_many "PlatePeas" 2 := run_V dL_law_1130 (by decide) w_b4102bca w_d8d2e27c w_154182d6 w_25532a91 w_7c1024ad (by decide +kernel) (by decide +kernel) (by decide)
theorem csL_law_1139 : mRun mL_law 1139 mX9_many "PlatePeasModel" 2 := run_V dL_law_1139 (by decide) w_1dc11623 w_449eb65a w_5dd6ce98 w_18407ce9 w_f8317002 (by decide +kernel) (by decide +kernel) (by decide)
theorem csL_law_4 : mRun mL_law 4 mX8_init "PlatePeas" 1 := run_I dL_law_4 (by decide) rfl (by decide) w_562ad4ed w_73283f03 w_25532a91 w_284b10de (by decide +kernel) (by decide +kernel) (by decide)
theorem csL_law_12 : mRun mL_law 12 mX9_init "PlatePeasModel" 1 := run_I dL_law_12 (by decide) rfl (by decide) w_63196ac2 w_dafee780 w_18407ce9 w_62ebda4a (by decide +kernel) (by decide +kernel) (by decide)
def lL_law_18 (Ln : Nat) : Nat → Int32 → Sto → Option (Int32 × Sto)
  | 0, _, _ => none
  | n + 1, a3, σ => (if ((Int32.ofNat Ln) - 6) < a3 then (some (1, σ)) else (if Ix a3 Ln then (if ((gI σ 46 0 a3.toNatClampNeg) &&& 31) = 0 then (if Ix (a3 + 1) Ln then (if Ix (a3 + 2) Ln then (if Ix (a3 + 3) Ln then (if Ix (a3 + 4) Ln then (bI (f8_plate (gI σ 46 0 (a3 + 1).toNatClampNeg) (gI σ 46 0 (a3 + 2).toNatClampNeg) (gI σ 46 0 (a3 + 3).toNatClampNeg) (gI σ 46 0 (a3 + 4).toNatClampNeg) σ) (fun v21 s22 => (if Ix (a3 + 1) Ln then (if Ix (a3 + 2) Ln then (if Ix (a3 + 3) Ln then (if Ix (a3 + 4) Ln then (bI (f9_plate (gI s22 46 0 (a3 + 1).toNatClampNeg) (gI s22 46 0 (a3 + 2).toNatClampNeg) (gI s22 46 0 (a3 + 3).toNatClampNeg) (gI s22 46 0 (a3 + 4).toNatClampNeg) s22) (fun v23 s24 => (if v21 = v23 then (lL_law_18 Ln n (a3 + 6) s24) else (some (0, s24))))) else none) else none) else none) else none))) else none) else none) else none) else none) else (if ((gI σ 46 0 a3.toNatClampNeg) &&& 31) = 1 then (if Ix (a3 + 1) Ln then (bI (f8_sign (gI σ 46 0 (a3 + 1).toNatClampNeg) σ) (fun v25 s26 => (if Ix (a3 + 1) Ln then (bI (f9_sign (gI s26 46 0 (a3 + 1).toNatClampNeg) s26) (fun v27 s28 => (if v25 = v27 then (lL_law_18 Ln n (a3 + 6) s28) else (some (0, s28))))) else none))) else none) else (if ((gI σ 46 0 a3.toNatClampNeg) &&& 31) = 2 then (if Ix (a3 + 1) Ln then (if Ix (a3 + 2) Ln then (bI (f8_set (gI σ 46 0 (a3 + 1).toNatClampNeg) (gI σ 46 0 (a3 + 2).toNatClampNeg) σ) (fun v29 s30 => (if Ix (a3 + 1) Ln then (if Ix (a3 + 2) Ln then (bI (f9_set (gI s30 46 0 (a3 + 1).toNatClampNeg) (gI s30 46 0 (a3 + 2).toNatClampNeg) s30) (fun v31 s32 => (if v29 = v31 then (lL_law_18 Ln n (a3 + 6) s32) else (some (0, s32))))) else none) else none))) else none) else none) else (if ((gI σ 46 0 a3.toNatClampNeg) &&& 31) = 3 then (if Ix (a3 + 1) Ln then (if Ix (a3 + 2) Ln then (bI (f8_ofEater (gI σ 46 0 (a3 + 1).toNatClampNeg) (gI σ 46 0 (a3 + 2).toNatClampNeg) σ) (fun v33 s34 => (if Ix (a3 + 1) Ln then (if Ix (a3 + 2) Ln then (bI (f9_ofEater (gI s34 46 0 (a3 + 1).toNatClampNeg) (gI s34 46 0 (a3 + 2).toNatClampNeg) s34) (fun v35 s36 => (if v33 = v35 then (lL_law_18 Ln n (a3 + 6) s36) else (some (0, s36))))) else none) else none))) else none) else none) else (if ((gI σ 46 0 a3.toNatClampNeg) &&& 31) = 4 then (if Ix (a3 + 1) Ln then (bI (f8_law (gI σ 46 0 (a3 + 1).toNatClampNeg) σ) (fun v37 s38 => (if Ix (a3 + 1) Ln then (bI (f9_law (gI s38 46 0 (a3 + 1).toNatClampNeg) s38) (fun v39 s40 => (if v37 = v39 then (lL_law_18 Ln n (a3 + 6) s40) else (some (0, s40))))) else none))) else none) else (if ((gI σ 46 0 a3.toNatClampNeg) &&& 31) = 5 then (if Ix (a3 + 1) Ln then (if Ix (a3 + 2) Ln then (if Ix (a3 + 3) Ln then (bI (f8_push (gI σ 46 0 (a3 + 1).toNatClampNeg) (gI σ 46 0 (a3 + 2).toNatClampNeg) (gI σ 46 0 (a3 + 3).toNatClampNeg) σ) (fun v41 s42 => (if Ix (a3 + 1) Ln then (if Ix (a3 + 2) Ln then (if Ix (a3 + 3) Ln then (bI (f9_push (gI s42 46 0 (a3 + 1).toNatClampNeg) (gI s42 46 0 (a3 + 2).toNatClampNeg) (gI s42 46 0 (a3 + 3).toNatClampNeg) s42) (fun v43 s44 => (if v41 = v43 then (lL_law_18 Ln n (a3 + 6) s44) else (some (0, s44))))) else none) else none) else none))) else none) else none) else none) else (if ((gI σ 46 0 a3.toNatClampNeg) &&& 31) = 6 then (if Ix (a3 + 1) Ln then (bI (f8_undo (gI σ 46 0 (a3 + 1).toNatClampNeg) σ) (fun v45 s46 => (if Ix (a3 + 1) Ln then (bI (f9_undo (gI s46 46 0 (a3 + 1).toNatClampNeg) s46) (fun v47 s48 => (if v45 = v47 then (lL_law_18 Ln n (a3 + 6) s48) else (some (0, s48))))) else none))) else none) else (if ((gI σ 46 0 a3.toNatClampNeg) &&& 31) = 7 then (if Ix (a3 + 1) Ln then (bI (f8_where (gI σ 46 0 (a3 + 1).toNatClampNeg) σ) (fun v49 s50 => (if Ix (a3 + 1) Ln then (bI (f9_where (gI s50 46 0 (a3 + 1).toNatClampNeg) s50) (fun v51 s52 => (if v49 = v51 then (lL_law_18 Ln n (a3 + 6) s52) else (some (0, s52))))) else none))) else none) else (if ((gI σ 46 0 a3.toNatClampNeg) &&& 31) = 8 then (if Ix (a3 + 1) Ln then (bI (f8_peas (gI σ 46 0 (a3 + 1).toNatClampNeg) σ) (fun v53 s54 => (if Ix (a3 + 1) Ln then (bI (f9_peas (gI s54 46 0 (a3 + 1).toNatClampNeg) s54) (fun v55 s56 => (if v53 = v55 then (lL_law_18 Ln n (a3 + 6) s56) else (some (0, s56))))) else none))) else none) else (if ((gI σ 46 0 a3.toNatClampNeg) &&& 31) = 9 then (if Ix (a3 + 1) Ln then (if Ix (a3 + 2) Ln then (if Ix (a3 + 3) Ln then (if Ix (a3 + 4) Ln then (bI (f8_would (gI σ 46 0 (a3 + 1).toNatClampNeg) (gI σ 46 0 (a3 + 2).toNatClampNeg) (gI σ 46 0 (a3 + 3).toNatClampNeg) (gI σ 46 0 (a3 + 4).toNatClampNeg) σ) (fun v57 s58 => (if Ix (a3 + 1) Ln then (if Ix (a3 + 2) Ln then (if Ix (a3 + 3) Ln then (if Ix (a3 + 4) Ln then (bI (f9_would (gI s58 46 0 (a3 + 1).toNatClampNeg) (gI s58 46 0 (a3 + 2).toNatClampNeg) (gI s58 46 0 (a3 + 3).toNatClampNeg) (gI s58 46 0 (a3 + 4).toNatClampNeg) s58) (fun v59 s60 => (if v57 = v59 then (lL_law_18 Ln n (a3 + 6) s60) else (some (0, s60))))) else none) else none) else none) else none))) else none) else none) else none) else none) else (if ((gI σ 46 0 a3.toNatClampNeg) &&& 31) = 10 then (if Ix (a3 + 1) Ln then (if Ix (a3 + 2) Ln then (bI (f8_fewest (gI σ 46 0 (a3 + 1).toNatClampNeg) (gI σ 46 0 (a3 + 2).toNatClampNeg) σ) (fun v61 s62 => (if Ix (a3 + 1) Ln then (if Ix (a3 + 2) Ln then (bI (f9_fewest (gI s62 46 0 (a3 + 1).toNatClampNeg) (gI s62 46 0 (a3 + 2).toNatClampNeg) s62) (fun v63 s64 => (if v61 = v63 then (lL_law_18 Ln n (a3 + 6) s64) else (some (0, s64))))) else none) else none))) else none) else none) else (if ((gI σ 46 0 a3.toNatClampNeg) &&& 31) = 11 then (if Ix (a3 + 1) Ln then (bI (f8_most (gI σ 46 0 (a3 + 1).toNatClampNeg) σ) (fun v65 s66 => (if Ix (a3 + 1) Ln then (bI (f9_most (gI s66 46 0 (a3 + 1).toNatClampNeg) s66) (fun v67 s68 => (if v65 = v67 then (lL_law_18 Ln n (a3 + 6) s68) else (some (0, s68))))) else none))) else none) else (if ((gI σ 46 0 a3.toNatClampNeg) &&& 31) = 12 then (if Ix (a3 + 1) Ln then (if Ix (a3 + 2) Ln then (if Ix (a3 + 3) Ln then (bI (f8_wall (gI σ 46 0 (a3 + 1).toNatClampNeg) (gI σ 46 0 (a3 + 2).toNatClampNeg) (gI σ 46 0 (a3 + 3).toNatClampNeg) σ) (fun v69 s70 => (if Ix (a3 + 1) Ln then (if Ix (a3 + 2) Ln then (if Ix (a3 + 3) Ln then (bI (f9_wall (gI s70 46 0 (a3 + 1).toNatClampNeg) (gI s70 46 0 (a3 + 2).toNatClampNeg) (gI s70 46 0 (a3 + 3).toNatClampNeg) s70) (fun v71 s72 => (if v69 = v71 then (lL_law_18 Ln n (a3 + 6) s72) else (some (0, s72))))) else none) else none) else none))) else none) else none) else none) else (if ((gI σ 46 0 a3.toNatClampNeg) &&& 31) = 13 then (if Ix (a3 + 1) Ln then (if Ix (a3 + 2) Ln then (if Ix (a3 + 3) Ln then (if Ix (a3 + 4) Ln then (bI (f8_row (gI σ 46 0 (a3 + 1).toNatClampNeg) (gI σ 46 0 (a3 + 2).toNatClampNeg) (gI σ 46 0 (a3 + 3).toNatClampNeg) (gI σ 46 0 (a3 + 4).toNatClampNeg) σ) (fun v73 s74 => (if Ix (a3 + 1) Ln then (if Ix (a3 + 2) Ln then (if Ix (a3 + 3) Ln then (if Ix (a3 + 4) Ln then (bI (f9_row (gI s74 46 0 (a3 + 1).toNatClampNeg) (gI s74 46 0 (a3 + 2).toNatClampNeg) (gI s74 46 0 (a3 + 3).toNatClampNeg) (gI s74 46 0 (a3 + 4).toNatClampNeg) s74) (fun v75 s76 => (if v73 = v75 then (lL_law_18 Ln n (a3 + 6) s76) else (some (0, s76))))) else none) else none) else none) else none))) else none) else none) else none) else none) else (if ((gI σ 46 0 a3.toNatClampNeg) &&& 31) = 14 then (if Ix (a3 + 1) Ln then (if Ix (a3 + 2) Ln then (if Ix (a3 + 3) Ln then (bI (f8_odds (gI σ 46 0 (a3 + 1).toNatClampNeg) (gI σ 46 0 (a3 + 2).toNatClampNeg) (gI σ 46 0 (a3 + 3).toNatClampNeg) σ) (fun v77 s78 => (if Ix (a3 + 1) Ln then (if Ix (a3 + 2) Ln then (if Ix (a3 + 3) Ln then (bI (f9_odds (gI s78 46 0 (a3 + 1).toNatClampNeg) (gI s78 46 0 (a3 + 2).toNatClampNeg) (gI s78 46 0 (a3 + 3).toNatClampNeg) s78) (fun v79 s80 => (if (lg_cmp v77 v79) = 0 then (lL_law_18 Ln n (a3 + 6) s80) else (some (0, s80))))) else none) else none) else none))) else none) else none) else none) else (if ((gI σ 46 0 a3.toNatClampNeg) &&& 31) = 15 then (if Ix (a3 + 1) Ln then (if Ix (a3 + 2) Ln then (bI (f8_reading (gI σ 46 0 (a3 + 1).toNatClampNeg) (gI σ 46 0 (a3 + 2).toNatClampNeg) σ) (fun v81 s82 => (if Ix (a3 + 1) Ln then (if Ix (a3 + 2) Ln then (bI (f9_reading (gI s82 46 0 (a3 + 1).toNatClampNeg) (gI s82 46 0 (a3 + 2).toNatClampNeg) s82) (fun v83 s84 => (if v81 = v83 then (lL_law_18 Ln n (a3 + 6) s84) else (some (0, s84))))) else none) else none))) else none) else none) else (if ((gI σ 46 0 a3.toNatClampNeg) &&& 31) = 16 then (if Ix (a3 + 1) Ln then (bI (f8_back (gI σ 46 0 (a3 + 1).toNatClampNeg) σ) (fun v85 s86 => (if Ix (a3 + 1) Ln then (bI (f9_back (gI s86 46 0 (a3 + 1).toNatClampNeg) s86) (fun v87 s88 => (if v85 = v87 then (lL_law_18 Ln n (a3 + 6) s88) else (some (0, s88))))) else none))) else none) else (if ((gI σ 46 0 a3.toNatClampNeg) &&& 31) = 17 then (if Ix (a3 + 1) Ln then (bI (f8_last (gI σ 46 0 (a3 + 1).toNatClampNeg) σ) (fun v89 s90 => (if Ix (a3 + 1) Ln then (bI (f9_last (gI s90 46 0 (a3 + 1).toNatClampNeg) s90) (fun v91 s92 => (if v89 = v91 then (lL_law_18 Ln n (a3 + 6) s92) else (some (0, s92))))) else none))) else none) else (if ((gI σ 46 0 a3.toNatClampNeg) &&& 31) = 18 then (bI (f8_laws σ) (fun v93 s94 => (bI (f9_laws s94) (fun v95 s96 => (if v93 = v95 then (lL_law_18 Ln n (a3 + 6) s96) else (some (0, s96))))))) else (if ((gI σ 46 0 a3.toNatClampNeg) &&& 31) = 19 then (bI (f8_never σ) (fun v97 s98 => (bI (f9_never s98) (fun v99 s100 => (if v97 = v99 then (lL_law_18 Ln n (a3 + 6) s100) else (some (0, s100))))))) else (if ((gI σ 46 0 a3.toNatClampNeg) &&& 31) = 20 then (if Ix (a3 + 1) Ln then (if Ix (a3 + 2) Ln then (if Ix (a3 + 3) Ln then (bI (f8_sheet (gI σ 46 0 (a3 + 1).toNatClampNeg) (gI σ 46 0 (a3 + 2).toNatClampNeg) (gI σ 46 0 (a3 + 3).toNatClampNeg) σ) (fun v101 s102 => (if Ix (a3 + 1) Ln then (if Ix (a3 + 2) Ln then (if Ix (a3 + 3) Ln then (bI (f9_sheet (gI s102 46 0 (a3 + 1).toNatClampNeg) (gI s102 46 0 (a3 + 2).toNatClampNeg) (gI s102 46 0 (a3 + 3).toNatClampNeg) s102) (fun v103 s104 => (if v101 = v103 then (lL_law_18 Ln n (a3 + 6) s104) else (some (0, s104))))) else none) else none) else none))) else none) else none) else none) else (if ((gI σ 46 0 a3.toNatClampNeg) &&& 31) = 21 then (if Ix (a3 + 1) Ln then (bI (f8_lose (gI σ 46 0 (a3 + 1).toNatClampNeg) σ) (fun v105 s106 => (if Ix (a3 + 1) Ln then (bI (f9_lose (gI s106 46 0 (a3 + 1).toNatClampNeg) s106) (fun v107 s108 => (if v105 = v107 then (lL_law_18 Ln n (a3 + 6) s108) else (some (0, s108))))) else none))) else none) else (if ((gI σ 46 0 a3.toNatClampNeg) &&& 31) = 22 then (if Ix (a3 + 1) Ln then (if Ix (a3 + 2) Ln then (if Ix (a3 + 3) Ln then (bI (f8_put (gI σ 46 0 (a3 + 1).toNatClampNeg) (gI σ 46 0 (a3 + 2).toNatClampNeg) (gI σ 46 0 (a3 + 3).toNatClampNeg) σ) (fun v109 s110 => (if Ix (a3 + 1) Ln then (if Ix (a3 + 2) Ln then (if Ix (a3 + 3) Ln then (bI (f9_put (gI s110 46 0 (a3 + 1).toNatClampNeg) (gI s110 46 0 (a3 + 2).toNatClampNeg) (gI s110 46 0 (a3 + 3).toNatClampNeg) s110) (fun v111 s112 => (if v109 = v111 then (lL_law_18 Ln n (a3 + 6) s112) else (some (0, s112))))) else none) else none) else none))) else none) else none) else none) else (if ((gI σ 46 0 a3.toNatClampNeg) &&& 31) = 23 then (if Ix (a3 + 1) Ln then (if Ix (a3 + 2) Ln then (if Ix (a3 + 3) Ln then (bI (f8_cell (gI σ 46 0 (a3 + 1).toNatClampNeg) (gI σ 46 0 (a3 + 2).toNatClampNeg) (gI σ 46 0 (a3 + 3).toNatClampNeg) σ) (fun v113 s114 => (if Ix (a3 + 1) Ln then (if Ix (a3 + 2) Ln then (if Ix (a3 + 3) Ln then (bI (f9_cell (gI s114 46 0 (a3 + 1).toNatClampNeg) (gI s114 46 0 (a3 + 2).toNatClampNeg) (gI s114 46 0 (a3 + 3).toNatClampNeg) s114) (fun v115 s116 => (if (lg_cmp v113 v115) = 0 then (lL_law_18 Ln n (a3 + 6) s116) else (some (0, s116))))) else none) else none) else none))) else none) else none) else none) else (if ((gI σ 46 0 a3.toNatClampNeg) &&& 31) = 24 then (if Ix (a3 + 1) Ln then (if Ix (a3 + 2) Ln then (if Ix (a3 + 3) Ln then (if Ix (a3 + 4) Ln then (if Ix (a3 + 5) Ln then (bI (f8_copy (gI σ 46 0 (a3 + 1).toNatClampNeg) (gI σ 46 0 (a3 + 2).toNatClampNeg) (gI σ 46 0 (a3 + 3).toNatClampNeg) (gI σ 46 0 (a3 + 4).toNatClampNeg) (gI σ 46 0 (a3 + 5).toNatClampNeg) σ) (fun v117 s118 => (if Ix (a3 + 1) Ln then (if Ix (a3 + 2) Ln then (if Ix (a3 + 3) Ln then (if Ix (a3 + 4) Ln then (if Ix (a3 + 5) Ln then (bI (f9_copy (gI s118 46 0 (a3 + 1).toNatClampNeg) (gI s118 46 0 (a3 + 2).toNatClampNeg) (gI s118 46 0 (a3 + 3).toNatClampNeg) (gI s118 46 0 (a3 + 4).toNatClampNeg) (gI s118 46 0 (a3 + 5).toNatClampNeg) s118) (fun v119 s120 => (if v117 = v119 then (lL_law_18 Ln n (a3 + 6) s120) else (some (0, s120))))) else none) else none) else none) else none) else none))) else none) else none) else none) else none) else none) else (if ((gI σ 46 0 a3.toNatClampNeg) &&& 31) = 25 then (if Ix (a3 + 1) Ln then (bI (f8_tell (gI σ 46 0 (a3 + 1).toNatClampNeg) σ) (fun v121 s122 => (if Ix (a3 + 1) Ln then (bI (f9_tell (gI s122 46 0 (a3 + 1).toNatClampNeg) s122) (fun v123 s124 => (if v121 = v123 then (lL_law_18 Ln n (a3 + 6) s124) else (some (0, s124))))) else none))) else none) else (if ((gI σ 46 0 a3.toNatClampNeg) &&& 31) = 26 then (if Ix (a3 + 1) Ln then (bI (f8_polish (gI σ 46 0 (a3 + 1).toNatClampNeg) σ) (fun v125 s126 => (if Ix (a3 + 1) Ln then (bI (f9_polish (gI s126 46 0 (a3 + 1).toNatClampNeg) s126) (fun v127 s128 => (if v125 = v127 then (lL_law_18 Ln n (a3 + 6) s128) else (some (0, s128))))) else none))) else none) else (if ((gI σ 46 0 a3.toNatClampNeg) &&& 31) = 27 then (if Ix (a3 + 1) Ln then (if Ix (a3 + 2) Ln then (bI (f8_as (gI σ 46 0 (a3 + 1).toNatClampNeg) (gI σ 46 0 (a3 + 2).toNatClampNeg) σ) (fun v129 s130 => (if Ix (a3 + 1) Ln then (if Ix (a3 + 2) Ln then (bI (f9_as (gI s130 46 0 (a3 + 1).toNatClampNeg) (gI s130 46 0 (a3 + 2).toNatClampNeg) s130) (fun v131 s132 => (if v129 = v131 then (lL_law_18 Ln n (a3 + 6) s132) else (some (0, s132))))) else none) else none))) else none) else none) else (if ((gI σ 46 0 a3.toNatClampNeg) &&& 31) = 28 then (bI (f8_trace σ) (fun v133 s134 => (bI (f9_trace s134) (fun v135 s136 => (if v133 = v135 then (lL_law_18 Ln n (a3 + 6) s136) else (some (0, s136))))))) else (if ((gI σ 46 0 a3.toNatClampNeg) &&& 31) = 29 then (bI (f8_fault σ) (fun v137 s138 => (bI (f9_fault s138) (fun v139 s140 => (if v137 = v139 then (lL_law_18 Ln n (a3 + 6) s140) else (some (0, s140))))))) else (if ((gI σ 46 0 a3.toNatClampNeg) &&& 31) = 30 then (if Ix (a3 + 1) Ln then (bI (f8_many (gI σ 46 0 (a3 + 1).toNatClampNeg) σ) (fun v141 s142 => (if Ix (a3 + 1) Ln then (bI (f9_many (gI s142 46 0 (a3 + 1).toNatClampNeg) s142) (fun v143 s144 => (if v141 = v143 then (lL_law_18 Ln n (a3 + 6) s144) else (some (0, s144))))) else none))) else none) else (lL_law_18 Ln n (a3 + 6) σ)))))))))))))))))))))))))))))))) else none))
set_option maxRecDepth 20000 in
set_option maxHeartbeats 4000000 in
theorem tlL_law_18 {Γ : GG} {K : Int32 × Sto → Prop}  : ∀ (n : Nat) (kc ks : Nat) (_ : kc + 3 * n ≤ 600000) (_ : ks + 6 * n ≤ 7302250) (a3 : Int32) (σ : Sto), Out (lL_law_18 Γ.2.1 n a3 σ) K → M true Γ mL_law 1312 600000 7302250 kc ks (QI K) 18 [some (vq (some (46, 0))), some (vq (some (8, 0))), some (vq (some (9, 0))), some (vi a3)] [] σ := by
  intro n
  induction n with
  | zero => intro kc ks hkc hks a3 σ h; exact absurd h Out_none
  | succ n ih =>
    intro kc ks hkc hks a3 σ h
    unfold lL_law_18 at h
    refine r_iload_n 19 dL_law_18 rfl rfl ?_
    refine r_aload_n 20 dL_law_19 rfl rfl ?_
    refine r_alen (Int32.ofNat Γ.2.1) 21 dL_law_20 rfl (by decide) rfl ?_
    refine r_bipush 6 23 dL_law_21 rfl (by decide) ?_
    refine r_isub 24 dL_law_23 rfl ?_
    refine r_icmp_gt 1153 27 dL_law_24 (by decide) rfl (fun hc => ?_) (fun hc => ?_)
    · replace h := Out_pos hc h
      refine r_iconst 1 1154 dL_law_1153 rfl (by decide) ?_
      exact r_zreturn dL_law_1154 rfl (by decide) (by omega) (by omega) h
    · replace h := Out_neg hc h
      refine r_aload_n 28 dL_law_27 rfl rfl ?_
      refine r_iload_n 29 dL_law_28 rfl rfl ?_
      obtain ⟨hc, h⟩ := Out_grd h
      refine r_iaload a3.toNatClampNeg Γ.2.1 30 dL_law_29 rfl (by decide) rfl rfl hc rfl ?_
      refine r_bipush 31 32 dL_law_30 rfl (by decide) ?_
      refine r_iand 33 dL_law_32 rfl ?_
      by_cases hs0 : ((gI σ 46 0 a3.toNatClampNeg) &&& 31) = 0
      · replace h := Out_pos hs0 h
        refine M_tableIn dL_law_33 (off := 139) (t := 172) (by rw [hs0]; decide) (by rw [hs0]; decide) (by rw [hs0]; decide) (by decide) ?_
        refine r_aload_n 173 dL_law_172 rfl rfl ?_
        refine r_aload_n 174 dL_law_173 rfl rfl ?_
        refine r_iload_n 175 dL_law_174 rfl rfl ?_
        refine r_iconst 1 176 dL_law_175 rfl (by decide) ?_
        refine r_iadd 177 dL_law_176 rfl ?_
        obtain ⟨hc, h⟩ := Out_grd h
        refine r_iaload (a3 + 1).toNatClampNeg Γ.2.1 178 dL_law_177 rfl (by decide) rfl rfl hc rfl ?_
        refine r_aload_n 179 dL_law_178 rfl rfl ?_
        refine r_iload_n 180 dL_law_179 rfl rfl ?_
        refine r_iconst 2 181 dL_law_180 rfl (by decide) ?_
        refine r_iadd 182 dL_law_181 rfl ?_
        obtain ⟨hc, h⟩ := Out_grd h
        refine r_iaload (a3 + 2).toNatClampNeg Γ.2.1 183 dL_law_182 rfl (by decide) rfl rfl hc rfl ?_
        refine r_aload_n 184 dL_law_183 rfl rfl ?_
        refine r_iload_n 185 dL_law_184 rfl rfl ?_
        refine r_iconst 3 186 dL_law_185 rfl (by decide) ?_
        refine r_iadd 187 dL_law_186 rfl ?_
        obtain ⟨hc, h⟩ := Out_grd h
        refine r_iaload (a3 + 3).toNatClampNeg Γ.2.1 188 dL_law_187 rfl (by decide) rfl rfl hc rfl ?_
        refine r_aload_n 189 dL_law_188 rfl rfl ?_
        refine r_iload_n 190 dL_law_189 rfl rfl ?_
        refine r_iconst 4 191 dL_law_190 rfl (by decide) ?_
        refine r_iadd 192 dL_law_191 rfl ?_
        obtain ⟨hc, h⟩ := Out_grd h
        refine r_iaload (a3 + 4).toNatClampNeg Γ.2.1 193 dL_law_192 rfl (by decide) rfl rfl hc rfl ?_
        refine c_AI 3 6 (kc + 3) (ks + 6) [vq (some (8, 0)), vi (gI σ 46 0 (a3 + 1).toNatClampNeg), vi (gI σ 46 0 (a3 + 2).toNatClampNeg), vi (gI σ 46 0 (a3 + 3).toNatClampNeg), vi (gI σ 46 0 (a3 + 4).toNatClampNeg)] [] 196 csL_law_193 rfl h (fun _ h' => ct8_plate h') rfl rfl rfl rfl (by decide) rfl rfl (by omega) (by omega) (fun v21 s22 h => ?_)
        refine r_aload_n 197 dL_law_196 rfl rfl ?_
        refine r_aload_n 198 dL_law_197 rfl rfl ?_
        refine r_iload_n 199 dL_law_198 rfl rfl ?_
        refine r_iconst 1 200 dL_law_199 rfl (by decide) ?_
        refine r_iadd 201 dL_law_200 rfl ?_
        obtain ⟨hc, h⟩ := Out_grd h
        refine r_iaload (a3 + 1).toNatClampNeg Γ.2.1 202 dL_law_201 rfl (by decide) rfl rfl hc rfl ?_
        refine r_aload_n 203 dL_law_202 rfl rfl ?_
        refine r_iload_n 204 dL_law_203 rfl rfl ?_
        refine r_iconst 2 205 dL_law_204 rfl (by decide) ?_
        refine r_iadd 206 dL_law_205 rfl ?_
        obtain ⟨hc, h⟩ := Out_grd h
        refine r_iaload (a3 + 2).toNatClampNeg Γ.2.1 207 dL_law_206 rfl (by decide) rfl rfl hc rfl ?_
        refine r_aload_n 208 dL_law_207 rfl rfl ?_
        refine r_iload_n 209 dL_law_208 rfl rfl ?_
        refine r_iconst 3 210 dL_law_209 rfl (by decide) ?_
        refine r_iadd 211 dL_law_210 rfl ?_
        obtain ⟨hc, h⟩ := Out_grd h
        refine r_iaload (a3 + 3).toNatClampNeg Γ.2.1 212 dL_law_211 rfl (by decide) rfl rfl hc rfl ?_
        refine r_aload_n 213 dL_law_212 rfl rfl ?_
        refine r_iload_n 214 dL_law_213 rfl rfl ?_
        refine r_iconst 4 215 dL_law_214 rfl (by decide) ?_
        refine r_iadd 216 dL_law_215 rfl ?_
        obtain ⟨hc, h⟩ := Out_grd h
        refine r_iaload (a3 + 4).toNatClampNeg Γ.2.1 217 dL_law_216 rfl (by decide) rfl rfl hc rfl ?_
        refine c_I [vq (some (9, 0)), vi (gI s22 46 0 (a3 + 1).toNatClampNeg), vi (gI s22 46 0 (a3 + 2).toNatClampNeg), vi (gI s22 46 0 (a3 + 3).toNatClampNeg), vi (gI s22 46 0 (a3 + 4).toNatClampNeg)] [vi v21] 220 csL_law_217 rfl h (fun _ h' => ct9_plate h') rfl rfl rfl rfl (by decide) (by omega) (by omega) (fun v23 s24 h => ?_)
        refine r_icmp_eq 1147 223 dL_law_220 (by decide) rfl (fun hc => ?_) (fun hc => ?_)
        · replace h := Out_pos hc h
          refine r_iinc 6 [some (vq (some (46, 0))), some (vq (some (8, 0))), some (vq (some (9, 0))), some (vi (a3 + 6))] 1150 dL_law_1147 rfl (by decide) rfl rfl rfl ?_
          refine r_goto 18 dL_law_1150 (by decide) ?_
          exact ih (kc + 3) (ks + 6) (by omega) (by omega) (a3 + 6) s24 h
        · replace h := Out_neg hc h
          refine r_iconst 0 224 dL_law_223 rfl (by decide) ?_
          exact r_zreturn dL_law_224 rfl (by decide) (by omega) (by omega) h
      replace h := Out_neg hs0 h
      by_cases hs1 : ((gI σ 46 0 a3.toNatClampNeg) &&& 31) = 1
      · replace h := Out_pos hs1 h
        refine M_tableIn dL_law_33 (off := 192) (t := 225) (by rw [hs1]; decide) (by rw [hs1]; decide) (by rw [hs1]; decide) (by decide) ?_
        refine r_aload_n 226 dL_law_225 rfl rfl ?_
        refine r_aload_n 227 dL_law_226 rfl rfl ?_
        refine r_iload_n 228 dL_law_227 rfl rfl ?_
        refine r_iconst 1 229 dL_law_228 rfl (by decide) ?_
        refine r_iadd 230 dL_law_229 rfl ?_
        obtain ⟨hc, h⟩ := Out_grd h
        refine r_iaload (a3 + 1).toNatClampNeg Γ.2.1 231 dL_law_230 rfl (by decide) rfl rfl hc rfl ?_
        refine c_I [vq (some (8, 0)), vi (gI σ 46 0 (a3 + 1).toNatClampNeg)] [] 234 csL_law_231 rfl h (fun _ h' => ct8_sign h') rfl rfl rfl rfl (by decide) (by omega) (by omega) (fun v25 s26 h => ?_)
        refine r_aload_n 235 dL_law_234 rfl rfl ?_
        refine r_aload_n 236 dL_law_235 rfl rfl ?_
        refine r_iload_n 237 dL_law_236 rfl rfl ?_
        refine r_iconst 1 238 dL_law_237 rfl (by decide) ?_
        refine r_iadd 239 dL_law_238 rfl ?_
        obtain ⟨hc, h⟩ := Out_grd h
        refine r_iaload (a3 + 1).toNatClampNeg Γ.2.1 240 dL_law_239 rfl (by decide) rfl rfl hc rfl ?_
        refine c_I [vq (some (9, 0)), vi (gI s26 46 0 (a3 + 1).toNatClampNeg)] [vi v25] 243 csL_law_240 rfl h (fun _ h' => ct9_sign h') rfl rfl rfl rfl (by decide) (by omega) (by omega) (fun v27 s28 h => ?_)
        refine r_icmp_eq 1147 246 dL_law_243 (by decide) rfl (fun hc => ?_) (fun hc => ?_)
        · replace h := Out_pos hc h
          refine r_iinc 6 [some (vq (some (46, 0))), some (vq (some (8, 0))), some (vq (some (9, 0))), some (vi (a3 + 6))] 1150 dL_law_1147 rfl (by decide) rfl rfl rfl ?_
          refine r_goto 18 dL_law_1150 (by decide) ?_
          exact ih kc ks (by omega) (by omega) (a3 + 6) s28 h
        · replace h := Out_neg hc h
          refine r_iconst 0 247 dL_law_246 rfl (by decide) ?_
          exact r_zreturn dL_law_247 rfl (by decide) (by omega) (by omega) h
      replace h := Out_neg hs1 h
      by_cases hs2 : ((gI σ 46 0 a3.toNatClampNeg) &&& 31) = 2
      · replace h := Out_pos hs2 h
        refine M_tableIn dL_law_33 (off := 215) (t := 248) (by rw [hs2]; decide) (by rw [hs2]; decide) (by rw [hs2]; decide) (by decide) ?_
        refine r_aload_n 249 dL_law_248 rfl rfl ?_
        refine r_aload_n 250 dL_law_249 rfl rfl ?_
        refine r_iload_n 251 dL_law_250 rfl rfl ?_
        refine r_iconst 1 252 dL_law_251 rfl (by decide) ?_
        refine r_iadd 253 dL_law_252 rfl ?_
        obtain ⟨hc, h⟩ := Out_grd h
        refine r_iaload (a3 + 1).toNatClampNeg Γ.2.1 254 dL_law_253 rfl (by decide) rfl rfl hc rfl ?_
        refine r_aload_n 255 dL_law_254 rfl rfl ?_
        refine r_iload_n 256 dL_law_255 rfl rfl ?_
        refine r_iconst 2 257 dL_law_256 rfl (by decide) ?_
        refine r_iadd 258 dL_law_257 rfl ?_
        obtain ⟨hc, h⟩ := Out_grd h
        refine r_iaload (a3 + 2).toNatClampNeg Γ.2.1 259 dL_law_258 rfl (by decide) rfl rfl hc rfl ?_
        refine c_I [vq (some (8, 0)), vi (gI σ 46 0 (a3 + 1).toNatClampNeg), vi (gI σ 46 0 (a3 + 2).toNatClampNeg)] [] 262 csL_law_259 rfl h (fun _ h' => ct8_set h') rfl rfl rfl rfl (by decide) (by omega) (by omega) (fun v29 s30 h => ?_)
        refine r_aload_n 263 dL_law_262 rfl rfl ?_
        refine r_aload_n 264 dL_law_263 rfl rfl ?_
        refine r_iload_n 265 dL_law_264 rfl rfl ?_
        refine r_iconst 1 266 dL_law_265 rfl (by decide) ?_
        refine r_iadd 267 dL_law_266 rfl ?_
        obtain ⟨hc, h⟩ := Out_grd h
        refine r_iaload (a3 + 1).toNatClampNeg Γ.2.1 268 dL_law_267 rfl (by decide) rfl rfl hc rfl ?_
        refine r_aload_n 269 dL_law_268 rfl rfl ?_
        refine r_iload_n 270 dL_law_269 rfl rfl ?_
        refine r_iconst 2 271 dL_law_270 rfl (by decide) ?_
        refine r_iadd 272 dL_law_271 rfl ?_
        obtain ⟨hc, h⟩ := Out_grd h
        refine r_iaload (a3 + 2).toNatClampNeg Γ.2.1 273 dL_law_272 rfl (by decide) rfl rfl hc rfl ?_
        refine c_I [vq (some (9, 0)), vi (gI s30 46 0 (a3 + 1).toNatClampNeg), vi (gI s30 46 0 (a3 + 2).toNatClampNeg)] [vi v29] 276 csL_law_273 rfl h (fun _ h' => ct9_set h') rfl rfl rfl rfl (by decide) (by omega) (by omega) (fun v31 s32 h => ?_)
        refine r_icmp_eq 1147 279 dL_law_276 (by decide) rfl (fun hc => ?_) (fun hc => ?_)
        · replace h := Out_pos hc h
          refine r_iinc 6 [some (vq (some (46, 0))), some (vq (some (8, 0))), some (vq (some (9, 0))), some (vi (a3 + 6))] 1150 dL_law_1147 rfl (by decide) rfl rfl rfl ?_
          refine r_goto 18 dL_law_1150 (by decide) ?_
          exact ih kc ks (by omega) (by omega) (a3 + 6) s32 h
        · replace h := Out_neg hc h
          refine r_iconst 0 280 dL_law_279 rfl (by decide) ?_
          exact r_zreturn dL_law_280 rfl (by decide) (by omega) (by omega) h
      replace h := Out_neg hs2 h
      by_cases hs3 : ((gI σ 46 0 a3.toNatClampNeg) &&& 31) = 3
      · replace h := Out_pos hs3 h
        refine M_tableIn dL_law_33 (off := 248) (t := 281) (by rw [hs3]; decide) (by rw [hs3]; decide) (by rw [hs3]; decide) (by decide) ?_
        refine r_aload_n 282 dL_law_281 rfl rfl ?_
        refine r_aload_n 283 dL_law_282 rfl rfl ?_
        refine r_iload_n 284 dL_law_283 rfl rfl ?_
        refine r_iconst 1 285 dL_law_284 rfl (by decide) ?_
        refine r_iadd 286 dL_law_285 rfl ?_
        obtain ⟨hc, h⟩ := Out_grd h
        refine r_iaload (a3 + 1).toNatClampNeg Γ.2.1 287 dL_law_286 rfl (by decide) rfl rfl hc rfl ?_
        refine r_aload_n 288 dL_law_287 rfl rfl ?_
        refine r_iload_n 289 dL_law_288 rfl rfl ?_
        refine r_iconst 2 290 dL_law_289 rfl (by decide) ?_
        refine r_iadd 291 dL_law_290 rfl ?_
        obtain ⟨hc, h⟩ := Out_grd h
        refine r_iaload (a3 + 2).toNatClampNeg Γ.2.1 292 dL_law_291 rfl (by decide) rfl rfl hc rfl ?_
        refine c_I [vq (some (8, 0)), vi (gI σ 46 0 (a3 + 1).toNatClampNeg), vi (gI σ 46 0 (a3 + 2).toNatClampNeg)] [] 295 csL_law_292 rfl h (fun _ h' => ct8_ofEater h') rfl rfl rfl rfl (by decide) (by omega) (by omega) (fun v33 s34 h => ?_)
        refine r_aload_n 296 dL_law_295 rfl rfl ?_
        refine r_aload_n 297 dL_law_296 rfl rfl ?_
        refine r_iload_n 298 dL_law_297 rfl rfl ?_
        refine r_iconst 1 299 dL_law_298 rfl (by decide) ?_
        refine r_iadd 300 dL_law_299 rfl ?_
        obtain ⟨hc, h⟩ := Out_grd h
        refine r_iaload (a3 + 1).toNatClampNeg Γ.2.1 301 dL_law_300 rfl (by decide) rfl rfl hc rfl ?_
        refine r_aload_n 302 dL_law_301 rfl rfl ?_
        refine r_iload_n 303 dL_law_302 rfl rfl ?_
        refine r_iconst 2 304 dL_law_303 rfl (by decide) ?_
        refine r_iadd 305 dL_law_304 rfl ?_
        obtain ⟨hc, h⟩ := Out_grd h
        refine r_iaload (a3 + 2).toNatClampNeg Γ.2.1 306 dL_law_305 rfl (by decide) rfl rfl hc rfl ?_
        refine c_I [vq (some (9, 0)), vi (gI s34 46 0 (a3 + 1).toNatClampNeg), vi (gI s34 46 0 (a3 + 2).toNatClampNeg)] [vi v33] 309 csL_law_306 rfl h (fun _ h' => ct9_ofEater h') rfl rfl rfl rfl (by decide) (by omega) (by omega) (fun v35 s36 h => ?_)
        refine r_icmp_eq 1147 312 dL_law_309 (by decide) rfl (fun hc => ?_) (fun hc => ?_)
        · replace h := Out_pos hc h
          refine r_iinc 6 [some (vq (some (46, 0))), some (vq (some (8, 0))), some (vq (some (9, 0))), some (vi (a3 + 6))] 1150 dL_law_1147 rfl (by decide) rfl rfl rfl ?_
          refine r_goto 18 dL_law_1150 (by decide) ?_
          exact ih kc ks (by omega) (by omega) (a3 + 6) s36 h
        · replace h := Out_neg hc h
          refine r_iconst 0 313 dL_law_312 rfl (by decide) ?_
          exact r_zreturn dL_law_313 rfl (by decide) (by omega) (by omega) h
      replace h := Out_neg hs3 h
      by_cases hs4 : ((gI σ 46 0 a3.toNatClampNeg) &&& 31) = 4
      · replace h := Out_pos hs4 h
        refine M_tableIn dL_law_33 (off := 281) (t := 314) (by rw [hs4]; decide) (by rw [hs4]; decide) (by rw [hs4]; decide) (by decide) ?_
        refine r_aload_n 315 dL_law_314 rfl rfl ?_
        refine r_aload_n 316 dL_law_315 rfl rfl ?_
        refine r_iload_n 317 dL_law_316 rfl rfl ?_
        refine r_iconst 1 318 dL_law_317 rfl (by decide) ?_
        refine r_iadd 319 dL_law_318 rfl ?_
        obtain ⟨hc, h⟩ := Out_grd h
        refine r_iaload (a3 + 1).toNatClampNeg Γ.2.1 320 dL_law_319 rfl (by decide) rfl rfl hc rfl ?_
        refine c_I [vq (some (8, 0)), vi (gI σ 46 0 (a3 + 1).toNatClampNeg)] [] 323 csL_law_320 rfl h (fun _ h' => ct8_law h') rfl rfl rfl rfl (by decide) (by omega) (by omega) (fun v37 s38 h => ?_)
        refine r_aload_n 324 dL_law_323 rfl rfl ?_
        refine r_aload_n 325 dL_law_324 rfl rfl ?_
        refine r_iload_n 326 dL_law_325 rfl rfl ?_
        refine r_iconst 1 327 dL_law_326 rfl (by decide) ?_
        refine r_iadd 328 dL_law_327 rfl ?_
        obtain ⟨hc, h⟩ := Out_grd h
        refine r_iaload (a3 + 1).toNatClampNeg Γ.2.1 329 dL_law_328 rfl (by decide) rfl rfl hc rfl ?_
        refine c_I [vq (some (9, 0)), vi (gI s38 46 0 (a3 + 1).toNatClampNeg)] [vi v37] 332 csL_law_329 rfl h (fun _ h' => ct9_law h') rfl rfl rfl rfl (by decide) (by omega) (by omega) (fun v39 s40 h => ?_)
        refine r_icmp_eq 1147 335 dL_law_332 (by decide) rfl (fun hc => ?_) (fun hc => ?_)
        · replace h := Out_pos hc h
          refine r_iinc 6 [some (vq (some (46, 0))), some (vq (some (8, 0))), some (vq (some (9, 0))), some (vi (a3 + 6))] 1150 dL_law_1147 rfl (by decide) rfl rfl rfl ?_
          refine r_goto 18 dL_law_1150 (by decide) ?_
          exact ih kc ks (by omega) (by omega) (a3 + 6) s40 h
        · replace h := Out_neg hc h
          refine r_iconst 0 336 dL_law_335 rfl (by decide) ?_
          exact r_zreturn dL_law_336 rfl (by decide) (by omega) (by omega) h
      replace h := Out_neg hs4 h
      by_cases hs5 : ((gI σ 46 0 a3.toNatClampNeg) &&& 31) = 5
      · replace h := Out_pos hs5 h
        refine M_tableIn dL_law_33 (off := 304) (t := 337) (by rw [hs5]; decide) (by rw [hs5]; decide) (by rw [hs5]; decide) (by decide) ?_
        refine r_aload_n 338 dL_law_337 rfl rfl ?_
        refine r_aload_n 339 dL_law_338 rfl rfl ?_
        refine r_iload_n 340 dL_law_339 rfl rfl ?_
        refine r_iconst 1 341 dL_law_340 rfl (by decide) ?_
        refine r_iadd 342 dL_law_341 rfl ?_
        obtain ⟨hc, h⟩ := Out_grd h
        refine r_iaload (a3 + 1).toNatClampNeg Γ.2.1 343 dL_law_342 rfl (by decide) rfl rfl hc rfl ?_
        refine r_aload_n 344 dL_law_343 rfl rfl ?_
        refine r_iload_n 345 dL_law_344 rfl rfl ?_
        refine r_iconst 2 346 dL_law_345 rfl (by decide) ?_
        refine r_iadd 347 dL_law_346 rfl ?_
        obtain ⟨hc, h⟩ := Out_grd h
        refine r_iaload (a3 + 2).toNatClampNeg Γ.2.1 348 dL_law_347 rfl (by decide) rfl rfl hc rfl ?_
        refine r_aload_n 349 dL_law_348 rfl rfl ?_
        refine r_iload_n 350 dL_law_349 rfl rfl ?_
        refine r_iconst 3 351 dL_law_350 rfl (by decide) ?_
        refine r_iadd 352 dL_law_351 rfl ?_
        obtain ⟨hc, h⟩ := Out_grd h
        refine r_iaload (a3 + 3).toNatClampNeg Γ.2.1 353 dL_law_352 rfl (by decide) rfl rfl hc rfl ?_
        refine c_I [vq (some (8, 0)), vi (gI σ 46 0 (a3 + 1).toNatClampNeg), vi (gI σ 46 0 (a3 + 2).toNatClampNeg), vi (gI σ 46 0 (a3 + 3).toNatClampNeg)] [] 356 csL_law_353 rfl h (fun _ h' => ct8_push h') rfl rfl rfl rfl (by decide) (by omega) (by omega) (fun v41 s42 h => ?_)
        refine r_aload_n 357 dL_law_356 rfl rfl ?_
        refine r_aload_n 358 dL_law_357 rfl rfl ?_
        refine r_iload_n 359 dL_law_358 rfl rfl ?_
        refine r_iconst 1 360 dL_law_359 rfl (by decide) ?_
        refine r_iadd 361 dL_law_360 rfl ?_
        obtain ⟨hc, h⟩ := Out_grd h
        refine r_iaload (a3 + 1).toNatClampNeg Γ.2.1 362 dL_law_361 rfl (by decide) rfl rfl hc rfl ?_
        refine r_aload_n 363 dL_law_362 rfl rfl ?_
        refine r_iload_n 364 dL_law_363 rfl rfl ?_
        refine r_iconst 2 365 dL_law_364 rfl (by decide) ?_
        refine r_iadd 366 dL_law_365 rfl ?_
        obtain ⟨hc, h⟩ := Out_grd h
        refine r_iaload (a3 + 2).toNatClampNeg Γ.2.1 367 dL_law_366 rfl (by decide) rfl rfl hc rfl ?_
        refine r_aload_n 368 dL_law_367 rfl rfl ?_
        refine r_iload_n 369 dL_law_368 rfl rfl ?_
        refine r_iconst 3 370 dL_law_369 rfl (by decide) ?_
        refine r_iadd 371 dL_law_370 rfl ?_
        obtain ⟨hc, h⟩ := Out_grd h
        refine r_iaload (a3 + 3).toNatClampNeg Γ.2.1 372 dL_law_371 rfl (by decide) rfl rfl hc rfl ?_
        refine c_I [vq (some (9, 0)), vi (gI s42 46 0 (a3 + 1).toNatClampNeg), vi (gI s42 46 0 (a3 + 2).toNatClampNeg), vi (gI s42 46 0 (a3 + 3).toNatClampNeg)] [vi v41] 375 csL_law_372 rfl h (fun _ h' => ct9_push h') rfl rfl rfl rfl (by decide) (by omega) (by omega) (fun v43 s44 h => ?_)
        refine r_icmp_eq 1147 378 dL_law_375 (by decide) rfl (fun hc => ?_) (fun hc => ?_)
        · replace h := Out_pos hc h
          refine r_iinc 6 [some (vq (some (46, 0))), some (vq (some (8, 0))), some (vq (some (9, 0))), some (vi (a3 + 6))] 1150 dL_law_1147 rfl (by decide) rfl rfl rfl ?_
          refine r_goto 18 dL_law_1150 (by decide) ?_
          exact ih kc ks (by omega) (by omega) (a3 + 6) s44 h
        · replace h := Out_neg hc h
          refine r_iconst 0 379 dL_law_378 rfl (by decide) ?_
          exact r_zreturn dL_law_379 rfl (by decide) (by omega) (by omega) h
      replace h := Out_neg hs5 h
      by_cases hs6 : ((gI σ 46 0 a3.toNatClampNeg) &&& 31) = 6
      · replace h := Out_pos hs6 h
        refine M_tableIn dL_law_33 (off := 347) (t := 380) (by rw [hs6]; decide) (by rw [hs6]; decide) (by rw [hs6]; decide) (by decide) ?_
        refine r_aload_n 381 dL_law_380 rfl rfl ?_
        refine r_aload_n 382 dL_law_381 rfl rfl ?_
        refine r_iload_n 383 dL_law_382 rfl rfl ?_
        refine r_iconst 1 384 dL_law_383 rfl (by decide) ?_
        refine r_iadd 385 dL_law_384 rfl ?_
        obtain ⟨hc, h⟩ := Out_grd h
        refine r_iaload (a3 + 1).toNatClampNeg Γ.2.1 386 dL_law_385 rfl (by decide) rfl rfl hc rfl ?_
        refine c_I [vq (some (8, 0)), vi (gI σ 46 0 (a3 + 1).toNatClampNeg)] [] 389 csL_law_386 rfl h (fun _ h' => ct8_undo h') rfl rfl rfl rfl (by decide) (by omega) (by omega) (fun v45 s46 h => ?_)
        refine r_aload_n 390 dL_law_389 rfl rfl ?_
        refine r_aload_n 391 dL_law_390 rfl rfl ?_
        refine r_iload_n 392 dL_law_391 rfl rfl ?_
        refine r_iconst 1 393 dL_law_392 rfl (by decide) ?_
        refine r_iadd 394 dL_law_393 rfl ?_
        obtain ⟨hc, h⟩ := Out_grd h
        refine r_iaload (a3 + 1).toNatClampNeg Γ.2.1 395 dL_law_394 rfl (by decide) rfl rfl hc rfl ?_
        refine c_I [vq (some (9, 0)), vi (gI s46 46 0 (a3 + 1).toNatClampNeg)] [vi v45] 398 csL_law_395 rfl h (fun _ h' => ct9_undo h') rfl rfl rfl rfl (by decide) (by omega) (by omega) (fun v47 s48 h => ?_)
        refine r_icmp_eq 1147 401 dL_law_398 (by decide) rfl (fun hc => ?_) (fun hc => ?_)
        · replace h := Out_pos hc h
          refine r_iinc 6 [some (vq (some (46, 0))), some (vq (some (8, 0))), some (vq (some (9, 0))), some (vi (a3 + 6))] 1150 dL_law_1147 rfl (by decide) rfl rfl rfl ?_
          refine r_goto 18 dL_law_1150 (by decide) ?_
          exact ih kc ks (by omega) (by omega) (a3 + 6) s48 h
        · replace h := Out_neg hc h
          refine r_iconst 0 402 dL_law_401 rfl (by decide) ?_
          exact r_zreturn dL_law_402 rfl (by decide) (by omega) (by omega) h
      replace h := Out_neg hs6 h
      by_cases hs7 : ((gI σ 46 0 a3.toNatClampNeg) &&& 31) = 7
      · replace h := Out_pos hs7 h
        refine M_tableIn dL_law_33 (off := 370) (t := 403) (by rw [hs7]; decide) (by rw [hs7]; decide) (by rw [hs7]; decide) (by decide) ?_
        refine r_aload_n 404 dL_law_403 rfl rfl ?_
        refine r_aload_n 405 dL_law_404 rfl rfl ?_
        refine r_iload_n 406 dL_law_405 rfl rfl ?_
        refine r_iconst 1 407 dL_law_406 rfl (by decide) ?_
        refine r_iadd 408 dL_law_407 rfl ?_
        obtain ⟨hc, h⟩ := Out_grd h
        refine r_iaload (a3 + 1).toNatClampNeg Γ.2.1 409 dL_law_408 rfl (by decide) rfl rfl hc rfl ?_
        refine c_I [vq (some (8, 0)), vi (gI σ 46 0 (a3 + 1).toNatClampNeg)] [] 412 csL_law_409 rfl h (fun _ h' => ct8_where h') rfl rfl rfl rfl (by decide) (by omega) (by omega) (fun v49 s50 h => ?_)
        refine r_aload_n 413 dL_law_412 rfl rfl ?_
        refine r_aload_n 414 dL_law_413 rfl rfl ?_
        refine r_iload_n 415 dL_law_414 rfl rfl ?_
        refine r_iconst 1 416 dL_law_415 rfl (by decide) ?_
        refine r_iadd 417 dL_law_416 rfl ?_
        obtain ⟨hc, h⟩ := Out_grd h
        refine r_iaload (a3 + 1).toNatClampNeg Γ.2.1 418 dL_law_417 rfl (by decide) rfl rfl hc rfl ?_
        refine c_I [vq (some (9, 0)), vi (gI s50 46 0 (a3 + 1).toNatClampNeg)] [vi v49] 421 csL_law_418 rfl h (fun _ h' => ct9_where h') rfl rfl rfl rfl (by decide) (by omega) (by omega) (fun v51 s52 h => ?_)
        refine r_icmp_eq 1147 424 dL_law_421 (by decide) rfl (fun hc => ?_) (fun hc => ?_)
        · replace h := Out_pos hc h
          refine r_iinc 6 [some (vq (some (46, 0))), some (vq (some (8, 0))), some (vq (some (9, 0))), some (vi (a3 + 6))] 1150 dL_law_1147 rfl (by decide) rfl rfl rfl ?_
          refine r_goto 18 dL_law_1150 (by decide) ?_
          exact ih kc ks (by omega) (by omega) (a3 + 6) s52 h
        · replace h := Out_neg hc h
          refine r_iconst 0 425 dL_law_424 rfl (by decide) ?_
          exact r_zreturn dL_law_425 rfl (by decide) (by omega) (by omega) h
      replace h := Out_neg hs7 h
      by_cases hs8 : ((gI σ 46 0 a3.toNatClampNeg) &&& 31) = 8
      · replace h := Out_pos hs8 h
        refine M_tableIn dL_law_33 (off := 393) (t := 426) (by rw [hs8]; decide) (by rw [hs8]; decide) (by rw [hs8]; decide) (by decide) ?_
        refine r_aload_n 427 dL_law_426 rfl rfl ?_
        refine r_aload_n 428 dL_law_427 rfl rfl ?_
        refine r_iload_n 429 dL_law_428 rfl rfl ?_
        refine r_iconst 1 430 dL_law_429 rfl (by decide) ?_
        refine r_iadd 431 dL_law_430 rfl ?_
        obtain ⟨hc, h⟩ := Out_grd h
        refine r_iaload (a3 + 1).toNatClampNeg Γ.2.1 432 dL_law_431 rfl (by decide) rfl rfl hc rfl ?_
        refine c_I [vq (some (8, 0)), vi (gI σ 46 0 (a3 + 1).toNatClampNeg)] [] 435 csL_law_432 rfl h (fun _ h' => ct8_peas h') rfl rfl rfl rfl (by decide) (by omega) (by omega) (fun v53 s54 h => ?_)
        refine r_aload_n 436 dL_law_435 rfl rfl ?_
        refine r_aload_n 437 dL_law_436 rfl rfl ?_
        refine r_iload_n 438 dL_law_437 rfl rfl ?_
        refine r_iconst 1 439 dL_law_438 rfl (by decide) ?_
        refine r_iadd 440 dL_law_439 rfl ?_
        obtain ⟨hc, h⟩ := Out_grd h
        refine r_iaload (a3 + 1).toNatClampNeg Γ.2.1 441 dL_law_440 rfl (by decide) rfl rfl hc rfl ?_
        refine c_I [vq (some (9, 0)), vi (gI s54 46 0 (a3 + 1).toNatClampNeg)] [vi v53] 444 csL_law_441 rfl h (fun _ h' => ct9_peas h') rfl rfl rfl rfl (by decide) (by omega) (by omega) (fun v55 s56 h => ?_)
        refine r_icmp_eq 1147 447 dL_law_444 (by decide) rfl (fun hc => ?_) (fun hc => ?_)
        · replace h := Out_pos hc h
          refine r_iinc 6 [some (vq (some (46, 0))), some (vq (some (8, 0))), some (vq (some (9, 0))), some (vi (a3 + 6))] 1150 dL_law_1147 rfl (by decide) rfl rfl rfl ?_
          refine r_goto 18 dL_law_1150 (by decide) ?_
          exact ih kc ks (by omega) (by omega) (a3 + 6) s56 h
        · replace h := Out_neg hc h
          refine r_iconst 0 448 dL_law_447 rfl (by decide) ?_
          exact r_zreturn dL_law_448 rfl (by decide) (by omega) (by omega) h
      replace h := Out_neg hs8 h
      by_cases hs9 : ((gI σ 46 0 a3.toNatClampNeg) &&& 31) = 9
      · replace h := Out_pos hs9 h
        refine M_tableIn dL_law_33 (off := 416) (t := 449) (by rw [hs9]; decide) (by rw [hs9]; decide) (by rw [hs9]; decide) (by decide) ?_
        refine r_aload_n 450 dL_law_449 rfl rfl ?_
        refine r_aload_n 451 dL_law_450 rfl rfl ?_
        refine r_iload_n 452 dL_law_451 rfl rfl ?_
        refine r_iconst 1 453 dL_law_452 rfl (by decide) ?_
        refine r_iadd 454 dL_law_453 rfl ?_
        obtain ⟨hc, h⟩ := Out_grd h
        refine r_iaload (a3 + 1).toNatClampNeg Γ.2.1 455 dL_law_454 rfl (by decide) rfl rfl hc rfl ?_
        refine r_aload_n 456 dL_law_455 rfl rfl ?_
        refine r_iload_n 457 dL_law_456 rfl rfl ?_
        refine r_iconst 2 458 dL_law_457 rfl (by decide) ?_
        refine r_iadd 459 dL_law_458 rfl ?_
        obtain ⟨hc, h⟩ := Out_grd h
        refine r_iaload (a3 + 2).toNatClampNeg Γ.2.1 460 dL_law_459 rfl (by decide) rfl rfl hc rfl ?_
        refine r_aload_n 461 dL_law_460 rfl rfl ?_
        refine r_iload_n 462 dL_law_461 rfl rfl ?_
        refine r_iconst 3 463 dL_law_462 rfl (by decide) ?_
        refine r_iadd 464 dL_law_463 rfl ?_
        obtain ⟨hc, h⟩ := Out_grd h
        refine r_iaload (a3 + 3).toNatClampNeg Γ.2.1 465 dL_law_464 rfl (by decide) rfl rfl hc rfl ?_
        refine r_aload_n 466 dL_law_465 rfl rfl ?_
        refine r_iload_n 467 dL_law_466 rfl rfl ?_
        refine r_iconst 4 468 dL_law_467 rfl (by decide) ?_
        refine r_iadd 469 dL_law_468 rfl ?_
        obtain ⟨hc, h⟩ := Out_grd h
        refine r_iaload (a3 + 4).toNatClampNeg Γ.2.1 470 dL_law_469 rfl (by decide) rfl rfl hc rfl ?_
        refine c_I [vq (some (8, 0)), vi (gI σ 46 0 (a3 + 1).toNatClampNeg), vi (gI σ 46 0 (a3 + 2).toNatClampNeg), vi (gI σ 46 0 (a3 + 3).toNatClampNeg), vi (gI σ 46 0 (a3 + 4).toNatClampNeg)] [] 473 csL_law_470 rfl h (fun _ h' => ct8_would h') rfl rfl rfl rfl (by decide) (by omega) (by omega) (fun v57 s58 h => ?_)
        refine r_aload_n 474 dL_law_473 rfl rfl ?_
        refine r_aload_n 475 dL_law_474 rfl rfl ?_
        refine r_iload_n 476 dL_law_475 rfl rfl ?_
        refine r_iconst 1 477 dL_law_476 rfl (by decide) ?_
        refine r_iadd 478 dL_law_477 rfl ?_
        obtain ⟨hc, h⟩ := Out_grd h
        refine r_iaload (a3 + 1).toNatClampNeg Γ.2.1 479 dL_law_478 rfl (by decide) rfl rfl hc rfl ?_
        refine r_aload_n 480 dL_law_479 rfl rfl ?_
        refine r_iload_n 481 dL_law_480 rfl rfl ?_
        refine r_iconst 2 482 dL_law_481 rfl (by decide) ?_
        refine r_iadd 483 dL_law_482 rfl ?_
        obtain ⟨hc, h⟩ := Out_grd h
        refine r_iaload (a3 + 2).toNatClampNeg Γ.2.1 484 dL_law_483 rfl (by decide) rfl rfl hc rfl ?_
        refine r_aload_n 485 dL_law_484 rfl rfl ?_
        refine r_iload_n 486 dL_law_485 rfl rfl ?_
        refine r_iconst 3 487 dL_law_486 rfl (by decide) ?_
        refine r_iadd 488 dL_law_487 rfl ?_
        obtain ⟨hc, h⟩ := Out_grd h
        refine r_iaload (a3 + 3).toNatClampNeg Γ.2.1 489 dL_law_488 rfl (by decide) rfl rfl hc rfl ?_
        refine r_aload_n 490 dL_law_489 rfl rfl ?_
        refine r_iload_n 491 dL_law_490 rfl rfl ?_
        refine r_iconst 4 492 dL_law_491 rfl (by decide) ?_
        refine r_iadd 493 dL_law_492 rfl ?_
        obtain ⟨hc, h⟩ := Out_grd h
        refine r_iaload (a3 + 4).toNatClampNeg Γ.2.1 494 dL_law_493 rfl (by decide) rfl rfl hc rfl ?_
        refine c_I [vq (some (9, 0)), vi (gI s58 46 0 (a3 + 1).toNatClampNeg), vi (gI s58 46 0 (a3 + 2).toNatClampNeg), vi (gI s58 46 0 (a3 + 3).toNatClampNeg), vi (gI s58 46 0 (a3 + 4).toNatClampNeg)] [vi v57] 497 csL_law_494 rfl h (fun _ h' => ct9_would h') rfl rfl rfl rfl (by decide) (by omega) (by omega) (fun v59 s60 h => ?_)
        refine r_icmp_eq 1147 500 dL_law_497 (by decide) rfl (fun hc => ?_) (fun hc => ?_)
        · replace h := Out_pos hc h
          refine r_iinc 6 [some (vq (some (46, 0))), some (vq (some (8, 0))), some (vq (some (9, 0))), some (vi (a3 + 6))] 1150 dL_law_1147 rfl (by decide) rfl rfl rfl ?_
          refine r_goto 18 dL_law_1150 (by decide) ?_
          exact ih kc ks (by omega) (by omega) (a3 + 6) s60 h
        · replace h := Out_neg hc h
          refine r_iconst 0 501 dL_law_500 rfl (by decide) ?_
          exact r_zreturn dL_law_501 rfl (by decide) (by omega) (by omega) h
      replace h := Out_neg hs9 h
      by_cases hs10 : ((gI σ 46 0 a3.toNatClampNeg) &&& 31) = 10
      · replace h := Out_pos hs10 h
        refine M_tableIn dL_law_33 (off := 469) (t := 502) (by rw [hs10]; decide) (by rw [hs10]; decide) (by rw [hs10]; decide) (by decide) ?_
        refine r_aload_n 503 dL_law_502 rfl rfl ?_
        refine r_aload_n 504 dL_law_503 rfl rfl ?_
        refine r_iload_n 505 dL_law_504 rfl rfl ?_
        refine r_iconst 1 506 dL_law_505 rfl (by decide) ?_
        refine r_iadd 507 dL_law_506 rfl ?_
        obtain ⟨hc, h⟩ := Out_grd h
        refine r_iaload (a3 + 1).toNatClampNeg Γ.2.1 508 dL_law_507 rfl (by decide) rfl rfl hc rfl ?_
        refine r_aload_n 509 dL_law_508 rfl rfl ?_
        refine r_iload_n 510 dL_law_509 rfl rfl ?_
        refine r_iconst 2 511 dL_law_510 rfl (by decide) ?_
        refine r_iadd 512 dL_law_511 rfl ?_
        obtain ⟨hc, h⟩ := Out_grd h
        refine r_iaload (a3 + 2).toNatClampNeg Γ.2.1 513 dL_law_512 rfl (by decide) rfl rfl hc rfl ?_
        refine c_I [vq (some (8, 0)), vi (gI σ 46 0 (a3 + 1).toNatClampNeg), vi (gI σ 46 0 (a3 + 2).toNatClampNeg)] [] 516 csL_law_513 rfl h (fun _ h' => ct8_fewest h') rfl rfl rfl rfl (by decide) (by omega) (by omega) (fun v61 s62 h => ?_)
        refine r_aload_n 517 dL_law_516 rfl rfl ?_
        refine r_aload_n 518 dL_law_517 rfl rfl ?_
        refine r_iload_n 519 dL_law_518 rfl rfl ?_
        refine r_iconst 1 520 dL_law_519 rfl (by decide) ?_
        refine r_iadd 521 dL_law_520 rfl ?_
        obtain ⟨hc, h⟩ := Out_grd h
        refine r_iaload (a3 + 1).toNatClampNeg Γ.2.1 522 dL_law_521 rfl (by decide) rfl rfl hc rfl ?_
        refine r_aload_n 523 dL_law_522 rfl rfl ?_
        refine r_iload_n 524 dL_law_523 rfl rfl ?_
        refine r_iconst 2 525 dL_law_524 rfl (by decide) ?_
        refine r_iadd 526 dL_law_525 rfl ?_
        obtain ⟨hc, h⟩ := Out_grd h
        refine r_iaload (a3 + 2).toNatClampNeg Γ.2.1 527 dL_law_526 rfl (by decide) rfl rfl hc rfl ?_
        refine c_I [vq (some (9, 0)), vi (gI s62 46 0 (a3 + 1).toNatClampNeg), vi (gI s62 46 0 (a3 + 2).toNatClampNeg)] [vi v61] 530 csL_law_527 rfl h (fun _ h' => ct9_fewest h') rfl rfl rfl rfl (by decide) (by omega) (by omega) (fun v63 s64 h => ?_)
        refine r_icmp_eq 1147 533 dL_law_530 (by decide) rfl (fun hc => ?_) (fun hc => ?_)
        · replace h := Out_pos hc h
          refine r_iinc 6 [some (vq (some (46, 0))), some (vq (some (8, 0))), some (vq (some (9, 0))), some (vi (a3 + 6))] 1150 dL_law_1147 rfl (by decide) rfl rfl rfl ?_
          refine r_goto 18 dL_law_1150 (by decide) ?_
          exact ih kc ks (by omega) (by omega) (a3 + 6) s64 h
        · replace h := Out_neg hc h
          refine r_iconst 0 534 dL_law_533 rfl (by decide) ?_
          exact r_zreturn dL_law_534 rfl (by decide) (by omega) (by omega) h
      replace h := Out_neg hs10 h
      by_cases hs11 : ((gI σ 46 0 a3.toNatClampNeg) &&& 31) = 11
      · replace h := Out_pos hs11 h
        refine M_tableIn dL_law_33 (off := 502) (t := 535) (by rw [hs11]; decide) (by rw [hs11]; decide) (by rw [hs11]; decide) (by decide) ?_
        refine r_aload_n 536 dL_law_535 rfl rfl ?_
        refine r_aload_n 537 dL_law_536 rfl rfl ?_
        refine r_iload_n 538 dL_law_537 rfl rfl ?_
        refine r_iconst 1 539 dL_law_538 rfl (by decide) ?_
        refine r_iadd 540 dL_law_539 rfl ?_
        obtain ⟨hc, h⟩ := Out_grd h
        refine r_iaload (a3 + 1).toNatClampNeg Γ.2.1 541 dL_law_540 rfl (by decide) rfl rfl hc rfl ?_
        refine c_I [vq (some (8, 0)), vi (gI σ 46 0 (a3 + 1).toNatClampNeg)] [] 544 csL_law_541 rfl h (fun _ h' => ct8_most h') rfl rfl rfl rfl (by decide) (by omega) (by omega) (fun v65 s66 h => ?_)
        refine r_aload_n 545 dL_law_544 rfl rfl ?_
        refine r_aload_n 546 dL_law_545 rfl rfl ?_
        refine r_iload_n 547 dL_law_546 rfl rfl ?_
        refine r_iconst 1 548 dL_law_547 rfl (by decide) ?_
        refine r_iadd 549 dL_law_548 rfl ?_
        obtain ⟨hc, h⟩ := Out_grd h
        refine r_iaload (a3 + 1).toNatClampNeg Γ.2.1 550 dL_law_549 rfl (by decide) rfl rfl hc rfl ?_
        refine c_I [vq (some (9, 0)), vi (gI s66 46 0 (a3 + 1).toNatClampNeg)] [vi v65] 553 csL_law_550 rfl h (fun _ h' => ct9_most h') rfl rfl rfl rfl (by decide) (by omega) (by omega) (fun v67 s68 h => ?_)
        refine r_icmp_eq 1147 556 dL_law_553 (by decide) rfl (fun hc => ?_) (fun hc => ?_)
        · replace h := Out_pos hc h
          refine r_iinc 6 [some (vq (some (46, 0))), some (vq (some (8, 0))), some (vq (some (9, 0))), some (vi (a3 + 6))] 1150 dL_law_1147 rfl (by decide) rfl rfl rfl ?_
          refine r_goto 18 dL_law_1150 (by decide) ?_
          exact ih kc ks (by omega) (by omega) (a3 + 6) s68 h
        · replace h := Out_neg hc h
          refine r_iconst 0 557 dL_law_556 rfl (by decide) ?_
          exact r_zreturn dL_law_557 rfl (by decide) (by omega) (by omega) h
      replace h := Out_neg hs11 h
      by_cases hs12 : ((gI σ 46 0 a3.toNatClampNeg) &&& 31) = 12
      · replace h := Out_pos hs12 h
        refine M_tableIn dL_law_33 (off := 525) (t := 558) (by rw [hs12]; decide) (by rw [hs12]; decide) (by rw [hs12]; decide) (by decide) ?_
        refine r_aload_n 559 dL_law_558 rfl rfl ?_
        refine r_aload_n 560 dL_law_559 rfl rfl ?_
        refine r_iload_n 561 dL_law_560 rfl rfl ?_
        refine r_iconst 1 562 dL_law_561 rfl (by decide) ?_
        refine r_iadd 563 dL_law_562 rfl ?_
        obtain ⟨hc, h⟩ := Out_grd h
        refine r_iaload (a3 + 1).toNatClampNeg Γ.2.1 564 dL_law_563 rfl (by decide) rfl rfl hc rfl ?_
        refine r_aload_n 565 dL_law_564 rfl rfl ?_
        refine r_iload_n 566 dL_law_565 rfl rfl ?_
        refine r_iconst 2 567 dL_law_566 rfl (by decide) ?_
        refine r_iadd 568 dL_law_567 rfl ?_
        obtain ⟨hc, h⟩ := Out_grd h
        refine r_iaload (a3 + 2).toNatClampNeg Γ.2.1 569 dL_law_568 rfl (by decide) rfl rfl hc rfl ?_
        refine r_aload_n 570 dL_law_569 rfl rfl ?_
        refine r_iload_n 571 dL_law_570 rfl rfl ?_
        refine r_iconst 3 572 dL_law_571 rfl (by decide) ?_
        refine r_iadd 573 dL_law_572 rfl ?_
        obtain ⟨hc, h⟩ := Out_grd h
        refine r_iaload (a3 + 3).toNatClampNeg Γ.2.1 574 dL_law_573 rfl (by decide) rfl rfl hc rfl ?_
        refine c_I [vq (some (8, 0)), vi (gI σ 46 0 (a3 + 1).toNatClampNeg), vi (gI σ 46 0 (a3 + 2).toNatClampNeg), vi (gI σ 46 0 (a3 + 3).toNatClampNeg)] [] 577 csL_law_574 rfl h (fun _ h' => ct8_wall h') rfl rfl rfl rfl (by decide) (by omega) (by omega) (fun v69 s70 h => ?_)
        refine r_aload_n 578 dL_law_577 rfl rfl ?_
        refine r_aload_n 579 dL_law_578 rfl rfl ?_
        refine r_iload_n 580 dL_law_579 rfl rfl ?_
        refine r_iconst 1 581 dL_law_580 rfl (by decide) ?_
        refine r_iadd 582 dL_law_581 rfl ?_
        obtain ⟨hc, h⟩ := Out_grd h
        refine r_iaload (a3 + 1).toNatClampNeg Γ.2.1 583 dL_law_582 rfl (by decide) rfl rfl hc rfl ?_
        refine r_aload_n 584 dL_law_583 rfl rfl ?_
        refine r_iload_n 585 dL_law_584 rfl rfl ?_
        refine r_iconst 2 586 dL_law_585 rfl (by decide) ?_
        refine r_iadd 587 dL_law_586 rfl ?_
        obtain ⟨hc, h⟩ := Out_grd h
        refine r_iaload (a3 + 2).toNatClampNeg Γ.2.1 588 dL_law_587 rfl (by decide) rfl rfl hc rfl ?_
        refine r_aload_n 589 dL_law_588 rfl rfl ?_
        refine r_iload_n 590 dL_law_589 rfl rfl ?_
        refine r_iconst 3 591 dL_law_590 rfl (by decide) ?_
        refine r_iadd 592 dL_law_591 rfl ?_
        obtain ⟨hc, h⟩ := Out_grd h
        refine r_iaload (a3 + 3).toNatClampNeg Γ.2.1 593 dL_law_592 rfl (by decide) rfl rfl hc rfl ?_
        refine c_I [vq (some (9, 0)), vi (gI s70 46 0 (a3 + 1).toNatClampNeg), vi (gI s70 46 0 (a3 + 2).toNatClampNeg), vi (gI s70 46 0 (a3 + 3).toNatClampNeg)] [vi v69] 596 csL_law_593 rfl h (fun _ h' => ct9_wall h') rfl rfl rfl rfl (by decide) (by omega) (by omega) (fun v71 s72 h => ?_)
        refine r_icmp_eq 1147 599 dL_law_596 (by decide) rfl (fun hc => ?_) (fun hc => ?_)
        · replace h := Out_pos hc h
          refine r_iinc 6 [some (vq (some (46, 0))), some (vq (some (8, 0))), some (vq (some (9, 0))), some (vi (a3 + 6))] 1150 dL_law_1147 rfl (by decide) rfl rfl rfl ?_
          refine r_goto 18 dL_law_1150 (by decide) ?_
          exact ih kc ks (by omega) (by omega) (a3 + 6) s72 h
        · replace h := Out_neg hc h
          refine r_iconst 0 600 dL_law_599 rfl (by decide) ?_
          exact r_zreturn dL_law_600 rfl (by decide) (by omega) (by omega) h
      replace h := Out_neg hs12 h
      by_cases hs13 : ((gI σ 46 0 a3.toNatClampNeg) &&& 31) = 13
      · replace h := Out_pos hs13 h
        refine M_tableIn dL_law_33 (off := 568) (t := 601) (by rw [hs13]; decide) (by rw [hs13]; decide) (by rw [hs13]; decide) (by decide) ?_
        refine r_aload_n 602 dL_law_601 rfl rfl ?_
        refine r_aload_n 603 dL_law_602 rfl rfl ?_
        refine r_iload_n 604 dL_law_603 rfl rfl ?_
        refine r_iconst 1 605 dL_law_604 rfl (by decide) ?_
        refine r_iadd 606 dL_law_605 rfl ?_
        obtain ⟨hc, h⟩ := Out_grd h
        refine r_iaload (a3 + 1).toNatClampNeg Γ.2.1 607 dL_law_606 rfl (by decide) rfl rfl hc rfl ?_
        refine r_aload_n 608 dL_law_607 rfl rfl ?_
        refine r_iload_n 609 dL_law_608 rfl rfl ?_
        refine r_iconst 2 610 dL_law_609 rfl (by decide) ?_
        refine r_iadd 611 dL_law_610 rfl ?_
        obtain ⟨hc, h⟩ := Out_grd h
        refine r_iaload (a3 + 2).toNatClampNeg Γ.2.1 612 dL_law_611 rfl (by decide) rfl rfl hc rfl ?_
        refine r_aload_n 613 dL_law_612 rfl rfl ?_
        refine r_iload_n 614 dL_law_613 rfl rfl ?_
        refine r_iconst 3 615 dL_law_614 rfl (by decide) ?_
        refine r_iadd 616 dL_law_615 rfl ?_
        obtain ⟨hc, h⟩ := Out_grd h
        refine r_iaload (a3 + 3).toNatClampNeg Γ.2.1 617 dL_law_616 rfl (by decide) rfl rfl hc rfl ?_
        refine r_aload_n 618 dL_law_617 rfl rfl ?_
        refine r_iload_n 619 dL_law_618 rfl rfl ?_
        refine r_iconst 4 620 dL_law_619 rfl (by decide) ?_
        refine r_iadd 621 dL_law_620 rfl ?_
        obtain ⟨hc, h⟩ := Out_grd h
        refine r_iaload (a3 + 4).toNatClampNeg Γ.2.1 622 dL_law_621 rfl (by decide) rfl rfl hc rfl ?_
        refine c_I [vq (some (8, 0)), vi (gI σ 46 0 (a3 + 1).toNatClampNeg), vi (gI σ 46 0 (a3 + 2).toNatClampNeg), vi (gI σ 46 0 (a3 + 3).toNatClampNeg), vi (gI σ 46 0 (a3 + 4).toNatClampNeg)] [] 625 csL_law_622 rfl h (fun _ h' => ct8_row h') rfl rfl rfl rfl (by decide) (by omega) (by omega) (fun v73 s74 h => ?_)
        refine r_aload_n 626 dL_law_625 rfl rfl ?_
        refine r_aload_n 627 dL_law_626 rfl rfl ?_
        refine r_iload_n 628 dL_law_627 rfl rfl ?_
        refine r_iconst 1 629 dL_law_628 rfl (by decide) ?_
        refine r_iadd 630 dL_law_629 rfl ?_
        obtain ⟨hc, h⟩ := Out_grd h
        refine r_iaload (a3 + 1).toNatClampNeg Γ.2.1 631 dL_law_630 rfl (by decide) rfl rfl hc rfl ?_
        refine r_aload_n 632 dL_law_631 rfl rfl ?_
        refine r_iload_n 633 dL_law_632 rfl rfl ?_
        refine r_iconst 2 634 dL_law_633 rfl (by decide) ?_
        refine r_iadd 635 dL_law_634 rfl ?_
        obtain ⟨hc, h⟩ := Out_grd h
        refine r_iaload (a3 + 2).toNatClampNeg Γ.2.1 636 dL_law_635 rfl (by decide) rfl rfl hc rfl ?_
        refine r_aload_n 637 dL_law_636 rfl rfl ?_
        refine r_iload_n 638 dL_law_637 rfl rfl ?_
        refine r_iconst 3 639 dL_law_638 rfl (by decide) ?_
        refine r_iadd 640 dL_law_639 rfl ?_
        obtain ⟨hc, h⟩ := Out_grd h
        refine r_iaload (a3 + 3).toNatClampNeg Γ.2.1 641 dL_law_640 rfl (by decide) rfl rfl hc rfl ?_
        refine r_aload_n 642 dL_law_641 rfl rfl ?_
        refine r_iload_n 643 dL_law_642 rfl rfl ?_
        refine r_iconst 4 644 dL_law_643 rfl (by decide) ?_
        refine r_iadd 645 dL_law_644 rfl ?_
        obtain ⟨hc, h⟩ := Out_grd h
        refine r_iaload (a3 + 4).toNatClampNeg Γ.2.1 646 dL_law_645 rfl (by decide) rfl rfl hc rfl ?_
        refine c_I [vq (some (9, 0)), vi (gI s74 46 0 (a3 + 1).toNatClampNeg), vi (gI s74 46 0 (a3 + 2).toNatClampNeg), vi (gI s74 46 0 (a3 + 3).toNatClampNeg), vi (gI s74 46 0 (a3 + 4).toNatClampNeg)] [vi v73] 649 csL_law_646 rfl h (fun _ h' => ct9_row h') rfl rfl rfl rfl (by decide) (by omega) (by omega) (fun v75 s76 h => ?_)
        refine r_icmp_eq 1147 652 dL_law_649 (by decide) rfl (fun hc => ?_) (fun hc => ?_)
        · replace h := Out_pos hc h
          refine r_iinc 6 [some (vq (some (46, 0))), some (vq (some (8, 0))), some (vq (some (9, 0))), some (vi (a3 + 6))] 1150 dL_law_1147 rfl (by decide) rfl rfl rfl ?_
          refine r_goto 18 dL_law_1150 (by decide) ?_
          exact ih kc ks (by omega) (by omega) (a3 + 6) s76 h
        · replace h := Out_neg hc h
          refine r_iconst 0 653 dL_law_652 rfl (by decide) ?_
          exact r_zreturn dL_law_653 rfl (by decide) (by omega) (by omega) h
      replace h := Out_neg hs13 h
      by_cases hs14 : ((gI σ 46 0 a3.toNatClampNeg) &&& 31) = 14
      · replace h := Out_pos hs14 h
        refine M_tableIn dL_law_33 (off := 621) (t := 654) (by rw [hs14]; decide) (by rw [hs14]; decide) (by rw [hs14]; decide) (by decide) ?_
        refine r_aload_n 655 dL_law_654 rfl rfl ?_
        refine r_aload_n 656 dL_law_655 rfl rfl ?_
        refine r_iload_n 657 dL_law_656 rfl rfl ?_
        refine r_iconst 1 658 dL_law_657 rfl (by decide) ?_
        refine r_iadd 659 dL_law_658 rfl ?_
        obtain ⟨hc, h⟩ := Out_grd h
        refine r_iaload (a3 + 1).toNatClampNeg Γ.2.1 660 dL_law_659 rfl (by decide) rfl rfl hc rfl ?_
        refine r_aload_n 661 dL_law_660 rfl rfl ?_
        refine r_iload_n 662 dL_law_661 rfl rfl ?_
        refine r_iconst 2 663 dL_law_662 rfl (by decide) ?_
        refine r_iadd 664 dL_law_663 rfl ?_
        obtain ⟨hc, h⟩ := Out_grd h
        refine r_iaload (a3 + 2).toNatClampNeg Γ.2.1 665 dL_law_664 rfl (by decide) rfl rfl hc rfl ?_
        refine r_aload_n 666 dL_law_665 rfl rfl ?_
        refine r_iload_n 667 dL_law_666 rfl rfl ?_
        refine r_iconst 3 668 dL_law_667 rfl (by decide) ?_
        refine r_iadd 669 dL_law_668 rfl ?_
        obtain ⟨hc, h⟩ := Out_grd h
        refine r_iaload (a3 + 3).toNatClampNeg Γ.2.1 670 dL_law_669 rfl (by decide) rfl rfl hc rfl ?_
        refine c_L [vq (some (8, 0)), vi (gI σ 46 0 (a3 + 1).toNatClampNeg), vi (gI σ 46 0 (a3 + 2).toNatClampNeg), vi (gI σ 46 0 (a3 + 3).toNatClampNeg)] [] 673 csL_law_670 rfl h (fun _ h' => ct8_odds h') rfl rfl rfl rfl (by decide) (by omega) (by omega) (fun v77 s78 h => ?_)
        refine r_aload_n 674 dL_law_673 rfl rfl ?_
        refine r_aload_n 675 dL_law_674 rfl rfl ?_
        refine r_iload_n 676 dL_law_675 rfl rfl ?_
        refine r_iconst 1 677 dL_law_676 rfl (by decide) ?_
        refine r_iadd 678 dL_law_677 rfl ?_
        obtain ⟨hc, h⟩ := Out_grd h
        refine r_iaload (a3 + 1).toNatClampNeg Γ.2.1 679 dL_law_678 rfl (by decide) rfl rfl hc rfl ?_
        refine r_aload_n 680 dL_law_679 rfl rfl ?_
        refine r_iload_n 681 dL_law_680 rfl rfl ?_
        refine r_iconst 2 682 dL_law_681 rfl (by decide) ?_
        refine r_iadd 683 dL_law_682 rfl ?_
        obtain ⟨hc, h⟩ := Out_grd h
        refine r_iaload (a3 + 2).toNatClampNeg Γ.2.1 684 dL_law_683 rfl (by decide) rfl rfl hc rfl ?_
        refine r_aload_n 685 dL_law_684 rfl rfl ?_
        refine r_iload_n 686 dL_law_685 rfl rfl ?_
        refine r_iconst 3 687 dL_law_686 rfl (by decide) ?_
        refine r_iadd 688 dL_law_687 rfl ?_
        obtain ⟨hc, h⟩ := Out_grd h
        refine r_iaload (a3 + 3).toNatClampNeg Γ.2.1 689 dL_law_688 rfl (by decide) rfl rfl hc rfl ?_
        refine c_L [vq (some (9, 0)), vi (gI s78 46 0 (a3 + 1).toNatClampNeg), vi (gI s78 46 0 (a3 + 2).toNatClampNeg), vi (gI s78 46 0 (a3 + 3).toNatClampNeg)] [vl v77] 692 csL_law_689 rfl h (fun _ h' => ct9_odds h') rfl rfl rfl rfl (by decide) (by omega) (by omega) (fun v79 s80 h => ?_)
        refine r_lcmp 693 dL_law_692 rfl ?_
        refine r_if_eq 1147 696 dL_law_693 (by decide) rfl (fun hc => ?_) (fun hc => ?_)
        · replace h := Out_pos hc h
          refine r_iinc 6 [some (vq (some (46, 0))), some (vq (some (8, 0))), some (vq (some (9, 0))), some (vi (a3 + 6))] 1150 dL_law_1147 rfl (by decide) rfl rfl rfl ?_
          refine r_goto 18 dL_law_1150 (by decide) ?_
          exact ih kc ks (by omega) (by omega) (a3 + 6) s80 h
        · replace h := Out_neg hc h
          refine r_iconst 0 697 dL_law_696 rfl (by decide) ?_
          exact r_zreturn dL_law_697 rfl (by decide) (by omega) (by omega) h
      replace h := Out_neg hs14 h
      by_cases hs15 : ((gI σ 46 0 a3.toNatClampNeg) &&& 31) = 15
      · replace h := Out_pos hs15 h
        refine M_tableIn dL_law_33 (off := 665) (t := 698) (by rw [hs15]; decide) (by rw [hs15]; decide) (by rw [hs15]; decide) (by decide) ?_
        refine r_aload_n 699 dL_law_698 rfl rfl ?_
        refine r_aload_n 700 dL_law_699 rfl rfl ?_
        refine r_iload_n 701 dL_law_700 rfl rfl ?_
        refine r_iconst 1 702 dL_law_701 rfl (by decide) ?_
        refine r_iadd 703 dL_law_702 rfl ?_
        obtain ⟨hc, h⟩ := Out_grd h
        refine r_iaload (a3 + 1).toNatClampNeg Γ.2.1 704 dL_law_703 rfl (by decide) rfl rfl hc rfl ?_
        refine r_aload_n 705 dL_law_704 rfl rfl ?_
        refine r_iload_n 706 dL_law_705 rfl rfl ?_
        refine r_iconst 2 707 dL_law_706 rfl (by decide) ?_
        refine r_iadd 708 dL_law_707 rfl ?_
        obtain ⟨hc, h⟩ := Out_grd h
        refine r_iaload (a3 + 2).toNatClampNeg Γ.2.1 709 dL_law_708 rfl (by decide) rfl rfl hc rfl ?_
        refine c_I [vq (some (8, 0)), vi (gI σ 46 0 (a3 + 1).toNatClampNeg), vi (gI σ 46 0 (a3 + 2).toNatClampNeg)] [] 712 csL_law_709 rfl h (fun _ h' => ct8_reading h') rfl rfl rfl rfl (by decide) (by omega) (by omega) (fun v81 s82 h => ?_)
        refine r_aload_n 713 dL_law_712 rfl rfl ?_
        refine r_aload_n 714 dL_law_713 rfl rfl ?_
        refine r_iload_n 715 dL_law_714 rfl rfl ?_
        refine r_iconst 1 716 dL_law_715 rfl (by decide) ?_
        refine r_iadd 717 dL_law_716 rfl ?_
        obtain ⟨hc, h⟩ := Out_grd h
        refine r_iaload (a3 + 1).toNatClampNeg Γ.2.1 718 dL_law_717 rfl (by decide) rfl rfl hc rfl ?_
        refine r_aload_n 719 dL_law_718 rfl rfl ?_
        refine r_iload_n 720 dL_law_719 rfl rfl ?_
        refine r_iconst 2 721 dL_law_720 rfl (by decide) ?_
        refine r_iadd 722 dL_law_721 rfl ?_
        obtain ⟨hc, h⟩ := Out_grd h
        refine r_iaload (a3 + 2).toNatClampNeg Γ.2.1 723 dL_law_722 rfl (by decide) rfl rfl hc rfl ?_
        refine c_I [vq (some (9, 0)), vi (gI s82 46 0 (a3 + 1).toNatClampNeg), vi (gI s82 46 0 (a3 + 2).toNatClampNeg)] [vi v81] 726 csL_law_723 rfl h (fun _ h' => ct9_reading h') rfl rfl rfl rfl (by decide) (by omega) (by omega) (fun v83 s84 h => ?_)
        refine r_icmp_eq 1147 729 dL_law_726 (by decide) rfl (fun hc => ?_) (fun hc => ?_)
        · replace h := Out_pos hc h
          refine r_iinc 6 [some (vq (some (46, 0))), some (vq (some (8, 0))), some (vq (some (9, 0))), some (vi (a3 + 6))] 1150 dL_law_1147 rfl (by decide) rfl rfl rfl ?_
          refine r_goto 18 dL_law_1150 (by decide) ?_
          exact ih kc ks (by omega) (by omega) (a3 + 6) s84 h
        · replace h := Out_neg hc h
          refine r_iconst 0 730 dL_law_729 rfl (by decide) ?_
          exact r_zreturn dL_law_730 rfl (by decide) (by omega) (by omega) h
      replace h := Out_neg hs15 h
      by_cases hs16 : ((gI σ 46 0 a3.toNatClampNeg) &&& 31) = 16
      · replace h := Out_pos hs16 h
        refine M_tableIn dL_law_33 (off := 698) (t := 731) (by rw [hs16]; decide) (by rw [hs16]; decide) (by rw [hs16]; decide) (by decide) ?_
        refine r_aload_n 732 dL_law_731 rfl rfl ?_
        refine r_aload_n 733 dL_law_732 rfl rfl ?_
        refine r_iload_n 734 dL_law_733 rfl rfl ?_
        refine r_iconst 1 735 dL_law_734 rfl (by decide) ?_
        refine r_iadd 736 dL_law_735 rfl ?_
        obtain ⟨hc, h⟩ := Out_grd h
        refine r_iaload (a3 + 1).toNatClampNeg Γ.2.1 737 dL_law_736 rfl (by decide) rfl rfl hc rfl ?_
        refine c_I [vq (some (8, 0)), vi (gI σ 46 0 (a3 + 1).toNatClampNeg)] [] 740 csL_law_737 rfl h (fun _ h' => ct8_back h') rfl rfl rfl rfl (by decide) (by omega) (by omega) (fun v85 s86 h => ?_)
        refine r_aload_n 741 dL_law_740 rfl rfl ?_
        refine r_aload_n 742 dL_law_741 rfl rfl ?_
        refine r_iload_n 743 dL_law_742 rfl rfl ?_
        refine r_iconst 1 744 dL_law_743 rfl (by decide) ?_
        refine r_iadd 745 dL_law_744 rfl ?_
        obtain ⟨hc, h⟩ := Out_grd h
        refine r_iaload (a3 + 1).toNatClampNeg Γ.2.1 746 dL_law_745 rfl (by decide) rfl rfl hc rfl ?_
        refine c_I [vq (some (9, 0)), vi (gI s86 46 0 (a3 + 1).toNatClampNeg)] [vi v85] 749 csL_law_746 rfl h (fun _ h' => ct9_back h') rfl rfl rfl rfl (by decide) (by omega) (by omega) (fun v87 s88 h => ?_)
        refine r_icmp_eq 1147 752 dL_law_749 (by decide) rfl (fun hc => ?_) (fun hc => ?_)
        · replace h := Out_pos hc h
          refine r_iinc 6 [some (vq (some (46, 0))), some (vq (some (8, 0))), some (vq (some (9, 0))), some (vi (a3 + 6))] 1150 dL_law_1147 rfl (by decide) rfl rfl rfl ?_
          refine r_goto 18 dL_law_1150 (by decide) ?_
          exact ih kc ks (by omega) (by omega) (a3 + 6) s88 h
        · replace h := Out_neg hc h
          refine r_iconst 0 753 dL_law_752 rfl (by decide) ?_
          exact r_zreturn dL_law_753 rfl (by decide) (by omega) (by omega) h
      replace h := Out_neg hs16 h
      by_cases hs17 : ((gI σ 46 0 a3.toNatClampNeg) &&& 31) = 17
      · replace h := Out_pos hs17 h
        refine M_tableIn dL_law_33 (off := 721) (t := 754) (by rw [hs17]; decide) (by rw [hs17]; decide) (by rw [hs17]; decide) (by decide) ?_
        refine r_aload_n 755 dL_law_754 rfl rfl ?_
        refine r_aload_n 756 dL_law_755 rfl rfl ?_
        refine r_iload_n 757 dL_law_756 rfl rfl ?_
        refine r_iconst 1 758 dL_law_757 rfl (by decide) ?_
        refine r_iadd 759 dL_law_758 rfl ?_
        obtain ⟨hc, h⟩ := Out_grd h
        refine r_iaload (a3 + 1).toNatClampNeg Γ.2.1 760 dL_law_759 rfl (by decide) rfl rfl hc rfl ?_
        refine c_I [vq (some (8, 0)), vi (gI σ 46 0 (a3 + 1).toNatClampNeg)] [] 763 csL_law_760 rfl h (fun _ h' => ct8_last h') rfl rfl rfl rfl (by decide) (by omega) (by omega) (fun v89 s90 h => ?_)
        refine r_aload_n 764 dL_law_763 rfl rfl ?_
        refine r_aload_n 765 dL_law_764 rfl rfl ?_
        refine r_iload_n 766 dL_law_765 rfl rfl ?_
        refine r_iconst 1 767 dL_law_766 rfl (by decide) ?_
        refine r_iadd 768 dL_law_767 rfl ?_
        obtain ⟨hc, h⟩ := Out_grd h
        refine r_iaload (a3 + 1).toNatClampNeg Γ.2.1 769 dL_law_768 rfl (by decide) rfl rfl hc rfl ?_
        refine c_I [vq (some (9, 0)), vi (gI s90 46 0 (a3 + 1).toNatClampNeg)] [vi v89] 772 csL_law_769 rfl h (fun _ h' => ct9_last h') rfl rfl rfl rfl (by decide) (by omega) (by omega) (fun v91 s92 h => ?_)
        refine r_icmp_eq 1147 775 dL_law_772 (by decide) rfl (fun hc => ?_) (fun hc => ?_)
        · replace h := Out_pos hc h
          refine r_iinc 6 [some (vq (some (46, 0))), some (vq (some (8, 0))), some (vq (some (9, 0))), some (vi (a3 + 6))] 1150 dL_law_1147 rfl (by decide) rfl rfl rfl ?_
          refine r_goto 18 dL_law_1150 (by decide) ?_
          exact ih kc ks (by omega) (by omega) (a3 + 6) s92 h
        · replace h := Out_neg hc h
          refine r_iconst 0 776 dL_law_775 rfl (by decide) ?_
          exact r_zreturn dL_law_776 rfl (by decide) (by omega) (by omega) h
      replace h := Out_neg hs17 h
      by_cases hs18 : ((gI σ 46 0 a3.toNatClampNeg) &&& 31) = 18
      · replace h := Out_pos hs18 h
        refine M_tableIn dL_law_33 (off := 744) (t := 777) (by rw [hs18]; decide) (by rw [hs18]; decide) (by rw [hs18]; decide) (by decide) ?_
        refine r_aload_n 778 dL_law_777 rfl rfl ?_
        refine c_I [vq (some (8, 0))] [] 781 csL_law_778 rfl h (fun _ h' => ct8_laws h') rfl rfl rfl rfl (by decide) (by omega) (by omega) (fun v93 s94 h => ?_)
        refine r_aload_n 782 dL_law_781 rfl rfl ?_
        refine c_I [vq (some (9, 0))] [vi v93] 785 csL_law_782 rfl h (fun _ h' => ct9_laws h') rfl rfl rfl rfl (by decide) (by omega) (by omega) (fun v95 s96 h => ?_)
        refine r_icmp_eq 1147 788 dL_law_785 (by decide) rfl (fun hc => ?_) (fun hc => ?_)
        · replace h := Out_pos hc h
          refine r_iinc 6 [some (vq (some (46, 0))), some (vq (some (8, 0))), some (vq (some (9, 0))), some (vi (a3 + 6))] 1150 dL_law_1147 rfl (by decide) rfl rfl rfl ?_
          refine r_goto 18 dL_law_1150 (by decide) ?_
          exact ih kc ks (by omega) (by omega) (a3 + 6) s96 h
        · replace h := Out_neg hc h
          refine r_iconst 0 789 dL_law_788 rfl (by decide) ?_
          exact r_zreturn dL_law_789 rfl (by decide) (by omega) (by omega) h
      replace h := Out_neg hs18 h
      by_cases hs19 : ((gI σ 46 0 a3.toNatClampNeg) &&& 31) = 19
      · replace h := Out_pos hs19 h
        refine M_tableIn dL_law_33 (off := 757) (t := 790) (by rw [hs19]; decide) (by rw [hs19]; decide) (by rw [hs19]; decide) (by decide) ?_
        refine r_aload_n 791 dL_law_790 rfl rfl ?_
        refine c_I [vq (some (8, 0))] [] 794 csL_law_791 rfl h (fun _ h' => ct8_never h') rfl rfl rfl rfl (by decide) (by omega) (by omega) (fun v97 s98 h => ?_)
        refine r_aload_n 795 dL_law_794 rfl rfl ?_
        refine c_I [vq (some (9, 0))] [vi v97] 798 csL_law_795 rfl h (fun _ h' => ct9_never h') rfl rfl rfl rfl (by decide) (by omega) (by omega) (fun v99 s100 h => ?_)
        refine r_icmp_eq 1147 801 dL_law_798 (by decide) rfl (fun hc => ?_) (fun hc => ?_)
        · replace h := Out_pos hc h
          refine r_iinc 6 [some (vq (some (46, 0))), some (vq (some (8, 0))), some (vq (some (9, 0))), some (vi (a3 + 6))] 1150 dL_law_1147 rfl (by decide) rfl rfl rfl ?_
          refine r_goto 18 dL_law_1150 (by decide) ?_
          exact ih kc ks (by omega) (by omega) (a3 + 6) s100 h
        · replace h := Out_neg hc h
          refine r_iconst 0 802 dL_law_801 rfl (by decide) ?_
          exact r_zreturn dL_law_802 rfl (by decide) (by omega) (by omega) h
      replace h := Out_neg hs19 h
      by_cases hs20 : ((gI σ 46 0 a3.toNatClampNeg) &&& 31) = 20
      · replace h := Out_pos hs20 h
        refine M_tableIn dL_law_33 (off := 770) (t := 803) (by rw [hs20]; decide) (by rw [hs20]; decide) (by rw [hs20]; decide) (by decide) ?_
        refine r_aload_n 804 dL_law_803 rfl rfl ?_
        refine r_aload_n 805 dL_law_804 rfl rfl ?_
        refine r_iload_n 806 dL_law_805 rfl rfl ?_
        refine r_iconst 1 807 dL_law_806 rfl (by decide) ?_
        refine r_iadd 808 dL_law_807 rfl ?_
        obtain ⟨hc, h⟩ := Out_grd h
        refine r_iaload (a3 + 1).toNatClampNeg Γ.2.1 809 dL_law_808 rfl (by decide) rfl rfl hc rfl ?_
        refine r_aload_n 810 dL_law_809 rfl rfl ?_
        refine r_iload_n 811 dL_law_810 rfl rfl ?_
        refine r_iconst 2 812 dL_law_811 rfl (by decide) ?_
        refine r_iadd 813 dL_law_812 rfl ?_
        obtain ⟨hc, h⟩ := Out_grd h
        refine r_iaload (a3 + 2).toNatClampNeg Γ.2.1 814 dL_law_813 rfl (by decide) rfl rfl hc rfl ?_
        refine r_aload_n 815 dL_law_814 rfl rfl ?_
        refine r_iload_n 816 dL_law_815 rfl rfl ?_
        refine r_iconst 3 817 dL_law_816 rfl (by decide) ?_
        refine r_iadd 818 dL_law_817 rfl ?_
        obtain ⟨hc, h⟩ := Out_grd h
        refine r_iaload (a3 + 3).toNatClampNeg Γ.2.1 819 dL_law_818 rfl (by decide) rfl rfl hc rfl ?_
        refine c_I [vq (some (8, 0)), vi (gI σ 46 0 (a3 + 1).toNatClampNeg), vi (gI σ 46 0 (a3 + 2).toNatClampNeg), vi (gI σ 46 0 (a3 + 3).toNatClampNeg)] [] 822 csL_law_819 rfl h (fun _ h' => ct8_sheet h') rfl rfl rfl rfl (by decide) (by omega) (by omega) (fun v101 s102 h => ?_)
        refine r_aload_n 823 dL_law_822 rfl rfl ?_
        refine r_aload_n 824 dL_law_823 rfl rfl ?_
        refine r_iload_n 825 dL_law_824 rfl rfl ?_
        refine r_iconst 1 826 dL_law_825 rfl (by decide) ?_
        refine r_iadd 827 dL_law_826 rfl ?_
        obtain ⟨hc, h⟩ := Out_grd h
        refine r_iaload (a3 + 1).toNatClampNeg Γ.2.1 828 dL_law_827 rfl (by decide) rfl rfl hc rfl ?_
        refine r_aload_n 829 dL_law_828 rfl rfl ?_
        refine r_iload_n 830 dL_law_829 rfl rfl ?_
        refine r_iconst 2 831 dL_law_830 rfl (by decide) ?_
        refine r_iadd 832 dL_law_831 rfl ?_
        obtain ⟨hc, h⟩ := Out_grd h
        refine r_iaload (a3 + 2).toNatClampNeg Γ.2.1 833 dL_law_832 rfl (by decide) rfl rfl hc rfl ?_
        refine r_aload_n 834 dL_law_833 rfl rfl ?_
        refine r_iload_n 835 dL_law_834 rfl rfl ?_
        refine r_iconst 3 836 dL_law_835 rfl (by decide) ?_
        refine r_iadd 837 dL_law_836 rfl ?_
        obtain ⟨hc, h⟩ := Out_grd h
        refine r_iaload (a3 + 3).toNatClampNeg Γ.2.1 838 dL_law_837 rfl (by decide) rfl rfl hc rfl ?_
        refine c_I [vq (some (9, 0)), vi (gI s102 46 0 (a3 + 1).toNatClampNeg), vi (gI s102 46 0 (a3 + 2).toNatClampNeg), vi (gI s102 46 0 (a3 + 3).toNatClampNeg)] [vi v101] 841 csL_law_838 rfl h (fun _ h' => ct9_sheet h') rfl rfl rfl rfl (by decide) (by omega) (by omega) (fun v103 s104 h => ?_)
        refine r_icmp_eq 1147 844 dL_law_841 (by decide) rfl (fun hc => ?_) (fun hc => ?_)
        · replace h := Out_pos hc h
          refine r_iinc 6 [some (vq (some (46, 0))), some (vq (some (8, 0))), some (vq (some (9, 0))), some (vi (a3 + 6))] 1150 dL_law_1147 rfl (by decide) rfl rfl rfl ?_
          refine r_goto 18 dL_law_1150 (by decide) ?_
          exact ih kc ks (by omega) (by omega) (a3 + 6) s104 h
        · replace h := Out_neg hc h
          refine r_iconst 0 845 dL_law_844 rfl (by decide) ?_
          exact r_zreturn dL_law_845 rfl (by decide) (by omega) (by omega) h
      replace h := Out_neg hs20 h
      by_cases hs21 : ((gI σ 46 0 a3.toNatClampNeg) &&& 31) = 21
      · replace h := Out_pos hs21 h
        refine M_tableIn dL_law_33 (off := 813) (t := 846) (by rw [hs21]; decide) (by rw [hs21]; decide) (by rw [hs21]; decide) (by decide) ?_
        refine r_aload_n 847 dL_law_846 rfl rfl ?_
        refine r_aload_n 848 dL_law_847 rfl rfl ?_
        refine r_iload_n 849 dL_law_848 rfl rfl ?_
        refine r_iconst 1 850 dL_law_849 rfl (by decide) ?_
        refine r_iadd 851 dL_law_850 rfl ?_
        obtain ⟨hc, h⟩ := Out_grd h
        refine r_iaload (a3 + 1).toNatClampNeg Γ.2.1 852 dL_law_851 rfl (by decide) rfl rfl hc rfl ?_
        refine c_I [vq (some (8, 0)), vi (gI σ 46 0 (a3 + 1).toNatClampNeg)] [] 855 csL_law_852 rfl h (fun _ h' => ct8_lose h') rfl rfl rfl rfl (by decide) (by omega) (by omega) (fun v105 s106 h => ?_)
        refine r_aload_n 856 dL_law_855 rfl rfl ?_
        refine r_aload_n 857 dL_law_856 rfl rfl ?_
        refine r_iload_n 858 dL_law_857 rfl rfl ?_
        refine r_iconst 1 859 dL_law_858 rfl (by decide) ?_
        refine r_iadd 860 dL_law_859 rfl ?_
        obtain ⟨hc, h⟩ := Out_grd h
        refine r_iaload (a3 + 1).toNatClampNeg Γ.2.1 861 dL_law_860 rfl (by decide) rfl rfl hc rfl ?_
        refine c_I [vq (some (9, 0)), vi (gI s106 46 0 (a3 + 1).toNatClampNeg)] [vi v105] 864 csL_law_861 rfl h (fun _ h' => ct9_lose h') rfl rfl rfl rfl (by decide) (by omega) (by omega) (fun v107 s108 h => ?_)
        refine r_icmp_eq 1147 867 dL_law_864 (by decide) rfl (fun hc => ?_) (fun hc => ?_)
        · replace h := Out_pos hc h
          refine r_iinc 6 [some (vq (some (46, 0))), some (vq (some (8, 0))), some (vq (some (9, 0))), some (vi (a3 + 6))] 1150 dL_law_1147 rfl (by decide) rfl rfl rfl ?_
          refine r_goto 18 dL_law_1150 (by decide) ?_
          exact ih kc ks (by omega) (by omega) (a3 + 6) s108 h
        · replace h := Out_neg hc h
          refine r_iconst 0 868 dL_law_867 rfl (by decide) ?_
          exact r_zreturn dL_law_868 rfl (by decide) (by omega) (by omega) h
      replace h := Out_neg hs21 h
      by_cases hs22 : ((gI σ 46 0 a3.toNatClampNeg) &&& 31) = 22
      · replace h := Out_pos hs22 h
        refine M_tableIn dL_law_33 (off := 836) (t := 869) (by rw [hs22]; decide) (by rw [hs22]; decide) (by rw [hs22]; decide) (by decide) ?_
        refine r_aload_n 870 dL_law_869 rfl rfl ?_
        refine r_aload_n 871 dL_law_870 rfl rfl ?_
        refine r_iload_n 872 dL_law_871 rfl rfl ?_
        refine r_iconst 1 873 dL_law_872 rfl (by decide) ?_
        refine r_iadd 874 dL_law_873 rfl ?_
        obtain ⟨hc, h⟩ := Out_grd h
        refine r_iaload (a3 + 1).toNatClampNeg Γ.2.1 875 dL_law_874 rfl (by decide) rfl rfl hc rfl ?_
        refine r_aload_n 876 dL_law_875 rfl rfl ?_
        refine r_iload_n 877 dL_law_876 rfl rfl ?_
        refine r_iconst 2 878 dL_law_877 rfl (by decide) ?_
        refine r_iadd 879 dL_law_878 rfl ?_
        obtain ⟨hc, h⟩ := Out_grd h
        refine r_iaload (a3 + 2).toNatClampNeg Γ.2.1 880 dL_law_879 rfl (by decide) rfl rfl hc rfl ?_
        refine r_aload_n 881 dL_law_880 rfl rfl ?_
        refine r_iload_n 882 dL_law_881 rfl rfl ?_
        refine r_iconst 3 883 dL_law_882 rfl (by decide) ?_
        refine r_iadd 884 dL_law_883 rfl ?_
        obtain ⟨hc, h⟩ := Out_grd h
        refine r_iaload (a3 + 3).toNatClampNeg Γ.2.1 885 dL_law_884 rfl (by decide) rfl rfl hc rfl ?_
        refine c_I [vq (some (8, 0)), vi (gI σ 46 0 (a3 + 1).toNatClampNeg), vi (gI σ 46 0 (a3 + 2).toNatClampNeg), vi (gI σ 46 0 (a3 + 3).toNatClampNeg)] [] 888 csL_law_885 rfl h (fun _ h' => ct8_put h') rfl rfl rfl rfl (by decide) (by omega) (by omega) (fun v109 s110 h => ?_)
        refine r_aload_n 889 dL_law_888 rfl rfl ?_
        refine r_aload_n 890 dL_law_889 rfl rfl ?_
        refine r_iload_n 891 dL_law_890 rfl rfl ?_
        refine r_iconst 1 892 dL_law_891 rfl (by decide) ?_
        refine r_iadd 893 dL_law_892 rfl ?_
        obtain ⟨hc, h⟩ := Out_grd h
        refine r_iaload (a3 + 1).toNatClampNeg Γ.2.1 894 dL_law_893 rfl (by decide) rfl rfl hc rfl ?_
        refine r_aload_n 895 dL_law_894 rfl rfl ?_
        refine r_iload_n 896 dL_law_895 rfl rfl ?_
        refine r_iconst 2 897 dL_law_896 rfl (by decide) ?_
        refine r_iadd 898 dL_law_897 rfl ?_
        obtain ⟨hc, h⟩ := Out_grd h
        refine r_iaload (a3 + 2).toNatClampNeg Γ.2.1 899 dL_law_898 rfl (by decide) rfl rfl hc rfl ?_
        refine r_aload_n 900 dL_law_899 rfl rfl ?_
        refine r_iload_n 901 dL_law_900 rfl rfl ?_
        refine r_iconst 3 902 dL_law_901 rfl (by decide) ?_
        refine r_iadd 903 dL_law_902 rfl ?_
        obtain ⟨hc, h⟩ := Out_grd h
        refine r_iaload (a3 + 3).toNatClampNeg Γ.2.1 904 dL_law_903 rfl (by decide) rfl rfl hc rfl ?_
        refine c_I [vq (some (9, 0)), vi (gI s110 46 0 (a3 + 1).toNatClampNeg), vi (gI s110 46 0 (a3 + 2).toNatClampNeg), vi (gI s110 46 0 (a3 + 3).toNatClampNeg)] [vi v109] 907 csL_law_904 rfl h (fun _ h' => ct9_put h') rfl rfl rfl rfl (by decide) (by omega) (by omega) (fun v111 s112 h => ?_)
        refine r_icmp_eq 1147 910 dL_law_907 (by decide) rfl (fun hc => ?_) (fun hc => ?_)
        · replace h := Out_pos hc h
          refine r_iinc 6 [some (vq (some (46, 0))), some (vq (some (8, 0))), some (vq (some (9, 0))), some (vi (a3 + 6))] 1150 dL_law_1147 rfl (by decide) rfl rfl rfl ?_
          refine r_goto 18 dL_law_1150 (by decide) ?_
          exact ih kc ks (by omega) (by omega) (a3 + 6) s112 h
        · replace h := Out_neg hc h
          refine r_iconst 0 911 dL_law_910 rfl (by decide) ?_
          exact r_zreturn dL_law_911 rfl (by decide) (by omega) (by omega) h
      replace h := Out_neg hs22 h
      by_cases hs23 : ((gI σ 46 0 a3.toNatClampNeg) &&& 31) = 23
      · replace h := Out_pos hs23 h
        refine M_tableIn dL_law_33 (off := 879) (t := 912) (by rw [hs23]; decide) (by rw [hs23]; decide) (by rw [hs23]; decide) (by decide) ?_
        refine r_aload_n 913 dL_law_912 rfl rfl ?_
        refine r_aload_n 914 dL_law_913 rfl rfl ?_
        refine r_iload_n 915 dL_law_914 rfl rfl ?_
        refine r_iconst 1 916 dL_law_915 rfl (by decide) ?_
        refine r_iadd 917 dL_law_916 rfl ?_
        obtain ⟨hc, h⟩ := Out_grd h
        refine r_iaload (a3 + 1).toNatClampNeg Γ.2.1 918 dL_law_917 rfl (by decide) rfl rfl hc rfl ?_
        refine r_aload_n 919 dL_law_918 rfl rfl ?_
        refine r_iload_n 920 dL_law_919 rfl rfl ?_
        refine r_iconst 2 921 dL_law_920 rfl (by decide) ?_
        refine r_iadd 922 dL_law_921 rfl ?_
        obtain ⟨hc, h⟩ := Out_grd h
        refine r_iaload (a3 + 2).toNatClampNeg Γ.2.1 923 dL_law_922 rfl (by decide) rfl rfl hc rfl ?_
        refine r_aload_n 924 dL_law_923 rfl rfl ?_
        refine r_iload_n 925 dL_law_924 rfl rfl ?_
        refine r_iconst 3 926 dL_law_925 rfl (by decide) ?_
        refine r_iadd 927 dL_law_926 rfl ?_
        obtain ⟨hc, h⟩ := Out_grd h
        refine r_iaload (a3 + 3).toNatClampNeg Γ.2.1 928 dL_law_927 rfl (by decide) rfl rfl hc rfl ?_
        refine c_L [vq (some (8, 0)), vi (gI σ 46 0 (a3 + 1).toNatClampNeg), vi (gI σ 46 0 (a3 + 2).toNatClampNeg), vi (gI σ 46 0 (a3 + 3).toNatClampNeg)] [] 931 csL_law_928 rfl h (fun _ h' => ct8_cell h') rfl rfl rfl rfl (by decide) (by omega) (by omega) (fun v113 s114 h => ?_)
        refine r_aload_n 932 dL_law_931 rfl rfl ?_
        refine r_aload_n 933 dL_law_932 rfl rfl ?_
        refine r_iload_n 934 dL_law_933 rfl rfl ?_
        refine r_iconst 1 935 dL_law_934 rfl (by decide) ?_
        refine r_iadd 936 dL_law_935 rfl ?_
        obtain ⟨hc, h⟩ := Out_grd h
        refine r_iaload (a3 + 1).toNatClampNeg Γ.2.1 937 dL_law_936 rfl (by decide) rfl rfl hc rfl ?_
        refine r_aload_n 938 dL_law_937 rfl rfl ?_
        refine r_iload_n 939 dL_law_938 rfl rfl ?_
        refine r_iconst 2 940 dL_law_939 rfl (by decide) ?_
        refine r_iadd 941 dL_law_940 rfl ?_
        obtain ⟨hc, h⟩ := Out_grd h
        refine r_iaload (a3 + 2).toNatClampNeg Γ.2.1 942 dL_law_941 rfl (by decide) rfl rfl hc rfl ?_
        refine r_aload_n 943 dL_law_942 rfl rfl ?_
        refine r_iload_n 944 dL_law_943 rfl rfl ?_
        refine r_iconst 3 945 dL_law_944 rfl (by decide) ?_
        refine r_iadd 946 dL_law_945 rfl ?_
        obtain ⟨hc, h⟩ := Out_grd h
        refine r_iaload (a3 + 3).toNatClampNeg Γ.2.1 947 dL_law_946 rfl (by decide) rfl rfl hc rfl ?_
        refine c_L [vq (some (9, 0)), vi (gI s114 46 0 (a3 + 1).toNatClampNeg), vi (gI s114 46 0 (a3 + 2).toNatClampNeg), vi (gI s114 46 0 (a3 + 3).toNatClampNeg)] [vl v113] 950 csL_law_947 rfl h (fun _ h' => ct9_cell h') rfl rfl rfl rfl (by decide) (by omega) (by omega) (fun v115 s116 h => ?_)
        refine r_lcmp 951 dL_law_950 rfl ?_
        refine r_if_eq 1147 954 dL_law_951 (by decide) rfl (fun hc => ?_) (fun hc => ?_)
        · replace h := Out_pos hc h
          refine r_iinc 6 [some (vq (some (46, 0))), some (vq (some (8, 0))), some (vq (some (9, 0))), some (vi (a3 + 6))] 1150 dL_law_1147 rfl (by decide) rfl rfl rfl ?_
          refine r_goto 18 dL_law_1150 (by decide) ?_
          exact ih kc ks (by omega) (by omega) (a3 + 6) s116 h
        · replace h := Out_neg hc h
          refine r_iconst 0 955 dL_law_954 rfl (by decide) ?_
          exact r_zreturn dL_law_955 rfl (by decide) (by omega) (by omega) h
      replace h := Out_neg hs23 h
      by_cases hs24 : ((gI σ 46 0 a3.toNatClampNeg) &&& 31) = 24
      · replace h := Out_pos hs24 h
        refine M_tableIn dL_law_33 (off := 923) (t := 956) (by rw [hs24]; decide) (by rw [hs24]; decide) (by rw [hs24]; decide) (by decide) ?_
        refine r_aload_n 957 dL_law_956 rfl rfl ?_
        refine r_aload_n 958 dL_law_957 rfl rfl ?_
        refine r_iload_n 959 dL_law_958 rfl rfl ?_
        refine r_iconst 1 960 dL_law_959 rfl (by decide) ?_
        refine r_iadd 961 dL_law_960 rfl ?_
        obtain ⟨hc, h⟩ := Out_grd h
        refine r_iaload (a3 + 1).toNatClampNeg Γ.2.1 962 dL_law_961 rfl (by decide) rfl rfl hc rfl ?_
        refine r_aload_n 963 dL_law_962 rfl rfl ?_
        refine r_iload_n 964 dL_law_963 rfl rfl ?_
        refine r_iconst 2 965 dL_law_964 rfl (by decide) ?_
        refine r_iadd 966 dL_law_965 rfl ?_
        obtain ⟨hc, h⟩ := Out_grd h
        refine r_iaload (a3 + 2).toNatClampNeg Γ.2.1 967 dL_law_966 rfl (by decide) rfl rfl hc rfl ?_
        refine r_aload_n 968 dL_law_967 rfl rfl ?_
        refine r_iload_n 969 dL_law_968 rfl rfl ?_
        refine r_iconst 3 970 dL_law_969 rfl (by decide) ?_
        refine r_iadd 971 dL_law_970 rfl ?_
        obtain ⟨hc, h⟩ := Out_grd h
        refine r_iaload (a3 + 3).toNatClampNeg Γ.2.1 972 dL_law_971 rfl (by decide) rfl rfl hc rfl ?_
        refine r_aload_n 973 dL_law_972 rfl rfl ?_
        refine r_iload_n 974 dL_law_973 rfl rfl ?_
        refine r_iconst 4 975 dL_law_974 rfl (by decide) ?_
        refine r_iadd 976 dL_law_975 rfl ?_
        obtain ⟨hc, h⟩ := Out_grd h
        refine r_iaload (a3 + 4).toNatClampNeg Γ.2.1 977 dL_law_976 rfl (by decide) rfl rfl hc rfl ?_
        refine r_aload_n 978 dL_law_977 rfl rfl ?_
        refine r_iload_n 979 dL_law_978 rfl rfl ?_
        refine r_iconst 5 980 dL_law_979 rfl (by decide) ?_
        refine r_iadd 981 dL_law_980 rfl ?_
        obtain ⟨hc, h⟩ := Out_grd h
        refine r_iaload (a3 + 5).toNatClampNeg Γ.2.1 982 dL_law_981 rfl (by decide) rfl rfl hc rfl ?_
        refine c_I [vq (some (8, 0)), vi (gI σ 46 0 (a3 + 1).toNatClampNeg), vi (gI σ 46 0 (a3 + 2).toNatClampNeg), vi (gI σ 46 0 (a3 + 3).toNatClampNeg), vi (gI σ 46 0 (a3 + 4).toNatClampNeg), vi (gI σ 46 0 (a3 + 5).toNatClampNeg)] [] 985 csL_law_982 rfl h (fun _ h' => ct8_copy h') rfl rfl rfl rfl (by decide) (by omega) (by omega) (fun v117 s118 h => ?_)
        refine r_aload_n 986 dL_law_985 rfl rfl ?_
        refine r_aload_n 987 dL_law_986 rfl rfl ?_
        refine r_iload_n 988 dL_law_987 rfl rfl ?_
        refine r_iconst 1 989 dL_law_988 rfl (by decide) ?_
        refine r_iadd 990 dL_law_989 rfl ?_
        obtain ⟨hc, h⟩ := Out_grd h
        refine r_iaload (a3 + 1).toNatClampNeg Γ.2.1 991 dL_law_990 rfl (by decide) rfl rfl hc rfl ?_
        refine r_aload_n 992 dL_law_991 rfl rfl ?_
        refine r_iload_n 993 dL_law_992 rfl rfl ?_
        refine r_iconst 2 994 dL_law_993 rfl (by decide) ?_
        refine r_iadd 995 dL_law_994 rfl ?_
        obtain ⟨hc, h⟩ := Out_grd h
        refine r_iaload (a3 + 2).toNatClampNeg Γ.2.1 996 dL_law_995 rfl (by decide) rfl rfl hc rfl ?_
        refine r_aload_n 997 dL_law_996 rfl rfl ?_
        refine r_iload_n 998 dL_law_997 rfl rfl ?_
        refine r_iconst 3 999 dL_law_998 rfl (by decide) ?_
        refine r_iadd 1000 dL_law_999 rfl ?_
        obtain ⟨hc, h⟩ := Out_grd h
        refine r_iaload (a3 + 3).toNatClampNeg Γ.2.1 1001 dL_law_1000 rfl (by decide) rfl rfl hc rfl ?_
        refine r_aload_n 1002 dL_law_1001 rfl rfl ?_
        refine r_iload_n 1003 dL_law_1002 rfl rfl ?_
        refine r_iconst 4 1004 dL_law_1003 rfl (by decide) ?_
        refine r_iadd 1005 dL_law_1004 rfl ?_
        obtain ⟨hc, h⟩ := Out_grd h
        refine r_iaload (a3 + 4).toNatClampNeg Γ.2.1 1006 dL_law_1005 rfl (by decide) rfl rfl hc rfl ?_
        refine r_aload_n 1007 dL_law_1006 rfl rfl ?_
        refine r_iload_n 1008 dL_law_1007 rfl rfl ?_
        refine r_iconst 5 1009 dL_law_1008 rfl (by decide) ?_
        refine r_iadd 1010 dL_law_1009 rfl ?_
        obtain ⟨hc, h⟩ := Out_grd h
        refine r_iaload (a3 + 5).toNatClampNeg Γ.2.1 1011 dL_law_1010 rfl (by decide) rfl rfl hc rfl ?_
        refine c_I [vq (some (9, 0)), vi (gI s118 46 0 (a3 + 1).toNatClampNeg), vi (gI s118 46 0 (a3 + 2).toNatClampNeg), vi (gI s118 46 0 (a3 + 3).toNatClampNeg), vi (gI s118 46 0 (a3 + 4).toNatClampNeg), vi (gI s118 46 0 (a3 + 5).toNatClampNeg)] [vi v117] 1014 csL_law_1011 rfl h (fun _ h' => ct9_copy h') rfl rfl rfl rfl (by decide) (by omega) (by omega) (fun v119 s120 h => ?_)
        refine r_icmp_eq 1147 1017 dL_law_1014 (by decide) rfl (fun hc => ?_) (fun hc => ?_)
        · replace h := Out_pos hc h
          refine r_iinc 6 [some (vq (some (46, 0))), some (vq (some (8, 0))), some (vq (some (9, 0))), some (vi (a3 + 6))] 1150 dL_law_1147 rfl (by decide) rfl rfl rfl ?_
          refine r_goto 18 dL_law_1150 (by decide) ?_
          exact ih kc ks (by omega) (by omega) (a3 + 6) s120 h
        · replace h := Out_neg hc h
          refine r_iconst 0 1018 dL_law_1017 rfl (by decide) ?_
          exact r_zreturn dL_law_1018 rfl (by decide) (by omega) (by omega) h
      replace h := Out_neg hs24 h
      by_cases hs25 : ((gI σ 46 0 a3.toNatClampNeg) &&& 31) = 25
      · replace h := Out_pos hs25 h
        refine M_tableIn dL_law_33 (off := 986) (t := 1019) (by rw [hs25]; decide) (by rw [hs25]; decide) (by rw [hs25]; decide) (by decide) ?_
        refine r_aload_n 1020 dL_law_1019 rfl rfl ?_
        refine r_aload_n 1021 dL_law_1020 rfl rfl ?_
        refine r_iload_n 1022 dL_law_1021 rfl rfl ?_
        refine r_iconst 1 1023 dL_law_1022 rfl (by decide) ?_
        refine r_iadd 1024 dL_law_1023 rfl ?_
        obtain ⟨hc, h⟩ := Out_grd h
        refine r_iaload (a3 + 1).toNatClampNeg Γ.2.1 1025 dL_law_1024 rfl (by decide) rfl rfl hc rfl ?_
        refine c_I [vq (some (8, 0)), vi (gI σ 46 0 (a3 + 1).toNatClampNeg)] [] 1028 csL_law_1025 rfl h (fun _ h' => ct8_tell h') rfl rfl rfl rfl (by decide) (by omega) (by omega) (fun v121 s122 h => ?_)
        refine r_aload_n 1029 dL_law_1028 rfl rfl ?_
        refine r_aload_n 1030 dL_law_1029 rfl rfl ?_
        refine r_iload_n 1031 dL_law_1030 rfl rfl ?_
        refine r_iconst 1 1032 dL_law_1031 rfl (by decide) ?_
        refine r_iadd 1033 dL_law_1032 rfl ?_
        obtain ⟨hc, h⟩ := Out_grd h
        refine r_iaload (a3 + 1).toNatClampNeg Γ.2.1 1034 dL_law_1033 rfl (by decide) rfl rfl hc rfl ?_
        refine c_I [vq (some (9, 0)), vi (gI s122 46 0 (a3 + 1).toNatClampNeg)] [vi v121] 1037 csL_law_1034 rfl h (fun _ h' => ct9_tell h') rfl rfl rfl rfl (by decide) (by omega) (by omega) (fun v123 s124 h => ?_)
        refine r_icmp_eq 1147 1040 dL_law_1037 (by decide) rfl (fun hc => ?_) (fun hc => ?_)
        · replace h := Out_pos hc h
          refine r_iinc 6 [some (vq (some (46, 0))), some (vq (some (8, 0))), some (vq (some (9, 0))), some (vi (a3 + 6))] 1150 dL_law_1147 rfl (by decide) rfl rfl rfl ?_
          refine r_goto 18 dL_law_1150 (by decide) ?_
          exact ih kc ks (by omega) (by omega) (a3 + 6) s124 h
        · replace h := Out_neg hc h
          refine r_iconst 0 1041 dL_law_1040 rfl (by decide) ?_
          exact r_zreturn dL_law_1041 rfl (by decide) (by omega) (by omega) h
      replace h := Out_neg hs25 h
      by_cases hs26 : ((gI σ 46 0 a3.toNatClampNeg) &&& 31) = 26
      · replace h := Out_pos hs26 h
        refine M_tableIn dL_law_33 (off := 1009) (t := 1042) (by rw [hs26]; decide) (by rw [hs26]; decide) (by rw [hs26]; decide) (by decide) ?_
        refine r_aload_n 1043 dL_law_1042 rfl rfl ?_
        refine r_aload_n 1044 dL_law_1043 rfl rfl ?_
        refine r_iload_n 1045 dL_law_1044 rfl rfl ?_
        refine r_iconst 1 1046 dL_law_1045 rfl (by decide) ?_
        refine r_iadd 1047 dL_law_1046 rfl ?_
        obtain ⟨hc, h⟩ := Out_grd h
        refine r_iaload (a3 + 1).toNatClampNeg Γ.2.1 1048 dL_law_1047 rfl (by decide) rfl rfl hc rfl ?_
        refine c_I [vq (some (8, 0)), vi (gI σ 46 0 (a3 + 1).toNatClampNeg)] [] 1051 csL_law_1048 rfl h (fun _ h' => ct8_polish h') rfl rfl rfl rfl (by decide) (by omega) (by omega) (fun v125 s126 h => ?_)
        refine r_aload_n 1052 dL_law_1051 rfl rfl ?_
        refine r_aload_n 1053 dL_law_1052 rfl rfl ?_
        refine r_iload_n 1054 dL_law_1053 rfl rfl ?_
        refine r_iconst 1 1055 dL_law_1054 rfl (by decide) ?_
        refine r_iadd 1056 dL_law_1055 rfl ?_
        obtain ⟨hc, h⟩ := Out_grd h
        refine r_iaload (a3 + 1).toNatClampNeg Γ.2.1 1057 dL_law_1056 rfl (by decide) rfl rfl hc rfl ?_
        refine c_I [vq (some (9, 0)), vi (gI s126 46 0 (a3 + 1).toNatClampNeg)] [vi v125] 1060 csL_law_1057 rfl h (fun _ h' => ct9_polish h') rfl rfl rfl rfl (by decide) (by omega) (by omega) (fun v127 s128 h => ?_)
        refine r_icmp_eq 1147 1063 dL_law_1060 (by decide) rfl (fun hc => ?_) (fun hc => ?_)
        · replace h := Out_pos hc h
          refine r_iinc 6 [some (vq (some (46, 0))), some (vq (some (8, 0))), some (vq (some (9, 0))), some (vi (a3 + 6))] 1150 dL_law_1147 rfl (by decide) rfl rfl rfl ?_
          refine r_goto 18 dL_law_1150 (by decide) ?_
          exact ih kc ks (by omega) (by omega) (a3 + 6) s128 h
        · replace h := Out_neg hc h
          refine r_iconst 0 1064 dL_law_1063 rfl (by decide) ?_
          exact r_zreturn dL_law_1064 rfl (by decide) (by omega) (by omega) h
      replace h := Out_neg hs26 h
      by_cases hs27 : ((gI σ 46 0 a3.toNatClampNeg) &&& 31) = 27
      · replace h := Out_pos hs27 h
        refine M_tableIn dL_law_33 (off := 1032) (t := 1065) (by rw [hs27]; decide) (by rw [hs27]; decide) (by rw [hs27]; decide) (by decide) ?_
        refine r_aload_n 1066 dL_law_1065 rfl rfl ?_
        refine r_aload_n 1067 dL_law_1066 rfl rfl ?_
        refine r_iload_n 1068 dL_law_1067 rfl rfl ?_
        refine r_iconst 1 1069 dL_law_1068 rfl (by decide) ?_
        refine r_iadd 1070 dL_law_1069 rfl ?_
        obtain ⟨hc, h⟩ := Out_grd h
        refine r_iaload (a3 + 1).toNatClampNeg Γ.2.1 1071 dL_law_1070 rfl (by decide) rfl rfl hc rfl ?_
        refine r_aload_n 1072 dL_law_1071 rfl rfl ?_
        refine r_iload_n 1073 dL_law_1072 rfl rfl ?_
        refine r_iconst 2 1074 dL_law_1073 rfl (by decide) ?_
        refine r_iadd 1075 dL_law_1074 rfl ?_
        obtain ⟨hc, h⟩ := Out_grd h
        refine r_iaload (a3 + 2).toNatClampNeg Γ.2.1 1076 dL_law_1075 rfl (by decide) rfl rfl hc rfl ?_
        refine c_I [vq (some (8, 0)), vi (gI σ 46 0 (a3 + 1).toNatClampNeg), vi (gI σ 46 0 (a3 + 2).toNatClampNeg)] [] 1079 csL_law_1076 rfl h (fun _ h' => ct8_as h') rfl rfl rfl rfl (by decide) (by omega) (by omega) (fun v129 s130 h => ?_)
        refine r_aload_n 1080 dL_law_1079 rfl rfl ?_
        refine r_aload_n 1081 dL_law_1080 rfl rfl ?_
        refine r_iload_n 1082 dL_law_1081 rfl rfl ?_
        refine r_iconst 1 1083 dL_law_1082 rfl (by decide) ?_
        refine r_iadd 1084 dL_law_1083 rfl ?_
        obtain ⟨hc, h⟩ := Out_grd h
        refine r_iaload (a3 + 1).toNatClampNeg Γ.2.1 1085 dL_law_1084 rfl (by decide) rfl rfl hc rfl ?_
        refine r_aload_n 1086 dL_law_1085 rfl rfl ?_
        refine r_iload_n 1087 dL_law_1086 rfl rfl ?_
        refine r_iconst 2 1088 dL_law_1087 rfl (by decide) ?_
        refine r_iadd 1089 dL_law_1088 rfl ?_
        obtain ⟨hc, h⟩ := Out_grd h
        refine r_iaload (a3 + 2).toNatClampNeg Γ.2.1 1090 dL_law_1089 rfl (by decide) rfl rfl hc rfl ?_
        refine c_I [vq (some (9, 0)), vi (gI s130 46 0 (a3 + 1).toNatClampNeg), vi (gI s130 46 0 (a3 + 2).toNatClampNeg)] [vi v129] 1093 csL_law_1090 rfl h (fun _ h' => ct9_as h') rfl rfl rfl rfl (by decide) (by omega) (by omega) (fun v131 s132 h => ?_)
        refine r_icmp_eq 1147 1096 dL_law_1093 (by decide) rfl (fun hc => ?_) (fun hc => ?_)
        · replace h := Out_pos hc h
          refine r_iinc 6 [some (vq (some (46, 0))), some (vq (some (8, 0))), some (vq (some (9, 0))), some (vi (a3 + 6))] 1150 dL_law_1147 rfl (by decide) rfl rfl rfl ?_
          refine r_goto 18 dL_law_1150 (by decide) ?_
          exact ih kc ks (by omega) (by omega) (a3 + 6) s132 h
        · replace h := Out_neg hc h
          refine r_iconst 0 1097 dL_law_1096 rfl (by decide) ?_
          exact r_zreturn dL_law_1097 rfl (by decide) (by omega) (by omega) h
      replace h := Out_neg hs27 h
      by_cases hs28 : ((gI σ 46 0 a3.toNatClampNeg) &&& 31) = 28
      · replace h := Out_pos hs28 h
        refine M_tableIn dL_law_33 (off := 1065) (t := 1098) (by rw [hs28]; decide) (by rw [hs28]; decide) (by rw [hs28]; decide) (by decide) ?_
        refine r_aload_n 1099 dL_law_1098 rfl rfl ?_
        refine c_I [vq (some (8, 0))] [] 1102 csL_law_1099 rfl h (fun _ h' => ct8_trace h') rfl rfl rfl rfl (by decide) (by omega) (by omega) (fun v133 s134 h => ?_)
        refine r_aload_n 1103 dL_law_1102 rfl rfl ?_
        refine c_I [vq (some (9, 0))] [vi v133] 1106 csL_law_1103 rfl h (fun _ h' => ct9_trace h') rfl rfl rfl rfl (by decide) (by omega) (by omega) (fun v135 s136 h => ?_)
        refine r_icmp_eq 1147 1109 dL_law_1106 (by decide) rfl (fun hc => ?_) (fun hc => ?_)
        · replace h := Out_pos hc h
          refine r_iinc 6 [some (vq (some (46, 0))), some (vq (some (8, 0))), some (vq (some (9, 0))), some (vi (a3 + 6))] 1150 dL_law_1147 rfl (by decide) rfl rfl rfl ?_
          refine r_goto 18 dL_law_1150 (by decide) ?_
          exact ih kc ks (by omega) (by omega) (a3 + 6) s136 h
        · replace h := Out_neg hc h
          refine r_iconst 0 1110 dL_law_1109 rfl (by decide) ?_
          exact r_zreturn dL_law_1110 rfl (by decide) (by omega) (by omega) h
      replace h := Out_neg hs28 h
      by_cases hs29 : ((gI σ 46 0 a3.toNatClampNeg) &&& 31) = 29
      · replace h := Out_pos hs29 h
        refine M_tableIn dL_law_33 (off := 1078) (t := 1111) (by rw [hs29]; decide) (by rw [hs29]; decide) (by rw [hs29]; decide) (by decide) ?_
        refine r_aload_n 1112 dL_law_1111 rfl rfl ?_
        refine c_I [vq (some (8, 0))] [] 1115 csL_law_1112 rfl h (fun _ h' => ct8_fault h') rfl rfl rfl rfl (by decide) (by omega) (by omega) (fun v137 s138 h => ?_)
        refine r_aload_n 1116 dL_law_1115 rfl rfl ?_
        refine c_I [vq (some (9, 0))] [vi v137] 1119 csL_law_1116 rfl h (fun _ h' => ct9_fault h') rfl rfl rfl rfl (by decide) (by omega) (by omega) (fun v139 s140 h => ?_)
        refine r_icmp_eq 1147 1122 dL_law_1119 (by decide) rfl (fun hc => ?_) (fun hc => ?_)
        · replace h := Out_pos hc h
          refine r_iinc 6 [some (vq (some (46, 0))), some (vq (some (8, 0))), some (vq (some (9, 0))), some (vi (a3 + 6))] 1150 dL_law_1147 rfl (by decide) rfl rfl rfl ?_
          refine r_goto 18 dL_law_1150 (by decide) ?_
          exact ih kc ks (by omega) (by omega) (a3 + 6) s140 h
        · replace h := Out_neg hc h
          refine r_iconst 0 1123 dL_law_1122 rfl (by decide) ?_
          exact r_zreturn dL_law_1123 rfl (by decide) (by omega) (by omega) h
      replace h := Out_neg hs29 h
      by_cases hs30 : ((gI σ 46 0 a3.toNatClampNeg) &&& 31) = 30
      · replace h := Out_pos hs30 h
        refine M_tableIn dL_law_33 (off := 1091) (t := 1124) (by rw [hs30]; decide) (by rw [hs30]; decide) (by rw [hs30]; decide) (by decide) ?_
        refine r_aload_n 1125 dL_law_1124 rfl rfl ?_
        refine r_aload_n 1126 dL_law_1125 rfl rfl ?_
        refine r_iload_n 1127 dL_law_1126 rfl rfl ?_
        refine r_iconst 1 1128 dL_law_1127 rfl (by decide) ?_
        refine r_iadd 1129 dL_law_1128 rfl ?_
        obtain ⟨hc, h⟩ := Out_grd h
        refine r_iaload (a3 + 1).toNatClampNeg Γ.2.1 1130 dL_law_1129 rfl (by decide) rfl rfl hc rfl ?_
        refine c_I [vq (some (8, 0)), vi (gI σ 46 0 (a3 + 1).toNatClampNeg)] [] 1133 csL_law_1130 rfl h (fun _ h' => ct8_many h') rfl rfl rfl rfl (by decide) (by omega) (by omega) (fun v141 s142 h => ?_)
        refine r_aload_n 1134 dL_law_1133 rfl rfl ?_
        refine r_aload_n 1135 dL_law_1134 rfl rfl ?_
        refine r_iload_n 1136 dL_law_1135 rfl rfl ?_
        refine r_iconst 1 1137 dL_law_1136 rfl (by decide) ?_
        refine r_iadd 1138 dL_law_1137 rfl ?_
        obtain ⟨hc, h⟩ := Out_grd h
        refine r_iaload (a3 + 1).toNatClampNeg Γ.2.1 1139 dL_law_1138 rfl (by decide) rfl rfl hc rfl ?_
        refine c_I [vq (some (9, 0)), vi (gI s142 46 0 (a3 + 1).toNatClampNeg)] [vi v141] 1142 csL_law_1139 rfl h (fun _ h' => ct9_many h') rfl rfl rfl rfl (by decide) (by omega) (by omega) (fun v143 s144 h => ?_)
        refine r_icmp_eq 1147 1145 dL_law_1142 (by decide) rfl (fun hc => ?_) (fun hc => ?_)
        · replace h := Out_pos hc h
          refine r_iinc 6 [some (vq (some (46, 0))), some (vq (some (8, 0))), some (vq (some (9, 0))), some (vi (a3 + 6))] 1150 dL_law_1147 rfl (by decide) rfl rfl rfl ?_
          refine r_goto 18 dL_law_1150 (by decide) ?_
          exact ih kc ks (by omega) (by omega) (a3 + 6) s144 h
        · replace h := Out_neg hc h
          refine r_iconst 0 1146 dL_law_1145 rfl (by decide) ?_
          exact r_zreturn dL_law_1146 rfl (by decide) (by omega) (by omega) h
      replace h := Out_neg hs30 h
      refine M_tableOut dL_law_33 (t := 1147) (by have q0 := lv_neT hs0 (a := 0) (by decide); have q1 := lv_neT hs1 (a := 1) (by decide); have q2 := lv_neT hs2 (a := 2) (by decide); have q3 := lv_neT hs3 (a := 3) (by decide); have q4 := lv_neT hs4 (a := 4) (by decide); have q5 := lv_neT hs5 (a := 5) (by decide); have q6 := lv_neT hs6 (a := 6) (by decide); have q7 := lv_neT hs7 (a := 7) (by decide); have q8 := lv_neT hs8 (a := 8) (by decide); have q9 := lv_neT hs9 (a := 9) (by decide); have q10 := lv_neT hs10 (a := 10) (by decide); have q11 := lv_neT hs11 (a := 11) (by decide); have q12 := lv_neT hs12 (a := 12) (by decide); have q13 := lv_neT hs13 (a := 13) (by decide); have q14 := lv_neT hs14 (a := 14) (by decide); have q15 := lv_neT hs15 (a := 15) (by decide); have q16 := lv_neT hs16 (a := 16) (by decide); have q17 := lv_neT hs17 (a := 17) (by decide); have q18 := lv_neT hs18 (a := 18) (by decide); have q19 := lv_neT hs19 (a := 19) (by decide); have q20 := lv_neT hs20 (a := 20) (by decide); have q21 := lv_neT hs21 (a := 21) (by decide); have q22 := lv_neT hs22 (a := 22) (by decide); have q23 := lv_neT hs23 (a := 23) (by decide); have q24 := lv_neT hs24 (a := 24) (by decide); have q25 := lv_neT hs25 (a := 25) (by decide); have q26 := lv_neT hs26 (a := 26) (by decide); have q27 := lv_neT hs27 (a := 27) (by decide); have q28 := lv_neT hs28 (a := 28) (by decide); have q29 := lv_neT hs29 (a := 29) (by decide); have q30 := lv_neT hs30 (a := 30) (by decide); omega) (by decide) ?_
      refine r_iinc 6 [some (vq (some (46, 0))), some (vq (some (8, 0))), some (vq (some (9, 0))), some (vi (a3 + 6))] 1150 dL_law_1147 rfl (by decide) rfl rfl rfl ?_
      refine r_goto 18 dL_law_1150 (by decide) ?_
      exact ih kc ks (by omega) (by omega) (a3 + 6) σ h
