/-! printed by wip/gen/dec.py: methods that make objects: fields, words, call sites, functions -/
theorem cs1_init_3_1 : mRun mX1_init 3 mX0_init "PlatePeas$Knife" 3 := run_I dX1_init_3 (by decide) rfl (by decide) w_c5ca3ab5 w_7bf0c1e9 w_7544c951 w_113957b0 (by decide +kernel) (by decide +kernel) (by decide)
theorem cs1_init_3_5 : mRun mX1_init 3 mX0_init "PlatePeas$Spoon" 3 := run_I dX1_init_3 (by decide) rfl (by decide) w_c5ca3ab5 w_7bf0c1e9 w_7544c951 w_113957b0 (by decide +kernel) (by decide +kernel) (by decide)
theorem cs2_readText_1 : mRun mX2_readText 1 mX2_wipe "PlatePeas$Plate" 1 := run_V dX2_readText_1 (by decide) w_a9bc66b2 w_1525abbc w_767313ac w_144facd1 w_8800ddaf (by decide +kernel) (by decide +kernel) (by decide)
theorem cs2_readText_21 : mRun mX2_readText 21 mX4_read "PlatePeas$Sheet" 2 := run_V dX2_readText_21 (by decide) w_59672a6a w_08daf608 w_ef2a4f09 w_01e414a6 w_85286c0e (by decide +kernel) (by decide +kernel) (by decide)
theorem cs2_readText_24 : mRun mX2_readText 24 mX2_takes "PlatePeas$Plate" 3 := run_V dX2_readText_24 (by decide) w_fa18e2d2 w_e70b1a3a w_2ae69869 w_144facd1 w_e0ecd545 (by decide +kernel) (by decide +kernel) (by decide)
theorem cs2_readText_49 : mRun mX2_readText 49 mX2_rowCodes "PlatePeas$Plate" 1 := run_V dX2_readText_49 (by decide) w_091f5735 w_8db38fe3 w_227ca58b w_144facd1 w_38ef65f5 (by decide +kernel) (by decide +kernel) (by decide)
theorem cs2_readText_110 : mRun mX2_readText 110 mX2_listCodes "PlatePeas$Plate" 1 := run_V dX2_readText_110 (by decide) w_4c9b9658 w_5802bc0a w_306d99ba w_144facd1 w_c50419d2 (by decide +kernel) (by decide +kernel) (by decide)
theorem cs2_readText_99 : mRun mX2_readText 99 mX2_eaterByLetter "" 3 := run_S dX2_readText_99 w_c28b8515 w_8898365b w_144facd1 w_22b0767e (by decide +kernel) (by decide +kernel) (by decide)
theorem cs2_eaterByLetter_34_1 : mRun mX2_eaterByLetter 34 mX1_init "PlatePeas$Knife" 3 := run_I dX2_eaterByLetter_34 (by decide) rfl (by decide) w_6b969535 w_931f3571 w_ab88f8a8 w_3bee27b8 (by decide +kernel) (by decide +kernel) (by decide)
theorem cs2_eaterByLetter_44_5 : mRun mX2_eaterByLetter 44 mX5_init "PlatePeas$Spoon" 3 := run_I dX2_eaterByLetter_44 (by decide) rfl (by decide) w_afce7106 w_24c3a41b w_c7e887c2 w_158e76c9 (by decide +kernel) (by decide +kernel) (by decide)
theorem cs2_eaterByLetter_54_0 : mRun mX2_eaterByLetter 54 mX0_init "PlatePeas$Fork" 3 := run_I dX2_eaterByLetter_54 (by decide) rfl (by decide) w_82d60711 w_7bf0c1e9 w_7544c951 w_113957b0 (by decide +kernel) (by decide +kernel) (by decide)
theorem cs5_init_3_5 : mRun mX5_init 3 mX1_init "PlatePeas$Spoon" 3 := run_I dX5_init_3 (by decide) rfl (by decide) w_fecb97d9 w_931f3571 w_ab88f8a8 w_3bee27b8 (by decide +kernel) (by decide +kernel) (by decide)
theorem cs8_plate_7 : mRun mX8_plate 7 mX8_sheetAt "PlatePeas" 2 := run_V dX8_plate_7 (by decide) w_f7ead245 w_abafa35a w_4f08d385 w_25532a91 w_00eb120b (by decide +kernel) (by decide +kernel) (by decide)
theorem cs8_plate_21 : mRun mX8_plate 21 mX8_isBelow "" 2 := run_S dX8_plate_21 w_5a32a06b w_88a47080 w_25532a91 w_0ad6fa7a (by decide +kernel) (by decide +kernel) (by decide)
theorem cs8_plate_36 : mRun mX8_plate 36 mX4_faultOfCells "PlatePeas$Sheet" 4 := run_V dX8_plate_36 (by decide) w_b03926ab w_f584cff1 w_d7a06ab3 w_01e414a6 w_25e7a78d (by decide +kernel) (by decide +kernel) (by decide)
theorem cs8_plate_62 : mRun mX8_plate 62 mX2_readText "PlatePeas$Plate" 4 := run_V dX8_plate_62 (by decide) w_3fc4e50e w_38b6b27c w_14ea6e29 w_144facd1 w_81b53ad0 (by decide +kernel) (by decide +kernel) (by decide)
theorem cs8_plate_81 : mRun mX8_plate 81 mX8_takeDraft "PlatePeas" 1 := run_V dX8_plate_81 (by decide) w_f4da817f w_89fbff2d w_63b80f2f w_25532a91 w_9cba3c28 (by decide +kernel) (by decide +kernel) (by decide)
theorem cs8_plate_49 : mRun mX8_plate 49 mX8_failed "PlatePeas" 2 := run_V dX8_plate_49 (by decide) w_69d86a34 w_e91edb44 w_a31f6c1a w_25532a91 w_37ff0be2 (by decide +kernel) (by decide +kernel) (by decide)
def f0_init_0 (i0 : Nat) (a1 : Int32) (a2 : Int32) (σ : Sto) : Option (Sto) := (some (sI (sI σ 0 i0 0 a1) 0 i0 1 a2))

def f0_init_1 (i0 : Nat) (a1 : Int32) (a2 : Int32) (σ : Sto) : Option (Sto) := (some (sI (sI σ 1 i0 0 a1) 1 i0 1 a2))

def f0_init_5 (i0 : Nat) (a1 : Int32) (a2 : Int32) (σ : Sto) : Option (Sto) := (some (sI (sI σ 5 i0 0 a1) 5 i0 1 a2))

def f1_init_1 (i0 : Nat) (a1 : Int32) (a2 : Int32) (σ : Sto) : Option (Sto) := (bV (f0_init_1 i0 a1 a2 σ) (fun s21 => (some s21)))

def f1_init_5 (i0 : Nat) (a1 : Int32) (a2 : Int32) (σ : Sto) : Option (Sto) := (bV (f0_init_5 i0 a1 a2 σ) (fun s21 => (some s21)))

def f5_init_5 (i0 : Nat) (a1 : Int32) (a2 : Int32) (σ : Sto) : Option (Sto) := (bV (f1_init_5 i0 a1 a2 σ) (fun s21 => (some s21)))

def f2_eaterByLetter (a0 : Int32) (a1 : Int32) (a2 : Int32) (σ : Sto) : Option (Option MA × Sto) := (if a0 = 107 then (bV (f1_init_1 (gN σ 1) a1 a2 (sN σ 1)) (fun s21 => (some (some (1, (gN σ 1)), s21)))) else (if a0 = 115 then (bV (f5_init_5 (gN σ 5) a1 a2 (sN σ 5)) (fun s22 => (some (some (5, (gN σ 5)), s22)))) else (bV (f0_init_0 (gN σ 0) a1 a2 (sN σ 0)) (fun s23 => (some (some (0, (gN σ 0)), s23))))))

def l2_readText_7 (k : Int32 → Sto → Option (Int32 × Sto)) (i0 : Nat) (i1 : Nat) (a2 : Int32) (a3 : Int32) : Nat → Int32 → Sto → Option (Int32 × Sto)
  | 0, _, _ => none
  | n + 1, a4, σ => (if a3 ≤ a4 then (k a4 σ) else (bI (f4_read i1 (a2 + a4) σ) (fun v22 s23 => (bI (f2_takes i0 a4 v22 s23) (fun v24 s25 => (if v24 = 0 then (some (a4, s25)) else (l2_readText_7 k i0 i1 a2 a3 n (a4 + 1) s25)))))))
def l2_readText_68 (i0 : Nat) : Nat → Int32 → Sto → Option (Int32 × Sto)
  | 0, _, _ => none
  | n + 1, a4, σ => (if (gI σ 2 i0 3) ≤ a4 then (bV (f2_listCodes i0 σ) (fun s30 => (some ((-9), s30)))) else (if Ix a4 2 then (if Ix a4 2 then (bI (f2_eaterByLetter (gI σ 14 i0 a4.toNatClampNeg) a4 (gI σ 15 i0 a4.toNatClampNeg) σ) (fun v31 s32 => (rcs v31 none (fun k33 i34 => if mmay 13 k33 = true then (if Ix a4 2 then (l2_readText_68 i0 n (a4 + 1) (sR s32 13 i0 a4.toNatClampNeg (some (k33, i34)))) else none) else none)))) else none) else none))
def f2_readText (i0 : Nat) (i1 : Nat) (a2 : Int32) (a3 : Int32) (σ : Sto) : Option (Int32 × Sto) := (bV (f2_wipe i0 σ) (fun s21 => (l2_readText_7 (fun v26 s27 => (if (gI s27 2 i0 3) = 0 then (some (a3, s27)) else (bI (f2_rowCodes i0 s27) (fun v28 s29 => (if a3 = ((3 + v28) + (3 * (gI s29 2 i0 3))) then (l2_readText_68 i0 3 0 s29) else (some (a3, s29))))))) i0 i1 a2 a3 300 0 s21)))

def f8_plate (a1 : Int32) (a2 : Int32) (a3 : Int32) (a4 : Int32) (σ : Sto) : Option (Int32 × Sto) := (bI (f8_sheetAt a1 (sI σ 8 0 13 0)) (fun v21 s22 => (rcs v21 (some ((-1), s22)) (fun k23 i24 => (if k23 = 4 then (bI (f8_isBelow a2 3 s22) (fun v25 s26 => (if v25 = 0 then (some ((-2), s26)) else (bI (f4_faultOfCells i24 a2 a3 a4 s26) (fun v27 s28 => (if v27 = 0 then (dr 2 (gR s28 8 0 1) (fun i29 => (bI (f2_readText i29 i24 a3 a4 s28) (fun v30 s31 => (if v30 = (-9) then (bV (f8_takeDraft s31) (fun s32 => (dr 2 (gR s32 8 0 0) (fun i33 => (some (gI s32 2 i33 2, s32)))))) else (some ((-100) - v30, s31))))))) else (bI (f8_failed v27 s28) (fun v34 s35 => (some (v34, s35)))))))))) else none)))))

