/-! printed by wip/gen/dec.py: constructors: fields, words, call sites, functions, and that they meet them -/
abbrev fe3_17 : Nat × Nat × List Nat × String × Nat := (17, 1, [3], "PlatePeas$Search", 1)
theorem fl3_17 : mFchk RX3 [fe3_17] = true := by decide +kernel
theorem cs3_init_36 : mRun mX3_init 36 mX6_init "PlatePeas$Spots" 2 := run_I dX3_init_36 (by decide) rfl (by decide) w_7924a17f w_19459791 w_57f2bf24 w_cb9baebc (by decide +kernel) (by decide +kernel) (by decide)
theorem cs8_init_41 : mRun mX8_init 41 mX7_init "PlatePeas$Trace" 1 := run_IN dX8_init_41 (by decide) rfl (by decide) w_ed5d3c9d w_c3464521 w_065dac5f w_6a38a4e2 (by decide +kernel) (by decide +kernel) (by decide)
theorem cs8_init_51 : mRun mX8_init 51 mX2_init "PlatePeas$Plate" 1 := run_IN dX8_init_51 (by decide) rfl (by decide) w_7ae38e74 w_d7bfe6f7 w_144facd1 w_86a6634f (by decide +kernel) (by decide +kernel) (by decide)
theorem cs8_init_61 : mRun mX8_init 61 mX6_init "PlatePeas$Spots" 2 := run_I dX8_init_61 (by decide) rfl (by decide) w_baab13b2 w_19459791 w_57f2bf24 w_cb9baebc (by decide +kernel) (by decide +kernel) (by decide)
theorem cs8_init_73 : mRun mX8_init 73 mX6_init "PlatePeas$Spots" 2 := run_I dX8_init_73 (by decide) rfl (by decide) w_baab13b2 w_19459791 w_57f2bf24 w_cb9baebc (by decide +kernel) (by decide +kernel) (by decide)
theorem cs8_init_85 : mRun mX8_init 85 mX3_init "PlatePeas$Search" 2 := run_I dX8_init_85 (by decide) rfl (by decide) w_663a411e w_e119c09b w_6aa99cec w_1d6c0fe3 (by decide +kernel) (by decide +kernel) (by decide)
theorem cs8_init_101 : mRun mX8_init 101 mX2_init "PlatePeas$Plate" 1 := run_IN dX8_init_101 (by decide) rfl (by decide) w_7ae38e74 w_d7bfe6f7 w_144facd1 w_86a6634f (by decide +kernel) (by decide +kernel) (by decide)
theorem cs8_init_123 : mRun mX8_init 123 mX4_init "PlatePeas$Sheet" 1 := run_IN dX8_init_123 (by decide) rfl (by decide) w_cb39f74e w_d0c91f92 w_01e414a6 w_c4fa0fb0 (by decide +kernel) (by decide +kernel) (by decide)
def f2_init (i0 : Nat) (σ : Sto) : Option (Sto) := (some (sR (sN (sR (sN (sR (sN (sR (sN (sR (sN (sR (sN σ 10) 2 i0 5 (some (10, (gN σ 10)))) 11) 2 i0 6 (some (11, (gN σ 11)))) 12) 2 i0 7 (some (12, (gN σ 12)))) 13) 2 i0 8 (some (13, (gN σ 13)))) 14) 2 i0 9 (some (14, (gN σ 14)))) 15) 2 i0 10 (some (15, (gN σ 15)))))

def f6_init (i0 : Nat) (i1 : Nat) (σ : Sto) : Option (Sto) := (some (sR (sR (sN σ 16) 6 i0 4 (some (16, (gN σ 16)))) 6 i0 0 (some (2, i1))))

def f3_init (i0 : Nat) (i1 : Nat) (σ : Sto) : Option (Sto) := (bV (f6_init (gN σ 6) i1 (sN (sR (sN (sR (sN σ 17) 3 i0 0 (some (17, (gN σ 17)))) 18) 3 i0 1 (some (18, (gN σ 18)))) 6)) (fun s21 => (dr 17 (gR (sR (sN (sR (sN σ 17) 3 i0 0 (some (17, (gN σ 17)))) 18) 3 i0 1 (some (18, (gN σ 18)))) 3 i0 0) (fun i22 => (bV (f6_init (gN s21 6) i1 (sN (sR s21 17 i22 0 (some (6, (gN σ 6)))) 6)) (fun s23 => (dr 17 (gR (sR s21 17 i22 0 (some (6, (gN σ 6)))) 3 i0 0) (fun i24 => (bV (f6_init (gN s23 6) i1 (sN (sR s23 17 i24 1 (some (6, (gN s21 6)))) 6)) (fun s25 => (dr 17 (gR (sR s23 17 i24 1 (some (6, (gN s21 6)))) 3 i0 0) (fun i26 => (some (sR s25 17 i26 2 (some (6, (gN s23 6)))))))))))))))))

def f4_init (i0 : Nat) (σ : Sto) : Option (Sto) := (some (sI (sR (sN σ 19) 4 i0 0 (some (19, (gN σ 19)))) 4 i0 2 (-1)))

def f7_init (i0 : Nat) (σ : Sto) : Option (Sto) := (some σ)

def f8_init (i0 : Nat) (σ : Sto) : Option (Sto) := (bV (f7_init (gN σ 7) (sN (sR (sN (sR (sN (sR (sN (sR (sN σ 20) 8 i0 3 (some (20, (gN σ 20)))) 21) 8 i0 5 (some (21, (gN σ 21)))) 22) 8 i0 6 (some (22, (gN σ 22)))) 23) 8 i0 11 (some (23, (gN σ 23)))) 7)) (fun s21 => (bV (f2_init (gN s21 2) (sN (sR s21 8 i0 12 (some (7, (gN σ 7)))) 2)) (fun s22 => (bV (f6_init (gN s22 6) (gN s21 2) (sN s22 6)) (fun s23 => (bV (f6_init (gN s23 6) (gN s21 2) (sN (sR s23 8 i0 8 (some (6, (gN s22 6)))) 6)) (fun s24 => (bV (f3_init (gN s24 3) (gN s21 2) (sN (sR s24 8 i0 9 (some (6, (gN s23 6)))) 3)) (fun s25 => (bV (f2_init (gN s25 2) (sN (sR (sR s25 8 i0 10 (some (3, (gN s24 3)))) 8 i0 0 (some (2, (gN s21 2)))) 2)) (fun s26 => (bV (f4_init (gN s26 4) (sN (sR s26 8 i0 1 (some (2, (gN s25 2)))) 4)) (fun s27 => (dr 23 (gR (sR s26 8 i0 1 (some (2, (gN s25 2)))) 8 i0 11) (fun i28 => (bV (f4_init (gN s27 4) (sN (sR s27 23 i28 0 (some (4, (gN s26 4)))) 4)) (fun s29 => (dr 23 (gR (sR s27 23 i28 0 (some (4, (gN s26 4)))) 8 i0 11) (fun i30 => (bV (f4_init (gN s29 4) (sN (sR s29 23 i30 1 (some (4, (gN s27 4)))) 4)) (fun s31 => (dr 23 (gR (sR s29 23 i30 1 (some (4, (gN s27 4)))) 8 i0 11) (fun i32 => (bV (f4_init (gN s31 4) (sN (sR s31 23 i32 2 (some (4, (gN s29 4)))) 4)) (fun s33 => (dr 23 (gR (sR s31 23 i32 2 (some (4, (gN s29 4)))) 8 i0 11) (fun i34 => (some (sR s33 23 i34 3 (some (4, (gN s31 4)))))))))))))))))))))))))))))))))

def f9_init (i0 : Nat) (σ : Sto) : Option (Sto) := (dr 31 (gR (sR (sN (sR (sN (sR (sN (sR (sN (sR (sN (sR (sN (sR (sN (sR (sN (sR (sN (sR (sN (sR (sN (sR (sN (sR (sN (sR (sN (sR (sN (sR (sN (sR (sN (sR (sN σ 24) 9 i0 2 (some (24, (gN σ 24)))) 25) 9 i0 4 (some (25, (gN σ 25)))) 26) 9 i0 6 (some (26, (gN σ 26)))) 27) 9 i0 7 (some (27, (gN σ 27)))) 28) 9 i0 10 (some (28, (gN σ 28)))) 29) 9 i0 12 (some (29, (gN σ 29)))) 30) 9 i0 13 (some (30, (gN σ 30)))) 31) 9 i0 16 (some (31, (gN σ 31)))) 32) 9 i0 17 (some (32, (gN σ 32)))) 33) 9 i0 18 (some (33, (gN σ 33)))) 34) 9 i0 19 (some (34, (gN σ 34)))) 35) 9 i0 25 (some (35, (gN σ 35)))) 36) 9 i0 26 (some (36, (gN σ 36)))) 37) 9 i0 28 (some (37, (gN σ 37)))) 38) 9 i0 29 (some (38, (gN σ 38)))) 39) 9 i0 30 (some (39, (gN σ 39)))) 40) 9 i0 31 (some (40, (gN σ 40)))) 41) 9 i0 32 (some (41, (gN σ 41)))) 9 i0 16) (fun i21 => (dr 31 (gR (sI (sR (sN (sR (sN (sR (sN (sR (sN (sR (sN (sR (sN (sR (sN (sR (sN (sR (sN (sR (sN (sR (sN (sR (sN (sR (sN (sR (sN (sR (sN (sR (sN (sR (sN (sR (sN σ 24) 9 i0 2 (some (24, (gN σ 24)))) 25) 9 i0 4 (some (25, (gN σ 25)))) 26) 9 i0 6 (some (26, (gN σ 26)))) 27) 9 i0 7 (some (27, (gN σ 27)))) 28) 9 i0 10 (some (28, (gN σ 28)))) 29) 9 i0 12 (some (29, (gN σ 29)))) 30) 9 i0 13 (some (30, (gN σ 30)))) 31) 9 i0 16 (some (31, (gN σ 31)))) 32) 9 i0 17 (some (32, (gN σ 32)))) 33) 9 i0 18 (some (33, (gN σ 33)))) 34) 9 i0 19 (some (34, (gN σ 34)))) 35) 9 i0 25 (some (35, (gN σ 35)))) 36) 9 i0 26 (some (36, (gN σ 36)))) 37) 9 i0 28 (some (37, (gN σ 37)))) 38) 9 i0 29 (some (38, (gN σ 38)))) 39) 9 i0 30 (some (39, (gN σ 39)))) 40) 9 i0 31 (some (40, (gN σ 40)))) 41) 9 i0 32 (some (41, (gN σ 41)))) 31 i21 0 (-1)) 9 i0 16) (fun i22 => (dr 31 (gR (sI (sI (sR (sN (sR (sN (sR (sN (sR (sN (sR (sN (sR (sN (sR (sN (sR (sN (sR (sN (sR (sN (sR (sN (sR (sN (sR (sN (sR (sN (sR (sN (sR (sN (sR (sN (sR (sN σ 24) 9 i0 2 (some (24, (gN σ 24)))) 25) 9 i0 4 (some (25, (gN σ 25)))) 26) 9 i0 6 (some (26, (gN σ 26)))) 27) 9 i0 7 (some (27, (gN σ 27)))) 28) 9 i0 10 (some (28, (gN σ 28)))) 29) 9 i0 12 (some (29, (gN σ 29)))) 30) 9 i0 13 (some (30, (gN σ 30)))) 31) 9 i0 16 (some (31, (gN σ 31)))) 32) 9 i0 17 (some (32, (gN σ 32)))) 33) 9 i0 18 (some (33, (gN σ 33)))) 34) 9 i0 19 (some (34, (gN σ 34)))) 35) 9 i0 25 (some (35, (gN σ 35)))) 36) 9 i0 26 (some (36, (gN σ 36)))) 37) 9 i0 28 (some (37, (gN σ 37)))) 38) 9 i0 29 (some (38, (gN σ 38)))) 39) 9 i0 30 (some (39, (gN σ 39)))) 40) 9 i0 31 (some (40, (gN σ 40)))) 41) 9 i0 32 (some (41, (gN σ 41)))) 31 i21 0 (-1)) 31 i22 1 (-1)) 9 i0 16) (fun i23 => (dr 31 (gR (sI (sI (sI (sR (sN (sR (sN (sR (sN (sR (sN (sR (sN (sR (sN (sR (sN (sR (sN (sR (sN (sR (sN (sR (sN (sR (sN (sR (sN (sR (sN (sR (sN (sR (sN (sR (sN (sR (sN σ 24) 9 i0 2 (some (24, (gN σ 24)))) 25) 9 i0 4 (some (25, (gN σ 25)))) 26) 9 i0 6 (some (26, (gN σ 26)))) 27) 9 i0 7 (some (27, (gN σ 27)))) 28) 9 i0 10 (some (28, (gN σ 28)))) 29) 9 i0 12 (some (29, (gN σ 29)))) 30) 9 i0 13 (some (30, (gN σ 30)))) 31) 9 i0 16 (some (31, (gN σ 31)))) 32) 9 i0 17 (some (32, (gN σ 32)))) 33) 9 i0 18 (some (33, (gN σ 33)))) 34) 9 i0 19 (some (34, (gN σ 34)))) 35) 9 i0 25 (some (35, (gN σ 35)))) 36) 9 i0 26 (some (36, (gN σ 36)))) 37) 9 i0 28 (some (37, (gN σ 37)))) 38) 9 i0 29 (some (38, (gN σ 38)))) 39) 9 i0 30 (some (39, (gN σ 39)))) 40) 9 i0 31 (some (40, (gN σ 40)))) 41) 9 i0 32 (some (41, (gN σ 41)))) 31 i21 0 (-1)) 31 i22 1 (-1)) 31 i23 2 (-1)) 9 i0 16) (fun i24 => (some (sI (sI (sI (sI (sR (sN (sR (sN (sR (sN (sR (sN (sR (sN (sR (sN (sR (sN (sR (sN (sR (sN (sR (sN (sR (sN (sR (sN (sR (sN (sR (sN (sR (sN (sR (sN (sR (sN (sR (sN σ 24) 9 i0 2 (some (24, (gN σ 24)))) 25) 9 i0 4 (some (25, (gN σ 25)))) 26) 9 i0 6 (some (26, (gN σ 26)))) 27) 9 i0 7 (some (27, (gN σ 27)))) 28) 9 i0 10 (some (28, (gN σ 28)))) 29) 9 i0 12 (some (29, (gN σ 29)))) 30) 9 i0 13 (some (30, (gN σ 30)))) 31) 9 i0 16 (some (31, (gN σ 31)))) 32) 9 i0 17 (some (32, (gN σ 32)))) 33) 9 i0 18 (some (33, (gN σ 33)))) 34) 9 i0 19 (some (34, (gN σ 34)))) 35) 9 i0 25 (some (35, (gN σ 35)))) 36) 9 i0 26 (some (36, (gN σ 36)))) 37) 9 i0 28 (some (37, (gN σ 37)))) 38) 9 i0 29 (some (38, (gN σ 38)))) 39) 9 i0 30 (some (39, (gN σ 39)))) 40) 9 i0 31 (some (40, (gN σ 40)))) 41) 9 i0 32 (some (41, (gN σ 41)))) 31 i21 0 (-1)) 31 i22 1 (-1)) 31 i23 2 (-1)) 31 i24 3 (-1)))))))))))

set_option maxRecDepth 20000 in
set_option maxHeartbeats 4000000 in
theorem ct2_init {Γ : GG} {K : Sto → Prop} {i0 : Nat} {σ : Sto} (h : Out (f2_init i0 σ) K) : Ct false Γ mX2_init 1 6 81 [vq (some (2, i0))] σ (QV K) := by
  refine Ct_intro (by decide +kernel) rfl ?_
  show M false Γ mX2_init 1 6 81 0 0 (QV K) 0 [some (vq (some (2, i0)))] [] σ
  unfold f2_init at h
  refine r_aload_n 1 dX2_init_0 rfl rfl ?_
  refine M_objInit (by decide) w_94ed9d57 w_6c8d69b2 w_dced4441 (Nat.le_of_ble_eq_true rfl) (by decide) dX2_init_1 ?_
  refine r_aload_n 5 dX2_init_4 rfl rfl ?_
  refine r_bipush 40 7 dX2_init_5 rfl (by decide) ?_
  refine r_newarr 10 40 (gN σ 10) 1 40 9 dX2_init_7 rfl (by decide) (by decide) rfl w_32e41f54 (by decide) rfl rfl (by decide) rfl rfl rfl (by omega) (by omega) ?_
  refine r_putR (x := fe2_9) 5 12 fl2_9 (by decide) dX2_init_9 rfl (Or.inr ⟨rfl, rfl⟩) rfl rfl (Or.inl rfl) ?_
  refine r_aload_n 13 dX2_init_12 rfl rfl ?_
  refine r_bipush 30 15 dX2_init_13 rfl (by decide) ?_
  refine r_newarr 11 30 (gN σ 11) 2 70 17 dX2_init_15 rfl (by decide) (by decide) rfl w_32e41f54 (by decide) rfl rfl (by decide) rfl rfl rfl (by omega) (by omega) ?_
  refine r_putR (x := fe2_15) 6 20 fl2_15 (by decide) dX2_init_17 rfl (Or.inr ⟨rfl, rfl⟩) rfl rfl (Or.inl rfl) ?_
  refine r_aload_n 21 dX2_init_20 rfl rfl ?_
  refine r_iconst 5 22 dX2_init_21 rfl (by decide) ?_
  refine r_newarr 12 5 (gN σ 12) 3 75 24 dX2_init_22 rfl (by decide) (by decide) rfl w_32e41f54 (by decide) rfl rfl (by decide) rfl rfl rfl (by omega) (by omega) ?_
  refine r_putR (x := fe2_18) 7 27 fl2_18 (by decide) dX2_init_24 rfl (Or.inr ⟨rfl, rfl⟩) rfl rfl (Or.inl rfl) ?_
  refine r_aload_n 28 dX2_init_27 rfl rfl ?_
  refine r_iconst 2 29 dX2_init_28 rfl (by decide) ?_
  refine r_anew 13 2 (gN σ 13) 4 77 32 dX2_init_29 rfl rfl (by decide) (by decide) rfl w_f106f25c (by decide) rfl rfl (by decide) rfl rfl rfl (by omega) (by omega) ?_
  refine r_putR (x := fe2_23) 8 35 fl2_23 (by decide) dX2_init_32 rfl (Or.inr ⟨rfl, rfl⟩) rfl rfl (Or.inl rfl) ?_
  refine r_aload_n 36 dX2_init_35 rfl rfl ?_
  refine r_iconst 2 37 dX2_init_36 rfl (by decide) ?_
  refine r_newarr 14 2 (gN σ 14) 5 79 39 dX2_init_37 rfl (by decide) (by decide) rfl w_32e41f54 (by decide) rfl rfl (by decide) rfl rfl rfl (by omega) (by omega) ?_
  refine r_putR (x := fe2_27) 9 42 fl2_27 (by decide) dX2_init_39 rfl (Or.inr ⟨rfl, rfl⟩) rfl rfl (Or.inl rfl) ?_
  refine r_aload_n 43 dX2_init_42 rfl rfl ?_
  refine r_iconst 2 44 dX2_init_43 rfl (by decide) ?_
  refine r_newarr 15 2 (gN σ 15) 6 81 46 dX2_init_44 rfl (by decide) (by decide) rfl w_32e41f54 (by decide) rfl rfl (by decide) rfl rfl rfl (by omega) (by omega) ?_
  refine r_putR (x := fe2_30) 10 49 fl2_30 (by decide) dX2_init_46 rfl (Or.inr ⟨rfl, rfl⟩) rfl rfl (Or.inl rfl) ?_
  exact r_return dX2_init_49 rfl (by omega) (by omega) h

set_option maxRecDepth 20000 in
set_option maxHeartbeats 4000000 in
theorem ct6_init {Γ : GG} {K : Sto → Prop} {i0 : Nat} {i1 : Nat} {σ : Sto} (h : Out (f6_init i0 i1 σ) K) : Ct false Γ mX6_init 1 1 5 [vq (some (6, i0)), vq (some (2, i1))] σ (QV K) := by
  refine Ct_intro (by decide +kernel) rfl ?_
  show M false Γ mX6_init 1 1 5 0 0 (QV K) 0 [some (vq (some (6, i0))), some (vq (some (2, i1)))] [] σ
  unfold f6_init at h
  refine r_aload_n 1 dX6_init_0 rfl rfl ?_
  refine M_objInit (by decide) w_f93866a3 w_6c8d69b2 w_dced4441 (Nat.le_of_ble_eq_true rfl) (by decide) dX6_init_1 ?_
  refine r_aload_n 5 dX6_init_4 rfl rfl ?_
  refine r_iconst 5 6 dX6_init_5 rfl (by decide) ?_
  refine r_newarr 16 5 (gN σ 16) 1 5 8 dX6_init_6 rfl (by decide) (by decide) rfl w_32e41f54 (by decide) rfl rfl (by decide) rfl rfl rfl (by omega) (by omega) ?_
  refine r_putR (x := fe6_9) 4 11 fl6_9 (by decide) dX6_init_8 rfl (Or.inr ⟨rfl, rfl⟩) rfl rfl (Or.inl rfl) ?_
  refine r_aload_n 12 dX6_init_11 rfl rfl ?_
  refine r_aload_n 13 dX6_init_12 rfl rfl ?_
  refine r_putR (x := fe6_15) 0 16 fl6_15 (by decide) dX6_init_13 rfl (Or.inl rfl) rfl rfl (Or.inl rfl) ?_
  exact r_return dX6_init_16 rfl (by omega) (by omega) h

set_option maxRecDepth 20000 in
set_option maxHeartbeats 4000000 in
theorem ct3_init {Γ : GG} {K : Sto → Prop} {i0 : Nat} {i1 : Nat} {σ : Sto} (h : Out (f3_init i0 i1 σ) K) : Ct false Γ mX3_init 2 8 36 [vq (some (3, i0)), vq (some (2, i1))] σ (QV K) := by
  refine Ct_intro (by decide +kernel) rfl ?_
  show M false Γ mX3_init 2 8 36 0 0 (QV K) 0 [some (vq (some (3, i0))), some (vq (some (2, i1))), none] [] σ
  unfold f3_init at h
  refine r_aload_n 1 dX3_init_0 rfl rfl ?_
  refine M_objInit (by decide) w_a173e069 w_6c8d69b2 w_dced4441 (Nat.le_of_ble_eq_true rfl) (by decide) dX3_init_1 ?_
  refine r_aload_n 5 dX3_init_4 rfl rfl ?_
  refine r_iconst 3 6 dX3_init_5 rfl (by decide) ?_
  refine r_anew 17 3 (gN σ 17) 1 3 9 dX3_init_6 rfl rfl (by decide) (by decide) rfl w_8aca08c0 (by decide) rfl rfl (by decide) rfl rfl rfl (by omega) (by omega) ?_
  refine r_putR (x := fe3_11) 0 12 fl3_11 (by decide) dX3_init_9 rfl (Or.inr ⟨rfl, rfl⟩) rfl rfl (Or.inl rfl) ?_
  refine r_aload_n 13 dX3_init_12 rfl rfl ?_
  refine r_iconst 3 14 dX3_init_13 rfl (by decide) ?_
  refine r_newarr 18 3 (gN σ 18) 2 6 16 dX3_init_14 rfl (by decide) (by decide) rfl w_32e41f54 (by decide) rfl rfl (by decide) rfl rfl rfl (by omega) (by omega) ?_
  refine r_putR (x := fe3_17) 1 19 fl3_17 (by decide) dX3_init_16 rfl (Or.inr ⟨rfl, rfl⟩) rfl rfl (Or.inl rfl) ?_
  refine r_iconst 0 20 dX3_init_19 rfl (by decide) ?_
  refine r_istore_n [some (vq (some (3, i0))), some (vq (some (2, i1))), some (vi 0)] 21 dX3_init_20 rfl rfl rfl ?_
  refine r_iload_n 22 dX3_init_21 rfl rfl ?_
  refine r_iconst 3 23 dX3_init_22 rfl (by decide) ?_
  refine r_icmp_ge 46 26 dX3_init_23 (by decide) rfl (fun hc => absurd hc (by decide)) (fun _ => ?_)
  refine r_aload_n 27 dX3_init_26 rfl rfl ?_
  refine r_getR (x := fe3_11) 0 30 fl3_11 (by decide) dX3_init_27 rfl rfl rfl (Or.inl rfl) ?_
  refine r_iload_n 31 dX3_init_30 rfl rfl ?_
  refine r_new 6 5 (gN σ 6) 3 11 34 dX3_init_31 rfl rfl rfl (Or.inl rfl) w_cd40c669 w_65e1dfa9 w_57f2bf24 rfl rfl rfl (by omega) (by omega) ?_
  refine r_dup 35 dX3_init_34 rfl rfl ?_
  refine r_aload_n 36 dX3_init_35 rfl rfl ?_
  refine c_AV 1 5 4 16 [vq (some (6, (gN σ 6))), vq (some (2, i1))] [vq (some (6, (gN σ 6))), vi 0, vq (gR (sR (sN (sR (sN σ 17) 3 i0 0 (some (17, (gN σ 17)))) 18) 3 i0 1 (some (18, (gN σ 18)))) 3 i0 0)] 39 cs3_init_36 rfl h (fun _ h' => ct6_init h') rfl rfl rfl rfl (by decide) rfl rfl (by omega) (by omega) (fun s21 h => ?_)
  obtain ⟨i22, e0, h⟩ := Out_dr h
  rw [e0]
  refine r_aastore 0 3 40 dX3_init_39 rfl (by decide) (by decide) rfl (by decide) rfl (by decide) rfl (Or.inl rfl) ?_
  refine r_iinc 1 [some (vq (some (3, i0))), some (vq (some (2, i1))), some (vi 1)] 43 dX3_init_40 rfl (by decide) rfl rfl rfl ?_
  refine r_goto 21 dX3_init_43 (by decide) ?_
  refine r_iload_n 22 dX3_init_21 rfl rfl ?_
  refine r_iconst 3 23 dX3_init_22 rfl (by decide) ?_
  refine r_icmp_ge 46 26 dX3_init_23 (by decide) rfl (fun hc => absurd hc (by decide)) (fun _ => ?_)
  refine r_aload_n 27 dX3_init_26 rfl rfl ?_
  refine r_getR (x := fe3_11) 0 30 fl3_11 (by decide) dX3_init_27 rfl rfl rfl (Or.inl rfl) ?_
  refine r_iload_n 31 dX3_init_30 rfl rfl ?_
  refine r_new 6 5 (gN s21 6) 5 21 34 dX3_init_31 rfl rfl rfl (Or.inl rfl) w_cd40c669 w_65e1dfa9 w_57f2bf24 rfl rfl rfl (by omega) (by omega) ?_
  refine r_dup 35 dX3_init_34 rfl rfl ?_
  refine r_aload_n 36 dX3_init_35 rfl rfl ?_
  refine c_AV 1 5 6 26 [vq (some (6, (gN s21 6))), vq (some (2, i1))] [vq (some (6, (gN s21 6))), vi 1, vq (gR (sR s21 17 i22 0 (some (6, (gN σ 6)))) 3 i0 0)] 39 cs3_init_36 rfl h (fun _ h' => ct6_init h') rfl rfl rfl rfl (by decide) rfl rfl (by omega) (by omega) (fun s23 h => ?_)
  obtain ⟨i24, e0, h⟩ := Out_dr h
  rw [e0]
  refine r_aastore 1 3 40 dX3_init_39 rfl (by decide) (by decide) rfl (by decide) rfl (by decide) rfl (Or.inl rfl) ?_
  refine r_iinc 1 [some (vq (some (3, i0))), some (vq (some (2, i1))), some (vi 2)] 43 dX3_init_40 rfl (by decide) rfl rfl rfl ?_
  refine r_goto 21 dX3_init_43 (by decide) ?_
  refine r_iload_n 22 dX3_init_21 rfl rfl ?_
  refine r_iconst 3 23 dX3_init_22 rfl (by decide) ?_
  refine r_icmp_ge 46 26 dX3_init_23 (by decide) rfl (fun hc => absurd hc (by decide)) (fun _ => ?_)
  refine r_aload_n 27 dX3_init_26 rfl rfl ?_
  refine r_getR (x := fe3_11) 0 30 fl3_11 (by decide) dX3_init_27 rfl rfl rfl (Or.inl rfl) ?_
  refine r_iload_n 31 dX3_init_30 rfl rfl ?_
  refine r_new 6 5 (gN s23 6) 7 31 34 dX3_init_31 rfl rfl rfl (Or.inl rfl) w_cd40c669 w_65e1dfa9 w_57f2bf24 rfl rfl rfl (by omega) (by omega) ?_
  refine r_dup 35 dX3_init_34 rfl rfl ?_
  refine r_aload_n 36 dX3_init_35 rfl rfl ?_
  refine c_AV 1 5 8 36 [vq (some (6, (gN s23 6))), vq (some (2, i1))] [vq (some (6, (gN s23 6))), vi 2, vq (gR (sR s23 17 i24 1 (some (6, (gN s21 6)))) 3 i0 0)] 39 cs3_init_36 rfl h (fun _ h' => ct6_init h') rfl rfl rfl rfl (by decide) rfl rfl (by omega) (by omega) (fun s25 h => ?_)
  obtain ⟨i26, e0, h⟩ := Out_dr h
  rw [e0]
  refine r_aastore 2 3 40 dX3_init_39 rfl (by decide) (by decide) rfl (by decide) rfl (by decide) rfl (Or.inl rfl) ?_
  refine r_iinc 1 [some (vq (some (3, i0))), some (vq (some (2, i1))), some (vi 3)] 43 dX3_init_40 rfl (by decide) rfl rfl rfl ?_
  refine r_goto 21 dX3_init_43 (by decide) ?_
  refine r_iload_n 22 dX3_init_21 rfl rfl ?_
  refine r_iconst 3 23 dX3_init_22 rfl (by decide) ?_
  refine r_icmp_ge 46 26 dX3_init_23 (by decide) rfl (fun _ => ?_) (fun hc => absurd hc (by decide))
  exact r_return dX3_init_46 rfl (by omega) (by omega) h

set_option maxRecDepth 20000 in
set_option maxHeartbeats 4000000 in
theorem ct4_init {Γ : GG} {K : Sto → Prop} {i0 : Nat} {σ : Sto} (h : Out (f4_init i0 σ) K) : Ct false Γ mX4_init 1 1 60 [vq (some (4, i0))] σ (QV K) := by
  refine Ct_intro (by decide +kernel) rfl ?_
  show M false Γ mX4_init 1 1 60 0 0 (QV K) 0 [some (vq (some (4, i0)))] [] σ
  unfold f4_init at h
  refine r_aload_n 1 dX4_init_0 rfl rfl ?_
  refine M_objInit (by decide) w_eb8a4b0c w_6c8d69b2 w_dced4441 (Nat.le_of_ble_eq_true rfl) (by decide) dX4_init_1 ?_
  refine r_aload_n 5 dX4_init_4 rfl rfl ?_
  refine r_bipush 60 7 dX4_init_5 rfl (by decide) ?_
  refine r_newarr 19 60 (gN σ 19) 1 60 9 dX4_init_7 rfl (by decide) (by decide) rfl w_32e41f54 (by decide) rfl rfl (by decide) rfl rfl rfl (by omega) (by omega) ?_
  refine r_putR (x := fe4_9) 0 12 fl4_9 (by decide) dX4_init_9 rfl (Or.inr ⟨rfl, rfl⟩) rfl rfl (Or.inl rfl) ?_
  refine r_aload_n 13 dX4_init_12 rfl rfl ?_
  refine r_iconst (-1) 14 dX4_init_13 rfl (by decide) ?_
  refine r_putI (x := fe4_15) 2 17 fl4_15 (by decide) dX4_init_14 rfl (Or.inl rfl) rfl rfl ?_
  exact r_return dX4_init_17 rfl (by omega) (by omega) h

set_option maxRecDepth 20000 in
set_option maxHeartbeats 4000000 in
theorem ct7_init {Γ : GG} {K : Sto → Prop} {i0 : Nat} {σ : Sto} (h : Out (f7_init i0 σ) K) : Ct false Γ mX7_init 1 0 0 [vq (some (7, i0))] σ (QV K) := by
  refine Ct_intro (by decide +kernel) rfl ?_
  show M false Γ mX7_init 1 0 0 0 0 (QV K) 0 [some (vq (some (7, i0)))] [] σ
  unfold f7_init at h
  refine r_aload_n 1 dX7_init_0 rfl rfl ?_
  refine M_objInit (by decide) w_de063750 w_6c8d69b2 w_dced4441 (Nat.le_of_ble_eq_true rfl) (by decide) dX7_init_1 ?_
  exact r_return dX7_init_4 rfl (Nat.le_refl 0) (Nat.le_refl 0) h

set_option maxRecDepth 20000 in
set_option maxHeartbeats 4000000 in
theorem ct8_init {Γ : GG} {K : Sto → Prop} {i0 : Nat} {σ : Sto} (h : Out (f8_init i0 σ) K) : Ct false Γ mX8_init 3 40 547 [vq (some (8, i0))] σ (QV K) := by
  refine Ct_intro (by decide +kernel) rfl ?_
  show M false Γ mX8_init 3 40 547 0 0 (QV K) 0 [some (vq (some (8, i0))), none, none] [] σ
  unfold f8_init at h
  refine r_aload_n 1 dX8_init_0 rfl rfl ?_
  refine M_objInit (by decide) w_5b7baa87 w_6c8d69b2 w_dced4441 (Nat.le_of_ble_eq_true rfl) (by decide) dX8_init_1 ?_
  refine r_aload_n 5 dX8_init_4 rfl rfl ?_
  refine r_bipush 30 7 dX8_init_5 rfl (by decide) ?_
  refine r_newarr 20 30 (gN σ 20) 1 30 9 dX8_init_7 rfl (by decide) (by decide) rfl w_32e41f54 (by decide) rfl rfl (by decide) rfl rfl rfl (by omega) (by omega) ?_
  refine r_putR (x := fe8_11) 3 12 fl8_11 (by decide) dX8_init_9 rfl (Or.inr ⟨rfl, rfl⟩) rfl rfl (Or.inl rfl) ?_
  refine r_aload_n 13 dX8_init_12 rfl rfl ?_
  refine r_bipush 8 15 dX8_init_13 rfl (by decide) ?_
  refine r_newarr 21 8 (gN σ 21) 2 38 17 dX8_init_15 rfl (by decide) (by decide) rfl w_32e41f54 (by decide) rfl rfl (by decide) rfl rfl rfl (by omega) (by omega) ?_
  refine r_putR (x := fe8_15) 5 20 fl8_15 (by decide) dX8_init_17 rfl (Or.inr ⟨rfl, rfl⟩) rfl rfl (Or.inl rfl) ?_
  refine r_aload_n 21 dX8_init_20 rfl rfl ?_
  refine r_bipush 8 23 dX8_init_21 rfl (by decide) ?_
  refine r_newarr 22 8 (gN σ 22) 3 46 25 dX8_init_23 rfl (by decide) (by decide) rfl w_32e41f54 (by decide) rfl rfl (by decide) rfl rfl rfl (by omega) (by omega) ?_
  refine r_putR (x := fe8_18) 6 28 fl8_18 (by decide) dX8_init_25 rfl (Or.inr ⟨rfl, rfl⟩) rfl rfl (Or.inl rfl) ?_
  refine r_aload_n 29 dX8_init_28 rfl rfl ?_
  refine r_iconst 4 30 dX8_init_29 rfl (by decide) ?_
  refine r_anew 23 4 (gN σ 23) 4 50 33 dX8_init_30 rfl rfl (by decide) (by decide) rfl w_a33c3ad6 (by decide) rfl rfl (by decide) rfl rfl rfl (by omega) (by omega) ?_
  refine r_putR (x := fe8_23) 11 36 fl8_23 (by decide) dX8_init_33 rfl (Or.inr ⟨rfl, rfl⟩) rfl rfl (Or.inl rfl) ?_
  refine r_aload_n 37 dX8_init_36 rfl rfl ?_
  refine r_new 7 1 (gN σ 7) 5 51 40 dX8_init_37 rfl rfl rfl (Or.inl rfl) w_527e8b14 w_6c465c91 w_065dac5f rfl rfl rfl (by omega) (by omega) ?_
  refine r_dup 41 dX8_init_40 rfl rfl ?_
  refine c_V [vq (some (7, (gN σ 7)))] [vq (some (7, (gN σ 7))), vq (some (8, i0))] 44 cs8_init_41 rfl h (fun _ h' => ct7_init h') rfl rfl rfl rfl (by decide) (by omega) (by omega) (fun s21 h => ?_)
  refine r_putR (x := fe8_30) 12 47 fl8_30 (by decide) dX8_init_44 rfl (Or.inr ⟨rfl, rfl⟩) rfl rfl (Or.inl rfl) ?_
  refine r_new 2 12 (gN s21 2) 6 63 50 dX8_init_47 rfl rfl rfl (Or.inl rfl) w_35288c4b w_993500c2 w_144facd1 rfl rfl rfl (by omega) (by omega) ?_
  refine r_dup 51 dX8_init_50 rfl rfl ?_
  refine c_AV 6 81 12 144 [vq (some (2, (gN s21 2)))] [vq (some (2, (gN s21 2)))] 54 cs8_init_51 rfl h (fun _ h' => ct2_init h') rfl rfl rfl rfl (by decide) rfl rfl (by omega) (by omega) (fun s22 h => ?_)
  refine r_astore_n [some (vq (some (8, i0))), some (vq (some (2, (gN s21 2)))), none] 55 dX8_init_54 rfl rfl rfl ?_
  refine r_aload_n 56 dX8_init_55 rfl rfl ?_
  refine r_new 6 5 (gN s22 6) 13 149 59 dX8_init_56 rfl rfl rfl (Or.inl rfl) w_7ff70895 w_65e1dfa9 w_57f2bf24 rfl rfl rfl (by omega) (by omega) ?_
  refine r_dup 60 dX8_init_59 rfl rfl ?_
  refine r_aload_n 61 dX8_init_60 rfl rfl ?_
  refine c_AV 1 5 14 154 [vq (some (6, (gN s22 6))), vq (some (2, (gN s21 2)))] [vq (some (6, (gN s22 6))), vq (some (8, i0))] 64 cs8_init_61 rfl h (fun _ h' => ct6_init h') rfl rfl rfl rfl (by decide) rfl rfl (by omega) (by omega) (fun s23 h => ?_)
  refine r_putR (x := fe8_42) 8 67 fl8_42 (by decide) dX8_init_64 rfl (Or.inr ⟨rfl, rfl⟩) rfl rfl (Or.inl rfl) ?_
  refine r_aload_n 68 dX8_init_67 rfl rfl ?_
  refine r_new 6 5 (gN s23 6) 15 159 71 dX8_init_68 rfl rfl rfl (Or.inl rfl) w_7ff70895 w_65e1dfa9 w_57f2bf24 rfl rfl rfl (by omega) (by omega) ?_
  refine r_dup 72 dX8_init_71 rfl rfl ?_
  refine r_aload_n 73 dX8_init_72 rfl rfl ?_
  refine c_AV 1 5 16 164 [vq (some (6, (gN s23 6))), vq (some (2, (gN s21 2)))] [vq (some (6, (gN s23 6))), vq (some (8, i0))] 76 cs8_init_73 rfl h (fun _ h' => ct6_init h') rfl rfl rfl rfl (by decide) rfl rfl (by omega) (by omega) (fun s24 h => ?_)
  refine r_putR (x := fe8_46) 9 79 fl8_46 (by decide) dX8_init_76 rfl (Or.inr ⟨rfl, rfl⟩) rfl rfl (Or.inl rfl) ?_
  refine r_aload_n 80 dX8_init_79 rfl rfl ?_
  refine r_new 3 2 (gN s24 3) 17 166 83 dX8_init_80 rfl rfl rfl (Or.inl rfl) w_bc7df99e w_c8f49039 w_6aa99cec rfl rfl rfl (by omega) (by omega) ?_
  refine r_dup 84 dX8_init_83 rfl rfl ?_
  refine r_aload_n 85 dX8_init_84 rfl rfl ?_
  refine c_AV 8 36 25 202 [vq (some (3, (gN s24 3))), vq (some (2, (gN s21 2)))] [vq (some (3, (gN s24 3))), vq (some (8, i0))] 88 cs8_init_85 rfl h (fun _ h' => ct3_init h') rfl rfl rfl rfl (by decide) rfl rfl (by omega) (by omega) (fun s25 h => ?_)
  refine r_putR (x := fe8_52) 10 91 fl8_52 (by decide) dX8_init_88 rfl (Or.inr ⟨rfl, rfl⟩) rfl rfl (Or.inl rfl) ?_
  refine r_aload_n 92 dX8_init_91 rfl rfl ?_
  refine r_aload_n 93 dX8_init_92 rfl rfl ?_
  refine r_putR (x := fe8_56) 0 96 fl8_56 (by decide) dX8_init_93 rfl (Or.inl rfl) rfl rfl (Or.inl rfl) ?_
  refine r_aload_n 97 dX8_init_96 rfl rfl ?_
  refine r_new 2 12 (gN s25 2) 26 214 100 dX8_init_97 rfl rfl rfl (Or.inl rfl) w_35288c4b w_993500c2 w_144facd1 rfl rfl rfl (by omega) (by omega) ?_
  refine r_dup 101 dX8_init_100 rfl rfl ?_
  refine c_AV 6 81 32 295 [vq (some (2, (gN s25 2)))] [vq (some (2, (gN s25 2))), vq (some (8, i0))] 104 cs8_init_101 rfl h (fun _ h' => ct2_init h') rfl rfl rfl rfl (by decide) rfl rfl (by omega) (by omega) (fun s26 h => ?_)
  refine r_putR (x := fe8_60) 1 107 fl8_60 (by decide) dX8_init_104 rfl (Or.inl rfl) rfl rfl (Or.inl rfl) ?_
  refine r_iconst 0 108 dX8_init_107 rfl (by decide) ?_
  refine r_istore_n [some (vq (some (8, i0))), some (vq (some (2, (gN s21 2)))), some (vi 0)] 109 dX8_init_108 rfl rfl rfl ?_
  refine r_iload_n 110 dX8_init_109 rfl rfl ?_
  refine r_iconst 4 111 dX8_init_110 rfl (by decide) ?_
  refine r_icmp_ge 133 114 dX8_init_111 (by decide) rfl (fun hc => absurd hc (by decide)) (fun _ => ?_)
  refine r_aload_n 115 dX8_init_114 rfl rfl ?_
  refine r_getR (x := fe8_23) 11 118 fl8_23 (by decide) dX8_init_115 rfl rfl rfl (Or.inl rfl) ?_
  refine r_iload_n 119 dX8_init_118 rfl rfl ?_
  refine r_new 4 3 (gN s26 4) 33 298 122 dX8_init_119 rfl rfl rfl (Or.inl rfl) w_20ff7766 w_380ab830 w_01e414a6 rfl rfl rfl (by omega) (by omega) ?_
  refine r_dup 123 dX8_init_122 rfl rfl ?_
  refine c_AV 1 60 34 358 [vq (some (4, (gN s26 4)))] [vq (some (4, (gN s26 4))), vi 0, vq (gR (sR s26 8 i0 1 (some (2, (gN s25 2)))) 8 i0 11)] 126 cs8_init_123 rfl h (fun _ h' => ct4_init h') rfl rfl rfl rfl (by decide) rfl rfl (by omega) (by omega) (fun s27 h => ?_)
  obtain ⟨i28, e0, h⟩ := Out_dr h
  rw [e0]
  refine r_aastore 0 4 127 dX8_init_126 rfl (by decide) (by decide) rfl (by decide) rfl (by decide) rfl (Or.inl rfl) ?_
  refine r_iinc 1 [some (vq (some (8, i0))), some (vq (some (2, (gN s21 2)))), some (vi 1)] 130 dX8_init_127 rfl (by decide) rfl rfl rfl ?_
  refine r_goto 109 dX8_init_130 (by decide) ?_
  refine r_iload_n 110 dX8_init_109 rfl rfl ?_
  refine r_iconst 4 111 dX8_init_110 rfl (by decide) ?_
  refine r_icmp_ge 133 114 dX8_init_111 (by decide) rfl (fun hc => absurd hc (by decide)) (fun _ => ?_)
  refine r_aload_n 115 dX8_init_114 rfl rfl ?_
  refine r_getR (x := fe8_23) 11 118 fl8_23 (by decide) dX8_init_115 rfl rfl rfl (Or.inl rfl) ?_
  refine r_iload_n 119 dX8_init_118 rfl rfl ?_
  refine r_new 4 3 (gN s27 4) 35 361 122 dX8_init_119 rfl rfl rfl (Or.inl rfl) w_20ff7766 w_380ab830 w_01e414a6 rfl rfl rfl (by omega) (by omega) ?_
  refine r_dup 123 dX8_init_122 rfl rfl ?_
  refine c_AV 1 60 36 421 [vq (some (4, (gN s27 4)))] [vq (some (4, (gN s27 4))), vi 1, vq (gR (sR s27 23 i28 0 (some (4, (gN s26 4)))) 8 i0 11)] 126 cs8_init_123 rfl h (fun _ h' => ct4_init h') rfl rfl rfl rfl (by decide) rfl rfl (by omega) (by omega) (fun s29 h => ?_)
  obtain ⟨i30, e0, h⟩ := Out_dr h
  rw [e0]
  refine r_aastore 1 4 127 dX8_init_126 rfl (by decide) (by decide) rfl (by decide) rfl (by decide) rfl (Or.inl rfl) ?_
  refine r_iinc 1 [some (vq (some (8, i0))), some (vq (some (2, (gN s21 2)))), some (vi 2)] 130 dX8_init_127 rfl (by decide) rfl rfl rfl ?_
  refine r_goto 109 dX8_init_130 (by decide) ?_
  refine r_iload_n 110 dX8_init_109 rfl rfl ?_
  refine r_iconst 4 111 dX8_init_110 rfl (by decide) ?_
  refine r_icmp_ge 133 114 dX8_init_111 (by decide) rfl (fun hc => absurd hc (by decide)) (fun _ => ?_)
  refine r_aload_n 115 dX8_init_114 rfl rfl ?_
  refine r_getR (x := fe8_23) 11 118 fl8_23 (by decide) dX8_init_115 rfl rfl rfl (Or.inl rfl) ?_
  refine r_iload_n 119 dX8_init_118 rfl rfl ?_
  refine r_new 4 3 (gN s29 4) 37 424 122 dX8_init_119 rfl rfl rfl (Or.inl rfl) w_20ff7766 w_380ab830 w_01e414a6 rfl rfl rfl (by omega) (by omega) ?_
  refine r_dup 123 dX8_init_122 rfl rfl ?_
  refine c_AV 1 60 38 484 [vq (some (4, (gN s29 4)))] [vq (some (4, (gN s29 4))), vi 2, vq (gR (sR s29 23 i30 1 (some (4, (gN s27 4)))) 8 i0 11)] 126 cs8_init_123 rfl h (fun _ h' => ct4_init h') rfl rfl rfl rfl (by decide) rfl rfl (by omega) (by omega) (fun s31 h => ?_)
  obtain ⟨i32, e0, h⟩ := Out_dr h
  rw [e0]
  refine r_aastore 2 4 127 dX8_init_126 rfl (by decide) (by decide) rfl (by decide) rfl (by decide) rfl (Or.inl rfl) ?_
  refine r_iinc 1 [some (vq (some (8, i0))), some (vq (some (2, (gN s21 2)))), some (vi 3)] 130 dX8_init_127 rfl (by decide) rfl rfl rfl ?_
  refine r_goto 109 dX8_init_130 (by decide) ?_
  refine r_iload_n 110 dX8_init_109 rfl rfl ?_
  refine r_iconst 4 111 dX8_init_110 rfl (by decide) ?_
  refine r_icmp_ge 133 114 dX8_init_111 (by decide) rfl (fun hc => absurd hc (by decide)) (fun _ => ?_)
  refine r_aload_n 115 dX8_init_114 rfl rfl ?_
  refine r_getR (x := fe8_23) 11 118 fl8_23 (by decide) dX8_init_115 rfl rfl rfl (Or.inl rfl) ?_
  refine r_iload_n 119 dX8_init_118 rfl rfl ?_
  refine r_new 4 3 (gN s31 4) 39 487 122 dX8_init_119 rfl rfl rfl (Or.inl rfl) w_20ff7766 w_380ab830 w_01e414a6 rfl rfl rfl (by omega) (by omega) ?_
  refine r_dup 123 dX8_init_122 rfl rfl ?_
  refine c_AV 1 60 40 547 [vq (some (4, (gN s31 4)))] [vq (some (4, (gN s31 4))), vi 3, vq (gR (sR s31 23 i32 2 (some (4, (gN s29 4)))) 8 i0 11)] 126 cs8_init_123 rfl h (fun _ h' => ct4_init h') rfl rfl rfl rfl (by decide) rfl rfl (by omega) (by omega) (fun s33 h => ?_)
  obtain ⟨i34, e0, h⟩ := Out_dr h
  rw [e0]
  refine r_aastore 3 4 127 dX8_init_126 rfl (by decide) (by decide) rfl (by decide) rfl (by decide) rfl (Or.inl rfl) ?_
  refine r_iinc 1 [some (vq (some (8, i0))), some (vq (some (2, (gN s21 2)))), some (vi 4)] 130 dX8_init_127 rfl (by decide) rfl rfl rfl ?_
  refine r_goto 109 dX8_init_130 (by decide) ?_
  refine r_iload_n 110 dX8_init_109 rfl rfl ?_
  refine r_iconst 4 111 dX8_init_110 rfl (by decide) ?_
  refine r_icmp_ge 133 114 dX8_init_111 (by decide) rfl (fun _ => ?_) (fun hc => absurd hc (by decide))
  exact r_return dX8_init_133 rfl (by omega) (by omega) h

set_option maxRecDepth 20000 in
set_option maxHeartbeats 4000000 in
theorem ct9_init {Γ : GG} {K : Sto → Prop} {i0 : Nat} {σ : Sto} (h : Out (f9_init i0 σ) K) : Ct false Γ mX9_init 1 18 455 [vq (some (9, i0))] σ (QV K) := by
  refine Ct_intro (by decide +kernel) rfl ?_
  show M false Γ mX9_init 1 18 455 0 0 (QV K) 0 [some (vq (some (9, i0))), none] [] σ
  unfold f9_init at h
  refine r_aload_n 1 dX9_init_0 rfl rfl ?_
  refine M_objInit (by decide) w_3e2178ef w_6c8d69b2 w_dced4441 (Nat.le_of_ble_eq_true rfl) (by decide) dX9_init_1 ?_
  refine r_aload_n 5 dX9_init_4 rfl rfl ?_
  refine r_bipush 30 7 dX9_init_5 rfl (by decide) ?_
  refine r_newarr 24 30 (gN σ 24) 1 30 9 dX9_init_7 rfl (by decide) (by decide) rfl w_32e41f54 (by decide) rfl rfl (by decide) rfl rfl rfl (by omega) (by omega) ?_
  refine r_putR (x := fe9_7) 2 12 fl9_7 (by decide) dX9_init_9 rfl (Or.inr ⟨rfl, rfl⟩) rfl rfl (Or.inl rfl) ?_
  refine r_aload_n 13 dX9_init_12 rfl rfl ?_
  refine r_iconst 5 14 dX9_init_13 rfl (by decide) ?_
  refine r_newarr 25 5 (gN σ 25) 2 35 16 dX9_init_14 rfl (by decide) (by decide) rfl w_32e41f54 (by decide) rfl rfl (by decide) rfl rfl rfl (by omega) (by omega) ?_
  refine r_putR (x := fe9_13) 4 19 fl9_13 (by decide) dX9_init_16 rfl (Or.inr ⟨rfl, rfl⟩) rfl rfl (Or.inl rfl) ?_
  refine r_aload_n 20 dX9_init_19 rfl rfl ?_
  refine r_iconst 2 21 dX9_init_20 rfl (by decide) ?_
  refine r_newarr 26 2 (gN σ 26) 3 37 23 dX9_init_21 rfl (by decide) (by decide) rfl w_32e41f54 (by decide) rfl rfl (by decide) rfl rfl rfl (by omega) (by omega) ?_
  refine r_putR (x := fe9_16) 6 26 fl9_16 (by decide) dX9_init_23 rfl (Or.inr ⟨rfl, rfl⟩) rfl rfl (Or.inl rfl) ?_
  refine r_aload_n 27 dX9_init_26 rfl rfl ?_
  refine r_iconst 2 28 dX9_init_27 rfl (by decide) ?_
  refine r_newarr 27 2 (gN σ 27) 4 39 30 dX9_init_28 rfl (by decide) (by decide) rfl w_32e41f54 (by decide) rfl rfl (by decide) rfl rfl rfl (by omega) (by omega) ?_
  refine r_putR (x := fe9_19) 7 33 fl9_19 (by decide) dX9_init_30 rfl (Or.inr ⟨rfl, rfl⟩) rfl rfl (Or.inl rfl) ?_
  refine r_aload_n 34 dX9_init_33 rfl rfl ?_
  refine r_bipush 30 36 dX9_init_34 rfl (by decide) ?_
  refine r_newarr 28 30 (gN σ 28) 5 69 38 dX9_init_36 rfl (by decide) (by decide) rfl w_32e41f54 (by decide) rfl rfl (by decide) rfl rfl rfl (by omega) (by omega) ?_
  refine r_putR (x := fe9_22) 10 41 fl9_22 (by decide) dX9_init_38 rfl (Or.inr ⟨rfl, rfl⟩) rfl rfl (Or.inl rfl) ?_
  refine r_aload_n 42 dX9_init_41 rfl rfl ?_
  refine r_bipush 8 44 dX9_init_42 rfl (by decide) ?_
  refine r_newarr 29 8 (gN σ 29) 6 77 46 dX9_init_44 rfl (by decide) (by decide) rfl w_32e41f54 (by decide) rfl rfl (by decide) rfl rfl rfl (by omega) (by omega) ?_
  refine r_putR (x := fe9_25) 12 49 fl9_25 (by decide) dX9_init_46 rfl (Or.inr ⟨rfl, rfl⟩) rfl rfl (Or.inl rfl) ?_
  refine r_aload_n 50 dX9_init_49 rfl rfl ?_
  refine r_bipush 8 52 dX9_init_50 rfl (by decide) ?_
  refine r_newarr 30 8 (gN σ 30) 7 85 54 dX9_init_52 rfl (by decide) (by decide) rfl w_32e41f54 (by decide) rfl rfl (by decide) rfl rfl rfl (by omega) (by omega) ?_
  refine r_putR (x := fe9_28) 13 57 fl9_28 (by decide) dX9_init_54 rfl (Or.inr ⟨rfl, rfl⟩) rfl rfl (Or.inl rfl) ?_
  refine r_aload_n 58 dX9_init_57 rfl rfl ?_
  refine r_iconst 4 59 dX9_init_58 rfl (by decide) ?_
  refine r_newarr 31 4 (gN σ 31) 8 89 61 dX9_init_59 rfl (by decide) (by decide) rfl w_32e41f54 (by decide) rfl rfl (by decide) rfl rfl rfl (by omega) (by omega) ?_
  refine r_putR (x := fe9_31) 16 64 fl9_31 (by decide) dX9_init_61 rfl (Or.inr ⟨rfl, rfl⟩) rfl rfl (Or.inl rfl) ?_
  refine r_aload_n 65 dX9_init_64 rfl rfl ?_
  refine r_iconst 4 66 dX9_init_65 rfl (by decide) ?_
  refine r_newarr 32 4 (gN σ 32) 9 93 68 dX9_init_66 rfl (by decide) (by decide) rfl w_32e41f54 (by decide) rfl rfl (by decide) rfl rfl rfl (by omega) (by omega) ?_
  refine r_putR (x := fe9_34) 17 71 fl9_34 (by decide) dX9_init_68 rfl (Or.inr ⟨rfl, rfl⟩) rfl rfl (Or.inl rfl) ?_
  refine r_aload_n 72 dX9_init_71 rfl rfl ?_
  refine r_sipush 240 75 dX9_init_72 rfl (by decide) ?_
  refine r_newarr 33 240 (gN σ 33) 10 333 77 dX9_init_75 rfl (by decide) (by decide) rfl w_32e41f54 (by decide) rfl rfl (by decide) rfl rfl rfl (by omega) (by omega) ?_
  refine r_putR (x := fe9_37) 18 80 fl9_37 (by decide) dX9_init_77 rfl (Or.inr ⟨rfl, rfl⟩) rfl rfl (Or.inl rfl) ?_
  refine r_aload_n 81 dX9_init_80 rfl rfl ?_
  refine r_bipush 60 83 dX9_init_81 rfl (by decide) ?_
  refine r_newarr 34 60 (gN σ 34) 11 393 85 dX9_init_83 rfl (by decide) (by decide) rfl w_32e41f54 (by decide) rfl rfl (by decide) rfl rfl rfl (by omega) (by omega) ?_
  refine r_putR (x := fe9_40) 19 88 fl9_40 (by decide) dX9_init_85 rfl (Or.inr ⟨rfl, rfl⟩) rfl rfl (Or.inl rfl) ?_
  refine r_aload_n 89 dX9_init_88 rfl rfl ?_
  refine r_bipush 30 91 dX9_init_89 rfl (by decide) ?_
  refine r_newarr 35 30 (gN σ 35) 12 423 93 dX9_init_91 rfl (by decide) (by decide) rfl w_32e41f54 (by decide) rfl rfl (by decide) rfl rfl rfl (by omega) (by omega) ?_
  refine r_putR (x := fe9_43) 25 96 fl9_43 (by decide) dX9_init_93 rfl (Or.inr ⟨rfl, rfl⟩) rfl rfl (Or.inl rfl) ?_
  refine r_aload_n 97 dX9_init_96 rfl rfl ?_
  refine r_iconst 5 98 dX9_init_97 rfl (by decide) ?_
  refine r_newarr 36 5 (gN σ 36) 13 428 100 dX9_init_98 rfl (by decide) (by decide) rfl w_32e41f54 (by decide) rfl rfl (by decide) rfl rfl rfl (by omega) (by omega) ?_
  refine r_putR (x := fe9_46) 26 103 fl9_46 (by decide) dX9_init_100 rfl (Or.inr ⟨rfl, rfl⟩) rfl rfl (Or.inl rfl) ?_
  refine r_aload_n 104 dX9_init_103 rfl rfl ?_
  refine r_iconst 2 105 dX9_init_104 rfl (by decide) ?_
  refine r_newarr 37 2 (gN σ 37) 14 430 107 dX9_init_105 rfl (by decide) (by decide) rfl w_32e41f54 (by decide) rfl rfl (by decide) rfl rfl rfl (by omega) (by omega) ?_
  refine r_putR (x := fe9_49) 28 110 fl9_49 (by decide) dX9_init_107 rfl (Or.inr ⟨rfl, rfl⟩) rfl rfl (Or.inl rfl) ?_
  refine r_aload_n 111 dX9_init_110 rfl rfl ?_
  refine r_iconst 2 112 dX9_init_111 rfl (by decide) ?_
  refine r_newarr 38 2 (gN σ 38) 15 432 114 dX9_init_112 rfl (by decide) (by decide) rfl w_32e41f54 (by decide) rfl rfl (by decide) rfl rfl rfl (by omega) (by omega) ?_
  refine r_putR (x := fe9_52) 29 117 fl9_52 (by decide) dX9_init_114 rfl (Or.inr ⟨rfl, rfl⟩) rfl rfl (Or.inl rfl) ?_
  refine r_aload_n 118 dX9_init_117 rfl rfl ?_
  refine r_iconst 5 119 dX9_init_118 rfl (by decide) ?_
  refine r_newarr 39 5 (gN σ 39) 16 437 121 dX9_init_119 rfl (by decide) (by decide) rfl w_32e41f54 (by decide) rfl rfl (by decide) rfl rfl rfl (by omega) (by omega) ?_
  refine r_putR (x := fe9_55) 30 124 fl9_55 (by decide) dX9_init_121 rfl (Or.inr ⟨rfl, rfl⟩) rfl rfl (Or.inl rfl) ?_
  refine r_aload_n 125 dX9_init_124 rfl rfl ?_
  refine r_bipush 15 127 dX9_init_125 rfl (by decide) ?_
  refine r_newarr 40 15 (gN σ 40) 17 452 129 dX9_init_127 rfl (by decide) (by decide) rfl w_32e41f54 (by decide) rfl rfl (by decide) rfl rfl rfl (by omega) (by omega) ?_
  refine r_putR (x := fe9_58) 31 132 fl9_58 (by decide) dX9_init_129 rfl (Or.inr ⟨rfl, rfl⟩) rfl rfl (Or.inl rfl) ?_
  refine r_aload_n 133 dX9_init_132 rfl rfl ?_
  refine r_iconst 3 134 dX9_init_133 rfl (by decide) ?_
  refine r_newarr 41 3 (gN σ 41) 18 455 136 dX9_init_134 rfl (by decide) (by decide) rfl w_32e41f54 (by decide) rfl rfl (by decide) rfl rfl rfl (by omega) (by omega) ?_
  refine r_putR (x := fe9_61) 32 139 fl9_61 (by decide) dX9_init_136 rfl (Or.inr ⟨rfl, rfl⟩) rfl rfl (Or.inl rfl) ?_
  refine r_iconst 0 140 dX9_init_139 rfl (by decide) ?_
  refine r_istore_n [some (vq (some (9, i0))), some (vi 0)] 141 dX9_init_140 rfl rfl rfl ?_
  refine r_iload_n 142 dX9_init_141 rfl rfl ?_
  refine r_iconst 4 143 dX9_init_142 rfl (by decide) ?_
  refine r_icmp_ge 159 146 dX9_init_143 (by decide) rfl (fun hc => absurd hc (by decide)) (fun _ => ?_)
  refine r_aload_n 147 dX9_init_146 rfl rfl ?_
  refine r_getR (x := fe9_31) 16 150 fl9_31 (by decide) dX9_init_147 rfl rfl rfl (Or.inl rfl) ?_
  refine r_iload_n 151 dX9_init_150 rfl rfl ?_
  refine r_iconst (-1) 152 dX9_init_151 rfl (by decide) ?_
  obtain ⟨i21, e0, h⟩ := Out_dr h
  rw [e0]
  refine r_iastore 0 4 153 dX9_init_152 rfl (by decide) (by decide) rfl rfl (by decide) rfl ?_
  refine r_iinc 1 [some (vq (some (9, i0))), some (vi 1)] 156 dX9_init_153 rfl (by decide) rfl rfl rfl ?_
  refine r_goto 141 dX9_init_156 (by decide) ?_
  refine r_iload_n 142 dX9_init_141 rfl rfl ?_
  refine r_iconst 4 143 dX9_init_142 rfl (by decide) ?_
  refine r_icmp_ge 159 146 dX9_init_143 (by decide) rfl (fun hc => absurd hc (by decide)) (fun _ => ?_)
  refine r_aload_n 147 dX9_init_146 rfl rfl ?_
  refine r_getR (x := fe9_31) 16 150 fl9_31 (by decide) dX9_init_147 rfl rfl rfl (Or.inl rfl) ?_
  refine r_iload_n 151 dX9_init_150 rfl rfl ?_
  refine r_iconst (-1) 152 dX9_init_151 rfl (by decide) ?_
  obtain ⟨i22, e0, h⟩ := Out_dr h
  rw [e0]
  refine r_iastore 1 4 153 dX9_init_152 rfl (by decide) (by decide) rfl rfl (by decide) rfl ?_
  refine r_iinc 1 [some (vq (some (9, i0))), some (vi 2)] 156 dX9_init_153 rfl (by decide) rfl rfl rfl ?_
  refine r_goto 141 dX9_init_156 (by decide) ?_
  refine r_iload_n 142 dX9_init_141 rfl rfl ?_
  refine r_iconst 4 143 dX9_init_142 rfl (by decide) ?_
  refine r_icmp_ge 159 146 dX9_init_143 (by decide) rfl (fun hc => absurd hc (by decide)) (fun _ => ?_)
  refine r_aload_n 147 dX9_init_146 rfl rfl ?_
  refine r_getR (x := fe9_31) 16 150 fl9_31 (by decide) dX9_init_147 rfl rfl rfl (Or.inl rfl) ?_
  refine r_iload_n 151 dX9_init_150 rfl rfl ?_
  refine r_iconst (-1) 152 dX9_init_151 rfl (by decide) ?_
  obtain ⟨i23, e0, h⟩ := Out_dr h
  rw [e0]
  refine r_iastore 2 4 153 dX9_init_152 rfl (by decide) (by decide) rfl rfl (by decide) rfl ?_
  refine r_iinc 1 [some (vq (some (9, i0))), some (vi 3)] 156 dX9_init_153 rfl (by decide) rfl rfl rfl ?_
  refine r_goto 141 dX9_init_156 (by decide) ?_
  refine r_iload_n 142 dX9_init_141 rfl rfl ?_
  refine r_iconst 4 143 dX9_init_142 rfl (by decide) ?_
  refine r_icmp_ge 159 146 dX9_init_143 (by decide) rfl (fun hc => absurd hc (by decide)) (fun _ => ?_)
  refine r_aload_n 147 dX9_init_146 rfl rfl ?_
  refine r_getR (x := fe9_31) 16 150 fl9_31 (by decide) dX9_init_147 rfl rfl rfl (Or.inl rfl) ?_
  refine r_iload_n 151 dX9_init_150 rfl rfl ?_
  refine r_iconst (-1) 152 dX9_init_151 rfl (by decide) ?_
  obtain ⟨i24, e0, h⟩ := Out_dr h
  rw [e0]
  refine r_iastore 3 4 153 dX9_init_152 rfl (by decide) (by decide) rfl rfl (by decide) rfl ?_
  refine r_iinc 1 [some (vq (some (9, i0))), some (vi 4)] 156 dX9_init_153 rfl (by decide) rfl rfl rfl ?_
  refine r_goto 141 dX9_init_156 (by decide) ?_
  refine r_iload_n 142 dX9_init_141 rfl rfl ?_
  refine r_iconst 4 143 dX9_init_142 rfl (by decide) ?_
  refine r_icmp_ge 159 146 dX9_init_143 (by decide) rfl (fun _ => ?_) (fun hc => absurd hc (by decide))
  exact r_return dX9_init_159 rfl (by omega) (by omega) h

