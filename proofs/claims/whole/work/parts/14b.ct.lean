/-! printed by wip/gen/dec.py: the methods meet their functions -/
set_option maxRecDepth 20000 in
set_option maxHeartbeats 4000000 in
theorem ct6_pushByCode {Γ : GG} {K : Sto → Prop} {i0 : Nat} {a1 : Int32} {σ : Sto} (h : Out (f6_pushByCode i0 a1 σ) K) : Ct true Γ mX6_pushByCode 3 0 0 [vq (some (6, i0)), vi a1] σ (QV K) := by
  refine Ct_intro (by decide +kernel) rfl ?_
  show M true Γ mX6_pushByCode 3 0 0 0 0 (QV K) 0 [some (vq (some (6, i0))), some (vi a1), none, none, none] [] σ
  unfold f6_pushByCode at h
  refine r_aload_n 1 dX6_pushByCode_0 rfl rfl ?_
  refine r_getR (x := fe6_15) 0 4 fl6_15 (by decide) dX6_pushByCode_1 rfl rfl rfl (Or.inr rfl) ?_
  refine r_iload_n 5 dX6_pushByCode_4 rfl rfl ?_
  refine r_bipush 100 7 dX6_pushByCode_5 rfl (by decide) ?_
  refine r_idiv 8 dX6_pushByCode_7 rfl (by decide) ?_
  obtain ⟨i21, e0, h⟩ := Out_dr h
  rw [e0]
  refine c_R [vq (some (2, i21)), vi (a1 / 100)] [] 11 cs6_pushByCode_8 rfl h (fun _ h' => ct2_eaterAt h') rfl rfl rfl rfl (by decide) (Nat.le_refl 0) (Nat.le_refl 0) (fun v22 s23 h => ?_)
  refine r_astore_n [some (vq (some (6, i0))), some (vi a1), some (vq v22), none, none] 12 dX6_pushByCode_11 rfl rfl rfl ?_
  refine r_iload_n 13 dX6_pushByCode_12 rfl rfl ?_
  refine c_I [vi a1] [] 16 cs6_pushByCode_13 rfl h (fun _ h' => ct8_peaOf h') rfl rfl rfl rfl (by decide) (Nat.le_refl 0) (Nat.le_refl 0) (fun v24 s25 h => ?_)
  refine r_istore_n [some (vq (some (6, i0))), some (vi a1), some (vq v22), some (vi v24), none] 17 dX6_pushByCode_16 rfl rfl rfl ?_
  refine r_iload_n 18 dX6_pushByCode_17 rfl rfl ?_
  refine r_bipush 10 20 dX6_pushByCode_18 rfl (by decide) ?_
  refine r_irem 21 dX6_pushByCode_20 rfl (by decide) ?_
  refine r_istore [some (vq (some (6, i0))), some (vi a1), some (vq v22), some (vi v24), some (vi (a1 - a1 / 10 * 10))] 23 dX6_pushByCode_21 rfl rfl rfl ?_
  refine r_aload_n 24 dX6_pushByCode_23 rfl rfl ?_
  rcases Out_rcs h with ⟨e0, h⟩ | ⟨k26, i27, e0, h⟩
  · subst e0
    refine r_ifnull 35 27 dX6_pushByCode_24 (by decide) rfl (fun _ => ?_) (fun hc => absurd rfl hc)
    exact r_return dX6_pushByCode_35 rfl (Nat.le_refl 0) (Nat.le_refl 0) h
  · subst e0
    refine r_ifnull 35 27 dX6_pushByCode_24 (by decide) rfl (fun hc => by cases hc) (fun _ => ?_)
    refine r_aload_n 28 dX6_pushByCode_27 rfl rfl ?_
    refine r_iload_n 29 dX6_pushByCode_28 rfl rfl ?_
    refine c_I [vq (some (6, i0)), vi v24] [] 32 cs6_pushByCode_29 rfl h (fun _ h' => ct6_isOn h') rfl rfl rfl rfl (by decide) (Nat.le_refl 0) (Nat.le_refl 0) (fun v28 s29 h => ?_)
    refine r_if_ne 36 35 dX6_pushByCode_32 (by decide) rfl (fun hc => ?_) (fun hc => ?_)
    · replace h := Out_neg hc h
      refine r_aload_n 37 dX6_pushByCode_36 rfl rfl ?_
      refine r_iload_n 38 dX6_pushByCode_37 rfl rfl ?_
      refine r_iload 40 dX6_pushByCode_38 rfl rfl ?_
      refine c_I [vq (some (6, i0)), vi v24, vi (a1 - a1 / 10 * 10)] [] 43 cs6_pushByCode_40 rfl h (fun _ h' => ct6_isHeld h') rfl rfl rfl rfl (by decide) (Nat.le_refl 0) (Nat.le_refl 0) (fun v30 s31 h => ?_)
      refine r_if_eq 69 46 dX6_pushByCode_43 (by decide) rfl (fun hc => ?_) (fun hc => ?_)
      · replace h := Out_pos hc h
        refine r_aload_n 70 dX6_pushByCode_69 rfl rfl ?_
        refine r_iload_n 71 dX6_pushByCode_70 rfl rfl ?_
        refine r_iload 73 dX6_pushByCode_71 rfl rfl ?_
        refine r_aload_n 74 dX6_pushByCode_73 rfl rfl ?_
        rcases Out_fk h with ⟨ek, h1⟩ | ⟨ek, h1⟩ | ⟨ek, h1⟩
        · subst ek
          replace h := h1
          refine c_I [vq (some (0, i27))] [vi (a1 - a1 / 10 * 10), vi v24, vq (some (6, i0))] 77 cs6_pushByCode_74_0 rfl h (fun _ h' => ct0_pushForce_0 h') rfl rfl rfl rfl (by decide) (Nat.le_refl 0) (Nat.le_refl 0) (fun v32 s33 h => ?_)
          refine c_V [vq (some (6, i0)), vi v24, vi (a1 - a1 / 10 * 10), vi v32] [] 80 cs6_pushByCode_77 rfl h (fun _ h' => ct6_roll h') rfl rfl rfl rfl (by decide) (Nat.le_refl 0) (Nat.le_refl 0) (fun s34 h => ?_)
          exact r_return dX6_pushByCode_80 rfl (Nat.le_refl 0) (Nat.le_refl 0) h
        · subst ek
          replace h := h1
          refine c_I [vq (some (1, i27))] [vi (a1 - a1 / 10 * 10), vi v24, vq (some (6, i0))] 77 cs6_pushByCode_74_1 rfl h (fun _ h' => ct1_pushForce_1 h') rfl rfl rfl rfl (by decide) (Nat.le_refl 0) (Nat.le_refl 0) (fun v35 s36 h => ?_)
          refine c_V [vq (some (6, i0)), vi v24, vi (a1 - a1 / 10 * 10), vi v35] [] 80 cs6_pushByCode_77 rfl h (fun _ h' => ct6_roll h') rfl rfl rfl rfl (by decide) (Nat.le_refl 0) (Nat.le_refl 0) (fun s37 h => ?_)
          exact r_return dX6_pushByCode_80 rfl (Nat.le_refl 0) (Nat.le_refl 0) h
        · subst ek
          replace h := h1
          refine c_I [vq (some (5, i27))] [vi (a1 - a1 / 10 * 10), vi v24, vq (some (6, i0))] 77 cs6_pushByCode_74_5 rfl h (fun _ h' => ct5_pushForce_5 h') rfl rfl rfl rfl (by decide) (Nat.le_refl 0) (Nat.le_refl 0) (fun v38 s39 h => ?_)
          refine c_V [vq (some (6, i0)), vi v24, vi (a1 - a1 / 10 * 10), vi v38] [] 80 cs6_pushByCode_77 rfl h (fun _ h' => ct6_roll h') rfl rfl rfl rfl (by decide) (Nat.le_refl 0) (Nat.le_refl 0) (fun s40 h => ?_)
          exact r_return dX6_pushByCode_80 rfl (Nat.le_refl 0) (Nat.le_refl 0) h
      · replace h := Out_neg hc h
        refine r_aload_n 47 dX6_pushByCode_46 rfl rfl ?_
        refine r_dup 48 dX6_pushByCode_47 rfl rfl ?_
        refine r_getI (x := fe6_23) 1 51 fl6_23 (by decide) dX6_pushByCode_48 rfl rfl rfl ?_
        refine r_iconst 1 52 dX6_pushByCode_51 rfl (by decide) ?_
        refine r_iload_n 53 dX6_pushByCode_52 rfl rfl ?_
        refine r_ishl 54 dX6_pushByCode_53 rfl ?_
        refine r_ior 55 dX6_pushByCode_54 rfl ?_
        refine r_putI (x := fe6_23) 1 58 fl6_23 (by decide) dX6_pushByCode_55 rfl (Or.inl rfl) rfl rfl ?_
        refine r_aload_n 59 dX6_pushByCode_58 rfl rfl ?_
        refine r_getF (x := fe6_9) 4 (16, i0) 62 fl6_9 (by decide) dX6_pushByCode_59 rfl rfl rfl rfl ?_
        refine r_iload_n 63 dX6_pushByCode_62 rfl rfl ?_
        refine r_bipush (-9) 65 dX6_pushByCode_63 rfl (by decide) ?_
        obtain ⟨hc, h⟩ := Out_grd h
        refine r_iastore v24.toNatClampNeg 5 66 dX6_pushByCode_65 rfl (by decide) (by decide) rfl rfl hc rfl ?_
        refine r_goto 80 dX6_pushByCode_66 (by decide) ?_
        exact r_return dX6_pushByCode_80 rfl (Nat.le_refl 0) (Nat.le_refl 0) h
    · replace h := Out_pos hc h
      exact r_return dX6_pushByCode_35 rfl (Nat.le_refl 0) (Nat.le_refl 0) h

set_option maxRecDepth 20000 in
set_option maxHeartbeats 4000000 in
theorem ct3_stepsOn {Γ : GG} {K : Int32 × Sto → Prop} {a1 : Int32} {a2 : Int32} {σ : Sto} (h : Out (f3_stepsOn a1 a2 σ) K) : Ct true Γ mX3_stepsOn 4 0 0 [vq (some (3, 0)), vi a1, vi a2] σ (QI K) := by
  refine Ct_intro (by decide +kernel) rfl ?_
  show M true Γ mX3_stepsOn 4 0 0 0 0 (QI K) 0 [some (vq (some (3, 0))), some (vi a1), some (vi a2)] [] σ
  unfold f3_stepsOn at h
  refine r_iload_n 1 dX3_stepsOn_0 rfl rfl ?_
  refine r_iconst 2 2 dX3_stepsOn_1 rfl (by decide) ?_
  refine c_I [vi a1, vi 2] [] 5 cs3_stepsOn_2 rfl h (fun _ h' => ct8_isBelow h') rfl rfl rfl rfl (by decide) (Nat.le_refl 0) (Nat.le_refl 0) (fun v21 s22 h => ?_)
  refine r_if_eq 24 8 dX3_stepsOn_5 (by decide) rfl (fun hc => ?_) (fun hc => ?_)
  · replace h := Out_pos hc h
    refine r_iconst 0 25 dX3_stepsOn_24 rfl (by decide) ?_
    exact r_zreturn dX3_stepsOn_25 rfl (by decide) (Nat.le_refl 0) (Nat.le_refl 0) h
  · replace h := Out_neg hc h
    refine r_aload_n 9 dX3_stepsOn_8 rfl rfl ?_
    refine r_getF (x := fe3_11) 0 (17, 0) 12 fl3_11 (by decide) dX3_stepsOn_9 rfl rfl rfl rfl ?_
    refine r_iload_n 13 dX3_stepsOn_12 rfl rfl ?_
    obtain ⟨hc, h⟩ := Out_grd h
    refine r_aaload (some (6, a1.toNatClampNeg + 2)) a1.toNatClampNeg 3 14 dX3_stepsOn_13 rfl (by decide) rfl rfl hc rfl rfl ?_
    refine r_iload_n 15 dX3_stepsOn_14 rfl rfl ?_
    refine c_I [vi a2] [vq (some (6, (a1.toNatClampNeg + 2)))] 18 cs3_stepsOn_15 rfl h (fun _ h' => ct8_peaOf h') rfl rfl rfl rfl (by decide) (Nat.le_refl 0) (Nat.le_refl 0) (fun v23 s24 h => ?_)
    refine c_I [vq (some (6, (a1.toNatClampNeg + 2))), vi v23] [] 21 cs3_stepsOn_18 rfl h (fun _ h' => ct6_isOn h') rfl rfl rfl rfl (by decide) (Nat.le_refl 0) (Nat.le_refl 0) (fun v25 s26 h => ?_)
    refine r_if_ne 26 24 dX3_stepsOn_21 (by decide) rfl (fun hc => ?_) (fun hc => ?_)
    · replace h := Out_neg hc h
      refine r_aload_n 27 dX3_stepsOn_26 rfl rfl ?_
      refine r_getF (x := fe3_11) 0 (17, 0) 30 fl3_11 (by decide) dX3_stepsOn_27 rfl rfl rfl rfl ?_
      refine r_iload_n 31 dX3_stepsOn_30 rfl rfl ?_
      refine r_iconst 1 32 dX3_stepsOn_31 rfl (by decide) ?_
      refine r_iadd 33 dX3_stepsOn_32 rfl ?_
      obtain ⟨hc, h⟩ := Out_grd h
      refine r_aaload (some (6, (a1 + 1).toNatClampNeg + 2)) (a1 + 1).toNatClampNeg 3 34 dX3_stepsOn_33 rfl (by decide) rfl rfl hc rfl rfl ?_
      refine r_aload_n 35 dX3_stepsOn_34 rfl rfl ?_
      refine r_getF (x := fe3_11) 0 (17, 0) 38 fl3_11 (by decide) dX3_stepsOn_35 rfl rfl rfl rfl ?_
      refine r_iload_n 39 dX3_stepsOn_38 rfl rfl ?_
      obtain ⟨hc, h⟩ := Out_grd h
      refine r_aaload (some (6, a1.toNatClampNeg + 2)) a1.toNatClampNeg 3 40 dX3_stepsOn_39 rfl (by decide) rfl rfl hc rfl rfl ?_
      refine c_V [vq (some (6, ((a1 + 1).toNatClampNeg + 2))), vq (some (6, (a1.toNatClampNeg + 2)))] [] 43 cs3_stepsOn_40 rfl h (fun _ h' => ct6_copyFrom h') rfl rfl rfl rfl (by decide) (Nat.le_refl 0) (Nat.le_refl 0) (fun s27 h => ?_)
      refine r_aload_n 44 dX3_stepsOn_43 rfl rfl ?_
      refine r_getF (x := fe3_11) 0 (17, 0) 47 fl3_11 (by decide) dX3_stepsOn_44 rfl rfl rfl rfl ?_
      refine r_iload_n 48 dX3_stepsOn_47 rfl rfl ?_
      refine r_iconst 1 49 dX3_stepsOn_48 rfl (by decide) ?_
      refine r_iadd 50 dX3_stepsOn_49 rfl ?_
      obtain ⟨hc, h⟩ := Out_grd h
      refine r_aaload (some (6, (a1 + 1).toNatClampNeg + 2)) (a1 + 1).toNatClampNeg 3 51 dX3_stepsOn_50 rfl (by decide) rfl rfl hc rfl rfl ?_
      refine r_iload_n 52 dX3_stepsOn_51 rfl rfl ?_
      refine c_V [vq (some (6, ((a1 + 1).toNatClampNeg + 2))), vi a2] [] 55 cs3_stepsOn_52 rfl h (fun _ h' => ct6_pushByCode h') rfl rfl rfl rfl (by decide) (Nat.le_refl 0) (Nat.le_refl 0) (fun s28 h => ?_)
      refine r_iconst 1 56 dX3_stepsOn_55 rfl (by decide) ?_
      exact r_zreturn dX3_stepsOn_56 rfl (by decide) (Nat.le_refl 0) (Nat.le_refl 0) h
    · replace h := Out_pos hc h
      refine r_iconst 0 25 dX3_stepsOn_24 rfl (by decide) ?_
      exact r_zreturn dX3_stepsOn_25 rfl (by decide) (Nat.le_refl 0) (Nat.le_refl 0) h

set_option maxRecDepth 20000 in
set_option maxHeartbeats 4000000 in
theorem ct4_begin {Γ : GG} {K : Sto → Prop} {i0 : Nat} {a1 : Int32} {a2 : Int32} {σ : Sto} (h : Out (f4_begin i0 a1 a2 σ) K) : Ct true Γ mX4_begin 1 0 0 [vq (some (4, i0)), vi a1, vi a2] σ (QV K) := by
  refine Ct_intro (by decide +kernel) rfl ?_
  show M true Γ mX4_begin 1 0 0 0 0 (QV K) 0 [some (vq (some (4, i0))), some (vi a1), some (vi a2)] [] σ
  unfold f4_begin at h
  refine r_aload_n 1 dX4_begin_0 rfl rfl ?_
  refine r_iload_n 2 dX4_begin_1 rfl rfl ?_
  refine r_putI (x := fe4_19) 1 5 fl4_19 (by decide) dX4_begin_2 rfl (Or.inl rfl) rfl rfl ?_
  refine r_aload_n 6 dX4_begin_5 rfl rfl ?_
  refine r_iload_n 7 dX4_begin_6 rfl rfl ?_
  refine r_bipush 60 9 dX4_begin_7 rfl (by decide) ?_
  refine M_min w_299da619 w_86f19dd9 w_ae09fe6d w_45c19164 (Nat.le_of_ble_eq_true rfl) (by decide) (Nat.le_refl 0) (Nat.le_refl 0) dX4_begin_9 ?_
  refine r_putI (x := fe4_15) 2 15 fl4_15 (by decide) dX4_begin_12 rfl (Or.inl rfl) rfl rfl ?_
  refine r_aload_n 16 dX4_begin_15 rfl rfl ?_
  refine r_getF (x := fe4_9) 0 (19, i0) 19 fl4_9 (by decide) dX4_begin_16 rfl rfl rfl rfl ?_
  refine r_iconst 0 20 dX4_begin_19 rfl (by decide) ?_
  refine c_V [vq (some (19, i0)), vi 0] [] 23 cs4_begin_20 rfl h (fun _ h' => ctJ7_fill h') rfl rfl rfl rfl (by decide) (Nat.le_refl 0) (Nat.le_refl 0) (fun s21 h => ?_)
  exact r_return dX4_begin_23 rfl (Nat.le_refl 0) (Nat.le_refl 0) h

set_option maxRecDepth 20000 in
set_option maxHeartbeats 4000000 in
theorem ct4_cut {Γ : GG} {K : Int32 × Sto → Prop} {i0 : Nat} {a1 : Int32} {σ : Sto} (h : Out (f4_cut i0 a1 σ) K) : Ct true Γ mX4_cut 0 0 0 [vq (some (4, i0)), vi a1] σ (QI K) := by
  refine Ct_intro (by decide +kernel) rfl ?_
  show M true Γ mX4_cut 0 0 0 0 0 (QI K) 0 [some (vq (some (4, i0))), some (vi a1)] [] σ
  unfold f4_cut at h
  refine r_aload_n 1 dX4_cut_0 rfl rfl ?_
  refine r_getI (x := fe4_19) 1 4 fl4_19 (by decide) dX4_cut_1 rfl rfl rfl ?_
  by_cases hs0 : (gI σ 4 i0 1) = 0
  · replace h := Out_pos hs0 h
    refine M_lookup dX4_cut_4 (off := 28) (t := 32) (by decide) (by rw [hs0]; decide) (by decide) ?_
    refine r_iload_n 33 dX4_cut_32 rfl rfl ?_
    refine r_i2b 34 dX4_cut_33 rfl ?_
    exact r_ireturn dX4_cut_34 rfl (Nat.le_refl 0) (Nat.le_refl 0) h
  replace h := Out_neg hs0 h
  by_cases hs1 : (gI σ 4 i0 1) = 1
  · replace h := Out_pos hs1 h
    refine M_lookup dX4_cut_4 (off := 31) (t := 35) (by decide) (by rw [hs1]; decide) (by decide) ?_
    refine r_iload_n 36 dX4_cut_35 rfl rfl ?_
    refine r_i2s 37 dX4_cut_36 rfl ?_
    exact r_ireturn dX4_cut_37 rfl (Nat.le_refl 0) (Nat.le_refl 0) h
  replace h := Out_neg hs1 h
  refine M_lookup dX4_cut_4 (off := 34) (t := 38) (by decide) (by show Op.lookupswitch.offset [(0, 28), (1, 31)] 34 _ = _; rw [lv_osw hs0 (by decide), lv_osw hs1 (by decide)]; rfl) (by decide) ?_
  refine r_iload_n 39 dX4_cut_38 rfl rfl ?_
  exact r_ireturn dX4_cut_39 rfl (Nat.le_refl 0) (Nat.le_refl 0) h

set_option maxRecDepth 20000 in
set_option maxHeartbeats 4000000 in
theorem ct4_drop {Γ : GG} {K : Sto → Prop} {i0 : Nat} {σ : Sto} (h : Out (f4_drop i0 σ) K) : Ct true Γ mX4_drop 0 0 0 [vq (some (4, i0))] σ (QV K) := by
  refine Ct_intro (by decide +kernel) rfl ?_
  show M true Γ mX4_drop 0 0 0 0 0 (QV K) 0 [some (vq (some (4, i0)))] [] σ
  unfold f4_drop at h
  refine r_aload_n 1 dX4_drop_0 rfl rfl ?_
  refine r_iconst (-1) 2 dX4_drop_1 rfl (by decide) ?_
  refine r_putI (x := fe4_15) 2 5 fl4_15 (by decide) dX4_drop_2 rfl (Or.inl rfl) rfl rfl ?_
  exact r_return dX4_drop_5 rfl (Nat.le_refl 0) (Nat.le_refl 0) h

set_option maxRecDepth 20000 in
set_option maxHeartbeats 4000000 in
theorem ct4_isNothing {Γ : GG} {K : Int32 × Sto → Prop} {i0 : Nat} {σ : Sto} (h : Out (f4_isNothing i0 σ) K) : Ct true Γ mX4_isNothing 0 0 0 [vq (some (4, i0))] σ (QI K) := by
  refine Ct_intro (by decide +kernel) rfl ?_
  show M true Γ mX4_isNothing 0 0 0 0 0 (QI K) 0 [some (vq (some (4, i0)))] [] σ
  unfold f4_isNothing at h
  refine r_aload_n 1 dX4_isNothing_0 rfl rfl ?_
  refine r_getI (x := fe4_15) 2 4 fl4_15 (by decide) dX4_isNothing_1 rfl rfl rfl ?_
  refine r_iconst (-1) 5 dX4_isNothing_4 rfl (by decide) ?_
  refine r_icmp_ne 12 8 dX4_isNothing_5 (by decide) rfl (fun hc => ?_) (fun hc => ?_)
  · replace h := Out_neg hc h
    refine r_iconst 0 13 dX4_isNothing_12 rfl (by decide) ?_
    exact r_zreturn dX4_isNothing_13 rfl (by decide) (Nat.le_refl 0) (Nat.le_refl 0) h
  · replace h := Out_pos hc h
    refine r_iconst 1 9 dX4_isNothing_8 rfl (by decide) ?_
    refine r_goto 13 dX4_isNothing_9 (by decide) ?_
    exact r_zreturn dX4_isNothing_13 rfl (by decide) (Nat.le_refl 0) (Nat.le_refl 0) h

set_option maxRecDepth 20000 in
set_option maxHeartbeats 4000000 in
theorem ct4_faultOfLane {Γ : GG} {K : Int32 × Sto → Prop} {i0 : Nat} {a1 : Int32} {σ : Sto} (h : Out (f4_faultOfLane i0 a1 σ) K) : Ct true Γ mX4_faultOfLane 1 0 0 [vq (some (4, i0)), vi a1] σ (QI K) := by
  refine Ct_intro (by decide +kernel) rfl ?_
  show M true Γ mX4_faultOfLane 1 0 0 0 0 (QI K) 0 [some (vq (some (4, i0))), some (vi a1)] [] σ
  unfold f4_faultOfLane at h
  refine r_aload_n 1 dX4_faultOfLane_0 rfl rfl ?_
  refine c_I [vq (some (4, i0))] [] 4 cs4_faultOfLane_1 rfl h (fun _ h' => ct4_isNothing h') rfl rfl rfl rfl (by decide) (Nat.le_refl 0) (Nat.le_refl 0) (fun v21 s22 h => ?_)
  refine r_if_eq 9 7 dX4_faultOfLane_4 (by decide) rfl (fun hc => ?_) (fun hc => ?_)
  · replace h := Out_pos hc h
    refine r_aload_n 10 dX4_faultOfLane_9 rfl rfl ?_
    refine r_getI (x := fe4_19) 1 13 fl4_19 (by decide) dX4_faultOfLane_10 rfl rfl rfl ?_
    refine r_iload_n 14 dX4_faultOfLane_13 rfl rfl ?_
    refine r_icmp_ne 21 17 dX4_faultOfLane_14 (by decide) rfl (fun hc => ?_) (fun hc => ?_)
    · replace h := Out_neg hc h
      refine r_iconst 2 22 dX4_faultOfLane_21 rfl (by decide) ?_
      exact r_ireturn dX4_faultOfLane_22 rfl (Nat.le_refl 0) (Nat.le_refl 0) h
    · replace h := Out_pos hc h
      refine r_iconst 0 18 dX4_faultOfLane_17 rfl (by decide) ?_
      refine r_goto 22 dX4_faultOfLane_18 (by decide) ?_
      exact r_ireturn dX4_faultOfLane_22 rfl (Nat.le_refl 0) (Nat.le_refl 0) h
  · replace h := Out_neg hc h
    refine r_iconst 1 8 dX4_faultOfLane_7 rfl (by decide) ?_
    exact r_ireturn dX4_faultOfLane_8 rfl (Nat.le_refl 0) (Nat.le_refl 0) h

set_option maxRecDepth 20000 in
set_option maxHeartbeats 4000000 in
theorem ct4_hasCell {Γ : GG} {K : Int32 × Sto → Prop} {i0 : Nat} {a1 : Int32} {σ : Sto} (h : Out (f4_hasCell i0 a1 σ) K) : Ct true Γ mX4_hasCell 1 0 0 [vq (some (4, i0)), vi a1] σ (QI K) := by
  refine Ct_intro (by decide +kernel) rfl ?_
  show M true Γ mX4_hasCell 1 0 0 0 0 (QI K) 0 [some (vq (some (4, i0))), some (vi a1)] [] σ
  unfold f4_hasCell at h
  refine r_iload_n 1 dX4_hasCell_0 rfl rfl ?_
  refine r_aload_n 2 dX4_hasCell_1 rfl rfl ?_
  refine r_getI (x := fe4_15) 2 5 fl4_15 (by decide) dX4_hasCell_2 rfl rfl rfl ?_
  refine c_I [vi a1, vi (gI σ 4 i0 2)] [] 8 cs4_hasCell_5 rfl h (fun _ h' => ct8_isBelow h') rfl rfl rfl rfl (by decide) (Nat.le_refl 0) (Nat.le_refl 0) (fun v21 s22 h => ?_)
  obtain ⟨hc, h⟩ := Out_grd h
  exact r_zreturn dX4_hasCell_8 rfl hc (Nat.le_refl 0) (Nat.le_refl 0) h

set_option maxRecDepth 20000 in
set_option maxHeartbeats 4000000 in
theorem ct4_faultOfCell {Γ : GG} {K : Int32 × Sto → Prop} {i0 : Nat} {a1 : Int32} {a2 : Int32} {σ : Sto} (h : Out (f4_faultOfCell i0 a1 a2 σ) K) : Ct true Γ mX4_faultOfCell 2 0 0 [vq (some (4, i0)), vi a1, vi a2] σ (QI K) := by
  refine Ct_intro (by decide +kernel) rfl ?_
  show M true Γ mX4_faultOfCell 2 0 0 0 0 (QI K) 0 [some (vq (some (4, i0))), some (vi a1), some (vi a2), none] [] σ
  unfold f4_faultOfCell at h
  refine r_aload_n 1 dX4_faultOfCell_0 rfl rfl ?_
  refine r_iload_n 2 dX4_faultOfCell_1 rfl rfl ?_
  refine c_I [vq (some (4, i0)), vi a1] [] 5 cs4_faultOfCell_2 rfl h (fun _ h' => ct4_faultOfLane h') rfl rfl rfl rfl (by decide) (Nat.le_refl 0) (Nat.le_refl 0) (fun v21 s22 h => ?_)
  refine r_istore_n [some (vq (some (4, i0))), some (vi a1), some (vi a2), some (vi v21)] 6 dX4_faultOfCell_5 rfl rfl rfl ?_
  refine r_iload_n 7 dX4_faultOfCell_6 rfl rfl ?_
  refine r_if_eq 12 10 dX4_faultOfCell_7 (by decide) rfl (fun hc => ?_) (fun hc => ?_)
  · replace h := Out_pos hc h
    refine r_aload_n 13 dX4_faultOfCell_12 rfl rfl ?_
    refine r_iload_n 14 dX4_faultOfCell_13 rfl rfl ?_
    refine c_I [vq (some (4, i0)), vi a2] [] 17 cs4_faultOfCell_14 rfl h (fun _ h' => ct4_hasCell h') rfl rfl rfl rfl (by decide) (Nat.le_refl 0) (Nat.le_refl 0) (fun v23 s24 h => ?_)
    refine r_if_eq 24 20 dX4_faultOfCell_17 (by decide) rfl (fun hc => ?_) (fun hc => ?_)
    · replace h := Out_pos hc h
      refine r_iconst 3 25 dX4_faultOfCell_24 rfl (by decide) ?_
      exact r_ireturn dX4_faultOfCell_25 rfl (Nat.le_refl 0) (Nat.le_refl 0) h
    · replace h := Out_neg hc h
      refine r_iconst 0 21 dX4_faultOfCell_20 rfl (by decide) ?_
      refine r_goto 25 dX4_faultOfCell_21 (by decide) ?_
      exact r_ireturn dX4_faultOfCell_25 rfl (Nat.le_refl 0) (Nat.le_refl 0) h
  · replace h := Out_neg hc h
    refine r_iload_n 11 dX4_faultOfCell_10 rfl rfl ?_
    exact r_ireturn dX4_faultOfCell_11 rfl (Nat.le_refl 0) (Nat.le_refl 0) h

set_option maxRecDepth 20000 in
set_option maxHeartbeats 4000000 in
theorem ct4_hasCells {Γ : GG} {K : Int32 × Sto → Prop} {i0 : Nat} {a1 : Int32} {a2 : Int32} {σ : Sto} (h : Out (f4_hasCells i0 a1 a2 σ) K) : Ct true Γ mX4_hasCells 0 0 0 [vq (some (4, i0)), vi a1, vi a2] σ (QI K) := by
  refine Ct_intro (by decide +kernel) rfl ?_
  show M true Γ mX4_hasCells 0 0 0 0 0 (QI K) 0 [some (vq (some (4, i0))), some (vi a1), some (vi a2)] [] σ
  unfold f4_hasCells at h
  refine r_iload_n 1 dX4_hasCells_0 rfl rfl ?_
  refine r_if_lt 30 4 dX4_hasCells_1 (by decide) rfl (fun hc => ?_) (fun hc => ?_)
  · replace h := Out_pos hc h
    refine r_iconst 0 31 dX4_hasCells_30 rfl (by decide) ?_
    exact r_zreturn dX4_hasCells_31 rfl (by decide) (Nat.le_refl 0) (Nat.le_refl 0) h
  · replace h := Out_neg hc h
    refine r_iload_n 5 dX4_hasCells_4 rfl rfl ?_
    refine r_if_lt 30 8 dX4_hasCells_5 (by decide) rfl (fun hc => ?_) (fun hc => ?_)
    · replace h := Out_pos hc h
      refine r_iconst 0 31 dX4_hasCells_30 rfl (by decide) ?_
      exact r_zreturn dX4_hasCells_31 rfl (by decide) (Nat.le_refl 0) (Nat.le_refl 0) h
    · replace h := Out_neg hc h
      refine r_iload_n 9 dX4_hasCells_8 rfl rfl ?_
      refine r_aload_n 10 dX4_hasCells_9 rfl rfl ?_
      refine r_getI (x := fe4_15) 2 13 fl4_15 (by decide) dX4_hasCells_10 rfl rfl rfl ?_
      refine r_icmp_gt 30 16 dX4_hasCells_13 (by decide) rfl (fun hc => ?_) (fun hc => ?_)
      · replace h := Out_pos hc h
        refine r_iconst 0 31 dX4_hasCells_30 rfl (by decide) ?_
        exact r_zreturn dX4_hasCells_31 rfl (by decide) (Nat.le_refl 0) (Nat.le_refl 0) h
      · replace h := Out_neg hc h
        refine r_iload_n 17 dX4_hasCells_16 rfl rfl ?_
        refine r_aload_n 18 dX4_hasCells_17 rfl rfl ?_
        refine r_getI (x := fe4_15) 2 21 fl4_15 (by decide) dX4_hasCells_18 rfl rfl rfl ?_
        refine r_iload_n 22 dX4_hasCells_21 rfl rfl ?_
        refine r_isub 23 dX4_hasCells_22 rfl ?_
        refine r_icmp_gt 30 26 dX4_hasCells_23 (by decide) rfl (fun hc => ?_) (fun hc => ?_)
        · replace h := Out_pos hc h
          refine r_iconst 0 31 dX4_hasCells_30 rfl (by decide) ?_
          exact r_zreturn dX4_hasCells_31 rfl (by decide) (Nat.le_refl 0) (Nat.le_refl 0) h
        · replace h := Out_neg hc h
          refine r_iconst 1 27 dX4_hasCells_26 rfl (by decide) ?_
          refine r_goto 31 dX4_hasCells_27 (by decide) ?_
          exact r_zreturn dX4_hasCells_31 rfl (by decide) (Nat.le_refl 0) (Nat.le_refl 0) h

set_option maxRecDepth 20000 in
set_option maxHeartbeats 4000000 in
theorem ct4_faultOfCells {Γ : GG} {K : Int32 × Sto → Prop} {i0 : Nat} {a1 : Int32} {a2 : Int32} {a3 : Int32} {σ : Sto} (h : Out (f4_faultOfCells i0 a1 a2 a3 σ) K) : Ct true Γ mX4_faultOfCells 2 0 0 [vq (some (4, i0)), vi a1, vi a2, vi a3] σ (QI K) := by
  refine Ct_intro (by decide +kernel) rfl ?_
  show M true Γ mX4_faultOfCells 2 0 0 0 0 (QI K) 0 [some (vq (some (4, i0))), some (vi a1), some (vi a2), some (vi a3), none] [] σ
  unfold f4_faultOfCells at h
  refine r_aload_n 1 dX4_faultOfCells_0 rfl rfl ?_
  refine r_iload_n 2 dX4_faultOfCells_1 rfl rfl ?_
  refine c_I [vq (some (4, i0)), vi a1] [] 5 cs4_faultOfCells_2 rfl h (fun _ h' => ct4_faultOfLane h') rfl rfl rfl rfl (by decide) (Nat.le_refl 0) (Nat.le_refl 0) (fun v21 s22 h => ?_)
  refine r_istore [some (vq (some (4, i0))), some (vi a1), some (vi a2), some (vi a3), some (vi v21)] 7 dX4_faultOfCells_5 rfl rfl rfl ?_
  refine r_iload 9 dX4_faultOfCells_7 rfl rfl ?_
  refine r_if_eq 15 12 dX4_faultOfCells_9 (by decide) rfl (fun hc => ?_) (fun hc => ?_)
  · replace h := Out_pos hc h
    refine r_iload_n 16 dX4_faultOfCells_15 rfl rfl ?_
    refine r_if_ge 21 19 dX4_faultOfCells_16 (by decide) rfl (fun hc => ?_) (fun hc => ?_)
    · replace h := Out_pos hc h
      refine r_aload_n 22 dX4_faultOfCells_21 rfl rfl ?_
      refine r_iload_n 23 dX4_faultOfCells_22 rfl rfl ?_
      refine r_iload_n 24 dX4_faultOfCells_23 rfl rfl ?_
      refine c_I [vq (some (4, i0)), vi a2, vi a3] [] 27 cs4_faultOfCells_24 rfl h (fun _ h' => ct4_hasCells h') rfl rfl rfl rfl (by decide) (Nat.le_refl 0) (Nat.le_refl 0) (fun v23 s24 h => ?_)
      refine r_if_eq 34 30 dX4_faultOfCells_27 (by decide) rfl (fun hc => ?_) (fun hc => ?_)
      · replace h := Out_pos hc h
        refine r_iconst 3 35 dX4_faultOfCells_34 rfl (by decide) ?_
        exact r_ireturn dX4_faultOfCells_35 rfl (Nat.le_refl 0) (Nat.le_refl 0) h
      · replace h := Out_neg hc h
        refine r_iconst 0 31 dX4_faultOfCells_30 rfl (by decide) ?_
        refine r_goto 35 dX4_faultOfCells_31 (by decide) ?_
        exact r_ireturn dX4_faultOfCells_35 rfl (Nat.le_refl 0) (Nat.le_refl 0) h
    · replace h := Out_neg hc h
      refine r_iconst 4 20 dX4_faultOfCells_19 rfl (by decide) ?_
      exact r_ireturn dX4_faultOfCells_20 rfl (Nat.le_refl 0) (Nat.le_refl 0) h
  · replace h := Out_neg hc h
    refine r_iload 14 dX4_faultOfCells_12 rfl rfl ?_
    exact r_ireturn dX4_faultOfCells_14 rfl (Nat.le_refl 0) (Nat.le_refl 0) h

set_option maxRecDepth 20000 in
set_option maxHeartbeats 4000000 in
theorem ct4_read {Γ : GG} {K : Int32 × Sto → Prop} {i0 : Nat} {a1 : Int32} {σ : Sto} (h : Out (f4_read i0 a1 σ) K) : Ct true Γ mX4_read 2 0 0 [vq (some (4, i0)), vi a1] σ (QI K) := by
  refine Ct_intro (by decide +kernel) rfl ?_
  show M true Γ mX4_read 2 0 0 0 0 (QI K) 0 [some (vq (some (4, i0))), some (vi a1)] [] σ
  unfold f4_read at h
  refine r_aload_n 1 dX4_read_0 rfl rfl ?_
  refine r_iload_n 2 dX4_read_1 rfl rfl ?_
  refine c_I [vq (some (4, i0)), vi a1] [] 5 cs4_read_2 rfl h (fun _ h' => ct4_hasCell h') rfl rfl rfl rfl (by decide) (Nat.le_refl 0) (Nat.le_refl 0) (fun v21 s22 h => ?_)
  refine r_if_eq 17 8 dX4_read_5 (by decide) rfl (fun hc => ?_) (fun hc => ?_)
  · replace h := Out_pos hc h
    refine r_iconst 0 18 dX4_read_17 rfl (by decide) ?_
    exact r_ireturn dX4_read_18 rfl (Nat.le_refl 0) (Nat.le_refl 0) h
  · replace h := Out_neg hc h
    refine r_aload_n 9 dX4_read_8 rfl rfl ?_
    refine r_getF (x := fe4_9) 0 (19, i0) 12 fl4_9 (by decide) dX4_read_9 rfl rfl rfl rfl ?_
    refine r_iload_n 13 dX4_read_12 rfl rfl ?_
    obtain ⟨hc, h⟩ := Out_grd h
    refine r_iaload a1.toNatClampNeg 60 14 dX4_read_13 rfl (by decide) rfl rfl hc rfl ?_
    refine r_goto 18 dX4_read_14 (by decide) ?_
    exact r_ireturn dX4_read_18 rfl (Nat.le_refl 0) (Nat.le_refl 0) h

set_option maxRecDepth 20000 in
set_option maxHeartbeats 4000000 in
theorem ct4_write {Γ : GG} {K : Sto → Prop} {i0 : Nat} {a1 : Int32} {a2 : Int32} {σ : Sto} (h : Out (f4_write i0 a1 a2 σ) K) : Ct true Γ mX4_write 2 0 0 [vq (some (4, i0)), vi a1, vi a2] σ (QV K) := by
  refine Ct_intro (by decide +kernel) rfl ?_
  show M true Γ mX4_write 2 0 0 0 0 (QV K) 0 [some (vq (some (4, i0))), some (vi a1), some (vi a2)] [] σ
  unfold f4_write at h
  refine r_aload_n 1 dX4_write_0 rfl rfl ?_
  refine r_iload_n 2 dX4_write_1 rfl rfl ?_
  refine c_I [vq (some (4, i0)), vi a1] [] 5 cs4_write_2 rfl h (fun _ h' => ct4_hasCell h') rfl rfl rfl rfl (by decide) (Nat.le_refl 0) (Nat.le_refl 0) (fun v21 s22 h => ?_)
  refine r_if_eq 19 8 dX4_write_5 (by decide) rfl (fun hc => ?_) (fun hc => ?_)
  · replace h := Out_pos hc h
    exact r_return dX4_write_19 rfl (Nat.le_refl 0) (Nat.le_refl 0) h
  · replace h := Out_neg hc h
    refine r_aload_n 9 dX4_write_8 rfl rfl ?_
    refine r_getF (x := fe4_9) 0 (19, i0) 12 fl4_9 (by decide) dX4_write_9 rfl rfl rfl rfl ?_
    refine r_iload_n 13 dX4_write_12 rfl rfl ?_
    refine r_aload_n 14 dX4_write_13 rfl rfl ?_
    refine r_iload_n 15 dX4_write_14 rfl rfl ?_
    refine c_I [vq (some (4, i0)), vi a2] [vi a1, vq (some (19, i0))] 18 cs4_write_15 rfl h (fun _ h' => ct4_cut h') rfl rfl rfl rfl (by decide) (Nat.le_refl 0) (Nat.le_refl 0) (fun v23 s24 h => ?_)
    obtain ⟨hc, h⟩ := Out_grd h
    refine r_iastore a1.toNatClampNeg 60 19 dX4_write_18 rfl (by decide) (by decide) rfl rfl hc rfl ?_
    exact r_return dX4_write_19 rfl (Nat.le_refl 0) (Nat.le_refl 0) h

set_option maxRecDepth 20000 in
set_option maxHeartbeats 4000000 in
theorem ct5_kindNumber_5 {Γ : GG} {K : Int32 × Sto → Prop} {i0 : Nat} {σ : Sto} (h : Out (f5_kindNumber_5 i0 σ) K) : Ct true Γ mX5_kindNumber 0 0 0 [vq (some (5, i0))] σ (QI K) := by
  refine Ct_intro (by decide +kernel) rfl ?_
  show M true Γ mX5_kindNumber 0 0 0 0 0 (QI K) 0 [some (vq (some (5, i0)))] [] σ
  unfold f5_kindNumber_5 at h
  refine r_iconst 2 1 dX5_kindNumber_0 rfl (by decide) ?_
  exact r_ireturn dX5_kindNumber_1 rfl (Nat.le_refl 0) (Nat.le_refl 0) h

set_option maxRecDepth 20000 in
set_option maxHeartbeats 4000000 in
theorem ct5_polished_5 {Γ : GG} {K : Int32 × Sto → Prop} {i0 : Nat} {σ : Sto} (h : Out (f5_polished_5 i0 σ) K) : Ct true Γ mX5_polished 1 0 0 [vq (some (5, i0)), vq (some (7, 0))] σ (QI K) := by
  refine Ct_intro (by decide +kernel) rfl ?_
  show M true Γ mX5_polished 1 0 0 0 0 (QI K) 0 [some (vq (some (5, i0))), some (vq (some (7, 0)))] [] σ
  unfold f5_polished_5 at h
  refine r_aload_n 1 dX5_polished_0 rfl rfl ?_
  refine r_iconst 5 2 dX5_polished_1 rfl (by decide) ?_
  refine c_V [vq (some (7, 0)), vi 5] [] 5 cs5_polished_2_5 rfl h (fun _ h' => ct7_leave h') rfl rfl rfl rfl (by decide) (Nat.le_refl 0) (Nat.le_refl 0) (fun s21 h => ?_)
  refine r_bipush 30 7 dX5_polished_5 rfl (by decide) ?_
  exact r_ireturn dX5_polished_7 rfl (Nat.le_refl 0) (Nat.le_refl 0) h

set_option maxRecDepth 20000 in
set_option maxHeartbeats 4000000 in
theorem ct5_telling_5 {Γ : GG} {K : Int32 × Sto → Prop} {i0 : Nat} {σ : Sto} (h : Out (f5_telling_5 i0 σ) K) : Ct true Γ mX5_telling 4 0 0 [vq (some (5, i0)), vq (some (7, 0))] σ (QI K) := by
  refine Ct_intro (by decide +kernel) rfl ?_
  show M true Γ mX5_telling 4 0 0 0 0 (QI K) 0 [some (vq (some (5, i0))), some (vq (some (7, 0))), none] [] σ
  unfold f5_telling_5 at h
  refine r_aload_n 1 dX5_telling_0 rfl rfl ?_
  refine r_iconst 3 2 dX5_telling_1 rfl (by decide) ?_
  refine c_V [vq (some (7, 0)), vi 3] [] 5 cs5_telling_2_5 rfl h (fun _ h' => ct7_leave h') rfl rfl rfl rfl (by decide) (Nat.le_refl 0) (Nat.le_refl 0) (fun s21 h => ?_)
  refine r_aload_n 6 dX5_telling_5 rfl rfl ?_
  refine r_aload_n 7 dX5_telling_6 rfl rfl ?_
  refine c_I [vq (some (5, i0)), vq (some (7, 0))] [] 10 cs5_telling_7_5 rfl h (fun _ h' => ct1_telling_5 h') rfl rfl rfl rfl (by decide) (Nat.le_refl 0) (Nat.le_refl 0) (fun v22 s23 h => ?_)
  refine r_istore_n [some (vq (some (5, i0))), some (vq (some (7, 0))), some (vi v22)] 11 dX5_telling_10 rfl rfl rfl ?_
  refine r_iload_n 12 dX5_telling_11 rfl rfl ?_
  refine r_aload_n 13 dX5_telling_12 rfl rfl ?_
  refine r_aload_n 14 dX5_telling_13 rfl rfl ?_
  refine c_I [vq (some (5, i0)), vq (some (7, 0))] [vi v22] 17 cs5_telling_14_5 rfl h (fun _ h' => ct0_forkTelling_5 h') rfl rfl rfl rfl (by decide) (Nat.le_refl 0) (Nat.le_refl 0) (fun v24 s25 h => ?_)
  refine r_iadd 18 dX5_telling_17 rfl ?_
  exact r_ireturn dX5_telling_18 rfl (Nat.le_refl 0) (Nat.le_refl 0) h

set_option maxRecDepth 20000 in
set_option maxHeartbeats 4000000 in
theorem tl6_beginOn_22 {Γ : GG} {K : Sto → Prop} {i0 : Nat} {i1 : Nat} : ∀ (n : Nat) (a3 : Int32) (σ : Sto), Out (l6_beginOn_22 i0 i1 n a3 σ) K → M true Γ mX6_beginOn 3 0 0 0 0 (QV K) 22 [some (vq (some (6, i0))), some (vq (some (2, i1))), none, some (vi a3)] [] σ := by
  intro n
  induction n with
  | zero => intro a3 σ h; exact absurd h Out_none
  | succ n ih =>
    intro a3 σ h
    unfold l6_beginOn_22 at h
    refine r_iload_n 23 dX6_beginOn_22 rfl rfl ?_
    refine r_iconst 5 24 dX6_beginOn_23 rfl (by decide) ?_
    refine r_icmp_ge 44 27 dX6_beginOn_24 (by decide) rfl (fun hc => ?_) (fun hc => ?_)
    · replace h := Out_pos hc h
      exact r_return dX6_beginOn_44 rfl (Nat.le_refl 0) (Nat.le_refl 0) h
    · replace h := Out_neg hc h
      refine r_aload_n 28 dX6_beginOn_27 rfl rfl ?_
      refine r_getF (x := fe6_9) 4 (16, i0) 31 fl6_9 (by decide) dX6_beginOn_28 rfl rfl rfl rfl ?_
      refine r_iload_n 32 dX6_beginOn_31 rfl rfl ?_
      refine r_aload_n 33 dX6_beginOn_32 rfl rfl ?_
      refine r_iload_n 34 dX6_beginOn_33 rfl rfl ?_
      refine c_I [vq (some (2, i1)), vi a3] [vi a3, vq (some (16, i0))] 37 cs6_beginOn_34 rfl h (fun _ h' => ct2_startOf h') rfl rfl rfl rfl (by decide) (Nat.le_refl 0) (Nat.le_refl 0) (fun v21 s22 h => ?_)
      obtain ⟨hc, h⟩ := Out_grd h
      refine r_iastore a3.toNatClampNeg 5 38 dX6_beginOn_37 rfl (by decide) (by decide) rfl rfl hc rfl ?_
      refine r_iinc 1 [some (vq (some (6, i0))), some (vq (some (2, i1))), none, some (vi (a3 + 1))] 41 dX6_beginOn_38 rfl (by decide) rfl rfl rfl ?_
      refine r_goto 22 dX6_beginOn_41 (by decide) ?_
      exact ih (a3 + 1) (sI s22 16 i0 a3.toNatClampNeg v21) h
set_option maxRecDepth 20000 in
set_option maxHeartbeats 4000000 in
theorem ct6_beginOn {Γ : GG} {K : Sto → Prop} {i0 : Nat} {i1 : Nat} {a2 : Int32} {σ : Sto} (h : Out (f6_beginOn i0 i1 a2 σ) K) : Ct true Γ mX6_beginOn 3 0 0 [vq (some (6, i0)), vq (some (2, i1)), vi a2] σ (QV K) := by
  refine Ct_intro (by decide +kernel) rfl ?_
  show M true Γ mX6_beginOn 3 0 0 0 0 (QV K) 0 [some (vq (some (6, i0))), some (vq (some (2, i1))), some (vi a2), none] [] σ
  unfold f6_beginOn at h
  refine r_aload_n 1 dX6_beginOn_0 rfl rfl ?_
  refine r_aload_n 2 dX6_beginOn_1 rfl rfl ?_
  refine r_putR (x := fe6_15) 0 5 fl6_15 (by decide) dX6_beginOn_2 rfl (Or.inl rfl) rfl rfl (Or.inr rfl) ?_
  refine r_aload_n 6 dX6_beginOn_5 rfl rfl ?_
  refine r_iload_n 7 dX6_beginOn_6 rfl rfl ?_
  refine r_putI (x := fe6_19) 3 10 fl6_19 (by decide) dX6_beginOn_7 rfl (Or.inl rfl) rfl rfl ?_
  refine r_aload_n 11 dX6_beginOn_10 rfl rfl ?_
  refine r_iconst 0 12 dX6_beginOn_11 rfl (by decide) ?_
  refine r_putI (x := fe6_23) 1 15 fl6_23 (by decide) dX6_beginOn_12 rfl (Or.inl rfl) rfl rfl ?_
  refine r_aload_n 16 dX6_beginOn_15 rfl rfl ?_
  refine r_iconst 0 17 dX6_beginOn_16 rfl (by decide) ?_
  refine r_putI (x := fe6_26) 2 20 fl6_26 (by decide) dX6_beginOn_17 rfl (Or.inl rfl) rfl rfl ?_
  refine r_iconst 0 21 dX6_beginOn_20 rfl (by decide) ?_
  refine r_istore_n [some (vq (some (6, i0))), some (vq (some (2, i1))), some (vi a2), some (vi 0)] 22 dX6_beginOn_21 rfl rfl rfl ?_
  refine r_mask [true, true, false, true] [some (vq (some (6, i0))), some (vq (some (2, i1))), none, some (vi 0)] rfl rfl ?_
  exact tl6_beginOn_22 300 0 (sI (sI (sI (sR σ 6 i0 0 (some (2, i1))) 6 i0 3 a2) 6 i0 1 0) 6 i0 2 0) h

set_option maxRecDepth 20000 in
set_option maxHeartbeats 4000000 in
theorem ct6_countHad {Γ : GG} {K : Int32 × Sto → Prop} {i0 : Nat} {σ : Sto} (h : Out (f6_countHad i0 σ) K) : Ct true Γ mX6_countHad 1 0 0 [vq (some (6, i0))] σ (QI K) := by
  refine Ct_intro (by decide +kernel) rfl ?_
  show M true Γ mX6_countHad 1 0 0 0 0 (QI K) 0 [some (vq (some (6, i0)))] [] σ
  unfold f6_countHad at h
  refine r_aload_n 1 dX6_countHad_0 rfl rfl ?_
  refine r_getI (x := fe6_23) 1 4 fl6_23 (by decide) dX6_countHad_1 rfl rfl rfl ?_
  refine c_I [vi (gI σ 6 i0 1)] [] 7 cs6_countHad_4 rfl h (fun _ h' => ctJ6_bitCount h') rfl rfl rfl rfl (by decide) (Nat.le_refl 0) (Nat.le_refl 0) (fun v21 s22 h => ?_)
  exact r_ireturn dX6_countHad_7 rfl (Nat.le_refl 0) (Nat.le_refl 0) h

set_option maxRecDepth 20000 in
set_option maxHeartbeats 4000000 in
theorem tl6_countHolds_4 {Γ : GG} {K : Int32 × Sto → Prop} {i0 : Nat} {a1 : Int32} : ∀ (n : Nat) (a2 : Int32) (a3 : Int32) (σ : Sto), Out (l6_countHolds_4 i0 a1 n a2 a3 σ) K → M true Γ mX6_countHolds 3 0 0 0 0 (QI K) 4 [some (vq (some (6, i0))), some (vi a1), some (vi a2), some (vi a3)] [] σ := by
  intro n
  induction n with
  | zero => intro a2 a3 σ h; exact absurd h Out_none
  | succ n ih =>
    intro a2 a3 σ h
    unfold l6_countHolds_4 at h
    refine r_iload_n 5 dX6_countHolds_4 rfl rfl ?_
    refine r_iconst 4 6 dX6_countHolds_5 rfl (by decide) ?_
    refine r_icmp_ge 27 9 dX6_countHolds_6 (by decide) rfl (fun hc => ?_) (fun hc => ?_)
    · replace h := Out_pos hc h
      refine r_iload_n 28 dX6_countHolds_27 rfl rfl ?_
      exact r_ireturn dX6_countHolds_28 rfl (Nat.le_refl 0) (Nat.le_refl 0) h
    · replace h := Out_neg hc h
      refine r_aload_n 10 dX6_countHolds_9 rfl rfl ?_
      refine r_iload_n 11 dX6_countHolds_10 rfl rfl ?_
      refine r_iload_n 12 dX6_countHolds_11 rfl rfl ?_
      refine c_I [vq (some (6, i0)), vi a1, vi a3] [] 15 cs6_countHolds_12 rfl h (fun _ h' => ct6_isHeld h') rfl rfl rfl rfl (by decide) (Nat.le_refl 0) (Nat.le_refl 0) (fun v21 s22 h => ?_)
      refine r_if_eq 21 18 dX6_countHolds_15 (by decide) rfl (fun hc => ?_) (fun hc => ?_)
      · replace h := Out_pos hc h
        refine r_iinc 1 [some (vq (some (6, i0))), some (vi a1), some (vi a2), some (vi (a3 + 1))] 24 dX6_countHolds_21 rfl (by decide) rfl rfl rfl ?_
        refine r_goto 4 dX6_countHolds_24 (by decide) ?_
        exact ih a2 (a3 + 1) s22 h
      · replace h := Out_neg hc h
        refine r_iinc 1 [some (vq (some (6, i0))), some (vi a1), some (vi (a2 + 1)), some (vi a3)] 21 dX6_countHolds_18 rfl (by decide) rfl rfl rfl ?_
        refine r_iinc 1 [some (vq (some (6, i0))), some (vi a1), some (vi (a2 + 1)), some (vi (a3 + 1))] 24 dX6_countHolds_21 rfl (by decide) rfl rfl rfl ?_
        refine r_goto 4 dX6_countHolds_24 (by decide) ?_
        exact ih (a2 + 1) (a3 + 1) s22 h
set_option maxRecDepth 20000 in
set_option maxHeartbeats 4000000 in
theorem ct6_countHolds {Γ : GG} {K : Int32 × Sto → Prop} {i0 : Nat} {a1 : Int32} {σ : Sto} (h : Out (f6_countHolds i0 a1 σ) K) : Ct true Γ mX6_countHolds 3 0 0 [vq (some (6, i0)), vi a1] σ (QI K) := by
  refine Ct_intro (by decide +kernel) rfl ?_
  show M true Γ mX6_countHolds 3 0 0 0 0 (QI K) 0 [some (vq (some (6, i0))), some (vi a1), none, none] [] σ
  unfold f6_countHolds at h
  refine r_iconst 0 1 dX6_countHolds_0 rfl (by decide) ?_
  refine r_istore_n [some (vq (some (6, i0))), some (vi a1), some (vi 0), none] 2 dX6_countHolds_1 rfl rfl rfl ?_
  refine r_iconst 0 3 dX6_countHolds_2 rfl (by decide) ?_
  refine r_istore_n [some (vq (some (6, i0))), some (vi a1), some (vi 0), some (vi 0)] 4 dX6_countHolds_3 rfl rfl rfl ?_
  exact tl6_countHolds_4 300 0 0 σ h

set_option maxRecDepth 20000 in
set_option maxHeartbeats 4000000 in
theorem tl6_elsewhereThan_4 {Γ : GG} {K : Int32 × Sto → Prop} {i0 : Nat} {i1 : Nat} : ∀ (n : Nat) (a2 : Int32) (a3 : Int32) (σ : Sto), Out (l6_elsewhereThan_4 i0 i1 n a2 a3 σ) K → M true Γ mX6_elsewhereThan 0 0 0 0 0 (QI K) 4 [some (vq (some (6, i0))), some (vq (some (6, i1))), some (vi a2), some (vi a3)] [] σ := by
  intro n
  induction n with
  | zero => intro a2 a3 σ h; exact absurd h Out_none
  | succ n ih =>
    intro a2 a3 σ h
    unfold l6_elsewhereThan_4 at h
    refine r_iload_n 5 dX6_elsewhereThan_4 rfl rfl ?_
    refine r_iconst 5 6 dX6_elsewhereThan_5 rfl (by decide) ?_
    refine r_icmp_ge 36 9 dX6_elsewhereThan_6 (by decide) rfl (fun hc => ?_) (fun hc => ?_)
    · replace h := Out_pos hc h
      refine r_iload_n 37 dX6_elsewhereThan_36 rfl rfl ?_
      exact r_ireturn dX6_elsewhereThan_37 rfl (Nat.le_refl 0) (Nat.le_refl 0) h
    · replace h := Out_neg hc h
      refine r_aload_n 10 dX6_elsewhereThan_9 rfl rfl ?_
      refine r_getF (x := fe6_9) 4 (16, i0) 13 fl6_9 (by decide) dX6_elsewhereThan_10 rfl rfl rfl rfl ?_
      refine r_iload_n 14 dX6_elsewhereThan_13 rfl rfl ?_
      obtain ⟨hc, h⟩ := Out_grd h
      refine r_iaload a3.toNatClampNeg 5 15 dX6_elsewhereThan_14 rfl (by decide) rfl rfl hc rfl ?_
      refine r_aload_n 16 dX6_elsewhereThan_15 rfl rfl ?_
      refine r_getF (x := fe6_9) 4 (16, i1) 19 fl6_9 (by decide) dX6_elsewhereThan_16 rfl rfl rfl rfl ?_
      refine r_iload_n 20 dX6_elsewhereThan_19 rfl rfl ?_
      obtain ⟨hc, h⟩ := Out_grd h
      refine r_iaload a3.toNatClampNeg 5 21 dX6_elsewhereThan_20 rfl (by decide) rfl rfl hc rfl ?_
      refine r_icmp_eq 30 24 dX6_elsewhereThan_21 (by decide) rfl (fun hc => ?_) (fun hc => ?_)
      · replace h := Out_pos hc h
        refine r_iinc 1 [some (vq (some (6, i0))), some (vq (some (6, i1))), some (vi a2), some (vi (a3 + 1))] 33 dX6_elsewhereThan_30 rfl (by decide) rfl rfl rfl ?_
        refine r_goto 4 dX6_elsewhereThan_33 (by decide) ?_
        exact ih a2 (a3 + 1) σ h
      · replace h := Out_neg hc h
        refine r_iload_n 25 dX6_elsewhereThan_24 rfl rfl ?_
        refine r_iconst 1 26 dX6_elsewhereThan_25 rfl (by decide) ?_
        refine r_iload_n 27 dX6_elsewhereThan_26 rfl rfl ?_
        refine r_ishl 28 dX6_elsewhereThan_27 rfl ?_
        refine r_ior 29 dX6_elsewhereThan_28 rfl ?_
        refine r_istore_n [some (vq (some (6, i0))), some (vq (some (6, i1))), some (vi (a2 ||| (1 <<< (a3 &&& 31)))), some (vi a3)] 30 dX6_elsewhereThan_29 rfl rfl rfl ?_
        refine r_iinc 1 [some (vq (some (6, i0))), some (vq (some (6, i1))), some (vi (a2 ||| (1 <<< (a3 &&& 31)))), some (vi (a3 + 1))] 33 dX6_elsewhereThan_30 rfl (by decide) rfl rfl rfl ?_
        refine r_goto 4 dX6_elsewhereThan_33 (by decide) ?_
        exact ih (a2 ||| (1 <<< (a3 &&& 31))) (a3 + 1) σ h
set_option maxRecDepth 20000 in
set_option maxHeartbeats 4000000 in
theorem ct6_elsewhereThan {Γ : GG} {K : Int32 × Sto → Prop} {i0 : Nat} {i1 : Nat} {σ : Sto} (h : Out (f6_elsewhereThan i0 i1 σ) K) : Ct true Γ mX6_elsewhereThan 0 0 0 [vq (some (6, i0)), vq (some (6, i1))] σ (QI K) := by
  refine Ct_intro (by decide +kernel) rfl ?_
  show M true Γ mX6_elsewhereThan 0 0 0 0 0 (QI K) 0 [some (vq (some (6, i0))), some (vq (some (6, i1))), none, none] [] σ
  unfold f6_elsewhereThan at h
  refine r_iconst 0 1 dX6_elsewhereThan_0 rfl (by decide) ?_
  refine r_istore_n [some (vq (some (6, i0))), some (vq (some (6, i1))), some (vi 0), none] 2 dX6_elsewhereThan_1 rfl rfl rfl ?_
  refine r_iconst 0 3 dX6_elsewhereThan_2 rfl (by decide) ?_
  refine r_istore_n [some (vq (some (6, i0))), some (vq (some (6, i1))), some (vi 0), some (vi 0)] 4 dX6_elsewhereThan_3 rfl rfl rfl ?_
  exact tl6_elsewhereThan_4 300 0 0 σ h

set_option maxRecDepth 20000 in
set_option maxHeartbeats 4000000 in
theorem tl6_firstHold_2 {Γ : GG} {K : Int32 × Sto → Prop} {i0 : Nat} {a1 : Int32} : ∀ (n : Nat) (a2 : Int32) (σ : Sto), Out (l6_firstHold_2 i0 a1 n a2 σ) K → M true Γ mX6_firstHold 3 0 0 0 0 (QI K) 2 [some (vq (some (6, i0))), some (vi a1), some (vi a2)] [] σ := by
  intro n
  induction n with
  | zero => intro a2 σ h; exact absurd h Out_none
  | succ n ih =>
    intro a2 σ h
    unfold l6_firstHold_2 at h
    refine r_iload_n 3 dX6_firstHold_2 rfl rfl ?_
    refine r_iconst 4 4 dX6_firstHold_3 rfl (by decide) ?_
    refine r_icmp_ge 24 7 dX6_firstHold_4 (by decide) rfl (fun hc => ?_) (fun hc => ?_)
    · replace h := Out_pos hc h
      refine r_bipush (-9) 26 dX6_firstHold_24 rfl (by decide) ?_
      exact r_ireturn dX6_firstHold_26 rfl (Nat.le_refl 0) (Nat.le_refl 0) h
    · replace h := Out_neg hc h
      refine r_aload_n 8 dX6_firstHold_7 rfl rfl ?_
      refine r_iload_n 9 dX6_firstHold_8 rfl rfl ?_
      refine r_iload_n 10 dX6_firstHold_9 rfl rfl ?_
      refine c_I [vq (some (6, i0)), vi a1, vi a2] [] 13 cs6_firstHold_10 rfl h (fun _ h' => ct6_isHeld h') rfl rfl rfl rfl (by decide) (Nat.le_refl 0) (Nat.le_refl 0) (fun v21 s22 h => ?_)
      refine r_if_eq 18 16 dX6_firstHold_13 (by decide) rfl (fun hc => ?_) (fun hc => ?_)
      · replace h := Out_pos hc h
        refine r_iinc 1 [some (vq (some (6, i0))), some (vi a1), some (vi (a2 + 1))] 21 dX6_firstHold_18 rfl (by decide) rfl rfl rfl ?_
        refine r_goto 2 dX6_firstHold_21 (by decide) ?_
        exact ih (a2 + 1) s22 h
      · replace h := Out_neg hc h
        refine r_iload_n 17 dX6_firstHold_16 rfl rfl ?_
        exact r_ireturn dX6_firstHold_17 rfl (Nat.le_refl 0) (Nat.le_refl 0) h
set_option maxRecDepth 20000 in
set_option maxHeartbeats 4000000 in
theorem ct6_firstHold {Γ : GG} {K : Int32 × Sto → Prop} {i0 : Nat} {a1 : Int32} {σ : Sto} (h : Out (f6_firstHold i0 a1 σ) K) : Ct true Γ mX6_firstHold 3 0 0 [vq (some (6, i0)), vi a1] σ (QI K) := by
  refine Ct_intro (by decide +kernel) rfl ?_
  show M true Γ mX6_firstHold 3 0 0 0 0 (QI K) 0 [some (vq (some (6, i0))), some (vi a1), none] [] σ
  unfold f6_firstHold at h
  refine r_iconst 0 1 dX6_firstHold_0 rfl (by decide) ?_
  refine r_istore_n [some (vq (some (6, i0))), some (vi a1), some (vi 0)] 2 dX6_firstHold_1 rfl rfl rfl ?_
  exact tl6_firstHold_2 300 0 σ h

set_option maxRecDepth 20000 in
set_option maxHeartbeats 4000000 in
theorem tl6_heldSet_4 {Γ : GG} {K : Int32 × Sto → Prop} {i0 : Nat} {a1 : Int32} : ∀ (n : Nat) (a2 : Int32) (a3 : Int32) (σ : Sto), Out (l6_heldSet_4 i0 a1 n a2 a3 σ) K → M true Γ mX6_heldSet 3 0 0 0 0 (QI K) 4 [some (vq (some (6, i0))), some (vi a1), some (vi a2), some (vi a3)] [] σ := by
  intro n
  induction n with
  | zero => intro a2 a3 σ h; exact absurd h Out_none
  | succ n ih =>
    intro a2 a3 σ h
    unfold l6_heldSet_4 at h
    refine r_iload_n 5 dX6_heldSet_4 rfl rfl ?_
    refine r_iconst 5 6 dX6_heldSet_5 rfl (by decide) ?_
    refine r_icmp_ge 30 9 dX6_heldSet_6 (by decide) rfl (fun hc => ?_) (fun hc => ?_)
    · replace h := Out_pos hc h
      refine r_iload_n 31 dX6_heldSet_30 rfl rfl ?_
      exact r_ireturn dX6_heldSet_31 rfl (Nat.le_refl 0) (Nat.le_refl 0) h
    · replace h := Out_neg hc h
      refine r_aload_n 10 dX6_heldSet_9 rfl rfl ?_
      refine r_iload_n 11 dX6_heldSet_10 rfl rfl ?_
      refine r_iload_n 12 dX6_heldSet_11 rfl rfl ?_
      refine c_I [vq (some (6, i0)), vi a3, vi a1] [] 15 cs6_heldSet_12 rfl h (fun _ h' => ct6_isHeld h') rfl rfl rfl rfl (by decide) (Nat.le_refl 0) (Nat.le_refl 0) (fun v21 s22 h => ?_)
      refine r_if_eq 24 18 dX6_heldSet_15 (by decide) rfl (fun hc => ?_) (fun hc => ?_)
      · replace h := Out_pos hc h
        refine r_iinc 1 [some (vq (some (6, i0))), some (vi a1), some (vi a2), some (vi (a3 + 1))] 27 dX6_heldSet_24 rfl (by decide) rfl rfl rfl ?_
        refine r_goto 4 dX6_heldSet_27 (by decide) ?_
        exact ih a2 (a3 + 1) s22 h
      · replace h := Out_neg hc h
        refine r_iload_n 19 dX6_heldSet_18 rfl rfl ?_
        refine r_iconst 1 20 dX6_heldSet_19 rfl (by decide) ?_
        refine r_iload_n 21 dX6_heldSet_20 rfl rfl ?_
        refine r_ishl 22 dX6_heldSet_21 rfl ?_
        refine r_ior 23 dX6_heldSet_22 rfl ?_
        refine r_istore_n [some (vq (some (6, i0))), some (vi a1), some (vi (a2 ||| (1 <<< (a3 &&& 31)))), some (vi a3)] 24 dX6_heldSet_23 rfl rfl rfl ?_
        refine r_iinc 1 [some (vq (some (6, i0))), some (vi a1), some (vi (a2 ||| (1 <<< (a3 &&& 31)))), some (vi (a3 + 1))] 27 dX6_heldSet_24 rfl (by decide) rfl rfl rfl ?_
        refine r_goto 4 dX6_heldSet_27 (by decide) ?_
        exact ih (a2 ||| (1 <<< (a3 &&& 31))) (a3 + 1) s22 h
set_option maxRecDepth 20000 in
set_option maxHeartbeats 4000000 in
theorem ct6_heldSet {Γ : GG} {K : Int32 × Sto → Prop} {i0 : Nat} {a1 : Int32} {σ : Sto} (h : Out (f6_heldSet i0 a1 σ) K) : Ct true Γ mX6_heldSet 3 0 0 [vq (some (6, i0)), vi a1] σ (QI K) := by
  refine Ct_intro (by decide +kernel) rfl ?_
  show M true Γ mX6_heldSet 3 0 0 0 0 (QI K) 0 [some (vq (some (6, i0))), some (vi a1), none, none] [] σ
  unfold f6_heldSet at h
  refine r_iconst 0 1 dX6_heldSet_0 rfl (by decide) ?_
  refine r_istore_n [some (vq (some (6, i0))), some (vi a1), some (vi 0), none] 2 dX6_heldSet_1 rfl rfl rfl ?_
  refine r_iconst 0 3 dX6_heldSet_2 rfl (by decide) ?_
  refine r_istore_n [some (vq (some (6, i0))), some (vi a1), some (vi 0), some (vi 0)] 4 dX6_heldSet_3 rfl rfl rfl ?_
  exact tl6_heldSet_4 300 0 0 σ h

set_option maxRecDepth 20000 in
set_option maxHeartbeats 4000000 in
theorem tl6_holdsAny_2 {Γ : GG} {K : Int32 × Sto → Prop} {i0 : Nat} : ∀ (n : Nat) (a1 : Int32) (σ : Sto), Out (l6_holdsAny_2 i0 n a1 σ) K → M true Γ mX6_holdsAny 4 0 0 0 0 (QI K) 2 [some (vq (some (6, i0))), some (vi a1)] [] σ := by
  intro n
  induction n with
  | zero => intro a1 σ h; exact absurd h Out_none
  | succ n ih =>
    intro a1 σ h
    unfold l6_holdsAny_2 at h
    refine r_iload_n 3 dX6_holdsAny_2 rfl rfl ?_
    refine r_iconst 5 4 dX6_holdsAny_3 rfl (by decide) ?_
    refine r_icmp_ge 25 7 dX6_holdsAny_4 (by decide) rfl (fun hc => ?_) (fun hc => ?_)
    · replace h := Out_pos hc h
      refine r_iconst 0 26 dX6_holdsAny_25 rfl (by decide) ?_
      exact r_zreturn dX6_holdsAny_26 rfl (by decide) (Nat.le_refl 0) (Nat.le_refl 0) h
    · replace h := Out_neg hc h
      refine r_aload_n 8 dX6_holdsAny_7 rfl rfl ?_
      refine r_iload_n 9 dX6_holdsAny_8 rfl rfl ?_
      refine c_I [vq (some (6, i0)), vi a1] [] 12 cs6_holdsAny_9 rfl h (fun _ h' => ct6_firstHold h') rfl rfl rfl rfl (by decide) (Nat.le_refl 0) (Nat.le_refl 0) (fun v21 s22 h => ?_)
      refine r_bipush (-9) 14 dX6_holdsAny_12 rfl (by decide) ?_
      refine r_icmp_eq 19 17 dX6_holdsAny_14 (by decide) rfl (fun hc => ?_) (fun hc => ?_)
      · replace h := Out_pos hc h
        refine r_iinc 1 [some (vq (some (6, i0))), some (vi (a1 + 1))] 22 dX6_holdsAny_19 rfl (by decide) rfl rfl rfl ?_
        refine r_goto 2 dX6_holdsAny_22 (by decide) ?_
        exact ih (a1 + 1) s22 h
      · replace h := Out_neg hc h
        refine r_iconst 1 18 dX6_holdsAny_17 rfl (by decide) ?_
        exact r_zreturn dX6_holdsAny_18 rfl (by decide) (Nat.le_refl 0) (Nat.le_refl 0) h
set_option maxRecDepth 20000 in
set_option maxHeartbeats 4000000 in
theorem ct6_holdsAny {Γ : GG} {K : Int32 × Sto → Prop} {i0 : Nat} {σ : Sto} (h : Out (f6_holdsAny i0 σ) K) : Ct true Γ mX6_holdsAny 4 0 0 [vq (some (6, i0))] σ (QI K) := by
  refine Ct_intro (by decide +kernel) rfl ?_
  show M true Γ mX6_holdsAny 4 0 0 0 0 (QI K) 0 [some (vq (some (6, i0))), none] [] σ
  unfold f6_holdsAny at h
  refine r_iconst 0 1 dX6_holdsAny_0 rfl (by decide) ?_
  refine r_istore_n [some (vq (some (6, i0))), some (vi 0)] 2 dX6_holdsAny_1 rfl rfl rfl ?_
  exact tl6_holdsAny_2 300 0 σ h

set_option maxRecDepth 20000 in
set_option maxHeartbeats 4000000 in
theorem ct6_isHad {Γ : GG} {K : Int32 × Sto → Prop} {i0 : Nat} {a1 : Int32} {σ : Sto} (h : Out (f6_isHad i0 a1 σ) K) : Ct true Γ mX6_isHad 1 0 0 [vq (some (6, i0)), vi a1] σ (QI K) := by
  refine Ct_intro (by decide +kernel) rfl ?_
  show M true Γ mX6_isHad 1 0 0 0 0 (QI K) 0 [some (vq (some (6, i0))), some (vi a1)] [] σ
  unfold f6_isHad at h
  refine r_iload_n 1 dX6_isHad_0 rfl rfl ?_
  refine r_iconst 5 2 dX6_isHad_1 rfl (by decide) ?_
  refine c_I [vi a1, vi 5] [] 5 cs6_isHad_2 rfl h (fun _ h' => ct8_isBelow h') rfl rfl rfl rfl (by decide) (Nat.le_refl 0) (Nat.le_refl 0) (fun v21 s22 h => ?_)
  refine r_if_eq 23 8 dX6_isHad_5 (by decide) rfl (fun hc => ?_) (fun hc => ?_)
  · replace h := Out_pos hc h
    refine r_iconst 0 24 dX6_isHad_23 rfl (by decide) ?_
    exact r_zreturn dX6_isHad_24 rfl (by decide) (Nat.le_refl 0) (Nat.le_refl 0) h
  · replace h := Out_neg hc h
    refine r_aload_n 9 dX6_isHad_8 rfl rfl ?_
    refine r_getI (x := fe6_23) 1 12 fl6_23 (by decide) dX6_isHad_9 rfl rfl rfl ?_
    refine r_iconst 1 13 dX6_isHad_12 rfl (by decide) ?_
    refine r_iload_n 14 dX6_isHad_13 rfl rfl ?_
    refine r_ishl 15 dX6_isHad_14 rfl ?_
    refine r_iand 16 dX6_isHad_15 rfl ?_
    refine r_if_eq 23 19 dX6_isHad_16 (by decide) rfl (fun hc => ?_) (fun hc => ?_)
    · replace h := Out_pos hc h
      refine r_iconst 0 24 dX6_isHad_23 rfl (by decide) ?_
      exact r_zreturn dX6_isHad_24 rfl (by decide) (Nat.le_refl 0) (Nat.le_refl 0) h
    · replace h := Out_neg hc h
      refine r_iconst 1 20 dX6_isHad_19 rfl (by decide) ?_
      refine r_goto 24 dX6_isHad_20 (by decide) ?_
      exact r_zreturn dX6_isHad_24 rfl (by decide) (Nat.le_refl 0) (Nat.le_refl 0) h

set_option maxRecDepth 20000 in
set_option maxHeartbeats 4000000 in
theorem tl8_areCodes_3 {Γ : GG} {K : Int32 × Sto → Prop} {i1 : Nat} {a2 : Int32} {a3 : Int32} : ∀ (n : Nat) (a4 : Int32) (σ : Sto), Out (l8_areCodes_3 i1 a2 a3 n a4 σ) K → M true Γ mX8_areCodes 3 0 0 0 0 (QI K) 3 [some (vq (some (8, 0))), some (vq (some (4, i1))), some (vi a2), some (vi a3), some (vi a4)] [] σ := by
  intro n
  induction n with
  | zero => intro a4 σ h; exact absurd h Out_none
  | succ n ih =>
    intro a4 σ h
    unfold l8_areCodes_3 at h
    refine r_iload 5 dX8_areCodes_3 rfl rfl ?_
    refine r_iload_n 6 dX8_areCodes_5 rfl rfl ?_
    refine r_icmp_ge 35 9 dX8_areCodes_6 (by decide) rfl (fun hc => ?_) (fun hc => ?_)
    · replace h := Out_pos hc h
      refine r_iconst 1 36 dX8_areCodes_35 rfl (by decide) ?_
      exact r_zreturn dX8_areCodes_36 rfl (by decide) (Nat.le_refl 0) (Nat.le_refl 0) h
    · replace h := Out_neg hc h
      refine r_aload_n 10 dX8_areCodes_9 rfl rfl ?_
      refine r_getR (x := fe8_56) 0 13 fl8_56 (by decide) dX8_areCodes_10 rfl rfl rfl (Or.inr rfl) ?_
      refine r_aload_n 14 dX8_areCodes_13 rfl rfl ?_
      refine r_iload_n 15 dX8_areCodes_14 rfl rfl ?_
      refine r_iload 17 dX8_areCodes_15 rfl rfl ?_
      refine r_iadd 18 dX8_areCodes_17 rfl ?_
      refine c_I [vq (some (4, i1)), vi (a2 + a4)] [vq (gR σ 8 0 0)] 21 cs8_areCodes_18 rfl h (fun _ h' => ct4_read h') rfl rfl rfl rfl (by decide) (Nat.le_refl 0) (Nat.le_refl 0) (fun v21 s22 h => ?_)
      obtain ⟨i23, e0, h⟩ := Out_dr h
      rw [e0]
      refine c_I [vq (some (2, i23)), vi v21] [] 24 cs8_areCodes_21 rfl h (fun _ h' => ct2_isCode h') rfl rfl rfl rfl (by decide) (Nat.le_refl 0) (Nat.le_refl 0) (fun v24 s25 h => ?_)
      refine r_if_ne 29 27 dX8_areCodes_24 (by decide) rfl (fun hc => ?_) (fun hc => ?_)
      · replace h := Out_neg hc h
        refine r_iinc 1 [some (vq (some (8, 0))), some (vq (some (4, i1))), some (vi a2), some (vi a3), some (vi (a4 + 1))] 32 dX8_areCodes_29 rfl (by decide) rfl rfl rfl ?_
        refine r_goto 3 dX8_areCodes_32 (by decide) ?_
        exact ih (a4 + 1) s25 h
      · replace h := Out_pos hc h
        refine r_iconst 0 28 dX8_areCodes_27 rfl (by decide) ?_
        exact r_zreturn dX8_areCodes_28 rfl (by decide) (Nat.le_refl 0) (Nat.le_refl 0) h
set_option maxRecDepth 20000 in
set_option maxHeartbeats 4000000 in
theorem ct8_areCodes {Γ : GG} {K : Int32 × Sto → Prop} {i1 : Nat} {a2 : Int32} {a3 : Int32} {σ : Sto} (h : Out (f8_areCodes i1 a2 a3 σ) K) : Ct true Γ mX8_areCodes 3 0 0 [vq (some (8, 0)), vq (some (4, i1)), vi a2, vi a3] σ (QI K) := by
  refine Ct_intro (by decide +kernel) rfl ?_
  show M true Γ mX8_areCodes 3 0 0 0 0 (QI K) 0 [some (vq (some (8, 0))), some (vq (some (4, i1))), some (vi a2), some (vi a3), none] [] σ
  unfold f8_areCodes at h
  refine r_iconst 0 1 dX8_areCodes_0 rfl (by decide) ?_
  refine r_istore [some (vq (some (8, 0))), some (vq (some (4, i1))), some (vi a2), some (vi a3), some (vi 0)] 3 dX8_areCodes_1 rfl rfl rfl ?_
  exact tl8_areCodes_3 300 0 σ h

set_option maxRecDepth 20000 in
set_option maxHeartbeats 4000000 in
theorem ct8_failed {Γ : GG} {K : Int32 × Sto → Prop} {a1 : Int32} {σ : Sto} (h : Out (f8_failed a1 σ) K) : Ct true Γ mX8_failed 0 0 0 [vq (some (8, 0)), vi a1] σ (QI K) := by
  refine Ct_intro (by decide +kernel) rfl ?_
  show M true Γ mX8_failed 0 0 0 0 0 (QI K) 0 [some (vq (some (8, 0))), some (vi a1)] [] σ
  unfold f8_failed at h
  refine r_aload_n 1 dX8_failed_0 rfl rfl ?_
  refine r_iload_n 2 dX8_failed_1 rfl rfl ?_
  refine r_putI (x := fe8_64) 13 5 fl8_64 (by decide) dX8_failed_2 rfl (Or.inl rfl) rfl rfl ?_
  refine r_bipush (-10) 7 dX8_failed_5 rfl (by decide) ?_
  refine r_iload_n 8 dX8_failed_7 rfl rfl ?_
  refine r_isub 9 dX8_failed_8 rfl ?_
  exact r_ireturn dX8_failed_9 rfl (Nat.le_refl 0) (Nat.le_refl 0) h

set_option maxRecDepth 20000 in
set_option maxHeartbeats 4000000 in
theorem ct8_isOfKind_0 {Γ : GG} {K : Int32 × Sto → Prop} {i0 : Nat} {a1 : Int32} {σ : Sto} (h : Out (f8_isOfKind_0 i0 a1 σ) K) : Ct true Γ mX8_isOfKind 0 0 0 [vq (some (0, i0)), vi a1] σ (QI K) := by
  refine Ct_intro (by decide +kernel) rfl ?_
  show M true Γ mX8_isOfKind 0 0 0 0 0 (QI K) 0 [some (vq (some (0, i0))), some (vi a1)] [] σ
  unfold f8_isOfKind_0 at h
  refine r_iload_n 1 dX8_isOfKind_0 rfl rfl ?_
  refine r_if_ne 6 4 dX8_isOfKind_1 (by decide) rfl (fun hc => ?_) (fun hc => ?_)
  · replace h := Out_neg hc h
    refine r_iload_n 7 dX8_isOfKind_6 rfl rfl ?_
    refine r_iconst 1 8 dX8_isOfKind_7 rfl (by decide) ?_
    refine r_icmp_ne 18 11 dX8_isOfKind_8 (by decide) rfl (fun hc => ?_) (fun hc => ?_)
    · replace h := Out_neg hc h
      refine r_aload_n 19 dX8_isOfKind_18 rfl rfl ?_
      refine M_instanceof (r := 0) (nm := "PlatePeas$Spoon") rfl w_90c88272 dX8_isOfKind_19 ?_
      exact r_zreturn dX8_isOfKind_22 rfl (by decide) (Nat.le_refl 0) (Nat.le_refl 0) h
    · replace h := Out_pos hc h
      refine r_aload_n 12 dX8_isOfKind_11 rfl rfl ?_
      refine M_instanceof (r := 0) (nm := "PlatePeas$Knife") rfl w_95765bbd dX8_isOfKind_12 ?_
      refine r_goto 22 dX8_isOfKind_15 (by decide) ?_
      exact r_zreturn dX8_isOfKind_22 rfl (by decide) (Nat.le_refl 0) (Nat.le_refl 0) h
  · replace h := Out_pos hc h
    refine r_iconst 1 5 dX8_isOfKind_4 rfl (by decide) ?_
    exact r_zreturn dX8_isOfKind_5 rfl (by decide) (Nat.le_refl 0) (Nat.le_refl 0) h

set_option maxRecDepth 20000 in
set_option maxHeartbeats 4000000 in
theorem ct8_isOfKind_1 {Γ : GG} {K : Int32 × Sto → Prop} {i0 : Nat} {a1 : Int32} {σ : Sto} (h : Out (f8_isOfKind_1 i0 a1 σ) K) : Ct true Γ mX8_isOfKind 0 0 0 [vq (some (1, i0)), vi a1] σ (QI K) := by
  refine Ct_intro (by decide +kernel) rfl ?_
  show M true Γ mX8_isOfKind 0 0 0 0 0 (QI K) 0 [some (vq (some (1, i0))), some (vi a1)] [] σ
  unfold f8_isOfKind_1 at h
  refine r_iload_n 1 dX8_isOfKind_0 rfl rfl ?_
  refine r_if_ne 6 4 dX8_isOfKind_1 (by decide) rfl (fun hc => ?_) (fun hc => ?_)
  · replace h := Out_neg hc h
    refine r_iload_n 7 dX8_isOfKind_6 rfl rfl ?_
    refine r_iconst 1 8 dX8_isOfKind_7 rfl (by decide) ?_
    refine r_icmp_ne 18 11 dX8_isOfKind_8 (by decide) rfl (fun hc => ?_) (fun hc => ?_)
    · replace h := Out_neg hc h
      refine r_aload_n 19 dX8_isOfKind_18 rfl rfl ?_
      refine M_instanceof (r := 0) (nm := "PlatePeas$Spoon") rfl w_90c88272 dX8_isOfKind_19 ?_
      exact r_zreturn dX8_isOfKind_22 rfl (by decide) (Nat.le_refl 0) (Nat.le_refl 0) h
    · replace h := Out_pos hc h
      refine r_aload_n 12 dX8_isOfKind_11 rfl rfl ?_
      refine M_instanceof (r := 1) (nm := "PlatePeas$Knife") rfl w_95765bbd dX8_isOfKind_12 ?_
      refine r_goto 22 dX8_isOfKind_15 (by decide) ?_
      exact r_zreturn dX8_isOfKind_22 rfl (by decide) (Nat.le_refl 0) (Nat.le_refl 0) h
  · replace h := Out_pos hc h
    refine r_iconst 1 5 dX8_isOfKind_4 rfl (by decide) ?_
    exact r_zreturn dX8_isOfKind_5 rfl (by decide) (Nat.le_refl 0) (Nat.le_refl 0) h

set_option maxRecDepth 20000 in
set_option maxHeartbeats 4000000 in
theorem ct8_isOfKind_5 {Γ : GG} {K : Int32 × Sto → Prop} {i0 : Nat} {a1 : Int32} {σ : Sto} (h : Out (f8_isOfKind_5 i0 a1 σ) K) : Ct true Γ mX8_isOfKind 0 0 0 [vq (some (5, i0)), vi a1] σ (QI K) := by
  refine Ct_intro (by decide +kernel) rfl ?_
  show M true Γ mX8_isOfKind 0 0 0 0 0 (QI K) 0 [some (vq (some (5, i0))), some (vi a1)] [] σ
  unfold f8_isOfKind_5 at h
  refine r_iload_n 1 dX8_isOfKind_0 rfl rfl ?_
  refine r_if_ne 6 4 dX8_isOfKind_1 (by decide) rfl (fun hc => ?_) (fun hc => ?_)
  · replace h := Out_neg hc h
    refine r_iload_n 7 dX8_isOfKind_6 rfl rfl ?_
    refine r_iconst 1 8 dX8_isOfKind_7 rfl (by decide) ?_
    refine r_icmp_ne 18 11 dX8_isOfKind_8 (by decide) rfl (fun hc => ?_) (fun hc => ?_)
    · replace h := Out_neg hc h
      refine r_aload_n 19 dX8_isOfKind_18 rfl rfl ?_
      refine M_instanceof (r := 1) (nm := "PlatePeas$Spoon") rfl w_90c88272 dX8_isOfKind_19 ?_
      exact r_zreturn dX8_isOfKind_22 rfl (by decide) (Nat.le_refl 0) (Nat.le_refl 0) h
    · replace h := Out_pos hc h
      refine r_aload_n 12 dX8_isOfKind_11 rfl rfl ?_
      refine M_instanceof (r := 1) (nm := "PlatePeas$Knife") rfl w_95765bbd dX8_isOfKind_12 ?_
      refine r_goto 22 dX8_isOfKind_15 (by decide) ?_
      exact r_zreturn dX8_isOfKind_22 rfl (by decide) (Nat.le_refl 0) (Nat.le_refl 0) h
  · replace h := Out_pos hc h
    refine r_iconst 1 5 dX8_isOfKind_4 rfl (by decide) ?_
    exact r_zreturn dX8_isOfKind_5 rfl (by decide) (Nat.le_refl 0) (Nat.le_refl 0) h

set_option maxRecDepth 20000 in
set_option maxHeartbeats 4000000 in
theorem ct8_as {Γ : GG} {K : Int32 × Sto → Prop} {a1 : Int32} {a2 : Int32} {σ : Sto} (h : Out (f8_as a1 a2 σ) K) : Ct true Γ mX8_as 2 0 0 [vq (some (8, 0)), vi a1, vi a2] σ (QI K) := by
  refine Ct_intro (by decide +kernel) rfl ?_
  show M true Γ mX8_as 2 0 0 0 0 (QI K) 0 [some (vq (some (8, 0))), some (vi a1), some (vi a2), none] [] σ
  unfold f8_as at h
  refine r_aload_n 1 dX8_as_0 rfl rfl ?_
  refine r_iconst 0 2 dX8_as_1 rfl (by decide) ?_
  refine r_putI (x := fe8_64) 13 5 fl8_64 (by decide) dX8_as_2 rfl (Or.inl rfl) rfl rfl ?_
  refine r_aload_n 6 dX8_as_5 rfl rfl ?_
  refine r_getR (x := fe8_56) 0 9 fl8_56 (by decide) dX8_as_6 rfl rfl rfl (Or.inr rfl) ?_
  refine r_iload_n 10 dX8_as_9 rfl rfl ?_
  obtain ⟨i21, e0, h⟩ := Out_dr h
  rw [e0]
  refine c_R [vq (some (2, i21)), vi a1] [] 13 cs8_as_10 rfl h (fun _ h' => ct2_eaterAt h') rfl rfl rfl rfl (by decide) (Nat.le_refl 0) (Nat.le_refl 0) (fun v22 s23 h => ?_)
  refine r_astore_n [some (vq (some (8, 0))), some (vi a1), some (vi a2), some (vq v22)] 14 dX8_as_13 rfl rfl rfl ?_
  refine r_aload_n 15 dX8_as_14 rfl rfl ?_
  rcases Out_rcs h with ⟨e0, h⟩ | ⟨k24, i25, e0, h⟩
  · subst e0
    refine r_ifnonnull 20 18 dX8_as_15 (by decide) rfl (fun hc => absurd rfl hc) (fun _ => ?_)
    refine r_iconst (-1) 19 dX8_as_18 rfl (by decide) ?_
    exact r_ireturn dX8_as_19 rfl (Nat.le_refl 0) (Nat.le_refl 0) h
  · subst e0
    refine r_ifnonnull 20 18 dX8_as_15 (by decide) rfl (fun _ => ?_) (fun hc => by cases hc)
    refine r_iload_n 21 dX8_as_20 rfl rfl ?_
    refine r_iconst 3 22 dX8_as_21 rfl (by decide) ?_
    refine c_I [vi a2, vi 3] [] 25 cs8_as_22 rfl h (fun _ h' => ct8_isBelow h') rfl rfl rfl rfl (by decide) (Nat.le_refl 0) (Nat.le_refl 0) (fun v26 s27 h => ?_)
    refine r_if_ne 31 28 dX8_as_25 (by decide) rfl (fun hc => ?_) (fun hc => ?_)
    · replace h := Out_neg hc h
      refine r_aload_n 32 dX8_as_31 rfl rfl ?_
      refine r_iload_n 33 dX8_as_32 rfl rfl ?_
      rcases Out_fk h with ⟨ek, h1⟩ | ⟨ek, h1⟩ | ⟨ek, h1⟩
      · subst ek
        replace h := h1
        refine c_I [vq (some (0, i25)), vi a2] [] 36 cs8_as_33_0 rfl h (fun _ h' => ct8_isOfKind_0 h') rfl rfl rfl rfl (by decide) (Nat.le_refl 0) (Nat.le_refl 0) (fun v28 s29 h => ?_)
        refine r_if_eq 43 39 dX8_as_36 (by decide) rfl (fun hc => ?_) (fun hc => ?_)
        · replace h := Out_pos hc h
          refine r_aload_n 44 dX8_as_43 rfl rfl ?_
          refine r_iconst 2 45 dX8_as_44 rfl (by decide) ?_
          refine c_I [vq (some (8, 0)), vi 2] [] 48 cs8_as_45 rfl h (fun _ h' => ct8_failed h') rfl rfl rfl rfl (by decide) (Nat.le_refl 0) (Nat.le_refl 0) (fun v30 s31 h => ?_)
          exact r_ireturn dX8_as_48 rfl (Nat.le_refl 0) (Nat.le_refl 0) h
        · replace h := Out_neg hc h
          refine r_iconst 1 40 dX8_as_39 rfl (by decide) ?_
          refine r_goto 48 dX8_as_40 (by decide) ?_
          exact r_ireturn dX8_as_48 rfl (Nat.le_refl 0) (Nat.le_refl 0) h
      · subst ek
        replace h := h1
        refine c_I [vq (some (1, i25)), vi a2] [] 36 cs8_as_33_1 rfl h (fun _ h' => ct8_isOfKind_1 h') rfl rfl rfl rfl (by decide) (Nat.le_refl 0) (Nat.le_refl 0) (fun v32 s33 h => ?_)
        refine r_if_eq 43 39 dX8_as_36 (by decide) rfl (fun hc => ?_) (fun hc => ?_)
        · replace h := Out_pos hc h
          refine r_aload_n 44 dX8_as_43 rfl rfl ?_
          refine r_iconst 2 45 dX8_as_44 rfl (by decide) ?_
          refine c_I [vq (some (8, 0)), vi 2] [] 48 cs8_as_45 rfl h (fun _ h' => ct8_failed h') rfl rfl rfl rfl (by decide) (Nat.le_refl 0) (Nat.le_refl 0) (fun v34 s35 h => ?_)
          exact r_ireturn dX8_as_48 rfl (Nat.le_refl 0) (Nat.le_refl 0) h
        · replace h := Out_neg hc h
          refine r_iconst 1 40 dX8_as_39 rfl (by decide) ?_
          refine r_goto 48 dX8_as_40 (by decide) ?_
          exact r_ireturn dX8_as_48 rfl (Nat.le_refl 0) (Nat.le_refl 0) h
      · subst ek
        replace h := h1
        refine c_I [vq (some (5, i25)), vi a2] [] 36 cs8_as_33_5 rfl h (fun _ h' => ct8_isOfKind_5 h') rfl rfl rfl rfl (by decide) (Nat.le_refl 0) (Nat.le_refl 0) (fun v36 s37 h => ?_)
        refine r_if_eq 43 39 dX8_as_36 (by decide) rfl (fun hc => ?_) (fun hc => ?_)
        · replace h := Out_pos hc h
          refine r_aload_n 44 dX8_as_43 rfl rfl ?_
          refine r_iconst 2 45 dX8_as_44 rfl (by decide) ?_
          refine c_I [vq (some (8, 0)), vi 2] [] 48 cs8_as_45 rfl h (fun _ h' => ct8_failed h') rfl rfl rfl rfl (by decide) (Nat.le_refl 0) (Nat.le_refl 0) (fun v38 s39 h => ?_)
          exact r_ireturn dX8_as_48 rfl (Nat.le_refl 0) (Nat.le_refl 0) h
        · replace h := Out_neg hc h
          refine r_iconst 1 40 dX8_as_39 rfl (by decide) ?_
          refine r_goto 48 dX8_as_40 (by decide) ?_
          exact r_ireturn dX8_as_48 rfl (Nat.le_refl 0) (Nat.le_refl 0) h
    · replace h := Out_pos hc h
      refine r_bipush (-2) 30 dX8_as_28 rfl (by decide) ?_
      exact r_ireturn dX8_as_30 rfl (Nat.le_refl 0) (Nat.le_refl 0) h

set_option maxRecDepth 20000 in
set_option maxHeartbeats 4000000 in
theorem ct8_back {Γ : GG} {K : Int32 × Sto → Prop} {a1 : Int32} {σ : Sto} (h : Out (f8_back a1 σ) K) : Ct true Γ mX8_back 0 0 0 [vq (some (8, 0)), vi a1] σ (QI K) := by
  refine Ct_intro (by decide +kernel) rfl ?_
  show M true Γ mX8_back 0 0 0 0 0 (QI K) 0 [some (vq (some (8, 0))), some (vi a1)] [] σ
  unfold f8_back at h
  refine r_iload_n 1 dX8_back_0 rfl rfl ?_
  refine r_if_lt 12 4 dX8_back_1 (by decide) rfl (fun hc => ?_) (fun hc => ?_)
  · replace h := Out_pos hc h
    refine r_bipush (-2) 14 dX8_back_12 rfl (by decide) ?_
    exact r_ireturn dX8_back_14 rfl (Nat.le_refl 0) (Nat.le_refl 0) h
  · replace h := Out_neg hc h
    refine r_iload_n 5 dX8_back_4 rfl rfl ?_
    refine r_aload_n 6 dX8_back_5 rfl rfl ?_
    refine r_getI (x := fe8_213) 7 9 fl8_213 (by decide) dX8_back_6 rfl rfl rfl ?_
    refine r_icmp_le 15 12 dX8_back_9 (by decide) rfl (fun hc => ?_) (fun hc => ?_)
    · replace h := Out_pos hc h
      refine r_aload_n 16 dX8_back_15 rfl rfl ?_
      refine r_dup 17 dX8_back_16 rfl rfl ?_
      refine r_getI (x := fe8_213) 7 20 fl8_213 (by decide) dX8_back_17 rfl rfl rfl ?_
      refine r_iload_n 21 dX8_back_20 rfl rfl ?_
      refine r_isub 22 dX8_back_21 rfl ?_
      refine r_putI (x := fe8_213) 7 25 fl8_213 (by decide) dX8_back_22 rfl (Or.inl rfl) rfl rfl ?_
      refine r_aload_n 26 dX8_back_25 rfl rfl ?_
      refine r_getI (x := fe8_213) 7 29 fl8_213 (by decide) dX8_back_26 rfl rfl rfl ?_
      exact r_ireturn dX8_back_29 rfl (Nat.le_refl 0) (Nat.le_refl 0) h
    · replace h := Out_neg hc h
      refine r_bipush (-2) 14 dX8_back_12 rfl (by decide) ?_
      exact r_ireturn dX8_back_14 rfl (Nat.le_refl 0) (Nat.le_refl 0) h

set_option maxRecDepth 20000 in
set_option maxHeartbeats 4000000 in
theorem ct8_sheetAt {Γ : GG} {K : Option MA × Sto → Prop} {a1 : Int32} {σ : Sto} (h : Out (f8_sheetAt a1 σ) K) : Ct true Γ mX8_sheetAt 1 0 0 [vq (some (8, 0)), vi a1] σ (QR K) := by
  refine Ct_intro (by decide +kernel) rfl ?_
  show M true Γ mX8_sheetAt 1 0 0 0 0 (QR K) 0 [some (vq (some (8, 0))), some (vi a1)] [] σ
  unfold f8_sheetAt at h
  refine r_iload_n 1 dX8_sheetAt_0 rfl rfl ?_
  refine r_iconst 4 2 dX8_sheetAt_1 rfl (by decide) ?_
  refine c_I [vi a1, vi 4] [] 5 cs8_sheetAt_2 rfl h (fun _ h' => ct8_isBelow h') rfl rfl rfl rfl (by decide) (Nat.le_refl 0) (Nat.le_refl 0) (fun v21 s22 h => ?_)
  refine r_if_eq 17 8 dX8_sheetAt_5 (by decide) rfl (fun hc => ?_) (fun hc => ?_)
  · replace h := Out_pos hc h
    refine r_null 18 dX8_sheetAt_17 rfl ?_
    exact r_areturn dX8_sheetAt_18 rfl (Nat.le_refl 0) (Nat.le_refl 0) h
  · replace h := Out_neg hc h
    refine r_aload_n 9 dX8_sheetAt_8 rfl rfl ?_
    refine r_getF (x := fe8_23) 11 (23, 0) 12 fl8_23 (by decide) dX8_sheetAt_9 rfl rfl rfl rfl ?_
    refine r_iload_n 13 dX8_sheetAt_12 rfl rfl ?_
    obtain ⟨hc, h⟩ := Out_grd h
    refine r_aaload (some (4, a1.toNatClampNeg)) a1.toNatClampNeg 4 14 dX8_sheetAt_13 rfl (by decide) rfl rfl hc rfl rfl ?_
    refine r_goto 18 dX8_sheetAt_14 (by decide) ?_
    exact r_areturn dX8_sheetAt_18 rfl (Nat.le_refl 0) (Nat.le_refl 0) h

set_option maxRecDepth 20000 in
set_option maxHeartbeats 4000000 in
theorem ct8_cell {Γ : GG} {K : Int64 × Sto → Prop} {a1 : Int32} {a2 : Int32} {a3 : Int32} {σ : Sto} (h : Out (f8_cell a1 a2 a3 σ) K) : Ct true Γ mX8_cell 3 0 0 [vq (some (8, 0)), vi a1, vi a2, vi a3] σ (QL K) := by
  refine Ct_intro (by decide +kernel) rfl ?_
  show M true Γ mX8_cell 3 0 0 0 0 (QL K) 0 [some (vq (some (8, 0))), some (vi a1), some (vi a2), some (vi a3), none] [] σ
  unfold f8_cell at h
  refine r_aload_n 1 dX8_cell_0 rfl rfl ?_
  refine r_iconst 0 2 dX8_cell_1 rfl (by decide) ?_
  refine r_putI (x := fe8_64) 13 5 fl8_64 (by decide) dX8_cell_2 rfl (Or.inl rfl) rfl rfl ?_
  refine r_aload_n 6 dX8_cell_5 rfl rfl ?_
  refine r_iload_n 7 dX8_cell_6 rfl rfl ?_
  refine c_R [vq (some (8, 0)), vi a1] [] 10 cs8_cell_7 rfl h (fun _ h' => ct8_sheetAt h') rfl rfl rfl rfl (by decide) (Nat.le_refl 0) (Nat.le_refl 0) (fun v21 s22 h => ?_)
  refine r_astore [some (vq (some (8, 0))), some (vi a1), some (vi a2), some (vi a3), some (vq v21)] 12 dX8_cell_10 rfl rfl rfl ?_
  refine r_aload 14 dX8_cell_12 rfl rfl ?_
  rcases Out_rcs h with ⟨e0, h⟩ | ⟨k23, i24, e0, h⟩
  · subst e0
    refine r_ifnull 25 17 dX8_cell_14 (by decide) rfl (fun _ => ?_) (fun hc => absurd rfl hc)
    refine r_ldc2 (-9223372036854775808) 28 dX8_cell_25 rfl w_6497ae33 ?_
    exact r_lreturn dX8_cell_28 rfl (Nat.le_refl 0) (Nat.le_refl 0) h
  · subst e0
    obtain ⟨ek, h1⟩ := Out_grd h
    subst ek
    replace h := h1
    refine r_ifnull 25 17 dX8_cell_14 (by decide) rfl (fun hc => by cases hc) (fun _ => ?_)
    refine r_iload_n 18 dX8_cell_17 rfl rfl ?_
    refine r_iconst 3 19 dX8_cell_18 rfl (by decide) ?_
    refine c_I [vi a3, vi 3] [] 22 cs8_cell_19 rfl h (fun _ h' => ct8_isBelow h') rfl rfl rfl rfl (by decide) (Nat.le_refl 0) (Nat.le_refl 0) (fun v25 s26 h => ?_)
    refine r_if_ne 29 25 dX8_cell_22 (by decide) rfl (fun hc => ?_) (fun hc => ?_)
    · replace h := Out_neg hc h
      refine r_aload_n 30 dX8_cell_29 rfl rfl ?_
      refine r_aload 32 dX8_cell_30 rfl rfl ?_
      refine r_iload_n 33 dX8_cell_32 rfl rfl ?_
      refine r_iload_n 34 dX8_cell_33 rfl rfl ?_
      refine c_I [vq (some (4, i24)), vi a3, vi a2] [vq (some (8, 0))] 37 cs8_cell_34 rfl h (fun _ h' => ct4_faultOfCell h') rfl rfl rfl rfl (by decide) (Nat.le_refl 0) (Nat.le_refl 0) (fun v27 s28 h => ?_)
      refine r_putI (x := fe8_64) 13 40 fl8_64 (by decide) dX8_cell_37 rfl (Or.inl rfl) rfl rfl ?_
      refine r_aload_n 41 dX8_cell_40 rfl rfl ?_
      refine r_getI (x := fe8_64) 13 44 fl8_64 (by decide) dX8_cell_41 rfl rfl rfl ?_
      refine r_if_ne 57 47 dX8_cell_44 (by decide) rfl (fun hc => ?_) (fun hc => ?_)
      · replace h := Out_neg hc h
        refine r_ldc2 (-9223372036854775808) 60 dX8_cell_57 rfl w_6497ae33 ?_
        exact r_lreturn dX8_cell_60 rfl (Nat.le_refl 0) (Nat.le_refl 0) h
      · replace h := Out_pos hc h
        refine r_aload 49 dX8_cell_47 rfl rfl ?_
        refine r_iload_n 50 dX8_cell_49 rfl rfl ?_
        refine c_I [vq (some (4, i24)), vi a2] [] 53 cs8_cell_50 rfl h (fun _ h' => ct4_read h') rfl rfl rfl rfl (by decide) (Nat.le_refl 0) (Nat.le_refl 0) (fun v29 s30 h => ?_)
        refine r_i2l 54 dX8_cell_53 rfl ?_
        refine r_goto 60 dX8_cell_54 (by decide) ?_
        exact r_lreturn dX8_cell_60 rfl (Nat.le_refl 0) (Nat.le_refl 0) h
    · replace h := Out_pos hc h
      refine r_ldc2 (-9223372036854775808) 28 dX8_cell_25 rfl w_6497ae33 ?_
      exact r_lreturn dX8_cell_28 rfl (Nat.le_refl 0) (Nat.le_refl 0) h

set_option maxRecDepth 20000 in
set_option maxHeartbeats 4000000 in
theorem ct8_copy {Γ : GG} {K : Int32 × Sto → Prop} {a1 : Int32} {a2 : Int32} {a3 : Int32} {a4 : Int32} {a5 : Int32} {σ : Sto} (h : Out (f8_copy a1 a2 a3 a4 a5 σ) K) : Ct true Γ mX8_copy 2 0 0 [vq (some (8, 0)), vi a1, vi a2, vi a3, vi a4, vi a5] σ (QI K) := by
  refine Ct_intro (by decide +kernel) rfl ?_
  show M true Γ mX8_copy 2 0 0 0 0 (QI K) 0 [some (vq (some (8, 0))), some (vi a1), some (vi a2), some (vi a3), some (vi a4), some (vi a5), none, none] [] σ
  unfold f8_copy at h
  refine r_aload_n 1 dX8_copy_0 rfl rfl ?_
  refine r_iconst 0 2 dX8_copy_1 rfl (by decide) ?_
  refine r_putI (x := fe8_64) 13 5 fl8_64 (by decide) dX8_copy_2 rfl (Or.inl rfl) rfl rfl ?_
  refine r_aload_n 6 dX8_copy_5 rfl rfl ?_
  refine r_iload_n 7 dX8_copy_6 rfl rfl ?_
  refine c_R [vq (some (8, 0)), vi a1] [] 10 cs8_copy_7 rfl h (fun _ h' => ct8_sheetAt h') rfl rfl rfl rfl (by decide) (Nat.le_refl 0) (Nat.le_refl 0) (fun v21 s22 h => ?_)
  refine r_astore [some (vq (some (8, 0))), some (vi a1), some (vi a2), some (vi a3), some (vi a4), some (vi a5), some (vq v21), none] 12 dX8_copy_10 rfl rfl rfl ?_
  refine r_aload_n 13 dX8_copy_12 rfl rfl ?_
  refine r_iload_n 14 dX8_copy_13 rfl rfl ?_
  refine c_R [vq (some (8, 0)), vi a3] [] 17 cs8_copy_14 rfl h (fun _ h' => ct8_sheetAt h') rfl rfl rfl rfl (by decide) (Nat.le_refl 0) (Nat.le_refl 0) (fun v23 s24 h => ?_)
  refine r_astore [some (vq (some (8, 0))), some (vi a1), some (vi a2), some (vi a3), some (vi a4), some (vi a5), some (vq v21), some (vq v23)] 19 dX8_copy_17 rfl rfl rfl ?_
  refine r_aload 21 dX8_copy_19 rfl rfl ?_
  rcases Out_rcs h with ⟨e0, h⟩ | ⟨k25, i26, e0, h⟩
  · subst e0
    refine r_ifnull 29 24 dX8_copy_21 (by decide) rfl (fun _ => ?_) (fun hc => absurd rfl hc)
    refine r_iconst (-1) 30 dX8_copy_29 rfl (by decide) ?_
    exact r_ireturn dX8_copy_30 rfl (Nat.le_refl 0) (Nat.le_refl 0) h
  · subst e0
    obtain ⟨ek, h1⟩ := Out_grd h
    subst ek
    replace h := h1
    refine r_ifnull 29 24 dX8_copy_21 (by decide) rfl (fun hc => by cases hc) (fun _ => ?_)
    refine r_aload 26 dX8_copy_24 rfl rfl ?_
    rcases Out_rcs h with ⟨e0, h⟩ | ⟨k27, i28, e0, h⟩
    · subst e0
      refine r_ifnonnull 31 29 dX8_copy_26 (by decide) rfl (fun hc => absurd rfl hc) (fun _ => ?_)
      refine r_iconst (-1) 30 dX8_copy_29 rfl (by decide) ?_
      exact r_ireturn dX8_copy_30 rfl (Nat.le_refl 0) (Nat.le_refl 0) h
    · subst e0
      obtain ⟨ek, h1⟩ := Out_grd h
      subst ek
      replace h := h1
      refine r_ifnonnull 31 29 dX8_copy_26 (by decide) rfl (fun _ => ?_) (fun hc => by cases hc)
      refine r_aload 33 dX8_copy_31 rfl rfl ?_
      refine c_I [vq (some (4, i26))] [] 36 cs8_copy_33 rfl h (fun _ h' => ct4_isNothing h') rfl rfl rfl rfl (by decide) (Nat.le_refl 0) (Nat.le_refl 0) (fun v29 s30 h => ?_)
      refine r_if_ne 47 39 dX8_copy_36 (by decide) rfl (fun hc => ?_) (fun hc => ?_)
      · replace h := Out_neg hc h
        refine r_aload_n 48 dX8_copy_47 rfl rfl ?_
        refine r_iconst 1 49 dX8_copy_48 rfl (by decide) ?_
        refine c_I [vq (some (8, 0)), vi 1] [] 52 cs8_copy_49 rfl h (fun _ h' => ct8_failed h') rfl rfl rfl rfl (by decide) (Nat.le_refl 0) (Nat.le_refl 0) (fun v31 s32 h => ?_)
        exact r_ireturn dX8_copy_52 rfl (Nat.le_refl 0) (Nat.le_refl 0) h
      · replace h := Out_pos hc h
        refine r_aload 41 dX8_copy_39 rfl rfl ?_
        refine c_I [vq (some (4, i28))] [] 44 cs8_copy_41 rfl h (fun _ h' => ct4_isNothing h') rfl rfl rfl rfl (by decide) (Nat.le_refl 0) (Nat.le_refl 0) (fun v33 s34 h => ?_)
        refine r_if_eq 53 47 dX8_copy_44 (by decide) rfl (fun hc => ?_) (fun hc => ?_)
        · replace h := Out_pos hc h
          refine r_aload 55 dX8_copy_53 rfl rfl ?_
          refine r_getI (x := fe8_251) 1 58 fl8_251 (by decide) dX8_copy_55 rfl rfl rfl ?_
          refine r_aload 60 dX8_copy_58 rfl rfl ?_
          refine r_getI (x := fe8_251) 1 63 fl8_251 (by decide) dX8_copy_60 rfl rfl rfl ?_
          refine r_icmp_eq 72 66 dX8_copy_63 (by decide) rfl (fun hc => ?_) (fun hc => ?_)
          · replace h := Out_pos hc h
            refine r_aload 74 dX8_copy_72 rfl rfl ?_
            refine r_iload_n 75 dX8_copy_74 rfl rfl ?_
            refine r_iload 77 dX8_copy_75 rfl rfl ?_
            refine c_I [vq (some (4, i26)), vi a2, vi a5] [] 80 cs8_copy_77 rfl h (fun _ h' => ct4_hasCells h') rfl rfl rfl rfl (by decide) (Nat.le_refl 0) (Nat.le_refl 0) (fun v35 s36 h => ?_)
            refine r_if_eq 95 83 dX8_copy_80 (by decide) rfl (fun hc => ?_) (fun hc => ?_)
            · replace h := Out_pos hc h
              refine r_aload_n 96 dX8_copy_95 rfl rfl ?_
              refine r_iconst 3 97 dX8_copy_96 rfl (by decide) ?_
              refine c_I [vq (some (8, 0)), vi 3] [] 100 cs8_copy_97 rfl h (fun _ h' => ct8_failed h') rfl rfl rfl rfl (by decide) (Nat.le_refl 0) (Nat.le_refl 0) (fun v37 s38 h => ?_)
              exact r_ireturn dX8_copy_100 rfl (Nat.le_refl 0) (Nat.le_refl 0) h
            · replace h := Out_neg hc h
              refine r_aload 85 dX8_copy_83 rfl rfl ?_
              refine r_iload 87 dX8_copy_85 rfl rfl ?_
              refine r_iload 89 dX8_copy_87 rfl rfl ?_
              refine c_I [vq (some (4, i28)), vi a4, vi a5] [] 92 cs8_copy_89 rfl h (fun _ h' => ct4_hasCells h') rfl rfl rfl rfl (by decide) (Nat.le_refl 0) (Nat.le_refl 0) (fun v39 s40 h => ?_)
              refine r_if_ne 101 95 dX8_copy_92 (by decide) rfl (fun hc => ?_) (fun hc => ?_)
              · replace h := Out_neg hc h
                refine r_aload 103 dX8_copy_101 rfl rfl ?_
                refine r_getF (x := fe8_257) 0 (19, i26) 106 fl8_257 (by decide) dX8_copy_103 rfl rfl rfl rfl ?_
                refine r_iload_n 107 dX8_copy_106 rfl rfl ?_
                refine r_aload 109 dX8_copy_107 rfl rfl ?_
                refine r_getF (x := fe8_257) 0 (19, i28) 112 fl8_257 (by decide) dX8_copy_109 rfl rfl rfl rfl ?_
                refine r_iload 114 dX8_copy_112 rfl rfl ?_
                refine r_iload 116 dX8_copy_114 rfl rfl ?_
                obtain ⟨hc, h⟩ := Out_grd h
                refine M_arraycopy (by decide) rfl (by decide) (by decide) rfl hc.1 hc.2.1 hc.2.2.1 hc.2.2.2.1 hc.2.2.2.2 w_485cc8ed w_53efb14e w_3dd1f063 w_6d6c26a9 (Nat.le_of_ble_eq_true rfl) (by decide) dX8_copy_116 ?_
                refine r_iload 121 dX8_copy_119 rfl rfl ?_
                exact r_ireturn dX8_copy_121 rfl (Nat.le_refl 0) (Nat.le_refl 0) h
              · replace h := Out_pos hc h
                refine r_aload_n 96 dX8_copy_95 rfl rfl ?_
                refine r_iconst 3 97 dX8_copy_96 rfl (by decide) ?_
                refine c_I [vq (some (8, 0)), vi 3] [] 100 cs8_copy_97 rfl h (fun _ h' => ct8_failed h') rfl rfl rfl rfl (by decide) (Nat.le_refl 0) (Nat.le_refl 0) (fun v41 s42 h => ?_)
                exact r_ireturn dX8_copy_100 rfl (Nat.le_refl 0) (Nat.le_refl 0) h
          · replace h := Out_neg hc h
            refine r_aload_n 67 dX8_copy_66 rfl rfl ?_
            refine r_iconst 2 68 dX8_copy_67 rfl (by decide) ?_
            refine c_I [vq (some (8, 0)), vi 2] [] 71 cs8_copy_68 rfl h (fun _ h' => ct8_failed h') rfl rfl rfl rfl (by decide) (Nat.le_refl 0) (Nat.le_refl 0) (fun v43 s44 h => ?_)
            exact r_ireturn dX8_copy_71 rfl (Nat.le_refl 0) (Nat.le_refl 0) h
        · replace h := Out_neg hc h
          refine r_aload_n 48 dX8_copy_47 rfl rfl ?_
          refine r_iconst 1 49 dX8_copy_48 rfl (by decide) ?_
          refine c_I [vq (some (8, 0)), vi 1] [] 52 cs8_copy_49 rfl h (fun _ h' => ct8_failed h') rfl rfl rfl rfl (by decide) (Nat.le_refl 0) (Nat.le_refl 0) (fun v45 s46 h => ?_)
          exact r_ireturn dX8_copy_52 rfl (Nat.le_refl 0) (Nat.le_refl 0) h

set_option maxRecDepth 20000 in
set_option maxHeartbeats 4000000 in
theorem ct8_fault {Γ : GG} {K : Int32 × Sto → Prop}  {σ : Sto} (h : Out (f8_fault  σ) K) : Ct true Γ mX8_fault 0 0 0 [vq (some (8, 0))] σ (QI K) := by
  refine Ct_intro (by decide +kernel) rfl ?_
  show M true Γ mX8_fault 0 0 0 0 0 (QI K) 0 [some (vq (some (8, 0)))] [] σ
  unfold f8_fault at h
  refine r_aload_n 1 dX8_fault_0 rfl rfl ?_
  refine r_getI (x := fe8_64) 13 4 fl8_64 (by decide) dX8_fault_1 rfl rfl rfl ?_
  exact r_ireturn dX8_fault_4 rfl (Nat.le_refl 0) (Nat.le_refl 0) h

set_option maxRecDepth 20000 in
set_option maxHeartbeats 4000000 in
theorem tl8_findsRow_69 {Γ : GG} {K : Int32 × Sto → Prop} {rc : Int32 → Int32 → Int32 → Sto → Option (Int32 × Sto)} {a1 : Int32} {a2 : Int32} {a3 : Int32} {i5 : Nat} {D dr : Nat} (hD : 5 ≤ D) (hrc : ∀ {a1 : Int32} {a2 : Int32} {a3 : Int32} {σ : Sto} {K' : Int32 × Sto → Prop}, Out (rc a1 a2 a3 σ) K' → Ct true Γ mX8_findsRow dr 0 0 [vq (some (3, 0)), vi a1, vi a2, vi a3] σ (QI K')) (hdr : Nat.ble (dr + 1) D = true) : ∀ (n : Nat) (a6 : Int32) (σ : Sto), Out (l8_findsRow_69 rc a1 a2 a3 i5 n a6 σ) K → M true Γ mX8_findsRow D 0 0 0 0 (QI K) 69 [some (vq (some (3, 0))), some (vi a1), some (vi a2), some (vi a3), none, some (vq (some (2, i5))), some (vi a6), none] [] σ := by
  intro n
  induction n with
  | zero => intro a6 σ h; exact absurd h Out_none
  | succ n ih =>
    intro a6 σ h
    unfold l8_findsRow_69 at h
    refine r_iload 71 dX8_findsRow_69 rfl rfl ?_
    refine r_aload 73 dX8_findsRow_71 rfl rfl ?_
    refine r_getI (x := fe8_216) 4 76 fl8_216 (by decide) dX8_findsRow_73 rfl rfl rfl ?_
    refine r_icmp_ge 127 79 dX8_findsRow_76 (by decide) rfl (fun hc => ?_) (fun hc => ?_)
    · replace h := Out_pos hc h
      refine r_iconst 0 128 dX8_findsRow_127 rfl (by decide) ?_
      exact r_zreturn dX8_findsRow_128 rfl (by decide) (Nat.le_refl 0) (Nat.le_refl 0) h
    · replace h := Out_neg hc h
      refine r_aload 81 dX8_findsRow_79 rfl rfl ?_
      refine r_getF (x := fe8_219) 5 (10, i5) 84 fl8_219 (by decide) dX8_findsRow_81 rfl rfl rfl rfl ?_
      refine r_iload 86 dX8_findsRow_84 rfl rfl ?_
      obtain ⟨hc, h⟩ := Out_grd h
      refine r_iaload a6.toNatClampNeg 40 87 dX8_findsRow_86 rfl (by decide) rfl rfl hc rfl ?_
      refine r_istore [some (vq (some (3, 0))), some (vi a1), some (vi a2), some (vi a3), none, some (vq (some (2, i5))), some (vi a6), some (vi (gI σ 10 i5 a6.toNatClampNeg))] 89 dX8_findsRow_87 rfl rfl rfl ?_
      refine r_aload_n 90 dX8_findsRow_89 rfl rfl ?_
      refine r_iload_n 91 dX8_findsRow_90 rfl rfl ?_
      refine r_iload 93 dX8_findsRow_91 rfl rfl ?_
      refine c_I [vq (some (3, 0)), vi a2, vi (gI σ 10 i5 a6.toNatClampNeg)] [] 96 cs8_findsRow_93 rfl h (fun _ h' => ct3_stepsOn h') rfl rfl rfl rfl (Nat.ble_eq.mpr (Nat.le_trans (by decide) hD)) (Nat.le_refl 0) (Nat.le_refl 0) (fun v24 s25 h => ?_)
      refine r_if_eq 121 99 dX8_findsRow_96 (by decide) rfl (fun hc => ?_) (fun hc => ?_)
      · replace h := Out_pos hc h
        refine r_iinc 1 [some (vq (some (3, 0))), some (vi a1), some (vi a2), some (vi a3), none, some (vq (some (2, i5))), some (vi (a6 + 1)), some (vi (gI σ 10 i5 a6.toNatClampNeg))] 124 dX8_findsRow_121 rfl (by decide) rfl rfl rfl ?_
        refine r_goto 69 dX8_findsRow_124 (by decide) ?_
        refine r_mask [true, true, true, true, false, true, true, false] [some (vq (some (3, 0))), some (vi a1), some (vi a2), some (vi a3), none, some (vq (some (2, i5))), some (vi (a6 + 1)), none] rfl rfl ?_
        exact ih (a6 + 1) s25 h
      · replace h := Out_neg hc h
        refine r_aload_n 100 dX8_findsRow_99 rfl rfl ?_
        refine r_getF (x := fe8_184) 1 (18, 0) 103 fl8_184 (by decide) dX8_findsRow_100 rfl rfl rfl rfl ?_
        refine r_iload_n 104 dX8_findsRow_103 rfl rfl ?_
        refine r_iload 106 dX8_findsRow_104 rfl rfl ?_
        obtain ⟨hc, h⟩ := Out_grd h
        refine r_iastore a2.toNatClampNeg 3 107 dX8_findsRow_106 rfl (by decide) (by decide) rfl rfl hc rfl ?_
        refine r_aload_n 108 dX8_findsRow_107 rfl rfl ?_
        refine r_iload_n 109 dX8_findsRow_108 rfl rfl ?_
        refine r_iload_n 110 dX8_findsRow_109 rfl rfl ?_
        refine r_iconst 1 111 dX8_findsRow_110 rfl (by decide) ?_
        refine r_iadd 112 dX8_findsRow_111 rfl ?_
        refine r_iload_n 113 dX8_findsRow_112 rfl rfl ?_
        refine c_I [vq (some (3, 0)), vi a1, vi (a2 + 1), vi a3] [] 116 cs8_findsRow_113 rfl h (fun _ h' => hrc h') rfl rfl rfl rfl hdr (Nat.le_refl 0) (Nat.le_refl 0) (fun v26 s27 h => ?_)
        refine r_if_eq 121 119 dX8_findsRow_116 (by decide) rfl (fun hc => ?_) (fun hc => ?_)
        · replace h := Out_pos hc h
          refine r_iinc 1 [some (vq (some (3, 0))), some (vi a1), some (vi a2), some (vi a3), none, some (vq (some (2, i5))), some (vi (a6 + 1)), some (vi (gI σ 10 i5 a6.toNatClampNeg))] 124 dX8_findsRow_121 rfl (by decide) rfl rfl rfl ?_
          refine r_goto 69 dX8_findsRow_124 (by decide) ?_
          refine r_mask [true, true, true, true, false, true, true, false] [some (vq (some (3, 0))), some (vi a1), some (vi a2), some (vi a3), none, some (vq (some (2, i5))), some (vi (a6 + 1)), none] rfl rfl ?_
          exact ih (a6 + 1) s27 h
        · replace h := Out_neg hc h
          refine r_iconst 1 120 dX8_findsRow_119 rfl (by decide) ?_
          exact r_zreturn dX8_findsRow_120 rfl (by decide) (Nat.le_refl 0) (Nat.le_refl 0) h
set_option maxRecDepth 20000 in
set_option maxHeartbeats 4000000 in
theorem cg8_findsRow {Γ : GG} {K : Int32 × Sto → Prop} {rc : Int32 → Int32 → Int32 → Sto → Option (Int32 × Sto)} {a1 : Int32} {a2 : Int32} {a3 : Int32} {σ : Sto} {D dr : Nat} (hD : 5 ≤ D) (hrc : ∀ {a1 : Int32} {a2 : Int32} {a3 : Int32} {σ : Sto} {K' : Int32 × Sto → Prop}, Out (rc a1 a2 a3 σ) K' → Ct true Γ mX8_findsRow dr 0 0 [vq (some (3, 0)), vi a1, vi a2, vi a3] σ (QI K')) (hdr : Nat.ble (dr + 1) D = true) (h : Out (g8_findsRow rc a1 a2 a3 σ) K) : Ct true Γ mX8_findsRow D 0 0 [vq (some (3, 0)), vi a1, vi a2, vi a3] σ (QI K) := by
  refine Ct_intro (by decide +kernel) rfl ?_
  show M true Γ mX8_findsRow D 0 0 0 0 (QI K) 0 [some (vq (some (3, 0))), some (vi a1), some (vi a2), some (vi a3), none, none, none, none] [] σ
  unfold g8_findsRow at h
  refine r_iload_n 1 dX8_findsRow_0 rfl rfl ?_
  refine r_iconst 3 2 dX8_findsRow_1 rfl (by decide) ?_
  refine c_I [vi a2, vi 3] [] 5 cs8_findsRow_2 rfl h (fun _ h' => ct8_isBelow h') rfl rfl rfl rfl (Nat.ble_eq.mpr (Nat.le_trans (by decide) hD)) (Nat.le_refl 0) (Nat.le_refl 0) (fun v21 s22 h => ?_)
  refine r_if_ne 10 8 dX8_findsRow_5 (by decide) rfl (fun hc => ?_) (fun hc => ?_)
  · replace h := Out_neg hc h
    refine r_aload_n 11 dX8_findsRow_10 rfl rfl ?_
    refine r_getF (x := fe8_176) 0 (17, 0) 14 fl8_176 (by decide) dX8_findsRow_11 rfl rfl rfl rfl ?_
    refine r_iload_n 15 dX8_findsRow_14 rfl rfl ?_
    obtain ⟨hc, h⟩ := Out_grd h
    refine r_aaload (some (6, a2.toNatClampNeg + 2)) a2.toNatClampNeg 3 16 dX8_findsRow_15 rfl (by decide) rfl rfl hc rfl rfl ?_
    refine r_astore [some (vq (some (3, 0))), some (vi a1), some (vi a2), some (vi a3), some (vq (some (6, (a2.toNatClampNeg + 2)))), none, none, none] 18 dX8_findsRow_16 rfl rfl rfl ?_
    refine r_iload_n 19 dX8_findsRow_18 rfl rfl ?_
    refine r_iload_n 20 dX8_findsRow_19 rfl rfl ?_
    refine r_iconst 1 21 dX8_findsRow_20 rfl (by decide) ?_
    refine r_isub 22 dX8_findsRow_21 rfl ?_
    refine r_icmp_lt 59 25 dX8_findsRow_22 (by decide) rfl (fun hc => ?_) (fun hc => ?_)
    · replace h := Out_pos hc h
      refine r_aload 61 dX8_findsRow_59 rfl rfl ?_
      refine r_getR (x := fe8_309) 0 64 fl8_309 (by decide) dX8_findsRow_61 rfl rfl rfl (Or.inr rfl) ?_
      refine r_astore [some (vq (some (3, 0))), some (vi a1), some (vi a2), some (vi a3), some (vq (some (6, (a2.toNatClampNeg + 2)))), some (vq (gR s22 6 (a2.toNatClampNeg + 2) 0)), none, none] 66 dX8_findsRow_64 rfl rfl rfl ?_
      refine r_iconst 0 67 dX8_findsRow_66 rfl (by decide) ?_
      refine r_istore [some (vq (some (3, 0))), some (vi a1), some (vi a2), some (vi a3), some (vq (some (6, (a2.toNatClampNeg + 2)))), some (vq (gR s22 6 (a2.toNatClampNeg + 2) 0)), some (vi 0), none] 69 dX8_findsRow_67 rfl rfl rfl ?_
      obtain ⟨i23, e0, h⟩ := Out_dr h
      rw [e0]
      refine r_mask [true, true, true, true, false, true, true, false] [some (vq (some (3, 0))), some (vi a1), some (vi a2), some (vi a3), none, some (vq (some (2, i23))), some (vi 0), none] rfl rfl ?_
      exact tl8_findsRow_69 hD hrc hdr 300 0 s22 h
    · replace h := Out_neg hc h
      refine r_aload 27 dX8_findsRow_25 rfl rfl ?_
      refine r_iload_n 28 dX8_findsRow_27 rfl rfl ?_
      refine c_I [vq (some (6, (a2.toNatClampNeg + 2))), vi a1] [] 31 cs8_findsRow_28 rfl h (fun _ h' => ct6_firstHold h') rfl rfl rfl rfl (Nat.ble_eq.mpr (Nat.le_trans (by decide) hD)) (Nat.le_refl 0) (Nat.le_refl 0) (fun v28 s29 h => ?_)
      refine r_istore [some (vq (some (3, 0))), some (vi a1), some (vi a2), some (vi a3), some (vq (some (6, (a2.toNatClampNeg + 2)))), some (vi v28), none, none] 33 dX8_findsRow_31 rfl rfl rfl ?_
      refine r_aload_n 34 dX8_findsRow_33 rfl rfl ?_
      refine r_getF (x := fe8_184) 1 (18, 0) 37 fl8_184 (by decide) dX8_findsRow_34 rfl rfl rfl rfl ?_
      refine r_iload_n 38 dX8_findsRow_37 rfl rfl ?_
      refine r_iconst 0 39 dX8_findsRow_38 rfl (by decide) ?_
      refine r_iload_n 40 dX8_findsRow_39 rfl rfl ?_
      refine r_iload 42 dX8_findsRow_40 rfl rfl ?_
      refine c_I [vi 0, vi a1, vi v28] [vi a2, vq (some (18, 0))] 45 cs8_findsRow_42 rfl h (fun _ h' => ct8_codeOf h') rfl rfl rfl rfl (Nat.ble_eq.mpr (Nat.le_trans (by decide) hD)) (Nat.le_refl 0) (Nat.le_refl 0) (fun v30 s31 h => ?_)
      obtain ⟨hc, h⟩ := Out_grd h
      refine r_iastore a2.toNatClampNeg 3 46 dX8_findsRow_45 rfl (by decide) (by decide) rfl rfl hc rfl ?_
      refine r_iload 48 dX8_findsRow_46 rfl rfl ?_
      refine r_bipush (-9) 50 dX8_findsRow_48 rfl (by decide) ?_
      refine r_icmp_eq 57 53 dX8_findsRow_50 (by decide) rfl (fun hc => ?_) (fun hc => ?_)
      · replace h := Out_pos hc h
        refine r_iconst 0 58 dX8_findsRow_57 rfl (by decide) ?_
        exact r_zreturn dX8_findsRow_58 rfl (by decide) (Nat.le_refl 0) (Nat.le_refl 0) h
      · replace h := Out_neg hc h
        refine r_iconst 1 54 dX8_findsRow_53 rfl (by decide) ?_
        refine r_goto 58 dX8_findsRow_54 (by decide) ?_
        exact r_zreturn dX8_findsRow_58 rfl (by decide) (Nat.le_refl 0) (Nat.le_refl 0) h
  · replace h := Out_pos hc h
    refine r_iconst 0 9 dX8_findsRow_8 rfl (by decide) ?_
    exact r_zreturn dX8_findsRow_9 rfl (by decide) (Nat.le_refl 0) (Nat.le_refl 0) h
theorem ct8_findsRow {Γ : GG} : ∀ (n : Nat) {K : Int32 × Sto → Prop} {a1 : Int32} {a2 : Int32} {a3 : Int32} {σ : Sto} (h : Out (f8_findsRow n a1 a2 a3 σ) K), Ct true Γ mX8_findsRow (n + 5) 0 0 [vq (some (3, 0)), vi a1, vi a2, vi a3] σ (QI K)
  | 0, _, _, _, _, _, h => absurd h Out_none
  | n + 1, _, _, _, _, _, h => cg8_findsRow (rc := f8_findsRow n) (D := n + 1 + 5) (dr := n + 5) (by omega) (fun h' => ct8_findsRow n h') (Nat.ble_eq.mpr (by omega)) h

set_option maxRecDepth 20000 in
set_option maxHeartbeats 4000000 in
theorem tl8_fewest_55 {Γ : GG} {K : Int32 × Sto → Prop} {k : Int32 → Int32 → Sto → Option (Int32 × Sto)} {a1 : Int32} {a2 : Int32} (hx : ∀ (a3 : Int32) (a4 : Int32) (σ : Sto), Out (k a3 a4 σ) K → M true Γ mX8_fewest 10 0 0 0 0 (QI K) 90 [some (vq (some (8, 0))), some (vi a1), some (vi a2), some (vi a3), some (vi a4)] [] σ) : ∀ (n : Nat) (a3 : Int32) (a4 : Int32) (σ : Sto), Out (l8_fewest_55 k a1 a2 n a3 a4 σ) K → M true Γ mX8_fewest 10 0 0 0 0 (QI K) 55 [some (vq (some (8, 0))), some (vi a1), some (vi a2), some (vi a3), some (vi a4)] [] σ := by
  intro n
  induction n with
  | zero => intro a3 a4 σ h; exact absurd h Out_none
  | succ n ih =>
    intro a3 a4 σ h
    unfold l8_fewest_55 at h
    refine r_iload_n 56 dX8_fewest_55 rfl rfl ?_
    refine r_bipush (-9) 58 dX8_fewest_56 rfl (by decide) ?_
    refine r_icmp_ne 90 61 dX8_fewest_58 (by decide) rfl (fun hc => ?_) (fun hc => ?_)
    · replace h := Out_neg hc h
      exact hx a3 a4 σ h
    · replace h := Out_pos hc h
      refine r_iload 63 dX8_fewest_61 rfl rfl ?_
      refine r_iconst 3 64 dX8_fewest_63 rfl (by decide) ?_
      refine r_icmp_gt 90 67 dX8_fewest_64 (by decide) rfl (fun hc => ?_) (fun hc => ?_)
      · replace h := Out_pos hc h
        exact hx a3 a4 σ h
      · replace h := Out_neg hc h
        refine r_aload_n 68 dX8_fewest_67 rfl rfl ?_
        refine r_getF (x := fe8_52) 10 (3, 0) 71 fl8_52 (by decide) dX8_fewest_68 rfl rfl rfl rfl ?_
        refine r_iload_n 72 dX8_fewest_71 rfl rfl ?_
        refine r_iconst 0 73 dX8_fewest_72 rfl (by decide) ?_
        refine r_iload 75 dX8_fewest_73 rfl rfl ?_
        refine c_I [vq (some (3, 0)), vi a1, vi 0, vi a4] [] 78 cs8_fewest_75 rfl h (fun _ h' => ct8_findsRow 4 h') rfl rfl rfl rfl (by decide) (Nat.le_refl 0) (Nat.le_refl 0) (fun v27 s28 h => ?_)
        refine r_if_eq 84 81 dX8_fewest_78 (by decide) rfl (fun hc => ?_) (fun hc => ?_)
        · replace h := Out_pos hc h
          refine r_iinc 1 [some (vq (some (8, 0))), some (vi a1), some (vi a2), some (vi a3), some (vi (a4 + 1))] 87 dX8_fewest_84 rfl (by decide) rfl rfl rfl ?_
          refine r_goto 55 dX8_fewest_87 (by decide) ?_
          exact ih a3 (a4 + 1) s28 h
        · replace h := Out_neg hc h
          refine r_iload 83 dX8_fewest_81 rfl rfl ?_
          refine r_istore_n [some (vq (some (8, 0))), some (vi a1), some (vi a2), some (vi a4), some (vi a4)] 84 dX8_fewest_83 rfl rfl rfl ?_
          refine r_iinc 1 [some (vq (some (8, 0))), some (vi a1), some (vi a2), some (vi a4), some (vi (a4 + 1))] 87 dX8_fewest_84 rfl (by decide) rfl rfl rfl ?_
          refine r_goto 55 dX8_fewest_87 (by decide) ?_
          exact ih a4 (a4 + 1) s28 h
set_option maxRecDepth 20000 in
set_option maxHeartbeats 4000000 in
theorem ct8_fewest {Γ : GG} {K : Int32 × Sto → Prop} {a1 : Int32} {a2 : Int32} {σ : Sto} (h : Out (f8_fewest a1 a2 σ) K) : Ct true Γ mX8_fewest 10 0 0 [vq (some (8, 0)), vi a1, vi a2] σ (QI K) := by
  refine Ct_intro (by decide +kernel) rfl ?_
  show M true Γ mX8_fewest 10 0 0 0 0 (QI K) 0 [some (vq (some (8, 0))), some (vi a1), some (vi a2), none, none] [] σ
  unfold f8_fewest at h
  refine r_aload_n 1 dX8_fewest_0 rfl rfl ?_
  refine r_getR (x := fe8_56) 0 4 fl8_56 (by decide) dX8_fewest_1 rfl rfl rfl (Or.inr rfl) ?_
  refine r_iload_n 5 dX8_fewest_4 rfl rfl ?_
  obtain ⟨i21, e0, h⟩ := Out_dr h
  rw [e0]
  refine c_I [vq (some (2, i21)), vi a1] [] 8 cs8_fewest_5 rfl h (fun _ h' => ct2_hasPea h') rfl rfl rfl rfl (by decide) (Nat.le_refl 0) (Nat.le_refl 0) (fun v22 s23 h => ?_)
  refine r_if_eq 16 11 dX8_fewest_8 (by decide) rfl (fun hc => ?_) (fun hc => ?_)
  · replace h := Out_pos hc h
    refine r_iconst (-1) 17 dX8_fewest_16 rfl (by decide) ?_
    exact r_ireturn dX8_fewest_17 rfl (Nat.le_refl 0) (Nat.le_refl 0) h
  · replace h := Out_neg hc h
    refine r_iload_n 12 dX8_fewest_11 rfl rfl ?_
    refine r_iconst (-1) 13 dX8_fewest_12 rfl (by decide) ?_
    refine r_icmp_ge 18 16 dX8_fewest_13 (by decide) rfl (fun hc => ?_) (fun hc => ?_)
    · replace h := Out_pos hc h
      refine r_aload_n 19 dX8_fewest_18 rfl rfl ?_
      refine r_getF (x := fe8_42) 8 (6, 0) 22 fl8_42 (by decide) dX8_fewest_19 rfl rfl rfl rfl ?_
      refine r_iload_n 23 dX8_fewest_22 rfl rfl ?_
      refine c_I [vq (some (6, 0)), vi a1] [] 26 cs8_fewest_23 rfl h (fun _ h' => ct6_isHad h') rfl rfl rfl rfl (by decide) (Nat.le_refl 0) (Nat.le_refl 0) (fun v24 s25 h => ?_)
      refine r_if_eq 33 29 dX8_fewest_26 (by decide) rfl (fun hc => ?_) (fun hc => ?_)
      · replace h := Out_pos hc h
        refine r_bipush (-9) 35 dX8_fewest_33 rfl (by decide) ?_
        refine r_istore_n [some (vq (some (8, 0))), some (vi a1), some (vi a2), some (vi (-9)), none] 36 dX8_fewest_35 rfl rfl rfl ?_
        refine r_aload_n 37 dX8_fewest_36 rfl rfl ?_
        refine r_getF (x := fe8_52) 10 (3, 0) 40 fl8_52 (by decide) dX8_fewest_37 rfl rfl rfl rfl ?_
        refine r_getF (x := fe8_176) 0 (17, 0) 43 fl8_176 (by decide) dX8_fewest_40 rfl rfl rfl rfl ?_
        refine r_iconst 0 44 dX8_fewest_43 rfl (by decide) ?_
        refine r_aaload (some (6, 2)) 0 3 45 dX8_fewest_44 rfl (by decide) rfl rfl (by decide) rfl rfl ?_
        refine r_aload_n 46 dX8_fewest_45 rfl rfl ?_
        refine r_getF (x := fe8_42) 8 (6, 0) 49 fl8_42 (by decide) dX8_fewest_46 rfl rfl rfl rfl ?_
        refine c_V [vq (some (6, 2)), vq (some (6, 0))] [] 52 cs8_fewest_49 rfl h (fun _ h' => ct6_copyFrom h') rfl rfl rfl rfl (by decide) (Nat.le_refl 0) (Nat.le_refl 0) (fun s26 h => ?_)
        refine r_iconst 1 53 dX8_fewest_52 rfl (by decide) ?_
        refine r_istore [some (vq (some (8, 0))), some (vi a1), some (vi a2), some (vi (-9)), some (vi 1)] 55 dX8_fewest_53 rfl rfl rfl ?_
        refine tl8_fewest_55 (fun v29 v30 s31 h => ?_) 300 (-9) 1 s26 h
        refine r_iload_n 91 dX8_fewest_90 rfl rfl ?_
        refine r_iconst (-1) 92 dX8_fewest_91 rfl (by decide) ?_
        refine r_icmp_ne 97 95 dX8_fewest_92 (by decide) rfl (fun hc => ?_) (fun hc => ?_)
        · replace h := Out_neg hc h
          refine r_iload_n 98 dX8_fewest_97 rfl rfl ?_
          refine r_iload_n 99 dX8_fewest_98 rfl rfl ?_
          refine r_icmp_ge 114 102 dX8_fewest_99 (by decide) rfl (fun hc => ?_) (fun hc => ?_)
          · replace h := Out_pos hc h
            refine r_bipush (-9) 116 dX8_fewest_114 rfl (by decide) ?_
            exact r_ireturn dX8_fewest_116 rfl (Nat.le_refl 0) (Nat.le_refl 0) h
          · replace h := Out_neg hc h
            refine r_aload_n 103 dX8_fewest_102 rfl rfl ?_
            refine r_getF (x := fe8_52) 10 (3, 0) 106 fl8_52 (by decide) dX8_fewest_103 rfl rfl rfl rfl ?_
            refine r_getF (x := fe8_184) 1 (18, 0) 109 fl8_184 (by decide) dX8_fewest_106 rfl rfl rfl rfl ?_
            refine r_iload_n 110 dX8_fewest_109 rfl rfl ?_
            obtain ⟨hc, h⟩ := Out_grd h
            refine r_iaload a2.toNatClampNeg 3 111 dX8_fewest_110 rfl (by decide) rfl rfl hc rfl ?_
            refine r_goto 116 dX8_fewest_111 (by decide) ?_
            exact r_ireturn dX8_fewest_116 rfl (Nat.le_refl 0) (Nat.le_refl 0) h
        · replace h := Out_pos hc h
          refine r_iload_n 96 dX8_fewest_95 rfl rfl ?_
          exact r_ireturn dX8_fewest_96 rfl (Nat.le_refl 0) (Nat.le_refl 0) h
      · replace h := Out_neg hc h
        refine r_iconst 0 30 dX8_fewest_29 rfl (by decide) ?_
        refine r_goto 35 dX8_fewest_30 (by decide) ?_
        refine r_istore_n [some (vq (some (8, 0))), some (vi a1), some (vi a2), some (vi 0), none] 36 dX8_fewest_35 rfl rfl rfl ?_
        refine r_aload_n 37 dX8_fewest_36 rfl rfl ?_
        refine r_getF (x := fe8_52) 10 (3, 0) 40 fl8_52 (by decide) dX8_fewest_37 rfl rfl rfl rfl ?_
        refine r_getF (x := fe8_176) 0 (17, 0) 43 fl8_176 (by decide) dX8_fewest_40 rfl rfl rfl rfl ?_
        refine r_iconst 0 44 dX8_fewest_43 rfl (by decide) ?_
        refine r_aaload (some (6, 2)) 0 3 45 dX8_fewest_44 rfl (by decide) rfl rfl (by decide) rfl rfl ?_
        refine r_aload_n 46 dX8_fewest_45 rfl rfl ?_
        refine r_getF (x := fe8_42) 8 (6, 0) 49 fl8_42 (by decide) dX8_fewest_46 rfl rfl rfl rfl ?_
        refine c_V [vq (some (6, 2)), vq (some (6, 0))] [] 52 cs8_fewest_49 rfl h (fun _ h' => ct6_copyFrom h') rfl rfl rfl rfl (by decide) (Nat.le_refl 0) (Nat.le_refl 0) (fun s32 h => ?_)
        refine r_iconst 1 53 dX8_fewest_52 rfl (by decide) ?_
        refine r_istore [some (vq (some (8, 0))), some (vi a1), some (vi a2), some (vi 0), some (vi 1)] 55 dX8_fewest_53 rfl rfl rfl ?_
        refine tl8_fewest_55 (fun v33 v34 s35 h => ?_) 300 0 1 s32 h
        refine r_iload_n 91 dX8_fewest_90 rfl rfl ?_
        refine r_iconst (-1) 92 dX8_fewest_91 rfl (by decide) ?_
        refine r_icmp_ne 97 95 dX8_fewest_92 (by decide) rfl (fun hc => ?_) (fun hc => ?_)
        · replace h := Out_neg hc h
          refine r_iload_n 98 dX8_fewest_97 rfl rfl ?_
          refine r_iload_n 99 dX8_fewest_98 rfl rfl ?_
          refine r_icmp_ge 114 102 dX8_fewest_99 (by decide) rfl (fun hc => ?_) (fun hc => ?_)
          · replace h := Out_pos hc h
            refine r_bipush (-9) 116 dX8_fewest_114 rfl (by decide) ?_
            exact r_ireturn dX8_fewest_116 rfl (Nat.le_refl 0) (Nat.le_refl 0) h
          · replace h := Out_neg hc h
            refine r_aload_n 103 dX8_fewest_102 rfl rfl ?_
            refine r_getF (x := fe8_52) 10 (3, 0) 106 fl8_52 (by decide) dX8_fewest_103 rfl rfl rfl rfl ?_
            refine r_getF (x := fe8_184) 1 (18, 0) 109 fl8_184 (by decide) dX8_fewest_106 rfl rfl rfl rfl ?_
            refine r_iload_n 110 dX8_fewest_109 rfl rfl ?_
            obtain ⟨hc, h⟩ := Out_grd h
            refine r_iaload a2.toNatClampNeg 3 111 dX8_fewest_110 rfl (by decide) rfl rfl hc rfl ?_
            refine r_goto 116 dX8_fewest_111 (by decide) ?_
            exact r_ireturn dX8_fewest_116 rfl (Nat.le_refl 0) (Nat.le_refl 0) h
        · replace h := Out_pos hc h
          refine r_iload_n 96 dX8_fewest_95 rfl rfl ?_
          exact r_ireturn dX8_fewest_96 rfl (Nat.le_refl 0) (Nat.le_refl 0) h
    · replace h := Out_neg hc h
      refine r_iconst (-1) 17 dX8_fewest_16 rfl (by decide) ?_
      exact r_ireturn dX8_fewest_17 rfl (Nat.le_refl 0) (Nat.le_refl 0) h

set_option maxRecDepth 20000 in
set_option maxHeartbeats 4000000 in
theorem tl8_hadByRow_14 {Γ : GG} {K : Int32 × Sto → Prop} {i1 : Nat} {a2 : Int32} {a3 : Int32} : ∀ (n : Nat) (a4 : Int32) (σ : Sto), Out (l8_hadByRow_14 i1 a2 a3 n a4 σ) K → M true Γ mX8_hadByRow 4 0 0 0 0 (QI K) 14 [some (vq (some (8, 0))), some (vq (some (4, i1))), some (vi a2), some (vi a3), some (vi a4), none] [] σ := by
  intro n
  induction n with
  | zero => intro a4 σ h; exact absurd h Out_none
  | succ n ih =>
    intro a4 σ h
    unfold l8_hadByRow_14 at h
    refine r_iload 16 dX8_hadByRow_14 rfl rfl ?_
    refine r_iload_n 17 dX8_hadByRow_16 rfl rfl ?_
    refine r_icmp_ge 66 20 dX8_hadByRow_17 (by decide) rfl (fun hc => ?_) (fun hc => ?_)
    · replace h := Out_pos hc h
      refine r_aload_n 67 dX8_hadByRow_66 rfl rfl ?_
      refine r_getF (x := fe8_46) 9 (6, 1) 70 fl8_46 (by decide) dX8_hadByRow_67 rfl rfl rfl rfl ?_
      refine c_I [vq (some (6, 1))] [] 73 cs8_hadByRow_70 rfl h (fun _ h' => ct6_countHad h') rfl rfl rfl rfl (by decide) (Nat.le_refl 0) (Nat.le_refl 0) (fun v22 s23 h => ?_)
      exact r_ireturn dX8_hadByRow_73 rfl (Nat.le_refl 0) (Nat.le_refl 0) h
    · replace h := Out_neg hc h
      refine r_aload_n 21 dX8_hadByRow_20 rfl rfl ?_
      refine r_iload_n 22 dX8_hadByRow_21 rfl rfl ?_
      refine r_iload 24 dX8_hadByRow_22 rfl rfl ?_
      refine r_iadd 25 dX8_hadByRow_24 rfl ?_
      refine c_I [vq (some (4, i1)), vi (a2 + a4)] [] 28 cs8_hadByRow_25 rfl h (fun _ h' => ct4_read h') rfl rfl rfl rfl (by decide) (Nat.le_refl 0) (Nat.le_refl 0) (fun v24 s25 h => ?_)
      refine r_istore [some (vq (some (8, 0))), some (vq (some (4, i1))), some (vi a2), some (vi a3), some (vi a4), some (vi v24)] 30 dX8_hadByRow_28 rfl rfl rfl ?_
      refine r_aload_n 31 dX8_hadByRow_30 rfl rfl ?_
      refine r_getF (x := fe8_46) 9 (6, 1) 34 fl8_46 (by decide) dX8_hadByRow_31 rfl rfl rfl rfl ?_
      refine r_iload 36 dX8_hadByRow_34 rfl rfl ?_
      refine c_I [vi v24] [vq (some (6, 1))] 39 cs8_hadByRow_36 rfl h (fun _ h' => ct8_peaOf h') rfl rfl rfl rfl (by decide) (Nat.le_refl 0) (Nat.le_refl 0) (fun v26 s27 h => ?_)
      refine c_I [vq (some (6, 1)), vi v26] [] 42 cs8_hadByRow_39 rfl h (fun _ h' => ct6_isOn h') rfl rfl rfl rfl (by decide) (Nat.le_refl 0) (Nat.le_refl 0) (fun v28 s29 h => ?_)
      refine r_if_ne 51 45 dX8_hadByRow_42 (by decide) rfl (fun hc => ?_) (fun hc => ?_)
      · replace h := Out_neg hc h
        refine r_aload_n 52 dX8_hadByRow_51 rfl rfl ?_
        refine r_getF (x := fe8_46) 9 (6, 1) 55 fl8_46 (by decide) dX8_hadByRow_52 rfl rfl rfl rfl ?_
        refine r_iload 57 dX8_hadByRow_55 rfl rfl ?_
        refine c_V [vq (some (6, 1)), vi v24] [] 60 cs8_hadByRow_57 rfl h (fun _ h' => ct6_pushByCode h') rfl rfl rfl rfl (by decide) (Nat.le_refl 0) (Nat.le_refl 0) (fun s30 h => ?_)
        refine r_iinc 1 [some (vq (some (8, 0))), some (vq (some (4, i1))), some (vi a2), some (vi a3), some (vi (a4 + 1)), some (vi v24)] 63 dX8_hadByRow_60 rfl (by decide) rfl rfl rfl ?_
        refine r_goto 14 dX8_hadByRow_63 (by decide) ?_
        refine r_mask [true, true, true, true, true, false] [some (vq (some (8, 0))), some (vq (some (4, i1))), some (vi a2), some (vi a3), some (vi (a4 + 1)), none] rfl rfl ?_
        exact ih (a4 + 1) s30 h
      · replace h := Out_pos hc h
        refine r_bipush (-100) 47 dX8_hadByRow_45 rfl (by decide) ?_
        refine r_iload 49 dX8_hadByRow_47 rfl rfl ?_
        refine r_isub 50 dX8_hadByRow_49 rfl ?_
        exact r_ireturn dX8_hadByRow_50 rfl (Nat.le_refl 0) (Nat.le_refl 0) h
set_option maxRecDepth 20000 in
set_option maxHeartbeats 4000000 in
theorem ct8_hadByRow {Γ : GG} {K : Int32 × Sto → Prop} {i1 : Nat} {a2 : Int32} {a3 : Int32} {σ : Sto} (h : Out (f8_hadByRow i1 a2 a3 σ) K) : Ct true Γ mX8_hadByRow 4 0 0 [vq (some (8, 0)), vq (some (4, i1)), vi a2, vi a3] σ (QI K) := by
  refine Ct_intro (by decide +kernel) rfl ?_
  show M true Γ mX8_hadByRow 4 0 0 0 0 (QI K) 0 [some (vq (some (8, 0))), some (vq (some (4, i1))), some (vi a2), some (vi a3), none, none] [] σ
  unfold f8_hadByRow at h
  refine r_aload_n 1 dX8_hadByRow_0 rfl rfl ?_
  refine r_getF (x := fe8_46) 9 (6, 1) 4 fl8_46 (by decide) dX8_hadByRow_1 rfl rfl rfl rfl ?_
  refine r_aload_n 5 dX8_hadByRow_4 rfl rfl ?_
  refine r_getF (x := fe8_42) 8 (6, 0) 8 fl8_42 (by decide) dX8_hadByRow_5 rfl rfl rfl rfl ?_
  refine c_V [vq (some (6, 1)), vq (some (6, 0))] [] 11 cs8_hadByRow_8 rfl h (fun _ h' => ct6_copyFrom h') rfl rfl rfl rfl (by decide) (Nat.le_refl 0) (Nat.le_refl 0) (fun s21 h => ?_)
  refine r_iconst 0 12 dX8_hadByRow_11 rfl (by decide) ?_
  refine r_istore [some (vq (some (8, 0))), some (vq (some (4, i1))), some (vi a2), some (vi a3), some (vi 0), none] 14 dX8_hadByRow_12 rfl rfl rfl ?_
  exact tl8_hadByRow_14 300 0 s21 h

set_option maxRecDepth 20000 in
set_option maxHeartbeats 4000000 in
theorem tl8_readingsAreSo_2 {Γ : GG} {K : Int32 × Sto → Prop} {i1 : Nat} : ∀ (n : Nat) (a2 : Int32) (σ : Sto), Out (l8_readingsAreSo_2 i1 n a2 σ) K → M true Γ mX8_readingsAreSo 1 0 0 0 0 (QI K) 2 [some (vq (some (8, 0))), some (vq (some (6, i1))), some (vi a2)] [] σ := by
  intro n
  induction n with
  | zero => intro a2 σ h; exact absurd h Out_none
  | succ n ih =>
    intro a2 σ h
    unfold l8_readingsAreSo_2 at h
    refine r_iload_n 3 dX8_readingsAreSo_2 rfl rfl ?_
    refine r_aload_n 4 dX8_readingsAreSo_3 rfl rfl ?_
    refine r_getI (x := fe8_213) 7 7 fl8_213 (by decide) dX8_readingsAreSo_4 rfl rfl rfl ?_
    refine r_icmp_ge 37 10 dX8_readingsAreSo_7 (by decide) rfl (fun hc => ?_) (fun hc => ?_)
    · replace h := Out_pos hc h
      refine r_iconst 1 38 dX8_readingsAreSo_37 rfl (by decide) ?_
      exact r_zreturn dX8_readingsAreSo_38 rfl (by decide) (Nat.le_refl 0) (Nat.le_refl 0) h
    · replace h := Out_neg hc h
      refine r_aload_n 11 dX8_readingsAreSo_10 rfl rfl ?_
      refine r_aload_n 12 dX8_readingsAreSo_11 rfl rfl ?_
      refine r_getF (x := fe8_15) 5 (21, 0) 15 fl8_15 (by decide) dX8_readingsAreSo_12 rfl rfl rfl rfl ?_
      refine r_iload_n 16 dX8_readingsAreSo_15 rfl rfl ?_
      obtain ⟨hc, h⟩ := Out_grd h
      refine r_iaload a2.toNatClampNeg 8 17 dX8_readingsAreSo_16 rfl (by decide) rfl rfl hc rfl ?_
      refine c_I [vq (some (6, i1)), vi (gI σ 21 0 a2.toNatClampNeg)] [] 20 cs8_readingsAreSo_17 rfl h (fun _ h' => ct6_spotOf h') rfl rfl rfl rfl (by decide) (Nat.le_refl 0) (Nat.le_refl 0) (fun v21 s22 h => ?_)
      refine r_aload_n 21 dX8_readingsAreSo_20 rfl rfl ?_
      refine r_getF (x := fe8_18) 6 (22, 0) 24 fl8_18 (by decide) dX8_readingsAreSo_21 rfl rfl rfl rfl ?_
      refine r_iload_n 25 dX8_readingsAreSo_24 rfl rfl ?_
      obtain ⟨hc, h⟩ := Out_grd h
      refine r_iaload a2.toNatClampNeg 8 26 dX8_readingsAreSo_25 rfl (by decide) rfl rfl hc rfl ?_
      refine r_icmp_eq 31 29 dX8_readingsAreSo_26 (by decide) rfl (fun hc => ?_) (fun hc => ?_)
      · replace h := Out_pos hc h
        refine r_iinc 1 [some (vq (some (8, 0))), some (vq (some (6, i1))), some (vi (a2 + 1))] 34 dX8_readingsAreSo_31 rfl (by decide) rfl rfl rfl ?_
        refine r_goto 2 dX8_readingsAreSo_34 (by decide) ?_
        exact ih (a2 + 1) s22 h
      · replace h := Out_neg hc h
        refine r_iconst 0 30 dX8_readingsAreSo_29 rfl (by decide) ?_
        exact r_zreturn dX8_readingsAreSo_30 rfl (by decide) (Nat.le_refl 0) (Nat.le_refl 0) h
set_option maxRecDepth 20000 in
set_option maxHeartbeats 4000000 in
theorem ct8_readingsAreSo {Γ : GG} {K : Int32 × Sto → Prop} {i1 : Nat} {σ : Sto} (h : Out (f8_readingsAreSo i1 σ) K) : Ct true Γ mX8_readingsAreSo 1 0 0 [vq (some (8, 0)), vq (some (6, i1))] σ (QI K) := by
  refine Ct_intro (by decide +kernel) rfl ?_
  show M true Γ mX8_readingsAreSo 1 0 0 0 0 (QI K) 0 [some (vq (some (8, 0))), some (vq (some (6, i1))), none] [] σ
  unfold f8_readingsAreSo at h
  refine r_iconst 0 1 dX8_readingsAreSo_0 rfl (by decide) ?_
  refine r_istore_n [some (vq (some (8, 0))), some (vq (some (6, i1))), some (vi 0)] 2 dX8_readingsAreSo_1 rfl rfl rfl ?_
  exact tl8_readingsAreSo_2 300 0 σ h

set_option maxRecDepth 20000 in
set_option maxHeartbeats 4000000 in
theorem tl8_last_24 {Γ : GG} {K : Int32 × Sto → Prop} {k : Int32 → Int32 → Sto → Option (Int32 × Sto)} {a1 : Int32} (hx : ∀ (a2 : Int32) (a3 : Int32) (σ : Sto), Out (k a2 a3 σ) K → M true Γ mX8_last 4 0 0 0 0 (QI K) 97 [some (vq (some (8, 0))), some (vi a1), some (vi a2), some (vi a3)] [] σ) : ∀ (n : Nat) (a2 : Int32) (a3 : Int32) (σ : Sto), Out (l8_last_24 k a1 n a2 a3 σ) K → M true Γ mX8_last 4 0 0 0 0 (QI K) 24 [some (vq (some (8, 0))), some (vi a1), some (vi a2), some (vi a3)] [] σ := by
  intro n
  induction n with
  | zero => intro a2 a3 σ h; exact absurd h Out_none
  | succ n ih =>
    intro a2 a3 σ h
    unfold l8_last_24 at h
    refine r_iload_n 25 dX8_last_24 rfl rfl ?_
    refine r_aload_n 26 dX8_last_25 rfl rfl ?_
    refine r_getR (x := fe8_56) 0 29 fl8_56 (by decide) dX8_last_26 rfl rfl rfl (Or.inr rfl) ?_
    obtain ⟨i24, e0, h⟩ := Out_dr h
    rw [e0]
    refine r_getI (x := fe8_216) 4 32 fl8_216 (by decide) dX8_last_29 rfl rfl rfl ?_
    refine r_icmp_ge 97 35 dX8_last_32 (by decide) rfl (fun hc => ?_) (fun hc => ?_)
    · replace h := Out_pos hc h
      exact hx a2 a3 σ h
    · replace h := Out_neg hc h
      refine r_aload_n 36 dX8_last_35 rfl rfl ?_
      refine r_getF (x := fe8_46) 9 (6, 1) 39 fl8_46 (by decide) dX8_last_36 rfl rfl rfl rfl ?_
      refine r_aload_n 40 dX8_last_39 rfl rfl ?_
      refine r_getF (x := fe8_42) 8 (6, 0) 43 fl8_42 (by decide) dX8_last_40 rfl rfl rfl rfl ?_
      refine c_V [vq (some (6, 1)), vq (some (6, 0))] [] 46 cs8_last_43 rfl h (fun _ h' => ct6_copyFrom h') rfl rfl rfl rfl (by decide) (Nat.le_refl 0) (Nat.le_refl 0) (fun s25 h => ?_)
      refine r_aload_n 47 dX8_last_46 rfl rfl ?_
      refine r_getF (x := fe8_46) 9 (6, 1) 50 fl8_46 (by decide) dX8_last_47 rfl rfl rfl rfl ?_
      refine r_aload_n 51 dX8_last_50 rfl rfl ?_
      refine r_getR (x := fe8_56) 0 54 fl8_56 (by decide) dX8_last_51 rfl rfl rfl (Or.inr rfl) ?_
      obtain ⟨i26, e0, h⟩ := Out_dr h
      rw [e0]
      refine r_getF (x := fe8_219) 5 (10, i26) 57 fl8_219 (by decide) dX8_last_54 rfl rfl rfl rfl ?_
      refine r_iload_n 58 dX8_last_57 rfl rfl ?_
      obtain ⟨hc, h⟩ := Out_grd h
      refine r_iaload a3.toNatClampNeg 40 59 dX8_last_58 rfl (by decide) rfl rfl hc rfl ?_
      refine c_V [vq (some (6, 1)), vi (gI s25 10 i26 a3.toNatClampNeg)] [] 62 cs8_last_59 rfl h (fun _ h' => ct6_pushByCode h') rfl rfl rfl rfl (by decide) (Nat.le_refl 0) (Nat.le_refl 0) (fun s27 h => ?_)
      refine r_aload_n 63 dX8_last_62 rfl rfl ?_
      refine r_aload_n 64 dX8_last_63 rfl rfl ?_
      refine r_getF (x := fe8_46) 9 (6, 1) 67 fl8_46 (by decide) dX8_last_64 rfl rfl rfl rfl ?_
      refine c_I [vq (some (8, 0)), vq (some (6, 1))] [] 70 cs8_last_67 rfl h (fun _ h' => ct8_readingsAreSo h') rfl rfl rfl rfl (by decide) (Nat.le_refl 0) (Nat.le_refl 0) (fun v28 s29 h => ?_)
      refine r_if_eq 91 73 dX8_last_70 (by decide) rfl (fun hc => ?_) (fun hc => ?_)
      · replace h := Out_pos hc h
        refine r_iinc 1 [some (vq (some (8, 0))), some (vi a1), some (vi a2), some (vi (a3 + 1))] 94 dX8_last_91 rfl (by decide) rfl rfl rfl ?_
        refine r_goto 24 dX8_last_94 (by decide) ?_
        exact ih a2 (a3 + 1) s29 h
      · replace h := Out_neg hc h
        refine r_iload_n 74 dX8_last_73 rfl rfl ?_
        refine r_iload_n 75 dX8_last_74 rfl rfl ?_
        refine r_icmp_ne 88 78 dX8_last_75 (by decide) rfl (fun hc => ?_) (fun hc => ?_)
        · replace h := Out_neg hc h
          refine r_iinc 1 [some (vq (some (8, 0))), some (vi a1), some (vi (a2 + 1)), some (vi a3)] 91 dX8_last_88 rfl (by decide) rfl rfl rfl ?_
          refine r_iinc 1 [some (vq (some (8, 0))), some (vi a1), some (vi (a2 + 1)), some (vi (a3 + 1))] 94 dX8_last_91 rfl (by decide) rfl rfl rfl ?_
          refine r_goto 24 dX8_last_94 (by decide) ?_
          exact ih (a2 + 1) (a3 + 1) s29 h
        · replace h := Out_pos hc h
          refine r_aload_n 79 dX8_last_78 rfl rfl ?_
          refine r_getR (x := fe8_56) 0 82 fl8_56 (by decide) dX8_last_79 rfl rfl rfl (Or.inr rfl) ?_
          obtain ⟨i30, e0, h⟩ := Out_dr h
          rw [e0]
          refine r_getF (x := fe8_219) 5 (10, i30) 85 fl8_219 (by decide) dX8_last_82 rfl rfl rfl rfl ?_
          refine r_iload_n 86 dX8_last_85 rfl rfl ?_
          obtain ⟨hc, h⟩ := Out_grd h
          refine r_iaload a3.toNatClampNeg 40 87 dX8_last_86 rfl (by decide) rfl rfl hc rfl ?_
          exact r_ireturn dX8_last_87 rfl (Nat.le_refl 0) (Nat.le_refl 0) h
set_option maxRecDepth 20000 in
set_option maxHeartbeats 4000000 in
theorem ct8_last {Γ : GG} {K : Int32 × Sto → Prop} {a1 : Int32} {σ : Sto} (h : Out (f8_last a1 σ) K) : Ct true Γ mX8_last 4 0 0 [vq (some (8, 0)), vi a1] σ (QI K) := by
  refine Ct_intro (by decide +kernel) rfl ?_
  show M true Γ mX8_last 4 0 0 0 0 (QI K) 0 [some (vq (some (8, 0))), some (vi a1), none, none] [] σ
  unfold f8_last at h
  refine r_iload_n 1 dX8_last_0 rfl rfl ?_
  refine r_iconst (-1) 2 dX8_last_1 rfl (by decide) ?_
  refine r_icmp_ge 7 5 dX8_last_2 (by decide) rfl (fun hc => ?_) (fun hc => ?_)
  · replace h := Out_pos hc h
    refine r_aload_n 8 dX8_last_7 rfl rfl ?_
    refine r_getR (x := fe8_56) 0 11 fl8_56 (by decide) dX8_last_8 rfl rfl rfl (Or.inr rfl) ?_
    obtain ⟨i21, e0, h⟩ := Out_dr h
    rw [e0]
    refine c_I [vq (some (2, i21))] [] 14 cs8_last_11 rfl h (fun _ h' => ct2_isLaid h') rfl rfl rfl rfl (by decide) (Nat.le_refl 0) (Nat.le_refl 0) (fun v22 s23 h => ?_)
    refine r_if_ne 20 17 dX8_last_14 (by decide) rfl (fun hc => ?_) (fun hc => ?_)
    · replace h := Out_neg hc h
      refine r_iconst 0 21 dX8_last_20 rfl (by decide) ?_
      refine r_istore_n [some (vq (some (8, 0))), some (vi a1), some (vi 0), none] 22 dX8_last_21 rfl rfl rfl ?_
      refine r_iconst 0 23 dX8_last_22 rfl (by decide) ?_
      refine r_istore_n [some (vq (some (8, 0))), some (vi a1), some (vi 0), some (vi 0)] 24 dX8_last_23 rfl rfl rfl ?_
      refine tl8_last_24 (fun v31 v32 s33 h => ?_) 300 0 0 s23 h
      refine r_iload_n 98 dX8_last_97 rfl rfl ?_
      refine r_iconst (-1) 99 dX8_last_98 rfl (by decide) ?_
      refine r_icmp_ne 106 102 dX8_last_99 (by decide) rfl (fun hc => ?_) (fun hc => ?_)
      · replace h := Out_neg hc h
        refine r_bipush (-9) 108 dX8_last_106 rfl (by decide) ?_
        exact r_ireturn dX8_last_108 rfl (Nat.le_refl 0) (Nat.le_refl 0) h
      · replace h := Out_pos hc h
        refine r_iload_n 103 dX8_last_102 rfl rfl ?_
        refine r_goto 108 dX8_last_103 (by decide) ?_
        exact r_ireturn dX8_last_108 rfl (Nat.le_refl 0) (Nat.le_refl 0) h
    · replace h := Out_pos hc h
      refine r_bipush (-3) 19 dX8_last_17 rfl (by decide) ?_
      exact r_ireturn dX8_last_19 rfl (Nat.le_refl 0) (Nat.le_refl 0) h
  · replace h := Out_neg hc h
    refine r_iconst (-1) 6 dX8_last_5 rfl (by decide) ?_
    exact r_ireturn dX8_last_6 rfl (Nat.le_refl 0) (Nat.le_refl 0) h

