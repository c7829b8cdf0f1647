/-! printed by wip/gen/dec.py: methods that make objects meet their functions -/
set_option maxRecDepth 20000 in
set_option maxHeartbeats 4000000 in
theorem ct0_init_0 {Γ : GG} {K : Sto → Prop} {i0 : Nat} {a1 : Int32} {a2 : Int32} {σ : Sto} (h : Out (f0_init_0 i0 a1 a2 σ) K) : Ct true Γ mX0_init 1 0 0 [vq (some (0, i0)), vi a1, vi a2] σ (QV K) := by
  refine Ct_intro (by decide +kernel) rfl ?_
  show M true Γ mX0_init 1 0 0 0 0 (QV K) 0 [some (vq (some (0, i0))), some (vi a1), some (vi a2)] [] σ
  unfold f0_init_0 at h
  refine r_aload_n 1 dX0_init_0 rfl rfl ?_
  refine M_objInit (by decide) w_ae999f08 w_6c8d69b2 w_dced4441 (Nat.le_of_ble_eq_true rfl) (by decide) dX0_init_1 ?_
  refine r_aload_n 5 dX0_init_4 rfl rfl ?_
  refine r_iload_n 6 dX0_init_5 rfl rfl ?_
  refine r_putI (x := fe0_7) 0 9 fl0_7 (by decide) dX0_init_6 rfl (Or.inr ⟨rfl, rfl⟩) rfl rfl ?_
  refine r_aload_n 10 dX0_init_9 rfl rfl ?_
  refine r_iload_n 11 dX0_init_10 rfl rfl ?_
  refine r_putI (x := fe0_13) 1 14 fl0_13 (by decide) dX0_init_11 rfl (Or.inr ⟨rfl, rfl⟩) rfl rfl ?_
  exact r_return dX0_init_14 rfl (Nat.le_refl 0) (Nat.le_refl 0) h

set_option maxRecDepth 20000 in
set_option maxHeartbeats 4000000 in
theorem ct0_init_1 {Γ : GG} {K : Sto → Prop} {i0 : Nat} {a1 : Int32} {a2 : Int32} {σ : Sto} (h : Out (f0_init_1 i0 a1 a2 σ) K) : Ct true Γ mX0_init 1 0 0 [vq (some (1, i0)), vi a1, vi a2] σ (QV K) := by
  refine Ct_intro (by decide +kernel) rfl ?_
  show M true Γ mX0_init 1 0 0 0 0 (QV K) 0 [some (vq (some (1, i0))), some (vi a1), some (vi a2)] [] σ
  unfold f0_init_1 at h
  refine r_aload_n 1 dX0_init_0 rfl rfl ?_
  refine M_objInit (by decide) w_ae999f08 w_6c8d69b2 w_dced4441 (Nat.le_of_ble_eq_true rfl) (by decide) dX0_init_1 ?_
  refine r_aload_n 5 dX0_init_4 rfl rfl ?_
  refine r_iload_n 6 dX0_init_5 rfl rfl ?_
  refine r_putI (x := fe0_7) 0 9 fl0_7 (by decide) dX0_init_6 rfl (Or.inr ⟨rfl, rfl⟩) rfl rfl ?_
  refine r_aload_n 10 dX0_init_9 rfl rfl ?_
  refine r_iload_n 11 dX0_init_10 rfl rfl ?_
  refine r_putI (x := fe0_13) 1 14 fl0_13 (by decide) dX0_init_11 rfl (Or.inr ⟨rfl, rfl⟩) rfl rfl ?_
  exact r_return dX0_init_14 rfl (Nat.le_refl 0) (Nat.le_refl 0) h

set_option maxRecDepth 20000 in
set_option maxHeartbeats 4000000 in
theorem ct0_init_5 {Γ : GG} {K : Sto → Prop} {i0 : Nat} {a1 : Int32} {a2 : Int32} {σ : Sto} (h : Out (f0_init_5 i0 a1 a2 σ) K) : Ct true Γ mX0_init 1 0 0 [vq (some (5, i0)), vi a1, vi a2] σ (QV K) := by
  refine Ct_intro (by decide +kernel) rfl ?_
  show M true Γ mX0_init 1 0 0 0 0 (QV K) 0 [some (vq (some (5, i0))), some (vi a1), some (vi a2)] [] σ
  unfold f0_init_5 at h
  refine r_aload_n 1 dX0_init_0 rfl rfl ?_
  refine M_objInit (by decide) w_ae999f08 w_6c8d69b2 w_dced4441 (Nat.le_of_ble_eq_true rfl) (by decide) dX0_init_1 ?_
  refine r_aload_n 5 dX0_init_4 rfl rfl ?_
  refine r_iload_n 6 dX0_init_5 rfl rfl ?_
  refine r_putI (x := fe0_7) 0 9 fl0_7 (by decide) dX0_init_6 rfl (Or.inr ⟨rfl, rfl⟩) rfl rfl ?_
  refine r_aload_n 10 dX0_init_9 rfl rfl ?_
  refine r_iload_n 11 dX0_init_10 rfl rfl ?_
  refine r_putI (x := fe0_13) 1 14 fl0_13 (by decide) dX0_init_11 rfl (Or.inr ⟨rfl, rfl⟩) rfl rfl ?_
  exact r_return dX0_init_14 rfl (Nat.le_refl 0) (Nat.le_refl 0) h

set_option maxRecDepth 20000 in
set_option maxHeartbeats 4000000 in
theorem ct1_init_1 {Γ : GG} {K : Sto → Prop} {i0 : Nat} {a1 : Int32} {a2 : Int32} {σ : Sto} (h : Out (f1_init_1 i0 a1 a2 σ) K) : Ct true Γ mX1_init 2 0 0 [vq (some (1, i0)), vi a1, vi a2] σ (QV K) := by
  refine Ct_intro (by decide +kernel) rfl ?_
  show M true Γ mX1_init 2 0 0 0 0 (QV K) 0 [some (vq (some (1, i0))), some (vi a1), some (vi a2)] [] σ
  unfold f1_init_1 at h
  refine r_aload_n 1 dX1_init_0 rfl rfl ?_
  refine r_iload_n 2 dX1_init_1 rfl rfl ?_
  refine r_iload_n 3 dX1_init_2 rfl rfl ?_
  refine c_V [vq (some (1, i0)), vi a1, vi a2] [] 6 cs1_init_3_1 rfl h (fun _ h' => ct0_init_1 h') rfl rfl rfl rfl (by decide) (Nat.le_refl 0) (Nat.le_refl 0) (fun s21 h => ?_)
  exact r_return dX1_init_6 rfl (Nat.le_refl 0) (Nat.le_refl 0) h

set_option maxRecDepth 20000 in
set_option maxHeartbeats 4000000 in
theorem ct1_init_5 {Γ : GG} {K : Sto → Prop} {i0 : Nat} {a1 : Int32} {a2 : Int32} {σ : Sto} (h : Out (f1_init_5 i0 a1 a2 σ) K) : Ct true Γ mX1_init 2 0 0 [vq (some (5, i0)), vi a1, vi a2] σ (QV K) := by
  refine Ct_intro (by decide +kernel) rfl ?_
  show M true Γ mX1_init 2 0 0 0 0 (QV K) 0 [some (vq (some (5, i0))), some (vi a1), some (vi a2)] [] σ
  unfold f1_init_5 at h
  refine r_aload_n 1 dX1_init_0 rfl rfl ?_
  refine r_iload_n 2 dX1_init_1 rfl rfl ?_
  refine r_iload_n 3 dX1_init_2 rfl rfl ?_
  refine c_V [vq (some (5, i0)), vi a1, vi a2] [] 6 cs1_init_3_5 rfl h (fun _ h' => ct0_init_5 h') rfl rfl rfl rfl (by decide) (Nat.le_refl 0) (Nat.le_refl 0) (fun s21 h => ?_)
  exact r_return dX1_init_6 rfl (Nat.le_refl 0) (Nat.le_refl 0) h

set_option maxRecDepth 20000 in
set_option maxHeartbeats 4000000 in
theorem ct5_init_5 {Γ : GG} {K : Sto → Prop} {i0 : Nat} {a1 : Int32} {a2 : Int32} {σ : Sto} (h : Out (f5_init_5 i0 a1 a2 σ) K) : Ct true Γ mX5_init 3 0 0 [vq (some (5, i0)), vi a1, vi a2] σ (QV K) := by
  refine Ct_intro (by decide +kernel) rfl ?_
  show M true Γ mX5_init 3 0 0 0 0 (QV K) 0 [some (vq (some (5, i0))), some (vi a1), some (vi a2)] [] σ
  unfold f5_init_5 at h
  refine r_aload_n 1 dX5_init_0 rfl rfl ?_
  refine r_iload_n 2 dX5_init_1 rfl rfl ?_
  refine r_iload_n 3 dX5_init_2 rfl rfl ?_
  refine c_V [vq (some (5, i0)), vi a1, vi a2] [] 6 cs5_init_3_5 rfl h (fun _ h' => ct1_init_5 h') rfl rfl rfl rfl (by decide) (Nat.le_refl 0) (Nat.le_refl 0) (fun s21 h => ?_)
  exact r_return dX5_init_6 rfl (Nat.le_refl 0) (Nat.le_refl 0) h

set_option maxRecDepth 20000 in
set_option maxHeartbeats 4000000 in
theorem ct2_eaterByLetter {Γ : GG} {K : Option MA × Sto → Prop} {a0 : Int32} {a1 : Int32} {a2 : Int32} {σ : Sto} (h : Out (f2_eaterByLetter a0 a1 a2 σ) K) : Ct true Γ mX2_eaterByLetter 4 1 2 [vi a0, vi a1, vi a2] σ (QR K) := by
  refine Ct_intro (by decide +kernel) rfl ?_
  show M true Γ mX2_eaterByLetter 4 1 2 0 0 (QR K) 0 [some (vi a0), some (vi a1), some (vi a2)] [] σ
  unfold f2_eaterByLetter at h
  refine r_iload_n 1 dX2_eaterByLetter_0 rfl rfl ?_
  by_cases hs0 : a0 = 107
  · replace h := Out_pos hs0 h
    refine M_lookup dX2_eaterByLetter_1 (off := 27) (t := 28) (by decide) (by rw [hs0]; decide) (by decide) ?_
    refine r_new 1 2 (gN σ 1) 1 2 31 dX2_eaterByLetter_28 rfl rfl rfl (Or.inr mref_e1) w_58518424 w_98068b54 w_ab88f8a8 rfl rfl rfl (by omega) (by omega) ?_
    refine r_dup 32 dX2_eaterByLetter_31 rfl rfl ?_
    refine r_iload_n 33 dX2_eaterByLetter_32 rfl rfl ?_
    refine r_iload_n 34 dX2_eaterByLetter_33 rfl rfl ?_
    refine c_V [vq (some (1, (gN σ 1))), vi a1, vi a2] [vq (some (1, (gN σ 1)))] 37 cs2_eaterByLetter_34_1 rfl h (fun _ h' => ct1_init_1 h') rfl rfl rfl rfl (by decide) (by omega) (by omega) (fun s21 h => ?_)
    exact r_areturn dX2_eaterByLetter_37 rfl (by omega) (by omega) h
  replace h := Out_neg hs0 h
  by_cases hs1 : a0 = 115
  · replace h := Out_pos hs1 h
    refine M_lookup dX2_eaterByLetter_1 (off := 37) (t := 38) (by decide) (by rw [hs1]; decide) (by decide) ?_
    refine r_new 5 2 (gN σ 5) 1 2 41 dX2_eaterByLetter_38 rfl rfl rfl (Or.inr mref_e5) w_e688fff2 w_c908361b w_c7e887c2 rfl rfl rfl (by omega) (by omega) ?_
    refine r_dup 42 dX2_eaterByLetter_41 rfl rfl ?_
    refine r_iload_n 43 dX2_eaterByLetter_42 rfl rfl ?_
    refine r_iload_n 44 dX2_eaterByLetter_43 rfl rfl ?_
    refine c_V [vq (some (5, (gN σ 5))), vi a1, vi a2] [vq (some (5, (gN σ 5)))] 47 cs2_eaterByLetter_44_5 rfl h (fun _ h' => ct5_init_5 h') rfl rfl rfl rfl (by decide) (by omega) (by omega) (fun s22 h => ?_)
    exact r_areturn dX2_eaterByLetter_47 rfl (by omega) (by omega) h
  replace h := Out_neg hs1 h
  refine M_lookup dX2_eaterByLetter_1 (off := 47) (t := 48) (by decide) (by show Op.lookupswitch.offset [(107, 27), (115, 37)] 47 _ = _; rw [lv_osw hs0 (by decide), lv_osw hs1 (by decide)]; rfl) (by decide) ?_
  refine r_new 0 2 (gN σ 0) 1 2 51 dX2_eaterByLetter_48 rfl rfl rfl (Or.inr mref_e0) w_f46708af w_8df89d2c w_7544c951 rfl rfl rfl (by omega) (by omega) ?_
  refine r_dup 52 dX2_eaterByLetter_51 rfl rfl ?_
  refine r_iload_n 53 dX2_eaterByLetter_52 rfl rfl ?_
  refine r_iload_n 54 dX2_eaterByLetter_53 rfl rfl ?_
  refine c_V [vq (some (0, (gN σ 0))), vi a1, vi a2] [vq (some (0, (gN σ 0)))] 57 cs2_eaterByLetter_54_0 rfl h (fun _ h' => ct0_init_0 h') rfl rfl rfl rfl (by decide) (by omega) (by omega) (fun s23 h => ?_)
  exact r_areturn dX2_eaterByLetter_57 rfl (by omega) (by omega) h

set_option maxRecDepth 20000 in
set_option maxHeartbeats 4000000 in
theorem tl2_readText_7 {Γ : GG} {K : Int32 × Sto → Prop} {k : Int32 → Sto → Option (Int32 × Sto)} {i0 : Nat} {i1 : Nat} {a2 : Int32} {a3 : Int32} (hx : ∀ (a4 : Int32) (σ : Sto), Out (k a4 σ) K → M true Γ mX2_readText 5 3 6 0 0 (QI K) 39 [some (vq (some (2, i0))), some (vq (some (4, i1))), some (vi a2), some (vi a3), some (vi a4)] [] σ) : ∀ (n : Nat) (a4 : Int32) (σ : Sto), Out (l2_readText_7 k i0 i1 a2 a3 n a4 σ) K → M true Γ mX2_readText 5 3 6 0 0 (QI K) 7 [some (vq (some (2, i0))), some (vq (some (4, i1))), some (vi a2), some (vi a3), some (vi a4)] [] σ := by
  intro n
  induction n with
  | zero => intro a4 σ h; exact absurd h Out_none
  | succ n ih =>
    intro a4 σ h
    unfold l2_readText_7 at h
    refine r_iload 9 dX2_readText_7 rfl rfl ?_
    refine r_iload_n 10 dX2_readText_9 rfl rfl ?_
    refine r_icmp_ge 39 13 dX2_readText_10 (by decide) rfl (fun hc => ?_) (fun hc => ?_)
    · replace h := Out_pos hc h
      exact hx a4 σ h
    · replace h := Out_neg hc h
      refine r_aload_n 14 dX2_readText_13 rfl rfl ?_
      refine r_iload 16 dX2_readText_14 rfl rfl ?_
      refine r_aload_n 17 dX2_readText_16 rfl rfl ?_
      refine r_iload_n 18 dX2_readText_17 rfl rfl ?_
      refine r_iload 20 dX2_readText_18 rfl rfl ?_
      refine r_iadd 21 dX2_readText_20 rfl ?_
      refine c_I [vq (some (4, i1)), vi (a2 + a4)] [vi a4, vq (some (2, i0))] 24 cs2_readText_21 rfl h (fun _ h' => ct4_read h') rfl rfl rfl rfl (by decide) (by omega) (by omega) (fun v22 s23 h => ?_)
      refine c_I [vq (some (2, i0)), vi a4, vi v22] [] 27 cs2_readText_24 rfl h (fun _ h' => ct2_takes h') rfl rfl rfl rfl (by decide) (by omega) (by omega) (fun v24 s25 h => ?_)
      refine r_if_ne 33 30 dX2_readText_27 (by decide) rfl (fun hc => ?_) (fun hc => ?_)
      · replace h := Out_neg hc h
        refine r_iinc 1 [some (vq (some (2, i0))), some (vq (some (4, i1))), some (vi a2), some (vi a3), some (vi (a4 + 1))] 36 dX2_readText_33 rfl (by decide) rfl rfl rfl ?_
        refine r_goto 7 dX2_readText_36 (by decide) ?_
        exact ih (a4 + 1) s25 h
      · replace h := Out_pos hc h
        refine r_iload 32 dX2_readText_30 rfl rfl ?_
        exact r_ireturn dX2_readText_32 rfl (by omega) (by omega) h
set_option maxRecDepth 20000 in
set_option maxHeartbeats 4000000 in
theorem tl2_readText_68 {Γ : GG} {K : Int32 × Sto → Prop} {i0 : Nat} : ∀ (n : Nat) (kc ks : Nat) (_ : kc + 1 * n ≤ 3) (_ : ks + 2 * n ≤ 6) (a4 : Int32) (σ : Sto), Out (l2_readText_68 i0 n a4 σ) K → M true Γ mX2_readText 5 3 6 kc ks (QI K) 68 [some (vq (some (2, i0))), none, none, none, some (vi a4)] [] σ := by
  intro n
  induction n with
  | zero => intro kc ks hkc hks a4 σ h; exact absurd h Out_none
  | succ n ih =>
    intro kc ks hkc hks a4 σ h
    unfold l2_readText_68 at h
    refine r_iload 70 dX2_readText_68 rfl rfl ?_
    refine r_aload_n 71 dX2_readText_70 rfl rfl ?_
    refine r_getI (x := fe2_33) 3 74 fl2_33 (by decide) dX2_readText_71 rfl rfl rfl ?_
    refine r_icmp_ge 109 77 dX2_readText_74 (by decide) rfl (fun hc => ?_) (fun hc => ?_)
    · replace h := Out_pos hc h
      refine r_aload_n 110 dX2_readText_109 rfl rfl ?_
      refine c_V [vq (some (2, i0))] [] 113 cs2_readText_110 rfl h (fun _ h' => ct2_listCodes h') rfl rfl rfl rfl (by decide) (by omega) (by omega) (fun s30 h => ?_)
      refine r_bipush (-9) 115 dX2_readText_113 rfl (by decide) ?_
      exact r_ireturn dX2_readText_115 rfl (by omega) (by omega) h
    · replace h := Out_neg hc h
      refine r_aload_n 78 dX2_readText_77 rfl rfl ?_
      refine r_getF (x := fe2_23) 8 (13, i0) 81 fl2_23 (by decide) dX2_readText_78 rfl rfl rfl rfl ?_
      refine r_iload 83 dX2_readText_81 rfl rfl ?_
      refine r_aload_n 84 dX2_readText_83 rfl rfl ?_
      refine r_getF (x := fe2_27) 9 (14, i0) 87 fl2_27 (by decide) dX2_readText_84 rfl rfl rfl rfl ?_
      refine r_iload 89 dX2_readText_87 rfl rfl ?_
      obtain ⟨hc, h⟩ := Out_grd h
      refine r_iaload a4.toNatClampNeg 2 90 dX2_readText_89 rfl (by decide) rfl rfl hc rfl ?_
      refine r_iload 92 dX2_readText_90 rfl rfl ?_
      refine r_aload_n 93 dX2_readText_92 rfl rfl ?_
      refine r_getF (x := fe2_30) 10 (15, i0) 96 fl2_30 (by decide) dX2_readText_93 rfl rfl rfl rfl ?_
      refine r_iload 98 dX2_readText_96 rfl rfl ?_
      obtain ⟨hc, h⟩ := Out_grd h
      refine r_iaload a4.toNatClampNeg 2 99 dX2_readText_98 rfl (by decide) rfl rfl hc rfl ?_
      refine c_AR 1 2 (kc + 1) (ks + 2) [vi (gI σ 14 i0 a4.toNatClampNeg), vi a4, vi (gI σ 15 i0 a4.toNatClampNeg)] [vi a4, vq (some (13, i0))] 102 cs2_readText_99 rfl h (fun _ h' => ct2_eaterByLetter h') rfl rfl rfl rfl (by decide) rfl rfl (by omega) (by omega) (fun v31 s32 h => ?_)
      rcases Out_rcs h with ⟨e0, h⟩ | ⟨k33, i34, e0, h⟩
      · exact absurd h Out_none
      subst e0
      obtain ⟨hmy, h⟩ := Out_grd h
      obtain ⟨hc, h⟩ := Out_grd h
      refine r_aastore a4.toNatClampNeg 2 103 dX2_readText_102 rfl (by decide) (by decide) rfl hmy rfl hc rfl (Or.inr rfl) ?_
      refine r_iinc 1 [some (vq (some (2, i0))), none, none, none, some (vi (a4 + 1))] 106 dX2_readText_103 rfl (by decide) rfl rfl rfl ?_
      refine r_goto 68 dX2_readText_106 (by decide) ?_
      exact ih (kc + 1) (ks + 2) (by omega) (by omega) (a4 + 1) (sR s32 13 i0 a4.toNatClampNeg (some (k33, i34))) h
set_option maxRecDepth 20000 in
set_option maxHeartbeats 4000000 in
theorem ct2_readText {Γ : GG} {K : Int32 × Sto → Prop} {i0 : Nat} {i1 : Nat} {a2 : Int32} {a3 : Int32} {σ : Sto} (h : Out (f2_readText i0 i1 a2 a3 σ) K) : Ct true Γ mX2_readText 5 3 6 [vq (some (2, i0)), vq (some (4, i1)), vi a2, vi a3] σ (QI K) := by
  refine Ct_intro (by decide +kernel) rfl ?_
  show M true Γ mX2_readText 5 3 6 0 0 (QI K) 0 [some (vq (some (2, i0))), some (vq (some (4, i1))), some (vi a2), some (vi a3), none] [] σ
  unfold f2_readText at h
  refine r_aload_n 1 dX2_readText_0 rfl rfl ?_
  refine c_V [vq (some (2, i0))] [] 4 cs2_readText_1 rfl h (fun _ h' => ct2_wipe h') rfl rfl rfl rfl (by decide) (by omega) (by omega) (fun s21 h => ?_)
  refine r_iconst 0 5 dX2_readText_4 rfl (by decide) ?_
  refine r_istore [some (vq (some (2, i0))), some (vq (some (4, i1))), some (vi a2), some (vi a3), some (vi 0)] 7 dX2_readText_5 rfl rfl rfl ?_
  refine tl2_readText_7 (fun v26 s27 h => ?_) 300 0 s21 h
  refine r_aload_n 40 dX2_readText_39 rfl rfl ?_
  refine r_getI (x := fe2_33) 3 43 fl2_33 (by decide) dX2_readText_40 rfl rfl rfl ?_
  refine r_if_eq 63 46 dX2_readText_43 (by decide) rfl (fun hc => ?_) (fun hc => ?_)
  · replace h := Out_pos hc h
    refine r_iload_n 64 dX2_readText_63 rfl rfl ?_
    exact r_ireturn dX2_readText_64 rfl (by omega) (by omega) h
  · replace h := Out_neg hc h
    refine r_iload_n 47 dX2_readText_46 rfl rfl ?_
    refine r_iconst 3 48 dX2_readText_47 rfl (by decide) ?_
    refine r_aload_n 49 dX2_readText_48 rfl rfl ?_
    refine c_I [vq (some (2, i0))] [vi 3, vi a3] 52 cs2_readText_49 rfl h (fun _ h' => ct2_rowCodes h') rfl rfl rfl rfl (by decide) (by omega) (by omega) (fun v28 s29 h => ?_)
    refine r_iadd 53 dX2_readText_52 rfl ?_
    refine r_iconst 3 54 dX2_readText_53 rfl (by decide) ?_
    refine r_aload_n 55 dX2_readText_54 rfl rfl ?_
    refine r_getI (x := fe2_33) 3 58 fl2_33 (by decide) dX2_readText_55 rfl rfl rfl ?_
    refine r_imul 59 dX2_readText_58 rfl ?_
    refine r_iadd 60 dX2_readText_59 rfl ?_
    refine r_icmp_eq 65 63 dX2_readText_60 (by decide) rfl (fun hc => ?_) (fun hc => ?_)
    · replace h := Out_pos hc h
      refine r_iconst 0 66 dX2_readText_65 rfl (by decide) ?_
      refine r_istore [some (vq (some (2, i0))), some (vq (some (4, i1))), some (vi a2), some (vi a3), some (vi 0)] 68 dX2_readText_66 rfl rfl rfl ?_
      refine r_mask [true, false, false, false, true] [some (vq (some (2, i0))), none, none, none, some (vi 0)] rfl rfl ?_
      exact tl2_readText_68 3 0 0 (by omega) (by omega) 0 s29 h
    · replace h := Out_neg hc h
      refine r_iload_n 64 dX2_readText_63 rfl rfl ?_
      exact r_ireturn dX2_readText_64 rfl (by omega) (by omega) h

set_option maxRecDepth 20000 in
set_option maxHeartbeats 4000000 in
theorem ct8_plate {Γ : GG} {K : Int32 × Sto → Prop} {a1 : Int32} {a2 : Int32} {a3 : Int32} {a4 : Int32} {σ : Sto} (h : Out (f8_plate a1 a2 a3 a4 σ) K) : Ct true Γ mX8_plate 6 3 6 [vq (some (8, 0)), vi a1, vi a2, vi a3, vi a4] σ (QI K) := by
  refine Ct_intro (by decide +kernel) rfl ?_
  show M true Γ mX8_plate 6 3 6 0 0 (QI K) 0 [some (vq (some (8, 0))), some (vi a1), some (vi a2), some (vi a3), some (vi a4), none, none, none] [] σ
  unfold f8_plate at h
  refine r_aload_n 1 dX8_plate_0 rfl rfl ?_
  refine r_iconst 0 2 dX8_plate_1 rfl (by decide) ?_
  refine r_putI (x := fe8_64) 13 5 fl8_64 (by decide) dX8_plate_2 rfl (Or.inl rfl) rfl rfl ?_
  refine r_aload_n 6 dX8_plate_5 rfl rfl ?_
  refine r_iload_n 7 dX8_plate_6 rfl rfl ?_
  refine c_R [vq (some (8, 0)), vi a1] [] 10 cs8_plate_7 rfl h (fun _ h' => ct8_sheetAt h') rfl rfl rfl rfl (by decide) (by omega) (by omega) (fun v21 s22 h => ?_)
  refine r_astore [some (vq (some (8, 0))), some (vi a1), some (vi a2), some (vi a3), some (vi a4), some (vq v21), none, none] 12 dX8_plate_10 rfl rfl rfl ?_
  refine r_aload 14 dX8_plate_12 rfl rfl ?_
  rcases Out_rcs h with ⟨e0, h⟩ | ⟨k23, i24, e0, h⟩
  · subst e0
    refine r_ifnonnull 19 17 dX8_plate_14 (by decide) rfl (fun hc => absurd rfl hc) (fun _ => ?_)
    refine r_iconst (-1) 18 dX8_plate_17 rfl (by decide) ?_
    exact r_ireturn dX8_plate_18 rfl (by omega) (by omega) h
  · subst e0
    obtain ⟨ek, h1⟩ := Out_grd h
    subst ek
    replace h := h1
    refine r_ifnonnull 19 17 dX8_plate_14 (by decide) rfl (fun _ => ?_) (fun hc => by cases hc)
    refine r_iload_n 20 dX8_plate_19 rfl rfl ?_
    refine r_iconst 3 21 dX8_plate_20 rfl (by decide) ?_
    refine c_I [vi a2, vi 3] [] 24 cs8_plate_21 rfl h (fun _ h' => ct8_isBelow h') rfl rfl rfl rfl (by decide) (by omega) (by omega) (fun v25 s26 h => ?_)
    refine r_if_ne 30 27 dX8_plate_24 (by decide) rfl (fun hc => ?_) (fun hc => ?_)
    · replace h := Out_neg hc h
      refine r_aload 32 dX8_plate_30 rfl rfl ?_
      refine r_iload_n 33 dX8_plate_32 rfl rfl ?_
      refine r_iload_n 34 dX8_plate_33 rfl rfl ?_
      refine r_iload 36 dX8_plate_34 rfl rfl ?_
      refine c_I [vq (some (4, i24)), vi a2, vi a3, vi a4] [] 39 cs8_plate_36 rfl h (fun _ h' => ct4_faultOfCells h') rfl rfl rfl rfl (by decide) (by omega) (by omega) (fun v27 s28 h => ?_)
      refine r_istore [some (vq (some (8, 0))), some (vi a1), some (vi a2), some (vi a3), some (vi a4), some (vq (some (4, i24))), some (vi v27), none] 41 dX8_plate_39 rfl rfl rfl ?_
      refine r_iload 43 dX8_plate_41 rfl rfl ?_
      refine r_if_eq 53 46 dX8_plate_43 (by decide) rfl (fun hc => ?_) (fun hc => ?_)
      · replace h := Out_pos hc h
        refine r_aload_n 54 dX8_plate_53 rfl rfl ?_
        refine r_getR (x := fe8_60) 1 57 fl8_60 (by decide) dX8_plate_54 rfl rfl rfl (Or.inr rfl) ?_
        refine r_aload 59 dX8_plate_57 rfl rfl ?_
        refine r_iload_n 60 dX8_plate_59 rfl rfl ?_
        refine r_iload 62 dX8_plate_60 rfl rfl ?_
        obtain ⟨i29, e0, h⟩ := Out_dr h
        rw [e0]
        refine c_AI 3 6 3 6 [vq (some (2, i29)), vq (some (4, i24)), vi a3, vi a4] [] 65 cs8_plate_62 rfl h (fun _ h' => ct2_readText h') rfl rfl rfl rfl (by decide) rfl rfl (by omega) (by omega) (fun v30 s31 h => ?_)
        refine r_istore [some (vq (some (8, 0))), some (vi a1), some (vi a2), some (vi a3), some (vi a4), some (vq (some (4, i24))), some (vi v27), some (vi v30)] 67 dX8_plate_65 rfl rfl rfl ?_
        refine r_iload 69 dX8_plate_67 rfl rfl ?_
        refine r_bipush (-9) 71 dX8_plate_69 rfl (by decide) ?_
        refine r_icmp_eq 80 74 dX8_plate_71 (by decide) rfl (fun hc => ?_) (fun hc => ?_)
        · replace h := Out_pos hc h
          refine r_aload_n 81 dX8_plate_80 rfl rfl ?_
          refine c_V [vq (some (8, 0))] [] 84 cs8_plate_81 rfl h (fun _ h' => ct8_takeDraft h') rfl rfl rfl rfl (by decide) (by omega) (by omega) (fun s32 h => ?_)
          refine r_aload_n 85 dX8_plate_84 rfl rfl ?_
          refine r_getR (x := fe8_56) 0 88 fl8_56 (by decide) dX8_plate_85 rfl rfl rfl (Or.inr rfl) ?_
          obtain ⟨i33, e0, h⟩ := Out_dr h
          rw [e0]
          refine r_getI (x := fe8_91) 2 91 fl8_91 (by decide) dX8_plate_88 rfl rfl rfl ?_
          exact r_ireturn dX8_plate_91 rfl (by omega) (by omega) h
        · replace h := Out_neg hc h
          refine r_bipush (-100) 76 dX8_plate_74 rfl (by decide) ?_
          refine r_iload 78 dX8_plate_76 rfl rfl ?_
          refine r_isub 79 dX8_plate_78 rfl ?_
          exact r_ireturn dX8_plate_79 rfl (by omega) (by omega) h
      · replace h := Out_neg hc h
        refine r_aload_n 47 dX8_plate_46 rfl rfl ?_
        refine r_iload 49 dX8_plate_47 rfl rfl ?_
        refine c_I [vq (some (8, 0)), vi v27] [] 52 cs8_plate_49 rfl h (fun _ h' => ct8_failed h') rfl rfl rfl rfl (by decide) (by omega) (by omega) (fun v34 s35 h => ?_)
        exact r_ireturn dX8_plate_52 rfl (by omega) (by omega) h
    · replace h := Out_pos hc h
      refine r_bipush (-2) 29 dX8_plate_27 rfl (by decide) ?_
      exact r_ireturn dX8_plate_29 rfl (by omega) (by omega) h

