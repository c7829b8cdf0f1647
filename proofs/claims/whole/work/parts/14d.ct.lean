/-! printed by wip/gen/dec.py: the methods meet their functions -/
set_option maxRecDepth 20000 in
set_option maxHeartbeats 4000000 in
theorem ct9_isPea {Γ : GG} {K : Int32 × Sto → Prop} {a1 : Int32} {σ : Sto} (h : Out (f9_isPea a1 σ) K) : Ct true Γ mX9_isPea 1 0 0 [vq (some (9, 0)), vi a1] σ (QI K) := by
  refine Ct_intro (by decide +kernel) rfl ?_
  show M true Γ mX9_isPea 1 0 0 0 0 (QI K) 0 [some (vq (some (9, 0))), some (vi a1)] [] σ
  unfold f9_isPea at h
  refine r_iload_n 1 dX9_isPea_0 rfl rfl ?_
  refine r_i2l 2 dX9_isPea_1 rfl ?_
  refine r_lconst 0 3 dX9_isPea_2 rfl (by decide) ?_
  refine r_aload_n 4 dX9_isPea_3 rfl rfl ?_
  refine r_getI (x := fe9_75) 3 7 fl9_75 (by decide) dX9_isPea_4 rfl rfl rfl ?_
  refine r_iconst 1 8 dX9_isPea_7 rfl (by decide) ?_
  refine r_isub 9 dX9_isPea_8 rfl ?_
  refine r_i2l 10 dX9_isPea_9 rfl ?_
  refine c_I [vl a1.toInt64, vl 0, vl (((gI σ 9 0 3) - 1).toInt64)] [] 13 cs9_isPea_10 rfl h (fun _ h' => ct9_in h') rfl rfl rfl rfl (by decide) (Nat.le_refl 0) (Nat.le_refl 0) (fun v21 s22 h => ?_)
  obtain ⟨hc, h⟩ := Out_grd h
  exact r_zreturn dX9_isPea_13 rfl hc (Nat.le_refl 0) (Nat.le_refl 0) h

set_option maxRecDepth 20000 in
set_option maxHeartbeats 4000000 in
theorem ct9_peaOf {Γ : GG} {K : Int32 × Sto → Prop} {a0 : Int32} {σ : Sto} (h : Out (f9_peaOf a0 σ) K) : Ct true Γ mX9_peaOf 0 0 0 [vi a0] σ (QI K) := by
  refine Ct_intro (by decide +kernel) rfl ?_
  show M true Γ mX9_peaOf 0 0 0 0 0 (QI K) 0 [some (vi a0)] [] σ
  unfold f9_peaOf at h
  refine r_iload_n 1 dX9_peaOf_0 rfl rfl ?_
  refine r_bipush 10 3 dX9_peaOf_1 rfl (by decide) ?_
  refine r_idiv 4 dX9_peaOf_3 rfl (by decide) ?_
  refine r_bipush 10 6 dX9_peaOf_4 rfl (by decide) ?_
  refine r_irem 7 dX9_peaOf_6 rfl (by decide) ?_
  exact r_ireturn dX9_peaOf_7 rfl (Nat.le_refl 0) (Nat.le_refl 0) h

set_option maxRecDepth 20000 in
set_option maxHeartbeats 4000000 in
theorem ct9_isCode {Γ : GG} {K : Int32 × Sto → Prop} {a1 : Int32} {σ : Sto} (h : Out (f9_isCode a1 σ) K) : Ct true Γ mX9_isCode 2 0 0 [vq (some (9, 0)), vi a1] σ (QI K) := by
  refine Ct_intro (by decide +kernel) rfl ?_
  show M true Γ mX9_isCode 2 0 0 0 0 (QI K) 0 [some (vq (some (9, 0))), some (vi a1)] [] σ
  unfold f9_isCode at h
  refine r_iload_n 1 dX9_isCode_0 rfl rfl ?_
  refine r_if_lt 38 4 dX9_isCode_1 (by decide) rfl (fun hc => ?_) (fun hc => ?_)
  · replace h := Out_pos hc h
    refine r_iconst 0 39 dX9_isCode_38 rfl (by decide) ?_
    exact r_zreturn dX9_isCode_39 rfl (by decide) (Nat.le_refl 0) (Nat.le_refl 0) h
  · replace h := Out_neg hc h
    refine r_aload_n 5 dX9_isCode_4 rfl rfl ?_
    refine r_iload_n 6 dX9_isCode_5 rfl rfl ?_
    refine c_I [vi a1] [vq (some (9, 0))] 9 cs9_isCode_6 rfl h (fun _ h' => ct9_eaterOf h') rfl rfl rfl rfl (by decide) (Nat.le_refl 0) (Nat.le_refl 0) (fun v21 s22 h => ?_)
    refine c_I [vq (some (9, 0)), vi v21] [] 12 cs9_isCode_9 rfl h (fun _ h' => ct9_isEater h') rfl rfl rfl rfl (by decide) (Nat.le_refl 0) (Nat.le_refl 0) (fun v23 s24 h => ?_)
    refine r_if_eq 38 15 dX9_isCode_12 (by decide) rfl (fun hc => ?_) (fun hc => ?_)
    · replace h := Out_pos hc h
      refine r_iconst 0 39 dX9_isCode_38 rfl (by decide) ?_
      exact r_zreturn dX9_isCode_39 rfl (by decide) (Nat.le_refl 0) (Nat.le_refl 0) h
    · replace h := Out_neg hc h
      refine r_aload_n 16 dX9_isCode_15 rfl rfl ?_
      refine r_iload_n 17 dX9_isCode_16 rfl rfl ?_
      refine c_I [vi a1] [vq (some (9, 0))] 20 cs9_isCode_17 rfl h (fun _ h' => ct9_peaOf h') rfl rfl rfl rfl (by decide) (Nat.le_refl 0) (Nat.le_refl 0) (fun v25 s26 h => ?_)
      refine c_I [vq (some (9, 0)), vi v25] [] 23 cs9_isCode_20 rfl h (fun _ h' => ct9_isPea h') rfl rfl rfl rfl (by decide) (Nat.le_refl 0) (Nat.le_refl 0) (fun v27 s28 h => ?_)
      refine r_if_eq 38 26 dX9_isCode_23 (by decide) rfl (fun hc => ?_) (fun hc => ?_)
      · replace h := Out_pos hc h
        refine r_iconst 0 39 dX9_isCode_38 rfl (by decide) ?_
        exact r_zreturn dX9_isCode_39 rfl (by decide) (Nat.le_refl 0) (Nat.le_refl 0) h
      · replace h := Out_neg hc h
        refine r_iload_n 27 dX9_isCode_26 rfl rfl ?_
        refine r_bipush 10 29 dX9_isCode_27 rfl (by decide) ?_
        refine r_irem 30 dX9_isCode_29 rfl (by decide) ?_
        refine r_iconst 4 31 dX9_isCode_30 rfl (by decide) ?_
        refine r_icmp_ge 38 34 dX9_isCode_31 (by decide) rfl (fun hc => ?_) (fun hc => ?_)
        · replace h := Out_pos hc h
          refine r_iconst 0 39 dX9_isCode_38 rfl (by decide) ?_
          exact r_zreturn dX9_isCode_39 rfl (by decide) (Nat.le_refl 0) (Nat.le_refl 0) h
        · replace h := Out_neg hc h
          refine r_iconst 1 35 dX9_isCode_34 rfl (by decide) ?_
          refine r_goto 39 dX9_isCode_35 (by decide) ?_
          exact r_zreturn dX9_isCode_39 rfl (by decide) (Nat.le_refl 0) (Nat.le_refl 0) h

set_option maxRecDepth 20000 in
set_option maxHeartbeats 4000000 in
theorem tl9_areCodes_5 {Γ : GG} {K : Int32 × Sto → Prop} {a1 : Int32} {a2 : Int32} : ∀ (n : Nat) (a3 : Int32) (a4 : Int32) (σ : Sto), Out (l9_areCodes_5 a1 a2 n a3 a4 σ) K → M true Γ mX9_areCodes 3 0 0 0 0 (QI K) 5 [some (vq (some (9, 0))), some (vi a1), some (vi a2), some (vi a3), some (vi a4)] [] σ := by
  intro n
  induction n with
  | zero => intro a3 a4 σ h; exact absurd h Out_none
  | succ n ih =>
    intro a3 a4 σ h
    unfold l9_areCodes_5 at h
    refine r_iload 7 dX9_areCodes_5 rfl rfl ?_
    refine r_iload_n 8 dX9_areCodes_7 rfl rfl ?_
    refine r_iload_n 9 dX9_areCodes_8 rfl rfl ?_
    refine r_iadd 10 dX9_areCodes_9 rfl ?_
    refine r_icmp_ge 43 13 dX9_areCodes_10 (by decide) rfl (fun hc => ?_) (fun hc => ?_)
    · replace h := Out_pos hc h
      refine r_iload_n 44 dX9_areCodes_43 rfl rfl ?_
      obtain ⟨hc, h⟩ := Out_grd h
      exact r_zreturn dX9_areCodes_44 rfl hc (Nat.le_refl 0) (Nat.le_refl 0) h
    · replace h := Out_neg hc h
      refine r_iload_n 14 dX9_areCodes_13 rfl rfl ?_
      refine r_if_eq 35 17 dX9_areCodes_14 (by decide) rfl (fun hc => ?_) (fun hc => ?_)
      · replace h := Out_pos hc h
        refine r_iconst 0 36 dX9_areCodes_35 rfl (by decide) ?_
        refine r_istore_n [some (vq (some (9, 0))), some (vi a1), some (vi a2), some (vi 0), some (vi a4)] 37 dX9_areCodes_36 rfl rfl rfl ?_
        refine r_iinc 1 [some (vq (some (9, 0))), some (vi a1), some (vi a2), some (vi 0), some (vi (a4 + 1))] 40 dX9_areCodes_37 rfl (by decide) rfl rfl rfl ?_
        refine r_goto 5 dX9_areCodes_40 (by decide) ?_
        exact ih 0 (a4 + 1) σ h
      · replace h := Out_neg hc h
        refine r_aload_n 18 dX9_areCodes_17 rfl rfl ?_
        refine r_aload_n 19 dX9_areCodes_18 rfl rfl ?_
        refine r_getF (x := fe9_37) 18 (33, 0) 22 fl9_37 (by decide) dX9_areCodes_19 rfl rfl rfl rfl ?_
        refine r_iload 24 dX9_areCodes_22 rfl rfl ?_
        obtain ⟨hc, h⟩ := Out_grd h
        refine r_iaload a4.toNatClampNeg 240 25 dX9_areCodes_24 rfl (by decide) rfl rfl hc rfl ?_
        refine c_I [vq (some (9, 0)), vi (gI σ 33 0 a4.toNatClampNeg)] [] 28 cs9_areCodes_25 rfl h (fun _ h' => ct9_isCode h') rfl rfl rfl rfl (by decide) (Nat.le_refl 0) (Nat.le_refl 0) (fun v21 s22 h => ?_)
        refine r_if_eq 35 31 dX9_areCodes_28 (by decide) rfl (fun hc => ?_) (fun hc => ?_)
        · replace h := Out_pos hc h
          refine r_iconst 0 36 dX9_areCodes_35 rfl (by decide) ?_
          refine r_istore_n [some (vq (some (9, 0))), some (vi a1), some (vi a2), some (vi 0), some (vi a4)] 37 dX9_areCodes_36 rfl rfl rfl ?_
          refine r_iinc 1 [some (vq (some (9, 0))), some (vi a1), some (vi a2), some (vi 0), some (vi (a4 + 1))] 40 dX9_areCodes_37 rfl (by decide) rfl rfl rfl ?_
          refine r_goto 5 dX9_areCodes_40 (by decide) ?_
          exact ih 0 (a4 + 1) s22 h
        · replace h := Out_neg hc h
          refine r_iconst 1 32 dX9_areCodes_31 rfl (by decide) ?_
          refine r_goto 36 dX9_areCodes_32 (by decide) ?_
          refine r_istore_n [some (vq (some (9, 0))), some (vi a1), some (vi a2), some (vi 1), some (vi a4)] 37 dX9_areCodes_36 rfl rfl rfl ?_
          refine r_iinc 1 [some (vq (some (9, 0))), some (vi a1), some (vi a2), some (vi 1), some (vi (a4 + 1))] 40 dX9_areCodes_37 rfl (by decide) rfl rfl rfl ?_
          refine r_goto 5 dX9_areCodes_40 (by decide) ?_
          exact ih 1 (a4 + 1) s22 h
set_option maxRecDepth 20000 in
set_option maxHeartbeats 4000000 in
theorem ct9_areCodes {Γ : GG} {K : Int32 × Sto → Prop} {a1 : Int32} {a2 : Int32} {σ : Sto} (h : Out (f9_areCodes a1 a2 σ) K) : Ct true Γ mX9_areCodes 3 0 0 [vq (some (9, 0)), vi a1, vi a2] σ (QI K) := by
  refine Ct_intro (by decide +kernel) rfl ?_
  show M true Γ mX9_areCodes 3 0 0 0 0 (QI K) 0 [some (vq (some (9, 0))), some (vi a1), some (vi a2), none, none] [] σ
  unfold f9_areCodes at h
  refine r_iconst 1 1 dX9_areCodes_0 rfl (by decide) ?_
  refine r_istore_n [some (vq (some (9, 0))), some (vi a1), some (vi a2), some (vi 1), none] 2 dX9_areCodes_1 rfl rfl rfl ?_
  refine r_iload_n 3 dX9_areCodes_2 rfl rfl ?_
  refine r_istore [some (vq (some (9, 0))), some (vi a1), some (vi a2), some (vi 1), some (vi a1)] 5 dX9_areCodes_3 rfl rfl rfl ?_
  exact tl9_areCodes_5 300 1 a1 σ h

set_option maxRecDepth 20000 in
set_option maxHeartbeats 4000000 in
theorem tl9_areSo_4 {Γ : GG} {K : Int32 × Sto → Prop}  : ∀ (n : Nat) (a1 : Int32) (a2 : Int32) (σ : Sto), Out (l9_areSo_4  n a1 a2 σ) K → M true Γ mX9_areSo 0 0 0 0 0 (QI K) 4 [some (vq (some (9, 0))), some (vi a1), some (vi a2), none] [] σ := by
  intro n
  induction n with
  | zero => intro a1 a2 σ h; exact absurd h Out_none
  | succ n ih =>
    intro a1 a2 σ h
    unfold l9_areSo_4 at h
    refine r_iload_n 5 dX9_areSo_4 rfl rfl ?_
    refine r_aload_n 6 dX9_areSo_5 rfl rfl ?_
    refine r_getI (x := fe9_156) 11 9 fl9_156 (by decide) dX9_areSo_6 rfl rfl rfl ?_
    refine r_icmp_ge 68 12 dX9_areSo_9 (by decide) rfl (fun hc => ?_) (fun hc => ?_)
    · replace h := Out_pos hc h
      refine r_iload_n 69 dX9_areSo_68 rfl rfl ?_
      obtain ⟨hc, h⟩ := Out_grd h
      exact r_zreturn dX9_areSo_69 rfl hc (Nat.le_refl 0) (Nat.le_refl 0) h
    · replace h := Out_neg hc h
      refine r_aload_n 13 dX9_areSo_12 rfl rfl ?_
      refine r_getF (x := fe9_55) 30 (39, 0) 16 fl9_55 (by decide) dX9_areSo_13 rfl rfl rfl rfl ?_
      refine r_aload_n 17 dX9_areSo_16 rfl rfl ?_
      refine r_getF (x := fe9_25) 12 (29, 0) 20 fl9_25 (by decide) dX9_areSo_17 rfl rfl rfl rfl ?_
      refine r_iload_n 21 dX9_areSo_20 rfl rfl ?_
      obtain ⟨hc, h⟩ := Out_grd h
      refine r_iaload a2.toNatClampNeg 8 22 dX9_areSo_21 rfl (by decide) rfl rfl hc rfl ?_
      obtain ⟨hc, h⟩ := Out_grd h
      refine r_iaload (gI σ 29 0 a2.toNatClampNeg).toNatClampNeg 5 23 dX9_areSo_22 rfl (by decide) rfl rfl hc rfl ?_
      refine r_istore_n [some (vq (some (9, 0))), some (vi a1), some (vi a2), some (vi (gI σ 39 0 (gI σ 29 0 a2.toNatClampNeg).toNatClampNeg))] 24 dX9_areSo_23 rfl rfl rfl ?_
      refine r_iload_n 25 dX9_areSo_24 rfl rfl ?_
      refine r_if_eq 60 28 dX9_areSo_25 (by decide) rfl (fun hc => ?_) (fun hc => ?_)
      · replace h := Out_pos hc h
        refine r_iconst 0 61 dX9_areSo_60 rfl (by decide) ?_
        refine r_istore_n [some (vq (some (9, 0))), some (vi 0), some (vi a2), some (vi (gI σ 39 0 (gI σ 29 0 a2.toNatClampNeg).toNatClampNeg))] 62 dX9_areSo_61 rfl rfl rfl ?_
        refine r_iinc 1 [some (vq (some (9, 0))), some (vi 0), some (vi (a2 + 1)), some (vi (gI σ 39 0 (gI σ 29 0 a2.toNatClampNeg).toNatClampNeg))] 65 dX9_areSo_62 rfl (by decide) rfl rfl rfl ?_
        refine r_goto 4 dX9_areSo_65 (by decide) ?_
        refine r_mask [true, true, true, false] [some (vq (some (9, 0))), some (vi 0), some (vi (a2 + 1)), none] rfl rfl ?_
        exact ih 0 (a2 + 1) σ h
      · replace h := Out_neg hc h
        refine r_iload_n 29 dX9_areSo_28 rfl rfl ?_
        refine r_if_ge 46 32 dX9_areSo_29 (by decide) rfl (fun hc => ?_) (fun hc => ?_)
        · replace h := Out_pos hc h
          refine r_aload_n 47 dX9_areSo_46 rfl rfl ?_
          refine r_getF (x := fe9_28) 13 (30, 0) 50 fl9_28 (by decide) dX9_areSo_47 rfl rfl rfl rfl ?_
          refine r_iload_n 51 dX9_areSo_50 rfl rfl ?_
          obtain ⟨hc, h⟩ := Out_grd h
          refine r_iaload a2.toNatClampNeg 8 52 dX9_areSo_51 rfl (by decide) rfl rfl hc rfl ?_
          refine r_iload_n 53 dX9_areSo_52 rfl rfl ?_
          refine r_icmp_ne 60 56 dX9_areSo_53 (by decide) rfl (fun hc => ?_) (fun hc => ?_)
          · replace h := Out_neg hc h
            refine r_iconst 0 61 dX9_areSo_60 rfl (by decide) ?_
            refine r_istore_n [some (vq (some (9, 0))), some (vi 0), some (vi a2), some (vi (gI σ 39 0 (gI σ 29 0 a2.toNatClampNeg).toNatClampNeg))] 62 dX9_areSo_61 rfl rfl rfl ?_
            refine r_iinc 1 [some (vq (some (9, 0))), some (vi 0), some (vi (a2 + 1)), some (vi (gI σ 39 0 (gI σ 29 0 a2.toNatClampNeg).toNatClampNeg))] 65 dX9_areSo_62 rfl (by decide) rfl rfl rfl ?_
            refine r_goto 4 dX9_areSo_65 (by decide) ?_
            refine r_mask [true, true, true, false] [some (vq (some (9, 0))), some (vi 0), some (vi (a2 + 1)), none] rfl rfl ?_
            exact ih 0 (a2 + 1) σ h
          · replace h := Out_pos hc h
            refine r_iconst 1 57 dX9_areSo_56 rfl (by decide) ?_
            refine r_goto 61 dX9_areSo_57 (by decide) ?_
            refine r_istore_n [some (vq (some (9, 0))), some (vi 1), some (vi a2), some (vi (gI σ 39 0 (gI σ 29 0 a2.toNatClampNeg).toNatClampNeg))] 62 dX9_areSo_61 rfl rfl rfl ?_
            refine r_iinc 1 [some (vq (some (9, 0))), some (vi 1), some (vi (a2 + 1)), some (vi (gI σ 39 0 (gI σ 29 0 a2.toNatClampNeg).toNatClampNeg))] 65 dX9_areSo_62 rfl (by decide) rfl rfl rfl ?_
            refine r_goto 4 dX9_areSo_65 (by decide) ?_
            refine r_mask [true, true, true, false] [some (vq (some (9, 0))), some (vi 1), some (vi (a2 + 1)), none] rfl rfl ?_
            exact ih 1 (a2 + 1) σ h
        · replace h := Out_neg hc h
          refine r_aload_n 33 dX9_areSo_32 rfl rfl ?_
          refine r_getF (x := fe9_28) 13 (30, 0) 36 fl9_28 (by decide) dX9_areSo_33 rfl rfl rfl rfl ?_
          refine r_iload_n 37 dX9_areSo_36 rfl rfl ?_
          obtain ⟨hc, h⟩ := Out_grd h
          refine r_iaload a2.toNatClampNeg 8 38 dX9_areSo_37 rfl (by decide) rfl rfl hc rfl ?_
          refine r_bipush (-9) 40 dX9_areSo_38 rfl (by decide) ?_
          refine r_icmp_ne 60 43 dX9_areSo_40 (by decide) rfl (fun hc => ?_) (fun hc => ?_)
          · replace h := Out_neg hc h
            refine r_iconst 0 61 dX9_areSo_60 rfl (by decide) ?_
            refine r_istore_n [some (vq (some (9, 0))), some (vi 0), some (vi a2), some (vi (gI σ 39 0 (gI σ 29 0 a2.toNatClampNeg).toNatClampNeg))] 62 dX9_areSo_61 rfl rfl rfl ?_
            refine r_iinc 1 [some (vq (some (9, 0))), some (vi 0), some (vi (a2 + 1)), some (vi (gI σ 39 0 (gI σ 29 0 a2.toNatClampNeg).toNatClampNeg))] 65 dX9_areSo_62 rfl (by decide) rfl rfl rfl ?_
            refine r_goto 4 dX9_areSo_65 (by decide) ?_
            refine r_mask [true, true, true, false] [some (vq (some (9, 0))), some (vi 0), some (vi (a2 + 1)), none] rfl rfl ?_
            exact ih 0 (a2 + 1) σ h
          · replace h := Out_pos hc h
            refine r_goto 56 dX9_areSo_43 (by decide) ?_
            refine r_iconst 1 57 dX9_areSo_56 rfl (by decide) ?_
            refine r_goto 61 dX9_areSo_57 (by decide) ?_
            refine r_istore_n [some (vq (some (9, 0))), some (vi 1), some (vi a2), some (vi (gI σ 39 0 (gI σ 29 0 a2.toNatClampNeg).toNatClampNeg))] 62 dX9_areSo_61 rfl rfl rfl ?_
            refine r_iinc 1 [some (vq (some (9, 0))), some (vi 1), some (vi (a2 + 1)), some (vi (gI σ 39 0 (gI σ 29 0 a2.toNatClampNeg).toNatClampNeg))] 65 dX9_areSo_62 rfl (by decide) rfl rfl rfl ?_
            refine r_goto 4 dX9_areSo_65 (by decide) ?_
            refine r_mask [true, true, true, false] [some (vq (some (9, 0))), some (vi 1), some (vi (a2 + 1)), none] rfl rfl ?_
            exact ih 1 (a2 + 1) σ h
set_option maxRecDepth 20000 in
set_option maxHeartbeats 4000000 in
theorem ct9_areSo {Γ : GG} {K : Int32 × Sto → Prop}  {σ : Sto} (h : Out (f9_areSo  σ) K) : Ct true Γ mX9_areSo 0 0 0 [vq (some (9, 0))] σ (QI K) := by
  refine Ct_intro (by decide +kernel) rfl ?_
  show M true Γ mX9_areSo 0 0 0 0 0 (QI K) 0 [some (vq (some (9, 0))), none, none, none] [] σ
  unfold f9_areSo at h
  refine r_iconst 1 1 dX9_areSo_0 rfl (by decide) ?_
  refine r_istore_n [some (vq (some (9, 0))), some (vi 1), none, none] 2 dX9_areSo_1 rfl rfl rfl ?_
  refine r_iconst 0 3 dX9_areSo_2 rfl (by decide) ?_
  refine r_istore_n [some (vq (some (9, 0))), some (vi 1), some (vi 0), none] 4 dX9_areSo_3 rfl rfl rfl ?_
  exact tl9_areSo_4 300 1 0 σ h

set_option maxRecDepth 20000 in
set_option maxHeartbeats 4000000 in
theorem ct9_fails {Γ : GG} {K : Int32 × Sto → Prop} {a1 : Int32} {σ : Sto} (h : Out (f9_fails a1 σ) K) : Ct true Γ mX9_fails 0 0 0 [vq (some (9, 0)), vi a1] σ (QI K) := by
  refine Ct_intro (by decide +kernel) rfl ?_
  show M true Γ mX9_fails 0 0 0 0 0 (QI K) 0 [some (vq (some (9, 0))), some (vi a1)] [] σ
  unfold f9_fails at h
  refine r_aload_n 1 dX9_fails_0 rfl rfl ?_
  refine r_iload_n 2 dX9_fails_1 rfl rfl ?_
  refine r_putI (x := fe9_64) 15 5 fl9_64 (by decide) dX9_fails_2 rfl (Or.inl rfl) rfl rfl ?_
  refine r_bipush (-10) 7 dX9_fails_5 rfl (by decide) ?_
  refine r_iload_n 8 dX9_fails_7 rfl rfl ?_
  refine r_isub 9 dX9_fails_8 rfl ?_
  exact r_ireturn dX9_fails_9 rfl (Nat.le_refl 0) (Nat.le_refl 0) h

set_option maxRecDepth 20000 in
set_option maxHeartbeats 4000000 in
theorem ct9_refused {Γ : GG} {K : Int32 × Sto → Prop} {a1 : Int32} {σ : Sto} (h : Out (f9_refused a1 σ) K) : Ct true Γ mX9_refused 0 0 0 [vq (some (9, 0)), vi a1] σ (QI K) := by
  refine Ct_intro (by decide +kernel) rfl ?_
  show M true Γ mX9_refused 0 0 0 0 0 (QI K) 0 [some (vq (some (9, 0))), some (vi a1)] [] σ
  unfold f9_refused at h
  refine r_aload_n 1 dX9_refused_0 rfl rfl ?_
  refine r_iconst 0 2 dX9_refused_1 rfl (by decide) ?_
  refine r_putI (x := fe9_64) 15 5 fl9_64 (by decide) dX9_refused_2 rfl (Or.inl rfl) rfl rfl ?_
  refine r_iload_n 6 dX9_refused_5 rfl rfl ?_
  exact r_ireturn dX9_refused_6 rfl (Nat.le_refl 0) (Nat.le_refl 0) h

set_option maxRecDepth 20000 in
set_option maxHeartbeats 4000000 in
theorem ct9_as {Γ : GG} {K : Int32 × Sto → Prop} {a1 : Int32} {a2 : Int32} {σ : Sto} (h : Out (f9_as a1 a2 σ) K) : Ct true Γ mX9_as 2 0 0 [vq (some (9, 0)), vi a1, vi a2] σ (QI K) := by
  refine Ct_intro (by decide +kernel) rfl ?_
  show M true Γ mX9_as 2 0 0 0 0 (QI K) 0 [some (vq (some (9, 0))), some (vi a1), some (vi a2)] [] σ
  unfold f9_as at h
  refine r_aload_n 1 dX9_as_0 rfl rfl ?_
  refine r_iload_n 2 dX9_as_1 rfl rfl ?_
  refine c_I [vq (some (9, 0)), vi a1] [] 5 cs9_as_2 rfl h (fun _ h' => ct9_isEater h') rfl rfl rfl rfl (by decide) (Nat.le_refl 0) (Nat.le_refl 0) (fun v21 s22 h => ?_)
  refine r_if_ne 14 8 dX9_as_5 (by decide) rfl (fun hc => ?_) (fun hc => ?_)
  · replace h := Out_neg hc h
    refine r_iload_n 15 dX9_as_14 rfl rfl ?_
    refine r_i2l 16 dX9_as_15 rfl ?_
    refine r_lconst 0 17 dX9_as_16 rfl (by decide) ?_
    refine r_ldc2 (2) 20 dX9_as_17 rfl w_3ed1b261 ?_
    refine c_I [vl a2.toInt64, vl 0, vl (2)] [] 23 cs9_as_20 rfl h (fun _ h' => ct9_in h') rfl rfl rfl rfl (by decide) (Nat.le_refl 0) (Nat.le_refl 0) (fun v23 s24 h => ?_)
    refine r_if_ne 33 26 dX9_as_23 (by decide) rfl (fun hc => ?_) (fun hc => ?_)
    · replace h := Out_neg hc h
      refine r_aload_n 34 dX9_as_33 rfl rfl ?_
      refine r_getF (x := fe9_16) 6 (26, 0) 37 fl9_16 (by decide) dX9_as_34 rfl rfl rfl rfl ?_
      refine r_iload_n 38 dX9_as_37 rfl rfl ?_
      obtain ⟨hc, h⟩ := Out_grd h
      refine r_iaload a1.toNatClampNeg 2 39 dX9_as_38 rfl (by decide) rfl rfl hc rfl ?_
      refine r_iload_n 40 dX9_as_39 rfl rfl ?_
      refine r_icmp_ge 49 43 dX9_as_40 (by decide) rfl (fun hc => ?_) (fun hc => ?_)
      · replace h := Out_pos hc h
        refine r_aload_n 50 dX9_as_49 rfl rfl ?_
        refine r_iconst 0 51 dX9_as_50 rfl (by decide) ?_
        refine r_putI (x := fe9_64) 15 54 fl9_64 (by decide) dX9_as_51 rfl (Or.inl rfl) rfl rfl ?_
        refine r_iconst 1 55 dX9_as_54 rfl (by decide) ?_
        exact r_ireturn dX9_as_55 rfl (Nat.le_refl 0) (Nat.le_refl 0) h
      · replace h := Out_neg hc h
        refine r_aload_n 44 dX9_as_43 rfl rfl ?_
        refine r_iconst 2 45 dX9_as_44 rfl (by decide) ?_
        refine c_I [vq (some (9, 0)), vi 2] [] 48 cs9_as_45 rfl h (fun _ h' => ct9_fails h') rfl rfl rfl rfl (by decide) (Nat.le_refl 0) (Nat.le_refl 0) (fun v25 s26 h => ?_)
        exact r_ireturn dX9_as_48 rfl (Nat.le_refl 0) (Nat.le_refl 0) h
    · replace h := Out_pos hc h
      refine r_aload_n 27 dX9_as_26 rfl rfl ?_
      refine r_bipush (-2) 29 dX9_as_27 rfl (by decide) ?_
      refine c_I [vq (some (9, 0)), vi (-2)] [] 32 cs9_as_29 rfl h (fun _ h' => ct9_refused h') rfl rfl rfl rfl (by decide) (Nat.le_refl 0) (Nat.le_refl 0) (fun v27 s28 h => ?_)
      exact r_ireturn dX9_as_32 rfl (Nat.le_refl 0) (Nat.le_refl 0) h
  · replace h := Out_pos hc h
    refine r_aload_n 9 dX9_as_8 rfl rfl ?_
    refine r_iconst (-1) 10 dX9_as_9 rfl (by decide) ?_
    refine c_I [vq (some (9, 0)), vi (-1)] [] 13 cs9_as_10 rfl h (fun _ h' => ct9_refused h') rfl rfl rfl rfl (by decide) (Nat.le_refl 0) (Nat.le_refl 0) (fun v29 s30 h => ?_)
    exact r_ireturn dX9_as_13 rfl (Nat.le_refl 0) (Nat.le_refl 0) h

set_option maxRecDepth 20000 in
set_option maxHeartbeats 4000000 in
theorem ct9_back {Γ : GG} {K : Int32 × Sto → Prop} {a1 : Int32} {σ : Sto} (h : Out (f9_back a1 σ) K) : Ct true Γ mX9_back 1 0 0 [vq (some (9, 0)), vi a1] σ (QI K) := by
  refine Ct_intro (by decide +kernel) rfl ?_
  show M true Γ mX9_back 1 0 0 0 0 (QI K) 0 [some (vq (some (9, 0))), some (vi a1)] [] σ
  unfold f9_back at h
  refine r_iload_n 1 dX9_back_0 rfl rfl ?_
  refine r_i2l 2 dX9_back_1 rfl ?_
  refine r_lconst 0 3 dX9_back_2 rfl (by decide) ?_
  refine r_aload_n 4 dX9_back_3 rfl rfl ?_
  refine r_getI (x := fe9_156) 11 7 fl9_156 (by decide) dX9_back_4 rfl rfl rfl ?_
  refine r_i2l 8 dX9_back_7 rfl ?_
  refine c_I [vl a1.toInt64, vl 0, vl ((gI σ 9 0 11).toInt64)] [] 11 cs9_back_8 rfl h (fun _ h' => ct9_in h') rfl rfl rfl rfl (by decide) (Nat.le_refl 0) (Nat.le_refl 0) (fun v21 s22 h => ?_)
  refine r_if_ne 17 14 dX9_back_11 (by decide) rfl (fun hc => ?_) (fun hc => ?_)
  · replace h := Out_neg hc h
    refine r_aload_n 18 dX9_back_17 rfl rfl ?_
    refine r_dup 19 dX9_back_18 rfl rfl ?_
    refine r_getI (x := fe9_156) 11 22 fl9_156 (by decide) dX9_back_19 rfl rfl rfl ?_
    refine r_iload_n 23 dX9_back_22 rfl rfl ?_
    refine r_isub 24 dX9_back_23 rfl ?_
    refine r_putI (x := fe9_156) 11 27 fl9_156 (by decide) dX9_back_24 rfl (Or.inl rfl) rfl rfl ?_
    refine r_aload_n 28 dX9_back_27 rfl rfl ?_
    refine r_getI (x := fe9_156) 11 31 fl9_156 (by decide) dX9_back_28 rfl rfl rfl ?_
    exact r_ireturn dX9_back_31 rfl (Nat.le_refl 0) (Nat.le_refl 0) h
  · replace h := Out_pos hc h
    refine r_bipush (-2) 16 dX9_back_14 rfl (by decide) ?_
    exact r_ireturn dX9_back_16 rfl (Nat.le_refl 0) (Nat.le_refl 0) h

set_option maxRecDepth 20000 in
set_option maxHeartbeats 4000000 in
theorem ct9_begin {Γ : GG} {K : Sto → Prop} {a1 : Int32} {σ : Sto} (h : Out (f9_begin a1 σ) K) : Ct true Γ mX9_begin 0 0 0 [vq (some (9, 0)), vi a1] σ (QV K) := by
  refine Ct_intro (by decide +kernel) rfl ?_
  show M true Γ mX9_begin 0 0 0 0 0 (QV K) 0 [some (vq (some (9, 0))), some (vi a1)] [] σ
  unfold f9_begin at h
  refine r_aload_n 1 dX9_begin_0 rfl rfl ?_
  refine r_bipush 31 3 dX9_begin_1 rfl (by decide) ?_
  refine r_aload_n 4 dX9_begin_3 rfl rfl ?_
  refine r_getI (x := fe9_249) 14 7 fl9_249 (by decide) dX9_begin_4 rfl rfl rfl ?_
  refine r_imul 8 dX9_begin_7 rfl ?_
  refine r_iload_n 9 dX9_begin_8 rfl rfl ?_
  refine r_iadd 10 dX9_begin_9 rfl ?_
  refine r_putI (x := fe9_249) 14 13 fl9_249 (by decide) dX9_begin_10 rfl (Or.inl rfl) rfl rfl ?_
  exact r_return dX9_begin_13 rfl (Nat.le_refl 0) (Nat.le_refl 0) h

set_option maxRecDepth 20000 in
set_option maxHeartbeats 4000000 in
theorem ct9_isLane {Γ : GG} {K : Int32 × Sto → Prop} {a0 : Int32} {σ : Sto} (h : Out (f9_isLane a0 σ) K) : Ct true Γ mX9_isLane 1 0 0 [vi a0] σ (QI K) := by
  refine Ct_intro (by decide +kernel) rfl ?_
  show M true Γ mX9_isLane 1 0 0 0 0 (QI K) 0 [some (vi a0)] [] σ
  unfold f9_isLane at h
  refine r_iload_n 1 dX9_isLane_0 rfl rfl ?_
  refine r_i2l 2 dX9_isLane_1 rfl ?_
  refine r_lconst 0 3 dX9_isLane_2 rfl (by decide) ?_
  refine r_ldc2 (2) 6 dX9_isLane_3 rfl w_3ed1b261 ?_
  refine c_I [vl a0.toInt64, vl 0, vl (2)] [] 9 cs9_isLane_6 rfl h (fun _ h' => ct9_in h') rfl rfl rfl rfl (by decide) (Nat.le_refl 0) (Nat.le_refl 0) (fun v21 s22 h => ?_)
  obtain ⟨hc, h⟩ := Out_grd h
  exact r_zreturn dX9_isLane_9 rfl hc (Nat.le_refl 0) (Nat.le_refl 0) h

set_option maxRecDepth 20000 in
set_option maxHeartbeats 4000000 in
theorem ct9_isSheet {Γ : GG} {K : Int32 × Sto → Prop} {a0 : Int32} {σ : Sto} (h : Out (f9_isSheet a0 σ) K) : Ct true Γ mX9_isSheet 1 0 0 [vi a0] σ (QI K) := by
  refine Ct_intro (by decide +kernel) rfl ?_
  show M true Γ mX9_isSheet 1 0 0 0 0 (QI K) 0 [some (vi a0)] [] σ
  unfold f9_isSheet at h
  refine r_iload_n 1 dX9_isSheet_0 rfl rfl ?_
  refine r_i2l 2 dX9_isSheet_1 rfl ?_
  refine r_lconst 0 3 dX9_isSheet_2 rfl (by decide) ?_
  refine r_ldc2 (3) 6 dX9_isSheet_3 rfl w_03ec5b81 ?_
  refine c_I [vl a0.toInt64, vl 0, vl (3)] [] 9 cs9_isSheet_6 rfl h (fun _ h' => ct9_in h') rfl rfl rfl rfl (by decide) (Nat.le_refl 0) (Nat.le_refl 0) (fun v21 s22 h => ?_)
  obtain ⟨hc, h⟩ := Out_grd h
  exact r_zreturn dX9_isSheet_9 rfl hc (Nat.le_refl 0) (Nat.le_refl 0) h

set_option maxRecDepth 20000 in
set_option maxHeartbeats 4000000 in
theorem ct9_lost {Γ : GG} {K : Int64 × Sto → Prop} {a1 : Int32} {σ : Sto} (h : Out (f9_lost a1 σ) K) : Ct true Γ mX9_lost 0 0 0 [vq (some (9, 0)), vi a1] σ (QL K) := by
  refine Ct_intro (by decide +kernel) rfl ?_
  show M true Γ mX9_lost 0 0 0 0 0 (QL K) 0 [some (vq (some (9, 0))), some (vi a1)] [] σ
  unfold f9_lost at h
  refine r_aload_n 1 dX9_lost_0 rfl rfl ?_
  refine r_iload_n 2 dX9_lost_1 rfl rfl ?_
  refine r_putI (x := fe9_64) 15 5 fl9_64 (by decide) dX9_lost_2 rfl (Or.inl rfl) rfl rfl ?_
  refine r_ldc2 (-9223372036854775808) 8 dX9_lost_5 rfl w_4d0a02e8 ?_
  exact r_lreturn dX9_lost_8 rfl (Nat.le_refl 0) (Nat.le_refl 0) h

set_option maxRecDepth 20000 in
set_option maxHeartbeats 4000000 in
theorem ct9_cell {Γ : GG} {K : Int64 × Sto → Prop} {a1 : Int32} {a2 : Int32} {a3 : Int32} {σ : Sto} (h : Out (f9_cell a1 a2 a3 σ) K) : Ct true Γ mX9_cell 2 0 0 [vq (some (9, 0)), vi a1, vi a2, vi a3] σ (QL K) := by
  refine Ct_intro (by decide +kernel) rfl ?_
  show M true Γ mX9_cell 2 0 0 0 0 (QL K) 0 [some (vq (some (9, 0))), some (vi a1), some (vi a2), some (vi a3)] [] σ
  unfold f9_cell at h
  refine r_iload_n 1 dX9_cell_0 rfl rfl ?_
  refine c_I [vi a1] [] 4 cs9_cell_1 rfl h (fun _ h' => ct9_isSheet h') rfl rfl rfl rfl (by decide) (Nat.le_refl 0) (Nat.le_refl 0) (fun v21 s22 h => ?_)
  refine r_if_eq 14 7 dX9_cell_4 (by decide) rfl (fun hc => ?_) (fun hc => ?_)
  · replace h := Out_pos hc h
    refine r_aload_n 15 dX9_cell_14 rfl rfl ?_
    refine r_iconst 0 16 dX9_cell_15 rfl (by decide) ?_
    refine c_L [vq (some (9, 0)), vi 0] [] 19 cs9_cell_16 rfl h (fun _ h' => ct9_lost h') rfl rfl rfl rfl (by decide) (Nat.le_refl 0) (Nat.le_refl 0) (fun v23 s24 h => ?_)
    exact r_lreturn dX9_cell_19 rfl (Nat.le_refl 0) (Nat.le_refl 0) h
  · replace h := Out_neg hc h
    refine r_iload_n 8 dX9_cell_7 rfl rfl ?_
    refine c_I [vi a3] [] 11 cs9_cell_8 rfl h (fun _ h' => ct9_isLane h') rfl rfl rfl rfl (by decide) (Nat.le_refl 0) (Nat.le_refl 0) (fun v25 s26 h => ?_)
    refine r_if_ne 20 14 dX9_cell_11 (by decide) rfl (fun hc => ?_) (fun hc => ?_)
    · replace h := Out_neg hc h
      refine r_aload_n 21 dX9_cell_20 rfl rfl ?_
      refine r_getF (x := fe9_31) 16 (31, 0) 24 fl9_31 (by decide) dX9_cell_21 rfl rfl rfl rfl ?_
      refine r_iload_n 25 dX9_cell_24 rfl rfl ?_
      obtain ⟨hc, h⟩ := Out_grd h
      refine r_iaload a1.toNatClampNeg 4 26 dX9_cell_25 rfl (by decide) rfl rfl hc rfl ?_
      refine r_if_ge 35 29 dX9_cell_26 (by decide) rfl (fun hc => ?_) (fun hc => ?_)
      · replace h := Out_pos hc h
        refine r_aload_n 36 dX9_cell_35 rfl rfl ?_
        refine r_getF (x := fe9_31) 16 (31, 0) 39 fl9_31 (by decide) dX9_cell_36 rfl rfl rfl rfl ?_
        refine r_iload_n 40 dX9_cell_39 rfl rfl ?_
        obtain ⟨hc, h⟩ := Out_grd h
        refine r_iaload a1.toNatClampNeg 4 41 dX9_cell_40 rfl (by decide) rfl rfl hc rfl ?_
        refine r_iload_n 42 dX9_cell_41 rfl rfl ?_
        refine r_icmp_eq 51 45 dX9_cell_42 (by decide) rfl (fun hc => ?_) (fun hc => ?_)
        · replace h := Out_pos hc h
          refine r_iload_n 52 dX9_cell_51 rfl rfl ?_
          refine r_i2l 53 dX9_cell_52 rfl ?_
          refine r_lconst 0 54 dX9_cell_53 rfl (by decide) ?_
          refine r_aload_n 55 dX9_cell_54 rfl rfl ?_
          refine r_getF (x := fe9_34) 17 (32, 0) 58 fl9_34 (by decide) dX9_cell_55 rfl rfl rfl rfl ?_
          refine r_iload_n 59 dX9_cell_58 rfl rfl ?_
          obtain ⟨hc, h⟩ := Out_grd h
          refine r_iaload a1.toNatClampNeg 4 60 dX9_cell_59 rfl (by decide) rfl rfl hc rfl ?_
          refine r_iconst 1 61 dX9_cell_60 rfl (by decide) ?_
          refine r_isub 62 dX9_cell_61 rfl ?_
          refine r_i2l 63 dX9_cell_62 rfl ?_
          refine c_I [vl a2.toInt64, vl 0, vl (((gI s26 32 0 a1.toNatClampNeg) - 1).toInt64)] [] 66 cs9_cell_63 rfl h (fun _ h' => ct9_in h') rfl rfl rfl rfl (by decide) (Nat.le_refl 0) (Nat.le_refl 0) (fun v27 s28 h => ?_)
          refine r_if_ne 75 69 dX9_cell_66 (by decide) rfl (fun hc => ?_) (fun hc => ?_)
          · replace h := Out_neg hc h
            refine r_aload_n 76 dX9_cell_75 rfl rfl ?_
            refine r_iconst 0 77 dX9_cell_76 rfl (by decide) ?_
            refine r_putI (x := fe9_64) 15 80 fl9_64 (by decide) dX9_cell_77 rfl (Or.inl rfl) rfl rfl ?_
            refine r_aload_n 81 dX9_cell_80 rfl rfl ?_
            refine r_getF (x := fe9_37) 18 (33, 0) 84 fl9_37 (by decide) dX9_cell_81 rfl rfl rfl rfl ?_
            refine r_bipush 60 86 dX9_cell_84 rfl (by decide) ?_
            refine r_iload_n 87 dX9_cell_86 rfl rfl ?_
            refine r_imul 88 dX9_cell_87 rfl ?_
            refine r_iload_n 89 dX9_cell_88 rfl rfl ?_
            refine r_iadd 90 dX9_cell_89 rfl ?_
            obtain ⟨hc, h⟩ := Out_grd h
            refine r_iaload ((60 * a1) + a2).toNatClampNeg 240 91 dX9_cell_90 rfl (by decide) rfl rfl hc rfl ?_
            refine r_i2l 92 dX9_cell_91 rfl ?_
            exact r_lreturn dX9_cell_92 rfl (Nat.le_refl 0) (Nat.le_refl 0) h
          · replace h := Out_pos hc h
            refine r_aload_n 70 dX9_cell_69 rfl rfl ?_
            refine r_iconst 3 71 dX9_cell_70 rfl (by decide) ?_
            refine c_L [vq (some (9, 0)), vi 3] [] 74 cs9_cell_71 rfl h (fun _ h' => ct9_lost h') rfl rfl rfl rfl (by decide) (Nat.le_refl 0) (Nat.le_refl 0) (fun v29 s30 h => ?_)
            exact r_lreturn dX9_cell_74 rfl (Nat.le_refl 0) (Nat.le_refl 0) h
        · replace h := Out_neg hc h
          refine r_aload_n 46 dX9_cell_45 rfl rfl ?_
          refine r_iconst 2 47 dX9_cell_46 rfl (by decide) ?_
          refine c_L [vq (some (9, 0)), vi 2] [] 50 cs9_cell_47 rfl h (fun _ h' => ct9_lost h') rfl rfl rfl rfl (by decide) (Nat.le_refl 0) (Nat.le_refl 0) (fun v31 s32 h => ?_)
          exact r_lreturn dX9_cell_50 rfl (Nat.le_refl 0) (Nat.le_refl 0) h
      · replace h := Out_neg hc h
        refine r_aload_n 30 dX9_cell_29 rfl rfl ?_
        refine r_iconst 1 31 dX9_cell_30 rfl (by decide) ?_
        refine c_L [vq (some (9, 0)), vi 1] [] 34 cs9_cell_31 rfl h (fun _ h' => ct9_lost h') rfl rfl rfl rfl (by decide) (Nat.le_refl 0) (Nat.le_refl 0) (fun v33 s34 h => ?_)
        exact r_lreturn dX9_cell_34 rfl (Nat.le_refl 0) (Nat.le_refl 0) h
    · replace h := Out_pos hc h
      refine r_aload_n 15 dX9_cell_14 rfl rfl ?_
      refine r_iconst 0 16 dX9_cell_15 rfl (by decide) ?_
      refine c_L [vq (some (9, 0)), vi 0] [] 19 cs9_cell_16 rfl h (fun _ h' => ct9_lost h') rfl rfl rfl rfl (by decide) (Nat.le_refl 0) (Nat.le_refl 0) (fun v35 s36 h => ?_)
      exact r_lreturn dX9_cell_19 rfl (Nat.le_refl 0) (Nat.le_refl 0) h

set_option maxRecDepth 20000 in
set_option maxHeartbeats 4000000 in
theorem tl9_copy_120 {Γ : GG} {K : Int32 × Sto → Prop} {k : Int32 → Sto → Option (Int32 × Sto)} {a1 : Int32} {a2 : Int32} {a3 : Int32} {a4 : Int32} {a5 : Int32} (hx : ∀ (a6 : Int32) (σ : Sto), Out (k a6 σ) K → M true Γ mX9_copy 2 0 0 0 0 (QI K) 154 [some (vq (some (9, 0))), some (vi a1), some (vi a2), some (vi a3), some (vi a4), some (vi a5), some (vi a6)] [] σ) : ∀ (n : Nat) (a6 : Int32) (σ : Sto), Out (l9_copy_120 k a1 a2 a3 a4 a5 n a6 σ) K → M true Γ mX9_copy 2 0 0 0 0 (QI K) 120 [some (vq (some (9, 0))), some (vi a1), some (vi a2), some (vi a3), some (vi a4), some (vi a5), some (vi a6)] [] σ := by
  intro n
  induction n with
  | zero => intro a6 σ h; exact absurd h Out_none
  | succ n ih =>
    intro a6 σ h
    unfold l9_copy_120 at h
    refine r_iload 122 dX9_copy_120 rfl rfl ?_
    refine r_iload 124 dX9_copy_122 rfl rfl ?_
    refine r_icmp_ge 154 127 dX9_copy_124 (by decide) rfl (fun hc => ?_) (fun hc => ?_)
    · replace h := Out_pos hc h
      exact hx a6 σ h
    · replace h := Out_neg hc h
      refine r_aload_n 128 dX9_copy_127 rfl rfl ?_
      refine r_getF (x := fe9_40) 19 (34, 0) 131 fl9_40 (by decide) dX9_copy_128 rfl rfl rfl rfl ?_
      refine r_iload 133 dX9_copy_131 rfl rfl ?_
      refine r_aload_n 134 dX9_copy_133 rfl rfl ?_
      refine r_getF (x := fe9_37) 18 (33, 0) 137 fl9_37 (by decide) dX9_copy_134 rfl rfl rfl rfl ?_
      refine r_bipush 60 139 dX9_copy_137 rfl (by decide) ?_
      refine r_iload_n 140 dX9_copy_139 rfl rfl ?_
      refine r_imul 141 dX9_copy_140 rfl ?_
      refine r_iload_n 142 dX9_copy_141 rfl rfl ?_
      refine r_iadd 143 dX9_copy_142 rfl ?_
      refine r_iload 145 dX9_copy_143 rfl rfl ?_
      refine r_iadd 146 dX9_copy_145 rfl ?_
      obtain ⟨hc, h⟩ := Out_grd h
      refine r_iaload (((60 * a1) + a2) + a6).toNatClampNeg 240 147 dX9_copy_146 rfl (by decide) rfl rfl hc rfl ?_
      obtain ⟨hc, h⟩ := Out_grd h
      refine r_iastore a6.toNatClampNeg 60 148 dX9_copy_147 rfl (by decide) (by decide) rfl rfl hc rfl ?_
      refine r_iinc 1 [some (vq (some (9, 0))), some (vi a1), some (vi a2), some (vi a3), some (vi a4), some (vi a5), some (vi (a6 + 1))] 151 dX9_copy_148 rfl (by decide) rfl rfl rfl ?_
      refine r_goto 120 dX9_copy_151 (by decide) ?_
      exact ih (a6 + 1) (sI σ 34 0 a6.toNatClampNeg (gI σ 33 0 (((60 * a1) + a2) + a6).toNatClampNeg)) h
set_option maxRecDepth 20000 in
set_option maxHeartbeats 4000000 in
theorem tl9_copy_157 {Γ : GG} {K : Int32 × Sto → Prop} {a3 : Int32} {a4 : Int32} {a5 : Int32} : ∀ (n : Nat) (a6 : Int32) (σ : Sto), Out (l9_copy_157 a3 a4 a5 n a6 σ) K → M true Γ mX9_copy 2 0 0 0 0 (QI K) 157 [some (vq (some (9, 0))), none, none, some (vi a3), some (vi a4), some (vi a5), some (vi a6)] [] σ := by
  intro n
  induction n with
  | zero => intro a6 σ h; exact absurd h Out_none
  | succ n ih =>
    intro a6 σ h
    unfold l9_copy_157 at h
    refine r_iload 159 dX9_copy_157 rfl rfl ?_
    refine r_iload 161 dX9_copy_159 rfl rfl ?_
    refine r_icmp_ge 192 164 dX9_copy_161 (by decide) rfl (fun hc => ?_) (fun hc => ?_)
    · replace h := Out_pos hc h
      refine r_iload 194 dX9_copy_192 rfl rfl ?_
      exact r_ireturn dX9_copy_194 rfl (Nat.le_refl 0) (Nat.le_refl 0) h
    · replace h := Out_neg hc h
      refine r_aload_n 165 dX9_copy_164 rfl rfl ?_
      refine r_getF (x := fe9_37) 18 (33, 0) 168 fl9_37 (by decide) dX9_copy_165 rfl rfl rfl rfl ?_
      refine r_bipush 60 170 dX9_copy_168 rfl (by decide) ?_
      refine r_iload_n 171 dX9_copy_170 rfl rfl ?_
      refine r_imul 172 dX9_copy_171 rfl ?_
      refine r_iload 174 dX9_copy_172 rfl rfl ?_
      refine r_iadd 175 dX9_copy_174 rfl ?_
      refine r_iload 177 dX9_copy_175 rfl rfl ?_
      refine r_iadd 178 dX9_copy_177 rfl ?_
      refine r_aload_n 179 dX9_copy_178 rfl rfl ?_
      refine r_getF (x := fe9_40) 19 (34, 0) 182 fl9_40 (by decide) dX9_copy_179 rfl rfl rfl rfl ?_
      refine r_iload 184 dX9_copy_182 rfl rfl ?_
      obtain ⟨hc, h⟩ := Out_grd h
      refine r_iaload a6.toNatClampNeg 60 185 dX9_copy_184 rfl (by decide) rfl rfl hc rfl ?_
      obtain ⟨hc, h⟩ := Out_grd h
      refine r_iastore (((60 * a3) + a4) + a6).toNatClampNeg 240 186 dX9_copy_185 rfl (by decide) (by decide) rfl rfl hc rfl ?_
      refine r_iinc 1 [some (vq (some (9, 0))), none, none, some (vi a3), some (vi a4), some (vi a5), some (vi (a6 + 1))] 189 dX9_copy_186 rfl (by decide) rfl rfl rfl ?_
      refine r_goto 157 dX9_copy_189 (by decide) ?_
      exact ih (a6 + 1) (sI σ 33 0 (((60 * a3) + a4) + a6).toNatClampNeg (gI σ 34 0 a6.toNatClampNeg)) h
set_option maxRecDepth 20000 in
set_option maxHeartbeats 4000000 in
theorem ct9_copy {Γ : GG} {K : Int32 × Sto → Prop} {a1 : Int32} {a2 : Int32} {a3 : Int32} {a4 : Int32} {a5 : Int32} {σ : Sto} (h : Out (f9_copy a1 a2 a3 a4 a5 σ) K) : Ct true Γ mX9_copy 2 0 0 [vq (some (9, 0)), vi a1, vi a2, vi a3, vi a4, vi a5] σ (QI K) := by
  refine Ct_intro (by decide +kernel) rfl ?_
  show M true Γ mX9_copy 2 0 0 0 0 (QI K) 0 [some (vq (some (9, 0))), some (vi a1), some (vi a2), some (vi a3), some (vi a4), some (vi a5), none] [] σ
  unfold f9_copy at h
  refine r_iload_n 1 dX9_copy_0 rfl rfl ?_
  refine c_I [vi a1] [] 4 cs9_copy_1 rfl h (fun _ h' => ct9_isSheet h') rfl rfl rfl rfl (by decide) (Nat.le_refl 0) (Nat.le_refl 0) (fun v21 s22 h => ?_)
  refine r_if_eq 14 7 dX9_copy_4 (by decide) rfl (fun hc => ?_) (fun hc => ?_)
  · replace h := Out_pos hc h
    refine r_aload_n 15 dX9_copy_14 rfl rfl ?_
    refine r_iconst (-1) 16 dX9_copy_15 rfl (by decide) ?_
    refine c_I [vq (some (9, 0)), vi (-1)] [] 19 cs9_copy_16 rfl h (fun _ h' => ct9_refused h') rfl rfl rfl rfl (by decide) (Nat.le_refl 0) (Nat.le_refl 0) (fun v23 s24 h => ?_)
    exact r_ireturn dX9_copy_19 rfl (Nat.le_refl 0) (Nat.le_refl 0) h
  · replace h := Out_neg hc h
    refine r_iload_n 8 dX9_copy_7 rfl rfl ?_
    refine c_I [vi a3] [] 11 cs9_copy_8 rfl h (fun _ h' => ct9_isSheet h') rfl rfl rfl rfl (by decide) (Nat.le_refl 0) (Nat.le_refl 0) (fun v25 s26 h => ?_)
    refine r_if_ne 20 14 dX9_copy_11 (by decide) rfl (fun hc => ?_) (fun hc => ?_)
    · replace h := Out_neg hc h
      refine r_aload_n 21 dX9_copy_20 rfl rfl ?_
      refine r_getF (x := fe9_31) 16 (31, 0) 24 fl9_31 (by decide) dX9_copy_21 rfl rfl rfl rfl ?_
      refine r_iload_n 25 dX9_copy_24 rfl rfl ?_
      obtain ⟨hc, h⟩ := Out_grd h
      refine r_iaload a1.toNatClampNeg 4 26 dX9_copy_25 rfl (by decide) rfl rfl hc rfl ?_
      refine r_if_lt 38 29 dX9_copy_26 (by decide) rfl (fun hc => ?_) (fun hc => ?_)
      · replace h := Out_pos hc h
        refine r_aload_n 39 dX9_copy_38 rfl rfl ?_
        refine r_iconst 1 40 dX9_copy_39 rfl (by decide) ?_
        refine c_I [vq (some (9, 0)), vi 1] [] 43 cs9_copy_40 rfl h (fun _ h' => ct9_fails h') rfl rfl rfl rfl (by decide) (Nat.le_refl 0) (Nat.le_refl 0) (fun v27 s28 h => ?_)
        exact r_ireturn dX9_copy_43 rfl (Nat.le_refl 0) (Nat.le_refl 0) h
      · replace h := Out_neg hc h
        refine r_aload_n 30 dX9_copy_29 rfl rfl ?_
        refine r_getF (x := fe9_31) 16 (31, 0) 33 fl9_31 (by decide) dX9_copy_30 rfl rfl rfl rfl ?_
        refine r_iload_n 34 dX9_copy_33 rfl rfl ?_
        obtain ⟨hc, h⟩ := Out_grd h
        refine r_iaload a3.toNatClampNeg 4 35 dX9_copy_34 rfl (by decide) rfl rfl hc rfl ?_
        refine r_if_ge 44 38 dX9_copy_35 (by decide) rfl (fun hc => ?_) (fun hc => ?_)
        · replace h := Out_pos hc h
          refine r_aload_n 45 dX9_copy_44 rfl rfl ?_
          refine r_getF (x := fe9_31) 16 (31, 0) 48 fl9_31 (by decide) dX9_copy_45 rfl rfl rfl rfl ?_
          refine r_iload_n 49 dX9_copy_48 rfl rfl ?_
          obtain ⟨hc, h⟩ := Out_grd h
          refine r_iaload a1.toNatClampNeg 4 50 dX9_copy_49 rfl (by decide) rfl rfl hc rfl ?_
          refine r_aload_n 51 dX9_copy_50 rfl rfl ?_
          refine r_getF (x := fe9_31) 16 (31, 0) 54 fl9_31 (by decide) dX9_copy_51 rfl rfl rfl rfl ?_
          refine r_iload_n 55 dX9_copy_54 rfl rfl ?_
          obtain ⟨hc, h⟩ := Out_grd h
          refine r_iaload a3.toNatClampNeg 4 56 dX9_copy_55 rfl (by decide) rfl rfl hc rfl ?_
          refine r_icmp_eq 65 59 dX9_copy_56 (by decide) rfl (fun hc => ?_) (fun hc => ?_)
          · replace h := Out_pos hc h
            refine r_iload 67 dX9_copy_65 rfl rfl ?_
            refine r_if_lt 106 70 dX9_copy_67 (by decide) rfl (fun hc => ?_) (fun hc => ?_)
            · replace h := Out_pos hc h
              refine r_aload_n 107 dX9_copy_106 rfl rfl ?_
              refine r_iconst 3 108 dX9_copy_107 rfl (by decide) ?_
              refine c_I [vq (some (9, 0)), vi 3] [] 111 cs9_copy_108 rfl h (fun _ h' => ct9_fails h') rfl rfl rfl rfl (by decide) (Nat.le_refl 0) (Nat.le_refl 0) (fun v29 s30 h => ?_)
              exact r_ireturn dX9_copy_111 rfl (Nat.le_refl 0) (Nat.le_refl 0) h
            · replace h := Out_neg hc h
              refine r_iload_n 71 dX9_copy_70 rfl rfl ?_
              refine r_if_lt 106 74 dX9_copy_71 (by decide) rfl (fun hc => ?_) (fun hc => ?_)
              · replace h := Out_pos hc h
                refine r_aload_n 107 dX9_copy_106 rfl rfl ?_
                refine r_iconst 3 108 dX9_copy_107 rfl (by decide) ?_
                refine c_I [vq (some (9, 0)), vi 3] [] 111 cs9_copy_108 rfl h (fun _ h' => ct9_fails h') rfl rfl rfl rfl (by decide) (Nat.le_refl 0) (Nat.le_refl 0) (fun v31 s32 h => ?_)
                exact r_ireturn dX9_copy_111 rfl (Nat.le_refl 0) (Nat.le_refl 0) h
              · replace h := Out_neg hc h
                refine r_iload 76 dX9_copy_74 rfl rfl ?_
                refine r_if_lt 106 79 dX9_copy_76 (by decide) rfl (fun hc => ?_) (fun hc => ?_)
                · replace h := Out_pos hc h
                  refine r_aload_n 107 dX9_copy_106 rfl rfl ?_
                  refine r_iconst 3 108 dX9_copy_107 rfl (by decide) ?_
                  refine c_I [vq (some (9, 0)), vi 3] [] 111 cs9_copy_108 rfl h (fun _ h' => ct9_fails h') rfl rfl rfl rfl (by decide) (Nat.le_refl 0) (Nat.le_refl 0) (fun v33 s34 h => ?_)
                  exact r_ireturn dX9_copy_111 rfl (Nat.le_refl 0) (Nat.le_refl 0) h
                · replace h := Out_neg hc h
                  refine r_iload_n 80 dX9_copy_79 rfl rfl ?_
                  refine r_aload_n 81 dX9_copy_80 rfl rfl ?_
                  refine r_getF (x := fe9_34) 17 (32, 0) 84 fl9_34 (by decide) dX9_copy_81 rfl rfl rfl rfl ?_
                  refine r_iload_n 85 dX9_copy_84 rfl rfl ?_
                  obtain ⟨hc, h⟩ := Out_grd h
                  refine r_iaload a1.toNatClampNeg 4 86 dX9_copy_85 rfl (by decide) rfl rfl hc rfl ?_
                  refine r_iload 88 dX9_copy_86 rfl rfl ?_
                  refine r_isub 89 dX9_copy_88 rfl ?_
                  refine r_icmp_gt 106 92 dX9_copy_89 (by decide) rfl (fun hc => ?_) (fun hc => ?_)
                  · replace h := Out_pos hc h
                    refine r_aload_n 107 dX9_copy_106 rfl rfl ?_
                    refine r_iconst 3 108 dX9_copy_107 rfl (by decide) ?_
                    refine c_I [vq (some (9, 0)), vi 3] [] 111 cs9_copy_108 rfl h (fun _ h' => ct9_fails h') rfl rfl rfl rfl (by decide) (Nat.le_refl 0) (Nat.le_refl 0) (fun v35 s36 h => ?_)
                    exact r_ireturn dX9_copy_111 rfl (Nat.le_refl 0) (Nat.le_refl 0) h
                  · replace h := Out_neg hc h
                    refine r_iload 94 dX9_copy_92 rfl rfl ?_
                    refine r_aload_n 95 dX9_copy_94 rfl rfl ?_
                    refine r_getF (x := fe9_34) 17 (32, 0) 98 fl9_34 (by decide) dX9_copy_95 rfl rfl rfl rfl ?_
                    refine r_iload_n 99 dX9_copy_98 rfl rfl ?_
                    obtain ⟨hc, h⟩ := Out_grd h
                    refine r_iaload a3.toNatClampNeg 4 100 dX9_copy_99 rfl (by decide) rfl rfl hc rfl ?_
                    refine r_iload 102 dX9_copy_100 rfl rfl ?_
                    refine r_isub 103 dX9_copy_102 rfl ?_
                    refine r_icmp_le 112 106 dX9_copy_103 (by decide) rfl (fun hc => ?_) (fun hc => ?_)
                    · replace h := Out_pos hc h
                      refine r_aload_n 113 dX9_copy_112 rfl rfl ?_
                      refine r_iconst 0 114 dX9_copy_113 rfl (by decide) ?_
                      refine r_putI (x := fe9_64) 15 117 fl9_64 (by decide) dX9_copy_114 rfl (Or.inl rfl) rfl rfl ?_
                      refine r_iconst 0 118 dX9_copy_117 rfl (by decide) ?_
                      refine r_istore [some (vq (some (9, 0))), some (vi a1), some (vi a2), some (vi a3), some (vi a4), some (vi a5), some (vi 0)] 120 dX9_copy_118 rfl rfl rfl ?_
                      refine tl9_copy_120 (fun v37 s38 h => ?_) 300 0 (sI s26 9 0 15 0) h
                      refine r_iconst 0 155 dX9_copy_154 rfl (by decide) ?_
                      refine r_istore [some (vq (some (9, 0))), some (vi a1), some (vi a2), some (vi a3), some (vi a4), some (vi a5), some (vi 0)] 157 dX9_copy_155 rfl rfl rfl ?_
                      refine r_mask [true, false, false, true, true, true, true] [some (vq (some (9, 0))), none, none, some (vi a3), some (vi a4), some (vi a5), some (vi 0)] rfl rfl ?_
                      exact tl9_copy_157 300 0 s38 h
                    · replace h := Out_neg hc h
                      refine r_aload_n 107 dX9_copy_106 rfl rfl ?_
                      refine r_iconst 3 108 dX9_copy_107 rfl (by decide) ?_
                      refine c_I [vq (some (9, 0)), vi 3] [] 111 cs9_copy_108 rfl h (fun _ h' => ct9_fails h') rfl rfl rfl rfl (by decide) (Nat.le_refl 0) (Nat.le_refl 0) (fun v39 s40 h => ?_)
                      exact r_ireturn dX9_copy_111 rfl (Nat.le_refl 0) (Nat.le_refl 0) h
          · replace h := Out_neg hc h
            refine r_aload_n 60 dX9_copy_59 rfl rfl ?_
            refine r_iconst 2 61 dX9_copy_60 rfl (by decide) ?_
            refine c_I [vq (some (9, 0)), vi 2] [] 64 cs9_copy_61 rfl h (fun _ h' => ct9_fails h') rfl rfl rfl rfl (by decide) (Nat.le_refl 0) (Nat.le_refl 0) (fun v41 s42 h => ?_)
            exact r_ireturn dX9_copy_64 rfl (Nat.le_refl 0) (Nat.le_refl 0) h
        · replace h := Out_neg hc h
          refine r_aload_n 39 dX9_copy_38 rfl rfl ?_
          refine r_iconst 1 40 dX9_copy_39 rfl (by decide) ?_
          refine c_I [vq (some (9, 0)), vi 1] [] 43 cs9_copy_40 rfl h (fun _ h' => ct9_fails h') rfl rfl rfl rfl (by decide) (Nat.le_refl 0) (Nat.le_refl 0) (fun v43 s44 h => ?_)
          exact r_ireturn dX9_copy_43 rfl (Nat.le_refl 0) (Nat.le_refl 0) h
    · replace h := Out_pos hc h
      refine r_aload_n 15 dX9_copy_14 rfl rfl ?_
      refine r_iconst (-1) 16 dX9_copy_15 rfl (by decide) ?_
      refine c_I [vq (some (9, 0)), vi (-1)] [] 19 cs9_copy_16 rfl h (fun _ h' => ct9_refused h') rfl rfl rfl rfl (by decide) (Nat.le_refl 0) (Nat.le_refl 0) (fun v45 s46 h => ?_)
      exact r_ireturn dX9_copy_19 rfl (Nat.le_refl 0) (Nat.le_refl 0) h

set_option maxRecDepth 20000 in
set_option maxHeartbeats 4000000 in
theorem ct9_cut {Γ : GG} {K : Int32 × Sto → Prop} {a0 : Int32} {a1 : Int32} {σ : Sto} (h : Out (f9_cut a0 a1 σ) K) : Ct true Γ mX9_cut 0 0 0 [vi a0, vi a1] σ (QI K) := by
  refine Ct_intro (by decide +kernel) rfl ?_
  show M true Γ mX9_cut 0 0 0 0 0 (QI K) 0 [some (vi a0), some (vi a1)] [] σ
  unfold f9_cut at h
  refine r_iload_n 1 dX9_cut_0 rfl rfl ?_
  refine r_if_ne 9 4 dX9_cut_1 (by decide) rfl (fun hc => ?_) (fun hc => ?_)
  · replace h := Out_neg hc h
    refine r_iload_n 10 dX9_cut_9 rfl rfl ?_
    refine r_iconst 1 11 dX9_cut_10 rfl (by decide) ?_
    refine r_icmp_ne 19 14 dX9_cut_11 (by decide) rfl (fun hc => ?_) (fun hc => ?_)
    · replace h := Out_neg hc h
      refine r_iload_n 20 dX9_cut_19 rfl rfl ?_
      exact r_ireturn dX9_cut_20 rfl (Nat.le_refl 0) (Nat.le_refl 0) h
    · replace h := Out_pos hc h
      refine r_iload_n 15 dX9_cut_14 rfl rfl ?_
      refine r_i2s 16 dX9_cut_15 rfl ?_
      refine r_goto 20 dX9_cut_16 (by decide) ?_
      exact r_ireturn dX9_cut_20 rfl (Nat.le_refl 0) (Nat.le_refl 0) h
  · replace h := Out_pos hc h
    refine r_iload_n 5 dX9_cut_4 rfl rfl ?_
    refine r_i2b 6 dX9_cut_5 rfl ?_
    refine r_goto 20 dX9_cut_6 (by decide) ?_
    exact r_ireturn dX9_cut_20 rfl (Nat.le_refl 0) (Nat.le_refl 0) h

set_option maxRecDepth 20000 in
set_option maxHeartbeats 4000000 in
theorem tl9_divisor_4 {Γ : GG} {K : Int32 × Sto → Prop}  : ∀ (n : Nat) (a2 : Int32) (a3 : Int32) (σ : Sto), Out (l9_divisor_4  n a2 a3 σ) K → M true Γ mX9_divisor 0 0 0 0 0 (QI K) 4 [none, none, some (vi a2), some (vi a3), none] [] σ := by
  intro n
  induction n with
  | zero => intro a2 a3 σ h; exact absurd h Out_none
  | succ n ih =>
    intro a2 a3 σ h
    unfold l9_divisor_4 at h
    refine r_iload_n 5 dX9_divisor_4 rfl rfl ?_
    refine r_if_eq 21 8 dX9_divisor_5 (by decide) rfl (fun hc => ?_) (fun hc => ?_)
    · replace h := Out_pos hc h
      refine r_iload_n 22 dX9_divisor_21 rfl rfl ?_
      exact r_ireturn dX9_divisor_22 rfl (Nat.le_refl 0) (Nat.le_refl 0) h
    · replace h := Out_neg hc h
      refine r_iload_n 9 dX9_divisor_8 rfl rfl ?_
      refine r_iload_n 10 dX9_divisor_9 rfl rfl ?_
      obtain ⟨hc, h⟩ := Out_grd h
      refine r_irem 11 dX9_divisor_10 rfl hc ?_
      refine r_istore [none, none, some (vi a2), some (vi a3), some (vi (a2 - a2 / a3 * a3))] 13 dX9_divisor_11 rfl rfl rfl ?_
      refine r_iload_n 14 dX9_divisor_13 rfl rfl ?_
      refine r_istore_n [none, none, some (vi a3), some (vi a3), some (vi (a2 - a2 / a3 * a3))] 15 dX9_divisor_14 rfl rfl rfl ?_
      refine r_iload 17 dX9_divisor_15 rfl rfl ?_
      refine r_istore_n [none, none, some (vi a3), some (vi (a2 - a2 / a3 * a3)), some (vi (a2 - a2 / a3 * a3))] 18 dX9_divisor_17 rfl rfl rfl ?_
      refine r_goto 4 dX9_divisor_18 (by decide) ?_
      refine r_mask [false, false, true, true, false] [none, none, some (vi a3), some (vi (a2 - a2 / a3 * a3)), none] rfl rfl ?_
      exact ih a3 (a2 - a2 / a3 * a3) σ h
set_option maxRecDepth 20000 in
set_option maxHeartbeats 4000000 in
theorem ct9_divisor {Γ : GG} {K : Int32 × Sto → Prop} {a0 : Int32} {a1 : Int32} {σ : Sto} (h : Out (f9_divisor a0 a1 σ) K) : Ct true Γ mX9_divisor 0 0 0 [vi a0, vi a1] σ (QI K) := by
  refine Ct_intro (by decide +kernel) rfl ?_
  show M true Γ mX9_divisor 0 0 0 0 0 (QI K) 0 [some (vi a0), some (vi a1), none, none, none] [] σ
  unfold f9_divisor at h
  refine r_iload_n 1 dX9_divisor_0 rfl rfl ?_
  refine r_istore_n [some (vi a0), some (vi a1), some (vi a0), none, none] 2 dX9_divisor_1 rfl rfl rfl ?_
  refine r_iload_n 3 dX9_divisor_2 rfl rfl ?_
  refine r_istore_n [some (vi a0), some (vi a1), some (vi a0), some (vi a1), none] 4 dX9_divisor_3 rfl rfl rfl ?_
  refine r_mask [false, false, true, true, false] [none, none, some (vi a0), some (vi a1), none] rfl rfl ?_
  exact tl9_divisor_4 300 a0 a1 σ h

set_option maxRecDepth 20000 in
set_option maxHeartbeats 4000000 in
theorem ct9_forceOf {Γ : GG} {K : Int32 × Sto → Prop} {a1 : Int32} {σ : Sto} (h : Out (f9_forceOf a1 σ) K) : Ct true Γ mX9_forceOf 0 0 0 [vq (some (9, 0)), vi a1] σ (QI K) := by
  refine Ct_intro (by decide +kernel) rfl ?_
  show M true Γ mX9_forceOf 0 0 0 0 0 (QI K) 0 [some (vq (some (9, 0))), some (vi a1)] [] σ
  unfold f9_forceOf at h
  refine r_aload_n 1 dX9_forceOf_0 rfl rfl ?_
  refine r_getF (x := fe9_16) 6 (26, 0) 4 fl9_16 (by decide) dX9_forceOf_1 rfl rfl rfl rfl ?_
  refine r_iload_n 5 dX9_forceOf_4 rfl rfl ?_
  obtain ⟨hc, h⟩ := Out_grd h
  refine r_iaload a1.toNatClampNeg 2 6 dX9_forceOf_5 rfl (by decide) rfl rfl hc rfl ?_
  refine r_if_ne 18 9 dX9_forceOf_6 (by decide) rfl (fun hc => ?_) (fun hc => ?_)
  · replace h := Out_neg hc h
    refine r_aload_n 19 dX9_forceOf_18 rfl rfl ?_
    refine r_getF (x := fe9_16) 6 (26, 0) 22 fl9_16 (by decide) dX9_forceOf_19 rfl rfl rfl rfl ?_
    refine r_iload_n 23 dX9_forceOf_22 rfl rfl ?_
    obtain ⟨hc, h⟩ := Out_grd h
    refine r_iaload a1.toNatClampNeg 2 24 dX9_forceOf_23 rfl (by decide) rfl rfl hc rfl ?_
    refine r_iconst 1 25 dX9_forceOf_24 rfl (by decide) ?_
    refine r_icmp_ne 39 28 dX9_forceOf_25 (by decide) rfl (fun hc => ?_) (fun hc => ?_)
    · replace h := Out_neg hc h
      refine r_iconst 2 40 dX9_forceOf_39 rfl (by decide) ?_
      refine r_aload_n 41 dX9_forceOf_40 rfl rfl ?_
      refine r_getF (x := fe9_19) 7 (27, 0) 44 fl9_19 (by decide) dX9_forceOf_41 rfl rfl rfl rfl ?_
      refine r_iload_n 45 dX9_forceOf_44 rfl rfl ?_
      obtain ⟨hc, h⟩ := Out_grd h
      refine r_iaload a1.toNatClampNeg 2 46 dX9_forceOf_45 rfl (by decide) rfl rfl hc rfl ?_
      refine r_iconst 1 47 dX9_forceOf_46 rfl (by decide) ?_
      refine r_iadd 48 dX9_forceOf_47 rfl ?_
      refine r_imul 49 dX9_forceOf_48 rfl ?_
      exact r_ireturn dX9_forceOf_49 rfl (Nat.le_refl 0) (Nat.le_refl 0) h
    · replace h := Out_pos hc h
      refine r_aload_n 29 dX9_forceOf_28 rfl rfl ?_
      refine r_getF (x := fe9_19) 7 (27, 0) 32 fl9_19 (by decide) dX9_forceOf_29 rfl rfl rfl rfl ?_
      refine r_iload_n 33 dX9_forceOf_32 rfl rfl ?_
      obtain ⟨hc, h⟩ := Out_grd h
      refine r_iaload a1.toNatClampNeg 2 34 dX9_forceOf_33 rfl (by decide) rfl rfl hc rfl ?_
      refine r_iconst 1 35 dX9_forceOf_34 rfl (by decide) ?_
      refine r_iadd 36 dX9_forceOf_35 rfl ?_
      refine r_goto 49 dX9_forceOf_36 (by decide) ?_
      exact r_ireturn dX9_forceOf_49 rfl (Nat.le_refl 0) (Nat.le_refl 0) h
  · replace h := Out_pos hc h
    refine r_aload_n 10 dX9_forceOf_9 rfl rfl ?_
    refine r_getF (x := fe9_19) 7 (27, 0) 13 fl9_19 (by decide) dX9_forceOf_10 rfl rfl rfl rfl ?_
    refine r_iload_n 14 dX9_forceOf_13 rfl rfl ?_
    obtain ⟨hc, h⟩ := Out_grd h
    refine r_iaload a1.toNatClampNeg 2 15 dX9_forceOf_14 rfl (by decide) rfl rfl hc rfl ?_
    refine r_goto 49 dX9_forceOf_15 (by decide) ?_
    exact r_ireturn dX9_forceOf_49 rfl (Nat.le_refl 0) (Nat.le_refl 0) h

set_option maxRecDepth 20000 in
set_option maxHeartbeats 4000000 in
theorem ct9_isSquare {Γ : GG} {K : Int32 × Sto → Prop} {a1 : Int32} {σ : Sto} (h : Out (f9_isSquare a1 σ) K) : Ct true Γ mX9_isSquare 1 0 0 [vq (some (9, 0)), vi a1] σ (QI K) := by
  refine Ct_intro (by decide +kernel) rfl ?_
  show M true Γ mX9_isSquare 1 0 0 0 0 (QI K) 0 [some (vq (some (9, 0))), some (vi a1)] [] σ
  unfold f9_isSquare at h
  refine r_iload_n 1 dX9_isSquare_0 rfl rfl ?_
  refine r_i2l 2 dX9_isSquare_1 rfl ?_
  refine r_lconst 0 3 dX9_isSquare_2 rfl (by decide) ?_
  refine r_aload_n 4 dX9_isSquare_3 rfl rfl ?_
  refine r_getI (x := fe9_68) 1 7 fl9_68 (by decide) dX9_isSquare_4 rfl rfl rfl ?_
  refine r_iconst 1 8 dX9_isSquare_7 rfl (by decide) ?_
  refine r_isub 9 dX9_isSquare_8 rfl ?_
  refine r_i2l 10 dX9_isSquare_9 rfl ?_
  refine c_I [vl a1.toInt64, vl 0, vl (((gI σ 9 0 1) - 1).toInt64)] [] 13 cs9_isSquare_10 rfl h (fun _ h' => ct9_in h') rfl rfl rfl rfl (by decide) (Nat.le_refl 0) (Nat.le_refl 0) (fun v21 s22 h => ?_)
  obtain ⟨hc, h⟩ := Out_grd h
  exact r_zreturn dX9_isSquare_13 rfl hc (Nat.le_refl 0) (Nat.le_refl 0) h

set_option maxRecDepth 20000 in
set_option maxHeartbeats 4000000 in
theorem ct9_next {Γ : GG} {K : Int32 × Sto → Prop} {a1 : Int32} {a2 : Int32} {σ : Sto} (h : Out (f9_next a1 a2 σ) K) : Ct true Γ mX9_next 2 0 0 [vq (some (9, 0)), vi a1, vi a2] σ (QI K) := by
  refine Ct_intro (by decide +kernel) rfl ?_
  show M true Γ mX9_next 2 0 0 0 0 (QI K) 0 [some (vq (some (9, 0))), some (vi a1), some (vi a2), none, none] [] σ
  unfold f9_next at h
  refine r_iload_n 1 dX9_next_0 rfl rfl ?_
  refine r_aload_n 2 dX9_next_1 rfl rfl ?_
  refine r_getI (x := fe9_147) 0 5 fl9_147 (by decide) dX9_next_2 rfl rfl rfl ?_
  obtain ⟨hc, h⟩ := Out_grd h
  refine r_irem 6 dX9_next_5 rfl hc ?_
  refine r_iload_n 7 dX9_next_6 rfl rfl ?_
  refine r_iconst 1 8 dX9_next_7 rfl (by decide) ?_
  refine r_icmp_ne 15 11 dX9_next_8 (by decide) rfl (fun hc => ?_) (fun hc => ?_)
  · replace h := Out_neg hc h
    refine r_iload_n 16 dX9_next_15 rfl rfl ?_
    refine r_iconst 3 17 dX9_next_16 rfl (by decide) ?_
    refine r_icmp_ne 24 20 dX9_next_17 (by decide) rfl (fun hc => ?_) (fun hc => ?_)
    · replace h := Out_neg hc h
      refine r_iconst 0 25 dX9_next_24 rfl (by decide) ?_
      refine r_iadd 26 dX9_next_25 rfl ?_
      refine r_istore_n [some (vq (some (9, 0))), some (vi a1), some (vi a2), some (vi ((a1 - a1 / (gI σ 9 0 0) * (gI σ 9 0 0)) + 0)), none] 27 dX9_next_26 rfl rfl rfl ?_
      refine r_iload_n 28 dX9_next_27 rfl rfl ?_
      refine r_iload_n 29 dX9_next_28 rfl rfl ?_
      refine r_if_ne 40 32 dX9_next_29 (by decide) rfl (fun hc => ?_) (fun hc => ?_)
      · replace h := Out_neg hc h
        refine r_iload_n 41 dX9_next_40 rfl rfl ?_
        refine r_iconst 2 42 dX9_next_41 rfl (by decide) ?_
        refine r_icmp_ne 52 45 dX9_next_42 (by decide) rfl (fun hc => ?_) (fun hc => ?_)
        · replace h := Out_neg hc h
          refine r_iload_n 53 dX9_next_52 rfl rfl ?_
          refine r_iconst 1 54 dX9_next_53 rfl (by decide) ?_
          refine r_icmp_ne 61 57 dX9_next_54 (by decide) rfl (fun hc => ?_) (fun hc => ?_)
          · replace h := Out_neg hc h
            refine r_iconst (-1) 62 dX9_next_61 rfl (by decide) ?_
            refine r_iadd 63 dX9_next_62 rfl ?_
            refine r_istore [some (vq (some (9, 0))), some (vi a1), some (vi a2), some (vi ((a1 - a1 / (gI σ 9 0 0) * (gI σ 9 0 0)) + 0)), some (vi (a1 + (-1)))] 65 dX9_next_63 rfl rfl rfl ?_
            refine r_iload_n 66 dX9_next_65 rfl rfl ?_
            refine r_i2l 67 dX9_next_66 rfl ?_
            refine r_lconst 0 68 dX9_next_67 rfl (by decide) ?_
            refine r_aload_n 69 dX9_next_68 rfl rfl ?_
            refine r_getI (x := fe9_147) 0 72 fl9_147 (by decide) dX9_next_69 rfl rfl rfl ?_
            refine r_iconst 1 73 dX9_next_72 rfl (by decide) ?_
            refine r_isub 74 dX9_next_73 rfl ?_
            refine r_i2l 75 dX9_next_74 rfl ?_
            refine c_I [vl (((a1 - a1 / (gI σ 9 0 0) * (gI σ 9 0 0)) + 0).toInt64), vl 0, vl (((gI σ 9 0 0) - 1).toInt64)] [] 78 cs9_next_75 rfl h (fun _ h' => ct9_in h') rfl rfl rfl rfl (by decide) (Nat.le_refl 0) (Nat.le_refl 0) (fun v21 s22 h => ?_)
            refine r_if_eq 95 81 dX9_next_78 (by decide) rfl (fun hc => ?_) (fun hc => ?_)
            · replace h := Out_pos hc h
              refine r_iconst (-1) 96 dX9_next_95 rfl (by decide) ?_
              exact r_ireturn dX9_next_96 rfl (Nat.le_refl 0) (Nat.le_refl 0) h
            · replace h := Out_neg hc h
              refine r_aload_n 82 dX9_next_81 rfl rfl ?_
              refine r_iload 84 dX9_next_82 rfl rfl ?_
              refine c_I [vq (some (9, 0)), vi (a1 + (-1))] [] 87 cs9_next_84 rfl h (fun _ h' => ct9_isSquare h') rfl rfl rfl rfl (by decide) (Nat.le_refl 0) (Nat.le_refl 0) (fun v23 s24 h => ?_)
              refine r_if_eq 95 90 dX9_next_87 (by decide) rfl (fun hc => ?_) (fun hc => ?_)
              · replace h := Out_pos hc h
                refine r_iconst (-1) 96 dX9_next_95 rfl (by decide) ?_
                exact r_ireturn dX9_next_96 rfl (Nat.le_refl 0) (Nat.le_refl 0) h
              · replace h := Out_neg hc h
                refine r_iload 92 dX9_next_90 rfl rfl ?_
                refine r_goto 96 dX9_next_92 (by decide) ?_
                exact r_ireturn dX9_next_96 rfl (Nat.le_refl 0) (Nat.le_refl 0) h
          · replace h := Out_pos hc h
            refine r_iconst 1 58 dX9_next_57 rfl (by decide) ?_
            refine r_goto 62 dX9_next_58 (by decide) ?_
            refine r_iadd 63 dX9_next_62 rfl ?_
            refine r_istore [some (vq (some (9, 0))), some (vi a1), some (vi a2), some (vi ((a1 - a1 / (gI σ 9 0 0) * (gI σ 9 0 0)) + 0)), some (vi (a1 + 1))] 65 dX9_next_63 rfl rfl rfl ?_
            refine r_iload_n 66 dX9_next_65 rfl rfl ?_
            refine r_i2l 67 dX9_next_66 rfl ?_
            refine r_lconst 0 68 dX9_next_67 rfl (by decide) ?_
            refine r_aload_n 69 dX9_next_68 rfl rfl ?_
            refine r_getI (x := fe9_147) 0 72 fl9_147 (by decide) dX9_next_69 rfl rfl rfl ?_
            refine r_iconst 1 73 dX9_next_72 rfl (by decide) ?_
            refine r_isub 74 dX9_next_73 rfl ?_
            refine r_i2l 75 dX9_next_74 rfl ?_
            refine c_I [vl (((a1 - a1 / (gI σ 9 0 0) * (gI σ 9 0 0)) + 0).toInt64), vl 0, vl (((gI σ 9 0 0) - 1).toInt64)] [] 78 cs9_next_75 rfl h (fun _ h' => ct9_in h') rfl rfl rfl rfl (by decide) (Nat.le_refl 0) (Nat.le_refl 0) (fun v25 s26 h => ?_)
            refine r_if_eq 95 81 dX9_next_78 (by decide) rfl (fun hc => ?_) (fun hc => ?_)
            · replace h := Out_pos hc h
              refine r_iconst (-1) 96 dX9_next_95 rfl (by decide) ?_
              exact r_ireturn dX9_next_96 rfl (Nat.le_refl 0) (Nat.le_refl 0) h
            · replace h := Out_neg hc h
              refine r_aload_n 82 dX9_next_81 rfl rfl ?_
              refine r_iload 84 dX9_next_82 rfl rfl ?_
              refine c_I [vq (some (9, 0)), vi (a1 + 1)] [] 87 cs9_next_84 rfl h (fun _ h' => ct9_isSquare h') rfl rfl rfl rfl (by decide) (Nat.le_refl 0) (Nat.le_refl 0) (fun v27 s28 h => ?_)
              refine r_if_eq 95 90 dX9_next_87 (by decide) rfl (fun hc => ?_) (fun hc => ?_)
              · replace h := Out_pos hc h
                refine r_iconst (-1) 96 dX9_next_95 rfl (by decide) ?_
                exact r_ireturn dX9_next_96 rfl (Nat.le_refl 0) (Nat.le_refl 0) h
              · replace h := Out_neg hc h
                refine r_iload 92 dX9_next_90 rfl rfl ?_
                refine r_goto 96 dX9_next_92 (by decide) ?_
                exact r_ireturn dX9_next_96 rfl (Nat.le_refl 0) (Nat.le_refl 0) h
        · replace h := Out_pos hc h
          refine r_aload_n 46 dX9_next_45 rfl rfl ?_
          refine r_getI (x := fe9_147) 0 49 fl9_147 (by decide) dX9_next_46 rfl rfl rfl ?_
          refine r_goto 62 dX9_next_49 (by decide) ?_
          refine r_iadd 63 dX9_next_62 rfl ?_
          refine r_istore [some (vq (some (9, 0))), some (vi a1), some (vi a2), some (vi ((a1 - a1 / (gI σ 9 0 0) * (gI σ 9 0 0)) + 0)), some (vi (a1 + (gI σ 9 0 0)))] 65 dX9_next_63 rfl rfl rfl ?_
          refine r_iload_n 66 dX9_next_65 rfl rfl ?_
          refine r_i2l 67 dX9_next_66 rfl ?_
          refine r_lconst 0 68 dX9_next_67 rfl (by decide) ?_
          refine r_aload_n 69 dX9_next_68 rfl rfl ?_
          refine r_getI (x := fe9_147) 0 72 fl9_147 (by decide) dX9_next_69 rfl rfl rfl ?_
          refine r_iconst 1 73 dX9_next_72 rfl (by decide) ?_
          refine r_isub 74 dX9_next_73 rfl ?_
          refine r_i2l 75 dX9_next_74 rfl ?_
          refine c_I [vl (((a1 - a1 / (gI σ 9 0 0) * (gI σ 9 0 0)) + 0).toInt64), vl 0, vl (((gI σ 9 0 0) - 1).toInt64)] [] 78 cs9_next_75 rfl h (fun _ h' => ct9_in h') rfl rfl rfl rfl (by decide) (Nat.le_refl 0) (Nat.le_refl 0) (fun v29 s30 h => ?_)
          refine r_if_eq 95 81 dX9_next_78 (by decide) rfl (fun hc => ?_) (fun hc => ?_)
          · replace h := Out_pos hc h
            refine r_iconst (-1) 96 dX9_next_95 rfl (by decide) ?_
            exact r_ireturn dX9_next_96 rfl (Nat.le_refl 0) (Nat.le_refl 0) h
          · replace h := Out_neg hc h
            refine r_aload_n 82 dX9_next_81 rfl rfl ?_
            refine r_iload 84 dX9_next_82 rfl rfl ?_
            refine c_I [vq (some (9, 0)), vi (a1 + (gI σ 9 0 0))] [] 87 cs9_next_84 rfl h (fun _ h' => ct9_isSquare h') rfl rfl rfl rfl (by decide) (Nat.le_refl 0) (Nat.le_refl 0) (fun v31 s32 h => ?_)
            refine r_if_eq 95 90 dX9_next_87 (by decide) rfl (fun hc => ?_) (fun hc => ?_)
            · replace h := Out_pos hc h
              refine r_iconst (-1) 96 dX9_next_95 rfl (by decide) ?_
              exact r_ireturn dX9_next_96 rfl (Nat.le_refl 0) (Nat.le_refl 0) h
            · replace h := Out_neg hc h
              refine r_iload 92 dX9_next_90 rfl rfl ?_
              refine r_goto 96 dX9_next_92 (by decide) ?_
              exact r_ireturn dX9_next_96 rfl (Nat.le_refl 0) (Nat.le_refl 0) h
      · replace h := Out_pos hc h
        refine r_aload_n 33 dX9_next_32 rfl rfl ?_
        refine r_getI (x := fe9_147) 0 36 fl9_147 (by decide) dX9_next_33 rfl rfl rfl ?_
        refine r_ineg 37 dX9_next_36 rfl ?_
        refine r_goto 62 dX9_next_37 (by decide) ?_
        refine r_iadd 63 dX9_next_62 rfl ?_
        refine r_istore [some (vq (some (9, 0))), some (vi a1), some (vi a2), some (vi ((a1 - a1 / (gI σ 9 0 0) * (gI σ 9 0 0)) + 0)), some (vi (a1 + (-(gI σ 9 0 0))))] 65 dX9_next_63 rfl rfl rfl ?_
        refine r_iload_n 66 dX9_next_65 rfl rfl ?_
        refine r_i2l 67 dX9_next_66 rfl ?_
        refine r_lconst 0 68 dX9_next_67 rfl (by decide) ?_
        refine r_aload_n 69 dX9_next_68 rfl rfl ?_
        refine r_getI (x := fe9_147) 0 72 fl9_147 (by decide) dX9_next_69 rfl rfl rfl ?_
        refine r_iconst 1 73 dX9_next_72 rfl (by decide) ?_
        refine r_isub 74 dX9_next_73 rfl ?_
        refine r_i2l 75 dX9_next_74 rfl ?_
        refine c_I [vl (((a1 - a1 / (gI σ 9 0 0) * (gI σ 9 0 0)) + 0).toInt64), vl 0, vl (((gI σ 9 0 0) - 1).toInt64)] [] 78 cs9_next_75 rfl h (fun _ h' => ct9_in h') rfl rfl rfl rfl (by decide) (Nat.le_refl 0) (Nat.le_refl 0) (fun v33 s34 h => ?_)
        refine r_if_eq 95 81 dX9_next_78 (by decide) rfl (fun hc => ?_) (fun hc => ?_)
        · replace h := Out_pos hc h
          refine r_iconst (-1) 96 dX9_next_95 rfl (by decide) ?_
          exact r_ireturn dX9_next_96 rfl (Nat.le_refl 0) (Nat.le_refl 0) h
        · replace h := Out_neg hc h
          refine r_aload_n 82 dX9_next_81 rfl rfl ?_
          refine r_iload 84 dX9_next_82 rfl rfl ?_
          refine c_I [vq (some (9, 0)), vi (a1 + (-(gI σ 9 0 0)))] [] 87 cs9_next_84 rfl h (fun _ h' => ct9_isSquare h') rfl rfl rfl rfl (by decide) (Nat.le_refl 0) (Nat.le_refl 0) (fun v35 s36 h => ?_)
          refine r_if_eq 95 90 dX9_next_87 (by decide) rfl (fun hc => ?_) (fun hc => ?_)
          · replace h := Out_pos hc h
            refine r_iconst (-1) 96 dX9_next_95 rfl (by decide) ?_
            exact r_ireturn dX9_next_96 rfl (Nat.le_refl 0) (Nat.le_refl 0) h
          · replace h := Out_neg hc h
            refine r_iload 92 dX9_next_90 rfl rfl ?_
            refine r_goto 96 dX9_next_92 (by decide) ?_
            exact r_ireturn dX9_next_96 rfl (Nat.le_refl 0) (Nat.le_refl 0) h
    · replace h := Out_pos hc h
      refine r_iconst (-1) 21 dX9_next_20 rfl (by decide) ?_
      refine r_goto 25 dX9_next_21 (by decide) ?_
      refine r_iadd 26 dX9_next_25 rfl ?_
      refine r_istore_n [some (vq (some (9, 0))), some (vi a1), some (vi a2), some (vi ((a1 - a1 / (gI σ 9 0 0) * (gI σ 9 0 0)) + (-1))), none] 27 dX9_next_26 rfl rfl rfl ?_
      refine r_iload_n 28 dX9_next_27 rfl rfl ?_
      refine r_iload_n 29 dX9_next_28 rfl rfl ?_
      refine r_if_ne 40 32 dX9_next_29 (by decide) rfl (fun hc => ?_) (fun hc => ?_)
      · replace h := Out_neg hc h
        refine r_iload_n 41 dX9_next_40 rfl rfl ?_
        refine r_iconst 2 42 dX9_next_41 rfl (by decide) ?_
        refine r_icmp_ne 52 45 dX9_next_42 (by decide) rfl (fun hc => ?_) (fun hc => ?_)
        · replace h := Out_neg hc h
          refine r_iload_n 53 dX9_next_52 rfl rfl ?_
          refine r_iconst 1 54 dX9_next_53 rfl (by decide) ?_
          refine r_icmp_ne 61 57 dX9_next_54 (by decide) rfl (fun hc => ?_) (fun hc => ?_)
          · replace h := Out_neg hc h
            refine r_iconst (-1) 62 dX9_next_61 rfl (by decide) ?_
            refine r_iadd 63 dX9_next_62 rfl ?_
            refine r_istore [some (vq (some (9, 0))), some (vi a1), some (vi a2), some (vi ((a1 - a1 / (gI σ 9 0 0) * (gI σ 9 0 0)) + (-1))), some (vi (a1 + (-1)))] 65 dX9_next_63 rfl rfl rfl ?_
            refine r_iload_n 66 dX9_next_65 rfl rfl ?_
            refine r_i2l 67 dX9_next_66 rfl ?_
            refine r_lconst 0 68 dX9_next_67 rfl (by decide) ?_
            refine r_aload_n 69 dX9_next_68 rfl rfl ?_
            refine r_getI (x := fe9_147) 0 72 fl9_147 (by decide) dX9_next_69 rfl rfl rfl ?_
            refine r_iconst 1 73 dX9_next_72 rfl (by decide) ?_
            refine r_isub 74 dX9_next_73 rfl ?_
            refine r_i2l 75 dX9_next_74 rfl ?_
            refine c_I [vl (((a1 - a1 / (gI σ 9 0 0) * (gI σ 9 0 0)) + (-1)).toInt64), vl 0, vl (((gI σ 9 0 0) - 1).toInt64)] [] 78 cs9_next_75 rfl h (fun _ h' => ct9_in h') rfl rfl rfl rfl (by decide) (Nat.le_refl 0) (Nat.le_refl 0) (fun v37 s38 h => ?_)
            refine r_if_eq 95 81 dX9_next_78 (by decide) rfl (fun hc => ?_) (fun hc => ?_)
            · replace h := Out_pos hc h
              refine r_iconst (-1) 96 dX9_next_95 rfl (by decide) ?_
              exact r_ireturn dX9_next_96 rfl (Nat.le_refl 0) (Nat.le_refl 0) h
            · replace h := Out_neg hc h
              refine r_aload_n 82 dX9_next_81 rfl rfl ?_
              refine r_iload 84 dX9_next_82 rfl rfl ?_
              refine c_I [vq (some (9, 0)), vi (a1 + (-1))] [] 87 cs9_next_84 rfl h (fun _ h' => ct9_isSquare h') rfl rfl rfl rfl (by decide) (Nat.le_refl 0) (Nat.le_refl 0) (fun v39 s40 h => ?_)
              refine r_if_eq 95 90 dX9_next_87 (by decide) rfl (fun hc => ?_) (fun hc => ?_)
              · replace h := Out_pos hc h
                refine r_iconst (-1) 96 dX9_next_95 rfl (by decide) ?_
                exact r_ireturn dX9_next_96 rfl (Nat.le_refl 0) (Nat.le_refl 0) h
              · replace h := Out_neg hc h
                refine r_iload 92 dX9_next_90 rfl rfl ?_
                refine r_goto 96 dX9_next_92 (by decide) ?_
                exact r_ireturn dX9_next_96 rfl (Nat.le_refl 0) (Nat.le_refl 0) h
          · replace h := Out_pos hc h
            refine r_iconst 1 58 dX9_next_57 rfl (by decide) ?_
            refine r_goto 62 dX9_next_58 (by decide) ?_
            refine r_iadd 63 dX9_next_62 rfl ?_
            refine r_istore [some (vq (some (9, 0))), some (vi a1), some (vi a2), some (vi ((a1 - a1 / (gI σ 9 0 0) * (gI σ 9 0 0)) + (-1))), some (vi (a1 + 1))] 65 dX9_next_63 rfl rfl rfl ?_
            refine r_iload_n 66 dX9_next_65 rfl rfl ?_
            refine r_i2l 67 dX9_next_66 rfl ?_
            refine r_lconst 0 68 dX9_next_67 rfl (by decide) ?_
            refine r_aload_n 69 dX9_next_68 rfl rfl ?_
            refine r_getI (x := fe9_147) 0 72 fl9_147 (by decide) dX9_next_69 rfl rfl rfl ?_
            refine r_iconst 1 73 dX9_next_72 rfl (by decide) ?_
            refine r_isub 74 dX9_next_73 rfl ?_
            refine r_i2l 75 dX9_next_74 rfl ?_
            refine c_I [vl (((a1 - a1 / (gI σ 9 0 0) * (gI σ 9 0 0)) + (-1)).toInt64), vl 0, vl (((gI σ 9 0 0) - 1).toInt64)] [] 78 cs9_next_75 rfl h (fun _ h' => ct9_in h') rfl rfl rfl rfl (by decide) (Nat.le_refl 0) (Nat.le_refl 0) (fun v41 s42 h => ?_)
            refine r_if_eq 95 81 dX9_next_78 (by decide) rfl (fun hc => ?_) (fun hc => ?_)
            · replace h := Out_pos hc h
              refine r_iconst (-1) 96 dX9_next_95 rfl (by decide) ?_
              exact r_ireturn dX9_next_96 rfl (Nat.le_refl 0) (Nat.le_refl 0) h
            · replace h := Out_neg hc h
              refine r_aload_n 82 dX9_next_81 rfl rfl ?_
              refine r_iload 84 dX9_next_82 rfl rfl ?_
              refine c_I [vq (some (9, 0)), vi (a1 + 1)] [] 87 cs9_next_84 rfl h (fun _ h' => ct9_isSquare h') rfl rfl rfl rfl (by decide) (Nat.le_refl 0) (Nat.le_refl 0) (fun v43 s44 h => ?_)
              refine r_if_eq 95 90 dX9_next_87 (by decide) rfl (fun hc => ?_) (fun hc => ?_)
              · replace h := Out_pos hc h
                refine r_iconst (-1) 96 dX9_next_95 rfl (by decide) ?_
                exact r_ireturn dX9_next_96 rfl (Nat.le_refl 0) (Nat.le_refl 0) h
              · replace h := Out_neg hc h
                refine r_iload 92 dX9_next_90 rfl rfl ?_
                refine r_goto 96 dX9_next_92 (by decide) ?_
                exact r_ireturn dX9_next_96 rfl (Nat.le_refl 0) (Nat.le_refl 0) h
        · replace h := Out_pos hc h
          refine r_aload_n 46 dX9_next_45 rfl rfl ?_
          refine r_getI (x := fe9_147) 0 49 fl9_147 (by decide) dX9_next_46 rfl rfl rfl ?_
          refine r_goto 62 dX9_next_49 (by decide) ?_
          refine r_iadd 63 dX9_next_62 rfl ?_
          refine r_istore [some (vq (some (9, 0))), some (vi a1), some (vi a2), some (vi ((a1 - a1 / (gI σ 9 0 0) * (gI σ 9 0 0)) + (-1))), some (vi (a1 + (gI σ 9 0 0)))] 65 dX9_next_63 rfl rfl rfl ?_
          refine r_iload_n 66 dX9_next_65 rfl rfl ?_
          refine r_i2l 67 dX9_next_66 rfl ?_
          refine r_lconst 0 68 dX9_next_67 rfl (by decide) ?_
          refine r_aload_n 69 dX9_next_68 rfl rfl ?_
          refine r_getI (x := fe9_147) 0 72 fl9_147 (by decide) dX9_next_69 rfl rfl rfl ?_
          refine r_iconst 1 73 dX9_next_72 rfl (by decide) ?_
          refine r_isub 74 dX9_next_73 rfl ?_
          refine r_i2l 75 dX9_next_74 rfl ?_
          refine c_I [vl (((a1 - a1 / (gI σ 9 0 0) * (gI σ 9 0 0)) + (-1)).toInt64), vl 0, vl (((gI σ 9 0 0) - 1).toInt64)] [] 78 cs9_next_75 rfl h (fun _ h' => ct9_in h') rfl rfl rfl rfl (by decide) (Nat.le_refl 0) (Nat.le_refl 0) (fun v45 s46 h => ?_)
          refine r_if_eq 95 81 dX9_next_78 (by decide) rfl (fun hc => ?_) (fun hc => ?_)
          · replace h := Out_pos hc h
            refine r_iconst (-1) 96 dX9_next_95 rfl (by decide) ?_
            exact r_ireturn dX9_next_96 rfl (Nat.le_refl 0) (Nat.le_refl 0) h
          · replace h := Out_neg hc h
            refine r_aload_n 82 dX9_next_81 rfl rfl ?_
            refine r_iload 84 dX9_next_82 rfl rfl ?_
            refine c_I [vq (some (9, 0)), vi (a1 + (gI σ 9 0 0))] [] 87 cs9_next_84 rfl h (fun _ h' => ct9_isSquare h') rfl rfl rfl rfl (by decide) (Nat.le_refl 0) (Nat.le_refl 0) (fun v47 s48 h => ?_)
            refine r_if_eq 95 90 dX9_next_87 (by decide) rfl (fun hc => ?_) (fun hc => ?_)
            · replace h := Out_pos hc h
              refine r_iconst (-1) 96 dX9_next_95 rfl (by decide) ?_
              exact r_ireturn dX9_next_96 rfl (Nat.le_refl 0) (Nat.le_refl 0) h
            · replace h := Out_neg hc h
              refine r_iload 92 dX9_next_90 rfl rfl ?_
              refine r_goto 96 dX9_next_92 (by decide) ?_
              exact r_ireturn dX9_next_96 rfl (Nat.le_refl 0) (Nat.le_refl 0) h
      · replace h := Out_pos hc h
        refine r_aload_n 33 dX9_next_32 rfl rfl ?_
        refine r_getI (x := fe9_147) 0 36 fl9_147 (by decide) dX9_next_33 rfl rfl rfl ?_
        refine r_ineg 37 dX9_next_36 rfl ?_
        refine r_goto 62 dX9_next_37 (by decide) ?_
        refine r_iadd 63 dX9_next_62 rfl ?_
        refine r_istore [some (vq (some (9, 0))), some (vi a1), some (vi a2), some (vi ((a1 - a1 / (gI σ 9 0 0) * (gI σ 9 0 0)) + (-1))), some (vi (a1 + (-(gI σ 9 0 0))))] 65 dX9_next_63 rfl rfl rfl ?_
        refine r_iload_n 66 dX9_next_65 rfl rfl ?_
        refine r_i2l 67 dX9_next_66 rfl ?_
        refine r_lconst 0 68 dX9_next_67 rfl (by decide) ?_
        refine r_aload_n 69 dX9_next_68 rfl rfl ?_
        refine r_getI (x := fe9_147) 0 72 fl9_147 (by decide) dX9_next_69 rfl rfl rfl ?_
        refine r_iconst 1 73 dX9_next_72 rfl (by decide) ?_
        refine r_isub 74 dX9_next_73 rfl ?_
        refine r_i2l 75 dX9_next_74 rfl ?_
        refine c_I [vl (((a1 - a1 / (gI σ 9 0 0) * (gI σ 9 0 0)) + (-1)).toInt64), vl 0, vl (((gI σ 9 0 0) - 1).toInt64)] [] 78 cs9_next_75 rfl h (fun _ h' => ct9_in h') rfl rfl rfl rfl (by decide) (Nat.le_refl 0) (Nat.le_refl 0) (fun v49 s50 h => ?_)
        refine r_if_eq 95 81 dX9_next_78 (by decide) rfl (fun hc => ?_) (fun hc => ?_)
        · replace h := Out_pos hc h
          refine r_iconst (-1) 96 dX9_next_95 rfl (by decide) ?_
          exact r_ireturn dX9_next_96 rfl (Nat.le_refl 0) (Nat.le_refl 0) h
        · replace h := Out_neg hc h
          refine r_aload_n 82 dX9_next_81 rfl rfl ?_
          refine r_iload 84 dX9_next_82 rfl rfl ?_
          refine c_I [vq (some (9, 0)), vi (a1 + (-(gI σ 9 0 0)))] [] 87 cs9_next_84 rfl h (fun _ h' => ct9_isSquare h') rfl rfl rfl rfl (by decide) (Nat.le_refl 0) (Nat.le_refl 0) (fun v51 s52 h => ?_)
          refine r_if_eq 95 90 dX9_next_87 (by decide) rfl (fun hc => ?_) (fun hc => ?_)
          · replace h := Out_pos hc h
            refine r_iconst (-1) 96 dX9_next_95 rfl (by decide) ?_
            exact r_ireturn dX9_next_96 rfl (Nat.le_refl 0) (Nat.le_refl 0) h
          · replace h := Out_neg hc h
            refine r_iload 92 dX9_next_90 rfl rfl ?_
            refine r_goto 96 dX9_next_92 (by decide) ?_
            exact r_ireturn dX9_next_96 rfl (Nat.le_refl 0) (Nat.le_refl 0) h
  · replace h := Out_pos hc h
    refine r_iconst 1 12 dX9_next_11 rfl (by decide) ?_
    refine r_goto 25 dX9_next_12 (by decide) ?_
    refine r_iadd 26 dX9_next_25 rfl ?_
    refine r_istore_n [some (vq (some (9, 0))), some (vi a1), some (vi a2), some (vi ((a1 - a1 / (gI σ 9 0 0) * (gI σ 9 0 0)) + 1)), none] 27 dX9_next_26 rfl rfl rfl ?_
    refine r_iload_n 28 dX9_next_27 rfl rfl ?_
    refine r_iload_n 29 dX9_next_28 rfl rfl ?_
    refine r_if_ne 40 32 dX9_next_29 (by decide) rfl (fun hc => ?_) (fun hc => ?_)
    · replace h := Out_neg hc h
      refine r_iload_n 41 dX9_next_40 rfl rfl ?_
      refine r_iconst 2 42 dX9_next_41 rfl (by decide) ?_
      refine r_icmp_ne 52 45 dX9_next_42 (by decide) rfl (fun hc => ?_) (fun hc => ?_)
      · replace h := Out_neg hc h
        refine r_iload_n 53 dX9_next_52 rfl rfl ?_
        refine r_iconst 1 54 dX9_next_53 rfl (by decide) ?_
        refine r_icmp_ne 61 57 dX9_next_54 (by decide) rfl (fun hc => ?_) (fun hc => ?_)
        · replace h := Out_neg hc h
          refine r_iconst (-1) 62 dX9_next_61 rfl (by decide) ?_
          refine r_iadd 63 dX9_next_62 rfl ?_
          refine r_istore [some (vq (some (9, 0))), some (vi a1), some (vi a2), some (vi ((a1 - a1 / (gI σ 9 0 0) * (gI σ 9 0 0)) + 1)), some (vi (a1 + (-1)))] 65 dX9_next_63 rfl rfl rfl ?_
          refine r_iload_n 66 dX9_next_65 rfl rfl ?_
          refine r_i2l 67 dX9_next_66 rfl ?_
          refine r_lconst 0 68 dX9_next_67 rfl (by decide) ?_
          refine r_aload_n 69 dX9_next_68 rfl rfl ?_
          refine r_getI (x := fe9_147) 0 72 fl9_147 (by decide) dX9_next_69 rfl rfl rfl ?_
          refine r_iconst 1 73 dX9_next_72 rfl (by decide) ?_
          refine r_isub 74 dX9_next_73 rfl ?_
          refine r_i2l 75 dX9_next_74 rfl ?_
          refine c_I [vl (((a1 - a1 / (gI σ 9 0 0) * (gI σ 9 0 0)) + 1).toInt64), vl 0, vl (((gI σ 9 0 0) - 1).toInt64)] [] 78 cs9_next_75 rfl h (fun _ h' => ct9_in h') rfl rfl rfl rfl (by decide) (Nat.le_refl 0) (Nat.le_refl 0) (fun v53 s54 h => ?_)
          refine r_if_eq 95 81 dX9_next_78 (by decide) rfl (fun hc => ?_) (fun hc => ?_)
          · replace h := Out_pos hc h
            refine r_iconst (-1) 96 dX9_next_95 rfl (by decide) ?_
            exact r_ireturn dX9_next_96 rfl (Nat.le_refl 0) (Nat.le_refl 0) h
          · replace h := Out_neg hc h
            refine r_aload_n 82 dX9_next_81 rfl rfl ?_
            refine r_iload 84 dX9_next_82 rfl rfl ?_
            refine c_I [vq (some (9, 0)), vi (a1 + (-1))] [] 87 cs9_next_84 rfl h (fun _ h' => ct9_isSquare h') rfl rfl rfl rfl (by decide) (Nat.le_refl 0) (Nat.le_refl 0) (fun v55 s56 h => ?_)
            refine r_if_eq 95 90 dX9_next_87 (by decide) rfl (fun hc => ?_) (fun hc => ?_)
            · replace h := Out_pos hc h
              refine r_iconst (-1) 96 dX9_next_95 rfl (by decide) ?_
              exact r_ireturn dX9_next_96 rfl (Nat.le_refl 0) (Nat.le_refl 0) h
            · replace h := Out_neg hc h
              refine r_iload 92 dX9_next_90 rfl rfl ?_
              refine r_goto 96 dX9_next_92 (by decide) ?_
              exact r_ireturn dX9_next_96 rfl (Nat.le_refl 0) (Nat.le_refl 0) h
        · replace h := Out_pos hc h
          refine r_iconst 1 58 dX9_next_57 rfl (by decide) ?_
          refine r_goto 62 dX9_next_58 (by decide) ?_
          refine r_iadd 63 dX9_next_62 rfl ?_
          refine r_istore [some (vq (some (9, 0))), some (vi a1), some (vi a2), some (vi ((a1 - a1 / (gI σ 9 0 0) * (gI σ 9 0 0)) + 1)), some (vi (a1 + 1))] 65 dX9_next_63 rfl rfl rfl ?_
          refine r_iload_n 66 dX9_next_65 rfl rfl ?_
          refine r_i2l 67 dX9_next_66 rfl ?_
          refine r_lconst 0 68 dX9_next_67 rfl (by decide) ?_
          refine r_aload_n 69 dX9_next_68 rfl rfl ?_
          refine r_getI (x := fe9_147) 0 72 fl9_147 (by decide) dX9_next_69 rfl rfl rfl ?_
          refine r_iconst 1 73 dX9_next_72 rfl (by decide) ?_
          refine r_isub 74 dX9_next_73 rfl ?_
          refine r_i2l 75 dX9_next_74 rfl ?_
          refine c_I [vl (((a1 - a1 / (gI σ 9 0 0) * (gI σ 9 0 0)) + 1).toInt64), vl 0, vl (((gI σ 9 0 0) - 1).toInt64)] [] 78 cs9_next_75 rfl h (fun _ h' => ct9_in h') rfl rfl rfl rfl (by decide) (Nat.le_refl 0) (Nat.le_refl 0) (fun v57 s58 h => ?_)
          refine r_if_eq 95 81 dX9_next_78 (by decide) rfl (fun hc => ?_) (fun hc => ?_)
          · replace h := Out_pos hc h
            refine r_iconst (-1) 96 dX9_next_95 rfl (by decide) ?_
            exact r_ireturn dX9_next_96 rfl (Nat.le_refl 0) (Nat.le_refl 0) h
          · replace h := Out_neg hc h
            refine r_aload_n 82 dX9_next_81 rfl rfl ?_
            refine r_iload 84 dX9_next_82 rfl rfl ?_
            refine c_I [vq (some (9, 0)), vi (a1 + 1)] [] 87 cs9_next_84 rfl h (fun _ h' => ct9_isSquare h') rfl rfl rfl rfl (by decide) (Nat.le_refl 0) (Nat.le_refl 0) (fun v59 s60 h => ?_)
            refine r_if_eq 95 90 dX9_next_87 (by decide) rfl (fun hc => ?_) (fun hc => ?_)
            · replace h := Out_pos hc h
              refine r_iconst (-1) 96 dX9_next_95 rfl (by decide) ?_
              exact r_ireturn dX9_next_96 rfl (Nat.le_refl 0) (Nat.le_refl 0) h
            · replace h := Out_neg hc h
              refine r_iload 92 dX9_next_90 rfl rfl ?_
              refine r_goto 96 dX9_next_92 (by decide) ?_
              exact r_ireturn dX9_next_96 rfl (Nat.le_refl 0) (Nat.le_refl 0) h
      · replace h := Out_pos hc h
        refine r_aload_n 46 dX9_next_45 rfl rfl ?_
        refine r_getI (x := fe9_147) 0 49 fl9_147 (by decide) dX9_next_46 rfl rfl rfl ?_
        refine r_goto 62 dX9_next_49 (by decide) ?_
        refine r_iadd 63 dX9_next_62 rfl ?_
        refine r_istore [some (vq (some (9, 0))), some (vi a1), some (vi a2), some (vi ((a1 - a1 / (gI σ 9 0 0) * (gI σ 9 0 0)) + 1)), some (vi (a1 + (gI σ 9 0 0)))] 65 dX9_next_63 rfl rfl rfl ?_
        refine r_iload_n 66 dX9_next_65 rfl rfl ?_
        refine r_i2l 67 dX9_next_66 rfl ?_
        refine r_lconst 0 68 dX9_next_67 rfl (by decide) ?_
        refine r_aload_n 69 dX9_next_68 rfl rfl ?_
        refine r_getI (x := fe9_147) 0 72 fl9_147 (by decide) dX9_next_69 rfl rfl rfl ?_
        refine r_iconst 1 73 dX9_next_72 rfl (by decide) ?_
        refine r_isub 74 dX9_next_73 rfl ?_
        refine r_i2l 75 dX9_next_74 rfl ?_
        refine c_I [vl (((a1 - a1 / (gI σ 9 0 0) * (gI σ 9 0 0)) + 1).toInt64), vl 0, vl (((gI σ 9 0 0) - 1).toInt64)] [] 78 cs9_next_75 rfl h (fun _ h' => ct9_in h') rfl rfl rfl rfl (by decide) (Nat.le_refl 0) (Nat.le_refl 0) (fun v61 s62 h => ?_)
        refine r_if_eq 95 81 dX9_next_78 (by decide) rfl (fun hc => ?_) (fun hc => ?_)
        · replace h := Out_pos hc h
          refine r_iconst (-1) 96 dX9_next_95 rfl (by decide) ?_
          exact r_ireturn dX9_next_96 rfl (Nat.le_refl 0) (Nat.le_refl 0) h
        · replace h := Out_neg hc h
          refine r_aload_n 82 dX9_next_81 rfl rfl ?_
          refine r_iload 84 dX9_next_82 rfl rfl ?_
          refine c_I [vq (some (9, 0)), vi (a1 + (gI σ 9 0 0))] [] 87 cs9_next_84 rfl h (fun _ h' => ct9_isSquare h') rfl rfl rfl rfl (by decide) (Nat.le_refl 0) (Nat.le_refl 0) (fun v63 s64 h => ?_)
          refine r_if_eq 95 90 dX9_next_87 (by decide) rfl (fun hc => ?_) (fun hc => ?_)
          · replace h := Out_pos hc h
            refine r_iconst (-1) 96 dX9_next_95 rfl (by decide) ?_
            exact r_ireturn dX9_next_96 rfl (Nat.le_refl 0) (Nat.le_refl 0) h
          · replace h := Out_neg hc h
            refine r_iload 92 dX9_next_90 rfl rfl ?_
            refine r_goto 96 dX9_next_92 (by decide) ?_
            exact r_ireturn dX9_next_96 rfl (Nat.le_refl 0) (Nat.le_refl 0) h
    · replace h := Out_pos hc h
      refine r_aload_n 33 dX9_next_32 rfl rfl ?_
      refine r_getI (x := fe9_147) 0 36 fl9_147 (by decide) dX9_next_33 rfl rfl rfl ?_
      refine r_ineg 37 dX9_next_36 rfl ?_
      refine r_goto 62 dX9_next_37 (by decide) ?_
      refine r_iadd 63 dX9_next_62 rfl ?_
      refine r_istore [some (vq (some (9, 0))), some (vi a1), some (vi a2), some (vi ((a1 - a1 / (gI σ 9 0 0) * (gI σ 9 0 0)) + 1)), some (vi (a1 + (-(gI σ 9 0 0))))] 65 dX9_next_63 rfl rfl rfl ?_
      refine r_iload_n 66 dX9_next_65 rfl rfl ?_
      refine r_i2l 67 dX9_next_66 rfl ?_
      refine r_lconst 0 68 dX9_next_67 rfl (by decide) ?_
      refine r_aload_n 69 dX9_next_68 rfl rfl ?_
      refine r_getI (x := fe9_147) 0 72 fl9_147 (by decide) dX9_next_69 rfl rfl rfl ?_
      refine r_iconst 1 73 dX9_next_72 rfl (by decide) ?_
      refine r_isub 74 dX9_next_73 rfl ?_
      refine r_i2l 75 dX9_next_74 rfl ?_
      refine c_I [vl (((a1 - a1 / (gI σ 9 0 0) * (gI σ 9 0 0)) + 1).toInt64), vl 0, vl (((gI σ 9 0 0) - 1).toInt64)] [] 78 cs9_next_75 rfl h (fun _ h' => ct9_in h') rfl rfl rfl rfl (by decide) (Nat.le_refl 0) (Nat.le_refl 0) (fun v65 s66 h => ?_)
      refine r_if_eq 95 81 dX9_next_78 (by decide) rfl (fun hc => ?_) (fun hc => ?_)
      · replace h := Out_pos hc h
        refine r_iconst (-1) 96 dX9_next_95 rfl (by decide) ?_
        exact r_ireturn dX9_next_96 rfl (Nat.le_refl 0) (Nat.le_refl 0) h
      · replace h := Out_neg hc h
        refine r_aload_n 82 dX9_next_81 rfl rfl ?_
        refine r_iload 84 dX9_next_82 rfl rfl ?_
        refine c_I [vq (some (9, 0)), vi (a1 + (-(gI σ 9 0 0)))] [] 87 cs9_next_84 rfl h (fun _ h' => ct9_isSquare h') rfl rfl rfl rfl (by decide) (Nat.le_refl 0) (Nat.le_refl 0) (fun v67 s68 h => ?_)
        refine r_if_eq 95 90 dX9_next_87 (by decide) rfl (fun hc => ?_) (fun hc => ?_)
        · replace h := Out_pos hc h
          refine r_iconst (-1) 96 dX9_next_95 rfl (by decide) ?_
          exact r_ireturn dX9_next_96 rfl (Nat.le_refl 0) (Nat.le_refl 0) h
        · replace h := Out_neg hc h
          refine r_iload 92 dX9_next_90 rfl rfl ?_
          refine r_goto 96 dX9_next_92 (by decide) ?_
          exact r_ireturn dX9_next_96 rfl (Nat.le_refl 0) (Nat.le_refl 0) h

set_option maxRecDepth 20000 in
set_option maxHeartbeats 4000000 in
theorem tl9_peaAt_2 {Γ : GG} {K : Int32 × Sto → Prop} {a1 : Int32} : ∀ (n : Nat) (a2 : Int32) (σ : Sto), Out (l9_peaAt_2 a1 n a2 σ) K → M true Γ mX9_peaAt 0 0 0 0 0 (QI K) 2 [some (vq (some (9, 0))), some (vi a1), some (vi a2)] [] σ := by
  intro n
  induction n with
  | zero => intro a2 σ h; exact absurd h Out_none
  | succ n ih =>
    intro a2 σ h
    unfold l9_peaAt_2 at h
    refine r_iload_n 3 dX9_peaAt_2 rfl rfl ?_
    refine r_aload_n 4 dX9_peaAt_3 rfl rfl ?_
    refine r_getI (x := fe9_75) 3 7 fl9_75 (by decide) dX9_peaAt_4 rfl rfl rfl ?_
    refine r_icmp_ge 28 10 dX9_peaAt_7 (by decide) rfl (fun hc => ?_) (fun hc => ?_)
    · replace h := Out_pos hc h
      refine r_iconst (-1) 29 dX9_peaAt_28 rfl (by decide) ?_
      exact r_ireturn dX9_peaAt_29 rfl (Nat.le_refl 0) (Nat.le_refl 0) h
    · replace h := Out_neg hc h
      refine r_aload_n 11 dX9_peaAt_10 rfl rfl ?_
      refine r_getF (x := fe9_55) 30 (39, 0) 14 fl9_55 (by decide) dX9_peaAt_11 rfl rfl rfl rfl ?_
      refine r_iload_n 15 dX9_peaAt_14 rfl rfl ?_
      obtain ⟨hc, h⟩ := Out_grd h
      refine r_iaload a2.toNatClampNeg 5 16 dX9_peaAt_15 rfl (by decide) rfl rfl hc rfl ?_
      refine r_iload_n 17 dX9_peaAt_16 rfl rfl ?_
      refine r_icmp_ne 22 20 dX9_peaAt_17 (by decide) rfl (fun hc => ?_) (fun hc => ?_)
      · replace h := Out_neg hc h
        refine r_iinc 1 [some (vq (some (9, 0))), some (vi a1), some (vi (a2 + 1))] 25 dX9_peaAt_22 rfl (by decide) rfl rfl rfl ?_
        refine r_goto 2 dX9_peaAt_25 (by decide) ?_
        exact ih (a2 + 1) σ h
      · replace h := Out_pos hc h
        refine r_iload_n 21 dX9_peaAt_20 rfl rfl ?_
        exact r_ireturn dX9_peaAt_21 rfl (Nat.le_refl 0) (Nat.le_refl 0) h
set_option maxRecDepth 20000 in
set_option maxHeartbeats 4000000 in
theorem ct9_peaAt {Γ : GG} {K : Int32 × Sto → Prop} {a1 : Int32} {σ : Sto} (h : Out (f9_peaAt a1 σ) K) : Ct true Γ mX9_peaAt 0 0 0 [vq (some (9, 0)), vi a1] σ (QI K) := by
  refine Ct_intro (by decide +kernel) rfl ?_
  show M true Γ mX9_peaAt 0 0 0 0 0 (QI K) 0 [some (vq (some (9, 0))), some (vi a1), none] [] σ
  unfold f9_peaAt at h
  refine r_iconst 0 1 dX9_peaAt_0 rfl (by decide) ?_
  refine r_istore_n [some (vq (some (9, 0))), some (vi a1), some (vi 0)] 2 dX9_peaAt_1 rfl rfl rfl ?_
  exact tl9_peaAt_2 300 0 σ h

set_option maxRecDepth 20000 in
set_option maxHeartbeats 4000000 in
theorem tl9_isHeld_2 {Γ : GG} {K : Int32 × Sto → Prop} {k : Int32 → Sto → Option (Int32 × Sto)} {a2 : Int32} (hx : ∀ (a3 : Int32) (σ : Sto), Out (k a3 σ) K → M true Γ mX9_isHeld 3 0 0 0 0 (QI K) 24 [some (vq (some (9, 0))), none, some (vi a2), some (vi a3), none] [] σ) : ∀ (n : Nat) (a3 : Int32) (σ : Sto), Out (l9_isHeld_2 k a2 n a3 σ) K → M true Γ mX9_isHeld 3 0 0 0 0 (QI K) 2 [some (vq (some (9, 0))), none, some (vi a2), some (vi a3), none] [] σ := by
  intro n
  induction n with
  | zero => intro a3 σ h; exact absurd h Out_none
  | succ n ih =>
    intro a3 σ h
    unfold l9_isHeld_2 at h
    refine r_iload_n 3 dX9_isHeld_2 rfl rfl ?_
    refine r_if_lt 61 6 dX9_isHeld_3 (by decide) rfl (fun hc => ?_) (fun hc => ?_)
    · replace h := Out_pos hc h
      refine r_iconst 0 62 dX9_isHeld_61 rfl (by decide) ?_
      exact r_zreturn dX9_isHeld_62 rfl (by decide) (Nat.le_refl 0) (Nat.le_refl 0) h
    · replace h := Out_neg hc h
      refine r_aload_n 7 dX9_isHeld_6 rfl rfl ?_
      refine r_aload_n 8 dX9_isHeld_7 rfl rfl ?_
      refine r_getF (x := fe9_55) 30 (39, 0) 11 fl9_55 (by decide) dX9_isHeld_8 rfl rfl rfl rfl ?_
      refine r_iload_n 12 dX9_isHeld_11 rfl rfl ?_
      obtain ⟨hc, h⟩ := Out_grd h
      refine r_iaload a3.toNatClampNeg 5 13 dX9_isHeld_12 rfl (by decide) rfl rfl hc rfl ?_
      refine r_iload_n 14 dX9_isHeld_13 rfl rfl ?_
      refine c_I [vq (some (9, 0)), vi (gI σ 39 0 a3.toNatClampNeg), vi a2] [] 17 cs9_isHeld_14 rfl h (fun _ h' => ct9_next h') rfl rfl rfl rfl (by decide) (Nat.le_refl 0) (Nat.le_refl 0) (fun v21 s22 h => ?_)
      refine r_istore [some (vq (some (9, 0))), none, some (vi a2), some (vi a3), some (vi v21)] 19 dX9_isHeld_17 rfl rfl rfl ?_
      refine r_iload 21 dX9_isHeld_19 rfl rfl ?_
      refine r_if_ge 38 24 dX9_isHeld_21 (by decide) rfl (fun hc => ?_) (fun hc => ?_)
      · replace h := Out_pos hc h
        refine r_aload_n 39 dX9_isHeld_38 rfl rfl ?_
        refine r_getF (x := fe9_7) 2 (24, 0) 42 fl9_7 (by decide) dX9_isHeld_39 rfl rfl rfl rfl ?_
        refine r_iload 44 dX9_isHeld_42 rfl rfl ?_
        obtain ⟨hc, h⟩ := Out_grd h
        refine r_iaload v21.toNatClampNeg 30 45 dX9_isHeld_44 rfl (by decide) rfl rfl hc rfl ?_
        refine r_iconst 2 46 dX9_isHeld_45 rfl (by decide) ?_
        refine r_icmp_ne 51 49 dX9_isHeld_46 (by decide) rfl (fun hc => ?_) (fun hc => ?_)
        · replace h := Out_neg hc h
          refine r_aload_n 52 dX9_isHeld_51 rfl rfl ?_
          refine r_iload 54 dX9_isHeld_52 rfl rfl ?_
          refine c_I [vq (some (9, 0)), vi v21] [] 57 cs9_isHeld_54 rfl h (fun _ h' => ct9_peaAt h') rfl rfl rfl rfl (by decide) (Nat.le_refl 0) (Nat.le_refl 0) (fun v23 s24 h => ?_)
          refine r_istore_n [some (vq (some (9, 0))), none, some (vi a2), some (vi v23), some (vi v21)] 58 dX9_isHeld_57 rfl rfl rfl ?_
          refine r_goto 2 dX9_isHeld_58 (by decide) ?_
          refine r_mask [true, false, true, true, false] [some (vq (some (9, 0))), none, some (vi a2), some (vi v23), none] rfl rfl ?_
          exact ih v23 s24 h
        · replace h := Out_pos hc h
          refine r_iconst 1 50 dX9_isHeld_49 rfl (by decide) ?_
          exact r_zreturn dX9_isHeld_50 rfl (by decide) (Nat.le_refl 0) (Nat.le_refl 0) h
      · replace h := Out_neg hc h
        refine r_mask [true, false, true, true, false] [some (vq (some (9, 0))), none, some (vi a2), some (vi a3), none] rfl rfl ?_
        exact hx a3 s22 h
set_option maxRecDepth 20000 in
set_option maxHeartbeats 4000000 in
theorem ct9_isHeld {Γ : GG} {K : Int32 × Sto → Prop} {a1 : Int32} {a2 : Int32} {σ : Sto} (h : Out (f9_isHeld a1 a2 σ) K) : Ct true Γ mX9_isHeld 3 0 0 [vq (some (9, 0)), vi a1, vi a2] σ (QI K) := by
  refine Ct_intro (by decide +kernel) rfl ?_
  show M true Γ mX9_isHeld 3 0 0 0 0 (QI K) 0 [some (vq (some (9, 0))), some (vi a1), some (vi a2), none, none] [] σ
  unfold f9_isHeld at h
  refine r_iload_n 1 dX9_isHeld_0 rfl rfl ?_
  refine r_istore_n [some (vq (some (9, 0))), some (vi a1), some (vi a2), some (vi a1), none] 2 dX9_isHeld_1 rfl rfl rfl ?_
  refine r_mask [true, false, true, true, false] [some (vq (some (9, 0))), none, some (vi a2), some (vi a1), none] rfl rfl ?_
  refine tl9_isHeld_2 (fun v25 s26 h => ?_) 300 a1 σ h
  refine r_aload_n 25 dX9_isHeld_24 rfl rfl ?_
  refine r_getI (x := fe9_150) 8 28 fl9_150 (by decide) dX9_isHeld_25 rfl rfl rfl ?_
  refine r_iconst 2 29 dX9_isHeld_28 rfl (by decide) ?_
  refine r_icmp_ne 36 32 dX9_isHeld_29 (by decide) rfl (fun hc => ?_) (fun hc => ?_)
  · replace h := Out_neg hc h
    refine r_iconst 0 37 dX9_isHeld_36 rfl (by decide) ?_
    exact r_zreturn dX9_isHeld_37 rfl (by decide) (Nat.le_refl 0) (Nat.le_refl 0) h
  · replace h := Out_pos hc h
    refine r_iconst 1 33 dX9_isHeld_32 rfl (by decide) ?_
    refine r_goto 37 dX9_isHeld_33 (by decide) ?_
    exact r_zreturn dX9_isHeld_37 rfl (by decide) (Nat.le_refl 0) (Nat.le_refl 0) h

set_option maxRecDepth 20000 in
set_option maxHeartbeats 4000000 in
theorem tl9_roll_9 {Γ : GG} {K : Sto → Prop}  : ∀ (n : Nat) (a4 : Int32) (a5 : Int32) (a6 : Int32) (σ : Sto), Out (l9_roll_9  n a4 a5 a6 σ) K → M true Γ mX9_roll 3 0 0 0 0 (QV K) 9 [some (vq (some (9, 0))), none, none, none, some (vi a4), some (vi a5), some (vi a6), none] [] σ := by
  intro n
  induction n with
  | zero => intro a4 a5 a6 σ h; exact absurd h Out_none
  | succ n ih =>
    intro a4 a5 a6 σ h
    unfold l9_roll_9 at h
    refine r_iload 11 dX9_roll_9 rfl rfl ?_
    refine r_if_le 166 14 dX9_roll_11 (by decide) rfl (fun hc => ?_) (fun hc => ?_)
    · replace h := Out_pos hc h
      exact r_return dX9_roll_166 rfl (Nat.le_refl 0) (Nat.le_refl 0) h
    · replace h := Out_neg hc h
      refine r_aload_n 15 dX9_roll_14 rfl rfl ?_
      refine r_aload_n 16 dX9_roll_15 rfl rfl ?_
      refine r_getF (x := fe9_55) 30 (39, 0) 19 fl9_55 (by decide) dX9_roll_16 rfl rfl rfl rfl ?_
      refine r_iload 21 dX9_roll_19 rfl rfl ?_
      obtain ⟨hc, h⟩ := Out_grd h
      refine r_iaload a4.toNatClampNeg 5 22 dX9_roll_21 rfl (by decide) rfl rfl hc rfl ?_
      refine r_iload 24 dX9_roll_22 rfl rfl ?_
      refine c_I [vq (some (9, 0)), vi (gI σ 39 0 a4.toNatClampNeg), vi a6] [] 27 cs9_roll_24 rfl h (fun _ h' => ct9_next h') rfl rfl rfl rfl (by decide) (Nat.le_refl 0) (Nat.le_refl 0) (fun v21 s22 h => ?_)
      refine r_istore [some (vq (some (9, 0))), none, none, none, some (vi a4), some (vi a5), some (vi a6), some (vi v21)] 29 dX9_roll_27 rfl rfl rfl ?_
      refine r_iload 31 dX9_roll_29 rfl rfl ?_
      refine r_if_ge 55 34 dX9_roll_31 (by decide) rfl (fun hc => ?_) (fun hc => ?_)
      · replace h := Out_pos hc h
        refine r_iload 57 dX9_roll_55 rfl rfl ?_
        refine r_if_ge 93 60 dX9_roll_57 (by decide) rfl (fun hc => ?_) (fun hc => ?_)
        · replace h := Out_pos hc h
          refine r_aload_n 94 dX9_roll_93 rfl rfl ?_
          refine r_getF (x := fe9_7) 2 (24, 0) 97 fl9_7 (by decide) dX9_roll_94 rfl rfl rfl rfl ?_
          refine r_iload 99 dX9_roll_97 rfl rfl ?_
          obtain ⟨hc, h⟩ := Out_grd h
          refine r_iaload v21.toNatClampNeg 30 100 dX9_roll_99 rfl (by decide) rfl rfl hc rfl ?_
          refine r_iconst 2 101 dX9_roll_100 rfl (by decide) ?_
          refine r_icmp_ne 110 104 dX9_roll_101 (by decide) rfl (fun hc => ?_) (fun hc => ?_)
          · replace h := Out_neg hc h
            refine r_aload_n 111 dX9_roll_110 rfl rfl ?_
            refine r_iload 113 dX9_roll_111 rfl rfl ?_
            refine c_I [vq (some (9, 0)), vi v21] [] 116 cs9_roll_113 rfl h (fun _ h' => ct9_peaAt h') rfl rfl rfl rfl (by decide) (Nat.le_refl 0) (Nat.le_refl 0) (fun v23 s24 h => ?_)
            refine r_if_lt 133 119 dX9_roll_116 (by decide) rfl (fun hc => ?_) (fun hc => ?_)
            · replace h := Out_pos hc h
              refine r_aload_n 134 dX9_roll_133 rfl rfl ?_
              refine r_getF (x := fe9_55) 30 (39, 0) 137 fl9_55 (by decide) dX9_roll_134 rfl rfl rfl rfl ?_
              refine r_iload 139 dX9_roll_137 rfl rfl ?_
              refine r_iload 141 dX9_roll_139 rfl rfl ?_
              obtain ⟨hc, h⟩ := Out_grd h
              refine r_iastore a4.toNatClampNeg 5 142 dX9_roll_141 rfl (by decide) (by decide) rfl rfl hc rfl ?_
              refine r_aload_n 143 dX9_roll_142 rfl rfl ?_
              refine r_getF (x := fe9_7) 2 (24, 0) 146 fl9_7 (by decide) dX9_roll_143 rfl rfl rfl rfl ?_
              refine r_iload 148 dX9_roll_146 rfl rfl ?_
              obtain ⟨hc, h⟩ := Out_grd h
              refine r_iaload v21.toNatClampNeg 30 149 dX9_roll_148 rfl (by decide) rfl rfl hc rfl ?_
              refine r_iconst 1 150 dX9_roll_149 rfl (by decide) ?_
              refine r_icmp_ne 157 153 dX9_roll_150 (by decide) rfl (fun hc => ?_) (fun hc => ?_)
              · replace h := Out_neg hc h
                refine r_iload 159 dX9_roll_157 rfl rfl ?_
                refine r_iconst 1 160 dX9_roll_159 rfl (by decide) ?_
                refine r_isub 161 dX9_roll_160 rfl ?_
                refine r_istore [some (vq (some (9, 0))), none, none, none, some (vi a4), some (vi (a5 - 1)), some (vi a6), some (vi v21)] 163 dX9_roll_161 rfl rfl rfl ?_
                refine r_goto 9 dX9_roll_163 (by decide) ?_
                refine r_mask [true, false, false, false, true, true, true, false] [some (vq (some (9, 0))), none, none, none, some (vi a4), some (vi (a5 - 1)), some (vi a6), none] rfl rfl ?_
                exact ih a4 (a5 - 1) a6 (sI s24 39 0 a4.toNatClampNeg v21) h
              · replace h := Out_pos hc h
                refine r_iconst 0 154 dX9_roll_153 rfl (by decide) ?_
                refine r_goto 161 dX9_roll_154 (by decide) ?_
                refine r_istore [some (vq (some (9, 0))), none, none, none, some (vi a4), some (vi 0), some (vi a6), some (vi v21)] 163 dX9_roll_161 rfl rfl rfl ?_
                refine r_goto 9 dX9_roll_163 (by decide) ?_
                refine r_mask [true, false, false, false, true, true, true, false] [some (vq (some (9, 0))), none, none, none, some (vi a4), some (vi 0), some (vi a6), none] rfl rfl ?_
                exact ih a4 0 a6 (sI s24 39 0 a4.toNatClampNeg v21) h
            · replace h := Out_neg hc h
              refine r_aload_n 120 dX9_roll_119 rfl rfl ?_
              refine r_iload 122 dX9_roll_120 rfl rfl ?_
              refine c_I [vq (some (9, 0)), vi v21] [] 125 cs9_roll_122 rfl h (fun _ h' => ct9_peaAt h') rfl rfl rfl rfl (by decide) (Nat.le_refl 0) (Nat.le_refl 0) (fun v25 s26 h => ?_)
              refine r_istore [some (vq (some (9, 0))), none, none, none, some (vi v25), some (vi a5), some (vi a6), some (vi v21)] 127 dX9_roll_125 rfl rfl rfl ?_
              refine r_iinc (-1) [some (vq (some (9, 0))), none, none, none, some (vi v25), some (vi (a5 + (-1))), some (vi a6), some (vi v21)] 130 dX9_roll_127 rfl (by decide) rfl rfl rfl ?_
              refine r_goto 163 dX9_roll_130 (by decide) ?_
              refine r_goto 9 dX9_roll_163 (by decide) ?_
              refine r_mask [true, false, false, false, true, true, true, false] [some (vq (some (9, 0))), none, none, none, some (vi v25), some (vi (a5 + (-1))), some (vi a6), none] rfl rfl ?_
              exact ih v25 (a5 + (-1)) a6 s26 h
          · replace h := Out_pos hc h
            refine r_iconst 0 105 dX9_roll_104 rfl (by decide) ?_
            refine r_istore [some (vq (some (9, 0))), none, none, none, some (vi a4), some (vi 0), some (vi a6), some (vi v21)] 107 dX9_roll_105 rfl rfl rfl ?_
            refine r_goto 163 dX9_roll_107 (by decide) ?_
            refine r_goto 9 dX9_roll_163 (by decide) ?_
            refine r_mask [true, false, false, false, true, true, true, false] [some (vq (some (9, 0))), none, none, none, some (vi a4), some (vi 0), some (vi a6), none] rfl rfl ?_
            exact ih a4 0 a6 s22 h
        · replace h := Out_neg hc h
          refine r_aload_n 61 dX9_roll_60 rfl rfl ?_
          refine r_getF (x := fe9_55) 30 (39, 0) 64 fl9_55 (by decide) dX9_roll_61 rfl rfl rfl rfl ?_
          refine r_iload 66 dX9_roll_64 rfl rfl ?_
          refine r_aload_n 67 dX9_roll_66 rfl rfl ?_
          refine r_getI (x := fe9_150) 8 70 fl9_150 (by decide) dX9_roll_67 rfl rfl rfl ?_
          refine r_iconst 1 71 dX9_roll_70 rfl (by decide) ?_
          refine r_icmp_ne 79 74 dX9_roll_71 (by decide) rfl (fun hc => ?_) (fun hc => ?_)
          · replace h := Out_neg hc h
            refine r_aload_n 80 dX9_roll_79 rfl rfl ?_
            refine r_getF (x := fe9_55) 30 (39, 0) 83 fl9_55 (by decide) dX9_roll_80 rfl rfl rfl rfl ?_
            refine r_iload 85 dX9_roll_83 rfl rfl ?_
            obtain ⟨hc, h⟩ := Out_grd h
            refine r_iaload a4.toNatClampNeg 5 86 dX9_roll_85 rfl (by decide) rfl rfl hc rfl ?_
            obtain ⟨hc, h⟩ := Out_grd h
            refine r_iastore a4.toNatClampNeg 5 87 dX9_roll_86 rfl (by decide) (by decide) rfl rfl hc rfl ?_
            refine r_iconst 0 88 dX9_roll_87 rfl (by decide) ?_
            refine r_istore [some (vq (some (9, 0))), none, none, none, some (vi a4), some (vi 0), some (vi a6), some (vi v21)] 90 dX9_roll_88 rfl rfl rfl ?_
            refine r_goto 163 dX9_roll_90 (by decide) ?_
            refine r_goto 9 dX9_roll_163 (by decide) ?_
            refine r_mask [true, false, false, false, true, true, true, false] [some (vq (some (9, 0))), none, none, none, some (vi a4), some (vi 0), some (vi a6), none] rfl rfl ?_
            exact ih a4 0 a6 (sI s22 39 0 a4.toNatClampNeg (gI s22 39 0 a4.toNatClampNeg)) h
          · replace h := Out_pos hc h
            refine r_bipush (-2) 76 dX9_roll_74 rfl (by decide) ?_
            refine r_goto 86 dX9_roll_76 (by decide) ?_
            obtain ⟨hc, h⟩ := Out_grd h
            refine r_iastore a4.toNatClampNeg 5 87 dX9_roll_86 rfl (by decide) (by decide) rfl rfl hc rfl ?_
            refine r_iconst 0 88 dX9_roll_87 rfl (by decide) ?_
            refine r_istore [some (vq (some (9, 0))), none, none, none, some (vi a4), some (vi 0), some (vi a6), some (vi v21)] 90 dX9_roll_88 rfl rfl rfl ?_
            refine r_goto 163 dX9_roll_90 (by decide) ?_
            refine r_goto 9 dX9_roll_163 (by decide) ?_
            refine r_mask [true, false, false, false, true, true, true, false] [some (vq (some (9, 0))), none, none, none, some (vi a4), some (vi 0), some (vi a6), none] rfl rfl ?_
            exact ih a4 0 a6 (sI s22 39 0 a4.toNatClampNeg (-2)) h
      · replace h := Out_neg hc h
        refine r_aload_n 35 dX9_roll_34 rfl rfl ?_
        refine r_getI (x := fe9_150) 8 38 fl9_150 (by decide) dX9_roll_35 rfl rfl rfl ?_
        refine r_if_ne 55 41 dX9_roll_38 (by decide) rfl (fun hc => ?_) (fun hc => ?_)
        · replace h := Out_neg hc h
          refine r_iload 57 dX9_roll_55 rfl rfl ?_
          refine r_if_ge 93 60 dX9_roll_57 (by decide) rfl (fun hc => ?_) (fun hc => ?_)
          · replace h := Out_pos hc h
            refine r_aload_n 94 dX9_roll_93 rfl rfl ?_
            refine r_getF (x := fe9_7) 2 (24, 0) 97 fl9_7 (by decide) dX9_roll_94 rfl rfl rfl rfl ?_
            refine r_iload 99 dX9_roll_97 rfl rfl ?_
            obtain ⟨hc, h⟩ := Out_grd h
            refine r_iaload v21.toNatClampNeg 30 100 dX9_roll_99 rfl (by decide) rfl rfl hc rfl ?_
            refine r_iconst 2 101 dX9_roll_100 rfl (by decide) ?_
            refine r_icmp_ne 110 104 dX9_roll_101 (by decide) rfl (fun hc => ?_) (fun hc => ?_)
            · replace h := Out_neg hc h
              refine r_aload_n 111 dX9_roll_110 rfl rfl ?_
              refine r_iload 113 dX9_roll_111 rfl rfl ?_
              refine c_I [vq (some (9, 0)), vi v21] [] 116 cs9_roll_113 rfl h (fun _ h' => ct9_peaAt h') rfl rfl rfl rfl (by decide) (Nat.le_refl 0) (Nat.le_refl 0) (fun v27 s28 h => ?_)
              refine r_if_lt 133 119 dX9_roll_116 (by decide) rfl (fun hc => ?_) (fun hc => ?_)
              · replace h := Out_pos hc h
                refine r_aload_n 134 dX9_roll_133 rfl rfl ?_
                refine r_getF (x := fe9_55) 30 (39, 0) 137 fl9_55 (by decide) dX9_roll_134 rfl rfl rfl rfl ?_
                refine r_iload 139 dX9_roll_137 rfl rfl ?_
                refine r_iload 141 dX9_roll_139 rfl rfl ?_
                obtain ⟨hc, h⟩ := Out_grd h
                refine r_iastore a4.toNatClampNeg 5 142 dX9_roll_141 rfl (by decide) (by decide) rfl rfl hc rfl ?_
                refine r_aload_n 143 dX9_roll_142 rfl rfl ?_
                refine r_getF (x := fe9_7) 2 (24, 0) 146 fl9_7 (by decide) dX9_roll_143 rfl rfl rfl rfl ?_
                refine r_iload 148 dX9_roll_146 rfl rfl ?_
                obtain ⟨hc, h⟩ := Out_grd h
                refine r_iaload v21.toNatClampNeg 30 149 dX9_roll_148 rfl (by decide) rfl rfl hc rfl ?_
                refine r_iconst 1 150 dX9_roll_149 rfl (by decide) ?_
                refine r_icmp_ne 157 153 dX9_roll_150 (by decide) rfl (fun hc => ?_) (fun hc => ?_)
                · replace h := Out_neg hc h
                  refine r_iload 159 dX9_roll_157 rfl rfl ?_
                  refine r_iconst 1 160 dX9_roll_159 rfl (by decide) ?_
                  refine r_isub 161 dX9_roll_160 rfl ?_
                  refine r_istore [some (vq (some (9, 0))), none, none, none, some (vi a4), some (vi (a5 - 1)), some (vi a6), some (vi v21)] 163 dX9_roll_161 rfl rfl rfl ?_
                  refine r_goto 9 dX9_roll_163 (by decide) ?_
                  refine r_mask [true, false, false, false, true, true, true, false] [some (vq (some (9, 0))), none, none, none, some (vi a4), some (vi (a5 - 1)), some (vi a6), none] rfl rfl ?_
                  exact ih a4 (a5 - 1) a6 (sI s28 39 0 a4.toNatClampNeg v21) h
                · replace h := Out_pos hc h
                  refine r_iconst 0 154 dX9_roll_153 rfl (by decide) ?_
                  refine r_goto 161 dX9_roll_154 (by decide) ?_
                  refine r_istore [some (vq (some (9, 0))), none, none, none, some (vi a4), some (vi 0), some (vi a6), some (vi v21)] 163 dX9_roll_161 rfl rfl rfl ?_
                  refine r_goto 9 dX9_roll_163 (by decide) ?_
                  refine r_mask [true, false, false, false, true, true, true, false] [some (vq (some (9, 0))), none, none, none, some (vi a4), some (vi 0), some (vi a6), none] rfl rfl ?_
                  exact ih a4 0 a6 (sI s28 39 0 a4.toNatClampNeg v21) h
              · replace h := Out_neg hc h
                refine r_aload_n 120 dX9_roll_119 rfl rfl ?_
                refine r_iload 122 dX9_roll_120 rfl rfl ?_
                refine c_I [vq (some (9, 0)), vi v21] [] 125 cs9_roll_122 rfl h (fun _ h' => ct9_peaAt h') rfl rfl rfl rfl (by decide) (Nat.le_refl 0) (Nat.le_refl 0) (fun v29 s30 h => ?_)
                refine r_istore [some (vq (some (9, 0))), none, none, none, some (vi v29), some (vi a5), some (vi a6), some (vi v21)] 127 dX9_roll_125 rfl rfl rfl ?_
                refine r_iinc (-1) [some (vq (some (9, 0))), none, none, none, some (vi v29), some (vi (a5 + (-1))), some (vi a6), some (vi v21)] 130 dX9_roll_127 rfl (by decide) rfl rfl rfl ?_
                refine r_goto 163 dX9_roll_130 (by decide) ?_
                refine r_goto 9 dX9_roll_163 (by decide) ?_
                refine r_mask [true, false, false, false, true, true, true, false] [some (vq (some (9, 0))), none, none, none, some (vi v29), some (vi (a5 + (-1))), some (vi a6), none] rfl rfl ?_
                exact ih v29 (a5 + (-1)) a6 s30 h
            · replace h := Out_pos hc h
              refine r_iconst 0 105 dX9_roll_104 rfl (by decide) ?_
              refine r_istore [some (vq (some (9, 0))), none, none, none, some (vi a4), some (vi 0), some (vi a6), some (vi v21)] 107 dX9_roll_105 rfl rfl rfl ?_
              refine r_goto 163 dX9_roll_107 (by decide) ?_
              refine r_goto 9 dX9_roll_163 (by decide) ?_
              refine r_mask [true, false, false, false, true, true, true, false] [some (vq (some (9, 0))), none, none, none, some (vi a4), some (vi 0), some (vi a6), none] rfl rfl ?_
              exact ih a4 0 a6 s22 h
          · replace h := Out_neg hc h
            refine r_aload_n 61 dX9_roll_60 rfl rfl ?_
            refine r_getF (x := fe9_55) 30 (39, 0) 64 fl9_55 (by decide) dX9_roll_61 rfl rfl rfl rfl ?_
            refine r_iload 66 dX9_roll_64 rfl rfl ?_
            refine r_aload_n 67 dX9_roll_66 rfl rfl ?_
            refine r_getI (x := fe9_150) 8 70 fl9_150 (by decide) dX9_roll_67 rfl rfl rfl ?_
            refine r_iconst 1 71 dX9_roll_70 rfl (by decide) ?_
            refine r_icmp_ne 79 74 dX9_roll_71 (by decide) rfl (fun hc => ?_) (fun hc => ?_)
            · replace h := Out_neg hc h
              refine r_aload_n 80 dX9_roll_79 rfl rfl ?_
              refine r_getF (x := fe9_55) 30 (39, 0) 83 fl9_55 (by decide) dX9_roll_80 rfl rfl rfl rfl ?_
              refine r_iload 85 dX9_roll_83 rfl rfl ?_
              obtain ⟨hc, h⟩ := Out_grd h
              refine r_iaload a4.toNatClampNeg 5 86 dX9_roll_85 rfl (by decide) rfl rfl hc rfl ?_
              obtain ⟨hc, h⟩ := Out_grd h
              refine r_iastore a4.toNatClampNeg 5 87 dX9_roll_86 rfl (by decide) (by decide) rfl rfl hc rfl ?_
              refine r_iconst 0 88 dX9_roll_87 rfl (by decide) ?_
              refine r_istore [some (vq (some (9, 0))), none, none, none, some (vi a4), some (vi 0), some (vi a6), some (vi v21)] 90 dX9_roll_88 rfl rfl rfl ?_
              refine r_goto 163 dX9_roll_90 (by decide) ?_
              refine r_goto 9 dX9_roll_163 (by decide) ?_
              refine r_mask [true, false, false, false, true, true, true, false] [some (vq (some (9, 0))), none, none, none, some (vi a4), some (vi 0), some (vi a6), none] rfl rfl ?_
              exact ih a4 0 a6 (sI s22 39 0 a4.toNatClampNeg (gI s22 39 0 a4.toNatClampNeg)) h
            · replace h := Out_pos hc h
              refine r_bipush (-2) 76 dX9_roll_74 rfl (by decide) ?_
              refine r_goto 86 dX9_roll_76 (by decide) ?_
              obtain ⟨hc, h⟩ := Out_grd h
              refine r_iastore a4.toNatClampNeg 5 87 dX9_roll_86 rfl (by decide) (by decide) rfl rfl hc rfl ?_
              refine r_iconst 0 88 dX9_roll_87 rfl (by decide) ?_
              refine r_istore [some (vq (some (9, 0))), none, none, none, some (vi a4), some (vi 0), some (vi a6), some (vi v21)] 90 dX9_roll_88 rfl rfl rfl ?_
              refine r_goto 163 dX9_roll_90 (by decide) ?_
              refine r_goto 9 dX9_roll_163 (by decide) ?_
              refine r_mask [true, false, false, false, true, true, true, false] [some (vq (some (9, 0))), none, none, none, some (vi a4), some (vi 0), some (vi a6), none] rfl rfl ?_
              exact ih a4 0 a6 (sI s22 39 0 a4.toNatClampNeg (-2)) h
        · replace h := Out_pos hc h
          refine r_iload 43 dX9_roll_41 rfl rfl ?_
          refine r_iconst 2 44 dX9_roll_43 rfl (by decide) ?_
          refine r_iadd 45 dX9_roll_44 rfl ?_
          refine r_iconst 4 46 dX9_roll_45 rfl (by decide) ?_
          refine r_irem 47 dX9_roll_46 rfl (by decide) ?_
          refine r_istore [some (vq (some (9, 0))), none, none, none, some (vi a4), some (vi a5), some (vi ((a6 + 2) - (a6 + 2) / 4 * 4)), some (vi v21)] 49 dX9_roll_47 rfl rfl rfl ?_
          refine r_iinc (-1) [some (vq (some (9, 0))), none, none, none, some (vi a4), some (vi (a5 + (-1))), some (vi ((a6 + 2) - (a6 + 2) / 4 * 4)), some (vi v21)] 52 dX9_roll_49 rfl (by decide) rfl rfl rfl ?_
          refine r_goto 163 dX9_roll_52 (by decide) ?_
          refine r_goto 9 dX9_roll_163 (by decide) ?_
          refine r_mask [true, false, false, false, true, true, true, false] [some (vq (some (9, 0))), none, none, none, some (vi a4), some (vi (a5 + (-1))), some (vi ((a6 + 2) - (a6 + 2) / 4 * 4)), none] rfl rfl ?_
          exact ih a4 (a5 + (-1)) ((a6 + 2) - (a6 + 2) / 4 * 4) s22 h
set_option maxRecDepth 20000 in
set_option maxHeartbeats 4000000 in
theorem ct9_roll {Γ : GG} {K : Sto → Prop} {a1 : Int32} {a2 : Int32} {a3 : Int32} {σ : Sto} (h : Out (f9_roll a1 a2 a3 σ) K) : Ct true Γ mX9_roll 3 0 0 [vq (some (9, 0)), vi a1, vi a2, vi a3] σ (QV K) := by
  refine Ct_intro (by decide +kernel) rfl ?_
  show M true Γ mX9_roll 3 0 0 0 0 (QV K) 0 [some (vq (some (9, 0))), some (vi a1), some (vi a2), some (vi a3), none, none, none, none] [] σ
  unfold f9_roll at h
  refine r_iload_n 1 dX9_roll_0 rfl rfl ?_
  refine r_istore [some (vq (some (9, 0))), some (vi a1), some (vi a2), some (vi a3), some (vi a1), none, none, none] 3 dX9_roll_1 rfl rfl rfl ?_
  refine r_iload_n 4 dX9_roll_3 rfl rfl ?_
  refine r_istore [some (vq (some (9, 0))), some (vi a1), some (vi a2), some (vi a3), some (vi a1), some (vi a2), none, none] 6 dX9_roll_4 rfl rfl rfl ?_
  refine r_iload_n 7 dX9_roll_6 rfl rfl ?_
  refine r_istore [some (vq (some (9, 0))), some (vi a1), some (vi a2), some (vi a3), some (vi a1), some (vi a2), some (vi a3), none] 9 dX9_roll_7 rfl rfl rfl ?_
  refine r_mask [true, false, false, false, true, true, true, false] [some (vq (some (9, 0))), none, none, none, some (vi a1), some (vi a2), some (vi a3), none] rfl rfl ?_
  exact tl9_roll_9 300 a1 a2 a3 σ h

