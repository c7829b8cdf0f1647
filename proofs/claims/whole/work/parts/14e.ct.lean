/-! printed by wip/gen/dec.py: the methods meet their functions -/
set_option maxRecDepth 20000 in
set_option maxHeartbeats 4000000 in
theorem ct9_doPush {Γ : GG} {K : Sto → Prop} {a1 : Int32} {σ : Sto} (h : Out (f9_doPush a1 σ) K) : Ct true Γ mX9_doPush 4 0 0 [vq (some (9, 0)), vi a1] σ (QV K) := by
  refine Ct_intro (by decide +kernel) rfl ?_
  show M true Γ mX9_doPush 4 0 0 0 0 (QV K) 0 [some (vq (some (9, 0))), some (vi a1), none, none] [] σ
  unfold f9_doPush at h
  refine r_iload_n 1 dX9_doPush_0 rfl rfl ?_
  refine c_I [vi a1] [] 4 cs9_doPush_1 rfl h (fun _ h' => ct9_peaOf h') rfl rfl rfl rfl (by decide) (Nat.le_refl 0) (Nat.le_refl 0) (fun v21 s22 h => ?_)
  refine r_istore_n [some (vq (some (9, 0))), some (vi a1), some (vi v21), none] 5 dX9_doPush_4 rfl rfl rfl ?_
  refine r_iload_n 6 dX9_doPush_5 rfl rfl ?_
  refine r_bipush 10 8 dX9_doPush_6 rfl (by decide) ?_
  refine r_irem 9 dX9_doPush_8 rfl (by decide) ?_
  refine r_istore_n [some (vq (some (9, 0))), some (vi a1), some (vi v21), some (vi (a1 - a1 / 10 * 10))] 10 dX9_doPush_9 rfl rfl rfl ?_
  refine r_aload_n 11 dX9_doPush_10 rfl rfl ?_
  refine r_getF (x := fe9_55) 30 (39, 0) 14 fl9_55 (by decide) dX9_doPush_11 rfl rfl rfl rfl ?_
  refine r_iload_n 15 dX9_doPush_14 rfl rfl ?_
  obtain ⟨hc, h⟩ := Out_grd h
  refine r_iaload v21.toNatClampNeg 5 16 dX9_doPush_15 rfl (by decide) rfl rfl hc rfl ?_
  refine r_if_lt 52 19 dX9_doPush_16 (by decide) rfl (fun hc => ?_) (fun hc => ?_)
  · replace h := Out_pos hc h
    exact r_return dX9_doPush_52 rfl (Nat.le_refl 0) (Nat.le_refl 0) h
  · replace h := Out_neg hc h
    refine r_aload_n 20 dX9_doPush_19 rfl rfl ?_
    refine r_iload_n 21 dX9_doPush_20 rfl rfl ?_
    refine r_iload_n 22 dX9_doPush_21 rfl rfl ?_
    refine c_I [vq (some (9, 0)), vi v21, vi (a1 - a1 / 10 * 10)] [] 25 cs9_doPush_22 rfl h (fun _ h' => ct9_isHeld h') rfl rfl rfl rfl (by decide) (Nat.le_refl 0) (Nat.le_refl 0) (fun v23 s24 h => ?_)
    refine r_if_eq 38 28 dX9_doPush_25 (by decide) rfl (fun hc => ?_) (fun hc => ?_)
    · replace h := Out_pos hc h
      refine r_aload_n 39 dX9_doPush_38 rfl rfl ?_
      refine r_iload_n 40 dX9_doPush_39 rfl rfl ?_
      refine r_aload_n 41 dX9_doPush_40 rfl rfl ?_
      refine r_iload_n 42 dX9_doPush_41 rfl rfl ?_
      refine c_I [vi a1] [vq (some (9, 0)), vi v21, vq (some (9, 0))] 45 cs9_doPush_42 rfl h (fun _ h' => ct9_eaterOf h') rfl rfl rfl rfl (by decide) (Nat.le_refl 0) (Nat.le_refl 0) (fun v25 s26 h => ?_)
      refine c_I [vq (some (9, 0)), vi v25] [vi v21, vq (some (9, 0))] 48 cs9_doPush_45 rfl h (fun _ h' => ct9_forceOf h') rfl rfl rfl rfl (by decide) (Nat.le_refl 0) (Nat.le_refl 0) (fun v27 s28 h => ?_)
      refine r_iload_n 49 dX9_doPush_48 rfl rfl ?_
      refine c_V [vq (some (9, 0)), vi v21, vi v27, vi (a1 - a1 / 10 * 10)] [] 52 cs9_doPush_49 rfl h (fun _ h' => ct9_roll h') rfl rfl rfl rfl (by decide) (Nat.le_refl 0) (Nat.le_refl 0) (fun s29 h => ?_)
      exact r_return dX9_doPush_52 rfl (Nat.le_refl 0) (Nat.le_refl 0) h
    · replace h := Out_neg hc h
      refine r_aload_n 29 dX9_doPush_28 rfl rfl ?_
      refine r_getF (x := fe9_55) 30 (39, 0) 32 fl9_55 (by decide) dX9_doPush_29 rfl rfl rfl rfl ?_
      refine r_iload_n 33 dX9_doPush_32 rfl rfl ?_
      refine r_iconst (-1) 34 dX9_doPush_33 rfl (by decide) ?_
      obtain ⟨hc, h⟩ := Out_grd h
      refine r_iastore v21.toNatClampNeg 5 35 dX9_doPush_34 rfl (by decide) (by decide) rfl rfl hc rfl ?_
      refine r_goto 52 dX9_doPush_35 (by decide) ?_
      exact r_return dX9_doPush_52 rfl (Nat.le_refl 0) (Nat.le_refl 0) h

set_option maxRecDepth 20000 in
set_option maxHeartbeats 4000000 in
theorem ct9_fault {Γ : GG} {K : Int32 × Sto → Prop}  {σ : Sto} (h : Out (f9_fault  σ) K) : Ct true Γ mX9_fault 0 0 0 [vq (some (9, 0))] σ (QI K) := by
  refine Ct_intro (by decide +kernel) rfl ?_
  show M true Γ mX9_fault 0 0 0 0 0 (QI K) 0 [some (vq (some (9, 0)))] [] σ
  unfold f9_fault at h
  refine r_aload_n 1 dX9_fault_0 rfl rfl ?_
  refine r_getI (x := fe9_64) 15 4 fl9_64 (by decide) dX9_fault_1 rfl rfl rfl ?_
  exact r_ireturn dX9_fault_4 rfl (Nat.le_refl 0) (Nat.le_refl 0) h

set_option maxRecDepth 20000 in
set_option maxHeartbeats 4000000 in
theorem ct9_faultOf {Γ : GG} {K : Int32 × Sto → Prop} {a1 : Int32} {a2 : Int32} {a3 : Int32} {a4 : Int32} {σ : Sto} (h : Out (f9_faultOf a1 a2 a3 a4 σ) K) : Ct true Γ mX9_faultOf 0 0 0 [vq (some (9, 0)), vi a1, vi a2, vi a3, vi a4] σ (QI K) := by
  refine Ct_intro (by decide +kernel) rfl ?_
  show M true Γ mX9_faultOf 0 0 0 0 0 (QI K) 0 [some (vq (some (9, 0))), some (vi a1), some (vi a2), some (vi a3), some (vi a4)] [] σ
  unfold f9_faultOf at h
  refine r_aload_n 1 dX9_faultOf_0 rfl rfl ?_
  refine r_getF (x := fe9_31) 16 (31, 0) 4 fl9_31 (by decide) dX9_faultOf_1 rfl rfl rfl rfl ?_
  refine r_iload_n 5 dX9_faultOf_4 rfl rfl ?_
  obtain ⟨hc, h⟩ := Out_grd h
  refine r_iaload a1.toNatClampNeg 4 6 dX9_faultOf_5 rfl (by decide) rfl rfl hc rfl ?_
  refine r_if_ge 11 9 dX9_faultOf_6 (by decide) rfl (fun hc => ?_) (fun hc => ?_)
  · replace h := Out_pos hc h
    refine r_aload_n 12 dX9_faultOf_11 rfl rfl ?_
    refine r_getF (x := fe9_31) 16 (31, 0) 15 fl9_31 (by decide) dX9_faultOf_12 rfl rfl rfl rfl ?_
    refine r_iload_n 16 dX9_faultOf_15 rfl rfl ?_
    obtain ⟨hc, h⟩ := Out_grd h
    refine r_iaload a1.toNatClampNeg 4 17 dX9_faultOf_16 rfl (by decide) rfl rfl hc rfl ?_
    refine r_iload_n 18 dX9_faultOf_17 rfl rfl ?_
    refine r_icmp_eq 23 21 dX9_faultOf_18 (by decide) rfl (fun hc => ?_) (fun hc => ?_)
    · replace h := Out_pos hc h
      refine r_iload 25 dX9_faultOf_23 rfl rfl ?_
      refine r_if_ge 30 28 dX9_faultOf_25 (by decide) rfl (fun hc => ?_) (fun hc => ?_)
      · replace h := Out_pos hc h
        refine r_iload_n 31 dX9_faultOf_30 rfl rfl ?_
        refine r_if_lt 47 34 dX9_faultOf_31 (by decide) rfl (fun hc => ?_) (fun hc => ?_)
        · replace h := Out_pos hc h
          refine r_iconst 3 48 dX9_faultOf_47 rfl (by decide) ?_
          refine r_goto 52 dX9_faultOf_48 (by decide) ?_
          exact r_ireturn dX9_faultOf_52 rfl (Nat.le_refl 0) (Nat.le_refl 0) h
        · replace h := Out_neg hc h
          refine r_iload_n 35 dX9_faultOf_34 rfl rfl ?_
          refine r_aload_n 36 dX9_faultOf_35 rfl rfl ?_
          refine r_getF (x := fe9_34) 17 (32, 0) 39 fl9_34 (by decide) dX9_faultOf_36 rfl rfl rfl rfl ?_
          refine r_iload_n 40 dX9_faultOf_39 rfl rfl ?_
          obtain ⟨hc, h⟩ := Out_grd h
          refine r_iaload a1.toNatClampNeg 4 41 dX9_faultOf_40 rfl (by decide) rfl rfl hc rfl ?_
          refine r_iload 43 dX9_faultOf_41 rfl rfl ?_
          refine r_isub 44 dX9_faultOf_43 rfl ?_
          refine r_icmp_le 51 47 dX9_faultOf_44 (by decide) rfl (fun hc => ?_) (fun hc => ?_)
          · replace h := Out_pos hc h
            refine r_iconst 0 52 dX9_faultOf_51 rfl (by decide) ?_
            exact r_ireturn dX9_faultOf_52 rfl (Nat.le_refl 0) (Nat.le_refl 0) h
          · replace h := Out_neg hc h
            refine r_iconst 3 48 dX9_faultOf_47 rfl (by decide) ?_
            refine r_goto 52 dX9_faultOf_48 (by decide) ?_
            exact r_ireturn dX9_faultOf_52 rfl (Nat.le_refl 0) (Nat.le_refl 0) h
      · replace h := Out_neg hc h
        refine r_iconst 4 29 dX9_faultOf_28 rfl (by decide) ?_
        exact r_ireturn dX9_faultOf_29 rfl (Nat.le_refl 0) (Nat.le_refl 0) h
    · replace h := Out_neg hc h
      refine r_iconst 2 22 dX9_faultOf_21 rfl (by decide) ?_
      exact r_ireturn dX9_faultOf_22 rfl (Nat.le_refl 0) (Nat.le_refl 0) h
  · replace h := Out_neg hc h
    refine r_iconst 1 10 dX9_faultOf_9 rfl (by decide) ?_
    exact r_ireturn dX9_faultOf_10 rfl (Nat.le_refl 0) (Nat.le_refl 0) h

set_option maxRecDepth 20000 in
set_option maxHeartbeats 4000000 in
theorem ct9_isPush {Γ : GG} {K : Int32 × Sto → Prop} {a1 : Int32} {σ : Sto} (h : Out (f9_isPush a1 σ) K) : Ct true Γ mX9_isPush 3 0 0 [vq (some (9, 0)), vi a1] σ (QI K) := by
  refine Ct_intro (by decide +kernel) rfl ?_
  show M true Γ mX9_isPush 3 0 0 0 0 (QI K) 0 [some (vq (some (9, 0))), some (vi a1)] [] σ
  unfold f9_isPush at h
  refine r_aload_n 1 dX9_isPush_0 rfl rfl ?_
  refine r_iload_n 2 dX9_isPush_1 rfl rfl ?_
  refine c_I [vq (some (9, 0)), vi a1] [] 5 cs9_isPush_2 rfl h (fun _ h' => ct9_isCode h') rfl rfl rfl rfl (by decide) (Nat.le_refl 0) (Nat.le_refl 0) (fun v21 s22 h => ?_)
  refine r_if_eq 24 8 dX9_isPush_5 (by decide) rfl (fun hc => ?_) (fun hc => ?_)
  · replace h := Out_pos hc h
    refine r_iconst 0 25 dX9_isPush_24 rfl (by decide) ?_
    exact r_zreturn dX9_isPush_25 rfl (by decide) (Nat.le_refl 0) (Nat.le_refl 0) h
  · replace h := Out_neg hc h
    refine r_aload_n 9 dX9_isPush_8 rfl rfl ?_
    refine r_getF (x := fe9_55) 30 (39, 0) 12 fl9_55 (by decide) dX9_isPush_9 rfl rfl rfl rfl ?_
    refine r_iload_n 13 dX9_isPush_12 rfl rfl ?_
    refine c_I [vi a1] [vq (some (39, 0))] 16 cs9_isPush_13 rfl h (fun _ h' => ct9_peaOf h') rfl rfl rfl rfl (by decide) (Nat.le_refl 0) (Nat.le_refl 0) (fun v23 s24 h => ?_)
    obtain ⟨hc, h⟩ := Out_grd h
    refine r_iaload v23.toNatClampNeg 5 17 dX9_isPush_16 rfl (by decide) rfl rfl hc rfl ?_
    refine r_if_lt 24 20 dX9_isPush_17 (by decide) rfl (fun hc => ?_) (fun hc => ?_)
    · replace h := Out_pos hc h
      refine r_iconst 0 25 dX9_isPush_24 rfl (by decide) ?_
      exact r_zreturn dX9_isPush_25 rfl (by decide) (Nat.le_refl 0) (Nat.le_refl 0) h
    · replace h := Out_neg hc h
      refine r_iconst 1 21 dX9_isPush_20 rfl (by decide) ?_
      refine r_goto 25 dX9_isPush_21 (by decide) ?_
      exact r_zreturn dX9_isPush_25 rfl (by decide) (Nat.le_refl 0) (Nat.le_refl 0) h

set_option maxRecDepth 20000 in
set_option maxHeartbeats 4000000 in
theorem tl9_load_2 {Γ : GG} {K : Sto → Prop} {a1 : Int32} : ∀ (n : Nat) (a2 : Int32) (σ : Sto), Out (l9_load_2 a1 n a2 σ) K → M true Γ mX9_load 0 0 0 0 0 (QV K) 2 [some (vq (some (9, 0))), some (vi a1), some (vi a2)] [] σ := by
  intro n
  induction n with
  | zero => intro a2 σ h; exact absurd h Out_none
  | succ n ih =>
    intro a2 σ h
    unfold l9_load_2 at h
    refine r_iload_n 3 dX9_load_2 rfl rfl ?_
    refine r_aload_n 4 dX9_load_3 rfl rfl ?_
    refine r_getI (x := fe9_75) 3 7 fl9_75 (by decide) dX9_load_4 rfl rfl rfl ?_
    refine r_icmp_ge 32 10 dX9_load_7 (by decide) rfl (fun hc => ?_) (fun hc => ?_)
    · replace h := Out_pos hc h
      exact r_return dX9_load_32 rfl (Nat.le_refl 0) (Nat.le_refl 0) h
    · replace h := Out_neg hc h
      refine r_aload_n 11 dX9_load_10 rfl rfl ?_
      refine r_getF (x := fe9_55) 30 (39, 0) 14 fl9_55 (by decide) dX9_load_11 rfl rfl rfl rfl ?_
      refine r_iload_n 15 dX9_load_14 rfl rfl ?_
      refine r_aload_n 16 dX9_load_15 rfl rfl ?_
      refine r_getF (x := fe9_58) 31 (40, 0) 19 fl9_58 (by decide) dX9_load_16 rfl rfl rfl rfl ?_
      refine r_iconst 5 20 dX9_load_19 rfl (by decide) ?_
      refine r_iload_n 21 dX9_load_20 rfl rfl ?_
      refine r_imul 22 dX9_load_21 rfl ?_
      refine r_iload_n 23 dX9_load_22 rfl rfl ?_
      refine r_iadd 24 dX9_load_23 rfl ?_
      obtain ⟨hc, h⟩ := Out_grd h
      refine r_iaload ((5 * a1) + a2).toNatClampNeg 15 25 dX9_load_24 rfl (by decide) rfl rfl hc rfl ?_
      obtain ⟨hc, h⟩ := Out_grd h
      refine r_iastore a2.toNatClampNeg 5 26 dX9_load_25 rfl (by decide) (by decide) rfl rfl hc rfl ?_
      refine r_iinc 1 [some (vq (some (9, 0))), some (vi a1), some (vi (a2 + 1))] 29 dX9_load_26 rfl (by decide) rfl rfl rfl ?_
      refine r_goto 2 dX9_load_29 (by decide) ?_
      exact ih (a2 + 1) (sI σ 39 0 a2.toNatClampNeg (gI σ 40 0 ((5 * a1) + a2).toNatClampNeg)) h
set_option maxRecDepth 20000 in
set_option maxHeartbeats 4000000 in
theorem ct9_load {Γ : GG} {K : Sto → Prop} {a1 : Int32} {σ : Sto} (h : Out (f9_load a1 σ) K) : Ct true Γ mX9_load 0 0 0 [vq (some (9, 0)), vi a1] σ (QV K) := by
  refine Ct_intro (by decide +kernel) rfl ?_
  show M true Γ mX9_load 0 0 0 0 0 (QV K) 0 [some (vq (some (9, 0))), some (vi a1), none] [] σ
  unfold f9_load at h
  refine r_iconst 0 1 dX9_load_0 rfl (by decide) ?_
  refine r_istore_n [some (vq (some (9, 0))), some (vi a1), some (vi 0)] 2 dX9_load_1 rfl rfl rfl ?_
  exact tl9_load_2 300 0 σ h

set_option maxRecDepth 20000 in
set_option maxHeartbeats 4000000 in
theorem tl9_save_2 {Γ : GG} {K : Sto → Prop} {a1 : Int32} : ∀ (n : Nat) (a2 : Int32) (σ : Sto), Out (l9_save_2 a1 n a2 σ) K → M true Γ mX9_save 0 0 0 0 0 (QV K) 2 [some (vq (some (9, 0))), some (vi a1), some (vi a2)] [] σ := by
  intro n
  induction n with
  | zero => intro a2 σ h; exact absurd h Out_none
  | succ n ih =>
    intro a2 σ h
    unfold l9_save_2 at h
    refine r_iload_n 3 dX9_save_2 rfl rfl ?_
    refine r_aload_n 4 dX9_save_3 rfl rfl ?_
    refine r_getI (x := fe9_75) 3 7 fl9_75 (by decide) dX9_save_4 rfl rfl rfl ?_
    refine r_icmp_ge 32 10 dX9_save_7 (by decide) rfl (fun hc => ?_) (fun hc => ?_)
    · replace h := Out_pos hc h
      exact r_return dX9_save_32 rfl (Nat.le_refl 0) (Nat.le_refl 0) h
    · replace h := Out_neg hc h
      refine r_aload_n 11 dX9_save_10 rfl rfl ?_
      refine r_getF (x := fe9_58) 31 (40, 0) 14 fl9_58 (by decide) dX9_save_11 rfl rfl rfl rfl ?_
      refine r_iconst 5 15 dX9_save_14 rfl (by decide) ?_
      refine r_iload_n 16 dX9_save_15 rfl rfl ?_
      refine r_imul 17 dX9_save_16 rfl ?_
      refine r_iload_n 18 dX9_save_17 rfl rfl ?_
      refine r_iadd 19 dX9_save_18 rfl ?_
      refine r_aload_n 20 dX9_save_19 rfl rfl ?_
      refine r_getF (x := fe9_55) 30 (39, 0) 23 fl9_55 (by decide) dX9_save_20 rfl rfl rfl rfl ?_
      refine r_iload_n 24 dX9_save_23 rfl rfl ?_
      obtain ⟨hc, h⟩ := Out_grd h
      refine r_iaload a2.toNatClampNeg 5 25 dX9_save_24 rfl (by decide) rfl rfl hc rfl ?_
      obtain ⟨hc, h⟩ := Out_grd h
      refine r_iastore ((5 * a1) + a2).toNatClampNeg 15 26 dX9_save_25 rfl (by decide) (by decide) rfl rfl hc rfl ?_
      refine r_iinc 1 [some (vq (some (9, 0))), some (vi a1), some (vi (a2 + 1))] 29 dX9_save_26 rfl (by decide) rfl rfl rfl ?_
      refine r_goto 2 dX9_save_29 (by decide) ?_
      exact ih (a2 + 1) (sI σ 40 0 ((5 * a1) + a2).toNatClampNeg (gI σ 39 0 a2.toNatClampNeg)) h
set_option maxRecDepth 20000 in
set_option maxHeartbeats 4000000 in
theorem ct9_save {Γ : GG} {K : Sto → Prop} {a1 : Int32} {σ : Sto} (h : Out (f9_save a1 σ) K) : Ct true Γ mX9_save 0 0 0 [vq (some (9, 0)), vi a1] σ (QV K) := by
  refine Ct_intro (by decide +kernel) rfl ?_
  show M true Γ mX9_save 0 0 0 0 0 (QV K) 0 [some (vq (some (9, 0))), some (vi a1), none] [] σ
  unfold f9_save at h
  refine r_iconst 0 1 dX9_save_0 rfl (by decide) ?_
  refine r_istore_n [some (vq (some (9, 0))), some (vi a1), some (vi 0)] 2 dX9_save_1 rfl rfl rfl ?_
  exact tl9_save_2 300 0 σ h

set_option maxRecDepth 20000 in
set_option maxHeartbeats 4000000 in
theorem tl9_lastPush_7 {Γ : GG} {K : Int32 × Sto → Prop} {a1 : Int32} {a2 : Int32} : ∀ (n : Nat) (a3 : Int32) (σ : Sto), Out (l9_lastPush_7 a1 a2 n a3 σ) K → M true Γ mX9_lastPush 5 0 0 0 0 (QI K) 7 [some (vq (some (9, 0))), some (vi a1), some (vi a2), some (vi a3), none] [] σ := by
  intro n
  induction n with
  | zero => intro a3 σ h; exact absurd h Out_none
  | succ n ih =>
    intro a3 σ h
    unfold l9_lastPush_7 at h
    refine r_iload_n 8 dX9_lastPush_7 rfl rfl ?_
    refine r_sipush 200 11 dX9_lastPush_8 rfl (by decide) ?_
    refine r_icmp_ge 62 14 dX9_lastPush_11 (by decide) rfl (fun hc => ?_) (fun hc => ?_)
    · replace h := Out_pos hc h
      refine r_iconst (-1) 63 dX9_lastPush_62 rfl (by decide) ?_
      exact r_ireturn dX9_lastPush_63 rfl (Nat.le_refl 0) (Nat.le_refl 0) h
    · replace h := Out_neg hc h
      refine r_aload_n 15 dX9_lastPush_14 rfl rfl ?_
      refine r_iload_n 16 dX9_lastPush_15 rfl rfl ?_
      refine c_I [vq (some (9, 0)), vi a3] [] 19 cs9_lastPush_16 rfl h (fun _ h' => ct9_isPush h') rfl rfl rfl rfl (by decide) (Nat.le_refl 0) (Nat.le_refl 0) (fun v22 s23 h => ?_)
      refine r_if_eq 56 22 dX9_lastPush_19 (by decide) rfl (fun hc => ?_) (fun hc => ?_)
      · replace h := Out_pos hc h
        refine r_iinc 1 [some (vq (some (9, 0))), some (vi a1), some (vi a2), some (vi (a3 + 1)), none] 59 dX9_lastPush_56 rfl (by decide) rfl rfl rfl ?_
        refine r_goto 7 dX9_lastPush_59 (by decide) ?_
        exact ih (a3 + 1) s23 h
      · replace h := Out_neg hc h
        refine r_aload_n 23 dX9_lastPush_22 rfl rfl ?_
        refine r_iload_n 24 dX9_lastPush_23 rfl rfl ?_
        refine c_V [vq (some (9, 0)), vi a3] [] 27 cs9_lastPush_24 rfl h (fun _ h' => ct9_doPush h') rfl rfl rfl rfl (by decide) (Nat.le_refl 0) (Nat.le_refl 0) (fun s24 h => ?_)
        refine r_aload_n 28 dX9_lastPush_27 rfl rfl ?_
        refine r_getF (x := fe9_55) 30 (39, 0) 31 fl9_55 (by decide) dX9_lastPush_28 rfl rfl rfl rfl ?_
        refine r_iload_n 32 dX9_lastPush_31 rfl rfl ?_
        obtain ⟨hc, h⟩ := Out_grd h
        refine r_iaload a1.toNatClampNeg 5 33 dX9_lastPush_32 rfl (by decide) rfl rfl hc rfl ?_
        refine r_iconst (-1) 34 dX9_lastPush_33 rfl (by decide) ?_
        refine r_icmp_ne 41 37 dX9_lastPush_34 (by decide) rfl (fun hc => ?_) (fun hc => ?_)
        · replace h := Out_neg hc h
          refine r_iconst 0 42 dX9_lastPush_41 rfl (by decide) ?_
          refine r_istore [some (vq (some (9, 0))), some (vi a1), some (vi a2), some (vi a3), some (vi 0)] 44 dX9_lastPush_42 rfl rfl rfl ?_
          refine r_aload_n 45 dX9_lastPush_44 rfl rfl ?_
          refine r_iload_n 46 dX9_lastPush_45 rfl rfl ?_
          refine c_V [vq (some (9, 0)), vi a2] [] 49 cs9_lastPush_46 rfl h (fun _ h' => ct9_load h') rfl rfl rfl rfl (by decide) (Nat.le_refl 0) (Nat.le_refl 0) (fun s25 h => ?_)
          refine r_iload 51 dX9_lastPush_49 rfl rfl ?_
          refine r_if_eq 56 54 dX9_lastPush_51 (by decide) rfl (fun _ => ?_) (fun hc => absurd hc (by decide))
          refine r_iinc 1 [some (vq (some (9, 0))), some (vi a1), some (vi a2), some (vi (a3 + 1)), some (vi 0)] 59 dX9_lastPush_56 rfl (by decide) rfl rfl rfl ?_
          refine r_goto 7 dX9_lastPush_59 (by decide) ?_
          refine r_mask [true, true, true, true, false] [some (vq (some (9, 0))), some (vi a1), some (vi a2), some (vi (a3 + 1)), none] rfl rfl ?_
          exact ih (a3 + 1) s25 h
        · replace h := Out_pos hc h
          refine r_iconst 1 38 dX9_lastPush_37 rfl (by decide) ?_
          refine r_goto 42 dX9_lastPush_38 (by decide) ?_
          refine r_istore [some (vq (some (9, 0))), some (vi a1), some (vi a2), some (vi a3), some (vi 1)] 44 dX9_lastPush_42 rfl rfl rfl ?_
          refine r_aload_n 45 dX9_lastPush_44 rfl rfl ?_
          refine r_iload_n 46 dX9_lastPush_45 rfl rfl ?_
          refine c_V [vq (some (9, 0)), vi a2] [] 49 cs9_lastPush_46 rfl h (fun _ h' => ct9_load h') rfl rfl rfl rfl (by decide) (Nat.le_refl 0) (Nat.le_refl 0) (fun s26 h => ?_)
          refine r_iload 51 dX9_lastPush_49 rfl rfl ?_
          refine r_if_eq 56 54 dX9_lastPush_51 (by decide) rfl (fun hc => absurd hc (by decide)) (fun _ => ?_)
          refine r_iload_n 55 dX9_lastPush_54 rfl rfl ?_
          exact r_ireturn dX9_lastPush_55 rfl (Nat.le_refl 0) (Nat.le_refl 0) h
set_option maxRecDepth 20000 in
set_option maxHeartbeats 4000000 in
theorem ct9_lastPush {Γ : GG} {K : Int32 × Sto → Prop} {a1 : Int32} {a2 : Int32} {σ : Sto} (h : Out (f9_lastPush a1 a2 σ) K) : Ct true Γ mX9_lastPush 5 0 0 [vq (some (9, 0)), vi a1, vi a2] σ (QI K) := by
  refine Ct_intro (by decide +kernel) rfl ?_
  show M true Γ mX9_lastPush 5 0 0 0 0 (QI K) 0 [some (vq (some (9, 0))), some (vi a1), some (vi a2), none, none] [] σ
  unfold f9_lastPush at h
  refine r_aload_n 1 dX9_lastPush_0 rfl rfl ?_
  refine r_iload_n 2 dX9_lastPush_1 rfl rfl ?_
  refine c_V [vq (some (9, 0)), vi a2] [] 5 cs9_lastPush_2 rfl h (fun _ h' => ct9_save h') rfl rfl rfl rfl (by decide) (Nat.le_refl 0) (Nat.le_refl 0) (fun s21 h => ?_)
  refine r_iconst 0 6 dX9_lastPush_5 rfl (by decide) ?_
  refine r_istore_n [some (vq (some (9, 0))), some (vi a1), some (vi a2), some (vi 0), none] 7 dX9_lastPush_6 rfl rfl rfl ?_
  exact tl9_lastPush_7 300 0 s21 h

set_option maxRecDepth 20000 in
set_option maxHeartbeats 4000000 in
theorem tl9_findThree_29 {Γ : GG} {K : Int32 × Sto → Prop} {k : Int32 → Sto → Option (Int32 × Sto)} {a1 : Int32} {a2 : Int32} (hx : ∀ (a3 : Int32) (σ : Sto), Out (k a3 σ) K → M true Γ mX9_findThree 6 0 0 0 0 (QI K) 97 [some (vq (some (9, 0))), some (vi a1), some (vi a2), some (vi a3)] [] σ) : ∀ (n : Nat) (a3 : Int32) (σ : Sto), Out (l9_findThree_29 k a1 a2 n a3 σ) K → M true Γ mX9_findThree 6 0 0 0 0 (QI K) 29 [some (vq (some (9, 0))), some (vi a1), some (vi a2), some (vi a3)] [] σ := by
  intro n
  induction n with
  | zero => intro a3 σ h; exact absurd h Out_none
  | succ n ih =>
    intro a3 σ h
    unfold l9_findThree_29 at h
    refine r_iload_n 30 dX9_findThree_29 rfl rfl ?_
    refine r_sipush 200 33 dX9_findThree_30 rfl (by decide) ?_
    refine r_icmp_ge 97 36 dX9_findThree_33 (by decide) rfl (fun hc => ?_) (fun hc => ?_)
    · replace h := Out_pos hc h
      exact hx a3 σ h
    · replace h := Out_neg hc h
      refine r_aload_n 37 dX9_findThree_36 rfl rfl ?_
      refine r_iload_n 38 dX9_findThree_37 rfl rfl ?_
      refine c_I [vq (some (9, 0)), vi a3] [] 41 cs9_findThree_38 rfl h (fun _ h' => ct9_isPush h') rfl rfl rfl rfl (by decide) (Nat.le_refl 0) (Nat.le_refl 0) (fun v25 s26 h => ?_)
      refine r_if_eq 91 44 dX9_findThree_41 (by decide) rfl (fun hc => ?_) (fun hc => ?_)
      · replace h := Out_pos hc h
        refine r_iinc 1 [some (vq (some (9, 0))), some (vi a1), some (vi a2), some (vi (a3 + 1))] 94 dX9_findThree_91 rfl (by decide) rfl rfl rfl ?_
        refine r_goto 29 dX9_findThree_94 (by decide) ?_
        exact ih (a3 + 1) s26 h
      · replace h := Out_neg hc h
        refine r_aload_n 45 dX9_findThree_44 rfl rfl ?_
        refine r_iload_n 46 dX9_findThree_45 rfl rfl ?_
        refine c_V [vq (some (9, 0)), vi a3] [] 49 cs9_findThree_46 rfl h (fun _ h' => ct9_doPush h') rfl rfl rfl rfl (by decide) (Nat.le_refl 0) (Nat.le_refl 0) (fun s27 h => ?_)
        refine r_aload_n 50 dX9_findThree_49 rfl rfl ?_
        refine r_getF (x := fe9_61) 32 (41, 0) 53 fl9_61 (by decide) dX9_findThree_50 rfl rfl rfl rfl ?_
        refine r_iconst 0 54 dX9_findThree_53 rfl (by decide) ?_
        refine r_iload_n 55 dX9_findThree_54 rfl rfl ?_
        refine r_iastore 0 3 56 dX9_findThree_55 rfl (by decide) (by decide) rfl rfl (by decide) rfl ?_
        refine r_aload_n 57 dX9_findThree_56 rfl rfl ?_
        refine r_getF (x := fe9_61) 32 (41, 0) 60 fl9_61 (by decide) dX9_findThree_57 rfl rfl rfl rfl ?_
        refine r_iconst 1 61 dX9_findThree_60 rfl (by decide) ?_
        refine r_iload_n 62 dX9_findThree_61 rfl rfl ?_
        refine r_iastore 1 3 63 dX9_findThree_62 rfl (by decide) (by decide) rfl rfl (by decide) rfl ?_
        refine r_aload_n 64 dX9_findThree_63 rfl rfl ?_
        refine r_getF (x := fe9_61) 32 (41, 0) 67 fl9_61 (by decide) dX9_findThree_64 rfl rfl rfl rfl ?_
        refine r_iconst 2 68 dX9_findThree_67 rfl (by decide) ?_
        refine r_aload_n 69 dX9_findThree_68 rfl rfl ?_
        refine r_iload_n 70 dX9_findThree_69 rfl rfl ?_
        refine r_iconst 2 71 dX9_findThree_70 rfl (by decide) ?_
        refine c_I [vq (some (9, 0)), vi a1, vi 2] [vi 2, vq (some (41, 0))] 74 cs9_findThree_71 rfl h (fun _ h' => ct9_lastPush h') rfl rfl rfl rfl (by decide) (Nat.le_refl 0) (Nat.le_refl 0) (fun v28 s29 h => ?_)
        refine r_iastore 2 3 75 dX9_findThree_74 rfl (by decide) (by decide) rfl rfl (by decide) rfl ?_
        refine r_aload_n 76 dX9_findThree_75 rfl rfl ?_
        refine r_iconst 1 77 dX9_findThree_76 rfl (by decide) ?_
        refine c_V [vq (some (9, 0)), vi 1] [] 80 cs9_findThree_77 rfl h (fun _ h' => ct9_load h') rfl rfl rfl rfl (by decide) (Nat.le_refl 0) (Nat.le_refl 0) (fun s30 h => ?_)
        refine r_aload_n 81 dX9_findThree_80 rfl rfl ?_
        refine r_getF (x := fe9_61) 32 (41, 0) 84 fl9_61 (by decide) dX9_findThree_81 rfl rfl rfl rfl ?_
        refine r_iconst 2 85 dX9_findThree_84 rfl (by decide) ?_
        refine r_iaload 2 3 86 dX9_findThree_85 rfl (by decide) rfl rfl (by decide) rfl ?_
        refine r_if_lt 91 89 dX9_findThree_86 (by decide) rfl (fun hc => ?_) (fun hc => ?_)
        · replace h := Out_pos hc h
          refine r_iinc 1 [some (vq (some (9, 0))), some (vi a1), some (vi a2), some (vi (a3 + 1))] 94 dX9_findThree_91 rfl (by decide) rfl rfl rfl ?_
          refine r_goto 29 dX9_findThree_94 (by decide) ?_
          exact ih (a3 + 1) s30 h
        · replace h := Out_neg hc h
          refine r_iconst 1 90 dX9_findThree_89 rfl (by decide) ?_
          exact r_zreturn dX9_findThree_90 rfl (by decide) (Nat.le_refl 0) (Nat.le_refl 0) h
set_option maxRecDepth 20000 in
set_option maxHeartbeats 4000000 in
theorem tl9_findThree_2 {Γ : GG} {K : Int32 × Sto → Prop} {a1 : Int32} : ∀ (n : Nat) (a2 : Int32) (σ : Sto), Out (l9_findThree_2 a1 n a2 σ) K → M true Γ mX9_findThree 6 0 0 0 0 (QI K) 2 [some (vq (some (9, 0))), some (vi a1), some (vi a2), none] [] σ := by
  intro n
  induction n with
  | zero => intro a2 σ h; exact absurd h Out_none
  | succ n ih =>
    intro a2 σ h
    unfold l9_findThree_2 at h
    refine r_iload_n 3 dX9_findThree_2 rfl rfl ?_
    refine r_sipush 200 6 dX9_findThree_3 rfl (by decide) ?_
    refine r_icmp_ge 108 9 dX9_findThree_6 (by decide) rfl (fun hc => ?_) (fun hc => ?_)
    · replace h := Out_pos hc h
      refine r_iconst 0 109 dX9_findThree_108 rfl (by decide) ?_
      exact r_zreturn dX9_findThree_109 rfl (by decide) (Nat.le_refl 0) (Nat.le_refl 0) h
    · replace h := Out_neg hc h
      refine r_aload_n 10 dX9_findThree_9 rfl rfl ?_
      refine r_iload_n 11 dX9_findThree_10 rfl rfl ?_
      refine c_I [vq (some (9, 0)), vi a2] [] 14 cs9_findThree_11 rfl h (fun _ h' => ct9_isPush h') rfl rfl rfl rfl (by decide) (Nat.le_refl 0) (Nat.le_refl 0) (fun v21 s22 h => ?_)
      refine r_if_eq 102 17 dX9_findThree_14 (by decide) rfl (fun hc => ?_) (fun hc => ?_)
      · replace h := Out_pos hc h
        refine r_iinc 1 [some (vq (some (9, 0))), some (vi a1), some (vi (a2 + 1)), none] 105 dX9_findThree_102 rfl (by decide) rfl rfl rfl ?_
        refine r_goto 2 dX9_findThree_105 (by decide) ?_
        exact ih (a2 + 1) s22 h
      · replace h := Out_neg hc h
        refine r_aload_n 18 dX9_findThree_17 rfl rfl ?_
        refine r_iload_n 19 dX9_findThree_18 rfl rfl ?_
        refine c_V [vq (some (9, 0)), vi a2] [] 22 cs9_findThree_19 rfl h (fun _ h' => ct9_doPush h') rfl rfl rfl rfl (by decide) (Nat.le_refl 0) (Nat.le_refl 0) (fun s23 h => ?_)
        refine r_aload_n 23 dX9_findThree_22 rfl rfl ?_
        refine r_iconst 1 24 dX9_findThree_23 rfl (by decide) ?_
        refine c_V [vq (some (9, 0)), vi 1] [] 27 cs9_findThree_24 rfl h (fun _ h' => ct9_save h') rfl rfl rfl rfl (by decide) (Nat.le_refl 0) (Nat.le_refl 0) (fun s24 h => ?_)
        refine r_iconst 0 28 dX9_findThree_27 rfl (by decide) ?_
        refine r_istore_n [some (vq (some (9, 0))), some (vi a1), some (vi a2), some (vi 0)] 29 dX9_findThree_28 rfl rfl rfl ?_
        refine tl9_findThree_29 (fun v31 s32 h => ?_) 300 0 s24 h
        refine r_aload_n 98 dX9_findThree_97 rfl rfl ?_
        refine r_iconst 0 99 dX9_findThree_98 rfl (by decide) ?_
        refine c_V [vq (some (9, 0)), vi 0] [] 102 cs9_findThree_99 rfl h (fun _ h' => ct9_load h') rfl rfl rfl rfl (by decide) (Nat.le_refl 0) (Nat.le_refl 0) (fun s33 h => ?_)
        refine r_iinc 1 [some (vq (some (9, 0))), some (vi a1), some (vi (a2 + 1)), some (vi v31)] 105 dX9_findThree_102 rfl (by decide) rfl rfl rfl ?_
        refine r_goto 2 dX9_findThree_105 (by decide) ?_
        refine r_mask [true, true, true, false] [some (vq (some (9, 0))), some (vi a1), some (vi (a2 + 1)), none] rfl rfl ?_
        exact ih (a2 + 1) s33 h
set_option maxRecDepth 20000 in
set_option maxHeartbeats 4000000 in
theorem ct9_findThree {Γ : GG} {K : Int32 × Sto → Prop} {a1 : Int32} {σ : Sto} (h : Out (f9_findThree a1 σ) K) : Ct true Γ mX9_findThree 6 0 0 [vq (some (9, 0)), vi a1] σ (QI K) := by
  refine Ct_intro (by decide +kernel) rfl ?_
  show M true Γ mX9_findThree 6 0 0 0 0 (QI K) 0 [some (vq (some (9, 0))), some (vi a1), none, none] [] σ
  unfold f9_findThree at h
  refine r_iconst 0 1 dX9_findThree_0 rfl (by decide) ?_
  refine r_istore_n [some (vq (some (9, 0))), some (vi a1), some (vi 0), none] 2 dX9_findThree_1 rfl rfl rfl ?_
  exact tl9_findThree_2 300 0 σ h

set_option maxRecDepth 20000 in
set_option maxHeartbeats 4000000 in
theorem tl9_goThrough_2 {Γ : GG} {K : Sto → Prop} {k : Int32 → Sto → Option (Sto)} {a1 : Int32} (hx : ∀ (a2 : Int32) (σ : Sto), Out (k a2 σ) K → M true Γ mX9_goThrough 5 0 0 0 0 (QV K) 28 [some (vq (some (9, 0))), some (vi a1), some (vi a2)] [] σ) : ∀ (n : Nat) (a2 : Int32) (σ : Sto), Out (l9_goThrough_2 k a1 n a2 σ) K → M true Γ mX9_goThrough 5 0 0 0 0 (QV K) 2 [some (vq (some (9, 0))), some (vi a1), some (vi a2)] [] σ := by
  intro n
  induction n with
  | zero => intro a2 σ h; exact absurd h Out_none
  | succ n ih =>
    intro a2 σ h
    unfold l9_goThrough_2 at h
    refine r_iload_n 3 dX9_goThrough_2 rfl rfl ?_
    refine r_aload_n 4 dX9_goThrough_3 rfl rfl ?_
    refine r_getI (x := fe9_75) 3 7 fl9_75 (by decide) dX9_goThrough_4 rfl rfl rfl ?_
    refine r_icmp_ge 28 10 dX9_goThrough_7 (by decide) rfl (fun hc => ?_) (fun hc => ?_)
    · replace h := Out_pos hc h
      exact hx a2 σ h
    · replace h := Out_neg hc h
      refine r_aload_n 11 dX9_goThrough_10 rfl rfl ?_
      refine r_getF (x := fe9_55) 30 (39, 0) 14 fl9_55 (by decide) dX9_goThrough_11 rfl rfl rfl rfl ?_
      refine r_iload_n 15 dX9_goThrough_14 rfl rfl ?_
      refine r_aload_n 16 dX9_goThrough_15 rfl rfl ?_
      refine r_getF (x := fe9_13) 4 (25, 0) 19 fl9_13 (by decide) dX9_goThrough_16 rfl rfl rfl rfl ?_
      refine r_iload_n 20 dX9_goThrough_19 rfl rfl ?_
      obtain ⟨hc, h⟩ := Out_grd h
      refine r_iaload a2.toNatClampNeg 5 21 dX9_goThrough_20 rfl (by decide) rfl rfl hc rfl ?_
      obtain ⟨hc, h⟩ := Out_grd h
      refine r_iastore a2.toNatClampNeg 5 22 dX9_goThrough_21 rfl (by decide) (by decide) rfl rfl hc rfl ?_
      refine r_iinc 1 [some (vq (some (9, 0))), some (vi a1), some (vi (a2 + 1))] 25 dX9_goThrough_22 rfl (by decide) rfl rfl rfl ?_
      refine r_goto 2 dX9_goThrough_25 (by decide) ?_
      exact ih (a2 + 1) (sI σ 39 0 a2.toNatClampNeg (gI σ 25 0 a2.toNatClampNeg)) h
set_option maxRecDepth 20000 in
set_option maxHeartbeats 4000000 in
theorem tl9_goThrough_30 {Γ : GG} {K : Sto → Prop} {a1 : Int32} : ∀ (n : Nat) (a2 : Int32) (σ : Sto), Out (l9_goThrough_30 a1 n a2 σ) K → M true Γ mX9_goThrough 5 0 0 0 0 (QV K) 30 [some (vq (some (9, 0))), some (vi a1), some (vi a2)] [] σ := by
  intro n
  induction n with
  | zero => intro a2 σ h; exact absurd h Out_none
  | succ n ih =>
    intro a2 σ h
    unfold l9_goThrough_30 at h
    refine r_iload_n 31 dX9_goThrough_30 rfl rfl ?_
    refine r_aload_n 32 dX9_goThrough_31 rfl rfl ?_
    refine r_getI (x := fe9_153) 9 35 fl9_153 (by decide) dX9_goThrough_32 rfl rfl rfl ?_
    refine r_icmp_ge 59 38 dX9_goThrough_35 (by decide) rfl (fun hc => ?_) (fun hc => ?_)
    · replace h := Out_pos hc h
      exact r_return dX9_goThrough_59 rfl (Nat.le_refl 0) (Nat.le_refl 0) h
    · replace h := Out_neg hc h
      refine r_iload_n 39 dX9_goThrough_38 rfl rfl ?_
      refine r_iload_n 40 dX9_goThrough_39 rfl rfl ?_
      refine r_icmp_eq 53 43 dX9_goThrough_40 (by decide) rfl (fun hc => ?_) (fun hc => ?_)
      · replace h := Out_pos hc h
        refine r_iinc 1 [some (vq (some (9, 0))), some (vi a1), some (vi (a2 + 1))] 56 dX9_goThrough_53 rfl (by decide) rfl rfl rfl ?_
        refine r_goto 30 dX9_goThrough_56 (by decide) ?_
        exact ih (a2 + 1) σ h
      · replace h := Out_neg hc h
        refine r_aload_n 44 dX9_goThrough_43 rfl rfl ?_
        refine r_aload_n 45 dX9_goThrough_44 rfl rfl ?_
        refine r_getF (x := fe9_22) 10 (28, 0) 48 fl9_22 (by decide) dX9_goThrough_45 rfl rfl rfl rfl ?_
        refine r_iload_n 49 dX9_goThrough_48 rfl rfl ?_
        obtain ⟨hc, h⟩ := Out_grd h
        refine r_iaload a2.toNatClampNeg 30 50 dX9_goThrough_49 rfl (by decide) rfl rfl hc rfl ?_
        refine c_V [vq (some (9, 0)), vi (gI σ 28 0 a2.toNatClampNeg)] [] 53 cs9_goThrough_50 rfl h (fun _ h' => ct9_doPush h') rfl rfl rfl rfl (by decide) (Nat.le_refl 0) (Nat.le_refl 0) (fun s23 h => ?_)
        refine r_iinc 1 [some (vq (some (9, 0))), some (vi a1), some (vi (a2 + 1))] 56 dX9_goThrough_53 rfl (by decide) rfl rfl rfl ?_
        refine r_goto 30 dX9_goThrough_56 (by decide) ?_
        exact ih (a2 + 1) s23 h
set_option maxRecDepth 20000 in
set_option maxHeartbeats 4000000 in
theorem ct9_goThrough {Γ : GG} {K : Sto → Prop} {a1 : Int32} {σ : Sto} (h : Out (f9_goThrough a1 σ) K) : Ct true Γ mX9_goThrough 5 0 0 [vq (some (9, 0)), vi a1] σ (QV K) := by
  refine Ct_intro (by decide +kernel) rfl ?_
  show M true Γ mX9_goThrough 5 0 0 0 0 (QV K) 0 [some (vq (some (9, 0))), some (vi a1), none] [] σ
  unfold f9_goThrough at h
  refine r_iconst 0 1 dX9_goThrough_0 rfl (by decide) ?_
  refine r_istore_n [some (vq (some (9, 0))), some (vi a1), some (vi 0)] 2 dX9_goThrough_1 rfl rfl rfl ?_
  refine tl9_goThrough_2 (fun v21 s22 h => ?_) 300 0 σ h
  refine r_iconst 0 29 dX9_goThrough_28 rfl (by decide) ?_
  refine r_istore_n [some (vq (some (9, 0))), some (vi a1), some (vi 0)] 30 dX9_goThrough_29 rfl rfl rfl ?_
  exact tl9_goThrough_30 300 0 s22 h

set_option maxRecDepth 20000 in
set_option maxHeartbeats 4000000 in
theorem tl9_findFewest_55 {Γ : GG} {K : Int32 × Sto → Prop} {k : Int32 → Sto → Option (Int32 × Sto)} {a1 : Int32} (hx : ∀ (a2 : Int32) (σ : Sto), Out (k a2 σ) K → M true Γ mX9_findFewest 7 0 0 0 0 (QI K) 116 [some (vq (some (9, 0))), some (vi a1), some (vi a2)] [] σ) : ∀ (n : Nat) (a2 : Int32) (σ : Sto), Out (l9_findFewest_55 k a1 n a2 σ) K → M true Γ mX9_findFewest 7 0 0 0 0 (QI K) 55 [some (vq (some (9, 0))), some (vi a1), some (vi a2)] [] σ := by
  intro n
  induction n with
  | zero => intro a2 σ h; exact absurd h Out_none
  | succ n ih =>
    intro a2 σ h
    unfold l9_findFewest_55 at h
    refine r_iload_n 56 dX9_findFewest_55 rfl rfl ?_
    refine r_sipush 200 59 dX9_findFewest_56 rfl (by decide) ?_
    refine r_icmp_ge 116 62 dX9_findFewest_59 (by decide) rfl (fun hc => ?_) (fun hc => ?_)
    · replace h := Out_pos hc h
      exact hx a2 σ h
    · replace h := Out_neg hc h
      refine r_aload_n 63 dX9_findFewest_62 rfl rfl ?_
      refine r_iload_n 64 dX9_findFewest_63 rfl rfl ?_
      refine c_I [vq (some (9, 0)), vi a2] [] 67 cs9_findFewest_64 rfl h (fun _ h' => ct9_isPush h') rfl rfl rfl rfl (by decide) (Nat.le_refl 0) (Nat.le_refl 0) (fun v24 s25 h => ?_)
      refine r_if_eq 110 70 dX9_findFewest_67 (by decide) rfl (fun hc => ?_) (fun hc => ?_)
      · replace h := Out_pos hc h
        refine r_iinc 1 [some (vq (some (9, 0))), some (vi a1), some (vi (a2 + 1))] 113 dX9_findFewest_110 rfl (by decide) rfl rfl rfl ?_
        refine r_goto 55 dX9_findFewest_113 (by decide) ?_
        exact ih (a2 + 1) s25 h
      · replace h := Out_neg hc h
        refine r_aload_n 71 dX9_findFewest_70 rfl rfl ?_
        refine r_iload_n 72 dX9_findFewest_71 rfl rfl ?_
        refine c_V [vq (some (9, 0)), vi a2] [] 75 cs9_findFewest_72 rfl h (fun _ h' => ct9_doPush h') rfl rfl rfl rfl (by decide) (Nat.le_refl 0) (Nat.le_refl 0) (fun s26 h => ?_)
        refine r_aload_n 76 dX9_findFewest_75 rfl rfl ?_
        refine r_getF (x := fe9_61) 32 (41, 0) 79 fl9_61 (by decide) dX9_findFewest_76 rfl rfl rfl rfl ?_
        refine r_iconst 0 80 dX9_findFewest_79 rfl (by decide) ?_
        refine r_iload_n 81 dX9_findFewest_80 rfl rfl ?_
        refine r_iastore 0 3 82 dX9_findFewest_81 rfl (by decide) (by decide) rfl rfl (by decide) rfl ?_
        refine r_aload_n 83 dX9_findFewest_82 rfl rfl ?_
        refine r_getF (x := fe9_61) 32 (41, 0) 86 fl9_61 (by decide) dX9_findFewest_83 rfl rfl rfl rfl ?_
        refine r_iconst 1 87 dX9_findFewest_86 rfl (by decide) ?_
        refine r_aload_n 88 dX9_findFewest_87 rfl rfl ?_
        refine r_iload_n 89 dX9_findFewest_88 rfl rfl ?_
        refine r_iconst 1 90 dX9_findFewest_89 rfl (by decide) ?_
        refine c_I [vq (some (9, 0)), vi a1, vi 1] [vi 1, vq (some (41, 0))] 93 cs9_findFewest_90 rfl h (fun _ h' => ct9_lastPush h') rfl rfl rfl rfl (by decide) (Nat.le_refl 0) (Nat.le_refl 0) (fun v27 s28 h => ?_)
        refine r_iastore 1 3 94 dX9_findFewest_93 rfl (by decide) (by decide) rfl rfl (by decide) rfl ?_
        refine r_aload_n 95 dX9_findFewest_94 rfl rfl ?_
        refine r_iconst 0 96 dX9_findFewest_95 rfl (by decide) ?_
        refine c_V [vq (some (9, 0)), vi 0] [] 99 cs9_findFewest_96 rfl h (fun _ h' => ct9_load h') rfl rfl rfl rfl (by decide) (Nat.le_refl 0) (Nat.le_refl 0) (fun s29 h => ?_)
        refine r_aload_n 100 dX9_findFewest_99 rfl rfl ?_
        refine r_getF (x := fe9_61) 32 (41, 0) 103 fl9_61 (by decide) dX9_findFewest_100 rfl rfl rfl rfl ?_
        refine r_iconst 1 104 dX9_findFewest_103 rfl (by decide) ?_
        refine r_iaload 1 3 105 dX9_findFewest_104 rfl (by decide) rfl rfl (by decide) rfl ?_
        refine r_if_lt 110 108 dX9_findFewest_105 (by decide) rfl (fun hc => ?_) (fun hc => ?_)
        · replace h := Out_pos hc h
          refine r_iinc 1 [some (vq (some (9, 0))), some (vi a1), some (vi (a2 + 1))] 113 dX9_findFewest_110 rfl (by decide) rfl rfl rfl ?_
          refine r_goto 55 dX9_findFewest_113 (by decide) ?_
          exact ih (a2 + 1) s29 h
        · replace h := Out_neg hc h
          refine r_iconst 2 109 dX9_findFewest_108 rfl (by decide) ?_
          exact r_ireturn dX9_findFewest_109 rfl (Nat.le_refl 0) (Nat.le_refl 0) h
set_option maxRecDepth 20000 in
set_option maxHeartbeats 4000000 in
theorem ct9_findFewest {Γ : GG} {K : Int32 × Sto → Prop} {a1 : Int32} {σ : Sto} (h : Out (f9_findFewest a1 σ) K) : Ct true Γ mX9_findFewest 7 0 0 [vq (some (9, 0)), vi a1] σ (QI K) := by
  refine Ct_intro (by decide +kernel) rfl ?_
  show M true Γ mX9_findFewest 7 0 0 0 0 (QI K) 0 [some (vq (some (9, 0))), some (vi a1), none] [] σ
  unfold f9_findFewest at h
  refine r_aload_n 1 dX9_findFewest_0 rfl rfl ?_
  refine r_iconst (-1) 2 dX9_findFewest_1 rfl (by decide) ?_
  refine c_V [vq (some (9, 0)), vi (-1)] [] 5 cs9_findFewest_2 rfl h (fun _ h' => ct9_goThrough h') rfl rfl rfl rfl (by decide) (Nat.le_refl 0) (Nat.le_refl 0) (fun s21 h => ?_)
  refine r_aload_n 6 dX9_findFewest_5 rfl rfl ?_
  refine r_getF (x := fe9_55) 30 (39, 0) 9 fl9_55 (by decide) dX9_findFewest_6 rfl rfl rfl rfl ?_
  refine r_iload_n 10 dX9_findFewest_9 rfl rfl ?_
  obtain ⟨hc, h⟩ := Out_grd h
  refine r_iaload a1.toNatClampNeg 5 11 dX9_findFewest_10 rfl (by decide) rfl rfl hc rfl ?_
  refine r_if_ge 30 14 dX9_findFewest_11 (by decide) rfl (fun hc => ?_) (fun hc => ?_)
  · replace h := Out_pos hc h
    refine r_aload_n 31 dX9_findFewest_30 rfl rfl ?_
    refine r_getF (x := fe9_61) 32 (41, 0) 34 fl9_61 (by decide) dX9_findFewest_31 rfl rfl rfl rfl ?_
    refine r_iconst 0 35 dX9_findFewest_34 rfl (by decide) ?_
    refine r_aload_n 36 dX9_findFewest_35 rfl rfl ?_
    refine r_iload_n 37 dX9_findFewest_36 rfl rfl ?_
    refine r_iconst 0 38 dX9_findFewest_37 rfl (by decide) ?_
    refine c_I [vq (some (9, 0)), vi a1, vi 0] [vi 0, vq (some (41, 0))] 41 cs9_findFewest_38 rfl h (fun _ h' => ct9_lastPush h') rfl rfl rfl rfl (by decide) (Nat.le_refl 0) (Nat.le_refl 0) (fun v22 s23 h => ?_)
    refine r_iastore 0 3 42 dX9_findFewest_41 rfl (by decide) (by decide) rfl rfl (by decide) rfl ?_
    refine r_aload_n 43 dX9_findFewest_42 rfl rfl ?_
    refine r_getF (x := fe9_61) 32 (41, 0) 46 fl9_61 (by decide) dX9_findFewest_43 rfl rfl rfl rfl ?_
    refine r_iconst 0 47 dX9_findFewest_46 rfl (by decide) ?_
    refine r_iaload 0 3 48 dX9_findFewest_47 rfl (by decide) rfl rfl (by decide) rfl ?_
    refine r_if_lt 53 51 dX9_findFewest_48 (by decide) rfl (fun hc => ?_) (fun hc => ?_)
    · replace h := Out_pos hc h
      refine r_iconst 0 54 dX9_findFewest_53 rfl (by decide) ?_
      refine r_istore_n [some (vq (some (9, 0))), some (vi a1), some (vi 0)] 55 dX9_findFewest_54 rfl rfl rfl ?_
      refine tl9_findFewest_55 (fun v30 s31 h => ?_) 300 0 (sI s23 41 0 0 v22) h
      refine r_aload_n 117 dX9_findFewest_116 rfl rfl ?_
      refine r_iload_n 118 dX9_findFewest_117 rfl rfl ?_
      refine c_I [vq (some (9, 0)), vi a1] [] 121 cs9_findFewest_118 rfl h (fun _ h' => ct9_findThree h') rfl rfl rfl rfl (by decide) (Nat.le_refl 0) (Nat.le_refl 0) (fun v32 s33 h => ?_)
      refine r_if_eq 128 124 dX9_findFewest_121 (by decide) rfl (fun hc => ?_) (fun hc => ?_)
      · replace h := Out_pos hc h
        refine r_iconst 4 129 dX9_findFewest_128 rfl (by decide) ?_
        exact r_ireturn dX9_findFewest_129 rfl (Nat.le_refl 0) (Nat.le_refl 0) h
      · replace h := Out_neg hc h
        refine r_iconst 3 125 dX9_findFewest_124 rfl (by decide) ?_
        refine r_goto 129 dX9_findFewest_125 (by decide) ?_
        exact r_ireturn dX9_findFewest_129 rfl (Nat.le_refl 0) (Nat.le_refl 0) h
    · replace h := Out_neg hc h
      refine r_iconst 1 52 dX9_findFewest_51 rfl (by decide) ?_
      exact r_ireturn dX9_findFewest_52 rfl (Nat.le_refl 0) (Nat.le_refl 0) h
  · replace h := Out_neg hc h
    refine r_aload_n 15 dX9_findFewest_14 rfl rfl ?_
    refine r_getF (x := fe9_55) 30 (39, 0) 18 fl9_55 (by decide) dX9_findFewest_15 rfl rfl rfl rfl ?_
    refine r_iload_n 19 dX9_findFewest_18 rfl rfl ?_
    obtain ⟨hc, h⟩ := Out_grd h
    refine r_iaload a1.toNatClampNeg 5 20 dX9_findFewest_19 rfl (by decide) rfl rfl hc rfl ?_
    refine r_iconst (-1) 21 dX9_findFewest_20 rfl (by decide) ?_
    refine r_icmp_ne 28 24 dX9_findFewest_21 (by decide) rfl (fun hc => ?_) (fun hc => ?_)
    · replace h := Out_neg hc h
      refine r_iconst 4 29 dX9_findFewest_28 rfl (by decide) ?_
      exact r_ireturn dX9_findFewest_29 rfl (Nat.le_refl 0) (Nat.le_refl 0) h
    · replace h := Out_pos hc h
      refine r_iconst 0 25 dX9_findFewest_24 rfl (by decide) ?_
      refine r_goto 29 dX9_findFewest_25 (by decide) ?_
      exact r_ireturn dX9_findFewest_29 rfl (Nat.le_refl 0) (Nat.le_refl 0) h

set_option maxRecDepth 20000 in
set_option maxHeartbeats 4000000 in
theorem ct9_fewest {Γ : GG} {K : Int32 × Sto → Prop} {a1 : Int32} {a2 : Int32} {σ : Sto} (h : Out (f9_fewest a1 a2 σ) K) : Ct true Γ mX9_fewest 8 0 0 [vq (some (9, 0)), vi a1, vi a2] σ (QI K) := by
  refine Ct_intro (by decide +kernel) rfl ?_
  show M true Γ mX9_fewest 8 0 0 0 0 (QI K) 0 [some (vq (some (9, 0))), some (vi a1), some (vi a2), none] [] σ
  unfold f9_fewest at h
  refine r_aload_n 1 dX9_fewest_0 rfl rfl ?_
  refine r_iload_n 2 dX9_fewest_1 rfl rfl ?_
  refine c_I [vq (some (9, 0)), vi a1] [] 5 cs9_fewest_2 rfl h (fun _ h' => ct9_isPea h') rfl rfl rfl rfl (by decide) (Nat.le_refl 0) (Nat.le_refl 0) (fun v21 s22 h => ?_)
  refine r_if_eq 13 8 dX9_fewest_5 (by decide) rfl (fun hc => ?_) (fun hc => ?_)
  · replace h := Out_pos hc h
    refine r_iconst (-1) 14 dX9_fewest_13 rfl (by decide) ?_
    exact r_ireturn dX9_fewest_14 rfl (Nat.le_refl 0) (Nat.le_refl 0) h
  · replace h := Out_neg hc h
    refine r_iload_n 9 dX9_fewest_8 rfl rfl ?_
    refine r_iconst (-1) 10 dX9_fewest_9 rfl (by decide) ?_
    refine r_icmp_ge 15 13 dX9_fewest_10 (by decide) rfl (fun hc => ?_) (fun hc => ?_)
    · replace h := Out_pos hc h
      refine r_aload_n 16 dX9_fewest_15 rfl rfl ?_
      refine r_iload_n 17 dX9_fewest_16 rfl rfl ?_
      refine c_I [vq (some (9, 0)), vi a1] [] 20 cs9_fewest_17 rfl h (fun _ h' => ct9_findFewest h') rfl rfl rfl rfl (by decide) (Nat.le_refl 0) (Nat.le_refl 0) (fun v23 s24 h => ?_)
      refine r_istore_n [some (vq (some (9, 0))), some (vi a1), some (vi a2), some (vi v23)] 21 dX9_fewest_20 rfl rfl rfl ?_
      refine r_iload_n 22 dX9_fewest_21 rfl rfl ?_
      refine r_iconst 4 23 dX9_fewest_22 rfl (by decide) ?_
      refine r_icmp_ne 29 26 dX9_fewest_23 (by decide) rfl (fun hc => ?_) (fun hc => ?_)
      · replace h := Out_neg hc h
        refine r_iload_n 30 dX9_fewest_29 rfl rfl ?_
        refine r_iconst (-1) 31 dX9_fewest_30 rfl (by decide) ?_
        refine r_icmp_ne 38 34 dX9_fewest_31 (by decide) rfl (fun hc => ?_) (fun hc => ?_)
        · replace h := Out_neg hc h
          refine r_iload_n 39 dX9_fewest_38 rfl rfl ?_
          refine r_iload_n 40 dX9_fewest_39 rfl rfl ?_
          refine r_icmp_ge 52 43 dX9_fewest_40 (by decide) rfl (fun hc => ?_) (fun hc => ?_)
          · replace h := Out_pos hc h
            refine r_bipush (-9) 54 dX9_fewest_52 rfl (by decide) ?_
            exact r_ireturn dX9_fewest_54 rfl (Nat.le_refl 0) (Nat.le_refl 0) h
          · replace h := Out_neg hc h
            refine r_aload_n 44 dX9_fewest_43 rfl rfl ?_
            refine r_getF (x := fe9_61) 32 (41, 0) 47 fl9_61 (by decide) dX9_fewest_44 rfl rfl rfl rfl ?_
            refine r_iload_n 48 dX9_fewest_47 rfl rfl ?_
            obtain ⟨hc, h⟩ := Out_grd h
            refine r_iaload a2.toNatClampNeg 3 49 dX9_fewest_48 rfl (by decide) rfl rfl hc rfl ?_
            refine r_goto 54 dX9_fewest_49 (by decide) ?_
            exact r_ireturn dX9_fewest_54 rfl (Nat.le_refl 0) (Nat.le_refl 0) h
        · replace h := Out_pos hc h
          refine r_iload_n 35 dX9_fewest_34 rfl rfl ?_
          refine r_goto 54 dX9_fewest_35 (by decide) ?_
          exact r_ireturn dX9_fewest_54 rfl (Nat.le_refl 0) (Nat.le_refl 0) h
      · replace h := Out_pos hc h
        refine r_bipush (-9) 28 dX9_fewest_26 rfl (by decide) ?_
        exact r_ireturn dX9_fewest_28 rfl (Nat.le_refl 0) (Nat.le_refl 0) h
    · replace h := Out_neg hc h
      refine r_iconst (-1) 14 dX9_fewest_13 rfl (by decide) ?_
      exact r_ireturn dX9_fewest_14 rfl (Nat.le_refl 0) (Nat.le_refl 0) h

set_option maxRecDepth 20000 in
set_option maxHeartbeats 4000000 in
theorem ct9_forkTells {Γ : GG} {K : Int32 × Sto → Prop} {a1 : Int32} {σ : Sto} (h : Out (f9_forkTells a1 σ) K) : Ct true Γ mX9_forkTells 1 0 0 [vq (some (9, 0)), vi a1] σ (QI K) := by
  refine Ct_intro (by decide +kernel) rfl ?_
  show M true Γ mX9_forkTells 1 0 0 0 0 (QI K) 0 [some (vq (some (9, 0))), some (vi a1)] [] σ
  unfold f9_forkTells at h
  refine r_aload_n 1 dX9_forkTells_0 rfl rfl ?_
  refine r_iconst 1 2 dX9_forkTells_1 rfl (by decide) ?_
  refine c_V [vq (some (9, 0)), vi 1] [] 5 cs9_forkTells_2 rfl h (fun _ h' => ct9_begin h') rfl rfl rfl rfl (by decide) (Nat.le_refl 0) (Nat.le_refl 0) (fun s21 h => ?_)
  refine r_aload_n 6 dX9_forkTells_5 rfl rfl ?_
  refine r_getF (x := fe9_19) 7 (27, 0) 9 fl9_19 (by decide) dX9_forkTells_6 rfl rfl rfl rfl ?_
  refine r_iload_n 10 dX9_forkTells_9 rfl rfl ?_
  obtain ⟨hc, h⟩ := Out_grd h
  refine r_iaload a1.toNatClampNeg 2 11 dX9_forkTells_10 rfl (by decide) rfl rfl hc rfl ?_
  exact r_ireturn dX9_forkTells_11 rfl (Nat.le_refl 0) (Nat.le_refl 0) h

set_option maxRecDepth 20000 in
set_option maxHeartbeats 4000000 in
theorem tl9_hadNow_4 {Γ : GG} {K : Int32 × Sto → Prop}  : ∀ (n : Nat) (a1 : Int32) (a2 : Int32) (σ : Sto), Out (l9_hadNow_4  n a1 a2 σ) K → M true Γ mX9_hadNow 0 0 0 0 0 (QI K) 4 [some (vq (some (9, 0))), some (vi a1), some (vi a2)] [] σ := by
  intro n
  induction n with
  | zero => intro a1 a2 σ h; exact absurd h Out_none
  | succ n ih =>
    intro a1 a2 σ h
    unfold l9_hadNow_4 at h
    refine r_iload_n 5 dX9_hadNow_4 rfl rfl ?_
    refine r_aload_n 6 dX9_hadNow_5 rfl rfl ?_
    refine r_getI (x := fe9_75) 3 9 fl9_75 (by decide) dX9_hadNow_6 rfl rfl rfl ?_
    refine r_icmp_ge 36 12 dX9_hadNow_9 (by decide) rfl (fun hc => ?_) (fun hc => ?_)
    · replace h := Out_pos hc h
      refine r_iload_n 37 dX9_hadNow_36 rfl rfl ?_
      exact r_ireturn dX9_hadNow_37 rfl (Nat.le_refl 0) (Nat.le_refl 0) h
    · replace h := Out_neg hc h
      refine r_iload_n 13 dX9_hadNow_12 rfl rfl ?_
      refine r_aload_n 14 dX9_hadNow_13 rfl rfl ?_
      refine r_getF (x := fe9_55) 30 (39, 0) 17 fl9_55 (by decide) dX9_hadNow_14 rfl rfl rfl rfl ?_
      refine r_iload_n 18 dX9_hadNow_17 rfl rfl ?_
      obtain ⟨hc, h⟩ := Out_grd h
      refine r_iaload a2.toNatClampNeg 5 19 dX9_hadNow_18 rfl (by decide) rfl rfl hc rfl ?_
      refine r_iconst (-1) 20 dX9_hadNow_19 rfl (by decide) ?_
      refine r_icmp_ne 27 23 dX9_hadNow_20 (by decide) rfl (fun hc => ?_) (fun hc => ?_)
      · replace h := Out_neg hc h
        refine r_iconst 0 28 dX9_hadNow_27 rfl (by decide) ?_
        refine r_iadd 29 dX9_hadNow_28 rfl ?_
        refine r_istore_n [some (vq (some (9, 0))), some (vi (a1 + 0)), some (vi a2)] 30 dX9_hadNow_29 rfl rfl rfl ?_
        refine r_iinc 1 [some (vq (some (9, 0))), some (vi (a1 + 0)), some (vi (a2 + 1))] 33 dX9_hadNow_30 rfl (by decide) rfl rfl rfl ?_
        refine r_goto 4 dX9_hadNow_33 (by decide) ?_
        exact ih (a1 + 0) (a2 + 1) σ h
      · replace h := Out_pos hc h
        refine r_iconst 1 24 dX9_hadNow_23 rfl (by decide) ?_
        refine r_goto 28 dX9_hadNow_24 (by decide) ?_
        refine r_iadd 29 dX9_hadNow_28 rfl ?_
        refine r_istore_n [some (vq (some (9, 0))), some (vi (a1 + 1)), some (vi a2)] 30 dX9_hadNow_29 rfl rfl rfl ?_
        refine r_iinc 1 [some (vq (some (9, 0))), some (vi (a1 + 1)), some (vi (a2 + 1))] 33 dX9_hadNow_30 rfl (by decide) rfl rfl rfl ?_
        refine r_goto 4 dX9_hadNow_33 (by decide) ?_
        exact ih (a1 + 1) (a2 + 1) σ h
set_option maxRecDepth 20000 in
set_option maxHeartbeats 4000000 in
theorem ct9_hadNow {Γ : GG} {K : Int32 × Sto → Prop}  {σ : Sto} (h : Out (f9_hadNow  σ) K) : Ct true Γ mX9_hadNow 0 0 0 [vq (some (9, 0))] σ (QI K) := by
  refine Ct_intro (by decide +kernel) rfl ?_
  show M true Γ mX9_hadNow 0 0 0 0 0 (QI K) 0 [some (vq (some (9, 0))), none, none] [] σ
  unfold f9_hadNow at h
  refine r_iconst 0 1 dX9_hadNow_0 rfl (by decide) ?_
  refine r_istore_n [some (vq (some (9, 0))), some (vi 0), none] 2 dX9_hadNow_1 rfl rfl rfl ?_
  refine r_iconst 0 3 dX9_hadNow_2 rfl (by decide) ?_
  refine r_istore_n [some (vq (some (9, 0))), some (vi 0), some (vi 0)] 4 dX9_hadNow_3 rfl rfl rfl ?_
  exact tl9_hadNow_4 300 0 0 σ h

set_option maxRecDepth 20000 in
set_option maxHeartbeats 4000000 in
theorem ct9_knifeTells {Γ : GG} {K : Int32 × Sto → Prop} {a1 : Int32} {σ : Sto} (h : Out (f9_knifeTells a1 σ) K) : Ct true Γ mX9_knifeTells 2 0 0 [vq (some (9, 0)), vi a1] σ (QI K) := by
  refine Ct_intro (by decide +kernel) rfl ?_
  show M true Γ mX9_knifeTells 2 0 0 0 0 (QI K) 0 [some (vq (some (9, 0))), some (vi a1)] [] σ
  unfold f9_knifeTells at h
  refine r_aload_n 1 dX9_knifeTells_0 rfl rfl ?_
  refine r_iconst 2 2 dX9_knifeTells_1 rfl (by decide) ?_
  refine c_V [vq (some (9, 0)), vi 2] [] 5 cs9_knifeTells_2 rfl h (fun _ h' => ct9_begin h') rfl rfl rfl rfl (by decide) (Nat.le_refl 0) (Nat.le_refl 0) (fun s21 h => ?_)
  refine r_aload_n 6 dX9_knifeTells_5 rfl rfl ?_
  refine r_iload_n 7 dX9_knifeTells_6 rfl rfl ?_
  refine c_I [vq (some (9, 0)), vi a1] [] 10 cs9_knifeTells_7 rfl h (fun _ h' => ct9_forkTells h') rfl rfl rfl rfl (by decide) (Nat.le_refl 0) (Nat.le_refl 0) (fun v22 s23 h => ?_)
  refine r_bipush 100 12 dX9_knifeTells_10 rfl (by decide) ?_
  refine r_iadd 13 dX9_knifeTells_12 rfl ?_
  exact r_ireturn dX9_knifeTells_13 rfl (Nat.le_refl 0) (Nat.le_refl 0) h

set_option maxRecDepth 20000 in
set_option maxHeartbeats 4000000 in
theorem tl9_last_31 {Γ : GG} {K : Int32 × Sto → Prop} {k : Int32 → Int32 → Sto → Option (Int32 × Sto)} {a1 : Int32} (hx : ∀ (a2 : Int32) (a3 : Int32) (σ : Sto), Out (k a2 a3 σ) K → M true Γ mX9_last 6 0 0 0 0 (QI K) 93 [some (vq (some (9, 0))), some (vi a1), some (vi a2), some (vi a3), none] [] σ) : ∀ (n : Nat) (a2 : Int32) (a3 : Int32) (σ : Sto), Out (l9_last_31 k a1 n a2 a3 σ) K → M true Γ mX9_last 6 0 0 0 0 (QI K) 31 [some (vq (some (9, 0))), some (vi a1), some (vi a2), some (vi a3), none] [] σ := by
  intro n
  induction n with
  | zero => intro a2 a3 σ h; exact absurd h Out_none
  | succ n ih =>
    intro a2 a3 σ h
    unfold l9_last_31 at h
    refine r_iload_n 32 dX9_last_31 rfl rfl ?_
    refine r_sipush 200 35 dX9_last_32 rfl (by decide) ?_
    refine r_icmp_ge 93 38 dX9_last_35 (by decide) rfl (fun hc => ?_) (fun hc => ?_)
    · replace h := Out_pos hc h
      exact hx a2 a3 σ h
    · replace h := Out_neg hc h
      refine r_aload_n 39 dX9_last_38 rfl rfl ?_
      refine r_iload_n 40 dX9_last_39 rfl rfl ?_
      refine c_I [vq (some (9, 0)), vi a3] [] 43 cs9_last_40 rfl h (fun _ h' => ct9_isCode h') rfl rfl rfl rfl (by decide) (Nat.le_refl 0) (Nat.le_refl 0) (fun v23 s24 h => ?_)
      refine r_if_eq 87 46 dX9_last_43 (by decide) rfl (fun hc => ?_) (fun hc => ?_)
      · replace h := Out_pos hc h
        refine r_iinc 1 [some (vq (some (9, 0))), some (vi a1), some (vi a2), some (vi (a3 + 1)), none] 90 dX9_last_87 rfl (by decide) rfl rfl rfl ?_
        refine r_goto 31 dX9_last_90 (by decide) ?_
        exact ih a2 (a3 + 1) s24 h
      · replace h := Out_neg hc h
        refine r_aload_n 47 dX9_last_46 rfl rfl ?_
        refine r_iload_n 48 dX9_last_47 rfl rfl ?_
        refine c_V [vq (some (9, 0)), vi a3] [] 51 cs9_last_48 rfl h (fun _ h' => ct9_doPush h') rfl rfl rfl rfl (by decide) (Nat.le_refl 0) (Nat.le_refl 0) (fun s25 h => ?_)
        refine r_aload_n 52 dX9_last_51 rfl rfl ?_
        refine c_I [vq (some (9, 0))] [] 55 cs9_last_52 rfl h (fun _ h' => ct9_areSo h') rfl rfl rfl rfl (by decide) (Nat.le_refl 0) (Nat.le_refl 0) (fun v26 s27 h => ?_)
        refine r_istore [some (vq (some (9, 0))), some (vi a1), some (vi a2), some (vi a3), some (vi v26)] 57 dX9_last_55 rfl rfl rfl ?_
        refine r_aload_n 58 dX9_last_57 rfl rfl ?_
        refine r_iconst 0 59 dX9_last_58 rfl (by decide) ?_
        refine c_V [vq (some (9, 0)), vi 0] [] 62 cs9_last_59 rfl h (fun _ h' => ct9_load h') rfl rfl rfl rfl (by decide) (Nat.le_refl 0) (Nat.le_refl 0) (fun s28 h => ?_)
        refine r_iload 64 dX9_last_62 rfl rfl ?_
        refine r_if_eq 74 67 dX9_last_64 (by decide) rfl (fun hc => ?_) (fun hc => ?_)
        · replace h := Out_pos hc h
          refine r_iload_n 75 dX9_last_74 rfl rfl ?_
          refine r_iload 77 dX9_last_75 rfl rfl ?_
          refine r_if_eq 84 80 dX9_last_77 (by decide) rfl (fun hc => ?_) (fun hc => ?_)
          · replace h := Out_pos hc h
            refine r_iconst 0 85 dX9_last_84 rfl (by decide) ?_
            refine r_iadd 86 dX9_last_85 rfl ?_
            refine r_istore_n [some (vq (some (9, 0))), some (vi a1), some (vi (a2 + 0)), some (vi a3), some (vi v26)] 87 dX9_last_86 rfl rfl rfl ?_
            refine r_iinc 1 [some (vq (some (9, 0))), some (vi a1), some (vi (a2 + 0)), some (vi (a3 + 1)), some (vi v26)] 90 dX9_last_87 rfl (by decide) rfl rfl rfl ?_
            refine r_goto 31 dX9_last_90 (by decide) ?_
            refine r_mask [true, true, true, true, false] [some (vq (some (9, 0))), some (vi a1), some (vi (a2 + 0)), some (vi (a3 + 1)), none] rfl rfl ?_
            exact ih (a2 + 0) (a3 + 1) s28 h
          · replace h := Out_neg hc h
            refine r_iconst 1 81 dX9_last_80 rfl (by decide) ?_
            refine r_goto 85 dX9_last_81 (by decide) ?_
            refine r_iadd 86 dX9_last_85 rfl ?_
            refine r_istore_n [some (vq (some (9, 0))), some (vi a1), some (vi (a2 + 1)), some (vi a3), some (vi v26)] 87 dX9_last_86 rfl rfl rfl ?_
            refine r_iinc 1 [some (vq (some (9, 0))), some (vi a1), some (vi (a2 + 1)), some (vi (a3 + 1)), some (vi v26)] 90 dX9_last_87 rfl (by decide) rfl rfl rfl ?_
            refine r_goto 31 dX9_last_90 (by decide) ?_
            refine r_mask [true, true, true, true, false] [some (vq (some (9, 0))), some (vi a1), some (vi (a2 + 1)), some (vi (a3 + 1)), none] rfl rfl ?_
            exact ih (a2 + 1) (a3 + 1) s28 h
        · replace h := Out_neg hc h
          refine r_iload_n 68 dX9_last_67 rfl rfl ?_
          refine r_iload_n 69 dX9_last_68 rfl rfl ?_
          refine r_icmp_ne 74 72 dX9_last_69 (by decide) rfl (fun hc => ?_) (fun hc => ?_)
          · replace h := Out_neg hc h
            refine r_iload_n 75 dX9_last_74 rfl rfl ?_
            refine r_iload 77 dX9_last_75 rfl rfl ?_
            refine r_if_eq 84 80 dX9_last_77 (by decide) rfl (fun hc => ?_) (fun hc => ?_)
            · replace h := Out_pos hc h
              refine r_iconst 0 85 dX9_last_84 rfl (by decide) ?_
              refine r_iadd 86 dX9_last_85 rfl ?_
              refine r_istore_n [some (vq (some (9, 0))), some (vi a1), some (vi (a2 + 0)), some (vi a3), some (vi v26)] 87 dX9_last_86 rfl rfl rfl ?_
              refine r_iinc 1 [some (vq (some (9, 0))), some (vi a1), some (vi (a2 + 0)), some (vi (a3 + 1)), some (vi v26)] 90 dX9_last_87 rfl (by decide) rfl rfl rfl ?_
              refine r_goto 31 dX9_last_90 (by decide) ?_
              refine r_mask [true, true, true, true, false] [some (vq (some (9, 0))), some (vi a1), some (vi (a2 + 0)), some (vi (a3 + 1)), none] rfl rfl ?_
              exact ih (a2 + 0) (a3 + 1) s28 h
            · replace h := Out_neg hc h
              refine r_iconst 1 81 dX9_last_80 rfl (by decide) ?_
              refine r_goto 85 dX9_last_81 (by decide) ?_
              refine r_iadd 86 dX9_last_85 rfl ?_
              refine r_istore_n [some (vq (some (9, 0))), some (vi a1), some (vi (a2 + 1)), some (vi a3), some (vi v26)] 87 dX9_last_86 rfl rfl rfl ?_
              refine r_iinc 1 [some (vq (some (9, 0))), some (vi a1), some (vi (a2 + 1)), some (vi (a3 + 1)), some (vi v26)] 90 dX9_last_87 rfl (by decide) rfl rfl rfl ?_
              refine r_goto 31 dX9_last_90 (by decide) ?_
              refine r_mask [true, true, true, true, false] [some (vq (some (9, 0))), some (vi a1), some (vi (a2 + 1)), some (vi (a3 + 1)), none] rfl rfl ?_
              exact ih (a2 + 1) (a3 + 1) s28 h
          · replace h := Out_pos hc h
            refine r_iload_n 73 dX9_last_72 rfl rfl ?_
            exact r_ireturn dX9_last_73 rfl (Nat.le_refl 0) (Nat.le_refl 0) h
set_option maxRecDepth 20000 in
set_option maxHeartbeats 4000000 in
theorem ct9_last {Γ : GG} {K : Int32 × Sto → Prop} {a1 : Int32} {σ : Sto} (h : Out (f9_last a1 σ) K) : Ct true Γ mX9_last 6 0 0 [vq (some (9, 0)), vi a1] σ (QI K) := by
  refine Ct_intro (by decide +kernel) rfl ?_
  show M true Γ mX9_last 6 0 0 0 0 (QI K) 0 [some (vq (some (9, 0))), some (vi a1), none, none, none] [] σ
  unfold f9_last at h
  refine r_iload_n 1 dX9_last_0 rfl rfl ?_
  refine r_iconst (-1) 2 dX9_last_1 rfl (by decide) ?_
  refine r_icmp_ge 7 5 dX9_last_2 (by decide) rfl (fun hc => ?_) (fun hc => ?_)
  · replace h := Out_pos hc h
    refine r_aload_n 8 dX9_last_7 rfl rfl ?_
    refine r_getI (x := fe9_68) 1 11 fl9_68 (by decide) dX9_last_8 rfl rfl rfl ?_
    refine r_if_ne 17 14 dX9_last_11 (by decide) rfl (fun hc => ?_) (fun hc => ?_)
    · replace h := Out_neg hc h
      refine r_aload_n 18 dX9_last_17 rfl rfl ?_
      refine r_iconst (-1) 19 dX9_last_18 rfl (by decide) ?_
      refine c_V [vq (some (9, 0)), vi (-1)] [] 22 cs9_last_19 rfl h (fun _ h' => ct9_goThrough h') rfl rfl rfl rfl (by decide) (Nat.le_refl 0) (Nat.le_refl 0) (fun s21 h => ?_)
      refine r_aload_n 23 dX9_last_22 rfl rfl ?_
      refine r_iconst 0 24 dX9_last_23 rfl (by decide) ?_
      refine c_V [vq (some (9, 0)), vi 0] [] 27 cs9_last_24 rfl h (fun _ h' => ct9_save h') rfl rfl rfl rfl (by decide) (Nat.le_refl 0) (Nat.le_refl 0) (fun s22 h => ?_)
      refine r_iconst 0 28 dX9_last_27 rfl (by decide) ?_
      refine r_istore_n [some (vq (some (9, 0))), some (vi a1), some (vi 0), none, none] 29 dX9_last_28 rfl rfl rfl ?_
      refine r_iconst 0 30 dX9_last_29 rfl (by decide) ?_
      refine r_istore_n [some (vq (some (9, 0))), some (vi a1), some (vi 0), some (vi 0), none] 31 dX9_last_30 rfl rfl rfl ?_
      refine tl9_last_31 (fun v29 v30 s31 h => ?_) 300 0 0 s22 h
      refine r_iload_n 94 dX9_last_93 rfl rfl ?_
      refine r_iconst (-1) 95 dX9_last_94 rfl (by decide) ?_
      refine r_icmp_ne 102 98 dX9_last_95 (by decide) rfl (fun hc => ?_) (fun hc => ?_)
      · replace h := Out_neg hc h
        refine r_bipush (-9) 104 dX9_last_102 rfl (by decide) ?_
        exact r_ireturn dX9_last_104 rfl (Nat.le_refl 0) (Nat.le_refl 0) h
      · replace h := Out_pos hc h
        refine r_iload_n 99 dX9_last_98 rfl rfl ?_
        refine r_goto 104 dX9_last_99 (by decide) ?_
        exact r_ireturn dX9_last_104 rfl (Nat.le_refl 0) (Nat.le_refl 0) h
    · replace h := Out_pos hc h
      refine r_bipush (-3) 16 dX9_last_14 rfl (by decide) ?_
      exact r_ireturn dX9_last_16 rfl (Nat.le_refl 0) (Nat.le_refl 0) h
  · replace h := Out_neg hc h
    refine r_iconst (-1) 6 dX9_last_5 rfl (by decide) ?_
    exact r_ireturn dX9_last_6 rfl (Nat.le_refl 0) (Nat.le_refl 0) h

set_option maxRecDepth 20000 in
set_option maxHeartbeats 4000000 in
theorem ct9_law {Γ : GG} {K : Int32 × Sto → Prop} {a1 : Int32} {σ : Sto} (h : Out (f9_law a1 σ) K) : Ct true Γ mX9_law 1 0 0 [vq (some (9, 0)), vi a1] σ (QI K) := by
  refine Ct_intro (by decide +kernel) rfl ?_
  show M true Γ mX9_law 1 0 0 0 0 (QI K) 0 [some (vq (some (9, 0))), some (vi a1), none] [] σ
  unfold f9_law at h
  refine r_iload_n 1 dX9_law_0 rfl rfl ?_
  refine r_i2l 2 dX9_law_1 rfl ?_
  refine r_lconst 0 3 dX9_law_2 rfl (by decide) ?_
  refine r_ldc2 (2) 6 dX9_law_3 rfl w_3ed1b261 ?_
  refine c_I [vl a1.toInt64, vl 0, vl (2)] [] 9 cs9_law_6 rfl h (fun _ h' => ct9_in h') rfl rfl rfl rfl (by decide) (Nat.le_refl 0) (Nat.le_refl 0) (fun v21 s22 h => ?_)
  refine r_if_ne 15 12 dX9_law_9 (by decide) rfl (fun hc => ?_) (fun hc => ?_)
  · replace h := Out_neg hc h
    refine r_aload_n 16 dX9_law_15 rfl rfl ?_
    refine r_getI (x := fe9_68) 1 19 fl9_68 (by decide) dX9_law_16 rfl rfl rfl ?_
    refine r_if_ne 25 22 dX9_law_19 (by decide) rfl (fun hc => ?_) (fun hc => ?_)
    · replace h := Out_neg hc h
      refine r_aload_n 26 dX9_law_25 rfl rfl ?_
      refine r_getI (x := fe9_150) 8 29 fl9_150 (by decide) dX9_law_26 rfl rfl rfl ?_
      refine r_istore_n [some (vq (some (9, 0))), some (vi a1), some (vi (gI s22 9 0 8))] 30 dX9_law_29 rfl rfl rfl ?_
      refine r_aload_n 31 dX9_law_30 rfl rfl ?_
      refine r_iload_n 32 dX9_law_31 rfl rfl ?_
      refine r_putI (x := fe9_150) 8 35 fl9_150 (by decide) dX9_law_32 rfl (Or.inl rfl) rfl rfl ?_
      refine r_iload_n 36 dX9_law_35 rfl rfl ?_
      exact r_ireturn dX9_law_36 rfl (Nat.le_refl 0) (Nat.le_refl 0) h
    · replace h := Out_pos hc h
      refine r_bipush (-3) 24 dX9_law_22 rfl (by decide) ?_
      exact r_ireturn dX9_law_24 rfl (Nat.le_refl 0) (Nat.le_refl 0) h
  · replace h := Out_pos hc h
    refine r_bipush (-2) 14 dX9_law_12 rfl (by decide) ?_
    exact r_ireturn dX9_law_14 rfl (Nat.le_refl 0) (Nat.le_refl 0) h

set_option maxRecDepth 20000 in
set_option maxHeartbeats 4000000 in
theorem tl9_laws_19 {Γ : GG} {K : Int32 × Sto → Prop} {a1 : Int32} : ∀ (n : Nat) (a2 : Int32) (a3 : Int32) (σ : Sto), Out (l9_laws_19 a1 n a2 a3 σ) K → M true Γ mX9_laws 6 0 0 0 0 (QI K) 19 [some (vq (some (9, 0))), some (vi a1), some (vi a2), some (vi a3)] [] σ := by
  intro n
  induction n with
  | zero => intro a2 a3 σ h; exact absurd h Out_none
  | succ n ih =>
    intro a2 a3 σ h
    unfold l9_laws_19 at h
    refine r_iload_n 20 dX9_laws_19 rfl rfl ?_
    refine r_iconst 3 21 dX9_laws_20 rfl (by decide) ?_
    refine r_icmp_ge 57 24 dX9_laws_21 (by decide) rfl (fun hc => ?_) (fun hc => ?_)
    · replace h := Out_pos hc h
      refine r_aload_n 58 dX9_laws_57 rfl rfl ?_
      refine r_iload_n 59 dX9_laws_58 rfl rfl ?_
      refine r_putI (x := fe9_150) 8 62 fl9_150 (by decide) dX9_laws_59 rfl (Or.inl rfl) rfl rfl ?_
      refine r_iload_n 63 dX9_laws_62 rfl rfl ?_
      exact r_ireturn dX9_laws_63 rfl (Nat.le_refl 0) (Nat.le_refl 0) h
    · replace h := Out_neg hc h
      refine r_aload_n 25 dX9_laws_24 rfl rfl ?_
      refine r_iload_n 26 dX9_laws_25 rfl rfl ?_
      refine r_putI (x := fe9_150) 8 29 fl9_150 (by decide) dX9_laws_26 rfl (Or.inl rfl) rfl rfl ?_
      refine r_aload_n 30 dX9_laws_29 rfl rfl ?_
      refine r_iconst (-1) 31 dX9_laws_30 rfl (by decide) ?_
      refine c_V [vq (some (9, 0)), vi (-1)] [] 34 cs9_laws_31 rfl h (fun _ h' => ct9_goThrough h') rfl rfl rfl rfl (by decide) (Nat.le_refl 0) (Nat.le_refl 0) (fun s21 h => ?_)
      refine r_iload_n 35 dX9_laws_34 rfl rfl ?_
      refine r_aload_n 36 dX9_laws_35 rfl rfl ?_
      refine c_I [vq (some (9, 0))] [vi a2] 39 cs9_laws_36 rfl h (fun _ h' => ct9_areSo h') rfl rfl rfl rfl (by decide) (Nat.le_refl 0) (Nat.le_refl 0) (fun v22 s23 h => ?_)
      refine r_if_eq 48 42 dX9_laws_39 (by decide) rfl (fun hc => ?_) (fun hc => ?_)
      · replace h := Out_pos hc h
        refine r_iconst 0 49 dX9_laws_48 rfl (by decide) ?_
        refine r_ior 50 dX9_laws_49 rfl ?_
        refine r_istore_n [some (vq (some (9, 0))), some (vi a1), some (vi (a2 ||| 0)), some (vi a3)] 51 dX9_laws_50 rfl rfl rfl ?_
        refine r_iinc 1 [some (vq (some (9, 0))), some (vi a1), some (vi (a2 ||| 0)), some (vi (a3 + 1))] 54 dX9_laws_51 rfl (by decide) rfl rfl rfl ?_
        refine r_goto 19 dX9_laws_54 (by decide) ?_
        exact ih (a2 ||| 0) (a3 + 1) s23 h
      · replace h := Out_neg hc h
        refine r_iconst 1 43 dX9_laws_42 rfl (by decide) ?_
        refine r_iload_n 44 dX9_laws_43 rfl rfl ?_
        refine r_ishl 45 dX9_laws_44 rfl ?_
        refine r_goto 49 dX9_laws_45 (by decide) ?_
        refine r_ior 50 dX9_laws_49 rfl ?_
        refine r_istore_n [some (vq (some (9, 0))), some (vi a1), some (vi (a2 ||| (1 <<< (a3 &&& 31)))), some (vi a3)] 51 dX9_laws_50 rfl rfl rfl ?_
        refine r_iinc 1 [some (vq (some (9, 0))), some (vi a1), some (vi (a2 ||| (1 <<< (a3 &&& 31)))), some (vi (a3 + 1))] 54 dX9_laws_51 rfl (by decide) rfl rfl rfl ?_
        refine r_goto 19 dX9_laws_54 (by decide) ?_
        exact ih (a2 ||| (1 <<< (a3 &&& 31))) (a3 + 1) s23 h
set_option maxRecDepth 20000 in
set_option maxHeartbeats 4000000 in
theorem ct9_laws {Γ : GG} {K : Int32 × Sto → Prop}  {σ : Sto} (h : Out (f9_laws  σ) K) : Ct true Γ mX9_laws 6 0 0 [vq (some (9, 0))] σ (QI K) := by
  refine Ct_intro (by decide +kernel) rfl ?_
  show M true Γ mX9_laws 6 0 0 0 0 (QI K) 0 [some (vq (some (9, 0))), none, none, none] [] σ
  unfold f9_laws at h
  refine r_aload_n 1 dX9_laws_0 rfl rfl ?_
  refine r_getI (x := fe9_68) 1 4 fl9_68 (by decide) dX9_laws_1 rfl rfl rfl ?_
  refine r_if_ne 10 7 dX9_laws_4 (by decide) rfl (fun hc => ?_) (fun hc => ?_)
  · replace h := Out_neg hc h
    refine r_aload_n 11 dX9_laws_10 rfl rfl ?_
    refine r_getI (x := fe9_150) 8 14 fl9_150 (by decide) dX9_laws_11 rfl rfl rfl ?_
    refine r_istore_n [some (vq (some (9, 0))), some (vi (gI σ 9 0 8)), none, none] 15 dX9_laws_14 rfl rfl rfl ?_
    refine r_iconst 0 16 dX9_laws_15 rfl (by decide) ?_
    refine r_istore_n [some (vq (some (9, 0))), some (vi (gI σ 9 0 8)), some (vi 0), none] 17 dX9_laws_16 rfl rfl rfl ?_
    refine r_iconst 0 18 dX9_laws_17 rfl (by decide) ?_
    refine r_istore_n [some (vq (some (9, 0))), some (vi (gI σ 9 0 8)), some (vi 0), some (vi 0)] 19 dX9_laws_18 rfl rfl rfl ?_
    exact tl9_laws_19 300 0 0 σ h
  · replace h := Out_pos hc h
    refine r_bipush (-3) 9 dX9_laws_7 rfl (by decide) ?_
    exact r_ireturn dX9_laws_9 rfl (Nat.le_refl 0) (Nat.le_refl 0) h

set_option maxRecDepth 20000 in
set_option maxHeartbeats 4000000 in
theorem ct9_lose {Γ : GG} {K : Int32 × Sto → Prop} {a1 : Int32} {σ : Sto} (h : Out (f9_lose a1 σ) K) : Ct true Γ mX9_lose 2 0 0 [vq (some (9, 0)), vi a1] σ (QI K) := by
  refine Ct_intro (by decide +kernel) rfl ?_
  show M true Γ mX9_lose 2 0 0 0 0 (QI K) 0 [some (vq (some (9, 0))), some (vi a1), none] [] σ
  unfold f9_lose at h
  refine r_iload_n 1 dX9_lose_0 rfl rfl ?_
  refine c_I [vi a1] [] 4 cs9_lose_1 rfl h (fun _ h' => ct9_isSheet h') rfl rfl rfl rfl (by decide) (Nat.le_refl 0) (Nat.le_refl 0) (fun v21 s22 h => ?_)
  refine r_if_ne 9 7 dX9_lose_4 (by decide) rfl (fun hc => ?_) (fun hc => ?_)
  · replace h := Out_neg hc h
    refine r_aload_n 10 dX9_lose_9 rfl rfl ?_
    refine r_getF (x := fe9_31) 16 (31, 0) 13 fl9_31 (by decide) dX9_lose_10 rfl rfl rfl rfl ?_
    refine r_iload_n 14 dX9_lose_13 rfl rfl ?_
    obtain ⟨hc, h⟩ := Out_grd h
    refine r_iaload a1.toNatClampNeg 4 15 dX9_lose_14 rfl (by decide) rfl rfl hc rfl ?_
    refine r_if_ge 22 18 dX9_lose_15 (by decide) rfl (fun hc => ?_) (fun hc => ?_)
    · replace h := Out_pos hc h
      refine r_iconst 1 23 dX9_lose_22 rfl (by decide) ?_
      refine r_istore_n [some (vq (some (9, 0))), some (vi a1), some (vi 1)] 24 dX9_lose_23 rfl rfl rfl ?_
      refine r_aload_n 25 dX9_lose_24 rfl rfl ?_
      refine r_getF (x := fe9_31) 16 (31, 0) 28 fl9_31 (by decide) dX9_lose_25 rfl rfl rfl rfl ?_
      refine r_iload_n 29 dX9_lose_28 rfl rfl ?_
      refine r_iconst (-1) 30 dX9_lose_29 rfl (by decide) ?_
      obtain ⟨hc, h⟩ := Out_grd h
      refine r_iastore a1.toNatClampNeg 4 31 dX9_lose_30 rfl (by decide) (by decide) rfl rfl hc rfl ?_
      refine r_iload_n 32 dX9_lose_31 rfl rfl ?_
      exact r_ireturn dX9_lose_32 rfl (Nat.le_refl 0) (Nat.le_refl 0) h
    · replace h := Out_neg hc h
      refine r_iconst 0 19 dX9_lose_18 rfl (by decide) ?_
      refine r_goto 23 dX9_lose_19 (by decide) ?_
      refine r_istore_n [some (vq (some (9, 0))), some (vi a1), some (vi 0)] 24 dX9_lose_23 rfl rfl rfl ?_
      refine r_aload_n 25 dX9_lose_24 rfl rfl ?_
      refine r_getF (x := fe9_31) 16 (31, 0) 28 fl9_31 (by decide) dX9_lose_25 rfl rfl rfl rfl ?_
      refine r_iload_n 29 dX9_lose_28 rfl rfl ?_
      refine r_iconst (-1) 30 dX9_lose_29 rfl (by decide) ?_
      obtain ⟨hc, h⟩ := Out_grd h
      refine r_iastore a1.toNatClampNeg 4 31 dX9_lose_30 rfl (by decide) (by decide) rfl rfl hc rfl ?_
      refine r_iload_n 32 dX9_lose_31 rfl rfl ?_
      exact r_ireturn dX9_lose_32 rfl (Nat.le_refl 0) (Nat.le_refl 0) h
  · replace h := Out_pos hc h
    refine r_iconst (-1) 8 dX9_lose_7 rfl (by decide) ?_
    exact r_ireturn dX9_lose_8 rfl (Nat.le_refl 0) (Nat.le_refl 0) h

set_option maxRecDepth 20000 in
set_option maxHeartbeats 4000000 in
theorem ct9_many {Γ : GG} {K : Int32 × Sto → Prop} {a1 : Int32} {σ : Sto} (h : Out (f9_many a1 σ) K) : Ct true Γ mX9_many 0 0 0 [vq (some (9, 0)), vi a1] σ (QI K) := by
  refine Ct_intro (by decide +kernel) rfl ?_
  show M true Γ mX9_many 0 0 0 0 0 (QI K) 0 [some (vq (some (9, 0))), some (vi a1)] [] σ
  unfold f9_many at h
  refine r_iload_n 1 dX9_many_0 rfl rfl ?_
  by_cases hs0 : a1 = 0
  · replace h := Out_pos hs0 h
    refine M_tableIn dX9_many_1 (off := 43) (t := 44) (by rw [hs0]; decide) (by rw [hs0]; decide) (by rw [hs0]; decide) (by decide) ?_
    refine r_aload_n 45 dX9_many_44 rfl rfl ?_
    refine r_getI (x := fe9_68) 1 48 fl9_68 (by decide) dX9_many_45 rfl rfl rfl ?_
    exact r_ireturn dX9_many_48 rfl (Nat.le_refl 0) (Nat.le_refl 0) h
  replace h := Out_neg hs0 h
  by_cases hs1 : a1 = 1
  · replace h := Out_pos hs1 h
    refine M_tableIn dX9_many_1 (off := 48) (t := 49) (by rw [hs1]; decide) (by rw [hs1]; decide) (by rw [hs1]; decide) (by decide) ?_
    refine r_aload_n 50 dX9_many_49 rfl rfl ?_
    refine r_getI (x := fe9_147) 0 53 fl9_147 (by decide) dX9_many_50 rfl rfl rfl ?_
    exact r_ireturn dX9_many_53 rfl (Nat.le_refl 0) (Nat.le_refl 0) h
  replace h := Out_neg hs1 h
  by_cases hs2 : a1 = 2
  · replace h := Out_pos hs2 h
    refine M_tableIn dX9_many_1 (off := 53) (t := 54) (by rw [hs2]; decide) (by rw [hs2]; decide) (by rw [hs2]; decide) (by decide) ?_
    refine r_aload_n 55 dX9_many_54 rfl rfl ?_
    refine r_getI (x := fe9_75) 3 58 fl9_75 (by decide) dX9_many_55 rfl rfl rfl ?_
    exact r_ireturn dX9_many_58 rfl (Nat.le_refl 0) (Nat.le_refl 0) h
  replace h := Out_neg hs2 h
  by_cases hs3 : a1 = 3
  · replace h := Out_pos hs3 h
    refine M_tableIn dX9_many_1 (off := 58) (t := 59) (by rw [hs3]; decide) (by rw [hs3]; decide) (by rw [hs3]; decide) (by decide) ?_
    refine r_aload_n 60 dX9_many_59 rfl rfl ?_
    refine r_getI (x := fe9_78) 5 63 fl9_78 (by decide) dX9_many_60 rfl rfl rfl ?_
    exact r_ireturn dX9_many_63 rfl (Nat.le_refl 0) (Nat.le_refl 0) h
  replace h := Out_neg hs3 h
  by_cases hs4 : a1 = 4
  · replace h := Out_pos hs4 h
    refine M_tableIn dX9_many_1 (off := 63) (t := 64) (by rw [hs4]; decide) (by rw [hs4]; decide) (by rw [hs4]; decide) (by decide) ?_
    refine r_aload_n 65 dX9_many_64 rfl rfl ?_
    refine r_getI (x := fe9_153) 9 68 fl9_153 (by decide) dX9_many_65 rfl rfl rfl ?_
    exact r_ireturn dX9_many_68 rfl (Nat.le_refl 0) (Nat.le_refl 0) h
  replace h := Out_neg hs4 h
  by_cases hs5 : a1 = 5
  · replace h := Out_pos hs5 h
    refine M_tableIn dX9_many_1 (off := 68) (t := 69) (by rw [hs5]; decide) (by rw [hs5]; decide) (by rw [hs5]; decide) (by decide) ?_
    refine r_aload_n 70 dX9_many_69 rfl rfl ?_
    refine r_getI (x := fe9_156) 11 73 fl9_156 (by decide) dX9_many_70 rfl rfl rfl ?_
    exact r_ireturn dX9_many_73 rfl (Nat.le_refl 0) (Nat.le_refl 0) h
  replace h := Out_neg hs5 h
  by_cases hs6 : a1 = 6
  · replace h := Out_pos hs6 h
    refine M_tableIn dX9_many_1 (off := 73) (t := 74) (by rw [hs6]; decide) (by rw [hs6]; decide) (by rw [hs6]; decide) (by decide) ?_
    refine r_aload_n 75 dX9_many_74 rfl rfl ?_
    refine r_getI (x := fe9_150) 8 78 fl9_150 (by decide) dX9_many_75 rfl rfl rfl ?_
    exact r_ireturn dX9_many_78 rfl (Nat.le_refl 0) (Nat.le_refl 0) h
  replace h := Out_neg hs6 h
  refine M_tableOut dX9_many_1 (t := 79) (by have q0 := lv_neT hs0 (a := 0) (by decide); have q1 := lv_neT hs1 (a := 1) (by decide); have q2 := lv_neT hs2 (a := 2) (by decide); have q3 := lv_neT hs3 (a := 3) (by decide); have q4 := lv_neT hs4 (a := 4) (by decide); have q5 := lv_neT hs5 (a := 5) (by decide); have q6 := lv_neT hs6 (a := 6) (by decide); omega) (by decide) ?_
  refine r_bipush (-2) 81 dX9_many_79 rfl (by decide) ?_
  exact r_ireturn dX9_many_81 rfl (Nat.le_refl 0) (Nat.le_refl 0) h

set_option maxRecDepth 20000 in
set_option maxHeartbeats 4000000 in
theorem tl9_mostByOne_12 {Γ : GG} {K : Int32 × Sto → Prop} {a1 : Int32} : ∀ (n : Nat) (a2 : Int32) (a3 : Int32) (σ : Sto), Out (l9_mostByOne_12 a1 n a2 a3 σ) K → M true Γ mX9_mostByOne 5 0 0 0 0 (QI K) 12 [some (vq (some (9, 0))), some (vi a1), some (vi a2), some (vi a3), none] [] σ := by
  intro n
  induction n with
  | zero => intro a2 a3 σ h; exact absurd h Out_none
  | succ n ih =>
    intro a2 a3 σ h
    unfold l9_mostByOne_12 at h
    refine r_iload_n 13 dX9_mostByOne_12 rfl rfl ?_
    refine r_sipush 200 16 dX9_mostByOne_13 rfl (by decide) ?_
    refine r_icmp_ge 62 19 dX9_mostByOne_16 (by decide) rfl (fun hc => ?_) (fun hc => ?_)
    · replace h := Out_pos hc h
      refine r_iload_n 63 dX9_mostByOne_62 rfl rfl ?_
      exact r_ireturn dX9_mostByOne_63 rfl (Nat.le_refl 0) (Nat.le_refl 0) h
    · replace h := Out_neg hc h
      refine r_aload_n 20 dX9_mostByOne_19 rfl rfl ?_
      refine r_iload_n 21 dX9_mostByOne_20 rfl rfl ?_
      refine c_I [vq (some (9, 0)), vi a3] [] 24 cs9_mostByOne_21 rfl h (fun _ h' => ct9_isPush h') rfl rfl rfl rfl (by decide) (Nat.le_refl 0) (Nat.le_refl 0) (fun v24 s25 h => ?_)
      refine r_if_eq 56 27 dX9_mostByOne_24 (by decide) rfl (fun hc => ?_) (fun hc => ?_)
      · replace h := Out_pos hc h
        refine r_iinc 1 [some (vq (some (9, 0))), some (vi a1), some (vi a2), some (vi (a3 + 1)), none] 59 dX9_mostByOne_56 rfl (by decide) rfl rfl rfl ?_
        refine r_goto 12 dX9_mostByOne_59 (by decide) ?_
        exact ih a2 (a3 + 1) s25 h
      · replace h := Out_neg hc h
        refine r_aload_n 28 dX9_mostByOne_27 rfl rfl ?_
        refine r_iload_n 29 dX9_mostByOne_28 rfl rfl ?_
        refine c_V [vq (some (9, 0)), vi a3] [] 32 cs9_mostByOne_29 rfl h (fun _ h' => ct9_doPush h') rfl rfl rfl rfl (by decide) (Nat.le_refl 0) (Nat.le_refl 0) (fun s26 h => ?_)
        refine r_aload_n 33 dX9_mostByOne_32 rfl rfl ?_
        refine c_I [vq (some (9, 0))] [] 36 cs9_mostByOne_33 rfl h (fun _ h' => ct9_hadNow h') rfl rfl rfl rfl (by decide) (Nat.le_refl 0) (Nat.le_refl 0) (fun v27 s28 h => ?_)
        refine r_istore [some (vq (some (9, 0))), some (vi a1), some (vi a2), some (vi a3), some (vi v27)] 38 dX9_mostByOne_36 rfl rfl rfl ?_
        refine r_iload 40 dX9_mostByOne_38 rfl rfl ?_
        refine r_iload_n 41 dX9_mostByOne_40 rfl rfl ?_
        refine r_icmp_le 49 44 dX9_mostByOne_41 (by decide) rfl (fun hc => ?_) (fun hc => ?_)
        · replace h := Out_pos hc h
          refine r_iload_n 50 dX9_mostByOne_49 rfl rfl ?_
          refine r_istore_n [some (vq (some (9, 0))), some (vi a1), some (vi a2), some (vi a3), some (vi v27)] 51 dX9_mostByOne_50 rfl rfl rfl ?_
          refine r_aload_n 52 dX9_mostByOne_51 rfl rfl ?_
          refine r_iload_n 53 dX9_mostByOne_52 rfl rfl ?_
          refine c_V [vq (some (9, 0)), vi a1] [] 56 cs9_mostByOne_53 rfl h (fun _ h' => ct9_load h') rfl rfl rfl rfl (by decide) (Nat.le_refl 0) (Nat.le_refl 0) (fun s29 h => ?_)
          refine r_iinc 1 [some (vq (some (9, 0))), some (vi a1), some (vi a2), some (vi (a3 + 1)), some (vi v27)] 59 dX9_mostByOne_56 rfl (by decide) rfl rfl rfl ?_
          refine r_goto 12 dX9_mostByOne_59 (by decide) ?_
          refine r_mask [true, true, true, true, false] [some (vq (some (9, 0))), some (vi a1), some (vi a2), some (vi (a3 + 1)), none] rfl rfl ?_
          exact ih a2 (a3 + 1) s29 h
        · replace h := Out_neg hc h
          refine r_iload 46 dX9_mostByOne_44 rfl rfl ?_
          refine r_goto 50 dX9_mostByOne_46 (by decide) ?_
          refine r_istore_n [some (vq (some (9, 0))), some (vi a1), some (vi v27), some (vi a3), some (vi v27)] 51 dX9_mostByOne_50 rfl rfl rfl ?_
          refine r_aload_n 52 dX9_mostByOne_51 rfl rfl ?_
          refine r_iload_n 53 dX9_mostByOne_52 rfl rfl ?_
          refine c_V [vq (some (9, 0)), vi a1] [] 56 cs9_mostByOne_53 rfl h (fun _ h' => ct9_load h') rfl rfl rfl rfl (by decide) (Nat.le_refl 0) (Nat.le_refl 0) (fun s30 h => ?_)
          refine r_iinc 1 [some (vq (some (9, 0))), some (vi a1), some (vi v27), some (vi (a3 + 1)), some (vi v27)] 59 dX9_mostByOne_56 rfl (by decide) rfl rfl rfl ?_
          refine r_goto 12 dX9_mostByOne_59 (by decide) ?_
          refine r_mask [true, true, true, true, false] [some (vq (some (9, 0))), some (vi a1), some (vi v27), some (vi (a3 + 1)), none] rfl rfl ?_
          exact ih v27 (a3 + 1) s30 h
set_option maxRecDepth 20000 in
set_option maxHeartbeats 4000000 in
theorem ct9_mostByOne {Γ : GG} {K : Int32 × Sto → Prop} {a1 : Int32} {σ : Sto} (h : Out (f9_mostByOne a1 σ) K) : Ct true Γ mX9_mostByOne 5 0 0 [vq (some (9, 0)), vi a1] σ (QI K) := by
  refine Ct_intro (by decide +kernel) rfl ?_
  show M true Γ mX9_mostByOne 5 0 0 0 0 (QI K) 0 [some (vq (some (9, 0))), some (vi a1), none, none, none] [] σ
  unfold f9_mostByOne at h
  refine r_aload_n 1 dX9_mostByOne_0 rfl rfl ?_
  refine r_iload_n 2 dX9_mostByOne_1 rfl rfl ?_
  refine c_V [vq (some (9, 0)), vi a1] [] 5 cs9_mostByOne_2 rfl h (fun _ h' => ct9_save h') rfl rfl rfl rfl (by decide) (Nat.le_refl 0) (Nat.le_refl 0) (fun s21 h => ?_)
  refine r_aload_n 6 dX9_mostByOne_5 rfl rfl ?_
  refine c_I [vq (some (9, 0))] [] 9 cs9_mostByOne_6 rfl h (fun _ h' => ct9_hadNow h') rfl rfl rfl rfl (by decide) (Nat.le_refl 0) (Nat.le_refl 0) (fun v22 s23 h => ?_)
  refine r_istore_n [some (vq (some (9, 0))), some (vi a1), some (vi v22), none, none] 10 dX9_mostByOne_9 rfl rfl rfl ?_
  refine r_iconst 0 11 dX9_mostByOne_10 rfl (by decide) ?_
  refine r_istore_n [some (vq (some (9, 0))), some (vi a1), some (vi v22), some (vi 0), none] 12 dX9_mostByOne_11 rfl rfl rfl ?_
  exact tl9_mostByOne_12 300 v22 0 s23 h

set_option maxRecDepth 20000 in
set_option maxHeartbeats 4000000 in
theorem tl9_mostByTwo_12 {Γ : GG} {K : Int32 × Sto → Prop} {a1 : Int32} : ∀ (n : Nat) (a2 : Int32) (a3 : Int32) (σ : Sto), Out (l9_mostByTwo_12 a1 n a2 a3 σ) K → M true Γ mX9_mostByTwo 6 0 0 0 0 (QI K) 12 [some (vq (some (9, 0))), some (vi a1), some (vi a2), some (vi a3), none] [] σ := by
  intro n
  induction n with
  | zero => intro a2 a3 σ h; exact absurd h Out_none
  | succ n ih =>
    intro a2 a3 σ h
    unfold l9_mostByTwo_12 at h
    refine r_iload_n 13 dX9_mostByTwo_12 rfl rfl ?_
    refine r_sipush 200 16 dX9_mostByTwo_13 rfl (by decide) ?_
    refine r_icmp_ge 65 19 dX9_mostByTwo_16 (by decide) rfl (fun hc => ?_) (fun hc => ?_)
    · replace h := Out_pos hc h
      refine r_iload_n 66 dX9_mostByTwo_65 rfl rfl ?_
      exact r_ireturn dX9_mostByTwo_66 rfl (Nat.le_refl 0) (Nat.le_refl 0) h
    · replace h := Out_neg hc h
      refine r_aload_n 20 dX9_mostByTwo_19 rfl rfl ?_
      refine r_iload_n 21 dX9_mostByTwo_20 rfl rfl ?_
      refine c_I [vq (some (9, 0)), vi a3] [] 24 cs9_mostByTwo_21 rfl h (fun _ h' => ct9_isPush h') rfl rfl rfl rfl (by decide) (Nat.le_refl 0) (Nat.le_refl 0) (fun v24 s25 h => ?_)
      refine r_if_eq 59 27 dX9_mostByTwo_24 (by decide) rfl (fun hc => ?_) (fun hc => ?_)
      · replace h := Out_pos hc h
        refine r_iinc 1 [some (vq (some (9, 0))), some (vi a1), some (vi a2), some (vi (a3 + 1)), none] 62 dX9_mostByTwo_59 rfl (by decide) rfl rfl rfl ?_
        refine r_goto 12 dX9_mostByTwo_62 (by decide) ?_
        exact ih a2 (a3 + 1) s25 h
      · replace h := Out_neg hc h
        refine r_aload_n 28 dX9_mostByTwo_27 rfl rfl ?_
        refine r_iload_n 29 dX9_mostByTwo_28 rfl rfl ?_
        refine c_V [vq (some (9, 0)), vi a3] [] 32 cs9_mostByTwo_29 rfl h (fun _ h' => ct9_doPush h') rfl rfl rfl rfl (by decide) (Nat.le_refl 0) (Nat.le_refl 0) (fun s26 h => ?_)
        refine r_aload_n 33 dX9_mostByTwo_32 rfl rfl ?_
        refine r_iload_n 34 dX9_mostByTwo_33 rfl rfl ?_
        refine r_iconst 1 35 dX9_mostByTwo_34 rfl (by decide) ?_
        refine r_iadd 36 dX9_mostByTwo_35 rfl ?_
        refine c_I [vq (some (9, 0)), vi (a1 + 1)] [] 39 cs9_mostByTwo_36 rfl h (fun _ h' => ct9_mostByOne h') rfl rfl rfl rfl (by decide) (Nat.le_refl 0) (Nat.le_refl 0) (fun v27 s28 h => ?_)
        refine r_istore [some (vq (some (9, 0))), some (vi a1), some (vi a2), some (vi a3), some (vi v27)] 41 dX9_mostByTwo_39 rfl rfl rfl ?_
        refine r_iload 43 dX9_mostByTwo_41 rfl rfl ?_
        refine r_iload_n 44 dX9_mostByTwo_43 rfl rfl ?_
        refine r_icmp_le 52 47 dX9_mostByTwo_44 (by decide) rfl (fun hc => ?_) (fun hc => ?_)
        · replace h := Out_pos hc h
          refine r_iload_n 53 dX9_mostByTwo_52 rfl rfl ?_
          refine r_istore_n [some (vq (some (9, 0))), some (vi a1), some (vi a2), some (vi a3), some (vi v27)] 54 dX9_mostByTwo_53 rfl rfl rfl ?_
          refine r_aload_n 55 dX9_mostByTwo_54 rfl rfl ?_
          refine r_iload_n 56 dX9_mostByTwo_55 rfl rfl ?_
          refine c_V [vq (some (9, 0)), vi a1] [] 59 cs9_mostByTwo_56 rfl h (fun _ h' => ct9_load h') rfl rfl rfl rfl (by decide) (Nat.le_refl 0) (Nat.le_refl 0) (fun s29 h => ?_)
          refine r_iinc 1 [some (vq (some (9, 0))), some (vi a1), some (vi a2), some (vi (a3 + 1)), some (vi v27)] 62 dX9_mostByTwo_59 rfl (by decide) rfl rfl rfl ?_
          refine r_goto 12 dX9_mostByTwo_62 (by decide) ?_
          refine r_mask [true, true, true, true, false] [some (vq (some (9, 0))), some (vi a1), some (vi a2), some (vi (a3 + 1)), none] rfl rfl ?_
          exact ih a2 (a3 + 1) s29 h
        · replace h := Out_neg hc h
          refine r_iload 49 dX9_mostByTwo_47 rfl rfl ?_
          refine r_goto 53 dX9_mostByTwo_49 (by decide) ?_
          refine r_istore_n [some (vq (some (9, 0))), some (vi a1), some (vi v27), some (vi a3), some (vi v27)] 54 dX9_mostByTwo_53 rfl rfl rfl ?_
          refine r_aload_n 55 dX9_mostByTwo_54 rfl rfl ?_
          refine r_iload_n 56 dX9_mostByTwo_55 rfl rfl ?_
          refine c_V [vq (some (9, 0)), vi a1] [] 59 cs9_mostByTwo_56 rfl h (fun _ h' => ct9_load h') rfl rfl rfl rfl (by decide) (Nat.le_refl 0) (Nat.le_refl 0) (fun s30 h => ?_)
          refine r_iinc 1 [some (vq (some (9, 0))), some (vi a1), some (vi v27), some (vi (a3 + 1)), some (vi v27)] 62 dX9_mostByTwo_59 rfl (by decide) rfl rfl rfl ?_
          refine r_goto 12 dX9_mostByTwo_62 (by decide) ?_
          refine r_mask [true, true, true, true, false] [some (vq (some (9, 0))), some (vi a1), some (vi v27), some (vi (a3 + 1)), none] rfl rfl ?_
          exact ih v27 (a3 + 1) s30 h
set_option maxRecDepth 20000 in
set_option maxHeartbeats 4000000 in
theorem ct9_mostByTwo {Γ : GG} {K : Int32 × Sto → Prop} {a1 : Int32} {σ : Sto} (h : Out (f9_mostByTwo a1 σ) K) : Ct true Γ mX9_mostByTwo 6 0 0 [vq (some (9, 0)), vi a1] σ (QI K) := by
  refine Ct_intro (by decide +kernel) rfl ?_
  show M true Γ mX9_mostByTwo 6 0 0 0 0 (QI K) 0 [some (vq (some (9, 0))), some (vi a1), none, none, none] [] σ
  unfold f9_mostByTwo at h
  refine r_aload_n 1 dX9_mostByTwo_0 rfl rfl ?_
  refine r_iload_n 2 dX9_mostByTwo_1 rfl rfl ?_
  refine c_V [vq (some (9, 0)), vi a1] [] 5 cs9_mostByTwo_2 rfl h (fun _ h' => ct9_save h') rfl rfl rfl rfl (by decide) (Nat.le_refl 0) (Nat.le_refl 0) (fun s21 h => ?_)
  refine r_aload_n 6 dX9_mostByTwo_5 rfl rfl ?_
  refine c_I [vq (some (9, 0))] [] 9 cs9_mostByTwo_6 rfl h (fun _ h' => ct9_hadNow h') rfl rfl rfl rfl (by decide) (Nat.le_refl 0) (Nat.le_refl 0) (fun v22 s23 h => ?_)
  refine r_istore_n [some (vq (some (9, 0))), some (vi a1), some (vi v22), none, none] 10 dX9_mostByTwo_9 rfl rfl rfl ?_
  refine r_iconst 0 11 dX9_mostByTwo_10 rfl (by decide) ?_
  refine r_istore_n [some (vq (some (9, 0))), some (vi a1), some (vi v22), some (vi 0), none] 12 dX9_mostByTwo_11 rfl rfl rfl ?_
  exact tl9_mostByTwo_12 300 v22 0 s23 h

set_option maxRecDepth 20000 in
set_option maxHeartbeats 4000000 in
theorem tl9_mostByThree_12 {Γ : GG} {K : Int32 × Sto → Prop}  : ∀ (n : Nat) (a1 : Int32) (a2 : Int32) (σ : Sto), Out (l9_mostByThree_12  n a1 a2 σ) K → M true Γ mX9_mostByThree 7 0 0 0 0 (QI K) 12 [some (vq (some (9, 0))), some (vi a1), some (vi a2), none] [] σ := by
  intro n
  induction n with
  | zero => intro a1 a2 σ h; exact absurd h Out_none
  | succ n ih =>
    intro a1 a2 σ h
    unfold l9_mostByThree_12 at h
    refine r_iload_n 13 dX9_mostByThree_12 rfl rfl ?_
    refine r_sipush 200 16 dX9_mostByThree_13 rfl (by decide) ?_
    refine r_icmp_ge 60 19 dX9_mostByThree_16 (by decide) rfl (fun hc => ?_) (fun hc => ?_)
    · replace h := Out_pos hc h
      refine r_iload_n 61 dX9_mostByThree_60 rfl rfl ?_
      exact r_ireturn dX9_mostByThree_61 rfl (Nat.le_refl 0) (Nat.le_refl 0) h
    · replace h := Out_neg hc h
      refine r_aload_n 20 dX9_mostByThree_19 rfl rfl ?_
      refine r_iload_n 21 dX9_mostByThree_20 rfl rfl ?_
      refine c_I [vq (some (9, 0)), vi a2] [] 24 cs9_mostByThree_21 rfl h (fun _ h' => ct9_isPush h') rfl rfl rfl rfl (by decide) (Nat.le_refl 0) (Nat.le_refl 0) (fun v24 s25 h => ?_)
      refine r_if_eq 54 27 dX9_mostByThree_24 (by decide) rfl (fun hc => ?_) (fun hc => ?_)
      · replace h := Out_pos hc h
        refine r_iinc 1 [some (vq (some (9, 0))), some (vi a1), some (vi (a2 + 1)), none] 57 dX9_mostByThree_54 rfl (by decide) rfl rfl rfl ?_
        refine r_goto 12 dX9_mostByThree_57 (by decide) ?_
        exact ih a1 (a2 + 1) s25 h
      · replace h := Out_neg hc h
        refine r_aload_n 28 dX9_mostByThree_27 rfl rfl ?_
        refine r_iload_n 29 dX9_mostByThree_28 rfl rfl ?_
        refine c_V [vq (some (9, 0)), vi a2] [] 32 cs9_mostByThree_29 rfl h (fun _ h' => ct9_doPush h') rfl rfl rfl rfl (by decide) (Nat.le_refl 0) (Nat.le_refl 0) (fun s26 h => ?_)
        refine r_aload_n 33 dX9_mostByThree_32 rfl rfl ?_
        refine r_iconst 1 34 dX9_mostByThree_33 rfl (by decide) ?_
        refine c_I [vq (some (9, 0)), vi 1] [] 37 cs9_mostByThree_34 rfl h (fun _ h' => ct9_mostByTwo h') rfl rfl rfl rfl (by decide) (Nat.le_refl 0) (Nat.le_refl 0) (fun v27 s28 h => ?_)
        refine r_istore_n [some (vq (some (9, 0))), some (vi a1), some (vi a2), some (vi v27)] 38 dX9_mostByThree_37 rfl rfl rfl ?_
        refine r_iload_n 39 dX9_mostByThree_38 rfl rfl ?_
        refine r_iload_n 40 dX9_mostByThree_39 rfl rfl ?_
        refine r_icmp_le 47 43 dX9_mostByThree_40 (by decide) rfl (fun hc => ?_) (fun hc => ?_)
        · replace h := Out_pos hc h
          refine r_iload_n 48 dX9_mostByThree_47 rfl rfl ?_
          refine r_istore_n [some (vq (some (9, 0))), some (vi a1), some (vi a2), some (vi v27)] 49 dX9_mostByThree_48 rfl rfl rfl ?_
          refine r_aload_n 50 dX9_mostByThree_49 rfl rfl ?_
          refine r_iconst 0 51 dX9_mostByThree_50 rfl (by decide) ?_
          refine c_V [vq (some (9, 0)), vi 0] [] 54 cs9_mostByThree_51 rfl h (fun _ h' => ct9_load h') rfl rfl rfl rfl (by decide) (Nat.le_refl 0) (Nat.le_refl 0) (fun s29 h => ?_)
          refine r_iinc 1 [some (vq (some (9, 0))), some (vi a1), some (vi (a2 + 1)), some (vi v27)] 57 dX9_mostByThree_54 rfl (by decide) rfl rfl rfl ?_
          refine r_goto 12 dX9_mostByThree_57 (by decide) ?_
          refine r_mask [true, true, true, false] [some (vq (some (9, 0))), some (vi a1), some (vi (a2 + 1)), none] rfl rfl ?_
          exact ih a1 (a2 + 1) s29 h
        · replace h := Out_neg hc h
          refine r_iload_n 44 dX9_mostByThree_43 rfl rfl ?_
          refine r_goto 48 dX9_mostByThree_44 (by decide) ?_
          refine r_istore_n [some (vq (some (9, 0))), some (vi v27), some (vi a2), some (vi v27)] 49 dX9_mostByThree_48 rfl rfl rfl ?_
          refine r_aload_n 50 dX9_mostByThree_49 rfl rfl ?_
          refine r_iconst 0 51 dX9_mostByThree_50 rfl (by decide) ?_
          refine c_V [vq (some (9, 0)), vi 0] [] 54 cs9_mostByThree_51 rfl h (fun _ h' => ct9_load h') rfl rfl rfl rfl (by decide) (Nat.le_refl 0) (Nat.le_refl 0) (fun s30 h => ?_)
          refine r_iinc 1 [some (vq (some (9, 0))), some (vi v27), some (vi (a2 + 1)), some (vi v27)] 57 dX9_mostByThree_54 rfl (by decide) rfl rfl rfl ?_
          refine r_goto 12 dX9_mostByThree_57 (by decide) ?_
          refine r_mask [true, true, true, false] [some (vq (some (9, 0))), some (vi v27), some (vi (a2 + 1)), none] rfl rfl ?_
          exact ih v27 (a2 + 1) s30 h
set_option maxRecDepth 20000 in
set_option maxHeartbeats 4000000 in
theorem ct9_mostByThree {Γ : GG} {K : Int32 × Sto → Prop}  {σ : Sto} (h : Out (f9_mostByThree  σ) K) : Ct true Γ mX9_mostByThree 7 0 0 [vq (some (9, 0))] σ (QI K) := by
  refine Ct_intro (by decide +kernel) rfl ?_
  show M true Γ mX9_mostByThree 7 0 0 0 0 (QI K) 0 [some (vq (some (9, 0))), none, none, none] [] σ
  unfold f9_mostByThree at h
  refine r_aload_n 1 dX9_mostByThree_0 rfl rfl ?_
  refine r_iconst 0 2 dX9_mostByThree_1 rfl (by decide) ?_
  refine c_V [vq (some (9, 0)), vi 0] [] 5 cs9_mostByThree_2 rfl h (fun _ h' => ct9_save h') rfl rfl rfl rfl (by decide) (Nat.le_refl 0) (Nat.le_refl 0) (fun s21 h => ?_)
  refine r_aload_n 6 dX9_mostByThree_5 rfl rfl ?_
  refine c_I [vq (some (9, 0))] [] 9 cs9_mostByThree_6 rfl h (fun _ h' => ct9_hadNow h') rfl rfl rfl rfl (by decide) (Nat.le_refl 0) (Nat.le_refl 0) (fun v22 s23 h => ?_)
  refine r_istore_n [some (vq (some (9, 0))), some (vi v22), none, none] 10 dX9_mostByThree_9 rfl rfl rfl ?_
  refine r_iconst 0 11 dX9_mostByThree_10 rfl (by decide) ?_
  refine r_istore_n [some (vq (some (9, 0))), some (vi v22), some (vi 0), none] 12 dX9_mostByThree_11 rfl rfl rfl ?_
  exact tl9_mostByThree_12 300 v22 0 s23 h

set_option maxRecDepth 20000 in
set_option maxHeartbeats 4000000 in
theorem ct9_most {Γ : GG} {K : Int32 × Sto → Prop} {a1 : Int32} {σ : Sto} (h : Out (f9_most a1 σ) K) : Ct true Γ mX9_most 8 0 0 [vq (some (9, 0)), vi a1] σ (QI K) := by
  refine Ct_intro (by decide +kernel) rfl ?_
  show M true Γ mX9_most 8 0 0 0 0 (QI K) 0 [some (vq (some (9, 0))), some (vi a1)] [] σ
  unfold f9_most at h
  refine r_iload_n 1 dX9_most_0 rfl rfl ?_
  refine r_i2l 2 dX9_most_1 rfl ?_
  refine r_lconst 0 3 dX9_most_2 rfl (by decide) ?_
  refine r_ldc2 (3) 6 dX9_most_3 rfl w_03ec5b81 ?_
  refine c_I [vl a1.toInt64, vl 0, vl (3)] [] 9 cs9_most_6 rfl h (fun _ h' => ct9_in h') rfl rfl rfl rfl (by decide) (Nat.le_refl 0) (Nat.le_refl 0) (fun v21 s22 h => ?_)
  refine r_if_ne 15 12 dX9_most_9 (by decide) rfl (fun hc => ?_) (fun hc => ?_)
  · replace h := Out_neg hc h
    refine r_aload_n 16 dX9_most_15 rfl rfl ?_
    refine r_getI (x := fe9_68) 1 19 fl9_68 (by decide) dX9_most_16 rfl rfl rfl ?_
    refine r_if_ne 25 22 dX9_most_19 (by decide) rfl (fun hc => ?_) (fun hc => ?_)
    · replace h := Out_neg hc h
      refine r_aload_n 26 dX9_most_25 rfl rfl ?_
      refine r_iconst (-1) 27 dX9_most_26 rfl (by decide) ?_
      refine c_V [vq (some (9, 0)), vi (-1)] [] 30 cs9_most_27 rfl h (fun _ h' => ct9_goThrough h') rfl rfl rfl rfl (by decide) (Nat.le_refl 0) (Nat.le_refl 0) (fun s23 h => ?_)
      refine r_iload_n 31 dX9_most_30 rfl rfl ?_
      refine r_if_ne 41 34 dX9_most_31 (by decide) rfl (fun hc => ?_) (fun hc => ?_)
      · replace h := Out_neg hc h
        refine r_iload_n 42 dX9_most_41 rfl rfl ?_
        refine r_iconst 1 43 dX9_most_42 rfl (by decide) ?_
        refine r_icmp_ne 54 46 dX9_most_43 (by decide) rfl (fun hc => ?_) (fun hc => ?_)
        · replace h := Out_neg hc h
          refine r_iload_n 55 dX9_most_54 rfl rfl ?_
          refine r_iconst 2 56 dX9_most_55 rfl (by decide) ?_
          refine r_icmp_ne 67 59 dX9_most_56 (by decide) rfl (fun hc => ?_) (fun hc => ?_)
          · replace h := Out_neg hc h
            refine r_aload_n 68 dX9_most_67 rfl rfl ?_
            refine c_I [vq (some (9, 0))] [] 71 cs9_most_68 rfl h (fun _ h' => ct9_mostByThree h') rfl rfl rfl rfl (by decide) (Nat.le_refl 0) (Nat.le_refl 0) (fun v24 s25 h => ?_)
            exact r_ireturn dX9_most_71 rfl (Nat.le_refl 0) (Nat.le_refl 0) h
          · replace h := Out_pos hc h
            refine r_aload_n 60 dX9_most_59 rfl rfl ?_
            refine r_iconst 0 61 dX9_most_60 rfl (by decide) ?_
            refine c_I [vq (some (9, 0)), vi 0] [] 64 cs9_most_61 rfl h (fun _ h' => ct9_mostByTwo h') rfl rfl rfl rfl (by decide) (Nat.le_refl 0) (Nat.le_refl 0) (fun v26 s27 h => ?_)
            refine r_goto 71 dX9_most_64 (by decide) ?_
            exact r_ireturn dX9_most_71 rfl (Nat.le_refl 0) (Nat.le_refl 0) h
        · replace h := Out_pos hc h
          refine r_aload_n 47 dX9_most_46 rfl rfl ?_
          refine r_iconst 0 48 dX9_most_47 rfl (by decide) ?_
          refine c_I [vq (some (9, 0)), vi 0] [] 51 cs9_most_48 rfl h (fun _ h' => ct9_mostByOne h') rfl rfl rfl rfl (by decide) (Nat.le_refl 0) (Nat.le_refl 0) (fun v28 s29 h => ?_)
          refine r_goto 71 dX9_most_51 (by decide) ?_
          exact r_ireturn dX9_most_71 rfl (Nat.le_refl 0) (Nat.le_refl 0) h
      · replace h := Out_pos hc h
        refine r_aload_n 35 dX9_most_34 rfl rfl ?_
        refine c_I [vq (some (9, 0))] [] 38 cs9_most_35 rfl h (fun _ h' => ct9_hadNow h') rfl rfl rfl rfl (by decide) (Nat.le_refl 0) (Nat.le_refl 0) (fun v30 s31 h => ?_)
        refine r_goto 71 dX9_most_38 (by decide) ?_
        exact r_ireturn dX9_most_71 rfl (Nat.le_refl 0) (Nat.le_refl 0) h
    · replace h := Out_pos hc h
      refine r_bipush (-3) 24 dX9_most_22 rfl (by decide) ?_
      exact r_ireturn dX9_most_24 rfl (Nat.le_refl 0) (Nat.le_refl 0) h
  · replace h := Out_pos hc h
    refine r_bipush (-2) 14 dX9_most_12 rfl (by decide) ?_
    exact r_ireturn dX9_most_14 rfl (Nat.le_refl 0) (Nat.le_refl 0) h

set_option maxRecDepth 20000 in
set_option maxHeartbeats 4000000 in
theorem tl9_never_14 {Γ : GG} {K : Int32 × Sto → Prop}  : ∀ (n : Nat) (a1 : Int32) (a2 : Int32) (σ : Sto), Out (l9_never_14  n a1 a2 σ) K → M true Γ mX9_never 6 0 0 0 0 (QI K) 14 [some (vq (some (9, 0))), some (vi a1), some (vi a2)] [] σ := by
  intro n
  induction n with
  | zero => intro a1 a2 σ h; exact absurd h Out_none
  | succ n ih =>
    intro a1 a2 σ h
    unfold l9_never_14 at h
    refine r_iload_n 15 dX9_never_14 rfl rfl ?_
    refine r_aload_n 16 dX9_never_15 rfl rfl ?_
    refine r_getI (x := fe9_153) 9 19 fl9_153 (by decide) dX9_never_16 rfl rfl rfl ?_
    refine r_icmp_ge 50 22 dX9_never_19 (by decide) rfl (fun hc => ?_) (fun hc => ?_)
    · replace h := Out_pos hc h
      refine r_iload_n 51 dX9_never_50 rfl rfl ?_
      exact r_ireturn dX9_never_51 rfl (Nat.le_refl 0) (Nat.le_refl 0) h
    · replace h := Out_neg hc h
      refine r_aload_n 23 dX9_never_22 rfl rfl ?_
      refine r_iload_n 24 dX9_never_23 rfl rfl ?_
      refine c_V [vq (some (9, 0)), vi a2] [] 27 cs9_never_24 rfl h (fun _ h' => ct9_goThrough h') rfl rfl rfl rfl (by decide) (Nat.le_refl 0) (Nat.le_refl 0) (fun s21 h => ?_)
      refine r_iload_n 28 dX9_never_27 rfl rfl ?_
      refine r_aload_n 29 dX9_never_28 rfl rfl ?_
      refine c_I [vq (some (9, 0))] [vi a1] 32 cs9_never_29 rfl h (fun _ h' => ct9_areSo h') rfl rfl rfl rfl (by decide) (Nat.le_refl 0) (Nat.le_refl 0) (fun v22 s23 h => ?_)
      refine r_if_eq 41 35 dX9_never_32 (by decide) rfl (fun hc => ?_) (fun hc => ?_)
      · replace h := Out_pos hc h
        refine r_iconst 0 42 dX9_never_41 rfl (by decide) ?_
        refine r_ior 43 dX9_never_42 rfl ?_
        refine r_istore_n [some (vq (some (9, 0))), some (vi (a1 ||| 0)), some (vi a2)] 44 dX9_never_43 rfl rfl rfl ?_
        refine r_iinc 1 [some (vq (some (9, 0))), some (vi (a1 ||| 0)), some (vi (a2 + 1))] 47 dX9_never_44 rfl (by decide) rfl rfl rfl ?_
        refine r_goto 14 dX9_never_47 (by decide) ?_
        exact ih (a1 ||| 0) (a2 + 1) s23 h
      · replace h := Out_neg hc h
        refine r_iconst 1 36 dX9_never_35 rfl (by decide) ?_
        refine r_iload_n 37 dX9_never_36 rfl rfl ?_
        refine r_ishl 38 dX9_never_37 rfl ?_
        refine r_goto 42 dX9_never_38 (by decide) ?_
        refine r_ior 43 dX9_never_42 rfl ?_
        refine r_istore_n [some (vq (some (9, 0))), some (vi (a1 ||| (1 <<< (a2 &&& 31)))), some (vi a2)] 44 dX9_never_43 rfl rfl rfl ?_
        refine r_iinc 1 [some (vq (some (9, 0))), some (vi (a1 ||| (1 <<< (a2 &&& 31)))), some (vi (a2 + 1))] 47 dX9_never_44 rfl (by decide) rfl rfl rfl ?_
        refine r_goto 14 dX9_never_47 (by decide) ?_
        exact ih (a1 ||| (1 <<< (a2 &&& 31))) (a2 + 1) s23 h
set_option maxRecDepth 20000 in
set_option maxHeartbeats 4000000 in
theorem ct9_never {Γ : GG} {K : Int32 × Sto → Prop}  {σ : Sto} (h : Out (f9_never  σ) K) : Ct true Γ mX9_never 6 0 0 [vq (some (9, 0))] σ (QI K) := by
  refine Ct_intro (by decide +kernel) rfl ?_
  show M true Γ mX9_never 6 0 0 0 0 (QI K) 0 [some (vq (some (9, 0))), none, none] [] σ
  unfold f9_never at h
  refine r_aload_n 1 dX9_never_0 rfl rfl ?_
  refine r_getI (x := fe9_68) 1 4 fl9_68 (by decide) dX9_never_1 rfl rfl rfl ?_
  refine r_if_ne 10 7 dX9_never_4 (by decide) rfl (fun hc => ?_) (fun hc => ?_)
  · replace h := Out_neg hc h
    refine r_iconst 0 11 dX9_never_10 rfl (by decide) ?_
    refine r_istore_n [some (vq (some (9, 0))), some (vi 0), none] 12 dX9_never_11 rfl rfl rfl ?_
    refine r_iconst 0 13 dX9_never_12 rfl (by decide) ?_
    refine r_istore_n [some (vq (some (9, 0))), some (vi 0), some (vi 0)] 14 dX9_never_13 rfl rfl rfl ?_
    exact tl9_never_14 300 0 0 σ h
  · replace h := Out_pos hc h
    refine r_bipush (-3) 9 dX9_never_7 rfl (by decide) ?_
    exact r_ireturn dX9_never_9 rfl (Nat.le_refl 0) (Nat.le_refl 0) h

set_option maxRecDepth 20000 in
set_option maxHeartbeats 4000000 in
theorem tl9_odds_54 {Γ : GG} {K : Int64 × Sto → Prop} {k : Int32 → Int32 → Sto → Option (Int64 × Sto)} {a2 : Int32} {a3 : Int32} (hx : ∀ (a4 : Int32) (a5 : Int32) (σ : Sto), Out (k a4 a5 σ) K → M true Γ mX9_odds 6 0 0 0 0 (QL K) 86 [some (vq (some (9, 0))), none, some (vi a2), some (vi a3), some (vi a4), some (vi a5)] [] σ) : ∀ (n : Nat) (a4 : Int32) (a5 : Int32) (σ : Sto), Out (l9_odds_54 k a2 a3 n a4 a5 σ) K → M true Γ mX9_odds 6 0 0 0 0 (QL K) 54 [some (vq (some (9, 0))), none, some (vi a2), some (vi a3), some (vi a4), some (vi a5)] [] σ := by
  intro n
  induction n with
  | zero => intro a4 a5 σ h; exact absurd h Out_none
  | succ n ih =>
    intro a4 a5 σ h
    unfold l9_odds_54 at h
    refine r_iload 56 dX9_odds_54 rfl rfl ?_
    refine r_iconst 4 57 dX9_odds_56 rfl (by decide) ?_
    refine r_icmp_ge 86 60 dX9_odds_57 (by decide) rfl (fun hc => ?_) (fun hc => ?_)
    · replace h := Out_pos hc h
      exact hx a4 a5 σ h
    · replace h := Out_neg hc h
      refine r_iload 62 dX9_odds_60 rfl rfl ?_
      refine r_aload_n 63 dX9_odds_62 rfl rfl ?_
      refine r_iload_n 64 dX9_odds_63 rfl rfl ?_
      refine r_iload 66 dX9_odds_64 rfl rfl ?_
      refine c_I [vq (some (9, 0)), vi a2, vi a5] [vi a4] 69 cs9_odds_66 rfl h (fun _ h' => ct9_isHeld h') rfl rfl rfl rfl (by decide) (Nat.le_refl 0) (Nat.le_refl 0) (fun v28 s29 h => ?_)
      refine r_if_eq 76 72 dX9_odds_69 (by decide) rfl (fun hc => ?_) (fun hc => ?_)
      · replace h := Out_pos hc h
        refine r_iconst 0 77 dX9_odds_76 rfl (by decide) ?_
        refine r_iadd 78 dX9_odds_77 rfl ?_
        refine r_istore [some (vq (some (9, 0))), none, some (vi a2), some (vi a3), some (vi (a4 + 0)), some (vi a5)] 80 dX9_odds_78 rfl rfl rfl ?_
        refine r_iinc 1 [some (vq (some (9, 0))), none, some (vi a2), some (vi a3), some (vi (a4 + 0)), some (vi (a5 + 1))] 83 dX9_odds_80 rfl (by decide) rfl rfl rfl ?_
        refine r_goto 54 dX9_odds_83 (by decide) ?_
        exact ih (a4 + 0) (a5 + 1) s29 h
      · replace h := Out_neg hc h
        refine r_iconst 1 73 dX9_odds_72 rfl (by decide) ?_
        refine r_goto 77 dX9_odds_73 (by decide) ?_
        refine r_iadd 78 dX9_odds_77 rfl ?_
        refine r_istore [some (vq (some (9, 0))), none, some (vi a2), some (vi a3), some (vi (a4 + 1)), some (vi a5)] 80 dX9_odds_78 rfl rfl rfl ?_
        refine r_iinc 1 [some (vq (some (9, 0))), none, some (vi a2), some (vi a3), some (vi (a4 + 1)), some (vi (a5 + 1))] 83 dX9_odds_80 rfl (by decide) rfl rfl rfl ?_
        refine r_goto 54 dX9_odds_83 (by decide) ?_
        exact ih (a4 + 1) (a5 + 1) s29 h
set_option maxRecDepth 20000 in
set_option maxHeartbeats 4000000 in
theorem ct9_odds {Γ : GG} {K : Int64 × Sto → Prop} {a1 : Int32} {a2 : Int32} {a3 : Int32} {σ : Sto} (h : Out (f9_odds a1 a2 a3 σ) K) : Ct true Γ mX9_odds 6 0 0 [vq (some (9, 0)), vi a1, vi a2, vi a3] σ (QL K) := by
  refine Ct_intro (by decide +kernel) rfl ?_
  show M true Γ mX9_odds 6 0 0 0 0 (QL K) 0 [some (vq (some (9, 0))), some (vi a1), some (vi a2), some (vi a3), none, none] [] σ
  unfold f9_odds at h
  refine r_aload_n 1 dX9_odds_0 rfl rfl ?_
  refine r_iload_n 2 dX9_odds_1 rfl rfl ?_
  refine c_I [vq (some (9, 0)), vi a1] [] 5 cs9_odds_2 rfl h (fun _ h' => ct9_isEater h') rfl rfl rfl rfl (by decide) (Nat.le_refl 0) (Nat.le_refl 0) (fun v21 s22 h => ?_)
  refine r_if_eq 26 8 dX9_odds_5 (by decide) rfl (fun hc => ?_) (fun hc => ?_)
  · replace h := Out_pos hc h
    refine r_ldc2 (-9223372036854775808) 29 dX9_odds_26 rfl w_4d0a02e8 ?_
    exact r_lreturn dX9_odds_29 rfl (Nat.le_refl 0) (Nat.le_refl 0) h
  · replace h := Out_neg hc h
    refine r_aload_n 9 dX9_odds_8 rfl rfl ?_
    refine r_iload_n 10 dX9_odds_9 rfl rfl ?_
    refine c_I [vq (some (9, 0)), vi a2] [] 13 cs9_odds_10 rfl h (fun _ h' => ct9_isPea h') rfl rfl rfl rfl (by decide) (Nat.le_refl 0) (Nat.le_refl 0) (fun v23 s24 h => ?_)
    refine r_if_eq 26 16 dX9_odds_13 (by decide) rfl (fun hc => ?_) (fun hc => ?_)
    · replace h := Out_pos hc h
      refine r_ldc2 (-9223372036854775808) 29 dX9_odds_26 rfl w_4d0a02e8 ?_
      exact r_lreturn dX9_odds_29 rfl (Nat.le_refl 0) (Nat.le_refl 0) h
    · replace h := Out_neg hc h
      refine r_iload_n 17 dX9_odds_16 rfl rfl ?_
      refine r_i2l 18 dX9_odds_17 rfl ?_
      refine r_lconst 0 19 dX9_odds_18 rfl (by decide) ?_
      refine r_lconst 1 20 dX9_odds_19 rfl (by decide) ?_
      refine c_I [vl a3.toInt64, vl 0, vl 1] [] 23 cs9_odds_20 rfl h (fun _ h' => ct9_in h') rfl rfl rfl rfl (by decide) (Nat.le_refl 0) (Nat.le_refl 0) (fun v25 s26 h => ?_)
      refine r_if_ne 30 26 dX9_odds_23 (by decide) rfl (fun hc => ?_) (fun hc => ?_)
      · replace h := Out_neg hc h
        refine r_aload_n 31 dX9_odds_30 rfl rfl ?_
        refine r_iconst (-1) 32 dX9_odds_31 rfl (by decide) ?_
        refine c_V [vq (some (9, 0)), vi (-1)] [] 35 cs9_odds_32 rfl h (fun _ h' => ct9_goThrough h') rfl rfl rfl rfl (by decide) (Nat.le_refl 0) (Nat.le_refl 0) (fun s27 h => ?_)
        refine r_aload_n 36 dX9_odds_35 rfl rfl ?_
        refine r_getF (x := fe9_55) 30 (39, 0) 39 fl9_55 (by decide) dX9_odds_36 rfl rfl rfl rfl ?_
        refine r_iload_n 40 dX9_odds_39 rfl rfl ?_
        obtain ⟨hc, h⟩ := Out_grd h
        refine r_iaload a2.toNatClampNeg 5 41 dX9_odds_40 rfl (by decide) rfl rfl hc rfl ?_
        refine r_if_ge 48 44 dX9_odds_41 (by decide) rfl (fun hc => ?_) (fun hc => ?_)
        · replace h := Out_pos hc h
          refine r_iconst 0 49 dX9_odds_48 rfl (by decide) ?_
          refine r_istore [some (vq (some (9, 0))), some (vi a1), some (vi a2), some (vi a3), some (vi 0), none] 51 dX9_odds_49 rfl rfl rfl ?_
          refine r_iconst 0 52 dX9_odds_51 rfl (by decide) ?_
          refine r_istore [some (vq (some (9, 0))), some (vi a1), some (vi a2), some (vi a3), some (vi 0), some (vi 0)] 54 dX9_odds_52 rfl rfl rfl ?_
          refine r_mask [true, false, true, true, true, true] [some (vq (some (9, 0))), none, some (vi a2), some (vi a3), some (vi 0), some (vi 0)] rfl rfl ?_
          refine tl9_odds_54 (fun v30 v31 s32 h => ?_) 300 0 0 s27 h
          refine r_iload 88 dX9_odds_86 rfl rfl ?_
          refine r_iconst 4 89 dX9_odds_88 rfl (by decide) ?_
          refine c_I [vi v30, vi 4] [] 92 cs9_odds_89 rfl h (fun _ h' => ct9_divisor h') rfl rfl rfl rfl (by decide) (Nat.le_refl 0) (Nat.le_refl 0) (fun v33 s34 h => ?_)
          refine r_istore [some (vq (some (9, 0))), none, some (vi a2), some (vi a3), some (vi v30), some (vi v33)] 94 dX9_odds_92 rfl rfl rfl ?_
          refine r_iload_n 95 dX9_odds_94 rfl rfl ?_
          refine r_if_ne 107 98 dX9_odds_95 (by decide) rfl (fun hc => ?_) (fun hc => ?_)
          · replace h := Out_neg hc h
            refine r_iconst 4 108 dX9_odds_107 rfl (by decide) ?_
            refine r_iload 110 dX9_odds_108 rfl rfl ?_
            obtain ⟨hc, h⟩ := Out_grd h
            refine r_idiv 111 dX9_odds_110 rfl hc ?_
            refine r_i2l 112 dX9_odds_111 rfl ?_
            exact r_lreturn dX9_odds_112 rfl (Nat.le_refl 0) (Nat.le_refl 0) h
          · replace h := Out_pos hc h
            refine r_iload 100 dX9_odds_98 rfl rfl ?_
            refine r_iload 102 dX9_odds_100 rfl rfl ?_
            obtain ⟨hc, h⟩ := Out_grd h
            refine r_idiv 103 dX9_odds_102 rfl hc ?_
            refine r_i2l 104 dX9_odds_103 rfl ?_
            refine r_goto 112 dX9_odds_104 (by decide) ?_
            exact r_lreturn dX9_odds_112 rfl (Nat.le_refl 0) (Nat.le_refl 0) h
        · replace h := Out_neg hc h
          refine r_ldc2 (-9223372036854775808) 47 dX9_odds_44 rfl w_4d0a02e8 ?_
          exact r_lreturn dX9_odds_47 rfl (Nat.le_refl 0) (Nat.le_refl 0) h
      · replace h := Out_pos hc h
        refine r_ldc2 (-9223372036854775808) 29 dX9_odds_26 rfl w_4d0a02e8 ?_
        exact r_lreturn dX9_odds_29 rfl (Nat.le_refl 0) (Nat.le_refl 0) h

set_option maxRecDepth 20000 in
set_option maxHeartbeats 4000000 in
theorem ct9_ofEater {Γ : GG} {K : Int32 × Sto → Prop} {a1 : Int32} {a2 : Int32} {σ : Sto} (h : Out (f9_ofEater a1 a2 σ) K) : Ct true Γ mX9_ofEater 2 0 0 [vq (some (9, 0)), vi a1, vi a2] σ (QI K) := by
  refine Ct_intro (by decide +kernel) rfl ?_
  show M true Γ mX9_ofEater 2 0 0 0 0 (QI K) 0 [some (vq (some (9, 0))), some (vi a1), some (vi a2)] [] σ
  unfold f9_ofEater at h
  refine r_aload_n 1 dX9_ofEater_0 rfl rfl ?_
  refine r_iload_n 2 dX9_ofEater_1 rfl rfl ?_
  refine c_I [vq (some (9, 0)), vi a1] [] 5 cs9_ofEater_2 rfl h (fun _ h' => ct9_isEater h') rfl rfl rfl rfl (by decide) (Nat.le_refl 0) (Nat.le_refl 0) (fun v21 s22 h => ?_)
  refine r_if_ne 10 8 dX9_ofEater_5 (by decide) rfl (fun hc => ?_) (fun hc => ?_)
  · replace h := Out_neg hc h
    refine r_iload_n 11 dX9_ofEater_10 rfl rfl ?_
    refine r_if_ne 23 14 dX9_ofEater_11 (by decide) rfl (fun hc => ?_) (fun hc => ?_)
    · replace h := Out_neg hc h
      refine r_iload_n 24 dX9_ofEater_23 rfl rfl ?_
      refine r_iconst 1 25 dX9_ofEater_24 rfl (by decide) ?_
      refine r_icmp_ne 37 28 dX9_ofEater_25 (by decide) rfl (fun hc => ?_) (fun hc => ?_)
      · replace h := Out_neg hc h
        refine r_iload_n 38 dX9_ofEater_37 rfl rfl ?_
        refine r_iconst 2 39 dX9_ofEater_38 rfl (by decide) ?_
        refine r_icmp_ne 50 42 dX9_ofEater_39 (by decide) rfl (fun hc => ?_) (fun hc => ?_)
        · replace h := Out_neg hc h
          refine r_bipush (-2) 52 dX9_ofEater_50 rfl (by decide) ?_
          exact r_ireturn dX9_ofEater_52 rfl (Nat.le_refl 0) (Nat.le_refl 0) h
        · replace h := Out_pos hc h
          refine r_aload_n 43 dX9_ofEater_42 rfl rfl ?_
          refine r_iload_n 44 dX9_ofEater_43 rfl rfl ?_
          refine c_I [vq (some (9, 0)), vi a1] [] 47 cs9_ofEater_44 rfl h (fun _ h' => ct9_forceOf h') rfl rfl rfl rfl (by decide) (Nat.le_refl 0) (Nat.le_refl 0) (fun v23 s24 h => ?_)
          refine r_goto 52 dX9_ofEater_47 (by decide) ?_
          exact r_ireturn dX9_ofEater_52 rfl (Nat.le_refl 0) (Nat.le_refl 0) h
      · replace h := Out_pos hc h
        refine r_aload_n 29 dX9_ofEater_28 rfl rfl ?_
        refine r_getF (x := fe9_19) 7 (27, 0) 32 fl9_19 (by decide) dX9_ofEater_29 rfl rfl rfl rfl ?_
        refine r_iload_n 33 dX9_ofEater_32 rfl rfl ?_
        obtain ⟨hc, h⟩ := Out_grd h
        refine r_iaload a1.toNatClampNeg 2 34 dX9_ofEater_33 rfl (by decide) rfl rfl hc rfl ?_
        refine r_goto 52 dX9_ofEater_34 (by decide) ?_
        exact r_ireturn dX9_ofEater_52 rfl (Nat.le_refl 0) (Nat.le_refl 0) h
    · replace h := Out_pos hc h
      refine r_aload_n 15 dX9_ofEater_14 rfl rfl ?_
      refine r_getF (x := fe9_16) 6 (26, 0) 18 fl9_16 (by decide) dX9_ofEater_15 rfl rfl rfl rfl ?_
      refine r_iload_n 19 dX9_ofEater_18 rfl rfl ?_
      obtain ⟨hc, h⟩ := Out_grd h
      refine r_iaload a1.toNatClampNeg 2 20 dX9_ofEater_19 rfl (by decide) rfl rfl hc rfl ?_
      refine r_goto 52 dX9_ofEater_20 (by decide) ?_
      exact r_ireturn dX9_ofEater_52 rfl (Nat.le_refl 0) (Nat.le_refl 0) h
  · replace h := Out_pos hc h
    refine r_iconst (-1) 9 dX9_ofEater_8 rfl (by decide) ?_
    exact r_ireturn dX9_ofEater_9 rfl (Nat.le_refl 0) (Nat.le_refl 0) h

