/-! printed by wip/gen/dec.py: the methods meet their functions -/
set_option maxRecDepth 20000 in
set_option maxHeartbeats 4000000 in
theorem tl8_replay_12 {Γ : GG} {K : Sto → Prop} {i1 : Nat} {a3 : Int32} : ∀ (n : Nat) (a4 : Int32) (σ : Sto), Out (l8_replay_12 i1 a3 n a4 σ) K → M true Γ mX8_replay 4 0 0 0 0 (QV K) 12 [some (vq (some (8, 0))), some (vq (some (6, i1))), none, some (vi a3), some (vi a4)] [] σ := by
  intro n
  induction n with
  | zero => intro a4 σ h; exact absurd h Out_none
  | succ n ih =>
    intro a4 σ h
    unfold l8_replay_12 at h
    refine r_iload 14 dX8_replay_12 rfl rfl ?_
    refine r_aload_n 15 dX8_replay_14 rfl rfl ?_
    refine r_getI (x := fe8_137) 4 18 fl8_137 (by decide) dX8_replay_15 rfl rfl rfl ?_
    refine r_icmp_ge 44 21 dX8_replay_18 (by decide) rfl (fun hc => ?_) (fun hc => ?_)
    · replace h := Out_pos hc h
      exact r_return dX8_replay_44 rfl (Nat.le_refl 0) (Nat.le_refl 0) h
    · replace h := Out_neg hc h
      refine r_iload 23 dX8_replay_21 rfl rfl ?_
      refine r_iload_n 24 dX8_replay_23 rfl rfl ?_
      refine r_icmp_eq 38 27 dX8_replay_24 (by decide) rfl (fun hc => ?_) (fun hc => ?_)
      · replace h := Out_pos hc h
        refine r_iinc 1 [some (vq (some (8, 0))), some (vq (some (6, i1))), none, some (vi a3), some (vi (a4 + 1))] 41 dX8_replay_38 rfl (by decide) rfl rfl rfl ?_
        refine r_goto 12 dX8_replay_41 (by decide) ?_
        exact ih (a4 + 1) σ h
      · replace h := Out_neg hc h
        refine r_aload_n 28 dX8_replay_27 rfl rfl ?_
        refine r_aload_n 29 dX8_replay_28 rfl rfl ?_
        refine r_getF (x := fe8_11) 3 (20, 0) 32 fl8_11 (by decide) dX8_replay_29 rfl rfl rfl rfl ?_
        refine r_iload 34 dX8_replay_32 rfl rfl ?_
        obtain ⟨hc, h⟩ := Out_grd h
        refine r_iaload a4.toNatClampNeg 30 35 dX8_replay_34 rfl (by decide) rfl rfl hc rfl ?_
        refine c_V [vq (some (6, i1)), vi (gI σ 20 0 a4.toNatClampNeg)] [] 38 cs8_replay_35 rfl h (fun _ h' => ct6_pushByCode h') rfl rfl rfl rfl (by decide) (Nat.le_refl 0) (Nat.le_refl 0) (fun s23 h => ?_)
        refine r_iinc 1 [some (vq (some (8, 0))), some (vq (some (6, i1))), none, some (vi a3), some (vi (a4 + 1))] 41 dX8_replay_38 rfl (by decide) rfl rfl rfl ?_
        refine r_goto 12 dX8_replay_41 (by decide) ?_
        exact ih (a4 + 1) s23 h
set_option maxRecDepth 20000 in
set_option maxHeartbeats 4000000 in
theorem ct8_replay {Γ : GG} {K : Sto → Prop} {i1 : Nat} {a2 : Int32} {a3 : Int32} {σ : Sto} (h : Out (f8_replay i1 a2 a3 σ) K) : Ct true Γ mX8_replay 4 0 0 [vq (some (8, 0)), vq (some (6, i1)), vi a2, vi a3] σ (QV K) := by
  refine Ct_intro (by decide +kernel) rfl ?_
  show M true Γ mX8_replay 4 0 0 0 0 (QV K) 0 [some (vq (some (8, 0))), some (vq (some (6, i1))), some (vi a2), some (vi a3), none] [] σ
  unfold f8_replay at h
  refine r_aload_n 1 dX8_replay_0 rfl rfl ?_
  refine r_aload_n 2 dX8_replay_1 rfl rfl ?_
  refine r_getR (x := fe8_56) 0 5 fl8_56 (by decide) dX8_replay_2 rfl rfl rfl (Or.inr rfl) ?_
  refine r_iload_n 6 dX8_replay_5 rfl rfl ?_
  obtain ⟨i21, e0, h⟩ := Out_dr h
  rw [e0]
  refine c_V [vq (some (6, i1)), vq (some (2, i21)), vi a2] [] 9 cs8_replay_6 rfl h (fun _ h' => ct6_beginOn h') rfl rfl rfl rfl (by decide) (Nat.le_refl 0) (Nat.le_refl 0) (fun s22 h => ?_)
  refine r_iconst 0 10 dX8_replay_9 rfl (by decide) ?_
  refine r_istore [some (vq (some (8, 0))), some (vq (some (6, i1))), some (vi a2), some (vi a3), some (vi 0)] 12 dX8_replay_10 rfl rfl rfl ?_
  refine r_mask [true, true, false, true, true] [some (vq (some (8, 0))), some (vq (some (6, i1))), none, some (vi a3), some (vi 0)] rfl rfl ?_
  exact tl8_replay_12 300 0 s22 h

set_option maxRecDepth 20000 in
set_option maxHeartbeats 4000000 in
theorem ct8_replayNow {Γ : GG} {K : Sto → Prop}  {σ : Sto} (h : Out (f8_replayNow  σ) K) : Ct true Γ mX8_replayNow 5 0 0 [vq (some (8, 0))] σ (QV K) := by
  refine Ct_intro (by decide +kernel) rfl ?_
  show M true Γ mX8_replayNow 5 0 0 0 0 (QV K) 0 [some (vq (some (8, 0)))] [] σ
  unfold f8_replayNow at h
  refine r_aload_n 1 dX8_replayNow_0 rfl rfl ?_
  refine r_aload_n 2 dX8_replayNow_1 rfl rfl ?_
  refine r_getF (x := fe8_42) 8 (6, 0) 5 fl8_42 (by decide) dX8_replayNow_2 rfl rfl rfl rfl ?_
  refine r_aload_n 6 dX8_replayNow_5 rfl rfl ?_
  refine r_getI (x := fe8_131) 2 9 fl8_131 (by decide) dX8_replayNow_6 rfl rfl rfl ?_
  refine r_bipush (-9) 11 dX8_replayNow_9 rfl (by decide) ?_
  refine c_V [vq (some (8, 0)), vq (some (6, 0)), vi (gI σ 8 0 2), vi (-9)] [] 14 cs8_replayNow_11 rfl h (fun _ h' => ct8_replay h') rfl rfl rfl rfl (by decide) (Nat.le_refl 0) (Nat.le_refl 0) (fun s21 h => ?_)
  exact r_return dX8_replayNow_14 rfl (Nat.le_refl 0) (Nat.le_refl 0) h

set_option maxRecDepth 20000 in
set_option maxHeartbeats 4000000 in
theorem ct8_law {Γ : GG} {K : Int32 × Sto → Prop} {a1 : Int32} {σ : Sto} (h : Out (f8_law a1 σ) K) : Ct true Γ mX8_law 6 0 0 [vq (some (8, 0)), vi a1] σ (QI K) := by
  refine Ct_intro (by decide +kernel) rfl ?_
  show M true Γ mX8_law 6 0 0 0 0 (QI K) 0 [some (vq (some (8, 0))), some (vi a1), none] [] σ
  unfold f8_law at h
  refine r_iload_n 1 dX8_law_0 rfl rfl ?_
  refine r_iconst 3 2 dX8_law_1 rfl (by decide) ?_
  refine c_I [vi a1, vi 3] [] 5 cs8_law_2 rfl h (fun _ h' => ct8_isBelow h') rfl rfl rfl rfl (by decide) (Nat.le_refl 0) (Nat.le_refl 0) (fun v21 s22 h => ?_)
  refine r_if_ne 11 8 dX8_law_5 (by decide) rfl (fun hc => ?_) (fun hc => ?_)
  · replace h := Out_neg hc h
    refine r_aload_n 12 dX8_law_11 rfl rfl ?_
    refine r_getR (x := fe8_56) 0 15 fl8_56 (by decide) dX8_law_12 rfl rfl rfl (Or.inr rfl) ?_
    obtain ⟨i23, e0, h⟩ := Out_dr h
    rw [e0]
    refine c_I [vq (some (2, i23))] [] 18 cs8_law_15 rfl h (fun _ h' => ct2_isLaid h') rfl rfl rfl rfl (by decide) (Nat.le_refl 0) (Nat.le_refl 0) (fun v24 s25 h => ?_)
    refine r_if_ne 24 21 dX8_law_18 (by decide) rfl (fun hc => ?_) (fun hc => ?_)
    · replace h := Out_neg hc h
      refine r_aload_n 25 dX8_law_24 rfl rfl ?_
      refine r_getI (x := fe8_131) 2 28 fl8_131 (by decide) dX8_law_25 rfl rfl rfl ?_
      refine r_istore_n [some (vq (some (8, 0))), some (vi a1), some (vi (gI s25 8 0 2))] 29 dX8_law_28 rfl rfl rfl ?_
      refine r_aload_n 30 dX8_law_29 rfl rfl ?_
      refine r_iload_n 31 dX8_law_30 rfl rfl ?_
      refine r_putI (x := fe8_131) 2 34 fl8_131 (by decide) dX8_law_31 rfl (Or.inl rfl) rfl rfl ?_
      refine r_aload_n 35 dX8_law_34 rfl rfl ?_
      refine c_V [vq (some (8, 0))] [] 38 cs8_law_35 rfl h (fun _ h' => ct8_replayNow h') rfl rfl rfl rfl (by decide) (Nat.le_refl 0) (Nat.le_refl 0) (fun s26 h => ?_)
      refine r_iload_n 39 dX8_law_38 rfl rfl ?_
      exact r_ireturn dX8_law_39 rfl (Nat.le_refl 0) (Nat.le_refl 0) h
    · replace h := Out_pos hc h
      refine r_bipush (-3) 23 dX8_law_21 rfl (by decide) ?_
      exact r_ireturn dX8_law_23 rfl (Nat.le_refl 0) (Nat.le_refl 0) h
  · replace h := Out_pos hc h
    refine r_bipush (-2) 10 dX8_law_8 rfl (by decide) ?_
    exact r_ireturn dX8_law_10 rfl (Nat.le_refl 0) (Nat.le_refl 0) h

set_option maxRecDepth 20000 in
set_option maxHeartbeats 4000000 in
theorem tl8_laws_17 {Γ : GG} {K : Int32 × Sto → Prop}  : ∀ (n : Nat) (a1 : Int32) (a2 : Int32) (σ : Sto), Out (l8_laws_17  n a1 a2 σ) K → M true Γ mX8_laws 5 0 0 0 0 (QI K) 17 [some (vq (some (8, 0))), some (vi a1), some (vi a2)] [] σ := by
  intro n
  induction n with
  | zero => intro a1 a2 σ h; exact absurd h Out_none
  | succ n ih =>
    intro a1 a2 σ h
    unfold l8_laws_17 at h
    refine r_iload_n 18 dX8_laws_17 rfl rfl ?_
    refine r_iconst 3 19 dX8_laws_18 rfl (by decide) ?_
    refine r_icmp_ge 56 22 dX8_laws_19 (by decide) rfl (fun hc => ?_) (fun hc => ?_)
    · replace h := Out_pos hc h
      refine r_iload_n 57 dX8_laws_56 rfl rfl ?_
      exact r_ireturn dX8_laws_57 rfl (Nat.le_refl 0) (Nat.le_refl 0) h
    · replace h := Out_neg hc h
      refine r_aload_n 23 dX8_laws_22 rfl rfl ?_
      refine r_aload_n 24 dX8_laws_23 rfl rfl ?_
      refine r_getF (x := fe8_46) 9 (6, 1) 27 fl8_46 (by decide) dX8_laws_24 rfl rfl rfl rfl ?_
      refine r_iload_n 28 dX8_laws_27 rfl rfl ?_
      refine r_bipush (-9) 30 dX8_laws_28 rfl (by decide) ?_
      refine c_V [vq (some (8, 0)), vq (some (6, 1)), vi a2, vi (-9)] [] 33 cs8_laws_30 rfl h (fun _ h' => ct8_replay h') rfl rfl rfl rfl (by decide) (Nat.le_refl 0) (Nat.le_refl 0) (fun s24 h => ?_)
      refine r_aload_n 34 dX8_laws_33 rfl rfl ?_
      refine r_aload_n 35 dX8_laws_34 rfl rfl ?_
      refine r_getF (x := fe8_46) 9 (6, 1) 38 fl8_46 (by decide) dX8_laws_35 rfl rfl rfl rfl ?_
      refine c_I [vq (some (8, 0)), vq (some (6, 1))] [] 41 cs8_laws_38 rfl h (fun _ h' => ct8_readingsAreSo h') rfl rfl rfl rfl (by decide) (Nat.le_refl 0) (Nat.le_refl 0) (fun v25 s26 h => ?_)
      refine r_if_eq 50 44 dX8_laws_41 (by decide) rfl (fun hc => ?_) (fun hc => ?_)
      · replace h := Out_pos hc h
        refine r_iinc 1 [some (vq (some (8, 0))), some (vi a1), some (vi (a2 + 1))] 53 dX8_laws_50 rfl (by decide) rfl rfl rfl ?_
        refine r_goto 17 dX8_laws_53 (by decide) ?_
        exact ih a1 (a2 + 1) s26 h
      · replace h := Out_neg hc h
        refine r_iload_n 45 dX8_laws_44 rfl rfl ?_
        refine r_iconst 1 46 dX8_laws_45 rfl (by decide) ?_
        refine r_iload_n 47 dX8_laws_46 rfl rfl ?_
        refine r_ishl 48 dX8_laws_47 rfl ?_
        refine r_ior 49 dX8_laws_48 rfl ?_
        refine r_istore_n [some (vq (some (8, 0))), some (vi (a1 ||| (1 <<< (a2 &&& 31)))), some (vi a2)] 50 dX8_laws_49 rfl rfl rfl ?_
        refine r_iinc 1 [some (vq (some (8, 0))), some (vi (a1 ||| (1 <<< (a2 &&& 31)))), some (vi (a2 + 1))] 53 dX8_laws_50 rfl (by decide) rfl rfl rfl ?_
        refine r_goto 17 dX8_laws_53 (by decide) ?_
        exact ih (a1 ||| (1 <<< (a2 &&& 31))) (a2 + 1) s26 h
set_option maxRecDepth 20000 in
set_option maxHeartbeats 4000000 in
theorem ct8_laws {Γ : GG} {K : Int32 × Sto → Prop}  {σ : Sto} (h : Out (f8_laws  σ) K) : Ct true Γ mX8_laws 5 0 0 [vq (some (8, 0))] σ (QI K) := by
  refine Ct_intro (by decide +kernel) rfl ?_
  show M true Γ mX8_laws 5 0 0 0 0 (QI K) 0 [some (vq (some (8, 0))), none, none] [] σ
  unfold f8_laws at h
  refine r_aload_n 1 dX8_laws_0 rfl rfl ?_
  refine r_getR (x := fe8_56) 0 4 fl8_56 (by decide) dX8_laws_1 rfl rfl rfl (Or.inr rfl) ?_
  obtain ⟨i21, e0, h⟩ := Out_dr h
  rw [e0]
  refine c_I [vq (some (2, i21))] [] 7 cs8_laws_4 rfl h (fun _ h' => ct2_isLaid h') rfl rfl rfl rfl (by decide) (Nat.le_refl 0) (Nat.le_refl 0) (fun v22 s23 h => ?_)
  refine r_if_ne 13 10 dX8_laws_7 (by decide) rfl (fun hc => ?_) (fun hc => ?_)
  · replace h := Out_neg hc h
    refine r_iconst 0 14 dX8_laws_13 rfl (by decide) ?_
    refine r_istore_n [some (vq (some (8, 0))), some (vi 0), none] 15 dX8_laws_14 rfl rfl rfl ?_
    refine r_iconst 0 16 dX8_laws_15 rfl (by decide) ?_
    refine r_istore_n [some (vq (some (8, 0))), some (vi 0), some (vi 0)] 17 dX8_laws_16 rfl rfl rfl ?_
    exact tl8_laws_17 300 0 0 s23 h
  · replace h := Out_pos hc h
    refine r_bipush (-3) 12 dX8_laws_10 rfl (by decide) ?_
    exact r_ireturn dX8_laws_12 rfl (Nat.le_refl 0) (Nat.le_refl 0) h

set_option maxRecDepth 20000 in
set_option maxHeartbeats 4000000 in
theorem ct8_lose {Γ : GG} {K : Int32 × Sto → Prop} {a1 : Int32} {σ : Sto} (h : Out (f8_lose a1 σ) K) : Ct true Γ mX8_lose 2 0 0 [vq (some (8, 0)), vi a1] σ (QI K) := by
  refine Ct_intro (by decide +kernel) rfl ?_
  show M true Γ mX8_lose 2 0 0 0 0 (QI K) 0 [some (vq (some (8, 0))), some (vi a1), none, none] [] σ
  unfold f8_lose at h
  refine r_aload_n 1 dX8_lose_0 rfl rfl ?_
  refine r_iload_n 2 dX8_lose_1 rfl rfl ?_
  refine c_R [vq (some (8, 0)), vi a1] [] 5 cs8_lose_2 rfl h (fun _ h' => ct8_sheetAt h') rfl rfl rfl rfl (by decide) (Nat.le_refl 0) (Nat.le_refl 0) (fun v21 s22 h => ?_)
  refine r_astore_n [some (vq (some (8, 0))), some (vi a1), some (vq v21), none] 6 dX8_lose_5 rfl rfl rfl ?_
  refine r_aload_n 7 dX8_lose_6 rfl rfl ?_
  rcases Out_rcs h with ⟨e0, h⟩ | ⟨k23, i24, e0, h⟩
  · subst e0
    refine r_ifnonnull 12 10 dX8_lose_7 (by decide) rfl (fun hc => absurd rfl hc) (fun _ => ?_)
    refine r_iconst (-1) 11 dX8_lose_10 rfl (by decide) ?_
    exact r_ireturn dX8_lose_11 rfl (Nat.le_refl 0) (Nat.le_refl 0) h
  · subst e0
    obtain ⟨ek, h1⟩ := Out_grd h
    subst ek
    replace h := h1
    refine r_ifnonnull 12 10 dX8_lose_7 (by decide) rfl (fun _ => ?_) (fun hc => by cases hc)
    refine r_aload_n 13 dX8_lose_12 rfl rfl ?_
    refine c_I [vq (some (4, i24))] [] 16 cs8_lose_13 rfl h (fun _ h' => ct4_isNothing h') rfl rfl rfl rfl (by decide) (Nat.le_refl 0) (Nat.le_refl 0) (fun v25 s26 h => ?_)
    refine r_if_eq 23 19 dX8_lose_16 (by decide) rfl (fun hc => ?_) (fun hc => ?_)
    · replace h := Out_pos hc h
      refine r_iconst 1 24 dX8_lose_23 rfl (by decide) ?_
      refine r_istore_n [some (vq (some (8, 0))), some (vi a1), some (vq (some (4, i24))), some (vi 1)] 25 dX8_lose_24 rfl rfl rfl ?_
      refine r_aload_n 26 dX8_lose_25 rfl rfl ?_
      refine c_V [vq (some (4, i24))] [] 29 cs8_lose_26 rfl h (fun _ h' => ct4_drop h') rfl rfl rfl rfl (by decide) (Nat.le_refl 0) (Nat.le_refl 0) (fun s27 h => ?_)
      refine r_iload_n 30 dX8_lose_29 rfl rfl ?_
      exact r_ireturn dX8_lose_30 rfl (Nat.le_refl 0) (Nat.le_refl 0) h
    · replace h := Out_neg hc h
      refine r_iconst 0 20 dX8_lose_19 rfl (by decide) ?_
      refine r_goto 24 dX8_lose_20 (by decide) ?_
      refine r_istore_n [some (vq (some (8, 0))), some (vi a1), some (vq (some (4, i24))), some (vi 0)] 25 dX8_lose_24 rfl rfl rfl ?_
      refine r_aload_n 26 dX8_lose_25 rfl rfl ?_
      refine c_V [vq (some (4, i24))] [] 29 cs8_lose_26 rfl h (fun _ h' => ct4_drop h') rfl rfl rfl rfl (by decide) (Nat.le_refl 0) (Nat.le_refl 0) (fun s28 h => ?_)
      refine r_iload_n 30 dX8_lose_29 rfl rfl ?_
      exact r_ireturn dX8_lose_30 rfl (Nat.le_refl 0) (Nat.le_refl 0) h

set_option maxRecDepth 20000 in
set_option maxHeartbeats 4000000 in
theorem ct8_many {Γ : GG} {K : Int32 × Sto → Prop} {a1 : Int32} {σ : Sto} (h : Out (f8_many a1 σ) K) : Ct true Γ mX8_many 0 0 0 [vq (some (8, 0)), vi a1] σ (QI K) := by
  refine Ct_intro (by decide +kernel) rfl ?_
  show M true Γ mX8_many 0 0 0 0 0 (QI K) 0 [some (vq (some (8, 0))), some (vi a1)] [] σ
  unfold f8_many at h
  refine r_iload_n 1 dX8_many_0 rfl rfl ?_
  by_cases hs0 : a1 = 0
  · replace h := Out_pos hs0 h
    refine M_tableIn dX8_many_1 (off := 43) (t := 44) (by rw [hs0]; decide) (by rw [hs0]; decide) (by rw [hs0]; decide) (by decide) ?_
    refine r_aload_n 45 dX8_many_44 rfl rfl ?_
    refine r_getR (x := fe8_56) 0 48 fl8_56 (by decide) dX8_many_45 rfl rfl rfl (Or.inr rfl) ?_
    obtain ⟨i21, e0, h⟩ := Out_dr h
    rw [e0]
    refine r_getI (x := fe8_280) 0 51 fl8_280 (by decide) dX8_many_48 rfl rfl rfl ?_
    refine r_aload_n 52 dX8_many_51 rfl rfl ?_
    refine r_getR (x := fe8_56) 0 55 fl8_56 (by decide) dX8_many_52 rfl rfl rfl (Or.inr rfl) ?_
    obtain ⟨i22, e0, h⟩ := Out_dr h
    rw [e0]
    refine r_getI (x := fe8_283) 1 58 fl8_283 (by decide) dX8_many_55 rfl rfl rfl ?_
    refine r_imul 59 dX8_many_58 rfl ?_
    exact r_ireturn dX8_many_59 rfl (Nat.le_refl 0) (Nat.le_refl 0) h
  replace h := Out_neg hs0 h
  by_cases hs1 : a1 = 1
  · replace h := Out_pos hs1 h
    refine M_tableIn dX8_many_1 (off := 59) (t := 60) (by rw [hs1]; decide) (by rw [hs1]; decide) (by rw [hs1]; decide) (by decide) ?_
    refine r_aload_n 61 dX8_many_60 rfl rfl ?_
    refine r_getR (x := fe8_56) 0 64 fl8_56 (by decide) dX8_many_61 rfl rfl rfl (Or.inr rfl) ?_
    obtain ⟨i23, e0, h⟩ := Out_dr h
    rw [e0]
    refine r_getI (x := fe8_283) 1 67 fl8_283 (by decide) dX8_many_64 rfl rfl rfl ?_
    exact r_ireturn dX8_many_67 rfl (Nat.le_refl 0) (Nat.le_refl 0) h
  replace h := Out_neg hs1 h
  by_cases hs2 : a1 = 2
  · replace h := Out_pos hs2 h
    refine M_tableIn dX8_many_1 (off := 67) (t := 68) (by rw [hs2]; decide) (by rw [hs2]; decide) (by rw [hs2]; decide) (by decide) ?_
    refine r_aload_n 69 dX8_many_68 rfl rfl ?_
    refine r_getR (x := fe8_56) 0 72 fl8_56 (by decide) dX8_many_69 rfl rfl rfl (Or.inr rfl) ?_
    obtain ⟨i24, e0, h⟩ := Out_dr h
    rw [e0]
    refine r_getI (x := fe8_91) 2 75 fl8_91 (by decide) dX8_many_72 rfl rfl rfl ?_
    exact r_ireturn dX8_many_75 rfl (Nat.le_refl 0) (Nat.le_refl 0) h
  replace h := Out_neg hs2 h
  by_cases hs3 : a1 = 3
  · replace h := Out_pos hs3 h
    refine M_tableIn dX8_many_1 (off := 75) (t := 76) (by rw [hs3]; decide) (by rw [hs3]; decide) (by rw [hs3]; decide) (by decide) ?_
    refine r_aload_n 77 dX8_many_76 rfl rfl ?_
    refine r_getR (x := fe8_56) 0 80 fl8_56 (by decide) dX8_many_77 rfl rfl rfl (Or.inr rfl) ?_
    obtain ⟨i25, e0, h⟩ := Out_dr h
    rw [e0]
    refine r_getI (x := fe8_286) 3 83 fl8_286 (by decide) dX8_many_80 rfl rfl rfl ?_
    exact r_ireturn dX8_many_83 rfl (Nat.le_refl 0) (Nat.le_refl 0) h
  replace h := Out_neg hs3 h
  by_cases hs4 : a1 = 4
  · replace h := Out_pos hs4 h
    refine M_tableIn dX8_many_1 (off := 83) (t := 84) (by rw [hs4]; decide) (by rw [hs4]; decide) (by rw [hs4]; decide) (by decide) ?_
    refine r_aload_n 85 dX8_many_84 rfl rfl ?_
    refine r_getI (x := fe8_137) 4 88 fl8_137 (by decide) dX8_many_85 rfl rfl rfl ?_
    exact r_ireturn dX8_many_88 rfl (Nat.le_refl 0) (Nat.le_refl 0) h
  replace h := Out_neg hs4 h
  by_cases hs5 : a1 = 5
  · replace h := Out_pos hs5 h
    refine M_tableIn dX8_many_1 (off := 88) (t := 89) (by rw [hs5]; decide) (by rw [hs5]; decide) (by rw [hs5]; decide) (by decide) ?_
    refine r_aload_n 90 dX8_many_89 rfl rfl ?_
    refine r_getI (x := fe8_213) 7 93 fl8_213 (by decide) dX8_many_90 rfl rfl rfl ?_
    exact r_ireturn dX8_many_93 rfl (Nat.le_refl 0) (Nat.le_refl 0) h
  replace h := Out_neg hs5 h
  by_cases hs6 : a1 = 6
  · replace h := Out_pos hs6 h
    refine M_tableIn dX8_many_1 (off := 93) (t := 94) (by rw [hs6]; decide) (by rw [hs6]; decide) (by rw [hs6]; decide) (by decide) ?_
    refine r_aload_n 95 dX8_many_94 rfl rfl ?_
    refine r_getI (x := fe8_131) 2 98 fl8_131 (by decide) dX8_many_95 rfl rfl rfl ?_
    exact r_ireturn dX8_many_98 rfl (Nat.le_refl 0) (Nat.le_refl 0) h
  replace h := Out_neg hs6 h
  refine M_tableOut dX8_many_1 (t := 99) (by have q0 := lv_neT hs0 (a := 0) (by decide); have q1 := lv_neT hs1 (a := 1) (by decide); have q2 := lv_neT hs2 (a := 2) (by decide); have q3 := lv_neT hs3 (a := 3) (by decide); have q4 := lv_neT hs4 (a := 4) (by decide); have q5 := lv_neT hs5 (a := 5) (by decide); have q6 := lv_neT hs6 (a := 6) (by decide); omega) (by decide) ?_
  refine r_bipush (-2) 101 dX8_many_99 rfl (by decide) ?_
  exact r_ireturn dX8_many_101 rfl (Nat.le_refl 0) (Nat.le_refl 0) h

set_option maxRecDepth 20000 in
set_option maxHeartbeats 4000000 in
theorem tl8_mostHad_65 {Γ : GG} {K : Int32 × Sto → Prop} {rc : Int32 → Int32 → Sto → Option (Int32 × Sto)} {a1 : Int32} {a2 : Int32} {a4 : Int32} {i6 : Nat} {D dr : Nat} (hD : 5 ≤ D) (hrc : ∀ {a1 : Int32} {a2 : Int32} {σ : Sto} {K' : Int32 × Sto → Prop}, Out (rc a1 a2 σ) K' → Ct true Γ mX8_mostHad dr 0 0 [vq (some (3, 0)), vi a1, vi a2] σ (QI K')) (hdr : Nat.ble (dr + 1) D = true) : ∀ (n : Nat) (a5 : Int32) (a7 : Int32) (σ : Sto), Out (l8_mostHad_65 rc a1 a2 a4 i6 n a5 a7 σ) K → M true Γ mX8_mostHad D 0 0 0 0 (QI K) 65 [some (vq (some (3, 0))), some (vi a1), some (vi a2), none, some (vi a4), some (vi a5), some (vq (some (2, i6))), some (vi a7)] [] σ := by
  intro n
  induction n with
  | zero => intro a5 a7 σ h; exact absurd h Out_none
  | succ n ih =>
    intro a5 a7 σ h
    unfold l8_mostHad_65 at h
    refine r_iload 67 dX8_mostHad_65 rfl rfl ?_
    refine r_aload 69 dX8_mostHad_67 rfl rfl ?_
    refine r_getI (x := fe8_216) 4 72 fl8_216 (by decide) dX8_mostHad_69 rfl rfl rfl ?_
    refine r_icmp_ge 123 75 dX8_mostHad_72 (by decide) rfl (fun hc => ?_) (fun hc => ?_)
    · replace h := Out_pos hc h
      refine r_iload 125 dX8_mostHad_123 rfl rfl ?_
      exact r_ireturn dX8_mostHad_125 rfl (Nat.le_refl 0) (Nat.le_refl 0) h
    · replace h := Out_neg hc h
      refine r_iload 77 dX8_mostHad_75 rfl rfl ?_
      refine r_iload 79 dX8_mostHad_77 rfl rfl ?_
      refine r_iload_n 80 dX8_mostHad_79 rfl rfl ?_
      refine r_iadd 81 dX8_mostHad_80 rfl ?_
      refine r_icmp_ge 123 84 dX8_mostHad_81 (by decide) rfl (fun hc => ?_) (fun hc => ?_)
      · replace h := Out_pos hc h
        refine r_iload 125 dX8_mostHad_123 rfl rfl ?_
        exact r_ireturn dX8_mostHad_125 rfl (Nat.le_refl 0) (Nat.le_refl 0) h
      · replace h := Out_neg hc h
        refine r_aload_n 85 dX8_mostHad_84 rfl rfl ?_
        refine r_iload_n 86 dX8_mostHad_85 rfl rfl ?_
        refine r_aload 88 dX8_mostHad_86 rfl rfl ?_
        refine r_getF (x := fe8_219) 5 (10, i6) 91 fl8_219 (by decide) dX8_mostHad_88 rfl rfl rfl rfl ?_
        refine r_iload 93 dX8_mostHad_91 rfl rfl ?_
        obtain ⟨hc, h⟩ := Out_grd h
        refine r_iaload a7.toNatClampNeg 40 94 dX8_mostHad_93 rfl (by decide) rfl rfl hc rfl ?_
        refine c_I [vq (some (3, 0)), vi a1, vi (gI σ 10 i6 a7.toNatClampNeg)] [] 97 cs8_mostHad_94 rfl h (fun _ h' => ct3_stepsOn h') rfl rfl rfl rfl (Nat.ble_eq.mpr (Nat.le_trans (by decide) hD)) (Nat.le_refl 0) (Nat.le_refl 0) (fun v26 s27 h => ?_)
        refine r_if_eq 117 100 dX8_mostHad_97 (by decide) rfl (fun hc => ?_) (fun hc => ?_)
        · replace h := Out_pos hc h
          refine r_iinc 1 [some (vq (some (3, 0))), some (vi a1), some (vi a2), none, some (vi a4), some (vi a5), some (vq (some (2, i6))), some (vi (a7 + 1))] 120 dX8_mostHad_117 rfl (by decide) rfl rfl rfl ?_
          refine r_goto 65 dX8_mostHad_120 (by decide) ?_
          exact ih a5 (a7 + 1) s27 h
        · replace h := Out_neg hc h
          refine r_iload 102 dX8_mostHad_100 rfl rfl ?_
          refine r_aload_n 103 dX8_mostHad_102 rfl rfl ?_
          refine r_iload_n 104 dX8_mostHad_103 rfl rfl ?_
          refine r_iconst 1 105 dX8_mostHad_104 rfl (by decide) ?_
          refine r_iadd 106 dX8_mostHad_105 rfl ?_
          refine r_iload_n 107 dX8_mostHad_106 rfl rfl ?_
          refine r_iconst 1 108 dX8_mostHad_107 rfl (by decide) ?_
          refine r_isub 109 dX8_mostHad_108 rfl ?_
          refine c_I [vq (some (3, 0)), vi (a1 + 1), vi (a2 - 1)] [vi a5] 112 cs8_mostHad_109 rfl h (fun _ h' => hrc h') rfl rfl rfl rfl hdr (Nat.le_refl 0) (Nat.le_refl 0) (fun v28 s29 h => ?_)
          refine M_max w_ccf7f5f0 w_2b433c78 w_ae09fe6d w_da947410 (Nat.le_of_ble_eq_true rfl) (Nat.le_trans (by decide) hD) (Nat.le_refl 0) (Nat.le_refl 0) dX8_mostHad_112 ?_
          refine r_istore [some (vq (some (3, 0))), some (vi a1), some (vi a2), none, some (vi a4), some (vi (if a5 < v28 then v28 else a5)), some (vq (some (2, i6))), some (vi a7)] 117 dX8_mostHad_115 rfl rfl rfl ?_
          refine r_iinc 1 [some (vq (some (3, 0))), some (vi a1), some (vi a2), none, some (vi a4), some (vi (if a5 < v28 then v28 else a5)), some (vq (some (2, i6))), some (vi (a7 + 1))] 120 dX8_mostHad_117 rfl (by decide) rfl rfl rfl ?_
          refine r_goto 65 dX8_mostHad_120 (by decide) ?_
          exact ih (if a5 < v28 then v28 else a5) (a7 + 1) s29 h
set_option maxRecDepth 20000 in
set_option maxHeartbeats 4000000 in
theorem cg8_mostHad {Γ : GG} {K : Int32 × Sto → Prop} {rc : Int32 → Int32 → Sto → Option (Int32 × Sto)} {a1 : Int32} {a2 : Int32} {σ : Sto} {D dr : Nat} (hD : 5 ≤ D) (hrc : ∀ {a1 : Int32} {a2 : Int32} {σ : Sto} {K' : Int32 × Sto → Prop}, Out (rc a1 a2 σ) K' → Ct true Γ mX8_mostHad dr 0 0 [vq (some (3, 0)), vi a1, vi a2] σ (QI K')) (hdr : Nat.ble (dr + 1) D = true) (h : Out (g8_mostHad rc a1 a2 σ) K) : Ct true Γ mX8_mostHad D 0 0 [vq (some (3, 0)), vi a1, vi a2] σ (QI K) := by
  refine Ct_intro (by decide +kernel) rfl ?_
  show M true Γ mX8_mostHad D 0 0 0 0 (QI K) 0 [some (vq (some (3, 0))), some (vi a1), some (vi a2), none, none, none, none, none] [] σ
  unfold g8_mostHad at h
  refine r_iload_n 1 dX8_mostHad_0 rfl rfl ?_
  refine r_iconst 3 2 dX8_mostHad_1 rfl (by decide) ?_
  refine c_I [vi a1, vi 3] [] 5 cs8_mostHad_2 rfl h (fun _ h' => ct8_isBelow h') rfl rfl rfl rfl (Nat.ble_eq.mpr (Nat.le_trans (by decide) hD)) (Nat.le_refl 0) (Nat.le_refl 0) (fun v21 s22 h => ?_)
  refine r_if_ne 10 8 dX8_mostHad_5 (by decide) rfl (fun hc => ?_) (fun hc => ?_)
  · replace h := Out_neg hc h
    refine r_aload_n 11 dX8_mostHad_10 rfl rfl ?_
    refine r_getF (x := fe8_176) 0 (17, 0) 14 fl8_176 (by decide) dX8_mostHad_11 rfl rfl rfl rfl ?_
    refine r_iload_n 15 dX8_mostHad_14 rfl rfl ?_
    obtain ⟨hc, h⟩ := Out_grd h
    refine r_aaload (some (6, a1.toNatClampNeg + 2)) a1.toNatClampNeg 3 16 dX8_mostHad_15 rfl (by decide) rfl rfl hc rfl rfl ?_
    refine r_astore_n [some (vq (some (3, 0))), some (vi a1), some (vi a2), some (vq (some (6, (a1.toNatClampNeg + 2)))), none, none, none, none] 17 dX8_mostHad_16 rfl rfl rfl ?_
    refine r_aload_n 18 dX8_mostHad_17 rfl rfl ?_
    refine c_I [vq (some (6, (a1.toNatClampNeg + 2)))] [] 21 cs8_mostHad_18 rfl h (fun _ h' => ct6_countHad h') rfl rfl rfl rfl (Nat.ble_eq.mpr (Nat.le_trans (by decide) hD)) (Nat.le_refl 0) (Nat.le_refl 0) (fun v23 s24 h => ?_)
    refine r_istore [some (vq (some (3, 0))), some (vi a1), some (vi a2), some (vq (some (6, (a1.toNatClampNeg + 2)))), some (vi v23), none, none, none] 23 dX8_mostHad_21 rfl rfl rfl ?_
    refine r_iload_n 24 dX8_mostHad_23 rfl rfl ?_
    refine r_if_gt 30 27 dX8_mostHad_24 (by decide) rfl (fun hc => ?_) (fun hc => ?_)
    · replace h := Out_pos hc h
      refine r_iload_n 31 dX8_mostHad_30 rfl rfl ?_
      refine r_iconst 1 32 dX8_mostHad_31 rfl (by decide) ?_
      refine r_icmp_ne 52 35 dX8_mostHad_32 (by decide) rfl (fun hc => ?_) (fun hc => ?_)
      · replace h := Out_neg hc h
        refine r_iload 54 dX8_mostHad_52 rfl rfl ?_
        refine r_istore [some (vq (some (3, 0))), some (vi a1), some (vi a2), some (vq (some (6, (a1.toNatClampNeg + 2)))), some (vi v23), some (vi v23), none, none] 56 dX8_mostHad_54 rfl rfl rfl ?_
        refine r_aload_n 57 dX8_mostHad_56 rfl rfl ?_
        refine r_getR (x := fe8_309) 0 60 fl8_309 (by decide) dX8_mostHad_57 rfl rfl rfl (Or.inr rfl) ?_
        refine r_astore [some (vq (some (3, 0))), some (vi a1), some (vi a2), some (vq (some (6, (a1.toNatClampNeg + 2)))), some (vi v23), some (vi v23), some (vq (gR s24 6 (a1.toNatClampNeg + 2) 0)), none] 62 dX8_mostHad_60 rfl rfl rfl ?_
        refine r_iconst 0 63 dX8_mostHad_62 rfl (by decide) ?_
        refine r_istore [some (vq (some (3, 0))), some (vi a1), some (vi a2), some (vq (some (6, (a1.toNatClampNeg + 2)))), some (vi v23), some (vi v23), some (vq (gR s24 6 (a1.toNatClampNeg + 2) 0)), some (vi 0)] 65 dX8_mostHad_63 rfl rfl rfl ?_
        obtain ⟨i25, e0, h⟩ := Out_dr h
        rw [e0]
        refine r_mask [true, true, true, false, true, true, true, true] [some (vq (some (3, 0))), some (vi a1), some (vi a2), none, some (vi v23), some (vi v23), some (vq (some (2, i25))), some (vi 0)] rfl rfl ?_
        exact tl8_mostHad_65 hD hrc hdr 300 v23 0 s24 h
      · replace h := Out_pos hc h
        refine r_aload_n 36 dX8_mostHad_35 rfl rfl ?_
        refine c_I [vq (some (6, (a1.toNatClampNeg + 2)))] [] 39 cs8_mostHad_36 rfl h (fun _ h' => ct6_holdsAny h') rfl rfl rfl rfl (Nat.ble_eq.mpr (Nat.le_trans (by decide) hD)) (Nat.le_refl 0) (Nat.le_refl 0) (fun v30 s31 h => ?_)
        refine r_if_eq 49 42 dX8_mostHad_39 (by decide) rfl (fun hc => ?_) (fun hc => ?_)
        · replace h := Out_pos hc h
          refine r_iload 51 dX8_mostHad_49 rfl rfl ?_
          exact r_ireturn dX8_mostHad_51 rfl (Nat.le_refl 0) (Nat.le_refl 0) h
        · replace h := Out_neg hc h
          refine r_iload 44 dX8_mostHad_42 rfl rfl ?_
          refine r_iconst 1 45 dX8_mostHad_44 rfl (by decide) ?_
          refine r_iadd 46 dX8_mostHad_45 rfl ?_
          refine r_goto 51 dX8_mostHad_46 (by decide) ?_
          exact r_ireturn dX8_mostHad_51 rfl (Nat.le_refl 0) (Nat.le_refl 0) h
    · replace h := Out_neg hc h
      refine r_iload 29 dX8_mostHad_27 rfl rfl ?_
      exact r_ireturn dX8_mostHad_29 rfl (Nat.le_refl 0) (Nat.le_refl 0) h
  · replace h := Out_pos hc h
    refine r_iconst 0 9 dX8_mostHad_8 rfl (by decide) ?_
    exact r_ireturn dX8_mostHad_9 rfl (Nat.le_refl 0) (Nat.le_refl 0) h
theorem ct8_mostHad {Γ : GG} : ∀ (n : Nat) {K : Int32 × Sto → Prop} {a1 : Int32} {a2 : Int32} {σ : Sto} (h : Out (f8_mostHad n a1 a2 σ) K), Ct true Γ mX8_mostHad (n + 5) 0 0 [vq (some (3, 0)), vi a1, vi a2] σ (QI K)
  | 0, _, _, _, _, h => absurd h Out_none
  | n + 1, _, _, _, _, h => cg8_mostHad (rc := f8_mostHad n) (D := n + 1 + 5) (dr := n + 5) (by omega) (fun h' => ct8_mostHad n h') (Nat.ble_eq.mpr (by omega)) h

set_option maxRecDepth 20000 in
set_option maxHeartbeats 4000000 in
theorem ct8_most {Γ : GG} {K : Int32 × Sto → Prop} {a1 : Int32} {σ : Sto} (h : Out (f8_most a1 σ) K) : Ct true Γ mX8_most 10 0 0 [vq (some (8, 0)), vi a1] σ (QI K) := by
  refine Ct_intro (by decide +kernel) rfl ?_
  show M true Γ mX8_most 10 0 0 0 0 (QI K) 0 [some (vq (some (8, 0))), some (vi a1)] [] σ
  unfold f8_most at h
  refine r_iload_n 1 dX8_most_0 rfl rfl ?_
  refine r_if_lt 9 4 dX8_most_1 (by decide) rfl (fun hc => ?_) (fun hc => ?_)
  · replace h := Out_pos hc h
    refine r_bipush (-2) 11 dX8_most_9 rfl (by decide) ?_
    exact r_ireturn dX8_most_11 rfl (Nat.le_refl 0) (Nat.le_refl 0) h
  · replace h := Out_neg hc h
    refine r_iload_n 5 dX8_most_4 rfl rfl ?_
    refine r_iconst 3 6 dX8_most_5 rfl (by decide) ?_
    refine r_icmp_le 12 9 dX8_most_6 (by decide) rfl (fun hc => ?_) (fun hc => ?_)
    · replace h := Out_pos hc h
      refine r_aload_n 13 dX8_most_12 rfl rfl ?_
      refine r_getR (x := fe8_56) 0 16 fl8_56 (by decide) dX8_most_13 rfl rfl rfl (Or.inr rfl) ?_
      obtain ⟨i21, e0, h⟩ := Out_dr h
      rw [e0]
      refine c_I [vq (some (2, i21))] [] 19 cs8_most_16 rfl h (fun _ h' => ct2_isLaid h') rfl rfl rfl rfl (by decide) (Nat.le_refl 0) (Nat.le_refl 0) (fun v22 s23 h => ?_)
      refine r_if_ne 25 22 dX8_most_19 (by decide) rfl (fun hc => ?_) (fun hc => ?_)
      · replace h := Out_neg hc h
        refine r_aload_n 26 dX8_most_25 rfl rfl ?_
        refine r_getF (x := fe8_52) 10 (3, 0) 29 fl8_52 (by decide) dX8_most_26 rfl rfl rfl rfl ?_
        refine r_getF (x := fe8_176) 0 (17, 0) 32 fl8_176 (by decide) dX8_most_29 rfl rfl rfl rfl ?_
        refine r_iconst 0 33 dX8_most_32 rfl (by decide) ?_
        refine r_aaload (some (6, 2)) 0 3 34 dX8_most_33 rfl (by decide) rfl rfl (by decide) rfl rfl ?_
        refine r_aload_n 35 dX8_most_34 rfl rfl ?_
        refine r_getF (x := fe8_42) 8 (6, 0) 38 fl8_42 (by decide) dX8_most_35 rfl rfl rfl rfl ?_
        refine c_V [vq (some (6, 2)), vq (some (6, 0))] [] 41 cs8_most_38 rfl h (fun _ h' => ct6_copyFrom h') rfl rfl rfl rfl (by decide) (Nat.le_refl 0) (Nat.le_refl 0) (fun s24 h => ?_)
        refine r_aload_n 42 dX8_most_41 rfl rfl ?_
        refine r_getF (x := fe8_52) 10 (3, 0) 45 fl8_52 (by decide) dX8_most_42 rfl rfl rfl rfl ?_
        refine r_iconst 0 46 dX8_most_45 rfl (by decide) ?_
        refine r_iload_n 47 dX8_most_46 rfl rfl ?_
        refine c_I [vq (some (3, 0)), vi 0, vi a1] [] 50 cs8_most_47 rfl h (fun _ h' => ct8_mostHad 4 h') rfl rfl rfl rfl (by decide) (Nat.le_refl 0) (Nat.le_refl 0) (fun v25 s26 h => ?_)
        exact r_ireturn dX8_most_50 rfl (Nat.le_refl 0) (Nat.le_refl 0) h
      · replace h := Out_pos hc h
        refine r_bipush (-3) 24 dX8_most_22 rfl (by decide) ?_
        exact r_ireturn dX8_most_24 rfl (Nat.le_refl 0) (Nat.le_refl 0) h
    · replace h := Out_neg hc h
      refine r_bipush (-2) 11 dX8_most_9 rfl (by decide) ?_
      exact r_ireturn dX8_most_11 rfl (Nat.le_refl 0) (Nat.le_refl 0) h

set_option maxRecDepth 20000 in
set_option maxHeartbeats 4000000 in
theorem tl8_never_17 {Γ : GG} {K : Int32 × Sto → Prop}  : ∀ (n : Nat) (a1 : Int32) (a2 : Int32) (σ : Sto), Out (l8_never_17  n a1 a2 σ) K → M true Γ mX8_never 5 0 0 0 0 (QI K) 17 [some (vq (some (8, 0))), some (vi a1), some (vi a2)] [] σ := by
  intro n
  induction n with
  | zero => intro a1 a2 σ h; exact absurd h Out_none
  | succ n ih =>
    intro a1 a2 σ h
    unfold l8_never_17 at h
    refine r_iload_n 18 dX8_never_17 rfl rfl ?_
    refine r_aload_n 19 dX8_never_18 rfl rfl ?_
    refine r_getI (x := fe8_137) 4 22 fl8_137 (by decide) dX8_never_19 rfl rfl rfl ?_
    refine r_icmp_ge 61 25 dX8_never_22 (by decide) rfl (fun hc => ?_) (fun hc => ?_)
    · replace h := Out_pos hc h
      refine r_iload_n 62 dX8_never_61 rfl rfl ?_
      exact r_ireturn dX8_never_62 rfl (Nat.le_refl 0) (Nat.le_refl 0) h
    · replace h := Out_neg hc h
      refine r_aload_n 26 dX8_never_25 rfl rfl ?_
      refine r_aload_n 27 dX8_never_26 rfl rfl ?_
      refine r_getF (x := fe8_46) 9 (6, 1) 30 fl8_46 (by decide) dX8_never_27 rfl rfl rfl rfl ?_
      refine r_aload_n 31 dX8_never_30 rfl rfl ?_
      refine r_getI (x := fe8_131) 2 34 fl8_131 (by decide) dX8_never_31 rfl rfl rfl ?_
      refine r_iload_n 35 dX8_never_34 rfl rfl ?_
      refine c_V [vq (some (8, 0)), vq (some (6, 1)), vi (gI σ 8 0 2), vi a2] [] 38 cs8_never_35 rfl h (fun _ h' => ct8_replay h') rfl rfl rfl rfl (by decide) (Nat.le_refl 0) (Nat.le_refl 0) (fun s24 h => ?_)
      refine r_aload_n 39 dX8_never_38 rfl rfl ?_
      refine r_aload_n 40 dX8_never_39 rfl rfl ?_
      refine r_getF (x := fe8_46) 9 (6, 1) 43 fl8_46 (by decide) dX8_never_40 rfl rfl rfl rfl ?_
      refine c_I [vq (some (8, 0)), vq (some (6, 1))] [] 46 cs8_never_43 rfl h (fun _ h' => ct8_readingsAreSo h') rfl rfl rfl rfl (by decide) (Nat.le_refl 0) (Nat.le_refl 0) (fun v25 s26 h => ?_)
      refine r_if_eq 55 49 dX8_never_46 (by decide) rfl (fun hc => ?_) (fun hc => ?_)
      · replace h := Out_pos hc h
        refine r_iinc 1 [some (vq (some (8, 0))), some (vi a1), some (vi (a2 + 1))] 58 dX8_never_55 rfl (by decide) rfl rfl rfl ?_
        refine r_goto 17 dX8_never_58 (by decide) ?_
        exact ih a1 (a2 + 1) s26 h
      · replace h := Out_neg hc h
        refine r_iload_n 50 dX8_never_49 rfl rfl ?_
        refine r_iconst 1 51 dX8_never_50 rfl (by decide) ?_
        refine r_iload_n 52 dX8_never_51 rfl rfl ?_
        refine r_ishl 53 dX8_never_52 rfl ?_
        refine r_ior 54 dX8_never_53 rfl ?_
        refine r_istore_n [some (vq (some (8, 0))), some (vi (a1 ||| (1 <<< (a2 &&& 31)))), some (vi a2)] 55 dX8_never_54 rfl rfl rfl ?_
        refine r_iinc 1 [some (vq (some (8, 0))), some (vi (a1 ||| (1 <<< (a2 &&& 31)))), some (vi (a2 + 1))] 58 dX8_never_55 rfl (by decide) rfl rfl rfl ?_
        refine r_goto 17 dX8_never_58 (by decide) ?_
        exact ih (a1 ||| (1 <<< (a2 &&& 31))) (a2 + 1) s26 h
set_option maxRecDepth 20000 in
set_option maxHeartbeats 4000000 in
theorem ct8_never {Γ : GG} {K : Int32 × Sto → Prop}  {σ : Sto} (h : Out (f8_never  σ) K) : Ct true Γ mX8_never 5 0 0 [vq (some (8, 0))] σ (QI K) := by
  refine Ct_intro (by decide +kernel) rfl ?_
  show M true Γ mX8_never 5 0 0 0 0 (QI K) 0 [some (vq (some (8, 0))), none, none] [] σ
  unfold f8_never at h
  refine r_aload_n 1 dX8_never_0 rfl rfl ?_
  refine r_getR (x := fe8_56) 0 4 fl8_56 (by decide) dX8_never_1 rfl rfl rfl (Or.inr rfl) ?_
  obtain ⟨i21, e0, h⟩ := Out_dr h
  rw [e0]
  refine c_I [vq (some (2, i21))] [] 7 cs8_never_4 rfl h (fun _ h' => ct2_isLaid h') rfl rfl rfl rfl (by decide) (Nat.le_refl 0) (Nat.le_refl 0) (fun v22 s23 h => ?_)
  refine r_if_ne 13 10 dX8_never_7 (by decide) rfl (fun hc => ?_) (fun hc => ?_)
  · replace h := Out_neg hc h
    refine r_iconst 0 14 dX8_never_13 rfl (by decide) ?_
    refine r_istore_n [some (vq (some (8, 0))), some (vi 0), none] 15 dX8_never_14 rfl rfl rfl ?_
    refine r_iconst 0 16 dX8_never_15 rfl (by decide) ?_
    refine r_istore_n [some (vq (some (8, 0))), some (vi 0), some (vi 0)] 17 dX8_never_16 rfl rfl rfl ?_
    exact tl8_never_17 300 0 0 s23 h
  · replace h := Out_pos hc h
    refine r_bipush (-3) 12 dX8_never_10 rfl (by decide) ?_
    exact r_ireturn dX8_never_12 rfl (Nat.le_refl 0) (Nat.le_refl 0) h

set_option maxRecDepth 20000 in
set_option maxHeartbeats 4000000 in
theorem ct8_odds {Γ : GG} {K : Int64 × Sto → Prop} {a1 : Int32} {a2 : Int32} {a3 : Int32} {σ : Sto} (h : Out (f8_odds a1 a2 a3 σ) K) : Ct true Γ mX8_odds 4 0 0 [vq (some (8, 0)), vi a1, vi a2, vi a3] σ (QL K) := by
  refine Ct_intro (by decide +kernel) rfl ?_
  show M true Γ mX8_odds 4 0 0 0 0 (QL K) 0 [some (vq (some (8, 0))), some (vi a1), some (vi a2), some (vi a3), none] [] σ
  unfold f8_odds at h
  refine r_aload_n 1 dX8_odds_0 rfl rfl ?_
  refine r_getR (x := fe8_56) 0 4 fl8_56 (by decide) dX8_odds_1 rfl rfl rfl (Or.inr rfl) ?_
  refine r_iload_n 5 dX8_odds_4 rfl rfl ?_
  obtain ⟨i21, e0, h⟩ := Out_dr h
  rw [e0]
  refine c_R [vq (some (2, i21)), vi a1] [] 8 cs8_odds_5 rfl h (fun _ h' => ct2_eaterAt h') rfl rfl rfl rfl (by decide) (Nat.le_refl 0) (Nat.le_refl 0) (fun v22 s23 h => ?_)
  rcases Out_rcs h with ⟨e0, h⟩ | ⟨k24, i25, e0, h⟩
  · subst e0
    refine r_ifnull 22 11 dX8_odds_8 (by decide) rfl (fun _ => ?_) (fun hc => absurd rfl hc)
    refine r_ldc2 (-9223372036854775808) 25 dX8_odds_22 rfl w_6497ae33 ?_
    exact r_lreturn dX8_odds_25 rfl (Nat.le_refl 0) (Nat.le_refl 0) h
  · subst e0
    refine r_ifnull 22 11 dX8_odds_8 (by decide) rfl (fun hc => by cases hc) (fun _ => ?_)
    refine r_aload_n 12 dX8_odds_11 rfl rfl ?_
    refine r_getR (x := fe8_56) 0 15 fl8_56 (by decide) dX8_odds_12 rfl rfl rfl (Or.inr rfl) ?_
    refine r_iload_n 16 dX8_odds_15 rfl rfl ?_
    obtain ⟨i26, e0, h⟩ := Out_dr h
    rw [e0]
    refine c_I [vq (some (2, i26)), vi a2] [] 19 cs8_odds_16 rfl h (fun _ h' => ct2_hasPea h') rfl rfl rfl rfl (by decide) (Nat.le_refl 0) (Nat.le_refl 0) (fun v27 s28 h => ?_)
    refine r_if_ne 26 22 dX8_odds_19 (by decide) rfl (fun hc => ?_) (fun hc => ?_)
    · replace h := Out_neg hc h
      refine r_iload_n 27 dX8_odds_26 rfl rfl ?_
      refine r_iconst 2 28 dX8_odds_27 rfl (by decide) ?_
      refine c_I [vi a3, vi 2] [] 31 cs8_odds_28 rfl h (fun _ h' => ct8_isBelow h') rfl rfl rfl rfl (by decide) (Nat.le_refl 0) (Nat.le_refl 0) (fun v29 s30 h => ?_)
      refine r_if_eq 45 34 dX8_odds_31 (by decide) rfl (fun hc => ?_) (fun hc => ?_)
      · replace h := Out_pos hc h
        refine r_ldc2 (-9223372036854775808) 48 dX8_odds_45 rfl w_6497ae33 ?_
        exact r_lreturn dX8_odds_48 rfl (Nat.le_refl 0) (Nat.le_refl 0) h
      · replace h := Out_neg hc h
        refine r_aload_n 35 dX8_odds_34 rfl rfl ?_
        refine r_getF (x := fe8_42) 8 (6, 0) 38 fl8_42 (by decide) dX8_odds_35 rfl rfl rfl rfl ?_
        refine r_iload_n 39 dX8_odds_38 rfl rfl ?_
        refine c_I [vq (some (6, 0)), vi a2] [] 42 cs8_odds_39 rfl h (fun _ h' => ct6_isOn h') rfl rfl rfl rfl (by decide) (Nat.le_refl 0) (Nat.le_refl 0) (fun v31 s32 h => ?_)
        refine r_if_ne 49 45 dX8_odds_42 (by decide) rfl (fun hc => ?_) (fun hc => ?_)
        · replace h := Out_neg hc h
          refine r_aload_n 50 dX8_odds_49 rfl rfl ?_
          refine r_getF (x := fe8_42) 8 (6, 0) 53 fl8_42 (by decide) dX8_odds_50 rfl rfl rfl rfl ?_
          refine r_iload_n 54 dX8_odds_53 rfl rfl ?_
          refine c_I [vq (some (6, 0)), vi a2] [] 57 cs8_odds_54 rfl h (fun _ h' => ct6_countHolds h') rfl rfl rfl rfl (by decide) (Nat.le_refl 0) (Nat.le_refl 0) (fun v33 s34 h => ?_)
          refine r_istore [some (vq (some (8, 0))), some (vi a1), some (vi a2), some (vi a3), some (vi v33)] 59 dX8_odds_57 rfl rfl rfl ?_
          refine r_iload_n 60 dX8_odds_59 rfl rfl ?_
          refine r_if_ne 73 63 dX8_odds_60 (by decide) rfl (fun hc => ?_) (fun hc => ?_)
          · replace h := Out_neg hc h
            refine r_gets 45 "LOWER" 76 dX8_odds_73 rfl (by decide) w_5a97c0be ?_
            refine r_iload 78 dX8_odds_76 rfl rfl ?_
            obtain ⟨hc, h⟩ := Out_grd h
            refine r_iaload v33.toNatClampNeg 5 79 dX8_odds_78 rfl (by decide) rfl rfl hc rfl ?_
            refine r_i2l 80 dX8_odds_79 rfl ?_
            exact r_lreturn dX8_odds_80 rfl (Nat.le_refl 0) (Nat.le_refl 0) h
          · replace h := Out_pos hc h
            refine r_gets 44 "UPPER" 66 dX8_odds_63 rfl (by decide) w_805291ee ?_
            refine r_iload 68 dX8_odds_66 rfl rfl ?_
            obtain ⟨hc, h⟩ := Out_grd h
            refine r_iaload v33.toNatClampNeg 5 69 dX8_odds_68 rfl (by decide) rfl rfl hc rfl ?_
            refine r_i2l 70 dX8_odds_69 rfl ?_
            refine r_goto 80 dX8_odds_70 (by decide) ?_
            exact r_lreturn dX8_odds_80 rfl (Nat.le_refl 0) (Nat.le_refl 0) h
        · replace h := Out_pos hc h
          refine r_ldc2 (-9223372036854775808) 48 dX8_odds_45 rfl w_6497ae33 ?_
          exact r_lreturn dX8_odds_48 rfl (Nat.le_refl 0) (Nat.le_refl 0) h
    · replace h := Out_pos hc h
      refine r_ldc2 (-9223372036854775808) 25 dX8_odds_22 rfl w_6497ae33 ?_
      exact r_lreturn dX8_odds_25 rfl (Nat.le_refl 0) (Nat.le_refl 0) h

set_option maxRecDepth 20000 in
set_option maxHeartbeats 4000000 in
theorem ct8_ofEater {Γ : GG} {K : Int32 × Sto → Prop} {a1 : Int32} {a2 : Int32} {σ : Sto} (h : Out (f8_ofEater a1 a2 σ) K) : Ct true Γ mX8_ofEater 2 0 0 [vq (some (8, 0)), vi a1, vi a2] σ (QI K) := by
  refine Ct_intro (by decide +kernel) rfl ?_
  show M true Γ mX8_ofEater 2 0 0 0 0 (QI K) 0 [some (vq (some (8, 0))), some (vi a1), some (vi a2), none] [] σ
  unfold f8_ofEater at h
  refine r_aload_n 1 dX8_ofEater_0 rfl rfl ?_
  refine r_getR (x := fe8_56) 0 4 fl8_56 (by decide) dX8_ofEater_1 rfl rfl rfl (Or.inr rfl) ?_
  refine r_iload_n 5 dX8_ofEater_4 rfl rfl ?_
  obtain ⟨i21, e0, h⟩ := Out_dr h
  rw [e0]
  refine c_R [vq (some (2, i21)), vi a1] [] 8 cs8_ofEater_5 rfl h (fun _ h' => ct2_eaterAt h') rfl rfl rfl rfl (by decide) (Nat.le_refl 0) (Nat.le_refl 0) (fun v22 s23 h => ?_)
  refine r_astore_n [some (vq (some (8, 0))), some (vi a1), some (vi a2), some (vq v22)] 9 dX8_ofEater_8 rfl rfl rfl ?_
  refine r_aload_n 10 dX8_ofEater_9 rfl rfl ?_
  rcases Out_rcs h with ⟨e0, h⟩ | ⟨k24, i25, e0, h⟩
  · subst e0
    refine r_ifnonnull 15 13 dX8_ofEater_10 (by decide) rfl (fun hc => absurd rfl hc) (fun _ => ?_)
    refine r_iconst (-1) 14 dX8_ofEater_13 rfl (by decide) ?_
    exact r_ireturn dX8_ofEater_14 rfl (Nat.le_refl 0) (Nat.le_refl 0) h
  · subst e0
    refine r_ifnonnull 15 13 dX8_ofEater_10 (by decide) rfl (fun _ => ?_) (fun hc => by cases hc)
    refine r_iload_n 16 dX8_ofEater_15 rfl rfl ?_
    by_cases hs0 : a2 = 0
    · replace h := Out_pos hs0 h
      refine M_tableIn dX8_ofEater_16 (off := 28) (t := 44) (by rw [hs0]; decide) (by rw [hs0]; decide) (by rw [hs0]; decide) (by decide) ?_
      refine r_aload_n 45 dX8_ofEater_44 rfl rfl ?_
      rcases Out_fk h with ⟨ek, h1⟩ | ⟨ek, h1⟩ | ⟨ek, h1⟩
      · subst ek
        replace h := h1
        refine c_I [vq (some (0, i25))] [] 48 cs8_ofEater_45_0 rfl h (fun _ h' => ct0_kindNumber_0 h') rfl rfl rfl rfl (by decide) (Nat.le_refl 0) (Nat.le_refl 0) (fun v26 s27 h => ?_)
        exact r_ireturn dX8_ofEater_48 rfl (Nat.le_refl 0) (Nat.le_refl 0) h
      · subst ek
        replace h := h1
        refine c_I [vq (some (1, i25))] [] 48 cs8_ofEater_45_1 rfl h (fun _ h' => ct1_kindNumber_1 h') rfl rfl rfl rfl (by decide) (Nat.le_refl 0) (Nat.le_refl 0) (fun v28 s29 h => ?_)
        exact r_ireturn dX8_ofEater_48 rfl (Nat.le_refl 0) (Nat.le_refl 0) h
      · subst ek
        replace h := h1
        refine c_I [vq (some (5, i25))] [] 48 cs8_ofEater_45_5 rfl h (fun _ h' => ct5_kindNumber_5 h') rfl rfl rfl rfl (by decide) (Nat.le_refl 0) (Nat.le_refl 0) (fun v30 s31 h => ?_)
        exact r_ireturn dX8_ofEater_48 rfl (Nat.le_refl 0) (Nat.le_refl 0) h
    replace h := Out_neg hs0 h
    by_cases hs1 : a2 = 1
    · replace h := Out_pos hs1 h
      refine M_tableIn dX8_ofEater_16 (off := 33) (t := 49) (by rw [hs1]; decide) (by rw [hs1]; decide) (by rw [hs1]; decide) (by decide) ?_
      refine r_aload_n 50 dX8_ofEater_49 rfl rfl ?_
      obtain ⟨hk24, h⟩ := Out_grd h
      refine r_getI (x := fe8_121) 1 53 fl8_121 (by rcases hk24 with rfl | rfl | rfl <;> decide) dX8_ofEater_50 rfl rfl (by rcases hk24 with rfl | rfl | rfl <;> rfl) ?_
      exact r_ireturn dX8_ofEater_53 rfl (Nat.le_refl 0) (Nat.le_refl 0) h
    replace h := Out_neg hs1 h
    by_cases hs2 : a2 = 2
    · replace h := Out_pos hs2 h
      refine M_tableIn dX8_ofEater_16 (off := 38) (t := 54) (by rw [hs2]; decide) (by rw [hs2]; decide) (by rw [hs2]; decide) (by decide) ?_
      refine r_aload_n 55 dX8_ofEater_54 rfl rfl ?_
      rcases Out_fk h with ⟨ek, h1⟩ | ⟨ek, h1⟩ | ⟨ek, h1⟩
      · subst ek
        replace h := h1
        refine c_I [vq (some (0, i25))] [] 58 cs8_ofEater_55_0 rfl h (fun _ h' => ct0_pushForce_0 h') rfl rfl rfl rfl (by decide) (Nat.le_refl 0) (Nat.le_refl 0) (fun v32 s33 h => ?_)
        exact r_ireturn dX8_ofEater_58 rfl (Nat.le_refl 0) (Nat.le_refl 0) h
      · subst ek
        replace h := h1
        refine c_I [vq (some (1, i25))] [] 58 cs8_ofEater_55_1 rfl h (fun _ h' => ct1_pushForce_1 h') rfl rfl rfl rfl (by decide) (Nat.le_refl 0) (Nat.le_refl 0) (fun v34 s35 h => ?_)
        exact r_ireturn dX8_ofEater_58 rfl (Nat.le_refl 0) (Nat.le_refl 0) h
      · subst ek
        replace h := h1
        refine c_I [vq (some (5, i25))] [] 58 cs8_ofEater_55_5 rfl h (fun _ h' => ct5_pushForce_5 h') rfl rfl rfl rfl (by decide) (Nat.le_refl 0) (Nat.le_refl 0) (fun v36 s37 h => ?_)
        exact r_ireturn dX8_ofEater_58 rfl (Nat.le_refl 0) (Nat.le_refl 0) h
    replace h := Out_neg hs2 h
    refine M_tableOut dX8_ofEater_16 (t := 59) (by have q0 := lv_neT hs0 (a := 0) (by decide); have q1 := lv_neT hs1 (a := 1) (by decide); have q2 := lv_neT hs2 (a := 2) (by decide); omega) (by decide) ?_
    refine r_bipush (-2) 61 dX8_ofEater_59 rfl (by decide) ?_
    exact r_ireturn dX8_ofEater_61 rfl (Nat.le_refl 0) (Nat.le_refl 0) h

set_option maxRecDepth 20000 in
set_option maxHeartbeats 4000000 in
theorem ct8_peas {Γ : GG} {K : Int32 × Sto → Prop} {a1 : Int32} {σ : Sto} (h : Out (f8_peas a1 σ) K) : Ct true Γ mX8_peas 4 0 0 [vq (some (8, 0)), vi a1] σ (QI K) := by
  refine Ct_intro (by decide +kernel) rfl ?_
  show M true Γ mX8_peas 4 0 0 0 0 (QI K) 0 [some (vq (some (8, 0))), some (vi a1)] [] σ
  unfold f8_peas at h
  refine r_iload_n 1 dX8_peas_0 rfl rfl ?_
  refine r_bipush 6 3 dX8_peas_1 rfl (by decide) ?_
  refine c_I [vi a1, vi 6] [] 6 cs8_peas_3 rfl h (fun _ h' => ct8_isBelow h') rfl rfl rfl rfl (by decide) (Nat.le_refl 0) (Nat.le_refl 0) (fun v21 s22 h => ?_)
  refine r_if_ne 12 9 dX8_peas_6 (by decide) rfl (fun hc => ?_) (fun hc => ?_)
  · replace h := Out_neg hc h
    refine r_aload_n 13 dX8_peas_12 rfl rfl ?_
    refine r_getR (x := fe8_56) 0 16 fl8_56 (by decide) dX8_peas_13 rfl rfl rfl (Or.inr rfl) ?_
    obtain ⟨i23, e0, h⟩ := Out_dr h
    rw [e0]
    refine c_I [vq (some (2, i23))] [] 19 cs8_peas_16 rfl h (fun _ h' => ct2_isLaid h') rfl rfl rfl rfl (by decide) (Nat.le_refl 0) (Nat.le_refl 0) (fun v24 s25 h => ?_)
    refine r_if_ne 25 22 dX8_peas_19 (by decide) rfl (fun hc => ?_) (fun hc => ?_)
    · replace h := Out_neg hc h
      refine r_iload_n 26 dX8_peas_25 rfl rfl ?_
      refine r_if_ne 37 29 dX8_peas_26 (by decide) rfl (fun hc => ?_) (fun hc => ?_)
      · replace h := Out_neg hc h
        refine r_iload_n 38 dX8_peas_37 rfl rfl ?_
        refine r_iconst 1 39 dX8_peas_38 rfl (by decide) ?_
        refine r_icmp_ne 52 42 dX8_peas_39 (by decide) rfl (fun hc => ?_) (fun hc => ?_)
        · replace h := Out_neg hc h
          refine r_aload_n 53 dX8_peas_52 rfl rfl ?_
          refine r_getF (x := fe8_42) 8 (6, 0) 56 fl8_42 (by decide) dX8_peas_53 rfl rfl rfl rfl ?_
          refine r_iload_n 57 dX8_peas_56 rfl rfl ?_
          refine r_iconst 2 58 dX8_peas_57 rfl (by decide) ?_
          refine r_isub 59 dX8_peas_58 rfl ?_
          refine c_I [vq (some (6, 0)), vi (a1 - 2)] [] 62 cs8_peas_59 rfl h (fun _ h' => ct6_heldSet h') rfl rfl rfl rfl (by decide) (Nat.le_refl 0) (Nat.le_refl 0) (fun v26 s27 h => ?_)
          exact r_ireturn dX8_peas_62 rfl (Nat.le_refl 0) (Nat.le_refl 0) h
        · replace h := Out_pos hc h
          refine r_aload_n 43 dX8_peas_42 rfl rfl ?_
          refine r_getF (x := fe8_42) 8 (6, 0) 46 fl8_42 (by decide) dX8_peas_43 rfl rfl rfl rfl ?_
          refine r_getI (x := fe8_156) 2 49 fl8_156 (by decide) dX8_peas_46 rfl rfl rfl ?_
          refine r_goto 62 dX8_peas_49 (by decide) ?_
          exact r_ireturn dX8_peas_62 rfl (Nat.le_refl 0) (Nat.le_refl 0) h
      · replace h := Out_pos hc h
        refine r_aload_n 30 dX8_peas_29 rfl rfl ?_
        refine r_getF (x := fe8_42) 8 (6, 0) 33 fl8_42 (by decide) dX8_peas_30 rfl rfl rfl rfl ?_
        refine r_getI (x := fe8_153) 1 36 fl8_153 (by decide) dX8_peas_33 rfl rfl rfl ?_
        exact r_ireturn dX8_peas_36 rfl (Nat.le_refl 0) (Nat.le_refl 0) h
    · replace h := Out_pos hc h
      refine r_bipush (-3) 24 dX8_peas_22 rfl (by decide) ?_
      exact r_ireturn dX8_peas_24 rfl (Nat.le_refl 0) (Nat.le_refl 0) h
  · replace h := Out_pos hc h
    refine r_bipush (-2) 11 dX8_peas_9 rfl (by decide) ?_
    exact r_ireturn dX8_peas_11 rfl (Nat.le_refl 0) (Nat.le_refl 0) h

set_option maxRecDepth 20000 in
set_option maxHeartbeats 4000000 in
theorem ct8_polish {Γ : GG} {K : Int32 × Sto → Prop} {a1 : Int32} {σ : Sto} (h : Out (f8_polish a1 σ) K) : Ct true Γ mX8_polish 2 0 0 [vq (some (8, 0)), vi a1] σ (QI K) := by
  refine Ct_intro (by decide +kernel) rfl ?_
  show M true Γ mX8_polish 2 0 0 0 0 (QI K) 0 [some (vq (some (8, 0))), some (vi a1), none] [] σ
  unfold f8_polish at h
  refine r_aload_n 1 dX8_polish_0 rfl rfl ?_
  refine r_getR (x := fe8_56) 0 4 fl8_56 (by decide) dX8_polish_1 rfl rfl rfl (Or.inr rfl) ?_
  refine r_iload_n 5 dX8_polish_4 rfl rfl ?_
  obtain ⟨i21, e0, h⟩ := Out_dr h
  rw [e0]
  refine c_R [vq (some (2, i21)), vi a1] [] 8 cs8_polish_5 rfl h (fun _ h' => ct2_eaterAt h') rfl rfl rfl rfl (by decide) (Nat.le_refl 0) (Nat.le_refl 0) (fun v22 s23 h => ?_)
  refine r_astore_n [some (vq (some (8, 0))), some (vi a1), some (vq v22)] 9 dX8_polish_8 rfl rfl rfl ?_
  refine r_aload_n 10 dX8_polish_9 rfl rfl ?_
  rcases Out_rcs h with ⟨e0, h⟩ | ⟨k24, i25, e0, h⟩
  · subst e0
    refine r_ifnonnull 17 13 dX8_polish_10 (by decide) rfl (fun hc => absurd rfl hc) (fun _ => ?_)
    refine r_iconst (-1) 14 dX8_polish_13 rfl (by decide) ?_
    refine r_goto 25 dX8_polish_14 (by decide) ?_
    exact r_ireturn dX8_polish_25 rfl (Nat.le_refl 0) (Nat.le_refl 0) h
  · subst e0
    refine r_ifnonnull 17 13 dX8_polish_10 (by decide) rfl (fun _ => ?_) (fun hc => by cases hc)
    refine r_aload_n 18 dX8_polish_17 rfl rfl ?_
    refine r_aload_n 19 dX8_polish_18 rfl rfl ?_
    refine r_getF (x := fe8_30) 12 (7, 0) 22 fl8_30 (by decide) dX8_polish_19 rfl rfl rfl rfl ?_
    rcases Out_fk h with ⟨ek, h1⟩ | ⟨ek, h1⟩ | ⟨ek, h1⟩
    · subst ek
      replace h := h1
      refine c_I [vq (some (0, i25)), vq (some (7, 0))] [] 25 cs8_polish_22_0 rfl h (fun _ h' => ct0_polished_0 h') rfl rfl rfl rfl (by decide) (Nat.le_refl 0) (Nat.le_refl 0) (fun v26 s27 h => ?_)
      exact r_ireturn dX8_polish_25 rfl (Nat.le_refl 0) (Nat.le_refl 0) h
    · subst ek
      replace h := h1
      refine c_I [vq (some (1, i25)), vq (some (7, 0))] [] 25 cs8_polish_22_1 rfl h (fun _ h' => ct0_polished_1 h') rfl rfl rfl rfl (by decide) (Nat.le_refl 0) (Nat.le_refl 0) (fun v28 s29 h => ?_)
      exact r_ireturn dX8_polish_25 rfl (Nat.le_refl 0) (Nat.le_refl 0) h
    · subst ek
      replace h := h1
      refine c_I [vq (some (5, i25)), vq (some (7, 0))] [] 25 cs8_polish_22_5 rfl h (fun _ h' => ct5_polished_5 h') rfl rfl rfl rfl (by decide) (Nat.le_refl 0) (Nat.le_refl 0) (fun v30 s31 h => ?_)
      exact r_ireturn dX8_polish_25 rfl (Nat.le_refl 0) (Nat.le_refl 0) h

set_option maxRecDepth 20000 in
set_option maxHeartbeats 4000000 in
theorem ct8_refusalOfPush {Γ : GG} {K : Int32 × Sto → Prop} {a1 : Int32} {a2 : Int32} {a3 : Int32} {σ : Sto} (h : Out (f8_refusalOfPush a1 a2 a3 σ) K) : Ct true Γ mX8_refusalOfPush 2 0 0 [vq (some (8, 0)), vi a1, vi a2, vi a3] σ (QI K) := by
  refine Ct_intro (by decide +kernel) rfl ?_
  show M true Γ mX8_refusalOfPush 2 0 0 0 0 (QI K) 0 [some (vq (some (8, 0))), some (vi a1), some (vi a2), some (vi a3)] [] σ
  unfold f8_refusalOfPush at h
  refine r_aload_n 1 dX8_refusalOfPush_0 rfl rfl ?_
  refine r_getR (x := fe8_56) 0 4 fl8_56 (by decide) dX8_refusalOfPush_1 rfl rfl rfl (Or.inr rfl) ?_
  refine r_iload_n 5 dX8_refusalOfPush_4 rfl rfl ?_
  obtain ⟨i21, e0, h⟩ := Out_dr h
  rw [e0]
  refine c_R [vq (some (2, i21)), vi a1] [] 8 cs8_refusalOfPush_5 rfl h (fun _ h' => ct2_eaterAt h') rfl rfl rfl rfl (by decide) (Nat.le_refl 0) (Nat.le_refl 0) (fun v22 s23 h => ?_)
  rcases Out_rcs h with ⟨e0, h⟩ | ⟨k24, i25, e0, h⟩
  · subst e0
    refine r_ifnull 22 11 dX8_refusalOfPush_8 (by decide) rfl (fun _ => ?_) (fun hc => absurd rfl hc)
    refine r_iconst (-1) 23 dX8_refusalOfPush_22 rfl (by decide) ?_
    exact r_ireturn dX8_refusalOfPush_23 rfl (Nat.le_refl 0) (Nat.le_refl 0) h
  · subst e0
    refine r_ifnull 22 11 dX8_refusalOfPush_8 (by decide) rfl (fun hc => by cases hc) (fun _ => ?_)
    refine r_aload_n 12 dX8_refusalOfPush_11 rfl rfl ?_
    refine r_getR (x := fe8_56) 0 15 fl8_56 (by decide) dX8_refusalOfPush_12 rfl rfl rfl (Or.inr rfl) ?_
    refine r_iload_n 16 dX8_refusalOfPush_15 rfl rfl ?_
    obtain ⟨i26, e0, h⟩ := Out_dr h
    rw [e0]
    refine c_I [vq (some (2, i26)), vi a2] [] 19 cs8_refusalOfPush_16 rfl h (fun _ h' => ct2_hasPea h') rfl rfl rfl rfl (by decide) (Nat.le_refl 0) (Nat.le_refl 0) (fun v27 s28 h => ?_)
    refine r_if_ne 24 22 dX8_refusalOfPush_19 (by decide) rfl (fun hc => ?_) (fun hc => ?_)
    · replace h := Out_neg hc h
      refine r_iload_n 25 dX8_refusalOfPush_24 rfl rfl ?_
      refine r_iconst 4 26 dX8_refusalOfPush_25 rfl (by decide) ?_
      refine c_I [vi a3, vi 4] [] 29 cs8_refusalOfPush_26 rfl h (fun _ h' => ct8_isBelow h') rfl rfl rfl rfl (by decide) (Nat.le_refl 0) (Nat.le_refl 0) (fun v29 s30 h => ?_)
      refine r_if_eq 36 32 dX8_refusalOfPush_29 (by decide) rfl (fun hc => ?_) (fun hc => ?_)
      · replace h := Out_pos hc h
        refine r_bipush (-2) 38 dX8_refusalOfPush_36 rfl (by decide) ?_
        exact r_ireturn dX8_refusalOfPush_38 rfl (Nat.le_refl 0) (Nat.le_refl 0) h
      · replace h := Out_neg hc h
        refine r_iconst 0 33 dX8_refusalOfPush_32 rfl (by decide) ?_
        refine r_goto 38 dX8_refusalOfPush_33 (by decide) ?_
        exact r_ireturn dX8_refusalOfPush_38 rfl (Nat.le_refl 0) (Nat.le_refl 0) h
    · replace h := Out_pos hc h
      refine r_iconst (-1) 23 dX8_refusalOfPush_22 rfl (by decide) ?_
      exact r_ireturn dX8_refusalOfPush_23 rfl (Nat.le_refl 0) (Nat.le_refl 0) h

set_option maxRecDepth 20000 in
set_option maxHeartbeats 4000000 in
theorem ct8_push {Γ : GG} {K : Int32 × Sto → Prop} {a1 : Int32} {a2 : Int32} {a3 : Int32} {σ : Sto} (h : Out (f8_push a1 a2 a3 σ) K) : Ct true Γ mX8_push 4 0 0 [vq (some (8, 0)), vi a1, vi a2, vi a3] σ (QI K) := by
  refine Ct_intro (by decide +kernel) rfl ?_
  show M true Γ mX8_push 4 0 0 0 0 (QI K) 0 [some (vq (some (8, 0))), some (vi a1), some (vi a2), some (vi a3), none, none] [] σ
  unfold f8_push at h
  refine r_aload_n 1 dX8_push_0 rfl rfl ?_
  refine r_iload_n 2 dX8_push_1 rfl rfl ?_
  refine r_iload_n 3 dX8_push_2 rfl rfl ?_
  refine r_iload_n 4 dX8_push_3 rfl rfl ?_
  refine c_I [vq (some (8, 0)), vi a1, vi a2, vi a3] [] 7 cs8_push_4 rfl h (fun _ h' => ct8_refusalOfPush h') rfl rfl rfl rfl (by decide) (Nat.le_refl 0) (Nat.le_refl 0) (fun v21 s22 h => ?_)
  refine r_istore [some (vq (some (8, 0))), some (vi a1), some (vi a2), some (vi a3), some (vi v21), none] 9 dX8_push_7 rfl rfl rfl ?_
  refine r_iload 11 dX8_push_9 rfl rfl ?_
  refine r_if_eq 17 14 dX8_push_11 (by decide) rfl (fun hc => ?_) (fun hc => ?_)
  · replace h := Out_pos hc h
    refine r_aload_n 18 dX8_push_17 rfl rfl ?_
    refine r_getI (x := fe8_137) 4 21 fl8_137 (by decide) dX8_push_18 rfl rfl rfl ?_
    refine r_bipush 30 23 dX8_push_21 rfl (by decide) ?_
    refine r_icmp_lt 29 26 dX8_push_23 (by decide) rfl (fun hc => ?_) (fun hc => ?_)
    · replace h := Out_pos hc h
      refine r_iload_n 30 dX8_push_29 rfl rfl ?_
      refine r_iload_n 31 dX8_push_30 rfl rfl ?_
      refine r_iload_n 32 dX8_push_31 rfl rfl ?_
      refine c_I [vi a1, vi a2, vi a3] [] 35 cs8_push_32 rfl h (fun _ h' => ct8_codeOf h') rfl rfl rfl rfl (by decide) (Nat.le_refl 0) (Nat.le_refl 0) (fun v23 s24 h => ?_)
      refine r_istore [some (vq (some (8, 0))), some (vi a1), some (vi a2), some (vi a3), some (vi v21), some (vi v23)] 37 dX8_push_35 rfl rfl rfl ?_
      refine r_aload_n 38 dX8_push_37 rfl rfl ?_
      refine r_getF (x := fe8_11) 3 (20, 0) 41 fl8_11 (by decide) dX8_push_38 rfl rfl rfl rfl ?_
      refine r_aload_n 42 dX8_push_41 rfl rfl ?_
      refine r_getI (x := fe8_137) 4 45 fl8_137 (by decide) dX8_push_42 rfl rfl rfl ?_
      refine r_iload 47 dX8_push_45 rfl rfl ?_
      obtain ⟨hc, h⟩ := Out_grd h
      refine r_iastore (gI s24 8 0 4).toNatClampNeg 30 48 dX8_push_47 rfl (by decide) (by decide) rfl rfl hc rfl ?_
      refine r_aload_n 49 dX8_push_48 rfl rfl ?_
      refine r_dup 50 dX8_push_49 rfl rfl ?_
      refine r_getI (x := fe8_137) 4 53 fl8_137 (by decide) dX8_push_50 rfl rfl rfl ?_
      refine r_iconst 1 54 dX8_push_53 rfl (by decide) ?_
      refine r_iadd 55 dX8_push_54 rfl ?_
      refine r_putI (x := fe8_137) 4 58 fl8_137 (by decide) dX8_push_55 rfl (Or.inl rfl) rfl rfl ?_
      refine r_aload_n 59 dX8_push_58 rfl rfl ?_
      refine r_getF (x := fe8_42) 8 (6, 0) 62 fl8_42 (by decide) dX8_push_59 rfl rfl rfl rfl ?_
      refine r_iload 64 dX8_push_62 rfl rfl ?_
      refine c_V [vq (some (6, 0)), vi v23] [] 67 cs8_push_64 rfl h (fun _ h' => ct6_pushByCode h') rfl rfl rfl rfl (by decide) (Nat.le_refl 0) (Nat.le_refl 0) (fun s25 h => ?_)
      refine r_aload_n 68 dX8_push_67 rfl rfl ?_
      refine r_getI (x := fe8_137) 4 71 fl8_137 (by decide) dX8_push_68 rfl rfl rfl ?_
      refine r_iconst 1 72 dX8_push_71 rfl (by decide) ?_
      refine r_isub 73 dX8_push_72 rfl ?_
      exact r_ireturn dX8_push_73 rfl (Nat.le_refl 0) (Nat.le_refl 0) h
    · replace h := Out_neg hc h
      refine r_bipush (-4) 28 dX8_push_26 rfl (by decide) ?_
      exact r_ireturn dX8_push_28 rfl (Nat.le_refl 0) (Nat.le_refl 0) h
  · replace h := Out_neg hc h
    refine r_iload 16 dX8_push_14 rfl rfl ?_
    exact r_ireturn dX8_push_16 rfl (Nat.le_refl 0) (Nat.le_refl 0) h

set_option maxRecDepth 20000 in
set_option maxHeartbeats 4000000 in
theorem ct8_put {Γ : GG} {K : Int32 × Sto → Prop} {a1 : Int32} {a2 : Int32} {a3 : Int32} {σ : Sto} (h : Out (f8_put a1 a2 a3 σ) K) : Ct true Γ mX8_put 3 0 0 [vq (some (8, 0)), vi a1, vi a2, vi a3] σ (QI K) := by
  refine Ct_intro (by decide +kernel) rfl ?_
  show M true Γ mX8_put 3 0 0 0 0 (QI K) 0 [some (vq (some (8, 0))), some (vi a1), some (vi a2), some (vi a3), none] [] σ
  unfold f8_put at h
  refine r_aload_n 1 dX8_put_0 rfl rfl ?_
  refine r_iconst 0 2 dX8_put_1 rfl (by decide) ?_
  refine r_putI (x := fe8_64) 13 5 fl8_64 (by decide) dX8_put_2 rfl (Or.inl rfl) rfl rfl ?_
  refine r_aload_n 6 dX8_put_5 rfl rfl ?_
  refine r_iload_n 7 dX8_put_6 rfl rfl ?_
  refine c_R [vq (some (8, 0)), vi a1] [] 10 cs8_put_7 rfl h (fun _ h' => ct8_sheetAt h') rfl rfl rfl rfl (by decide) (Nat.le_refl 0) (Nat.le_refl 0) (fun v21 s22 h => ?_)
  refine r_astore [some (vq (some (8, 0))), some (vi a1), some (vi a2), some (vi a3), some (vq v21)] 12 dX8_put_10 rfl rfl rfl ?_
  refine r_aload 14 dX8_put_12 rfl rfl ?_
  rcases Out_rcs h with ⟨e0, h⟩ | ⟨k23, i24, e0, h⟩
  · subst e0
    refine r_ifnonnull 19 17 dX8_put_14 (by decide) rfl (fun hc => absurd rfl hc) (fun _ => ?_)
    refine r_iconst (-1) 18 dX8_put_17 rfl (by decide) ?_
    exact r_ireturn dX8_put_18 rfl (Nat.le_refl 0) (Nat.le_refl 0) h
  · subst e0
    obtain ⟨ek, h1⟩ := Out_grd h
    subst ek
    replace h := h1
    refine r_ifnonnull 19 17 dX8_put_14 (by decide) rfl (fun _ => ?_) (fun hc => by cases hc)
    refine r_aload 21 dX8_put_19 rfl rfl ?_
    refine c_I [vq (some (4, i24))] [] 24 cs8_put_21 rfl h (fun _ h' => ct4_isNothing h') rfl rfl rfl rfl (by decide) (Nat.le_refl 0) (Nat.le_refl 0) (fun v25 s26 h => ?_)
    refine r_if_eq 33 27 dX8_put_24 (by decide) rfl (fun hc => ?_) (fun hc => ?_)
    · replace h := Out_pos hc h
      refine r_aload 35 dX8_put_33 rfl rfl ?_
      refine r_iload_n 36 dX8_put_35 rfl rfl ?_
      refine c_I [vq (some (4, i24)), vi a2] [] 39 cs8_put_36 rfl h (fun _ h' => ct4_hasCell h') rfl rfl rfl rfl (by decide) (Nat.le_refl 0) (Nat.le_refl 0) (fun v27 s28 h => ?_)
      refine r_if_ne 48 42 dX8_put_39 (by decide) rfl (fun hc => ?_) (fun hc => ?_)
      · replace h := Out_neg hc h
        refine r_aload 50 dX8_put_48 rfl rfl ?_
        refine r_iload_n 51 dX8_put_50 rfl rfl ?_
        refine r_iload_n 52 dX8_put_51 rfl rfl ?_
        refine c_V [vq (some (4, i24)), vi a2, vi a3] [] 55 cs8_put_52 rfl h (fun _ h' => ct4_write h') rfl rfl rfl rfl (by decide) (Nat.le_refl 0) (Nat.le_refl 0) (fun s29 h => ?_)
        refine r_iconst 1 56 dX8_put_55 rfl (by decide) ?_
        exact r_ireturn dX8_put_56 rfl (Nat.le_refl 0) (Nat.le_refl 0) h
      · replace h := Out_pos hc h
        refine r_aload_n 43 dX8_put_42 rfl rfl ?_
        refine r_iconst 3 44 dX8_put_43 rfl (by decide) ?_
        refine c_I [vq (some (8, 0)), vi 3] [] 47 cs8_put_44 rfl h (fun _ h' => ct8_failed h') rfl rfl rfl rfl (by decide) (Nat.le_refl 0) (Nat.le_refl 0) (fun v30 s31 h => ?_)
        exact r_ireturn dX8_put_47 rfl (Nat.le_refl 0) (Nat.le_refl 0) h
    · replace h := Out_neg hc h
      refine r_aload_n 28 dX8_put_27 rfl rfl ?_
      refine r_iconst 1 29 dX8_put_28 rfl (by decide) ?_
      refine c_I [vq (some (8, 0)), vi 1] [] 32 cs8_put_29 rfl h (fun _ h' => ct8_failed h') rfl rfl rfl rfl (by decide) (Nat.le_refl 0) (Nat.le_refl 0) (fun v32 s33 h => ?_)
      exact r_ireturn dX8_put_32 rfl (Nat.le_refl 0) (Nat.le_refl 0) h

set_option maxRecDepth 20000 in
set_option maxHeartbeats 4000000 in
theorem ct8_reading {Γ : GG} {K : Int32 × Sto → Prop} {a1 : Int32} {a2 : Int32} {σ : Sto} (h : Out (f8_reading a1 a2 σ) K) : Ct true Γ mX8_reading 2 0 0 [vq (some (8, 0)), vi a1, vi a2] σ (QI K) := by
  refine Ct_intro (by decide +kernel) rfl ?_
  show M true Γ mX8_reading 2 0 0 0 0 (QI K) 0 [some (vq (some (8, 0))), some (vi a1), some (vi a2)] [] σ
  unfold f8_reading at h
  refine r_aload_n 1 dX8_reading_0 rfl rfl ?_
  refine r_getR (x := fe8_56) 0 4 fl8_56 (by decide) dX8_reading_1 rfl rfl rfl (Or.inr rfl) ?_
  refine r_iload_n 5 dX8_reading_4 rfl rfl ?_
  obtain ⟨i21, e0, h⟩ := Out_dr h
  rw [e0]
  refine c_I [vq (some (2, i21)), vi a1] [] 8 cs8_reading_5 rfl h (fun _ h' => ct2_hasPea h') rfl rfl rfl rfl (by decide) (Nat.le_refl 0) (Nat.le_refl 0) (fun v22 s23 h => ?_)
  refine r_if_ne 13 11 dX8_reading_8 (by decide) rfl (fun hc => ?_) (fun hc => ?_)
  · replace h := Out_neg hc h
    refine r_iload_n 14 dX8_reading_13 rfl rfl ?_
    refine r_bipush (-9) 16 dX8_reading_14 rfl (by decide) ?_
    refine r_icmp_eq 32 19 dX8_reading_16 (by decide) rfl (fun hc => ?_) (fun hc => ?_)
    · replace h := Out_pos hc h
      refine r_aload_n 33 dX8_reading_32 rfl rfl ?_
      refine r_getI (x := fe8_213) 7 36 fl8_213 (by decide) dX8_reading_33 rfl rfl rfl ?_
      refine r_bipush 8 38 dX8_reading_36 rfl (by decide) ?_
      refine r_icmp_lt 44 41 dX8_reading_38 (by decide) rfl (fun hc => ?_) (fun hc => ?_)
      · replace h := Out_pos hc h
        refine r_aload_n 45 dX8_reading_44 rfl rfl ?_
        refine r_getF (x := fe8_15) 5 (21, 0) 48 fl8_15 (by decide) dX8_reading_45 rfl rfl rfl rfl ?_
        refine r_aload_n 49 dX8_reading_48 rfl rfl ?_
        refine r_getI (x := fe8_213) 7 52 fl8_213 (by decide) dX8_reading_49 rfl rfl rfl ?_
        refine r_iload_n 53 dX8_reading_52 rfl rfl ?_
        obtain ⟨hc, h⟩ := Out_grd h
        refine r_iastore (gI s23 8 0 7).toNatClampNeg 8 54 dX8_reading_53 rfl (by decide) (by decide) rfl rfl hc rfl ?_
        refine r_aload_n 55 dX8_reading_54 rfl rfl ?_
        refine r_getF (x := fe8_18) 6 (22, 0) 58 fl8_18 (by decide) dX8_reading_55 rfl rfl rfl rfl ?_
        refine r_aload_n 59 dX8_reading_58 rfl rfl ?_
        refine r_getI (x := fe8_213) 7 62 fl8_213 (by decide) dX8_reading_59 rfl rfl rfl ?_
        refine r_iload_n 63 dX8_reading_62 rfl rfl ?_
        obtain ⟨hc, h⟩ := Out_grd h
        refine r_iastore (gI (sI s23 21 0 (gI s23 8 0 7).toNatClampNeg a1) 8 0 7).toNatClampNeg 8 64 dX8_reading_63 rfl (by decide) (by decide) rfl rfl hc rfl ?_
        refine r_aload_n 65 dX8_reading_64 rfl rfl ?_
        refine r_dup 66 dX8_reading_65 rfl rfl ?_
        refine r_getI (x := fe8_213) 7 69 fl8_213 (by decide) dX8_reading_66 rfl rfl rfl ?_
        refine r_iconst 1 70 dX8_reading_69 rfl (by decide) ?_
        refine r_iadd 71 dX8_reading_70 rfl ?_
        refine r_putI (x := fe8_213) 7 74 fl8_213 (by decide) dX8_reading_71 rfl (Or.inl rfl) rfl rfl ?_
        refine r_aload_n 75 dX8_reading_74 rfl rfl ?_
        refine r_getI (x := fe8_213) 7 78 fl8_213 (by decide) dX8_reading_75 rfl rfl rfl ?_
        refine r_iconst 1 79 dX8_reading_78 rfl (by decide) ?_
        refine r_isub 80 dX8_reading_79 rfl ?_
        exact r_ireturn dX8_reading_80 rfl (Nat.le_refl 0) (Nat.le_refl 0) h
      · replace h := Out_neg hc h
        refine r_bipush (-4) 43 dX8_reading_41 rfl (by decide) ?_
        exact r_ireturn dX8_reading_43 rfl (Nat.le_refl 0) (Nat.le_refl 0) h
    · replace h := Out_neg hc h
      refine r_aload_n 20 dX8_reading_19 rfl rfl ?_
      refine r_getR (x := fe8_56) 0 23 fl8_56 (by decide) dX8_reading_20 rfl rfl rfl (Or.inr rfl) ?_
      refine r_iload_n 24 dX8_reading_23 rfl rfl ?_
      obtain ⟨i24, e0, h⟩ := Out_dr h
      rw [e0]
      refine c_I [vq (some (2, i24)), vi a2] [] 27 cs8_reading_24 rfl h (fun _ h' => ct2_hasSquare h') rfl rfl rfl rfl (by decide) (Nat.le_refl 0) (Nat.le_refl 0) (fun v25 s26 h => ?_)
      refine r_if_ne 32 30 dX8_reading_27 (by decide) rfl (fun hc => ?_) (fun hc => ?_)
      · replace h := Out_neg hc h
        refine r_aload_n 33 dX8_reading_32 rfl rfl ?_
        refine r_getI (x := fe8_213) 7 36 fl8_213 (by decide) dX8_reading_33 rfl rfl rfl ?_
        refine r_bipush 8 38 dX8_reading_36 rfl (by decide) ?_
        refine r_icmp_lt 44 41 dX8_reading_38 (by decide) rfl (fun hc => ?_) (fun hc => ?_)
        · replace h := Out_pos hc h
          refine r_aload_n 45 dX8_reading_44 rfl rfl ?_
          refine r_getF (x := fe8_15) 5 (21, 0) 48 fl8_15 (by decide) dX8_reading_45 rfl rfl rfl rfl ?_
          refine r_aload_n 49 dX8_reading_48 rfl rfl ?_
          refine r_getI (x := fe8_213) 7 52 fl8_213 (by decide) dX8_reading_49 rfl rfl rfl ?_
          refine r_iload_n 53 dX8_reading_52 rfl rfl ?_
          obtain ⟨hc, h⟩ := Out_grd h
          refine r_iastore (gI s26 8 0 7).toNatClampNeg 8 54 dX8_reading_53 rfl (by decide) (by decide) rfl rfl hc rfl ?_
          refine r_aload_n 55 dX8_reading_54 rfl rfl ?_
          refine r_getF (x := fe8_18) 6 (22, 0) 58 fl8_18 (by decide) dX8_reading_55 rfl rfl rfl rfl ?_
          refine r_aload_n 59 dX8_reading_58 rfl rfl ?_
          refine r_getI (x := fe8_213) 7 62 fl8_213 (by decide) dX8_reading_59 rfl rfl rfl ?_
          refine r_iload_n 63 dX8_reading_62 rfl rfl ?_
          obtain ⟨hc, h⟩ := Out_grd h
          refine r_iastore (gI (sI s26 21 0 (gI s26 8 0 7).toNatClampNeg a1) 8 0 7).toNatClampNeg 8 64 dX8_reading_63 rfl (by decide) (by decide) rfl rfl hc rfl ?_
          refine r_aload_n 65 dX8_reading_64 rfl rfl ?_
          refine r_dup 66 dX8_reading_65 rfl rfl ?_
          refine r_getI (x := fe8_213) 7 69 fl8_213 (by decide) dX8_reading_66 rfl rfl rfl ?_
          refine r_iconst 1 70 dX8_reading_69 rfl (by decide) ?_
          refine r_iadd 71 dX8_reading_70 rfl ?_
          refine r_putI (x := fe8_213) 7 74 fl8_213 (by decide) dX8_reading_71 rfl (Or.inl rfl) rfl rfl ?_
          refine r_aload_n 75 dX8_reading_74 rfl rfl ?_
          refine r_getI (x := fe8_213) 7 78 fl8_213 (by decide) dX8_reading_75 rfl rfl rfl ?_
          refine r_iconst 1 79 dX8_reading_78 rfl (by decide) ?_
          refine r_isub 80 dX8_reading_79 rfl ?_
          exact r_ireturn dX8_reading_80 rfl (Nat.le_refl 0) (Nat.le_refl 0) h
        · replace h := Out_neg hc h
          refine r_bipush (-4) 43 dX8_reading_41 rfl (by decide) ?_
          exact r_ireturn dX8_reading_43 rfl (Nat.le_refl 0) (Nat.le_refl 0) h
      · replace h := Out_pos hc h
        refine r_iconst (-1) 31 dX8_reading_30 rfl (by decide) ?_
        exact r_ireturn dX8_reading_31 rfl (Nat.le_refl 0) (Nat.le_refl 0) h
  · replace h := Out_pos hc h
    refine r_iconst (-1) 12 dX8_reading_11 rfl (by decide) ?_
    exact r_ireturn dX8_reading_12 rfl (Nat.le_refl 0) (Nat.le_refl 0) h

set_option maxRecDepth 20000 in
set_option maxHeartbeats 4000000 in
theorem ct8_row {Γ : GG} {K : Int32 × Sto → Prop} {a1 : Int32} {a2 : Int32} {a3 : Int32} {a4 : Int32} {σ : Sto} (h : Out (f8_row a1 a2 a3 a4 σ) K) : Ct true Γ mX8_row 5 0 0 [vq (some (8, 0)), vi a1, vi a2, vi a3, vi a4] σ (QI K) := by
  refine Ct_intro (by decide +kernel) rfl ?_
  show M true Γ mX8_row 5 0 0 0 0 (QI K) 0 [some (vq (some (8, 0))), some (vi a1), some (vi a2), some (vi a3), some (vi a4), none, none] [] σ
  unfold f8_row at h
  refine r_aload_n 1 dX8_row_0 rfl rfl ?_
  refine r_iconst 0 2 dX8_row_1 rfl (by decide) ?_
  refine r_putI (x := fe8_64) 13 5 fl8_64 (by decide) dX8_row_2 rfl (Or.inl rfl) rfl rfl ?_
  refine r_aload_n 6 dX8_row_5 rfl rfl ?_
  refine r_iload_n 7 dX8_row_6 rfl rfl ?_
  refine c_R [vq (some (8, 0)), vi a1] [] 10 cs8_row_7 rfl h (fun _ h' => ct8_sheetAt h') rfl rfl rfl rfl (by decide) (Nat.le_refl 0) (Nat.le_refl 0) (fun v21 s22 h => ?_)
  refine r_astore [some (vq (some (8, 0))), some (vi a1), some (vi a2), some (vi a3), some (vi a4), some (vq v21), none] 12 dX8_row_10 rfl rfl rfl ?_
  refine r_aload 14 dX8_row_12 rfl rfl ?_
  rcases Out_rcs h with ⟨e0, h⟩ | ⟨k23, i24, e0, h⟩
  · subst e0
    refine r_ifnonnull 19 17 dX8_row_14 (by decide) rfl (fun hc => absurd rfl hc) (fun _ => ?_)
    refine r_iconst (-1) 18 dX8_row_17 rfl (by decide) ?_
    exact r_ireturn dX8_row_18 rfl (Nat.le_refl 0) (Nat.le_refl 0) h
  · subst e0
    obtain ⟨ek, h1⟩ := Out_grd h
    subst ek
    replace h := h1
    refine r_ifnonnull 19 17 dX8_row_14 (by decide) rfl (fun _ => ?_) (fun hc => by cases hc)
    refine r_iload_n 20 dX8_row_19 rfl rfl ?_
    refine r_iconst 3 21 dX8_row_20 rfl (by decide) ?_
    refine c_I [vi a2, vi 3] [] 24 cs8_row_21 rfl h (fun _ h' => ct8_isBelow h') rfl rfl rfl rfl (by decide) (Nat.le_refl 0) (Nat.le_refl 0) (fun v25 s26 h => ?_)
    refine r_if_ne 30 27 dX8_row_24 (by decide) rfl (fun hc => ?_) (fun hc => ?_)
    · replace h := Out_neg hc h
      refine r_aload_n 31 dX8_row_30 rfl rfl ?_
      refine r_getR (x := fe8_56) 0 34 fl8_56 (by decide) dX8_row_31 rfl rfl rfl (Or.inr rfl) ?_
      obtain ⟨i27, e0, h⟩ := Out_dr h
      rw [e0]
      refine c_I [vq (some (2, i27))] [] 37 cs8_row_34 rfl h (fun _ h' => ct2_isLaid h') rfl rfl rfl rfl (by decide) (Nat.le_refl 0) (Nat.le_refl 0) (fun v28 s29 h => ?_)
      refine r_if_ne 43 40 dX8_row_37 (by decide) rfl (fun hc => ?_) (fun hc => ?_)
      · replace h := Out_neg hc h
        refine r_aload 45 dX8_row_43 rfl rfl ?_
        refine r_iload_n 46 dX8_row_45 rfl rfl ?_
        refine r_iload_n 47 dX8_row_46 rfl rfl ?_
        refine r_iload 49 dX8_row_47 rfl rfl ?_
        refine c_I [vq (some (4, i24)), vi a2, vi a3, vi a4] [] 52 cs8_row_49 rfl h (fun _ h' => ct4_faultOfCells h') rfl rfl rfl rfl (by decide) (Nat.le_refl 0) (Nat.le_refl 0) (fun v30 s31 h => ?_)
        refine r_istore [some (vq (some (8, 0))), some (vi a1), some (vi a2), some (vi a3), some (vi a4), some (vq (some (4, i24))), some (vi v30)] 54 dX8_row_52 rfl rfl rfl ?_
        refine r_iload 56 dX8_row_54 rfl rfl ?_
        refine r_if_eq 66 59 dX8_row_56 (by decide) rfl (fun hc => ?_) (fun hc => ?_)
        · replace h := Out_pos hc h
          refine r_iload 68 dX8_row_66 rfl rfl ?_
          refine r_bipush 20 70 dX8_row_68 rfl (by decide) ?_
          refine r_icmp_le 76 73 dX8_row_70 (by decide) rfl (fun hc => ?_) (fun hc => ?_)
          · replace h := Out_pos hc h
            refine r_aload_n 77 dX8_row_76 rfl rfl ?_
            refine r_aload 79 dX8_row_77 rfl rfl ?_
            refine r_iload_n 80 dX8_row_79 rfl rfl ?_
            refine r_iload 82 dX8_row_80 rfl rfl ?_
            refine c_I [vq (some (8, 0)), vq (some (4, i24)), vi a3, vi a4] [] 85 cs8_row_82 rfl h (fun _ h' => ct8_areCodes h') rfl rfl rfl rfl (by decide) (Nat.le_refl 0) (Nat.le_refl 0) (fun v32 s33 h => ?_)
            refine r_if_eq 100 88 dX8_row_85 (by decide) rfl (fun hc => ?_) (fun hc => ?_)
            · replace h := Out_pos hc h
              refine r_iconst (-1) 101 dX8_row_100 rfl (by decide) ?_
              exact r_ireturn dX8_row_101 rfl (Nat.le_refl 0) (Nat.le_refl 0) h
            · replace h := Out_neg hc h
              refine r_aload_n 89 dX8_row_88 rfl rfl ?_
              refine r_aload 91 dX8_row_89 rfl rfl ?_
              refine r_iload_n 92 dX8_row_91 rfl rfl ?_
              refine r_iload 94 dX8_row_92 rfl rfl ?_
              refine c_I [vq (some (8, 0)), vq (some (4, i24)), vi a3, vi a4] [] 97 cs8_row_94 rfl h (fun _ h' => ct8_hadByRow h') rfl rfl rfl rfl (by decide) (Nat.le_refl 0) (Nat.le_refl 0) (fun v34 s35 h => ?_)
              refine r_goto 101 dX8_row_97 (by decide) ?_
              exact r_ireturn dX8_row_101 rfl (Nat.le_refl 0) (Nat.le_refl 0) h
          · replace h := Out_neg hc h
            refine r_bipush (-2) 75 dX8_row_73 rfl (by decide) ?_
            exact r_ireturn dX8_row_75 rfl (Nat.le_refl 0) (Nat.le_refl 0) h
        · replace h := Out_neg hc h
          refine r_aload_n 60 dX8_row_59 rfl rfl ?_
          refine r_iload 62 dX8_row_60 rfl rfl ?_
          refine c_I [vq (some (8, 0)), vi v30] [] 65 cs8_row_62 rfl h (fun _ h' => ct8_failed h') rfl rfl rfl rfl (by decide) (Nat.le_refl 0) (Nat.le_refl 0) (fun v36 s37 h => ?_)
          exact r_ireturn dX8_row_65 rfl (Nat.le_refl 0) (Nat.le_refl 0) h
      · replace h := Out_pos hc h
        refine r_bipush (-3) 42 dX8_row_40 rfl (by decide) ?_
        exact r_ireturn dX8_row_42 rfl (Nat.le_refl 0) (Nat.le_refl 0) h
    · replace h := Out_pos hc h
      refine r_bipush (-2) 29 dX8_row_27 rfl (by decide) ?_
      exact r_ireturn dX8_row_29 rfl (Nat.le_refl 0) (Nat.le_refl 0) h

set_option maxRecDepth 20000 in
set_option maxHeartbeats 4000000 in
theorem ct8_set {Γ : GG} {K : Int32 × Sto → Prop} {a1 : Int32} {a2 : Int32} {σ : Sto} (h : Out (f8_set a1 a2 σ) K) : Ct true Γ mX8_set 6 0 0 [vq (some (8, 0)), vi a1, vi a2] σ (QI K) := by
  refine Ct_intro (by decide +kernel) rfl ?_
  show M true Γ mX8_set 6 0 0 0 0 (QI K) 0 [some (vq (some (8, 0))), some (vi a1), some (vi a2), none] [] σ
  unfold f8_set at h
  refine r_aload_n 1 dX8_set_0 rfl rfl ?_
  refine r_getR (x := fe8_56) 0 4 fl8_56 (by decide) dX8_set_1 rfl rfl rfl (Or.inr rfl) ?_
  refine r_iload_n 5 dX8_set_4 rfl rfl ?_
  obtain ⟨i21, e0, h⟩ := Out_dr h
  rw [e0]
  refine c_I [vq (some (2, i21)), vi a1] [] 8 cs8_set_5 rfl h (fun _ h' => ct2_hasSquare h') rfl rfl rfl rfl (by decide) (Nat.le_refl 0) (Nat.le_refl 0) (fun v22 s23 h => ?_)
  refine r_if_ne 13 11 dX8_set_8 (by decide) rfl (fun hc => ?_) (fun hc => ?_)
  · replace h := Out_neg hc h
    refine r_iload_n 14 dX8_set_13 rfl rfl ?_
    refine r_iconst 3 15 dX8_set_14 rfl (by decide) ?_
    refine c_I [vi a2, vi 3] [] 18 cs8_set_15 rfl h (fun _ h' => ct8_isBelow h') rfl rfl rfl rfl (by decide) (Nat.le_refl 0) (Nat.le_refl 0) (fun v24 s25 h => ?_)
    refine r_if_ne 24 21 dX8_set_18 (by decide) rfl (fun hc => ?_) (fun hc => ?_)
    · replace h := Out_neg hc h
      refine r_iload_n 25 dX8_set_24 rfl rfl ?_
      refine r_iconst 2 26 dX8_set_25 rfl (by decide) ?_
      refine r_icmp_ne 43 29 dX8_set_26 (by decide) rfl (fun hc => ?_) (fun hc => ?_)
      · replace h := Out_neg hc h
        refine r_aload_n 44 dX8_set_43 rfl rfl ?_
        refine r_getR (x := fe8_56) 0 47 fl8_56 (by decide) dX8_set_44 rfl rfl rfl (Or.inr rfl) ?_
        refine r_iload_n 48 dX8_set_47 rfl rfl ?_
        obtain ⟨i26, e0, h⟩ := Out_dr h
        rw [e0]
        refine c_I [vq (some (2, i26)), vi a1] [] 51 cs8_set_48 rfl h (fun _ h' => ct2_signAt h') rfl rfl rfl rfl (by decide) (Nat.le_refl 0) (Nat.le_refl 0) (fun v27 s28 h => ?_)
        refine r_istore_n [some (vq (some (8, 0))), some (vi a1), some (vi a2), some (vi v27)] 52 dX8_set_51 rfl rfl rfl ?_
        refine r_aload_n 53 dX8_set_52 rfl rfl ?_
        refine r_getR (x := fe8_56) 0 56 fl8_56 (by decide) dX8_set_53 rfl rfl rfl (Or.inr rfl) ?_
        refine r_iload_n 57 dX8_set_56 rfl rfl ?_
        refine r_iload_n 58 dX8_set_57 rfl rfl ?_
        obtain ⟨i29, e0, h⟩ := Out_dr h
        rw [e0]
        refine c_V [vq (some (2, i29)), vi a1, vi a2] [] 61 cs8_set_58 rfl h (fun _ h' => ct2_changeSign h') rfl rfl rfl rfl (by decide) (Nat.le_refl 0) (Nat.le_refl 0) (fun s30 h => ?_)
        refine r_aload_n 62 dX8_set_61 rfl rfl ?_
        refine c_V [vq (some (8, 0))] [] 65 cs8_set_62 rfl h (fun _ h' => ct8_replayNow h') rfl rfl rfl rfl (by decide) (Nat.le_refl 0) (Nat.le_refl 0) (fun s31 h => ?_)
        refine r_iload_n 66 dX8_set_65 rfl rfl ?_
        exact r_ireturn dX8_set_66 rfl (Nat.le_refl 0) (Nat.le_refl 0) h
      · replace h := Out_pos hc h
        refine r_aload_n 30 dX8_set_29 rfl rfl ?_
        refine r_getR (x := fe8_56) 0 33 fl8_56 (by decide) dX8_set_30 rfl rfl rfl (Or.inr rfl) ?_
        refine r_iload_n 34 dX8_set_33 rfl rfl ?_
        obtain ⟨i32, e0, h⟩ := Out_dr h
        rw [e0]
        refine c_I [vq (some (2, i32)), vi a1] [] 37 cs8_set_34 rfl h (fun _ h' => ct2_startsOn h') rfl rfl rfl rfl (by decide) (Nat.le_refl 0) (Nat.le_refl 0) (fun v33 s34 h => ?_)
        refine r_if_eq 43 40 dX8_set_37 (by decide) rfl (fun hc => ?_) (fun hc => ?_)
        · replace h := Out_pos hc h
          refine r_aload_n 44 dX8_set_43 rfl rfl ?_
          refine r_getR (x := fe8_56) 0 47 fl8_56 (by decide) dX8_set_44 rfl rfl rfl (Or.inr rfl) ?_
          refine r_iload_n 48 dX8_set_47 rfl rfl ?_
          obtain ⟨i35, e0, h⟩ := Out_dr h
          rw [e0]
          refine c_I [vq (some (2, i35)), vi a1] [] 51 cs8_set_48 rfl h (fun _ h' => ct2_signAt h') rfl rfl rfl rfl (by decide) (Nat.le_refl 0) (Nat.le_refl 0) (fun v36 s37 h => ?_)
          refine r_istore_n [some (vq (some (8, 0))), some (vi a1), some (vi a2), some (vi v36)] 52 dX8_set_51 rfl rfl rfl ?_
          refine r_aload_n 53 dX8_set_52 rfl rfl ?_
          refine r_getR (x := fe8_56) 0 56 fl8_56 (by decide) dX8_set_53 rfl rfl rfl (Or.inr rfl) ?_
          refine r_iload_n 57 dX8_set_56 rfl rfl ?_
          refine r_iload_n 58 dX8_set_57 rfl rfl ?_
          obtain ⟨i38, e0, h⟩ := Out_dr h
          rw [e0]
          refine c_V [vq (some (2, i38)), vi a1, vi a2] [] 61 cs8_set_58 rfl h (fun _ h' => ct2_changeSign h') rfl rfl rfl rfl (by decide) (Nat.le_refl 0) (Nat.le_refl 0) (fun s39 h => ?_)
          refine r_aload_n 62 dX8_set_61 rfl rfl ?_
          refine c_V [vq (some (8, 0))] [] 65 cs8_set_62 rfl h (fun _ h' => ct8_replayNow h') rfl rfl rfl rfl (by decide) (Nat.le_refl 0) (Nat.le_refl 0) (fun s40 h => ?_)
          refine r_iload_n 66 dX8_set_65 rfl rfl ?_
          exact r_ireturn dX8_set_66 rfl (Nat.le_refl 0) (Nat.le_refl 0) h
        · replace h := Out_neg hc h
          refine r_bipush (-3) 42 dX8_set_40 rfl (by decide) ?_
          exact r_ireturn dX8_set_42 rfl (Nat.le_refl 0) (Nat.le_refl 0) h
    · replace h := Out_pos hc h
      refine r_bipush (-2) 23 dX8_set_21 rfl (by decide) ?_
      exact r_ireturn dX8_set_23 rfl (Nat.le_refl 0) (Nat.le_refl 0) h
  · replace h := Out_pos hc h
    refine r_iconst (-1) 12 dX8_set_11 rfl (by decide) ?_
    exact r_ireturn dX8_set_12 rfl (Nat.le_refl 0) (Nat.le_refl 0) h

set_option maxRecDepth 20000 in
set_option maxHeartbeats 4000000 in
theorem ct8_sheet {Γ : GG} {K : Int32 × Sto → Prop} {a1 : Int32} {a2 : Int32} {a3 : Int32} {σ : Sto} (h : Out (f8_sheet a1 a2 a3 σ) K) : Ct true Γ mX8_sheet 2 0 0 [vq (some (8, 0)), vi a1, vi a2, vi a3] σ (QI K) := by
  refine Ct_intro (by decide +kernel) rfl ?_
  show M true Γ mX8_sheet 2 0 0 0 0 (QI K) 0 [some (vq (some (8, 0))), some (vi a1), some (vi a2), some (vi a3), none] [] σ
  unfold f8_sheet at h
  refine r_aload_n 1 dX8_sheet_0 rfl rfl ?_
  refine r_iconst 0 2 dX8_sheet_1 rfl (by decide) ?_
  refine r_putI (x := fe8_64) 13 5 fl8_64 (by decide) dX8_sheet_2 rfl (Or.inl rfl) rfl rfl ?_
  refine r_aload_n 6 dX8_sheet_5 rfl rfl ?_
  refine r_iload_n 7 dX8_sheet_6 rfl rfl ?_
  refine c_R [vq (some (8, 0)), vi a1] [] 10 cs8_sheet_7 rfl h (fun _ h' => ct8_sheetAt h') rfl rfl rfl rfl (by decide) (Nat.le_refl 0) (Nat.le_refl 0) (fun v21 s22 h => ?_)
  refine r_astore [some (vq (some (8, 0))), some (vi a1), some (vi a2), some (vi a3), some (vq v21)] 12 dX8_sheet_10 rfl rfl rfl ?_
  refine r_aload 14 dX8_sheet_12 rfl rfl ?_
  rcases Out_rcs h with ⟨e0, h⟩ | ⟨k23, i24, e0, h⟩
  · subst e0
    refine r_ifnonnull 19 17 dX8_sheet_14 (by decide) rfl (fun hc => absurd rfl hc) (fun _ => ?_)
    refine r_iconst (-1) 18 dX8_sheet_17 rfl (by decide) ?_
    exact r_ireturn dX8_sheet_18 rfl (Nat.le_refl 0) (Nat.le_refl 0) h
  · subst e0
    obtain ⟨ek, h1⟩ := Out_grd h
    subst ek
    replace h := h1
    refine r_ifnonnull 19 17 dX8_sheet_14 (by decide) rfl (fun _ => ?_) (fun hc => by cases hc)
    refine r_iload_n 20 dX8_sheet_19 rfl rfl ?_
    refine r_iconst 3 21 dX8_sheet_20 rfl (by decide) ?_
    refine c_I [vi a2, vi 3] [] 24 cs8_sheet_21 rfl h (fun _ h' => ct8_isBelow h') rfl rfl rfl rfl (by decide) (Nat.le_refl 0) (Nat.le_refl 0) (fun v25 s26 h => ?_)
    refine r_if_eq 33 27 dX8_sheet_24 (by decide) rfl (fun hc => ?_) (fun hc => ?_)
    · replace h := Out_pos hc h
      refine r_bipush (-2) 35 dX8_sheet_33 rfl (by decide) ?_
      exact r_ireturn dX8_sheet_35 rfl (Nat.le_refl 0) (Nat.le_refl 0) h
    · replace h := Out_neg hc h
      refine r_iload_n 28 dX8_sheet_27 rfl rfl ?_
      refine r_bipush 60 30 dX8_sheet_28 rfl (by decide) ?_
      refine r_icmp_le 36 33 dX8_sheet_30 (by decide) rfl (fun hc => ?_) (fun hc => ?_)
      · replace h := Out_pos hc h
        refine r_iload_n 37 dX8_sheet_36 rfl rfl ?_
        refine r_if_ge 46 40 dX8_sheet_37 (by decide) rfl (fun hc => ?_) (fun hc => ?_)
        · replace h := Out_pos hc h
          refine r_aload 48 dX8_sheet_46 rfl rfl ?_
          refine r_iload_n 49 dX8_sheet_48 rfl rfl ?_
          refine r_iload_n 50 dX8_sheet_49 rfl rfl ?_
          refine c_V [vq (some (4, i24)), vi a2, vi a3] [] 53 cs8_sheet_50 rfl h (fun _ h' => ct4_begin h') rfl rfl rfl rfl (by decide) (Nat.le_refl 0) (Nat.le_refl 0) (fun s27 h => ?_)
          refine r_iconst 1 54 dX8_sheet_53 rfl (by decide) ?_
          exact r_ireturn dX8_sheet_54 rfl (Nat.le_refl 0) (Nat.le_refl 0) h
        · replace h := Out_neg hc h
          refine r_aload_n 41 dX8_sheet_40 rfl rfl ?_
          refine r_iconst 4 42 dX8_sheet_41 rfl (by decide) ?_
          refine c_I [vq (some (8, 0)), vi 4] [] 45 cs8_sheet_42 rfl h (fun _ h' => ct8_failed h') rfl rfl rfl rfl (by decide) (Nat.le_refl 0) (Nat.le_refl 0) (fun v28 s29 h => ?_)
          exact r_ireturn dX8_sheet_45 rfl (Nat.le_refl 0) (Nat.le_refl 0) h
      · replace h := Out_neg hc h
        refine r_bipush (-2) 35 dX8_sheet_33 rfl (by decide) ?_
        exact r_ireturn dX8_sheet_35 rfl (Nat.le_refl 0) (Nat.le_refl 0) h

set_option maxRecDepth 20000 in
set_option maxHeartbeats 4000000 in
theorem ct8_sign {Γ : GG} {K : Int32 × Sto → Prop} {a1 : Int32} {σ : Sto} (h : Out (f8_sign a1 σ) K) : Ct true Γ mX8_sign 2 0 0 [vq (some (8, 0)), vi a1] σ (QI K) := by
  refine Ct_intro (by decide +kernel) rfl ?_
  show M true Γ mX8_sign 2 0 0 0 0 (QI K) 0 [some (vq (some (8, 0))), some (vi a1)] [] σ
  unfold f8_sign at h
  refine r_aload_n 1 dX8_sign_0 rfl rfl ?_
  refine r_getR (x := fe8_56) 0 4 fl8_56 (by decide) dX8_sign_1 rfl rfl rfl (Or.inr rfl) ?_
  refine r_iload_n 5 dX8_sign_4 rfl rfl ?_
  obtain ⟨i21, e0, h⟩ := Out_dr h
  rw [e0]
  refine c_I [vq (some (2, i21)), vi a1] [] 8 cs8_sign_5 rfl h (fun _ h' => ct2_hasSquare h') rfl rfl rfl rfl (by decide) (Nat.le_refl 0) (Nat.le_refl 0) (fun v22 s23 h => ?_)
  refine r_if_eq 22 11 dX8_sign_8 (by decide) rfl (fun hc => ?_) (fun hc => ?_)
  · replace h := Out_pos hc h
    refine r_iconst (-1) 23 dX8_sign_22 rfl (by decide) ?_
    exact r_ireturn dX8_sign_23 rfl (Nat.le_refl 0) (Nat.le_refl 0) h
  · replace h := Out_neg hc h
    refine r_aload_n 12 dX8_sign_11 rfl rfl ?_
    refine r_getR (x := fe8_56) 0 15 fl8_56 (by decide) dX8_sign_12 rfl rfl rfl (Or.inr rfl) ?_
    refine r_iload_n 16 dX8_sign_15 rfl rfl ?_
    obtain ⟨i24, e0, h⟩ := Out_dr h
    rw [e0]
    refine c_I [vq (some (2, i24)), vi a1] [] 19 cs8_sign_16 rfl h (fun _ h' => ct2_signAt h') rfl rfl rfl rfl (by decide) (Nat.le_refl 0) (Nat.le_refl 0) (fun v25 s26 h => ?_)
    refine r_goto 23 dX8_sign_19 (by decide) ?_
    exact r_ireturn dX8_sign_23 rfl (Nat.le_refl 0) (Nat.le_refl 0) h

set_option maxRecDepth 20000 in
set_option maxHeartbeats 4000000 in
theorem ct8_takeDraft {Γ : GG} {K : Sto → Prop}  {σ : Sto} (h : Out (f8_takeDraft  σ) K) : Ct true Γ mX8_takeDraft 4 0 0 [vq (some (8, 0))] σ (QV K) := by
  refine Ct_intro (by decide +kernel) rfl ?_
  show M true Γ mX8_takeDraft 4 0 0 0 0 (QV K) 0 [some (vq (some (8, 0))), none] [] σ
  unfold f8_takeDraft at h
  refine r_aload_n 1 dX8_takeDraft_0 rfl rfl ?_
  refine r_getR (x := fe8_56) 0 4 fl8_56 (by decide) dX8_takeDraft_1 rfl rfl rfl (Or.inr rfl) ?_
  refine r_astore_n [some (vq (some (8, 0))), some (vq (gR σ 8 0 0))] 5 dX8_takeDraft_4 rfl rfl rfl ?_
  refine r_aload_n 6 dX8_takeDraft_5 rfl rfl ?_
  refine r_aload_n 7 dX8_takeDraft_6 rfl rfl ?_
  refine r_getR (x := fe8_60) 1 10 fl8_60 (by decide) dX8_takeDraft_7 rfl rfl rfl (Or.inr rfl) ?_
  refine r_putR (x := fe8_56) 0 13 fl8_56 (by decide) dX8_takeDraft_10 rfl (Or.inl rfl) rfl rfl (Or.inr rfl) ?_
  refine r_aload_n 14 dX8_takeDraft_13 rfl rfl ?_
  refine r_aload_n 15 dX8_takeDraft_14 rfl rfl ?_
  refine r_putR (x := fe8_60) 1 18 fl8_60 (by decide) dX8_takeDraft_15 rfl (Or.inl rfl) rfl rfl (Or.inr rfl) ?_
  refine r_aload_n 19 dX8_takeDraft_18 rfl rfl ?_
  refine r_iconst 0 20 dX8_takeDraft_19 rfl (by decide) ?_
  refine r_putI (x := fe8_131) 2 23 fl8_131 (by decide) dX8_takeDraft_20 rfl (Or.inl rfl) rfl rfl ?_
  refine r_aload_n 24 dX8_takeDraft_23 rfl rfl ?_
  refine r_iconst 0 25 dX8_takeDraft_24 rfl (by decide) ?_
  refine r_putI (x := fe8_137) 4 28 fl8_137 (by decide) dX8_takeDraft_25 rfl (Or.inl rfl) rfl rfl ?_
  refine r_aload_n 29 dX8_takeDraft_28 rfl rfl ?_
  refine r_iconst 0 30 dX8_takeDraft_29 rfl (by decide) ?_
  refine r_putI (x := fe8_213) 7 33 fl8_213 (by decide) dX8_takeDraft_30 rfl (Or.inl rfl) rfl rfl ?_
  refine r_aload_n 34 dX8_takeDraft_33 rfl rfl ?_
  refine r_getF (x := fe8_42) 8 (6, 0) 37 fl8_42 (by decide) dX8_takeDraft_34 rfl rfl rfl rfl ?_
  refine r_aload_n 38 dX8_takeDraft_37 rfl rfl ?_
  refine r_getR (x := fe8_56) 0 41 fl8_56 (by decide) dX8_takeDraft_38 rfl rfl rfl (Or.inr rfl) ?_
  refine r_aload_n 42 dX8_takeDraft_41 rfl rfl ?_
  refine r_getI (x := fe8_131) 2 45 fl8_131 (by decide) dX8_takeDraft_42 rfl rfl rfl ?_
  obtain ⟨i21, e0, h⟩ := Out_dr h
  rw [e0]
  refine c_V [vq (some (6, 0)), vq (some (2, i21)), vi (gI (sI (sI (sI (sR (sR σ 8 0 0 (gR σ 8 0 1)) 8 0 1 (gR σ 8 0 0)) 8 0 2 0) 8 0 4 0) 8 0 7 0) 8 0 2)] [] 48 cs8_takeDraft_45 rfl h (fun _ h' => ct6_beginOn h') rfl rfl rfl rfl (by decide) (Nat.le_refl 0) (Nat.le_refl 0) (fun s22 h => ?_)
  exact r_return dX8_takeDraft_48 rfl (Nat.le_refl 0) (Nat.le_refl 0) h

set_option maxRecDepth 20000 in
set_option maxHeartbeats 4000000 in
theorem ct8_tell {Γ : GG} {K : Int32 × Sto → Prop} {a1 : Int32} {σ : Sto} (h : Out (f8_tell a1 σ) K) : Ct true Γ mX8_tell 5 0 0 [vq (some (8, 0)), vi a1] σ (QI K) := by
  refine Ct_intro (by decide +kernel) rfl ?_
  show M true Γ mX8_tell 5 0 0 0 0 (QI K) 0 [some (vq (some (8, 0))), some (vi a1), none] [] σ
  unfold f8_tell at h
  refine r_aload_n 1 dX8_tell_0 rfl rfl ?_
  refine r_getR (x := fe8_56) 0 4 fl8_56 (by decide) dX8_tell_1 rfl rfl rfl (Or.inr rfl) ?_
  refine r_iload_n 5 dX8_tell_4 rfl rfl ?_
  obtain ⟨i21, e0, h⟩ := Out_dr h
  rw [e0]
  refine c_R [vq (some (2, i21)), vi a1] [] 8 cs8_tell_5 rfl h (fun _ h' => ct2_eaterAt h') rfl rfl rfl rfl (by decide) (Nat.le_refl 0) (Nat.le_refl 0) (fun v22 s23 h => ?_)
  refine r_astore_n [some (vq (some (8, 0))), some (vi a1), some (vq v22)] 9 dX8_tell_8 rfl rfl rfl ?_
  refine r_aload_n 10 dX8_tell_9 rfl rfl ?_
  rcases Out_rcs h with ⟨e0, h⟩ | ⟨k24, i25, e0, h⟩
  · subst e0
    refine r_ifnonnull 17 13 dX8_tell_10 (by decide) rfl (fun hc => absurd rfl hc) (fun _ => ?_)
    refine r_iconst (-1) 14 dX8_tell_13 rfl (by decide) ?_
    refine r_goto 25 dX8_tell_14 (by decide) ?_
    exact r_ireturn dX8_tell_25 rfl (Nat.le_refl 0) (Nat.le_refl 0) h
  · subst e0
    refine r_ifnonnull 17 13 dX8_tell_10 (by decide) rfl (fun _ => ?_) (fun hc => by cases hc)
    refine r_aload_n 18 dX8_tell_17 rfl rfl ?_
    refine r_aload_n 19 dX8_tell_18 rfl rfl ?_
    refine r_getF (x := fe8_30) 12 (7, 0) 22 fl8_30 (by decide) dX8_tell_19 rfl rfl rfl rfl ?_
    rcases Out_fk h with ⟨ek, h1⟩ | ⟨ek, h1⟩ | ⟨ek, h1⟩
    · subst ek
      replace h := h1
      refine c_I [vq (some (0, i25)), vq (some (7, 0))] [] 25 cs8_tell_22_0 rfl h (fun _ h' => ct0_telling_0 h') rfl rfl rfl rfl (by decide) (Nat.le_refl 0) (Nat.le_refl 0) (fun v26 s27 h => ?_)
      exact r_ireturn dX8_tell_25 rfl (Nat.le_refl 0) (Nat.le_refl 0) h
    · subst ek
      replace h := h1
      refine c_I [vq (some (1, i25)), vq (some (7, 0))] [] 25 cs8_tell_22_1 rfl h (fun _ h' => ct1_telling_1 h') rfl rfl rfl rfl (by decide) (Nat.le_refl 0) (Nat.le_refl 0) (fun v28 s29 h => ?_)
      exact r_ireturn dX8_tell_25 rfl (Nat.le_refl 0) (Nat.le_refl 0) h
    · subst ek
      replace h := h1
      refine c_I [vq (some (5, i25)), vq (some (7, 0))] [] 25 cs8_tell_22_5 rfl h (fun _ h' => ct5_telling_5 h') rfl rfl rfl rfl (by decide) (Nat.le_refl 0) (Nat.le_refl 0) (fun v30 s31 h => ?_)
      exact r_ireturn dX8_tell_25 rfl (Nat.le_refl 0) (Nat.le_refl 0) h

set_option maxRecDepth 20000 in
set_option maxHeartbeats 4000000 in
theorem ct8_trace {Γ : GG} {K : Int32 × Sto → Prop}  {σ : Sto} (h : Out (f8_trace  σ) K) : Ct true Γ mX8_trace 0 0 0 [vq (some (8, 0))] σ (QI K) := by
  refine Ct_intro (by decide +kernel) rfl ?_
  show M true Γ mX8_trace 0 0 0 0 0 (QI K) 0 [some (vq (some (8, 0)))] [] σ
  unfold f8_trace at h
  refine r_aload_n 1 dX8_trace_0 rfl rfl ?_
  refine r_getF (x := fe8_30) 12 (7, 0) 4 fl8_30 (by decide) dX8_trace_1 rfl rfl rfl rfl ?_
  refine r_getI (x := fe8_277) 0 7 fl8_277 (by decide) dX8_trace_4 rfl rfl rfl ?_
  exact r_ireturn dX8_trace_7 rfl (Nat.le_refl 0) (Nat.le_refl 0) h

set_option maxRecDepth 20000 in
set_option maxHeartbeats 4000000 in
theorem ct8_undo {Γ : GG} {K : Int32 × Sto → Prop} {a1 : Int32} {σ : Sto} (h : Out (f8_undo a1 σ) K) : Ct true Γ mX8_undo 6 0 0 [vq (some (8, 0)), vi a1] σ (QI K) := by
  refine Ct_intro (by decide +kernel) rfl ?_
  show M true Γ mX8_undo 6 0 0 0 0 (QI K) 0 [some (vq (some (8, 0))), some (vi a1)] [] σ
  unfold f8_undo at h
  refine r_iload_n 1 dX8_undo_0 rfl rfl ?_
  refine r_if_lt 12 4 dX8_undo_1 (by decide) rfl (fun hc => ?_) (fun hc => ?_)
  · replace h := Out_pos hc h
    refine r_bipush (-2) 14 dX8_undo_12 rfl (by decide) ?_
    exact r_ireturn dX8_undo_14 rfl (Nat.le_refl 0) (Nat.le_refl 0) h
  · replace h := Out_neg hc h
    refine r_iload_n 5 dX8_undo_4 rfl rfl ?_
    refine r_aload_n 6 dX8_undo_5 rfl rfl ?_
    refine r_getI (x := fe8_137) 4 9 fl8_137 (by decide) dX8_undo_6 rfl rfl rfl ?_
    refine r_icmp_le 15 12 dX8_undo_9 (by decide) rfl (fun hc => ?_) (fun hc => ?_)
    · replace h := Out_pos hc h
      refine r_aload_n 16 dX8_undo_15 rfl rfl ?_
      refine r_dup 17 dX8_undo_16 rfl rfl ?_
      refine r_getI (x := fe8_137) 4 20 fl8_137 (by decide) dX8_undo_17 rfl rfl rfl ?_
      refine r_iload_n 21 dX8_undo_20 rfl rfl ?_
      refine r_isub 22 dX8_undo_21 rfl ?_
      refine r_putI (x := fe8_137) 4 25 fl8_137 (by decide) dX8_undo_22 rfl (Or.inl rfl) rfl rfl ?_
      refine r_aload_n 26 dX8_undo_25 rfl rfl ?_
      refine c_V [vq (some (8, 0))] [] 29 cs8_undo_26 rfl h (fun _ h' => ct8_replayNow h') rfl rfl rfl rfl (by decide) (Nat.le_refl 0) (Nat.le_refl 0) (fun s21 h => ?_)
      refine r_aload_n 30 dX8_undo_29 rfl rfl ?_
      refine r_getI (x := fe8_137) 4 33 fl8_137 (by decide) dX8_undo_30 rfl rfl rfl ?_
      exact r_ireturn dX8_undo_33 rfl (Nat.le_refl 0) (Nat.le_refl 0) h
    · replace h := Out_neg hc h
      refine r_bipush (-2) 14 dX8_undo_12 rfl (by decide) ?_
      exact r_ireturn dX8_undo_14 rfl (Nat.le_refl 0) (Nat.le_refl 0) h

set_option maxRecDepth 20000 in
set_option maxHeartbeats 4000000 in
theorem ct8_wall {Γ : GG} {K : Int32 × Sto → Prop} {a1 : Int32} {a2 : Int32} {a3 : Int32} {σ : Sto} (h : Out (f8_wall a1 a2 a3 σ) K) : Ct true Γ mX8_wall 3 0 0 [vq (some (8, 0)), vi a1, vi a2, vi a3] σ (QI K) := by
  refine Ct_intro (by decide +kernel) rfl ?_
  show M true Γ mX8_wall 3 0 0 0 0 (QI K) 0 [some (vq (some (8, 0))), some (vi a1), some (vi a2), some (vi a3), none, none] [] σ
  unfold f8_wall at h
  refine r_aload_n 1 dX8_wall_0 rfl rfl ?_
  refine r_iload_n 2 dX8_wall_1 rfl rfl ?_
  refine r_iload_n 3 dX8_wall_2 rfl rfl ?_
  refine r_iload_n 4 dX8_wall_3 rfl rfl ?_
  refine c_I [vq (some (8, 0)), vi a1, vi a2, vi a3] [] 7 cs8_wall_4 rfl h (fun _ h' => ct8_refusalOfPush h') rfl rfl rfl rfl (by decide) (Nat.le_refl 0) (Nat.le_refl 0) (fun v21 s22 h => ?_)
  refine r_istore [some (vq (some (8, 0))), some (vi a1), some (vi a2), some (vi a3), some (vi v21), none] 9 dX8_wall_7 rfl rfl rfl ?_
  refine r_iload 11 dX8_wall_9 rfl rfl ?_
  refine r_if_eq 17 14 dX8_wall_11 (by decide) rfl (fun hc => ?_) (fun hc => ?_)
  · replace h := Out_pos hc h
    refine r_aload_n 18 dX8_wall_17 rfl rfl ?_
    refine r_getF (x := fe8_42) 8 (6, 0) 21 fl8_42 (by decide) dX8_wall_18 rfl rfl rfl rfl ?_
    refine r_iload_n 22 dX8_wall_21 rfl rfl ?_
    refine c_I [vq (some (6, 0)), vi a2] [] 25 cs8_wall_22 rfl h (fun _ h' => ct6_isOn h') rfl rfl rfl rfl (by decide) (Nat.le_refl 0) (Nat.le_refl 0) (fun v23 s24 h => ?_)
    refine r_if_ne 31 28 dX8_wall_25 (by decide) rfl (fun hc => ?_) (fun hc => ?_)
    · replace h := Out_neg hc h
      refine r_aload_n 32 dX8_wall_31 rfl rfl ?_
      refine r_getF (x := fe8_42) 8 (6, 0) 35 fl8_42 (by decide) dX8_wall_32 rfl rfl rfl rfl ?_
      refine r_iload_n 36 dX8_wall_35 rfl rfl ?_
      refine r_iload_n 37 dX8_wall_36 rfl rfl ?_
      refine c_I [vq (some (6, 0)), vi a2, vi a3] [] 40 cs8_wall_37 rfl h (fun _ h' => ct6_behindLine h') rfl rfl rfl rfl (by decide) (Nat.le_refl 0) (Nat.le_refl 0) (fun v25 s26 h => ?_)
      refine r_istore [some (vq (some (8, 0))), some (vi a1), some (vi a2), some (vi a3), some (vi v21), some (vi v25)] 42 dX8_wall_40 rfl rfl rfl ?_
      refine r_iload 44 dX8_wall_42 rfl rfl ?_
      refine r_iconst (-1) 45 dX8_wall_44 rfl (by decide) ?_
      refine r_icmp_eq 65 48 dX8_wall_45 (by decide) rfl (fun hc => ?_) (fun hc => ?_)
      · replace h := Out_pos hc h
        refine r_bipush (-9) 67 dX8_wall_65 rfl (by decide) ?_
        exact r_ireturn dX8_wall_67 rfl (Nat.le_refl 0) (Nat.le_refl 0) h
      · replace h := Out_neg hc h
        refine r_aload_n 49 dX8_wall_48 rfl rfl ?_
        refine r_getR (x := fe8_56) 0 52 fl8_56 (by decide) dX8_wall_49 rfl rfl rfl (Or.inr rfl) ?_
        refine r_iload 54 dX8_wall_52 rfl rfl ?_
        obtain ⟨i27, e0, h⟩ := Out_dr h
        rw [e0]
        refine c_I [vq (some (2, i27)), vi v25] [] 57 cs8_wall_54 rfl h (fun _ h' => ct2_signAt h') rfl rfl rfl rfl (by decide) (Nat.le_refl 0) (Nat.le_refl 0) (fun v28 s29 h => ?_)
        refine r_if_ne 65 60 dX8_wall_57 (by decide) rfl (fun hc => ?_) (fun hc => ?_)
        · replace h := Out_neg hc h
          refine r_bipush (-9) 67 dX8_wall_65 rfl (by decide) ?_
          exact r_ireturn dX8_wall_67 rfl (Nat.le_refl 0) (Nat.le_refl 0) h
        · replace h := Out_pos hc h
          refine r_iload 62 dX8_wall_60 rfl rfl ?_
          refine r_goto 67 dX8_wall_62 (by decide) ?_
          exact r_ireturn dX8_wall_67 rfl (Nat.le_refl 0) (Nat.le_refl 0) h
    · replace h := Out_pos hc h
      refine r_bipush (-3) 30 dX8_wall_28 rfl (by decide) ?_
      exact r_ireturn dX8_wall_30 rfl (Nat.le_refl 0) (Nat.le_refl 0) h
  · replace h := Out_neg hc h
    refine r_iload 16 dX8_wall_14 rfl rfl ?_
    exact r_ireturn dX8_wall_16 rfl (Nat.le_refl 0) (Nat.le_refl 0) h

set_option maxRecDepth 20000 in
set_option maxHeartbeats 4000000 in
theorem ct8_where {Γ : GG} {K : Int32 × Sto → Prop} {a1 : Int32} {σ : Sto} (h : Out (f8_where a1 σ) K) : Ct true Γ mX8_where 2 0 0 [vq (some (8, 0)), vi a1] σ (QI K) := by
  refine Ct_intro (by decide +kernel) rfl ?_
  show M true Γ mX8_where 2 0 0 0 0 (QI K) 0 [some (vq (some (8, 0))), some (vi a1)] [] σ
  unfold f8_where at h
  refine r_aload_n 1 dX8_where_0 rfl rfl ?_
  refine r_getR (x := fe8_56) 0 4 fl8_56 (by decide) dX8_where_1 rfl rfl rfl (Or.inr rfl) ?_
  refine r_iload_n 5 dX8_where_4 rfl rfl ?_
  obtain ⟨i21, e0, h⟩ := Out_dr h
  rw [e0]
  refine c_I [vq (some (2, i21)), vi a1] [] 8 cs8_where_5 rfl h (fun _ h' => ct2_hasPea h') rfl rfl rfl rfl (by decide) (Nat.le_refl 0) (Nat.le_refl 0) (fun v22 s23 h => ?_)
  refine r_if_eq 22 11 dX8_where_8 (by decide) rfl (fun hc => ?_) (fun hc => ?_)
  · replace h := Out_pos hc h
    refine r_iconst (-1) 23 dX8_where_22 rfl (by decide) ?_
    exact r_ireturn dX8_where_23 rfl (Nat.le_refl 0) (Nat.le_refl 0) h
  · replace h := Out_neg hc h
    refine r_aload_n 12 dX8_where_11 rfl rfl ?_
    refine r_getF (x := fe8_42) 8 (6, 0) 15 fl8_42 (by decide) dX8_where_12 rfl rfl rfl rfl ?_
    refine r_iload_n 16 dX8_where_15 rfl rfl ?_
    refine c_I [vq (some (6, 0)), vi a1] [] 19 cs8_where_16 rfl h (fun _ h' => ct6_spotOf h') rfl rfl rfl rfl (by decide) (Nat.le_refl 0) (Nat.le_refl 0) (fun v24 s25 h => ?_)
    refine r_goto 23 dX8_where_19 (by decide) ?_
    exact r_ireturn dX8_where_23 rfl (Nat.le_refl 0) (Nat.le_refl 0) h

set_option maxRecDepth 20000 in
set_option maxHeartbeats 4000000 in
theorem ct8_would {Γ : GG} {K : Int32 × Sto → Prop} {a1 : Int32} {a2 : Int32} {a3 : Int32} {a4 : Int32} {σ : Sto} (h : Out (f8_would a1 a2 a3 a4 σ) K) : Ct true Γ mX8_would 4 0 0 [vq (some (8, 0)), vi a1, vi a2, vi a3, vi a4] σ (QI K) := by
  refine Ct_intro (by decide +kernel) rfl ?_
  show M true Γ mX8_would 4 0 0 0 0 (QI K) 0 [some (vq (some (8, 0))), some (vi a1), some (vi a2), some (vi a3), some (vi a4), none] [] σ
  unfold f8_would at h
  refine r_aload_n 1 dX8_would_0 rfl rfl ?_
  refine r_iload_n 2 dX8_would_1 rfl rfl ?_
  refine r_iload_n 3 dX8_would_2 rfl rfl ?_
  refine r_iload_n 4 dX8_would_3 rfl rfl ?_
  refine c_I [vq (some (8, 0)), vi a1, vi a2, vi a3] [] 7 cs8_would_4 rfl h (fun _ h' => ct8_refusalOfPush h') rfl rfl rfl rfl (by decide) (Nat.le_refl 0) (Nat.le_refl 0) (fun v21 s22 h => ?_)
  refine r_istore [some (vq (some (8, 0))), some (vi a1), some (vi a2), some (vi a3), some (vi a4), some (vi v21)] 9 dX8_would_7 rfl rfl rfl ?_
  refine r_iload 11 dX8_would_9 rfl rfl ?_
  refine r_if_eq 17 14 dX8_would_11 (by decide) rfl (fun hc => ?_) (fun hc => ?_)
  · replace h := Out_pos hc h
    refine r_iload 19 dX8_would_17 rfl rfl ?_
    refine r_iconst 3 20 dX8_would_19 rfl (by decide) ?_
    refine c_I [vi a4, vi 3] [] 23 cs8_would_20 rfl h (fun _ h' => ct8_isBelow h') rfl rfl rfl rfl (by decide) (Nat.le_refl 0) (Nat.le_refl 0) (fun v23 s24 h => ?_)
    refine r_if_ne 29 26 dX8_would_23 (by decide) rfl (fun hc => ?_) (fun hc => ?_)
    · replace h := Out_neg hc h
      refine r_aload_n 30 dX8_would_29 rfl rfl ?_
      refine r_getF (x := fe8_42) 8 (6, 0) 33 fl8_42 (by decide) dX8_would_30 rfl rfl rfl rfl ?_
      refine r_iload_n 34 dX8_would_33 rfl rfl ?_
      refine c_I [vq (some (6, 0)), vi a2] [] 37 cs8_would_34 rfl h (fun _ h' => ct6_isOn h') rfl rfl rfl rfl (by decide) (Nat.le_refl 0) (Nat.le_refl 0) (fun v25 s26 h => ?_)
      refine r_if_ne 43 40 dX8_would_37 (by decide) rfl (fun hc => ?_) (fun hc => ?_)
      · replace h := Out_neg hc h
        refine r_aload_n 44 dX8_would_43 rfl rfl ?_
        refine r_getF (x := fe8_46) 9 (6, 1) 47 fl8_46 (by decide) dX8_would_44 rfl rfl rfl rfl ?_
        refine r_aload_n 48 dX8_would_47 rfl rfl ?_
        refine r_getF (x := fe8_42) 8 (6, 0) 51 fl8_42 (by decide) dX8_would_48 rfl rfl rfl rfl ?_
        refine c_V [vq (some (6, 1)), vq (some (6, 0))] [] 54 cs8_would_51 rfl h (fun _ h' => ct6_copyFrom h') rfl rfl rfl rfl (by decide) (Nat.le_refl 0) (Nat.le_refl 0) (fun s27 h => ?_)
        refine r_aload_n 55 dX8_would_54 rfl rfl ?_
        refine r_getF (x := fe8_46) 9 (6, 1) 58 fl8_46 (by decide) dX8_would_55 rfl rfl rfl rfl ?_
        refine r_iload_n 59 dX8_would_58 rfl rfl ?_
        refine r_iload_n 60 dX8_would_59 rfl rfl ?_
        refine r_iload_n 61 dX8_would_60 rfl rfl ?_
        refine c_I [vi a1, vi a2, vi a3] [vq (some (6, 1))] 64 cs8_would_61 rfl h (fun _ h' => ct8_codeOf h') rfl rfl rfl rfl (by decide) (Nat.le_refl 0) (Nat.le_refl 0) (fun v28 s29 h => ?_)
        refine c_V [vq (some (6, 1)), vi v28] [] 67 cs8_would_64 rfl h (fun _ h' => ct6_pushByCode h') rfl rfl rfl rfl (by decide) (Nat.le_refl 0) (Nat.le_refl 0) (fun s30 h => ?_)
        refine r_iload 69 dX8_would_67 rfl rfl ?_
        refine r_if_ne 81 72 dX8_would_69 (by decide) rfl (fun hc => ?_) (fun hc => ?_)
        · replace h := Out_neg hc h
          refine r_iload 83 dX8_would_81 rfl rfl ?_
          refine r_iconst 1 84 dX8_would_83 rfl (by decide) ?_
          refine r_icmp_ne 97 87 dX8_would_84 (by decide) rfl (fun hc => ?_) (fun hc => ?_)
          · replace h := Out_neg hc h
            refine r_aload_n 98 dX8_would_97 rfl rfl ?_
            refine r_getF (x := fe8_46) 9 (6, 1) 101 fl8_46 (by decide) dX8_would_98 rfl rfl rfl rfl ?_
            refine r_aload_n 102 dX8_would_101 rfl rfl ?_
            refine r_getF (x := fe8_42) 8 (6, 0) 105 fl8_42 (by decide) dX8_would_102 rfl rfl rfl rfl ?_
            refine c_I [vq (some (6, 1)), vq (some (6, 0))] [] 108 cs8_would_105 rfl h (fun _ h' => ct6_elsewhereThan h') rfl rfl rfl rfl (by decide) (Nat.le_refl 0) (Nat.le_refl 0) (fun v31 s32 h => ?_)
            exact r_ireturn dX8_would_108 rfl (Nat.le_refl 0) (Nat.le_refl 0) h
          · replace h := Out_pos hc h
            refine r_aload_n 88 dX8_would_87 rfl rfl ?_
            refine r_getF (x := fe8_46) 9 (6, 1) 91 fl8_46 (by decide) dX8_would_88 rfl rfl rfl rfl ?_
            refine r_getI (x := fe8_153) 1 94 fl8_153 (by decide) dX8_would_91 rfl rfl rfl ?_
            refine r_goto 108 dX8_would_94 (by decide) ?_
            exact r_ireturn dX8_would_108 rfl (Nat.le_refl 0) (Nat.le_refl 0) h
        · replace h := Out_pos hc h
          refine r_aload_n 73 dX8_would_72 rfl rfl ?_
          refine r_getF (x := fe8_46) 9 (6, 1) 76 fl8_46 (by decide) dX8_would_73 rfl rfl rfl rfl ?_
          refine r_iload_n 77 dX8_would_76 rfl rfl ?_
          refine c_I [vq (some (6, 1)), vi a2] [] 80 cs8_would_77 rfl h (fun _ h' => ct6_spotOf h') rfl rfl rfl rfl (by decide) (Nat.le_refl 0) (Nat.le_refl 0) (fun v33 s34 h => ?_)
          exact r_ireturn dX8_would_80 rfl (Nat.le_refl 0) (Nat.le_refl 0) h
      · replace h := Out_pos hc h
        refine r_bipush (-3) 42 dX8_would_40 rfl (by decide) ?_
        exact r_ireturn dX8_would_42 rfl (Nat.le_refl 0) (Nat.le_refl 0) h
    · replace h := Out_pos hc h
      refine r_bipush (-2) 28 dX8_would_26 rfl (by decide) ?_
      exact r_ireturn dX8_would_28 rfl (Nat.le_refl 0) (Nat.le_refl 0) h
  · replace h := Out_neg hc h
    refine r_iload 16 dX8_would_14 rfl rfl ?_
    exact r_ireturn dX8_would_16 rfl (Nat.le_refl 0) (Nat.le_refl 0) h

set_option maxRecDepth 20000 in
set_option maxHeartbeats 4000000 in
theorem ct9_eaterOf {Γ : GG} {K : Int32 × Sto → Prop} {a0 : Int32} {σ : Sto} (h : Out (f9_eaterOf a0 σ) K) : Ct true Γ mX9_eaterOf 0 0 0 [vi a0] σ (QI K) := by
  refine Ct_intro (by decide +kernel) rfl ?_
  show M true Γ mX9_eaterOf 0 0 0 0 0 (QI K) 0 [some (vi a0)] [] σ
  unfold f9_eaterOf at h
  refine r_iload_n 1 dX9_eaterOf_0 rfl rfl ?_
  refine r_bipush 100 3 dX9_eaterOf_1 rfl (by decide) ?_
  refine r_idiv 4 dX9_eaterOf_3 rfl (by decide) ?_
  exact r_ireturn dX9_eaterOf_4 rfl (Nat.le_refl 0) (Nat.le_refl 0) h

set_option maxRecDepth 20000 in
set_option maxHeartbeats 4000000 in
theorem ct9_in {Γ : GG} {K : Int32 × Sto → Prop} {a0 : Int64} {a2 : Int64} {a4 : Int64} {σ : Sto} (h : Out (f9_in a0 a2 a4 σ) K) : Ct true Γ mX9_in 0 0 0 [vl a0, vl a2, vl a4] σ (QI K) := by
  refine Ct_intro (by decide +kernel) rfl ?_
  show M true Γ mX9_in 0 0 0 0 0 (QI K) 0 [some (vl a0), none, some (vl a2), none, some (vl a4), none] [] σ
  unfold f9_in at h
  refine r_lload_n 1 dX9_in_0 rfl rfl ?_
  refine r_lload_n 2 dX9_in_1 rfl rfl ?_
  refine r_lcmp 3 dX9_in_2 rfl ?_
  refine r_if_lt 17 6 dX9_in_3 (by decide) rfl (fun hc => ?_) (fun hc => ?_)
  · replace h := Out_pos hc h
    refine r_iconst 0 18 dX9_in_17 rfl (by decide) ?_
    exact r_zreturn dX9_in_18 rfl (by decide) (Nat.le_refl 0) (Nat.le_refl 0) h
  · replace h := Out_neg hc h
    refine r_lload_n 7 dX9_in_6 rfl rfl ?_
    refine r_lload 9 dX9_in_7 rfl rfl ?_
    refine r_lcmp 10 dX9_in_9 rfl ?_
    refine r_if_gt 17 13 dX9_in_10 (by decide) rfl (fun hc => ?_) (fun hc => ?_)
    · replace h := Out_pos hc h
      refine r_iconst 0 18 dX9_in_17 rfl (by decide) ?_
      exact r_zreturn dX9_in_18 rfl (by decide) (Nat.le_refl 0) (Nat.le_refl 0) h
    · replace h := Out_neg hc h
      refine r_iconst 1 14 dX9_in_13 rfl (by decide) ?_
      refine r_goto 18 dX9_in_14 (by decide) ?_
      exact r_zreturn dX9_in_18 rfl (by decide) (Nat.le_refl 0) (Nat.le_refl 0) h

set_option maxRecDepth 20000 in
set_option maxHeartbeats 4000000 in
theorem ct9_isEater {Γ : GG} {K : Int32 × Sto → Prop} {a1 : Int32} {σ : Sto} (h : Out (f9_isEater a1 σ) K) : Ct true Γ mX9_isEater 1 0 0 [vq (some (9, 0)), vi a1] σ (QI K) := by
  refine Ct_intro (by decide +kernel) rfl ?_
  show M true Γ mX9_isEater 1 0 0 0 0 (QI K) 0 [some (vq (some (9, 0))), some (vi a1)] [] σ
  unfold f9_isEater at h
  refine r_iload_n 1 dX9_isEater_0 rfl rfl ?_
  refine r_i2l 2 dX9_isEater_1 rfl ?_
  refine r_lconst 0 3 dX9_isEater_2 rfl (by decide) ?_
  refine r_aload_n 4 dX9_isEater_3 rfl rfl ?_
  refine r_getI (x := fe9_78) 5 7 fl9_78 (by decide) dX9_isEater_4 rfl rfl rfl ?_
  refine r_iconst 1 8 dX9_isEater_7 rfl (by decide) ?_
  refine r_isub 9 dX9_isEater_8 rfl ?_
  refine r_i2l 10 dX9_isEater_9 rfl ?_
  refine c_I [vl a1.toInt64, vl 0, vl (((gI σ 9 0 5) - 1).toInt64)] [] 13 cs9_isEater_10 rfl h (fun _ h' => ct9_in h') rfl rfl rfl rfl (by decide) (Nat.le_refl 0) (Nat.le_refl 0) (fun v21 s22 h => ?_)
  obtain ⟨hc, h⟩ := Out_grd h
  exact r_zreturn dX9_isEater_13 rfl hc (Nat.le_refl 0) (Nat.le_refl 0) h

