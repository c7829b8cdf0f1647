/-! printed by wip/gen/dec.py: the methods meet their functions -/
set_option maxRecDepth 20000 in
set_option maxHeartbeats 4000000 in
theorem ctJ6_bitCount {Γ : GG} {K : Int32 × Sto → Prop} {a0 : Int32} {σ : Sto} (h : Out (fJ6_bitCount a0 σ) K) : Ct true Γ mJ6_bitCount 0 0 0 [vi a0] σ (QI K) := by
  refine Ct_intro (by decide +kernel) rfl ?_
  show M true Γ mJ6_bitCount 0 0 0 0 0 (QI K) 0 [some (vi a0)] [] σ
  unfold fJ6_bitCount at h
  refine r_iload_n 1 dJ6_bitCount_0f7a4_0 rfl rfl ?_
  refine r_iload_n 2 dJ6_bitCount_0f7a4_1 rfl rfl ?_
  refine r_iconst 1 3 dJ6_bitCount_0f7a4_2 rfl (by decide) ?_
  refine r_iushr 4 dJ6_bitCount_0f7a4_3 rfl ?_
  refine r_ldcw 1431655765 7 dJ6_bitCount_0f7a4_4 rfl w_24325c23 ?_
  refine r_iand 8 dJ6_bitCount_0f7a4_7 rfl ?_
  refine r_isub 9 dJ6_bitCount_0f7a4_8 rfl ?_
  refine r_istore_n [some (vi (a0 - (((a0.toUInt32 >>> ((1 : Int32).toUInt32 &&& Int32.toUInt32 31)).toInt32) &&& 1431655765)))] 10 dJ6_bitCount_0f7a4_9 rfl rfl rfl ?_
  refine r_iload_n 11 dJ6_bitCount_0f7a4_10 rfl rfl ?_
  refine r_ldcw 858993459 14 dJ6_bitCount_0f7a4_11 rfl w_a1ee814f ?_
  refine r_iand 15 dJ6_bitCount_0f7a4_14 rfl ?_
  refine r_iload_n 16 dJ6_bitCount_0f7a4_15 rfl rfl ?_
  refine r_iconst 2 17 dJ6_bitCount_0f7a4_16 rfl (by decide) ?_
  refine r_iushr 18 dJ6_bitCount_0f7a4_17 rfl ?_
  refine r_ldcw 858993459 21 dJ6_bitCount_0f7a4_18 rfl w_a1ee814f ?_
  refine r_iand 22 dJ6_bitCount_0f7a4_21 rfl ?_
  refine r_iadd 23 dJ6_bitCount_0f7a4_22 rfl ?_
  refine r_istore_n [some (vi (((a0 - (((a0.toUInt32 >>> ((1 : Int32).toUInt32 &&& Int32.toUInt32 31)).toInt32) &&& 1431655765)) &&& 858993459) + ((((a0 - (((a0.toUInt32 >>> ((1 : Int32).toUInt32 &&& Int32.toUInt32 31)).toInt32) &&& 1431655765)).toUInt32 >>> ((2 : Int32).toUInt32 &&& Int32.toUInt32 31)).toInt32) &&& 858993459)))] 24 dJ6_bitCount_0f7a4_23 rfl rfl rfl ?_
  refine r_iload_n 25 dJ6_bitCount_0f7a4_24 rfl rfl ?_
  refine r_iload_n 26 dJ6_bitCount_0f7a4_25 rfl rfl ?_
  refine r_iconst 4 27 dJ6_bitCount_0f7a4_26 rfl (by decide) ?_
  refine r_iushr 28 dJ6_bitCount_0f7a4_27 rfl ?_
  refine r_iadd 29 dJ6_bitCount_0f7a4_28 rfl ?_
  refine r_ldcw 252645135 32 dJ6_bitCount_0f7a4_29 rfl w_f192527b ?_
  refine r_iand 33 dJ6_bitCount_0f7a4_32 rfl ?_
  refine r_istore_n [some (vi (((((a0 - (((a0.toUInt32 >>> ((1 : Int32).toUInt32 &&& Int32.toUInt32 31)).toInt32) &&& 1431655765)) &&& 858993459) + ((((a0 - (((a0.toUInt32 >>> ((1 : Int32).toUInt32 &&& Int32.toUInt32 31)).toInt32) &&& 1431655765)).toUInt32 >>> ((2 : Int32).toUInt32 &&& Int32.toUInt32 31)).toInt32) &&& 858993459)) + (((((a0 - (((a0.toUInt32 >>> ((1 : Int32).toUInt32 &&& Int32.toUInt32 31)).toInt32) &&& 1431655765)) &&& 858993459) + ((((a0 - (((a0.toUInt32 >>> ((1 : Int32).toUInt32 &&& Int32.toUInt32 31)).toInt32) &&& 1431655765)).toUInt32 >>> ((2 : Int32).toUInt32 &&& Int32.toUInt32 31)).toInt32) &&& 858993459)).toUInt32 >>> ((4 : Int32).toUInt32 &&& Int32.toUInt32 31)).toInt32)) &&& 252645135))] 34 dJ6_bitCount_0f7a4_33 rfl rfl rfl ?_
  refine r_iload_n 35 dJ6_bitCount_0f7a4_34 rfl rfl ?_
  refine r_iload_n 36 dJ6_bitCount_0f7a4_35 rfl rfl ?_
  refine r_bipush 8 38 dJ6_bitCount_0f7a4_36 rfl (by decide) ?_
  refine r_iushr 39 dJ6_bitCount_0f7a4_38 rfl ?_
  refine r_iadd 40 dJ6_bitCount_0f7a4_39 rfl ?_
  refine r_istore_n [some (vi ((((((a0 - (((a0.toUInt32 >>> ((1 : Int32).toUInt32 &&& Int32.toUInt32 31)).toInt32) &&& 1431655765)) &&& 858993459) + ((((a0 - (((a0.toUInt32 >>> ((1 : Int32).toUInt32 &&& Int32.toUInt32 31)).toInt32) &&& 1431655765)).toUInt32 >>> ((2 : Int32).toUInt32 &&& Int32.toUInt32 31)).toInt32) &&& 858993459)) + (((((a0 - (((a0.toUInt32 >>> ((1 : Int32).toUInt32 &&& Int32.toUInt32 31)).toInt32) &&& 1431655765)) &&& 858993459) + ((((a0 - (((a0.toUInt32 >>> ((1 : Int32).toUInt32 &&& Int32.toUInt32 31)).toInt32) &&& 1431655765)).toUInt32 >>> ((2 : Int32).toUInt32 &&& Int32.toUInt32 31)).toInt32) &&& 858993459)).toUInt32 >>> ((4 : Int32).toUInt32 &&& Int32.toUInt32 31)).toInt32)) &&& 252645135) + (((((((a0 - (((a0.toUInt32 >>> ((1 : Int32).toUInt32 &&& Int32.toUInt32 31)).toInt32) &&& 1431655765)) &&& 858993459) + ((((a0 - (((a0.toUInt32 >>> ((1 : Int32).toUInt32 &&& Int32.toUInt32 31)).toInt32) &&& 1431655765)).toUInt32 >>> ((2 : Int32).toUInt32 &&& Int32.toUInt32 31)).toInt32) &&& 858993459)) + (((((a0 - (((a0.toUInt32 >>> ((1 : Int32).toUInt32 &&& Int32.toUInt32 31)).toInt32) &&& 1431655765)) &&& 858993459) + ((((a0 - (((a0.toUInt32 >>> ((1 : Int32).toUInt32 &&& Int32.toUInt32 31)).toInt32) &&& 1431655765)).toUInt32 >>> ((2 : Int32).toUInt32 &&& Int32.toUInt32 31)).toInt32) &&& 858993459)).toUInt32 >>> ((4 : Int32).toUInt32 &&& Int32.toUInt32 31)).toInt32)) &&& 252645135).toUInt32 >>> ((8 : Int32).toUInt32 &&& Int32.toUInt32 31)).toInt32)))] 41 dJ6_bitCount_0f7a4_40 rfl rfl rfl ?_
  refine r_iload_n 42 dJ6_bitCount_0f7a4_41 rfl rfl ?_
  refine r_iload_n 43 dJ6_bitCount_0f7a4_42 rfl rfl ?_
  refine r_bipush 16 45 dJ6_bitCount_0f7a4_43 rfl (by decide) ?_
  refine r_iushr 46 dJ6_bitCount_0f7a4_45 rfl ?_
  refine r_iadd 47 dJ6_bitCount_0f7a4_46 rfl ?_
  refine r_istore_n [some (vi (((((((a0 - (((a0.toUInt32 >>> ((1 : Int32).toUInt32 &&& Int32.toUInt32 31)).toInt32) &&& 1431655765)) &&& 858993459) + ((((a0 - (((a0.toUInt32 >>> ((1 : Int32).toUInt32 &&& Int32.toUInt32 31)).toInt32) &&& 1431655765)).toUInt32 >>> ((2 : Int32).toUInt32 &&& Int32.toUInt32 31)).toInt32) &&& 858993459)) + (((((a0 - (((a0.toUInt32 >>> ((1 : Int32).toUInt32 &&& Int32.toUInt32 31)).toInt32) &&& 1431655765)) &&& 858993459) + ((((a0 - (((a0.toUInt32 >>> ((1 : Int32).toUInt32 &&& Int32.toUInt32 31)).toInt32) &&& 1431655765)).toUInt32 >>> ((2 : Int32).toUInt32 &&& Int32.toUInt32 31)).toInt32) &&& 858993459)).toUInt32 >>> ((4 : Int32).toUInt32 &&& Int32.toUInt32 31)).toInt32)) &&& 252645135) + (((((((a0 - (((a0.toUInt32 >>> ((1 : Int32).toUInt32 &&& Int32.toUInt32 31)).toInt32) &&& 1431655765)) &&& 858993459) + ((((a0 - (((a0.toUInt32 >>> ((1 : Int32).toUInt32 &&& Int32.toUInt32 31)).toInt32) &&& 1431655765)).toUInt32 >>> ((2 : Int32).toUInt32 &&& Int32.toUInt32 31)).toInt32) &&& 858993459)) + (((((a0 - (((a0.toUInt32 >>> ((1 : Int32).toUInt32 &&& Int32.toUInt32 31)).toInt32) &&& 1431655765)) &&& 858993459) + ((((a0 - (((a0.toUInt32 >>> ((1 : Int32).toUInt32 &&& Int32.toUInt32 31)).toInt32) &&& 1431655765)).toUInt32 >>> ((2 : Int32).toUInt32 &&& Int32.toUInt32 31)).toInt32) &&& 858993459)).toUInt32 >>> ((4 : Int32).toUInt32 &&& Int32.toUInt32 31)).toInt32)) &&& 252645135).toUInt32 >>> ((8 : Int32).toUInt32 &&& Int32.toUInt32 31)).toInt32)) + ((((((((a0 - (((a0.toUInt32 >>> ((1 : Int32).toUInt32 &&& Int32.toUInt32 31)).toInt32) &&& 1431655765)) &&& 858993459) + ((((a0 - (((a0.toUInt32 >>> ((1 : Int32).toUInt32 &&& Int32.toUInt32 31)).toInt32) &&& 1431655765)).toUInt32 >>> ((2 : Int32).toUInt32 &&& Int32.toUInt32 31)).toInt32) &&& 858993459)) + (((((a0 - (((a0.toUInt32 >>> ((1 : Int32).toUInt32 &&& Int32.toUInt32 31)).toInt32) &&& 1431655765)) &&& 858993459) + ((((a0 - (((a0.toUInt32 >>> ((1 : Int32).toUInt32 &&& Int32.toUInt32 31)).toInt32) &&& 1431655765)).toUInt32 >>> ((2 : Int32).toUInt32 &&& Int32.toUInt32 31)).toInt32) &&& 858993459)).toUInt32 >>> ((4 : Int32).toUInt32 &&& Int32.toUInt32 31)).toInt32)) &&& 252645135) + (((((((a0 - (((a0.toUInt32 >>> ((1 : Int32).toUInt32 &&& Int32.toUInt32 31)).toInt32) &&& 1431655765)) &&& 858993459) + ((((a0 - (((a0.toUInt32 >>> ((1 : Int32).toUInt32 &&& Int32.toUInt32 31)).toInt32) &&& 1431655765)).toUInt32 >>> ((2 : Int32).toUInt32 &&& Int32.toUInt32 31)).toInt32) &&& 858993459)) + (((((a0 - (((a0.toUInt32 >>> ((1 : Int32).toUInt32 &&& Int32.toUInt32 31)).toInt32) &&& 1431655765)) &&& 858993459) + ((((a0 - (((a0.toUInt32 >>> ((1 : Int32).toUInt32 &&& Int32.toUInt32 31)).toInt32) &&& 1431655765)).toUInt32 >>> ((2 : Int32).toUInt32 &&& Int32.toUInt32 31)).toInt32) &&& 858993459)).toUInt32 >>> ((4 : Int32).toUInt32 &&& Int32.toUInt32 31)).toInt32)) &&& 252645135).toUInt32 >>> ((8 : Int32).toUInt32 &&& Int32.toUInt32 31)).toInt32)).toUInt32 >>> ((16 : Int32).toUInt32 &&& Int32.toUInt32 31)).toInt32)))] 48 dJ6_bitCount_0f7a4_47 rfl rfl rfl ?_
  refine r_iload_n 49 dJ6_bitCount_0f7a4_48 rfl rfl ?_
  refine r_bipush 63 51 dJ6_bitCount_0f7a4_49 rfl (by decide) ?_
  refine r_iand 52 dJ6_bitCount_0f7a4_51 rfl ?_
  exact r_ireturn dJ6_bitCount_0f7a4_52 rfl (Nat.le_refl 0) (Nat.le_refl 0) h

set_option maxRecDepth 20000 in
set_option maxHeartbeats 4000000 in
theorem tlJ7_fill_5 {Γ : GG} {K : Sto → Prop} {i0 : Nat} {a1 : Int32} : ∀ (n : Nat) (a2 : Int32) (σ : Sto), Out (lJ7_fill_5 i0 a1 n a2 σ) K → M true Γ mJ7_fill 0 0 0 0 0 (QV K) 5 [some (vq (some (19, i0))), some (vi a1), some (vi a2), some (vi 60)] [] σ := by
  intro n
  induction n with
  | zero => intro a2 σ h; exact absurd h Out_none
  | succ n ih =>
    intro a2 σ h
    unfold lJ7_fill_5 at h
    refine r_iload_n 6 dJ7_fill_53178_5 rfl rfl ?_
    refine r_iload_n 7 dJ7_fill_53178_6 rfl rfl ?_
    refine r_icmp_ge 20 10 dJ7_fill_53178_7 (by decide) rfl (fun hc => ?_) (fun hc => ?_)
    · replace h := Out_pos hc h
      exact r_return dJ7_fill_53178_20 rfl (Nat.le_refl 0) (Nat.le_refl 0) h
    · replace h := Out_neg hc h
      refine r_aload_n 11 dJ7_fill_53178_10 rfl rfl ?_
      refine r_iload_n 12 dJ7_fill_53178_11 rfl rfl ?_
      refine r_iload_n 13 dJ7_fill_53178_12 rfl rfl ?_
      obtain ⟨hc, h⟩ := Out_grd h
      refine r_iastore a2.toNatClampNeg 60 14 dJ7_fill_53178_13 rfl (by decide) (by decide) rfl rfl hc rfl ?_
      refine r_iinc 1 [some (vq (some (19, i0))), some (vi a1), some (vi (a2 + 1)), some (vi 60)] 17 dJ7_fill_53178_14 rfl (by decide) rfl rfl rfl ?_
      refine r_goto 5 dJ7_fill_53178_17 (by decide) ?_
      exact ih (a2 + 1) (sI σ 19 i0 a2.toNatClampNeg a1) h
set_option maxRecDepth 20000 in
set_option maxHeartbeats 4000000 in
theorem ctJ7_fill {Γ : GG} {K : Sto → Prop} {i0 : Nat} {a1 : Int32} {σ : Sto} (h : Out (fJ7_fill i0 a1 σ) K) : Ct true Γ mJ7_fill 0 0 0 [vq (some (19, i0)), vi a1] σ (QV K) := by
  refine Ct_intro (by decide +kernel) rfl ?_
  show M true Γ mJ7_fill 0 0 0 0 0 (QV K) 0 [some (vq (some (19, i0))), some (vi a1), none, none] [] σ
  unfold fJ7_fill at h
  refine r_iconst 0 1 dJ7_fill_53178_0 rfl (by decide) ?_
  refine r_istore_n [some (vq (some (19, i0))), some (vi a1), some (vi 0), none] 2 dJ7_fill_53178_1 rfl rfl rfl ?_
  refine r_aload_n 3 dJ7_fill_53178_2 rfl rfl ?_
  refine r_alen 60 4 dJ7_fill_53178_3 rfl (by decide) rfl ?_
  refine r_istore_n [some (vq (some (19, i0))), some (vi a1), some (vi 0), some (vi 60)] 5 dJ7_fill_53178_4 rfl rfl rfl ?_
  exact tlJ7_fill_5 300 0 σ h

set_option maxRecDepth 20000 in
set_option maxHeartbeats 4000000 in
theorem ct7_leave {Γ : GG} {K : Sto → Prop} {a1 : Int32} {σ : Sto} (h : Out (f7_leave a1 σ) K) : Ct true Γ mX7_leave 0 0 0 [vq (some (7, 0)), vi a1] σ (QV K) := by
  refine Ct_intro (by decide +kernel) rfl ?_
  show M true Γ mX7_leave 0 0 0 0 0 (QV K) 0 [some (vq (some (7, 0))), some (vi a1)] [] σ
  unfold f7_leave at h
  refine r_aload_n 1 dX7_leave_0 rfl rfl ?_
  refine r_bipush 31 3 dX7_leave_1 rfl (by decide) ?_
  refine r_aload_n 4 dX7_leave_3 rfl rfl ?_
  refine r_getI (x := fe7_7) 0 7 fl7_7 (by decide) dX7_leave_4 rfl rfl rfl ?_
  refine r_imul 8 dX7_leave_7 rfl ?_
  refine r_iload_n 9 dX7_leave_8 rfl rfl ?_
  refine r_iadd 10 dX7_leave_9 rfl ?_
  refine r_putI (x := fe7_7) 0 13 fl7_7 (by decide) dX7_leave_10 rfl (Or.inl rfl) rfl rfl ?_
  exact r_return dX7_leave_13 rfl (Nat.le_refl 0) (Nat.le_refl 0) h

set_option maxRecDepth 20000 in
set_option maxHeartbeats 4000000 in
theorem ct0_forkTelling_0 {Γ : GG} {K : Int32 × Sto → Prop} {i0 : Nat} {σ : Sto} (h : Out (f0_forkTelling_0 i0 σ) K) : Ct true Γ mX0_forkTelling 1 0 0 [vq (some (0, i0)), vq (some (7, 0))] σ (QI K) := by
  refine Ct_intro (by decide +kernel) rfl ?_
  show M true Γ mX0_forkTelling 1 0 0 0 0 (QI K) 0 [some (vq (some (0, i0))), some (vq (some (7, 0)))] [] σ
  unfold f0_forkTelling_0 at h
  refine r_aload_n 1 dX0_forkTelling_0 rfl rfl ?_
  refine r_iconst 1 2 dX0_forkTelling_1 rfl (by decide) ?_
  refine c_V [vq (some (7, 0)), vi 1] [] 5 cs0_forkTelling_2_0 rfl h (fun _ h' => ct7_leave h') rfl rfl rfl rfl (by decide) (Nat.le_refl 0) (Nat.le_refl 0) (fun s21 h => ?_)
  refine r_aload_n 6 dX0_forkTelling_5 rfl rfl ?_
  refine r_getI (x := fe0_13) 1 9 fl0_13 (by decide) dX0_forkTelling_6 rfl rfl rfl ?_
  exact r_ireturn dX0_forkTelling_9 rfl (Nat.le_refl 0) (Nat.le_refl 0) h

set_option maxRecDepth 20000 in
set_option maxHeartbeats 4000000 in
theorem ct0_forkTelling_1 {Γ : GG} {K : Int32 × Sto → Prop} {i0 : Nat} {σ : Sto} (h : Out (f0_forkTelling_1 i0 σ) K) : Ct true Γ mX0_forkTelling 1 0 0 [vq (some (1, i0)), vq (some (7, 0))] σ (QI K) := by
  refine Ct_intro (by decide +kernel) rfl ?_
  show M true Γ mX0_forkTelling 1 0 0 0 0 (QI K) 0 [some (vq (some (1, i0))), some (vq (some (7, 0)))] [] σ
  unfold f0_forkTelling_1 at h
  refine r_aload_n 1 dX0_forkTelling_0 rfl rfl ?_
  refine r_iconst 1 2 dX0_forkTelling_1 rfl (by decide) ?_
  refine c_V [vq (some (7, 0)), vi 1] [] 5 cs0_forkTelling_2_1 rfl h (fun _ h' => ct7_leave h') rfl rfl rfl rfl (by decide) (Nat.le_refl 0) (Nat.le_refl 0) (fun s21 h => ?_)
  refine r_aload_n 6 dX0_forkTelling_5 rfl rfl ?_
  refine r_getI (x := fe0_13) 1 9 fl0_13 (by decide) dX0_forkTelling_6 rfl rfl rfl ?_
  exact r_ireturn dX0_forkTelling_9 rfl (Nat.le_refl 0) (Nat.le_refl 0) h

set_option maxRecDepth 20000 in
set_option maxHeartbeats 4000000 in
theorem ct0_forkTelling_5 {Γ : GG} {K : Int32 × Sto → Prop} {i0 : Nat} {σ : Sto} (h : Out (f0_forkTelling_5 i0 σ) K) : Ct true Γ mX0_forkTelling 1 0 0 [vq (some (5, i0)), vq (some (7, 0))] σ (QI K) := by
  refine Ct_intro (by decide +kernel) rfl ?_
  show M true Γ mX0_forkTelling 1 0 0 0 0 (QI K) 0 [some (vq (some (5, i0))), some (vq (some (7, 0)))] [] σ
  unfold f0_forkTelling_5 at h
  refine r_aload_n 1 dX0_forkTelling_0 rfl rfl ?_
  refine r_iconst 1 2 dX0_forkTelling_1 rfl (by decide) ?_
  refine c_V [vq (some (7, 0)), vi 1] [] 5 cs0_forkTelling_2_5 rfl h (fun _ h' => ct7_leave h') rfl rfl rfl rfl (by decide) (Nat.le_refl 0) (Nat.le_refl 0) (fun s21 h => ?_)
  refine r_aload_n 6 dX0_forkTelling_5 rfl rfl ?_
  refine r_getI (x := fe0_13) 1 9 fl0_13 (by decide) dX0_forkTelling_6 rfl rfl rfl ?_
  exact r_ireturn dX0_forkTelling_9 rfl (Nat.le_refl 0) (Nat.le_refl 0) h

set_option maxRecDepth 20000 in
set_option maxHeartbeats 4000000 in
theorem ct0_kindNumber_0 {Γ : GG} {K : Int32 × Sto → Prop} {i0 : Nat} {σ : Sto} (h : Out (f0_kindNumber_0 i0 σ) K) : Ct true Γ mX0_kindNumber 0 0 0 [vq (some (0, i0))] σ (QI K) := by
  refine Ct_intro (by decide +kernel) rfl ?_
  show M true Γ mX0_kindNumber 0 0 0 0 0 (QI K) 0 [some (vq (some (0, i0)))] [] σ
  unfold f0_kindNumber_0 at h
  refine r_iconst 0 1 dX0_kindNumber_0 rfl (by decide) ?_
  exact r_ireturn dX0_kindNumber_1 rfl (Nat.le_refl 0) (Nat.le_refl 0) h

set_option maxRecDepth 20000 in
set_option maxHeartbeats 4000000 in
theorem ct0_polished_0 {Γ : GG} {K : Int32 × Sto → Prop} {i0 : Nat} {σ : Sto} (h : Out (f0_polished_0 i0 σ) K) : Ct true Γ mX0_polished 1 0 0 [vq (some (0, i0)), vq (some (7, 0))] σ (QI K) := by
  refine Ct_intro (by decide +kernel) rfl ?_
  show M true Γ mX0_polished 1 0 0 0 0 (QI K) 0 [some (vq (some (0, i0))), some (vq (some (7, 0)))] [] σ
  unfold f0_polished_0 at h
  refine r_aload_n 1 dX0_polished_0 rfl rfl ?_
  refine r_iconst 4 2 dX0_polished_1 rfl (by decide) ?_
  refine c_V [vq (some (7, 0)), vi 4] [] 5 cs0_polished_2_0 rfl h (fun _ h' => ct7_leave h') rfl rfl rfl rfl (by decide) (Nat.le_refl 0) (Nat.le_refl 0) (fun s21 h => ?_)
  refine r_aload_n 6 dX0_polished_5 rfl rfl ?_
  refine r_getI (x := fe0_7) 0 9 fl0_7 (by decide) dX0_polished_6 rfl rfl rfl ?_
  exact r_ireturn dX0_polished_9 rfl (Nat.le_refl 0) (Nat.le_refl 0) h

set_option maxRecDepth 20000 in
set_option maxHeartbeats 4000000 in
theorem ct0_polished_1 {Γ : GG} {K : Int32 × Sto → Prop} {i0 : Nat} {σ : Sto} (h : Out (f0_polished_1 i0 σ) K) : Ct true Γ mX0_polished 1 0 0 [vq (some (1, i0)), vq (some (7, 0))] σ (QI K) := by
  refine Ct_intro (by decide +kernel) rfl ?_
  show M true Γ mX0_polished 1 0 0 0 0 (QI K) 0 [some (vq (some (1, i0))), some (vq (some (7, 0)))] [] σ
  unfold f0_polished_1 at h
  refine r_aload_n 1 dX0_polished_0 rfl rfl ?_
  refine r_iconst 4 2 dX0_polished_1 rfl (by decide) ?_
  refine c_V [vq (some (7, 0)), vi 4] [] 5 cs0_polished_2_1 rfl h (fun _ h' => ct7_leave h') rfl rfl rfl rfl (by decide) (Nat.le_refl 0) (Nat.le_refl 0) (fun s21 h => ?_)
  refine r_aload_n 6 dX0_polished_5 rfl rfl ?_
  refine r_getI (x := fe0_7) 0 9 fl0_7 (by decide) dX0_polished_6 rfl rfl rfl ?_
  exact r_ireturn dX0_polished_9 rfl (Nat.le_refl 0) (Nat.le_refl 0) h

set_option maxRecDepth 20000 in
set_option maxHeartbeats 4000000 in
theorem ct0_pushForce_0 {Γ : GG} {K : Int32 × Sto → Prop} {i0 : Nat} {σ : Sto} (h : Out (f0_pushForce_0 i0 σ) K) : Ct true Γ mX0_pushForce 0 0 0 [vq (some (0, i0))] σ (QI K) := by
  refine Ct_intro (by decide +kernel) rfl ?_
  show M true Γ mX0_pushForce 0 0 0 0 0 (QI K) 0 [some (vq (some (0, i0)))] [] σ
  unfold f0_pushForce_0 at h
  refine r_aload_n 1 dX0_pushForce_0 rfl rfl ?_
  refine r_getI (x := fe0_13) 1 4 fl0_13 (by decide) dX0_pushForce_1 rfl rfl rfl ?_
  exact r_ireturn dX0_pushForce_4 rfl (Nat.le_refl 0) (Nat.le_refl 0) h

set_option maxRecDepth 20000 in
set_option maxHeartbeats 4000000 in
theorem ct0_telling_0 {Γ : GG} {K : Int32 × Sto → Prop} {i0 : Nat} {σ : Sto} (h : Out (f0_telling_0 i0 σ) K) : Ct true Γ mX0_telling 2 0 0 [vq (some (0, i0)), vq (some (7, 0))] σ (QI K) := by
  refine Ct_intro (by decide +kernel) rfl ?_
  show M true Γ mX0_telling 2 0 0 0 0 (QI K) 0 [some (vq (some (0, i0))), some (vq (some (7, 0)))] [] σ
  unfold f0_telling_0 at h
  refine r_aload_n 1 dX0_telling_0 rfl rfl ?_
  refine r_aload_n 2 dX0_telling_1 rfl rfl ?_
  refine c_I [vq (some (0, i0)), vq (some (7, 0))] [] 5 cs0_telling_2_0 rfl h (fun _ h' => ct0_forkTelling_0 h') rfl rfl rfl rfl (by decide) (Nat.le_refl 0) (Nat.le_refl 0) (fun v21 s22 h => ?_)
  exact r_ireturn dX0_telling_5 rfl (Nat.le_refl 0) (Nat.le_refl 0) h

set_option maxRecDepth 20000 in
set_option maxHeartbeats 4000000 in
theorem ct0_telling_1 {Γ : GG} {K : Int32 × Sto → Prop} {i0 : Nat} {σ : Sto} (h : Out (f0_telling_1 i0 σ) K) : Ct true Γ mX0_telling 2 0 0 [vq (some (1, i0)), vq (some (7, 0))] σ (QI K) := by
  refine Ct_intro (by decide +kernel) rfl ?_
  show M true Γ mX0_telling 2 0 0 0 0 (QI K) 0 [some (vq (some (1, i0))), some (vq (some (7, 0)))] [] σ
  unfold f0_telling_1 at h
  refine r_aload_n 1 dX0_telling_0 rfl rfl ?_
  refine r_aload_n 2 dX0_telling_1 rfl rfl ?_
  refine c_I [vq (some (1, i0)), vq (some (7, 0))] [] 5 cs0_telling_2_1 rfl h (fun _ h' => ct0_forkTelling_1 h') rfl rfl rfl rfl (by decide) (Nat.le_refl 0) (Nat.le_refl 0) (fun v21 s22 h => ?_)
  exact r_ireturn dX0_telling_5 rfl (Nat.le_refl 0) (Nat.le_refl 0) h

set_option maxRecDepth 20000 in
set_option maxHeartbeats 4000000 in
theorem ct0_telling_5 {Γ : GG} {K : Int32 × Sto → Prop} {i0 : Nat} {σ : Sto} (h : Out (f0_telling_5 i0 σ) K) : Ct true Γ mX0_telling 2 0 0 [vq (some (5, i0)), vq (some (7, 0))] σ (QI K) := by
  refine Ct_intro (by decide +kernel) rfl ?_
  show M true Γ mX0_telling 2 0 0 0 0 (QI K) 0 [some (vq (some (5, i0))), some (vq (some (7, 0)))] [] σ
  unfold f0_telling_5 at h
  refine r_aload_n 1 dX0_telling_0 rfl rfl ?_
  refine r_aload_n 2 dX0_telling_1 rfl rfl ?_
  refine c_I [vq (some (5, i0)), vq (some (7, 0))] [] 5 cs0_telling_2_5 rfl h (fun _ h' => ct0_forkTelling_5 h') rfl rfl rfl rfl (by decide) (Nat.le_refl 0) (Nat.le_refl 0) (fun v21 s22 h => ?_)
  exact r_ireturn dX0_telling_5 rfl (Nat.le_refl 0) (Nat.le_refl 0) h

set_option maxRecDepth 20000 in
set_option maxHeartbeats 4000000 in
theorem ct1_kindNumber_1 {Γ : GG} {K : Int32 × Sto → Prop} {i0 : Nat} {σ : Sto} (h : Out (f1_kindNumber_1 i0 σ) K) : Ct true Γ mX1_kindNumber 0 0 0 [vq (some (1, i0))] σ (QI K) := by
  refine Ct_intro (by decide +kernel) rfl ?_
  show M true Γ mX1_kindNumber 0 0 0 0 0 (QI K) 0 [some (vq (some (1, i0)))] [] σ
  unfold f1_kindNumber_1 at h
  refine r_iconst 1 1 dX1_kindNumber_0 rfl (by decide) ?_
  exact r_ireturn dX1_kindNumber_1 rfl (Nat.le_refl 0) (Nat.le_refl 0) h

set_option maxRecDepth 20000 in
set_option maxHeartbeats 4000000 in
theorem ct1_pushForce_1 {Γ : GG} {K : Int32 × Sto → Prop} {i0 : Nat} {σ : Sto} (h : Out (f1_pushForce_1 i0 σ) K) : Ct true Γ mX1_pushForce 0 0 0 [vq (some (1, i0))] σ (QI K) := by
  refine Ct_intro (by decide +kernel) rfl ?_
  show M true Γ mX1_pushForce 0 0 0 0 0 (QI K) 0 [some (vq (some (1, i0)))] [] σ
  unfold f1_pushForce_1 at h
  refine r_aload_n 1 dX1_pushForce_0 rfl rfl ?_
  refine r_getI (x := fe1_7) 1 4 fl1_7 (by decide) dX1_pushForce_1 rfl rfl rfl ?_
  refine r_iconst 1 5 dX1_pushForce_4 rfl (by decide) ?_
  refine r_iadd 6 dX1_pushForce_5 rfl ?_
  exact r_ireturn dX1_pushForce_6 rfl (Nat.le_refl 0) (Nat.le_refl 0) h

set_option maxRecDepth 20000 in
set_option maxHeartbeats 4000000 in
theorem ct1_pushForce_5 {Γ : GG} {K : Int32 × Sto → Prop} {i0 : Nat} {σ : Sto} (h : Out (f1_pushForce_5 i0 σ) K) : Ct true Γ mX1_pushForce 0 0 0 [vq (some (5, i0))] σ (QI K) := by
  refine Ct_intro (by decide +kernel) rfl ?_
  show M true Γ mX1_pushForce 0 0 0 0 0 (QI K) 0 [some (vq (some (5, i0)))] [] σ
  unfold f1_pushForce_5 at h
  refine r_aload_n 1 dX1_pushForce_0 rfl rfl ?_
  refine r_getI (x := fe1_7) 1 4 fl1_7 (by decide) dX1_pushForce_1 rfl rfl rfl ?_
  refine r_iconst 1 5 dX1_pushForce_4 rfl (by decide) ?_
  refine r_iadd 6 dX1_pushForce_5 rfl ?_
  exact r_ireturn dX1_pushForce_6 rfl (Nat.le_refl 0) (Nat.le_refl 0) h

set_option maxRecDepth 20000 in
set_option maxHeartbeats 4000000 in
theorem ct1_telling_1 {Γ : GG} {K : Int32 × Sto → Prop} {i0 : Nat} {σ : Sto} (h : Out (f1_telling_1 i0 σ) K) : Ct true Γ mX1_telling 3 0 0 [vq (some (1, i0)), vq (some (7, 0))] σ (QI K) := by
  refine Ct_intro (by decide +kernel) rfl ?_
  show M true Γ mX1_telling 3 0 0 0 0 (QI K) 0 [some (vq (some (1, i0))), some (vq (some (7, 0)))] [] σ
  unfold f1_telling_1 at h
  refine r_aload_n 1 dX1_telling_0 rfl rfl ?_
  refine r_iconst 2 2 dX1_telling_1 rfl (by decide) ?_
  refine c_V [vq (some (7, 0)), vi 2] [] 5 cs1_telling_2_1 rfl h (fun _ h' => ct7_leave h') rfl rfl rfl rfl (by decide) (Nat.le_refl 0) (Nat.le_refl 0) (fun s21 h => ?_)
  refine r_aload_n 6 dX1_telling_5 rfl rfl ?_
  refine r_aload_n 7 dX1_telling_6 rfl rfl ?_
  refine c_I [vq (some (1, i0)), vq (some (7, 0))] [] 10 cs1_telling_7_1 rfl h (fun _ h' => ct0_telling_1 h') rfl rfl rfl rfl (by decide) (Nat.le_refl 0) (Nat.le_refl 0) (fun v22 s23 h => ?_)
  refine r_bipush 100 12 dX1_telling_10 rfl (by decide) ?_
  refine r_iadd 13 dX1_telling_12 rfl ?_
  exact r_ireturn dX1_telling_13 rfl (Nat.le_refl 0) (Nat.le_refl 0) h

set_option maxRecDepth 20000 in
set_option maxHeartbeats 4000000 in
theorem ct1_telling_5 {Γ : GG} {K : Int32 × Sto → Prop} {i0 : Nat} {σ : Sto} (h : Out (f1_telling_5 i0 σ) K) : Ct true Γ mX1_telling 3 0 0 [vq (some (5, i0)), vq (some (7, 0))] σ (QI K) := by
  refine Ct_intro (by decide +kernel) rfl ?_
  show M true Γ mX1_telling 3 0 0 0 0 (QI K) 0 [some (vq (some (5, i0))), some (vq (some (7, 0)))] [] σ
  unfold f1_telling_5 at h
  refine r_aload_n 1 dX1_telling_0 rfl rfl ?_
  refine r_iconst 2 2 dX1_telling_1 rfl (by decide) ?_
  refine c_V [vq (some (7, 0)), vi 2] [] 5 cs1_telling_2_5 rfl h (fun _ h' => ct7_leave h') rfl rfl rfl rfl (by decide) (Nat.le_refl 0) (Nat.le_refl 0) (fun s21 h => ?_)
  refine r_aload_n 6 dX1_telling_5 rfl rfl ?_
  refine r_aload_n 7 dX1_telling_6 rfl rfl ?_
  refine c_I [vq (some (5, i0)), vq (some (7, 0))] [] 10 cs1_telling_7_5 rfl h (fun _ h' => ct0_telling_5 h') rfl rfl rfl rfl (by decide) (Nat.le_refl 0) (Nat.le_refl 0) (fun v22 s23 h => ?_)
  refine r_bipush 100 12 dX1_telling_10 rfl (by decide) ?_
  refine r_iadd 13 dX1_telling_12 rfl ?_
  exact r_ireturn dX1_telling_13 rfl (Nat.le_refl 0) (Nat.le_refl 0) h

set_option maxRecDepth 20000 in
set_option maxHeartbeats 4000000 in
theorem ct8_isBelow {Γ : GG} {K : Int32 × Sto → Prop} {a0 : Int32} {a1 : Int32} {σ : Sto} (h : Out (f8_isBelow a0 a1 σ) K) : Ct true Γ mX8_isBelow 0 0 0 [vi a0, vi a1] σ (QI K) := by
  refine Ct_intro (by decide +kernel) rfl ?_
  show M true Γ mX8_isBelow 0 0 0 0 0 (QI K) 0 [some (vi a0), some (vi a1)] [] σ
  unfold f8_isBelow at h
  refine r_iload_n 1 dX8_isBelow_0 rfl rfl ?_
  refine r_if_lt 13 4 dX8_isBelow_1 (by decide) rfl (fun hc => ?_) (fun hc => ?_)
  · replace h := Out_pos hc h
    refine r_iconst 0 14 dX8_isBelow_13 rfl (by decide) ?_
    exact r_zreturn dX8_isBelow_14 rfl (by decide) (Nat.le_refl 0) (Nat.le_refl 0) h
  · replace h := Out_neg hc h
    refine r_iload_n 5 dX8_isBelow_4 rfl rfl ?_
    refine r_iload_n 6 dX8_isBelow_5 rfl rfl ?_
    refine r_icmp_ge 13 9 dX8_isBelow_6 (by decide) rfl (fun hc => ?_) (fun hc => ?_)
    · replace h := Out_pos hc h
      refine r_iconst 0 14 dX8_isBelow_13 rfl (by decide) ?_
      exact r_zreturn dX8_isBelow_14 rfl (by decide) (Nat.le_refl 0) (Nat.le_refl 0) h
    · replace h := Out_neg hc h
      refine r_iconst 1 10 dX8_isBelow_9 rfl (by decide) ?_
      refine r_goto 14 dX8_isBelow_10 (by decide) ?_
      exact r_zreturn dX8_isBelow_14 rfl (by decide) (Nat.le_refl 0) (Nat.le_refl 0) h

set_option maxRecDepth 20000 in
set_option maxHeartbeats 4000000 in
theorem ct2_hasSquare {Γ : GG} {K : Int32 × Sto → Prop} {i0 : Nat} {a1 : Int32} {σ : Sto} (h : Out (f2_hasSquare i0 a1 σ) K) : Ct true Γ mX2_hasSquare 1 0 0 [vq (some (2, i0)), vi a1] σ (QI K) := by
  refine Ct_intro (by decide +kernel) rfl ?_
  show M true Γ mX2_hasSquare 1 0 0 0 0 (QI K) 0 [some (vq (some (2, i0))), some (vi a1)] [] σ
  unfold f2_hasSquare at h
  refine r_iload_n 1 dX2_hasSquare_0 rfl rfl ?_
  refine r_aload_n 2 dX2_hasSquare_1 rfl rfl ?_
  refine r_getI (x := fe2_37) 11 5 fl2_37 (by decide) dX2_hasSquare_2 rfl rfl rfl ?_
  refine c_I [vi a1, vi (gI σ 2 i0 11)] [] 8 cs2_hasSquare_5 rfl h (fun _ h' => ct8_isBelow h') rfl rfl rfl rfl (by decide) (Nat.le_refl 0) (Nat.le_refl 0) (fun v21 s22 h => ?_)
  obtain ⟨hc, h⟩ := Out_grd h
  exact r_zreturn dX2_hasSquare_8 rfl hc (Nat.le_refl 0) (Nat.le_refl 0) h

set_option maxRecDepth 20000 in
set_option maxHeartbeats 4000000 in
theorem ct2_changeSign {Γ : GG} {K : Sto → Prop} {i0 : Nat} {a1 : Int32} {a2 : Int32} {σ : Sto} (h : Out (f2_changeSign i0 a1 a2 σ) K) : Ct true Γ mX2_changeSign 2 0 0 [vq (some (2, i0)), vi a1, vi a2] σ (QV K) := by
  refine Ct_intro (by decide +kernel) rfl ?_
  show M true Γ mX2_changeSign 2 0 0 0 0 (QV K) 0 [some (vq (some (2, i0))), some (vi a1), some (vi a2)] [] σ
  unfold f2_changeSign at h
  refine r_aload_n 1 dX2_changeSign_0 rfl rfl ?_
  refine r_iload_n 2 dX2_changeSign_1 rfl rfl ?_
  refine c_I [vq (some (2, i0)), vi a1] [] 5 cs2_changeSign_2 rfl h (fun _ h' => ct2_hasSquare h') rfl rfl rfl rfl (by decide) (Nat.le_refl 0) (Nat.le_refl 0) (fun v21 s22 h => ?_)
  refine r_if_eq 15 8 dX2_changeSign_5 (by decide) rfl (fun hc => ?_) (fun hc => ?_)
  · replace h := Out_pos hc h
    exact r_return dX2_changeSign_15 rfl (Nat.le_refl 0) (Nat.le_refl 0) h
  · replace h := Out_neg hc h
    refine r_aload_n 9 dX2_changeSign_8 rfl rfl ?_
    refine r_getF (x := fe2_15) 6 (11, i0) 12 fl2_15 (by decide) dX2_changeSign_9 rfl rfl rfl rfl ?_
    refine r_iload_n 13 dX2_changeSign_12 rfl rfl ?_
    refine r_iload_n 14 dX2_changeSign_13 rfl rfl ?_
    obtain ⟨hc, h⟩ := Out_grd h
    refine r_iastore a1.toNatClampNeg 30 15 dX2_changeSign_14 rfl (by decide) (by decide) rfl rfl hc rfl ?_
    exact r_return dX2_changeSign_15 rfl (Nat.le_refl 0) (Nat.le_refl 0) h

set_option maxRecDepth 20000 in
set_option maxHeartbeats 4000000 in
theorem ct2_eaterAt {Γ : GG} {K : Option MA × Sto → Prop} {i0 : Nat} {a1 : Int32} {σ : Sto} (h : Out (f2_eaterAt i0 a1 σ) K) : Ct true Γ mX2_eaterAt 1 0 0 [vq (some (2, i0)), vi a1] σ (QR K) := by
  refine Ct_intro (by decide +kernel) rfl ?_
  show M true Γ mX2_eaterAt 1 0 0 0 0 (QR K) 0 [some (vq (some (2, i0))), some (vi a1)] [] σ
  unfold f2_eaterAt at h
  refine r_iload_n 1 dX2_eaterAt_0 rfl rfl ?_
  refine r_aload_n 2 dX2_eaterAt_1 rfl rfl ?_
  refine r_getI (x := fe2_33) 3 5 fl2_33 (by decide) dX2_eaterAt_2 rfl rfl rfl ?_
  refine c_I [vi a1, vi (gI σ 2 i0 3)] [] 8 cs2_eaterAt_5 rfl h (fun _ h' => ct8_isBelow h') rfl rfl rfl rfl (by decide) (Nat.le_refl 0) (Nat.le_refl 0) (fun v21 s22 h => ?_)
  refine r_if_eq 20 11 dX2_eaterAt_8 (by decide) rfl (fun hc => ?_) (fun hc => ?_)
  · replace h := Out_pos hc h
    refine r_null 21 dX2_eaterAt_20 rfl ?_
    exact r_areturn dX2_eaterAt_21 rfl (Nat.le_refl 0) (Nat.le_refl 0) h
  · replace h := Out_neg hc h
    refine r_aload_n 12 dX2_eaterAt_11 rfl rfl ?_
    refine r_getF (x := fe2_23) 8 (13, i0) 15 fl2_23 (by decide) dX2_eaterAt_12 rfl rfl rfl rfl ?_
    refine r_iload_n 16 dX2_eaterAt_15 rfl rfl ?_
    obtain ⟨hc, h⟩ := Out_grd h
    refine r_aaload (gR s22 13 i0 a1.toNatClampNeg) a1.toNatClampNeg 2 17 dX2_eaterAt_16 rfl (by decide) rfl rfl hc rfl rfl ?_
    refine r_goto 21 dX2_eaterAt_17 (by decide) ?_
    exact r_areturn dX2_eaterAt_21 rfl (Nat.le_refl 0) (Nat.le_refl 0) h

set_option maxRecDepth 20000 in
set_option maxHeartbeats 4000000 in
theorem ct2_hasPea {Γ : GG} {K : Int32 × Sto → Prop} {i0 : Nat} {a1 : Int32} {σ : Sto} (h : Out (f2_hasPea i0 a1 σ) K) : Ct true Γ mX2_hasPea 1 0 0 [vq (some (2, i0)), vi a1] σ (QI K) := by
  refine Ct_intro (by decide +kernel) rfl ?_
  show M true Γ mX2_hasPea 1 0 0 0 0 (QI K) 0 [some (vq (some (2, i0))), some (vi a1)] [] σ
  unfold f2_hasPea at h
  refine r_iload_n 1 dX2_hasPea_0 rfl rfl ?_
  refine r_aload_n 2 dX2_hasPea_1 rfl rfl ?_
  refine r_getI (x := fe2_44) 2 5 fl2_44 (by decide) dX2_hasPea_2 rfl rfl rfl ?_
  refine c_I [vi a1, vi (gI σ 2 i0 2)] [] 8 cs2_hasPea_5 rfl h (fun _ h' => ct8_isBelow h') rfl rfl rfl rfl (by decide) (Nat.le_refl 0) (Nat.le_refl 0) (fun v21 s22 h => ?_)
  obtain ⟨hc, h⟩ := Out_grd h
  exact r_zreturn dX2_hasPea_8 rfl hc (Nat.le_refl 0) (Nat.le_refl 0) h

set_option maxRecDepth 20000 in
set_option maxHeartbeats 4000000 in
theorem ct8_peaOf {Γ : GG} {K : Int32 × Sto → Prop} {a0 : Int32} {σ : Sto} (h : Out (f8_peaOf a0 σ) K) : Ct true Γ mX8_peaOf 0 0 0 [vi a0] σ (QI K) := by
  refine Ct_intro (by decide +kernel) rfl ?_
  show M true Γ mX8_peaOf 0 0 0 0 0 (QI K) 0 [some (vi a0)] [] σ
  unfold f8_peaOf at h
  refine r_iload_n 1 dX8_peaOf_0 rfl rfl ?_
  refine r_bipush 10 3 dX8_peaOf_1 rfl (by decide) ?_
  refine r_idiv 4 dX8_peaOf_3 rfl (by decide) ?_
  refine r_bipush 10 6 dX8_peaOf_4 rfl (by decide) ?_
  refine r_irem 7 dX8_peaOf_6 rfl (by decide) ?_
  exact r_ireturn dX8_peaOf_7 rfl (Nat.le_refl 0) (Nat.le_refl 0) h

set_option maxRecDepth 20000 in
set_option maxHeartbeats 4000000 in
theorem ct2_isCode {Γ : GG} {K : Int32 × Sto → Prop} {i0 : Nat} {a1 : Int32} {σ : Sto} (h : Out (f2_isCode i0 a1 σ) K) : Ct true Γ mX2_isCode 2 0 0 [vq (some (2, i0)), vi a1] σ (QI K) := by
  refine Ct_intro (by decide +kernel) rfl ?_
  show M true Γ mX2_isCode 2 0 0 0 0 (QI K) 0 [some (vq (some (2, i0))), some (vi a1)] [] σ
  unfold f2_isCode at h
  refine r_iload_n 1 dX2_isCode_0 rfl rfl ?_
  refine r_if_lt 44 4 dX2_isCode_1 (by decide) rfl (fun hc => ?_) (fun hc => ?_)
  · replace h := Out_pos hc h
    refine r_iconst 0 45 dX2_isCode_44 rfl (by decide) ?_
    exact r_zreturn dX2_isCode_45 rfl (by decide) (Nat.le_refl 0) (Nat.le_refl 0) h
  · replace h := Out_neg hc h
    refine r_iload_n 5 dX2_isCode_4 rfl rfl ?_
    refine r_bipush 100 7 dX2_isCode_5 rfl (by decide) ?_
    refine r_idiv 8 dX2_isCode_7 rfl (by decide) ?_
    refine r_aload_n 9 dX2_isCode_8 rfl rfl ?_
    refine r_getI (x := fe2_33) 3 12 fl2_33 (by decide) dX2_isCode_9 rfl rfl rfl ?_
    refine c_I [vi (a1 / 100), vi (gI σ 2 i0 3)] [] 15 cs2_isCode_12 rfl h (fun _ h' => ct8_isBelow h') rfl rfl rfl rfl (by decide) (Nat.le_refl 0) (Nat.le_refl 0) (fun v21 s22 h => ?_)
    refine r_if_eq 44 18 dX2_isCode_15 (by decide) rfl (fun hc => ?_) (fun hc => ?_)
    · replace h := Out_pos hc h
      refine r_iconst 0 45 dX2_isCode_44 rfl (by decide) ?_
      exact r_zreturn dX2_isCode_45 rfl (by decide) (Nat.le_refl 0) (Nat.le_refl 0) h
    · replace h := Out_neg hc h
      refine r_aload_n 19 dX2_isCode_18 rfl rfl ?_
      refine r_iload_n 20 dX2_isCode_19 rfl rfl ?_
      refine c_I [vi a1] [vq (some (2, i0))] 23 cs2_isCode_20 rfl h (fun _ h' => ct8_peaOf h') rfl rfl rfl rfl (by decide) (Nat.le_refl 0) (Nat.le_refl 0) (fun v23 s24 h => ?_)
      refine c_I [vq (some (2, i0)), vi v23] [] 26 cs2_isCode_23 rfl h (fun _ h' => ct2_hasPea h') rfl rfl rfl rfl (by decide) (Nat.le_refl 0) (Nat.le_refl 0) (fun v25 s26 h => ?_)
      refine r_if_eq 44 29 dX2_isCode_26 (by decide) rfl (fun hc => ?_) (fun hc => ?_)
      · replace h := Out_pos hc h
        refine r_iconst 0 45 dX2_isCode_44 rfl (by decide) ?_
        exact r_zreturn dX2_isCode_45 rfl (by decide) (Nat.le_refl 0) (Nat.le_refl 0) h
      · replace h := Out_neg hc h
        refine r_iload_n 30 dX2_isCode_29 rfl rfl ?_
        refine r_bipush 10 32 dX2_isCode_30 rfl (by decide) ?_
        refine r_irem 33 dX2_isCode_32 rfl (by decide) ?_
        refine r_iconst 4 34 dX2_isCode_33 rfl (by decide) ?_
        refine c_I [vi (a1 - a1 / 10 * 10), vi 4] [] 37 cs2_isCode_34 rfl h (fun _ h' => ct8_isBelow h') rfl rfl rfl rfl (by decide) (Nat.le_refl 0) (Nat.le_refl 0) (fun v27 s28 h => ?_)
        refine r_if_eq 44 40 dX2_isCode_37 (by decide) rfl (fun hc => ?_) (fun hc => ?_)
        · replace h := Out_pos hc h
          refine r_iconst 0 45 dX2_isCode_44 rfl (by decide) ?_
          exact r_zreturn dX2_isCode_45 rfl (by decide) (Nat.le_refl 0) (Nat.le_refl 0) h
        · replace h := Out_neg hc h
          refine r_iconst 1 41 dX2_isCode_40 rfl (by decide) ?_
          refine r_goto 45 dX2_isCode_41 (by decide) ?_
          exact r_zreturn dX2_isCode_45 rfl (by decide) (Nat.le_refl 0) (Nat.le_refl 0) h

set_option maxRecDepth 20000 in
set_option maxHeartbeats 4000000 in
theorem ct2_isLaid {Γ : GG} {K : Int32 × Sto → Prop} {i0 : Nat} {σ : Sto} (h : Out (f2_isLaid i0 σ) K) : Ct true Γ mX2_isLaid 0 0 0 [vq (some (2, i0))] σ (QI K) := by
  refine Ct_intro (by decide +kernel) rfl ?_
  show M true Γ mX2_isLaid 0 0 0 0 0 (QI K) 0 [some (vq (some (2, i0)))] [] σ
  unfold f2_isLaid at h
  refine r_aload_n 1 dX2_isLaid_0 rfl rfl ?_
  refine r_getI (x := fe2_33) 3 4 fl2_33 (by decide) dX2_isLaid_1 rfl rfl rfl ?_
  refine r_if_le 11 7 dX2_isLaid_4 (by decide) rfl (fun hc => ?_) (fun hc => ?_)
  · replace h := Out_pos hc h
    refine r_iconst 0 12 dX2_isLaid_11 rfl (by decide) ?_
    exact r_zreturn dX2_isLaid_12 rfl (by decide) (Nat.le_refl 0) (Nat.le_refl 0) h
  · replace h := Out_neg hc h
    refine r_iconst 1 8 dX2_isLaid_7 rfl (by decide) ?_
    refine r_goto 12 dX2_isLaid_8 (by decide) ?_
    exact r_zreturn dX2_isLaid_12 rfl (by decide) (Nat.le_refl 0) (Nat.le_refl 0) h

set_option maxRecDepth 20000 in
set_option maxHeartbeats 4000000 in
theorem ct8_codeOf {Γ : GG} {K : Int32 × Sto → Prop} {a0 : Int32} {a1 : Int32} {a2 : Int32} {σ : Sto} (h : Out (f8_codeOf a0 a1 a2 σ) K) : Ct true Γ mX8_codeOf 0 0 0 [vi a0, vi a1, vi a2] σ (QI K) := by
  refine Ct_intro (by decide +kernel) rfl ?_
  show M true Γ mX8_codeOf 0 0 0 0 0 (QI K) 0 [some (vi a0), some (vi a1), some (vi a2)] [] σ
  unfold f8_codeOf at h
  refine r_bipush 100 2 dX8_codeOf_0 rfl (by decide) ?_
  refine r_iload_n 3 dX8_codeOf_2 rfl rfl ?_
  refine r_imul 4 dX8_codeOf_3 rfl ?_
  refine r_bipush 10 6 dX8_codeOf_4 rfl (by decide) ?_
  refine r_iload_n 7 dX8_codeOf_6 rfl rfl ?_
  refine r_imul 8 dX8_codeOf_7 rfl ?_
  refine r_iadd 9 dX8_codeOf_8 rfl ?_
  refine r_iload_n 10 dX8_codeOf_9 rfl rfl ?_
  refine r_iadd 11 dX8_codeOf_10 rfl ?_
  exact r_ireturn dX8_codeOf_11 rfl (Nat.le_refl 0) (Nat.le_refl 0) h

set_option maxRecDepth 20000 in
set_option maxHeartbeats 4000000 in
theorem tl2_listCodes_22 {Γ : GG} {K : Sto → Prop} {k : Int32 → Sto → Option (Sto)} {i0 : Nat} {a1 : Int32} {a2 : Int32} (hx : ∀ (a3 : Int32) (σ : Sto), Out (k a3 σ) K → M true Γ mX2_listCodes 1 0 0 0 0 (QV K) 67 [some (vq (some (2, i0))), some (vi a1), some (vi a2), some (vi a3)] [] σ) : ∀ (n : Nat) (a3 : Int32) (σ : Sto), Out (l2_listCodes_22 k i0 a1 a2 n a3 σ) K → M true Γ mX2_listCodes 1 0 0 0 0 (QV K) 22 [some (vq (some (2, i0))), some (vi a1), some (vi a2), some (vi a3)] [] σ := by
  intro n
  induction n with
  | zero => intro a3 σ h; exact absurd h Out_none
  | succ n ih =>
    intro a3 σ h
    unfold l2_listCodes_22 at h
    refine r_iload_n 23 dX2_listCodes_22 rfl rfl ?_
    refine r_iconst 4 24 dX2_listCodes_23 rfl (by decide) ?_
    refine r_icmp_ge 67 27 dX2_listCodes_24 (by decide) rfl (fun hc => ?_) (fun hc => ?_)
    · replace h := Out_pos hc h
      exact hx a3 σ h
    · replace h := Out_neg hc h
      refine r_aload_n 28 dX2_listCodes_27 rfl rfl ?_
      refine r_getI (x := fe2_92) 4 31 fl2_92 (by decide) dX2_listCodes_28 rfl rfl rfl ?_
      refine r_bipush 40 33 dX2_listCodes_31 rfl (by decide) ?_
      refine r_icmp_ge 67 36 dX2_listCodes_33 (by decide) rfl (fun hc => ?_) (fun hc => ?_)
      · replace h := Out_pos hc h
        exact hx a3 σ h
      · replace h := Out_neg hc h
        refine r_aload_n 37 dX2_listCodes_36 rfl rfl ?_
        refine r_getF (x := fe2_9) 5 (10, i0) 40 fl2_9 (by decide) dX2_listCodes_37 rfl rfl rfl rfl ?_
        refine r_aload_n 41 dX2_listCodes_40 rfl rfl ?_
        refine r_getI (x := fe2_92) 4 44 fl2_92 (by decide) dX2_listCodes_41 rfl rfl rfl ?_
        refine r_iload_n 45 dX2_listCodes_44 rfl rfl ?_
        refine r_iload_n 46 dX2_listCodes_45 rfl rfl ?_
        refine r_iload_n 47 dX2_listCodes_46 rfl rfl ?_
        refine c_I [vi a1, vi a2, vi a3] [vi (gI σ 2 i0 4), vq (some (10, i0))] 50 cs2_listCodes_47 rfl h (fun _ h' => ct8_codeOf h') rfl rfl rfl rfl (by decide) (Nat.le_refl 0) (Nat.le_refl 0) (fun v21 s22 h => ?_)
        obtain ⟨hc, h⟩ := Out_grd h
        refine r_iastore (gI σ 2 i0 4).toNatClampNeg 40 51 dX2_listCodes_50 rfl (by decide) (by decide) rfl rfl hc rfl ?_
        refine r_aload_n 52 dX2_listCodes_51 rfl rfl ?_
        refine r_dup 53 dX2_listCodes_52 rfl rfl ?_
        refine r_getI (x := fe2_92) 4 56 fl2_92 (by decide) dX2_listCodes_53 rfl rfl rfl ?_
        refine r_iconst 1 57 dX2_listCodes_56 rfl (by decide) ?_
        refine r_iadd 58 dX2_listCodes_57 rfl ?_
        refine r_putI (x := fe2_92) 4 61 fl2_92 (by decide) dX2_listCodes_58 rfl (Or.inl rfl) rfl rfl ?_
        refine r_iinc 1 [some (vq (some (2, i0))), some (vi a1), some (vi a2), some (vi (a3 + 1))] 64 dX2_listCodes_61 rfl (by decide) rfl rfl rfl ?_
        refine r_goto 22 dX2_listCodes_64 (by decide) ?_
        exact ih (a3 + 1) (sI (sI s22 10 i0 (gI σ 2 i0 4).toNatClampNeg v21) 2 i0 4 ((gI (sI s22 10 i0 (gI σ 2 i0 4).toNatClampNeg v21) 2 i0 4) + 1)) h
set_option maxRecDepth 20000 in
set_option maxHeartbeats 4000000 in
theorem tl2_listCodes_12 {Γ : GG} {K : Sto → Prop} {k : Int32 → Sto → Option (Sto)} {i0 : Nat} {a1 : Int32} (hx : ∀ (a2 : Int32) (σ : Sto), Out (k a2 σ) K → M true Γ mX2_listCodes 1 0 0 0 0 (QV K) 73 [some (vq (some (2, i0))), some (vi a1), some (vi a2), none] [] σ) : ∀ (n : Nat) (a2 : Int32) (σ : Sto), Out (l2_listCodes_12 k i0 a1 n a2 σ) K → M true Γ mX2_listCodes 1 0 0 0 0 (QV K) 12 [some (vq (some (2, i0))), some (vi a1), some (vi a2), none] [] σ := by
  intro n
  induction n with
  | zero => intro a2 σ h; exact absurd h Out_none
  | succ n ih =>
    intro a2 σ h
    unfold l2_listCodes_12 at h
    refine r_iload_n 13 dX2_listCodes_12 rfl rfl ?_
    refine r_aload_n 14 dX2_listCodes_13 rfl rfl ?_
    refine r_getI (x := fe2_44) 2 17 fl2_44 (by decide) dX2_listCodes_14 rfl rfl rfl ?_
    refine r_icmp_ge 73 20 dX2_listCodes_17 (by decide) rfl (fun hc => ?_) (fun hc => ?_)
    · replace h := Out_pos hc h
      exact hx a2 σ h
    · replace h := Out_neg hc h
      refine r_iconst 0 21 dX2_listCodes_20 rfl (by decide) ?_
      refine r_istore_n [some (vq (some (2, i0))), some (vi a1), some (vi a2), some (vi 0)] 22 dX2_listCodes_21 rfl rfl rfl ?_
      refine tl2_listCodes_22 (fun v23 s24 h => ?_) 300 0 σ h
      refine r_iinc 1 [some (vq (some (2, i0))), some (vi a1), some (vi (a2 + 1)), some (vi v23)] 70 dX2_listCodes_67 rfl (by decide) rfl rfl rfl ?_
      refine r_goto 12 dX2_listCodes_70 (by decide) ?_
      refine r_mask [true, true, true, false] [some (vq (some (2, i0))), some (vi a1), some (vi (a2 + 1)), none] rfl rfl ?_
      exact ih (a2 + 1) s24 h
set_option maxRecDepth 20000 in
set_option maxHeartbeats 4000000 in
theorem tl2_listCodes_2 {Γ : GG} {K : Sto → Prop} {i0 : Nat} : ∀ (n : Nat) (a1 : Int32) (σ : Sto), Out (l2_listCodes_2 i0 n a1 σ) K → M true Γ mX2_listCodes 1 0 0 0 0 (QV K) 2 [some (vq (some (2, i0))), some (vi a1), none, none] [] σ := by
  intro n
  induction n with
  | zero => intro a1 σ h; exact absurd h Out_none
  | succ n ih =>
    intro a1 σ h
    unfold l2_listCodes_2 at h
    refine r_iload_n 3 dX2_listCodes_2 rfl rfl ?_
    refine r_aload_n 4 dX2_listCodes_3 rfl rfl ?_
    refine r_getI (x := fe2_33) 3 7 fl2_33 (by decide) dX2_listCodes_4 rfl rfl rfl ?_
    refine r_icmp_ge 79 10 dX2_listCodes_7 (by decide) rfl (fun hc => ?_) (fun hc => ?_)
    · replace h := Out_pos hc h
      exact r_return dX2_listCodes_79 rfl (Nat.le_refl 0) (Nat.le_refl 0) h
    · replace h := Out_neg hc h
      refine r_iconst 0 11 dX2_listCodes_10 rfl (by decide) ?_
      refine r_istore_n [some (vq (some (2, i0))), some (vi a1), some (vi 0), none] 12 dX2_listCodes_11 rfl rfl rfl ?_
      refine tl2_listCodes_12 (fun v25 s26 h => ?_) 300 0 σ h
      refine r_iinc 1 [some (vq (some (2, i0))), some (vi (a1 + 1)), some (vi v25), none] 76 dX2_listCodes_73 rfl (by decide) rfl rfl rfl ?_
      refine r_goto 2 dX2_listCodes_76 (by decide) ?_
      refine r_mask [true, true, false, false] [some (vq (some (2, i0))), some (vi (a1 + 1)), none, none] rfl rfl ?_
      exact ih (a1 + 1) s26 h
set_option maxRecDepth 20000 in
set_option maxHeartbeats 4000000 in
theorem ct2_listCodes {Γ : GG} {K : Sto → Prop} {i0 : Nat} {σ : Sto} (h : Out (f2_listCodes i0 σ) K) : Ct true Γ mX2_listCodes 1 0 0 [vq (some (2, i0))] σ (QV K) := by
  refine Ct_intro (by decide +kernel) rfl ?_
  show M true Γ mX2_listCodes 1 0 0 0 0 (QV K) 0 [some (vq (some (2, i0))), none, none, none] [] σ
  unfold f2_listCodes at h
  refine r_iconst 0 1 dX2_listCodes_0 rfl (by decide) ?_
  refine r_istore_n [some (vq (some (2, i0))), some (vi 0), none, none] 2 dX2_listCodes_1 rfl rfl rfl ?_
  exact tl2_listCodes_2 300 0 σ h

set_option maxRecDepth 20000 in
set_option maxHeartbeats 4000000 in
theorem ct2_nextTo {Γ : GG} {K : Int32 × Sto → Prop} {i0 : Nat} {a1 : Int32} {a2 : Int32} {σ : Sto} (h : Out (f2_nextTo i0 a1 a2 σ) K) : Ct true Γ mX2_nextTo 0 0 0 [vq (some (2, i0)), vi a1, vi a2] σ (QI K) := by
  refine Ct_intro (by decide +kernel) rfl ?_
  show M true Γ mX2_nextTo 0 0 0 0 0 (QI K) 0 [some (vq (some (2, i0))), some (vi a1), some (vi a2), none, none] [] σ
  unfold f2_nextTo at h
  refine r_aload_n 1 dX2_nextTo_0 rfl rfl ?_
  refine r_getI (x := fe2_58) 1 4 fl2_58 (by decide) dX2_nextTo_1 rfl rfl rfl ?_
  refine r_if_le 28 7 dX2_nextTo_4 (by decide) rfl (fun hc => ?_) (fun hc => ?_)
  · replace h := Out_pos hc h
    refine r_iconst (-1) 29 dX2_nextTo_28 rfl (by decide) ?_
    exact r_ireturn dX2_nextTo_29 rfl (Nat.le_refl 0) (Nat.le_refl 0) h
  · replace h := Out_neg hc h
    refine r_iload_n 8 dX2_nextTo_7 rfl rfl ?_
    refine r_if_lt 28 11 dX2_nextTo_8 (by decide) rfl (fun hc => ?_) (fun hc => ?_)
    · replace h := Out_pos hc h
      refine r_iconst (-1) 29 dX2_nextTo_28 rfl (by decide) ?_
      exact r_ireturn dX2_nextTo_29 rfl (Nat.le_refl 0) (Nat.le_refl 0) h
    · replace h := Out_neg hc h
      refine r_iload_n 12 dX2_nextTo_11 rfl rfl ?_
      refine r_aload_n 13 dX2_nextTo_12 rfl rfl ?_
      refine r_getI (x := fe2_37) 11 16 fl2_37 (by decide) dX2_nextTo_13 rfl rfl rfl ?_
      refine r_icmp_ge 28 19 dX2_nextTo_16 (by decide) rfl (fun hc => ?_) (fun hc => ?_)
      · replace h := Out_pos hc h
        refine r_iconst (-1) 29 dX2_nextTo_28 rfl (by decide) ?_
        exact r_ireturn dX2_nextTo_29 rfl (Nat.le_refl 0) (Nat.le_refl 0) h
      · replace h := Out_neg hc h
        refine r_iload_n 20 dX2_nextTo_19 rfl rfl ?_
        refine r_if_lt 28 23 dX2_nextTo_20 (by decide) rfl (fun hc => ?_) (fun hc => ?_)
        · replace h := Out_pos hc h
          refine r_iconst (-1) 29 dX2_nextTo_28 rfl (by decide) ?_
          exact r_ireturn dX2_nextTo_29 rfl (Nat.le_refl 0) (Nat.le_refl 0) h
        · replace h := Out_neg hc h
          refine r_iload_n 24 dX2_nextTo_23 rfl rfl ?_
          refine r_iconst 4 25 dX2_nextTo_24 rfl (by decide) ?_
          refine r_icmp_lt 30 28 dX2_nextTo_25 (by decide) rfl (fun hc => ?_) (fun hc => ?_)
          · replace h := Out_pos hc h
            refine r_iload_n 31 dX2_nextTo_30 rfl rfl ?_
            refine r_aload_n 32 dX2_nextTo_31 rfl rfl ?_
            refine r_getI (x := fe2_58) 1 35 fl2_58 (by decide) dX2_nextTo_32 rfl rfl rfl ?_
            obtain ⟨hc, h⟩ := Out_grd h
            refine r_idiv 36 dX2_nextTo_35 rfl hc ?_
            refine r_getsN 42 "DOWN" 39 dX2_nextTo_36 rfl (by decide) w_b63e53b7 ?_
            refine r_iload_n 40 dX2_nextTo_39 rfl rfl ?_
            obtain ⟨hc, h⟩ := Out_grd h
            refine r_iaload a2.toNatClampNeg 4 41 dX2_nextTo_40 rfl (by decide) rfl rfl hc rfl ?_
            refine r_iadd 42 dX2_nextTo_41 rfl ?_
            refine r_istore_n [some (vq (some (2, i0))), some (vi a1), some (vi a2), some (vi ((a1 / (gI σ 2 i0 1)) + (gI σ 42 0 a2.toNatClampNeg))), none] 43 dX2_nextTo_42 rfl rfl rfl ?_
            refine r_iload_n 44 dX2_nextTo_43 rfl rfl ?_
            refine r_aload_n 45 dX2_nextTo_44 rfl rfl ?_
            refine r_getI (x := fe2_58) 1 48 fl2_58 (by decide) dX2_nextTo_45 rfl rfl rfl ?_
            obtain ⟨hc, h⟩ := Out_grd h
            refine r_irem 49 dX2_nextTo_48 rfl hc ?_
            refine r_getsN 43 "ACROSS" 52 dX2_nextTo_49 rfl (by decide) w_fa967965 ?_
            refine r_iload_n 53 dX2_nextTo_52 rfl rfl ?_
            obtain ⟨hc, h⟩ := Out_grd h
            refine r_iaload a2.toNatClampNeg 4 54 dX2_nextTo_53 rfl (by decide) rfl rfl hc rfl ?_
            refine r_iadd 55 dX2_nextTo_54 rfl ?_
            refine r_istore [some (vq (some (2, i0))), some (vi a1), some (vi a2), some (vi ((a1 / (gI σ 2 i0 1)) + (gI σ 42 0 a2.toNatClampNeg))), some (vi ((a1 - a1 / (gI σ 2 i0 1) * (gI σ 2 i0 1)) + (gI σ 43 0 a2.toNatClampNeg)))] 57 dX2_nextTo_55 rfl rfl rfl ?_
            refine r_iload_n 58 dX2_nextTo_57 rfl rfl ?_
            refine r_if_lt 83 61 dX2_nextTo_58 (by decide) rfl (fun hc => ?_) (fun hc => ?_)
            · replace h := Out_pos hc h
              refine r_iconst (-1) 84 dX2_nextTo_83 rfl (by decide) ?_
              refine r_goto 96 dX2_nextTo_84 (by decide) ?_
              exact r_ireturn dX2_nextTo_96 rfl (Nat.le_refl 0) (Nat.le_refl 0) h
            · replace h := Out_neg hc h
              refine r_iload_n 62 dX2_nextTo_61 rfl rfl ?_
              refine r_aload_n 63 dX2_nextTo_62 rfl rfl ?_
              refine r_getI (x := fe2_67) 0 66 fl2_67 (by decide) dX2_nextTo_63 rfl rfl rfl ?_
              refine r_icmp_ge 83 69 dX2_nextTo_66 (by decide) rfl (fun hc => ?_) (fun hc => ?_)
              · replace h := Out_pos hc h
                refine r_iconst (-1) 84 dX2_nextTo_83 rfl (by decide) ?_
                refine r_goto 96 dX2_nextTo_84 (by decide) ?_
                exact r_ireturn dX2_nextTo_96 rfl (Nat.le_refl 0) (Nat.le_refl 0) h
              · replace h := Out_neg hc h
                refine r_iload 71 dX2_nextTo_69 rfl rfl ?_
                refine r_if_lt 83 74 dX2_nextTo_71 (by decide) rfl (fun hc => ?_) (fun hc => ?_)
                · replace h := Out_pos hc h
                  refine r_iconst (-1) 84 dX2_nextTo_83 rfl (by decide) ?_
                  refine r_goto 96 dX2_nextTo_84 (by decide) ?_
                  exact r_ireturn dX2_nextTo_96 rfl (Nat.le_refl 0) (Nat.le_refl 0) h
                · replace h := Out_neg hc h
                  refine r_iload 76 dX2_nextTo_74 rfl rfl ?_
                  refine r_aload_n 77 dX2_nextTo_76 rfl rfl ?_
                  refine r_getI (x := fe2_58) 1 80 fl2_58 (by decide) dX2_nextTo_77 rfl rfl rfl ?_
                  refine r_icmp_lt 87 83 dX2_nextTo_80 (by decide) rfl (fun hc => ?_) (fun hc => ?_)
                  · replace h := Out_pos hc h
                    refine r_iload_n 88 dX2_nextTo_87 rfl rfl ?_
                    refine r_aload_n 89 dX2_nextTo_88 rfl rfl ?_
                    refine r_getI (x := fe2_58) 1 92 fl2_58 (by decide) dX2_nextTo_89 rfl rfl rfl ?_
                    refine r_imul 93 dX2_nextTo_92 rfl ?_
                    refine r_iload 95 dX2_nextTo_93 rfl rfl ?_
                    refine r_iadd 96 dX2_nextTo_95 rfl ?_
                    exact r_ireturn dX2_nextTo_96 rfl (Nat.le_refl 0) (Nat.le_refl 0) h
                  · replace h := Out_neg hc h
                    refine r_iconst (-1) 84 dX2_nextTo_83 rfl (by decide) ?_
                    refine r_goto 96 dX2_nextTo_84 (by decide) ?_
                    exact r_ireturn dX2_nextTo_96 rfl (Nat.le_refl 0) (Nat.le_refl 0) h
          · replace h := Out_neg hc h
            refine r_iconst (-1) 29 dX2_nextTo_28 rfl (by decide) ?_
            exact r_ireturn dX2_nextTo_29 rfl (Nat.le_refl 0) (Nat.le_refl 0) h

set_option maxRecDepth 20000 in
set_option maxHeartbeats 4000000 in
theorem ct2_rowCodes {Γ : GG} {K : Int32 × Sto → Prop} {i0 : Nat} {σ : Sto} (h : Out (f2_rowCodes i0 σ) K) : Ct true Γ mX2_rowCodes 0 0 0 [vq (some (2, i0))] σ (QI K) := by
  refine Ct_intro (by decide +kernel) rfl ?_
  show M true Γ mX2_rowCodes 0 0 0 0 0 (QI K) 0 [some (vq (some (2, i0)))] [] σ
  unfold f2_rowCodes at h
  refine r_aload_n 1 dX2_rowCodes_0 rfl rfl ?_
  refine r_getI (x := fe2_67) 0 4 fl2_67 (by decide) dX2_rowCodes_1 rfl rfl rfl ?_
  refine r_aload_n 5 dX2_rowCodes_4 rfl rfl ?_
  refine r_getI (x := fe2_58) 1 8 fl2_58 (by decide) dX2_rowCodes_5 rfl rfl rfl ?_
  refine r_iconst 1 9 dX2_rowCodes_8 rfl (by decide) ?_
  refine r_iadd 10 dX2_rowCodes_9 rfl ?_
  refine r_imul 11 dX2_rowCodes_10 rfl ?_
  exact r_ireturn dX2_rowCodes_11 rfl (Nat.le_refl 0) (Nat.le_refl 0) h

set_option maxRecDepth 20000 in
set_option maxHeartbeats 4000000 in
theorem ct2_signAt {Γ : GG} {K : Int32 × Sto → Prop} {i0 : Nat} {a1 : Int32} {σ : Sto} (h : Out (f2_signAt i0 a1 σ) K) : Ct true Γ mX2_signAt 0 0 0 [vq (some (2, i0)), vi a1] σ (QI K) := by
  refine Ct_intro (by decide +kernel) rfl ?_
  show M true Γ mX2_signAt 0 0 0 0 0 (QI K) 0 [some (vq (some (2, i0))), some (vi a1)] [] σ
  unfold f2_signAt at h
  refine r_iload_n 1 dX2_signAt_0 rfl rfl ?_
  refine r_if_lt 12 4 dX2_signAt_1 (by decide) rfl (fun hc => ?_) (fun hc => ?_)
  · replace h := Out_pos hc h
    refine r_iconst 0 13 dX2_signAt_12 rfl (by decide) ?_
    refine r_goto 22 dX2_signAt_13 (by decide) ?_
    exact r_ireturn dX2_signAt_22 rfl (Nat.le_refl 0) (Nat.le_refl 0) h
  · replace h := Out_neg hc h
    refine r_iload_n 5 dX2_signAt_4 rfl rfl ?_
    refine r_aload_n 6 dX2_signAt_5 rfl rfl ?_
    refine r_getI (x := fe2_37) 11 9 fl2_37 (by decide) dX2_signAt_6 rfl rfl rfl ?_
    refine r_icmp_lt 16 12 dX2_signAt_9 (by decide) rfl (fun hc => ?_) (fun hc => ?_)
    · replace h := Out_pos hc h
      refine r_aload_n 17 dX2_signAt_16 rfl rfl ?_
      refine r_getF (x := fe2_15) 6 (11, i0) 20 fl2_15 (by decide) dX2_signAt_17 rfl rfl rfl rfl ?_
      refine r_iload_n 21 dX2_signAt_20 rfl rfl ?_
      obtain ⟨hc, h⟩ := Out_grd h
      refine r_iaload a1.toNatClampNeg 30 22 dX2_signAt_21 rfl (by decide) rfl rfl hc rfl ?_
      exact r_ireturn dX2_signAt_22 rfl (Nat.le_refl 0) (Nat.le_refl 0) h
    · replace h := Out_neg hc h
      refine r_iconst 0 13 dX2_signAt_12 rfl (by decide) ?_
      refine r_goto 22 dX2_signAt_13 (by decide) ?_
      exact r_ireturn dX2_signAt_22 rfl (Nat.le_refl 0) (Nat.le_refl 0) h

set_option maxRecDepth 20000 in
set_option maxHeartbeats 4000000 in
theorem ct2_signOf {Γ : GG} {K : Int32 × Sto → Prop} {a0 : Int32} {σ : Sto} (h : Out (f2_signOf a0 σ) K) : Ct true Γ mX2_signOf 0 0 0 [vi a0] σ (QI K) := by
  refine Ct_intro (by decide +kernel) rfl ?_
  show M true Γ mX2_signOf 0 0 0 0 0 (QI K) 0 [some (vi a0)] [] σ
  unfold f2_signOf at h
  refine r_iload_n 1 dX2_signOf_0 rfl rfl ?_
  by_cases hs0 : a0 = 46
  · replace h := Out_pos hs0 h
    refine M_lookup dX2_signOf_1 (off := 43) (t := 44) (by decide) (by rw [hs0]; decide) (by decide) ?_
    refine r_iconst 0 45 dX2_signOf_44 rfl (by decide) ?_
    exact r_ireturn dX2_signOf_45 rfl (Nat.le_refl 0) (Nat.le_refl 0) h
  replace h := Out_neg hs0 h
  by_cases hs1 : a0 = 103
  · replace h := Out_pos hs1 h
    refine M_lookup dX2_signOf_1 (off := 45) (t := 46) (by decide) (by rw [hs1]; decide) (by decide) ?_
    refine r_iconst 1 47 dX2_signOf_46 rfl (by decide) ?_
    exact r_ireturn dX2_signOf_47 rfl (Nat.le_refl 0) (Nat.le_refl 0) h
  replace h := Out_neg hs1 h
  by_cases hs2 : a0 = 109
  · replace h := Out_pos hs2 h
    refine M_lookup dX2_signOf_1 (off := 47) (t := 48) (by decide) (by rw [hs2]; decide) (by decide) ?_
    refine r_iconst 2 49 dX2_signOf_48 rfl (by decide) ?_
    exact r_ireturn dX2_signOf_49 rfl (Nat.le_refl 0) (Nat.le_refl 0) h
  replace h := Out_neg hs2 h
  by_cases hs3 : a0 = 111
  · replace h := Out_pos hs3 h
    refine M_lookup dX2_signOf_1 (off := 43) (t := 44) (by decide) (by rw [hs3]; decide) (by decide) ?_
    refine r_iconst 0 45 dX2_signOf_44 rfl (by decide) ?_
    exact r_ireturn dX2_signOf_45 rfl (Nat.le_refl 0) (Nat.le_refl 0) h
  replace h := Out_neg hs3 h
  refine M_lookup dX2_signOf_1 (off := 49) (t := 50) (by decide) (by show Op.lookupswitch.offset [(46, 43), (103, 45), (109, 47), (111, 43)] 49 _ = _; rw [lv_osw hs0 (by decide), lv_osw hs1 (by decide), lv_osw hs2 (by decide), lv_osw hs3 (by decide)]; rfl) (by decide) ?_
  refine r_bipush (-9) 52 dX2_signOf_50 rfl (by decide) ?_
  exact r_ireturn dX2_signOf_52 rfl (Nat.le_refl 0) (Nat.le_refl 0) h

set_option maxRecDepth 20000 in
set_option maxHeartbeats 4000000 in
theorem ct2_startOf {Γ : GG} {K : Int32 × Sto → Prop} {i0 : Nat} {a1 : Int32} {σ : Sto} (h : Out (f2_startOf i0 a1 σ) K) : Ct true Γ mX2_startOf 2 0 0 [vq (some (2, i0)), vi a1] σ (QI K) := by
  refine Ct_intro (by decide +kernel) rfl ?_
  show M true Γ mX2_startOf 2 0 0 0 0 (QI K) 0 [some (vq (some (2, i0))), some (vi a1)] [] σ
  unfold f2_startOf at h
  refine r_aload_n 1 dX2_startOf_0 rfl rfl ?_
  refine r_iload_n 2 dX2_startOf_1 rfl rfl ?_
  refine c_I [vq (some (2, i0)), vi a1] [] 5 cs2_startOf_2 rfl h (fun _ h' => ct2_hasPea h') rfl rfl rfl rfl (by decide) (Nat.le_refl 0) (Nat.le_refl 0) (fun v21 s22 h => ?_)
  refine r_if_eq 17 8 dX2_startOf_5 (by decide) rfl (fun hc => ?_) (fun hc => ?_)
  · replace h := Out_pos hc h
    refine r_bipush (-9) 19 dX2_startOf_17 rfl (by decide) ?_
    exact r_ireturn dX2_startOf_19 rfl (Nat.le_refl 0) (Nat.le_refl 0) h
  · replace h := Out_neg hc h
    refine r_aload_n 9 dX2_startOf_8 rfl rfl ?_
    refine r_getF (x := fe2_18) 7 (12, i0) 12 fl2_18 (by decide) dX2_startOf_9 rfl rfl rfl rfl ?_
    refine r_iload_n 13 dX2_startOf_12 rfl rfl ?_
    obtain ⟨hc, h⟩ := Out_grd h
    refine r_iaload a1.toNatClampNeg 5 14 dX2_startOf_13 rfl (by decide) rfl rfl hc rfl ?_
    refine r_goto 19 dX2_startOf_14 (by decide) ?_
    exact r_ireturn dX2_startOf_19 rfl (Nat.le_refl 0) (Nat.le_refl 0) h

set_option maxRecDepth 20000 in
set_option maxHeartbeats 4000000 in
theorem tl2_startsOn_2 {Γ : GG} {K : Int32 × Sto → Prop} {i0 : Nat} {a1 : Int32} : ∀ (n : Nat) (a2 : Int32) (σ : Sto), Out (l2_startsOn_2 i0 a1 n a2 σ) K → M true Γ mX2_startsOn 0 0 0 0 0 (QI K) 2 [some (vq (some (2, i0))), some (vi a1), some (vi a2)] [] σ := by
  intro n
  induction n with
  | zero => intro a2 σ h; exact absurd h Out_none
  | succ n ih =>
    intro a2 σ h
    unfold l2_startsOn_2 at h
    refine r_iload_n 3 dX2_startsOn_2 rfl rfl ?_
    refine r_aload_n 4 dX2_startsOn_3 rfl rfl ?_
    refine r_getI (x := fe2_44) 2 7 fl2_44 (by decide) dX2_startsOn_4 rfl rfl rfl ?_
    refine r_icmp_ge 28 10 dX2_startsOn_7 (by decide) rfl (fun hc => ?_) (fun hc => ?_)
    · replace h := Out_pos hc h
      refine r_iconst 0 29 dX2_startsOn_28 rfl (by decide) ?_
      exact r_zreturn dX2_startsOn_29 rfl (by decide) (Nat.le_refl 0) (Nat.le_refl 0) h
    · replace h := Out_neg hc h
      refine r_aload_n 11 dX2_startsOn_10 rfl rfl ?_
      refine r_getF (x := fe2_18) 7 (12, i0) 14 fl2_18 (by decide) dX2_startsOn_11 rfl rfl rfl rfl ?_
      refine r_iload_n 15 dX2_startsOn_14 rfl rfl ?_
      obtain ⟨hc, h⟩ := Out_grd h
      refine r_iaload a2.toNatClampNeg 5 16 dX2_startsOn_15 rfl (by decide) rfl rfl hc rfl ?_
      refine r_iload_n 17 dX2_startsOn_16 rfl rfl ?_
      refine r_icmp_ne 22 20 dX2_startsOn_17 (by decide) rfl (fun hc => ?_) (fun hc => ?_)
      · replace h := Out_neg hc h
        refine r_iinc 1 [some (vq (some (2, i0))), some (vi a1), some (vi (a2 + 1))] 25 dX2_startsOn_22 rfl (by decide) rfl rfl rfl ?_
        refine r_goto 2 dX2_startsOn_25 (by decide) ?_
        exact ih (a2 + 1) σ h
      · replace h := Out_pos hc h
        refine r_iconst 1 21 dX2_startsOn_20 rfl (by decide) ?_
        exact r_zreturn dX2_startsOn_21 rfl (by decide) (Nat.le_refl 0) (Nat.le_refl 0) h
set_option maxRecDepth 20000 in
set_option maxHeartbeats 4000000 in
theorem ct2_startsOn {Γ : GG} {K : Int32 × Sto → Prop} {i0 : Nat} {a1 : Int32} {σ : Sto} (h : Out (f2_startsOn i0 a1 σ) K) : Ct true Γ mX2_startsOn 0 0 0 [vq (some (2, i0)), vi a1] σ (QI K) := by
  refine Ct_intro (by decide +kernel) rfl ?_
  show M true Γ mX2_startsOn 0 0 0 0 0 (QI K) 0 [some (vq (some (2, i0))), some (vi a1), none] [] σ
  unfold f2_startsOn at h
  refine r_iconst 0 1 dX2_startsOn_0 rfl (by decide) ?_
  refine r_istore_n [some (vq (some (2, i0))), some (vi a1), some (vi 0)] 2 dX2_startsOn_1 rfl rfl rfl ?_
  exact tl2_startsOn_2 300 0 σ h

set_option maxRecDepth 20000 in
set_option maxHeartbeats 4000000 in
theorem ct2_takesStrength {Γ : GG} {K : Int32 × Sto → Prop} {i0 : Nat} {a1 : Int32} {σ : Sto} (h : Out (f2_takesStrength i0 a1 σ) K) : Ct true Γ mX2_takesStrength 0 0 0 [vq (some (2, i0)), vi a1] σ (QI K) := by
  refine Ct_intro (by decide +kernel) rfl ?_
  show M true Γ mX2_takesStrength 0 0 0 0 0 (QI K) 0 [some (vq (some (2, i0))), some (vi a1)] [] σ
  unfold f2_takesStrength at h
  refine r_aload_n 1 dX2_takesStrength_0 rfl rfl ?_
  refine r_getI (x := fe2_33) 3 4 fl2_33 (by decide) dX2_takesStrength_1 rfl rfl rfl ?_
  refine r_iconst 2 5 dX2_takesStrength_4 rfl (by decide) ?_
  refine r_icmp_ge 18 8 dX2_takesStrength_5 (by decide) rfl (fun hc => ?_) (fun hc => ?_)
  · replace h := Out_pos hc h
    refine r_iconst 0 19 dX2_takesStrength_18 rfl (by decide) ?_
    exact r_zreturn dX2_takesStrength_19 rfl (by decide) (Nat.le_refl 0) (Nat.le_refl 0) h
  · replace h := Out_neg hc h
    refine r_iload_n 9 dX2_takesStrength_8 rfl rfl ?_
    refine r_iconst 1 10 dX2_takesStrength_9 rfl (by decide) ?_
    refine r_icmp_lt 18 13 dX2_takesStrength_10 (by decide) rfl (fun hc => ?_) (fun hc => ?_)
    · replace h := Out_pos hc h
      refine r_iconst 0 19 dX2_takesStrength_18 rfl (by decide) ?_
      exact r_zreturn dX2_takesStrength_19 rfl (by decide) (Nat.le_refl 0) (Nat.le_refl 0) h
    · replace h := Out_neg hc h
      refine r_iload_n 14 dX2_takesStrength_13 rfl rfl ?_
      refine r_iconst 4 15 dX2_takesStrength_14 rfl (by decide) ?_
      refine r_icmp_le 20 18 dX2_takesStrength_15 (by decide) rfl (fun hc => ?_) (fun hc => ?_)
      · replace h := Out_pos hc h
        refine r_aload_n 21 dX2_takesStrength_20 rfl rfl ?_
        refine r_getF (x := fe2_30) 10 (15, i0) 24 fl2_30 (by decide) dX2_takesStrength_21 rfl rfl rfl rfl ?_
        refine r_aload_n 25 dX2_takesStrength_24 rfl rfl ?_
        refine r_getI (x := fe2_33) 3 28 fl2_33 (by decide) dX2_takesStrength_25 rfl rfl rfl ?_
        refine r_iload_n 29 dX2_takesStrength_28 rfl rfl ?_
        obtain ⟨hc, h⟩ := Out_grd h
        refine r_iastore (gI σ 2 i0 3).toNatClampNeg 2 30 dX2_takesStrength_29 rfl (by decide) (by decide) rfl rfl hc rfl ?_
        refine r_aload_n 31 dX2_takesStrength_30 rfl rfl ?_
        refine r_dup 32 dX2_takesStrength_31 rfl rfl ?_
        refine r_getI (x := fe2_33) 3 35 fl2_33 (by decide) dX2_takesStrength_32 rfl rfl rfl ?_
        refine r_iconst 1 36 dX2_takesStrength_35 rfl (by decide) ?_
        refine r_iadd 37 dX2_takesStrength_36 rfl ?_
        refine r_putI (x := fe2_33) 3 40 fl2_33 (by decide) dX2_takesStrength_37 rfl (Or.inl rfl) rfl rfl ?_
        refine r_iconst 1 41 dX2_takesStrength_40 rfl (by decide) ?_
        exact r_zreturn dX2_takesStrength_41 rfl (by decide) (Nat.le_refl 0) (Nat.le_refl 0) h
      · replace h := Out_neg hc h
        refine r_iconst 0 19 dX2_takesStrength_18 rfl (by decide) ?_
        exact r_zreturn dX2_takesStrength_19 rfl (by decide) (Nat.le_refl 0) (Nat.le_refl 0) h

set_option maxRecDepth 20000 in
set_option maxHeartbeats 4000000 in
theorem ct2_takesEater {Γ : GG} {K : Int32 × Sto → Prop} {i0 : Nat} {a1 : Int32} {a2 : Int32} {σ : Sto} (h : Out (f2_takesEater i0 a1 a2 σ) K) : Ct true Γ mX2_takesEater 1 0 0 [vq (some (2, i0)), vi a1, vi a2] σ (QI K) := by
  refine Ct_intro (by decide +kernel) rfl ?_
  show M true Γ mX2_takesEater 1 0 0 0 0 (QI K) 0 [some (vq (some (2, i0))), some (vi a1), some (vi a2)] [] σ
  unfold f2_takesEater at h
  refine r_aload_n 1 dX2_takesEater_0 rfl rfl ?_
  refine r_getI (x := fe2_33) 3 4 fl2_33 (by decide) dX2_takesEater_1 rfl rfl rfl ?_
  refine r_iconst 2 5 dX2_takesEater_4 rfl (by decide) ?_
  refine r_icmp_lt 10 8 dX2_takesEater_5 (by decide) rfl (fun hc => ?_) (fun hc => ?_)
  · replace h := Out_pos hc h
    refine r_iload_n 11 dX2_takesEater_10 rfl rfl ?_
    refine r_iconst 3 12 dX2_takesEater_11 rfl (by decide) ?_
    refine r_irem 13 dX2_takesEater_12 rfl (by decide) ?_
    by_cases hs0 : (a1 - a1 / 3 * 3) = 0
    · replace h := Out_pos hs0 h
      refine M_lookup dX2_takesEater_13 (off := 27) (t := 40) (by decide) (by rw [hs0]; decide) (by decide) ?_
      refine r_iload_n 41 dX2_takesEater_40 rfl rfl ?_
      refine r_bipush 59 43 dX2_takesEater_41 rfl (by decide) ?_
      refine r_icmp_ne 50 46 dX2_takesEater_43 (by decide) rfl (fun hc => ?_) (fun hc => ?_)
      · replace h := Out_neg hc h
        refine r_iconst 0 51 dX2_takesEater_50 rfl (by decide) ?_
        exact r_zreturn dX2_takesEater_51 rfl (by decide) (Nat.le_refl 0) (Nat.le_refl 0) h
      · replace h := Out_pos hc h
        refine r_iconst 1 47 dX2_takesEater_46 rfl (by decide) ?_
        refine r_goto 51 dX2_takesEater_47 (by decide) ?_
        exact r_zreturn dX2_takesEater_51 rfl (by decide) (Nat.le_refl 0) (Nat.le_refl 0) h
    replace h := Out_neg hs0 h
    by_cases hs1 : (a1 - a1 / 3 * 3) = 1
    · replace h := Out_pos hs1 h
      refine M_lookup dX2_takesEater_13 (off := 39) (t := 52) (by decide) (by rw [hs1]; decide) (by decide) ?_
      refine r_aload_n 53 dX2_takesEater_52 rfl rfl ?_
      refine r_getF (x := fe2_27) 9 (14, i0) 56 fl2_27 (by decide) dX2_takesEater_53 rfl rfl rfl rfl ?_
      refine r_aload_n 57 dX2_takesEater_56 rfl rfl ?_
      refine r_getI (x := fe2_33) 3 60 fl2_33 (by decide) dX2_takesEater_57 rfl rfl rfl ?_
      refine r_iload_n 61 dX2_takesEater_60 rfl rfl ?_
      obtain ⟨hc, h⟩ := Out_grd h
      refine r_iastore (gI σ 2 i0 3).toNatClampNeg 2 62 dX2_takesEater_61 rfl (by decide) (by decide) rfl rfl hc rfl ?_
      refine r_iload_n 63 dX2_takesEater_62 rfl rfl ?_
      refine r_bipush 102 65 dX2_takesEater_63 rfl (by decide) ?_
      refine r_icmp_eq 80 68 dX2_takesEater_65 (by decide) rfl (fun hc => ?_) (fun hc => ?_)
      · replace h := Out_pos hc h
        refine r_iconst 1 81 dX2_takesEater_80 rfl (by decide) ?_
        refine r_goto 85 dX2_takesEater_81 (by decide) ?_
        exact r_zreturn dX2_takesEater_85 rfl (by decide) (Nat.le_refl 0) (Nat.le_refl 0) h
      · replace h := Out_neg hc h
        refine r_iload_n 69 dX2_takesEater_68 rfl rfl ?_
        refine r_bipush 107 71 dX2_takesEater_69 rfl (by decide) ?_
        refine r_icmp_eq 80 74 dX2_takesEater_71 (by decide) rfl (fun hc => ?_) (fun hc => ?_)
        · replace h := Out_pos hc h
          refine r_iconst 1 81 dX2_takesEater_80 rfl (by decide) ?_
          refine r_goto 85 dX2_takesEater_81 (by decide) ?_
          exact r_zreturn dX2_takesEater_85 rfl (by decide) (Nat.le_refl 0) (Nat.le_refl 0) h
        · replace h := Out_neg hc h
          refine r_iload_n 75 dX2_takesEater_74 rfl rfl ?_
          refine r_bipush 115 77 dX2_takesEater_75 rfl (by decide) ?_
          refine r_icmp_ne 84 80 dX2_takesEater_77 (by decide) rfl (fun hc => ?_) (fun hc => ?_)
          · replace h := Out_neg hc h
            refine r_iconst 0 85 dX2_takesEater_84 rfl (by decide) ?_
            exact r_zreturn dX2_takesEater_85 rfl (by decide) (Nat.le_refl 0) (Nat.le_refl 0) h
          · replace h := Out_pos hc h
            refine r_iconst 1 81 dX2_takesEater_80 rfl (by decide) ?_
            refine r_goto 85 dX2_takesEater_81 (by decide) ?_
            exact r_zreturn dX2_takesEater_85 rfl (by decide) (Nat.le_refl 0) (Nat.le_refl 0) h
    replace h := Out_neg hs1 h
    refine M_lookup dX2_takesEater_13 (off := 73) (t := 86) (by decide) (by show Op.lookupswitch.offset [(0, 27), (1, 39)] 73 _ = _; rw [lv_osw hs0 (by decide), lv_osw hs1 (by decide)]; rfl) (by decide) ?_
    refine r_aload_n 87 dX2_takesEater_86 rfl rfl ?_
    refine r_iload_n 88 dX2_takesEater_87 rfl rfl ?_
    refine r_bipush 48 90 dX2_takesEater_88 rfl (by decide) ?_
    refine r_isub 91 dX2_takesEater_90 rfl ?_
    refine c_I [vq (some (2, i0)), vi (a2 - 48)] [] 94 cs2_takesEater_91 rfl h (fun _ h' => ct2_takesStrength h') rfl rfl rfl rfl (by decide) (Nat.le_refl 0) (Nat.le_refl 0) (fun v21 s22 h => ?_)
    obtain ⟨hc, h⟩ := Out_grd h
    exact r_zreturn dX2_takesEater_94 rfl hc (Nat.le_refl 0) (Nat.le_refl 0) h
  · replace h := Out_neg hc h
    refine r_iconst 0 9 dX2_takesEater_8 rfl (by decide) ?_
    exact r_zreturn dX2_takesEater_9 rfl (by decide) (Nat.le_refl 0) (Nat.le_refl 0) h

set_option maxRecDepth 20000 in
set_option maxHeartbeats 4000000 in
theorem ct2_takesInRow {Γ : GG} {K : Int32 × Sto → Prop} {i0 : Nat} {a1 : Int32} {a2 : Int32} {σ : Sto} (h : Out (f2_takesInRow i0 a1 a2 σ) K) : Ct true Γ mX2_takesInRow 1 0 0 [vq (some (2, i0)), vi a1, vi a2] σ (QI K) := by
  refine Ct_intro (by decide +kernel) rfl ?_
  show M true Γ mX2_takesInRow 1 0 0 0 0 (QI K) 0 [some (vq (some (2, i0))), some (vi a1), some (vi a2), none] [] σ
  unfold f2_takesInRow at h
  refine r_aload_n 1 dX2_takesInRow_0 rfl rfl ?_
  refine r_getI (x := fe2_58) 1 4 fl2_58 (by decide) dX2_takesInRow_1 rfl rfl rfl ?_
  refine r_if_lt 18 7 dX2_takesInRow_4 (by decide) rfl (fun hc => ?_) (fun hc => ?_)
  · replace h := Out_pos hc h
    refine r_iload_n 19 dX2_takesInRow_18 rfl rfl ?_
    refine r_bipush 59 21 dX2_takesInRow_19 rfl (by decide) ?_
    refine r_icmp_ne 28 24 dX2_takesInRow_21 (by decide) rfl (fun hc => ?_) (fun hc => ?_)
    · replace h := Out_neg hc h
      refine r_iconst 0 29 dX2_takesInRow_28 rfl (by decide) ?_
      exact r_zreturn dX2_takesInRow_29 rfl (by decide) (Nat.le_refl 0) (Nat.le_refl 0) h
    · replace h := Out_pos hc h
      refine r_iconst 1 25 dX2_takesInRow_24 rfl (by decide) ?_
      refine r_goto 29 dX2_takesInRow_25 (by decide) ?_
      exact r_zreturn dX2_takesInRow_29 rfl (by decide) (Nat.le_refl 0) (Nat.le_refl 0) h
  · replace h := Out_neg hc h
    refine r_iload_n 8 dX2_takesInRow_7 rfl rfl ?_
    refine r_aload_n 9 dX2_takesInRow_8 rfl rfl ?_
    refine r_getI (x := fe2_58) 1 12 fl2_58 (by decide) dX2_takesInRow_9 rfl rfl rfl ?_
    refine r_iconst 1 13 dX2_takesInRow_12 rfl (by decide) ?_
    refine r_iadd 14 dX2_takesInRow_13 rfl ?_
    obtain ⟨hc, h⟩ := Out_grd h
    refine r_irem 15 dX2_takesInRow_14 rfl hc ?_
    refine r_if_ne 30 18 dX2_takesInRow_15 (by decide) rfl (fun hc => ?_) (fun hc => ?_)
    · replace h := Out_neg hc h
      refine r_iload_n 31 dX2_takesInRow_30 rfl rfl ?_
      refine c_I [vi a2] [] 34 cs2_takesInRow_31 rfl h (fun _ h' => ct2_signOf h') rfl rfl rfl rfl (by decide) (Nat.le_refl 0) (Nat.le_refl 0) (fun v21 s22 h => ?_)
      refine r_istore_n [some (vq (some (2, i0))), some (vi a1), some (vi a2), some (vi v21)] 35 dX2_takesInRow_34 rfl rfl rfl ?_
      refine r_iload_n 36 dX2_takesInRow_35 rfl rfl ?_
      refine r_bipush (-9) 38 dX2_takesInRow_36 rfl (by decide) ?_
      refine r_icmp_eq 50 41 dX2_takesInRow_38 (by decide) rfl (fun hc => ?_) (fun hc => ?_)
      · replace h := Out_pos hc h
        refine r_iconst 0 51 dX2_takesInRow_50 rfl (by decide) ?_
        exact r_zreturn dX2_takesInRow_51 rfl (by decide) (Nat.le_refl 0) (Nat.le_refl 0) h
      · replace h := Out_neg hc h
        refine r_aload_n 42 dX2_takesInRow_41 rfl rfl ?_
        refine r_getI (x := fe2_37) 11 45 fl2_37 (by decide) dX2_takesInRow_42 rfl rfl rfl ?_
        refine r_bipush 30 47 dX2_takesInRow_45 rfl (by decide) ?_
        refine r_icmp_lt 52 50 dX2_takesInRow_47 (by decide) rfl (fun hc => ?_) (fun hc => ?_)
        · replace h := Out_pos hc h
          refine r_iload_n 53 dX2_takesInRow_52 rfl rfl ?_
          refine r_bipush 111 55 dX2_takesInRow_53 rfl (by decide) ?_
          refine r_icmp_ne 91 58 dX2_takesInRow_55 (by decide) rfl (fun hc => ?_) (fun hc => ?_)
          · replace h := Out_neg hc h
            refine r_aload_n 92 dX2_takesInRow_91 rfl rfl ?_
            refine r_getF (x := fe2_15) 6 (11, i0) 95 fl2_15 (by decide) dX2_takesInRow_92 rfl rfl rfl rfl ?_
            refine r_aload_n 96 dX2_takesInRow_95 rfl rfl ?_
            refine r_getI (x := fe2_37) 11 99 fl2_37 (by decide) dX2_takesInRow_96 rfl rfl rfl ?_
            refine r_iload_n 100 dX2_takesInRow_99 rfl rfl ?_
            obtain ⟨hc, h⟩ := Out_grd h
            refine r_iastore (gI s22 2 i0 11).toNatClampNeg 30 101 dX2_takesInRow_100 rfl (by decide) (by decide) rfl rfl hc rfl ?_
            refine r_aload_n 102 dX2_takesInRow_101 rfl rfl ?_
            refine r_dup 103 dX2_takesInRow_102 rfl rfl ?_
            refine r_getI (x := fe2_37) 11 106 fl2_37 (by decide) dX2_takesInRow_103 rfl rfl rfl ?_
            refine r_iconst 1 107 dX2_takesInRow_106 rfl (by decide) ?_
            refine r_iadd 108 dX2_takesInRow_107 rfl ?_
            refine r_putI (x := fe2_37) 11 111 fl2_37 (by decide) dX2_takesInRow_108 rfl (Or.inl rfl) rfl rfl ?_
            refine r_iconst 1 112 dX2_takesInRow_111 rfl (by decide) ?_
            exact r_zreturn dX2_takesInRow_112 rfl (by decide) (Nat.le_refl 0) (Nat.le_refl 0) h
          · replace h := Out_pos hc h
            refine r_aload_n 59 dX2_takesInRow_58 rfl rfl ?_
            refine r_getI (x := fe2_44) 2 62 fl2_44 (by decide) dX2_takesInRow_59 rfl rfl rfl ?_
            refine r_iconst 5 63 dX2_takesInRow_62 rfl (by decide) ?_
            refine r_icmp_lt 68 66 dX2_takesInRow_63 (by decide) rfl (fun hc => ?_) (fun hc => ?_)
            · replace h := Out_pos hc h
              refine r_aload_n 69 dX2_takesInRow_68 rfl rfl ?_
              refine r_getF (x := fe2_18) 7 (12, i0) 72 fl2_18 (by decide) dX2_takesInRow_69 rfl rfl rfl rfl ?_
              refine r_aload_n 73 dX2_takesInRow_72 rfl rfl ?_
              refine r_getI (x := fe2_44) 2 76 fl2_44 (by decide) dX2_takesInRow_73 rfl rfl rfl ?_
              refine r_aload_n 77 dX2_takesInRow_76 rfl rfl ?_
              refine r_getI (x := fe2_37) 11 80 fl2_37 (by decide) dX2_takesInRow_77 rfl rfl rfl ?_
              obtain ⟨hc, h⟩ := Out_grd h
              refine r_iastore (gI s22 2 i0 2).toNatClampNeg 5 81 dX2_takesInRow_80 rfl (by decide) (by decide) rfl rfl hc rfl ?_
              refine r_aload_n 82 dX2_takesInRow_81 rfl rfl ?_
              refine r_dup 83 dX2_takesInRow_82 rfl rfl ?_
              refine r_getI (x := fe2_44) 2 86 fl2_44 (by decide) dX2_takesInRow_83 rfl rfl rfl ?_
              refine r_iconst 1 87 dX2_takesInRow_86 rfl (by decide) ?_
              refine r_iadd 88 dX2_takesInRow_87 rfl ?_
              refine r_putI (x := fe2_44) 2 91 fl2_44 (by decide) dX2_takesInRow_88 rfl (Or.inl rfl) rfl rfl ?_
              refine r_aload_n 92 dX2_takesInRow_91 rfl rfl ?_
              refine r_getF (x := fe2_15) 6 (11, i0) 95 fl2_15 (by decide) dX2_takesInRow_92 rfl rfl rfl rfl ?_
              refine r_aload_n 96 dX2_takesInRow_95 rfl rfl ?_
              refine r_getI (x := fe2_37) 11 99 fl2_37 (by decide) dX2_takesInRow_96 rfl rfl rfl ?_
              refine r_iload_n 100 dX2_takesInRow_99 rfl rfl ?_
              obtain ⟨hc, h⟩ := Out_grd h
              refine r_iastore (gI (sI (sI s22 12 i0 (gI s22 2 i0 2).toNatClampNeg (gI s22 2 i0 11)) 2 i0 2 ((gI (sI s22 12 i0 (gI s22 2 i0 2).toNatClampNeg (gI s22 2 i0 11)) 2 i0 2) + 1)) 2 i0 11).toNatClampNeg 30 101 dX2_takesInRow_100 rfl (by decide) (by decide) rfl rfl hc rfl ?_
              refine r_aload_n 102 dX2_takesInRow_101 rfl rfl ?_
              refine r_dup 103 dX2_takesInRow_102 rfl rfl ?_
              refine r_getI (x := fe2_37) 11 106 fl2_37 (by decide) dX2_takesInRow_103 rfl rfl rfl ?_
              refine r_iconst 1 107 dX2_takesInRow_106 rfl (by decide) ?_
              refine r_iadd 108 dX2_takesInRow_107 rfl ?_
              refine r_putI (x := fe2_37) 11 111 fl2_37 (by decide) dX2_takesInRow_108 rfl (Or.inl rfl) rfl rfl ?_
              refine r_iconst 1 112 dX2_takesInRow_111 rfl (by decide) ?_
              exact r_zreturn dX2_takesInRow_112 rfl (by decide) (Nat.le_refl 0) (Nat.le_refl 0) h
            · replace h := Out_neg hc h
              refine r_iconst 0 67 dX2_takesInRow_66 rfl (by decide) ?_
              exact r_zreturn dX2_takesInRow_67 rfl (by decide) (Nat.le_refl 0) (Nat.le_refl 0) h
        · replace h := Out_neg hc h
          refine r_iconst 0 51 dX2_takesInRow_50 rfl (by decide) ?_
          exact r_zreturn dX2_takesInRow_51 rfl (by decide) (Nat.le_refl 0) (Nat.le_refl 0) h
    · replace h := Out_pos hc h
      refine r_iload_n 19 dX2_takesInRow_18 rfl rfl ?_
      refine r_bipush 59 21 dX2_takesInRow_19 rfl (by decide) ?_
      refine r_icmp_ne 28 24 dX2_takesInRow_21 (by decide) rfl (fun hc => ?_) (fun hc => ?_)
      · replace h := Out_neg hc h
        refine r_iconst 0 29 dX2_takesInRow_28 rfl (by decide) ?_
        exact r_zreturn dX2_takesInRow_29 rfl (by decide) (Nat.le_refl 0) (Nat.le_refl 0) h
      · replace h := Out_pos hc h
        refine r_iconst 1 25 dX2_takesInRow_24 rfl (by decide) ?_
        refine r_goto 29 dX2_takesInRow_25 (by decide) ?_
        exact r_zreturn dX2_takesInRow_29 rfl (by decide) (Nat.le_refl 0) (Nat.le_refl 0) h

set_option maxRecDepth 20000 in
set_option maxHeartbeats 4000000 in
theorem ct2_takesBehindHead {Γ : GG} {K : Int32 × Sto → Prop} {i0 : Nat} {a1 : Int32} {a2 : Int32} {σ : Sto} (h : Out (f2_takesBehindHead i0 a1 a2 σ) K) : Ct true Γ mX2_takesBehindHead 2 0 0 [vq (some (2, i0)), vi a1, vi a2] σ (QI K) := by
  refine Ct_intro (by decide +kernel) rfl ?_
  show M true Γ mX2_takesBehindHead 2 0 0 0 0 (QI K) 0 [some (vq (some (2, i0))), some (vi a1), some (vi a2), none] [] σ
  unfold f2_takesBehindHead at h
  refine r_aload_n 1 dX2_takesBehindHead_0 rfl rfl ?_
  refine c_I [vq (some (2, i0))] [] 4 cs2_takesBehindHead_1 rfl h (fun _ h' => ct2_rowCodes h') rfl rfl rfl rfl (by decide) (Nat.le_refl 0) (Nat.le_refl 0) (fun v21 s22 h => ?_)
  refine r_istore_n [some (vq (some (2, i0))), some (vi a1), some (vi a2), some (vi v21)] 5 dX2_takesBehindHead_4 rfl rfl rfl ?_
  refine r_iload_n 6 dX2_takesBehindHead_5 rfl rfl ?_
  refine r_iload_n 7 dX2_takesBehindHead_6 rfl rfl ?_
  refine r_icmp_ge 19 10 dX2_takesBehindHead_7 (by decide) rfl (fun hc => ?_) (fun hc => ?_)
  · replace h := Out_pos hc h
    refine r_aload_n 20 dX2_takesBehindHead_19 rfl rfl ?_
    refine r_iload_n 21 dX2_takesBehindHead_20 rfl rfl ?_
    refine r_iload_n 22 dX2_takesBehindHead_21 rfl rfl ?_
    refine r_isub 23 dX2_takesBehindHead_22 rfl ?_
    refine r_iload_n 24 dX2_takesBehindHead_23 rfl rfl ?_
    refine c_I [vq (some (2, i0)), vi (a1 - v21), vi a2] [] 27 cs2_takesBehindHead_24 rfl h (fun _ h' => ct2_takesEater h') rfl rfl rfl rfl (by decide) (Nat.le_refl 0) (Nat.le_refl 0) (fun v23 s24 h => ?_)
    obtain ⟨hc, h⟩ := Out_grd h
    exact r_zreturn dX2_takesBehindHead_27 rfl hc (Nat.le_refl 0) (Nat.le_refl 0) h
  · replace h := Out_neg hc h
    refine r_aload_n 11 dX2_takesBehindHead_10 rfl rfl ?_
    refine r_iload_n 12 dX2_takesBehindHead_11 rfl rfl ?_
    refine r_iload_n 13 dX2_takesBehindHead_12 rfl rfl ?_
    refine c_I [vq (some (2, i0)), vi a1, vi a2] [] 16 cs2_takesBehindHead_13 rfl h (fun _ h' => ct2_takesInRow h') rfl rfl rfl rfl (by decide) (Nat.le_refl 0) (Nat.le_refl 0) (fun v25 s26 h => ?_)
    refine r_goto 27 dX2_takesBehindHead_16 (by decide) ?_
    obtain ⟨hc, h⟩ := Out_grd h
    exact r_zreturn dX2_takesBehindHead_27 rfl hc (Nat.le_refl 0) (Nat.le_refl 0) h

set_option maxRecDepth 20000 in
set_option maxHeartbeats 4000000 in
theorem ct2_takes {Γ : GG} {K : Int32 × Sto → Prop} {i0 : Nat} {a1 : Int32} {a2 : Int32} {σ : Sto} (h : Out (f2_takes i0 a1 a2 σ) K) : Ct true Γ mX2_takes 3 0 0 [vq (some (2, i0)), vi a1, vi a2] σ (QI K) := by
  refine Ct_intro (by decide +kernel) rfl ?_
  show M true Γ mX2_takes 3 0 0 0 0 (QI K) 0 [some (vq (some (2, i0))), some (vi a1), some (vi a2)] [] σ
  unfold f2_takes at h
  refine r_iload_n 1 dX2_takes_0 rfl rfl ?_
  by_cases hs0 : a1 = 0
  · replace h := Out_pos hs0 h
    refine M_tableIn dX2_takes_1 (off := 27) (t := 28) (by rw [hs0]; decide) (by rw [hs0]; decide) (by rw [hs0]; decide) (by decide) ?_
    refine r_iload_n 29 dX2_takes_28 rfl rfl ?_
    refine r_bipush 112 31 dX2_takes_29 rfl (by decide) ?_
    refine r_icmp_ne 38 34 dX2_takes_31 (by decide) rfl (fun hc => ?_) (fun hc => ?_)
    · replace h := Out_neg hc h
      refine r_iconst 0 39 dX2_takes_38 rfl (by decide) ?_
      exact r_zreturn dX2_takes_39 rfl (by decide) (Nat.le_refl 0) (Nat.le_refl 0) h
    · replace h := Out_pos hc h
      refine r_iconst 1 35 dX2_takes_34 rfl (by decide) ?_
      refine r_goto 39 dX2_takes_35 (by decide) ?_
      exact r_zreturn dX2_takes_39 rfl (by decide) (Nat.le_refl 0) (Nat.le_refl 0) h
  replace h := Out_neg hs0 h
  by_cases hs1 : a1 = 1
  · replace h := Out_pos hs1 h
    refine M_tableIn dX2_takes_1 (off := 39) (t := 40) (by rw [hs1]; decide) (by rw [hs1]; decide) (by rw [hs1]; decide) (by decide) ?_
    refine r_aload_n 41 dX2_takes_40 rfl rfl ?_
    refine r_iload_n 42 dX2_takes_41 rfl rfl ?_
    refine r_bipush 48 44 dX2_takes_42 rfl (by decide) ?_
    refine r_isub 45 dX2_takes_44 rfl ?_
    refine r_putI (x := fe2_67) 0 48 fl2_67 (by decide) dX2_takes_45 rfl (Or.inl rfl) rfl rfl ?_
    refine r_aload_n 49 dX2_takes_48 rfl rfl ?_
    refine r_getI (x := fe2_67) 0 52 fl2_67 (by decide) dX2_takes_49 rfl rfl rfl ?_
    refine r_iconst 2 53 dX2_takes_52 rfl (by decide) ?_
    refine r_icmp_lt 68 56 dX2_takes_53 (by decide) rfl (fun hc => ?_) (fun hc => ?_)
    · replace h := Out_pos hc h
      refine r_iconst 0 69 dX2_takes_68 rfl (by decide) ?_
      exact r_zreturn dX2_takes_69 rfl (by decide) (Nat.le_refl 0) (Nat.le_refl 0) h
    · replace h := Out_neg hc h
      refine r_aload_n 57 dX2_takes_56 rfl rfl ?_
      refine r_getI (x := fe2_67) 0 60 fl2_67 (by decide) dX2_takes_57 rfl rfl rfl ?_
      refine r_iconst 5 61 dX2_takes_60 rfl (by decide) ?_
      refine r_icmp_gt 68 64 dX2_takes_61 (by decide) rfl (fun hc => ?_) (fun hc => ?_)
      · replace h := Out_pos hc h
        refine r_iconst 0 69 dX2_takes_68 rfl (by decide) ?_
        exact r_zreturn dX2_takes_69 rfl (by decide) (Nat.le_refl 0) (Nat.le_refl 0) h
      · replace h := Out_neg hc h
        refine r_iconst 1 65 dX2_takes_64 rfl (by decide) ?_
        refine r_goto 69 dX2_takes_65 (by decide) ?_
        exact r_zreturn dX2_takes_69 rfl (by decide) (Nat.le_refl 0) (Nat.le_refl 0) h
  replace h := Out_neg hs1 h
  by_cases hs2 : a1 = 2
  · replace h := Out_pos hs2 h
    refine M_tableIn dX2_takes_1 (off := 69) (t := 70) (by rw [hs2]; decide) (by rw [hs2]; decide) (by rw [hs2]; decide) (by decide) ?_
    refine r_aload_n 71 dX2_takes_70 rfl rfl ?_
    refine r_iload_n 72 dX2_takes_71 rfl rfl ?_
    refine r_bipush 48 74 dX2_takes_72 rfl (by decide) ?_
    refine r_isub 75 dX2_takes_74 rfl ?_
    refine r_putI (x := fe2_58) 1 78 fl2_58 (by decide) dX2_takes_75 rfl (Or.inl rfl) rfl rfl ?_
    refine r_aload_n 79 dX2_takes_78 rfl rfl ?_
    refine r_getI (x := fe2_58) 1 82 fl2_58 (by decide) dX2_takes_79 rfl rfl rfl ?_
    refine r_iconst 2 83 dX2_takes_82 rfl (by decide) ?_
    refine r_icmp_lt 99 86 dX2_takes_83 (by decide) rfl (fun hc => ?_) (fun hc => ?_)
    · replace h := Out_pos hc h
      refine r_iconst 0 100 dX2_takes_99 rfl (by decide) ?_
      exact r_zreturn dX2_takes_100 rfl (by decide) (Nat.le_refl 0) (Nat.le_refl 0) h
    · replace h := Out_neg hc h
      refine r_aload_n 87 dX2_takes_86 rfl rfl ?_
      refine r_getI (x := fe2_58) 1 90 fl2_58 (by decide) dX2_takes_87 rfl rfl rfl ?_
      refine r_bipush 6 92 dX2_takes_90 rfl (by decide) ?_
      refine r_icmp_gt 99 95 dX2_takes_92 (by decide) rfl (fun hc => ?_) (fun hc => ?_)
      · replace h := Out_pos hc h
        refine r_iconst 0 100 dX2_takes_99 rfl (by decide) ?_
        exact r_zreturn dX2_takes_100 rfl (by decide) (Nat.le_refl 0) (Nat.le_refl 0) h
      · replace h := Out_neg hc h
        refine r_iconst 1 96 dX2_takes_95 rfl (by decide) ?_
        refine r_goto 100 dX2_takes_96 (by decide) ?_
        exact r_zreturn dX2_takes_100 rfl (by decide) (Nat.le_refl 0) (Nat.le_refl 0) h
  replace h := Out_neg hs2 h
  refine M_tableOut dX2_takes_1 (t := 101) (by have q0 := lv_neT hs0 (a := 0) (by decide); have q1 := lv_neT hs1 (a := 1) (by decide); have q2 := lv_neT hs2 (a := 2) (by decide); omega) (by decide) ?_
  refine r_aload_n 102 dX2_takes_101 rfl rfl ?_
  refine r_iload_n 103 dX2_takes_102 rfl rfl ?_
  refine r_iconst 3 104 dX2_takes_103 rfl (by decide) ?_
  refine r_isub 105 dX2_takes_104 rfl ?_
  refine r_iload_n 106 dX2_takes_105 rfl rfl ?_
  refine c_I [vq (some (2, i0)), vi (a1 - 3), vi a2] [] 109 cs2_takes_106 rfl h (fun _ h' => ct2_takesBehindHead h') rfl rfl rfl rfl (by decide) (Nat.le_refl 0) (Nat.le_refl 0) (fun v21 s22 h => ?_)
  obtain ⟨hc, h⟩ := Out_grd h
  exact r_zreturn dX2_takes_109 rfl hc (Nat.le_refl 0) (Nat.le_refl 0) h

set_option maxRecDepth 20000 in
set_option maxHeartbeats 4000000 in
theorem ct2_wipe {Γ : GG} {K : Sto → Prop} {i0 : Nat} {σ : Sto} (h : Out (f2_wipe i0 σ) K) : Ct true Γ mX2_wipe 0 0 0 [vq (some (2, i0))] σ (QV K) := by
  refine Ct_intro (by decide +kernel) rfl ?_
  show M true Γ mX2_wipe 0 0 0 0 0 (QV K) 0 [some (vq (some (2, i0)))] [] σ
  unfold f2_wipe at h
  refine r_aload_n 1 dX2_wipe_0 rfl rfl ?_
  refine r_iconst 0 2 dX2_wipe_1 rfl (by decide) ?_
  refine r_putI (x := fe2_67) 0 5 fl2_67 (by decide) dX2_wipe_2 rfl (Or.inl rfl) rfl rfl ?_
  refine r_aload_n 6 dX2_wipe_5 rfl rfl ?_
  refine r_iconst 0 7 dX2_wipe_6 rfl (by decide) ?_
  refine r_putI (x := fe2_58) 1 10 fl2_58 (by decide) dX2_wipe_7 rfl (Or.inl rfl) rfl rfl ?_
  refine r_aload_n 11 dX2_wipe_10 rfl rfl ?_
  refine r_iconst 0 12 dX2_wipe_11 rfl (by decide) ?_
  refine r_putI (x := fe2_37) 11 15 fl2_37 (by decide) dX2_wipe_12 rfl (Or.inl rfl) rfl rfl ?_
  refine r_aload_n 16 dX2_wipe_15 rfl rfl ?_
  refine r_iconst 0 17 dX2_wipe_16 rfl (by decide) ?_
  refine r_putI (x := fe2_44) 2 20 fl2_44 (by decide) dX2_wipe_17 rfl (Or.inl rfl) rfl rfl ?_
  refine r_aload_n 21 dX2_wipe_20 rfl rfl ?_
  refine r_iconst 0 22 dX2_wipe_21 rfl (by decide) ?_
  refine r_putI (x := fe2_33) 3 25 fl2_33 (by decide) dX2_wipe_22 rfl (Or.inl rfl) rfl rfl ?_
  refine r_aload_n 26 dX2_wipe_25 rfl rfl ?_
  refine r_iconst 0 27 dX2_wipe_26 rfl (by decide) ?_
  refine r_putI (x := fe2_92) 4 30 fl2_92 (by decide) dX2_wipe_27 rfl (Or.inl rfl) rfl rfl ?_
  exact r_return dX2_wipe_30 rfl (Nat.le_refl 0) (Nat.le_refl 0) h

set_option maxRecDepth 20000 in
set_option maxHeartbeats 4000000 in
theorem tl6_copyFrom_34 {Γ : GG} {K : Sto → Prop} {i0 : Nat} {i1 : Nat} : ∀ (n : Nat) (a2 : Int32) (σ : Sto), Out (l6_copyFrom_34 i0 i1 n a2 σ) K → M true Γ mX6_copyFrom 0 0 0 0 0 (QV K) 34 [some (vq (some (6, i0))), some (vq (some (6, i1))), some (vi a2)] [] σ := by
  intro n
  induction n with
  | zero => intro a2 σ h; exact absurd h Out_none
  | succ n ih =>
    intro a2 σ h
    unfold l6_copyFrom_34 at h
    refine r_iload_n 35 dX6_copyFrom_34 rfl rfl ?_
    refine r_iconst 5 36 dX6_copyFrom_35 rfl (by decide) ?_
    refine r_icmp_ge 57 39 dX6_copyFrom_36 (by decide) rfl (fun hc => ?_) (fun hc => ?_)
    · replace h := Out_pos hc h
      exact r_return dX6_copyFrom_57 rfl (Nat.le_refl 0) (Nat.le_refl 0) h
    · replace h := Out_neg hc h
      refine r_aload_n 40 dX6_copyFrom_39 rfl rfl ?_
      refine r_getF (x := fe6_9) 4 (16, i0) 43 fl6_9 (by decide) dX6_copyFrom_40 rfl rfl rfl rfl ?_
      refine r_iload_n 44 dX6_copyFrom_43 rfl rfl ?_
      refine r_aload_n 45 dX6_copyFrom_44 rfl rfl ?_
      refine r_getF (x := fe6_9) 4 (16, i1) 48 fl6_9 (by decide) dX6_copyFrom_45 rfl rfl rfl rfl ?_
      refine r_iload_n 49 dX6_copyFrom_48 rfl rfl ?_
      obtain ⟨hc, h⟩ := Out_grd h
      refine r_iaload a2.toNatClampNeg 5 50 dX6_copyFrom_49 rfl (by decide) rfl rfl hc rfl ?_
      obtain ⟨hc, h⟩ := Out_grd h
      refine r_iastore a2.toNatClampNeg 5 51 dX6_copyFrom_50 rfl (by decide) (by decide) rfl rfl hc rfl ?_
      refine r_iinc 1 [some (vq (some (6, i0))), some (vq (some (6, i1))), some (vi (a2 + 1))] 54 dX6_copyFrom_51 rfl (by decide) rfl rfl rfl ?_
      refine r_goto 34 dX6_copyFrom_54 (by decide) ?_
      exact ih (a2 + 1) (sI σ 16 i0 a2.toNatClampNeg (gI σ 16 i1 a2.toNatClampNeg)) h
set_option maxRecDepth 20000 in
set_option maxHeartbeats 4000000 in
theorem ct6_copyFrom {Γ : GG} {K : Sto → Prop} {i0 : Nat} {i1 : Nat} {σ : Sto} (h : Out (f6_copyFrom i0 i1 σ) K) : Ct true Γ mX6_copyFrom 0 0 0 [vq (some (6, i0)), vq (some (6, i1))] σ (QV K) := by
  refine Ct_intro (by decide +kernel) rfl ?_
  show M true Γ mX6_copyFrom 0 0 0 0 0 (QV K) 0 [some (vq (some (6, i0))), some (vq (some (6, i1))), none] [] σ
  unfold f6_copyFrom at h
  refine r_aload_n 1 dX6_copyFrom_0 rfl rfl ?_
  refine r_aload_n 2 dX6_copyFrom_1 rfl rfl ?_
  refine r_getR (x := fe6_15) 0 5 fl6_15 (by decide) dX6_copyFrom_2 rfl rfl rfl (Or.inr rfl) ?_
  refine r_putR (x := fe6_15) 0 8 fl6_15 (by decide) dX6_copyFrom_5 rfl (Or.inl rfl) rfl rfl (Or.inr rfl) ?_
  refine r_aload_n 9 dX6_copyFrom_8 rfl rfl ?_
  refine r_aload_n 10 dX6_copyFrom_9 rfl rfl ?_
  refine r_getI (x := fe6_19) 3 13 fl6_19 (by decide) dX6_copyFrom_10 rfl rfl rfl ?_
  refine r_putI (x := fe6_19) 3 16 fl6_19 (by decide) dX6_copyFrom_13 rfl (Or.inl rfl) rfl rfl ?_
  refine r_aload_n 17 dX6_copyFrom_16 rfl rfl ?_
  refine r_aload_n 18 dX6_copyFrom_17 rfl rfl ?_
  refine r_getI (x := fe6_23) 1 21 fl6_23 (by decide) dX6_copyFrom_18 rfl rfl rfl ?_
  refine r_putI (x := fe6_23) 1 24 fl6_23 (by decide) dX6_copyFrom_21 rfl (Or.inl rfl) rfl rfl ?_
  refine r_aload_n 25 dX6_copyFrom_24 rfl rfl ?_
  refine r_aload_n 26 dX6_copyFrom_25 rfl rfl ?_
  refine r_getI (x := fe6_26) 2 29 fl6_26 (by decide) dX6_copyFrom_26 rfl rfl rfl ?_
  refine r_putI (x := fe6_26) 2 32 fl6_26 (by decide) dX6_copyFrom_29 rfl (Or.inl rfl) rfl rfl ?_
  refine r_iconst 0 33 dX6_copyFrom_32 rfl (by decide) ?_
  refine r_istore_n [some (vq (some (6, i0))), some (vq (some (6, i1))), some (vi 0)] 34 dX6_copyFrom_33 rfl rfl rfl ?_
  exact tl6_copyFrom_34 300 0 (sI (sI (sI (sR σ 6 i0 0 (gR σ 6 i1 0)) 6 i0 3 (gI (sR σ 6 i0 0 (gR σ 6 i1 0)) 6 i1 3)) 6 i0 1 (gI (sI (sR σ 6 i0 0 (gR σ 6 i1 0)) 6 i0 3 (gI (sR σ 6 i0 0 (gR σ 6 i1 0)) 6 i1 3)) 6 i1 1)) 6 i0 2 (gI (sI (sI (sR σ 6 i0 0 (gR σ 6 i1 0)) 6 i0 3 (gI (sR σ 6 i0 0 (gR σ 6 i1 0)) 6 i1 3)) 6 i0 1 (gI (sI (sR σ 6 i0 0 (gR σ 6 i1 0)) 6 i0 3 (gI (sR σ 6 i0 0 (gR σ 6 i1 0)) 6 i1 3)) 6 i1 1)) 6 i1 2)) h

set_option maxRecDepth 20000 in
set_option maxHeartbeats 4000000 in
theorem ct6_spotOf {Γ : GG} {K : Int32 × Sto → Prop} {i0 : Nat} {a1 : Int32} {σ : Sto} (h : Out (f6_spotOf i0 a1 σ) K) : Ct true Γ mX6_spotOf 0 0 0 [vq (some (6, i0)), vi a1] σ (QI K) := by
  refine Ct_intro (by decide +kernel) rfl ?_
  show M true Γ mX6_spotOf 0 0 0 0 0 (QI K) 0 [some (vq (some (6, i0))), some (vi a1)] [] σ
  unfold f6_spotOf at h
  refine r_iload_n 1 dX6_spotOf_0 rfl rfl ?_
  refine r_if_lt 9 4 dX6_spotOf_1 (by decide) rfl (fun hc => ?_) (fun hc => ?_)
  · replace h := Out_pos hc h
    refine r_bipush (-9) 11 dX6_spotOf_9 rfl (by decide) ?_
    refine r_goto 20 dX6_spotOf_11 (by decide) ?_
    exact r_ireturn dX6_spotOf_20 rfl (Nat.le_refl 0) (Nat.le_refl 0) h
  · replace h := Out_neg hc h
    refine r_iload_n 5 dX6_spotOf_4 rfl rfl ?_
    refine r_iconst 5 6 dX6_spotOf_5 rfl (by decide) ?_
    refine r_icmp_lt 14 9 dX6_spotOf_6 (by decide) rfl (fun hc => ?_) (fun hc => ?_)
    · replace h := Out_pos hc h
      refine r_aload_n 15 dX6_spotOf_14 rfl rfl ?_
      refine r_getF (x := fe6_9) 4 (16, i0) 18 fl6_9 (by decide) dX6_spotOf_15 rfl rfl rfl rfl ?_
      refine r_iload_n 19 dX6_spotOf_18 rfl rfl ?_
      obtain ⟨hc, h⟩ := Out_grd h
      refine r_iaload a1.toNatClampNeg 5 20 dX6_spotOf_19 rfl (by decide) rfl rfl hc rfl ?_
      exact r_ireturn dX6_spotOf_20 rfl (Nat.le_refl 0) (Nat.le_refl 0) h
    · replace h := Out_neg hc h
      refine r_bipush (-9) 11 dX6_spotOf_9 rfl (by decide) ?_
      refine r_goto 20 dX6_spotOf_11 (by decide) ?_
      exact r_ireturn dX6_spotOf_20 rfl (Nat.le_refl 0) (Nat.le_refl 0) h

set_option maxRecDepth 20000 in
set_option maxHeartbeats 4000000 in
theorem ct6_isOn {Γ : GG} {K : Int32 × Sto → Prop} {i0 : Nat} {a1 : Int32} {σ : Sto} (h : Out (f6_isOn i0 a1 σ) K) : Ct true Γ mX6_isOn 1 0 0 [vq (some (6, i0)), vi a1] σ (QI K) := by
  refine Ct_intro (by decide +kernel) rfl ?_
  show M true Γ mX6_isOn 1 0 0 0 0 (QI K) 0 [some (vq (some (6, i0))), some (vi a1)] [] σ
  unfold f6_isOn at h
  refine r_aload_n 1 dX6_isOn_0 rfl rfl ?_
  refine r_iload_n 2 dX6_isOn_1 rfl rfl ?_
  refine c_I [vq (some (6, i0)), vi a1] [] 5 cs6_isOn_2 rfl h (fun _ h' => ct6_spotOf h') rfl rfl rfl rfl (by decide) (Nat.le_refl 0) (Nat.le_refl 0) (fun v21 s22 h => ?_)
  refine r_bipush (-9) 7 dX6_isOn_5 rfl (by decide) ?_
  refine r_icmp_eq 14 10 dX6_isOn_7 (by decide) rfl (fun hc => ?_) (fun hc => ?_)
  · replace h := Out_pos hc h
    refine r_iconst 0 15 dX6_isOn_14 rfl (by decide) ?_
    exact r_zreturn dX6_isOn_15 rfl (by decide) (Nat.le_refl 0) (Nat.le_refl 0) h
  · replace h := Out_neg hc h
    refine r_iconst 1 11 dX6_isOn_10 rfl (by decide) ?_
    refine r_goto 15 dX6_isOn_11 (by decide) ?_
    exact r_zreturn dX6_isOn_15 rfl (by decide) (Nat.le_refl 0) (Nat.le_refl 0) h

set_option maxRecDepth 20000 in
set_option maxHeartbeats 4000000 in
theorem ct5_pushForce_5 {Γ : GG} {K : Int32 × Sto → Prop} {i0 : Nat} {σ : Sto} (h : Out (f5_pushForce_5 i0 σ) K) : Ct true Γ mX5_pushForce 1 0 0 [vq (some (5, i0))] σ (QI K) := by
  refine Ct_intro (by decide +kernel) rfl ?_
  show M true Γ mX5_pushForce 1 0 0 0 0 (QI K) 0 [some (vq (some (5, i0)))] [] σ
  unfold f5_pushForce_5 at h
  refine r_iconst 2 1 dX5_pushForce_0 rfl (by decide) ?_
  refine r_aload_n 2 dX5_pushForce_1 rfl rfl ?_
  refine c_I [vq (some (5, i0))] [vi 2] 5 cs5_pushForce_2_5 rfl h (fun _ h' => ct1_pushForce_5 h') rfl rfl rfl rfl (by decide) (Nat.le_refl 0) (Nat.le_refl 0) (fun v21 s22 h => ?_)
  refine r_imul 6 dX5_pushForce_5 rfl ?_
  exact r_ireturn dX5_pushForce_6 rfl (Nat.le_refl 0) (Nat.le_refl 0) h

set_option maxRecDepth 20000 in
set_option maxHeartbeats 4000000 in
theorem tl6_peaOn_2 {Γ : GG} {K : Int32 × Sto → Prop} {i0 : Nat} {a1 : Int32} : ∀ (n : Nat) (a2 : Int32) (σ : Sto), Out (l6_peaOn_2 i0 a1 n a2 σ) K → M true Γ mX6_peaOn 0 0 0 0 0 (QI K) 2 [some (vq (some (6, i0))), some (vi a1), some (vi a2)] [] σ := by
  intro n
  induction n with
  | zero => intro a2 σ h; exact absurd h Out_none
  | succ n ih =>
    intro a2 σ h
    unfold l6_peaOn_2 at h
    refine r_iload_n 3 dX6_peaOn_2 rfl rfl ?_
    refine r_iconst 5 4 dX6_peaOn_3 rfl (by decide) ?_
    refine r_icmp_ge 25 7 dX6_peaOn_4 (by decide) rfl (fun hc => ?_) (fun hc => ?_)
    · replace h := Out_pos hc h
      refine r_bipush (-9) 27 dX6_peaOn_25 rfl (by decide) ?_
      exact r_ireturn dX6_peaOn_27 rfl (Nat.le_refl 0) (Nat.le_refl 0) h
    · replace h := Out_neg hc h
      refine r_aload_n 8 dX6_peaOn_7 rfl rfl ?_
      refine r_getF (x := fe6_9) 4 (16, i0) 11 fl6_9 (by decide) dX6_peaOn_8 rfl rfl rfl rfl ?_
      refine r_iload_n 12 dX6_peaOn_11 rfl rfl ?_
      obtain ⟨hc, h⟩ := Out_grd h
      refine r_iaload a2.toNatClampNeg 5 13 dX6_peaOn_12 rfl (by decide) rfl rfl hc rfl ?_
      refine r_iload_n 14 dX6_peaOn_13 rfl rfl ?_
      refine r_icmp_ne 19 17 dX6_peaOn_14 (by decide) rfl (fun hc => ?_) (fun hc => ?_)
      · replace h := Out_neg hc h
        refine r_iinc 1 [some (vq (some (6, i0))), some (vi a1), some (vi (a2 + 1))] 22 dX6_peaOn_19 rfl (by decide) rfl rfl rfl ?_
        refine r_goto 2 dX6_peaOn_22 (by decide) ?_
        exact ih (a2 + 1) σ h
      · replace h := Out_pos hc h
        refine r_iload_n 18 dX6_peaOn_17 rfl rfl ?_
        exact r_ireturn dX6_peaOn_18 rfl (Nat.le_refl 0) (Nat.le_refl 0) h
set_option maxRecDepth 20000 in
set_option maxHeartbeats 4000000 in
theorem ct6_peaOn {Γ : GG} {K : Int32 × Sto → Prop} {i0 : Nat} {a1 : Int32} {σ : Sto} (h : Out (f6_peaOn i0 a1 σ) K) : Ct true Γ mX6_peaOn 0 0 0 [vq (some (6, i0)), vi a1] σ (QI K) := by
  refine Ct_intro (by decide +kernel) rfl ?_
  show M true Γ mX6_peaOn 0 0 0 0 0 (QI K) 0 [some (vq (some (6, i0))), some (vi a1), none] [] σ
  unfold f6_peaOn at h
  refine r_iconst 0 1 dX6_peaOn_0 rfl (by decide) ?_
  refine r_istore_n [some (vq (some (6, i0))), some (vi a1), some (vi 0)] 2 dX6_peaOn_1 rfl rfl rfl ?_
  exact tl6_peaOn_2 300 0 σ h

set_option maxRecDepth 20000 in
set_option maxHeartbeats 4000000 in
theorem tl6_behindLine_17 {Γ : GG} {K : Int32 × Sto → Prop} {i0 : Nat} {a2 : Int32} : ∀ (n : Nat) (a3 : Int32) (a4 : Int32) (σ : Sto), Out (l6_behindLine_17 i0 a2 n a3 a4 σ) K → M true Γ mX6_behindLine 1 0 0 0 0 (QI K) 17 [some (vq (some (6, i0))), none, some (vi a2), some (vi a3), some (vi a4)] [] σ := by
  intro n
  induction n with
  | zero => intro a3 a4 σ h; exact absurd h Out_none
  | succ n ih =>
    intro a3 a4 σ h
    unfold l6_behindLine_17 at h
    refine r_iload 19 dX6_behindLine_17 rfl rfl ?_
    refine r_iconst 5 20 dX6_behindLine_19 rfl (by decide) ?_
    refine r_icmp_ge 54 23 dX6_behindLine_20 (by decide) rfl (fun hc => ?_) (fun hc => ?_)
    · replace h := Out_pos hc h
      refine r_iload_n 55 dX6_behindLine_54 rfl rfl ?_
      exact r_ireturn dX6_behindLine_55 rfl (Nat.le_refl 0) (Nat.le_refl 0) h
    · replace h := Out_neg hc h
      refine r_iload_n 24 dX6_behindLine_23 rfl rfl ?_
      refine r_iconst (-1) 25 dX6_behindLine_24 rfl (by decide) ?_
      refine r_icmp_eq 54 28 dX6_behindLine_25 (by decide) rfl (fun hc => ?_) (fun hc => ?_)
      · replace h := Out_pos hc h
        refine r_iload_n 55 dX6_behindLine_54 rfl rfl ?_
        exact r_ireturn dX6_behindLine_55 rfl (Nat.le_refl 0) (Nat.le_refl 0) h
      · replace h := Out_neg hc h
        refine r_aload_n 29 dX6_behindLine_28 rfl rfl ?_
        refine r_iload_n 30 dX6_behindLine_29 rfl rfl ?_
        refine c_I [vq (some (6, i0)), vi a3] [] 33 cs6_behindLine_30 rfl h (fun _ h' => ct6_peaOn h') rfl rfl rfl rfl (by decide) (Nat.le_refl 0) (Nat.le_refl 0) (fun v26 s27 h => ?_)
        refine r_bipush (-9) 35 dX6_behindLine_33 rfl (by decide) ?_
        refine r_icmp_eq 54 38 dX6_behindLine_35 (by decide) rfl (fun hc => ?_) (fun hc => ?_)
        · replace h := Out_pos hc h
          refine r_iload_n 55 dX6_behindLine_54 rfl rfl ?_
          exact r_ireturn dX6_behindLine_55 rfl (Nat.le_refl 0) (Nat.le_refl 0) h
        · replace h := Out_neg hc h
          refine r_aload_n 39 dX6_behindLine_38 rfl rfl ?_
          refine r_getR (x := fe6_15) 0 42 fl6_15 (by decide) dX6_behindLine_39 rfl rfl rfl (Or.inr rfl) ?_
          refine r_iload_n 43 dX6_behindLine_42 rfl rfl ?_
          refine r_iload_n 44 dX6_behindLine_43 rfl rfl ?_
          obtain ⟨i28, e0, h⟩ := Out_dr h
          rw [e0]
          refine c_I [vq (some (2, i28)), vi a3, vi a2] [] 47 cs6_behindLine_44 rfl h (fun _ h' => ct2_nextTo h') rfl rfl rfl rfl (by decide) (Nat.le_refl 0) (Nat.le_refl 0) (fun v29 s30 h => ?_)
          refine r_istore_n [some (vq (some (6, i0))), none, some (vi a2), some (vi v29), some (vi a4)] 48 dX6_behindLine_47 rfl rfl rfl ?_
          refine r_iinc 1 [some (vq (some (6, i0))), none, some (vi a2), some (vi v29), some (vi (a4 + 1))] 51 dX6_behindLine_48 rfl (by decide) rfl rfl rfl ?_
          refine r_goto 17 dX6_behindLine_51 (by decide) ?_
          exact ih v29 (a4 + 1) s30 h
set_option maxRecDepth 20000 in
set_option maxHeartbeats 4000000 in
theorem ct6_behindLine {Γ : GG} {K : Int32 × Sto → Prop} {i0 : Nat} {a1 : Int32} {a2 : Int32} {σ : Sto} (h : Out (f6_behindLine i0 a1 a2 σ) K) : Ct true Γ mX6_behindLine 1 0 0 [vq (some (6, i0)), vi a1, vi a2] σ (QI K) := by
  refine Ct_intro (by decide +kernel) rfl ?_
  show M true Γ mX6_behindLine 1 0 0 0 0 (QI K) 0 [some (vq (some (6, i0))), some (vi a1), some (vi a2), none, none] [] σ
  unfold f6_behindLine at h
  refine r_aload_n 1 dX6_behindLine_0 rfl rfl ?_
  refine r_getR (x := fe6_15) 0 4 fl6_15 (by decide) dX6_behindLine_1 rfl rfl rfl (Or.inr rfl) ?_
  refine r_aload_n 5 dX6_behindLine_4 rfl rfl ?_
  refine r_iload_n 6 dX6_behindLine_5 rfl rfl ?_
  refine c_I [vq (some (6, i0)), vi a1] [vq (gR σ 6 i0 0)] 9 cs6_behindLine_6 rfl h (fun _ h' => ct6_spotOf h') rfl rfl rfl rfl (by decide) (Nat.le_refl 0) (Nat.le_refl 0) (fun v21 s22 h => ?_)
  refine r_iload_n 10 dX6_behindLine_9 rfl rfl ?_
  obtain ⟨i23, e0, h⟩ := Out_dr h
  rw [e0]
  refine c_I [vq (some (2, i23)), vi v21, vi a2] [] 13 cs6_behindLine_10 rfl h (fun _ h' => ct2_nextTo h') rfl rfl rfl rfl (by decide) (Nat.le_refl 0) (Nat.le_refl 0) (fun v24 s25 h => ?_)
  refine r_istore_n [some (vq (some (6, i0))), some (vi a1), some (vi a2), some (vi v24), none] 14 dX6_behindLine_13 rfl rfl rfl ?_
  refine r_iconst 0 15 dX6_behindLine_14 rfl (by decide) ?_
  refine r_istore [some (vq (some (6, i0))), some (vi a1), some (vi a2), some (vi v24), some (vi 0)] 17 dX6_behindLine_15 rfl rfl rfl ?_
  refine r_mask [true, false, true, true, true] [some (vq (some (6, i0))), none, some (vi a2), some (vi v24), some (vi 0)] rfl rfl ?_
  exact tl6_behindLine_17 300 v24 0 s25 h

set_option maxRecDepth 20000 in
set_option maxHeartbeats 4000000 in
theorem ct6_isHeld {Γ : GG} {K : Int32 × Sto → Prop} {i0 : Nat} {a1 : Int32} {a2 : Int32} {σ : Sto} (h : Out (f6_isHeld i0 a1 a2 σ) K) : Ct true Γ mX6_isHeld 2 0 0 [vq (some (6, i0)), vi a1, vi a2] σ (QI K) := by
  refine Ct_intro (by decide +kernel) rfl ?_
  show M true Γ mX6_isHeld 2 0 0 0 0 (QI K) 0 [some (vq (some (6, i0))), some (vi a1), some (vi a2), none] [] σ
  unfold f6_isHeld at h
  refine r_aload_n 1 dX6_isHeld_0 rfl rfl ?_
  refine r_iload_n 2 dX6_isHeld_1 rfl rfl ?_
  refine c_I [vq (some (6, i0)), vi a1] [] 5 cs6_isHeld_2 rfl h (fun _ h' => ct6_isOn h') rfl rfl rfl rfl (by decide) (Nat.le_refl 0) (Nat.le_refl 0) (fun v21 s22 h => ?_)
  refine r_if_ne 10 8 dX6_isHeld_5 (by decide) rfl (fun hc => ?_) (fun hc => ?_)
  · replace h := Out_neg hc h
    refine r_aload_n 11 dX6_isHeld_10 rfl rfl ?_
    refine r_iload_n 12 dX6_isHeld_11 rfl rfl ?_
    refine r_iload_n 13 dX6_isHeld_12 rfl rfl ?_
    refine c_I [vq (some (6, i0)), vi a1, vi a2] [] 16 cs6_isHeld_13 rfl h (fun _ h' => ct6_behindLine h') rfl rfl rfl rfl (by decide) (Nat.le_refl 0) (Nat.le_refl 0) (fun v23 s24 h => ?_)
    refine r_istore_n [some (vq (some (6, i0))), some (vi a1), some (vi a2), some (vi v23)] 17 dX6_isHeld_16 rfl rfl rfl ?_
    refine r_iload_n 18 dX6_isHeld_17 rfl rfl ?_
    refine r_iconst (-1) 19 dX6_isHeld_18 rfl (by decide) ?_
    refine r_icmp_ne 38 22 dX6_isHeld_19 (by decide) rfl (fun hc => ?_) (fun hc => ?_)
    · replace h := Out_neg hc h
      refine r_aload_n 39 dX6_isHeld_38 rfl rfl ?_
      refine r_getR (x := fe6_15) 0 42 fl6_15 (by decide) dX6_isHeld_39 rfl rfl rfl (Or.inr rfl) ?_
      refine r_iload_n 43 dX6_isHeld_42 rfl rfl ?_
      obtain ⟨i25, e0, h⟩ := Out_dr h
      rw [e0]
      refine c_I [vq (some (2, i25)), vi v23] [] 46 cs6_isHeld_43 rfl h (fun _ h' => ct2_signAt h') rfl rfl rfl rfl (by decide) (Nat.le_refl 0) (Nat.le_refl 0) (fun v26 s27 h => ?_)
      refine r_iconst 2 47 dX6_isHeld_46 rfl (by decide) ?_
      refine r_icmp_ne 54 50 dX6_isHeld_47 (by decide) rfl (fun hc => ?_) (fun hc => ?_)
      · replace h := Out_neg hc h
        refine r_iconst 0 55 dX6_isHeld_54 rfl (by decide) ?_
        exact r_zreturn dX6_isHeld_55 rfl (by decide) (Nat.le_refl 0) (Nat.le_refl 0) h
      · replace h := Out_pos hc h
        refine r_iconst 1 51 dX6_isHeld_50 rfl (by decide) ?_
        refine r_goto 55 dX6_isHeld_51 (by decide) ?_
        exact r_zreturn dX6_isHeld_55 rfl (by decide) (Nat.le_refl 0) (Nat.le_refl 0) h
    · replace h := Out_pos hc h
      refine r_aload_n 23 dX6_isHeld_22 rfl rfl ?_
      refine r_getI (x := fe6_19) 3 26 fl6_19 (by decide) dX6_isHeld_23 rfl rfl rfl ?_
      refine r_iconst 2 27 dX6_isHeld_26 rfl (by decide) ?_
      refine r_icmp_ne 34 30 dX6_isHeld_27 (by decide) rfl (fun hc => ?_) (fun hc => ?_)
      · replace h := Out_neg hc h
        refine r_iconst 0 35 dX6_isHeld_34 rfl (by decide) ?_
        refine r_goto 55 dX6_isHeld_35 (by decide) ?_
        exact r_zreturn dX6_isHeld_55 rfl (by decide) (Nat.le_refl 0) (Nat.le_refl 0) h
      · replace h := Out_pos hc h
        refine r_iconst 1 31 dX6_isHeld_30 rfl (by decide) ?_
        refine r_goto 55 dX6_isHeld_31 (by decide) ?_
        exact r_zreturn dX6_isHeld_55 rfl (by decide) (Nat.le_refl 0) (Nat.le_refl 0) h
  · replace h := Out_pos hc h
    refine r_iconst 0 9 dX6_isHeld_8 rfl (by decide) ?_
    exact r_zreturn dX6_isHeld_9 rfl (by decide) (Nat.le_refl 0) (Nat.le_refl 0) h

set_option maxRecDepth 20000 in
set_option maxHeartbeats 4000000 in
theorem ct6_comeToRim {Γ : GG} {K : Sto → Prop} {i0 : Nat} {a1 : Int32} {σ : Sto} (h : Out (f6_comeToRim i0 a1 σ) K) : Ct true Γ mX6_comeToRim 0 0 0 [vq (some (6, i0)), vi a1] σ (QV K) := by
  refine Ct_intro (by decide +kernel) rfl ?_
  show M true Γ mX6_comeToRim 0 0 0 0 0 (QV K) 0 [some (vq (some (6, i0))), some (vi a1)] [] σ
  unfold f6_comeToRim at h
  refine r_aload_n 1 dX6_comeToRim_0 rfl rfl ?_
  refine r_getI (x := fe6_19) 3 4 fl6_19 (by decide) dX6_comeToRim_1 rfl rfl rfl ?_
  refine r_iconst 1 5 dX6_comeToRim_4 rfl (by decide) ?_
  refine r_icmp_ne 28 8 dX6_comeToRim_5 (by decide) rfl (fun hc => ?_) (fun hc => ?_)
  · replace h := Out_neg hc h
    exact r_return dX6_comeToRim_28 rfl (Nat.le_refl 0) (Nat.le_refl 0) h
  · replace h := Out_pos hc h
    refine r_aload_n 9 dX6_comeToRim_8 rfl rfl ?_
    refine r_dup 10 dX6_comeToRim_9 rfl rfl ?_
    refine r_getI (x := fe6_26) 2 13 fl6_26 (by decide) dX6_comeToRim_10 rfl rfl rfl ?_
    refine r_iconst 1 14 dX6_comeToRim_13 rfl (by decide) ?_
    refine r_iload_n 15 dX6_comeToRim_14 rfl rfl ?_
    refine r_ishl 16 dX6_comeToRim_15 rfl ?_
    refine r_ior 17 dX6_comeToRim_16 rfl ?_
    refine r_putI (x := fe6_26) 2 20 fl6_26 (by decide) dX6_comeToRim_17 rfl (Or.inl rfl) rfl rfl ?_
    refine r_aload_n 21 dX6_comeToRim_20 rfl rfl ?_
    refine r_getF (x := fe6_9) 4 (16, i0) 24 fl6_9 (by decide) dX6_comeToRim_21 rfl rfl rfl rfl ?_
    refine r_iload_n 25 dX6_comeToRim_24 rfl rfl ?_
    refine r_bipush (-9) 27 dX6_comeToRim_25 rfl (by decide) ?_
    obtain ⟨hc, h⟩ := Out_grd h
    refine r_iastore a1.toNatClampNeg 5 28 dX6_comeToRim_27 rfl (by decide) (by decide) rfl rfl hc rfl ?_
    exact r_return dX6_comeToRim_28 rfl (Nat.le_refl 0) (Nat.le_refl 0) h

set_option maxRecDepth 20000 in
set_option maxHeartbeats 4000000 in
theorem tl6_roll_9 {Γ : GG} {K : Sto → Prop} {i0 : Nat} : ∀ (n : Nat) (a4 : Int32) (a5 : Int32) (a6 : Int32) (σ : Sto), Out (l6_roll_9 i0 n a4 a5 a6 σ) K → M true Γ mX6_roll 1 0 0 0 0 (QV K) 9 [some (vq (some (6, i0))), none, none, none, some (vi a4), some (vi a5), some (vi a6), none] [] σ := by
  intro n
  induction n with
  | zero => intro a4 a5 a6 σ h; exact absurd h Out_none
  | succ n ih =>
    intro a4 a5 a6 σ h
    unfold l6_roll_9 at h
    refine r_iload 11 dX6_roll_9 rfl rfl ?_
    refine r_if_le 128 14 dX6_roll_11 (by decide) rfl (fun hc => ?_) (fun hc => ?_)
    · replace h := Out_pos hc h
      exact r_return dX6_roll_128 rfl (Nat.le_refl 0) (Nat.le_refl 0) h
    · replace h := Out_neg hc h
      refine r_aload_n 15 dX6_roll_14 rfl rfl ?_
      refine r_getR (x := fe6_15) 0 18 fl6_15 (by decide) dX6_roll_15 rfl rfl rfl (Or.inr rfl) ?_
      refine r_aload_n 19 dX6_roll_18 rfl rfl ?_
      refine r_getF (x := fe6_9) 4 (16, i0) 22 fl6_9 (by decide) dX6_roll_19 rfl rfl rfl rfl ?_
      refine r_iload 24 dX6_roll_22 rfl rfl ?_
      obtain ⟨hc, h⟩ := Out_grd h
      refine r_iaload a4.toNatClampNeg 5 25 dX6_roll_24 rfl (by decide) rfl rfl hc rfl ?_
      refine r_iload 27 dX6_roll_25 rfl rfl ?_
      obtain ⟨i21, e0, h⟩ := Out_dr h
      rw [e0]
      refine c_I [vq (some (2, i21)), vi (gI σ 16 i0 a4.toNatClampNeg), vi a5] [] 30 cs6_roll_27 rfl h (fun _ h' => ct2_nextTo h') rfl rfl rfl rfl (by decide) (Nat.le_refl 0) (Nat.le_refl 0) (fun v22 s23 h => ?_)
      refine r_istore [some (vq (some (6, i0))), none, none, none, some (vi a4), some (vi a5), some (vi a6), some (vi v22)] 32 dX6_roll_30 rfl rfl rfl ?_
      refine r_iload 34 dX6_roll_32 rfl rfl ?_
      refine r_iconst (-1) 35 dX6_roll_34 rfl (by decide) ?_
      refine r_icmp_ne 63 38 dX6_roll_35 (by decide) rfl (fun hc => ?_) (fun hc => ?_)
      · replace h := Out_neg hc h
        refine r_aload_n 64 dX6_roll_63 rfl rfl ?_
        refine r_getR (x := fe6_15) 0 67 fl6_15 (by decide) dX6_roll_64 rfl rfl rfl (Or.inr rfl) ?_
        refine r_iload 69 dX6_roll_67 rfl rfl ?_
        obtain ⟨i24, e0, h⟩ := Out_dr h
        rw [e0]
        refine c_I [vq (some (2, i24)), vi v22] [] 72 cs6_roll_69 rfl h (fun _ h' => ct2_signAt h') rfl rfl rfl rfl (by decide) (Nat.le_refl 0) (Nat.le_refl 0) (fun v25 s26 h => ?_)
        refine r_iconst 2 73 dX6_roll_72 rfl (by decide) ?_
        refine r_icmp_ne 77 76 dX6_roll_73 (by decide) rfl (fun hc => ?_) (fun hc => ?_)
        · replace h := Out_neg hc h
          refine r_aload_n 78 dX6_roll_77 rfl rfl ?_
          refine r_iload 80 dX6_roll_78 rfl rfl ?_
          refine c_I [vq (some (6, i0)), vi v22] [] 83 cs6_roll_80 rfl h (fun _ h' => ct6_peaOn h') rfl rfl rfl rfl (by decide) (Nat.le_refl 0) (Nat.le_refl 0) (fun v27 s28 h => ?_)
          refine r_bipush (-9) 85 dX6_roll_83 rfl (by decide) ?_
          refine r_icmp_eq 99 88 dX6_roll_85 (by decide) rfl (fun hc => ?_) (fun hc => ?_)
          · replace h := Out_pos hc h
            refine r_aload_n 100 dX6_roll_99 rfl rfl ?_
            refine r_getF (x := fe6_9) 4 (16, i0) 103 fl6_9 (by decide) dX6_roll_100 rfl rfl rfl rfl ?_
            refine r_iload 105 dX6_roll_103 rfl rfl ?_
            refine r_iload 107 dX6_roll_105 rfl rfl ?_
            obtain ⟨hc, h⟩ := Out_grd h
            refine r_iastore a4.toNatClampNeg 5 108 dX6_roll_107 rfl (by decide) (by decide) rfl rfl hc rfl ?_
            refine r_aload_n 109 dX6_roll_108 rfl rfl ?_
            refine r_getR (x := fe6_15) 0 112 fl6_15 (by decide) dX6_roll_109 rfl rfl rfl (Or.inr rfl) ?_
            refine r_iload 114 dX6_roll_112 rfl rfl ?_
            obtain ⟨i29, e0, h⟩ := Out_dr h
            rw [e0]
            refine c_I [vq (some (2, i29)), vi v22] [] 117 cs6_roll_114 rfl h (fun _ h' => ct2_signAt h') rfl rfl rfl rfl (by decide) (Nat.le_refl 0) (Nat.le_refl 0) (fun v30 s31 h => ?_)
            refine r_iconst 1 118 dX6_roll_117 rfl (by decide) ?_
            refine r_icmp_ne 122 121 dX6_roll_118 (by decide) rfl (fun hc => ?_) (fun hc => ?_)
            · replace h := Out_neg hc h
              refine r_iinc (-1) [some (vq (some (6, i0))), none, none, none, some (vi a4), some (vi a5), some (vi (a6 + (-1))), some (vi v22)] 125 dX6_roll_122 rfl (by decide) rfl rfl rfl ?_
              refine r_goto 9 dX6_roll_125 (by decide) ?_
              refine r_mask [true, false, false, false, true, true, true, false] [some (vq (some (6, i0))), none, none, none, some (vi a4), some (vi a5), some (vi (a6 + (-1))), none] rfl rfl ?_
              exact ih a4 a5 (a6 + (-1)) s31 h
            · replace h := Out_pos hc h
              exact r_return dX6_roll_121 rfl (Nat.le_refl 0) (Nat.le_refl 0) h
          · replace h := Out_neg hc h
            refine r_aload_n 89 dX6_roll_88 rfl rfl ?_
            refine r_iload 91 dX6_roll_89 rfl rfl ?_
            refine c_I [vq (some (6, i0)), vi v22] [] 94 cs6_roll_91 rfl h (fun _ h' => ct6_peaOn h') rfl rfl rfl rfl (by decide) (Nat.le_refl 0) (Nat.le_refl 0) (fun v32 s33 h => ?_)
            refine r_istore [some (vq (some (6, i0))), none, none, none, some (vi v32), some (vi a5), some (vi a6), some (vi v22)] 96 dX6_roll_94 rfl rfl rfl ?_
            refine r_goto 122 dX6_roll_96 (by decide) ?_
            refine r_iinc (-1) [some (vq (some (6, i0))), none, none, none, some (vi v32), some (vi a5), some (vi (a6 + (-1))), some (vi v22)] 125 dX6_roll_122 rfl (by decide) rfl rfl rfl ?_
            refine r_goto 9 dX6_roll_125 (by decide) ?_
            refine r_mask [true, false, false, false, true, true, true, false] [some (vq (some (6, i0))), none, none, none, some (vi v32), some (vi a5), some (vi (a6 + (-1))), none] rfl rfl ?_
            exact ih v32 a5 (a6 + (-1)) s33 h
        · replace h := Out_pos hc h
          exact r_return dX6_roll_76 rfl (Nat.le_refl 0) (Nat.le_refl 0) h
      · replace h := Out_pos hc h
        refine r_aload_n 39 dX6_roll_38 rfl rfl ?_
        refine r_getI (x := fe6_19) 3 42 fl6_19 (by decide) dX6_roll_39 rfl rfl rfl ?_
        refine r_if_eq 52 45 dX6_roll_42 (by decide) rfl (fun hc => ?_) (fun hc => ?_)
        · replace h := Out_pos hc h
          refine r_iload 54 dX6_roll_52 rfl rfl ?_
          refine r_iconst 2 55 dX6_roll_54 rfl (by decide) ?_
          refine r_iadd 56 dX6_roll_55 rfl ?_
          refine r_iconst 4 57 dX6_roll_56 rfl (by decide) ?_
          refine r_irem 58 dX6_roll_57 rfl (by decide) ?_
          refine r_istore [some (vq (some (6, i0))), none, none, none, some (vi a4), some (vi ((a5 + 2) - (a5 + 2) / 4 * 4)), some (vi a6), some (vi v22)] 60 dX6_roll_58 rfl rfl rfl ?_
          refine r_goto 122 dX6_roll_60 (by decide) ?_
          refine r_iinc (-1) [some (vq (some (6, i0))), none, none, none, some (vi a4), some (vi ((a5 + 2) - (a5 + 2) / 4 * 4)), some (vi (a6 + (-1))), some (vi v22)] 125 dX6_roll_122 rfl (by decide) rfl rfl rfl ?_
          refine r_goto 9 dX6_roll_125 (by decide) ?_
          refine r_mask [true, false, false, false, true, true, true, false] [some (vq (some (6, i0))), none, none, none, some (vi a4), some (vi ((a5 + 2) - (a5 + 2) / 4 * 4)), some (vi (a6 + (-1))), none] rfl rfl ?_
          exact ih a4 ((a5 + 2) - (a5 + 2) / 4 * 4) (a6 + (-1)) s23 h
        · replace h := Out_neg hc h
          refine r_aload_n 46 dX6_roll_45 rfl rfl ?_
          refine r_iload 48 dX6_roll_46 rfl rfl ?_
          refine c_V [vq (some (6, i0)), vi a4] [] 51 cs6_roll_48 rfl h (fun _ h' => ct6_comeToRim h') rfl rfl rfl rfl (by decide) (Nat.le_refl 0) (Nat.le_refl 0) (fun s34 h => ?_)
          exact r_return dX6_roll_51 rfl (Nat.le_refl 0) (Nat.le_refl 0) h
set_option maxRecDepth 20000 in
set_option maxHeartbeats 4000000 in
theorem ct6_roll {Γ : GG} {K : Sto → Prop} {i0 : Nat} {a1 : Int32} {a2 : Int32} {a3 : Int32} {σ : Sto} (h : Out (f6_roll i0 a1 a2 a3 σ) K) : Ct true Γ mX6_roll 1 0 0 [vq (some (6, i0)), vi a1, vi a2, vi a3] σ (QV K) := by
  refine Ct_intro (by decide +kernel) rfl ?_
  show M true Γ mX6_roll 1 0 0 0 0 (QV K) 0 [some (vq (some (6, i0))), some (vi a1), some (vi a2), some (vi a3), none, none, none, none] [] σ
  unfold f6_roll at h
  refine r_iload_n 1 dX6_roll_0 rfl rfl ?_
  refine r_istore [some (vq (some (6, i0))), some (vi a1), some (vi a2), some (vi a3), some (vi a1), none, none, none] 3 dX6_roll_1 rfl rfl rfl ?_
  refine r_iload_n 4 dX6_roll_3 rfl rfl ?_
  refine r_istore [some (vq (some (6, i0))), some (vi a1), some (vi a2), some (vi a3), some (vi a1), some (vi a2), none, none] 6 dX6_roll_4 rfl rfl rfl ?_
  refine r_iload_n 7 dX6_roll_6 rfl rfl ?_
  refine r_istore [some (vq (some (6, i0))), some (vi a1), some (vi a2), some (vi a3), some (vi a1), some (vi a2), some (vi a3), none] 9 dX6_roll_7 rfl rfl rfl ?_
  refine r_mask [true, false, false, false, true, true, true, false] [some (vq (some (6, i0))), none, none, none, some (vi a1), some (vi a2), some (vi a3), none] rfl rfl ?_
  exact tl6_roll_9 300 a1 a2 a3 σ h

