/-! printed by wip/gen/dec.py: the methods meet their functions -/
set_option maxRecDepth 20000 in
set_option maxHeartbeats 4000000 in
theorem tl9_setOf_4 {Γ : GG} {K : Int32 × Sto → Prop} {a1 : Int32} : ∀ (n : Nat) (a2 : Int32) (a3 : Int32) (σ : Sto), Out (l9_setOf_4 a1 n a2 a3 σ) K → M true Γ mX9_setOf 4 0 0 0 0 (QI K) 4 [some (vq (some (9, 0))), some (vi a1), some (vi a2), some (vi a3), none] [] σ := by
  intro n
  induction n with
  | zero => intro a2 a3 σ h; exact absurd h Out_none
  | succ n ih =>
    intro a2 a3 σ h
    unfold l9_setOf_4 at h
    refine r_iload_n 5 dX9_setOf_4 rfl rfl ?_
    refine r_aload_n 6 dX9_setOf_5 rfl rfl ?_
    refine r_getI (x := fe9_75) 3 9 fl9_75 (by decide) dX9_setOf_6 rfl rfl rfl ?_
    refine r_icmp_ge 106 12 dX9_setOf_9 (by decide) rfl (fun hc => ?_) (fun hc => ?_)
    · replace h := Out_pos hc h
      refine r_iload_n 107 dX9_setOf_106 rfl rfl ?_
      exact r_ireturn dX9_setOf_107 rfl (Nat.le_refl 0) (Nat.le_refl 0) h
    · replace h := Out_neg hc h
      refine r_iload_n 13 dX9_setOf_12 rfl rfl ?_
      refine r_if_ne 34 16 dX9_setOf_13 (by decide) rfl (fun hc => ?_) (fun hc => ?_)
      · replace h := Out_neg hc h
        refine r_iload_n 35 dX9_setOf_34 rfl rfl ?_
        refine r_iconst 1 36 dX9_setOf_35 rfl (by decide) ?_
        refine r_icmp_ne 58 39 dX9_setOf_36 (by decide) rfl (fun hc => ?_) (fun hc => ?_)
        · replace h := Out_neg hc h
          refine r_aload_n 59 dX9_setOf_58 rfl rfl ?_
          refine r_getF (x := fe9_55) 30 (39, 0) 62 fl9_55 (by decide) dX9_setOf_59 rfl rfl rfl rfl ?_
          refine r_iload_n 63 dX9_setOf_62 rfl rfl ?_
          obtain ⟨hc, h⟩ := Out_grd h
          refine r_iaload a3.toNatClampNeg 5 64 dX9_setOf_63 rfl (by decide) rfl rfl hc rfl ?_
          refine r_if_lt 82 67 dX9_setOf_64 (by decide) rfl (fun hc => ?_) (fun hc => ?_)
          · replace h := Out_pos hc h
            refine r_iconst 0 83 dX9_setOf_82 rfl (by decide) ?_
            refine r_istore [some (vq (some (9, 0))), some (vi a1), some (vi a2), some (vi a3), some (vi 0)] 85 dX9_setOf_83 rfl rfl rfl ?_
            refine r_iload_n 86 dX9_setOf_85 rfl rfl ?_
            refine r_iload 88 dX9_setOf_86 rfl rfl ?_
            refine r_if_eq 97 91 dX9_setOf_88 (by decide) rfl (fun _ => ?_) (fun hc => absurd hc (by decide))
            refine r_iconst 0 98 dX9_setOf_97 rfl (by decide) ?_
            refine r_ior 99 dX9_setOf_98 rfl ?_
            refine r_istore_n [some (vq (some (9, 0))), some (vi a1), some (vi (a2 ||| 0)), some (vi a3), some (vi 0)] 100 dX9_setOf_99 rfl rfl rfl ?_
            refine r_iinc 1 [some (vq (some (9, 0))), some (vi a1), some (vi (a2 ||| 0)), some (vi (a3 + 1)), some (vi 0)] 103 dX9_setOf_100 rfl (by decide) rfl rfl rfl ?_
            refine r_goto 4 dX9_setOf_103 (by decide) ?_
            refine r_mask [true, true, true, true, false] [some (vq (some (9, 0))), some (vi a1), some (vi (a2 ||| 0)), some (vi (a3 + 1)), none] rfl rfl ?_
            exact ih (a2 ||| 0) (a3 + 1) σ h
          · replace h := Out_neg hc h
            refine r_aload_n 68 dX9_setOf_67 rfl rfl ?_
            refine r_iload_n 69 dX9_setOf_68 rfl rfl ?_
            refine r_iload_n 70 dX9_setOf_69 rfl rfl ?_
            refine r_iconst 2 71 dX9_setOf_70 rfl (by decide) ?_
            refine r_isub 72 dX9_setOf_71 rfl ?_
            refine c_I [vq (some (9, 0)), vi a3, vi (a1 - 2)] [] 75 cs9_setOf_72 rfl h (fun _ h' => ct9_isHeld h') rfl rfl rfl rfl (by decide) (Nat.le_refl 0) (Nat.le_refl 0) (fun v21 s22 h => ?_)
            refine r_if_eq 82 78 dX9_setOf_75 (by decide) rfl (fun hc => ?_) (fun hc => ?_)
            · replace h := Out_pos hc h
              refine r_iconst 0 83 dX9_setOf_82 rfl (by decide) ?_
              refine r_istore [some (vq (some (9, 0))), some (vi a1), some (vi a2), some (vi a3), some (vi 0)] 85 dX9_setOf_83 rfl rfl rfl ?_
              refine r_iload_n 86 dX9_setOf_85 rfl rfl ?_
              refine r_iload 88 dX9_setOf_86 rfl rfl ?_
              refine r_if_eq 97 91 dX9_setOf_88 (by decide) rfl (fun _ => ?_) (fun hc => absurd hc (by decide))
              refine r_iconst 0 98 dX9_setOf_97 rfl (by decide) ?_
              refine r_ior 99 dX9_setOf_98 rfl ?_
              refine r_istore_n [some (vq (some (9, 0))), some (vi a1), some (vi (a2 ||| 0)), some (vi a3), some (vi 0)] 100 dX9_setOf_99 rfl rfl rfl ?_
              refine r_iinc 1 [some (vq (some (9, 0))), some (vi a1), some (vi (a2 ||| 0)), some (vi (a3 + 1)), some (vi 0)] 103 dX9_setOf_100 rfl (by decide) rfl rfl rfl ?_
              refine r_goto 4 dX9_setOf_103 (by decide) ?_
              refine r_mask [true, true, true, true, false] [some (vq (some (9, 0))), some (vi a1), some (vi (a2 ||| 0)), some (vi (a3 + 1)), none] rfl rfl ?_
              exact ih (a2 ||| 0) (a3 + 1) s22 h
            · replace h := Out_neg hc h
              refine r_iconst 1 79 dX9_setOf_78 rfl (by decide) ?_
              refine r_goto 83 dX9_setOf_79 (by decide) ?_
              refine r_istore [some (vq (some (9, 0))), some (vi a1), some (vi a2), some (vi a3), some (vi 1)] 85 dX9_setOf_83 rfl rfl rfl ?_
              refine r_iload_n 86 dX9_setOf_85 rfl rfl ?_
              refine r_iload 88 dX9_setOf_86 rfl rfl ?_
              refine r_if_eq 97 91 dX9_setOf_88 (by decide) rfl (fun hc => absurd hc (by decide)) (fun _ => ?_)
              refine r_iconst 1 92 dX9_setOf_91 rfl (by decide) ?_
              refine r_iload_n 93 dX9_setOf_92 rfl rfl ?_
              refine r_ishl 94 dX9_setOf_93 rfl ?_
              refine r_goto 98 dX9_setOf_94 (by decide) ?_
              refine r_ior 99 dX9_setOf_98 rfl ?_
              refine r_istore_n [some (vq (some (9, 0))), some (vi a1), some (vi (a2 ||| (1 <<< (a3 &&& 31)))), some (vi a3), some (vi 1)] 100 dX9_setOf_99 rfl rfl rfl ?_
              refine r_iinc 1 [some (vq (some (9, 0))), some (vi a1), some (vi (a2 ||| (1 <<< (a3 &&& 31)))), some (vi (a3 + 1)), some (vi 1)] 103 dX9_setOf_100 rfl (by decide) rfl rfl rfl ?_
              refine r_goto 4 dX9_setOf_103 (by decide) ?_
              refine r_mask [true, true, true, true, false] [some (vq (some (9, 0))), some (vi a1), some (vi (a2 ||| (1 <<< (a3 &&& 31)))), some (vi (a3 + 1)), none] rfl rfl ?_
              exact ih (a2 ||| (1 <<< (a3 &&& 31))) (a3 + 1) s22 h
        · replace h := Out_pos hc h
          refine r_aload_n 40 dX9_setOf_39 rfl rfl ?_
          refine r_getF (x := fe9_55) 30 (39, 0) 43 fl9_55 (by decide) dX9_setOf_40 rfl rfl rfl rfl ?_
          refine r_iload_n 44 dX9_setOf_43 rfl rfl ?_
          obtain ⟨hc, h⟩ := Out_grd h
          refine r_iaload a3.toNatClampNeg 5 45 dX9_setOf_44 rfl (by decide) rfl rfl hc rfl ?_
          refine r_bipush (-2) 47 dX9_setOf_45 rfl (by decide) ?_
          refine r_icmp_ne 54 50 dX9_setOf_47 (by decide) rfl (fun hc => ?_) (fun hc => ?_)
          · replace h := Out_neg hc h
            refine r_iconst 0 55 dX9_setOf_54 rfl (by decide) ?_
            refine r_goto 83 dX9_setOf_55 (by decide) ?_
            refine r_istore [some (vq (some (9, 0))), some (vi a1), some (vi a2), some (vi a3), some (vi 0)] 85 dX9_setOf_83 rfl rfl rfl ?_
            refine r_iload_n 86 dX9_setOf_85 rfl rfl ?_
            refine r_iload 88 dX9_setOf_86 rfl rfl ?_
            refine r_if_eq 97 91 dX9_setOf_88 (by decide) rfl (fun _ => ?_) (fun hc => absurd hc (by decide))
            refine r_iconst 0 98 dX9_setOf_97 rfl (by decide) ?_
            refine r_ior 99 dX9_setOf_98 rfl ?_
            refine r_istore_n [some (vq (some (9, 0))), some (vi a1), some (vi (a2 ||| 0)), some (vi a3), some (vi 0)] 100 dX9_setOf_99 rfl rfl rfl ?_
            refine r_iinc 1 [some (vq (some (9, 0))), some (vi a1), some (vi (a2 ||| 0)), some (vi (a3 + 1)), some (vi 0)] 103 dX9_setOf_100 rfl (by decide) rfl rfl rfl ?_
            refine r_goto 4 dX9_setOf_103 (by decide) ?_
            refine r_mask [true, true, true, true, false] [some (vq (some (9, 0))), some (vi a1), some (vi (a2 ||| 0)), some (vi (a3 + 1)), none] rfl rfl ?_
            exact ih (a2 ||| 0) (a3 + 1) σ h
          · replace h := Out_pos hc h
            refine r_iconst 1 51 dX9_setOf_50 rfl (by decide) ?_
            refine r_goto 83 dX9_setOf_51 (by decide) ?_
            refine r_istore [some (vq (some (9, 0))), some (vi a1), some (vi a2), some (vi a3), some (vi 1)] 85 dX9_setOf_83 rfl rfl rfl ?_
            refine r_iload_n 86 dX9_setOf_85 rfl rfl ?_
            refine r_iload 88 dX9_setOf_86 rfl rfl ?_
            refine r_if_eq 97 91 dX9_setOf_88 (by decide) rfl (fun hc => absurd hc (by decide)) (fun _ => ?_)
            refine r_iconst 1 92 dX9_setOf_91 rfl (by decide) ?_
            refine r_iload_n 93 dX9_setOf_92 rfl rfl ?_
            refine r_ishl 94 dX9_setOf_93 rfl ?_
            refine r_goto 98 dX9_setOf_94 (by decide) ?_
            refine r_ior 99 dX9_setOf_98 rfl ?_
            refine r_istore_n [some (vq (some (9, 0))), some (vi a1), some (vi (a2 ||| (1 <<< (a3 &&& 31)))), some (vi a3), some (vi 1)] 100 dX9_setOf_99 rfl rfl rfl ?_
            refine r_iinc 1 [some (vq (some (9, 0))), some (vi a1), some (vi (a2 ||| (1 <<< (a3 &&& 31)))), some (vi (a3 + 1)), some (vi 1)] 103 dX9_setOf_100 rfl (by decide) rfl rfl rfl ?_
            refine r_goto 4 dX9_setOf_103 (by decide) ?_
            refine r_mask [true, true, true, true, false] [some (vq (some (9, 0))), some (vi a1), some (vi (a2 ||| (1 <<< (a3 &&& 31)))), some (vi (a3 + 1)), none] rfl rfl ?_
            exact ih (a2 ||| (1 <<< (a3 &&& 31))) (a3 + 1) σ h
      · replace h := Out_pos hc h
        refine r_aload_n 17 dX9_setOf_16 rfl rfl ?_
        refine r_getF (x := fe9_55) 30 (39, 0) 20 fl9_55 (by decide) dX9_setOf_17 rfl rfl rfl rfl ?_
        refine r_iload_n 21 dX9_setOf_20 rfl rfl ?_
        obtain ⟨hc, h⟩ := Out_grd h
        refine r_iaload a3.toNatClampNeg 5 22 dX9_setOf_21 rfl (by decide) rfl rfl hc rfl ?_
        refine r_iconst (-1) 23 dX9_setOf_22 rfl (by decide) ?_
        refine r_icmp_ne 30 26 dX9_setOf_23 (by decide) rfl (fun hc => ?_) (fun hc => ?_)
        · replace h := Out_neg hc h
          refine r_iconst 0 31 dX9_setOf_30 rfl (by decide) ?_
          refine r_goto 83 dX9_setOf_31 (by decide) ?_
          refine r_istore [some (vq (some (9, 0))), some (vi a1), some (vi a2), some (vi a3), some (vi 0)] 85 dX9_setOf_83 rfl rfl rfl ?_
          refine r_iload_n 86 dX9_setOf_85 rfl rfl ?_
          refine r_iload 88 dX9_setOf_86 rfl rfl ?_
          refine r_if_eq 97 91 dX9_setOf_88 (by decide) rfl (fun _ => ?_) (fun hc => absurd hc (by decide))
          refine r_iconst 0 98 dX9_setOf_97 rfl (by decide) ?_
          refine r_ior 99 dX9_setOf_98 rfl ?_
          refine r_istore_n [some (vq (some (9, 0))), some (vi a1), some (vi (a2 ||| 0)), some (vi a3), some (vi 0)] 100 dX9_setOf_99 rfl rfl rfl ?_
          refine r_iinc 1 [some (vq (some (9, 0))), some (vi a1), some (vi (a2 ||| 0)), some (vi (a3 + 1)), some (vi 0)] 103 dX9_setOf_100 rfl (by decide) rfl rfl rfl ?_
          refine r_goto 4 dX9_setOf_103 (by decide) ?_
          refine r_mask [true, true, true, true, false] [some (vq (some (9, 0))), some (vi a1), some (vi (a2 ||| 0)), some (vi (a3 + 1)), none] rfl rfl ?_
          exact ih (a2 ||| 0) (a3 + 1) σ h
        · replace h := Out_pos hc h
          refine r_iconst 1 27 dX9_setOf_26 rfl (by decide) ?_
          refine r_goto 83 dX9_setOf_27 (by decide) ?_
          refine r_istore [some (vq (some (9, 0))), some (vi a1), some (vi a2), some (vi a3), some (vi 1)] 85 dX9_setOf_83 rfl rfl rfl ?_
          refine r_iload_n 86 dX9_setOf_85 rfl rfl ?_
          refine r_iload 88 dX9_setOf_86 rfl rfl ?_
          refine r_if_eq 97 91 dX9_setOf_88 (by decide) rfl (fun hc => absurd hc (by decide)) (fun _ => ?_)
          refine r_iconst 1 92 dX9_setOf_91 rfl (by decide) ?_
          refine r_iload_n 93 dX9_setOf_92 rfl rfl ?_
          refine r_ishl 94 dX9_setOf_93 rfl ?_
          refine r_goto 98 dX9_setOf_94 (by decide) ?_
          refine r_ior 99 dX9_setOf_98 rfl ?_
          refine r_istore_n [some (vq (some (9, 0))), some (vi a1), some (vi (a2 ||| (1 <<< (a3 &&& 31)))), some (vi a3), some (vi 1)] 100 dX9_setOf_99 rfl rfl rfl ?_
          refine r_iinc 1 [some (vq (some (9, 0))), some (vi a1), some (vi (a2 ||| (1 <<< (a3 &&& 31)))), some (vi (a3 + 1)), some (vi 1)] 103 dX9_setOf_100 rfl (by decide) rfl rfl rfl ?_
          refine r_goto 4 dX9_setOf_103 (by decide) ?_
          refine r_mask [true, true, true, true, false] [some (vq (some (9, 0))), some (vi a1), some (vi (a2 ||| (1 <<< (a3 &&& 31)))), some (vi (a3 + 1)), none] rfl rfl ?_
          exact ih (a2 ||| (1 <<< (a3 &&& 31))) (a3 + 1) σ h
set_option maxRecDepth 20000 in
set_option maxHeartbeats 4000000 in
theorem ct9_setOf {Γ : GG} {K : Int32 × Sto → Prop} {a1 : Int32} {σ : Sto} (h : Out (f9_setOf a1 σ) K) : Ct true Γ mX9_setOf 4 0 0 [vq (some (9, 0)), vi a1] σ (QI K) := by
  refine Ct_intro (by decide +kernel) rfl ?_
  show M true Γ mX9_setOf 4 0 0 0 0 (QI K) 0 [some (vq (some (9, 0))), some (vi a1), none, none, none] [] σ
  unfold f9_setOf at h
  refine r_iconst 0 1 dX9_setOf_0 rfl (by decide) ?_
  refine r_istore_n [some (vq (some (9, 0))), some (vi a1), some (vi 0), none, none] 2 dX9_setOf_1 rfl rfl rfl ?_
  refine r_iconst 0 3 dX9_setOf_2 rfl (by decide) ?_
  refine r_istore_n [some (vq (some (9, 0))), some (vi a1), some (vi 0), some (vi 0), none] 4 dX9_setOf_3 rfl rfl rfl ?_
  exact tl9_setOf_4 300 0 0 σ h

set_option maxRecDepth 20000 in
set_option maxHeartbeats 4000000 in
theorem ct9_peas {Γ : GG} {K : Int32 × Sto → Prop} {a1 : Int32} {σ : Sto} (h : Out (f9_peas a1 σ) K) : Ct true Γ mX9_peas 6 0 0 [vq (some (9, 0)), vi a1] σ (QI K) := by
  refine Ct_intro (by decide +kernel) rfl ?_
  show M true Γ mX9_peas 6 0 0 0 0 (QI K) 0 [some (vq (some (9, 0))), some (vi a1)] [] σ
  unfold f9_peas at h
  refine r_iload_n 1 dX9_peas_0 rfl rfl ?_
  refine r_i2l 2 dX9_peas_1 rfl ?_
  refine r_lconst 0 3 dX9_peas_2 rfl (by decide) ?_
  refine r_ldc2 (5) 6 dX9_peas_3 rfl w_d2a55141 ?_
  refine c_I [vl a1.toInt64, vl 0, vl (5)] [] 9 cs9_peas_6 rfl h (fun _ h' => ct9_in h') rfl rfl rfl rfl (by decide) (Nat.le_refl 0) (Nat.le_refl 0) (fun v21 s22 h => ?_)
  refine r_if_ne 15 12 dX9_peas_9 (by decide) rfl (fun hc => ?_) (fun hc => ?_)
  · replace h := Out_neg hc h
    refine r_aload_n 16 dX9_peas_15 rfl rfl ?_
    refine r_getI (x := fe9_68) 1 19 fl9_68 (by decide) dX9_peas_16 rfl rfl rfl ?_
    refine r_if_ne 25 22 dX9_peas_19 (by decide) rfl (fun hc => ?_) (fun hc => ?_)
    · replace h := Out_neg hc h
      refine r_aload_n 26 dX9_peas_25 rfl rfl ?_
      refine r_iconst (-1) 27 dX9_peas_26 rfl (by decide) ?_
      refine c_V [vq (some (9, 0)), vi (-1)] [] 30 cs9_peas_27 rfl h (fun _ h' => ct9_goThrough h') rfl rfl rfl rfl (by decide) (Nat.le_refl 0) (Nat.le_refl 0) (fun s23 h => ?_)
      refine r_aload_n 31 dX9_peas_30 rfl rfl ?_
      refine r_iload_n 32 dX9_peas_31 rfl rfl ?_
      refine c_I [vq (some (9, 0)), vi a1] [] 35 cs9_peas_32 rfl h (fun _ h' => ct9_setOf h') rfl rfl rfl rfl (by decide) (Nat.le_refl 0) (Nat.le_refl 0) (fun v24 s25 h => ?_)
      exact r_ireturn dX9_peas_35 rfl (Nat.le_refl 0) (Nat.le_refl 0) h
    · replace h := Out_pos hc h
      refine r_bipush (-3) 24 dX9_peas_22 rfl (by decide) ?_
      exact r_ireturn dX9_peas_24 rfl (Nat.le_refl 0) (Nat.le_refl 0) h
  · replace h := Out_pos hc h
    refine r_bipush (-2) 14 dX9_peas_12 rfl (by decide) ?_
    exact r_ireturn dX9_peas_14 rfl (Nat.le_refl 0) (Nat.le_refl 0) h

set_option maxRecDepth 20000 in
set_option maxHeartbeats 4000000 in
theorem ct9_take {Γ : GG} {K : Int32 × Sto → Prop} {a1 : Int32} {a2 : Int32} {σ : Sto} (h : Out (f9_take a1 a2 σ) K) : Ct true Γ mX9_take 1 0 0 [vq (some (9, 0)), vi a1, vi a2] σ (QI K) := by
  refine Ct_intro (by decide +kernel) rfl ?_
  show M true Γ mX9_take 1 0 0 0 0 (QI K) 0 [some (vq (some (9, 0))), some (vi a1), some (vi a2)] [] σ
  unfold f9_take at h
  refine r_aload_n 1 dX9_take_0 rfl rfl ?_
  refine r_getI (x := fe9_109) 20 4 fl9_109 (by decide) dX9_take_1 rfl rfl rfl ?_
  refine r_aload_n 5 dX9_take_4 rfl rfl ?_
  refine r_getI (x := fe9_112) 21 8 fl9_112 (by decide) dX9_take_5 rfl rfl rfl ?_
  refine r_icmp_eq 31 11 dX9_take_8 (by decide) rfl (fun hc => ?_) (fun hc => ?_)
  · replace h := Out_pos hc h
    refine r_iconst (-1) 32 dX9_take_31 rfl (by decide) ?_
    exact r_ireturn dX9_take_32 rfl (Nat.le_refl 0) (Nat.le_refl 0) h
  · replace h := Out_neg hc h
    refine r_aload_n 12 dX9_take_11 rfl rfl ?_
    refine r_getF (x := fe9_37) 18 (33, 0) 15 fl9_37 (by decide) dX9_take_12 rfl rfl rfl rfl ?_
    refine r_aload_n 16 dX9_take_15 rfl rfl ?_
    refine r_getI (x := fe9_109) 20 19 fl9_109 (by decide) dX9_take_16 rfl rfl rfl ?_
    obtain ⟨hc, h⟩ := Out_grd h
    refine r_iaload (gI σ 9 0 20).toNatClampNeg 240 20 dX9_take_19 rfl (by decide) rfl rfl hc rfl ?_
    refine r_i2l 21 dX9_take_20 rfl ?_
    refine r_iload_n 22 dX9_take_21 rfl rfl ?_
    refine r_i2l 23 dX9_take_22 rfl ?_
    refine r_iload_n 24 dX9_take_23 rfl rfl ?_
    refine r_i2l 25 dX9_take_24 rfl ?_
    refine c_I [vl ((gI σ 33 0 (gI σ 9 0 20).toNatClampNeg).toInt64), vl a1.toInt64, vl a2.toInt64] [] 28 cs9_take_25 rfl h (fun _ h' => ct9_in h') rfl rfl rfl rfl (by decide) (Nat.le_refl 0) (Nat.le_refl 0) (fun v21 s22 h => ?_)
    refine r_if_ne 33 31 dX9_take_28 (by decide) rfl (fun hc => ?_) (fun hc => ?_)
    · replace h := Out_neg hc h
      refine r_aload_n 34 dX9_take_33 rfl rfl ?_
      refine r_dup 35 dX9_take_34 rfl rfl ?_
      refine r_getI (x := fe9_109) 20 38 fl9_109 (by decide) dX9_take_35 rfl rfl rfl ?_
      refine r_iconst 1 39 dX9_take_38 rfl (by decide) ?_
      refine r_iadd 40 dX9_take_39 rfl ?_
      refine r_putI (x := fe9_109) 20 43 fl9_109 (by decide) dX9_take_40 rfl (Or.inl rfl) rfl rfl ?_
      refine r_aload_n 44 dX9_take_43 rfl rfl ?_
      refine r_getF (x := fe9_37) 18 (33, 0) 47 fl9_37 (by decide) dX9_take_44 rfl rfl rfl rfl ?_
      refine r_aload_n 48 dX9_take_47 rfl rfl ?_
      refine r_getI (x := fe9_109) 20 51 fl9_109 (by decide) dX9_take_48 rfl rfl rfl ?_
      refine r_iconst 1 52 dX9_take_51 rfl (by decide) ?_
      refine r_isub 53 dX9_take_52 rfl ?_
      obtain ⟨hc, h⟩ := Out_grd h
      refine r_iaload ((gI (sI s22 9 0 20 ((gI s22 9 0 20) + 1)) 9 0 20) - 1).toNatClampNeg 240 54 dX9_take_53 rfl (by decide) rfl rfl hc rfl ?_
      refine r_iload_n 55 dX9_take_54 rfl rfl ?_
      refine r_isub 56 dX9_take_55 rfl ?_
      exact r_ireturn dX9_take_56 rfl (Nat.le_refl 0) (Nat.le_refl 0) h
    · replace h := Out_pos hc h
      refine r_iconst (-1) 32 dX9_take_31 rfl (by decide) ?_
      exact r_ireturn dX9_take_32 rfl (Nat.le_refl 0) (Nat.le_refl 0) h

set_option maxRecDepth 20000 in
set_option maxHeartbeats 4000000 in
theorem ct9_takeEater {Γ : GG} {K : Int32 × Sto → Prop}  {σ : Sto} (h : Out (f9_takeEater  σ) K) : Ct true Γ mX9_takeEater 2 0 0 [vq (some (9, 0))] σ (QI K) := by
  refine Ct_intro (by decide +kernel) rfl ?_
  show M true Γ mX9_takeEater 2 0 0 0 0 (QI K) 0 [some (vq (some (9, 0))), none, none] [] σ
  unfold f9_takeEater at h
  refine r_aload_n 1 dX9_takeEater_0 rfl rfl ?_
  refine r_getI (x := fe9_130) 27 4 fl9_130 (by decide) dX9_takeEater_1 rfl rfl rfl ?_
  refine r_istore_n [some (vq (some (9, 0))), some (vi (gI σ 9 0 27)), none] 5 dX9_takeEater_4 rfl rfl rfl ?_
  refine r_aload_n 6 dX9_takeEater_5 rfl rfl ?_
  refine r_bipush 59 8 dX9_takeEater_6 rfl (by decide) ?_
  refine r_bipush 59 10 dX9_takeEater_8 rfl (by decide) ?_
  refine c_I [vq (some (9, 0)), vi 59, vi 59] [] 13 cs9_takeEater_10 rfl h (fun _ h' => ct9_take h') rfl rfl rfl rfl (by decide) (Nat.le_refl 0) (Nat.le_refl 0) (fun v21 s22 h => ?_)
  refine r_if_ge 18 16 dX9_takeEater_13 (by decide) rfl (fun hc => ?_) (fun hc => ?_)
  · replace h := Out_pos hc h
    refine r_aload_n 19 dX9_takeEater_18 rfl rfl ?_
    refine r_getI (x := fe9_109) 20 22 fl9_109 (by decide) dX9_takeEater_19 rfl rfl rfl ?_
    refine r_aload_n 23 dX9_takeEater_22 rfl rfl ?_
    refine r_getI (x := fe9_112) 21 26 fl9_112 (by decide) dX9_takeEater_23 rfl rfl rfl ?_
    refine r_icmp_ne 33 29 dX9_takeEater_26 (by decide) rfl (fun hc => ?_) (fun hc => ?_)
    · replace h := Out_neg hc h
      refine r_aload_n 34 dX9_takeEater_33 rfl rfl ?_
      refine r_getF (x := fe9_37) 18 (33, 0) 37 fl9_37 (by decide) dX9_takeEater_34 rfl rfl rfl rfl ?_
      refine r_aload_n 38 dX9_takeEater_37 rfl rfl ?_
      refine r_getI (x := fe9_109) 20 41 fl9_109 (by decide) dX9_takeEater_38 rfl rfl rfl ?_
      obtain ⟨hc, h⟩ := Out_grd h
      refine r_iaload (gI s22 9 0 20).toNatClampNeg 240 42 dX9_takeEater_41 rfl (by decide) rfl rfl hc rfl ?_
      refine r_istore_n [some (vq (some (9, 0))), some (vi (gI σ 9 0 27)), some (vi (gI s22 33 0 (gI s22 9 0 20).toNatClampNeg))] 43 dX9_takeEater_42 rfl rfl rfl ?_
      refine r_aload_n 44 dX9_takeEater_43 rfl rfl ?_
      refine r_getF (x := fe9_49) 28 (37, 0) 47 fl9_49 (by decide) dX9_takeEater_44 rfl rfl rfl rfl ?_
      refine r_iload_n 48 dX9_takeEater_47 rfl rfl ?_
      refine r_iload_n 49 dX9_takeEater_48 rfl rfl ?_
      refine r_bipush 102 51 dX9_takeEater_49 rfl (by decide) ?_
      refine r_icmp_ne 58 54 dX9_takeEater_51 (by decide) rfl (fun hc => ?_) (fun hc => ?_)
      · replace h := Out_neg hc h
        refine r_iload_n 59 dX9_takeEater_58 rfl rfl ?_
        refine r_bipush 107 61 dX9_takeEater_59 rfl (by decide) ?_
        refine r_icmp_ne 68 64 dX9_takeEater_61 (by decide) rfl (fun hc => ?_) (fun hc => ?_)
        · replace h := Out_neg hc h
          refine r_iload_n 69 dX9_takeEater_68 rfl rfl ?_
          refine r_bipush 115 71 dX9_takeEater_69 rfl (by decide) ?_
          refine r_icmp_ne 78 74 dX9_takeEater_71 (by decide) rfl (fun hc => ?_) (fun hc => ?_)
          · replace h := Out_neg hc h
            refine r_iconst (-1) 79 dX9_takeEater_78 rfl (by decide) ?_
            obtain ⟨hc, h⟩ := Out_grd h
            refine r_iastore (gI σ 9 0 27).toNatClampNeg 2 80 dX9_takeEater_79 rfl (by decide) (by decide) rfl rfl hc rfl ?_
            refine r_aload_n 81 dX9_takeEater_80 rfl rfl ?_
            refine r_getF (x := fe9_49) 28 (37, 0) 84 fl9_49 (by decide) dX9_takeEater_81 rfl rfl rfl rfl ?_
            refine r_iload_n 85 dX9_takeEater_84 rfl rfl ?_
            obtain ⟨hc, h⟩ := Out_grd h
            refine r_iaload (gI σ 9 0 27).toNatClampNeg 2 86 dX9_takeEater_85 rfl (by decide) rfl rfl hc rfl ?_
            refine r_if_ge 91 89 dX9_takeEater_86 (by decide) rfl (fun hc => ?_) (fun hc => ?_)
            · replace h := Out_pos hc h
              refine r_aload_n 92 dX9_takeEater_91 rfl rfl ?_
              refine r_dup 93 dX9_takeEater_92 rfl rfl ?_
              refine r_getI (x := fe9_109) 20 96 fl9_109 (by decide) dX9_takeEater_93 rfl rfl rfl ?_
              refine r_iconst 1 97 dX9_takeEater_96 rfl (by decide) ?_
              refine r_iadd 98 dX9_takeEater_97 rfl ?_
              refine r_putI (x := fe9_109) 20 101 fl9_109 (by decide) dX9_takeEater_98 rfl (Or.inl rfl) rfl rfl ?_
              refine r_aload_n 102 dX9_takeEater_101 rfl rfl ?_
              refine r_getF (x := fe9_52) 29 (38, 0) 105 fl9_52 (by decide) dX9_takeEater_102 rfl rfl rfl rfl ?_
              refine r_iload_n 106 dX9_takeEater_105 rfl rfl ?_
              refine r_aload_n 107 dX9_takeEater_106 rfl rfl ?_
              refine r_bipush 49 109 dX9_takeEater_107 rfl (by decide) ?_
              refine r_bipush 52 111 dX9_takeEater_109 rfl (by decide) ?_
              refine c_I [vq (some (9, 0)), vi 49, vi 52] [vi (gI σ 9 0 27), vq (some (38, 0))] 114 cs9_takeEater_111 rfl h (fun _ h' => ct9_take h') rfl rfl rfl rfl (by decide) (Nat.le_refl 0) (Nat.le_refl 0) (fun v23 s24 h => ?_)
              refine r_iconst 1 115 dX9_takeEater_114 rfl (by decide) ?_
              refine r_iadd 116 dX9_takeEater_115 rfl ?_
              obtain ⟨hc, h⟩ := Out_grd h
              refine r_iastore (gI σ 9 0 27).toNatClampNeg 2 117 dX9_takeEater_116 rfl (by decide) (by decide) rfl rfl hc rfl ?_
              refine r_aload_n 118 dX9_takeEater_117 rfl rfl ?_
              refine r_dup 119 dX9_takeEater_118 rfl rfl ?_
              refine r_getI (x := fe9_130) 27 122 fl9_130 (by decide) dX9_takeEater_119 rfl rfl rfl ?_
              refine r_iconst 1 123 dX9_takeEater_122 rfl (by decide) ?_
              refine r_iadd 124 dX9_takeEater_123 rfl ?_
              refine r_putI (x := fe9_130) 27 127 fl9_130 (by decide) dX9_takeEater_124 rfl (Or.inl rfl) rfl rfl ?_
              refine r_aload_n 128 dX9_takeEater_127 rfl rfl ?_
              refine r_getF (x := fe9_52) 29 (38, 0) 131 fl9_52 (by decide) dX9_takeEater_128 rfl rfl rfl rfl ?_
              refine r_iload_n 132 dX9_takeEater_131 rfl rfl ?_
              obtain ⟨hc, h⟩ := Out_grd h
              refine r_iaload (gI σ 9 0 27).toNatClampNeg 2 133 dX9_takeEater_132 rfl (by decide) rfl rfl hc rfl ?_
              refine r_if_le 140 136 dX9_takeEater_133 (by decide) rfl (fun hc => ?_) (fun hc => ?_)
              · replace h := Out_pos hc h
                refine r_iconst 0 141 dX9_takeEater_140 rfl (by decide) ?_
                exact r_zreturn dX9_takeEater_141 rfl (by decide) (Nat.le_refl 0) (Nat.le_refl 0) h
              · replace h := Out_neg hc h
                refine r_iconst 1 137 dX9_takeEater_136 rfl (by decide) ?_
                refine r_goto 141 dX9_takeEater_137 (by decide) ?_
                exact r_zreturn dX9_takeEater_141 rfl (by decide) (Nat.le_refl 0) (Nat.le_refl 0) h
            · replace h := Out_neg hc h
              refine r_iconst 0 90 dX9_takeEater_89 rfl (by decide) ?_
              exact r_zreturn dX9_takeEater_90 rfl (by decide) (Nat.le_refl 0) (Nat.le_refl 0) h
          · replace h := Out_pos hc h
            refine r_iconst 2 75 dX9_takeEater_74 rfl (by decide) ?_
            refine r_goto 79 dX9_takeEater_75 (by decide) ?_
            obtain ⟨hc, h⟩ := Out_grd h
            refine r_iastore (gI σ 9 0 27).toNatClampNeg 2 80 dX9_takeEater_79 rfl (by decide) (by decide) rfl rfl hc rfl ?_
            refine r_aload_n 81 dX9_takeEater_80 rfl rfl ?_
            refine r_getF (x := fe9_49) 28 (37, 0) 84 fl9_49 (by decide) dX9_takeEater_81 rfl rfl rfl rfl ?_
            refine r_iload_n 85 dX9_takeEater_84 rfl rfl ?_
            obtain ⟨hc, h⟩ := Out_grd h
            refine r_iaload (gI σ 9 0 27).toNatClampNeg 2 86 dX9_takeEater_85 rfl (by decide) rfl rfl hc rfl ?_
            refine r_if_ge 91 89 dX9_takeEater_86 (by decide) rfl (fun hc => ?_) (fun hc => ?_)
            · replace h := Out_pos hc h
              refine r_aload_n 92 dX9_takeEater_91 rfl rfl ?_
              refine r_dup 93 dX9_takeEater_92 rfl rfl ?_
              refine r_getI (x := fe9_109) 20 96 fl9_109 (by decide) dX9_takeEater_93 rfl rfl rfl ?_
              refine r_iconst 1 97 dX9_takeEater_96 rfl (by decide) ?_
              refine r_iadd 98 dX9_takeEater_97 rfl ?_
              refine r_putI (x := fe9_109) 20 101 fl9_109 (by decide) dX9_takeEater_98 rfl (Or.inl rfl) rfl rfl ?_
              refine r_aload_n 102 dX9_takeEater_101 rfl rfl ?_
              refine r_getF (x := fe9_52) 29 (38, 0) 105 fl9_52 (by decide) dX9_takeEater_102 rfl rfl rfl rfl ?_
              refine r_iload_n 106 dX9_takeEater_105 rfl rfl ?_
              refine r_aload_n 107 dX9_takeEater_106 rfl rfl ?_
              refine r_bipush 49 109 dX9_takeEater_107 rfl (by decide) ?_
              refine r_bipush 52 111 dX9_takeEater_109 rfl (by decide) ?_
              refine c_I [vq (some (9, 0)), vi 49, vi 52] [vi (gI σ 9 0 27), vq (some (38, 0))] 114 cs9_takeEater_111 rfl h (fun _ h' => ct9_take h') rfl rfl rfl rfl (by decide) (Nat.le_refl 0) (Nat.le_refl 0) (fun v25 s26 h => ?_)
              refine r_iconst 1 115 dX9_takeEater_114 rfl (by decide) ?_
              refine r_iadd 116 dX9_takeEater_115 rfl ?_
              obtain ⟨hc, h⟩ := Out_grd h
              refine r_iastore (gI σ 9 0 27).toNatClampNeg 2 117 dX9_takeEater_116 rfl (by decide) (by decide) rfl rfl hc rfl ?_
              refine r_aload_n 118 dX9_takeEater_117 rfl rfl ?_
              refine r_dup 119 dX9_takeEater_118 rfl rfl ?_
              refine r_getI (x := fe9_130) 27 122 fl9_130 (by decide) dX9_takeEater_119 rfl rfl rfl ?_
              refine r_iconst 1 123 dX9_takeEater_122 rfl (by decide) ?_
              refine r_iadd 124 dX9_takeEater_123 rfl ?_
              refine r_putI (x := fe9_130) 27 127 fl9_130 (by decide) dX9_takeEater_124 rfl (Or.inl rfl) rfl rfl ?_
              refine r_aload_n 128 dX9_takeEater_127 rfl rfl ?_
              refine r_getF (x := fe9_52) 29 (38, 0) 131 fl9_52 (by decide) dX9_takeEater_128 rfl rfl rfl rfl ?_
              refine r_iload_n 132 dX9_takeEater_131 rfl rfl ?_
              obtain ⟨hc, h⟩ := Out_grd h
              refine r_iaload (gI σ 9 0 27).toNatClampNeg 2 133 dX9_takeEater_132 rfl (by decide) rfl rfl hc rfl ?_
              refine r_if_le 140 136 dX9_takeEater_133 (by decide) rfl (fun hc => ?_) (fun hc => ?_)
              · replace h := Out_pos hc h
                refine r_iconst 0 141 dX9_takeEater_140 rfl (by decide) ?_
                exact r_zreturn dX9_takeEater_141 rfl (by decide) (Nat.le_refl 0) (Nat.le_refl 0) h
              · replace h := Out_neg hc h
                refine r_iconst 1 137 dX9_takeEater_136 rfl (by decide) ?_
                refine r_goto 141 dX9_takeEater_137 (by decide) ?_
                exact r_zreturn dX9_takeEater_141 rfl (by decide) (Nat.le_refl 0) (Nat.le_refl 0) h
            · replace h := Out_neg hc h
              refine r_iconst 0 90 dX9_takeEater_89 rfl (by decide) ?_
              exact r_zreturn dX9_takeEater_90 rfl (by decide) (Nat.le_refl 0) (Nat.le_refl 0) h
        · replace h := Out_pos hc h
          refine r_iconst 1 65 dX9_takeEater_64 rfl (by decide) ?_
          refine r_goto 79 dX9_takeEater_65 (by decide) ?_
          obtain ⟨hc, h⟩ := Out_grd h
          refine r_iastore (gI σ 9 0 27).toNatClampNeg 2 80 dX9_takeEater_79 rfl (by decide) (by decide) rfl rfl hc rfl ?_
          refine r_aload_n 81 dX9_takeEater_80 rfl rfl ?_
          refine r_getF (x := fe9_49) 28 (37, 0) 84 fl9_49 (by decide) dX9_takeEater_81 rfl rfl rfl rfl ?_
          refine r_iload_n 85 dX9_takeEater_84 rfl rfl ?_
          obtain ⟨hc, h⟩ := Out_grd h
          refine r_iaload (gI σ 9 0 27).toNatClampNeg 2 86 dX9_takeEater_85 rfl (by decide) rfl rfl hc rfl ?_
          refine r_if_ge 91 89 dX9_takeEater_86 (by decide) rfl (fun hc => ?_) (fun hc => ?_)
          · replace h := Out_pos hc h
            refine r_aload_n 92 dX9_takeEater_91 rfl rfl ?_
            refine r_dup 93 dX9_takeEater_92 rfl rfl ?_
            refine r_getI (x := fe9_109) 20 96 fl9_109 (by decide) dX9_takeEater_93 rfl rfl rfl ?_
            refine r_iconst 1 97 dX9_takeEater_96 rfl (by decide) ?_
            refine r_iadd 98 dX9_takeEater_97 rfl ?_
            refine r_putI (x := fe9_109) 20 101 fl9_109 (by decide) dX9_takeEater_98 rfl (Or.inl rfl) rfl rfl ?_
            refine r_aload_n 102 dX9_takeEater_101 rfl rfl ?_
            refine r_getF (x := fe9_52) 29 (38, 0) 105 fl9_52 (by decide) dX9_takeEater_102 rfl rfl rfl rfl ?_
            refine r_iload_n 106 dX9_takeEater_105 rfl rfl ?_
            refine r_aload_n 107 dX9_takeEater_106 rfl rfl ?_
            refine r_bipush 49 109 dX9_takeEater_107 rfl (by decide) ?_
            refine r_bipush 52 111 dX9_takeEater_109 rfl (by decide) ?_
            refine c_I [vq (some (9, 0)), vi 49, vi 52] [vi (gI σ 9 0 27), vq (some (38, 0))] 114 cs9_takeEater_111 rfl h (fun _ h' => ct9_take h') rfl rfl rfl rfl (by decide) (Nat.le_refl 0) (Nat.le_refl 0) (fun v27 s28 h => ?_)
            refine r_iconst 1 115 dX9_takeEater_114 rfl (by decide) ?_
            refine r_iadd 116 dX9_takeEater_115 rfl ?_
            obtain ⟨hc, h⟩ := Out_grd h
            refine r_iastore (gI σ 9 0 27).toNatClampNeg 2 117 dX9_takeEater_116 rfl (by decide) (by decide) rfl rfl hc rfl ?_
            refine r_aload_n 118 dX9_takeEater_117 rfl rfl ?_
            refine r_dup 119 dX9_takeEater_118 rfl rfl ?_
            refine r_getI (x := fe9_130) 27 122 fl9_130 (by decide) dX9_takeEater_119 rfl rfl rfl ?_
            refine r_iconst 1 123 dX9_takeEater_122 rfl (by decide) ?_
            refine r_iadd 124 dX9_takeEater_123 rfl ?_
            refine r_putI (x := fe9_130) 27 127 fl9_130 (by decide) dX9_takeEater_124 rfl (Or.inl rfl) rfl rfl ?_
            refine r_aload_n 128 dX9_takeEater_127 rfl rfl ?_
            refine r_getF (x := fe9_52) 29 (38, 0) 131 fl9_52 (by decide) dX9_takeEater_128 rfl rfl rfl rfl ?_
            refine r_iload_n 132 dX9_takeEater_131 rfl rfl ?_
            obtain ⟨hc, h⟩ := Out_grd h
            refine r_iaload (gI σ 9 0 27).toNatClampNeg 2 133 dX9_takeEater_132 rfl (by decide) rfl rfl hc rfl ?_
            refine r_if_le 140 136 dX9_takeEater_133 (by decide) rfl (fun hc => ?_) (fun hc => ?_)
            · replace h := Out_pos hc h
              refine r_iconst 0 141 dX9_takeEater_140 rfl (by decide) ?_
              exact r_zreturn dX9_takeEater_141 rfl (by decide) (Nat.le_refl 0) (Nat.le_refl 0) h
            · replace h := Out_neg hc h
              refine r_iconst 1 137 dX9_takeEater_136 rfl (by decide) ?_
              refine r_goto 141 dX9_takeEater_137 (by decide) ?_
              exact r_zreturn dX9_takeEater_141 rfl (by decide) (Nat.le_refl 0) (Nat.le_refl 0) h
          · replace h := Out_neg hc h
            refine r_iconst 0 90 dX9_takeEater_89 rfl (by decide) ?_
            exact r_zreturn dX9_takeEater_90 rfl (by decide) (Nat.le_refl 0) (Nat.le_refl 0) h
      · replace h := Out_pos hc h
        refine r_iconst 0 55 dX9_takeEater_54 rfl (by decide) ?_
        refine r_goto 79 dX9_takeEater_55 (by decide) ?_
        obtain ⟨hc, h⟩ := Out_grd h
        refine r_iastore (gI σ 9 0 27).toNatClampNeg 2 80 dX9_takeEater_79 rfl (by decide) (by decide) rfl rfl hc rfl ?_
        refine r_aload_n 81 dX9_takeEater_80 rfl rfl ?_
        refine r_getF (x := fe9_49) 28 (37, 0) 84 fl9_49 (by decide) dX9_takeEater_81 rfl rfl rfl rfl ?_
        refine r_iload_n 85 dX9_takeEater_84 rfl rfl ?_
        obtain ⟨hc, h⟩ := Out_grd h
        refine r_iaload (gI σ 9 0 27).toNatClampNeg 2 86 dX9_takeEater_85 rfl (by decide) rfl rfl hc rfl ?_
        refine r_if_ge 91 89 dX9_takeEater_86 (by decide) rfl (fun hc => ?_) (fun hc => ?_)
        · replace h := Out_pos hc h
          refine r_aload_n 92 dX9_takeEater_91 rfl rfl ?_
          refine r_dup 93 dX9_takeEater_92 rfl rfl ?_
          refine r_getI (x := fe9_109) 20 96 fl9_109 (by decide) dX9_takeEater_93 rfl rfl rfl ?_
          refine r_iconst 1 97 dX9_takeEater_96 rfl (by decide) ?_
          refine r_iadd 98 dX9_takeEater_97 rfl ?_
          refine r_putI (x := fe9_109) 20 101 fl9_109 (by decide) dX9_takeEater_98 rfl (Or.inl rfl) rfl rfl ?_
          refine r_aload_n 102 dX9_takeEater_101 rfl rfl ?_
          refine r_getF (x := fe9_52) 29 (38, 0) 105 fl9_52 (by decide) dX9_takeEater_102 rfl rfl rfl rfl ?_
          refine r_iload_n 106 dX9_takeEater_105 rfl rfl ?_
          refine r_aload_n 107 dX9_takeEater_106 rfl rfl ?_
          refine r_bipush 49 109 dX9_takeEater_107 rfl (by decide) ?_
          refine r_bipush 52 111 dX9_takeEater_109 rfl (by decide) ?_
          refine c_I [vq (some (9, 0)), vi 49, vi 52] [vi (gI σ 9 0 27), vq (some (38, 0))] 114 cs9_takeEater_111 rfl h (fun _ h' => ct9_take h') rfl rfl rfl rfl (by decide) (Nat.le_refl 0) (Nat.le_refl 0) (fun v29 s30 h => ?_)
          refine r_iconst 1 115 dX9_takeEater_114 rfl (by decide) ?_
          refine r_iadd 116 dX9_takeEater_115 rfl ?_
          obtain ⟨hc, h⟩ := Out_grd h
          refine r_iastore (gI σ 9 0 27).toNatClampNeg 2 117 dX9_takeEater_116 rfl (by decide) (by decide) rfl rfl hc rfl ?_
          refine r_aload_n 118 dX9_takeEater_117 rfl rfl ?_
          refine r_dup 119 dX9_takeEater_118 rfl rfl ?_
          refine r_getI (x := fe9_130) 27 122 fl9_130 (by decide) dX9_takeEater_119 rfl rfl rfl ?_
          refine r_iconst 1 123 dX9_takeEater_122 rfl (by decide) ?_
          refine r_iadd 124 dX9_takeEater_123 rfl ?_
          refine r_putI (x := fe9_130) 27 127 fl9_130 (by decide) dX9_takeEater_124 rfl (Or.inl rfl) rfl rfl ?_
          refine r_aload_n 128 dX9_takeEater_127 rfl rfl ?_
          refine r_getF (x := fe9_52) 29 (38, 0) 131 fl9_52 (by decide) dX9_takeEater_128 rfl rfl rfl rfl ?_
          refine r_iload_n 132 dX9_takeEater_131 rfl rfl ?_
          obtain ⟨hc, h⟩ := Out_grd h
          refine r_iaload (gI σ 9 0 27).toNatClampNeg 2 133 dX9_takeEater_132 rfl (by decide) rfl rfl hc rfl ?_
          refine r_if_le 140 136 dX9_takeEater_133 (by decide) rfl (fun hc => ?_) (fun hc => ?_)
          · replace h := Out_pos hc h
            refine r_iconst 0 141 dX9_takeEater_140 rfl (by decide) ?_
            exact r_zreturn dX9_takeEater_141 rfl (by decide) (Nat.le_refl 0) (Nat.le_refl 0) h
          · replace h := Out_neg hc h
            refine r_iconst 1 137 dX9_takeEater_136 rfl (by decide) ?_
            refine r_goto 141 dX9_takeEater_137 (by decide) ?_
            exact r_zreturn dX9_takeEater_141 rfl (by decide) (Nat.le_refl 0) (Nat.le_refl 0) h
        · replace h := Out_neg hc h
          refine r_iconst 0 90 dX9_takeEater_89 rfl (by decide) ?_
          exact r_zreturn dX9_takeEater_90 rfl (by decide) (Nat.le_refl 0) (Nat.le_refl 0) h
    · replace h := Out_pos hc h
      refine r_iconst (-1) 30 dX9_takeEater_29 rfl (by decide) ?_
      refine r_goto 42 dX9_takeEater_30 (by decide) ?_
      refine r_istore_n [some (vq (some (9, 0))), some (vi (gI σ 9 0 27)), some (vi (-1))] 43 dX9_takeEater_42 rfl rfl rfl ?_
      refine r_aload_n 44 dX9_takeEater_43 rfl rfl ?_
      refine r_getF (x := fe9_49) 28 (37, 0) 47 fl9_49 (by decide) dX9_takeEater_44 rfl rfl rfl rfl ?_
      refine r_iload_n 48 dX9_takeEater_47 rfl rfl ?_
      refine r_iload_n 49 dX9_takeEater_48 rfl rfl ?_
      refine r_bipush 102 51 dX9_takeEater_49 rfl (by decide) ?_
      refine r_icmp_ne 58 54 dX9_takeEater_51 (by decide) rfl (fun _ => ?_) (fun hc => absurd hc (by decide))
      refine r_iload_n 59 dX9_takeEater_58 rfl rfl ?_
      refine r_bipush 107 61 dX9_takeEater_59 rfl (by decide) ?_
      refine r_icmp_ne 68 64 dX9_takeEater_61 (by decide) rfl (fun _ => ?_) (fun hc => absurd hc (by decide))
      refine r_iload_n 69 dX9_takeEater_68 rfl rfl ?_
      refine r_bipush 115 71 dX9_takeEater_69 rfl (by decide) ?_
      refine r_icmp_ne 78 74 dX9_takeEater_71 (by decide) rfl (fun _ => ?_) (fun hc => absurd hc (by decide))
      refine r_iconst (-1) 79 dX9_takeEater_78 rfl (by decide) ?_
      obtain ⟨hc, h⟩ := Out_grd h
      refine r_iastore (gI σ 9 0 27).toNatClampNeg 2 80 dX9_takeEater_79 rfl (by decide) (by decide) rfl rfl hc rfl ?_
      refine r_aload_n 81 dX9_takeEater_80 rfl rfl ?_
      refine r_getF (x := fe9_49) 28 (37, 0) 84 fl9_49 (by decide) dX9_takeEater_81 rfl rfl rfl rfl ?_
      refine r_iload_n 85 dX9_takeEater_84 rfl rfl ?_
      obtain ⟨hc, h⟩ := Out_grd h
      refine r_iaload (gI σ 9 0 27).toNatClampNeg 2 86 dX9_takeEater_85 rfl (by decide) rfl rfl hc rfl ?_
      refine r_if_ge 91 89 dX9_takeEater_86 (by decide) rfl (fun hc => ?_) (fun hc => ?_)
      · replace h := Out_pos hc h
        refine r_aload_n 92 dX9_takeEater_91 rfl rfl ?_
        refine r_dup 93 dX9_takeEater_92 rfl rfl ?_
        refine r_getI (x := fe9_109) 20 96 fl9_109 (by decide) dX9_takeEater_93 rfl rfl rfl ?_
        refine r_iconst 1 97 dX9_takeEater_96 rfl (by decide) ?_
        refine r_iadd 98 dX9_takeEater_97 rfl ?_
        refine r_putI (x := fe9_109) 20 101 fl9_109 (by decide) dX9_takeEater_98 rfl (Or.inl rfl) rfl rfl ?_
        refine r_aload_n 102 dX9_takeEater_101 rfl rfl ?_
        refine r_getF (x := fe9_52) 29 (38, 0) 105 fl9_52 (by decide) dX9_takeEater_102 rfl rfl rfl rfl ?_
        refine r_iload_n 106 dX9_takeEater_105 rfl rfl ?_
        refine r_aload_n 107 dX9_takeEater_106 rfl rfl ?_
        refine r_bipush 49 109 dX9_takeEater_107 rfl (by decide) ?_
        refine r_bipush 52 111 dX9_takeEater_109 rfl (by decide) ?_
        refine c_I [vq (some (9, 0)), vi 49, vi 52] [vi (gI σ 9 0 27), vq (some (38, 0))] 114 cs9_takeEater_111 rfl h (fun _ h' => ct9_take h') rfl rfl rfl rfl (by decide) (Nat.le_refl 0) (Nat.le_refl 0) (fun v31 s32 h => ?_)
        refine r_iconst 1 115 dX9_takeEater_114 rfl (by decide) ?_
        refine r_iadd 116 dX9_takeEater_115 rfl ?_
        obtain ⟨hc, h⟩ := Out_grd h
        refine r_iastore (gI σ 9 0 27).toNatClampNeg 2 117 dX9_takeEater_116 rfl (by decide) (by decide) rfl rfl hc rfl ?_
        refine r_aload_n 118 dX9_takeEater_117 rfl rfl ?_
        refine r_dup 119 dX9_takeEater_118 rfl rfl ?_
        refine r_getI (x := fe9_130) 27 122 fl9_130 (by decide) dX9_takeEater_119 rfl rfl rfl ?_
        refine r_iconst 1 123 dX9_takeEater_122 rfl (by decide) ?_
        refine r_iadd 124 dX9_takeEater_123 rfl ?_
        refine r_putI (x := fe9_130) 27 127 fl9_130 (by decide) dX9_takeEater_124 rfl (Or.inl rfl) rfl rfl ?_
        refine r_aload_n 128 dX9_takeEater_127 rfl rfl ?_
        refine r_getF (x := fe9_52) 29 (38, 0) 131 fl9_52 (by decide) dX9_takeEater_128 rfl rfl rfl rfl ?_
        refine r_iload_n 132 dX9_takeEater_131 rfl rfl ?_
        obtain ⟨hc, h⟩ := Out_grd h
        refine r_iaload (gI σ 9 0 27).toNatClampNeg 2 133 dX9_takeEater_132 rfl (by decide) rfl rfl hc rfl ?_
        refine r_if_le 140 136 dX9_takeEater_133 (by decide) rfl (fun hc => ?_) (fun hc => ?_)
        · replace h := Out_pos hc h
          refine r_iconst 0 141 dX9_takeEater_140 rfl (by decide) ?_
          exact r_zreturn dX9_takeEater_141 rfl (by decide) (Nat.le_refl 0) (Nat.le_refl 0) h
        · replace h := Out_neg hc h
          refine r_iconst 1 137 dX9_takeEater_136 rfl (by decide) ?_
          refine r_goto 141 dX9_takeEater_137 (by decide) ?_
          exact r_zreturn dX9_takeEater_141 rfl (by decide) (Nat.le_refl 0) (Nat.le_refl 0) h
      · replace h := Out_neg hc h
        refine r_iconst 0 90 dX9_takeEater_89 rfl (by decide) ?_
        exact r_zreturn dX9_takeEater_90 rfl (by decide) (Nat.le_refl 0) (Nat.le_refl 0) h
  · replace h := Out_neg hc h
    refine r_iconst 0 17 dX9_takeEater_16 rfl (by decide) ?_
    exact r_zreturn dX9_takeEater_17 rfl (by decide) (Nat.le_refl 0) (Nat.le_refl 0) h

set_option maxRecDepth 20000 in
set_option maxHeartbeats 4000000 in
theorem ct9_takeSquare {Γ : GG} {K : Int32 × Sto → Prop} {a1 : Int32} {σ : Sto} (h : Out (f9_takeSquare a1 σ) K) : Ct true Γ mX9_takeSquare 0 0 0 [vq (some (9, 0)), vi a1] σ (QI K) := by
  refine Ct_intro (by decide +kernel) rfl ?_
  show M true Γ mX9_takeSquare 0 0 0 0 0 (QI K) 0 [some (vq (some (9, 0))), some (vi a1), none, none] [] σ
  unfold f9_takeSquare at h
  refine r_aload_n 1 dX9_takeSquare_0 rfl rfl ?_
  refine r_getI (x := fe9_109) 20 4 fl9_109 (by decide) dX9_takeSquare_1 rfl rfl rfl ?_
  refine r_aload_n 5 dX9_takeSquare_4 rfl rfl ?_
  refine r_getI (x := fe9_112) 21 8 fl9_112 (by decide) dX9_takeSquare_5 rfl rfl rfl ?_
  refine r_icmp_ne 15 11 dX9_takeSquare_8 (by decide) rfl (fun hc => ?_) (fun hc => ?_)
  · replace h := Out_neg hc h
    refine r_aload_n 16 dX9_takeSquare_15 rfl rfl ?_
    refine r_getF (x := fe9_37) 18 (33, 0) 19 fl9_37 (by decide) dX9_takeSquare_16 rfl rfl rfl rfl ?_
    refine r_aload_n 20 dX9_takeSquare_19 rfl rfl ?_
    refine r_getI (x := fe9_109) 20 23 fl9_109 (by decide) dX9_takeSquare_20 rfl rfl rfl ?_
    obtain ⟨hc, h⟩ := Out_grd h
    refine r_iaload (gI σ 9 0 20).toNatClampNeg 240 24 dX9_takeSquare_23 rfl (by decide) rfl rfl hc rfl ?_
    refine r_istore_n [some (vq (some (9, 0))), some (vi a1), some (vi (gI σ 33 0 (gI σ 9 0 20).toNatClampNeg)), none] 25 dX9_takeSquare_24 rfl rfl rfl ?_
    refine r_iload_n 26 dX9_takeSquare_25 rfl rfl ?_
    refine r_bipush 111 28 dX9_takeSquare_26 rfl (by decide) ?_
    refine r_icmp_ne 43 31 dX9_takeSquare_28 (by decide) rfl (fun hc => ?_) (fun hc => ?_)
    · replace h := Out_neg hc h
      refine r_iconst 0 44 dX9_takeSquare_43 rfl (by decide) ?_
      refine r_istore_n [some (vq (some (9, 0))), some (vi a1), some (vi (gI σ 33 0 (gI σ 9 0 20).toNatClampNeg)), some (vi 0)] 45 dX9_takeSquare_44 rfl rfl rfl ?_
      refine r_aload_n 46 dX9_takeSquare_45 rfl rfl ?_
      refine r_getF (x := fe9_43) 25 (35, 0) 49 fl9_43 (by decide) dX9_takeSquare_46 rfl rfl rfl rfl ?_
      refine r_iload_n 50 dX9_takeSquare_49 rfl rfl ?_
      refine r_iload_n 51 dX9_takeSquare_50 rfl rfl ?_
      refine r_bipush 103 53 dX9_takeSquare_51 rfl (by decide) ?_
      refine r_icmp_ne 60 56 dX9_takeSquare_53 (by decide) rfl (fun hc => ?_) (fun hc => ?_)
      · replace h := Out_neg hc h
        refine r_iload_n 61 dX9_takeSquare_60 rfl rfl ?_
        refine r_bipush 109 63 dX9_takeSquare_61 rfl (by decide) ?_
        refine r_icmp_ne 70 66 dX9_takeSquare_63 (by decide) rfl (fun hc => ?_) (fun hc => ?_)
        · replace h := Out_neg hc h
          refine r_iconst 0 71 dX9_takeSquare_70 rfl (by decide) ?_
          obtain ⟨hc, h⟩ := Out_grd h
          refine r_iastore a1.toNatClampNeg 30 72 dX9_takeSquare_71 rfl (by decide) (by decide) rfl rfl hc rfl ?_
          refine r_iload_n 73 dX9_takeSquare_72 rfl rfl ?_
          refine r_bipush 46 75 dX9_takeSquare_73 rfl (by decide) ?_
          refine r_icmp_eq 96 78 dX9_takeSquare_75 (by decide) rfl (fun hc => ?_) (fun hc => ?_)
          · replace h := Out_pos hc h
            refine r_iload_n 97 dX9_takeSquare_96 rfl rfl ?_
            refine r_if_eq 120 100 dX9_takeSquare_97 (by decide) rfl (fun _ => ?_) (fun hc => absurd hc (by decide))
            refine r_aload_n 121 dX9_takeSquare_120 rfl rfl ?_
            refine r_dup 122 dX9_takeSquare_121 rfl rfl ?_
            refine r_getI (x := fe9_109) 20 125 fl9_109 (by decide) dX9_takeSquare_122 rfl rfl rfl ?_
            refine r_iconst 1 126 dX9_takeSquare_125 rfl (by decide) ?_
            refine r_iadd 127 dX9_takeSquare_126 rfl ?_
            refine r_putI (x := fe9_109) 20 130 fl9_109 (by decide) dX9_takeSquare_127 rfl (Or.inl rfl) rfl rfl ?_
            refine r_iconst 1 131 dX9_takeSquare_130 rfl (by decide) ?_
            exact r_zreturn dX9_takeSquare_131 rfl (by decide) (Nat.le_refl 0) (Nat.le_refl 0) h
          · replace h := Out_neg hc h
            refine r_iload_n 79 dX9_takeSquare_78 rfl rfl ?_
            refine r_bipush 103 81 dX9_takeSquare_79 rfl (by decide) ?_
            refine r_icmp_eq 96 84 dX9_takeSquare_81 (by decide) rfl (fun hc => ?_) (fun hc => ?_)
            · replace h := Out_pos hc h
              refine r_iload_n 97 dX9_takeSquare_96 rfl rfl ?_
              refine r_if_eq 120 100 dX9_takeSquare_97 (by decide) rfl (fun _ => ?_) (fun hc => absurd hc (by decide))
              refine r_aload_n 121 dX9_takeSquare_120 rfl rfl ?_
              refine r_dup 122 dX9_takeSquare_121 rfl rfl ?_
              refine r_getI (x := fe9_109) 20 125 fl9_109 (by decide) dX9_takeSquare_122 rfl rfl rfl ?_
              refine r_iconst 1 126 dX9_takeSquare_125 rfl (by decide) ?_
              refine r_iadd 127 dX9_takeSquare_126 rfl ?_
              refine r_putI (x := fe9_109) 20 130 fl9_109 (by decide) dX9_takeSquare_127 rfl (Or.inl rfl) rfl rfl ?_
              refine r_iconst 1 131 dX9_takeSquare_130 rfl (by decide) ?_
              exact r_zreturn dX9_takeSquare_131 rfl (by decide) (Nat.le_refl 0) (Nat.le_refl 0) h
            · replace h := Out_neg hc h
              refine r_iload_n 85 dX9_takeSquare_84 rfl rfl ?_
              refine r_bipush 109 87 dX9_takeSquare_85 rfl (by decide) ?_
              refine r_icmp_eq 96 90 dX9_takeSquare_87 (by decide) rfl (fun hc => ?_) (fun hc => ?_)
              · replace h := Out_pos hc h
                refine r_iload_n 97 dX9_takeSquare_96 rfl rfl ?_
                refine r_if_eq 120 100 dX9_takeSquare_97 (by decide) rfl (fun _ => ?_) (fun hc => absurd hc (by decide))
                refine r_aload_n 121 dX9_takeSquare_120 rfl rfl ?_
                refine r_dup 122 dX9_takeSquare_121 rfl rfl ?_
                refine r_getI (x := fe9_109) 20 125 fl9_109 (by decide) dX9_takeSquare_122 rfl rfl rfl ?_
                refine r_iconst 1 126 dX9_takeSquare_125 rfl (by decide) ?_
                refine r_iadd 127 dX9_takeSquare_126 rfl ?_
                refine r_putI (x := fe9_109) 20 130 fl9_109 (by decide) dX9_takeSquare_127 rfl (Or.inl rfl) rfl rfl ?_
                refine r_iconst 1 131 dX9_takeSquare_130 rfl (by decide) ?_
                exact r_zreturn dX9_takeSquare_131 rfl (by decide) (Nat.le_refl 0) (Nat.le_refl 0) h
              · replace h := Out_neg hc h
                refine r_iload_n 91 dX9_takeSquare_90 rfl rfl ?_
                refine r_if_ne 96 94 dX9_takeSquare_91 (by decide) rfl (fun hc => absurd hc (by decide)) (fun _ => ?_)
                refine r_iconst 0 95 dX9_takeSquare_94 rfl (by decide) ?_
                exact r_zreturn dX9_takeSquare_95 rfl (by decide) (Nat.le_refl 0) (Nat.le_refl 0) h
        · replace h := Out_pos hc h
          refine r_iconst 2 67 dX9_takeSquare_66 rfl (by decide) ?_
          refine r_goto 71 dX9_takeSquare_67 (by decide) ?_
          obtain ⟨hc, h⟩ := Out_grd h
          refine r_iastore a1.toNatClampNeg 30 72 dX9_takeSquare_71 rfl (by decide) (by decide) rfl rfl hc rfl ?_
          refine r_iload_n 73 dX9_takeSquare_72 rfl rfl ?_
          refine r_bipush 46 75 dX9_takeSquare_73 rfl (by decide) ?_
          refine r_icmp_eq 96 78 dX9_takeSquare_75 (by decide) rfl (fun hc => ?_) (fun hc => ?_)
          · replace h := Out_pos hc h
            refine r_iload_n 97 dX9_takeSquare_96 rfl rfl ?_
            refine r_if_eq 120 100 dX9_takeSquare_97 (by decide) rfl (fun _ => ?_) (fun hc => absurd hc (by decide))
            refine r_aload_n 121 dX9_takeSquare_120 rfl rfl ?_
            refine r_dup 122 dX9_takeSquare_121 rfl rfl ?_
            refine r_getI (x := fe9_109) 20 125 fl9_109 (by decide) dX9_takeSquare_122 rfl rfl rfl ?_
            refine r_iconst 1 126 dX9_takeSquare_125 rfl (by decide) ?_
            refine r_iadd 127 dX9_takeSquare_126 rfl ?_
            refine r_putI (x := fe9_109) 20 130 fl9_109 (by decide) dX9_takeSquare_127 rfl (Or.inl rfl) rfl rfl ?_
            refine r_iconst 1 131 dX9_takeSquare_130 rfl (by decide) ?_
            exact r_zreturn dX9_takeSquare_131 rfl (by decide) (Nat.le_refl 0) (Nat.le_refl 0) h
          · replace h := Out_neg hc h
            refine r_iload_n 79 dX9_takeSquare_78 rfl rfl ?_
            refine r_bipush 103 81 dX9_takeSquare_79 rfl (by decide) ?_
            refine r_icmp_eq 96 84 dX9_takeSquare_81 (by decide) rfl (fun hc => ?_) (fun hc => ?_)
            · replace h := Out_pos hc h
              refine r_iload_n 97 dX9_takeSquare_96 rfl rfl ?_
              refine r_if_eq 120 100 dX9_takeSquare_97 (by decide) rfl (fun _ => ?_) (fun hc => absurd hc (by decide))
              refine r_aload_n 121 dX9_takeSquare_120 rfl rfl ?_
              refine r_dup 122 dX9_takeSquare_121 rfl rfl ?_
              refine r_getI (x := fe9_109) 20 125 fl9_109 (by decide) dX9_takeSquare_122 rfl rfl rfl ?_
              refine r_iconst 1 126 dX9_takeSquare_125 rfl (by decide) ?_
              refine r_iadd 127 dX9_takeSquare_126 rfl ?_
              refine r_putI (x := fe9_109) 20 130 fl9_109 (by decide) dX9_takeSquare_127 rfl (Or.inl rfl) rfl rfl ?_
              refine r_iconst 1 131 dX9_takeSquare_130 rfl (by decide) ?_
              exact r_zreturn dX9_takeSquare_131 rfl (by decide) (Nat.le_refl 0) (Nat.le_refl 0) h
            · replace h := Out_neg hc h
              refine r_iload_n 85 dX9_takeSquare_84 rfl rfl ?_
              refine r_bipush 109 87 dX9_takeSquare_85 rfl (by decide) ?_
              refine r_icmp_eq 96 90 dX9_takeSquare_87 (by decide) rfl (fun hc => ?_) (fun hc => ?_)
              · replace h := Out_pos hc h
                refine r_iload_n 97 dX9_takeSquare_96 rfl rfl ?_
                refine r_if_eq 120 100 dX9_takeSquare_97 (by decide) rfl (fun _ => ?_) (fun hc => absurd hc (by decide))
                refine r_aload_n 121 dX9_takeSquare_120 rfl rfl ?_
                refine r_dup 122 dX9_takeSquare_121 rfl rfl ?_
                refine r_getI (x := fe9_109) 20 125 fl9_109 (by decide) dX9_takeSquare_122 rfl rfl rfl ?_
                refine r_iconst 1 126 dX9_takeSquare_125 rfl (by decide) ?_
                refine r_iadd 127 dX9_takeSquare_126 rfl ?_
                refine r_putI (x := fe9_109) 20 130 fl9_109 (by decide) dX9_takeSquare_127 rfl (Or.inl rfl) rfl rfl ?_
                refine r_iconst 1 131 dX9_takeSquare_130 rfl (by decide) ?_
                exact r_zreturn dX9_takeSquare_131 rfl (by decide) (Nat.le_refl 0) (Nat.le_refl 0) h
              · replace h := Out_neg hc h
                refine r_iload_n 91 dX9_takeSquare_90 rfl rfl ?_
                refine r_if_ne 96 94 dX9_takeSquare_91 (by decide) rfl (fun hc => absurd hc (by decide)) (fun _ => ?_)
                refine r_iconst 0 95 dX9_takeSquare_94 rfl (by decide) ?_
                exact r_zreturn dX9_takeSquare_95 rfl (by decide) (Nat.le_refl 0) (Nat.le_refl 0) h
      · replace h := Out_pos hc h
        refine r_iconst 1 57 dX9_takeSquare_56 rfl (by decide) ?_
        refine r_goto 71 dX9_takeSquare_57 (by decide) ?_
        obtain ⟨hc, h⟩ := Out_grd h
        refine r_iastore a1.toNatClampNeg 30 72 dX9_takeSquare_71 rfl (by decide) (by decide) rfl rfl hc rfl ?_
        refine r_iload_n 73 dX9_takeSquare_72 rfl rfl ?_
        refine r_bipush 46 75 dX9_takeSquare_73 rfl (by decide) ?_
        refine r_icmp_eq 96 78 dX9_takeSquare_75 (by decide) rfl (fun hc => ?_) (fun hc => ?_)
        · replace h := Out_pos hc h
          refine r_iload_n 97 dX9_takeSquare_96 rfl rfl ?_
          refine r_if_eq 120 100 dX9_takeSquare_97 (by decide) rfl (fun _ => ?_) (fun hc => absurd hc (by decide))
          refine r_aload_n 121 dX9_takeSquare_120 rfl rfl ?_
          refine r_dup 122 dX9_takeSquare_121 rfl rfl ?_
          refine r_getI (x := fe9_109) 20 125 fl9_109 (by decide) dX9_takeSquare_122 rfl rfl rfl ?_
          refine r_iconst 1 126 dX9_takeSquare_125 rfl (by decide) ?_
          refine r_iadd 127 dX9_takeSquare_126 rfl ?_
          refine r_putI (x := fe9_109) 20 130 fl9_109 (by decide) dX9_takeSquare_127 rfl (Or.inl rfl) rfl rfl ?_
          refine r_iconst 1 131 dX9_takeSquare_130 rfl (by decide) ?_
          exact r_zreturn dX9_takeSquare_131 rfl (by decide) (Nat.le_refl 0) (Nat.le_refl 0) h
        · replace h := Out_neg hc h
          refine r_iload_n 79 dX9_takeSquare_78 rfl rfl ?_
          refine r_bipush 103 81 dX9_takeSquare_79 rfl (by decide) ?_
          refine r_icmp_eq 96 84 dX9_takeSquare_81 (by decide) rfl (fun hc => ?_) (fun hc => ?_)
          · replace h := Out_pos hc h
            refine r_iload_n 97 dX9_takeSquare_96 rfl rfl ?_
            refine r_if_eq 120 100 dX9_takeSquare_97 (by decide) rfl (fun _ => ?_) (fun hc => absurd hc (by decide))
            refine r_aload_n 121 dX9_takeSquare_120 rfl rfl ?_
            refine r_dup 122 dX9_takeSquare_121 rfl rfl ?_
            refine r_getI (x := fe9_109) 20 125 fl9_109 (by decide) dX9_takeSquare_122 rfl rfl rfl ?_
            refine r_iconst 1 126 dX9_takeSquare_125 rfl (by decide) ?_
            refine r_iadd 127 dX9_takeSquare_126 rfl ?_
            refine r_putI (x := fe9_109) 20 130 fl9_109 (by decide) dX9_takeSquare_127 rfl (Or.inl rfl) rfl rfl ?_
            refine r_iconst 1 131 dX9_takeSquare_130 rfl (by decide) ?_
            exact r_zreturn dX9_takeSquare_131 rfl (by decide) (Nat.le_refl 0) (Nat.le_refl 0) h
          · replace h := Out_neg hc h
            refine r_iload_n 85 dX9_takeSquare_84 rfl rfl ?_
            refine r_bipush 109 87 dX9_takeSquare_85 rfl (by decide) ?_
            refine r_icmp_eq 96 90 dX9_takeSquare_87 (by decide) rfl (fun hc => ?_) (fun hc => ?_)
            · replace h := Out_pos hc h
              refine r_iload_n 97 dX9_takeSquare_96 rfl rfl ?_
              refine r_if_eq 120 100 dX9_takeSquare_97 (by decide) rfl (fun _ => ?_) (fun hc => absurd hc (by decide))
              refine r_aload_n 121 dX9_takeSquare_120 rfl rfl ?_
              refine r_dup 122 dX9_takeSquare_121 rfl rfl ?_
              refine r_getI (x := fe9_109) 20 125 fl9_109 (by decide) dX9_takeSquare_122 rfl rfl rfl ?_
              refine r_iconst 1 126 dX9_takeSquare_125 rfl (by decide) ?_
              refine r_iadd 127 dX9_takeSquare_126 rfl ?_
              refine r_putI (x := fe9_109) 20 130 fl9_109 (by decide) dX9_takeSquare_127 rfl (Or.inl rfl) rfl rfl ?_
              refine r_iconst 1 131 dX9_takeSquare_130 rfl (by decide) ?_
              exact r_zreturn dX9_takeSquare_131 rfl (by decide) (Nat.le_refl 0) (Nat.le_refl 0) h
            · replace h := Out_neg hc h
              refine r_iload_n 91 dX9_takeSquare_90 rfl rfl ?_
              refine r_if_ne 96 94 dX9_takeSquare_91 (by decide) rfl (fun hc => absurd hc (by decide)) (fun _ => ?_)
              refine r_iconst 0 95 dX9_takeSquare_94 rfl (by decide) ?_
              exact r_zreturn dX9_takeSquare_95 rfl (by decide) (Nat.le_refl 0) (Nat.le_refl 0) h
    · replace h := Out_pos hc h
      refine r_aload_n 32 dX9_takeSquare_31 rfl rfl ?_
      refine r_getI (x := fe9_115) 24 35 fl9_115 (by decide) dX9_takeSquare_32 rfl rfl rfl ?_
      refine r_iconst 5 36 dX9_takeSquare_35 rfl (by decide) ?_
      refine r_icmp_ge 43 39 dX9_takeSquare_36 (by decide) rfl (fun hc => ?_) (fun hc => ?_)
      · replace h := Out_pos hc h
        refine r_iconst 0 44 dX9_takeSquare_43 rfl (by decide) ?_
        refine r_istore_n [some (vq (some (9, 0))), some (vi a1), some (vi (gI σ 33 0 (gI σ 9 0 20).toNatClampNeg)), some (vi 0)] 45 dX9_takeSquare_44 rfl rfl rfl ?_
        refine r_aload_n 46 dX9_takeSquare_45 rfl rfl ?_
        refine r_getF (x := fe9_43) 25 (35, 0) 49 fl9_43 (by decide) dX9_takeSquare_46 rfl rfl rfl rfl ?_
        refine r_iload_n 50 dX9_takeSquare_49 rfl rfl ?_
        refine r_iload_n 51 dX9_takeSquare_50 rfl rfl ?_
        refine r_bipush 103 53 dX9_takeSquare_51 rfl (by decide) ?_
        refine r_icmp_ne 60 56 dX9_takeSquare_53 (by decide) rfl (fun hc => ?_) (fun hc => ?_)
        · replace h := Out_neg hc h
          refine r_iload_n 61 dX9_takeSquare_60 rfl rfl ?_
          refine r_bipush 109 63 dX9_takeSquare_61 rfl (by decide) ?_
          refine r_icmp_ne 70 66 dX9_takeSquare_63 (by decide) rfl (fun hc => ?_) (fun hc => ?_)
          · replace h := Out_neg hc h
            refine r_iconst 0 71 dX9_takeSquare_70 rfl (by decide) ?_
            obtain ⟨hc, h⟩ := Out_grd h
            refine r_iastore a1.toNatClampNeg 30 72 dX9_takeSquare_71 rfl (by decide) (by decide) rfl rfl hc rfl ?_
            refine r_iload_n 73 dX9_takeSquare_72 rfl rfl ?_
            refine r_bipush 46 75 dX9_takeSquare_73 rfl (by decide) ?_
            refine r_icmp_eq 96 78 dX9_takeSquare_75 (by decide) rfl (fun hc => ?_) (fun hc => ?_)
            · replace h := Out_pos hc h
              refine r_iload_n 97 dX9_takeSquare_96 rfl rfl ?_
              refine r_if_eq 120 100 dX9_takeSquare_97 (by decide) rfl (fun _ => ?_) (fun hc => absurd hc (by decide))
              refine r_aload_n 121 dX9_takeSquare_120 rfl rfl ?_
              refine r_dup 122 dX9_takeSquare_121 rfl rfl ?_
              refine r_getI (x := fe9_109) 20 125 fl9_109 (by decide) dX9_takeSquare_122 rfl rfl rfl ?_
              refine r_iconst 1 126 dX9_takeSquare_125 rfl (by decide) ?_
              refine r_iadd 127 dX9_takeSquare_126 rfl ?_
              refine r_putI (x := fe9_109) 20 130 fl9_109 (by decide) dX9_takeSquare_127 rfl (Or.inl rfl) rfl rfl ?_
              refine r_iconst 1 131 dX9_takeSquare_130 rfl (by decide) ?_
              exact r_zreturn dX9_takeSquare_131 rfl (by decide) (Nat.le_refl 0) (Nat.le_refl 0) h
            · replace h := Out_neg hc h
              refine r_iload_n 79 dX9_takeSquare_78 rfl rfl ?_
              refine r_bipush 103 81 dX9_takeSquare_79 rfl (by decide) ?_
              refine r_icmp_eq 96 84 dX9_takeSquare_81 (by decide) rfl (fun hc => ?_) (fun hc => ?_)
              · replace h := Out_pos hc h
                refine r_iload_n 97 dX9_takeSquare_96 rfl rfl ?_
                refine r_if_eq 120 100 dX9_takeSquare_97 (by decide) rfl (fun _ => ?_) (fun hc => absurd hc (by decide))
                refine r_aload_n 121 dX9_takeSquare_120 rfl rfl ?_
                refine r_dup 122 dX9_takeSquare_121 rfl rfl ?_
                refine r_getI (x := fe9_109) 20 125 fl9_109 (by decide) dX9_takeSquare_122 rfl rfl rfl ?_
                refine r_iconst 1 126 dX9_takeSquare_125 rfl (by decide) ?_
                refine r_iadd 127 dX9_takeSquare_126 rfl ?_
                refine r_putI (x := fe9_109) 20 130 fl9_109 (by decide) dX9_takeSquare_127 rfl (Or.inl rfl) rfl rfl ?_
                refine r_iconst 1 131 dX9_takeSquare_130 rfl (by decide) ?_
                exact r_zreturn dX9_takeSquare_131 rfl (by decide) (Nat.le_refl 0) (Nat.le_refl 0) h
              · replace h := Out_neg hc h
                refine r_iload_n 85 dX9_takeSquare_84 rfl rfl ?_
                refine r_bipush 109 87 dX9_takeSquare_85 rfl (by decide) ?_
                refine r_icmp_eq 96 90 dX9_takeSquare_87 (by decide) rfl (fun hc => ?_) (fun hc => ?_)
                · replace h := Out_pos hc h
                  refine r_iload_n 97 dX9_takeSquare_96 rfl rfl ?_
                  refine r_if_eq 120 100 dX9_takeSquare_97 (by decide) rfl (fun _ => ?_) (fun hc => absurd hc (by decide))
                  refine r_aload_n 121 dX9_takeSquare_120 rfl rfl ?_
                  refine r_dup 122 dX9_takeSquare_121 rfl rfl ?_
                  refine r_getI (x := fe9_109) 20 125 fl9_109 (by decide) dX9_takeSquare_122 rfl rfl rfl ?_
                  refine r_iconst 1 126 dX9_takeSquare_125 rfl (by decide) ?_
                  refine r_iadd 127 dX9_takeSquare_126 rfl ?_
                  refine r_putI (x := fe9_109) 20 130 fl9_109 (by decide) dX9_takeSquare_127 rfl (Or.inl rfl) rfl rfl ?_
                  refine r_iconst 1 131 dX9_takeSquare_130 rfl (by decide) ?_
                  exact r_zreturn dX9_takeSquare_131 rfl (by decide) (Nat.le_refl 0) (Nat.le_refl 0) h
                · replace h := Out_neg hc h
                  refine r_iload_n 91 dX9_takeSquare_90 rfl rfl ?_
                  refine r_if_ne 96 94 dX9_takeSquare_91 (by decide) rfl (fun hc => absurd hc (by decide)) (fun _ => ?_)
                  refine r_iconst 0 95 dX9_takeSquare_94 rfl (by decide) ?_
                  exact r_zreturn dX9_takeSquare_95 rfl (by decide) (Nat.le_refl 0) (Nat.le_refl 0) h
          · replace h := Out_pos hc h
            refine r_iconst 2 67 dX9_takeSquare_66 rfl (by decide) ?_
            refine r_goto 71 dX9_takeSquare_67 (by decide) ?_
            obtain ⟨hc, h⟩ := Out_grd h
            refine r_iastore a1.toNatClampNeg 30 72 dX9_takeSquare_71 rfl (by decide) (by decide) rfl rfl hc rfl ?_
            refine r_iload_n 73 dX9_takeSquare_72 rfl rfl ?_
            refine r_bipush 46 75 dX9_takeSquare_73 rfl (by decide) ?_
            refine r_icmp_eq 96 78 dX9_takeSquare_75 (by decide) rfl (fun hc => ?_) (fun hc => ?_)
            · replace h := Out_pos hc h
              refine r_iload_n 97 dX9_takeSquare_96 rfl rfl ?_
              refine r_if_eq 120 100 dX9_takeSquare_97 (by decide) rfl (fun _ => ?_) (fun hc => absurd hc (by decide))
              refine r_aload_n 121 dX9_takeSquare_120 rfl rfl ?_
              refine r_dup 122 dX9_takeSquare_121 rfl rfl ?_
              refine r_getI (x := fe9_109) 20 125 fl9_109 (by decide) dX9_takeSquare_122 rfl rfl rfl ?_
              refine r_iconst 1 126 dX9_takeSquare_125 rfl (by decide) ?_
              refine r_iadd 127 dX9_takeSquare_126 rfl ?_
              refine r_putI (x := fe9_109) 20 130 fl9_109 (by decide) dX9_takeSquare_127 rfl (Or.inl rfl) rfl rfl ?_
              refine r_iconst 1 131 dX9_takeSquare_130 rfl (by decide) ?_
              exact r_zreturn dX9_takeSquare_131 rfl (by decide) (Nat.le_refl 0) (Nat.le_refl 0) h
            · replace h := Out_neg hc h
              refine r_iload_n 79 dX9_takeSquare_78 rfl rfl ?_
              refine r_bipush 103 81 dX9_takeSquare_79 rfl (by decide) ?_
              refine r_icmp_eq 96 84 dX9_takeSquare_81 (by decide) rfl (fun hc => ?_) (fun hc => ?_)
              · replace h := Out_pos hc h
                refine r_iload_n 97 dX9_takeSquare_96 rfl rfl ?_
                refine r_if_eq 120 100 dX9_takeSquare_97 (by decide) rfl (fun _ => ?_) (fun hc => absurd hc (by decide))
                refine r_aload_n 121 dX9_takeSquare_120 rfl rfl ?_
                refine r_dup 122 dX9_takeSquare_121 rfl rfl ?_
                refine r_getI (x := fe9_109) 20 125 fl9_109 (by decide) dX9_takeSquare_122 rfl rfl rfl ?_
                refine r_iconst 1 126 dX9_takeSquare_125 rfl (by decide) ?_
                refine r_iadd 127 dX9_takeSquare_126 rfl ?_
                refine r_putI (x := fe9_109) 20 130 fl9_109 (by decide) dX9_takeSquare_127 rfl (Or.inl rfl) rfl rfl ?_
                refine r_iconst 1 131 dX9_takeSquare_130 rfl (by decide) ?_
                exact r_zreturn dX9_takeSquare_131 rfl (by decide) (Nat.le_refl 0) (Nat.le_refl 0) h
              · replace h := Out_neg hc h
                refine r_iload_n 85 dX9_takeSquare_84 rfl rfl ?_
                refine r_bipush 109 87 dX9_takeSquare_85 rfl (by decide) ?_
                refine r_icmp_eq 96 90 dX9_takeSquare_87 (by decide) rfl (fun hc => ?_) (fun hc => ?_)
                · replace h := Out_pos hc h
                  refine r_iload_n 97 dX9_takeSquare_96 rfl rfl ?_
                  refine r_if_eq 120 100 dX9_takeSquare_97 (by decide) rfl (fun _ => ?_) (fun hc => absurd hc (by decide))
                  refine r_aload_n 121 dX9_takeSquare_120 rfl rfl ?_
                  refine r_dup 122 dX9_takeSquare_121 rfl rfl ?_
                  refine r_getI (x := fe9_109) 20 125 fl9_109 (by decide) dX9_takeSquare_122 rfl rfl rfl ?_
                  refine r_iconst 1 126 dX9_takeSquare_125 rfl (by decide) ?_
                  refine r_iadd 127 dX9_takeSquare_126 rfl ?_
                  refine r_putI (x := fe9_109) 20 130 fl9_109 (by decide) dX9_takeSquare_127 rfl (Or.inl rfl) rfl rfl ?_
                  refine r_iconst 1 131 dX9_takeSquare_130 rfl (by decide) ?_
                  exact r_zreturn dX9_takeSquare_131 rfl (by decide) (Nat.le_refl 0) (Nat.le_refl 0) h
                · replace h := Out_neg hc h
                  refine r_iload_n 91 dX9_takeSquare_90 rfl rfl ?_
                  refine r_if_ne 96 94 dX9_takeSquare_91 (by decide) rfl (fun hc => absurd hc (by decide)) (fun _ => ?_)
                  refine r_iconst 0 95 dX9_takeSquare_94 rfl (by decide) ?_
                  exact r_zreturn dX9_takeSquare_95 rfl (by decide) (Nat.le_refl 0) (Nat.le_refl 0) h
        · replace h := Out_pos hc h
          refine r_iconst 1 57 dX9_takeSquare_56 rfl (by decide) ?_
          refine r_goto 71 dX9_takeSquare_57 (by decide) ?_
          obtain ⟨hc, h⟩ := Out_grd h
          refine r_iastore a1.toNatClampNeg 30 72 dX9_takeSquare_71 rfl (by decide) (by decide) rfl rfl hc rfl ?_
          refine r_iload_n 73 dX9_takeSquare_72 rfl rfl ?_
          refine r_bipush 46 75 dX9_takeSquare_73 rfl (by decide) ?_
          refine r_icmp_eq 96 78 dX9_takeSquare_75 (by decide) rfl (fun hc => ?_) (fun hc => ?_)
          · replace h := Out_pos hc h
            refine r_iload_n 97 dX9_takeSquare_96 rfl rfl ?_
            refine r_if_eq 120 100 dX9_takeSquare_97 (by decide) rfl (fun _ => ?_) (fun hc => absurd hc (by decide))
            refine r_aload_n 121 dX9_takeSquare_120 rfl rfl ?_
            refine r_dup 122 dX9_takeSquare_121 rfl rfl ?_
            refine r_getI (x := fe9_109) 20 125 fl9_109 (by decide) dX9_takeSquare_122 rfl rfl rfl ?_
            refine r_iconst 1 126 dX9_takeSquare_125 rfl (by decide) ?_
            refine r_iadd 127 dX9_takeSquare_126 rfl ?_
            refine r_putI (x := fe9_109) 20 130 fl9_109 (by decide) dX9_takeSquare_127 rfl (Or.inl rfl) rfl rfl ?_
            refine r_iconst 1 131 dX9_takeSquare_130 rfl (by decide) ?_
            exact r_zreturn dX9_takeSquare_131 rfl (by decide) (Nat.le_refl 0) (Nat.le_refl 0) h
          · replace h := Out_neg hc h
            refine r_iload_n 79 dX9_takeSquare_78 rfl rfl ?_
            refine r_bipush 103 81 dX9_takeSquare_79 rfl (by decide) ?_
            refine r_icmp_eq 96 84 dX9_takeSquare_81 (by decide) rfl (fun hc => ?_) (fun hc => ?_)
            · replace h := Out_pos hc h
              refine r_iload_n 97 dX9_takeSquare_96 rfl rfl ?_
              refine r_if_eq 120 100 dX9_takeSquare_97 (by decide) rfl (fun _ => ?_) (fun hc => absurd hc (by decide))
              refine r_aload_n 121 dX9_takeSquare_120 rfl rfl ?_
              refine r_dup 122 dX9_takeSquare_121 rfl rfl ?_
              refine r_getI (x := fe9_109) 20 125 fl9_109 (by decide) dX9_takeSquare_122 rfl rfl rfl ?_
              refine r_iconst 1 126 dX9_takeSquare_125 rfl (by decide) ?_
              refine r_iadd 127 dX9_takeSquare_126 rfl ?_
              refine r_putI (x := fe9_109) 20 130 fl9_109 (by decide) dX9_takeSquare_127 rfl (Or.inl rfl) rfl rfl ?_
              refine r_iconst 1 131 dX9_takeSquare_130 rfl (by decide) ?_
              exact r_zreturn dX9_takeSquare_131 rfl (by decide) (Nat.le_refl 0) (Nat.le_refl 0) h
            · replace h := Out_neg hc h
              refine r_iload_n 85 dX9_takeSquare_84 rfl rfl ?_
              refine r_bipush 109 87 dX9_takeSquare_85 rfl (by decide) ?_
              refine r_icmp_eq 96 90 dX9_takeSquare_87 (by decide) rfl (fun hc => ?_) (fun hc => ?_)
              · replace h := Out_pos hc h
                refine r_iload_n 97 dX9_takeSquare_96 rfl rfl ?_
                refine r_if_eq 120 100 dX9_takeSquare_97 (by decide) rfl (fun _ => ?_) (fun hc => absurd hc (by decide))
                refine r_aload_n 121 dX9_takeSquare_120 rfl rfl ?_
                refine r_dup 122 dX9_takeSquare_121 rfl rfl ?_
                refine r_getI (x := fe9_109) 20 125 fl9_109 (by decide) dX9_takeSquare_122 rfl rfl rfl ?_
                refine r_iconst 1 126 dX9_takeSquare_125 rfl (by decide) ?_
                refine r_iadd 127 dX9_takeSquare_126 rfl ?_
                refine r_putI (x := fe9_109) 20 130 fl9_109 (by decide) dX9_takeSquare_127 rfl (Or.inl rfl) rfl rfl ?_
                refine r_iconst 1 131 dX9_takeSquare_130 rfl (by decide) ?_
                exact r_zreturn dX9_takeSquare_131 rfl (by decide) (Nat.le_refl 0) (Nat.le_refl 0) h
              · replace h := Out_neg hc h
                refine r_iload_n 91 dX9_takeSquare_90 rfl rfl ?_
                refine r_if_ne 96 94 dX9_takeSquare_91 (by decide) rfl (fun hc => absurd hc (by decide)) (fun _ => ?_)
                refine r_iconst 0 95 dX9_takeSquare_94 rfl (by decide) ?_
                exact r_zreturn dX9_takeSquare_95 rfl (by decide) (Nat.le_refl 0) (Nat.le_refl 0) h
      · replace h := Out_neg hc h
        refine r_iconst 1 40 dX9_takeSquare_39 rfl (by decide) ?_
        refine r_goto 44 dX9_takeSquare_40 (by decide) ?_
        refine r_istore_n [some (vq (some (9, 0))), some (vi a1), some (vi (gI σ 33 0 (gI σ 9 0 20).toNatClampNeg)), some (vi 1)] 45 dX9_takeSquare_44 rfl rfl rfl ?_
        refine r_aload_n 46 dX9_takeSquare_45 rfl rfl ?_
        refine r_getF (x := fe9_43) 25 (35, 0) 49 fl9_43 (by decide) dX9_takeSquare_46 rfl rfl rfl rfl ?_
        refine r_iload_n 50 dX9_takeSquare_49 rfl rfl ?_
        refine r_iload_n 51 dX9_takeSquare_50 rfl rfl ?_
        refine r_bipush 103 53 dX9_takeSquare_51 rfl (by decide) ?_
        refine r_icmp_ne 60 56 dX9_takeSquare_53 (by decide) rfl (fun hc => ?_) (fun hc => ?_)
        · replace h := Out_neg hc h
          refine r_iload_n 61 dX9_takeSquare_60 rfl rfl ?_
          refine r_bipush 109 63 dX9_takeSquare_61 rfl (by decide) ?_
          refine r_icmp_ne 70 66 dX9_takeSquare_63 (by decide) rfl (fun hc => ?_) (fun hc => ?_)
          · replace h := Out_neg hc h
            refine r_iconst 0 71 dX9_takeSquare_70 rfl (by decide) ?_
            obtain ⟨hc, h⟩ := Out_grd h
            refine r_iastore a1.toNatClampNeg 30 72 dX9_takeSquare_71 rfl (by decide) (by decide) rfl rfl hc rfl ?_
            refine r_iload_n 73 dX9_takeSquare_72 rfl rfl ?_
            refine r_bipush 46 75 dX9_takeSquare_73 rfl (by decide) ?_
            refine r_icmp_eq 96 78 dX9_takeSquare_75 (by decide) rfl (fun hc => ?_) (fun hc => ?_)
            · replace h := Out_pos hc h
              refine r_iload_n 97 dX9_takeSquare_96 rfl rfl ?_
              refine r_if_eq 120 100 dX9_takeSquare_97 (by decide) rfl (fun hc => absurd hc (by decide)) (fun _ => ?_)
              refine r_aload_n 101 dX9_takeSquare_100 rfl rfl ?_
              refine r_getF (x := fe9_46) 26 (36, 0) 104 fl9_46 (by decide) dX9_takeSquare_101 rfl rfl rfl rfl ?_
              refine r_aload_n 105 dX9_takeSquare_104 rfl rfl ?_
              refine r_getI (x := fe9_115) 24 108 fl9_115 (by decide) dX9_takeSquare_105 rfl rfl rfl ?_
              refine r_iload_n 109 dX9_takeSquare_108 rfl rfl ?_
              obtain ⟨hc, h⟩ := Out_grd h
              refine r_iastore (gI (sI σ 35 0 a1.toNatClampNeg 0) 9 0 24).toNatClampNeg 5 110 dX9_takeSquare_109 rfl (by decide) (by decide) rfl rfl hc rfl ?_
              refine r_aload_n 111 dX9_takeSquare_110 rfl rfl ?_
              refine r_dup 112 dX9_takeSquare_111 rfl rfl ?_
              refine r_getI (x := fe9_115) 24 115 fl9_115 (by decide) dX9_takeSquare_112 rfl rfl rfl ?_
              refine r_iconst 1 116 dX9_takeSquare_115 rfl (by decide) ?_
              refine r_iadd 117 dX9_takeSquare_116 rfl ?_
              refine r_putI (x := fe9_115) 24 120 fl9_115 (by decide) dX9_takeSquare_117 rfl (Or.inl rfl) rfl rfl ?_
              refine r_aload_n 121 dX9_takeSquare_120 rfl rfl ?_
              refine r_dup 122 dX9_takeSquare_121 rfl rfl ?_
              refine r_getI (x := fe9_109) 20 125 fl9_109 (by decide) dX9_takeSquare_122 rfl rfl rfl ?_
              refine r_iconst 1 126 dX9_takeSquare_125 rfl (by decide) ?_
              refine r_iadd 127 dX9_takeSquare_126 rfl ?_
              refine r_putI (x := fe9_109) 20 130 fl9_109 (by decide) dX9_takeSquare_127 rfl (Or.inl rfl) rfl rfl ?_
              refine r_iconst 1 131 dX9_takeSquare_130 rfl (by decide) ?_
              exact r_zreturn dX9_takeSquare_131 rfl (by decide) (Nat.le_refl 0) (Nat.le_refl 0) h
            · replace h := Out_neg hc h
              refine r_iload_n 79 dX9_takeSquare_78 rfl rfl ?_
              refine r_bipush 103 81 dX9_takeSquare_79 rfl (by decide) ?_
              refine r_icmp_eq 96 84 dX9_takeSquare_81 (by decide) rfl (fun hc => ?_) (fun hc => ?_)
              · replace h := Out_pos hc h
                refine r_iload_n 97 dX9_takeSquare_96 rfl rfl ?_
                refine r_if_eq 120 100 dX9_takeSquare_97 (by decide) rfl (fun hc => absurd hc (by decide)) (fun _ => ?_)
                refine r_aload_n 101 dX9_takeSquare_100 rfl rfl ?_
                refine r_getF (x := fe9_46) 26 (36, 0) 104 fl9_46 (by decide) dX9_takeSquare_101 rfl rfl rfl rfl ?_
                refine r_aload_n 105 dX9_takeSquare_104 rfl rfl ?_
                refine r_getI (x := fe9_115) 24 108 fl9_115 (by decide) dX9_takeSquare_105 rfl rfl rfl ?_
                refine r_iload_n 109 dX9_takeSquare_108 rfl rfl ?_
                obtain ⟨hc, h⟩ := Out_grd h
                refine r_iastore (gI (sI σ 35 0 a1.toNatClampNeg 0) 9 0 24).toNatClampNeg 5 110 dX9_takeSquare_109 rfl (by decide) (by decide) rfl rfl hc rfl ?_
                refine r_aload_n 111 dX9_takeSquare_110 rfl rfl ?_
                refine r_dup 112 dX9_takeSquare_111 rfl rfl ?_
                refine r_getI (x := fe9_115) 24 115 fl9_115 (by decide) dX9_takeSquare_112 rfl rfl rfl ?_
                refine r_iconst 1 116 dX9_takeSquare_115 rfl (by decide) ?_
                refine r_iadd 117 dX9_takeSquare_116 rfl ?_
                refine r_putI (x := fe9_115) 24 120 fl9_115 (by decide) dX9_takeSquare_117 rfl (Or.inl rfl) rfl rfl ?_
                refine r_aload_n 121 dX9_takeSquare_120 rfl rfl ?_
                refine r_dup 122 dX9_takeSquare_121 rfl rfl ?_
                refine r_getI (x := fe9_109) 20 125 fl9_109 (by decide) dX9_takeSquare_122 rfl rfl rfl ?_
                refine r_iconst 1 126 dX9_takeSquare_125 rfl (by decide) ?_
                refine r_iadd 127 dX9_takeSquare_126 rfl ?_
                refine r_putI (x := fe9_109) 20 130 fl9_109 (by decide) dX9_takeSquare_127 rfl (Or.inl rfl) rfl rfl ?_
                refine r_iconst 1 131 dX9_takeSquare_130 rfl (by decide) ?_
                exact r_zreturn dX9_takeSquare_131 rfl (by decide) (Nat.le_refl 0) (Nat.le_refl 0) h
              · replace h := Out_neg hc h
                refine r_iload_n 85 dX9_takeSquare_84 rfl rfl ?_
                refine r_bipush 109 87 dX9_takeSquare_85 rfl (by decide) ?_
                refine r_icmp_eq 96 90 dX9_takeSquare_87 (by decide) rfl (fun hc => ?_) (fun hc => ?_)
                · replace h := Out_pos hc h
                  refine r_iload_n 97 dX9_takeSquare_96 rfl rfl ?_
                  refine r_if_eq 120 100 dX9_takeSquare_97 (by decide) rfl (fun hc => absurd hc (by decide)) (fun _ => ?_)
                  refine r_aload_n 101 dX9_takeSquare_100 rfl rfl ?_
                  refine r_getF (x := fe9_46) 26 (36, 0) 104 fl9_46 (by decide) dX9_takeSquare_101 rfl rfl rfl rfl ?_
                  refine r_aload_n 105 dX9_takeSquare_104 rfl rfl ?_
                  refine r_getI (x := fe9_115) 24 108 fl9_115 (by decide) dX9_takeSquare_105 rfl rfl rfl ?_
                  refine r_iload_n 109 dX9_takeSquare_108 rfl rfl ?_
                  obtain ⟨hc, h⟩ := Out_grd h
                  refine r_iastore (gI (sI σ 35 0 a1.toNatClampNeg 0) 9 0 24).toNatClampNeg 5 110 dX9_takeSquare_109 rfl (by decide) (by decide) rfl rfl hc rfl ?_
                  refine r_aload_n 111 dX9_takeSquare_110 rfl rfl ?_
                  refine r_dup 112 dX9_takeSquare_111 rfl rfl ?_
                  refine r_getI (x := fe9_115) 24 115 fl9_115 (by decide) dX9_takeSquare_112 rfl rfl rfl ?_
                  refine r_iconst 1 116 dX9_takeSquare_115 rfl (by decide) ?_
                  refine r_iadd 117 dX9_takeSquare_116 rfl ?_
                  refine r_putI (x := fe9_115) 24 120 fl9_115 (by decide) dX9_takeSquare_117 rfl (Or.inl rfl) rfl rfl ?_
                  refine r_aload_n 121 dX9_takeSquare_120 rfl rfl ?_
                  refine r_dup 122 dX9_takeSquare_121 rfl rfl ?_
                  refine r_getI (x := fe9_109) 20 125 fl9_109 (by decide) dX9_takeSquare_122 rfl rfl rfl ?_
                  refine r_iconst 1 126 dX9_takeSquare_125 rfl (by decide) ?_
                  refine r_iadd 127 dX9_takeSquare_126 rfl ?_
                  refine r_putI (x := fe9_109) 20 130 fl9_109 (by decide) dX9_takeSquare_127 rfl (Or.inl rfl) rfl rfl ?_
                  refine r_iconst 1 131 dX9_takeSquare_130 rfl (by decide) ?_
                  exact r_zreturn dX9_takeSquare_131 rfl (by decide) (Nat.le_refl 0) (Nat.le_refl 0) h
                · replace h := Out_neg hc h
                  refine r_iload_n 91 dX9_takeSquare_90 rfl rfl ?_
                  refine r_if_ne 96 94 dX9_takeSquare_91 (by decide) rfl (fun _ => ?_) (fun hc => absurd hc (by decide))
                  refine r_iload_n 97 dX9_takeSquare_96 rfl rfl ?_
                  refine r_if_eq 120 100 dX9_takeSquare_97 (by decide) rfl (fun hc => absurd hc (by decide)) (fun _ => ?_)
                  refine r_aload_n 101 dX9_takeSquare_100 rfl rfl ?_
                  refine r_getF (x := fe9_46) 26 (36, 0) 104 fl9_46 (by decide) dX9_takeSquare_101 rfl rfl rfl rfl ?_
                  refine r_aload_n 105 dX9_takeSquare_104 rfl rfl ?_
                  refine r_getI (x := fe9_115) 24 108 fl9_115 (by decide) dX9_takeSquare_105 rfl rfl rfl ?_
                  refine r_iload_n 109 dX9_takeSquare_108 rfl rfl ?_
                  obtain ⟨hc, h⟩ := Out_grd h
                  refine r_iastore (gI (sI σ 35 0 a1.toNatClampNeg 0) 9 0 24).toNatClampNeg 5 110 dX9_takeSquare_109 rfl (by decide) (by decide) rfl rfl hc rfl ?_
                  refine r_aload_n 111 dX9_takeSquare_110 rfl rfl ?_
                  refine r_dup 112 dX9_takeSquare_111 rfl rfl ?_
                  refine r_getI (x := fe9_115) 24 115 fl9_115 (by decide) dX9_takeSquare_112 rfl rfl rfl ?_
                  refine r_iconst 1 116 dX9_takeSquare_115 rfl (by decide) ?_
                  refine r_iadd 117 dX9_takeSquare_116 rfl ?_
                  refine r_putI (x := fe9_115) 24 120 fl9_115 (by decide) dX9_takeSquare_117 rfl (Or.inl rfl) rfl rfl ?_
                  refine r_aload_n 121 dX9_takeSquare_120 rfl rfl ?_
                  refine r_dup 122 dX9_takeSquare_121 rfl rfl ?_
                  refine r_getI (x := fe9_109) 20 125 fl9_109 (by decide) dX9_takeSquare_122 rfl rfl rfl ?_
                  refine r_iconst 1 126 dX9_takeSquare_125 rfl (by decide) ?_
                  refine r_iadd 127 dX9_takeSquare_126 rfl ?_
                  refine r_putI (x := fe9_109) 20 130 fl9_109 (by decide) dX9_takeSquare_127 rfl (Or.inl rfl) rfl rfl ?_
                  refine r_iconst 1 131 dX9_takeSquare_130 rfl (by decide) ?_
                  exact r_zreturn dX9_takeSquare_131 rfl (by decide) (Nat.le_refl 0) (Nat.le_refl 0) h
          · replace h := Out_pos hc h
            refine r_iconst 2 67 dX9_takeSquare_66 rfl (by decide) ?_
            refine r_goto 71 dX9_takeSquare_67 (by decide) ?_
            obtain ⟨hc, h⟩ := Out_grd h
            refine r_iastore a1.toNatClampNeg 30 72 dX9_takeSquare_71 rfl (by decide) (by decide) rfl rfl hc rfl ?_
            refine r_iload_n 73 dX9_takeSquare_72 rfl rfl ?_
            refine r_bipush 46 75 dX9_takeSquare_73 rfl (by decide) ?_
            refine r_icmp_eq 96 78 dX9_takeSquare_75 (by decide) rfl (fun hc => ?_) (fun hc => ?_)
            · replace h := Out_pos hc h
              refine r_iload_n 97 dX9_takeSquare_96 rfl rfl ?_
              refine r_if_eq 120 100 dX9_takeSquare_97 (by decide) rfl (fun hc => absurd hc (by decide)) (fun _ => ?_)
              refine r_aload_n 101 dX9_takeSquare_100 rfl rfl ?_
              refine r_getF (x := fe9_46) 26 (36, 0) 104 fl9_46 (by decide) dX9_takeSquare_101 rfl rfl rfl rfl ?_
              refine r_aload_n 105 dX9_takeSquare_104 rfl rfl ?_
              refine r_getI (x := fe9_115) 24 108 fl9_115 (by decide) dX9_takeSquare_105 rfl rfl rfl ?_
              refine r_iload_n 109 dX9_takeSquare_108 rfl rfl ?_
              obtain ⟨hc, h⟩ := Out_grd h
              refine r_iastore (gI (sI σ 35 0 a1.toNatClampNeg 2) 9 0 24).toNatClampNeg 5 110 dX9_takeSquare_109 rfl (by decide) (by decide) rfl rfl hc rfl ?_
              refine r_aload_n 111 dX9_takeSquare_110 rfl rfl ?_
              refine r_dup 112 dX9_takeSquare_111 rfl rfl ?_
              refine r_getI (x := fe9_115) 24 115 fl9_115 (by decide) dX9_takeSquare_112 rfl rfl rfl ?_
              refine r_iconst 1 116 dX9_takeSquare_115 rfl (by decide) ?_
              refine r_iadd 117 dX9_takeSquare_116 rfl ?_
              refine r_putI (x := fe9_115) 24 120 fl9_115 (by decide) dX9_takeSquare_117 rfl (Or.inl rfl) rfl rfl ?_
              refine r_aload_n 121 dX9_takeSquare_120 rfl rfl ?_
              refine r_dup 122 dX9_takeSquare_121 rfl rfl ?_
              refine r_getI (x := fe9_109) 20 125 fl9_109 (by decide) dX9_takeSquare_122 rfl rfl rfl ?_
              refine r_iconst 1 126 dX9_takeSquare_125 rfl (by decide) ?_
              refine r_iadd 127 dX9_takeSquare_126 rfl ?_
              refine r_putI (x := fe9_109) 20 130 fl9_109 (by decide) dX9_takeSquare_127 rfl (Or.inl rfl) rfl rfl ?_
              refine r_iconst 1 131 dX9_takeSquare_130 rfl (by decide) ?_
              exact r_zreturn dX9_takeSquare_131 rfl (by decide) (Nat.le_refl 0) (Nat.le_refl 0) h
            · replace h := Out_neg hc h
              refine r_iload_n 79 dX9_takeSquare_78 rfl rfl ?_
              refine r_bipush 103 81 dX9_takeSquare_79 rfl (by decide) ?_
              refine r_icmp_eq 96 84 dX9_takeSquare_81 (by decide) rfl (fun hc => ?_) (fun hc => ?_)
              · replace h := Out_pos hc h
                refine r_iload_n 97 dX9_takeSquare_96 rfl rfl ?_
                refine r_if_eq 120 100 dX9_takeSquare_97 (by decide) rfl (fun hc => absurd hc (by decide)) (fun _ => ?_)
                refine r_aload_n 101 dX9_takeSquare_100 rfl rfl ?_
                refine r_getF (x := fe9_46) 26 (36, 0) 104 fl9_46 (by decide) dX9_takeSquare_101 rfl rfl rfl rfl ?_
                refine r_aload_n 105 dX9_takeSquare_104 rfl rfl ?_
                refine r_getI (x := fe9_115) 24 108 fl9_115 (by decide) dX9_takeSquare_105 rfl rfl rfl ?_
                refine r_iload_n 109 dX9_takeSquare_108 rfl rfl ?_
                obtain ⟨hc, h⟩ := Out_grd h
                refine r_iastore (gI (sI σ 35 0 a1.toNatClampNeg 2) 9 0 24).toNatClampNeg 5 110 dX9_takeSquare_109 rfl (by decide) (by decide) rfl rfl hc rfl ?_
                refine r_aload_n 111 dX9_takeSquare_110 rfl rfl ?_
                refine r_dup 112 dX9_takeSquare_111 rfl rfl ?_
                refine r_getI (x := fe9_115) 24 115 fl9_115 (by decide) dX9_takeSquare_112 rfl rfl rfl ?_
                refine r_iconst 1 116 dX9_takeSquare_115 rfl (by decide) ?_
                refine r_iadd 117 dX9_takeSquare_116 rfl ?_
                refine r_putI (x := fe9_115) 24 120 fl9_115 (by decide) dX9_takeSquare_117 rfl (Or.inl rfl) rfl rfl ?_
                refine r_aload_n 121 dX9_takeSquare_120 rfl rfl ?_
                refine r_dup 122 dX9_takeSquare_121 rfl rfl ?_
                refine r_getI (x := fe9_109) 20 125 fl9_109 (by decide) dX9_takeSquare_122 rfl rfl rfl ?_
                refine r_iconst 1 126 dX9_takeSquare_125 rfl (by decide) ?_
                refine r_iadd 127 dX9_takeSquare_126 rfl ?_
                refine r_putI (x := fe9_109) 20 130 fl9_109 (by decide) dX9_takeSquare_127 rfl (Or.inl rfl) rfl rfl ?_
                refine r_iconst 1 131 dX9_takeSquare_130 rfl (by decide) ?_
                exact r_zreturn dX9_takeSquare_131 rfl (by decide) (Nat.le_refl 0) (Nat.le_refl 0) h
              · replace h := Out_neg hc h
                refine r_iload_n 85 dX9_takeSquare_84 rfl rfl ?_
                refine r_bipush 109 87 dX9_takeSquare_85 rfl (by decide) ?_
                refine r_icmp_eq 96 90 dX9_takeSquare_87 (by decide) rfl (fun hc => ?_) (fun hc => ?_)
                · replace h := Out_pos hc h
                  refine r_iload_n 97 dX9_takeSquare_96 rfl rfl ?_
                  refine r_if_eq 120 100 dX9_takeSquare_97 (by decide) rfl (fun hc => absurd hc (by decide)) (fun _ => ?_)
                  refine r_aload_n 101 dX9_takeSquare_100 rfl rfl ?_
                  refine r_getF (x := fe9_46) 26 (36, 0) 104 fl9_46 (by decide) dX9_takeSquare_101 rfl rfl rfl rfl ?_
                  refine r_aload_n 105 dX9_takeSquare_104 rfl rfl ?_
                  refine r_getI (x := fe9_115) 24 108 fl9_115 (by decide) dX9_takeSquare_105 rfl rfl rfl ?_
                  refine r_iload_n 109 dX9_takeSquare_108 rfl rfl ?_
                  obtain ⟨hc, h⟩ := Out_grd h
                  refine r_iastore (gI (sI σ 35 0 a1.toNatClampNeg 2) 9 0 24).toNatClampNeg 5 110 dX9_takeSquare_109 rfl (by decide) (by decide) rfl rfl hc rfl ?_
                  refine r_aload_n 111 dX9_takeSquare_110 rfl rfl ?_
                  refine r_dup 112 dX9_takeSquare_111 rfl rfl ?_
                  refine r_getI (x := fe9_115) 24 115 fl9_115 (by decide) dX9_takeSquare_112 rfl rfl rfl ?_
                  refine r_iconst 1 116 dX9_takeSquare_115 rfl (by decide) ?_
                  refine r_iadd 117 dX9_takeSquare_116 rfl ?_
                  refine r_putI (x := fe9_115) 24 120 fl9_115 (by decide) dX9_takeSquare_117 rfl (Or.inl rfl) rfl rfl ?_
                  refine r_aload_n 121 dX9_takeSquare_120 rfl rfl ?_
                  refine r_dup 122 dX9_takeSquare_121 rfl rfl ?_
                  refine r_getI (x := fe9_109) 20 125 fl9_109 (by decide) dX9_takeSquare_122 rfl rfl rfl ?_
                  refine r_iconst 1 126 dX9_takeSquare_125 rfl (by decide) ?_
                  refine r_iadd 127 dX9_takeSquare_126 rfl ?_
                  refine r_putI (x := fe9_109) 20 130 fl9_109 (by decide) dX9_takeSquare_127 rfl (Or.inl rfl) rfl rfl ?_
                  refine r_iconst 1 131 dX9_takeSquare_130 rfl (by decide) ?_
                  exact r_zreturn dX9_takeSquare_131 rfl (by decide) (Nat.le_refl 0) (Nat.le_refl 0) h
                · replace h := Out_neg hc h
                  refine r_iload_n 91 dX9_takeSquare_90 rfl rfl ?_
                  refine r_if_ne 96 94 dX9_takeSquare_91 (by decide) rfl (fun _ => ?_) (fun hc => absurd hc (by decide))
                  refine r_iload_n 97 dX9_takeSquare_96 rfl rfl ?_
                  refine r_if_eq 120 100 dX9_takeSquare_97 (by decide) rfl (fun hc => absurd hc (by decide)) (fun _ => ?_)
                  refine r_aload_n 101 dX9_takeSquare_100 rfl rfl ?_
                  refine r_getF (x := fe9_46) 26 (36, 0) 104 fl9_46 (by decide) dX9_takeSquare_101 rfl rfl rfl rfl ?_
                  refine r_aload_n 105 dX9_takeSquare_104 rfl rfl ?_
                  refine r_getI (x := fe9_115) 24 108 fl9_115 (by decide) dX9_takeSquare_105 rfl rfl rfl ?_
                  refine r_iload_n 109 dX9_takeSquare_108 rfl rfl ?_
                  obtain ⟨hc, h⟩ := Out_grd h
                  refine r_iastore (gI (sI σ 35 0 a1.toNatClampNeg 2) 9 0 24).toNatClampNeg 5 110 dX9_takeSquare_109 rfl (by decide) (by decide) rfl rfl hc rfl ?_
                  refine r_aload_n 111 dX9_takeSquare_110 rfl rfl ?_
                  refine r_dup 112 dX9_takeSquare_111 rfl rfl ?_
                  refine r_getI (x := fe9_115) 24 115 fl9_115 (by decide) dX9_takeSquare_112 rfl rfl rfl ?_
                  refine r_iconst 1 116 dX9_takeSquare_115 rfl (by decide) ?_
                  refine r_iadd 117 dX9_takeSquare_116 rfl ?_
                  refine r_putI (x := fe9_115) 24 120 fl9_115 (by decide) dX9_takeSquare_117 rfl (Or.inl rfl) rfl rfl ?_
                  refine r_aload_n 121 dX9_takeSquare_120 rfl rfl ?_
                  refine r_dup 122 dX9_takeSquare_121 rfl rfl ?_
                  refine r_getI (x := fe9_109) 20 125 fl9_109 (by decide) dX9_takeSquare_122 rfl rfl rfl ?_
                  refine r_iconst 1 126 dX9_takeSquare_125 rfl (by decide) ?_
                  refine r_iadd 127 dX9_takeSquare_126 rfl ?_
                  refine r_putI (x := fe9_109) 20 130 fl9_109 (by decide) dX9_takeSquare_127 rfl (Or.inl rfl) rfl rfl ?_
                  refine r_iconst 1 131 dX9_takeSquare_130 rfl (by decide) ?_
                  exact r_zreturn dX9_takeSquare_131 rfl (by decide) (Nat.le_refl 0) (Nat.le_refl 0) h
        · replace h := Out_pos hc h
          refine r_iconst 1 57 dX9_takeSquare_56 rfl (by decide) ?_
          refine r_goto 71 dX9_takeSquare_57 (by decide) ?_
          obtain ⟨hc, h⟩ := Out_grd h
          refine r_iastore a1.toNatClampNeg 30 72 dX9_takeSquare_71 rfl (by decide) (by decide) rfl rfl hc rfl ?_
          refine r_iload_n 73 dX9_takeSquare_72 rfl rfl ?_
          refine r_bipush 46 75 dX9_takeSquare_73 rfl (by decide) ?_
          refine r_icmp_eq 96 78 dX9_takeSquare_75 (by decide) rfl (fun hc => ?_) (fun hc => ?_)
          · replace h := Out_pos hc h
            refine r_iload_n 97 dX9_takeSquare_96 rfl rfl ?_
            refine r_if_eq 120 100 dX9_takeSquare_97 (by decide) rfl (fun hc => absurd hc (by decide)) (fun _ => ?_)
            refine r_aload_n 101 dX9_takeSquare_100 rfl rfl ?_
            refine r_getF (x := fe9_46) 26 (36, 0) 104 fl9_46 (by decide) dX9_takeSquare_101 rfl rfl rfl rfl ?_
            refine r_aload_n 105 dX9_takeSquare_104 rfl rfl ?_
            refine r_getI (x := fe9_115) 24 108 fl9_115 (by decide) dX9_takeSquare_105 rfl rfl rfl ?_
            refine r_iload_n 109 dX9_takeSquare_108 rfl rfl ?_
            obtain ⟨hc, h⟩ := Out_grd h
            refine r_iastore (gI (sI σ 35 0 a1.toNatClampNeg 1) 9 0 24).toNatClampNeg 5 110 dX9_takeSquare_109 rfl (by decide) (by decide) rfl rfl hc rfl ?_
            refine r_aload_n 111 dX9_takeSquare_110 rfl rfl ?_
            refine r_dup 112 dX9_takeSquare_111 rfl rfl ?_
            refine r_getI (x := fe9_115) 24 115 fl9_115 (by decide) dX9_takeSquare_112 rfl rfl rfl ?_
            refine r_iconst 1 116 dX9_takeSquare_115 rfl (by decide) ?_
            refine r_iadd 117 dX9_takeSquare_116 rfl ?_
            refine r_putI (x := fe9_115) 24 120 fl9_115 (by decide) dX9_takeSquare_117 rfl (Or.inl rfl) rfl rfl ?_
            refine r_aload_n 121 dX9_takeSquare_120 rfl rfl ?_
            refine r_dup 122 dX9_takeSquare_121 rfl rfl ?_
            refine r_getI (x := fe9_109) 20 125 fl9_109 (by decide) dX9_takeSquare_122 rfl rfl rfl ?_
            refine r_iconst 1 126 dX9_takeSquare_125 rfl (by decide) ?_
            refine r_iadd 127 dX9_takeSquare_126 rfl ?_
            refine r_putI (x := fe9_109) 20 130 fl9_109 (by decide) dX9_takeSquare_127 rfl (Or.inl rfl) rfl rfl ?_
            refine r_iconst 1 131 dX9_takeSquare_130 rfl (by decide) ?_
            exact r_zreturn dX9_takeSquare_131 rfl (by decide) (Nat.le_refl 0) (Nat.le_refl 0) h
          · replace h := Out_neg hc h
            refine r_iload_n 79 dX9_takeSquare_78 rfl rfl ?_
            refine r_bipush 103 81 dX9_takeSquare_79 rfl (by decide) ?_
            refine r_icmp_eq 96 84 dX9_takeSquare_81 (by decide) rfl (fun hc => ?_) (fun hc => ?_)
            · replace h := Out_pos hc h
              refine r_iload_n 97 dX9_takeSquare_96 rfl rfl ?_
              refine r_if_eq 120 100 dX9_takeSquare_97 (by decide) rfl (fun hc => absurd hc (by decide)) (fun _ => ?_)
              refine r_aload_n 101 dX9_takeSquare_100 rfl rfl ?_
              refine r_getF (x := fe9_46) 26 (36, 0) 104 fl9_46 (by decide) dX9_takeSquare_101 rfl rfl rfl rfl ?_
              refine r_aload_n 105 dX9_takeSquare_104 rfl rfl ?_
              refine r_getI (x := fe9_115) 24 108 fl9_115 (by decide) dX9_takeSquare_105 rfl rfl rfl ?_
              refine r_iload_n 109 dX9_takeSquare_108 rfl rfl ?_
              obtain ⟨hc, h⟩ := Out_grd h
              refine r_iastore (gI (sI σ 35 0 a1.toNatClampNeg 1) 9 0 24).toNatClampNeg 5 110 dX9_takeSquare_109 rfl (by decide) (by decide) rfl rfl hc rfl ?_
              refine r_aload_n 111 dX9_takeSquare_110 rfl rfl ?_
              refine r_dup 112 dX9_takeSquare_111 rfl rfl ?_
              refine r_getI (x := fe9_115) 24 115 fl9_115 (by decide) dX9_takeSquare_112 rfl rfl rfl ?_
              refine r_iconst 1 116 dX9_takeSquare_115 rfl (by decide) ?_
              refine r_iadd 117 dX9_takeSquare_116 rfl ?_
              refine r_putI (x := fe9_115) 24 120 fl9_115 (by decide) dX9_takeSquare_117 rfl (Or.inl rfl) rfl rfl ?_
              refine r_aload_n 121 dX9_takeSquare_120 rfl rfl ?_
              refine r_dup 122 dX9_takeSquare_121 rfl rfl ?_
              refine r_getI (x := fe9_109) 20 125 fl9_109 (by decide) dX9_takeSquare_122 rfl rfl rfl ?_
              refine r_iconst 1 126 dX9_takeSquare_125 rfl (by decide) ?_
              refine r_iadd 127 dX9_takeSquare_126 rfl ?_
              refine r_putI (x := fe9_109) 20 130 fl9_109 (by decide) dX9_takeSquare_127 rfl (Or.inl rfl) rfl rfl ?_
              refine r_iconst 1 131 dX9_takeSquare_130 rfl (by decide) ?_
              exact r_zreturn dX9_takeSquare_131 rfl (by decide) (Nat.le_refl 0) (Nat.le_refl 0) h
            · replace h := Out_neg hc h
              refine r_iload_n 85 dX9_takeSquare_84 rfl rfl ?_
              refine r_bipush 109 87 dX9_takeSquare_85 rfl (by decide) ?_
              refine r_icmp_eq 96 90 dX9_takeSquare_87 (by decide) rfl (fun hc => ?_) (fun hc => ?_)
              · replace h := Out_pos hc h
                refine r_iload_n 97 dX9_takeSquare_96 rfl rfl ?_
                refine r_if_eq 120 100 dX9_takeSquare_97 (by decide) rfl (fun hc => absurd hc (by decide)) (fun _ => ?_)
                refine r_aload_n 101 dX9_takeSquare_100 rfl rfl ?_
                refine r_getF (x := fe9_46) 26 (36, 0) 104 fl9_46 (by decide) dX9_takeSquare_101 rfl rfl rfl rfl ?_
                refine r_aload_n 105 dX9_takeSquare_104 rfl rfl ?_
                refine r_getI (x := fe9_115) 24 108 fl9_115 (by decide) dX9_takeSquare_105 rfl rfl rfl ?_
                refine r_iload_n 109 dX9_takeSquare_108 rfl rfl ?_
                obtain ⟨hc, h⟩ := Out_grd h
                refine r_iastore (gI (sI σ 35 0 a1.toNatClampNeg 1) 9 0 24).toNatClampNeg 5 110 dX9_takeSquare_109 rfl (by decide) (by decide) rfl rfl hc rfl ?_
                refine r_aload_n 111 dX9_takeSquare_110 rfl rfl ?_
                refine r_dup 112 dX9_takeSquare_111 rfl rfl ?_
                refine r_getI (x := fe9_115) 24 115 fl9_115 (by decide) dX9_takeSquare_112 rfl rfl rfl ?_
                refine r_iconst 1 116 dX9_takeSquare_115 rfl (by decide) ?_
                refine r_iadd 117 dX9_takeSquare_116 rfl ?_
                refine r_putI (x := fe9_115) 24 120 fl9_115 (by decide) dX9_takeSquare_117 rfl (Or.inl rfl) rfl rfl ?_
                refine r_aload_n 121 dX9_takeSquare_120 rfl rfl ?_
                refine r_dup 122 dX9_takeSquare_121 rfl rfl ?_
                refine r_getI (x := fe9_109) 20 125 fl9_109 (by decide) dX9_takeSquare_122 rfl rfl rfl ?_
                refine r_iconst 1 126 dX9_takeSquare_125 rfl (by decide) ?_
                refine r_iadd 127 dX9_takeSquare_126 rfl ?_
                refine r_putI (x := fe9_109) 20 130 fl9_109 (by decide) dX9_takeSquare_127 rfl (Or.inl rfl) rfl rfl ?_
                refine r_iconst 1 131 dX9_takeSquare_130 rfl (by decide) ?_
                exact r_zreturn dX9_takeSquare_131 rfl (by decide) (Nat.le_refl 0) (Nat.le_refl 0) h
              · replace h := Out_neg hc h
                refine r_iload_n 91 dX9_takeSquare_90 rfl rfl ?_
                refine r_if_ne 96 94 dX9_takeSquare_91 (by decide) rfl (fun _ => ?_) (fun hc => absurd hc (by decide))
                refine r_iload_n 97 dX9_takeSquare_96 rfl rfl ?_
                refine r_if_eq 120 100 dX9_takeSquare_97 (by decide) rfl (fun hc => absurd hc (by decide)) (fun _ => ?_)
                refine r_aload_n 101 dX9_takeSquare_100 rfl rfl ?_
                refine r_getF (x := fe9_46) 26 (36, 0) 104 fl9_46 (by decide) dX9_takeSquare_101 rfl rfl rfl rfl ?_
                refine r_aload_n 105 dX9_takeSquare_104 rfl rfl ?_
                refine r_getI (x := fe9_115) 24 108 fl9_115 (by decide) dX9_takeSquare_105 rfl rfl rfl ?_
                refine r_iload_n 109 dX9_takeSquare_108 rfl rfl ?_
                obtain ⟨hc, h⟩ := Out_grd h
                refine r_iastore (gI (sI σ 35 0 a1.toNatClampNeg 1) 9 0 24).toNatClampNeg 5 110 dX9_takeSquare_109 rfl (by decide) (by decide) rfl rfl hc rfl ?_
                refine r_aload_n 111 dX9_takeSquare_110 rfl rfl ?_
                refine r_dup 112 dX9_takeSquare_111 rfl rfl ?_
                refine r_getI (x := fe9_115) 24 115 fl9_115 (by decide) dX9_takeSquare_112 rfl rfl rfl ?_
                refine r_iconst 1 116 dX9_takeSquare_115 rfl (by decide) ?_
                refine r_iadd 117 dX9_takeSquare_116 rfl ?_
                refine r_putI (x := fe9_115) 24 120 fl9_115 (by decide) dX9_takeSquare_117 rfl (Or.inl rfl) rfl rfl ?_
                refine r_aload_n 121 dX9_takeSquare_120 rfl rfl ?_
                refine r_dup 122 dX9_takeSquare_121 rfl rfl ?_
                refine r_getI (x := fe9_109) 20 125 fl9_109 (by decide) dX9_takeSquare_122 rfl rfl rfl ?_
                refine r_iconst 1 126 dX9_takeSquare_125 rfl (by decide) ?_
                refine r_iadd 127 dX9_takeSquare_126 rfl ?_
                refine r_putI (x := fe9_109) 20 130 fl9_109 (by decide) dX9_takeSquare_127 rfl (Or.inl rfl) rfl rfl ?_
                refine r_iconst 1 131 dX9_takeSquare_130 rfl (by decide) ?_
                exact r_zreturn dX9_takeSquare_131 rfl (by decide) (Nat.le_refl 0) (Nat.le_refl 0) h
  · replace h := Out_pos hc h
    refine r_iconst (-1) 12 dX9_takeSquare_11 rfl (by decide) ?_
    refine r_goto 24 dX9_takeSquare_12 (by decide) ?_
    refine r_istore_n [some (vq (some (9, 0))), some (vi a1), some (vi (-1)), none] 25 dX9_takeSquare_24 rfl rfl rfl ?_
    refine r_iload_n 26 dX9_takeSquare_25 rfl rfl ?_
    refine r_bipush 111 28 dX9_takeSquare_26 rfl (by decide) ?_
    refine r_icmp_ne 43 31 dX9_takeSquare_28 (by decide) rfl (fun _ => ?_) (fun hc => absurd hc (by decide))
    refine r_iconst 0 44 dX9_takeSquare_43 rfl (by decide) ?_
    refine r_istore_n [some (vq (some (9, 0))), some (vi a1), some (vi (-1)), some (vi 0)] 45 dX9_takeSquare_44 rfl rfl rfl ?_
    refine r_aload_n 46 dX9_takeSquare_45 rfl rfl ?_
    refine r_getF (x := fe9_43) 25 (35, 0) 49 fl9_43 (by decide) dX9_takeSquare_46 rfl rfl rfl rfl ?_
    refine r_iload_n 50 dX9_takeSquare_49 rfl rfl ?_
    refine r_iload_n 51 dX9_takeSquare_50 rfl rfl ?_
    refine r_bipush 103 53 dX9_takeSquare_51 rfl (by decide) ?_
    refine r_icmp_ne 60 56 dX9_takeSquare_53 (by decide) rfl (fun _ => ?_) (fun hc => absurd hc (by decide))
    refine r_iload_n 61 dX9_takeSquare_60 rfl rfl ?_
    refine r_bipush 109 63 dX9_takeSquare_61 rfl (by decide) ?_
    refine r_icmp_ne 70 66 dX9_takeSquare_63 (by decide) rfl (fun _ => ?_) (fun hc => absurd hc (by decide))
    refine r_iconst 0 71 dX9_takeSquare_70 rfl (by decide) ?_
    obtain ⟨hc, h⟩ := Out_grd h
    refine r_iastore a1.toNatClampNeg 30 72 dX9_takeSquare_71 rfl (by decide) (by decide) rfl rfl hc rfl ?_
    refine r_iload_n 73 dX9_takeSquare_72 rfl rfl ?_
    refine r_bipush 46 75 dX9_takeSquare_73 rfl (by decide) ?_
    refine r_icmp_eq 96 78 dX9_takeSquare_75 (by decide) rfl (fun hc => absurd hc (by decide)) (fun _ => ?_)
    refine r_iload_n 79 dX9_takeSquare_78 rfl rfl ?_
    refine r_bipush 103 81 dX9_takeSquare_79 rfl (by decide) ?_
    refine r_icmp_eq 96 84 dX9_takeSquare_81 (by decide) rfl (fun hc => absurd hc (by decide)) (fun _ => ?_)
    refine r_iload_n 85 dX9_takeSquare_84 rfl rfl ?_
    refine r_bipush 109 87 dX9_takeSquare_85 rfl (by decide) ?_
    refine r_icmp_eq 96 90 dX9_takeSquare_87 (by decide) rfl (fun hc => absurd hc (by decide)) (fun _ => ?_)
    refine r_iload_n 91 dX9_takeSquare_90 rfl rfl ?_
    refine r_if_ne 96 94 dX9_takeSquare_91 (by decide) rfl (fun hc => absurd hc (by decide)) (fun _ => ?_)
    refine r_iconst 0 95 dX9_takeSquare_94 rfl (by decide) ?_
    exact r_zreturn dX9_takeSquare_95 rfl (by decide) (Nat.le_refl 0) (Nat.le_refl 0) h

set_option maxRecDepth 20000 in
set_option maxHeartbeats 4000000 in
theorem tl9_takeSquares_4 {Γ : GG} {K : Int32 × Sto → Prop}  : ∀ (n : Nat) (a1 : Int32) (a2 : Int32) (σ : Sto), Out (l9_takeSquares_4  n a1 a2 σ) K → M true Γ mX9_takeSquares 2 0 0 0 0 (QI K) 4 [some (vq (some (9, 0))), some (vi a1), some (vi a2)] [] σ := by
  intro n
  induction n with
  | zero => intro a1 a2 σ h; exact absurd h Out_none
  | succ n ih =>
    intro a1 a2 σ h
    unfold l9_takeSquares_4 at h
    refine r_iload_n 5 dX9_takeSquares_4 rfl rfl ?_
    refine r_aload_n 6 dX9_takeSquares_5 rfl rfl ?_
    refine r_getI (x := fe9_118) 22 9 fl9_118 (by decide) dX9_takeSquares_6 rfl rfl rfl ?_
    refine r_aload_n 10 dX9_takeSquares_9 rfl rfl ?_
    refine r_getI (x := fe9_121) 23 13 fl9_121 (by decide) dX9_takeSquares_10 rfl rfl rfl ?_
    refine r_imul 14 dX9_takeSquares_13 rfl ?_
    refine r_icmp_ge 61 17 dX9_takeSquares_14 (by decide) rfl (fun hc => ?_) (fun hc => ?_)
    · replace h := Out_pos hc h
      refine r_iload_n 62 dX9_takeSquares_61 rfl rfl ?_
      obtain ⟨hc, h⟩ := Out_grd h
      exact r_zreturn dX9_takeSquares_62 rfl hc (Nat.le_refl 0) (Nat.le_refl 0) h
    · replace h := Out_neg hc h
      refine r_iload_n 18 dX9_takeSquares_17 rfl rfl ?_
      refine r_if_eq 61 21 dX9_takeSquares_18 (by decide) rfl (fun hc => ?_) (fun hc => ?_)
      · replace h := Out_pos hc h
        refine r_iload_n 62 dX9_takeSquares_61 rfl rfl ?_
        obtain ⟨hc, h⟩ := Out_grd h
        exact r_zreturn dX9_takeSquares_62 rfl hc (Nat.le_refl 0) (Nat.le_refl 0) h
      · replace h := Out_neg hc h
        refine r_iload_n 22 dX9_takeSquares_21 rfl rfl ?_
        refine r_aload_n 23 dX9_takeSquares_22 rfl rfl ?_
        refine r_getI (x := fe9_121) 23 26 fl9_121 (by decide) dX9_takeSquares_23 rfl rfl rfl ?_
        obtain ⟨hc, h⟩ := Out_grd h
        refine r_irem 27 dX9_takeSquares_26 rfl hc ?_
        refine r_if_ne 41 30 dX9_takeSquares_27 (by decide) rfl (fun hc => ?_) (fun hc => ?_)
        · replace h := Out_neg hc h
          refine r_aload_n 42 dX9_takeSquares_41 rfl rfl ?_
          refine r_iload_n 43 dX9_takeSquares_42 rfl rfl ?_
          refine c_I [vq (some (9, 0)), vi a2] [] 46 cs9_takeSquares_43 rfl h (fun _ h' => ct9_takeSquare h') rfl rfl rfl rfl (by decide) (Nat.le_refl 0) (Nat.le_refl 0) (fun v21 s22 h => ?_)
          refine r_if_eq 53 49 dX9_takeSquares_46 (by decide) rfl (fun hc => ?_) (fun hc => ?_)
          · replace h := Out_pos hc h
            refine r_iconst 0 54 dX9_takeSquares_53 rfl (by decide) ?_
            refine r_istore_n [some (vq (some (9, 0))), some (vi 0), some (vi a2)] 55 dX9_takeSquares_54 rfl rfl rfl ?_
            refine r_iinc 1 [some (vq (some (9, 0))), some (vi 0), some (vi (a2 + 1))] 58 dX9_takeSquares_55 rfl (by decide) rfl rfl rfl ?_
            refine r_goto 4 dX9_takeSquares_58 (by decide) ?_
            exact ih 0 (a2 + 1) s22 h
          · replace h := Out_neg hc h
            refine r_iconst 1 50 dX9_takeSquares_49 rfl (by decide) ?_
            refine r_goto 54 dX9_takeSquares_50 (by decide) ?_
            refine r_istore_n [some (vq (some (9, 0))), some (vi 1), some (vi a2)] 55 dX9_takeSquares_54 rfl rfl rfl ?_
            refine r_iinc 1 [some (vq (some (9, 0))), some (vi 1), some (vi (a2 + 1))] 58 dX9_takeSquares_55 rfl (by decide) rfl rfl rfl ?_
            refine r_goto 4 dX9_takeSquares_58 (by decide) ?_
            exact ih 1 (a2 + 1) s22 h
        · replace h := Out_pos hc h
          refine r_aload_n 31 dX9_takeSquares_30 rfl rfl ?_
          refine r_bipush 59 33 dX9_takeSquares_31 rfl (by decide) ?_
          refine r_bipush 59 35 dX9_takeSquares_33 rfl (by decide) ?_
          refine c_I [vq (some (9, 0)), vi 59, vi 59] [] 38 cs9_takeSquares_35 rfl h (fun _ h' => ct9_take h') rfl rfl rfl rfl (by decide) (Nat.le_refl 0) (Nat.le_refl 0) (fun v23 s24 h => ?_)
          refine r_if_ne 53 41 dX9_takeSquares_38 (by decide) rfl (fun hc => ?_) (fun hc => ?_)
          · replace h := Out_neg hc h
            refine r_iconst 0 54 dX9_takeSquares_53 rfl (by decide) ?_
            refine r_istore_n [some (vq (some (9, 0))), some (vi 0), some (vi a2)] 55 dX9_takeSquares_54 rfl rfl rfl ?_
            refine r_iinc 1 [some (vq (some (9, 0))), some (vi 0), some (vi (a2 + 1))] 58 dX9_takeSquares_55 rfl (by decide) rfl rfl rfl ?_
            refine r_goto 4 dX9_takeSquares_58 (by decide) ?_
            exact ih 0 (a2 + 1) s24 h
          · replace h := Out_pos hc h
            refine r_aload_n 42 dX9_takeSquares_41 rfl rfl ?_
            refine r_iload_n 43 dX9_takeSquares_42 rfl rfl ?_
            refine c_I [vq (some (9, 0)), vi a2] [] 46 cs9_takeSquares_43 rfl h (fun _ h' => ct9_takeSquare h') rfl rfl rfl rfl (by decide) (Nat.le_refl 0) (Nat.le_refl 0) (fun v25 s26 h => ?_)
            refine r_if_eq 53 49 dX9_takeSquares_46 (by decide) rfl (fun hc => ?_) (fun hc => ?_)
            · replace h := Out_pos hc h
              refine r_iconst 0 54 dX9_takeSquares_53 rfl (by decide) ?_
              refine r_istore_n [some (vq (some (9, 0))), some (vi 0), some (vi a2)] 55 dX9_takeSquares_54 rfl rfl rfl ?_
              refine r_iinc 1 [some (vq (some (9, 0))), some (vi 0), some (vi (a2 + 1))] 58 dX9_takeSquares_55 rfl (by decide) rfl rfl rfl ?_
              refine r_goto 4 dX9_takeSquares_58 (by decide) ?_
              exact ih 0 (a2 + 1) s26 h
            · replace h := Out_neg hc h
              refine r_iconst 1 50 dX9_takeSquares_49 rfl (by decide) ?_
              refine r_goto 54 dX9_takeSquares_50 (by decide) ?_
              refine r_istore_n [some (vq (some (9, 0))), some (vi 1), some (vi a2)] 55 dX9_takeSquares_54 rfl rfl rfl ?_
              refine r_iinc 1 [some (vq (some (9, 0))), some (vi 1), some (vi (a2 + 1))] 58 dX9_takeSquares_55 rfl (by decide) rfl rfl rfl ?_
              refine r_goto 4 dX9_takeSquares_58 (by decide) ?_
              exact ih 1 (a2 + 1) s26 h
set_option maxRecDepth 20000 in
set_option maxHeartbeats 4000000 in
theorem ct9_takeSquares {Γ : GG} {K : Int32 × Sto → Prop}  {σ : Sto} (h : Out (f9_takeSquares  σ) K) : Ct true Γ mX9_takeSquares 2 0 0 [vq (some (9, 0))] σ (QI K) := by
  refine Ct_intro (by decide +kernel) rfl ?_
  show M true Γ mX9_takeSquares 2 0 0 0 0 (QI K) 0 [some (vq (some (9, 0))), none, none] [] σ
  unfold f9_takeSquares at h
  refine r_iconst 1 1 dX9_takeSquares_0 rfl (by decide) ?_
  refine r_istore_n [some (vq (some (9, 0))), some (vi 1), none] 2 dX9_takeSquares_1 rfl rfl rfl ?_
  refine r_iconst 0 3 dX9_takeSquares_2 rfl (by decide) ?_
  refine r_istore_n [some (vq (some (9, 0))), some (vi 1), some (vi 0)] 4 dX9_takeSquares_3 rfl rfl rfl ?_
  exact tl9_takeSquares_4 300 1 0 σ h

set_option maxRecDepth 20000 in
set_option maxHeartbeats 4000000 in
theorem ct9_takeText {Γ : GG} {K : Int32 × Sto → Prop}  {σ : Sto} (h : Out (f9_takeText  σ) K) : Ct true Γ mX9_takeText 3 0 0 [vq (some (9, 0))] σ (QI K) := by
  refine Ct_intro (by decide +kernel) rfl ?_
  show M true Γ mX9_takeText 3 0 0 0 0 (QI K) 0 [some (vq (some (9, 0)))] [] σ
  unfold f9_takeText at h
  refine r_aload_n 1 dX9_takeText_0 rfl rfl ?_
  refine r_iconst 0 2 dX9_takeText_1 rfl (by decide) ?_
  refine r_putI (x := fe9_115) 24 5 fl9_115 (by decide) dX9_takeText_2 rfl (Or.inl rfl) rfl rfl ?_
  refine r_aload_n 6 dX9_takeText_5 rfl rfl ?_
  refine r_iconst 0 7 dX9_takeText_6 rfl (by decide) ?_
  refine r_putI (x := fe9_130) 27 10 fl9_130 (by decide) dX9_takeText_7 rfl (Or.inl rfl) rfl rfl ?_
  refine r_aload_n 11 dX9_takeText_10 rfl rfl ?_
  refine r_bipush 112 13 dX9_takeText_11 rfl (by decide) ?_
  refine r_bipush 112 15 dX9_takeText_13 rfl (by decide) ?_
  refine c_I [vq (some (9, 0)), vi 112, vi 112] [] 18 cs9_takeText_15 rfl h (fun _ h' => ct9_take h') rfl rfl rfl rfl (by decide) (Nat.le_refl 0) (Nat.le_refl 0) (fun v21 s22 h => ?_)
  refine r_if_ge 23 21 dX9_takeText_18 (by decide) rfl (fun hc => ?_) (fun hc => ?_)
  · replace h := Out_pos hc h
    refine r_aload_n 24 dX9_takeText_23 rfl rfl ?_
    refine r_aload_n 25 dX9_takeText_24 rfl rfl ?_
    refine r_bipush 50 27 dX9_takeText_25 rfl (by decide) ?_
    refine r_bipush 53 29 dX9_takeText_27 rfl (by decide) ?_
    refine c_I [vq (some (9, 0)), vi 50, vi 53] [vq (some (9, 0))] 32 cs9_takeText_29 rfl h (fun _ h' => ct9_take h') rfl rfl rfl rfl (by decide) (Nat.le_refl 0) (Nat.le_refl 0) (fun v23 s24 h => ?_)
    refine r_iconst 2 33 dX9_takeText_32 rfl (by decide) ?_
    refine r_iadd 34 dX9_takeText_33 rfl ?_
    refine r_putI (x := fe9_118) 22 37 fl9_118 (by decide) dX9_takeText_34 rfl (Or.inl rfl) rfl rfl ?_
    refine r_aload_n 38 dX9_takeText_37 rfl rfl ?_
    refine r_getI (x := fe9_118) 22 41 fl9_118 (by decide) dX9_takeText_38 rfl rfl rfl ?_
    refine r_iconst 2 42 dX9_takeText_41 rfl (by decide) ?_
    refine r_icmp_ge 47 45 dX9_takeText_42 (by decide) rfl (fun hc => ?_) (fun hc => ?_)
    · replace h := Out_pos hc h
      refine r_aload_n 48 dX9_takeText_47 rfl rfl ?_
      refine r_aload_n 49 dX9_takeText_48 rfl rfl ?_
      refine r_bipush 50 51 dX9_takeText_49 rfl (by decide) ?_
      refine r_bipush 54 53 dX9_takeText_51 rfl (by decide) ?_
      refine c_I [vq (some (9, 0)), vi 50, vi 54] [vq (some (9, 0))] 56 cs9_takeText_53 rfl h (fun _ h' => ct9_take h') rfl rfl rfl rfl (by decide) (Nat.le_refl 0) (Nat.le_refl 0) (fun v25 s26 h => ?_)
      refine r_iconst 2 57 dX9_takeText_56 rfl (by decide) ?_
      refine r_iadd 58 dX9_takeText_57 rfl ?_
      refine r_putI (x := fe9_121) 23 61 fl9_121 (by decide) dX9_takeText_58 rfl (Or.inl rfl) rfl rfl ?_
      refine r_aload_n 62 dX9_takeText_61 rfl rfl ?_
      refine r_getI (x := fe9_121) 23 65 fl9_121 (by decide) dX9_takeText_62 rfl rfl rfl ?_
      refine r_iconst 2 66 dX9_takeText_65 rfl (by decide) ?_
      refine r_icmp_lt 83 69 dX9_takeText_66 (by decide) rfl (fun hc => ?_) (fun hc => ?_)
      · replace h := Out_pos hc h
        refine r_iconst 0 84 dX9_takeText_83 rfl (by decide) ?_
        exact r_zreturn dX9_takeText_84 rfl (by decide) (Nat.le_refl 0) (Nat.le_refl 0) h
      · replace h := Out_neg hc h
        refine r_aload_n 70 dX9_takeText_69 rfl rfl ?_
        refine c_I [vq (some (9, 0))] [] 73 cs9_takeText_70 rfl h (fun _ h' => ct9_takeSquares h') rfl rfl rfl rfl (by decide) (Nat.le_refl 0) (Nat.le_refl 0) (fun v27 s28 h => ?_)
        refine r_if_eq 83 76 dX9_takeText_73 (by decide) rfl (fun hc => ?_) (fun hc => ?_)
        · replace h := Out_pos hc h
          refine r_iconst 0 84 dX9_takeText_83 rfl (by decide) ?_
          exact r_zreturn dX9_takeText_84 rfl (by decide) (Nat.le_refl 0) (Nat.le_refl 0) h
        · replace h := Out_neg hc h
          refine r_aload_n 77 dX9_takeText_76 rfl rfl ?_
          refine c_I [vq (some (9, 0))] [] 80 cs9_takeText_77 rfl h (fun _ h' => ct9_takeEater h') rfl rfl rfl rfl (by decide) (Nat.le_refl 0) (Nat.le_refl 0) (fun v29 s30 h => ?_)
          refine r_if_ne 85 83 dX9_takeText_80 (by decide) rfl (fun hc => ?_) (fun hc => ?_)
          · replace h := Out_neg hc h
            refine r_aload_n 86 dX9_takeText_85 rfl rfl ?_
            refine r_getI (x := fe9_109) 20 89 fl9_109 (by decide) dX9_takeText_86 rfl rfl rfl ?_
            refine r_aload_n 90 dX9_takeText_89 rfl rfl ?_
            refine r_getI (x := fe9_112) 21 93 fl9_112 (by decide) dX9_takeText_90 rfl rfl rfl ?_
            refine r_icmp_eq 114 96 dX9_takeText_93 (by decide) rfl (fun hc => ?_) (fun hc => ?_)
            · replace h := Out_pos hc h
              refine r_iconst 1 115 dX9_takeText_114 rfl (by decide) ?_
              refine r_goto 119 dX9_takeText_115 (by decide) ?_
              exact r_zreturn dX9_takeText_119 rfl (by decide) (Nat.le_refl 0) (Nat.le_refl 0) h
            · replace h := Out_neg hc h
              refine r_aload_n 97 dX9_takeText_96 rfl rfl ?_
              refine c_I [vq (some (9, 0))] [] 100 cs9_takeText_97 rfl h (fun _ h' => ct9_takeEater h') rfl rfl rfl rfl (by decide) (Nat.le_refl 0) (Nat.le_refl 0) (fun v31 s32 h => ?_)
              refine r_if_eq 118 103 dX9_takeText_100 (by decide) rfl (fun hc => ?_) (fun hc => ?_)
              · replace h := Out_pos hc h
                refine r_iconst 0 119 dX9_takeText_118 rfl (by decide) ?_
                exact r_zreturn dX9_takeText_119 rfl (by decide) (Nat.le_refl 0) (Nat.le_refl 0) h
              · replace h := Out_neg hc h
                refine r_aload_n 104 dX9_takeText_103 rfl rfl ?_
                refine r_getI (x := fe9_109) 20 107 fl9_109 (by decide) dX9_takeText_104 rfl rfl rfl ?_
                refine r_aload_n 108 dX9_takeText_107 rfl rfl ?_
                refine r_getI (x := fe9_112) 21 111 fl9_112 (by decide) dX9_takeText_108 rfl rfl rfl ?_
                refine r_icmp_ne 118 114 dX9_takeText_111 (by decide) rfl (fun hc => ?_) (fun hc => ?_)
                · replace h := Out_neg hc h
                  refine r_iconst 0 119 dX9_takeText_118 rfl (by decide) ?_
                  exact r_zreturn dX9_takeText_119 rfl (by decide) (Nat.le_refl 0) (Nat.le_refl 0) h
                · replace h := Out_pos hc h
                  refine r_iconst 1 115 dX9_takeText_114 rfl (by decide) ?_
                  refine r_goto 119 dX9_takeText_115 (by decide) ?_
                  exact r_zreturn dX9_takeText_119 rfl (by decide) (Nat.le_refl 0) (Nat.le_refl 0) h
          · replace h := Out_pos hc h
            refine r_iconst 0 84 dX9_takeText_83 rfl (by decide) ?_
            exact r_zreturn dX9_takeText_84 rfl (by decide) (Nat.le_refl 0) (Nat.le_refl 0) h
    · replace h := Out_neg hc h
      refine r_iconst 0 46 dX9_takeText_45 rfl (by decide) ?_
      exact r_zreturn dX9_takeText_46 rfl (by decide) (Nat.le_refl 0) (Nat.le_refl 0) h
  · replace h := Out_neg hc h
    refine r_iconst 0 22 dX9_takeText_21 rfl (by decide) ?_
    exact r_zreturn dX9_takeText_22 rfl (by decide) (Nat.le_refl 0) (Nat.le_refl 0) h

