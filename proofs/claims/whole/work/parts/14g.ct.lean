/-! printed by wip/gen/dec.py: the methods meet their functions -/
set_option maxRecDepth 20000 in
set_option maxHeartbeats 4000000 in
theorem tl9_plate_140 {Γ : GG} {K : Int32 × Sto → Prop} {k : Int32 → Sto → Option (Int32 × Sto)}  (hx : ∀ (a7 : Int32) (σ : Sto), Out (k a7 σ) K → M true Γ mX9_plate 4 0 0 0 0 (QI K) 167 [some (vq (some (9, 0))), none, none, none, none, none, none, some (vi a7)] [] σ) : ∀ (n : Nat) (a7 : Int32) (σ : Sto), Out (l9_plate_140 k  n a7 σ) K → M true Γ mX9_plate 4 0 0 0 0 (QI K) 140 [some (vq (some (9, 0))), none, none, none, none, none, none, some (vi a7)] [] σ := by
  intro n
  induction n with
  | zero => intro a7 σ h; exact absurd h Out_none
  | succ n ih =>
    intro a7 σ h
    unfold l9_plate_140 at h
    refine r_iload 142 dX9_plate_140 rfl rfl ?_
    refine r_bipush 30 144 dX9_plate_142 rfl (by decide) ?_
    refine r_icmp_ge 167 147 dX9_plate_144 (by decide) rfl (fun hc => ?_) (fun hc => ?_)
    · replace h := Out_pos hc h
      exact hx a7 σ h
    · replace h := Out_neg hc h
      refine r_aload_n 148 dX9_plate_147 rfl rfl ?_
      refine r_getF (x := fe9_7) 2 (24, 0) 151 fl9_7 (by decide) dX9_plate_148 rfl rfl rfl rfl ?_
      refine r_iload 153 dX9_plate_151 rfl rfl ?_
      refine r_aload_n 154 dX9_plate_153 rfl rfl ?_
      refine r_getF (x := fe9_43) 25 (35, 0) 157 fl9_43 (by decide) dX9_plate_154 rfl rfl rfl rfl ?_
      refine r_iload 159 dX9_plate_157 rfl rfl ?_
      obtain ⟨hc, h⟩ := Out_grd h
      refine r_iaload a7.toNatClampNeg 30 160 dX9_plate_159 rfl (by decide) rfl rfl hc rfl ?_
      obtain ⟨hc, h⟩ := Out_grd h
      refine r_iastore a7.toNatClampNeg 30 161 dX9_plate_160 rfl (by decide) (by decide) rfl rfl hc rfl ?_
      refine r_iinc 1 [some (vq (some (9, 0))), none, none, none, none, none, none, some (vi (a7 + 1))] 164 dX9_plate_161 rfl (by decide) rfl rfl rfl ?_
      refine r_goto 140 dX9_plate_164 (by decide) ?_
      exact ih (a7 + 1) (sI σ 24 0 a7.toNatClampNeg (gI σ 35 0 a7.toNatClampNeg)) h
set_option maxRecDepth 20000 in
set_option maxHeartbeats 4000000 in
theorem tl9_plate_170 {Γ : GG} {K : Int32 × Sto → Prop} {k : Int32 → Sto → Option (Int32 × Sto)}  (hx : ∀ (a7 : Int32) (σ : Sto), Out (k a7 σ) K → M true Γ mX9_plate 4 0 0 0 0 (QI K) 196 [some (vq (some (9, 0))), none, none, none, none, none, none, some (vi a7)] [] σ) : ∀ (n : Nat) (a7 : Int32) (σ : Sto), Out (l9_plate_170 k  n a7 σ) K → M true Γ mX9_plate 4 0 0 0 0 (QI K) 170 [some (vq (some (9, 0))), none, none, none, none, none, none, some (vi a7)] [] σ := by
  intro n
  induction n with
  | zero => intro a7 σ h; exact absurd h Out_none
  | succ n ih =>
    intro a7 σ h
    unfold l9_plate_170 at h
    refine r_iload 172 dX9_plate_170 rfl rfl ?_
    refine r_iconst 5 173 dX9_plate_172 rfl (by decide) ?_
    refine r_icmp_ge 196 176 dX9_plate_173 (by decide) rfl (fun hc => ?_) (fun hc => ?_)
    · replace h := Out_pos hc h
      exact hx a7 σ h
    · replace h := Out_neg hc h
      refine r_aload_n 177 dX9_plate_176 rfl rfl ?_
      refine r_getF (x := fe9_13) 4 (25, 0) 180 fl9_13 (by decide) dX9_plate_177 rfl rfl rfl rfl ?_
      refine r_iload 182 dX9_plate_180 rfl rfl ?_
      refine r_aload_n 183 dX9_plate_182 rfl rfl ?_
      refine r_getF (x := fe9_46) 26 (36, 0) 186 fl9_46 (by decide) dX9_plate_183 rfl rfl rfl rfl ?_
      refine r_iload 188 dX9_plate_186 rfl rfl ?_
      obtain ⟨hc, h⟩ := Out_grd h
      refine r_iaload a7.toNatClampNeg 5 189 dX9_plate_188 rfl (by decide) rfl rfl hc rfl ?_
      obtain ⟨hc, h⟩ := Out_grd h
      refine r_iastore a7.toNatClampNeg 5 190 dX9_plate_189 rfl (by decide) (by decide) rfl rfl hc rfl ?_
      refine r_iinc 1 [some (vq (some (9, 0))), none, none, none, none, none, none, some (vi (a7 + 1))] 193 dX9_plate_190 rfl (by decide) rfl rfl rfl ?_
      refine r_goto 170 dX9_plate_193 (by decide) ?_
      exact ih (a7 + 1) (sI σ 25 0 a7.toNatClampNeg (gI σ 36 0 a7.toNatClampNeg)) h
set_option maxRecDepth 20000 in
set_option maxHeartbeats 4000000 in
theorem tl9_plate_199 {Γ : GG} {K : Int32 × Sto → Prop} {k : Int32 → Sto → Option (Int32 × Sto)}  (hx : ∀ (a7 : Int32) (σ : Sto), Out (k a7 σ) K → M true Γ mX9_plate 4 0 0 0 0 (QI K) 239 [some (vq (some (9, 0))), none, none, none, none, none, none, some (vi a7)] [] σ) : ∀ (n : Nat) (a7 : Int32) (σ : Sto), Out (l9_plate_199 k  n a7 σ) K → M true Γ mX9_plate 4 0 0 0 0 (QI K) 199 [some (vq (some (9, 0))), none, none, none, none, none, none, some (vi a7)] [] σ := by
  intro n
  induction n with
  | zero => intro a7 σ h; exact absurd h Out_none
  | succ n ih =>
    intro a7 σ h
    unfold l9_plate_199 at h
    refine r_iload 201 dX9_plate_199 rfl rfl ?_
    refine r_iconst 2 202 dX9_plate_201 rfl (by decide) ?_
    refine r_icmp_ge 239 205 dX9_plate_202 (by decide) rfl (fun hc => ?_) (fun hc => ?_)
    · replace h := Out_pos hc h
      exact hx a7 σ h
    · replace h := Out_neg hc h
      refine r_aload_n 206 dX9_plate_205 rfl rfl ?_
      refine r_getF (x := fe9_16) 6 (26, 0) 209 fl9_16 (by decide) dX9_plate_206 rfl rfl rfl rfl ?_
      refine r_iload 211 dX9_plate_209 rfl rfl ?_
      refine r_aload_n 212 dX9_plate_211 rfl rfl ?_
      refine r_getF (x := fe9_49) 28 (37, 0) 215 fl9_49 (by decide) dX9_plate_212 rfl rfl rfl rfl ?_
      refine r_iload 217 dX9_plate_215 rfl rfl ?_
      obtain ⟨hc, h⟩ := Out_grd h
      refine r_iaload a7.toNatClampNeg 2 218 dX9_plate_217 rfl (by decide) rfl rfl hc rfl ?_
      obtain ⟨hc, h⟩ := Out_grd h
      refine r_iastore a7.toNatClampNeg 2 219 dX9_plate_218 rfl (by decide) (by decide) rfl rfl hc rfl ?_
      refine r_aload_n 220 dX9_plate_219 rfl rfl ?_
      refine r_getF (x := fe9_19) 7 (27, 0) 223 fl9_19 (by decide) dX9_plate_220 rfl rfl rfl rfl ?_
      refine r_iload 225 dX9_plate_223 rfl rfl ?_
      refine r_aload_n 226 dX9_plate_225 rfl rfl ?_
      refine r_getF (x := fe9_52) 29 (38, 0) 229 fl9_52 (by decide) dX9_plate_226 rfl rfl rfl rfl ?_
      refine r_iload 231 dX9_plate_229 rfl rfl ?_
      obtain ⟨hc, h⟩ := Out_grd h
      refine r_iaload a7.toNatClampNeg 2 232 dX9_plate_231 rfl (by decide) rfl rfl hc rfl ?_
      obtain ⟨hc, h⟩ := Out_grd h
      refine r_iastore a7.toNatClampNeg 2 233 dX9_plate_232 rfl (by decide) (by decide) rfl rfl hc rfl ?_
      refine r_iinc 1 [some (vq (some (9, 0))), none, none, none, none, none, none, some (vi (a7 + 1))] 236 dX9_plate_233 rfl (by decide) rfl rfl rfl ?_
      refine r_goto 199 dX9_plate_236 (by decide) ?_
      exact ih (a7 + 1) (sI (sI σ 26 0 a7.toNatClampNeg (gI σ 37 0 a7.toNatClampNeg)) 27 0 a7.toNatClampNeg (gI (sI σ 26 0 a7.toNatClampNeg (gI σ 37 0 a7.toNatClampNeg)) 38 0 a7.toNatClampNeg)) h
set_option maxRecDepth 20000 in
set_option maxHeartbeats 4000000 in
theorem ct9_plate {Γ : GG} {K : Int32 × Sto → Prop} {a1 : Int32} {a2 : Int32} {a3 : Int32} {a4 : Int32} {σ : Sto} (h : Out (f9_plate a1 a2 a3 a4 σ) K) : Ct true Γ mX9_plate 4 0 0 [vq (some (9, 0)), vi a1, vi a2, vi a3, vi a4] σ (QI K) := by
  refine Ct_intro (by decide +kernel) rfl ?_
  show M true Γ mX9_plate 4 0 0 0 0 (QI K) 0 [some (vq (some (9, 0))), some (vi a1), some (vi a2), some (vi a3), some (vi a4), none, none, none] [] σ
  unfold f9_plate at h
  refine r_iload_n 1 dX9_plate_0 rfl rfl ?_
  refine c_I [vi a1] [] 4 cs9_plate_1 rfl h (fun _ h' => ct9_isSheet h') rfl rfl rfl rfl (by decide) (Nat.le_refl 0) (Nat.le_refl 0) (fun v21 s22 h => ?_)
  refine r_if_ne 13 7 dX9_plate_4 (by decide) rfl (fun hc => ?_) (fun hc => ?_)
  · replace h := Out_neg hc h
    refine r_iload_n 14 dX9_plate_13 rfl rfl ?_
    refine c_I [vi a2] [] 17 cs9_plate_14 rfl h (fun _ h' => ct9_isLane h') rfl rfl rfl rfl (by decide) (Nat.le_refl 0) (Nat.le_refl 0) (fun v23 s24 h => ?_)
    refine r_if_ne 27 20 dX9_plate_17 (by decide) rfl (fun hc => ?_) (fun hc => ?_)
    · replace h := Out_neg hc h
      refine r_aload_n 28 dX9_plate_27 rfl rfl ?_
      refine r_iload_n 29 dX9_plate_28 rfl rfl ?_
      refine r_iload_n 30 dX9_plate_29 rfl rfl ?_
      refine r_iload_n 31 dX9_plate_30 rfl rfl ?_
      refine r_iload 33 dX9_plate_31 rfl rfl ?_
      refine c_I [vq (some (9, 0)), vi a1, vi a2, vi a3, vi a4] [] 36 cs9_plate_33 rfl h (fun _ h' => ct9_faultOf h') rfl rfl rfl rfl (by decide) (Nat.le_refl 0) (Nat.le_refl 0) (fun v25 s26 h => ?_)
      refine r_istore [some (vq (some (9, 0))), some (vi a1), some (vi a2), some (vi a3), some (vi a4), some (vi v25), none, none] 38 dX9_plate_36 rfl rfl rfl ?_
      refine r_iload 40 dX9_plate_38 rfl rfl ?_
      refine r_if_eq 50 43 dX9_plate_40 (by decide) rfl (fun hc => ?_) (fun hc => ?_)
      · replace h := Out_pos hc h
        refine r_aload_n 51 dX9_plate_50 rfl rfl ?_
        refine r_iconst 0 52 dX9_plate_51 rfl (by decide) ?_
        refine r_putI (x := fe9_64) 15 55 fl9_64 (by decide) dX9_plate_52 rfl (Or.inl rfl) rfl rfl ?_
        refine r_aload_n 56 dX9_plate_55 rfl rfl ?_
        refine r_bipush 60 58 dX9_plate_56 rfl (by decide) ?_
        refine r_iload_n 59 dX9_plate_58 rfl rfl ?_
        refine r_imul 60 dX9_plate_59 rfl ?_
        refine r_iload_n 61 dX9_plate_60 rfl rfl ?_
        refine r_iadd 62 dX9_plate_61 rfl ?_
        refine r_putI (x := fe9_109) 20 65 fl9_109 (by decide) dX9_plate_62 rfl (Or.inl rfl) rfl rfl ?_
        refine r_aload_n 66 dX9_plate_65 rfl rfl ?_
        refine r_aload_n 67 dX9_plate_66 rfl rfl ?_
        refine r_getI (x := fe9_109) 20 70 fl9_109 (by decide) dX9_plate_67 rfl rfl rfl ?_
        refine r_iload 72 dX9_plate_70 rfl rfl ?_
        refine r_iadd 73 dX9_plate_72 rfl ?_
        refine r_putI (x := fe9_112) 21 76 fl9_112 (by decide) dX9_plate_73 rfl (Or.inl rfl) rfl rfl ?_
        refine r_aload_n 77 dX9_plate_76 rfl rfl ?_
        refine r_getI (x := fe9_109) 20 80 fl9_109 (by decide) dX9_plate_77 rfl rfl rfl ?_
        refine r_istore [some (vq (some (9, 0))), some (vi a1), some (vi a2), some (vi a3), some (vi a4), some (vi v25), some (vi (gI (sI (sI (sI s26 9 0 15 0) 9 0 20 ((60 * a1) + a3)) 9 0 21 ((gI (sI (sI s26 9 0 15 0) 9 0 20 ((60 * a1) + a3)) 9 0 20) + a4)) 9 0 20)), none] 82 dX9_plate_80 rfl rfl rfl ?_
        refine r_aload_n 83 dX9_plate_82 rfl rfl ?_
        refine c_I [vq (some (9, 0))] [] 86 cs9_plate_83 rfl h (fun _ h' => ct9_takeText h') rfl rfl rfl rfl (by decide) (Nat.le_refl 0) (Nat.le_refl 0) (fun v27 s28 h => ?_)
        refine r_if_ne 100 89 dX9_plate_86 (by decide) rfl (fun hc => ?_) (fun hc => ?_)
        · replace h := Out_neg hc h
          refine r_aload_n 101 dX9_plate_100 rfl rfl ?_
          refine r_aload_n 102 dX9_plate_101 rfl rfl ?_
          refine r_getI (x := fe9_121) 23 105 fl9_121 (by decide) dX9_plate_102 rfl rfl rfl ?_
          refine r_putI (x := fe9_147) 0 108 fl9_147 (by decide) dX9_plate_105 rfl (Or.inl rfl) rfl rfl ?_
          refine r_aload_n 109 dX9_plate_108 rfl rfl ?_
          refine r_aload_n 110 dX9_plate_109 rfl rfl ?_
          refine r_getI (x := fe9_118) 22 113 fl9_118 (by decide) dX9_plate_110 rfl rfl rfl ?_
          refine r_aload_n 114 dX9_plate_113 rfl rfl ?_
          refine r_getI (x := fe9_121) 23 117 fl9_121 (by decide) dX9_plate_114 rfl rfl rfl ?_
          refine r_imul 118 dX9_plate_117 rfl ?_
          refine r_putI (x := fe9_68) 1 121 fl9_68 (by decide) dX9_plate_118 rfl (Or.inl rfl) rfl rfl ?_
          refine r_aload_n 122 dX9_plate_121 rfl rfl ?_
          refine r_aload_n 123 dX9_plate_122 rfl rfl ?_
          refine r_getI (x := fe9_115) 24 126 fl9_115 (by decide) dX9_plate_123 rfl rfl rfl ?_
          refine r_putI (x := fe9_75) 3 129 fl9_75 (by decide) dX9_plate_126 rfl (Or.inl rfl) rfl rfl ?_
          refine r_aload_n 130 dX9_plate_129 rfl rfl ?_
          refine r_aload_n 131 dX9_plate_130 rfl rfl ?_
          refine r_getI (x := fe9_130) 27 134 fl9_130 (by decide) dX9_plate_131 rfl rfl rfl ?_
          refine r_putI (x := fe9_78) 5 137 fl9_78 (by decide) dX9_plate_134 rfl (Or.inl rfl) rfl rfl ?_
          refine r_iconst 0 138 dX9_plate_137 rfl (by decide) ?_
          refine r_istore [some (vq (some (9, 0))), some (vi a1), some (vi a2), some (vi a3), some (vi a4), some (vi v25), some (vi (gI (sI (sI (sI s26 9 0 15 0) 9 0 20 ((60 * a1) + a3)) 9 0 21 ((gI (sI (sI s26 9 0 15 0) 9 0 20 ((60 * a1) + a3)) 9 0 20) + a4)) 9 0 20)), some (vi 0)] 140 dX9_plate_138 rfl rfl rfl ?_
          refine r_mask [true, false, false, false, false, false, false, true] [some (vq (some (9, 0))), none, none, none, none, none, none, some (vi 0)] rfl rfl ?_
          refine tl9_plate_140 (fun v29 s30 h => ?_) 300 0 (sI (sI (sI (sI s28 9 0 0 (gI s28 9 0 23)) 9 0 1 ((gI (sI s28 9 0 0 (gI s28 9 0 23)) 9 0 22) * (gI (sI s28 9 0 0 (gI s28 9 0 23)) 9 0 23))) 9 0 3 (gI (sI (sI s28 9 0 0 (gI s28 9 0 23)) 9 0 1 ((gI (sI s28 9 0 0 (gI s28 9 0 23)) 9 0 22) * (gI (sI s28 9 0 0 (gI s28 9 0 23)) 9 0 23))) 9 0 24)) 9 0 5 (gI (sI (sI (sI s28 9 0 0 (gI s28 9 0 23)) 9 0 1 ((gI (sI s28 9 0 0 (gI s28 9 0 23)) 9 0 22) * (gI (sI s28 9 0 0 (gI s28 9 0 23)) 9 0 23))) 9 0 3 (gI (sI (sI s28 9 0 0 (gI s28 9 0 23)) 9 0 1 ((gI (sI s28 9 0 0 (gI s28 9 0 23)) 9 0 22) * (gI (sI s28 9 0 0 (gI s28 9 0 23)) 9 0 23))) 9 0 24)) 9 0 27)) h
          refine r_iconst 0 168 dX9_plate_167 rfl (by decide) ?_
          refine r_istore [some (vq (some (9, 0))), none, none, none, none, none, none, some (vi 0)] 170 dX9_plate_168 rfl rfl rfl ?_
          refine tl9_plate_170 (fun v31 s32 h => ?_) 300 0 s30 h
          refine r_iconst 0 197 dX9_plate_196 rfl (by decide) ?_
          refine r_istore [some (vq (some (9, 0))), none, none, none, none, none, none, some (vi 0)] 199 dX9_plate_197 rfl rfl rfl ?_
          refine tl9_plate_199 (fun v33 s34 h => ?_) 300 0 s32 h
          refine r_aload_n 240 dX9_plate_239 rfl rfl ?_
          refine r_iconst 0 241 dX9_plate_240 rfl (by decide) ?_
          refine r_putI (x := fe9_150) 8 244 fl9_150 (by decide) dX9_plate_241 rfl (Or.inl rfl) rfl rfl ?_
          refine r_aload_n 245 dX9_plate_244 rfl rfl ?_
          refine r_iconst 0 246 dX9_plate_245 rfl (by decide) ?_
          refine r_putI (x := fe9_153) 9 249 fl9_153 (by decide) dX9_plate_246 rfl (Or.inl rfl) rfl rfl ?_
          refine r_aload_n 250 dX9_plate_249 rfl rfl ?_
          refine r_iconst 0 251 dX9_plate_250 rfl (by decide) ?_
          refine r_putI (x := fe9_156) 11 254 fl9_156 (by decide) dX9_plate_251 rfl (Or.inl rfl) rfl rfl ?_
          refine r_aload_n 255 dX9_plate_254 rfl rfl ?_
          refine r_getI (x := fe9_75) 3 258 fl9_75 (by decide) dX9_plate_255 rfl rfl rfl ?_
          exact r_ireturn dX9_plate_258 rfl (Nat.le_refl 0) (Nat.le_refl 0) h
        · replace h := Out_pos hc h
          refine r_bipush (-100) 91 dX9_plate_89 rfl (by decide) ?_
          refine r_aload_n 92 dX9_plate_91 rfl rfl ?_
          refine r_getI (x := fe9_109) 20 95 fl9_109 (by decide) dX9_plate_92 rfl rfl rfl ?_
          refine r_iload 97 dX9_plate_95 rfl rfl ?_
          refine r_isub 98 dX9_plate_97 rfl ?_
          refine r_isub 99 dX9_plate_98 rfl ?_
          exact r_ireturn dX9_plate_99 rfl (Nat.le_refl 0) (Nat.le_refl 0) h
      · replace h := Out_neg hc h
        refine r_aload_n 44 dX9_plate_43 rfl rfl ?_
        refine r_iload 46 dX9_plate_44 rfl rfl ?_
        refine c_I [vq (some (9, 0)), vi v25] [] 49 cs9_plate_46 rfl h (fun _ h' => ct9_fails h') rfl rfl rfl rfl (by decide) (Nat.le_refl 0) (Nat.le_refl 0) (fun v35 s36 h => ?_)
        exact r_ireturn dX9_plate_49 rfl (Nat.le_refl 0) (Nat.le_refl 0) h
    · replace h := Out_pos hc h
      refine r_aload_n 21 dX9_plate_20 rfl rfl ?_
      refine r_bipush (-2) 23 dX9_plate_21 rfl (by decide) ?_
      refine c_I [vq (some (9, 0)), vi (-2)] [] 26 cs9_plate_23 rfl h (fun _ h' => ct9_refused h') rfl rfl rfl rfl (by decide) (Nat.le_refl 0) (Nat.le_refl 0) (fun v37 s38 h => ?_)
      exact r_ireturn dX9_plate_26 rfl (Nat.le_refl 0) (Nat.le_refl 0) h
  · replace h := Out_pos hc h
    refine r_aload_n 8 dX9_plate_7 rfl rfl ?_
    refine r_iconst (-1) 9 dX9_plate_8 rfl (by decide) ?_
    refine c_I [vq (some (9, 0)), vi (-1)] [] 12 cs9_plate_9 rfl h (fun _ h' => ct9_refused h') rfl rfl rfl rfl (by decide) (Nat.le_refl 0) (Nat.le_refl 0) (fun v39 s40 h => ?_)
    exact r_ireturn dX9_plate_12 rfl (Nat.le_refl 0) (Nat.le_refl 0) h

set_option maxRecDepth 20000 in
set_option maxHeartbeats 4000000 in
theorem ct9_polish {Γ : GG} {K : Int32 × Sto → Prop} {a1 : Int32} {σ : Sto} (h : Out (f9_polish a1 σ) K) : Ct true Γ mX9_polish 2 0 0 [vq (some (9, 0)), vi a1] σ (QI K) := by
  refine Ct_intro (by decide +kernel) rfl ?_
  show M true Γ mX9_polish 2 0 0 0 0 (QI K) 0 [some (vq (some (9, 0))), some (vi a1)] [] σ
  unfold f9_polish at h
  refine r_aload_n 1 dX9_polish_0 rfl rfl ?_
  refine r_iload_n 2 dX9_polish_1 rfl rfl ?_
  refine c_I [vq (some (9, 0)), vi a1] [] 5 cs9_polish_2 rfl h (fun _ h' => ct9_isEater h') rfl rfl rfl rfl (by decide) (Nat.le_refl 0) (Nat.le_refl 0) (fun v21 s22 h => ?_)
  refine r_if_ne 10 8 dX9_polish_5 (by decide) rfl (fun hc => ?_) (fun hc => ?_)
  · replace h := Out_neg hc h
    refine r_aload_n 11 dX9_polish_10 rfl rfl ?_
    refine r_aload_n 12 dX9_polish_11 rfl rfl ?_
    refine r_getF (x := fe9_16) 6 (26, 0) 15 fl9_16 (by decide) dX9_polish_12 rfl rfl rfl rfl ?_
    refine r_iload_n 16 dX9_polish_15 rfl rfl ?_
    obtain ⟨hc, h⟩ := Out_grd h
    refine r_iaload a1.toNatClampNeg 2 17 dX9_polish_16 rfl (by decide) rfl rfl hc rfl ?_
    refine r_iconst 2 18 dX9_polish_17 rfl (by decide) ?_
    refine r_icmp_ne 25 21 dX9_polish_18 (by decide) rfl (fun hc => ?_) (fun hc => ?_)
    · replace h := Out_neg hc h
      refine r_iconst 4 26 dX9_polish_25 rfl (by decide) ?_
      refine c_V [vq (some (9, 0)), vi 4] [] 29 cs9_polish_26 rfl h (fun _ h' => ct9_begin h') rfl rfl rfl rfl (by decide) (Nat.le_refl 0) (Nat.le_refl 0) (fun s23 h => ?_)
      refine r_aload_n 30 dX9_polish_29 rfl rfl ?_
      refine r_getF (x := fe9_16) 6 (26, 0) 33 fl9_16 (by decide) dX9_polish_30 rfl rfl rfl rfl ?_
      refine r_iload_n 34 dX9_polish_33 rfl rfl ?_
      obtain ⟨hc, h⟩ := Out_grd h
      refine r_iaload a1.toNatClampNeg 2 35 dX9_polish_34 rfl (by decide) rfl rfl hc rfl ?_
      refine r_iconst 2 36 dX9_polish_35 rfl (by decide) ?_
      refine r_icmp_ne 44 39 dX9_polish_36 (by decide) rfl (fun hc => ?_) (fun hc => ?_)
      · replace h := Out_neg hc h
        refine r_iload_n 45 dX9_polish_44 rfl rfl ?_
        exact r_ireturn dX9_polish_45 rfl (Nat.le_refl 0) (Nat.le_refl 0) h
      · replace h := Out_pos hc h
        refine r_bipush 30 41 dX9_polish_39 rfl (by decide) ?_
        refine r_goto 45 dX9_polish_41 (by decide) ?_
        exact r_ireturn dX9_polish_45 rfl (Nat.le_refl 0) (Nat.le_refl 0) h
    · replace h := Out_pos hc h
      refine r_iconst 5 22 dX9_polish_21 rfl (by decide) ?_
      refine r_goto 26 dX9_polish_22 (by decide) ?_
      refine c_V [vq (some (9, 0)), vi 5] [] 29 cs9_polish_26 rfl h (fun _ h' => ct9_begin h') rfl rfl rfl rfl (by decide) (Nat.le_refl 0) (Nat.le_refl 0) (fun s24 h => ?_)
      refine r_aload_n 30 dX9_polish_29 rfl rfl ?_
      refine r_getF (x := fe9_16) 6 (26, 0) 33 fl9_16 (by decide) dX9_polish_30 rfl rfl rfl rfl ?_
      refine r_iload_n 34 dX9_polish_33 rfl rfl ?_
      obtain ⟨hc, h⟩ := Out_grd h
      refine r_iaload a1.toNatClampNeg 2 35 dX9_polish_34 rfl (by decide) rfl rfl hc rfl ?_
      refine r_iconst 2 36 dX9_polish_35 rfl (by decide) ?_
      refine r_icmp_ne 44 39 dX9_polish_36 (by decide) rfl (fun hc => ?_) (fun hc => ?_)
      · replace h := Out_neg hc h
        refine r_iload_n 45 dX9_polish_44 rfl rfl ?_
        exact r_ireturn dX9_polish_45 rfl (Nat.le_refl 0) (Nat.le_refl 0) h
      · replace h := Out_pos hc h
        refine r_bipush 30 41 dX9_polish_39 rfl (by decide) ?_
        refine r_goto 45 dX9_polish_41 (by decide) ?_
        exact r_ireturn dX9_polish_45 rfl (Nat.le_refl 0) (Nat.le_refl 0) h
  · replace h := Out_pos hc h
    refine r_iconst (-1) 9 dX9_polish_8 rfl (by decide) ?_
    exact r_ireturn dX9_polish_9 rfl (Nat.le_refl 0) (Nat.le_refl 0) h

set_option maxRecDepth 20000 in
set_option maxHeartbeats 4000000 in
theorem ct9_push {Γ : GG} {K : Int32 × Sto → Prop} {a1 : Int32} {a2 : Int32} {a3 : Int32} {σ : Sto} (h : Out (f9_push a1 a2 a3 σ) K) : Ct true Γ mX9_push 2 0 0 [vq (some (9, 0)), vi a1, vi a2, vi a3] σ (QI K) := by
  refine Ct_intro (by decide +kernel) rfl ?_
  show M true Γ mX9_push 2 0 0 0 0 (QI K) 0 [some (vq (some (9, 0))), some (vi a1), some (vi a2), some (vi a3)] [] σ
  unfold f9_push at h
  refine r_aload_n 1 dX9_push_0 rfl rfl ?_
  refine r_iload_n 2 dX9_push_1 rfl rfl ?_
  refine c_I [vq (some (9, 0)), vi a1] [] 5 cs9_push_2 rfl h (fun _ h' => ct9_isEater h') rfl rfl rfl rfl (by decide) (Nat.le_refl 0) (Nat.le_refl 0) (fun v21 s22 h => ?_)
  refine r_if_eq 16 8 dX9_push_5 (by decide) rfl (fun hc => ?_) (fun hc => ?_)
  · replace h := Out_pos hc h
    refine r_iconst (-1) 17 dX9_push_16 rfl (by decide) ?_
    exact r_ireturn dX9_push_17 rfl (Nat.le_refl 0) (Nat.le_refl 0) h
  · replace h := Out_neg hc h
    refine r_aload_n 9 dX9_push_8 rfl rfl ?_
    refine r_iload_n 10 dX9_push_9 rfl rfl ?_
    refine c_I [vq (some (9, 0)), vi a2] [] 13 cs9_push_10 rfl h (fun _ h' => ct9_isPea h') rfl rfl rfl rfl (by decide) (Nat.le_refl 0) (Nat.le_refl 0) (fun v23 s24 h => ?_)
    refine r_if_ne 18 16 dX9_push_13 (by decide) rfl (fun hc => ?_) (fun hc => ?_)
    · replace h := Out_neg hc h
      refine r_iload_n 19 dX9_push_18 rfl rfl ?_
      refine r_i2l 20 dX9_push_19 rfl ?_
      refine r_lconst 0 21 dX9_push_20 rfl (by decide) ?_
      refine r_ldc2 (3) 24 dX9_push_21 rfl w_03ec5b81 ?_
      refine c_I [vl a3.toInt64, vl 0, vl (3)] [] 27 cs9_push_24 rfl h (fun _ h' => ct9_in h') rfl rfl rfl rfl (by decide) (Nat.le_refl 0) (Nat.le_refl 0) (fun v25 s26 h => ?_)
      refine r_if_ne 33 30 dX9_push_27 (by decide) rfl (fun hc => ?_) (fun hc => ?_)
      · replace h := Out_neg hc h
        refine r_aload_n 34 dX9_push_33 rfl rfl ?_
        refine r_getI (x := fe9_153) 9 37 fl9_153 (by decide) dX9_push_34 rfl rfl rfl ?_
        refine r_bipush 30 39 dX9_push_37 rfl (by decide) ?_
        refine r_icmp_ne 45 42 dX9_push_39 (by decide) rfl (fun hc => ?_) (fun hc => ?_)
        · replace h := Out_neg hc h
          refine r_aload_n 46 dX9_push_45 rfl rfl ?_
          refine r_getF (x := fe9_22) 10 (28, 0) 49 fl9_22 (by decide) dX9_push_46 rfl rfl rfl rfl ?_
          refine r_aload_n 50 dX9_push_49 rfl rfl ?_
          refine r_getI (x := fe9_153) 9 53 fl9_153 (by decide) dX9_push_50 rfl rfl rfl ?_
          refine r_bipush 100 55 dX9_push_53 rfl (by decide) ?_
          refine r_iload_n 56 dX9_push_55 rfl rfl ?_
          refine r_imul 57 dX9_push_56 rfl ?_
          refine r_bipush 10 59 dX9_push_57 rfl (by decide) ?_
          refine r_iload_n 60 dX9_push_59 rfl rfl ?_
          refine r_imul 61 dX9_push_60 rfl ?_
          refine r_iadd 62 dX9_push_61 rfl ?_
          refine r_iload_n 63 dX9_push_62 rfl rfl ?_
          refine r_iadd 64 dX9_push_63 rfl ?_
          obtain ⟨hc, h⟩ := Out_grd h
          refine r_iastore (gI s26 9 0 9).toNatClampNeg 30 65 dX9_push_64 rfl (by decide) (by decide) rfl rfl hc rfl ?_
          refine r_aload_n 66 dX9_push_65 rfl rfl ?_
          refine r_dup 67 dX9_push_66 rfl rfl ?_
          refine r_getI (x := fe9_153) 9 70 fl9_153 (by decide) dX9_push_67 rfl rfl rfl ?_
          refine r_iconst 1 71 dX9_push_70 rfl (by decide) ?_
          refine r_iadd 72 dX9_push_71 rfl ?_
          refine r_putI (x := fe9_153) 9 75 fl9_153 (by decide) dX9_push_72 rfl (Or.inl rfl) rfl rfl ?_
          refine r_aload_n 76 dX9_push_75 rfl rfl ?_
          refine r_getI (x := fe9_153) 9 79 fl9_153 (by decide) dX9_push_76 rfl rfl rfl ?_
          refine r_iconst 1 80 dX9_push_79 rfl (by decide) ?_
          refine r_isub 81 dX9_push_80 rfl ?_
          exact r_ireturn dX9_push_81 rfl (Nat.le_refl 0) (Nat.le_refl 0) h
        · replace h := Out_pos hc h
          refine r_bipush (-4) 44 dX9_push_42 rfl (by decide) ?_
          exact r_ireturn dX9_push_44 rfl (Nat.le_refl 0) (Nat.le_refl 0) h
      · replace h := Out_pos hc h
        refine r_bipush (-2) 32 dX9_push_30 rfl (by decide) ?_
        exact r_ireturn dX9_push_32 rfl (Nat.le_refl 0) (Nat.le_refl 0) h
    · replace h := Out_pos hc h
      refine r_iconst (-1) 17 dX9_push_16 rfl (by decide) ?_
      exact r_ireturn dX9_push_17 rfl (Nat.le_refl 0) (Nat.le_refl 0) h

set_option maxRecDepth 20000 in
set_option maxHeartbeats 4000000 in
theorem ct9_put {Γ : GG} {K : Int32 × Sto → Prop} {a1 : Int32} {a2 : Int32} {a3 : Int32} {σ : Sto} (h : Out (f9_put a1 a2 a3 σ) K) : Ct true Γ mX9_put 2 0 0 [vq (some (9, 0)), vi a1, vi a2, vi a3] σ (QI K) := by
  refine Ct_intro (by decide +kernel) rfl ?_
  show M true Γ mX9_put 2 0 0 0 0 (QI K) 0 [some (vq (some (9, 0))), some (vi a1), some (vi a2), some (vi a3)] [] σ
  unfold f9_put at h
  refine r_iload_n 1 dX9_put_0 rfl rfl ?_
  refine c_I [vi a1] [] 4 cs9_put_1 rfl h (fun _ h' => ct9_isSheet h') rfl rfl rfl rfl (by decide) (Nat.le_refl 0) (Nat.le_refl 0) (fun v21 s22 h => ?_)
  refine r_if_ne 13 7 dX9_put_4 (by decide) rfl (fun hc => ?_) (fun hc => ?_)
  · replace h := Out_neg hc h
    refine r_aload_n 14 dX9_put_13 rfl rfl ?_
    refine r_getF (x := fe9_31) 16 (31, 0) 17 fl9_31 (by decide) dX9_put_14 rfl rfl rfl rfl ?_
    refine r_iload_n 18 dX9_put_17 rfl rfl ?_
    obtain ⟨hc, h⟩ := Out_grd h
    refine r_iaload a1.toNatClampNeg 4 19 dX9_put_18 rfl (by decide) rfl rfl hc rfl ?_
    refine r_if_ge 28 22 dX9_put_19 (by decide) rfl (fun hc => ?_) (fun hc => ?_)
    · replace h := Out_pos hc h
      refine r_iload_n 29 dX9_put_28 rfl rfl ?_
      refine r_i2l 30 dX9_put_29 rfl ?_
      refine r_lconst 0 31 dX9_put_30 rfl (by decide) ?_
      refine r_aload_n 32 dX9_put_31 rfl rfl ?_
      refine r_getF (x := fe9_34) 17 (32, 0) 35 fl9_34 (by decide) dX9_put_32 rfl rfl rfl rfl ?_
      refine r_iload_n 36 dX9_put_35 rfl rfl ?_
      obtain ⟨hc, h⟩ := Out_grd h
      refine r_iaload a1.toNatClampNeg 4 37 dX9_put_36 rfl (by decide) rfl rfl hc rfl ?_
      refine r_iconst 1 38 dX9_put_37 rfl (by decide) ?_
      refine r_isub 39 dX9_put_38 rfl ?_
      refine r_i2l 40 dX9_put_39 rfl ?_
      refine c_I [vl a2.toInt64, vl 0, vl (((gI s22 32 0 a1.toNatClampNeg) - 1).toInt64)] [] 43 cs9_put_40 rfl h (fun _ h' => ct9_in h') rfl rfl rfl rfl (by decide) (Nat.le_refl 0) (Nat.le_refl 0) (fun v23 s24 h => ?_)
      refine r_if_ne 52 46 dX9_put_43 (by decide) rfl (fun hc => ?_) (fun hc => ?_)
      · replace h := Out_neg hc h
        refine r_aload_n 53 dX9_put_52 rfl rfl ?_
        refine r_iconst 0 54 dX9_put_53 rfl (by decide) ?_
        refine r_putI (x := fe9_64) 15 57 fl9_64 (by decide) dX9_put_54 rfl (Or.inl rfl) rfl rfl ?_
        refine r_aload_n 58 dX9_put_57 rfl rfl ?_
        refine r_getF (x := fe9_37) 18 (33, 0) 61 fl9_37 (by decide) dX9_put_58 rfl rfl rfl rfl ?_
        refine r_bipush 60 63 dX9_put_61 rfl (by decide) ?_
        refine r_iload_n 64 dX9_put_63 rfl rfl ?_
        refine r_imul 65 dX9_put_64 rfl ?_
        refine r_iload_n 66 dX9_put_65 rfl rfl ?_
        refine r_iadd 67 dX9_put_66 rfl ?_
        refine r_aload_n 68 dX9_put_67 rfl rfl ?_
        refine r_getF (x := fe9_31) 16 (31, 0) 71 fl9_31 (by decide) dX9_put_68 rfl rfl rfl rfl ?_
        refine r_iload_n 72 dX9_put_71 rfl rfl ?_
        obtain ⟨hc, h⟩ := Out_grd h
        refine r_iaload a1.toNatClampNeg 4 73 dX9_put_72 rfl (by decide) rfl rfl hc rfl ?_
        refine r_iload_n 74 dX9_put_73 rfl rfl ?_
        refine c_I [vi (gI (sI s24 9 0 15 0) 31 0 a1.toNatClampNeg), vi a3] [vi ((60 * a1) + a2), vq (some (33, 0))] 77 cs9_put_74 rfl h (fun _ h' => ct9_cut h') rfl rfl rfl rfl (by decide) (Nat.le_refl 0) (Nat.le_refl 0) (fun v25 s26 h => ?_)
        obtain ⟨hc, h⟩ := Out_grd h
        refine r_iastore ((60 * a1) + a2).toNatClampNeg 240 78 dX9_put_77 rfl (by decide) (by decide) rfl rfl hc rfl ?_
        refine r_iconst 1 79 dX9_put_78 rfl (by decide) ?_
        exact r_ireturn dX9_put_79 rfl (Nat.le_refl 0) (Nat.le_refl 0) h
      · replace h := Out_pos hc h
        refine r_aload_n 47 dX9_put_46 rfl rfl ?_
        refine r_iconst 3 48 dX9_put_47 rfl (by decide) ?_
        refine c_I [vq (some (9, 0)), vi 3] [] 51 cs9_put_48 rfl h (fun _ h' => ct9_fails h') rfl rfl rfl rfl (by decide) (Nat.le_refl 0) (Nat.le_refl 0) (fun v27 s28 h => ?_)
        exact r_ireturn dX9_put_51 rfl (Nat.le_refl 0) (Nat.le_refl 0) h
    · replace h := Out_neg hc h
      refine r_aload_n 23 dX9_put_22 rfl rfl ?_
      refine r_iconst 1 24 dX9_put_23 rfl (by decide) ?_
      refine c_I [vq (some (9, 0)), vi 1] [] 27 cs9_put_24 rfl h (fun _ h' => ct9_fails h') rfl rfl rfl rfl (by decide) (Nat.le_refl 0) (Nat.le_refl 0) (fun v29 s30 h => ?_)
      exact r_ireturn dX9_put_27 rfl (Nat.le_refl 0) (Nat.le_refl 0) h
  · replace h := Out_pos hc h
    refine r_aload_n 8 dX9_put_7 rfl rfl ?_
    refine r_iconst (-1) 9 dX9_put_8 rfl (by decide) ?_
    refine c_I [vq (some (9, 0)), vi (-1)] [] 12 cs9_put_9 rfl h (fun _ h' => ct9_refused h') rfl rfl rfl rfl (by decide) (Nat.le_refl 0) (Nat.le_refl 0) (fun v31 s32 h => ?_)
    exact r_ireturn dX9_put_12 rfl (Nat.le_refl 0) (Nat.le_refl 0) h

set_option maxRecDepth 20000 in
set_option maxHeartbeats 4000000 in
theorem ct9_reading {Γ : GG} {K : Int32 × Sto → Prop} {a1 : Int32} {a2 : Int32} {σ : Sto} (h : Out (f9_reading a1 a2 σ) K) : Ct true Γ mX9_reading 2 0 0 [vq (some (9, 0)), vi a1, vi a2] σ (QI K) := by
  refine Ct_intro (by decide +kernel) rfl ?_
  show M true Γ mX9_reading 2 0 0 0 0 (QI K) 0 [some (vq (some (9, 0))), some (vi a1), some (vi a2)] [] σ
  unfold f9_reading at h
  refine r_aload_n 1 dX9_reading_0 rfl rfl ?_
  refine r_iload_n 2 dX9_reading_1 rfl rfl ?_
  refine c_I [vq (some (9, 0)), vi a1] [] 5 cs9_reading_2 rfl h (fun _ h' => ct9_isPea h') rfl rfl rfl rfl (by decide) (Nat.le_refl 0) (Nat.le_refl 0) (fun v21 s22 h => ?_)
  refine r_if_eq 22 8 dX9_reading_5 (by decide) rfl (fun hc => ?_) (fun hc => ?_)
  · replace h := Out_pos hc h
    refine r_iconst (-1) 23 dX9_reading_22 rfl (by decide) ?_
    exact r_ireturn dX9_reading_23 rfl (Nat.le_refl 0) (Nat.le_refl 0) h
  · replace h := Out_neg hc h
    refine r_iload_n 9 dX9_reading_8 rfl rfl ?_
    refine r_bipush (-9) 11 dX9_reading_9 rfl (by decide) ?_
    refine r_icmp_eq 24 14 dX9_reading_11 (by decide) rfl (fun hc => ?_) (fun hc => ?_)
    · replace h := Out_pos hc h
      refine r_aload_n 25 dX9_reading_24 rfl rfl ?_
      refine r_getI (x := fe9_156) 11 28 fl9_156 (by decide) dX9_reading_25 rfl rfl rfl ?_
      refine r_bipush 8 30 dX9_reading_28 rfl (by decide) ?_
      refine r_icmp_ne 36 33 dX9_reading_30 (by decide) rfl (fun hc => ?_) (fun hc => ?_)
      · replace h := Out_neg hc h
        refine r_aload_n 37 dX9_reading_36 rfl rfl ?_
        refine r_getF (x := fe9_25) 12 (29, 0) 40 fl9_25 (by decide) dX9_reading_37 rfl rfl rfl rfl ?_
        refine r_aload_n 41 dX9_reading_40 rfl rfl ?_
        refine r_getI (x := fe9_156) 11 44 fl9_156 (by decide) dX9_reading_41 rfl rfl rfl ?_
        refine r_iload_n 45 dX9_reading_44 rfl rfl ?_
        obtain ⟨hc, h⟩ := Out_grd h
        refine r_iastore (gI s22 9 0 11).toNatClampNeg 8 46 dX9_reading_45 rfl (by decide) (by decide) rfl rfl hc rfl ?_
        refine r_aload_n 47 dX9_reading_46 rfl rfl ?_
        refine r_getF (x := fe9_28) 13 (30, 0) 50 fl9_28 (by decide) dX9_reading_47 rfl rfl rfl rfl ?_
        refine r_aload_n 51 dX9_reading_50 rfl rfl ?_
        refine r_getI (x := fe9_156) 11 54 fl9_156 (by decide) dX9_reading_51 rfl rfl rfl ?_
        refine r_iload_n 55 dX9_reading_54 rfl rfl ?_
        obtain ⟨hc, h⟩ := Out_grd h
        refine r_iastore (gI (sI s22 29 0 (gI s22 9 0 11).toNatClampNeg a1) 9 0 11).toNatClampNeg 8 56 dX9_reading_55 rfl (by decide) (by decide) rfl rfl hc rfl ?_
        refine r_aload_n 57 dX9_reading_56 rfl rfl ?_
        refine r_dup 58 dX9_reading_57 rfl rfl ?_
        refine r_getI (x := fe9_156) 11 61 fl9_156 (by decide) dX9_reading_58 rfl rfl rfl ?_
        refine r_iconst 1 62 dX9_reading_61 rfl (by decide) ?_
        refine r_iadd 63 dX9_reading_62 rfl ?_
        refine r_putI (x := fe9_156) 11 66 fl9_156 (by decide) dX9_reading_63 rfl (Or.inl rfl) rfl rfl ?_
        refine r_aload_n 67 dX9_reading_66 rfl rfl ?_
        refine r_getI (x := fe9_156) 11 70 fl9_156 (by decide) dX9_reading_67 rfl rfl rfl ?_
        refine r_iconst 1 71 dX9_reading_70 rfl (by decide) ?_
        refine r_isub 72 dX9_reading_71 rfl ?_
        exact r_ireturn dX9_reading_72 rfl (Nat.le_refl 0) (Nat.le_refl 0) h
      · replace h := Out_pos hc h
        refine r_bipush (-4) 35 dX9_reading_33 rfl (by decide) ?_
        exact r_ireturn dX9_reading_35 rfl (Nat.le_refl 0) (Nat.le_refl 0) h
    · replace h := Out_neg hc h
      refine r_aload_n 15 dX9_reading_14 rfl rfl ?_
      refine r_iload_n 16 dX9_reading_15 rfl rfl ?_
      refine c_I [vq (some (9, 0)), vi a2] [] 19 cs9_reading_16 rfl h (fun _ h' => ct9_isSquare h') rfl rfl rfl rfl (by decide) (Nat.le_refl 0) (Nat.le_refl 0) (fun v23 s24 h => ?_)
      refine r_if_ne 24 22 dX9_reading_19 (by decide) rfl (fun hc => ?_) (fun hc => ?_)
      · replace h := Out_neg hc h
        refine r_aload_n 25 dX9_reading_24 rfl rfl ?_
        refine r_getI (x := fe9_156) 11 28 fl9_156 (by decide) dX9_reading_25 rfl rfl rfl ?_
        refine r_bipush 8 30 dX9_reading_28 rfl (by decide) ?_
        refine r_icmp_ne 36 33 dX9_reading_30 (by decide) rfl (fun hc => ?_) (fun hc => ?_)
        · replace h := Out_neg hc h
          refine r_aload_n 37 dX9_reading_36 rfl rfl ?_
          refine r_getF (x := fe9_25) 12 (29, 0) 40 fl9_25 (by decide) dX9_reading_37 rfl rfl rfl rfl ?_
          refine r_aload_n 41 dX9_reading_40 rfl rfl ?_
          refine r_getI (x := fe9_156) 11 44 fl9_156 (by decide) dX9_reading_41 rfl rfl rfl ?_
          refine r_iload_n 45 dX9_reading_44 rfl rfl ?_
          obtain ⟨hc, h⟩ := Out_grd h
          refine r_iastore (gI s24 9 0 11).toNatClampNeg 8 46 dX9_reading_45 rfl (by decide) (by decide) rfl rfl hc rfl ?_
          refine r_aload_n 47 dX9_reading_46 rfl rfl ?_
          refine r_getF (x := fe9_28) 13 (30, 0) 50 fl9_28 (by decide) dX9_reading_47 rfl rfl rfl rfl ?_
          refine r_aload_n 51 dX9_reading_50 rfl rfl ?_
          refine r_getI (x := fe9_156) 11 54 fl9_156 (by decide) dX9_reading_51 rfl rfl rfl ?_
          refine r_iload_n 55 dX9_reading_54 rfl rfl ?_
          obtain ⟨hc, h⟩ := Out_grd h
          refine r_iastore (gI (sI s24 29 0 (gI s24 9 0 11).toNatClampNeg a1) 9 0 11).toNatClampNeg 8 56 dX9_reading_55 rfl (by decide) (by decide) rfl rfl hc rfl ?_
          refine r_aload_n 57 dX9_reading_56 rfl rfl ?_
          refine r_dup 58 dX9_reading_57 rfl rfl ?_
          refine r_getI (x := fe9_156) 11 61 fl9_156 (by decide) dX9_reading_58 rfl rfl rfl ?_
          refine r_iconst 1 62 dX9_reading_61 rfl (by decide) ?_
          refine r_iadd 63 dX9_reading_62 rfl ?_
          refine r_putI (x := fe9_156) 11 66 fl9_156 (by decide) dX9_reading_63 rfl (Or.inl rfl) rfl rfl ?_
          refine r_aload_n 67 dX9_reading_66 rfl rfl ?_
          refine r_getI (x := fe9_156) 11 70 fl9_156 (by decide) dX9_reading_67 rfl rfl rfl ?_
          refine r_iconst 1 71 dX9_reading_70 rfl (by decide) ?_
          refine r_isub 72 dX9_reading_71 rfl ?_
          exact r_ireturn dX9_reading_72 rfl (Nat.le_refl 0) (Nat.le_refl 0) h
        · replace h := Out_pos hc h
          refine r_bipush (-4) 35 dX9_reading_33 rfl (by decide) ?_
          exact r_ireturn dX9_reading_35 rfl (Nat.le_refl 0) (Nat.le_refl 0) h
      · replace h := Out_pos hc h
        refine r_iconst (-1) 23 dX9_reading_22 rfl (by decide) ?_
        exact r_ireturn dX9_reading_23 rfl (Nat.le_refl 0) (Nat.le_refl 0) h

set_option maxRecDepth 20000 in
set_option maxHeartbeats 4000000 in
theorem tl9_row_116 {Γ : GG} {K : Int32 × Sto → Prop} {a4 : Int32} {a6 : Int32} : ∀ (n : Nat) (a7 : Int32) (σ : Sto), Out (l9_row_116 a4 a6 n a7 σ) K → M true Γ mX9_row 6 0 0 0 0 (QI K) 116 [some (vq (some (9, 0))), none, none, none, some (vi a4), none, some (vi a6), some (vi a7)] [] σ := by
  intro n
  induction n with
  | zero => intro a7 σ h; exact absurd h Out_none
  | succ n ih =>
    intro a7 σ h
    unfold l9_row_116 at h
    refine r_iload 118 dX9_row_116 rfl rfl ?_
    refine r_iload 120 dX9_row_118 rfl rfl ?_
    refine r_icmp_ge 166 123 dX9_row_120 (by decide) rfl (fun hc => ?_) (fun hc => ?_)
    · replace h := Out_pos hc h
      refine r_aload_n 167 dX9_row_166 rfl rfl ?_
      refine c_I [vq (some (9, 0))] [] 170 cs9_row_167 rfl h (fun _ h' => ct9_hadNow h') rfl rfl rfl rfl (by decide) (Nat.le_refl 0) (Nat.le_refl 0) (fun v30 s31 h => ?_)
      exact r_ireturn dX9_row_170 rfl (Nat.le_refl 0) (Nat.le_refl 0) h
    · replace h := Out_neg hc h
      refine r_aload_n 124 dX9_row_123 rfl rfl ?_
      refine r_aload_n 125 dX9_row_124 rfl rfl ?_
      refine r_getF (x := fe9_37) 18 (33, 0) 128 fl9_37 (by decide) dX9_row_125 rfl rfl rfl rfl ?_
      refine r_iload 130 dX9_row_128 rfl rfl ?_
      refine r_iload 132 dX9_row_130 rfl rfl ?_
      refine r_iadd 133 dX9_row_132 rfl ?_
      obtain ⟨hc, h⟩ := Out_grd h
      refine r_iaload (a6 + a7).toNatClampNeg 240 134 dX9_row_133 rfl (by decide) rfl rfl hc rfl ?_
      refine c_I [vq (some (9, 0)), vi (gI σ 33 0 (a6 + a7).toNatClampNeg)] [] 137 cs9_row_134 rfl h (fun _ h' => ct9_isPush h') rfl rfl rfl rfl (by decide) (Nat.le_refl 0) (Nat.le_refl 0) (fun v32 s33 h => ?_)
      refine r_if_ne 146 140 dX9_row_137 (by decide) rfl (fun hc => ?_) (fun hc => ?_)
      · replace h := Out_neg hc h
        refine r_aload_n 147 dX9_row_146 rfl rfl ?_
        refine r_aload_n 148 dX9_row_147 rfl rfl ?_
        refine r_getF (x := fe9_37) 18 (33, 0) 151 fl9_37 (by decide) dX9_row_148 rfl rfl rfl rfl ?_
        refine r_iload 153 dX9_row_151 rfl rfl ?_
        refine r_iload 155 dX9_row_153 rfl rfl ?_
        refine r_iadd 156 dX9_row_155 rfl ?_
        obtain ⟨hc, h⟩ := Out_grd h
        refine r_iaload (a6 + a7).toNatClampNeg 240 157 dX9_row_156 rfl (by decide) rfl rfl hc rfl ?_
        refine c_V [vq (some (9, 0)), vi (gI s33 33 0 (a6 + a7).toNatClampNeg)] [] 160 cs9_row_157 rfl h (fun _ h' => ct9_doPush h') rfl rfl rfl rfl (by decide) (Nat.le_refl 0) (Nat.le_refl 0) (fun s34 h => ?_)
        refine r_iinc 1 [some (vq (some (9, 0))), none, none, none, some (vi a4), none, some (vi a6), some (vi (a7 + 1))] 163 dX9_row_160 rfl (by decide) rfl rfl rfl ?_
        refine r_goto 116 dX9_row_163 (by decide) ?_
        exact ih (a7 + 1) s34 h
      · replace h := Out_pos hc h
        refine r_bipush (-100) 142 dX9_row_140 rfl (by decide) ?_
        refine r_iload 144 dX9_row_142 rfl rfl ?_
        refine r_isub 145 dX9_row_144 rfl ?_
        exact r_ireturn dX9_row_145 rfl (Nat.le_refl 0) (Nat.le_refl 0) h
set_option maxRecDepth 20000 in
set_option maxHeartbeats 4000000 in
theorem ct9_row {Γ : GG} {K : Int32 × Sto → Prop} {a1 : Int32} {a2 : Int32} {a3 : Int32} {a4 : Int32} {σ : Sto} (h : Out (f9_row a1 a2 a3 a4 σ) K) : Ct true Γ mX9_row 6 0 0 [vq (some (9, 0)), vi a1, vi a2, vi a3, vi a4] σ (QI K) := by
  refine Ct_intro (by decide +kernel) rfl ?_
  show M true Γ mX9_row 6 0 0 0 0 (QI K) 0 [some (vq (some (9, 0))), some (vi a1), some (vi a2), some (vi a3), some (vi a4), none, none, none] [] σ
  unfold f9_row at h
  refine r_iload_n 1 dX9_row_0 rfl rfl ?_
  refine c_I [vi a1] [] 4 cs9_row_1 rfl h (fun _ h' => ct9_isSheet h') rfl rfl rfl rfl (by decide) (Nat.le_refl 0) (Nat.le_refl 0) (fun v21 s22 h => ?_)
  refine r_if_ne 13 7 dX9_row_4 (by decide) rfl (fun hc => ?_) (fun hc => ?_)
  · replace h := Out_neg hc h
    refine r_iload_n 14 dX9_row_13 rfl rfl ?_
    refine c_I [vi a2] [] 17 cs9_row_14 rfl h (fun _ h' => ct9_isLane h') rfl rfl rfl rfl (by decide) (Nat.le_refl 0) (Nat.le_refl 0) (fun v23 s24 h => ?_)
    refine r_if_ne 27 20 dX9_row_17 (by decide) rfl (fun hc => ?_) (fun hc => ?_)
    · replace h := Out_neg hc h
      refine r_aload_n 28 dX9_row_27 rfl rfl ?_
      refine r_getI (x := fe9_68) 1 31 fl9_68 (by decide) dX9_row_28 rfl rfl rfl ?_
      refine r_if_ne 41 34 dX9_row_31 (by decide) rfl (fun hc => ?_) (fun hc => ?_)
      · replace h := Out_neg hc h
        refine r_aload_n 42 dX9_row_41 rfl rfl ?_
        refine r_iload_n 43 dX9_row_42 rfl rfl ?_
        refine r_iload_n 44 dX9_row_43 rfl rfl ?_
        refine r_iload_n 45 dX9_row_44 rfl rfl ?_
        refine r_iload 47 dX9_row_45 rfl rfl ?_
        refine c_I [vq (some (9, 0)), vi a1, vi a2, vi a3, vi a4] [] 50 cs9_row_47 rfl h (fun _ h' => ct9_faultOf h') rfl rfl rfl rfl (by decide) (Nat.le_refl 0) (Nat.le_refl 0) (fun v25 s26 h => ?_)
        refine r_istore [some (vq (some (9, 0))), some (vi a1), some (vi a2), some (vi a3), some (vi a4), some (vi v25), none, none] 52 dX9_row_50 rfl rfl rfl ?_
        refine r_iload 54 dX9_row_52 rfl rfl ?_
        refine r_if_eq 64 57 dX9_row_54 (by decide) rfl (fun hc => ?_) (fun hc => ?_)
        · replace h := Out_pos hc h
          refine r_iload 66 dX9_row_64 rfl rfl ?_
          refine r_bipush 20 68 dX9_row_66 rfl (by decide) ?_
          refine r_icmp_le 78 71 dX9_row_68 (by decide) rfl (fun hc => ?_) (fun hc => ?_)
          · replace h := Out_pos hc h
            refine r_bipush 60 80 dX9_row_78 rfl (by decide) ?_
            refine r_iload_n 81 dX9_row_80 rfl rfl ?_
            refine r_imul 82 dX9_row_81 rfl ?_
            refine r_iload_n 83 dX9_row_82 rfl rfl ?_
            refine r_iadd 84 dX9_row_83 rfl ?_
            refine r_istore [some (vq (some (9, 0))), some (vi a1), some (vi a2), some (vi a3), some (vi a4), some (vi v25), some (vi ((60 * a1) + a3)), none] 86 dX9_row_84 rfl rfl rfl ?_
            refine r_aload_n 87 dX9_row_86 rfl rfl ?_
            refine r_iload 89 dX9_row_87 rfl rfl ?_
            refine r_iload 91 dX9_row_89 rfl rfl ?_
            refine c_I [vq (some (9, 0)), vi ((60 * a1) + a3), vi a4] [] 94 cs9_row_91 rfl h (fun _ h' => ct9_areCodes h') rfl rfl rfl rfl (by decide) (Nat.le_refl 0) (Nat.le_refl 0) (fun v27 s28 h => ?_)
            refine r_if_ne 103 97 dX9_row_94 (by decide) rfl (fun hc => ?_) (fun hc => ?_)
            · replace h := Out_neg hc h
              refine r_aload_n 104 dX9_row_103 rfl rfl ?_
              refine r_iconst 0 105 dX9_row_104 rfl (by decide) ?_
              refine r_putI (x := fe9_64) 15 108 fl9_64 (by decide) dX9_row_105 rfl (Or.inl rfl) rfl rfl ?_
              refine r_aload_n 109 dX9_row_108 rfl rfl ?_
              refine r_iconst (-1) 110 dX9_row_109 rfl (by decide) ?_
              refine c_V [vq (some (9, 0)), vi (-1)] [] 113 cs9_row_110 rfl h (fun _ h' => ct9_goThrough h') rfl rfl rfl rfl (by decide) (Nat.le_refl 0) (Nat.le_refl 0) (fun s29 h => ?_)
              refine r_iconst 0 114 dX9_row_113 rfl (by decide) ?_
              refine r_istore [some (vq (some (9, 0))), some (vi a1), some (vi a2), some (vi a3), some (vi a4), some (vi v25), some (vi ((60 * a1) + a3)), some (vi 0)] 116 dX9_row_114 rfl rfl rfl ?_
              refine r_mask [true, false, false, false, true, false, true, true] [some (vq (some (9, 0))), none, none, none, some (vi a4), none, some (vi ((60 * a1) + a3)), some (vi 0)] rfl rfl ?_
              exact tl9_row_116 300 0 s29 h
            · replace h := Out_pos hc h
              refine r_aload_n 98 dX9_row_97 rfl rfl ?_
              refine r_iconst (-1) 99 dX9_row_98 rfl (by decide) ?_
              refine c_I [vq (some (9, 0)), vi (-1)] [] 102 cs9_row_99 rfl h (fun _ h' => ct9_refused h') rfl rfl rfl rfl (by decide) (Nat.le_refl 0) (Nat.le_refl 0) (fun v35 s36 h => ?_)
              exact r_ireturn dX9_row_102 rfl (Nat.le_refl 0) (Nat.le_refl 0) h
          · replace h := Out_neg hc h
            refine r_aload_n 72 dX9_row_71 rfl rfl ?_
            refine r_bipush (-2) 74 dX9_row_72 rfl (by decide) ?_
            refine c_I [vq (some (9, 0)), vi (-2)] [] 77 cs9_row_74 rfl h (fun _ h' => ct9_refused h') rfl rfl rfl rfl (by decide) (Nat.le_refl 0) (Nat.le_refl 0) (fun v37 s38 h => ?_)
            exact r_ireturn dX9_row_77 rfl (Nat.le_refl 0) (Nat.le_refl 0) h
        · replace h := Out_neg hc h
          refine r_aload_n 58 dX9_row_57 rfl rfl ?_
          refine r_iload 60 dX9_row_58 rfl rfl ?_
          refine c_I [vq (some (9, 0)), vi v25] [] 63 cs9_row_60 rfl h (fun _ h' => ct9_fails h') rfl rfl rfl rfl (by decide) (Nat.le_refl 0) (Nat.le_refl 0) (fun v39 s40 h => ?_)
          exact r_ireturn dX9_row_63 rfl (Nat.le_refl 0) (Nat.le_refl 0) h
      · replace h := Out_pos hc h
        refine r_aload_n 35 dX9_row_34 rfl rfl ?_
        refine r_bipush (-3) 37 dX9_row_35 rfl (by decide) ?_
        refine c_I [vq (some (9, 0)), vi (-3)] [] 40 cs9_row_37 rfl h (fun _ h' => ct9_refused h') rfl rfl rfl rfl (by decide) (Nat.le_refl 0) (Nat.le_refl 0) (fun v41 s42 h => ?_)
        exact r_ireturn dX9_row_40 rfl (Nat.le_refl 0) (Nat.le_refl 0) h
    · replace h := Out_pos hc h
      refine r_aload_n 21 dX9_row_20 rfl rfl ?_
      refine r_bipush (-2) 23 dX9_row_21 rfl (by decide) ?_
      refine c_I [vq (some (9, 0)), vi (-2)] [] 26 cs9_row_23 rfl h (fun _ h' => ct9_refused h') rfl rfl rfl rfl (by decide) (Nat.le_refl 0) (Nat.le_refl 0) (fun v43 s44 h => ?_)
      exact r_ireturn dX9_row_26 rfl (Nat.le_refl 0) (Nat.le_refl 0) h
  · replace h := Out_pos hc h
    refine r_aload_n 8 dX9_row_7 rfl rfl ?_
    refine r_iconst (-1) 9 dX9_row_8 rfl (by decide) ?_
    refine c_I [vq (some (9, 0)), vi (-1)] [] 12 cs9_row_9 rfl h (fun _ h' => ct9_refused h') rfl rfl rfl rfl (by decide) (Nat.le_refl 0) (Nat.le_refl 0) (fun v45 s46 h => ?_)
    exact r_ireturn dX9_row_12 rfl (Nat.le_refl 0) (Nat.le_refl 0) h

set_option maxRecDepth 20000 in
set_option maxHeartbeats 4000000 in
theorem tl9_startsAt_4 {Γ : GG} {K : Int32 × Sto → Prop} {a1 : Int32} : ∀ (n : Nat) (a2 : Int32) (a3 : Int32) (σ : Sto), Out (l9_startsAt_4 a1 n a2 a3 σ) K → M true Γ mX9_startsAt 0 0 0 0 0 (QI K) 4 [some (vq (some (9, 0))), some (vi a1), some (vi a2), some (vi a3)] [] σ := by
  intro n
  induction n with
  | zero => intro a2 a3 σ h; exact absurd h Out_none
  | succ n ih =>
    intro a2 a3 σ h
    unfold l9_startsAt_4 at h
    refine r_iload_n 5 dX9_startsAt_4 rfl rfl ?_
    refine r_aload_n 6 dX9_startsAt_5 rfl rfl ?_
    refine r_getI (x := fe9_75) 3 9 fl9_75 (by decide) dX9_startsAt_6 rfl rfl rfl ?_
    refine r_icmp_ge 38 12 dX9_startsAt_9 (by decide) rfl (fun hc => ?_) (fun hc => ?_)
    · replace h := Out_pos hc h
      refine r_iload_n 39 dX9_startsAt_38 rfl rfl ?_
      obtain ⟨hc, h⟩ := Out_grd h
      exact r_zreturn dX9_startsAt_39 rfl hc (Nat.le_refl 0) (Nat.le_refl 0) h
    · replace h := Out_neg hc h
      refine r_iload_n 13 dX9_startsAt_12 rfl rfl ?_
      refine r_if_ne 26 16 dX9_startsAt_13 (by decide) rfl (fun hc => ?_) (fun hc => ?_)
      · replace h := Out_neg hc h
        refine r_iconst 1 27 dX9_startsAt_26 rfl (by decide) ?_
        refine r_goto 31 dX9_startsAt_27 (by decide) ?_
        refine r_istore_n [some (vq (some (9, 0))), some (vi a1), some (vi 1), some (vi a3)] 32 dX9_startsAt_31 rfl rfl rfl ?_
        refine r_iinc 1 [some (vq (some (9, 0))), some (vi a1), some (vi 1), some (vi (a3 + 1))] 35 dX9_startsAt_32 rfl (by decide) rfl rfl rfl ?_
        refine r_goto 4 dX9_startsAt_35 (by decide) ?_
        exact ih 1 (a3 + 1) σ h
      · replace h := Out_pos hc h
        refine r_aload_n 17 dX9_startsAt_16 rfl rfl ?_
        refine r_getF (x := fe9_13) 4 (25, 0) 20 fl9_13 (by decide) dX9_startsAt_17 rfl rfl rfl rfl ?_
        refine r_iload_n 21 dX9_startsAt_20 rfl rfl ?_
        obtain ⟨hc, h⟩ := Out_grd h
        refine r_iaload a3.toNatClampNeg 5 22 dX9_startsAt_21 rfl (by decide) rfl rfl hc rfl ?_
        refine r_iload_n 23 dX9_startsAt_22 rfl rfl ?_
        refine r_icmp_ne 30 26 dX9_startsAt_23 (by decide) rfl (fun hc => ?_) (fun hc => ?_)
        · replace h := Out_neg hc h
          refine r_iconst 0 31 dX9_startsAt_30 rfl (by decide) ?_
          refine r_istore_n [some (vq (some (9, 0))), some (vi a1), some (vi 0), some (vi a3)] 32 dX9_startsAt_31 rfl rfl rfl ?_
          refine r_iinc 1 [some (vq (some (9, 0))), some (vi a1), some (vi 0), some (vi (a3 + 1))] 35 dX9_startsAt_32 rfl (by decide) rfl rfl rfl ?_
          refine r_goto 4 dX9_startsAt_35 (by decide) ?_
          exact ih 0 (a3 + 1) σ h
        · replace h := Out_pos hc h
          refine r_iconst 1 27 dX9_startsAt_26 rfl (by decide) ?_
          refine r_goto 31 dX9_startsAt_27 (by decide) ?_
          refine r_istore_n [some (vq (some (9, 0))), some (vi a1), some (vi 1), some (vi a3)] 32 dX9_startsAt_31 rfl rfl rfl ?_
          refine r_iinc 1 [some (vq (some (9, 0))), some (vi a1), some (vi 1), some (vi (a3 + 1))] 35 dX9_startsAt_32 rfl (by decide) rfl rfl rfl ?_
          refine r_goto 4 dX9_startsAt_35 (by decide) ?_
          exact ih 1 (a3 + 1) σ h
set_option maxRecDepth 20000 in
set_option maxHeartbeats 4000000 in
theorem ct9_startsAt {Γ : GG} {K : Int32 × Sto → Prop} {a1 : Int32} {σ : Sto} (h : Out (f9_startsAt a1 σ) K) : Ct true Γ mX9_startsAt 0 0 0 [vq (some (9, 0)), vi a1] σ (QI K) := by
  refine Ct_intro (by decide +kernel) rfl ?_
  show M true Γ mX9_startsAt 0 0 0 0 0 (QI K) 0 [some (vq (some (9, 0))), some (vi a1), none, none] [] σ
  unfold f9_startsAt at h
  refine r_iconst 0 1 dX9_startsAt_0 rfl (by decide) ?_
  refine r_istore_n [some (vq (some (9, 0))), some (vi a1), some (vi 0), none] 2 dX9_startsAt_1 rfl rfl rfl ?_
  refine r_iconst 0 3 dX9_startsAt_2 rfl (by decide) ?_
  refine r_istore_n [some (vq (some (9, 0))), some (vi a1), some (vi 0), some (vi 0)] 4 dX9_startsAt_3 rfl rfl rfl ?_
  exact tl9_startsAt_4 300 0 0 σ h

set_option maxRecDepth 20000 in
set_option maxHeartbeats 4000000 in
theorem ct9_set {Γ : GG} {K : Int32 × Sto → Prop} {a1 : Int32} {a2 : Int32} {σ : Sto} (h : Out (f9_set a1 a2 σ) K) : Ct true Γ mX9_set 2 0 0 [vq (some (9, 0)), vi a1, vi a2] σ (QI K) := by
  refine Ct_intro (by decide +kernel) rfl ?_
  show M true Γ mX9_set 2 0 0 0 0 (QI K) 0 [some (vq (some (9, 0))), some (vi a1), some (vi a2), none] [] σ
  unfold f9_set at h
  refine r_aload_n 1 dX9_set_0 rfl rfl ?_
  refine r_iload_n 2 dX9_set_1 rfl rfl ?_
  refine c_I [vq (some (9, 0)), vi a1] [] 5 cs9_set_2 rfl h (fun _ h' => ct9_isSquare h') rfl rfl rfl rfl (by decide) (Nat.le_refl 0) (Nat.le_refl 0) (fun v21 s22 h => ?_)
  refine r_if_ne 10 8 dX9_set_5 (by decide) rfl (fun hc => ?_) (fun hc => ?_)
  · replace h := Out_neg hc h
    refine r_iload_n 11 dX9_set_10 rfl rfl ?_
    refine r_i2l 12 dX9_set_11 rfl ?_
    refine r_lconst 0 13 dX9_set_12 rfl (by decide) ?_
    refine r_ldc2 (2) 16 dX9_set_13 rfl w_3ed1b261 ?_
    refine c_I [vl a2.toInt64, vl 0, vl (2)] [] 19 cs9_set_16 rfl h (fun _ h' => ct9_in h') rfl rfl rfl rfl (by decide) (Nat.le_refl 0) (Nat.le_refl 0) (fun v23 s24 h => ?_)
    refine r_if_ne 25 22 dX9_set_19 (by decide) rfl (fun hc => ?_) (fun hc => ?_)
    · replace h := Out_neg hc h
      refine r_iload_n 26 dX9_set_25 rfl rfl ?_
      refine r_iconst 2 27 dX9_set_26 rfl (by decide) ?_
      refine r_icmp_ne 41 30 dX9_set_27 (by decide) rfl (fun hc => ?_) (fun hc => ?_)
      · replace h := Out_neg hc h
        refine r_aload_n 42 dX9_set_41 rfl rfl ?_
        refine r_getF (x := fe9_7) 2 (24, 0) 45 fl9_7 (by decide) dX9_set_42 rfl rfl rfl rfl ?_
        refine r_iload_n 46 dX9_set_45 rfl rfl ?_
        obtain ⟨hc, h⟩ := Out_grd h
        refine r_iaload a1.toNatClampNeg 30 47 dX9_set_46 rfl (by decide) rfl rfl hc rfl ?_
        refine r_istore_n [some (vq (some (9, 0))), some (vi a1), some (vi a2), some (vi (gI s24 24 0 a1.toNatClampNeg))] 48 dX9_set_47 rfl rfl rfl ?_
        refine r_aload_n 49 dX9_set_48 rfl rfl ?_
        refine r_getF (x := fe9_7) 2 (24, 0) 52 fl9_7 (by decide) dX9_set_49 rfl rfl rfl rfl ?_
        refine r_iload_n 53 dX9_set_52 rfl rfl ?_
        refine r_iload_n 54 dX9_set_53 rfl rfl ?_
        obtain ⟨hc, h⟩ := Out_grd h
        refine r_iastore a1.toNatClampNeg 30 55 dX9_set_54 rfl (by decide) (by decide) rfl rfl hc rfl ?_
        refine r_iload_n 56 dX9_set_55 rfl rfl ?_
        exact r_ireturn dX9_set_56 rfl (Nat.le_refl 0) (Nat.le_refl 0) h
      · replace h := Out_pos hc h
        refine r_aload_n 31 dX9_set_30 rfl rfl ?_
        refine r_iload_n 32 dX9_set_31 rfl rfl ?_
        refine c_I [vq (some (9, 0)), vi a1] [] 35 cs9_set_32 rfl h (fun _ h' => ct9_startsAt h') rfl rfl rfl rfl (by decide) (Nat.le_refl 0) (Nat.le_refl 0) (fun v25 s26 h => ?_)
        refine r_if_eq 41 38 dX9_set_35 (by decide) rfl (fun hc => ?_) (fun hc => ?_)
        · replace h := Out_pos hc h
          refine r_aload_n 42 dX9_set_41 rfl rfl ?_
          refine r_getF (x := fe9_7) 2 (24, 0) 45 fl9_7 (by decide) dX9_set_42 rfl rfl rfl rfl ?_
          refine r_iload_n 46 dX9_set_45 rfl rfl ?_
          obtain ⟨hc, h⟩ := Out_grd h
          refine r_iaload a1.toNatClampNeg 30 47 dX9_set_46 rfl (by decide) rfl rfl hc rfl ?_
          refine r_istore_n [some (vq (some (9, 0))), some (vi a1), some (vi a2), some (vi (gI s26 24 0 a1.toNatClampNeg))] 48 dX9_set_47 rfl rfl rfl ?_
          refine r_aload_n 49 dX9_set_48 rfl rfl ?_
          refine r_getF (x := fe9_7) 2 (24, 0) 52 fl9_7 (by decide) dX9_set_49 rfl rfl rfl rfl ?_
          refine r_iload_n 53 dX9_set_52 rfl rfl ?_
          refine r_iload_n 54 dX9_set_53 rfl rfl ?_
          obtain ⟨hc, h⟩ := Out_grd h
          refine r_iastore a1.toNatClampNeg 30 55 dX9_set_54 rfl (by decide) (by decide) rfl rfl hc rfl ?_
          refine r_iload_n 56 dX9_set_55 rfl rfl ?_
          exact r_ireturn dX9_set_56 rfl (Nat.le_refl 0) (Nat.le_refl 0) h
        · replace h := Out_neg hc h
          refine r_bipush (-3) 40 dX9_set_38 rfl (by decide) ?_
          exact r_ireturn dX9_set_40 rfl (Nat.le_refl 0) (Nat.le_refl 0) h
    · replace h := Out_pos hc h
      refine r_bipush (-2) 24 dX9_set_22 rfl (by decide) ?_
      exact r_ireturn dX9_set_24 rfl (Nat.le_refl 0) (Nat.le_refl 0) h
  · replace h := Out_pos hc h
    refine r_iconst (-1) 9 dX9_set_8 rfl (by decide) ?_
    exact r_ireturn dX9_set_9 rfl (Nat.le_refl 0) (Nat.le_refl 0) h

set_option maxRecDepth 20000 in
set_option maxHeartbeats 4000000 in
theorem tl9_sheet_65 {Γ : GG} {K : Int32 × Sto → Prop} {a1 : Int32} : ∀ (n : Nat) (a4 : Int32) (σ : Sto), Out (l9_sheet_65 a1 n a4 σ) K → M true Γ mX9_sheet 2 0 0 0 0 (QI K) 65 [some (vq (some (9, 0))), some (vi a1), none, none, some (vi a4)] [] σ := by
  intro n
  induction n with
  | zero => intro a4 σ h; exact absurd h Out_none
  | succ n ih =>
    intro a4 σ h
    unfold l9_sheet_65 at h
    refine r_iload 67 dX9_sheet_65 rfl rfl ?_
    refine r_bipush 60 69 dX9_sheet_67 rfl (by decide) ?_
    refine r_icmp_ge 91 72 dX9_sheet_69 (by decide) rfl (fun hc => ?_) (fun hc => ?_)
    · replace h := Out_pos hc h
      refine r_iconst 1 92 dX9_sheet_91 rfl (by decide) ?_
      exact r_ireturn dX9_sheet_92 rfl (Nat.le_refl 0) (Nat.le_refl 0) h
    · replace h := Out_neg hc h
      refine r_aload_n 73 dX9_sheet_72 rfl rfl ?_
      refine r_getF (x := fe9_37) 18 (33, 0) 76 fl9_37 (by decide) dX9_sheet_73 rfl rfl rfl rfl ?_
      refine r_bipush 60 78 dX9_sheet_76 rfl (by decide) ?_
      refine r_iload_n 79 dX9_sheet_78 rfl rfl ?_
      refine r_imul 80 dX9_sheet_79 rfl ?_
      refine r_iload 82 dX9_sheet_80 rfl rfl ?_
      refine r_iadd 83 dX9_sheet_82 rfl ?_
      refine r_iconst 0 84 dX9_sheet_83 rfl (by decide) ?_
      obtain ⟨hc, h⟩ := Out_grd h
      refine r_iastore ((60 * a1) + a4).toNatClampNeg 240 85 dX9_sheet_84 rfl (by decide) (by decide) rfl rfl hc rfl ?_
      refine r_iinc 1 [some (vq (some (9, 0))), some (vi a1), none, none, some (vi (a4 + 1))] 88 dX9_sheet_85 rfl (by decide) rfl rfl rfl ?_
      refine r_goto 65 dX9_sheet_88 (by decide) ?_
      exact ih (a4 + 1) (sI σ 33 0 ((60 * a1) + a4).toNatClampNeg 0) h
set_option maxRecDepth 20000 in
set_option maxHeartbeats 4000000 in
theorem ct9_sheet {Γ : GG} {K : Int32 × Sto → Prop} {a1 : Int32} {a2 : Int32} {a3 : Int32} {σ : Sto} (h : Out (f9_sheet a1 a2 a3 σ) K) : Ct true Γ mX9_sheet 2 0 0 [vq (some (9, 0)), vi a1, vi a2, vi a3] σ (QI K) := by
  refine Ct_intro (by decide +kernel) rfl ?_
  show M true Γ mX9_sheet 2 0 0 0 0 (QI K) 0 [some (vq (some (9, 0))), some (vi a1), some (vi a2), some (vi a3), none] [] σ
  unfold f9_sheet at h
  refine r_iload_n 1 dX9_sheet_0 rfl rfl ?_
  refine c_I [vi a1] [] 4 cs9_sheet_1 rfl h (fun _ h' => ct9_isSheet h') rfl rfl rfl rfl (by decide) (Nat.le_refl 0) (Nat.le_refl 0) (fun v21 s22 h => ?_)
  refine r_if_ne 13 7 dX9_sheet_4 (by decide) rfl (fun hc => ?_) (fun hc => ?_)
  · replace h := Out_neg hc h
    refine r_iload_n 14 dX9_sheet_13 rfl rfl ?_
    refine c_I [vi a2] [] 17 cs9_sheet_14 rfl h (fun _ h' => ct9_isLane h') rfl rfl rfl rfl (by decide) (Nat.le_refl 0) (Nat.le_refl 0) (fun v23 s24 h => ?_)
    refine r_if_eq 26 20 dX9_sheet_17 (by decide) rfl (fun hc => ?_) (fun hc => ?_)
    · replace h := Out_pos hc h
      refine r_aload_n 27 dX9_sheet_26 rfl rfl ?_
      refine r_bipush (-2) 29 dX9_sheet_27 rfl (by decide) ?_
      refine c_I [vq (some (9, 0)), vi (-2)] [] 32 cs9_sheet_29 rfl h (fun _ h' => ct9_refused h') rfl rfl rfl rfl (by decide) (Nat.le_refl 0) (Nat.le_refl 0) (fun v25 s26 h => ?_)
      exact r_ireturn dX9_sheet_32 rfl (Nat.le_refl 0) (Nat.le_refl 0) h
    · replace h := Out_neg hc h
      refine r_iload_n 21 dX9_sheet_20 rfl rfl ?_
      refine r_bipush 60 23 dX9_sheet_21 rfl (by decide) ?_
      refine r_icmp_le 33 26 dX9_sheet_23 (by decide) rfl (fun hc => ?_) (fun hc => ?_)
      · replace h := Out_pos hc h
        refine r_iload_n 34 dX9_sheet_33 rfl rfl ?_
        refine r_if_ge 43 37 dX9_sheet_34 (by decide) rfl (fun hc => ?_) (fun hc => ?_)
        · replace h := Out_pos hc h
          refine r_aload_n 44 dX9_sheet_43 rfl rfl ?_
          refine r_iconst 0 45 dX9_sheet_44 rfl (by decide) ?_
          refine r_putI (x := fe9_64) 15 48 fl9_64 (by decide) dX9_sheet_45 rfl (Or.inl rfl) rfl rfl ?_
          refine r_aload_n 49 dX9_sheet_48 rfl rfl ?_
          refine r_getF (x := fe9_31) 16 (31, 0) 52 fl9_31 (by decide) dX9_sheet_49 rfl rfl rfl rfl ?_
          refine r_iload_n 53 dX9_sheet_52 rfl rfl ?_
          refine r_iload_n 54 dX9_sheet_53 rfl rfl ?_
          obtain ⟨hc, h⟩ := Out_grd h
          refine r_iastore a1.toNatClampNeg 4 55 dX9_sheet_54 rfl (by decide) (by decide) rfl rfl hc rfl ?_
          refine r_aload_n 56 dX9_sheet_55 rfl rfl ?_
          refine r_getF (x := fe9_34) 17 (32, 0) 59 fl9_34 (by decide) dX9_sheet_56 rfl rfl rfl rfl ?_
          refine r_iload_n 60 dX9_sheet_59 rfl rfl ?_
          refine r_iload_n 61 dX9_sheet_60 rfl rfl ?_
          obtain ⟨hc, h⟩ := Out_grd h
          refine r_iastore a1.toNatClampNeg 4 62 dX9_sheet_61 rfl (by decide) (by decide) rfl rfl hc rfl ?_
          refine r_iconst 0 63 dX9_sheet_62 rfl (by decide) ?_
          refine r_istore [some (vq (some (9, 0))), some (vi a1), some (vi a2), some (vi a3), some (vi 0)] 65 dX9_sheet_63 rfl rfl rfl ?_
          refine r_mask [true, true, false, false, true] [some (vq (some (9, 0))), some (vi a1), none, none, some (vi 0)] rfl rfl ?_
          exact tl9_sheet_65 300 0 (sI (sI (sI s24 9 0 15 0) 31 0 a1.toNatClampNeg a2) 32 0 a1.toNatClampNeg a3) h
        · replace h := Out_neg hc h
          refine r_aload_n 38 dX9_sheet_37 rfl rfl ?_
          refine r_iconst 4 39 dX9_sheet_38 rfl (by decide) ?_
          refine c_I [vq (some (9, 0)), vi 4] [] 42 cs9_sheet_39 rfl h (fun _ h' => ct9_fails h') rfl rfl rfl rfl (by decide) (Nat.le_refl 0) (Nat.le_refl 0) (fun v27 s28 h => ?_)
          exact r_ireturn dX9_sheet_42 rfl (Nat.le_refl 0) (Nat.le_refl 0) h
      · replace h := Out_neg hc h
        refine r_aload_n 27 dX9_sheet_26 rfl rfl ?_
        refine r_bipush (-2) 29 dX9_sheet_27 rfl (by decide) ?_
        refine c_I [vq (some (9, 0)), vi (-2)] [] 32 cs9_sheet_29 rfl h (fun _ h' => ct9_refused h') rfl rfl rfl rfl (by decide) (Nat.le_refl 0) (Nat.le_refl 0) (fun v29 s30 h => ?_)
        exact r_ireturn dX9_sheet_32 rfl (Nat.le_refl 0) (Nat.le_refl 0) h
  · replace h := Out_pos hc h
    refine r_aload_n 8 dX9_sheet_7 rfl rfl ?_
    refine r_iconst (-1) 9 dX9_sheet_8 rfl (by decide) ?_
    refine c_I [vq (some (9, 0)), vi (-1)] [] 12 cs9_sheet_9 rfl h (fun _ h' => ct9_refused h') rfl rfl rfl rfl (by decide) (Nat.le_refl 0) (Nat.le_refl 0) (fun v31 s32 h => ?_)
    exact r_ireturn dX9_sheet_12 rfl (Nat.le_refl 0) (Nat.le_refl 0) h

set_option maxRecDepth 20000 in
set_option maxHeartbeats 4000000 in
theorem ct9_sign {Γ : GG} {K : Int32 × Sto → Prop} {a1 : Int32} {σ : Sto} (h : Out (f9_sign a1 σ) K) : Ct true Γ mX9_sign 2 0 0 [vq (some (9, 0)), vi a1] σ (QI K) := by
  refine Ct_intro (by decide +kernel) rfl ?_
  show M true Γ mX9_sign 2 0 0 0 0 (QI K) 0 [some (vq (some (9, 0))), some (vi a1)] [] σ
  unfold f9_sign at h
  refine r_aload_n 1 dX9_sign_0 rfl rfl ?_
  refine r_iload_n 2 dX9_sign_1 rfl rfl ?_
  refine c_I [vq (some (9, 0)), vi a1] [] 5 cs9_sign_2 rfl h (fun _ h' => ct9_isSquare h') rfl rfl rfl rfl (by decide) (Nat.le_refl 0) (Nat.le_refl 0) (fun v21 s22 h => ?_)
  refine r_if_eq 17 8 dX9_sign_5 (by decide) rfl (fun hc => ?_) (fun hc => ?_)
  · replace h := Out_pos hc h
    refine r_iconst (-1) 18 dX9_sign_17 rfl (by decide) ?_
    exact r_ireturn dX9_sign_18 rfl (Nat.le_refl 0) (Nat.le_refl 0) h
  · replace h := Out_neg hc h
    refine r_aload_n 9 dX9_sign_8 rfl rfl ?_
    refine r_getF (x := fe9_7) 2 (24, 0) 12 fl9_7 (by decide) dX9_sign_9 rfl rfl rfl rfl ?_
    refine r_iload_n 13 dX9_sign_12 rfl rfl ?_
    obtain ⟨hc, h⟩ := Out_grd h
    refine r_iaload a1.toNatClampNeg 30 14 dX9_sign_13 rfl (by decide) rfl rfl hc rfl ?_
    refine r_goto 18 dX9_sign_14 (by decide) ?_
    exact r_ireturn dX9_sign_18 rfl (Nat.le_refl 0) (Nat.le_refl 0) h

set_option maxRecDepth 20000 in
set_option maxHeartbeats 4000000 in
theorem ct9_spoonTells {Γ : GG} {K : Int32 × Sto → Prop} {a1 : Int32} {σ : Sto} (h : Out (f9_spoonTells a1 σ) K) : Ct true Γ mX9_spoonTells 3 0 0 [vq (some (9, 0)), vi a1] σ (QI K) := by
  refine Ct_intro (by decide +kernel) rfl ?_
  show M true Γ mX9_spoonTells 3 0 0 0 0 (QI K) 0 [some (vq (some (9, 0))), some (vi a1), none, none] [] σ
  unfold f9_spoonTells at h
  refine r_aload_n 1 dX9_spoonTells_0 rfl rfl ?_
  refine r_iconst 3 2 dX9_spoonTells_1 rfl (by decide) ?_
  refine c_V [vq (some (9, 0)), vi 3] [] 5 cs9_spoonTells_2 rfl h (fun _ h' => ct9_begin h') rfl rfl rfl rfl (by decide) (Nat.le_refl 0) (Nat.le_refl 0) (fun s21 h => ?_)
  refine r_aload_n 6 dX9_spoonTells_5 rfl rfl ?_
  refine r_iload_n 7 dX9_spoonTells_6 rfl rfl ?_
  refine c_I [vq (some (9, 0)), vi a1] [] 10 cs9_spoonTells_7 rfl h (fun _ h' => ct9_knifeTells h') rfl rfl rfl rfl (by decide) (Nat.le_refl 0) (Nat.le_refl 0) (fun v22 s23 h => ?_)
  refine r_istore_n [some (vq (some (9, 0))), some (vi a1), some (vi v22), none] 11 dX9_spoonTells_10 rfl rfl rfl ?_
  refine r_aload_n 12 dX9_spoonTells_11 rfl rfl ?_
  refine r_iload_n 13 dX9_spoonTells_12 rfl rfl ?_
  refine c_I [vq (some (9, 0)), vi a1] [] 16 cs9_spoonTells_13 rfl h (fun _ h' => ct9_forkTells h') rfl rfl rfl rfl (by decide) (Nat.le_refl 0) (Nat.le_refl 0) (fun v24 s25 h => ?_)
  refine r_istore_n [some (vq (some (9, 0))), some (vi a1), some (vi v22), some (vi v24)] 17 dX9_spoonTells_16 rfl rfl rfl ?_
  refine r_iload_n 18 dX9_spoonTells_17 rfl rfl ?_
  refine r_iload_n 19 dX9_spoonTells_18 rfl rfl ?_
  refine r_iadd 20 dX9_spoonTells_19 rfl ?_
  exact r_ireturn dX9_spoonTells_20 rfl (Nat.le_refl 0) (Nat.le_refl 0) h

set_option maxRecDepth 20000 in
set_option maxHeartbeats 4000000 in
theorem ct9_tell {Γ : GG} {K : Int32 × Sto → Prop} {a1 : Int32} {σ : Sto} (h : Out (f9_tell a1 σ) K) : Ct true Γ mX9_tell 4 0 0 [vq (some (9, 0)), vi a1] σ (QI K) := by
  refine Ct_intro (by decide +kernel) rfl ?_
  show M true Γ mX9_tell 4 0 0 0 0 (QI K) 0 [some (vq (some (9, 0))), some (vi a1)] [] σ
  unfold f9_tell at h
  refine r_aload_n 1 dX9_tell_0 rfl rfl ?_
  refine r_iload_n 2 dX9_tell_1 rfl rfl ?_
  refine c_I [vq (some (9, 0)), vi a1] [] 5 cs9_tell_2 rfl h (fun _ h' => ct9_isEater h') rfl rfl rfl rfl (by decide) (Nat.le_refl 0) (Nat.le_refl 0) (fun v21 s22 h => ?_)
  refine r_if_ne 10 8 dX9_tell_5 (by decide) rfl (fun hc => ?_) (fun hc => ?_)
  · replace h := Out_neg hc h
    refine r_aload_n 11 dX9_tell_10 rfl rfl ?_
    refine r_getF (x := fe9_16) 6 (26, 0) 14 fl9_16 (by decide) dX9_tell_11 rfl rfl rfl rfl ?_
    refine r_iload_n 15 dX9_tell_14 rfl rfl ?_
    obtain ⟨hc, h⟩ := Out_grd h
    refine r_iaload a1.toNatClampNeg 2 16 dX9_tell_15 rfl (by decide) rfl rfl hc rfl ?_
    refine r_if_ne 27 19 dX9_tell_16 (by decide) rfl (fun hc => ?_) (fun hc => ?_)
    · replace h := Out_neg hc h
      refine r_aload_n 28 dX9_tell_27 rfl rfl ?_
      refine r_getF (x := fe9_16) 6 (26, 0) 31 fl9_16 (by decide) dX9_tell_28 rfl rfl rfl rfl ?_
      refine r_iload_n 32 dX9_tell_31 rfl rfl ?_
      obtain ⟨hc, h⟩ := Out_grd h
      refine r_iaload a1.toNatClampNeg 2 33 dX9_tell_32 rfl (by decide) rfl rfl hc rfl ?_
      refine r_iconst 1 34 dX9_tell_33 rfl (by decide) ?_
      refine r_icmp_ne 45 37 dX9_tell_34 (by decide) rfl (fun hc => ?_) (fun hc => ?_)
      · replace h := Out_neg hc h
        refine r_aload_n 46 dX9_tell_45 rfl rfl ?_
        refine r_iload_n 47 dX9_tell_46 rfl rfl ?_
        refine c_I [vq (some (9, 0)), vi a1] [] 50 cs9_tell_47 rfl h (fun _ h' => ct9_spoonTells h') rfl rfl rfl rfl (by decide) (Nat.le_refl 0) (Nat.le_refl 0) (fun v23 s24 h => ?_)
        exact r_ireturn dX9_tell_50 rfl (Nat.le_refl 0) (Nat.le_refl 0) h
      · replace h := Out_pos hc h
        refine r_aload_n 38 dX9_tell_37 rfl rfl ?_
        refine r_iload_n 39 dX9_tell_38 rfl rfl ?_
        refine c_I [vq (some (9, 0)), vi a1] [] 42 cs9_tell_39 rfl h (fun _ h' => ct9_knifeTells h') rfl rfl rfl rfl (by decide) (Nat.le_refl 0) (Nat.le_refl 0) (fun v25 s26 h => ?_)
        refine r_goto 50 dX9_tell_42 (by decide) ?_
        exact r_ireturn dX9_tell_50 rfl (Nat.le_refl 0) (Nat.le_refl 0) h
    · replace h := Out_pos hc h
      refine r_aload_n 20 dX9_tell_19 rfl rfl ?_
      refine r_iload_n 21 dX9_tell_20 rfl rfl ?_
      refine c_I [vq (some (9, 0)), vi a1] [] 24 cs9_tell_21 rfl h (fun _ h' => ct9_forkTells h') rfl rfl rfl rfl (by decide) (Nat.le_refl 0) (Nat.le_refl 0) (fun v27 s28 h => ?_)
      refine r_goto 50 dX9_tell_24 (by decide) ?_
      exact r_ireturn dX9_tell_50 rfl (Nat.le_refl 0) (Nat.le_refl 0) h
  · replace h := Out_pos hc h
    refine r_iconst (-1) 9 dX9_tell_8 rfl (by decide) ?_
    exact r_ireturn dX9_tell_9 rfl (Nat.le_refl 0) (Nat.le_refl 0) h

set_option maxRecDepth 20000 in
set_option maxHeartbeats 4000000 in
theorem ct9_trace {Γ : GG} {K : Int32 × Sto → Prop}  {σ : Sto} (h : Out (f9_trace  σ) K) : Ct true Γ mX9_trace 0 0 0 [vq (some (9, 0))] σ (QI K) := by
  refine Ct_intro (by decide +kernel) rfl ?_
  show M true Γ mX9_trace 0 0 0 0 0 (QI K) 0 [some (vq (some (9, 0)))] [] σ
  unfold f9_trace at h
  refine r_aload_n 1 dX9_trace_0 rfl rfl ?_
  refine r_getI (x := fe9_249) 14 4 fl9_249 (by decide) dX9_trace_1 rfl rfl rfl ?_
  exact r_ireturn dX9_trace_4 rfl (Nat.le_refl 0) (Nat.le_refl 0) h

set_option maxRecDepth 20000 in
set_option maxHeartbeats 4000000 in
theorem ct9_undo {Γ : GG} {K : Int32 × Sto → Prop} {a1 : Int32} {σ : Sto} (h : Out (f9_undo a1 σ) K) : Ct true Γ mX9_undo 1 0 0 [vq (some (9, 0)), vi a1] σ (QI K) := by
  refine Ct_intro (by decide +kernel) rfl ?_
  show M true Γ mX9_undo 1 0 0 0 0 (QI K) 0 [some (vq (some (9, 0))), some (vi a1)] [] σ
  unfold f9_undo at h
  refine r_iload_n 1 dX9_undo_0 rfl rfl ?_
  refine r_i2l 2 dX9_undo_1 rfl ?_
  refine r_lconst 0 3 dX9_undo_2 rfl (by decide) ?_
  refine r_aload_n 4 dX9_undo_3 rfl rfl ?_
  refine r_getI (x := fe9_153) 9 7 fl9_153 (by decide) dX9_undo_4 rfl rfl rfl ?_
  refine r_i2l 8 dX9_undo_7 rfl ?_
  refine c_I [vl a1.toInt64, vl 0, vl ((gI σ 9 0 9).toInt64)] [] 11 cs9_undo_8 rfl h (fun _ h' => ct9_in h') rfl rfl rfl rfl (by decide) (Nat.le_refl 0) (Nat.le_refl 0) (fun v21 s22 h => ?_)
  refine r_if_ne 17 14 dX9_undo_11 (by decide) rfl (fun hc => ?_) (fun hc => ?_)
  · replace h := Out_neg hc h
    refine r_aload_n 18 dX9_undo_17 rfl rfl ?_
    refine r_dup 19 dX9_undo_18 rfl rfl ?_
    refine r_getI (x := fe9_153) 9 22 fl9_153 (by decide) dX9_undo_19 rfl rfl rfl ?_
    refine r_iload_n 23 dX9_undo_22 rfl rfl ?_
    refine r_isub 24 dX9_undo_23 rfl ?_
    refine r_putI (x := fe9_153) 9 27 fl9_153 (by decide) dX9_undo_24 rfl (Or.inl rfl) rfl rfl ?_
    refine r_aload_n 28 dX9_undo_27 rfl rfl ?_
    refine r_getI (x := fe9_153) 9 31 fl9_153 (by decide) dX9_undo_28 rfl rfl rfl ?_
    exact r_ireturn dX9_undo_31 rfl (Nat.le_refl 0) (Nat.le_refl 0) h
  · replace h := Out_pos hc h
    refine r_bipush (-2) 16 dX9_undo_14 rfl (by decide) ?_
    exact r_ireturn dX9_undo_16 rfl (Nat.le_refl 0) (Nat.le_refl 0) h

set_option maxRecDepth 20000 in
set_option maxHeartbeats 4000000 in
theorem tl9_wall_65 {Γ : GG} {K : Int32 × Sto → Prop} {a2 : Int32} {a3 : Int32} : ∀ (n : Nat) (a4 : Int32) (σ : Sto), Out (l9_wall_65 a2 a3 n a4 σ) K → M true Γ mX9_wall 6 0 0 0 0 (QI K) 65 [some (vq (some (9, 0))), none, some (vi a2), some (vi a3), some (vi a4), none] [] σ := by
  intro n
  induction n with
  | zero => intro a4 σ h; exact absurd h Out_none
  | succ n ih =>
    intro a4 σ h
    unfold l9_wall_65 at h
    refine r_iload 67 dX9_wall_65 rfl rfl ?_
    refine r_aload_n 68 dX9_wall_67 rfl rfl ?_
    refine r_getI (x := fe9_68) 1 71 fl9_68 (by decide) dX9_wall_68 rfl rfl rfl ?_
    refine r_icmp_ge 131 74 dX9_wall_71 (by decide) rfl (fun hc => ?_) (fun hc => ?_)
    · replace h := Out_pos hc h
      refine r_bipush (-9) 133 dX9_wall_131 rfl (by decide) ?_
      exact r_ireturn dX9_wall_133 rfl (Nat.le_refl 0) (Nat.le_refl 0) h
    · replace h := Out_neg hc h
      refine r_aload_n 75 dX9_wall_74 rfl rfl ?_
      refine r_getF (x := fe9_7) 2 (24, 0) 78 fl9_7 (by decide) dX9_wall_75 rfl rfl rfl rfl ?_
      refine r_iload 80 dX9_wall_78 rfl rfl ?_
      obtain ⟨hc, h⟩ := Out_grd h
      refine r_iaload a4.toNatClampNeg 30 81 dX9_wall_80 rfl (by decide) rfl rfl hc rfl ?_
      refine r_if_ne 125 84 dX9_wall_81 (by decide) rfl (fun hc => ?_) (fun hc => ?_)
      · replace h := Out_neg hc h
        refine r_iinc 1 [some (vq (some (9, 0))), none, some (vi a2), some (vi a3), some (vi (a4 + 1)), none] 128 dX9_wall_125 rfl (by decide) rfl rfl rfl ?_
        refine r_goto 65 dX9_wall_128 (by decide) ?_
        exact ih (a4 + 1) σ h
      · replace h := Out_pos hc h
        refine r_aload_n 85 dX9_wall_84 rfl rfl ?_
        refine r_iload 87 dX9_wall_85 rfl rfl ?_
        refine c_I [vq (some (9, 0)), vi a4] [] 90 cs9_wall_87 rfl h (fun _ h' => ct9_peaAt h') rfl rfl rfl rfl (by decide) (Nat.le_refl 0) (Nat.le_refl 0) (fun v30 s31 h => ?_)
        refine r_if_ge 125 93 dX9_wall_90 (by decide) rfl (fun hc => ?_) (fun hc => ?_)
        · replace h := Out_pos hc h
          refine r_iinc 1 [some (vq (some (9, 0))), none, some (vi a2), some (vi a3), some (vi (a4 + 1)), none] 128 dX9_wall_125 rfl (by decide) rfl rfl rfl ?_
          refine r_goto 65 dX9_wall_128 (by decide) ?_
          exact ih (a4 + 1) s31 h
        · replace h := Out_neg hc h
          refine r_aload_n 94 dX9_wall_93 rfl rfl ?_
          refine r_getF (x := fe9_7) 2 (24, 0) 97 fl9_7 (by decide) dX9_wall_94 rfl rfl rfl rfl ?_
          refine r_iload 99 dX9_wall_97 rfl rfl ?_
          refine r_iconst 2 100 dX9_wall_99 rfl (by decide) ?_
          obtain ⟨hc, h⟩ := Out_grd h
          refine r_iastore a4.toNatClampNeg 30 101 dX9_wall_100 rfl (by decide) (by decide) rfl rfl hc rfl ?_
          refine r_aload_n 102 dX9_wall_101 rfl rfl ?_
          refine r_iload_n 103 dX9_wall_102 rfl rfl ?_
          refine r_iload_n 104 dX9_wall_103 rfl rfl ?_
          refine c_I [vq (some (9, 0)), vi a2, vi a3] [] 107 cs9_wall_104 rfl h (fun _ h' => ct9_isHeld h') rfl rfl rfl rfl (by decide) (Nat.le_refl 0) (Nat.le_refl 0) (fun v32 s33 h => ?_)
          refine r_istore [some (vq (some (9, 0))), none, some (vi a2), some (vi a3), some (vi a4), some (vi v32)] 109 dX9_wall_107 rfl rfl rfl ?_
          refine r_aload_n 110 dX9_wall_109 rfl rfl ?_
          refine r_getF (x := fe9_7) 2 (24, 0) 113 fl9_7 (by decide) dX9_wall_110 rfl rfl rfl rfl ?_
          refine r_iload 115 dX9_wall_113 rfl rfl ?_
          refine r_iconst 0 116 dX9_wall_115 rfl (by decide) ?_
          obtain ⟨hc, h⟩ := Out_grd h
          refine r_iastore a4.toNatClampNeg 30 117 dX9_wall_116 rfl (by decide) (by decide) rfl rfl hc rfl ?_
          refine r_iload 119 dX9_wall_117 rfl rfl ?_
          refine r_if_eq 125 122 dX9_wall_119 (by decide) rfl (fun hc => ?_) (fun hc => ?_)
          · replace h := Out_pos hc h
            refine r_iinc 1 [some (vq (some (9, 0))), none, some (vi a2), some (vi a3), some (vi (a4 + 1)), some (vi v32)] 128 dX9_wall_125 rfl (by decide) rfl rfl rfl ?_
            refine r_goto 65 dX9_wall_128 (by decide) ?_
            refine r_mask [true, false, true, true, true, false] [some (vq (some (9, 0))), none, some (vi a2), some (vi a3), some (vi (a4 + 1)), none] rfl rfl ?_
            exact ih (a4 + 1) (sI s33 24 0 a4.toNatClampNeg 0) h
          · replace h := Out_neg hc h
            refine r_iload 124 dX9_wall_122 rfl rfl ?_
            exact r_ireturn dX9_wall_124 rfl (Nat.le_refl 0) (Nat.le_refl 0) h
set_option maxRecDepth 20000 in
set_option maxHeartbeats 4000000 in
theorem ct9_wall {Γ : GG} {K : Int32 × Sto → Prop} {a1 : Int32} {a2 : Int32} {a3 : Int32} {σ : Sto} (h : Out (f9_wall a1 a2 a3 σ) K) : Ct true Γ mX9_wall 6 0 0 [vq (some (9, 0)), vi a1, vi a2, vi a3] σ (QI K) := by
  refine Ct_intro (by decide +kernel) rfl ?_
  show M true Γ mX9_wall 6 0 0 0 0 (QI K) 0 [some (vq (some (9, 0))), some (vi a1), some (vi a2), some (vi a3), none, none] [] σ
  unfold f9_wall at h
  refine r_aload_n 1 dX9_wall_0 rfl rfl ?_
  refine r_iload_n 2 dX9_wall_1 rfl rfl ?_
  refine c_I [vq (some (9, 0)), vi a1] [] 5 cs9_wall_2 rfl h (fun _ h' => ct9_isEater h') rfl rfl rfl rfl (by decide) (Nat.le_refl 0) (Nat.le_refl 0) (fun v21 s22 h => ?_)
  refine r_if_eq 16 8 dX9_wall_5 (by decide) rfl (fun hc => ?_) (fun hc => ?_)
  · replace h := Out_pos hc h
    refine r_iconst (-1) 17 dX9_wall_16 rfl (by decide) ?_
    exact r_ireturn dX9_wall_17 rfl (Nat.le_refl 0) (Nat.le_refl 0) h
  · replace h := Out_neg hc h
    refine r_aload_n 9 dX9_wall_8 rfl rfl ?_
    refine r_iload_n 10 dX9_wall_9 rfl rfl ?_
    refine c_I [vq (some (9, 0)), vi a2] [] 13 cs9_wall_10 rfl h (fun _ h' => ct9_isPea h') rfl rfl rfl rfl (by decide) (Nat.le_refl 0) (Nat.le_refl 0) (fun v23 s24 h => ?_)
    refine r_if_ne 18 16 dX9_wall_13 (by decide) rfl (fun hc => ?_) (fun hc => ?_)
    · replace h := Out_neg hc h
      refine r_iload_n 19 dX9_wall_18 rfl rfl ?_
      refine r_i2l 20 dX9_wall_19 rfl ?_
      refine r_lconst 0 21 dX9_wall_20 rfl (by decide) ?_
      refine r_ldc2 (3) 24 dX9_wall_21 rfl w_03ec5b81 ?_
      refine c_I [vl a3.toInt64, vl 0, vl (3)] [] 27 cs9_wall_24 rfl h (fun _ h' => ct9_in h') rfl rfl rfl rfl (by decide) (Nat.le_refl 0) (Nat.le_refl 0) (fun v25 s26 h => ?_)
      refine r_if_ne 33 30 dX9_wall_27 (by decide) rfl (fun hc => ?_) (fun hc => ?_)
      · replace h := Out_neg hc h
        refine r_aload_n 34 dX9_wall_33 rfl rfl ?_
        refine r_iconst (-1) 35 dX9_wall_34 rfl (by decide) ?_
        refine c_V [vq (some (9, 0)), vi (-1)] [] 38 cs9_wall_35 rfl h (fun _ h' => ct9_goThrough h') rfl rfl rfl rfl (by decide) (Nat.le_refl 0) (Nat.le_refl 0) (fun s27 h => ?_)
        refine r_aload_n 39 dX9_wall_38 rfl rfl ?_
        refine r_getF (x := fe9_55) 30 (39, 0) 42 fl9_55 (by decide) dX9_wall_39 rfl rfl rfl rfl ?_
        refine r_iload_n 43 dX9_wall_42 rfl rfl ?_
        obtain ⟨hc, h⟩ := Out_grd h
        refine r_iaload a2.toNatClampNeg 5 44 dX9_wall_43 rfl (by decide) rfl rfl hc rfl ?_
        refine r_if_ge 50 47 dX9_wall_44 (by decide) rfl (fun hc => ?_) (fun hc => ?_)
        · replace h := Out_pos hc h
          refine r_aload_n 51 dX9_wall_50 rfl rfl ?_
          refine r_iload_n 52 dX9_wall_51 rfl rfl ?_
          refine r_iload_n 53 dX9_wall_52 rfl rfl ?_
          refine c_I [vq (some (9, 0)), vi a2, vi a3] [] 56 cs9_wall_53 rfl h (fun _ h' => ct9_isHeld h') rfl rfl rfl rfl (by decide) (Nat.le_refl 0) (Nat.le_refl 0) (fun v28 s29 h => ?_)
          refine r_if_eq 62 59 dX9_wall_56 (by decide) rfl (fun hc => ?_) (fun hc => ?_)
          · replace h := Out_pos hc h
            refine r_iconst 0 63 dX9_wall_62 rfl (by decide) ?_
            refine r_istore [some (vq (some (9, 0))), some (vi a1), some (vi a2), some (vi a3), some (vi 0), none] 65 dX9_wall_63 rfl rfl rfl ?_
            refine r_mask [true, false, true, true, true, false] [some (vq (some (9, 0))), none, some (vi a2), some (vi a3), some (vi 0), none] rfl rfl ?_
            exact tl9_wall_65 300 0 s29 h
          · replace h := Out_neg hc h
            refine r_bipush (-9) 61 dX9_wall_59 rfl (by decide) ?_
            exact r_ireturn dX9_wall_61 rfl (Nat.le_refl 0) (Nat.le_refl 0) h
        · replace h := Out_neg hc h
          refine r_bipush (-3) 49 dX9_wall_47 rfl (by decide) ?_
          exact r_ireturn dX9_wall_49 rfl (Nat.le_refl 0) (Nat.le_refl 0) h
      · replace h := Out_pos hc h
        refine r_bipush (-2) 32 dX9_wall_30 rfl (by decide) ?_
        exact r_ireturn dX9_wall_32 rfl (Nat.le_refl 0) (Nat.le_refl 0) h
    · replace h := Out_pos hc h
      refine r_iconst (-1) 17 dX9_wall_16 rfl (by decide) ?_
      exact r_ireturn dX9_wall_17 rfl (Nat.le_refl 0) (Nat.le_refl 0) h

set_option maxRecDepth 20000 in
set_option maxHeartbeats 4000000 in
theorem ct9_where {Γ : GG} {K : Int32 × Sto → Prop} {a1 : Int32} {σ : Sto} (h : Out (f9_where a1 σ) K) : Ct true Γ mX9_where 6 0 0 [vq (some (9, 0)), vi a1] σ (QI K) := by
  refine Ct_intro (by decide +kernel) rfl ?_
  show M true Γ mX9_where 6 0 0 0 0 (QI K) 0 [some (vq (some (9, 0))), some (vi a1)] [] σ
  unfold f9_where at h
  refine r_aload_n 1 dX9_where_0 rfl rfl ?_
  refine r_iload_n 2 dX9_where_1 rfl rfl ?_
  refine c_I [vq (some (9, 0)), vi a1] [] 5 cs9_where_2 rfl h (fun _ h' => ct9_isPea h') rfl rfl rfl rfl (by decide) (Nat.le_refl 0) (Nat.le_refl 0) (fun v21 s22 h => ?_)
  refine r_if_ne 10 8 dX9_where_5 (by decide) rfl (fun hc => ?_) (fun hc => ?_)
  · replace h := Out_neg hc h
    refine r_aload_n 11 dX9_where_10 rfl rfl ?_
    refine r_iconst (-1) 12 dX9_where_11 rfl (by decide) ?_
    refine c_V [vq (some (9, 0)), vi (-1)] [] 15 cs9_where_12 rfl h (fun _ h' => ct9_goThrough h') rfl rfl rfl rfl (by decide) (Nat.le_refl 0) (Nat.le_refl 0) (fun s23 h => ?_)
    refine r_aload_n 16 dX9_where_15 rfl rfl ?_
    refine r_getF (x := fe9_55) 30 (39, 0) 19 fl9_55 (by decide) dX9_where_16 rfl rfl rfl rfl ?_
    refine r_iload_n 20 dX9_where_19 rfl rfl ?_
    obtain ⟨hc, h⟩ := Out_grd h
    refine r_iaload a1.toNatClampNeg 5 21 dX9_where_20 rfl (by decide) rfl rfl hc rfl ?_
    refine r_if_ge 29 24 dX9_where_21 (by decide) rfl (fun hc => ?_) (fun hc => ?_)
    · replace h := Out_pos hc h
      refine r_aload_n 30 dX9_where_29 rfl rfl ?_
      refine r_getF (x := fe9_55) 30 (39, 0) 33 fl9_55 (by decide) dX9_where_30 rfl rfl rfl rfl ?_
      refine r_iload_n 34 dX9_where_33 rfl rfl ?_
      obtain ⟨hc, h⟩ := Out_grd h
      refine r_iaload a1.toNatClampNeg 5 35 dX9_where_34 rfl (by decide) rfl rfl hc rfl ?_
      exact r_ireturn dX9_where_35 rfl (Nat.le_refl 0) (Nat.le_refl 0) h
    · replace h := Out_neg hc h
      refine r_bipush (-9) 26 dX9_where_24 rfl (by decide) ?_
      refine r_goto 35 dX9_where_26 (by decide) ?_
      exact r_ireturn dX9_where_35 rfl (Nat.le_refl 0) (Nat.le_refl 0) h
  · replace h := Out_pos hc h
    refine r_iconst (-1) 9 dX9_where_8 rfl (by decide) ?_
    exact r_ireturn dX9_where_9 rfl (Nat.le_refl 0) (Nat.le_refl 0) h

set_option maxRecDepth 20000 in
set_option maxHeartbeats 4000000 in
theorem tl9_would_89 {Γ : GG} {K : Int32 × Sto → Prop} {k : Int32 → Int32 → Sto → Option (Int32 × Sto)} {a2 : Int32} {a4 : Int32} (hx : ∀ (a5 : Int32) (a6 : Int32) (σ : Sto), Out (k a5 a6 σ) K → M true Γ mX9_would 6 0 0 0 0 (QI K) 134 [some (vq (some (9, 0))), none, some (vi a2), none, some (vi a4), some (vi a5), some (vi a6)] [] σ) : ∀ (n : Nat) (a5 : Int32) (a6 : Int32) (σ : Sto), Out (l9_would_89 k a2 a4 n a5 a6 σ) K → M true Γ mX9_would 6 0 0 0 0 (QI K) 89 [some (vq (some (9, 0))), none, some (vi a2), none, some (vi a4), some (vi a5), some (vi a6)] [] σ := by
  intro n
  induction n with
  | zero => intro a5 a6 σ h; exact absurd h Out_none
  | succ n ih =>
    intro a5 a6 σ h
    unfold l9_would_89 at h
    refine r_iload 91 dX9_would_89 rfl rfl ?_
    refine r_aload_n 92 dX9_would_91 rfl rfl ?_
    refine r_getI (x := fe9_75) 3 95 fl9_75 (by decide) dX9_would_92 rfl rfl rfl ?_
    refine r_icmp_ge 134 98 dX9_would_95 (by decide) rfl (fun hc => ?_) (fun hc => ?_)
    · replace h := Out_pos hc h
      exact hx a5 a6 σ h
    · replace h := Out_neg hc h
      refine r_iload 100 dX9_would_98 rfl rfl ?_
      refine r_aload_n 101 dX9_would_100 rfl rfl ?_
      refine r_getF (x := fe9_55) 30 (39, 0) 104 fl9_55 (by decide) dX9_would_101 rfl rfl rfl rfl ?_
      refine r_iload 106 dX9_would_104 rfl rfl ?_
      obtain ⟨hc, h⟩ := Out_grd h
      refine r_iaload a6.toNatClampNeg 5 107 dX9_would_106 rfl (by decide) rfl rfl hc rfl ?_
      refine r_aload_n 108 dX9_would_107 rfl rfl ?_
      refine r_getF (x := fe9_58) 31 (40, 0) 111 fl9_58 (by decide) dX9_would_108 rfl rfl rfl rfl ?_
      refine r_iload 113 dX9_would_111 rfl rfl ?_
      obtain ⟨hc, h⟩ := Out_grd h
      refine r_iaload a6.toNatClampNeg 15 114 dX9_would_113 rfl (by decide) rfl rfl hc rfl ?_
      refine r_icmp_ne 121 117 dX9_would_114 (by decide) rfl (fun hc => ?_) (fun hc => ?_)
      · replace h := Out_neg hc h
        refine r_iconst 1 122 dX9_would_121 rfl (by decide) ?_
        refine r_iload 124 dX9_would_122 rfl rfl ?_
        refine r_ishl 125 dX9_would_124 rfl ?_
        refine r_ior 126 dX9_would_125 rfl ?_
        refine r_istore [some (vq (some (9, 0))), none, some (vi a2), none, some (vi a4), some (vi (a5 ||| (1 <<< (a6 &&& 31)))), some (vi a6)] 128 dX9_would_126 rfl rfl rfl ?_
        refine r_iinc 1 [some (vq (some (9, 0))), none, some (vi a2), none, some (vi a4), some (vi (a5 ||| (1 <<< (a6 &&& 31)))), some (vi (a6 + 1))] 131 dX9_would_128 rfl (by decide) rfl rfl rfl ?_
        refine r_goto 89 dX9_would_131 (by decide) ?_
        exact ih (a5 ||| (1 <<< (a6 &&& 31))) (a6 + 1) σ h
      · replace h := Out_pos hc h
        refine r_iconst 0 118 dX9_would_117 rfl (by decide) ?_
        refine r_goto 125 dX9_would_118 (by decide) ?_
        refine r_ior 126 dX9_would_125 rfl ?_
        refine r_istore [some (vq (some (9, 0))), none, some (vi a2), none, some (vi a4), some (vi (a5 ||| 0)), some (vi a6)] 128 dX9_would_126 rfl rfl rfl ?_
        refine r_iinc 1 [some (vq (some (9, 0))), none, some (vi a2), none, some (vi a4), some (vi (a5 ||| 0)), some (vi (a6 + 1))] 131 dX9_would_128 rfl (by decide) rfl rfl rfl ?_
        refine r_goto 89 dX9_would_131 (by decide) ?_
        exact ih (a5 ||| 0) (a6 + 1) σ h
set_option maxRecDepth 20000 in
set_option maxHeartbeats 4000000 in
theorem ct9_would {Γ : GG} {K : Int32 × Sto → Prop} {a1 : Int32} {a2 : Int32} {a3 : Int32} {a4 : Int32} {σ : Sto} (h : Out (f9_would a1 a2 a3 a4 σ) K) : Ct true Γ mX9_would 6 0 0 [vq (some (9, 0)), vi a1, vi a2, vi a3, vi a4] σ (QI K) := by
  refine Ct_intro (by decide +kernel) rfl ?_
  show M true Γ mX9_would 6 0 0 0 0 (QI K) 0 [some (vq (some (9, 0))), some (vi a1), some (vi a2), some (vi a3), some (vi a4), none, none] [] σ
  unfold f9_would at h
  refine r_aload_n 1 dX9_would_0 rfl rfl ?_
  refine r_iload_n 2 dX9_would_1 rfl rfl ?_
  refine c_I [vq (some (9, 0)), vi a1] [] 5 cs9_would_2 rfl h (fun _ h' => ct9_isEater h') rfl rfl rfl rfl (by decide) (Nat.le_refl 0) (Nat.le_refl 0) (fun v21 s22 h => ?_)
  refine r_if_eq 16 8 dX9_would_5 (by decide) rfl (fun hc => ?_) (fun hc => ?_)
  · replace h := Out_pos hc h
    refine r_iconst (-1) 17 dX9_would_16 rfl (by decide) ?_
    exact r_ireturn dX9_would_17 rfl (Nat.le_refl 0) (Nat.le_refl 0) h
  · replace h := Out_neg hc h
    refine r_aload_n 9 dX9_would_8 rfl rfl ?_
    refine r_iload_n 10 dX9_would_9 rfl rfl ?_
    refine c_I [vq (some (9, 0)), vi a2] [] 13 cs9_would_10 rfl h (fun _ h' => ct9_isPea h') rfl rfl rfl rfl (by decide) (Nat.le_refl 0) (Nat.le_refl 0) (fun v23 s24 h => ?_)
    refine r_if_ne 18 16 dX9_would_13 (by decide) rfl (fun hc => ?_) (fun hc => ?_)
    · replace h := Out_neg hc h
      refine r_iload_n 19 dX9_would_18 rfl rfl ?_
      refine r_i2l 20 dX9_would_19 rfl ?_
      refine r_lconst 0 21 dX9_would_20 rfl (by decide) ?_
      refine r_ldc2 (3) 24 dX9_would_21 rfl w_03ec5b81 ?_
      refine c_I [vl a3.toInt64, vl 0, vl (3)] [] 27 cs9_would_24 rfl h (fun _ h' => ct9_in h') rfl rfl rfl rfl (by decide) (Nat.le_refl 0) (Nat.le_refl 0) (fun v25 s26 h => ?_)
      refine r_if_eq 43 30 dX9_would_27 (by decide) rfl (fun hc => ?_) (fun hc => ?_)
      · replace h := Out_pos hc h
        refine r_bipush (-2) 45 dX9_would_43 rfl (by decide) ?_
        exact r_ireturn dX9_would_45 rfl (Nat.le_refl 0) (Nat.le_refl 0) h
      · replace h := Out_neg hc h
        refine r_iload 32 dX9_would_30 rfl rfl ?_
        refine r_i2l 33 dX9_would_32 rfl ?_
        refine r_lconst 0 34 dX9_would_33 rfl (by decide) ?_
        refine r_ldc2 (2) 37 dX9_would_34 rfl w_3ed1b261 ?_
        refine c_I [vl a4.toInt64, vl 0, vl (2)] [] 40 cs9_would_37 rfl h (fun _ h' => ct9_in h') rfl rfl rfl rfl (by decide) (Nat.le_refl 0) (Nat.le_refl 0) (fun v27 s28 h => ?_)
        refine r_if_ne 46 43 dX9_would_40 (by decide) rfl (fun hc => ?_) (fun hc => ?_)
        · replace h := Out_neg hc h
          refine r_aload_n 47 dX9_would_46 rfl rfl ?_
          refine r_iconst (-1) 48 dX9_would_47 rfl (by decide) ?_
          refine c_V [vq (some (9, 0)), vi (-1)] [] 51 cs9_would_48 rfl h (fun _ h' => ct9_goThrough h') rfl rfl rfl rfl (by decide) (Nat.le_refl 0) (Nat.le_refl 0) (fun s29 h => ?_)
          refine r_aload_n 52 dX9_would_51 rfl rfl ?_
          refine r_getF (x := fe9_55) 30 (39, 0) 55 fl9_55 (by decide) dX9_would_52 rfl rfl rfl rfl ?_
          refine r_iload_n 56 dX9_would_55 rfl rfl ?_
          obtain ⟨hc, h⟩ := Out_grd h
          refine r_iaload a2.toNatClampNeg 5 57 dX9_would_56 rfl (by decide) rfl rfl hc rfl ?_
          refine r_if_ge 63 60 dX9_would_57 (by decide) rfl (fun hc => ?_) (fun hc => ?_)
          · replace h := Out_pos hc h
            refine r_aload_n 64 dX9_would_63 rfl rfl ?_
            refine r_iconst 0 65 dX9_would_64 rfl (by decide) ?_
            refine c_V [vq (some (9, 0)), vi 0] [] 68 cs9_would_65 rfl h (fun _ h' => ct9_save h') rfl rfl rfl rfl (by decide) (Nat.le_refl 0) (Nat.le_refl 0) (fun s30 h => ?_)
            refine r_aload_n 69 dX9_would_68 rfl rfl ?_
            refine r_bipush 100 71 dX9_would_69 rfl (by decide) ?_
            refine r_iload_n 72 dX9_would_71 rfl rfl ?_
            refine r_imul 73 dX9_would_72 rfl ?_
            refine r_bipush 10 75 dX9_would_73 rfl (by decide) ?_
            refine r_iload_n 76 dX9_would_75 rfl rfl ?_
            refine r_imul 77 dX9_would_76 rfl ?_
            refine r_iadd 78 dX9_would_77 rfl ?_
            refine r_iload_n 79 dX9_would_78 rfl rfl ?_
            refine r_iadd 80 dX9_would_79 rfl ?_
            refine c_V [vq (some (9, 0)), vi (((100 * a1) + (10 * a2)) + a3)] [] 83 cs9_would_80 rfl h (fun _ h' => ct9_doPush h') rfl rfl rfl rfl (by decide) (Nat.le_refl 0) (Nat.le_refl 0) (fun s31 h => ?_)
            refine r_iconst 0 84 dX9_would_83 rfl (by decide) ?_
            refine r_istore [some (vq (some (9, 0))), some (vi a1), some (vi a2), some (vi a3), some (vi a4), some (vi 0), none] 86 dX9_would_84 rfl rfl rfl ?_
            refine r_iconst 0 87 dX9_would_86 rfl (by decide) ?_
            refine r_istore [some (vq (some (9, 0))), some (vi a1), some (vi a2), some (vi a3), some (vi a4), some (vi 0), some (vi 0)] 89 dX9_would_87 rfl rfl rfl ?_
            refine r_mask [true, false, true, false, true, true, true] [some (vq (some (9, 0))), none, some (vi a2), none, some (vi a4), some (vi 0), some (vi 0)] rfl rfl ?_
            refine tl9_would_89 (fun v32 v33 s34 h => ?_) 300 0 0 s31 h
            refine r_iload 136 dX9_would_134 rfl rfl ?_
            refine r_if_ne 162 139 dX9_would_136 (by decide) rfl (fun hc => ?_) (fun hc => ?_)
            · replace h := Out_neg hc h
              refine r_iload 164 dX9_would_162 rfl rfl ?_
              refine r_iconst 1 165 dX9_would_164 rfl (by decide) ?_
              refine r_icmp_ne 176 168 dX9_would_165 (by decide) rfl (fun hc => ?_) (fun hc => ?_)
              · replace h := Out_neg hc h
                refine r_iload 178 dX9_would_176 rfl rfl ?_
                exact r_ireturn dX9_would_178 rfl (Nat.le_refl 0) (Nat.le_refl 0) h
              · replace h := Out_pos hc h
                refine r_aload_n 169 dX9_would_168 rfl rfl ?_
                refine r_iconst 0 170 dX9_would_169 rfl (by decide) ?_
                refine c_I [vq (some (9, 0)), vi 0] [] 173 cs9_would_170 rfl h (fun _ h' => ct9_setOf h') rfl rfl rfl rfl (by decide) (Nat.le_refl 0) (Nat.le_refl 0) (fun v35 s36 h => ?_)
                refine r_goto 178 dX9_would_173 (by decide) ?_
                exact r_ireturn dX9_would_178 rfl (Nat.le_refl 0) (Nat.le_refl 0) h
            · replace h := Out_pos hc h
              refine r_aload_n 140 dX9_would_139 rfl rfl ?_
              refine r_getF (x := fe9_55) 30 (39, 0) 143 fl9_55 (by decide) dX9_would_140 rfl rfl rfl rfl ?_
              refine r_iload_n 144 dX9_would_143 rfl rfl ?_
              obtain ⟨hc, h⟩ := Out_grd h
              refine r_iaload a2.toNatClampNeg 5 145 dX9_would_144 rfl (by decide) rfl rfl hc rfl ?_
              refine r_if_ge 153 148 dX9_would_145 (by decide) rfl (fun hc => ?_) (fun hc => ?_)
              · replace h := Out_pos hc h
                refine r_aload_n 154 dX9_would_153 rfl rfl ?_
                refine r_getF (x := fe9_55) 30 (39, 0) 157 fl9_55 (by decide) dX9_would_154 rfl rfl rfl rfl ?_
                refine r_iload_n 158 dX9_would_157 rfl rfl ?_
                obtain ⟨hc, h⟩ := Out_grd h
                refine r_iaload a2.toNatClampNeg 5 159 dX9_would_158 rfl (by decide) rfl rfl hc rfl ?_
                refine r_goto 178 dX9_would_159 (by decide) ?_
                exact r_ireturn dX9_would_178 rfl (Nat.le_refl 0) (Nat.le_refl 0) h
              · replace h := Out_neg hc h
                refine r_bipush (-9) 150 dX9_would_148 rfl (by decide) ?_
                refine r_goto 178 dX9_would_150 (by decide) ?_
                exact r_ireturn dX9_would_178 rfl (Nat.le_refl 0) (Nat.le_refl 0) h
          · replace h := Out_neg hc h
            refine r_bipush (-3) 62 dX9_would_60 rfl (by decide) ?_
            exact r_ireturn dX9_would_62 rfl (Nat.le_refl 0) (Nat.le_refl 0) h
        · replace h := Out_pos hc h
          refine r_bipush (-2) 45 dX9_would_43 rfl (by decide) ?_
          exact r_ireturn dX9_would_45 rfl (Nat.le_refl 0) (Nat.le_refl 0) h
    · replace h := Out_pos hc h
      refine r_iconst (-1) 17 dX9_would_16 rfl (by decide) ?_
      exact r_ireturn dX9_would_17 rfl (Nat.le_refl 0) (Nat.le_refl 0) h

