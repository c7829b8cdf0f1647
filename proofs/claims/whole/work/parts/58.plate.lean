/-! plate -/
/-- all but the draft (and the trace, the fault) stays -/
def AgrD (t : Nat) (σ σ' : Sto) : Prop := (∀ k a b, (k = 8 ∨ (k = 13 ∧ a = t) ∨ (k = 6 ∧ a = 0)) → gR σ' k a b = gR σ k a b) ∧ ∀ k a b, ((k = 6 ∨ k = 16) → a = 0) → ¬ k = 18 → ¬ (k = 9 ∨ (24 ≤ k ∧ k < 42)) → ¬ (k = 7 ∨ (k = 8 ∧ b = 13)) → ((k = 2 ∨ k = 10 ∨ k = 11 ∨ k = 12 ∨ k = 14 ∨ k = 15) → a = t) → gI σ' k a b = gI σ k a b
theorem RC.agrD {σ σ' : Sto} {t : Nat} {A : AS} {x y : Int32} (h : AgrD t σ σ') (hC : RC σ t A) (hx : gI σ' 7 0 0 = x) (hy : gI σ' 8 0 13 = y) : RC σ' t (tf A x y) := by
  obtain ⟨⟨t1, t2⟩, ⟨x1, ⟨b1, b2, b3, b4, b5, b6⟩, ⟨x3, x4⟩, x5, x6, x7, x8⟩, ⟨c1, c2⟩, e1, l1, ⟨r1, r2⟩, n1, s1, ⟨f1, f2⟩, u1, u2⟩ := hC
  have ei : ∀ c a b, c = 0 ∨ c = 1 ∨ c = 5 → gI σ' c a b = gI σ c a b := fun c a b hc => h.2 _ _ _ (by omega) (by omega) (by omega) (by omega) (by omega)
  refine ⟨⟨t1, ?_⟩, ⟨?_, ⟨?_, ?_, ?_, fun c hc => ?_, fun j => ?_, fun j => ?_⟩, ⟨?_, ?_⟩, fun p hp => ?_, fun e he => (x6 e he).frame (h.1 _ _ _ (by omega)) ei, ?_, fun k hk => ?_⟩, ⟨?_, fun x hx => ?_⟩, fun e he => (e1 e he).frame (h.1 _ _ _ (by omega)) ei, ?_, ⟨?_, fun k hk => ?_⟩, fun hl => ?_, fun k hk => ?_, ⟨?_, ?_⟩, fun j => ?_, fun j => ?_⟩
  · rw [h.1 _ _ _ (by omega)]; exact t2
  · rw [h.1 _ _ _ (by omega)]; exact x1
  · rw [h.2 _ _ _ (by omega) (by omega) (by omega) (by omega) (by omega)]; exact b1
  · rw [h.2 _ _ _ (by omega) (by omega) (by omega) (by omega) (by omega)]; exact b2
  · rw [h.2 _ _ _ (by omega) (by omega) (by omega) (by omega) (by omega)]; exact b3
  · rw [h.2 _ _ _ (by omega) (by omega) (by omega) (by omega) (by omega)]; exact b4 c hc
  · rw [h.2 _ _ _ (by omega) (by omega) (by omega) (by omega) (by omega)]; exact b5 j
  · rw [h.2 _ _ _ (by omega) (by omega) (by omega) (by omega) (by omega)]; exact b6 j
  · rw [h.2 _ _ _ (by omega) (by omega) (by omega) (by omega) (by omega)]; exact x3
  · rw [h.2 _ _ _ (by omega) (by omega) (by omega) (by omega) (by omega)]; exact x4
  · rw [h.2 _ _ _ (by omega) (by omega) (by omega) (by omega) (by omega)]; exact x5 p hp
  · rw [h.2 _ _ _ (by omega) (by omega) (by omega) (by omega) (by omega)]; exact x7
  · rw [h.2 _ _ _ (by omega) (by omega) (by omega) (by omega) (by omega)]; exact x8 k hk
  · rw [h.2 _ _ _ (by omega) (by omega) (by omega) (by omega) (by omega)]; exact c1
  · rw [h.2 _ _ _ (by omega) (by omega) (by omega) (by omega) (by omega)]; exact c2 x hx
  · rw [h.2 _ _ _ (by omega) (by omega) (by omega) (by omega) (by omega)]; exact l1
  · rw [h.2 _ _ _ (by omega) (by omega) (by omega) (by omega) (by omega)]; exact r1
  · rw [h.2 21 _ _ (by omega) (by omega) (by omega) (by omega) (by omega), h.2 22 _ _ (by omega) (by omega) (by omega) (by omega) (by omega)]; exact r2 k hk
  · obtain ⟨q1, q2, q3, q4, q5⟩ := n1 hl
    refine ⟨?_, ?_, fun p hp => ?_, ?_, ?_⟩
    · rw [h.1 _ _ _ (by omega)]; exact q1
    · rw [h.2 _ _ _ (by omega) (by omega) (by omega) (by omega) (by omega)]; exact q2
    · rw [h.2 _ _ _ (by omega) (by omega) (by omega) (by omega) (by omega)]; exact q3 p hp
    · rw [h.2 _ _ _ (by omega) (by omega) (by omega) (by omega) (by omega)]; exact q4
    · rw [h.2 _ _ _ (by omega) (by omega) (by omega) (by omega) (by omega)]; exact q5
  · rw [h.2 4 _ 1 (by omega) (by omega) (by omega) (by omega) (by omega), h.2 4 _ 2 (by omega) (by omega) (by omega) (by omega) (by omega)]
    obtain ⟨q1, q2, q3⟩ := s1 k hk
    exact ⟨q1, q2, fun j hj => by rw [h.2 _ _ _ (by omega) (by omega) (by omega) (by omega) (by omega)]; exact q3 j hj⟩
  · exact hx
  · exact hy
  · rw [h.2 _ _ _ (by omega) (by omega) (by omega) (by omega) (by omega)]; exact u1 j
  · rw [h.2 _ _ _ (by omega) (by omega) (by omega) (by omega) (by omega)]; exact u2 j
theorem EK.ef {σ : Sto} {t e k s : Nat} (h : EK σ t e k s) : EF σ t e (if k = 0 then s else if k = 1 then s + 1 else 2 * (s + 1)) := by
  obtain ⟨ix, h1, h2, h3⟩ := h
  refine ⟨ix, ?_⟩
  unfold kk at h1 h3
  by_cases k0 : k = 0
  · rw [if_pos k0] at h1 h3 ⊢
    exact Or.inl ⟨h1, h3⟩
  · rw [if_neg k0] at h1 h3 ⊢
    by_cases k1 : k = 1
    · rw [if_pos k1] at h1 h3 ⊢
      exact Or.inr (Or.inl ⟨h1, by rw [h3, iN_add1]⟩)
    · rw [if_neg k1] at h1 h3 ⊢
      exact Or.inr (Or.inr ⟨h1, by rw [h3, iN_add1, show (2 : Int32) = iN 2 from rfl, iN_mul]⟩)
theorem m_c140 {K : Int32 → Sto → Option (Int32 × Sto)} : ∀ (f j q : Nat) (σ : Sto), j + f = 30 → f < q → (∀ c, c < j → gI σ 24 0 c = gI σ 35 0 c) → ∃ σ' x, l9_plate_140 K q (iN j) σ = K x σ' ∧ FK 24 0 σ σ' ∧ ∀ c, c < 30 → gI σ' 24 0 c = gI σ 35 0 c
  | f, j, 0, _, _, hq, _ => by omega
  | 0, j, q + 1, σ, hj, hq, hc => by
    refine ⟨σ, iN j, ?_, FK.rfl, fun c h => hc c (by omega)⟩
    show (if 30 ≤ iN j then _ else _) = _
    rw [if_pos (by rw [show (30 : Int32) = iN 30 from rfl, iN_le (by omega) (by omega)]; omega)]
  | f + 1, j, q + 1, σ, hj, hq, hc => by
    have ix : Ix (iN j) 30 := (iN_Ix (by omega)).mpr (by omega)
    show ∃ σ' x, (if 30 ≤ iN j then _ else _) = _ ∧ _
    rw [if_neg (by rw [show (30 : Int32) = iN 30 from rfl, iN_le (by omega) (by omega)]; omega), if_pos ix, if_pos ix, iN_nat (by omega), iN_add1]
    obtain ⟨σ', x, g1, g2, g3⟩ := m_c140 (K := K) f (j + 1) q (sI σ 24 0 j (gI σ 35 0 j)) (by omega) (by omega) (fun c h => by
      rw [gI_sI, gI_sI, if_neg (show ¬ (35 = 24 ∧ 0 = 0 ∧ c = j) by omega)]
      by_cases e : c = j
      · rw [if_pos ⟨rfl, rfl, e⟩, e]
      · rw [if_neg (by omega)]; exact hc c (by omega))
    exact ⟨σ', x, g1, FK_I.trans g2, fun c h => by rw [g3 c h, gI_sI, if_neg (by omega)]⟩
theorem m_c170 {K : Int32 → Sto → Option (Int32 × Sto)} : ∀ (f j q : Nat) (σ : Sto), j + f = 5 → f < q → (∀ c, c < j → gI σ 25 0 c = gI σ 36 0 c) → ∃ σ' x, l9_plate_170 K q (iN j) σ = K x σ' ∧ FK 25 0 σ σ' ∧ ∀ c, c < 5 → gI σ' 25 0 c = gI σ 36 0 c
  | f, j, 0, _, _, hq, _ => by omega
  | 0, j, q + 1, σ, hj, hq, hc => by
    refine ⟨σ, iN j, ?_, FK.rfl, fun c h => hc c (by omega)⟩
    show (if 5 ≤ iN j then _ else _) = _
    rw [if_pos (by rw [show (5 : Int32) = iN 5 from rfl, iN_le (by omega) (by omega)]; omega)]
  | f + 1, j, q + 1, σ, hj, hq, hc => by
    have ix : Ix (iN j) 5 := (iN_Ix (by omega)).mpr (by omega)
    show ∃ σ' x, (if 5 ≤ iN j then _ else _) = _ ∧ _
    rw [if_neg (by rw [show (5 : Int32) = iN 5 from rfl, iN_le (by omega) (by omega)]; omega), if_pos ix, if_pos ix, iN_nat (by omega), iN_add1]
    obtain ⟨σ', x, g1, g2, g3⟩ := m_c170 (K := K) f (j + 1) q (sI σ 25 0 j (gI σ 36 0 j)) (by omega) (by omega) (fun c h => by
      rw [gI_sI, gI_sI, if_neg (show ¬ (36 = 25 ∧ 0 = 0 ∧ c = j) by omega)]
      by_cases e : c = j
      · rw [if_pos ⟨rfl, rfl, e⟩, e]
      · rw [if_neg (by omega)]; exact hc c (by omega))
    exact ⟨σ', x, g1, FK_I.trans g2, fun c h => by rw [g3 c h, gI_sI, if_neg (by omega)]⟩
theorem m_c199 {K : Int32 → Sto → Option (Int32 × Sto)} : ∀ (f j q : Nat) (σ : Sto), j + f = 2 → f < q → (∀ c, c < j → gI σ 26 0 c = gI σ 37 0 c ∧ gI σ 27 0 c = gI σ 38 0 c) → ∃ σ' x, l9_plate_199 K q (iN j) σ = K x σ' ∧ (σ'.2 = σ.2 ∧ ∀ k a b, ¬ ((k = 26 ∨ k = 27) ∧ a = 0) → gI σ' k a b = gI σ k a b) ∧ ∀ c, c < 2 → gI σ' 26 0 c = gI σ 37 0 c ∧ gI σ' 27 0 c = gI σ 38 0 c
  | f, j, 0, _, _, hq, _ => by omega
  | 0, j, q + 1, σ, hj, hq, hc => by
    refine ⟨σ, iN j, ?_, ⟨rfl, fun _ _ _ _ => rfl⟩, fun c h => hc c (by omega)⟩
    show (if 2 ≤ iN j then _ else _) = _
    rw [if_pos (by rw [show (2 : Int32) = iN 2 from rfl, iN_le (by omega) (by omega)]; omega)]
  | f + 1, j, q + 1, σ, hj, hq, hc => by
    have ix : Ix (iN j) 2 := (iN_Ix (by omega)).mpr (by omega)
    show ∃ σ' x, (if 2 ≤ iN j then _ else _) = _ ∧ _
    rw [if_neg (by rw [show (2 : Int32) = iN 2 from rfl, iN_le (by omega) (by omega)]; omega), if_pos ix, if_pos ix, if_pos ix, if_pos ix, iN_nat (by omega), iN_add1, show gI (sI σ 26 0 j (gI σ 37 0 j)) 38 0 j = gI σ 38 0 j from by rw [gI_sI, if_neg (by omega)]]
    have w : ∀ k b, ¬ ((k = 26 ∨ k = 27) ∧ b = j) → gI (sI (sI σ 26 0 j (gI σ 37 0 j)) 27 0 j (gI σ 38 0 j)) k 0 b = gI σ k 0 b := fun k b h => by rw [gI_sI, if_neg (by omega), gI_sI, if_neg (by omega)]
    obtain ⟨σ', x, g1, ⟨g2, g2'⟩, g3⟩ := m_c199 (K := K) f (j + 1) q (sI (sI σ 26 0 j (gI σ 37 0 j)) 27 0 j (gI σ 38 0 j)) (by omega) (by omega) (fun c h => by
      rw [w 37 c (by omega), w 38 c (by omega)]
      by_cases e : c = j
      · rw [e]
        exact ⟨by rw [gI_sI, if_neg (by omega), gI_sI, if_pos ⟨rfl, rfl, rfl⟩], by rw [gI_sI, if_pos ⟨rfl, rfl, rfl⟩]⟩
      · rw [w 26 c (by omega), w 27 c (by omega)]; exact hc c (by omega))
    exact ⟨σ', x, g1, ⟨g2, fun k a b h => by rw [g2' k a b h, gI_sI, if_neg (by omega), gI_sI, if_neg (by omega)]⟩, fun c h => by rw [(g3 c h).1, (g3 c h).2, w 37 c (by omega), w 38 c (by omega)]; exact ⟨rfl, rfl⟩⟩
/-- what stands behind a text that is taken -/
def plA (A : AS) (S : PS) : AS := (fun a b => if a = 0 then (if b = 0 then pH S else if b = 1 then pW S else if b = 2 then pP S else if b = 3 then pM S else if b = 4 then 0 else if b = 5 then 0 else if b = 6 then 0 else A.1 0 b) else if a = 1 then S.2.1 b else if a = 2 then S.2.2.1 b else if a = 3 then S.2.2.2.1 b else A.1 a b, fun a b => if a = 0 then (if b = 0 then A.2 0 0 else 0) else if a = 1 then S.2.2.2.2 b else A.2 a b)
theorem plA_laid {A : AS} {S : PS} {n : Nat} (hI : Iv S n) (hc : cpl S n) : laid (plA A S) := by
  have h3 : 3 ≤ n := by have := hc.2; omega
  have hH := hI.2.1 (by omega)
  have hW := hI.2.2.1 h3
  have hq := (hI.2.2.2.2.1 h3 (by have := hc.2; omega)).1
  have hm := hI.2.2.2.2.2.1.2
  have hL := Iv_L hI
  obtain ⟨-, -, -, -, -, ⟨i6, i7⟩, i8, i9, i10, i11⟩ := hI
  refine ⟨⟨⟨hH.1, ?_⟩, ⟨hW.1, ?_⟩, fun c h => ?_⟩, ⟨hc.1, hm⟩, i6, fun p hp => ?_, fun e he => ?_, ?_, fun k hk => ?_, ?_⟩
  · show pH S < 6
    omega
  · show pW S < 7
    omega
  · have h : c < pH S * pW S := h
    exact i9 c (by omega)
  · have hp : p < pP S := hp
    have z := i8 p hp
    rw [hq] at z
    refine ⟨z.1, ?_⟩
    show ¬ S.2.2.2.2 (S.2.1 p) = 2
    rw [z.2]; decide
  · have he : e < pM S := he
    exact ⟨i10 e (by omega), (i11 e he).1, (i11 e he).2⟩
  · show 0 ≤ 30
    omega
  · have hk : k < 0 := hk
    omega
  · show 0 < 3
    omega
theorem any_tf {f g : Sto → Option (Int32 × Sto)} {σ : Sto} {A : AS} {t : Nat} (hw : wfA A) (hC : RC σ t A) (hM : RM σ A) (h : ∃ r σ1 x y, f σ = some (r, σ1) ∧ Agr0 σ σ1 ∧ FC σ σ1 ∧ (gI σ1 7 0 0 = x ∧ gI σ1 8 0 13 = y) ∧ (RM σ1 A → ∃ σ2, g σ1 = some (r, σ2) ∧ FMm σ1 σ2 ∧ T24 σ1 σ2 ∧ gI σ2 9 0 14 = x ∧ gI σ2 9 0 15 = y)) : ∃ r σ1 σ2 A', f σ = some (r, σ1) ∧ wfA A' ∧ (∃ t', RC σ1 t' A') ∧ FC σ σ1 ∧ (RM σ1 A → g σ1 = some (r, σ2) ∧ FMm σ1 σ2 ∧ RM σ2 A') := by
  obtain ⟨r, σ1, x, y, h1, h2, h3, ⟨h4, h5⟩, h6⟩ := h
  obtain ⟨σ2, g1, g2, g3, g4, g5⟩ := h6 (hM.fc h3)
  exact ⟨r, σ1, σ2, tf A x y, h1, hw.tf, ⟨t, hC.agr0 h2 h4 h5⟩, h3, fun hM => ⟨g1, g2, RM.tf g3 hM g4 g5⟩⟩
theorem both_plate (a1 a2 a3 a4 : Int32) : Both (f8_plate a1 a2 a3 a4) (f9_plate a1 a2 a3 a4) := Both.any (fun σ A t hw hC hM => by
  have tr := hC.2.2.2.2.2.2.2.2.1.1
  have hC0 := hC.f0 (y := 0)
  have hs0 : RCs (sI σ 8 0 13 0) A := hC0.2.2.2.2.2.2.2.1
  rcases iN_or a1 4 (by decide) with ⟨k, hk, rfl⟩ | hx
  · rcases iN_or a2 3 (by decide) with ⟨l, hl3, rfl⟩ | hx
    · have c0 : ∀ Z : Option (Int32 × Sto), (bI (f4_faultOfCells k (iN l) a3 a4 (sI σ 8 0 13 0)) (fun v27 s28 => (if v27 = 0 then (dr 2 (gR s28 8 0 1) (fun i29 => (bI (f2_readText i29 k a3 a4 s28) (fun v30 s31 => (if v30 = (-9) then (bV (f8_takeDraft s31) (fun s32 => (dr 2 (gR s32 8 0 0) (fun i33 => (some (gI s32 2 i33 2, s32)))))) else (some ((-100) - v30, s31))))))) else (bI (f8_failed v27 s28) (fun v34 s35 => (some (v34, s35))))))) = Z → f8_plate (iN k) (iN l) a3 a4 σ = Z := fun Z h => by
        unfold f8_plate
        rw [c_sheet_in hk, bI_some, rcs_some, if_pos rfl, show (3 : Int32) = iN 3 from rfl, isBelow_in _ (by decide) hl3, bI_some, if_neg (by decide)]
        exact h
      by_cases hf : fcA A k (iN l) a3 a4 = 0
      · obtain ⟨s, i, n, hs, ne, e4, rfl, rfl, hin⟩ := fcA_0 hk hw.2.2 hf
        obtain ⟨z1, z2, z3⟩ := hs0 k hk
        have h42 : gI (sI σ 8 0 13 0) 4 k 2 = iN s := ((z2 ne).2).trans e4
        have h19 : ∀ y, y < n → gI (sI σ 8 0 13 0) 19 k (i + y) = A.2 5 (60 * k + i + y) := fun y hy => by rw [z3 _ (by omega), show 60 * k + (i + y) = 60 * k + i + y by omega]
        have h81 : gR (sI σ 8 0 13 0) 8 0 1 = some (2, 1 - t) := hC.1.2
        have ht : t = 0 ∨ t = 1 := hC.1.1
        have mt : ∀ τ, RM τ A → (∃ σ' y, f9_takeText (sI (sI (sI τ 9 0 15 0) 9 0 20 (iN (60 * k + i))) 9 0 21 (iN (60 * k + i + n))) = some (0, σ') ∧ y ≤ n ∧ gI σ' 9 0 20 = iN (60 * k + i + y) ∧ FT (sI (sI (sI τ 9 0 15 0) 9 0 20 (iN (60 * k + i))) 9 0 21 (iN (60 * k + i + n))) σ' ∧ badT (fun y => A.2 5 (60 * k + i + y)) n y) ∨ (∃ S σ', f9_takeText (sI (sI (sI τ 9 0 15 0) 9 0 20 (iN (60 * k + i))) 9 0 21 (iN (60 * k + i + n))) = some (1, σ') ∧ goodT (fun y => A.2 5 (60 * k + i + y)) n S ∧ MP σ' (fun y => A.2 5 (60 * k + i + y)) (60 * k + i) n n S ∧ (gI σ' 9 0 22 = iN (pH S) ∧ gI σ' 9 0 23 = iN (pW S)) ∧ FT (sI (sI (sI τ 9 0 15 0) 9 0 20 (iN (60 * k + i))) 9 0 21 (iN (60 * k + i + n))) σ') := fun τ hM => m_text (by omega) (by omega) (by rw [gI_sI, if_neg (by omega), gI_sI, if_pos ⟨rfl, rfl, rfl⟩]) (by rw [gI_sI, if_pos ⟨rfl, rfl, rfl⟩]) (fun y hy => by rw [gI_sI, if_neg (by omega), gI_sI, if_neg (by omega), gI_sI, if_neg (by omega)]; exact hM.2.2.2.2.1.2 _ (by omega))
        have m0 : ∀ τ, RM τ A → ∀ Z : Option (Int32 × Sto), (bI (f9_takeText (sI (sI (sI τ 9 0 15 0) 9 0 20 (iN (60 * k + i))) 9 0 21 (iN (60 * k + i + n)))) (fun v27 s28 => (if v27 = 0 then (some ((-100) - ((gI s28 9 0 20) - iN (60 * k + i)), s28)) else (l9_plate_140 (fun v29 s30 => (l9_plate_170 (fun v31 s32 => (l9_plate_199 (fun v33 s34 => (some (gI (sI (sI (sI s34 9 0 8 0) 9 0 9 0) 9 0 11 0) 9 0 3, (sI (sI (sI s34 9 0 8 0) 9 0 9 0) 9 0 11 0)))) 300 0 s32)) 300 0 s30)) 300 0 (sI (sI (sI (sI s28 9 0 0 (gI s28 9 0 23)) 9 0 1 ((gI s28 9 0 22) * (gI s28 9 0 23))) 9 0 3 (gI s28 9 0 24)) 9 0 5 (gI s28 9 0 27)))))) = Z → f9_plate (iN k) (iN l) (iN i) (iN n) τ = Z := fun τ hM Z h => by
          have w20 : ∀ (s : Sto) (v : Int32), gI (sI s 9 0 20 v) 9 0 20 = v := fun _ _ => rfl
          have w21 : ∀ (s : Sto) (v u : Int32), gI (sI (sI s 9 0 20 v) 9 0 21 u) 9 0 20 = v := fun _ _ _ => rfl
          have b1 : ∀ (s : Sto) (v : Int32) (j : Nat), 20 ≤ j → gI (sI s 9 0 0 v) 9 0 j = gI s 9 0 j := fun s v j hj => by rw [gI_sI, if_neg (by omega)]
          have b2 : ∀ (s : Sto) (v u : Int32) (j : Nat), 20 ≤ j → gI (sI (sI s 9 0 0 v) 9 0 1 u) 9 0 j = gI s 9 0 j := fun s v u j hj => by rw [gI_sI, if_neg (by omega), b1 s v j hj]
          have b3 : ∀ (s : Sto) (v u w : Int32) (j : Nat), 20 ≤ j → gI (sI (sI (sI s 9 0 0 v) 9 0 1 u) 9 0 3 w) 9 0 j = gI s 9 0 j := fun s v u w j hj => by rw [gI_sI, if_neg (by omega), b2 s v u j hj]
          unfold f9_plate
          rw [m_sheet_in hk, bI_some, if_neg (by decide), m_lane_in hl3, bI_some, if_neg (by decide), m_faultC hk hM.2.2.2.2.1 hw.2.2, bI_some, if_pos hf, at60, w20, iN_add, w21]
          simp only [b3 _ _ _ _ 27 (by decide), b2 _ _ _ 24 (by decide), b1 _ _ 22 (by decide), b1 _ _ 23 (by decide)]
          exact h
        rcases c_readText (t := 1 - t) (k := k) hs hin h42 h19 with ⟨x, hx, bx, s1, g1, g2⟩ | ⟨S, gS, hI, s1, g1, ⟨⟨d1, d2, d3, d4, d5⟩, d6, d7, d8, d9⟩, g2⟩
        · -- no text
          have agD : AgrD t σ s1 := ⟨fun k' a b h => by rw [g2.gR]; rfl, fun k' a b _ _ _ h1 h2 => by rw [g2.2 k' a b (by omega), gI_sI, if_neg (by omega)]⟩
          have fc : FC σ s1 := fun k' a b h => by rw [g2.2 k' a b (by omega), gI_sI, if_neg (by omega)]
          have r7 : gI s1 7 0 0 = A.2 0 0 := by rw [g2.2 _ _ _ (by omega), gI_sI, if_neg (by omega)]; exact tr
          have r13 : gI s1 8 0 13 = 0 := by rw [g2.2 _ _ _ (by omega)]; exact gI_f
          have hM1 := hM.fc fc
          rcases mt s1 hM1 with ⟨τ, y, u1, u2, u3, u4, u5⟩ | ⟨S, τ, -, u2, -⟩
          · have exy : x = y := bx.1.symm.trans u5.1
            subst exy
            have fr : ∀ a b c, ¬ (a = 9 ∧ b = 0 ∧ (c = 15 ∨ 20 ≤ c)) → ¬ (35 ≤ a ∧ a ≤ 38) → gI τ a b c = gI s1 a b c := fun a b c h1 h2 => by rw [u4.2 a b c (by omega) h2, gI_sI, if_neg (by omega), gI_sI, if_neg (by omega), gI_sI, if_neg (by omega)]
            refine ⟨-100 - iN x, s1, τ, tf A (A.2 0 0) 0, c0 _ ?_, hw.tf, ⟨t, hC.agrD agD r7 r13⟩, fc, fun hM => ⟨m0 s1 hM _ ?_, ⟨u4.1, fun a b c h => fr a b c (by omega) (by omega)⟩, RM.tf (fun a b c h => fr a b c (by omega) (by omega)) hM ?_ ?_⟩⟩
            · rw [c_faultC hk hs0 hw.2.2, bI_some, if_pos hf, h81, dr_some, g1, bI_some, if_neg (iN_ne_m (by omega) (by decide))]
            · rw [u1, bI_some, if_pos rfl, u3, show iN (60 * k + i + x) - iN (60 * k + i) = iN x from by rw [iN_sub (by omega), show 60 * k + i + x - (60 * k + i) = x by omega]]
            · rw [fr _ _ _ (by omega) (by omega)]; exact hM.2.2.2.2.2.1
            · rw [u4.2 _ _ _ (by omega) (by omega), gI_sI, if_neg (by omega), gI_sI, if_neg (by omega), gI_sI, if_pos ⟨rfl, rfl, rfl⟩]
          · exfalso
            exact bx.2 S (by rw [u2.1]) u2.2
        · -- a text
          have hl := plA_laid (A := A) hI gS.2
          have h3 : 3 ≤ n := by have := gS.2.2; omega
          have hq := (hI.2.2.2.2.1 h3 (by have := gS.2.2; omega)).1
          have hn5 := hI.2.2.2.2.2.1.1
          have hm2 := hI.2.2.2.2.2.1.2
          have q30 := pQ_30 hI h3
          have R8 : ∀ b, gR s1 8 0 b = gR σ 8 0 b := fun b => by rw [g2.1 _ _ _ (by omega) (by omega)]; rfl
          generalize hbs : sI (sI (sI (sR (sR s1 8 0 0 (gR s1 8 0 1)) 8 0 1 (gR s1 8 0 0)) 8 0 2 0) 8 0 4 0) 8 0 7 0 = s2
          have bI2 : ∀ a b c, ¬ (a = 8 ∧ b = 0 ∧ (c = 2 ∨ c = 4 ∨ c = 7)) → gI s2 a b c = gI s1 a b c := fun a b c h => by rw [← hbs, gI_sI, if_neg (by omega), gI_sI, if_neg (by omega), gI_sI, if_neg (by omega)]; rfl
          have bR2 : ∀ a b c, ¬ (a = 8 ∧ b = 0 ∧ (c = 0 ∨ c = 1)) → gR s2 a b c = gR s1 a b c := fun a b c h => by
            rw [← hbs]
            show gR (sR (sR s1 8 0 0 (gR s1 8 0 1)) 8 0 1 (gR s1 8 0 0)) a b c = _
            rw [gR_sR, if_neg (by omega), gR_sR, if_neg (by omega)]
          have t80 : gR s2 8 0 0 = some (2, 1 - t) := by
            rw [← hbs]
            show gR (sR (sR s1 8 0 0 (gR s1 8 0 1)) 8 0 1 (gR s1 8 0 0)) 8 0 0 = _
            rw [gR_sR, if_neg (by omega), gR_sR, if_pos ⟨rfl, rfl, rfl⟩, R8]; exact hC.1.2
          have t81 : gR s2 8 0 1 = some (2, t) := by
            rw [← hbs]
            show gR (sR (sR s1 8 0 0 (gR s1 8 0 1)) 8 0 1 (gR s1 8 0 0)) 8 0 1 = _
            rw [gR_sR, if_pos ⟨rfl, rfl, rfl⟩, R8]; exact hC.2.1.1
          have v2 : gI s2 8 0 2 = 0 := by rw [← hbs, gI_sI, if_neg (by omega), gI_sI, if_neg (by omega), gI_sI, if_pos ⟨rfl, rfl, rfl⟩]
          have v4 : gI s2 8 0 4 = 0 := by rw [← hbs, gI_sI, if_neg (by omega), gI_sI, if_pos ⟨rfl, rfl, rfl⟩]
          have v7 : gI s2 8 0 7 = 0 := by rw [← hbs, gI_sI, if_pos ⟨rfl, rfl, rfl⟩]
          have ekB : ∀ e, e < pM S → EK s2 (1 - t) e (S.2.2.1 e) (S.2.2.2.1 e) := fun e he => (d9 e he).frame (bR2 _ _ _ (by omega)) (fun c a b hc => bI2 c a b (by omega))
          have s1I : ∀ a b c, ¬ (a = 0 ∨ a = 1 ∨ a = 5) → ¬ ((a = 2 ∨ a = 10 ∨ a = 11 ∨ a = 12 ∨ a = 14 ∨ a = 15) ∧ b = 1 - t) → ¬ (a = 8 ∧ c = 13) → gI s1 a b c = gI σ a b c := fun a b c h1 h2 h3 => by rw [g2.2 a b c h1 h2, gI_sI, if_neg (by omega)]
          have eF : ∀ e, e < pM S → aF (plA A S) e = if S.2.2.1 e = 0 then S.2.2.2.1 e else if S.2.2.1 e = 1 then S.2.2.2.1 e + 1 else 2 * (S.2.2.2.1 e + 1) := fun e he => by
            unfold aF
            rw [if_pos (show e < aM (plA A S) from he)]
            rfl
          have hX : CX s2 (1 - t) (plA A S) := by
            refine ⟨t80, ⟨?_, ?_, ?_, fun c hc => ?_, fun j => ?_, fun j => ?_⟩, ⟨?_, ?_⟩, fun p hp => ?_, fun e he => ?_, v4, fun k' hk' => absurd (show k' < 0 from hk') (Nat.not_lt_zero _)⟩
            · rw [bI2 _ _ _ (by omega)]; exact d1
            · rw [bI2 _ _ _ (by omega)]; exact d2
            · rw [bI2 _ _ _ (by omega), d3, hq]; rfl
            · rw [bI2 _ _ _ (by omega)]; exact d6 c (by rw [hq]; exact hc)
            · rw [bI2 _ _ _ (by omega), s1I _ _ _ (by omega) (by omega) (by omega)]; exact hC.2.1.2.1.2.2.2.2.1 j
            · rw [bI2 _ _ _ (by omega), s1I _ _ _ (by omega) (by omega) (by omega)]; exact hC.2.1.2.1.2.2.2.2.2 j
            · rw [bI2 _ _ _ (by omega)]; exact d4
            · rw [bI2 _ _ _ (by omega)]; exact d5
            · rw [bI2 _ _ _ (by omega)]; exact d7 p hp
            · rw [eF e he]; exact (ekB e he).ef
          obtain ⟨s3, b1, b2, b3⟩ := c_begin (i := 0) (v := 0) hl hX
          have fin : ∀ a b c, ¬ (b = 0 ∧ (a = 6 ∨ a = 16)) → ¬ (a = 8 ∧ b = 0 ∧ (c = 2 ∨ c = 4 ∨ c = 7)) → gI s3 a b c = gI s1 a b c := fun a b c h1 h2 => by rw [b3.2 a b c h1, bI2 a b c h2]
          have fc : FC σ s3 := fun a b c h => by rw [fin a b c (by omega) (by omega), s1I a b c (by omega) (by omega) (by omega)]
          have E8 : f8_plate (iN k) (iN l) (iN i) (iN n) σ = some (iN (pP S), s3) := c0 _ (by
            rw [c_faultC hk hs0 hw.2.2, bI_some, if_pos hf, h81, dr_some, g1, bI_some, if_pos rfl]
            unfold f8_takeDraft
            rw [hbs, t80, dr_some, v2, show f6_beginOn 0 (1 - t) 0 s2 = some s3 from b1, bV_some, bV_some, b3.1.2 _ _ _ (by omega), t80, dr_some, fin _ _ _ (by omega) (by omega), d4])
          have hM3 := hM.fc fc
          rcases mt s3 hM3 with ⟨τ, y, -, -, -, -, u5⟩ | ⟨S', τ, u1, u2, ⟨⟨-, -, p3, p4⟩, -, p6, p7, p8, p9⟩, ⟨w22, w23⟩, u4⟩
          · exfalso
            exact u5.2 S (by rw [gS.1]) gS.2
          · have eS : S' = S := by
              have := gS.1.symm.trans u2.1
              exact (Option.some.inj (congrArg Prod.snd this)).symm
            subst eS
            have fr : ∀ a b c, ¬ (a = 9 ∧ b = 0 ∧ (c = 15 ∨ 20 ≤ c)) → ¬ (35 ≤ a ∧ a ≤ 38) → gI τ a b c = gI s3 a b c := fun a b c h1 h2 => by rw [u4.2 a b c (by omega) h2, gI_sI, if_neg (by omega), gI_sI, if_neg (by omega), gI_sI, if_neg (by omega)]
            generalize ht1 : sI (sI (sI (sI τ 9 0 0 (gI τ 9 0 23)) 9 0 1 ((gI τ 9 0 22) * (gI τ 9 0 23))) 9 0 3 (gI τ 9 0 24)) 9 0 5 (gI τ 9 0 27) = τ1
            have q1 : ∀ a b c, ¬ (a = 9 ∧ b = 0 ∧ (c = 0 ∨ c = 1 ∨ c = 3 ∨ c = 5)) → gI τ1 a b c = gI τ a b c := fun a b c h => by rw [← ht1, gI_sI, if_neg (by omega), gI_sI, if_neg (by omega), gI_sI, if_neg (by omega), gI_sI, if_neg (by omega)]
            obtain ⟨τ2, x2, e2, f2, h2⟩ := m_c140 (K := fun v29 s30 => (l9_plate_170 (fun v31 s32 => (l9_plate_199 (fun v33 s34 => (some (gI (sI (sI (sI s34 9 0 8 0) 9 0 9 0) 9 0 11 0) 9 0 3, (sI (sI (sI s34 9 0 8 0) 9 0 9 0) 9 0 11 0)))) 300 0 s32)) 300 0 s30)) 30 0 300 τ1 rfl (by decide) (fun c h => by omega)
            obtain ⟨τ3, x3, e3, f3, h3'⟩ := m_c170 (K := fun v31 s32 => (l9_plate_199 (fun v33 s34 => (some (gI (sI (sI (sI s34 9 0 8 0) 9 0 9 0) 9 0 11 0) 9 0 3, (sI (sI (sI s34 9 0 8 0) 9 0 9 0) 9 0 11 0)))) 300 0 s32)) 5 0 300 τ2 rfl (by decide) (fun c h => by omega)
            obtain ⟨τ4, x4, e4', ⟨f4, f4'⟩, h4⟩ := m_c199 (K := fun v33 s34 => (some (gI (sI (sI (sI s34 9 0 8 0) 9 0 9 0) 9 0 11 0) 9 0 3, (sI (sI (sI s34 9 0 8 0) 9 0 9 0) 9 0 11 0)))) 2 0 300 τ3 rfl (by decide) (fun c h => by omega)
            have k4 : ∀ a b c, ¬ ((a = 24 ∨ a = 25 ∨ a = 26 ∨ a = 27) ∧ b = 0) → gI τ4 a b c = gI τ1 a b c := fun a b c h => by rw [f4' a b c (by omega), f3.2 a b c (by omega), f2.2 a b c (by omega)]
            generalize ht5 : sI (sI (sI τ4 9 0 8 0) 9 0 9 0) 9 0 11 0 = τ5
            have q5 : ∀ a b c, ¬ (a = 9 ∧ b = 0 ∧ (c = 8 ∨ c = 9 ∨ c = 11)) → gI τ5 a b c = gI τ4 a b c := fun a b c h => by rw [← ht5, gI_sI, if_neg (by omega), gI_sI, if_neg (by omega), gI_sI, if_neg (by omega)]
            have all : ∀ a b c, ¬ (a = 9 ∧ b = 0 ∧ (c = 0 ∨ c = 1 ∨ c = 3 ∨ c = 5 ∨ c = 8 ∨ c = 9 ∨ c = 11)) → ¬ ((a = 24 ∨ a = 25 ∨ a = 26 ∨ a = 27) ∧ b = 0) → gI τ5 a b c = gI τ a b c := fun a b c h1 h2 => by rw [q5 a b c (by omega), k4 a b c h2, q1 a b c (by omega)]
            have y0 : gI τ5 9 0 0 = iN (pW S') := by rw [q5 _ _ _ (by omega), k4 _ _ _ (by omega), ← ht1, gI_sI, if_neg (by omega), gI_sI, if_neg (by omega), gI_sI, if_neg (by omega), gI_sI, if_pos ⟨rfl, rfl, rfl⟩]; exact w23
            have y1 : gI τ5 9 0 1 = iN (pH S' * pW S') := by rw [q5 _ _ _ (by omega), k4 _ _ _ (by omega), ← ht1, gI_sI, if_neg (by omega), gI_sI, if_neg (by omega), gI_sI, if_pos ⟨rfl, rfl, rfl⟩, w22, w23, iN_mul]
            have y3 : gI τ5 9 0 3 = iN (pP S') := by rw [q5 _ _ _ (by omega), k4 _ _ _ (by omega), ← ht1, gI_sI, if_neg (by omega), gI_sI, if_pos ⟨rfl, rfl, rfl⟩]; exact p3
            have y5 : gI τ5 9 0 5 = iN (pM S') := by rw [q5 _ _ _ (by omega), k4 _ _ _ (by omega), ← ht1, gI_sI, if_pos ⟨rfl, rfl, rfl⟩]; exact p4
            have y8 : gI τ5 9 0 8 = 0 := by rw [← ht5, gI_sI, if_neg (by omega), gI_sI, if_neg (by omega), gI_sI, if_pos ⟨rfl, rfl, rfl⟩]
            have y9 : gI τ5 9 0 9 = 0 := by rw [← ht5, gI_sI, if_neg (by omega), gI_sI, if_pos ⟨rfl, rfl, rfl⟩]
            have y11 : gI τ5 9 0 11 = 0 := by rw [← ht5, gI_sI, if_pos ⟨rfl, rfl, rfl⟩]
            have y24 : ∀ c, c < 30 → gI τ5 24 0 c = gI τ 35 0 c := fun c hc => by rw [q5 _ _ _ (by omega), f4' _ _ _ (by omega), f3.2 _ _ _ (by omega), h2 c hc, q1 _ _ _ (by omega)]
            have y25 : ∀ c, c < 5 → gI τ5 25 0 c = gI τ 36 0 c := fun c hc => by rw [q5 _ _ _ (by omega), f4' _ _ _ (by omega), h3' c hc, f2.2 _ _ _ (by omega), q1 _ _ _ (by omega)]
            have y26 : ∀ c, c < 2 → gI τ5 26 0 c = gI τ 37 0 c := fun c hc => by rw [q5 _ _ _ (by omega), (h4 c hc).1, f3.2 _ _ _ (by omega), f2.2 _ _ _ (by omega), q1 _ _ _ (by omega)]
            have y27 : ∀ c, c < 2 → gI τ5 27 0 c = gI τ 38 0 c := fun c hc => by rw [q5 _ _ _ (by omega), (h4 c hc).2, f3.2 _ _ _ (by omega), f2.2 _ _ _ (by omega), q1 _ _ _ (by omega)]
            have hL := Iv_L hI
            have z26 : ∀ e, e < pM S' → gI τ5 26 0 e = iN (S'.2.2.1 e) := fun e he => by rw [y26 e (by omega)]; exact p8 e (by omega)
            have z27 : ∀ e, e < pM S' → gI τ5 27 0 e = iN (S'.2.2.2.1 e) := fun e he => by rw [y27 e (by omega)]; exact p9 e he
            refine ⟨iN (pP S'), s3, τ5, plA A S', E8, ⟨Or.inl hl, ⟨Nat.zero_le _, fun k' hk' => absurd (show k' < 0 from hk') (Nat.not_lt_zero _)⟩, hw.2.2⟩, ⟨1 - t, ?_⟩, fc, fun hM => ⟨m0 s3 hM _ ?_, ⟨?_, fun a b c h => ?_⟩, ?_⟩⟩
            · refine ⟨⟨by omega, ?_⟩, hX.fs b3, ⟨?_, fun x hx => ?_⟩, fun e he => ?_, ?_, ⟨?_, fun k' hk' => absurd (show k' < 0 from hk') (Nat.not_lt_zero _)⟩, fun _ => b2, fun k' hk' => ?_, ⟨?_, ?_⟩, fun j => ?_, fun j => ?_⟩
              · rw [b3.1.2 _ _ _ (by omega), t81, show 1 - (1 - t) = t by omega]
              · rw [fin _ _ _ (by omega) (by omega)]; exact d8.1
              · rw [fin _ _ _ (by omega) (by omega)]; exact d8.2 x hx
              · exact (ekB e he).frame (b3.1.2 _ _ _ (by omega)) (fun c a b hc => b3.2 c a b (by omega))
              · rw [b3.2 _ _ _ (by omega)]; exact v2
              · rw [b3.2 _ _ _ (by omega)]; exact v7
              · obtain ⟨w1, w2, w3⟩ := hC.2.2.2.2.2.2.2.1 k' hk'
                have e4a : ∀ b c, gI s3 4 b c = gI σ 4 b c := fun b c => by rw [fin _ _ _ (by omega) (by omega), s1I _ _ _ (by omega) (by omega) (by omega)]
                refine ⟨fun h => ?_, fun h => ?_, fun j hj => ?_⟩
                · rw [e4a]; exact w1 h
                · rw [e4a, e4a]; exact w2 h
                · rw [fin _ _ _ (by omega) (by omega), s1I _ _ _ (by omega) (by omega) (by omega)]; exact w3 j hj
              · rw [fin _ _ _ (by omega) (by omega), s1I _ _ _ (by omega) (by omega) (by omega)]; exact tr
              · rw [fin _ _ _ (by omega) (by omega), g2.2 _ _ _ (by omega) (by omega)]; exact gI_f
              · rw [fin _ _ _ (by omega) (by omega), s1I _ _ _ (by omega) (by omega) (by omega)]; exact hC.2.2.2.2.2.2.2.2.2.1 j
              · rw [fin _ _ _ (by omega) (by omega), s1I _ _ _ (by omega) (by omega) (by omega)]; exact hC.2.2.2.2.2.2.2.2.2.2 j
            · rw [u1, bI_some, if_neg (by decide), ht1]
              refine (e2.trans (e3.trans e4')).trans ?_
              show some (gI (sI (sI (sI τ4 9 0 8 0) 9 0 9 0) 9 0 11 0) 9 0 3, sI (sI (sI τ4 9 0 8 0) 9 0 9 0) 9 0 11 0) = _
              rw [ht5, y3]
            · rw [← ht5]
              show τ4.2 = _
              rw [f4, f3.1, f2.1, ← ht1]
              exact u4.1
            · rw [all a b c (by omega) (by omega), fr a b c (by omega) (by omega)]
            · refine ⟨⟨⟨y0, y1, fun c hc => ?_⟩, ⟨y5, fun e he => ?_⟩, y3, fun p hp => ?_, y9, fun k' hk' => absurd (show k' < 0 from hk') (Nat.not_lt_zero _)⟩, fun e he => ⟨z26 e he, z27 e he⟩, y8, ⟨y11, fun k' hk' => absurd (show k' < 0 from hk') (Nat.not_lt_zero _)⟩, ⟨fun k' hk' => ?_, fun j hj => ?_⟩, ?_, ?_⟩
              · have hc : c < pH S' * pW S' := hc
                rw [y24 c (by omega)]; exact p6 c (by omega)
              · have he : e < pM S' := he
                rw [z26 e he, z27 e he, eF e he]
                have k3 := hI.2.2.2.2.2.2.2.2.1 e (by omega)
                rcases (show S'.2.2.1 e = 0 ∨ S'.2.2.1 e = 1 ∨ S'.2.2.1 e = 2 by omega) with h | h | h
                · rw [h, if_pos rfl]; exact Or.inl ⟨rfl, rfl⟩
                · rw [h, if_neg (by decide), if_pos rfl, iN_add1]; exact Or.inr (Or.inl ⟨rfl, rfl⟩)
                · rw [h, if_neg (by decide), if_neg (by decide), iN_add1, show (2 : Int32) = iN 2 from rfl, iN_mul]; exact Or.inr (Or.inr ⟨rfl, rfl⟩)
              · have hp : p < pP S' := hp
                rw [y25 p (by omega)]; exact p7 p hp
              · rw [all _ _ _ (by omega) (by omega), all _ _ _ (by omega) (by omega), fr _ _ _ (by omega) (by omega), fr _ _ _ (by omega) (by omega)]
                exact hM.2.2.2.2.1.1 k' hk'
              · rw [all _ _ _ (by omega) (by omega), fr _ _ _ (by omega) (by omega)]
                exact hM.2.2.2.2.1.2 j hj
              · rw [all _ _ _ (by omega) (by omega), fr _ _ _ (by omega) (by omega)]; exact hM.2.2.2.2.2.1
              · rw [all _ _ _ (by omega) (by omega), u4.2 _ _ _ (by omega) (by omega), gI_sI, if_neg (by omega), gI_sI, if_neg (by omega), gI_sI, if_pos ⟨rfl, rfl, rfl⟩]
                rfl
      · refine any_tf hw hC hM (tf_fin hC (-10 - fcA A k (iN l) a3 a4) (fcA A k (iN l) a3 a4) _ (Or.inr rfl) (c0 _ ?_) (fun hM => ?_))
        · unfold f8_failed
          rw [c_faultC hk hs0 hw.2.2, bI_some, if_neg hf, bI_some]
        · unfold f9_plate f9_fails
          rw [m_sheet_in hk, bI_some, if_neg (by decide), m_lane_in hl3, bI_some, if_neg (by decide), m_faultC hk hM.2.2.2.2.1 hw.2.2, bI_some, if_neg hf, bI_some]
    · refine any_tf hw hC hM (tf_fin hC (-2) 0 _ (Or.inl ⟨rfl, rfl⟩) ?_ (fun hM => ?_))
      · unfold f8_plate
        rw [c_sheet_in hk, bI_some, rcs_some, if_pos rfl, show (3 : Int32) = iN 3 from rfl, isBelow_out _ hx, bI_some, if_pos rfl]
      · unfold f9_plate f9_refused
        rw [m_sheet_in hk, bI_some, if_neg (by decide), m_lane_out hx, bI_some, if_pos rfl, bI_some]
  · refine any_tf hw hC hM (tf_fin hC (-1) 0 _ (Or.inl ⟨rfl, rfl⟩) ?_ (fun hM => ?_))
    · unfold f8_plate
      rw [c_sheet_out hx, bI_some, rcs_none]
    · unfold f9_plate f9_refused
      rw [m_sheet_out hx, bI_some, if_pos rfl, bI_some])
