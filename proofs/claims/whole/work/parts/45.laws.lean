/-! readings that are so -/
def soF (A : AS) (P : Nat → Nat) : Nat → Nat → Bool
  | 0, _ => true
  | f + 1, j => if spI (P (A.1 5 j)) = A.2 2 j then soF A P f (j + 1) else false
def soB (A : AS) (P : Nat → Nat) : Bool := soF A P (aR A) 0
theorem c_soL {σ : Sto} {i t v : Nat} {A : AS} {P : Nat → Nat} (hn : aN A ≤ 5) (hR : wfR A) (hr : RCr σ A) (hS : CS σ i t v P) : ∀ f j k, j + f = aR A → f < k → l8_readingsAreSo_2 i k (iN j) σ = some (b2i (soF A P f j), σ)
  | f, j, 0, _, hk => by omega
  | 0, j, k + 1, hj, hk => by
    have := hR.1
    show (if gI σ 8 0 7 ≤ iN j then _ else _) = _
    rw [hr.1, if_pos ((iN_le (by omega) (by omega)).mpr (by omega))]
    rfl
  | f + 1, j, k + 1, hj, hk => by
    have := hR.1
    have q := hR.2 j (by omega)
    have ix : Ix (iN j) 8 := (iN_Ix (by omega)).mpr (by omega)
    show (if gI σ 8 0 7 ≤ iN j then _ else _) = _
    rw [hr.1, if_neg (by rw [iN_le (by omega) (by omega)]; omega), if_pos ix, show gI σ 21 0 (iN j).toNatClampNeg = iN (A.1 5 j) from by rw [iN_nat (by omega), (hr.2 j (by omega)).1], c_spotOf hS (by omega), bI_some, if_pos ix, show gI σ 22 0 (iN j).toNatClampNeg = A.2 2 j from by rw [iN_nat (by omega), (hr.2 j (by omega)).2], iN_add1]
    show _ = some (b2i (if spI (P (A.1 5 j)) = A.2 2 j then soF A P f (j + 1) else false), σ)
    by_cases e : spI (P (A.1 5 j)) = A.2 2 j
    · rw [if_pos e, if_pos e]; exact c_soL hn hR hr hS f (j + 1) k (by omega) (by omega)
    · rw [if_neg e, if_neg e]; rfl
theorem c_so {σ : Sto} {i t v : Nat} {A : AS} {P : Nat → Nat} (hn : aN A ≤ 5) (hR : wfR A) (hr : RCr σ A) (hS : CS σ i t v P) : f8_readingsAreSo i σ = some (b2i (soB A P), σ) := c_soL hn hR hr hS (aR A) 0 300 (by omega) (by have := hR.1; omega)
theorem m_soL0 {σ : Sto} {A : AS} (hn : aN A ≤ 5) (hR : wfR A) (hr : RMr σ A) : ∀ f j k, j + f = aR A → f < k → l9_areSo_4 k 0 (iN j) σ = some (0, σ)
  | f, j, 0, _, hk => by omega
  | 0, j, k + 1, hj, hk => by
    have := hR.1
    show (if gI σ 9 0 11 ≤ iN j then _ else _) = _
    rw [hr.1, if_pos ((iN_le (by omega) (by omega)).mpr (by omega)), if_pos (Or.inl rfl)]
  | f + 1, j, k + 1, hj, hk => by
    have := hR.1
    have q := hR.2 j (by omega)
    have ix : Ix (iN j) 8 := (iN_Ix (by omega)).mpr (by omega)
    show (if gI σ 9 0 11 ≤ iN j then _ else _) = _
    rw [hr.1, if_neg (by rw [iN_le (by omega) (by omega)]; omega), if_pos ix, show gI σ 29 0 (iN j).toNatClampNeg = iN (A.1 5 j) from by rw [iN_nat (by omega), (hr.2 j (by omega)).1], if_pos ((iN_Ix (by omega)).mpr (by omega)), if_pos rfl, iN_add1]
    exact m_soL0 hn hR hr f (j + 1) k (by omega) (by omega)
theorem m_soL {σ : Sto} {v : Nat} {A : AS} {P : Nat → Nat} (hn : aN A ≤ 5) (h30 : (aB A).1 * (aB A).2.1 ≤ 30) (hR : wfR A) (hr : RMr σ A) (hS : MS σ (aN A) v P) : ∀ f j k, j + f = aR A → f < k → l9_areSo_4 k 1 (iN j) σ = some (b2i (soF A P f j), σ)
  | f, j, 0, _, hk => by omega
  | 0, j, k + 1, hj, hk => by
    have := hR.1
    show (if gI σ 9 0 11 ≤ iN j then _ else _) = _
    rw [hr.1, if_pos ((iN_le (by omega) (by omega)).mpr (by omega)), if_pos (Or.inr rfl)]
    rfl
  | f + 1, j, k + 1, hj, hk => by
    have := hR.1
    have q := hR.2 j (by omega)
    have ix : Ix (iN j) 8 := (iN_Ix (by omega)).mpr (by omega)
    have ih := m_soL hn h30 hR hr hS f (j + 1) k (by omega) (by omega)
    have i0 := m_soL0 hn hR hr f (j + 1) k (by omega) (by omega)
    have e29 : gI σ 29 0 (iN j).toNatClampNeg = iN (A.1 5 j) := by rw [iN_nat (by omega), (hr.2 j (by omega)).1]
    have e30 : gI σ 30 0 (iN j).toNatClampNeg = A.2 2 j := by rw [iN_nat (by omega), (hr.2 j (by omega)).2]
    have e39 : gI σ 39 0 (iN (A.1 5 j)).toNatClampNeg = atI (P (A.1 5 j)) := by rw [iN_nat (by omega), hS.2.2 _ q.1]
    show (if gI σ 9 0 11 ≤ iN j then _ else _) = _
    rw [hr.1, if_neg (by rw [iN_le (by omega) (by omega)]; omega), if_pos ix, e29, if_pos ((iN_Ix (by omega)).mpr (by omega)), if_neg (by decide), e39, if_pos ix, if_pos ix, e30, iN_add1, ih, i0]
    show _ = some (b2i (if spI (P (A.1 5 j)) = A.2 2 j then soF A P f (j + 1) else false), σ)
    by_cases on : P (A.1 5 j) < 30
    · rw [if_pos (atI_le.mpr on), atI_lt on, spI_lt on]
      by_cases e : A.2 2 j = iN (P (A.1 5 j))
      · rw [if_pos e, if_pos e.symm]
      · rw [if_neg e, if_neg (fun z => e z.symm)]; rfl
    · rw [if_neg (mt atI_le.mp on), spI_ge on]
      by_cases e : A.2 2 j = -9
      · rw [if_pos e, if_pos e.symm]
      · rw [if_neg e, if_neg (fun z => e z.symm)]; rfl
theorem m_so {σ : Sto} {v : Nat} {A : AS} {P : Nat → Nat} (hn : aN A ≤ 5) (h30 : (aB A).1 * (aB A).2.1 ≤ 30) (hR : wfR A) (hr : RMr σ A) (hS : MS σ (aN A) v P) : f9_areSo σ = some (b2i (soB A P), σ) := m_soL hn h30 hR hr hS (aR A) 0 300 (by omega) (by have := hR.1; omega)
/-! laws -/
theorem c_lawsL {t : Nat} {A : AS} (hl : laid A) (hR : wfR A) : ∀ (f j k : Nat) (a : Int32) (σ : Sto), j + f = 3 → f < k → CX σ t A → RCr σ A → ∃ σ', l8_laws_17 k a (iN j) σ = some (bsF (fun v => soB A (aRun A v (-9) (aK A))) f j a, σ') ∧ FS 1 σ σ'
  | f, j, 0, _, _, _, hk, _, _ => by omega
  | 0, j, k + 1, a, σ, hj, hk, hX, hr => by
    refine ⟨σ, ?_, FS.rfl⟩
    show (if 3 ≤ iN j then _ else _) = _
    rw [if_pos (by rw [show (3 : Int32) = iN 3 from rfl, iN_le (by omega) (by omega)]; omega)]
    rfl
  | f + 1, j, k + 1, a, σ, hj, hk, hX, hr => by
    obtain ⟨s1, g1, g2, g3⟩ := c_replay (i := 1) (v := j) (but := -9) hl (by omega) hX
    show ∃ σ', (if 3 ≤ iN j then _ else _) = _ ∧ _
    rw [if_neg (by rw [show (3 : Int32) = iN 3 from rfl, iN_le (by omega) (by omega)]; omega), g1, bV_some, c_so hl.2.2.1 hR (hr.fs g3) g2, bI_some, b2i_ite, iN_add1]
    show ∃ σ', _ = some (bsF _ f (j + 1) (if soB A (aRun A j (-9) (aK A)) = true then _ else a), σ') ∧ _
    by_cases e : soB A (aRun A j (-9) (aK A)) = true
    · rw [if_pos e, if_pos e]
      obtain ⟨s2, r1, r2⟩ := c_lawsL hl hR f (j + 1) k (a ||| (1 <<< (iN j &&& 31))) s1 (by omega) (by omega) (hX.fs g3) (hr.fs g3)
      exact ⟨s2, r1, g3.trans r2⟩
    · rw [if_neg e, if_neg e]
      obtain ⟨s2, r1, r2⟩ := c_lawsL hl hR f (j + 1) k a s1 (by omega) (by omega) (hX.fs g3) (hr.fs g3)
      exact ⟨s2, r1, g3.trans r2⟩
/-- as FP, but for the law -/
def FL (σ σ' : Sto) : Prop := σ'.2 = σ.2 ∧ ∀ k a b, ¬ (34 ≤ k ∧ k < 42) → ¬ (k = 9 ∧ a = 0 ∧ b = 8) → gI σ' k a b = gI σ k a b
theorem FL.trans {a b c : Sto} (h1 : FL a b) (h2 : FL b c) : FL a c := ⟨h2.1.trans h1.1, fun k i j h h' => (h2.2 k i j h h').trans (h1.2 k i j h h')⟩
theorem FP.fl {σ σ' : Sto} (h : FP σ σ') : FL σ σ' := ⟨h.1, fun k a b hk _ => h.2 k a b hk⟩
theorem FL_8 {σ : Sto} {x : Int32} : FL σ (sI σ 9 0 8 x) := ⟨rfl, fun k a b _ h => by rw [gI_sI, if_neg (by omega)]⟩
theorem MX.fl {σ σ' : Sto} {A : AS} (h : FL σ σ') (hX : MX σ A) : MX σ' A := by
  obtain ⟨⟨x1, x2, x3⟩, ⟨x4, x5⟩, x6, x7, x8, x9⟩ := hX
  refine ⟨⟨?_, ?_, fun c hc => ?_⟩, ⟨?_, fun e he => ?_⟩, ?_, fun p hp => ?_, ?_, fun k hk => ?_⟩
  · rw [h.2 _ _ _ (by omega) (by omega)]; exact x1
  · rw [h.2 _ _ _ (by omega) (by omega)]; exact x2
  · rw [h.2 _ _ _ (by omega) (by omega)]; exact x3 c hc
  · rw [h.2 _ _ _ (by omega) (by omega)]; exact x4
  · rw [h.2 26 _ _ (by omega) (by omega), h.2 27 _ _ (by omega) (by omega)]; exact x5 e he
  · rw [h.2 _ _ _ (by omega) (by omega)]; exact x6
  · rw [h.2 _ _ _ (by omega) (by omega)]; exact x7 p hp
  · rw [h.2 _ _ _ (by omega) (by omega)]; exact x8
  · rw [h.2 _ _ _ (by omega) (by omega)]; exact x9 k hk
theorem RMr.fl {σ σ' : Sto} {A : AS} (h : FL σ σ') (hr : RMr σ A) : RMr σ' A := by
  obtain ⟨m3, m4⟩ := hr
  refine ⟨?_, fun k hk => ?_⟩
  · rw [h.2 _ _ _ (by omega) (by omega)]; exact m3
  · rw [h.2 29 _ _ (by omega) (by omega), h.2 30 _ _ (by omega) (by omega)]; exact m4 k hk
theorem m_lawsL {own : Int32} {A : AS} (hl : laid A) (hR : wfR A) : ∀ (f j k : Nat) (a : Int32) (σ : Sto), j + f = 3 → f < k → MX σ A → RMr σ A → ∃ σ', l9_laws_19 own k a (iN j) σ = some (bsF (fun v => soB A (aRun A v (-9) (aK A))) f j a, σ') ∧ FL σ σ' ∧ gI σ' 9 0 8 = own
  | f, j, 0, _, _, _, hk, _, _ => by omega
  | 0, j, k + 1, a, σ, hj, hk, hX, hr => by
    refine ⟨sI σ 9 0 8 own, ?_, FL_8, by rw [gI_sI, if_pos (by decide)]⟩
    show (if 3 ≤ iN j then _ else _) = _
    rw [if_pos (by rw [show (3 : Int32) = iN 3 from rfl, iN_le (by omega) (by omega)]; omega)]
    rfl
  | f + 1, j, k + 1, a, σ, hj, hk, hX, hr => by
    have l8 : FL σ (sI σ 9 0 8 (iN j)) := FL_8
    obtain ⟨s1, g1, g2, g3⟩ := m_go (v := j) (but := -1) hl (by omega) (hX.fl l8) (by rw [gI_sI, if_pos (by decide)])
    rw [run_no (b2 := -9) (by decide) (by decide) (aK A) hl.2.2.2.2.2.1] at g2
    have l9 := l8.trans g3.fp.fl
    show ∃ σ', (if 3 ≤ iN j then _ else _) = _ ∧ _
    rw [if_neg (by rw [show (3 : Int32) = iN 3 from rfl, iN_le (by omega) (by omega)]; omega), g1, bV_some, m_so hl.2.2.1 (okB_30 hl.1) hR (hr.fl l9) g2, bI_some, b2i_ite, iN_add1, Int32.or_zero]
    show ∃ σ', _ = some (bsF _ f (j + 1) (if soB A (aRun A j (-9) (aK A)) = true then _ else a), σ') ∧ _
    by_cases e : soB A (aRun A j (-9) (aK A)) = true
    · rw [if_pos e, if_pos e]
      obtain ⟨s2, r1, r2, r3⟩ := m_lawsL (own := own) hl hR f (j + 1) k (a ||| (1 <<< (iN j &&& 31))) s1 (by omega) (by omega) (hX.fl l9) (hr.fl l9)
      exact ⟨s2, r1, l9.trans r2, r3⟩
    · rw [if_neg e, if_neg e]
      obtain ⟨s2, r1, r2, r3⟩ := m_lawsL (own := own) hl hR f (j + 1) k a s1 (by omega) (by omega) (hX.fl l9) (hr.fl l9)
      exact ⟨s2, r1, l9.trans r2, r3⟩
theorem both_laws : Both (fun σ => f8_laws σ) (fun σ => f9_laws σ) := Both.go (fun σ A t hw hC hM => by
  show ∃ r σ1, f8_laws σ = some (r, σ1) ∧ Agr σ σ1 ∧ FC σ σ1 ∧ (RM σ1 A → ∃ σ2, f9_laws σ1 = some (r, σ2) ∧ FP σ1 σ2)
  unfold f8_laws
  rw [hC.2.1.1, dr_some]
  rcases hw.1 with hl | hl
  · obtain ⟨s1, g1, g2⟩ := c_lawsL hl hw.2.1 3 0 300 0 σ rfl (by decide) hC.2.1 hC.2.2.2.2.2.1
    refine ⟨bsF (fun v => soB A (aRun A v (-9) (aK A))) 3 0 0, s1, ?_, g2.agr (by decide), g2.fc, fun hM => ?_⟩
    · rw [c_laid hl hC.2.1.2.2.1.2, bI_some, if_neg (by decide)]
      exact g1
    · obtain ⟨s2, r1, r2, r3⟩ := m_lawsL (own := gI s1 9 0 8) hl hw.2.1 3 0 300 0 s1 rfl (by decide) hM.1 hM.2.2.2.1
      refine ⟨s2, ?_, r2.1, fun k a b hk => ?_⟩
      · unfold f9_laws
        rw [if_neg (m_laid hl hM.1.1.2.1)]
        exact r1
      · by_cases q : k = 9 ∧ a = 0 ∧ b = 8
        · rw [q.1, q.2.1, q.2.2]; exact r3
        · exact r2.2 k a b hk q
  · refine ⟨-3, σ, ?_, Agr.rfl, FC.rfl, fun hM => ⟨σ, ?_, FP.rfl⟩⟩
    · rw [c_unlaid hl hC.2.1.2.2.1.2, bI_some, if_pos rfl]
    · unfold f9_laws
      rw [if_pos (m_unlaid hl hM.1.1.2.1)])
/-! never -/
theorem c_neverL {t : Nat} {A : AS} (hl : laid A) (hR : wfR A) : ∀ (f j k : Nat) (a : Int32) (σ : Sto), j + f = aK A → f < k → CX σ t A → RCr σ A → gI σ 8 0 2 = iN (aV A) → ∃ σ', l8_never_17 k a (iN j) σ = some (bsF (fun x => soB A (aRun A (aV A) (iN x) (aK A))) f j a, σ') ∧ FS 1 σ σ'
  | f, j, 0, _, _, _, hk, _, _, _ => by omega
  | 0, j, k + 1, a, σ, hj, hk, hX, hr, h2 => by
    have hK := hl.2.2.2.2.2.1
    refine ⟨σ, ?_, FS.rfl⟩
    show (if gI σ 8 0 4 ≤ iN j then _ else _) = _
    rw [hX.2.2.2.2.2.1, if_pos ((iN_le (by omega) (by omega)).mpr (by omega))]
    rfl
  | f + 1, j, k + 1, a, σ, hj, hk, hX, hr, h2 => by
    have hK := hl.2.2.2.2.2.1
    obtain ⟨s1, g1, g2, g3⟩ := c_replay (i := 1) (v := aV A) (but := iN j) hl hl.2.2.2.2.2.2.2 hX
    have h2' : gI s1 8 0 2 = iN (aV A) := by rw [g3.2 _ _ _ (by omega)]; exact h2
    show ∃ σ', (if gI σ 8 0 4 ≤ iN j then _ else _) = _ ∧ _
    rw [hX.2.2.2.2.2.1, if_neg (by rw [iN_le (by omega) (by omega)]; omega), h2, g1, bV_some, c_so hl.2.2.1 hR (hr.fs g3) g2, bI_some, b2i_ite, iN_add1]
    show ∃ σ', _ = some (bsF _ f (j + 1) (if soB A (aRun A (aV A) (iN j) (aK A)) = true then _ else a), σ') ∧ _
    by_cases e : soB A (aRun A (aV A) (iN j) (aK A)) = true
    · rw [if_pos e, if_pos e]
      obtain ⟨s2, r1, r2⟩ := c_neverL hl hR f (j + 1) k (a ||| (1 <<< (iN j &&& 31))) s1 (by omega) (by omega) (hX.fs g3) (hr.fs g3) h2'
      exact ⟨s2, r1, g3.trans r2⟩
    · rw [if_neg e, if_neg e]
      obtain ⟨s2, r1, r2⟩ := c_neverL hl hR f (j + 1) k a s1 (by omega) (by omega) (hX.fs g3) (hr.fs g3) h2'
      exact ⟨s2, r1, g3.trans r2⟩
theorem m_neverL {A : AS} (hl : laid A) (hR : wfR A) : ∀ (f j k : Nat) (a : Int32) (σ : Sto), j + f = aK A → f < k → MX σ A → RMr σ A → gI σ 9 0 8 = iN (aV A) → ∃ σ', l9_never_14 k a (iN j) σ = some (bsF (fun x => soB A (aRun A (aV A) (iN x) (aK A))) f j a, σ') ∧ FM σ σ'
  | f, j, 0, _, _, _, hk, _, _, _ => by omega
  | 0, j, k + 1, a, σ, hj, hk, hX, hr, h8 => by
    have hK := hl.2.2.2.2.2.1
    refine ⟨σ, ?_, FM.rfl⟩
    show (if gI σ 9 0 9 ≤ iN j then _ else _) = _
    rw [hX.2.2.2.2.1, if_pos ((iN_le (by omega) (by omega)).mpr (by omega))]
    rfl
  | f + 1, j, k + 1, a, σ, hj, hk, hX, hr, h8 => by
    have hK := hl.2.2.2.2.2.1
    obtain ⟨s1, g1, g2, g3⟩ := m_go (v := aV A) (but := iN j) hl hl.2.2.2.2.2.2.2 hX h8
    have h8' : gI s1 9 0 8 = iN (aV A) := by rw [g3.2 _ _ _ (by omega)]; exact h8
    show ∃ σ', (if gI σ 9 0 9 ≤ iN j then _ else _) = _ ∧ _
    rw [hX.2.2.2.2.1, if_neg (by rw [iN_le (by omega) (by omega)]; omega), g1, bV_some, m_so hl.2.2.1 (okB_30 hl.1) hR (hr.fp g3.fp) g2, bI_some, b2i_ite, iN_add1, Int32.or_zero]
    show ∃ σ', _ = some (bsF _ f (j + 1) (if soB A (aRun A (aV A) (iN j) (aK A)) = true then _ else a), σ') ∧ _
    by_cases e : soB A (aRun A (aV A) (iN j) (aK A)) = true
    · rw [if_pos e, if_pos e]
      obtain ⟨s2, r1, r2⟩ := m_neverL hl hR f (j + 1) k (a ||| (1 <<< (iN j &&& 31))) s1 (by omega) (by omega) (hX.fm g3) (hr.fp g3.fp) h8'
      exact ⟨s2, r1, g3.trans r2⟩
    · rw [if_neg e, if_neg e]
      obtain ⟨s2, r1, r2⟩ := m_neverL hl hR f (j + 1) k a s1 (by omega) (by omega) (hX.fm g3) (hr.fp g3.fp) h8'
      exact ⟨s2, r1, g3.trans r2⟩
theorem both_never : Both (fun σ => f8_never σ) (fun σ => f9_never σ) := Both.go (fun σ A t hw hC hM => by
  show ∃ r σ1, f8_never σ = some (r, σ1) ∧ Agr σ σ1 ∧ FC σ σ1 ∧ (RM σ1 A → ∃ σ2, f9_never σ1 = some (r, σ2) ∧ FP σ1 σ2)
  unfold f8_never
  rw [hC.2.1.1, dr_some]
  rcases hw.1 with hl | hl
  · have hK := hl.2.2.2.2.2.1
    obtain ⟨s1, g1, g2⟩ := c_neverL hl hw.2.1 (aK A) 0 300 0 σ (by omega) (by omega) hC.2.1 hC.2.2.2.2.2.1 hC.2.2.2.2.1
    refine ⟨bsF (fun x => soB A (aRun A (aV A) (iN x) (aK A))) (aK A) 0 0, s1, ?_, g2.agr (by decide), g2.fc, fun hM => ?_⟩
    · rw [c_laid hl hC.2.1.2.2.1.2, bI_some, if_neg (by decide)]
      exact g1
    · obtain ⟨s2, r1, r2⟩ := m_neverL hl hw.2.1 (aK A) 0 300 0 s1 (by omega) (by omega) hM.1 hM.2.2.2.1 hM.2.2.1
      refine ⟨s2, ?_, r2.fp⟩
      unfold f9_never
      rw [if_neg (m_laid hl hM.1.1.2.1)]
      exact r1
  · refine ⟨-3, σ, ?_, Agr.rfl, FC.rfl, fun hM => ⟨σ, ?_, FP.rfl⟩⟩
    · rw [c_unlaid hl hC.2.1.2.2.1.2, bI_some, if_pos rfl]
    · unfold f9_never
      rw [if_pos (m_unlaid hl hM.1.1.2.1)])
/-! last -/
def okCb (n m c : Nat) : Bool := Nat.blt (c / 100) m && Nat.blt (c / 10 % 10) n && Nat.blt (c % 10) 4
theorem okCb_iff {n m c : Nat} : okCb n m c = true ↔ okC n m c := by
  unfold okCb okC
  simp only [Bool.and_eq_true, Nat.blt_eq, and_assoc]
def csF (n : Nat) : Nat → Nat → List Nat
  | 0, _ => []
  | f + 1, j => cAt n j :: csF n f (j + 1)
def mdF (n m : Nat) : Nat → Nat → List Nat
  | 0, _ => []
  | f + 1, c => if okCb n m c = true then c :: mdF n m f (c + 1) else mdF n m f (c + 1)
set_option maxRecDepth 4000 in
theorem codes_chk : ((List.range 6).all fun n => (List.range 3).all fun m => (csF n (4 * n * m) 0 == mdF n m 200 0) && ((List.range (4 * n * m)).all fun x => okCb n m (cAt n x))) = true := by decide +kernel
theorem codes_eq {n m : Nat} (hn : n ≤ 5) (hm : m ≤ 2) : csF n (4 * n * m) 0 = mdF n m 200 0 := by
  have := List.all_eq_true.mp (List.all_eq_true.mp codes_chk n (List.mem_range.mpr (by omega))) m (List.mem_range.mpr (by omega))
  simp only [Bool.and_eq_true, beq_iff_eq] at this
  exact this.1
theorem cAt_ok {n m x : Nat} (hn : n ≤ 5) (hm : m ≤ 2) (hx : x < 4 * n * m) : okC n m (cAt n x) := by
  have := List.all_eq_true.mp (List.all_eq_true.mp codes_chk n (List.mem_range.mpr (by omega))) m (List.mem_range.mpr (by omega))
  simp only [Bool.and_eq_true, beq_iff_eq] at this
  exact okCb_iff.mp (List.all_eq_true.mp this.2 x (List.mem_range.mpr hx))
theorem n40 {n m : Nat} (hn : n ≤ 5) (hm : m ≤ 2) : 4 * n * m ≤ 40 := Nat.mul_le_mul (show 4 * n ≤ 20 by omega) hm
theorem RCc.fs {i t : Nat} {σ σ' : Sto} {A : AS} (h : FS i σ σ') (hc : RCc σ t A) : RCc σ' t A := by
  refine ⟨?_, fun x hx => ?_⟩
  · rw [h.2 _ _ _ (by omega)]; exact hc.1
  · rw [h.2 _ _ _ (by omega)]; exact hc.2 x hx
def lastL (so : Nat → Bool) (a1 : Int32) : List Nat → Int32 → Int32
  | [], c => if a1 = -1 then c else -9
  | x :: xs, c => if so x = true then (if c = a1 then iN x else lastL so a1 xs (c + 1)) else lastL so a1 xs c
theorem c_lastL {t : Nat} {a1 : Int32} {A : AS} (hl : laid A) (hR : wfR A) : ∀ (f j k : Nat) (c : Int32) (σ : Sto), j + f = 4 * aN A * aM A → f < k → CX σ t A → RCr σ A → RCc σ t A → CS σ 0 t (aV A) (nowP A) → ∃ σ', l8_last_24 (fun v31 v32 s33 => (if a1 = (-1) then (some (v31, s33)) else (some ((-9), s33)))) a1 k c (iN j) σ = some (lastL (fun x => soB A (pushA (aB A) (aV A) (aF A) (nowP A) x)) a1 (csF (aN A) f j) c, σ') ∧ FS 1 σ σ'
  | f, j, 0, _, _, _, hk, _, _, _, _ => by omega
  | 0, j, k + 1, c, σ, hj, hk, hX, hr, hc, hS => by
    have h40 := n40 hl.2.2.1 hl.2.1.2
    refine ⟨σ, ?_, FS.rfl⟩
    show (dr 2 (gR σ 8 0 0) (fun i24 => (if (gI σ 2 i24 4) ≤ iN j then _ else _))) = _
    rw [hX.1, dr_some, hc.1, if_pos ((iN_le (by omega) (by omega)).mpr (by omega))]
    show (if a1 = -1 then some (c, σ) else some (-9, σ)) = some (if a1 = -1 then c else -9, σ)
    by_cases e : a1 = -1
    · rw [if_pos e, if_pos e]
    · rw [if_neg e, if_neg e]
  | f + 1, j, k + 1, c, σ, hj, hk, hX, hr, hc, hS => by
    have h40 := n40 hl.2.2.1 hl.2.1.2
    have okc := cAt_ok hl.2.2.1 hl.2.1.2 (show j < 4 * aN A * aM A by omega)
    have ix : Ix (iN j) 40 := (iN_Ix (by omega)).mpr (by omega)
    obtain ⟨s1, g1, g2, g3⟩ := c_copy (i := 1) (i' := 0) (by decide) hS
    obtain ⟨s2, k1, k2, k3⟩ := c_pushX (i := 1) hl hl.2.2.2.2.2.2.2 (hX.fs g3) okc (nowP_ok hl) g2
    have fs := g3.trans k3
    show ∃ σ', (dr 2 (gR σ 8 0 0) (fun i24 => (if (gI σ 2 i24 4) ≤ iN j then _ else _))) = _ ∧ _
    rw [hX.1, dr_some, hc.1, if_neg (by rw [iN_le (by omega) (by omega)]; omega), g1, bV_some, (hX.fs g3).1, dr_some, if_pos ix, show gI s1 10 t (iN j).toNatClampNeg = iN (cAt (aN A) j) from by rw [iN_nat (by omega), (hc.fs g3).2 j (by omega)], k1, bV_some, c_so hl.2.2.1 hR (hr.fs fs) k2, bI_some, b2i_ite, (hX.fs fs).1, dr_some, if_pos ix, show gI s2 10 t (iN j).toNatClampNeg = iN (cAt (aN A) j) from by rw [iN_nat (by omega), (hc.fs fs).2 j (by omega)], iN_add1]
    show ∃ σ', _ = some (if soB A (pushA (aB A) (aV A) (aF A) (nowP A) (cAt (aN A) j)) = true then (if c = a1 then iN (cAt (aN A) j) else lastL _ a1 (csF (aN A) f (j + 1)) (c + 1)) else lastL _ a1 (csF (aN A) f (j + 1)) c, σ') ∧ _
    by_cases e : soB A (pushA (aB A) (aV A) (aF A) (nowP A) (cAt (aN A) j)) = true
    · rw [if_pos e, if_pos e]
      by_cases ec : c = a1
      · rw [if_pos ec, if_pos ec]; exact ⟨s2, rfl, fs⟩
      · rw [if_neg ec, if_neg ec]
        obtain ⟨s3, r1, r2⟩ := c_lastL (a1 := a1) hl hR f (j + 1) k (c + 1) s2 (by omega) (by omega) (hX.fs fs) (hr.fs fs) (hc.fs fs) (hS.ot fs (by decide))
        exact ⟨s3, r1, fs.trans r2⟩
    · rw [if_neg e, if_neg e]
      obtain ⟨s3, r1, r2⟩ := c_lastL (a1 := a1) hl hR f (j + 1) k c s2 (by omega) (by omega) (hX.fs fs) (hr.fs fs) (hc.fs fs) (hS.ot fs (by decide))
      exact ⟨s3, r1, fs.trans r2⟩
theorem m_isCode {σ : Sto} {n m c : Nat} (hn : n ≤ 5) (hm : m ≤ 2) (h3 : gI σ 9 0 3 = iN n) (h5 : gI σ 9 0 5 = iN m) (hc : c < 200) : f9_isCode (iN c) σ = some (b2i (okCb n m c), σ) := by
  obtain ⟨k1, k2, k3⟩ := code_at hc
  unfold f9_isCode f9_eaterOf f9_peaOf
  rw [if_neg (iN_neg (by omega)), bI_some, k1]
  unfold okCb
  by_cases he : c / 100 < m
  · rw [m_isEa_in h5 hm he, bI_some, if_neg (by decide), bI_some, k2]
    by_cases hp : c / 10 % 10 < n
    · rw [m_isPea_in h3 hn hp, bI_some, if_neg (by decide), k3, show (4 : Int32) = iN 4 from rfl]
      by_cases hd : c % 10 < 4
      · rw [if_neg (by rw [iN_le (by omega) (by omega)]; omega), show (Nat.blt (c / 100) m && Nat.blt (c / 10 % 10) n && Nat.blt (c % 10) 4) = true from okCb_iff.mpr ⟨he, hp, hd⟩]
        rfl
      · rw [if_pos ((iN_le (by omega) (by omega)).mpr (by omega)), show Nat.blt (c % 10) 4 = false from Bool.eq_false_iff.mpr (fun q => hd (Nat.blt_eq ▸ q)), Bool.and_false]
        rfl
    · rw [m_isPea_out h3 hn (Or.inr ((iN_le (by omega) (by omega)).mpr (by omega))), bI_some, if_pos rfl, show Nat.blt (c / 10 % 10) n = false from Bool.eq_false_iff.mpr (fun q => hp (Nat.blt_eq ▸ q)), Bool.and_false, Bool.false_and]
      rfl
  · rw [m_isEa_out h5 hm (Or.inr ((iN_le (by omega) (by omega)).mpr (by omega))), bI_some, if_pos rfl, show Nat.blt (c / 100) m = false from Bool.eq_false_iff.mpr (fun q => he (Nat.blt_eq ▸ q)), Bool.false_and, Bool.false_and]
    rfl
theorem m_lastL {a1 : Int32} {A : AS} (hl : laid A) (hR : wfR A) : ∀ (f j k : Nat) (c : Int32) (σ : Sto), j + f = 200 → f < k → MX σ A → RMr σ A → MS σ (aN A) (aV A) (nowP A) → WS σ 0 (aN A) (nowP A) → ∃ σ', l9_last_31 (fun v29 v30 s31 => (if a1 = (-1) then (some (v29, s31)) else (some ((-9), s31)))) a1 k c (iN j) σ = some (lastL (fun x => soB A (pushA (aB A) (aV A) (aF A) (nowP A) x)) a1 (mdF (aN A) (aM A) f j) c, σ') ∧ FM σ σ'
  | f, j, 0, _, _, _, hk, _, _, _, _ => by omega
  | 0, j, k + 1, c, σ, hj, hk, hX, hr, hS, hW => by
    refine ⟨σ, ?_, FM.rfl⟩
    show (if 200 ≤ iN j then _ else _) = _
    rw [if_pos (by rw [show (200 : Int32) = iN 200 from rfl, iN_le (by omega) (by omega)]; omega)]
    show (if a1 = -1 then some (c, σ) else some (-9, σ)) = some (if a1 = -1 then c else -9, σ)
    by_cases e : a1 = -1
    · rw [if_pos e, if_pos e]
    · rw [if_neg e, if_neg e]
  | f + 1, j, k + 1, c, σ, hj, hk, hX, hr, hS, hW => by
    have hn := hl.2.2.1
    show ∃ σ', (if 200 ≤ iN j then _ else _) = _ ∧ _
    rw [if_neg (by rw [show (200 : Int32) = iN 200 from rfl, iN_le (by omega) (by omega)]; omega), m_isCode hn hl.2.1.2 hX.2.2.1 hX.2.1.1 (by omega), bI_some, b2i_ite, iN_add1]
    show ∃ σ', _ = some (lastL _ a1 (if okCb (aN A) (aM A) j = true then j :: mdF (aN A) (aM A) f (j + 1) else mdF (aN A) (aM A) f (j + 1)) c, σ') ∧ _
    by_cases eo : okCb (aN A) (aM A) j = true
    · rw [if_pos eo, if_pos eo]
      obtain ⟨s1, g1, g2, g3⟩ := m_pushX hl hl.2.2.2.2.2.2.2 hX (okCb_iff.mp eo) (nowP_ok hl) hS
      obtain ⟨s2, k1, k2, k3⟩ := m_load hn (by decide) g2 (hW.fm g3)
      have fm := g3.trans k3
      rw [g1, bV_some, m_so hn (okB_30 hl.1) hR (hr.fp g3.fp) g2, bI_some, show f9_load 0 s1 = some s2 from k1, bV_some, b2i_ite, b2i_ite]
      show ∃ σ', _ = some (if soB A (pushA (aB A) (aV A) (aF A) (nowP A) j) = true then (if c = a1 then iN j else lastL _ a1 (mdF (aN A) (aM A) f (j + 1)) (c + 1)) else lastL _ a1 (mdF (aN A) (aM A) f (j + 1)) c, σ') ∧ _
      by_cases e : soB A (pushA (aB A) (aV A) (aF A) (nowP A) j) = true
      · rw [if_pos e, if_pos e, if_pos e]
        by_cases ec : c = a1
        · rw [if_pos ec, if_pos ec]; exact ⟨s2, rfl, fm⟩
        · rw [if_neg ec, if_neg ec]
          obtain ⟨s3, r1, r2⟩ := m_lastL (a1 := a1) hl hR f (j + 1) k (c + 1) s2 (by omega) (by omega) (hX.fm fm) (hr.fp fm.fp) k2 (hW.fm fm)
          exact ⟨s3, r1, fm.trans r2⟩
      · rw [if_neg e, if_neg e, if_neg e, Int32.add_zero]
        obtain ⟨s3, r1, r2⟩ := m_lastL (a1 := a1) hl hR f (j + 1) k c s2 (by omega) (by omega) (hX.fm fm) (hr.fp fm.fp) k2 (hW.fm fm)
        exact ⟨s3, r1, fm.trans r2⟩
    · rw [if_neg eo, if_neg eo]
      exact m_lastL (a1 := a1) hl hR f (j + 1) k c σ (by omega) (by omega) hX hr hS hW
theorem both_last (a1 : Int32) : Both (f8_last a1) (f9_last a1) := Both.go (fun σ A t hw hC hM => by
  unfold f8_last f9_last
  by_cases h1 : -1 ≤ a1
  · rw [if_pos h1, hC.2.1.1, dr_some]
    rcases hw.1 with hl | hl
    · have h40 := n40 hl.2.2.1 hl.2.1.2
      obtain ⟨s1, g1, g2⟩ := c_lastL (a1 := a1) hl hw.2.1 (4 * aN A * aM A) 0 300 0 σ (by omega) (by omega) hC.2.1 hC.2.2.2.2.2.1 hC.2.2.1 (hC.2.2.2.2.2.2.1 hl)
      refine ⟨lastL (fun x => soB A (pushA (aB A) (aV A) (aF A) (nowP A) x)) a1 (csF (aN A) (4 * aN A * aM A) 0) 0, s1, ?_, g2.agr (by decide), g2.fc, fun hM => ?_⟩
      · rw [c_laid hl hC.2.1.2.2.1.2, bI_some, if_neg (by decide)]
        exact g1
      · obtain ⟨τ1, m1, m2, m3⟩ := m_now hl hM
        obtain ⟨τ2, n1, n2, n3⟩ := m_save (d := 0) hl.2.2.1 (by decide) m2
        have fp := m3.fp.trans n3.fp
        obtain ⟨τ3, r1, r2⟩ := m_lastL (a1 := a1) hl hw.2.1 200 0 300 0 τ2 rfl (by decide) (hM.1.fp fp) (hM.2.2.2.1.fp fp) (m2.fw n3) n2
        refine ⟨τ3, ?_, fp.trans r2.fp⟩
        rw [if_pos h1, if_neg (m_laid hl hM.1.1.2.1), m1, bV_some, show f9_save 0 τ1 = some τ2 from n1, bV_some, codes_eq hl.2.2.1 hl.2.1.2]
        exact r1
    · refine ⟨-3, σ, ?_, Agr.rfl, FC.rfl, fun hM => ⟨σ, ?_, FP.rfl⟩⟩
      · rw [c_unlaid hl hC.2.1.2.2.1.2, bI_some, if_pos rfl]
      · rw [if_pos h1, if_pos (m_unlaid hl hM.1.1.2.1)]
  · refine ⟨-1, σ, ?_, Agr.rfl, FC.rfl, fun hM => ⟨σ, ?_, FP.rfl⟩⟩
    · rw [if_neg h1]
    · rw [if_neg h1])
