/-! calls that read where peas are -/
theorem RM.fm {σ σ' : Sto} {A : AS} (h : FM σ σ') (hM : RM σ A) : RM σ' A := by
  obtain ⟨x, m1, m2, ⟨m3, m4⟩, ⟨m5, m6⟩, m7, m8⟩ := hM
  refine ⟨x.fm h, fun e he => ?_, ?_, ⟨?_, fun k hk => ?_⟩, ⟨fun k hk => ?_, fun j hj => ?_⟩, ?_, ?_⟩
  · rw [h.2 26 _ _ (by omega), h.2 27 _ _ (by omega)]; exact m1 e he
  · rw [h.2 _ _ _ (by omega)]; exact m2
  · rw [h.2 _ _ _ (by omega)]; exact m3
  · rw [h.2 29 _ _ (by omega), h.2 30 _ _ (by omega)]; exact m4 k hk
  · rw [h.2 31 _ _ (by omega), h.2 32 _ _ (by omega)]; exact m5 k hk
  · rw [h.2 _ _ _ (by omega)]; exact m6 j hj
  · rw [h.2 _ _ _ (by omega)]; exact m7
  · rw [h.2 _ _ _ (by omega)]; exact m8
theorem m_now {σ : Sto} {A : AS} (h : laid A) (hM : RM σ A) : ∃ σ', f9_goThrough (-1) σ = some σ' ∧ MS σ' (aN A) (aV A) (nowP A) ∧ FM σ σ' := by
  obtain ⟨σ', h1, h2, h3⟩ := m_go (but := -1) h h.2.2.2.2.2.2.2 hM.1 hM.2.2.1
  rw [run_no (b2 := -9) (by decide) (by decide) (aK A) h.2.2.2.2.2.1] at h2
  exact ⟨σ', h1, h2, h3⟩
theorem c_hasPea_in {σ : Sto} {t n j : Nat} (h : gI σ 2 t 2 = iN n) (hn : n ≤ 5) (hj : j < n) : f2_hasPea t (iN j) σ = some (1, σ) := by
  unfold f2_hasPea
  rw [h, isBelow_in σ (by omega) hj, bI_some, if_pos (Or.inr rfl)]
theorem c_hasPea_out {σ : Sto} {t n : Nat} {x : Int32} (h : gI σ 2 t 2 = iN n) (hx : x < 0 ∨ iN n ≤ x) : f2_hasPea t x σ = some (0, σ) := by
  unfold f2_hasPea
  rw [h, isBelow_out σ hx, bI_some, if_pos (Or.inl rfl)]
theorem c_hasSq_in {σ : Sto} {t n j : Nat} (h : gI σ 2 t 11 = iN n) (hn : n ≤ 30) (hj : j < n) : f2_hasSquare t (iN j) σ = some (1, σ) := by
  unfold f2_hasSquare
  rw [h, isBelow_in σ (by omega) hj, bI_some, if_pos (Or.inr rfl)]
theorem c_hasSq_out {σ : Sto} {t n : Nat} {x : Int32} (h : gI σ 2 t 11 = iN n) (hx : x < 0 ∨ iN n ≤ x) : f2_hasSquare t x σ = some (0, σ) := by
  unfold f2_hasSquare
  rw [h, isBelow_out σ hx, bI_some, if_pos (Or.inl rfl)]
theorem m_isPea_in {σ : Sto} {n j : Nat} (h : gI σ 9 0 3 = iN n) (hn : n ≤ 5) (hj : j < n) : f9_isPea (iN j) σ = some (1, σ) := by
  unfold f9_isPea
  rw [h, in_in σ (by omega) hj, bI_some, if_pos (Or.inr rfl)]
theorem m_isPea_out {σ : Sto} {n : Nat} {x : Int32} (h : gI σ 9 0 3 = iN n) (hn : n ≤ 5) (hx : x < 0 ∨ iN n ≤ x) : f9_isPea x σ = some (0, σ) := by
  unfold f9_isPea
  rw [h, in_out σ (by omega) hx, bI_some, if_pos (Or.inl rfl)]
theorem m_isSq_in {σ : Sto} {n j : Nat} (h : gI σ 9 0 1 = iN n) (hn : n ≤ 30) (hj : j < n) : f9_isSquare (iN j) σ = some (1, σ) := by
  unfold f9_isSquare
  rw [h, in_in σ (by omega) hj, bI_some, if_pos (Or.inr rfl)]
theorem m_isSq_out {σ : Sto} {n : Nat} {x : Int32} (h : gI σ 9 0 1 = iN n) (hn : n ≤ 30) (hx : x < 0 ∨ iN n ≤ x) : f9_isSquare x σ = some (0, σ) := by
  unfold f9_isSquare
  rw [h, in_out σ (by omega) hx, bI_some, if_pos (Or.inl rfl)]
theorem m_isEa_in {σ : Sto} {n j : Nat} (h : gI σ 9 0 5 = iN n) (hn : n ≤ 2) (hj : j < n) : f9_isEater (iN j) σ = some (1, σ) := by
  unfold f9_isEater
  rw [h, in_in σ (by omega) hj, bI_some, if_pos (Or.inr rfl)]
theorem m_isEa_out {σ : Sto} {n : Nat} {x : Int32} (h : gI σ 9 0 5 = iN n) (hn : n ≤ 2) (hx : x < 0 ∨ iN n ≤ x) : f9_isEater x σ = some (0, σ) := by
  unfold f9_isEater
  rw [h, in_out σ (by omega) hx, bI_some, if_pos (Or.inl rfl)]
theorem wf_n {A : AS} (h : wfA A) : aN A ≤ 5 := by
  rcases h.1 with h | h
  · exact h.2.2.1
  · rw [h.2.2.1]; decide
theorem wf_m {A : AS} (h : wfA A) : aM A ≤ 2 := by
  rcases h.1 with h | h
  · exact h.2.1.2
  · rw [h.2.2.2.1]; decide
theorem wf_q {A : AS} (h : wfA A) : (aB A).1 * (aB A).2.1 ≤ 30 := by
  rcases h.1 with h | h
  · exact okB_30 h.1
  · show A.1 0 0 * _ ≤ 30
    rw [h.1]; simp
theorem wf_pea {A : AS} {p : Nat} (h : wfA A) (hp : p < aN A) : laid A := by
  rcases h.1 with h | h
  · exact h
  · rw [h.2.2.1] at hp; omega
theorem wf_ea {A : AS} {e : Nat} (h : wfA A) (he : e < aM A) : laid A := by
  rcases h.1 with h | h
  · exact h
  · rw [h.2.2.2.1] at he; omega
theorem wf_sq {A : AS} {c : Nat} (h : wfA A) (hc : c < (aB A).1 * (aB A).2.1) : laid A := by
  rcases h.1 with h | h
  · exact h
  · have hc' : c < A.1 0 0 * A.1 0 1 := hc
    rw [h.1] at hc'; omega
theorem both_sign (a1 : Int32) : Both (f8_sign a1) (f9_sign a1) := Both.same (fun σ A t hw hC hM => by
  obtain ⟨-, ⟨x1, hB, -⟩, -⟩ := hC
  obtain ⟨⟨⟨y1, y2, y3⟩, -⟩, -⟩ := hM
  have hq := wf_q hw
  unfold f8_sign f9_sign
  rw [x1, dr_some]
  rcases iN_or a1 ((aB A).1 * (aB A).2.1) (by omega) with ⟨j, hj, rfl⟩ | hx
  · have hl := wf_sq hw hj
    refine ⟨(aB A).2.2 j, ?_, ?_⟩
    · rw [c_hasSq_in hB.2.2.1 hq hj, bI_some, if_neg (by decide), x1, dr_some, c_signAt hB hl.1 hj, bI_some]
    · rw [m_isSq_in y2 hq hj, bI_some, if_neg (by decide), if_pos ((iN_Ix (by omega)).mpr (by omega)), iN_nat (by omega), y3 j hj]
  · refine ⟨-1, ?_, ?_⟩
    · rw [c_hasSq_out hB.2.2.1 hx, bI_some, if_pos rfl]
    · rw [m_isSq_out y2 hq hx, bI_some, if_pos rfl])
/-- both sides answer the same, and only what the reference plays with has changed -/
theorem Both.play {α : Type} {f g : Sto → Option (α × Sto)} (h : ∀ σ A t, wfA A → RC σ t A → RM σ A → ∃ r σ1 σ2, f σ = some (r, σ1) ∧ Agr σ σ1 ∧ FC σ σ1 ∧ (RM σ1 A → g σ1 = some (r, σ2) ∧ FMm σ1 σ2 ∧ RM σ2 A)) : Both f g := by
  intro σ A ⟨hw, ⟨t, hC⟩, hM⟩
  obtain ⟨r, σ1, σ2, h1, h2, h3, h4⟩ := h σ A t hw hC hM
  obtain ⟨h5, h6, h7⟩ := h4 (hM.fc h3)
  refine ⟨r, σ1, σ2, A, h1, fun j => h3 46 0 j (by omega), h5, ⟨hw, ⟨t, (hC.agr h2).agr h6.agr⟩, h7⟩, fun j => ?_⟩
  rw [h6.2 46 0 j (by omega), h3 46 0 j (by omega)]
theorem Agr.rfl {σ : Sto} : Agr σ σ := ⟨fun _ _ _ _ => Eq.refl _, fun _ _ _ _ _ _ => Eq.refl _⟩
theorem atI_le {x : Nat} : 0 ≤ atI x ↔ x < 30 := by
  by_cases h : x < 30
  · rw [atI_lt h, show (0 : Int32) = iN 0 from rfl, iN_le (by omega) (by omega)]; omega
  · constructor
    · intro g; exact absurd (atI_neg h) (Int32.not_lt.mpr g)
    · intro g; exact absurd g h
theorem both_where (a1 : Int32) : Both (f8_where a1) (f9_where a1) := Both.play (fun σ A t hw hC hM => by
  have hn := wf_n hw
  obtain ⟨-, ⟨x1, hB, ⟨x3, -⟩, -⟩, -, -, -, -, hN, -⟩ := hC
  unfold f8_where f9_where
  rw [x1, dr_some]
  rcases iN_or a1 (aN A) (by omega) with ⟨j, hj, rfl⟩ | hx
  · have hl := wf_pea hw hj
    obtain ⟨σ2, g1, g2, g3⟩ := m_now hl hM
    refine ⟨spI (nowP A j), σ, σ2, ?_, Agr.rfl, FC.rfl, fun hM => ⟨?_, g3.fmm, hM.fm g3⟩⟩
    · rw [c_hasPea_in x3 hn hj, bI_some, if_neg (by decide), c_spotOf (hN hl) (by omega), bI_some]
    · rw [m_isPea_in hM.1.2.2.1 hn hj, bI_some, if_neg (by decide), g1, bV_some, if_pos ((iN_Ix (by omega)).mpr (by omega)), show gI σ2 39 0 (iN j).toNatClampNeg = atI (nowP A j) from by rw [iN_nat (by omega), g2.2.2 j hj]]
      by_cases on : nowP A j < 30
      · rw [if_pos (atI_le.mpr on), if_pos ((iN_Ix (by omega)).mpr (by omega)), atI_lt on, spI_lt on]
      · rw [if_neg (mt atI_le.mp on), spI_ge on]
  · refine ⟨-1, σ, σ, ?_, Agr.rfl, FC.rfl, fun hM => ⟨?_, FMm.rfl, hM⟩⟩
    · rw [c_hasPea_out x3 hx, bI_some, if_pos rfl]
    · rw [m_isPea_out hM.1.2.2.1 hn hx, bI_some, if_pos rfl])
