/-! the trace and the fault -/
def tf (A : AS) (x y : Int32) : AS := (A.1, fun a b => if a = 0 then (if b = 0 then x else y) else A.2 a b)
def Agr0 (σ σ' : Sto) : Prop := (∀ k a b, (k = 8 ∨ k = 13 ∨ (k = 6 ∧ a = 0)) → gR σ' k a b = gR σ k a b) ∧ ∀ k a b, ((k = 6 ∨ k = 16) → a = 0) → ¬ k = 18 → ¬ (k = 9 ∨ (24 ≤ k ∧ k < 42)) → ¬ (k = 7 ∨ (k = 8 ∧ b = 13)) → gI σ' k a b = gI σ k a b
theorem RC.agr0 {σ σ' : Sto} {t : Nat} {A : AS} {x y : Int32} (h : Agr0 σ σ') (hC : RC σ t A) (hx : gI σ' 7 0 0 = x) (hy : gI σ' 8 0 13 = y) : RC σ' t (tf A x y) := by
  obtain ⟨⟨t1, t2⟩, ⟨x1, ⟨b1, b2, b3, b4, b5, b6⟩, ⟨x3, x4⟩, x5, x6, x7, x8⟩, ⟨c1, c2⟩, e1, l1, ⟨r1, r2⟩, n1, s1, ⟨f1, f2⟩, u1, u2⟩ := hC
  have ei : ∀ c a b, c = 0 ∨ c = 1 ∨ c = 5 → gI σ' c a b = gI σ c a b := fun c a b hc => h.2 _ _ _ (by omega) (by omega) (by omega) (by omega)
  refine ⟨⟨t1, ?_⟩, ⟨?_, ⟨?_, ?_, ?_, fun c hc => ?_, fun j => ?_, fun j => ?_⟩, ⟨?_, ?_⟩, fun p hp => ?_, fun e he => (x6 e he).frame (h.1 _ _ _ (by omega)) ei, ?_, fun k hk => ?_⟩, ⟨?_, fun x hx => ?_⟩, fun e he => (e1 e he).frame (h.1 _ _ _ (by omega)) ei, ?_, ⟨?_, fun k hk => ?_⟩, fun hl => ?_, fun k hk => ?_, ⟨?_, ?_⟩, fun j => ?_, fun j => ?_⟩
  · rw [h.1 _ _ _ (by omega)]; exact t2
  · rw [h.1 _ _ _ (by omega)]; exact x1
  · rw [h.2 _ _ _ (by omega) (by omega) (by omega) (by omega)]; exact b1
  · rw [h.2 _ _ _ (by omega) (by omega) (by omega) (by omega)]; exact b2
  · rw [h.2 _ _ _ (by omega) (by omega) (by omega) (by omega)]; exact b3
  · rw [h.2 _ _ _ (by omega) (by omega) (by omega) (by omega)]; exact b4 c hc
  · rw [h.2 _ _ _ (by omega) (by omega) (by omega) (by omega)]; exact b5 j
  · rw [h.2 _ _ _ (by omega) (by omega) (by omega) (by omega)]; exact b6 j
  · rw [h.2 _ _ _ (by omega) (by omega) (by omega) (by omega)]; exact x3
  · rw [h.2 _ _ _ (by omega) (by omega) (by omega) (by omega)]; exact x4
  · rw [h.2 _ _ _ (by omega) (by omega) (by omega) (by omega)]; exact x5 p hp
  · rw [h.2 _ _ _ (by omega) (by omega) (by omega) (by omega)]; exact x7
  · rw [h.2 _ _ _ (by omega) (by omega) (by omega) (by omega)]; exact x8 k hk
  · rw [h.2 _ _ _ (by omega) (by omega) (by omega) (by omega)]; exact c1
  · rw [h.2 _ _ _ (by omega) (by omega) (by omega) (by omega)]; exact c2 x hx
  · rw [h.2 _ _ _ (by omega) (by omega) (by omega) (by omega)]; exact l1
  · rw [h.2 _ _ _ (by omega) (by omega) (by omega) (by omega)]; exact r1
  · rw [h.2 21 _ _ (by omega) (by omega) (by omega) (by omega), h.2 22 _ _ (by omega) (by omega) (by omega) (by omega)]; exact r2 k hk
  · obtain ⟨q1, q2, q3, q4, q5⟩ := n1 hl
    refine ⟨?_, ?_, fun p hp => ?_, ?_, ?_⟩
    · rw [h.1 _ _ _ (by omega)]; exact q1
    · rw [h.2 _ _ _ (by omega) (by omega) (by omega) (by omega)]; exact q2
    · rw [h.2 _ _ _ (by omega) (by omega) (by omega) (by omega)]; exact q3 p hp
    · rw [h.2 _ _ _ (by omega) (by omega) (by omega) (by omega)]; exact q4
    · rw [h.2 _ _ _ (by omega) (by omega) (by omega) (by omega)]; exact q5
  · rw [h.2 4 _ 1 (by omega) (by omega) (by omega) (by omega), h.2 4 _ 2 (by omega) (by omega) (by omega) (by omega)]
    obtain ⟨q1, q2, q3⟩ := s1 k hk
    exact ⟨q1, q2, fun j hj => by rw [h.2 _ _ _ (by omega) (by omega) (by omega) (by omega)]; exact q3 j hj⟩
  · exact hx
  · exact hy
  · rw [h.2 _ _ _ (by omega) (by omega) (by omega) (by omega)]; exact u1 j
  · rw [h.2 _ _ _ (by omega) (by omega) (by omega) (by omega)]; exact u2 j
theorem RM.tf {σ σ' : Sto} {A : AS} {x y : Int32} (h : ∀ k a b, 24 ≤ k ∧ k < 34 ∨ (k = 9 ∧ b < 14) → gI σ' k a b = gI σ k a b) (hM : RM σ A) (hx : gI σ' 9 0 14 = x) (hy : gI σ' 9 0 15 = y) : RM σ' (tf A x y) := by
  obtain ⟨⟨⟨x1, x2, x3⟩, ⟨x4, x5⟩, x6, x7, x8, x9⟩, m1, m2, ⟨m3, m4⟩, ⟨m5, m6⟩, m7, m8⟩ := hM
  refine ⟨⟨⟨?_, ?_, fun c hc => ?_⟩, ⟨?_, fun e he => ?_⟩, ?_, fun p hp => ?_, ?_, fun k hk => ?_⟩, fun e he => ?_, ?_, ⟨?_, fun k hk => ?_⟩, ⟨fun k hk => ?_, fun j hj => ?_⟩, hx, hy⟩
  · rw [h _ _ _ (by omega)]; exact x1
  · rw [h _ _ _ (by omega)]; exact x2
  · rw [h _ _ _ (by omega)]; exact x3 c hc
  · rw [h _ _ _ (by omega)]; exact x4
  · rw [h 26 _ _ (by omega), h 27 _ _ (by omega)]; exact x5 e he
  · rw [h _ _ _ (by omega)]; exact x6
  · rw [h _ _ _ (by omega)]; exact x7 p hp
  · rw [h _ _ _ (by omega)]; exact x8
  · rw [h _ _ _ (by omega)]; exact x9 k hk
  · rw [h 26 _ _ (by omega), h 27 _ _ (by omega)]; exact m1 e he
  · rw [h _ _ _ (by omega)]; exact m2
  · rw [h _ _ _ (by omega)]; exact m3
  · rw [h 29 _ _ (by omega), h 30 _ _ (by omega)]; exact m4 k hk
  · rw [h 31 _ _ (by omega), h 32 _ _ (by omega)]; exact m5 k hk
  · rw [h _ _ _ (by omega)]; exact m6 j hj
theorem wfA.tf {A : AS} {x y : Int32} (h : wfA A) : wfA (tf A x y) := h
/-- a call that changes the trace, the fault, and what is only played with -/
theorem Both.tf {α : Type} {f g : Sto → Option (α × Sto)} (h : ∀ σ A t, wfA A → RC σ t A → RM σ A → ∃ r σ1 σ2 x y, f σ = some (r, σ1) ∧ Agr0 σ σ1 ∧ FC σ σ1 ∧ (gI σ1 7 0 0 = x ∧ gI σ1 8 0 13 = y) ∧ (RM σ1 A → g σ1 = some (r, σ2) ∧ FMm σ1 σ2 ∧ (∀ k a b, 24 ≤ k ∧ k < 34 ∨ (k = 9 ∧ b < 14) → gI σ2 k a b = gI σ1 k a b) ∧ gI σ2 9 0 14 = x ∧ gI σ2 9 0 15 = y)) : Both f g := by
  intro σ A ⟨hw, ⟨t, hC⟩, hM⟩
  obtain ⟨r, σ1, σ2, x, y, h1, h2, h3, ⟨h4, h5⟩, h6⟩ := h σ A t hw hC hM
  obtain ⟨g1, g2, g3, g4, g5⟩ := h6 (hM.fc h3)
  refine ⟨r, σ1, σ2, _, h1, fun j => h3 46 0 j (by omega), g1, ⟨hw.tf, ⟨t, (hC.agr0 h2 h4 h5).agr g2.agr⟩, RM.tf g3 (hM.fc h3) g4 g5⟩, fun j => ?_⟩
  rw [g2.2 46 0 j (by omega), h3 46 0 j (by omega)]
/-! eaters -/
theorem c_eater {σ : Sto} {t : Nat} {A : AS} {e : Nat} (hw : wfA A) (hC : RC σ t A) (he : e < aM A) : ∃ ix, f2_eaterAt t (iN e) σ = some (some (kk (A.1 2 e), ix), σ) ∧ gI σ (kk (A.1 2 e)) ix 0 = iN e ∧ gI σ (kk (A.1 2 e)) ix 1 = iN (A.1 3 e) := by
  obtain ⟨ix, h1, h2, h3⟩ := hC.2.2.2.1 e he
  exact ⟨ix, by rw [c_eaterAt hC.2.1.2.2.1.2 (wf_m hw) he, h1], h2, h3⟩
theorem kd3 {A : AS} {e : Nat} (hw : wfA A) (he : e < aM A) : (A.1 2 e = 0 ∨ A.1 2 e = 1 ∨ A.1 2 e = 2) ∧ 1 ≤ A.1 3 e ∧ A.1 3 e ≤ 4 := by
  have := (wf_ea hw he).2.2.2.2.1 e he
  omega
theorem both_ofEater (a1 a2 : Int32) : Both (f8_ofEater a1 a2) (f9_ofEater a1 a2) := Both.same (fun σ A t hw hC hM => by
  have hm := wf_m hw
  have x1 := hC.2.1.1
  have m1 := hM.2.1
  unfold f8_ofEater f9_ofEater
  rw [x1, dr_some]
  rcases iN_or a1 (aM A) (by omega) with ⟨e, he, rfl⟩ | hx
  · obtain ⟨ix, g1, g2, g3⟩ := c_eater hw hC he
    have ix2 : Ix (iN e) 2 := (iN_Ix (by omega)).mpr (by omega)
    obtain ⟨k3, s1, s4⟩ := kd3 hw he
    rw [g1, bI_some, rcs_some, m_isEa_in hM.1.2.1.1 hm he, bI_some, if_neg (show ¬ (1 : Int32) = 0 by decide), m_force hm hM.1.2.1 he]
    simp only [if_pos ix2, iN_nat (show e < 2147483648 by omega), (m1 e he).1, (m1 e he).2]
    have hF : aF A e = if A.1 2 e = 0 then A.1 3 e else if A.1 2 e = 1 then A.1 3 e + 1 else 2 * (A.1 3 e + 1) := by unfold aF; rw [if_pos he]
    rcases k3 with k3 | k3 | k3
    · have gk : gI σ 0 ix 1 = iN (A.1 3 e) := by rw [k3] at g3; exact g3
      rw [hF, k3]
      simp only [kk, if_true, fk, f0_kindNumber_0, f0_pushForce_0, bI_some, gk]
      by_cases h0 : a2 = 0
      · simp only [if_pos h0]; exact ⟨_, rfl, rfl⟩
      by_cases h1 : a2 = 1
      · simp only [if_neg h0, if_pos h1, true_or, or_true, false_or, if_true]; exact ⟨_, rfl, rfl⟩
      by_cases h2 : a2 = 2
      · simp only [if_neg h0, if_neg h1, if_pos h2]; exact ⟨_, rfl, rfl⟩
      simp only [if_neg h0, if_neg h1, if_neg h2]; exact ⟨_, rfl, rfl⟩
    · have gk : gI σ 1 ix 1 = iN (A.1 3 e) := by rw [k3] at g3; exact g3
      rw [hF, k3]
      simp only [kk, if_true, fk, f1_kindNumber_1, f1_pushForce_1, bI_some, gk, Nat.one_ne_zero, if_false, iN_add1]
      by_cases h0 : a2 = 0
      · simp only [if_pos h0]; exact ⟨_, rfl, rfl⟩
      by_cases h1 : a2 = 1
      · simp only [if_neg h0, if_pos h1, true_or, or_true, false_or, if_true]; exact ⟨_, rfl, rfl⟩
      by_cases h2 : a2 = 2
      · simp only [if_neg h0, if_neg h1, if_pos h2]; exact ⟨_, rfl, rfl⟩
      simp only [if_neg h0, if_neg h1, if_neg h2]; exact ⟨_, rfl, rfl⟩
    · have gk : gI σ 5 ix 1 = iN (A.1 3 e) := by rw [k3] at g3; exact g3
      rw [hF, k3]
      have e2 : (2 : Int32) * (iN (A.1 3 e) + 1) = iN (2 * (A.1 3 e + 1)) := by rw [iN_add1, show (2 : Int32) = iN 2 from rfl, iN_mul]
      simp only [kk, if_true, fk, f5_kindNumber_5, f5_pushForce_5, f1_pushForce_5, bI_some, gk, Nat.reduceEqDiff, if_false, e2, or_true]
      by_cases h0 : a2 = 0
      · simp only [if_pos h0]; exact ⟨_, rfl, rfl⟩
      by_cases h1 : a2 = 1
      · simp only [if_neg h0, if_pos h1, true_or, or_true, false_or, if_true]; exact ⟨_, rfl, rfl⟩
      by_cases h2 : a2 = 2
      · simp only [if_neg h0, if_neg h1, if_pos h2]; exact ⟨_, rfl, rfl⟩
      simp only [if_neg h0, if_neg h1, if_neg h2]; exact ⟨_, rfl, rfl⟩
  · refine ⟨-1, ?_, ?_⟩
    · rw [c_eaterAt_out hC.2.1.2.2.1.2 hx, bI_some, rcs_none]
    · rw [m_isEa_out hM.1.2.1.1 hm hx, bI_some, if_pos rfl])
