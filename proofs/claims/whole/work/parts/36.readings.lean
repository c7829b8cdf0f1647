/-! readings -/
def rdA (A : AS) (R' : Nat) (f : Nat → Nat) (g : Nat → Int32) : AS := (fun a b => if a = 0 then (if b = 6 then R' else A.1 0 b) else if a = 5 then f b else A.1 a b, fun a b => if a = 2 then g b else A.2 a b)
def AgrR (σ σ' : Sto) : Prop := (∀ k a b, (k = 8 ∨ k = 13 ∨ (k = 6 ∧ a = 0)) → gR σ' k a b = gR σ k a b) ∧ ∀ k a b, ((k = 6 ∨ k = 16) → a = 0) → ¬ k = 18 → ¬ (k = 9 ∨ (24 ≤ k ∧ k < 42)) → ¬ ((k = 8 ∧ b = 7) ∨ k = 21 ∨ k = 22) → gI σ' k a b = gI σ k a b
theorem RC.rd {σ σ' : Sto} {t : Nat} {A : AS} {R' : Nat} {f : Nat → Nat} {g : Nat → Int32} (h : AgrR σ σ') (hC : RC σ t A) (hr : RCr σ' (rdA A R' f g)) : RC σ' t (rdA A R' f g) := by
  obtain ⟨⟨t1, t2⟩, ⟨x1, ⟨b1, b2, b3, b4, b5, b6⟩, ⟨x3, x4⟩, x5, x6, x7, x8⟩, ⟨c1, c2⟩, e1, l1, ⟨r1, r2⟩, n1, s1, ⟨f1, f2⟩, u1, u2⟩ := hC
  have ei : ∀ c a b, c = 0 ∨ c = 1 ∨ c = 5 → gI σ' c a b = gI σ c a b := fun c a b hc => h.2 _ _ _ (by omega) (by omega) (by omega) (by omega)
  refine ⟨⟨t1, ?_⟩, ⟨?_, ⟨?_, ?_, ?_, fun c hc => ?_, fun j => ?_, fun j => ?_⟩, ⟨?_, ?_⟩, fun p hp => ?_, fun e he => (x6 e he).frame (h.1 _ _ _ (by omega)) ei, ?_, fun k hk => ?_⟩, ⟨?_, fun x hx => ?_⟩, fun e he => (e1 e he).frame (h.1 _ _ _ (by omega)) ei, ?_, hr, fun hl => ?_, fun k hk => ?_, ⟨?_, ?_⟩, fun j => ?_, fun j => ?_⟩
  · rw [h.1 _ _ _ (by omega)]; exact t2
  · rw [h.1 _ _ _ (by omega)]; exact x1
  · rw [h.2 _ _ _ (by omega) (by omega) (by omega) (by omega)]; exact b1
  · rw [h.2 _ _ _ (by omega) (by omega) (by omega) (by omega)]; exact b2
  · rw [h.2 _ _ _ (by omega) (by omega) (by omega) (by omega)]; exact b3
  · rw [h.2 _ _ _ (by omega) (by omega) (by omega) (by omega)]; exact b4 c hc
  · rw [h.2 _ _ _ (by omega) (by omega) (by omega) (by omega)]; exact b5 j
  · rw [h.2 _ _ _ (by omega) (by omega) (by omega) (by omega)]; exact b6 j
  · rw [h.2 _ _ _ (by omega) (by omega) (by omega) (by omega)]; exact x3
  · rw [h.2 _ _ _ (by omega) (by omega) (by omega) (by omega)]; exact x4
  · rw [h.2 _ _ _ (by omega) (by omega) (by omega) (by omega)]; exact x5 p hp
  · rw [h.2 _ _ _ (by omega) (by omega) (by omega) (by omega)]; exact x7
  · rw [h.2 _ _ _ (by omega) (by omega) (by omega) (by omega)]; exact x8 k hk
  · rw [h.2 _ _ _ (by omega) (by omega) (by omega) (by omega)]; exact c1
  · rw [h.2 _ _ _ (by omega) (by omega) (by omega) (by omega)]; exact c2 x hx
  · rw [h.2 _ _ _ (by omega) (by omega) (by omega) (by omega)]; exact l1
  · obtain ⟨q1, q2, q3, q4, q5⟩ := n1 hl
    refine ⟨?_, ?_, fun p hp => ?_, ?_, ?_⟩
    · rw [h.1 _ _ _ (by omega)]; exact q1
    · rw [h.2 _ _ _ (by omega) (by omega) (by omega) (by omega)]; exact q2
    · rw [h.2 _ _ _ (by omega) (by omega) (by omega) (by omega)]; exact q3 p hp
    · rw [h.2 _ _ _ (by omega) (by omega) (by omega) (by omega)]; exact q4
    · rw [h.2 _ _ _ (by omega) (by omega) (by omega) (by omega)]; exact q5
  · rw [h.2 4 _ 1 (by omega) (by omega) (by omega) (by omega), h.2 4 _ 2 (by omega) (by omega) (by omega) (by omega)]
    obtain ⟨q1, q2, q3⟩ := s1 k hk
    exact ⟨q1, q2, fun j hj => by rw [h.2 _ _ _ (by omega) (by omega) (by omega) (by omega)]; exact q3 j hj⟩
  · rw [h.2 _ _ _ (by omega) (by omega) (by omega) (by omega)]; exact f1
  · rw [h.2 _ _ _ (by omega) (by omega) (by omega) (by omega)]; exact f2
  · rw [h.2 _ _ _ (by omega) (by omega) (by omega) (by omega)]; exact u1 j
  · rw [h.2 _ _ _ (by omega) (by omega) (by omega) (by omega)]; exact u2 j
theorem RM.rd {σ σ' : Sto} {A : AS} {R' : Nat} {f : Nat → Nat} {g : Nat → Int32} (h : ∀ k a b, (k = 9 ∨ 24 ≤ k) → ¬ (k = 9 ∧ b = 11) → ¬ (k = 29 ∨ k = 30) → gI σ' k a b = gI σ k a b) (hM : RM σ A) (hr : RMr σ' (rdA A R' f g)) : RM σ' (rdA A R' f g) := by
  obtain ⟨⟨⟨x1, x2, x3⟩, ⟨x4, x5⟩, x6, x7, x8, x9⟩, m1, m2, ⟨m3, m4⟩, ⟨m5, m6⟩, m7, m8⟩ := hM
  refine ⟨⟨⟨?_, ?_, fun c hc => ?_⟩, ⟨?_, fun e he => ?_⟩, ?_, fun p hp => ?_, ?_, fun k hk => ?_⟩, fun e he => ?_, ?_, hr, ⟨fun k hk => ?_, fun j hj => ?_⟩, ?_, ?_⟩
  · rw [h _ _ _ (by omega) (by omega) (by omega)]; exact x1
  · rw [h _ _ _ (by omega) (by omega) (by omega)]; exact x2
  · rw [h _ _ _ (by omega) (by omega) (by omega)]; exact x3 c hc
  · rw [h _ _ _ (by omega) (by omega) (by omega)]; exact x4
  · rw [h 26 _ _ (by omega) (by omega) (by omega), h 27 _ _ (by omega) (by omega) (by omega)]; exact x5 e he
  · rw [h _ _ _ (by omega) (by omega) (by omega)]; exact x6
  · rw [h _ _ _ (by omega) (by omega) (by omega)]; exact x7 p hp
  · rw [h _ _ _ (by omega) (by omega) (by omega)]; exact x8
  · rw [h _ _ _ (by omega) (by omega) (by omega)]; exact x9 k hk
  · rw [h 26 _ _ (by omega) (by omega) (by omega), h 27 _ _ (by omega) (by omega) (by omega)]; exact m1 e he
  · rw [h _ _ _ (by omega) (by omega) (by omega)]; exact m2
  · rw [h 31 _ _ (by omega) (by omega) (by omega), h 32 _ _ (by omega) (by omega) (by omega)]; exact m5 k hk
  · rw [h _ _ _ (by omega) (by omega) (by omega)]; exact m6 j hj
  · rw [h _ _ _ (by omega) (by omega) (by omega)]; exact m7
  · rw [h _ _ _ (by omega) (by omega) (by omega)]; exact m8
theorem in_le_in {σ : Sto} {j n : Nat} (hn : n < 1000) (h : j ≤ n) : f9_in (iN j).toInt64 0 ((iN n).toInt64) σ = some (1, σ) := by
  have := in_in (n := n + 1) (j := j) σ (by omega) (by omega)
  rw [iN_pred'] at this
  exact this
theorem in_le_out {σ : Sto} {x : Int32} {n : Nat} (hn : n < 1000) (h : x < 0 ∨ iN (n + 1) ≤ x) : f9_in x.toInt64 0 ((iN n).toInt64) σ = some (0, σ) := by
  have := in_out (n := n + 1) σ (by omega) h
  rw [iN_pred'] at this
  exact this
theorem both_back (a1 : Int32) : Both (f8_back a1) (f9_back a1) := by
  intro σ A ⟨hw, ⟨t, hC⟩, hM⟩
  have hR := hw.2.1.1
  have r8 := hC.2.2.2.2.2.1
  have r9 := hM.2.2.2.1
  unfold f8_back f9_back
  rcases iN_or a1 (aR A + 1) (by omega) with ⟨k, hk, rfl⟩ | hx
  · refine ⟨iN (aR A - k), sI σ 8 0 7 (iN (aR A - k)), sI (sI σ 8 0 7 (iN (aR A - k))) 9 0 11 (iN (aR A - k)), rdA A (aR A - k) (A.1 5) (A.2 2), ?_, fun j => by rw [gI_sI, if_neg (by omega)], ?_, ⟨⟨?_, ⟨?_, fun k' hk' => ?_⟩, hw.2.2⟩, ⟨t, ?_⟩, ?_⟩, fun j => by rw [gI_sI, if_neg (by omega), gI_sI, if_neg (by omega)]⟩
    · rw [r8.1, if_neg (iN_neg (by omega)), if_pos ((iN_le (by omega) (by omega)).mpr (by omega)), iN_sub (by omega)]
      rfl
    · have e : gI (sI σ 8 0 7 (iN (aR A - k))) 9 0 11 = iN (aR A) := by rw [gI_sI, if_neg (by omega)]; exact r9.1
      rw [e, in_le_in (by omega) (by omega), bI_some, if_neg (by decide), e, iN_sub (by omega)]
      rfl
    · rcases hw.1 with h | h
      · exact Or.inl h
      · refine Or.inr ⟨h.1, h.2.1, h.2.2.1, h.2.2.2.1, h.2.2.2.2.1, h.2.2.2.2.2.1, ?_⟩
        show aR A - k = 0
        have := h.2.2.2.2.2.2
        omega
    · show aR A - k ≤ 8
      omega
    · exact hw.2.1.2 k' (by have : k' < aR A - k := hk'; omega)
    · have hrd : RC (sI σ 8 0 7 (iN (aR A - k))) t (rdA A (aR A - k) (A.1 5) (A.2 2)) := by
        refine RC.rd (σ := σ) ⟨fun _ _ _ _ => rfl, fun k' a b _ _ _ h => by rw [gI_sI, if_neg (by omega)]⟩ hC ⟨by rw [gI_sI, if_pos (by decide)]; rfl, fun k' hk' => ?_⟩
        rw [gI_sI, if_neg (by omega), gI_sI, if_neg (by omega)]
        exact r8.2 k' (by have : k' < aR A - k := hk'; omega)
      exact hrd.agr FMm_9.agr
    · refine RM.rd (fun k' a b _ h _ => by rw [gI_sI, if_neg (by omega), gI_sI, if_neg (by omega)]) hM ⟨by rw [gI_sI, if_pos (by decide)]; rfl, fun k' hk' => ?_⟩
      rw [gI_sI, if_neg (by omega), gI_sI, if_neg (by omega), gI_sI, if_neg (by omega), gI_sI, if_neg (by omega)]
      exact r9.2 k' (by have : k' < aR A - k := hk'; omega)
  · refine ⟨-2, σ, σ, A, ?_, fun _ => rfl, ?_, ⟨hw, ⟨t, hC⟩, hM⟩, fun _ => rfl⟩
    · rw [r8.1]
      by_cases h0 : a1 < 0
      · rw [if_pos h0]
      · rw [if_neg h0, if_neg (fun hle => ?_)]
        have h1 := hx.resolve_left h0
        rw [Int32.le_iff_toInt_le, iN_toInt (by omega)] at h1
        rw [Int32.le_iff_toInt_le, iN_toInt (by omega)] at hle
        omega
    · rw [r9.1, in_le_out (by omega) hx, bI_some, if_pos rfl]
