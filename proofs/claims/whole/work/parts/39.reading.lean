/-! reading, done -/
theorem c_reading {σ : Sto} {t j : Nat} {A : AS} {a2 : Int32} (hw : wfA A) (hC : RC σ t A) (hj : j < aN A) (h2 : a2 = -9 ∨ ∃ c, c < (aB A).1 * (aB A).2.1 ∧ a2 = iN c) : f8_reading (iN j) a2 σ = if aR A < 8 then some (iN (aR A), sI (sI (sI σ 21 0 (aR A) (iN j)) 22 0 (aR A) a2) 8 0 7 (iN (aR A + 1))) else some (-4, σ) := by
  have hn := wf_n hw
  have hq := wf_q hw
  have hR := hw.2.1.1
  have x1 := hC.2.1.1
  have r8 := hC.2.2.2.2.2.1.1
  unfold f8_reading
  rw [x1, dr_some, c_hasPea_in hC.2.1.2.2.1.1 hn hj, bI_some, if_neg (by decide)]
  by_cases h9 : a2 = -9
  · rw [if_pos h9, c_rd hR r8]
  · obtain ⟨c, hc, rfl⟩ := h2.resolve_left h9
    rw [if_neg h9, x1, dr_some, c_hasSq_in hC.2.1.2.1.2.2.1 hq hc, bI_some, if_neg (by decide), c_rd hR r8]
theorem m_reading {σ : Sto} {j : Nat} {A : AS} {a2 : Int32} (hw : wfA A) (h3 : gI σ 9 0 3 = iN (aN A)) (h1 : gI σ 9 0 1 = iN ((aB A).1 * (aB A).2.1)) (h11 : gI σ 9 0 11 = iN (aR A)) (hj : j < aN A) (h2 : a2 = -9 ∨ ∃ c, c < (aB A).1 * (aB A).2.1 ∧ a2 = iN c) : f9_reading (iN j) a2 σ = if aR A < 8 then some (iN (aR A), sI (sI (sI σ 29 0 (aR A) (iN j)) 30 0 (aR A) a2) 9 0 11 (iN (aR A + 1))) else some (-4, σ) := by
  have hn := wf_n hw
  have hq := wf_q hw
  have hR := hw.2.1.1
  unfold f9_reading
  rw [m_isPea_in h3 hn hj, bI_some, if_neg (by decide)]
  by_cases h9 : a2 = -9
  · rw [if_pos h9, m_rd hR h11]
  · obtain ⟨c, hc, rfl⟩ := h2.resolve_left h9
    rw [if_neg h9, m_isSq_in h1 hq hc, bI_some, if_neg (by decide), m_rd hR h11]
theorem both_reading (a1 a2 : Int32) : Both (f8_reading a1 a2) (f9_reading a1 a2) := by
  intro σ A ⟨hw, ⟨t, hC⟩, hM⟩
  have hn := wf_n hw
  have hq := wf_q hw
  have x1 := hC.2.1.1
  have no : f8_reading a1 a2 σ = some (-1, σ) → f9_reading a1 a2 σ = some (-1, σ) → ∃ r σ1 σ2 A', f8_reading a1 a2 σ = some (r, σ1) ∧ (∀ j, gI σ1 46 0 j = gI σ 46 0 j) ∧ f9_reading a1 a2 σ1 = some (r, σ2) ∧ WA σ2 A' ∧ ∀ j, gI σ2 46 0 j = gI σ 46 0 j := fun h1 h2 => ⟨-1, σ, σ, A, h1, fun _ => rfl, h2, ⟨hw, ⟨t, hC⟩, hM⟩, fun _ => rfl⟩
  rcases iN_or a1 (aN A) (by omega) with ⟨j, hj, rfl⟩ | hx
  · have yes : (a2 = -9 ∨ ∃ c, c < (aB A).1 * (aB A).2.1 ∧ a2 = iN c) → ∃ r σ1 σ2 A', f8_reading (iN j) a2 σ = some (r, σ1) ∧ (∀ j, gI σ1 46 0 j = gI σ 46 0 j) ∧ f9_reading (iN j) a2 σ1 = some (r, σ2) ∧ WA σ2 A' ∧ ∀ j, gI σ2 46 0 j = gI σ 46 0 j := by
      intro h2
      have e8 := c_reading hw hC hj h2
      by_cases hlt : aR A < 8
      · rw [if_pos hlt] at e8
        have e9 := m_reading (σ := sI (sI (sI σ 21 0 (aR A) (iN j)) 22 0 (aR A) a2) 8 0 7 (iN (aR A + 1))) hw (by rw [gI_sI, if_neg (by omega), gI_sI, if_neg (by omega), gI_sI, if_neg (by omega)]; exact hM.1.2.2.1) (by rw [gI_sI, if_neg (by omega), gI_sI, if_neg (by omega), gI_sI, if_neg (by omega)]; exact hM.1.1.2.1) (by rw [gI_sI, if_neg (by omega), gI_sI, if_neg (by omega), gI_sI, if_neg (by omega)]; exact hM.2.2.2.1.1) hj h2
        rw [if_pos hlt] at e9
        exact ⟨_, _, _, _, e8, fun j => by rw [gI_sI, if_neg (by omega), gI_sI, if_neg (by omega), gI_sI, if_neg (by omega)], e9, rd_step hw hC hM hj hlt h2, fun j => by rw [gI_sI, if_neg (by omega), gI_sI, if_neg (by omega), gI_sI, if_neg (by omega), gI_sI, if_neg (by omega), gI_sI, if_neg (by omega), gI_sI, if_neg (by omega)]⟩
      · rw [if_neg hlt] at e8
        have e9 := m_reading hw hM.1.2.2.1 hM.1.1.2.1 hM.2.2.2.1.1 hj h2
        rw [if_neg hlt] at e9
        exact ⟨_, σ, σ, A, e8, fun _ => rfl, e9, ⟨hw, ⟨t, hC⟩, hM⟩, fun _ => rfl⟩
    by_cases h9 : a2 = -9
    · exact yes (Or.inl h9)
    · rcases iN_or a2 ((aB A).1 * (aB A).2.1) (by omega) with ⟨c, hc, e⟩ | hx
      · exact yes (Or.inr ⟨c, hc, e⟩)
      · refine no ?_ ?_
        · unfold f8_reading
          rw [x1, dr_some, c_hasPea_in hC.2.1.2.2.1.1 hn hj, bI_some, if_neg (by decide), if_neg h9, x1, dr_some, c_hasSq_out hC.2.1.2.1.2.2.1 hx, bI_some, if_pos rfl]
        · unfold f9_reading
          rw [m_isPea_in hM.1.2.2.1 hn hj, bI_some, if_neg (by decide), if_neg h9, m_isSq_out hM.1.1.2.1 hq hx, bI_some, if_pos rfl]
  · refine no ?_ ?_
    · unfold f8_reading
      rw [x1, dr_some, c_hasPea_out hC.2.1.2.2.1.1 hx, bI_some, if_pos rfl]
    · unfold f9_reading
      rw [m_isPea_out hM.1.2.2.1 hn hx, bI_some, if_pos rfl]
