/-! reading -/
theorem rd_step {σ : Sto} {A : AS} {t j : Nat} {a2 : Int32} (hw : wfA A) (hC : RC σ t A) (hM : RM σ A) (hj : j < aN A) (hlt : aR A < 8) (h2 : a2 = -9 ∨ ∃ c, c < (aB A).1 * (aB A).2.1 ∧ a2 = iN c) :
    WA (sI (sI (sI (sI (sI (sI σ 21 0 (aR A) (iN j)) 22 0 (aR A) a2) 8 0 7 (iN (aR A + 1))) 29 0 (aR A) (iN j)) 30 0 (aR A) a2) 9 0 11 (iN (aR A + 1))) (rdA A (aR A + 1) (fun b => if b = aR A then j else A.1 5 b) (fun b => if b = aR A then a2 else A.2 2 b)) := by
  have hl := wf_pea hw hj
  have r8 := hC.2.2.2.2.2.1
  have r9 := hM.2.2.2.1
  refine ⟨⟨Or.inl hl, ⟨?_, fun k hk => ?_⟩, hw.2.2⟩, ⟨t, ?_⟩, ?_⟩
  · show aR A + 1 ≤ 8
    omega
  · have hk' : k < aR A + 1 := hk
    show (if k = aR A then j else A.1 5 k) < aN A ∧ ((if k = aR A then a2 else A.2 2 k) = -9 ∨ ∃ c, c < (aB A).1 * (aB A).2.1 ∧ (if k = aR A then a2 else A.2 2 k) = iN c)
    by_cases e : k = aR A
    · rw [if_pos e, if_pos e]; exact ⟨hj, h2⟩
    · rw [if_neg e, if_neg e]; exact hw.2.1.2 k (by omega)
  · refine RC.rd (σ := σ) ⟨fun _ _ _ _ => rfl, fun k' a b _ _ h9 h => ?_⟩ hC ⟨?_, fun k hk => ?_⟩
    · rw [gI_sI, if_neg (by omega), gI_sI, if_neg (by omega), gI_sI, if_neg (by omega), gI_sI, if_neg (by omega), gI_sI, if_neg (by omega), gI_sI, if_neg (by omega)]
    · rw [gI_sI, if_neg (by omega), gI_sI, if_neg (by omega), gI_sI, if_neg (by omega), gI_sI, if_pos (by decide)]
      rfl
    · have hk' : k < aR A + 1 := hk
      show gI _ 21 0 k = iN (if k = aR A then j else A.1 5 k) ∧ gI _ 22 0 k = (if k = aR A then a2 else A.2 2 k)
      by_cases e : k = aR A
      · rw [if_pos e, if_pos e]
        exact ⟨by rw [gI_sI, if_neg (by omega), gI_sI, if_neg (by omega), gI_sI, if_neg (by omega), gI_sI, if_neg (by omega), gI_sI, if_neg (by omega), gI_sI, if_pos ⟨rfl, rfl, e⟩], by rw [gI_sI, if_neg (by omega), gI_sI, if_neg (by omega), gI_sI, if_neg (by omega), gI_sI, if_neg (by omega), gI_sI, if_pos ⟨rfl, rfl, e⟩]⟩
      · rw [if_neg e, if_neg e]
        have q := r8.2 k (by omega)
        exact ⟨by rw [gI_sI, if_neg (by omega), gI_sI, if_neg (by omega), gI_sI, if_neg (by omega), gI_sI, if_neg (by omega), gI_sI, if_neg (by omega), gI_sI, if_neg (by omega)]; exact q.1, by rw [gI_sI, if_neg (by omega), gI_sI, if_neg (by omega), gI_sI, if_neg (by omega), gI_sI, if_neg (by omega), gI_sI, if_neg (by omega), gI_sI, if_neg (by omega)]; exact q.2⟩
  · refine RM.rd (σ := σ) (fun k' a b h9 h h' => ?_) hM ⟨?_, fun k hk => ?_⟩
    · rw [gI_sI, if_neg (by omega), gI_sI, if_neg (by omega), gI_sI, if_neg (by omega), gI_sI, if_neg (by omega), gI_sI, if_neg (by omega), gI_sI, if_neg (by omega)]
    · rw [gI_sI, if_pos (by decide)]
      rfl
    · have hk' : k < aR A + 1 := hk
      show gI _ 29 0 k = iN (if k = aR A then j else A.1 5 k) ∧ gI _ 30 0 k = (if k = aR A then a2 else A.2 2 k)
      by_cases e : k = aR A
      · rw [if_pos e, if_pos e]
        exact ⟨by rw [gI_sI, if_neg (by omega), gI_sI, if_neg (by omega), gI_sI, if_pos ⟨rfl, rfl, e⟩], by rw [gI_sI, if_neg (by omega), gI_sI, if_pos ⟨rfl, rfl, e⟩]⟩
      · rw [if_neg e, if_neg e]
        have q := r9.2 k (by omega)
        exact ⟨by rw [gI_sI, if_neg (by omega), gI_sI, if_neg (by omega), gI_sI, if_neg (by omega), gI_sI, if_neg (by omega), gI_sI, if_neg (by omega), gI_sI, if_neg (by omega)]; exact q.1, by rw [gI_sI, if_neg (by omega), gI_sI, if_neg (by omega), gI_sI, if_neg (by omega), gI_sI, if_neg (by omega), gI_sI, if_neg (by omega), gI_sI, if_neg (by omega)]; exact q.2⟩
