/-! as; readings -/
theorem in3_in {σ : Sto} {j : Nat} (h : j < 3) : f9_in (iN j).toInt64 0 2 σ = some (1, σ) := in_in (n := 3) σ (by decide) h
theorem in3_out {σ : Sto} {x : Int32} (h : x < 0 ∨ iN 3 ≤ x) : f9_in x.toInt64 0 2 σ = some (0, σ) := in_out (n := 3) σ (by decide) h
theorem in4_in {σ : Sto} {j : Nat} (h : j < 4) : f9_in (iN j).toInt64 0 3 σ = some (1, σ) := in_in (n := 4) σ (by decide) h
theorem in4_out {σ : Sto} {x : Int32} (h : x < 0 ∨ iN 4 ≤ x) : f9_in x.toInt64 0 3 σ = some (0, σ) := in_out (n := 4) σ (by decide) h
theorem RC.f0 {σ : Sto} {t : Nat} {A : AS} {y : Int32} (hC : RC σ t A) : RC (sI σ 8 0 13 y) t (tf A (A.2 0 0) y) := hC.agr0 Agr0_f (by rw [gI_sI, if_neg (by decide)]; exact hC.2.2.2.2.2.2.2.2.1.1) (by rw [gI_sI, if_pos (by decide)])
theorem both_as (a1 a2 : Int32) : Both (f8_as a1 a2) (f9_as a1 a2) := Both.tf (fun σ A t hw hC hM => by
  have hm := wf_m hw
  have hC0 := hC.f0 (y := 0)
  have tr := hC.2.2.2.2.2.2.2.2.1.1
  have hw0 : wfA (tf A (A.2 0 0) 0) := hw
  unfold f8_as
  rw [hC0.2.1.1, dr_some]
  rcases iN_or a1 (aM A) (by omega) with ⟨e, he, rfl⟩ | hx
  · obtain ⟨ix, g1, g2, g3⟩ := c_eater hw0 hC0 (e := e) he
    obtain ⟨k3, s1, s4⟩ := kd3 hw he
    have ix2 : Ix (iN e) 2 := (iN_Ix (by omega)).mpr (by omega)
    rw [g1, bI_some, rcs_some]
    rcases iN_or a2 3 (by decide) with ⟨k, hk, rfl⟩ | hx
    · rw [show (3 : Int32) = iN 3 from rfl, isBelow_in _ (by decide) hk, bI_some, if_neg (by decide)]
      have yes : ∀ τ : Sto, RM τ A → k ≤ A.1 2 e → f9_as (iN e) (iN k) τ = some (1, sI τ 9 0 15 0) := fun τ hM hle => by
        unfold f9_as
        rw [m_isEa_in hM.1.2.1.1 hm he, bI_some, if_neg (by decide), in3_in hk, bI_some, if_neg (by decide), if_pos ix2, show gI τ 26 0 (iN e).toNatClampNeg = iN (A.1 2 e) from by rw [iN_nat (by omega), (hM.2.1 e he).1], if_pos ((iN_le (by omega) (by omega)).mpr hle)]
      have no : ∀ τ : Sto, RM τ A → ¬ k ≤ A.1 2 e → f9_as (iN e) (iN k) τ = some (-12, sI τ 9 0 15 2) := fun τ hM hle => by
        unfold f9_as f9_fails
        rw [m_isEa_in hM.1.2.1.1 hm he, bI_some, if_neg (by decide), in3_in hk, bI_some, if_neg (by decide), if_pos ix2, show gI τ 26 0 (iN e).toNatClampNeg = iN (A.1 2 e) from by rw [iN_nat (by omega), (hM.2.1 e he).1], if_neg (by rw [iN_le (by omega) (by omega)]; exact hle), bI_some]
        rfl
      have cls : (fk (kk (A.1 2 e)) (bI (f8_isOfKind_0 ix (iN k) (sI σ 8 0 13 0)) (fun v28 s29 => (if v28 = 0 then (bI (f8_failed 2 s29) (fun v30 s31 => (some (v30, s31)))) else (some (1, s29))))) (bI (f8_isOfKind_1 ix (iN k) (sI σ 8 0 13 0)) (fun v32 s33 => (if v32 = 0 then (bI (f8_failed 2 s33) (fun v34 s35 => (some (v34, s35)))) else (some (1, s33))))) (bI (f8_isOfKind_5 ix (iN k) (sI σ 8 0 13 0)) (fun v36 s37 => (if v36 = 0 then (bI (f8_failed 2 s37) (fun v38 s39 => (some (v38, s39)))) else (some (1, s37)))))) = if k ≤ A.1 2 e then some ((1 : Int32), sI σ 8 0 13 0) else some (-12, sI (sI σ 8 0 13 0) 8 0 13 2) := by
        rcases k3 with k3 | k3 | k3 <;> rw [k3] <;> rcases (show k = 0 ∨ k = 1 ∨ k = 2 by omega) with rfl | rfl | rfl <;> rfl
      rw [show ((kk ((tf A (A.2 0 0) 0).1 2 e))) = kk (A.1 2 e) from rfl]
      by_cases hle : k ≤ A.1 2 e
      · refine ⟨1, sI σ 8 0 13 0, sI (sI σ 8 0 13 0) 9 0 15 0, A.2 0 0, 0, by rw [cls, if_pos hle], Agr0_f, FC_f, ⟨by rw [gI_sI, if_neg (by decide)]; exact tr, by rw [gI_sI, if_pos (by decide)]⟩, fun hM => ⟨yes _ hM hle, FMm_9, T24_9 (by decide), by rw [gI_sI, if_neg (by decide)]; exact hM.2.2.2.2.2.1, by rw [gI_sI, if_pos (by decide)]⟩⟩
      · refine ⟨-12, sI (sI σ 8 0 13 0) 8 0 13 2, sI (sI (sI σ 8 0 13 0) 8 0 13 2) 9 0 15 2, A.2 0 0, 2, by rw [cls, if_neg hle], Agr0_f.trans Agr0_f, FC_f.trans FC_f, ⟨by rw [gI_sI, if_neg (by decide), gI_sI, if_neg (by decide)]; exact tr, by rw [gI_sI, if_pos (by decide)]⟩, fun hM => ⟨no _ hM hle, FMm_9, T24_9 (by decide), by rw [gI_sI, if_neg (by decide)]; exact hM.2.2.2.2.2.1, by rw [gI_sI, if_pos (by decide)]⟩⟩
    · rw [show (3 : Int32) = iN 3 from rfl, isBelow_out _ hx, bI_some, if_pos rfl]
      refine ⟨-2, sI σ 8 0 13 0, sI (sI σ 8 0 13 0) 9 0 15 0, A.2 0 0, 0, rfl, Agr0_f, FC_f, ⟨by rw [gI_sI, if_neg (by decide)]; exact tr, by rw [gI_sI, if_pos (by decide)]⟩, fun hM => ⟨?_, FMm_9, T24_9 (by decide), by rw [gI_sI, if_neg (by decide)]; exact hM.2.2.2.2.2.1, by rw [gI_sI, if_pos (by decide)]⟩⟩
      unfold f9_as f9_refused
      rw [m_isEa_in hM.1.2.1.1 hm he, bI_some, if_neg (by decide), in3_out hx, bI_some, if_pos rfl, bI_some]
  · refine ⟨-1, sI σ 8 0 13 0, sI (sI σ 8 0 13 0) 9 0 15 0, A.2 0 0, 0, ?_, Agr0_f, FC_f, ⟨by rw [gI_sI, if_neg (by decide)]; exact tr, by rw [gI_sI, if_pos (by decide)]⟩, fun hM => ⟨?_, FMm_9, T24_9 (by decide), by rw [gI_sI, if_neg (by decide)]; exact hM.2.2.2.2.2.1, by rw [gI_sI, if_pos (by decide)]⟩⟩
    · rw [c_eaterAt_out hC0.2.1.2.2.1.2 hx, bI_some, rcs_none]
    · unfold f9_as f9_refused
      rw [m_isEa_out hM.1.2.1.1 hm hx, bI_some, if_pos rfl, bI_some])
