/-! sheets -/
theorem c_sheet_in {σ : Sto} {k : Nat} (h : k < 4) : f8_sheetAt (iN k) σ = some (some (4, k), σ) := by
  unfold f8_sheetAt
  rw [show (4 : Int32) = iN 4 from rfl, isBelow_in σ (by decide) h, bI_some, if_neg (by decide), if_pos ((iN_Ix (by omega)).mpr h), iN_nat (by omega)]
theorem c_sheet_out {σ : Sto} {x : Int32} (h : x < 0 ∨ iN 4 ≤ x) : f8_sheetAt x σ = some (none, σ) := by
  unfold f8_sheetAt
  rw [show (4 : Int32) = iN 4 from rfl, isBelow_out σ h, bI_some, if_pos rfl]
theorem m_sheet_in {σ : Sto} {k : Nat} (h : k < 4) : f9_isSheet (iN k) σ = some (1, σ) := by
  unfold f9_isSheet
  rw [in4_in h, bI_some, if_pos (Or.inr rfl)]
theorem m_sheet_out {σ : Sto} {x : Int32} (h : x < 0 ∨ iN 4 ≤ x) : f9_isSheet x σ = some (0, σ) := by
  unfold f9_isSheet
  rw [in4_out h, bI_some, if_pos (Or.inl rfl)]
theorem m_lane_in {σ : Sto} {k : Nat} (h : k < 3) : f9_isLane (iN k) σ = some (1, σ) := by
  unfold f9_isLane
  rw [in3_in h, bI_some, if_pos (Or.inr rfl)]
theorem m_lane_out {σ : Sto} {x : Int32} (h : x < 0 ∨ iN 3 ≤ x) : f9_isLane x σ = some (0, σ) := by
  unfold f9_isLane
  rw [in3_out h, bI_some, if_pos (Or.inl rfl)]
/-- a sheet is nothing, or a row of a lane -/
theorem wfS_at {A : AS} {k : Nat} (h : wfS A) (hk : k < 4) : A.2 3 k = -1 ∨ ∃ l s, l < 3 ∧ s ≤ 60 ∧ A.2 3 k = iN l ∧ A.2 4 k = iN s := by
  rcases h k hk with h | ⟨h | h | h, s, hs, h2⟩
  · exact Or.inl h
  · exact Or.inr ⟨0, s, by decide, hs, h, h2⟩
  · exact Or.inr ⟨1, s, by decide, hs, h, h2⟩
  · exact Or.inr ⟨2, s, by decide, hs, h, h2⟩
theorem c_nothing {σ : Sto} {k : Nat} (h : gI σ 4 k 2 = -1) : f4_isNothing k σ = some (1, σ) := by
  unfold f4_isNothing; rw [h, if_pos rfl]
theorem c_row {σ : Sto} {k s : Nat} (hs : s ≤ 60) (h : gI σ 4 k 2 = iN s) : f4_isNothing k σ = some (0, σ) := by
  unfold f4_isNothing; rw [h, if_neg (iN_ne_m (by omega) (by decide))]
theorem c_hasCell_in {σ : Sto} {k s j : Nat} (hs : s ≤ 60) (h : gI σ 4 k 2 = iN s) (hj : j < s) : f4_hasCell k (iN j) σ = some (1, σ) := by
  unfold f4_hasCell
  rw [h, isBelow_in σ (by omega) hj, bI_some, if_pos (Or.inr rfl)]
theorem c_hasCell_out {σ : Sto} {k s : Nat} {x : Int32} (h : gI σ 4 k 2 = iN s) (hx : x < 0 ∨ iN s ≤ x) : f4_hasCell k x σ = some (0, σ) := by
  unfold f4_hasCell
  rw [h, isBelow_out σ hx, bI_some, if_pos (Or.inl rfl)]
theorem c_read {σ : Sto} {k s j : Nat} (hs : s ≤ 60) (h : gI σ 4 k 2 = iN s) (hj : j < s) : f4_read k (iN j) σ = some (gI σ 19 k j, σ) := by
  unfold f4_read
  rw [c_hasCell_in hs h hj, bI_some, if_neg (by decide), if_pos ((iN_Ix (by omega)).mpr (by omega)), iN_nat (by omega)]
theorem at60 (k j : Nat) : (60 * iN k) + iN j = iN (60 * k + j) := by
  rw [show (60 : Int32) = iN 60 from rfl, iN_mul, iN_add]
theorem lane_le (l : Nat) (h : l < 3) : 0 ≤ iN l := by
  rw [show (0 : Int32) = iN 0 from rfl, iN_le (by omega) (by omega)]; omega
theorem gI_f {σ : Sto} {y : Int32} : gI (sI σ 8 0 13 y) 8 0 13 = y := rfl
theorem both_cell (a1 a2 a3 : Int32) : Both (f8_cell a1 a2 a3) (f9_cell a1 a2 a3) := Both.tf (fun σ A t hw hC hM => by
  have tr := hC.2.2.2.2.2.2.2.2.1.1
  have hC0 := hC.f0 (y := 0)
  have sh := hC0.2.2.2.2.2.2.2.1
  -- the fault alone is written: y, the answer r
  have fin : ∀ (r : Int64) (y : Int32) (σ1 : Sto), (σ1 = sI σ 8 0 13 0 ∧ y = 0 ∨ σ1 = sI (sI σ 8 0 13 0) 8 0 13 y) → f8_cell a1 a2 a3 σ = some (r, σ1) → (RM σ1 A → f9_cell a1 a2 a3 σ1 = some (r, sI σ1 9 0 15 y)) → ∃ r σ1 σ2 x y, f8_cell a1 a2 a3 σ = some (r, σ1) ∧ Agr0 σ σ1 ∧ FC σ σ1 ∧ (gI σ1 7 0 0 = x ∧ gI σ1 8 0 13 = y) ∧ (RM σ1 A → f9_cell a1 a2 a3 σ1 = some (r, σ2) ∧ FMm σ1 σ2 ∧ (∀ k a b, 24 ≤ k ∧ k < 34 ∨ (k = 9 ∧ b < 14) → gI σ2 k a b = gI σ1 k a b) ∧ gI σ2 9 0 14 = x ∧ gI σ2 9 0 15 = y) := by
    intro r y σ1 h1 h2 h3
    refine ⟨r, σ1, sI σ1 9 0 15 y, A.2 0 0, y, h2, ?_, ?_, ⟨?_, ?_⟩, fun hM => ⟨h3 hM, FMm_9, T24_9 (by decide), by rw [gI_sI, if_neg (by decide)]; exact hM.2.2.2.2.2.1, by rw [gI_sI, if_pos (by decide)]⟩⟩
    · rcases h1 with ⟨rfl, -⟩ | rfl
      · exact Agr0_f
      · exact Agr0_f.trans Agr0_f
    · rcases h1 with ⟨rfl, -⟩ | rfl
      · exact FC_f
      · exact FC_f.trans FC_f
    · rcases h1 with ⟨rfl, -⟩ | rfl
      · rw [gI_sI, if_neg (by decide)]; exact tr
      · rw [gI_sI, if_neg (by decide), gI_sI, if_neg (by decide)]; exact tr
    · rcases h1 with ⟨rfl, rfl⟩ | rfl
      · rw [gI_sI, if_pos (by decide)]
      · rw [gI_sI, if_pos (by decide)]
  rcases iN_or a1 4 (by decide) with ⟨k, hk, rfl⟩ | hx
  · have ix4 : Ix (iN k) 4 := (iN_Ix (by omega)).mpr hk
    rcases iN_or a3 3 (by decide) with ⟨l, hl, rfl⟩ | hx
    · obtain ⟨q1, q2, q3⟩ := sh k hk
      rcases wfS_at hw.2.2 hk with e | ⟨l', s, hl', hs, e1, e2⟩
      · refine fin (-9223372036854775808) 1 _ (Or.inr rfl) ?_ (fun hM => ?_)
        · unfold f8_cell f4_faultOfCell f4_faultOfLane
          rw [c_sheet_in hk, bI_some, rcs_some, if_pos rfl, show (3 : Int32) = iN 3 from rfl, isBelow_in _ (by decide) hl, bI_some, if_neg (by decide), c_nothing (q1 e), bI_some, if_neg (by decide), bI_some, if_neg (by decide), bI_some, gI_f, if_neg (by decide)]
        · unfold f9_cell f9_lost
          rw [m_sheet_in hk, bI_some, if_neg (by decide), m_lane_in hl, bI_some, if_neg (by decide), if_pos ix4, show gI (sI (sI σ 8 0 13 0) 8 0 13 1) 31 0 (iN k).toNatClampNeg = -1 from by rw [iN_nat (by omega), (hM.2.2.2.2.1.1 k hk).1]; exact e, if_neg (by decide), bI_some]
      · have ne : ¬ A.2 3 k = -1 := by rw [e1]; exact iN_ne_m (by omega) (by decide)
        have p1 : gI (sI σ 8 0 13 0) 4 k 1 = iN l' := ((q2 ne).1).trans e1
        have p2 : gI (sI σ 8 0 13 0) 4 k 2 = iN s := ((q2 ne).2).trans e2
        have m31 : ∀ τ, RM τ A → gI τ 31 0 (iN k).toNatClampNeg = iN l' := fun τ hM => by rw [iN_nat (by omega), (hM.2.2.2.2.1.1 k hk).1, e1]
        have m32 : ∀ τ, RM τ A → gI τ 32 0 (iN k).toNatClampNeg = iN s := fun τ hM => by rw [iN_nat (by omega), (hM.2.2.2.2.1.1 k hk).2 ne, e2]
        by_cases el : l' = l
        · rcases iN_or a2 s (by omega) with ⟨j, hj, rfl⟩ | hx
          · refine fin (A.2 5 (60 * k + j)).toInt64 0 _ (Or.inr rfl) ?_ (fun hM => ?_)
            · unfold f8_cell f4_faultOfCell f4_faultOfLane
              rw [c_sheet_in hk, bI_some, rcs_some, if_pos rfl, show (3 : Int32) = iN 3 from rfl, isBelow_in _ (by decide) hl, bI_some, if_neg (by decide), c_row hs p2, bI_some, if_pos rfl, p1, el, if_pos rfl, bI_some, if_pos rfl, c_hasCell_in hs p2 hj, bI_some, if_neg (by decide), bI_some, gI_f, if_pos rfl, c_read (s := s) hs (by rw [gI_sI, if_neg (by omega)]; exact p2) hj, bI_some, gI_sI, if_neg (by omega), q3 j (by omega)]
              rfl
            · unfold f9_cell
              rw [m_sheet_in hk, bI_some, if_neg (by decide), m_lane_in hl, bI_some, if_neg (by decide), if_pos ix4, m31 _ hM, if_pos (lane_le l' hl'), if_pos ix4, el, if_pos rfl, if_pos ix4, m32 _ hM, in_in _ (by omega) hj, bI_some, if_neg (by decide), at60, if_pos ((iN_Ix (by omega)).mpr (by omega)), iN_nat (by omega), gI_sI, if_neg (by omega), hM.2.2.2.2.1.2 _ (by omega)]
          · refine fin (-9223372036854775808) 3 _ (Or.inr rfl) ?_ (fun hM => ?_)
            · unfold f8_cell f4_faultOfCell f4_faultOfLane
              rw [c_sheet_in hk, bI_some, rcs_some, if_pos rfl, show (3 : Int32) = iN 3 from rfl, isBelow_in _ (by decide) hl, bI_some, if_neg (by decide), c_row hs p2, bI_some, if_pos rfl, p1, el, if_pos rfl, bI_some, if_pos rfl, c_hasCell_out p2 hx, bI_some, if_pos rfl, bI_some, gI_f, if_neg (by decide)]
            · unfold f9_cell f9_lost
              rw [m_sheet_in hk, bI_some, if_neg (by decide), m_lane_in hl, bI_some, if_neg (by decide), if_pos ix4, m31 _ hM, if_pos (lane_le l' hl'), if_pos ix4, el, if_pos rfl, if_pos ix4, m32 _ hM, in_out _ (by omega) hx, bI_some, if_pos rfl, bI_some]
        · have ne2 : ¬ iN l' = iN l := by rw [iN_inj (by omega) (by omega)]; exact el
          refine fin (-9223372036854775808) 2 _ (Or.inr rfl) ?_ (fun hM => ?_)
          · unfold f8_cell f4_faultOfCell f4_faultOfLane
            rw [c_sheet_in hk, bI_some, rcs_some, if_pos rfl, show (3 : Int32) = iN 3 from rfl, isBelow_in _ (by decide) hl, bI_some, if_neg (by decide), c_row hs p2, bI_some, if_pos rfl, p1, if_neg ne2, bI_some, if_neg (by decide), bI_some, gI_f, if_neg (by decide)]
          · unfold f9_cell f9_lost
            rw [m_sheet_in hk, bI_some, if_neg (by decide), m_lane_in hl, bI_some, if_neg (by decide), if_pos ix4, m31 _ hM, if_pos (lane_le l' hl'), if_pos ix4, if_neg ne2, bI_some]
    · refine fin (-9223372036854775808) 0 _ (Or.inl ⟨rfl, rfl⟩) ?_ (fun hM => ?_)
      · unfold f8_cell
        rw [c_sheet_in hk, bI_some, rcs_some, if_pos rfl, show (3 : Int32) = iN 3 from rfl, isBelow_out _ hx, bI_some, if_pos rfl]
      · unfold f9_cell f9_lost
        rw [m_sheet_in hk, bI_some, if_neg (by decide), m_lane_out hx, bI_some, if_pos rfl, bI_some]
  · refine fin (-9223372036854775808) 0 _ (Or.inl ⟨rfl, rfl⟩) ?_ (fun hM => ?_)
    · unfold f8_cell
      rw [c_sheet_out hx, bI_some, rcs_none]
    · unfold f9_cell f9_lost
      rw [m_sheet_out hx, bI_some, if_pos rfl, bI_some])
