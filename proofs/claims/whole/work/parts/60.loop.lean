/-! the law's loop -/
theorem lg_rr (r : Int64) : lg_cmp r r = 0 := by
  unfold lg_cmp
  rw [if_neg (show ¬ r > r from fun q => Int64.lt_irrefl q), if_pos rfl]
set_option maxRecDepth 4000 in
theorem loop_ok {L : Nat} (hL : L ≤ 384) : ∀ (n j : Nat) (σ : Sto), j + n = 66 → 6 * j ≤ L → (∃ A, WA σ A) → Out (lL_law_18 L n (iN (6 * j)) σ) K1
  | 0, j, σ, hj, hl, _ => by omega
  | n + 1, j, σ, hj, hl, ⟨A, hW⟩ => by
    have hcmp : (Int32.ofNat L) - 6 < iN (6 * j) ↔ (L : Int) - 6 < 6 * j := by
      rw [Int32.lt_iff_toInt_lt, iN_toInt (by omega), show (Int32.ofNat L - 6 : Int32) = iN L - 6 from rfl, Int32.toInt_sub, iN_toInt (by omega)]
      rw [show ((L : Int) - Int32.toInt 6).bmod (2 ^ 32) = (L : Int) - 6 from Int.bmod_eq_of_le (by show _ ≤ (L : Int) - 6; omega) (by show (L : Int) - 6 < _; omega)]
      omega
    show Out (if ((Int32.ofNat L) - 6) < iN (6 * j) then _ else _) K1
    by_cases hc : ((Int32.ofNat L) - 6) < iN (6 * j)
    · rw [if_pos hc]; exact ⟨_, rfl, rfl⟩
    rw [if_neg hc]
    have hb : 6 * j + 6 ≤ L := by have := mt hcmp.mpr hc; omega
    have ix : ∀ d, d < 6 → Ix (iN (6 * j) + iN d) L := fun d hd => by rw [iN_add]; exact (iN_Ix (by omega)).mpr (by omega)
    have ix0 : Ix (iN (6 * j)) L := (iN_Ix (by omega)).mpr (by omega)
    have ix1 : Ix (iN (6 * j) + 1) L := ix 1 (by decide)
    have ix2 : Ix (iN (6 * j) + 2) L := ix 2 (by decide)
    have ix3 : Ix (iN (6 * j) + 3) L := ix 3 (by decide)
    have ix4 : Ix (iN (6 * j) + 4) L := ix 4 (by decide)
    have ix5 : Ix (iN (6 * j) + 5) L := ix 5 (by decide)
    have ih : ∀ τ, (∃ A, WA τ A) → Out (lL_law_18 L n (iN (6 * j) + 6) τ) K1 := fun τ hτ => by
      rw [show iN (6 * j) + 6 = iN (6 * (j + 1)) from by rw [show (6 : Int32) = iN 6 from rfl, iN_add, show 6 * j + 6 = 6 * (j + 1) by omega]]
      exact loop_ok hL n (j + 1) τ (by omega) (by omega) hτ
    rw [if_pos ix0]
    generalize (gI σ 46 0 (iN (6 * j)).toNatClampNeg) &&& 31 = w
    by_cases c0 : w = 0
    · rw [if_pos c0]
      obtain ⟨r, σ1, σ2, A', h1, h2, h3, h4, h5⟩ := both_plate (gI σ 46 0 (iN (6 * j) + 1).toNatClampNeg) (gI σ 46 0 (iN (6 * j) + 2).toNatClampNeg) (gI σ 46 0 (iN (6 * j) + 3).toNatClampNeg) (gI σ 46 0 (iN (6 * j) + 4).toNatClampNeg) σ A hW
      rw [if_pos ix1, if_pos ix2, if_pos ix3, if_pos ix4, h1, bI_some, if_pos ix1, if_pos ix2, if_pos ix3, if_pos ix4]
      simp only [h2]
      rw [h3, bI_some, if_pos rfl]
      exact ih σ2 ⟨A', h4⟩
    rw [if_neg c0]
    by_cases c1 : w = 1
    · rw [if_pos c1]
      obtain ⟨r, σ1, σ2, A', h1, h2, h3, h4, h5⟩ := both_sign (gI σ 46 0 (iN (6 * j) + 1).toNatClampNeg) σ A hW
      rw [if_pos ix1, h1, bI_some, if_pos ix1]
      simp only [h2]
      rw [h3, bI_some, if_pos rfl]
      exact ih σ2 ⟨A', h4⟩
    rw [if_neg c1]
    by_cases c2 : w = 2
    · rw [if_pos c2]
      obtain ⟨r, σ1, σ2, A', h1, h2, h3, h4, h5⟩ := both_set (gI σ 46 0 (iN (6 * j) + 1).toNatClampNeg) (gI σ 46 0 (iN (6 * j) + 2).toNatClampNeg) σ A hW
      rw [if_pos ix1, if_pos ix2, h1, bI_some, if_pos ix1, if_pos ix2]
      simp only [h2]
      rw [h3, bI_some, if_pos rfl]
      exact ih σ2 ⟨A', h4⟩
    rw [if_neg c2]
    by_cases c3 : w = 3
    · rw [if_pos c3]
      obtain ⟨r, σ1, σ2, A', h1, h2, h3, h4, h5⟩ := both_ofEater (gI σ 46 0 (iN (6 * j) + 1).toNatClampNeg) (gI σ 46 0 (iN (6 * j) + 2).toNatClampNeg) σ A hW
      rw [if_pos ix1, if_pos ix2, h1, bI_some, if_pos ix1, if_pos ix2]
      simp only [h2]
      rw [h3, bI_some, if_pos rfl]
      exact ih σ2 ⟨A', h4⟩
    rw [if_neg c3]
    by_cases c4 : w = 4
    · rw [if_pos c4]
      obtain ⟨r, σ1, σ2, A', h1, h2, h3, h4, h5⟩ := both_law (gI σ 46 0 (iN (6 * j) + 1).toNatClampNeg) σ A hW
      rw [if_pos ix1, h1, bI_some, if_pos ix1]
      simp only [h2]
      rw [h3, bI_some, if_pos rfl]
      exact ih σ2 ⟨A', h4⟩
    rw [if_neg c4]
    by_cases c5 : w = 5
    · rw [if_pos c5]
      obtain ⟨r, σ1, σ2, A', h1, h2, h3, h4, h5⟩ := both_push (gI σ 46 0 (iN (6 * j) + 1).toNatClampNeg) (gI σ 46 0 (iN (6 * j) + 2).toNatClampNeg) (gI σ 46 0 (iN (6 * j) + 3).toNatClampNeg) σ A hW
      rw [if_pos ix1, if_pos ix2, if_pos ix3, h1, bI_some, if_pos ix1, if_pos ix2, if_pos ix3]
      simp only [h2]
      rw [h3, bI_some, if_pos rfl]
      exact ih σ2 ⟨A', h4⟩
    rw [if_neg c5]
    by_cases c6 : w = 6
    · rw [if_pos c6]
      obtain ⟨r, σ1, σ2, A', h1, h2, h3, h4, h5⟩ := both_undo (gI σ 46 0 (iN (6 * j) + 1).toNatClampNeg) σ A hW
      rw [if_pos ix1, h1, bI_some, if_pos ix1]
      simp only [h2]
      rw [h3, bI_some, if_pos rfl]
      exact ih σ2 ⟨A', h4⟩
    rw [if_neg c6]
    by_cases c7 : w = 7
    · rw [if_pos c7]
      obtain ⟨r, σ1, σ2, A', h1, h2, h3, h4, h5⟩ := both_where (gI σ 46 0 (iN (6 * j) + 1).toNatClampNeg) σ A hW
      rw [if_pos ix1, h1, bI_some, if_pos ix1]
      simp only [h2]
      rw [h3, bI_some, if_pos rfl]
      exact ih σ2 ⟨A', h4⟩
    rw [if_neg c7]
    by_cases c8 : w = 8
    · rw [if_pos c8]
      obtain ⟨r, σ1, σ2, A', h1, h2, h3, h4, h5⟩ := both_peas (gI σ 46 0 (iN (6 * j) + 1).toNatClampNeg) σ A hW
      rw [if_pos ix1, h1, bI_some, if_pos ix1]
      simp only [h2]
      rw [h3, bI_some, if_pos rfl]
      exact ih σ2 ⟨A', h4⟩
    rw [if_neg c8]
    by_cases c9 : w = 9
    · rw [if_pos c9]
      obtain ⟨r, σ1, σ2, A', h1, h2, h3, h4, h5⟩ := both_would (gI σ 46 0 (iN (6 * j) + 1).toNatClampNeg) (gI σ 46 0 (iN (6 * j) + 2).toNatClampNeg) (gI σ 46 0 (iN (6 * j) + 3).toNatClampNeg) (gI σ 46 0 (iN (6 * j) + 4).toNatClampNeg) σ A hW
      rw [if_pos ix1, if_pos ix2, if_pos ix3, if_pos ix4, h1, bI_some, if_pos ix1, if_pos ix2, if_pos ix3, if_pos ix4]
      simp only [h2]
      rw [h3, bI_some, if_pos rfl]
      exact ih σ2 ⟨A', h4⟩
    rw [if_neg c9]
    by_cases c10 : w = 10
    · rw [if_pos c10]
      obtain ⟨r, σ1, σ2, A', h1, h2, h3, h4, h5⟩ := both_fewest (gI σ 46 0 (iN (6 * j) + 1).toNatClampNeg) (gI σ 46 0 (iN (6 * j) + 2).toNatClampNeg) σ A hW
      rw [if_pos ix1, if_pos ix2, h1, bI_some, if_pos ix1, if_pos ix2]
      simp only [h2]
      rw [h3, bI_some, if_pos rfl]
      exact ih σ2 ⟨A', h4⟩
    rw [if_neg c10]
    by_cases c11 : w = 11
    · rw [if_pos c11]
      obtain ⟨r, σ1, σ2, A', h1, h2, h3, h4, h5⟩ := both_most (gI σ 46 0 (iN (6 * j) + 1).toNatClampNeg) σ A hW
      rw [if_pos ix1, h1, bI_some, if_pos ix1]
      simp only [h2]
      rw [h3, bI_some, if_pos rfl]
      exact ih σ2 ⟨A', h4⟩
    rw [if_neg c11]
    by_cases c12 : w = 12
    · rw [if_pos c12]
      obtain ⟨r, σ1, σ2, A', h1, h2, h3, h4, h5⟩ := both_wall (gI σ 46 0 (iN (6 * j) + 1).toNatClampNeg) (gI σ 46 0 (iN (6 * j) + 2).toNatClampNeg) (gI σ 46 0 (iN (6 * j) + 3).toNatClampNeg) σ A hW
      rw [if_pos ix1, if_pos ix2, if_pos ix3, h1, bI_some, if_pos ix1, if_pos ix2, if_pos ix3]
      simp only [h2]
      rw [h3, bI_some, if_pos rfl]
      exact ih σ2 ⟨A', h4⟩
    rw [if_neg c12]
    by_cases c13 : w = 13
    · rw [if_pos c13]
      obtain ⟨r, σ1, σ2, A', h1, h2, h3, h4, h5⟩ := both_row (gI σ 46 0 (iN (6 * j) + 1).toNatClampNeg) (gI σ 46 0 (iN (6 * j) + 2).toNatClampNeg) (gI σ 46 0 (iN (6 * j) + 3).toNatClampNeg) (gI σ 46 0 (iN (6 * j) + 4).toNatClampNeg) σ A hW
      rw [if_pos ix1, if_pos ix2, if_pos ix3, if_pos ix4, h1, bI_some, if_pos ix1, if_pos ix2, if_pos ix3, if_pos ix4]
      simp only [h2]
      rw [h3, bI_some, if_pos rfl]
      exact ih σ2 ⟨A', h4⟩
    rw [if_neg c13]
    by_cases c14 : w = 14
    · rw [if_pos c14]
      obtain ⟨r, σ1, σ2, A', h1, h2, h3, h4, h5⟩ := both_odds (gI σ 46 0 (iN (6 * j) + 1).toNatClampNeg) (gI σ 46 0 (iN (6 * j) + 2).toNatClampNeg) (gI σ 46 0 (iN (6 * j) + 3).toNatClampNeg) σ A hW
      rw [if_pos ix1, if_pos ix2, if_pos ix3, h1, bI_some, if_pos ix1, if_pos ix2, if_pos ix3]
      simp only [h2]
      rw [h3, bI_some, if_pos (lg_rr r)]
      exact ih σ2 ⟨A', h4⟩
    rw [if_neg c14]
    by_cases c15 : w = 15
    · rw [if_pos c15]
      obtain ⟨r, σ1, σ2, A', h1, h2, h3, h4, h5⟩ := both_reading (gI σ 46 0 (iN (6 * j) + 1).toNatClampNeg) (gI σ 46 0 (iN (6 * j) + 2).toNatClampNeg) σ A hW
      rw [if_pos ix1, if_pos ix2, h1, bI_some, if_pos ix1, if_pos ix2]
      simp only [h2]
      rw [h3, bI_some, if_pos rfl]
      exact ih σ2 ⟨A', h4⟩
    rw [if_neg c15]
    by_cases c16 : w = 16
    · rw [if_pos c16]
      obtain ⟨r, σ1, σ2, A', h1, h2, h3, h4, h5⟩ := both_back (gI σ 46 0 (iN (6 * j) + 1).toNatClampNeg) σ A hW
      rw [if_pos ix1, h1, bI_some, if_pos ix1]
      simp only [h2]
      rw [h3, bI_some, if_pos rfl]
      exact ih σ2 ⟨A', h4⟩
    rw [if_neg c16]
    by_cases c17 : w = 17
    · rw [if_pos c17]
      obtain ⟨r, σ1, σ2, A', h1, h2, h3, h4, h5⟩ := both_last (gI σ 46 0 (iN (6 * j) + 1).toNatClampNeg) σ A hW
      rw [if_pos ix1, h1, bI_some, if_pos ix1]
      simp only [h2]
      rw [h3, bI_some, if_pos rfl]
      exact ih σ2 ⟨A', h4⟩
    rw [if_neg c17]
    by_cases c18 : w = 18
    · rw [if_pos c18]
      obtain ⟨r, σ1, σ2, A', h1, h2, h3, h4, h5⟩ := both_laws σ A hW
      have h1 : f8_laws σ = some (r, σ1) := h1
      have h3 : f9_laws σ1 = some (r, σ2) := h3
      rw [h1, bI_some, h3, bI_some, if_pos rfl]
      exact ih σ2 ⟨A', h4⟩
    rw [if_neg c18]
    by_cases c19 : w = 19
    · rw [if_pos c19]
      obtain ⟨r, σ1, σ2, A', h1, h2, h3, h4, h5⟩ := both_never σ A hW
      have h1 : f8_never σ = some (r, σ1) := h1
      have h3 : f9_never σ1 = some (r, σ2) := h3
      rw [h1, bI_some, h3, bI_some, if_pos rfl]
      exact ih σ2 ⟨A', h4⟩
    rw [if_neg c19]
    by_cases c20 : w = 20
    · rw [if_pos c20]
      obtain ⟨r, σ1, σ2, A', h1, h2, h3, h4, h5⟩ := both_sheet (gI σ 46 0 (iN (6 * j) + 1).toNatClampNeg) (gI σ 46 0 (iN (6 * j) + 2).toNatClampNeg) (gI σ 46 0 (iN (6 * j) + 3).toNatClampNeg) σ A hW
      rw [if_pos ix1, if_pos ix2, if_pos ix3, h1, bI_some, if_pos ix1, if_pos ix2, if_pos ix3]
      simp only [h2]
      rw [h3, bI_some, if_pos rfl]
      exact ih σ2 ⟨A', h4⟩
    rw [if_neg c20]
    by_cases c21 : w = 21
    · rw [if_pos c21]
      obtain ⟨r, σ1, σ2, A', h1, h2, h3, h4, h5⟩ := both_lose (gI σ 46 0 (iN (6 * j) + 1).toNatClampNeg) σ A hW
      rw [if_pos ix1, h1, bI_some, if_pos ix1]
      simp only [h2]
      rw [h3, bI_some, if_pos rfl]
      exact ih σ2 ⟨A', h4⟩
    rw [if_neg c21]
    by_cases c22 : w = 22
    · rw [if_pos c22]
      obtain ⟨r, σ1, σ2, A', h1, h2, h3, h4, h5⟩ := both_put (gI σ 46 0 (iN (6 * j) + 1).toNatClampNeg) (gI σ 46 0 (iN (6 * j) + 2).toNatClampNeg) (gI σ 46 0 (iN (6 * j) + 3).toNatClampNeg) σ A hW
      rw [if_pos ix1, if_pos ix2, if_pos ix3, h1, bI_some, if_pos ix1, if_pos ix2, if_pos ix3]
      simp only [h2]
      rw [h3, bI_some, if_pos rfl]
      exact ih σ2 ⟨A', h4⟩
    rw [if_neg c22]
    by_cases c23 : w = 23
    · rw [if_pos c23]
      obtain ⟨r, σ1, σ2, A', h1, h2, h3, h4, h5⟩ := both_cell (gI σ 46 0 (iN (6 * j) + 1).toNatClampNeg) (gI σ 46 0 (iN (6 * j) + 2).toNatClampNeg) (gI σ 46 0 (iN (6 * j) + 3).toNatClampNeg) σ A hW
      rw [if_pos ix1, if_pos ix2, if_pos ix3, h1, bI_some, if_pos ix1, if_pos ix2, if_pos ix3]
      simp only [h2]
      rw [h3, bI_some, if_pos (lg_rr r)]
      exact ih σ2 ⟨A', h4⟩
    rw [if_neg c23]
    by_cases c24 : w = 24
    · rw [if_pos c24]
      obtain ⟨r, σ1, σ2, A', h1, h2, h3, h4, h5⟩ := both_copy (gI σ 46 0 (iN (6 * j) + 1).toNatClampNeg) (gI σ 46 0 (iN (6 * j) + 2).toNatClampNeg) (gI σ 46 0 (iN (6 * j) + 3).toNatClampNeg) (gI σ 46 0 (iN (6 * j) + 4).toNatClampNeg) (gI σ 46 0 (iN (6 * j) + 5).toNatClampNeg) σ A hW
      rw [if_pos ix1, if_pos ix2, if_pos ix3, if_pos ix4, if_pos ix5, h1, bI_some, if_pos ix1, if_pos ix2, if_pos ix3, if_pos ix4, if_pos ix5]
      simp only [h2]
      rw [h3, bI_some, if_pos rfl]
      exact ih σ2 ⟨A', h4⟩
    rw [if_neg c24]
    by_cases c25 : w = 25
    · rw [if_pos c25]
      obtain ⟨r, σ1, σ2, A', h1, h2, h3, h4, h5⟩ := both_tell (gI σ 46 0 (iN (6 * j) + 1).toNatClampNeg) σ A hW
      rw [if_pos ix1, h1, bI_some, if_pos ix1]
      simp only [h2]
      rw [h3, bI_some, if_pos rfl]
      exact ih σ2 ⟨A', h4⟩
    rw [if_neg c25]
    by_cases c26 : w = 26
    · rw [if_pos c26]
      obtain ⟨r, σ1, σ2, A', h1, h2, h3, h4, h5⟩ := both_polish (gI σ 46 0 (iN (6 * j) + 1).toNatClampNeg) σ A hW
      rw [if_pos ix1, h1, bI_some, if_pos ix1]
      simp only [h2]
      rw [h3, bI_some, if_pos rfl]
      exact ih σ2 ⟨A', h4⟩
    rw [if_neg c26]
    by_cases c27 : w = 27
    · rw [if_pos c27]
      obtain ⟨r, σ1, σ2, A', h1, h2, h3, h4, h5⟩ := both_as (gI σ 46 0 (iN (6 * j) + 1).toNatClampNeg) (gI σ 46 0 (iN (6 * j) + 2).toNatClampNeg) σ A hW
      rw [if_pos ix1, if_pos ix2, h1, bI_some, if_pos ix1, if_pos ix2]
      simp only [h2]
      rw [h3, bI_some, if_pos rfl]
      exact ih σ2 ⟨A', h4⟩
    rw [if_neg c27]
    by_cases c28 : w = 28
    · rw [if_pos c28]
      obtain ⟨r, σ1, σ2, A', h1, h2, h3, h4, h5⟩ := both_trace σ A hW
      have h1 : f8_trace σ = some (r, σ1) := h1
      have h3 : f9_trace σ1 = some (r, σ2) := h3
      rw [h1, bI_some, h3, bI_some, if_pos rfl]
      exact ih σ2 ⟨A', h4⟩
    rw [if_neg c28]
    by_cases c29 : w = 29
    · rw [if_pos c29]
      obtain ⟨r, σ1, σ2, A', h1, h2, h3, h4, h5⟩ := both_fault σ A hW
      have h1 : f8_fault σ = some (r, σ1) := h1
      have h3 : f9_fault σ1 = some (r, σ2) := h3
      rw [h1, bI_some, h3, bI_some, if_pos rfl]
      exact ih σ2 ⟨A', h4⟩
    rw [if_neg c29]
    by_cases c30 : w = 30
    · rw [if_pos c30]
      obtain ⟨r, σ1, σ2, A', h1, h2, h3, h4, h5⟩ := both_many (gI σ 46 0 (iN (6 * j) + 1).toNatClampNeg) σ A hW
      rw [if_pos ix1, h1, bI_some, if_pos ix1]
      simp only [h2]
      rw [h3, bI_some, if_pos rfl]
      exact ih σ2 ⟨A', h4⟩
    rw [if_neg c30]
    exact ih σ ⟨A, hW⟩
theorem pure_ok {L : Nat} {xs : Nat → Int32} (hL : L ≤ 384) : Out (lL_law_18 L 66 0 (st2 xs)) K1 := loop_ok hL 66 0 (st2 xs) rfl (Nat.zero_le _) ⟨asE, st2_WA xs⟩
