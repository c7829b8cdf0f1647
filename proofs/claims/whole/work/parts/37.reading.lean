theorem c_rd {σ : Sto} {R : Nat} {a1 a2 : Int32} (hR : R ≤ 8) (h : gI σ 8 0 7 = iN R) : (if (gI σ 8 0 7) < 8 then (if Ix (gI σ 8 0 7) 8 then (if Ix (gI (sI σ 21 0 (gI σ 8 0 7).toNatClampNeg a1) 8 0 7) 8 then (some ((gI (sI (sI (sI σ 21 0 (gI σ 8 0 7).toNatClampNeg a1) 22 0 (gI (sI σ 21 0 (gI σ 8 0 7).toNatClampNeg a1) 8 0 7).toNatClampNeg a2) 8 0 7 ((gI (sI (sI σ 21 0 (gI σ 8 0 7).toNatClampNeg a1) 22 0 (gI (sI σ 21 0 (gI σ 8 0 7).toNatClampNeg a1) 8 0 7).toNatClampNeg a2) 8 0 7) + 1)) 8 0 7) - 1, (sI (sI (sI σ 21 0 (gI σ 8 0 7).toNatClampNeg a1) 22 0 (gI (sI σ 21 0 (gI σ 8 0 7).toNatClampNeg a1) 8 0 7).toNatClampNeg a2) 8 0 7 ((gI (sI (sI σ 21 0 (gI σ 8 0 7).toNatClampNeg a1) 22 0 (gI (sI σ 21 0 (gI σ 8 0 7).toNatClampNeg a1) 8 0 7).toNatClampNeg a2) 8 0 7) + 1)))) else none) else none) else (some ((-4), σ))) = if R < 8 then some (iN R, sI (sI (sI σ 21 0 R a1) 22 0 R a2) 8 0 7 (iN (R + 1))) else some (-4, σ) := by
  have e1 : ∀ (i : Nat) (x : Int32), gI (sI σ 21 0 i x) 8 0 7 = iN R := fun i x => by rw [gI_sI, if_neg (by omega)]; exact h
  have e2 : ∀ (i i' : Nat) (x y : Int32), gI (sI (sI σ 21 0 i' x) 22 0 i y) 8 0 7 = iN R := fun i i' x y => by rw [gI_sI, if_neg (by omega)]; exact e1 i' x
  have e3 : ∀ (τ : Sto) (z : Int32), gI (sI τ 8 0 7 z) 8 0 7 = z := fun _ _ => rfl
  simp only [e3, e2, e1, h, iN_add1]
  by_cases hlt : R < 8
  · have ix : Ix (iN R) 8 := (iN_Ix (by omega)).mpr hlt
    rw [if_pos (show iN R < 8 from (iN_lt (b := 8) (by omega) (by omega)).mpr hlt), if_pos ix, if_pos ix, if_pos hlt, iN_nat (by omega), iN_pred']
  · rw [if_neg (show ¬ iN R < 8 from fun q => hlt ((iN_lt (b := 8) (by omega) (by omega)).mp q)), if_neg hlt]
theorem m_rd {σ : Sto} {R : Nat} {a1 a2 : Int32} (hR : R ≤ 8) (h : gI σ 9 0 11 = iN R) : (if (gI σ 9 0 11) = 8 then (some ((-4), σ)) else (if Ix (gI σ 9 0 11) 8 then (if Ix (gI (sI σ 29 0 (gI σ 9 0 11).toNatClampNeg a1) 9 0 11) 8 then (some ((gI (sI (sI (sI σ 29 0 (gI σ 9 0 11).toNatClampNeg a1) 30 0 (gI (sI σ 29 0 (gI σ 9 0 11).toNatClampNeg a1) 9 0 11).toNatClampNeg a2) 9 0 11 ((gI (sI (sI σ 29 0 (gI σ 9 0 11).toNatClampNeg a1) 30 0 (gI (sI σ 29 0 (gI σ 9 0 11).toNatClampNeg a1) 9 0 11).toNatClampNeg a2) 9 0 11) + 1)) 9 0 11) - 1, (sI (sI (sI σ 29 0 (gI σ 9 0 11).toNatClampNeg a1) 30 0 (gI (sI σ 29 0 (gI σ 9 0 11).toNatClampNeg a1) 9 0 11).toNatClampNeg a2) 9 0 11 ((gI (sI (sI σ 29 0 (gI σ 9 0 11).toNatClampNeg a1) 30 0 (gI (sI σ 29 0 (gI σ 9 0 11).toNatClampNeg a1) 9 0 11).toNatClampNeg a2) 9 0 11) + 1)))) else none) else none)) = if R < 8 then some (iN R, sI (sI (sI σ 29 0 R a1) 30 0 R a2) 9 0 11 (iN (R + 1))) else some (-4, σ) := by
  have e1 : ∀ (i : Nat) (x : Int32), gI (sI σ 29 0 i x) 9 0 11 = iN R := fun i x => by rw [gI_sI, if_neg (by omega)]; exact h
  have e2 : ∀ (i i' : Nat) (x y : Int32), gI (sI (sI σ 29 0 i' x) 30 0 i y) 9 0 11 = iN R := fun i i' x y => by rw [gI_sI, if_neg (by omega)]; exact e1 i' x
  have e3 : ∀ (τ : Sto) (z : Int32), gI (sI τ 9 0 11 z) 9 0 11 = z := fun _ _ => rfl
  simp only [e3, e2, e1, h, iN_add1]
  by_cases hlt : R < 8
  · have ix : Ix (iN R) 8 := (iN_Ix (by omega)).mpr hlt
    rw [if_neg (show ¬ iN R = 8 from fun q => by have := (iN_inj (b := 8) (by omega) (by omega)).mp q; omega), if_pos ix, if_pos ix, if_pos hlt, iN_nat (by omega), iN_pred']
  · rw [if_pos (show iN R = 8 from (iN_inj (b := 8) (by omega) (by omega)).mpr (by omega)), if_neg hlt]
