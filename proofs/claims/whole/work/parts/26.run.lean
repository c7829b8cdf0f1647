/-! all pushes in their order, but one; where peas begin -/
def P0 (n : Nat) (st : Nat → Nat) : Nat → Nat := fun p => if p < n then st p else 102
def runP (B : Bd) (v : Nat) (F : Nat → Nat) (cs : Nat → Nat) (but : Int32) (Q : Nat → Nat) : Nat → (Nat → Nat)
  | 0 => Q
  | k + 1 => if iN k = but then runP B v F cs but Q k else pushA B v F (runP B v F cs but Q k) (cs k)
theorem okP_0 {B : Bd} {n : Nat} {st : Nat → Nat} (h : ∀ p, p < n → st p < B.1 * B.2.1 ∧ ¬ B.2.2 (st p) = 2) : okP B n (P0 n st) := by
  refine ⟨fun p hp => ?_, fun p hp => ?_⟩
  · unfold P0; rw [if_pos hp]; exact Or.inl (h p hp)
  · unfold P0; rw [if_neg (by omega)]
theorem P0_bits {n : Nat} {st : Nat → Nat} (h : ∀ p, p < n → st p < 30) {y : Nat} (h1 : 30 ≤ y) (h2 : y < 102) : bits (P0 n st) y = 0 := by
  have e : ∀ p, ¬ P0 n st p = y := fun p => by
    unfold P0
    by_cases hp : p < n
    · rw [if_pos hp]; have := h p hp; omega
    · rw [if_neg hp]; omega
  unfold bits
  simp only [if_neg (e _)]
  decide
/-- the class's store: the peas' first squares, how many pushes, their codes -/
theorem c_startOf {σ : Sto} {t n p : Nat} {st : Nat → Nat} (hn : n ≤ 5) (h2 : gI σ 2 t 2 = iN n) (h12 : ∀ p, p < n → gI σ 12 t p = iN (st p)) (hst : ∀ p, p < n → st p < 30) : f2_startOf t (iN p) σ = some (spI (P0 n st p), σ) ∨ ¬ p < 5 := by
  by_cases hp5 : p < 5
  · left
    unfold f2_startOf f2_hasPea P0
    rw [h2]
    by_cases hp : p < n
    · rw [isBelow_in σ (by omega) hp, bI_some, if_pos (Or.inr rfl), bI_some, if_neg (by decide), if_pos ((iN_Ix (by omega)).mpr hp5), iN_nat (by omega), h12 p hp, if_pos hp, spI_lt (hst p hp)]
    · rw [isBelow_out σ (Or.inr ((iN_le (by omega) (by omega)).mpr (Nat.le_of_not_lt hp))), bI_some, if_pos (Or.inl rfl), bI_some, if_pos rfl, if_neg hp, spI_ge (by omega)]
  · exact Or.inr hp5
