/-! NUMBERS: whole numbers from 0 as Int32 -/
abbrev iN (j : Nat) : Int32 := Int32.ofNat j
theorem iN_toInt {j : Nat} (h : j < 2147483648) : (iN j).toInt = (j : Int) := by
  rw [show (iN j).toInt = (Int32.ofNat j).toInt from rfl, Int32.toInt_ofNat']
  exact Int.bmod_eq_of_le (by show _ ≤ (j : Int); omega) (by show (j : Int) < (4294967296 + 1) / 2; omega)
theorem iN_nat {j : Nat} (h : j < 2147483648) : (iN j).toNatClampNeg = j := by
  show (iN j).toInt.toNat = j
  rw [iN_toInt h]; rfl
theorem iN_le {a b : Nat} (ha : a < 2147483648) (hb : b < 2147483648) : iN a ≤ iN b ↔ a ≤ b := by
  rw [Int32.le_iff_toInt_le, iN_toInt ha, iN_toInt hb]; omega
theorem iN_lt {a b : Nat} (ha : a < 2147483648) (hb : b < 2147483648) : iN a < iN b ↔ a < b := by
  rw [Int32.lt_iff_toInt_lt, iN_toInt ha, iN_toInt hb]; omega
theorem iN_inj {a b : Nat} (ha : a < 2147483648) (hb : b < 2147483648) : iN a = iN b ↔ a = b := by
  rw [← Int32.toInt_inj, iN_toInt ha, iN_toInt hb]; omega
theorem iN_add (a b : Nat) : iN a + iN b = iN (a + b) := (Int32.ofNat_add a b).symm
theorem iN_add1 (a : Nat) : iN a + 1 = iN (a + 1) := iN_add a 1
theorem iN_mul (a b : Nat) : iN a * iN b = iN (a * b) := (Int32.ofNat_mul a b).symm
theorem iN_sub {a b : Nat} (h : b ≤ a) : iN a - iN b = iN (a - b) := by
  rw [show a = (a - b) + b by omega, ← iN_add, Int32.add_sub_cancel, Nat.add_sub_cancel]
theorem iN_neg {j : Nat} (h : j < 2147483648) : ¬ iN j < 0 := by
  rw [Int32.lt_iff_toInt_lt, iN_toInt h]; show ¬ (j : Int) < 0; omega
theorem iN_Ix {j n : Nat} (h : j < 2147483648) : Ix (iN j) n ↔ j < n := by
  unfold Ix
  rw [iN_nat h]
  simp [iN_neg h]
/-- an int is from 0 below n, or not -/
theorem iN_or (x : Int32) (n : Nat) (hn : n < 2147483648) : (∃ j, j < n ∧ x = iN j) ∨ (x < 0 ∨ iN n ≤ x) := by
  by_cases h0 : x < 0
  · exact Or.inr (Or.inl h0)
  · by_cases h1 : iN n ≤ x
    · exact Or.inr (Or.inr h1)
    · left
      rw [Int32.lt_iff_toInt_lt] at h0
      rw [Int32.le_iff_toInt_le, iN_toInt hn] at h1
      have h0' : ¬ x.toInt < 0 := h0
      refine ⟨x.toInt.toNat, by omega, ?_⟩
      rw [← Int32.toInt_inj, iN_toInt (by omega)]
      omega
theorem isBelow_in {j n : Nat} (σ : Sto) (hn : n < 2147483648) (h : j < n) : f8_isBelow (iN j) (iN n) σ = some (1, σ) := by
  unfold f8_isBelow
  rw [if_neg (iN_neg (by omega)), if_neg (by rw [iN_le hn (by omega)]; omega)]
theorem isBelow_out {x : Int32} {n : Nat} (σ : Sto) (h : x < 0 ∨ iN n ≤ x) : f8_isBelow x (iN n) σ = some (0, σ) := by
  unfold f8_isBelow
  by_cases h0 : x < 0
  · rw [if_pos h0]
  · rw [if_neg h0, if_pos (h.resolve_left h0)]
theorem in_in {j n : Nat} (σ : Sto) (hn : n < 2147483648) (h : j < n) : f9_in (iN j).toInt64 0 ((iN n - 1).toInt64) σ = some (1, σ) := by
  unfold f9_in
  have e : iN n - 1 = iN (n - 1) := iN_sub (a := n) (b := 1) (by omega)
  have t1 : (iN j).toInt64.toInt = (j : Int) := by rw [Int32.toInt_toInt64, iN_toInt (by omega)]
  have t2 : (iN n - 1).toInt64.toInt = (n : Int) - 1 := by rw [e, Int32.toInt_toInt64, iN_toInt (by omega)]; omega
  have a1 : ¬ lg_cmp (iN j).toInt64 0 < 0 := by
    have : 0 ≤ lg_cmp (iN j).toInt64 0 := (lg_cmp_ge _ _).mpr (by rw [Int64.le_iff_toInt_le, t1]; show (0 : Int) ≤ j; omega)
    exact Int32.not_lt.mpr this
  have a2 : ¬ 0 < lg_cmp (iN j).toInt64 ((iN n - 1).toInt64) := by
    unfold lg_cmp
    rw [if_neg (by rw [gt_iff_lt, Int64.lt_iff_toInt_lt, t1, t2]; omega)]
    split <;> decide
  rw [if_neg a1, if_neg a2]
theorem in_out {x : Int32} {n : Nat} (σ : Sto) (hn : n < 2147483648) (h : x < 0 ∨ iN n ≤ x) : f9_in x.toInt64 0 ((iN n - 1).toInt64) σ = some (0, σ) := by
  unfold f9_in
  have t1 : x.toInt64.toInt = x.toInt := Int32.toInt_toInt64 x
  have t2 : (iN n - 1).toInt64.toInt = (n : Int) - 1 := by
    rw [Int32.toInt_toInt64, Int32.toInt_sub, iN_toInt hn]
    exact Int.bmod_eq_of_le (by show _ ≤ (n : Int) - 1; omega) (by show (n : Int) - 1 < _; omega)
  rcases h with h | h
  · have a1 : lg_cmp x.toInt64 0 < 0 := by
      have h' : x.toInt < 0 := Int32.lt_iff_toInt_lt.mp h
      unfold lg_cmp
      rw [if_neg (by rw [gt_iff_lt, Int64.lt_iff_toInt_lt, t1]; show ¬ (0 : Int) < _; omega), if_neg (by rw [← Int64.toInt_inj, t1]; show ¬ _ = (0 : Int); omega)]
      decide
    rw [if_pos a1]
  · have h' : (n : Int) ≤ x.toInt := by rw [← iN_toInt hn]; exact Int32.le_iff_toInt_le.mp h
    have a1 : ¬ lg_cmp x.toInt64 0 < 0 := Int32.not_lt.mpr ((lg_cmp_ge _ _).mpr (by rw [Int64.le_iff_toInt_le, t1]; show (0 : Int) ≤ _; omega))
    have a2 : 0 < lg_cmp x.toInt64 ((iN n - 1).toInt64) := by
      unfold lg_cmp
      rw [if_pos (by rw [gt_iff_lt, Int64.lt_iff_toInt_lt, t1, t2]; omega)]
      decide
    rw [if_neg a1, if_pos a2]
theorem bI_some {α β : Type} {r : α} {σ : Sto} {g : α → Sto → Option β} : bI (some (r, σ)) g = g r σ := rfl
theorem bV_some {β : Type} {σ : Sto} {g : Sto → Option β} : bV (some σ) g = g σ := rfl
theorem dr_some {α : Type} {k i : Nat} {f : Nat → Option α} : dr k (some (k, i)) f = f i := by
  show (if k = k then f i else none) = _
  rw [if_pos rfl]
theorem rcs_none {α : Type} {n : α} {f : Nat → Nat → α} : rcs none n f = n := rfl
theorem rcs_some {α : Type} {k i : Nat} {n : α} {f : Nat → Nat → α} : rcs (some (k, i)) n f = f k i := rfl
theorem gI_sI (σ : Sto) (k i j : Nat) (v : Int32) (a b c : Nat) : gI (sI σ k i j v) a b c = if a = k ∧ b = i ∧ c = j then v else gI σ a b c := rfl
theorem gR_sI (σ : Sto) (k i j : Nat) (v : Int32) : gR (sI σ k i j v) = gR σ := rfl
theorem gN_sI (σ : Sto) (k i j : Nat) (v : Int32) : gN (sI σ k i j v) = gN σ := rfl
theorem gI_sR (σ : Sto) (k i j : Nat) (v : Option MA) : gI (sR σ k i j v) = gI σ := rfl
theorem gN_sR (σ : Sto) (k i j : Nat) (v : Option MA) : gN (sR σ k i j v) = gN σ := rfl
theorem gR_sR (σ : Sto) (k i j : Nat) (v : Option MA) (a b c : Nat) : gR (sR σ k i j v) a b c = if a = k ∧ b = i ∧ c = j then v else gR σ a b c := rfl
