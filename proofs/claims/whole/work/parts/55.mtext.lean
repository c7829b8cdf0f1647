/-! the reference reads a text -/
def FT (σ σ' : Sto) : Prop := σ'.2 = σ.2 ∧ ∀ k a b, ¬ (k = 9 ∧ a = 0 ∧ 20 ≤ b) → ¬ (35 ≤ k ∧ k ≤ 38) → gI σ' k a b = gI σ k a b
theorem FT.rfl {σ : Sto} : FT σ σ := ⟨Eq.refl _, fun _ _ _ _ _ => Eq.refl _⟩
theorem FT.trans {a b c : Sto} (h1 : FT a b) (h2 : FT b c) : FT a c := ⟨h2.1.trans h1.1, fun k i j h h' => (h2.2 k i j h h').trans (h1.2 k i j h h')⟩
theorem FT_9 {σ : Sto} {j : Nat} {x : Int32} (hj : 20 ≤ j) : FT σ (sI σ 9 0 j x) := ⟨Eq.refl _, fun k a b h _ => by rw [gI_sI, if_neg (by omega)]⟩
theorem FT_3 {σ : Sto} {k i j : Nat} {x : Int32} (hk : 35 ≤ k ∧ k ≤ 38) : FT σ (sI σ k i j x) := ⟨Eq.refl _, fun k' a b _ h => by rw [gI_sI, if_neg (by omega)]⟩
/-- the same, but for what the head of a text says -/
def FU (σ σ' : Sto) : Prop := σ'.2 = σ.2 ∧ ∀ k a b, ¬ (k = 9 ∧ a = 0 ∧ (b = 20 ∨ b = 24 ∨ b = 27)) → ¬ (35 ≤ k ∧ k ≤ 38) → gI σ' k a b = gI σ k a b
theorem FU.rfl {σ : Sto} : FU σ σ := ⟨Eq.refl _, fun _ _ _ _ _ => Eq.refl _⟩
theorem FU.trans {a b c : Sto} (h1 : FU a b) (h2 : FU b c) : FU a c := ⟨h2.1.trans h1.1, fun k i j h h' => (h2.2 k i j h h').trans (h1.2 k i j h h')⟩
theorem FU_9 {σ : Sto} {j : Nat} {x : Int32} (hj : j = 20 ∨ j = 24 ∨ j = 27) : FU σ (sI σ 9 0 j x) := ⟨Eq.refl _, fun k a b h _ => by rw [gI_sI, if_neg (by omega)]⟩
theorem FU_3 {σ : Sto} {k i j : Nat} {x : Int32} (hk : 35 ≤ k ∧ k ≤ 38) : FU σ (sI σ k i j x) := ⟨Eq.refl _, fun k' a b _ h => by rw [gI_sI, if_neg (by omega)]⟩
theorem FU.ft {σ σ' : Sto} (h : FU σ σ') : FT σ σ' := ⟨h.1, fun k a b h1 h2 => h.2 k a b (by omega) h2⟩
/-- where the reference stands in the text, and what it has read -/
def MP (σ : Sto) (T : Nat → Int32) (o n x : Nat) (S : PS) : Prop := (gI σ 9 0 20 = iN (o + x) ∧ gI σ 9 0 21 = iN (o + n) ∧ gI σ 9 0 24 = iN (pP S) ∧ gI σ 9 0 27 = iN (pM S)) ∧ (∀ y, y < n → gI σ 33 0 (o + y) = T y) ∧ (∀ j, j < pQ S → gI σ 35 0 j = S.2.2.2.2 j) ∧ (∀ j, j < pP S → gI σ 36 0 j = iN (S.2.1 j)) ∧ (∀ e, e < pL S → gI σ 37 0 e = iN (S.2.2.1 e)) ∧ ∀ e, e < pM S → gI σ 38 0 e = iN (S.2.2.2.1 e)
theorem in_gen {σ : Sto} {c : Int32} {a b : Nat} (ha : a < 1000) (hb : b < 1000) : f9_in c.toInt64 (iN a).toInt64 (iN b).toInt64 σ = some (if (a : Int) ≤ c.toInt ∧ c.toInt ≤ b then 1 else 0, σ) := by
  rw [in_inP]
  have tc : c.toInt64.toInt = c.toInt := Int32.toInt_toInt64 c
  have ta : (iN a).toInt64.toInt = (a : Int) := by rw [Int32.toInt_toInt64, iN_toInt (by omega)]
  have tb : (iN b).toInt64.toInt = (b : Int) := by rw [Int32.toInt_toInt64, iN_toInt (by omega)]
  unfold inP
  by_cases h1 : (a : Int) ≤ c.toInt
  · have q1 : ¬ lg_cmp c.toInt64 (iN a).toInt64 < 0 := Int32.not_lt.mpr ((lg_cmp_ge _ _).mpr (by rw [Int64.le_iff_toInt_le, tc, ta]; exact h1))
    rw [if_neg q1]
    by_cases h2 : c.toInt ≤ b
    · have q2 : ¬ 0 < lg_cmp c.toInt64 (iN b).toInt64 := by
        unfold lg_cmp
        rw [if_neg (by rw [gt_iff_lt, Int64.lt_iff_toInt_lt, tc, tb]; omega)]
        split <;> decide
      rw [if_neg q2, if_pos ⟨h1, h2⟩]
    · have q2 : 0 < lg_cmp c.toInt64 (iN b).toInt64 := by
        unfold lg_cmp
        rw [if_pos (by rw [gt_iff_lt, Int64.lt_iff_toInt_lt, tc, tb]; omega)]
        decide
      rw [if_pos q2, if_neg (fun q => h2 q.2)]
  · have q1 : lg_cmp c.toInt64 (iN a).toInt64 < 0 := by
      unfold lg_cmp
      rw [if_neg (by rw [gt_iff_lt, Int64.lt_iff_toInt_lt, tc, ta]; omega), if_neg (by rw [← Int64.toInt_inj, tc, ta]; omega)]
      decide
    rw [if_pos q1, if_neg (fun q => h1 q.1)]
theorem m_take {σ : Sto} {T : Nat → Int32} {o n x a b : Nat} (ha : a < 1000) (hb : b < 1000) (ho : o + n ≤ 240) (hx : x ≤ n) (h20 : gI σ 9 0 20 = iN (o + x)) (h21 : gI σ 9 0 21 = iN (o + n)) (hT : ∀ y, y < n → gI σ 33 0 (o + y) = T y) : f9_take (iN a) (iN b) σ = if x < n ∧ (a : Int) ≤ (T x).toInt ∧ (T x).toInt ≤ b then some (T x - iN a, sI σ 9 0 20 (iN (o + x + 1))) else some (-1, σ) := by
  unfold f9_take
  rw [h20, h21]
  by_cases e : x = n
  · rw [if_pos (by rw [e]), if_neg (fun q => by omega)]
  · have ix : Ix (iN (o + x)) 240 := (iN_Ix (by omega)).mpr (by omega)
    have e33 : gI σ 33 0 (iN (o + x)).toNatClampNeg = T x := by rw [iN_nat (by omega), hT x (by omega)]
    rw [if_neg (by rw [iN_inj (by omega) (by omega)]; omega), if_pos ix, e33, in_gen ha hb, bI_some]
    by_cases q : (a : Int) ≤ (T x).toInt ∧ (T x).toInt ≤ b
    · have e20 : gI (sI σ 9 0 20 (iN (o + x + 1))) 9 0 20 = iN (o + x + 1) := rfl
      rw [if_pos q, if_neg (by decide), if_pos (show x < n ∧ (a : Int) ≤ (T x).toInt ∧ (T x).toInt ≤ b from ⟨by omega, q⟩), h20, iN_add1, e20, iN_pred', if_pos ix, show gI (sI σ 9 0 20 (iN (o + x + 1))) 33 0 (iN (o + x)).toNatClampNeg = T x from by rw [gI_sI, if_neg (by omega)]; exact e33]
    · rw [if_neg q, if_pos rfl, if_neg (show ¬ (x < n ∧ (a : Int) ≤ (T x).toInt ∧ (T x).toInt ≤ b) from fun z => q z.2)]
theorem T_eq {c : Int32} {a : Nat} (ha : a < 1000) : ((a : Int) ≤ c.toInt ∧ c.toInt ≤ a) ↔ c = iN a := by
  rw [← Int32.toInt_inj, iN_toInt (by omega)]
  omega
/-- one code, a square's -/
def sq9 (T : Nat → Int32) (n x : Nat) (S : PS) : Option PS := if x < n then sqS S (T x) else none
theorem m_takeSq {σ : Sto} {T : Nat → Int32} {o n x : Nat} {S : PS} (ho : o + n ≤ 240) (hx : x ≤ n) (hq : pQ S < 30) (hp5 : pP S ≤ 5) (hM : MP σ T o n x S) : (sq9 T n x S = none ∧ ∃ σ', f9_takeSquare (iN (pQ S)) σ = some (0, σ') ∧ gI σ' 9 0 20 = iN (o + x) ∧ FU σ σ') ∨ (∃ S', sq9 T n x S = some S' ∧ ∃ σ', f9_takeSquare (iN (pQ S)) σ = some (1, σ') ∧ MP σ' T o n (x + 1) S' ∧ FU σ σ') := by
  obtain ⟨⟨p1, p2, p3, p4⟩, p5, p6, p7, p8, p9⟩ := hM
  have ixq : Ix (iN (pQ S)) 30 := (iN_Ix (by omega)).mpr (by omega)
  have eq : (iN (pQ S)).toNatClampNeg = pQ S := iN_nat (by omega)
  have bad : ∀ v, f9_takeSquare (iN (pQ S)) σ = some (0, sI σ 35 0 (pQ S) v) → ∃ σ', f9_takeSquare (iN (pQ S)) σ = some (0, σ') ∧ gI σ' 9 0 20 = iN (o + x) ∧ FU σ σ' := fun v h => ⟨_, h, by rw [gI_sI, if_neg (by omega)]; exact p1, FU_3 (by decide)⟩
  unfold sq9
  by_cases e : x = n
  · rw [if_neg (show ¬ x < n by omega)]
    refine Or.inl ⟨rfl, bad 0 ?_⟩
    unfold f9_takeSquare
    rw [p1, p2, if_pos (by rw [e]), if_pos ixq, eq]
  · have ix : Ix (iN (o + x)) 240 := (iN_Ix (by omega)).mpr (by omega)
    have e33 : gI σ 33 0 (iN (o + x)).toNatClampNeg = T x := by rw [iN_nat (by omega), p5 x (by omega)]
    have ne : ¬ iN (o + x) = iN (o + n) := by rw [iN_inj (by omega) (by omega)]; omega
    have e24 : ∀ i v, gI (sI σ 35 0 i v) 9 0 24 = iN (pP S) := fun i v => by rw [gI_sI, if_neg (by omega)]; exact p3
    have e24' : ∀ i v j u, gI (sI (sI σ 35 0 i v) 36 0 j u) 9 0 24 = iN (pP S) := fun i v j u => by rw [gI_sI, if_neg (by omega)]; exact e24 i v
    have e20 : ∀ i v, gI (sI σ 35 0 i v) 9 0 20 = iN (o + x) := fun i v => by rw [gI_sI, if_neg (by omega)]; exact p1
    have e20' : ∀ i v j u w, gI (sI (sI (sI σ 35 0 i v) 36 0 j u) 9 0 24 w) 9 0 20 = iN (o + x) := fun i v j u w => by rw [gI_sI, if_neg (by omega), gI_sI, if_neg (by omega)]; exact e20 i v
    have good : ∀ s, sgn (T x) = some s → ¬ T x = 111 → f9_takeSquare (iN (pQ S)) σ = some (1, sI (sI σ 35 0 (pQ S) s) 9 0 20 (iN (o + x + 1))) → ∃ S', sqS S (T x) = some S' ∧ ∃ σ', f9_takeSquare (iN (pQ S)) σ = some (1, σ') ∧ MP σ' T o n (x + 1) S' ∧ FU σ σ' := by
      intro s hs hn hf
      unfold sqS
      rw [if_neg hn, hs]
      refine ⟨_, rfl, _, hf, ⟨⟨?_, ?_, ?_, ?_⟩, fun y hy => ?_, fun j hj => ?_, fun j hj => ?_, fun e he => ?_, fun e he => ?_⟩, (FU_3 (by decide)).trans (FU_9 (by decide))⟩
      · rw [gI_sI, if_pos ⟨rfl, rfl, rfl⟩]; rfl
      · rw [gI_sI, if_neg (by omega), gI_sI, if_neg (by omega)]; exact p2
      · rw [gI_sI, if_neg (by omega), gI_sI, if_neg (by omega)]; exact p3
      · rw [gI_sI, if_neg (by omega), gI_sI, if_neg (by omega)]; exact p4
      · rw [gI_sI, if_neg (by omega), gI_sI, if_neg (by omega)]; exact p5 y hy
      · have hj : j < pQ S + 1 := hj
        show _ = upI S.2.2.2.2 (pQ S) s j
        rw [gI_sI, if_neg (by omega), gI_sI]
        by_cases ej : j = pQ S
        · rw [if_pos ⟨rfl, rfl, ej⟩, ej, upI_eq]
        · rw [if_neg (by omega), upI_ne ej]; exact p6 j (by omega)
      · rw [gI_sI, if_neg (by omega), gI_sI, if_neg (by omega)]; exact p7 j hj
      · rw [gI_sI, if_neg (by omega), gI_sI, if_neg (by omega)]; exact p8 e he
      · rw [gI_sI, if_neg (by omega), gI_sI, if_neg (by omega)]; exact p9 e he
    rw [if_pos (show x < n by omega)]
    by_cases h111 : T x = 111
    · have n1 : ¬ T x = 103 := by rw [h111]; decide
      have n2 : ¬ T x = 109 := by rw [h111]; decide
      have n3 : ¬ T x = 46 := by rw [h111]; decide
      by_cases hp : pP S < 5
      · have l5 : ¬ (5 : Int32) ≤ iN (pP S) := by rw [show (5 : Int32) = iN 5 from rfl, iN_le (by omega) (by omega)]; omega
        have ixp : Ix (iN (pP S)) 5 := (iN_Ix (by omega)).mpr hp
        have ep : (iN (pP S)).toNatClampNeg = pP S := iN_nat (by omega)
        have E : f9_takeSquare (iN (pQ S)) σ = some (1, sI (sI (sI (sI σ 35 0 (pQ S) 0) 36 0 (pP S) (iN (pQ S))) 9 0 24 (iN (pP S + 1))) 9 0 20 (iN (o + x + 1))) := by
          unfold f9_takeSquare
          rw [p1, p2, if_neg ne, if_pos ix, e33, p3, if_pos h111, if_neg l5, if_neg n1, if_neg n2, if_pos ixq, if_neg n3, if_neg n1, if_neg n2, e24, if_pos ixp, e24', iN_add1, e20', iN_add1, ep, eq]
        rw [E]
        unfold sqS
        rw [if_pos h111, if_pos hp]
        refine Or.inr ⟨_, rfl, _, rfl, ⟨⟨?_, ?_, ?_, ?_⟩, fun y hy => ?_, fun j hj => ?_, fun j hj => ?_, fun e he => ?_, fun e he => ?_⟩, ((FU_3 (by decide)).trans (FU_3 (by decide))).trans ((FU_9 (by decide)).trans (FU_9 (by decide)))⟩
        · rw [gI_sI, if_pos ⟨rfl, rfl, rfl⟩]; rfl
        · rw [gI_sI, if_neg (by omega), gI_sI, if_neg (by omega), gI_sI, if_neg (by omega), gI_sI, if_neg (by omega)]; exact p2
        · rw [gI_sI, if_neg (by omega), gI_sI, if_pos ⟨rfl, rfl, rfl⟩]; rfl
        · rw [gI_sI, if_neg (by omega), gI_sI, if_neg (by omega), gI_sI, if_neg (by omega), gI_sI, if_neg (by omega)]; exact p4
        · rw [gI_sI, if_neg (by omega), gI_sI, if_neg (by omega), gI_sI, if_neg (by omega), gI_sI, if_neg (by omega)]; exact p5 y hy
        · have hj : j < pQ S + 1 := hj
          show _ = upI S.2.2.2.2 (pQ S) 0 j
          rw [gI_sI, if_neg (by omega), gI_sI, if_neg (by omega), gI_sI, if_neg (by omega), gI_sI]
          by_cases ej : j = pQ S
          · rw [if_pos ⟨rfl, rfl, ej⟩, ej, upI_eq]
          · rw [if_neg (by omega), upI_ne ej]; exact p6 j (by omega)
        · have hj : j < pP S + 1 := hj
          show _ = iN (up S.2.1 (pP S) (pQ S) j)
          rw [gI_sI, if_neg (by omega), gI_sI, if_neg (by omega), gI_sI]
          by_cases ej : j = pP S
          · rw [if_pos ⟨rfl, rfl, ej⟩, ej, up_eq]
          · rw [if_neg (by omega), up_ne ej, gI_sI, if_neg (by omega)]; exact p7 j (by omega)
        · rw [gI_sI, if_neg (by omega), gI_sI, if_neg (by omega), gI_sI, if_neg (by omega), gI_sI, if_neg (by omega)]; exact p8 e he
        · rw [gI_sI, if_neg (by omega), gI_sI, if_neg (by omega), gI_sI, if_neg (by omega), gI_sI, if_neg (by omega)]; exact p9 e he
      · have l5 : (5 : Int32) ≤ iN (pP S) := (iN_le (a := 5) (by omega) (by omega)).mpr (by omega)
        unfold sqS
        rw [if_pos h111, if_neg hp]
        refine Or.inl ⟨rfl, bad 0 ?_⟩
        unfold f9_takeSquare
        rw [p1, p2, if_neg ne, if_pos ix, e33, p3, if_pos h111, if_pos l5, if_neg n1, if_neg n2, if_pos ixq, if_neg n3, if_neg n1, if_neg n2, eq]
    · by_cases h103 : T x = 103
      · have n3 : ¬ T x = 46 := by rw [h103]; decide
        refine Or.inr (good 1 (by unfold sgn; rw [if_neg n3, if_pos h103]) h111 ?_)
        unfold f9_takeSquare
        rw [p1, p2, if_neg ne, if_pos ix, e33, if_neg h111, if_pos h103, if_pos ixq, if_neg n3, if_pos h103, e20, iN_add1, eq]
      · by_cases h109 : T x = 109
        · have n3 : ¬ T x = 46 := by rw [h109]; decide
          refine Or.inr (good 2 (by unfold sgn; rw [if_neg n3, if_neg h103, if_pos h109]) h111 ?_)
          unfold f9_takeSquare
          rw [p1, p2, if_neg ne, if_pos ix, e33, if_neg h111, if_neg h103, if_pos h109, if_pos ixq, if_neg n3, if_neg h103, if_pos h109, e20, iN_add1, eq]
        · by_cases h46 : T x = 46
          · refine Or.inr (good 0 (by unfold sgn; rw [if_pos h46]) h111 ?_)
            unfold f9_takeSquare
            rw [p1, p2, if_neg ne, if_pos ix, e33, if_neg h111, if_neg h103, if_neg h109, if_pos ixq, if_pos h46, e20, iN_add1, eq]
          · have E : f9_takeSquare (iN (pQ S)) σ = some (0, sI σ 35 0 (pQ S) 0) := by
              unfold f9_takeSquare
              rw [p1, p2, if_neg ne, if_pos ix, e33, if_neg h111, if_neg h103, if_neg h109, if_pos ixq, if_neg h46, if_neg h103, if_neg h109, eq]
            unfold sqS sgn
            rw [if_neg h111, if_neg h46, if_neg h103, if_neg h109]
            exact Or.inl ⟨rfl, bad 0 E⟩
/-! the squares -/
theorem beq_f {a b : Nat} (h : Nat.beq a b = false) : ¬ a = b := fun e => by
  rw [e, Nat.beq_refl] at h
  exact absurd h (by decide)
def yc (w c : Nat) : Nat := (c / w) * (w + 1) + (if c % w = 0 then 0 else c % w + 1)
theorem yc_chk : ((List.range 6).all fun h => (List.range 7).all fun w => (List.range 30).all fun c => !(Nat.ble 2 h && Nat.ble 2 w && Nat.blt c (h * w)) || (Nat.beq (yc w (h * w)) (h * (w + 1)) && Nat.blt (yc w c) (h * (w + 1)) && (if c % w = 0 then Nat.beq (yc w c % (w + 1)) 0 && !(Nat.beq ((yc w c + 1) % (w + 1)) 0) && Nat.beq (yc w (c + 1)) (yc w c + 2) && Nat.blt (yc w c + 1) (h * (w + 1)) else !(Nat.beq (yc w c % (w + 1)) 0) && Nat.beq (yc w (c + 1)) (yc w c + 1)))) = true := by decide +kernel
theorem yc_at {h w c : Nat} (h1 : 2 ≤ h ∧ h ≤ 5) (h2 : 2 ≤ w ∧ w ≤ 6) (hc : c < h * w) : yc w (h * w) = h * (w + 1) ∧ yc w c < h * (w + 1) ∧ (c % w = 0 → yc w c % (w + 1) = 0 ∧ ¬ (yc w c + 1) % (w + 1) = 0 ∧ yc w (c + 1) = yc w c + 2 ∧ yc w c + 1 < h * (w + 1)) ∧ (¬ c % w = 0 → ¬ yc w c % (w + 1) = 0 ∧ yc w (c + 1) = yc w c + 1) := by
  have h30 : h * w ≤ 30 := Nat.mul_le_mul h1.2 h2.2
  have := List.all_eq_true.mp (List.all_eq_true.mp (List.all_eq_true.mp yc_chk h (List.mem_range.mpr (by omega))) w (List.mem_range.mpr (by omega))) c (List.mem_range.mpr (by omega))
  have e : (Nat.ble 2 h && Nat.ble 2 w && Nat.blt c (h * w)) = true := by
    rw [Nat.ble_eq_true_of_le h1.1, Nat.ble_eq_true_of_le h2.1]
    simp only [Bool.true_and]
    exact Nat.ble_eq_true_of_le hc
  rw [e] at this
  simp only [Bool.not_true, Bool.false_or, Bool.and_eq_true, Nat.beq_eq, Nat.blt_eq] at this
  refine ⟨this.1.1, this.1.2, fun h0 => ?_, fun h0 => ?_⟩
  · have q := this.2
    rw [if_pos h0] at q
    simp only [Bool.and_eq_true, Nat.beq_eq, Nat.blt_eq, Bool.not_eq_true'] at q
    exact ⟨q.1.1.1, beq_f q.1.1.2, q.1.2, q.2⟩
  · have q := this.2
    rw [if_neg h0] at q
    simp only [Bool.and_eq_true, Nat.beq_eq, Bool.not_eq_true'] at q
    exact ⟨beq_f q.1, q.2⟩
theorem itP_s {T : Nat → Int32} {n x : Nat} {S : PS} (hx : x < n) : itP T (n - x) x S = match stp S x (T x) with
    | none => (x, none)
    | some S' => itP T (n - (x + 1)) (x + 1) S' := by
  rw [show n - x = (n - (x + 1)) + 1 by omega]
  rfl
theorem itP_n {T : Nat → Int32} {n : Nat} {S : PS} : itP T (n - n) n S = (n, some S) := by
  rw [Nat.sub_self]; rfl
/-- from here on no text, and where the fault is -/
def badF (T : Nat → Int32) (n x : Nat) (S : PS) (y : Nat) : Prop := (itP T (n - x) x S).1 = y ∧ ∀ S', (itP T (n - x) x S).2 = some S' → ¬ cpl S' n
theorem badF_stop {T : Nat → Int32} {n x : Nat} {S : PS} (hx : x ≤ n) (h1 : x < n → stp S x (T x) = none) (h2 : x = n → ¬ cpl S n) : badF T n x S x := by
  unfold badF
  by_cases e : x = n
  · subst e
    rw [itP_n]
    exact ⟨rfl, fun S' hS => by rw [← Option.some.inj hS]; exact h2 rfl⟩
  · rw [itP_s (by omega), h1 (by omega)]
    exact ⟨rfl, fun S' hS => absurd hS (by simp)⟩
theorem itP_go {T : Nat → Int32} {n x : Nat} {S S' : PS} (hx : x < n) (h : stp S x (T x) = some S') : itP T (n - x) x S = itP T (n - (x + 1)) (x + 1) S' := by
  rw [itP_s hx, h]
theorem stp_sq {S : PS} {x : Nat} {c : Int32} (hx : 3 ≤ x) (hy : x - 3 < pR S) (h0 : ¬ (x - 3) % (pW S + 1) = 0) : stp S x c = sqS S c := by
  unfold stp
  rw [if_neg (by omega), if_neg (by omega), if_neg (by omega), if_pos hy, if_neg h0]
theorem stp_ro {S : PS} {x : Nat} {c : Int32} (hx : 3 ≤ x) (hy : x - 3 < pR S) (h0 : (x - 3) % (pW S + 1) = 0) : stp S x c = if c = 59 then some S else none := by
  unfold stp
  rw [if_neg (by omega), if_neg (by omega), if_neg (by omega), if_pos hy, if_pos h0]
theorem stp_et {S : PS} {x : Nat} {c : Int32} (hx : 3 ≤ x) (hy : pR S ≤ x - 3) : stp S x c = etS S (x - 3 - pR S) c := by
  unfold stp
  rw [if_neg (by omega), if_neg (by omega), if_neg (by omega), if_neg (by omega)]
theorem sqS_HW {S S' : PS} {c : Int32} (h : sqS S c = some S') : pH S' = pH S ∧ pW S' = pW S ∧ pQ S' = pQ S + 1 := by
  unfold sqS at h
  split at h
  · split at h
    · rw [← Option.some.inj h]; exact ⟨rfl, rfl, rfl⟩
    · exact absurd h (by simp)
  · cases e : sgn c with
    | none => rw [e] at h; exact absurd h (by simp)
    | some s => rw [e] at h; rw [← Option.some.inj h]; exact ⟨rfl, rfl, rfl⟩
theorem sq_0 {k : Nat} {a : Int32} {σ : Sto} : l9_takeSquares_4 (k + 1) 0 a σ = some (0, σ) := by
  show (if ((gI σ 9 0 22) * (gI σ 9 0 23)) ≤ a then (if (0 : Int32) = 0 ∨ (0 : Int32) = 1 then some (0, σ) else none) else (if (0 : Int32) = 0 then (if (0 : Int32) = 0 ∨ (0 : Int32) = 1 then some (0, σ) else none) else _)) = _
  split
  · rw [if_pos (Or.inl rfl)]
  · rw [if_pos rfl, if_pos (Or.inl rfl)]
/-- a square without its rim of the row ahead of it -/
theorem m_sqStep {σ : Sto} {T : Nat → Int32} {o n x : Nat} {S : PS} (ho : o + n ≤ 240) (hx : x ≤ n) (h3 : 3 ≤ x) (hI : Iv S x) (hy : x - 3 < pR S) (h0 : ¬ (x - 3) % (pW S + 1) = 0) (hM : MP σ T o n x S) : (∃ σ', f9_takeSquare (iN (pQ S)) σ = some (0, σ') ∧ gI σ' 9 0 20 = iN (o + x) ∧ FU σ σ' ∧ badF T n x S x) ∨ (∃ S' σ', f9_takeSquare (iN (pQ S)) σ = some (1, σ') ∧ x < n ∧ MP σ' T o n (x + 1) S' ∧ FU σ σ' ∧ Iv S' (x + 1) ∧ (pH S' = pH S ∧ pW S' = pW S ∧ pQ S' = pQ S + 1) ∧ itP T (n - x) x S = itP T (n - (x + 1)) (x + 1) S') := by
  have q30 := pQ_30 hI h3
  have qlt := pQ_lt hI h3 hy h0
  have m0 := (hI.2.2.2.1 h3 (by omega)).2.1
  rcases m_takeSq ho hx (show pQ S < 30 by omega) hI.2.2.2.2.2.1.1 hM with ⟨q1, s1, q2, q3, q4⟩ | ⟨S', q1, s1, q2, q3, q4⟩
  · refine Or.inl ⟨s1, q2, q3, q4, badF_stop hx (fun hlt => ?_) (fun _ q => by have := q.1; omega)⟩
    unfold sq9 at q1
    rw [if_pos hlt] at q1
    rw [stp_sq h3 hy h0]; exact q1
  · unfold sq9 at q1
    by_cases hlt : x < n
    · rw [if_pos hlt] at q1
      have es : stp S x (T x) = some S' := by rw [stp_sq h3 hy h0]; exact q1
      exact Or.inr ⟨S', s1, q2, hlt, q3, q4, stp_Iv hI es, sqS_HW q1, itP_go hlt es⟩
    · rw [if_neg hlt] at q1; exact absurd q1 (by simp)
theorem m_sqsL {T : Nat → Int32} {o n h w : Nat} (ho : o + n ≤ 240) (hn : n ≤ 60) (hh : 2 ≤ h ∧ h ≤ 5) (hw : 2 ≤ w ∧ w ≤ 6) : ∀ (f c q : Nat) (σ : Sto) (S : PS) (x : Nat), c + f = h * w → f + 1 < q → pH S = h → pW S = w → pQ S = c → x = 3 + yc w c → x ≤ n → Iv S x → MP σ T o n x S → gI σ 9 0 22 = iN h → gI σ 9 0 23 = iN w → (∃ σ' y, l9_takeSquares_4 q 1 (iN c) σ = some (0, σ') ∧ y ≤ n ∧ gI σ' 9 0 20 = iN (o + y) ∧ FU σ σ' ∧ badF T n x S y) ∨ (∃ S' σ', l9_takeSquares_4 q 1 (iN c) σ = some (1, σ') ∧ 3 + h * (w + 1) ≤ n ∧ MP σ' T o n (3 + h * (w + 1)) S' ∧ (gI σ' 9 0 22 = iN h ∧ gI σ' 9 0 23 = iN w) ∧ FU σ σ' ∧ Iv S' (3 + h * (w + 1)) ∧ (pH S' = h ∧ pW S' = w) ∧ itP T (n - x) x S = itP T (n - (3 + h * (w + 1))) (3 + h * (w + 1)) S')
  | f, c, 0, _, _, _, _, hq, _, _, _, _, _, _, _, _, _ => by omega
  | 0, c, q + 1, σ, S, x, hc, hq, eH, eW, eQ, ex, hx, hI, hM, h22, h23 => by
    have h30 : h * w ≤ 30 := Nat.mul_le_mul hh.2 hw.2
    have pos : 0 < h * w := Nat.mul_pos (by omega) (by omega)
    have ec : c = h * w := by omega
    have ey : yc w c = h * (w + 1) := by rw [ec]; exact (yc_at hh hw pos).1
    rw [ey] at ex
    subst ex
    refine Or.inr ⟨S, σ, ?_, hx, hM, ⟨h22, h23⟩, FU.rfl, hI, ⟨eH, eW⟩, rfl⟩
    show (if ((gI σ 9 0 22) * (gI σ 9 0 23)) ≤ iN c then _ else _) = _
    rw [h22, h23, iN_mul, if_pos ((iN_le (by omega) (by omega)).mpr (by omega)), if_pos (Or.inr rfl)]
  | f + 1, c, q + 1, σ, S, x, hc, hq, eH, eW, eQ, ex, hx, hI, hM, h22, h23 => by
    have h30 : h * w ≤ 30 := Nat.mul_le_mul hh.2 hw.2
    obtain ⟨y1, y2, y3, y4⟩ := yc_at hh hw (show c < h * w by omega)
    have eR : pR S = h * (w + 1) := by show pH S * (pW S + 1) = _; rw [eH, eW]
    have nw : ¬ iN w = 0 := by rw [iN_0 (by omega)]; omega
    have cm := Nat.mod_lt c (show 0 < w by omega)
    -- the tail: a square at x1, in state S
    have tail : ∀ (σ1 : Sto) (x1 : Nat), x1 ≤ n → 3 ≤ x1 → Iv S x1 → x1 - 3 < pR S → ¬ (x1 - 3) % (pW S + 1) = 0 → x1 + 1 = 3 + yc w (c + 1) → MP σ1 T o n x1 S → gI σ1 9 0 22 = iN h → gI σ1 9 0 23 = iN w → itP T (n - x) x S = itP T (n - x1) x1 S → FU σ σ1 → (∃ σ' y, (bI (f9_takeSquare (iN c) σ1) (fun v21 s22 => (if v21 = 0 then (l9_takeSquares_4 q 0 (iN (c + 1)) s22) else (l9_takeSquares_4 q 1 (iN (c + 1)) s22)))) = some (0, σ') ∧ y ≤ n ∧ gI σ' 9 0 20 = iN (o + y) ∧ FU σ σ' ∧ badF T n x S y) ∨ (∃ S' σ', (bI (f9_takeSquare (iN c) σ1) (fun v21 s22 => (if v21 = 0 then (l9_takeSquares_4 q 0 (iN (c + 1)) s22) else (l9_takeSquares_4 q 1 (iN (c + 1)) s22)))) = some (1, σ') ∧ 3 + h * (w + 1) ≤ n ∧ MP σ' T o n (3 + h * (w + 1)) S' ∧ (gI σ' 9 0 22 = iN h ∧ gI σ' 9 0 23 = iN w) ∧ FU σ σ' ∧ Iv S' (3 + h * (w + 1)) ∧ (pH S' = h ∧ pW S' = w) ∧ itP T (n - x) x S = itP T (n - (3 + h * (w + 1))) (3 + h * (w + 1)) S') := by
      intro σ1 x1 k1 k2 k3 k4 k5 k6 k7 k8 k9 k10 k11
      rcases m_sqStep ho k1 k2 k3 k4 k5 k7 with ⟨s2, r1, r2, r3, r4⟩ | ⟨S2, s2, r1, r2, r3, r4, r5, ⟨r6, r7, r8⟩, r9⟩
      · rw [eQ] at r1
        refine Or.inl ⟨s2, x1, ?_, k1, r2, k11.trans r3, ?_⟩
        · rw [r1, bI_some, if_pos rfl]
          obtain ⟨q', rfl⟩ : ∃ q', q = q' + 1 := ⟨q - 1, by omega⟩
          exact sq_0
        · unfold badF
          rw [k10]; exact r4
      · have z : gI s2 9 0 22 = iN h ∧ gI s2 9 0 23 = iN w := ⟨by rw [r4.2 _ _ _ (by omega) (by omega)]; exact k8, by rw [r4.2 _ _ _ (by omega) (by omega)]; exact k9⟩
        rw [eQ] at r1
        rw [r1, bI_some, if_neg (by decide)]
        rcases m_sqsL ho hn hh hw f (c + 1) q s2 S2 (x1 + 1) (by omega) (by omega) (by rw [r6]; exact eH) (by rw [r7]; exact eW) (by rw [r8, eQ]) k6 (by omega) r5 r3 z.1 z.2 with ⟨s3, y, u1, u2, u3, u4, u5⟩ | ⟨S3, s3, u1, u2, u3, u4, u5, u6, u7, u8⟩
        · refine Or.inl ⟨s3, y, u1, u2, u3, (k11.trans r4).trans u4, ?_⟩
          unfold badF at u5 ⊢
          rw [k10, r9]; exact u5
        · exact Or.inr ⟨S3, s3, u1, u2, u3, u4, (k11.trans r4).trans u5, u6, u7, by rw [k10, r9]; exact u8⟩
    have hy : x - 3 = yc w c := by omega
    have eL : ∀ Z, (if iN (c % w) = 0 then (bI (f9_take 59 59 σ) (fun v23 s24 => (if v23 = 0 then (bI (f9_takeSquare (iN c) s24) (fun v25 s26 => (if v25 = 0 then (l9_takeSquares_4 q 0 (iN (c + 1)) s26) else (l9_takeSquares_4 q 1 (iN (c + 1)) s26)))) else (l9_takeSquares_4 q 0 (iN (c + 1)) s24)))) else (bI (f9_takeSquare (iN c) σ) (fun v21 s22 => (if v21 = 0 then (l9_takeSquares_4 q 0 (iN (c + 1)) s22) else (l9_takeSquares_4 q 1 (iN (c + 1)) s22))))) = Z → l9_takeSquares_4 (q + 1) 1 (iN c) σ = Z := fun Z hZ => by
      show (if ((gI σ 9 0 22) * (gI σ 9 0 23)) ≤ iN c then _ else _) = _
      rw [h22, h23, iN_mul, if_neg (by rw [iN_le (by omega) (by omega)]; omega), if_neg (by decide), if_pos nw, mod_iN (by omega) (by omega), iN_add1]
      exact hZ
    by_cases c0 : c % w = 0
    · obtain ⟨z1, z2, z3, z4⟩ := y3 c0
      have m0 := (hI.2.2.2.1 (by omega) (by omega)).2.1
      have ro := stp_ro (S := S) (x := x) (c := T x) (by omega) (by rw [eR, hy]; exact y2) (by rw [eW, hy]; exact z1)
      have et := m_take (a := 59) (b := 59) (by decide) (by decide) ho hx hM.1.1 hM.1.2.1 hM.2.1
      have c0' : iN (c % w) = 0 := by rw [c0]; rfl
      by_cases g : x < n ∧ T x = 59
      · have g' : x < n ∧ ((59 : Nat) : Int) ≤ (T x).toInt ∧ (T x).toInt ≤ ((59 : Nat) : Int) := ⟨g.1, (T_eq (by decide)).mpr g.2⟩
        rw [if_pos g', g.2] at et
        have et : f9_take 59 59 σ = some (0, sI σ 9 0 20 (iN (o + x + 1))) := et
        rw [if_pos g.2] at ro
        have go := itP_go g.1 ro
        have hI1 := stp_Iv hI ro
        obtain ⟨⟨p1, p2, p3, p4⟩, p5, p6, p7, p8, p9⟩ := hM
        have hM1 : MP (sI σ 9 0 20 (iN (o + x + 1))) T o n (x + 1) S := by
          refine ⟨⟨by rw [gI_sI, if_pos ⟨rfl, rfl, rfl⟩]; rfl, ?_, ?_, ?_⟩, fun y hy => ?_, fun j hj => ?_, fun j hj => ?_, fun e he => ?_, fun e he => ?_⟩
          · rw [gI_sI, if_neg (by omega)]; exact p2
          · rw [gI_sI, if_neg (by omega)]; exact p3
          · rw [gI_sI, if_neg (by omega)]; exact p4
          · rw [gI_sI, if_neg (by omega)]; exact p5 y hy
          · rw [gI_sI, if_neg (by omega)]; exact p6 j hj
          · rw [gI_sI, if_neg (by omega)]; exact p7 j hj
          · rw [gI_sI, if_neg (by omega)]; exact p8 e he
          · rw [gI_sI, if_neg (by omega)]; exact p9 e he
        have ex1 : x + 1 - 3 = yc w c + 1 := by omega
        have tl := tail (sI σ 9 0 20 (iN (o + x + 1))) (x + 1) (by omega) (by omega) hI1 (by rw [ex1, eR]; exact z4) (by rw [ex1, eW]; exact z2) (by omega) hM1 (by rw [gI_sI, if_neg (by omega)]; exact h22) (by rw [gI_sI, if_neg (by omega)]; exact h23) go (FU_9 (by decide))
        have E : ∀ Z, (bI (f9_takeSquare (iN c) (sI σ 9 0 20 (iN (o + x + 1)))) (fun v21 s22 => (if v21 = 0 then (l9_takeSquares_4 q 0 (iN (c + 1)) s22) else (l9_takeSquares_4 q 1 (iN (c + 1)) s22)))) = Z → l9_takeSquares_4 (q + 1) 1 (iN c) σ = Z := fun Z hZ => eL Z (by rw [if_pos c0', et, bI_some, if_pos rfl]; exact hZ)
        rcases tl with ⟨s3, y, u1, u2⟩ | ⟨S3, s3, u1, u2⟩
        · exact Or.inl ⟨s3, y, E _ u1, u2⟩
        · exact Or.inr ⟨S3, s3, E _ u1, u2⟩
      · rw [if_neg (fun z => g ⟨z.1, (T_eq (by decide)).mp z.2⟩)] at et
        have et : f9_take 59 59 σ = some (-1, σ) := et
        refine Or.inl ⟨σ, x, eL _ ?_, hx, hM.1.1, FU.rfl, badF_stop hx (fun hlt => ?_) (fun _ z => by have := z.1; omega)⟩
        · rw [if_pos c0', et, bI_some, if_neg (by decide)]
          obtain ⟨q', rfl⟩ : ∃ q', q = q' + 1 := ⟨q - 1, by omega⟩
          exact sq_0
        · rw [ro, if_neg (fun z => g ⟨hlt, z⟩)]
    · obtain ⟨z1, z2⟩ := y4 c0
      have tl := tail σ x hx (by omega) hI (by rw [eR, hy]; exact y2) (by rw [eW, hy]; exact z1) (by omega) hM h22 h23 rfl FU.rfl
      have E : ∀ Z, (bI (f9_takeSquare (iN c) σ) (fun v21 s22 => (if v21 = 0 then (l9_takeSquares_4 q 0 (iN (c + 1)) s22) else (l9_takeSquares_4 q 1 (iN (c + 1)) s22)))) = Z → l9_takeSquares_4 (q + 1) 1 (iN c) σ = Z := fun Z hZ => eL Z (by rw [if_neg (by rw [iN_0 (by omega)]; exact c0)]; exact hZ)
      rcases tl with ⟨s3, y, u1, u2⟩ | ⟨S3, s3, u1, u2⟩
      · exact Or.inl ⟨s3, y, E _ u1, u2⟩
      · exact Or.inr ⟨S3, s3, E _ u1, u2⟩
