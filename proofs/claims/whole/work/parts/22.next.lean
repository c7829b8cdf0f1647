/-! THE NEXT SQUARE -/
def nC (h w q a1 a2 : Int32) : Option Int32 := (if w ≤ 0 then (some ((-1))) else (if a1 < 0 then (some ((-1))) else (if q ≤ a1 then (some ((-1))) else (if a2 < 0 then (some ((-1))) else (if a2 < 4 then (if ¬ w = 0 then (if Ix a2 4 then (if ¬ w = 0 then (if Ix a2 4 then (if ((a1 / w) + (mtabs 42 a2.toNatClampNeg)) < 0 then (some ((-1))) else (if h ≤ ((a1 / w) + (mtabs 42 a2.toNatClampNeg)) then (some ((-1))) else (if ((a1 - a1 / w * w) + (mtabs 43 a2.toNatClampNeg)) < 0 then (some ((-1))) else (if ((a1 - a1 / w * w) + (mtabs 43 a2.toNatClampNeg)) < w then (some ((((a1 / w) + (mtabs 42 a2.toNatClampNeg)) * w) + ((a1 - a1 / w * w) + (mtabs 43 a2.toNatClampNeg)))) else (some ((-1))))))) else none) else none) else none) else none) else (some ((-1))))))))
theorem nextTo_nC {t : Nat} {a1 a2 h w q : Int32} {σ : Sto} (h0 : gI σ 2 t 0 = h) (h1 : gI σ 2 t 1 = w) (h2 : gI σ 2 t 11 = q) (h3 : ∀ j, gI σ 42 0 j = mtabs 42 j) (h4 : ∀ j, gI σ 43 0 j = mtabs 43 j) : f2_nextTo t a1 a2 σ = (nC h w q a1 a2).map (fun r => (r, σ)) := by
  unfold f2_nextTo nC
  rw [h0, h1, h2, h3, h4]
  simp only [apply_ite (Option.map _), Option.map_some, Option.map_none]
def nx (h w c d : Nat) : Nat := if d = 0 then (if c < w then 99 else c - w) else if d = 1 then (if c % w + 1 < w then c + 1 else 99) else if d = 2 then (if c + w < h * w then c + w else 99) else (if c % w = 0 then 99 else c - 1)
def rv (x : Nat) : Int32 := if x = 99 then -1 else iN x
def inP (a b c : Int64) : Int32 := if (lg_cmp a b) < 0 then 0 else (if 0 < (lg_cmp a c) then 0 else 1)
theorem in_inP (a b c : Int64) (σ : Sto) : f9_in a b c σ = some (inP a b c, σ) := by
  unfold f9_in inP
  split
  · rfl
  · split <;> rfl
theorem inP_bit (a b c : Int64) : inP a b c = 0 ∨ inP a b c = 1 := by
  unfold inP
  split
  · exact Or.inl rfl
  · split
    · exact Or.inl rfl
    · exact Or.inr rfl
theorem isSquare_inP (x : Int32) (σ : Sto) : f9_isSquare x σ = some (inP x.toInt64 0 ((gI σ 9 0 1 - 1).toInt64), σ) := by
  unfold f9_isSquare
  rw [in_inP, bI_some, if_pos (inP_bit _ _ _)]
theorem isPea_inP (x : Int32) (σ : Sto) : f9_isPea x σ = some (inP x.toInt64 0 ((gI σ 9 0 3 - 1).toInt64), σ) := by
  unfold f9_isPea
  rw [in_inP, bI_some, if_pos (inP_bit _ _ _)]
theorem isEater_inP (x : Int32) (σ : Sto) : f9_isEater x σ = some (inP x.toInt64 0 ((gI σ 9 0 5 - 1).toInt64), σ) := by
  unfold f9_isEater
  rw [in_inP, bI_some, if_pos (inP_bit _ _ _)]
def gM (x to w q : Int32) : Int32 := if inP x.toInt64 0 ((w - 1).toInt64) = 0 then -1 else if inP to.toInt64 0 ((q - 1).toInt64) = 0 then -1 else to
theorem gM_eq {x to w q : Int32} {σ : Sto} (h1 : gI σ 9 0 1 = q) : (bI (f9_in x.toInt64 0 ((w - 1).toInt64) σ) (fun v65 s66 => (if v65 = 0 then (some ((-1 : Int32), s66)) else (bI (f9_isSquare to s66) (fun v67 s68 => (if v67 = 0 then (some ((-1), s68)) else (some (to, s68)))))))) = some (gM x to w q, σ) := by
  unfold gM
  rw [in_inP, bI_some]
  by_cases h : inP x.toInt64 0 ((w - 1).toInt64) = 0
  · rw [if_pos h, if_pos h]
  · rw [if_neg h, if_neg h, isSquare_inP, bI_some, h1]
    by_cases h' : inP to.toInt64 0 ((q - 1).toInt64) = 0
    · rw [if_pos h', if_pos h']
    · rw [if_neg h', if_neg h']
theorem next_0 {a1 w q : Int32} {σ : Sto} (h0 : gI σ 9 0 0 = w) (h1 : gI σ 9 0 1 = q) (hw : ¬ w = 0) : f9_next a1 0 σ = some (gM ((a1 - a1 / w * w) + 0) (a1 + (-w)) w q, σ) := by
  unfold f9_next
  rw [h0, if_pos hw, if_neg (by decide), if_neg (by decide), if_pos rfl]
  exact gM_eq h1
theorem next_1 {a1 w q : Int32} {σ : Sto} (h0 : gI σ 9 0 0 = w) (h1 : gI σ 9 0 1 = q) (hw : ¬ w = 0) : f9_next a1 1 σ = some (gM ((a1 - a1 / w * w) + 1) (a1 + 1) w q, σ) := by
  unfold f9_next
  rw [h0, if_pos hw, if_pos rfl, if_neg (by decide), if_neg (by decide), if_pos rfl]
  exact gM_eq h1
theorem next_2 {a1 w q : Int32} {σ : Sto} (h0 : gI σ 9 0 0 = w) (h1 : gI σ 9 0 1 = q) (hw : ¬ w = 0) : f9_next a1 2 σ = some (gM ((a1 - a1 / w * w) + 0) (a1 + w) w q, σ) := by
  unfold f9_next
  rw [h0, if_pos hw, if_neg (by decide), if_neg (by decide), if_neg (by decide), if_pos rfl]
  exact gM_eq h1
theorem next_3 {a1 w q : Int32} {σ : Sto} (h0 : gI σ 9 0 0 = w) (h1 : gI σ 9 0 1 = q) (hw : ¬ w = 0) : f9_next a1 3 σ = some (gM ((a1 - a1 / w * w) + (-1)) (a1 + (-1)) w q, σ) := by
  unfold f9_next
  rw [h0, if_pos hw, if_neg (by decide), if_pos rfl, if_neg (by decide), if_neg (by decide), if_neg (by decide)]
  exact gM_eq h1
def hwc (f : Nat → Nat → Nat → Bool) : Bool := (List.range 6).all fun h => (List.range 7).all fun w => (List.range 30).all fun c => !(Nat.ble 2 h && Nat.ble 2 w && Nat.blt c (h * w)) || f h w c
theorem hwc_at {f : Nat → Nat → Nat → Bool} (h : hwc f = true) {a b c : Nat} (h1 : a < 6) (h2 : b < 7) (h3 : 2 ≤ a) (h4 : 2 ≤ b) (h5 : c < a * b) : f a b c = true := by
  have h6 : c < 30 := Nat.lt_of_lt_of_le h5 (Nat.mul_le_mul (show a ≤ 5 by omega) (show b ≤ 6 by omega))
  have := List.all_eq_true.mp (List.all_eq_true.mp (List.all_eq_true.mp h a (List.mem_range.mpr h1)) b (List.mem_range.mpr h2)) c (List.mem_range.mpr h6)
  have e : (Nat.ble 2 a && Nat.ble 2 b && Nat.blt c (a * b)) = true := by
    rw [Nat.ble_eq_true_of_le h3, Nat.ble_eq_true_of_le h4]
    simp only [Bool.true_and]
    exact Nat.ble_eq_true_of_le h5
  rw [e] at this
  simpa using this
set_option maxRecDepth 4000 in
theorem nC_chk : hwc (fun h w c => (List.range 4).all fun d => nC (iN h) (iN w) (iN (h * w)) (iN c) (iN d) == some (rv (nx h w c d))) = true := by decide +kernel
set_option maxRecDepth 4000 in
theorem nM_chk : hwc (fun h w c => (gM ((iN c - iN c / iN w * iN w) + 0) (iN c + (-iN w)) (iN w) (iN (h * w)) == rv (nx h w c 0)) && (gM ((iN c - iN c / iN w * iN w) + 1) (iN c + 1) (iN w) (iN (h * w)) == rv (nx h w c 1)) && (gM ((iN c - iN c / iN w * iN w) + 0) (iN c + iN w) (iN w) (iN (h * w)) == rv (nx h w c 2)) && (gM ((iN c - iN c / iN w * iN w) + (-1)) (iN c + (-1)) (iN w) (iN (h * w)) == rv (nx h w c 3))) = true := by decide +kernel
