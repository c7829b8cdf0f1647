/-! a text, place by place -/
abbrev PS : Type := (Nat → Nat) × (Nat → Nat) × (Nat → Nat) × (Nat → Nat) × (Nat → Int32)
def upI (f : Nat → Int32) (i : Nat) (v : Int32) : Nat → Int32 := fun a => if a = i then v else f a
theorem upI_eq (f : Nat → Int32) (i : Nat) (v : Int32) : upI f i v i = v := if_pos rfl
theorem upI_ne {f : Nat → Int32} {i a : Nat} {v : Int32} (h : ¬ a = i) : upI f i v a = f a := if_neg h
def psE : PS := (fun _ => 0, fun _ => 0, fun _ => 0, fun _ => 0, fun _ => 0)
abbrev pH (S : PS) : Nat := S.1 0
abbrev pW (S : PS) : Nat := S.1 1
abbrev pQ (S : PS) : Nat := S.1 2
abbrev pP (S : PS) : Nat := S.1 3
abbrev pM (S : PS) : Nat := S.1 4
abbrev pL (S : PS) : Nat := S.1 5
abbrev pR (S : PS) : Nat := pH S * (pW S + 1)
def dig (lo hi : Nat) (c : Int32) : Option Nat := if (48 + lo : Int) ≤ c.toInt ∧ c.toInt ≤ 48 + hi then some (c.toInt.toNat - 48) else none
def sgn (c : Int32) : Option Int32 := if c = 46 then some 0 else if c = 103 then some 1 else if c = 109 then some 2 else none
def ltk (c : Int32) : Option Nat := if c = 102 then some 0 else if c = 107 then some 1 else if c = 115 then some 2 else none
def lcI (k : Nat) : Int32 := if k = 0 then 102 else if k = 1 then 107 else 115
def sqS (S : PS) (c : Int32) : Option PS := if c = 111 then (if pP S < 5 then some (up (up S.1 3 (pP S + 1)) 2 (pQ S + 1), up S.2.1 (pP S) (pQ S), S.2.2.1, S.2.2.2.1, upI S.2.2.2.2 (pQ S) 0) else none) else (sgn c).map (fun s => (up S.1 2 (pQ S + 1), S.2.1, S.2.2.1, S.2.2.2.1, upI S.2.2.2.2 (pQ S) s))
def etS (S : PS) (z : Nat) (c : Int32) : Option PS := if pM S < 2 then (if z % 3 = 0 then (if c = 59 then some S else none) else if z % 3 = 1 then (ltk c).map (fun k => (up S.1 5 (pM S + 1), S.2.1, up S.2.2.1 (pM S) k, S.2.2.2.1, S.2.2.2.2)) else (dig 1 4 c).map (fun s => (up S.1 4 (pM S + 1), S.2.1, S.2.2.1, up S.2.2.2.1 (pM S) s, S.2.2.2.2))) else none
def stp (S : PS) (x : Nat) (c : Int32) : Option PS := if x = 0 then (if c = 112 then some S else none) else if x = 1 then (dig 2 5 c).map (fun h => (up S.1 0 h, S.2)) else if x = 2 then (dig 2 6 c).map (fun w => (up S.1 1 w, S.2)) else if x - 3 < pR S then (if (x - 3) % (pW S + 1) = 0 then (if c = 59 then some S else none) else sqS S c) else etS S (x - 3 - pR S) c
def itP (T : Nat → Int32) : Nat → Nat → PS → Nat × Option PS
  | 0, x, S => (x, some S)
  | f + 1, x, S => match stp S x (T x) with
    | none => (x, none)
    | some S' => itP T f (x + 1) S'
theorem dig_some {lo hi h : Nat} {c : Int32} (e : dig lo hi c = some h) : c = iN (48 + h) ∧ lo ≤ h ∧ h ≤ hi := by
  unfold dig at e
  split at e
  · rename_i q
    have := Option.some.inj e
    refine ⟨?_, by omega, by omega⟩
    have hlt := Int32.toInt_lt c
    rw [← Int32.toInt_inj, iN_toInt (by omega)]
    omega
  · exact absurd e (by simp)
theorem dig_none {lo hi : Nat} {c : Int32} (e : dig lo hi c = none) : ¬ ((48 + lo : Int) ≤ c.toInt ∧ c.toInt ≤ 48 + hi) := by
  unfold dig at e
  split at e
  · exact absurd e (by simp)
  · assumption
theorem sub48 {h : Nat} : iN (48 + h) - 48 = iN h := by
  have := iN_sub (a := 48 + h) (b := 48) (by omega)
  rw [show 48 + h - 48 = h by omega] at this
  exact this
theorem dig_out {lo hi : Nat} {c : Int32} (hh : hi ≤ 9) (hl : lo ≤ hi) (e : dig lo hi c = none) : c - 48 < iN lo ∨ iN hi < c - 48 := by
  have q := dig_none e
  have h1 := Int32.toInt_lt c
  have h2 := Int32.le_toInt c
  rw [Int32.lt_iff_toInt_lt, Int32.lt_iff_toInt_lt, iN_toInt (by omega), iN_toInt (by omega), Int32.toInt_sub]
  show (c.toInt - 48).bmod (2 ^ 32) < (lo : Int) ∨ (hi : Int) < (c.toInt - 48).bmod (2 ^ 32)
  rw [Int.bmod_def]
  split <;> omega
def qy (w y : Nat) : Nat := (y / (w + 1)) * w + (y % (w + 1) - 1)
theorem qy_chk : ((List.range 6).all fun h => (List.range 7).all fun w => (List.range 36).all fun y => !(Nat.ble 2 h && Nat.ble 2 w && Nat.blt y (h * (w + 1))) || (Nat.beq (qy w (y + 1)) (if y % (w + 1) = 0 then qy w y else qy w y + 1) && (Nat.beq (y % (w + 1)) 0 || Nat.blt (qy w y) (h * w)) && Nat.beq (qy w (h * (w + 1))) (h * w) && Nat.ble (qy w y) (h * w))) = true := by decide +kernel
theorem qy_at {h w y : Nat} (h1 : 2 ≤ h ∧ h ≤ 5) (h2 : 2 ≤ w ∧ w ≤ 6) (hy : y < h * (w + 1)) : (qy w (y + 1) = if y % (w + 1) = 0 then qy w y else qy w y + 1) ∧ (y % (w + 1) = 0 ∨ qy w y < h * w) ∧ qy w (h * (w + 1)) = h * w ∧ qy w y ≤ h * w := by
  have h35 : h * (w + 1) ≤ 35 := Nat.mul_le_mul (show h ≤ 5 by omega) (show w + 1 ≤ 7 by omega)
  have := List.all_eq_true.mp (List.all_eq_true.mp (List.all_eq_true.mp qy_chk h (List.mem_range.mpr (by omega))) w (List.mem_range.mpr (by omega))) y (List.mem_range.mpr (by omega))
  have e : (Nat.ble 2 h && Nat.ble 2 w && Nat.blt y (h * (w + 1))) = true := by
    rw [Nat.ble_eq_true_of_le h1.1, Nat.ble_eq_true_of_le h2.1]
    simp only [Bool.true_and]
    exact Nat.ble_eq_true_of_le hy
  rw [e] at this
  simp only [Bool.not_true, Bool.false_or, Bool.and_eq_true, Bool.or_eq_true, Nat.beq_eq, Nat.blt_eq, Nat.ble_eq] at this
  exact ⟨this.1.1.1, this.1.1.2, this.1.2, this.2⟩
/-- what stands behind x places -/
def Iv (S : PS) (x : Nat) : Prop := (x < 3 → pQ S = 0 ∧ pP S = 0 ∧ pM S = 0 ∧ pL S = 0) ∧ (2 ≤ x → 2 ≤ pH S ∧ pH S ≤ 5) ∧ (3 ≤ x → 2 ≤ pW S ∧ pW S ≤ 6) ∧ (3 ≤ x → x - 3 ≤ pR S → pQ S = qy (pW S) (x - 3) ∧ pM S = 0 ∧ pL S = 0) ∧ (3 ≤ x → pR S ≤ x - 3 → pQ S = pH S * pW S ∧ pM S = (x - 3 - pR S) / 3 ∧ pL S = pM S + (if (x - 3 - pR S) % 3 = 2 then 1 else 0)) ∧ (pP S ≤ 5 ∧ pM S ≤ 2) ∧ (∀ j, j < pP S → S.2.1 j < pQ S ∧ S.2.2.2.2 (S.2.1 j) = 0) ∧ (∀ j, j < pQ S → S.2.2.2.2 j = 0 ∨ S.2.2.2.2 j = 1 ∨ S.2.2.2.2 j = 2) ∧ (∀ e, e < pL S → S.2.2.1 e < 3) ∧ ∀ e, e < pM S → 1 ≤ S.2.2.2.1 e ∧ S.2.2.2.1 e ≤ 4
theorem Iv_0 : Iv psE 0 := ⟨fun _ => ⟨rfl, rfl, rfl, rfl⟩, fun h => by omega, fun h => by omega, fun h => by omega, fun h => by omega, ⟨Nat.zero_le _, Nat.zero_le _⟩, fun j hj => absurd hj (Nat.not_lt_zero _), fun j hj => absurd hj (Nat.not_lt_zero _), fun j hj => absurd hj (Nat.not_lt_zero _), fun j hj => absurd hj (Nat.not_lt_zero _)⟩
theorem pR_35 {S : PS} {x : Nat} (h : Iv S x) (hx : 3 ≤ x) : pR S ≤ 35 := Nat.mul_le_mul (h.2.1 (by omega)).2 (show pW S + 1 ≤ 7 by have := (h.2.2.1 hx).2; omega)
theorem pQ_30 {S : PS} {x : Nat} (h : Iv S x) (hx : 3 ≤ x) : pH S * pW S ≤ 30 := Nat.mul_le_mul (h.2.1 (by omega)).2 (h.2.2.1 hx).2
theorem pQ_lt {S : PS} {x : Nat} (h : Iv S x) (hx : 3 ≤ x) (hy : x - 3 < pR S) (h0 : ¬ (x - 3) % (pW S + 1) = 0) : pQ S < pH S * pW S := by
  have q := qy_at (h.2.1 (by omega)) (h.2.2.1 hx) hy
  rw [(h.2.2.2.1 hx (by omega)).1]
  exact q.2.1.resolve_left h0
theorem sgn_3 {c s : Int32} (h : sgn c = some s) : s = 0 ∨ s = 1 ∨ s = 2 := by
  unfold sgn at h
  split at h
  · exact Or.inl (Option.some.inj h).symm
  split at h
  · exact Or.inr (Or.inl (Option.some.inj h).symm)
  split at h
  · exact Or.inr (Or.inr (Option.some.inj h).symm)
  · exact absurd h (by simp)
theorem ltk_3 {c : Int32} {k : Nat} (h : ltk c = some k) : k < 3 ∧ c = lcI k := by
  unfold ltk at h
  split at h
  · rename_i q; rw [← Option.some.inj h]; exact ⟨by decide, q⟩
  split at h
  · rename_i q; rw [← Option.some.inj h]; exact ⟨by decide, q⟩
  split at h
  · rename_i q; rw [← Option.some.inj h]; exact ⟨by decide, q⟩
  · exact absurd h (by simp)
theorem sq_Iv {S S' : PS} {x : Nat} {c : Int32} (h : Iv S x) (hx : 3 ≤ x) (hy : x - 3 < pR S) (h0 : ¬ (x - 3) % (pW S + 1) = 0) (e : sqS S c = some S') : Iv S' (x + 1) := by
  have q := qy_at (h.2.1 (by omega)) (h.2.2.1 hx) hy
  rw [if_neg h0] at q
  obtain ⟨i1, i2, i3, i4, i5, ⟨i6, i7⟩, i8, i9, i10, i11⟩ := h
  obtain ⟨j1, j2, j3⟩ := i4 hx (by omega)
  have key : ∀ (S' : PS), pH S' = pH S → pW S' = pW S → pQ S' = pQ S + 1 → pM S' = pM S → pL S' = pL S → (3 ≤ x + 1 → x + 1 - 3 ≤ pR S' → pQ S' = qy (pW S') (x + 1 - 3) ∧ pM S' = 0 ∧ pL S' = 0) ∧ (3 ≤ x + 1 → pR S' ≤ x + 1 - 3 → pQ S' = pH S' * pW S' ∧ pM S' = (x + 1 - 3 - pR S') / 3 ∧ pL S' = pM S' + (if (x + 1 - 3 - pR S') % 3 = 2 then 1 else 0)) := by
    intro S' k1 k2 k3 k4 k5
    have ex : x + 1 - 3 = x - 3 + 1 := by omega
    have k6 : pR S' = pR S := by show pH S' * (pW S' + 1) = _; rw [k1, k2]
    rw [k1, k2, k3, k4, k5, k6, ex]
    refine ⟨fun _ _ => ⟨by rw [q.1, j1], j2, j3⟩, fun _ hr => ?_⟩
    have er : x - 3 + 1 = pR S := by omega
    rw [er, j2, j3, Nat.sub_self]
    refine ⟨?_, rfl, rfl⟩
    rw [j1, ← q.2.2.1, show pH S * (pW S + 1) = x - 3 + 1 from er.symm, q.1]
  unfold sqS at e
  by_cases ec : c = 111
  · rw [if_pos ec] at e
    by_cases ep : pP S < 5
    · rw [if_pos ep] at e
      have e := Option.some.inj e
      subst e
      obtain ⟨z1, z2⟩ := key (up (up S.1 3 (pP S + 1)) 2 (pQ S + 1), up S.2.1 (pP S) (pQ S), S.2.2.1, S.2.2.2.1, upI S.2.2.2.2 (pQ S) 0) rfl rfl rfl rfl rfl
      refine ⟨fun h => by omega, fun _ => i2 (by omega), fun _ => i3 hx, z1, z2, ⟨show pP S + 1 ≤ 5 by omega, i7⟩, fun j hj => ?_, fun j hj => ?_, i10, i11⟩
      · have hj : j < pP S + 1 := hj
        show up S.2.1 (pP S) (pQ S) j < pQ S + 1 ∧ upI S.2.2.2.2 (pQ S) 0 (up S.2.1 (pP S) (pQ S) j) = 0
        by_cases ej : j = pP S
        · rw [ej, up_eq, upI_eq]; exact ⟨by omega, rfl⟩
        · rw [up_ne ej]
          have := i8 j (by omega)
          rw [upI_ne (by omega)]; exact ⟨by omega, this.2⟩
      · have hj : j < pQ S + 1 := hj
        show upI S.2.2.2.2 (pQ S) 0 j = 0 ∨ upI S.2.2.2.2 (pQ S) 0 j = 1 ∨ upI S.2.2.2.2 (pQ S) 0 j = 2
        by_cases ej : j = pQ S
        · rw [ej, upI_eq]; exact Or.inl rfl
        · rw [upI_ne ej]; exact i9 j (by omega)
    · rw [if_neg ep] at e; exact absurd e (by simp)
  · rw [if_neg ec] at e
    cases es : sgn c with
    | none => rw [es] at e; exact absurd e (by simp)
    | some s =>
      rw [es] at e
      have e := Option.some.inj e
      subst e
      obtain ⟨z1, z2⟩ := key (up S.1 2 (pQ S + 1), S.2.1, S.2.2.1, S.2.2.2.1, upI S.2.2.2.2 (pQ S) s) rfl rfl rfl rfl rfl
      refine ⟨fun h => by omega, fun _ => i2 (by omega), fun _ => i3 hx, z1, z2, ⟨i6, i7⟩, fun j hj => ?_, fun j hj => ?_, i10, i11⟩
      · show S.2.1 j < pQ S + 1 ∧ upI S.2.2.2.2 (pQ S) s (S.2.1 j) = 0
        have := i8 j hj
        rw [upI_ne (by omega)]; exact ⟨by omega, this.2⟩
      · have hj : j < pQ S + 1 := hj
        show upI S.2.2.2.2 (pQ S) s j = 0 ∨ upI S.2.2.2.2 (pQ S) s j = 1 ∨ upI S.2.2.2.2 (pQ S) s j = 2
        by_cases ej : j = pQ S
        · rw [ej, upI_eq]; exact sgn_3 es
        · rw [upI_ne ej]; exact i9 j (by omega)
theorem et_Iv {S S' : PS} {x : Nat} {c : Int32} (h : Iv S x) (hx : 3 ≤ x) (hy : pR S ≤ x - 3) (e : etS S (x - 3 - pR S) c = some S') : Iv S' (x + 1) := by
  obtain ⟨i1, i2, i3, i4, i5, ⟨i6, i7⟩, i8, i9, i10, i11⟩ := h
  obtain ⟨j1, j2, j3⟩ := i5 hx hy
  unfold etS at e
  have ez : x + 1 - 3 - pR S = x - 3 - pR S + 1 := by omega
  by_cases em : pM S < 2
  · rw [if_pos em] at e
    by_cases e0 : (x - 3 - pR S) % 3 = 0
    · rw [if_pos e0] at e
      by_cases ec : c = 59
      · rw [if_pos ec] at e
        have e := Option.some.inj e
        subst e
        refine ⟨fun h => by omega, fun _ => i2 (by omega), fun _ => i3 hx, fun _ _ => by omega, fun _ _ => ⟨j1, ?_, ?_⟩, ⟨i6, i7⟩, i8, i9, i10, i11⟩
        · rw [ez, j2]; omega
        · rw [ez, if_neg (by omega), j3, if_neg (by omega)]
      · rw [if_neg ec] at e; exact absurd e (by simp)
    · rw [if_neg e0] at e
      by_cases e1 : (x - 3 - pR S) % 3 = 1
      · rw [if_pos e1] at e
        cases el : ltk c with
        | none => rw [el] at e; exact absurd e (by simp)
        | some k =>
          rw [el] at e
          have e := Option.some.inj e
          subst e
          rw [if_neg (by omega), Nat.add_zero] at j3
          refine ⟨fun h => by omega, fun _ => i2 (by omega), fun _ => i3 hx, fun _ h' => ?_, fun _ _ => ⟨j1, ?_, ?_⟩, ⟨i6, i7⟩, i8, i9, fun a ha => ?_, i11⟩
          · have h' : x + 1 - 3 ≤ pR S := h'
            omega
          · show pM S = (x + 1 - 3 - pR S) / 3
            rw [ez, j2]; omega
          · show pM S + 1 = pM S + (if (x + 1 - 3 - pR S) % 3 = 2 then 1 else 0)
            rw [ez, if_pos (by omega)]
          · have ha : a < pM S + 1 := ha
            show up S.2.2.1 (pM S) k a < 3
            by_cases ea : a = pM S
            · rw [ea, up_eq]; exact (ltk_3 el).1
            · rw [up_ne ea]; exact i10 a (by omega)
      · rw [if_neg e1] at e
        cases el : dig 1 4 c with
        | none => rw [el] at e; exact absurd e (by simp)
        | some k =>
          rw [el] at e
          have e := Option.some.inj e
          subst e
          rw [if_pos (by omega)] at j3
          refine ⟨fun h => by omega, fun _ => i2 (by omega), fun _ => i3 hx, fun _ h' => ?_, fun _ _ => ⟨j1, ?_, ?_⟩, ⟨i6, show pM S + 1 ≤ 2 by omega⟩, i8, i9, i10, fun a ha => ?_⟩
          · have h' : x + 1 - 3 ≤ pR S := h'
            omega
          · show pM S + 1 = (x + 1 - 3 - pR S) / 3
            rw [ez, j2]; omega
          · show pL S = pM S + 1 + (if (x + 1 - 3 - pR S) % 3 = 2 then 1 else 0)
            rw [ez, if_neg (by omega), j3]
          · have ha : a < pM S + 1 := ha
            show 1 ≤ up S.2.2.2.1 (pM S) k a ∧ up S.2.2.2.1 (pM S) k a ≤ 4
            by_cases ea : a = pM S
            · rw [ea, up_eq]; exact (dig_some el).2
            · rw [up_ne ea]; exact i11 a (by omega)
  · rw [if_neg em] at e; exact absurd e (by simp)
theorem stp_Iv {S S' : PS} {x : Nat} {c : Int32} (h : Iv S x) (e : stp S x c = some S') : Iv S' (x + 1) := by
  unfold stp at e
  by_cases h0 : x = 0
  · rw [if_pos h0] at e
    by_cases ec : c = 112
    · rw [if_pos ec] at e
      have e := Option.some.inj e
      subst e
      obtain ⟨i1, i2, i3, i4, i5, i6, i8, i9, i10, i11⟩ := h
      exact ⟨fun _ => i1 (by omega), fun h => by omega, fun h => by omega, fun h => by omega, fun h => by omega, i6, i8, i9, i10, i11⟩
    · rw [if_neg ec] at e; exact absurd e (by simp)
  rw [if_neg h0] at e
  by_cases h1 : x = 1
  · rw [if_pos h1] at e
    cases ed : dig 2 5 c with
    | none => rw [ed] at e; exact absurd e (by simp)
    | some k =>
      rw [ed] at e
      have e := Option.some.inj e
      subst e
      obtain ⟨i1, i2, i3, i4, i5, i6, i8, i9, i10, i11⟩ := h
      exact ⟨fun _ => i1 (by omega), fun _ => (dig_some ed).2, fun h => by omega, fun h => by omega, fun h => by omega, i6, i8, i9, i10, i11⟩
  rw [if_neg h1] at e
  by_cases h2 : x = 2
  · rw [if_pos h2] at e
    cases ed : dig 2 6 c with
    | none => rw [ed] at e; exact absurd e (by simp)
    | some k =>
      rw [ed] at e
      have e := Option.some.inj e
      subst e
      obtain ⟨i1, i2, i3, i4, i5, i6, i8, i9, i10, i11⟩ := h
      obtain ⟨z1, z2, z3, z4⟩ := i1 (by omega)
      have hH := i2 (by omega)
      have hk := (dig_some ed).2
      have pos : 0 < pH S * (k + 1) := Nat.mul_pos (by omega) (by omega)
      refine ⟨fun h => by omega, fun _ => hH, fun _ => hk, fun _ _ => ⟨?_, z3, z4⟩, fun _ h' => ?_, i6, i8, i9, i10, i11⟩
      · show pQ S = qy k (x + 1 - 3)
        rw [z1, show x + 1 - 3 = 0 by omega]
        unfold qy
        rw [Nat.zero_div, Nat.zero_mul, Nat.zero_mod]
      · have h' : pH S * (k + 1) ≤ x + 1 - 3 := h'
        omega
  rw [if_neg h2] at e
  have hx : 3 ≤ x := by omega
  by_cases hy : x - 3 < pR S
  · rw [if_pos hy] at e
    by_cases hm : (x - 3) % (pW S + 1) = 0
    · rw [if_pos hm] at e
      by_cases ec : c = 59
      · rw [if_pos ec] at e
        have e := Option.some.inj e
        subst e
        have q := qy_at (h.2.1 (by omega)) (h.2.2.1 hx) hy
        rw [if_pos hm] at q
        obtain ⟨i1, i2, i3, i4, i5, i6, i8, i9, i10, i11⟩ := h
        obtain ⟨j1, j2, j3⟩ := i4 hx (by omega)
        have ex : x + 1 - 3 = x - 3 + 1 := by omega
        refine ⟨fun h => by omega, fun _ => i2 (by omega), fun _ => i3 hx, fun _ _ => ⟨by rw [ex, q.1, j1], j2, j3⟩, fun _ hr => ?_, i6, i8, i9, i10, i11⟩
        have er : x - 3 + 1 = pR S := by omega
        rw [ex, er, j2, j3, Nat.sub_self]
        refine ⟨?_, rfl, rfl⟩
        rw [j1, ← q.2.2.1, show pH S * (pW S + 1) = x - 3 + 1 from er.symm, q.1]
      · rw [if_neg ec] at e; exact absurd e (by simp)
    · rw [if_neg hm] at e
      exact sq_Iv h hx hy hm e
  · rw [if_neg hy] at e
    exact et_Iv h hx (by omega) e
