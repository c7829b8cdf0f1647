/-! the class reads a text into its draft -/
def CP (σ : Sto) (t : Nat) (S : PS) : Prop := (gI σ 2 t 0 = iN (pH S) ∧ gI σ 2 t 1 = iN (pW S) ∧ gI σ 2 t 11 = iN (pQ S) ∧ gI σ 2 t 2 = iN (pP S) ∧ gI σ 2 t 3 = iN (pM S) ∧ gI σ 2 t 4 = 0) ∧ (∀ j, j < pQ S → gI σ 11 t j = S.2.2.2.2 j) ∧ (∀ j, j < pP S → gI σ 12 t j = iN (S.2.1 j)) ∧ (∀ e, e < pL S → gI σ 14 t e = lcI (S.2.2.1 e)) ∧ ∀ e, e < pM S → gI σ 15 t e = iN (S.2.2.2.1 e)
def FD (t : Nat) (σ σ' : Sto) : Prop := σ'.2 = σ.2 ∧ ∀ k a b, ¬ ((k = 2 ∨ k = 11 ∨ k = 12 ∨ k = 14 ∨ k = 15) ∧ a = t) → gI σ' k a b = gI σ k a b
theorem FD.rfl {t : Nat} {σ : Sto} : FD t σ σ := ⟨Eq.refl _, fun _ _ _ _ => Eq.refl _⟩
theorem FD.trans {t : Nat} {a b c : Sto} (h1 : FD t a b) (h2 : FD t b c) : FD t a c := ⟨h2.1.trans h1.1, fun k i j h => (h2.2 k i j h).trans (h1.2 k i j h)⟩
theorem FD_I {t k j : Nat} {σ : Sto} {x : Int32} (hk : k = 2 ∨ k = 11 ∨ k = 12 ∨ k = 14 ∨ k = 15) : FD t σ (sI σ k t j x) := ⟨Eq.refl _, fun k' a b h => by
  rw [gI_sI]
  exact if_neg (fun (q : k' = k ∧ a = t ∧ b = j) => h ⟨q.1.symm ▸ hk, q.2.1⟩)⟩
theorem FD.gR {t : Nat} {σ σ' : Sto} (h : FD t σ σ') : gR σ' = gR σ := congrArg Prod.fst h.1
theorem mod_chk : ((List.range 70).all fun y => (List.range 8).all fun k => Nat.beq k 0 || (iN y - iN y / iN k * iN k == iN (y % k))) = true := by decide +kernel
theorem mod_iN {y k : Nat} (hy : y < 70) (hk : 1 ≤ k ∧ k < 8) : iN y - iN y / iN k * iN k = iN (y % k) := by
  have := List.all_eq_true.mp (List.all_eq_true.mp mod_chk y (List.mem_range.mpr hy)) k (List.mem_range.mpr hk.2)
  simp only [Bool.or_eq_true, beq_iff_eq, Nat.beq_eq] at this
  exact this.resolve_left (by omega)
theorem iN_0 {j : Nat} (h : j < 2147483648) : iN j = 0 ↔ j = 0 := iN_inj (b := 0) h (by omega)
theorem c_sqT {σ : Sto} {t x : Nat} {S : PS} {c : Int32} (h : Iv S x) (hx : 3 ≤ x) (hy : x - 3 < pR S) (h0 : ¬ (x - 3) % (pW S + 1) = 0) (hP : CP σ t S) : (sqS S c = none ∧ ∃ σ', f2_takesInRow t (iN (x - 3)) c σ = some (0, σ') ∧ FD t σ σ') ∨ (∃ S', sqS S c = some S' ∧ ∃ σ', f2_takesInRow t (iN (x - 3)) c σ = some (1, σ') ∧ CP σ' t S' ∧ FD t σ σ') := by
  have r35 := pR_35 h hx
  have q30 := pQ_30 h hx
  have qlt := pQ_lt h hx hy h0
  have hW := h.2.2.1 hx
  have hp5 := h.2.2.2.2.2.1.1
  obtain ⟨⟨p1, p2, p3, p4, p5, p6⟩, p7, p8, p9, p10⟩ := hP
  have nW : ¬ iN (pW S) < 0 := iN_neg (by omega)
  have nW1 : ¬ iN (pW S + 1) = 0 := by rw [iN_0 (by omega)]; omega
  have nm : ¬ iN ((x - 3) % (pW S + 1)) = 0 := by
    have := Nat.mod_lt (x - 3) (show 0 < pW S + 1 by omega)
    rw [iN_0 (by omega)]; exact h0
  have l30 : iN (pQ S) < 30 := (iN_lt (b := 30) (by omega) (by omega)).mpr (by omega)
  have ixq : Ix (iN (pQ S)) 30 := (iN_Ix (by omega)).mpr (by omega)
  have eq : (iN (pQ S)).toNatClampNeg = pQ S := iN_nat (by omega)
  have ep : (iN (pP S)).toNatClampNeg = pP S := iN_nat (by omega)
  unfold f2_takesInRow sqS
  rw [p2, if_neg nW, iN_add1, if_pos nW1, mod_iN (by omega) (by omega), if_neg nm]
  by_cases ec : c = 111
  · rw [if_pos ec]
    subst ec
    rw [show f2_signOf 111 σ = some (0, σ) from rfl, bI_some, if_neg (show ¬ (0 : Int32) = -9 by decide), p3, if_pos l30, if_pos (show (111 : Int32) = 111 from rfl), p4]
    by_cases hp : pP S < 5
    · have l5 : iN (pP S) < 5 := (iN_lt (b := 5) (by omega) (by omega)).mpr hp
      have ixp : Ix (iN (pP S)) 5 := (iN_Ix (by omega)).mpr hp
      have e1 : ∀ v, gI (sI σ 12 t (pP S) v) 2 t 2 = iN (pP S) := fun v => by rw [gI_sI, if_neg (by omega)]; exact p4
      have e2 : ∀ v w, gI (sI (sI σ 12 t (pP S) v) 2 t 2 w) 2 t 11 = iN (pQ S) := fun v w => by rw [gI_sI, if_neg (by omega), gI_sI, if_neg (by omega)]; exact p3
      have e3 : ∀ v w u, gI (sI (sI (sI σ 12 t (pP S) v) 2 t 2 w) 11 t (pQ S) u) 2 t 11 = iN (pQ S) := fun v w u => by rw [gI_sI, if_neg (by omega)]; exact e2 v w
      rw [if_pos l5, if_pos ixp, if_pos hp, ep, e1, iN_add1, e2, if_pos ixq, eq, e3, iN_add1]
      refine Or.inr ⟨_, rfl, _, rfl, ⟨⟨?_, ?_, ?_, ?_, ?_, ?_⟩, fun j hj => ?_, fun j hj => ?_, fun e he => ?_, fun e he => ?_⟩, ((FD_I (Or.inr (Or.inr (Or.inl rfl)))).trans (FD_I (Or.inl rfl))).trans ((FD_I (Or.inr (Or.inl rfl))).trans (FD_I (Or.inl rfl)))⟩
      · rw [gI_sI, if_neg (by omega), gI_sI, if_neg (by omega), gI_sI, if_neg (by omega), gI_sI, if_neg (by omega)]; exact p1
      · rw [gI_sI, if_neg (by omega), gI_sI, if_neg (by omega), gI_sI, if_neg (by omega), gI_sI, if_neg (by omega)]; exact p2
      · rw [gI_sI, if_pos ⟨rfl, rfl, rfl⟩]; rfl
      · rw [gI_sI, if_neg (by omega), gI_sI, if_neg (by omega), gI_sI, if_pos ⟨rfl, rfl, rfl⟩]; rfl
      · rw [gI_sI, if_neg (by omega), gI_sI, if_neg (by omega), gI_sI, if_neg (by omega), gI_sI, if_neg (by omega)]; exact p5
      · rw [gI_sI, if_neg (by omega), gI_sI, if_neg (by omega), gI_sI, if_neg (by omega), gI_sI, if_neg (by omega)]; exact p6
      · have hj : j < pQ S + 1 := hj
        show _ = upI S.2.2.2.2 (pQ S) 0 j
        rw [gI_sI, if_neg (by omega), gI_sI]
        by_cases ej : j = pQ S
        · rw [if_pos ⟨rfl, rfl, ej⟩, ej, upI_eq]
        · rw [if_neg (by omega), upI_ne ej, gI_sI, if_neg (by omega), gI_sI, if_neg (by omega)]; exact p7 j (by omega)
      · have hj : j < pP S + 1 := hj
        show _ = iN (up S.2.1 (pP S) (pQ S) j)
        rw [gI_sI, if_neg (by omega), gI_sI, if_neg (by omega), gI_sI, if_neg (by omega), gI_sI]
        by_cases ej : j = pP S
        · rw [if_pos ⟨rfl, rfl, ej⟩, ej, up_eq]
        · rw [if_neg (by omega), up_ne ej]; exact p8 j (by omega)
      · rw [gI_sI, if_neg (by omega), gI_sI, if_neg (by omega), gI_sI, if_neg (by omega), gI_sI, if_neg (by omega)]; exact p9 e he
      · rw [gI_sI, if_neg (by omega), gI_sI, if_neg (by omega), gI_sI, if_neg (by omega), gI_sI, if_neg (by omega)]; exact p10 e he
    · have l5 : ¬ iN (pP S) < 5 := fun q => hp ((iN_lt (b := 5) (by omega) (by omega)).mp q)
      rw [if_neg l5, if_neg hp]
      exact Or.inl ⟨rfl, σ, rfl, FD.rfl⟩
  · rw [if_neg ec]
    have es : f2_signOf c σ = some ((sgn c).getD (-9), σ) := by
      unfold f2_signOf sgn
      by_cases c1 : c = 46
      · rw [if_pos c1, if_pos c1]; rfl
      rw [if_neg c1, if_neg c1]
      by_cases c2 : c = 103
      · rw [if_pos c2, if_pos c2]; rfl
      rw [if_neg c2, if_neg c2]
      by_cases c3 : c = 109
      · rw [if_pos c3, if_pos c3]; rfl
      rw [if_neg c3, if_neg c3, if_neg ec]; rfl
    rw [es, bI_some]
    cases eg : sgn c with
    | none =>
      rw [show (none : Option Int32).getD (-9) = -9 from rfl, if_pos rfl]
      exact Or.inl ⟨rfl, σ, rfl, FD.rfl⟩
    | some s =>
      have s3 := sgn_3 eg
      have n9 : ¬ s = -9 := by rcases s3 with rfl | rfl | rfl <;> decide
      have e3 : ∀ u, gI (sI σ 11 t (pQ S) u) 2 t 11 = iN (pQ S) := fun u => by rw [gI_sI, if_neg (by omega)]; exact p3
      rw [show (some s).getD (-9) = s from rfl, if_neg n9, p3, if_pos l30, if_neg ec, if_pos ixq, eq, e3, iN_add1]
      refine Or.inr ⟨_, rfl, _, rfl, ⟨⟨?_, ?_, ?_, ?_, ?_, ?_⟩, fun j hj => ?_, fun j hj => ?_, fun e he => ?_, fun e he => ?_⟩, (FD_I (Or.inr (Or.inl rfl))).trans (FD_I (Or.inl rfl))⟩
      · rw [gI_sI, if_neg (by omega), gI_sI, if_neg (by omega)]; exact p1
      · rw [gI_sI, if_neg (by omega), gI_sI, if_neg (by omega)]; exact p2
      · rw [gI_sI, if_pos ⟨rfl, rfl, rfl⟩]; rfl
      · rw [gI_sI, if_neg (by omega), gI_sI, if_neg (by omega)]; exact p4
      · rw [gI_sI, if_neg (by omega), gI_sI, if_neg (by omega)]; exact p5
      · rw [gI_sI, if_neg (by omega), gI_sI, if_neg (by omega)]; exact p6
      · have hj : j < pQ S + 1 := hj
        show _ = upI S.2.2.2.2 (pQ S) s j
        rw [gI_sI, if_neg (by omega), gI_sI]
        by_cases ej : j = pQ S
        · rw [if_pos ⟨rfl, rfl, ej⟩, ej, upI_eq]
        · rw [if_neg (by omega), upI_ne ej]; exact p7 j (by omega)
      · rw [gI_sI, if_neg (by omega), gI_sI, if_neg (by omega)]; exact p8 j hj
      · rw [gI_sI, if_neg (by omega), gI_sI, if_neg (by omega)]; exact p9 e he
      · rw [gI_sI, if_neg (by omega), gI_sI, if_neg (by omega)]; exact p10 e he
theorem c_etT {σ : Sto} {t z : Nat} {S : PS} {c : Int32} (hm2 : pM S ≤ 2) (hz : z < 70) (hL : pM S ≤ pL S) (hP : CP σ t S) : (etS S z c = none ∧ ∃ σ', f2_takesEater t (iN z) c σ = some (0, σ') ∧ FD t σ σ') ∨ (∃ S', etS S z c = some S' ∧ ∃ σ', f2_takesEater t (iN z) c σ = some (1, σ') ∧ CP σ' t S' ∧ FD t σ σ') := by
  obtain ⟨⟨p1, p2, p3, p4, p5, p6⟩, p7, p8, p9, p10⟩ := hP
  unfold f2_takesEater etS
  rw [p5, show (3 : Int32) = iN 3 from rfl, mod_iN hz (by decide)]
  have z3 := Nat.mod_lt z (show 0 < 3 by decide)
  by_cases em : pM S < 2
  · have l2 : iN (pM S) < 2 := (iN_lt (b := 2) (by omega) (by omega)).mpr em
    have ix : Ix (iN (pM S)) 2 := (iN_Ix (by omega)).mpr em
    have eN : (iN (pM S)).toNatClampNeg = pM S := iN_nat (by omega)
    rw [if_pos l2, if_pos em]
    by_cases e0 : z % 3 = 0
    · rw [if_pos e0, if_pos (show iN (z % 3) = 0 from by rw [e0]; rfl)]
      by_cases ec : c = 59
      · rw [if_pos ec, if_pos ec]; exact Or.inr ⟨S, rfl, σ, rfl, ⟨⟨p1, p2, p3, p4, p5, p6⟩, p7, p8, p9, p10⟩, FD.rfl⟩
      · rw [if_neg ec, if_neg ec]; exact Or.inl ⟨rfl, σ, rfl, FD.rfl⟩
    · rw [if_neg e0, if_neg (show ¬ iN (z % 3) = 0 from by rw [iN_0 (by omega)]; exact e0)]
      by_cases e1 : z % 3 = 1
      · rw [if_pos e1, if_pos (show iN (z % 3) = 1 from by rw [e1]; rfl), if_pos ix, eN]
        have yes : ∀ k, c = lcI k → ((∃ S', (some k).map (fun k => (up S.1 5 (pM S + 1), S.2.1, up S.2.2.1 (pM S) k, S.2.2.2.1, S.2.2.2.2)) = some S' ∧ ∃ σ', some ((1 : Int32), sI σ 14 t (pM S) c) = some (1, σ') ∧ CP σ' t S' ∧ FD t σ σ')) := by
          intro k hk
          refine ⟨_, rfl, _, rfl, ⟨⟨?_, ?_, ?_, ?_, ?_, ?_⟩, fun j hj => ?_, fun j hj => ?_, fun e he => ?_, fun e he => ?_⟩, FD_I (Or.inr (Or.inr (Or.inr (Or.inl rfl))))⟩
          · rw [gI_sI, if_neg (by omega)]; exact p1
          · rw [gI_sI, if_neg (by omega)]; exact p2
          · rw [gI_sI, if_neg (by omega)]; exact p3
          · rw [gI_sI, if_neg (by omega)]; exact p4
          · rw [gI_sI, if_neg (by omega)]; exact p5
          · rw [gI_sI, if_neg (by omega)]; exact p6
          · rw [gI_sI, if_neg (by omega)]; exact p7 j hj
          · rw [gI_sI, if_neg (by omega)]; exact p8 j hj
          · have he : e < pM S + 1 := he
            show _ = lcI (up S.2.2.1 (pM S) k e)
            rw [gI_sI]
            by_cases ee : e = pM S
            · rw [if_pos ⟨rfl, rfl, ee⟩, ee, up_eq, hk]
            · rw [if_neg (by omega), up_ne ee]; exact p9 e (by omega)
          · rw [gI_sI, if_neg (by omega)]; exact p10 e he
        unfold ltk
        by_cases c1 : c = 102
        · rw [if_pos c1, if_pos c1]; exact Or.inr (yes 0 c1)
        rw [if_neg c1, if_neg c1]
        by_cases c2 : c = 107
        · rw [if_pos c2, if_pos c2]; exact Or.inr (yes 1 c2)
        rw [if_neg c2, if_neg c2]
        by_cases c3 : c = 115
        · rw [if_pos c3, if_pos c3]; exact Or.inr (yes 2 c3)
        rw [if_neg c3, if_neg c3]
        exact Or.inl ⟨rfl, _, rfl, FD_I (Or.inr (Or.inr (Or.inr (Or.inl rfl))))⟩
      · rw [if_neg e1, if_neg (show ¬ iN (z % 3) = 1 from by rw [show (1 : Int32) = iN 1 from rfl, iN_inj (by omega) (by omega)]; exact e1)]
        unfold f2_takesStrength
        rw [p5, if_neg (show ¬ 2 ≤ iN (pM S) from by rw [show (2 : Int32) = iN 2 from rfl, iN_le (by omega) (by omega)]; omega)]
        cases ed : dig 1 4 c with
        | none =>
          have o := dig_out (by decide) (by decide) ed
          refine Or.inl ⟨rfl, σ, ?_, FD.rfl⟩
          by_cases o1 : c - 48 < 1
          · rw [if_pos o1, bI_some, if_pos (Or.inl rfl)]
          · rw [if_neg o1, if_neg (show ¬ c - 48 ≤ 4 from Int32.not_le.mpr (o.resolve_left o1)), bI_some, if_pos (Or.inl rfl)]
        | some s =>
          obtain ⟨d1, d2, d3⟩ := dig_some ed
          have e1 : ∀ v, gI (sI σ 15 t (pM S) v) 2 t 3 = iN (pM S) := fun v => by rw [gI_sI, if_neg (by omega)]; exact p5
          rw [d1, sub48, if_neg (show ¬ iN s < 1 from by rw [show (1 : Int32) = iN 1 from rfl, iN_lt (by omega) (by omega)]; omega), if_pos (show iN s ≤ 4 from (iN_le (b := 4) (by omega) (by omega)).mpr d3), if_pos ix, eN, e1, iN_add1, bI_some, if_pos (Or.inr rfl)]
          refine Or.inr ⟨_, rfl, _, rfl, ⟨⟨?_, ?_, ?_, ?_, ?_, ?_⟩, fun j hj => ?_, fun j hj => ?_, fun e he => ?_, fun e he => ?_⟩, (FD_I (Or.inr (Or.inr (Or.inr (Or.inr rfl))))).trans (FD_I (Or.inl rfl))⟩
          · rw [gI_sI, if_neg (by omega), gI_sI, if_neg (by omega)]; exact p1
          · rw [gI_sI, if_neg (by omega), gI_sI, if_neg (by omega)]; exact p2
          · rw [gI_sI, if_neg (by omega), gI_sI, if_neg (by omega)]; exact p3
          · rw [gI_sI, if_neg (by omega), gI_sI, if_neg (by omega)]; exact p4
          · rw [gI_sI, if_pos ⟨rfl, rfl, rfl⟩]; rfl
          · rw [gI_sI, if_neg (by omega), gI_sI, if_neg (by omega)]; exact p6
          · rw [gI_sI, if_neg (by omega), gI_sI, if_neg (by omega)]; exact p7 j hj
          · rw [gI_sI, if_neg (by omega), gI_sI, if_neg (by omega)]; exact p8 j hj
          · rw [gI_sI, if_neg (by omega), gI_sI, if_neg (by omega)]; exact p9 e he
          · have he : e < pM S + 1 := he
            show _ = iN (up S.2.2.2.1 (pM S) s e)
            rw [gI_sI, if_neg (by omega), gI_sI]
            by_cases ee : e = pM S
            · rw [if_pos ⟨rfl, rfl, ee⟩, ee, up_eq]
            · rw [if_neg (by omega), up_ne ee]; exact p10 e (by omega)
  · have l2 : ¬ iN (pM S) < 2 := fun q => em ((iN_lt (b := 2) (by omega) (by omega)).mp q)
    rw [if_neg l2, if_neg em]
    exact Or.inl ⟨rfl, σ, rfl, FD.rfl⟩
theorem Iv_L {S : PS} {x : Nat} (h : Iv S x) : pM S ≤ pL S := by
  by_cases hx : 3 ≤ x
  · by_cases hr : pR S ≤ x - 3
    · have := (h.2.2.2.2.1 hx hr).2.2
      rw [this]; exact Nat.le_add_right _ _
    · have := (h.2.2.2.1 hx (by omega)).2
      omega
  · have := h.1 (by omega)
    omega
theorem c_takes {σ : Sto} {t x : Nat} {S : PS} {c : Int32} (h : Iv S x) (hx60 : x < 60) (hP : CP σ t S) : (stp S x c = none ∧ ∃ σ', f2_takes t (iN x) c σ = some (0, σ') ∧ FD t σ σ') ∨ (∃ S', stp S x c = some S' ∧ ∃ σ', f2_takes t (iN x) c σ = some (1, σ') ∧ CP σ' t S' ∧ FD t σ σ') := by
  have hP0 := hP
  obtain ⟨⟨p1, p2, p3, p4, p5, p6⟩, p7, p8, p9, p10⟩ := hP
  unfold f2_takes stp
  by_cases h0 : x = 0
  · rw [if_pos h0, if_pos (show iN x = 0 from by rw [h0]; rfl)]
    by_cases ec : c = 112
    · rw [if_pos ec, if_pos ec]; exact Or.inr ⟨S, rfl, σ, rfl, hP0, FD.rfl⟩
    · rw [if_neg ec, if_neg ec]; exact Or.inl ⟨rfl, σ, rfl, FD.rfl⟩
  rw [if_neg h0, if_neg (show ¬ iN x = 0 from by rw [iN_0 (by omega)]; exact h0)]
  by_cases h1 : x = 1
  · rw [if_pos h1, if_pos (show iN x = 1 from by rw [h1]; rfl)]
    have e0 : ∀ v, gI (sI σ 2 t 0 v) 2 t 0 = v := fun v => by rw [gI_sI, if_pos ⟨rfl, rfl, rfl⟩]
    rw [e0]
    cases ed : dig 2 5 c with
    | none =>
      have o := dig_out (by decide) (by decide) ed
      refine Or.inl ⟨rfl, _, ?_, FD_I (j := 0) (x := c - 48) (Or.inl rfl)⟩
      by_cases o1 : c - 48 < 2
      · rw [if_pos o1]
      · rw [if_neg o1, if_pos (show (5 : Int32) < c - 48 from o.resolve_left o1)]
    | some k =>
      obtain ⟨d1, d2, d3⟩ := dig_some ed
      rw [d1, sub48, if_neg (show ¬ iN k < 2 from by rw [show (2 : Int32) = iN 2 from rfl, iN_lt (by omega) (by omega)]; omega), if_neg (show ¬ 5 < iN k from by rw [show (5 : Int32) = iN 5 from rfl, iN_lt (by omega) (by omega)]; omega)]
      refine Or.inr ⟨_, rfl, _, rfl, ⟨⟨?_, ?_, ?_, ?_, ?_, ?_⟩, fun j hj => ?_, fun j hj => ?_, fun e he => ?_, fun e he => ?_⟩, FD_I (Or.inl rfl)⟩
      · rw [gI_sI, if_pos ⟨rfl, rfl, rfl⟩]; rfl
      · rw [gI_sI, if_neg (by omega)]; exact p2
      · rw [gI_sI, if_neg (by omega)]; exact p3
      · rw [gI_sI, if_neg (by omega)]; exact p4
      · rw [gI_sI, if_neg (by omega)]; exact p5
      · rw [gI_sI, if_neg (by omega)]; exact p6
      · rw [gI_sI, if_neg (by omega)]; exact p7 j hj
      · rw [gI_sI, if_neg (by omega)]; exact p8 j hj
      · rw [gI_sI, if_neg (by omega)]; exact p9 e he
      · rw [gI_sI, if_neg (by omega)]; exact p10 e he
  rw [if_neg h1, if_neg (show ¬ iN x = 1 from by rw [show (1 : Int32) = iN 1 from rfl, iN_inj (by omega) (by omega)]; exact h1)]
  by_cases h2 : x = 2
  · rw [if_pos h2, if_pos (show iN x = 2 from by rw [h2]; rfl)]
    have e0 : ∀ v, gI (sI σ 2 t 1 v) 2 t 1 = v := fun v => by rw [gI_sI, if_pos ⟨rfl, rfl, rfl⟩]
    rw [e0]
    cases ed : dig 2 6 c with
    | none =>
      have o := dig_out (by decide) (by decide) ed
      refine Or.inl ⟨rfl, _, ?_, FD_I (j := 1) (x := c - 48) (Or.inl rfl)⟩
      by_cases o1 : c - 48 < 2
      · rw [if_pos o1]
      · rw [if_neg o1, if_pos (show (6 : Int32) < c - 48 from o.resolve_left o1)]
    | some k =>
      obtain ⟨d1, d2, d3⟩ := dig_some ed
      rw [d1, sub48, if_neg (show ¬ iN k < 2 from by rw [show (2 : Int32) = iN 2 from rfl, iN_lt (by omega) (by omega)]; omega), if_neg (show ¬ 6 < iN k from by rw [show (6 : Int32) = iN 6 from rfl, iN_lt (by omega) (by omega)]; omega)]
      refine Or.inr ⟨_, rfl, _, rfl, ⟨⟨?_, ?_, ?_, ?_, ?_, ?_⟩, fun j hj => ?_, fun j hj => ?_, fun e he => ?_, fun e he => ?_⟩, FD_I (Or.inl rfl)⟩
      · rw [gI_sI, if_neg (by omega)]; exact p1
      · rw [gI_sI, if_pos ⟨rfl, rfl, rfl⟩]; rfl
      · rw [gI_sI, if_neg (by omega)]; exact p3
      · rw [gI_sI, if_neg (by omega)]; exact p4
      · rw [gI_sI, if_neg (by omega)]; exact p5
      · rw [gI_sI, if_neg (by omega)]; exact p6
      · rw [gI_sI, if_neg (by omega)]; exact p7 j hj
      · rw [gI_sI, if_neg (by omega)]; exact p8 j hj
      · rw [gI_sI, if_neg (by omega)]; exact p9 e he
      · rw [gI_sI, if_neg (by omega)]; exact p10 e he
  rw [if_neg h2, if_neg (show ¬ iN x = 2 from by rw [show (2 : Int32) = iN 2 from rfl, iN_inj (by omega) (by omega)]; exact h2)]
  have hx : 3 ≤ x := by omega
  have r35 := pR_35 h hx
  unfold f2_takesBehindHead f2_rowCodes
  rw [bI_some, p1, p2, iN_add1, iN_mul, show iN x - 3 = iN (x - 3) from iN_sub (a := x) (b := 3) hx]
  by_cases hy : x - 3 < pR S
  · rw [if_pos hy, if_neg (show ¬ iN (pR S) ≤ iN (x - 3) from by rw [iN_le (by omega) (by omega)]; omega)]
    by_cases hm : (x - 3) % (pW S + 1) = 0
    · have hW := h.2.2.1 hx
      have ef : f2_takesInRow t (iN (x - 3)) c σ = if c = 59 then some (1, σ) else some (0, σ) := by
        unfold f2_takesInRow
        rw [p2, if_neg (iN_neg (by omega)), iN_add1, if_pos (by rw [iN_0 (by omega)]; omega), mod_iN (by omega) (by omega), if_pos (by rw [hm]; rfl)]
      rw [if_pos hm, ef]
      by_cases ec : c = 59
      · rw [if_pos ec, if_pos ec, bI_some, if_pos (Or.inr rfl), bI_some, if_pos (Or.inr rfl)]; exact Or.inr ⟨S, rfl, σ, rfl, hP0, FD.rfl⟩
      · rw [if_neg ec, if_neg ec, bI_some, if_pos (Or.inl rfl), bI_some, if_pos (Or.inl rfl)]; exact Or.inl ⟨rfl, σ, rfl, FD.rfl⟩
    · rw [if_neg hm]
      rcases c_sqT (c := c) h hx hy hm hP0 with ⟨q1, s1, q2, q3⟩ | ⟨S', q1, s1, q2, q3, q4⟩
      · rw [q2, bI_some, if_pos (Or.inl rfl), bI_some, if_pos (Or.inl rfl)]; exact Or.inl ⟨q1, s1, rfl, q3⟩
      · rw [q2, bI_some, if_pos (Or.inr rfl), bI_some, if_pos (Or.inr rfl)]; exact Or.inr ⟨S', q1, s1, rfl, q3, q4⟩
  · rw [if_neg hy, if_pos (show iN (pR S) ≤ iN (x - 3) from (iN_le (by omega) (by omega)).mpr (by omega)), show iN (x - 3) - iN (pR S) = iN (x - 3 - pR S) from iN_sub (by omega)]
    rcases c_etT (c := c) h.2.2.2.2.2.1.2 (show x - 3 - pR S < 70 by omega) (Iv_L h) hP0 with ⟨q1, s1, q2, q3⟩ | ⟨S', q1, s1, q2, q3, q4⟩
    · rw [q2, bI_some, if_pos (Or.inl rfl), bI_some, if_pos (Or.inl rfl)]; exact Or.inl ⟨q1, s1, rfl, q3⟩
    · rw [q2, bI_some, if_pos (Or.inr rfl), bI_some, if_pos (Or.inr rfl)]; exact Or.inr ⟨S', q1, s1, rfl, q3, q4⟩
theorem c_textL {K : Int32 → Sto → Option (Int32 × Sto)} {T : Nat → Int32} {t k s i n : Nat} (hs : s ≤ 60) (hin : i + n ≤ s) : ∀ (f x q : Nat) (σ : Sto) (S : PS), x + f = n → f < q → Iv S x → CP σ t S → gI σ 4 k 2 = iN s → (∀ y, y < n → gI σ 19 k (i + y) = T y) → ((itP T f x S).2 = none ∧ ∃ σ', l2_readText_7 K t k (iN i) (iN n) q (iN x) σ = some (iN (itP T f x S).1, σ') ∧ FD t σ σ' ∧ (itP T f x S).1 < n) ∨ (∃ S', itP T f x S = (n, some S') ∧ Iv S' n ∧ ∃ σ', l2_readText_7 K t k (iN i) (iN n) q (iN x) σ = K (iN n) σ' ∧ CP σ' t S' ∧ FD t σ σ')
  | f, x, 0, _, _, _, hq, _, _, _, _ => by omega
  | 0, x, q + 1, σ, S, hx, hq, hI, hP, h42, h19 => by
    have ex : x = n := by omega
    subst ex
    refine Or.inr ⟨S, rfl, hI, σ, ?_, hP, FD.rfl⟩
    show (if iN x ≤ iN x then _ else _) = _
    rw [if_pos (Int32.le_refl _)]
  | f + 1, x, q + 1, σ, S, hx, hq, hI, hP, h42, h19 => by
    have eL : ∀ Z, (bI (f2_takes t (iN x) (T x) σ) (fun v24 s25 => (if v24 = 0 then (some (iN x, s25)) else (l2_readText_7 K t k (iN i) (iN n) q (iN (x + 1)) s25)))) = Z → l2_readText_7 K t k (iN i) (iN n) (q + 1) (iN x) σ = Z := fun Z hZ => by
      show (if iN n ≤ iN x then _ else _) = _
      rw [if_neg (by rw [iN_le (by omega) (by omega)]; omega), iN_add, c_read hs h42 (by omega), bI_some, h19 x (by omega), iN_add1]
      exact hZ
    have eI : itP T (f + 1) x S = match stp S x (T x) with
      | none => (x, none)
      | some S' => itP T f (x + 1) S' := rfl
    rcases c_takes (c := T x) hI (by omega) hP with ⟨q1, s1, q2, q3⟩ | ⟨S', q1, s1, q2, q3, q4⟩
    · rw [q1] at eI
      rw [eI]
      refine Or.inl ⟨rfl, s1, eL _ ?_, q3, by show x < n; omega⟩
      rw [q2, bI_some, if_pos rfl]
    · rw [q1] at eI
      rw [eI]
      rcases c_textL (K := K) (T := T) (k := k) hs hin f (x + 1) q s1 S' (by omega) (by omega) (stp_Iv hI q1) q3 (by rw [q4.2 _ _ _ (by omega)]; exact h42) (fun y hy => by rw [q4.2 _ _ _ (by omega)]; exact h19 y hy) with ⟨r1, s2, r2, r3, r4⟩ | ⟨S2, r1, r2, s2, r3, r4, r5⟩
      · refine Or.inl ⟨r1, s2, eL _ ?_, q4.trans r3, r4⟩
        rw [q2, bI_some, if_neg (by decide)]; exact r2
      · refine Or.inr ⟨S2, r1, r2, s2, eL _ ?_, r4, q4.trans r5⟩
        rw [q2, bI_some, if_neg (by decide)]; exact r3
