/-! tell, polish, as -/
theorem Agr0.rfl {σ : Sto} : Agr0 σ σ := ⟨fun _ _ _ _ => Eq.refl _, fun _ _ _ _ _ _ _ => Eq.refl _⟩
theorem Agr0.trans {a b c : Sto} (h1 : Agr0 a b) (h2 : Agr0 b c) : Agr0 a c := ⟨fun k i j h => (h2.1 k i j h).trans (h1.1 k i j h), fun k i j p q r s => (h2.2 k i j p q r s).trans (h1.2 k i j p q r s)⟩
theorem Agr0_7 {σ : Sto} {x : Int32} : Agr0 σ (sI σ 7 0 0 x) := ⟨fun _ _ _ _ => rfl, fun k a b _ _ _ h => by rw [gI_sI, if_neg (by omega)]⟩
theorem Agr0_f {σ : Sto} {x : Int32} : Agr0 σ (sI σ 8 0 13 x) := ⟨fun _ _ _ _ => rfl, fun k a b _ _ _ h => by rw [gI_sI, if_neg (by omega)]⟩
theorem FC_7 {σ : Sto} {x : Int32} : FC σ (sI σ 7 0 0 x) := fun k a b h => by rw [gI_sI, if_neg (by omega)]
theorem FC_f {σ : Sto} {x : Int32} : FC σ (sI σ 8 0 13 x) := fun k a b h => by rw [gI_sI, if_neg (by omega)]
theorem FMm_9 {σ : Sto} {j : Nat} {x : Int32} : FMm σ (sI σ 9 0 j x) := ⟨rfl, fun k a b h => by rw [gI_sI, if_neg (by omega)]⟩
def T24 (σ σ' : Sto) : Prop := ∀ k a b, 24 ≤ k ∧ k < 34 ∨ (k = 9 ∧ b < 14) → gI σ' k a b = gI σ k a b
theorem T24.trans {a b c : Sto} (h1 : T24 a b) (h2 : T24 b c) : T24 a c := fun k i j h => (h2 k i j h).trans (h1 k i j h)
theorem T24_9 {σ : Sto} {j : Nat} {x : Int32} (hj : 14 ≤ j) : T24 σ (sI σ 9 0 j x) := fun k a b h => by rw [gI_sI, if_neg (by omega)]
theorem m_tellX {τ : Sto} {A : AS} {e k : Nat} (hw : wfA A) (hM : RM τ A) (he : e < aM A) (hk : A.1 2 e = k) : f9_tell (iN e) τ = if iN k = 0 then f9_forkTells (iN e) τ else if iN k = 1 then f9_knifeTells (iN e) τ else f9_spoonTells (iN e) τ := by
  have hm := wf_m hw
  have ix2 : Ix (iN e) 2 := (iN_Ix (by omega)).mpr (by omega)
  have e26 : gI τ 26 0 (iN e).toNatClampNeg = iN k := by rw [iN_nat (by omega), (hM.2.1 e he).1, hk]
  have bi : ∀ o : Option (Int32 × Sto), (bI o fun v s => some (v, s)) = o := fun o => by rcases o with _ | ⟨a, b⟩ <;> rfl
  unfold f9_tell
  rw [m_isEa_in hM.1.2.1.1 hm he, bI_some, if_neg (by decide), if_pos ix2, if_pos ix2, e26, bi, bi, bi]
theorem m_fork {τ : Sto} {x y : Int32} {e : Nat} (h14 : gI τ 9 0 14 = x) (h27 : gI τ 27 0 e = y) (he : e < 2) : f9_forkTells (iN e) τ = some (y, sI τ 9 0 14 (31 * x + 1)) := by
  unfold f9_forkTells f9_begin
  rw [bV_some, if_pos ((iN_Ix (by omega)).mpr he), h14, iN_nat (by omega), gI_sI, if_neg (by omega), h27]
theorem m_knife {τ : Sto} {x y : Int32} {e : Nat} (h14 : gI τ 9 0 14 = x) (h27 : gI τ 27 0 e = y) (he : e < 2) : f9_knifeTells (iN e) τ = some (y + 100, sI (sI τ 9 0 14 (31 * x + 2)) 9 0 14 (31 * (31 * x + 2) + 1)) := by
  unfold f9_knifeTells f9_begin
  rw [bV_some, h14, m_fork (x := 31 * x + 2) (y := y) (by rw [gI_sI, if_pos (by decide)]) (by rw [gI_sI, if_neg (by omega)]; exact h27) he, bI_some]
theorem m_spoon {τ : Sto} {x y : Int32} {e : Nat} (h14 : gI τ 9 0 14 = x) (h27 : gI τ 27 0 e = y) (he : e < 2) : f9_spoonTells (iN e) τ = some ((y + 100) + y, sI (sI (sI (sI τ 9 0 14 (31 * x + 3)) 9 0 14 (31 * (31 * x + 3) + 2)) 9 0 14 (31 * (31 * (31 * x + 3) + 2) + 1)) 9 0 14 (31 * (31 * (31 * (31 * x + 3) + 2) + 1) + 1)) := by
  unfold f9_spoonTells f9_begin
  rw [bV_some, h14, m_knife (x := 31 * x + 3) (y := y) (by rw [gI_sI, if_pos (by decide)]) (by rw [gI_sI, if_neg (by omega)]; exact h27) he, bI_some, m_fork (x := 31 * (31 * (31 * x + 3) + 2) + 1) (y := y) (by rw [gI_sI, if_pos (by decide)]) (by rw [gI_sI, if_neg (by omega), gI_sI, if_neg (by omega), gI_sI, if_neg (by omega)]; exact h27) he, bI_some]
theorem both_tell (a1 : Int32) : Both (f8_tell a1) (f9_tell a1) := Both.tf (fun σ A t hw hC hM => by
  have hm := wf_m hw
  have x1 := hC.2.1.1
  have tr := hC.2.2.2.2.2.2.2.2.1.1
  have fa := hC.2.2.2.2.2.2.2.2.1.2
  unfold f8_tell
  rw [x1, dr_some]
  rcases iN_or a1 (aM A) (by omega) with ⟨e, he, rfl⟩ | hx
  · obtain ⟨ix, g1, g2, g3⟩ := c_eater hw hC he
    have ix2 : Ix (iN e) 2 := (iN_Ix (by omega)).mpr (by omega)
    obtain ⟨k3, s1, s4⟩ := kd3 hw he
    rw [g1, bI_some, rcs_some]
    rcases k3 with k3 | k3 | k3
    · have gk : gI σ 0 ix 1 = iN (A.1 3 e) := by rw [k3] at g3; exact g3
      refine ⟨iN (A.1 3 e), sI σ 7 0 0 (31 * A.2 0 0 + 1), sI (sI σ 7 0 0 (31 * A.2 0 0 + 1)) 9 0 14 (31 * A.2 0 0 + 1), 31 * A.2 0 0 + 1, A.2 0 1, ?_, Agr0_7, FC_7, ⟨by rw [gI_sI, if_pos (by decide)], by rw [gI_sI, if_neg (by decide)]; exact fa⟩, fun hM => ⟨?_, FMm_9, T24_9 (by decide), by rw [gI_sI, if_pos (by decide)], by rw [gI_sI, if_neg (by decide)]; exact hM.2.2.2.2.2.2⟩⟩
      · rw [k3]
        simp only [kk, if_true, fk, f0_telling_0, f0_forkTelling_0, f7_leave, bV_some, bI_some, tr, gI_sI, Nat.reduceEqDiff, false_and, if_false, gk]
      · rw [m_tellX hw hM he k3, if_pos (by decide)]
        exact m_fork hM.2.2.2.2.2.1 (hM.2.1 e he).2 (by omega)
    · have gk : gI σ 1 ix 1 = iN (A.1 3 e) := by rw [k3] at g3; exact g3
      refine ⟨iN (A.1 3 e) + 100, sI (sI σ 7 0 0 (31 * A.2 0 0 + 2)) 7 0 0 (31 * (31 * A.2 0 0 + 2) + 1), sI (sI (sI (sI σ 7 0 0 (31 * A.2 0 0 + 2)) 7 0 0 (31 * (31 * A.2 0 0 + 2) + 1)) 9 0 14 (31 * A.2 0 0 + 2)) 9 0 14 (31 * (31 * A.2 0 0 + 2) + 1), 31 * (31 * A.2 0 0 + 2) + 1, A.2 0 1, ?_, Agr0_7.trans Agr0_7, FC_7.trans FC_7, ⟨by rw [gI_sI, if_pos (by decide)], by rw [gI_sI, if_neg (by decide), gI_sI, if_neg (by decide)]; exact fa⟩, fun hM => ⟨?_, FMm_9.trans FMm_9, (T24_9 (by decide)).trans (T24_9 (by decide)), by rw [gI_sI, if_pos (by decide)], by rw [gI_sI, if_neg (by decide), gI_sI, if_neg (by decide)]; exact hM.2.2.2.2.2.2⟩⟩
      · rw [k3]
        simp only [kk, if_true, fk, f1_telling_1, f0_telling_1, f0_forkTelling_1, f7_leave, bV_some, bI_some, tr, gI_sI, Nat.reduceEqDiff, false_and, if_false, gk, and_self, Nat.one_ne_zero]
      · rw [m_tellX hw hM he k3, if_neg (by decide), if_pos (by decide)]
        exact m_knife hM.2.2.2.2.2.1 (hM.2.1 e he).2 (by omega)
    · have gk : gI σ 5 ix 1 = iN (A.1 3 e) := by rw [k3] at g3; exact g3
      refine ⟨(iN (A.1 3 e) + 100) + iN (A.1 3 e), sI (sI (sI (sI σ 7 0 0 (31 * A.2 0 0 + 3)) 7 0 0 (31 * (31 * A.2 0 0 + 3) + 2)) 7 0 0 (31 * (31 * (31 * A.2 0 0 + 3) + 2) + 1)) 7 0 0 (31 * (31 * (31 * (31 * A.2 0 0 + 3) + 2) + 1) + 1), sI (sI (sI (sI (sI (sI (sI (sI σ 7 0 0 (31 * A.2 0 0 + 3)) 7 0 0 (31 * (31 * A.2 0 0 + 3) + 2)) 7 0 0 (31 * (31 * (31 * A.2 0 0 + 3) + 2) + 1)) 7 0 0 (31 * (31 * (31 * (31 * A.2 0 0 + 3) + 2) + 1) + 1)) 9 0 14 (31 * A.2 0 0 + 3)) 9 0 14 (31 * (31 * A.2 0 0 + 3) + 2)) 9 0 14 (31 * (31 * (31 * A.2 0 0 + 3) + 2) + 1)) 9 0 14 (31 * (31 * (31 * (31 * A.2 0 0 + 3) + 2) + 1) + 1), 31 * (31 * (31 * (31 * A.2 0 0 + 3) + 2) + 1) + 1, A.2 0 1, ?_, ((Agr0_7.trans Agr0_7).trans Agr0_7).trans Agr0_7, ((FC_7.trans FC_7).trans FC_7).trans FC_7, ⟨by rw [gI_sI, if_pos (by decide)], by rw [gI_sI, if_neg (by decide), gI_sI, if_neg (by decide), gI_sI, if_neg (by decide), gI_sI, if_neg (by decide)]; exact fa⟩, fun hM => ⟨?_, ((FMm_9.trans FMm_9).trans FMm_9).trans FMm_9, (((T24_9 (by decide)).trans (T24_9 (by decide))).trans (T24_9 (by decide))).trans (T24_9 (by decide)), by rw [gI_sI, if_pos (by decide)], by rw [gI_sI, if_neg (by decide), gI_sI, if_neg (by decide), gI_sI, if_neg (by decide), gI_sI, if_neg (by decide)]; exact hM.2.2.2.2.2.2⟩⟩
      · rw [k3]
        simp only [kk, if_true, fk, f5_telling_5, f1_telling_5, f0_telling_5, f0_forkTelling_5, f7_leave, bV_some, bI_some, tr, gI_sI, Nat.reduceEqDiff, false_and, if_false, gk, and_self]
      · rw [m_tellX hw hM he k3, if_neg (by decide), if_neg (by decide)]
        exact m_spoon hM.2.2.2.2.2.1 (hM.2.1 e he).2 (by omega)
  · refine ⟨-1, σ, σ, A.2 0 0, A.2 0 1, ?_, Agr0.rfl, FC.rfl, ⟨tr, fa⟩, fun hM => ⟨?_, FMm.rfl, fun _ _ _ _ => rfl, hM.2.2.2.2.2.1, hM.2.2.2.2.2.2⟩⟩
    · rw [c_eaterAt_out hC.2.1.2.2.1.2 hx, bI_some, rcs_none]
    · unfold f9_tell
      rw [m_isEa_out hM.1.2.1.1 hm hx, bI_some, if_pos rfl])
theorem m_polish {τ : Sto} {A : AS} {e k : Nat} (hw : wfA A) (hM : RM τ A) (he : e < aM A) (hk : A.1 2 e = k) (hk3 : k < 3) : f9_polish (iN e) τ = if k = 2 then some (30, sI τ 9 0 14 (31 * A.2 0 0 + 5)) else some (iN e, sI τ 9 0 14 (31 * A.2 0 0 + 4)) := by
  have hm := wf_m hw
  have ix2 : Ix (iN e) 2 := (iN_Ix (by omega)).mpr (by omega)
  have e26 : gI τ 26 0 (iN e).toNatClampNeg = iN k := by rw [iN_nat (by omega), (hM.2.1 e he).1, hk]
  have e26' : ∀ x, gI (sI τ 9 0 14 x) 26 0 (iN e).toNatClampNeg = iN k := fun x => by rw [gI_sI, if_neg (by omega)]; exact e26
  have k2 : iN k = 2 ↔ k = 2 := iN_inj (b := 2) (by omega) (by omega)
  unfold f9_polish f9_begin
  rw [m_isEa_in hM.1.2.1.1 hm he, bI_some, if_neg (by decide), if_pos ix2, e26, bV_some, bV_some, if_pos ix2, if_pos ix2, e26', e26', hM.2.2.2.2.2.1]
  by_cases h2 : k = 2
  · rw [if_pos (k2.mpr h2), if_pos (k2.mpr h2), if_pos h2]
  · rw [if_neg (mt k2.mp h2), if_neg (mt k2.mp h2), if_neg h2]
theorem both_polish (a1 : Int32) : Both (f8_polish a1) (f9_polish a1) := Both.tf (fun σ A t hw hC hM => by
  have hm := wf_m hw
  have x1 := hC.2.1.1
  have tr := hC.2.2.2.2.2.2.2.2.1.1
  have fa := hC.2.2.2.2.2.2.2.2.1.2
  unfold f8_polish
  rw [x1, dr_some]
  rcases iN_or a1 (aM A) (by omega) with ⟨e, he, rfl⟩ | hx
  · obtain ⟨ix, g1, g2, g3⟩ := c_eater hw hC he
    obtain ⟨k3, s1, s4⟩ := kd3 hw he
    rw [g1, bI_some, rcs_some]
    rcases k3 with k3 | k3 | k3
    · have gk : gI σ 0 ix 0 = iN e := by rw [k3] at g2; exact g2
      refine ⟨iN e, sI σ 7 0 0 (31 * A.2 0 0 + 4), sI (sI σ 7 0 0 (31 * A.2 0 0 + 4)) 9 0 14 (31 * A.2 0 0 + 4), 31 * A.2 0 0 + 4, A.2 0 1, ?_, Agr0_7, FC_7, ⟨by rw [gI_sI, if_pos (by decide)], by rw [gI_sI, if_neg (by decide)]; exact fa⟩, fun hM => ⟨?_, FMm_9, T24_9 (by decide), by rw [gI_sI, if_pos (by decide)], by rw [gI_sI, if_neg (by decide)]; exact hM.2.2.2.2.2.2⟩⟩
      · rw [k3]
        simp only [kk, if_true, fk, f0_polished_0, f7_leave, bV_some, bI_some, tr, gI_sI, Nat.reduceEqDiff, false_and, if_false, gk]
      · rw [m_polish hw hM he k3 (by decide), if_neg (by decide)]
    · have gk : gI σ 1 ix 0 = iN e := by rw [k3] at g2; exact g2
      refine ⟨iN e, sI σ 7 0 0 (31 * A.2 0 0 + 4), sI (sI σ 7 0 0 (31 * A.2 0 0 + 4)) 9 0 14 (31 * A.2 0 0 + 4), 31 * A.2 0 0 + 4, A.2 0 1, ?_, Agr0_7, FC_7, ⟨by rw [gI_sI, if_pos (by decide)], by rw [gI_sI, if_neg (by decide)]; exact fa⟩, fun hM => ⟨?_, FMm_9, T24_9 (by decide), by rw [gI_sI, if_pos (by decide)], by rw [gI_sI, if_neg (by decide)]; exact hM.2.2.2.2.2.2⟩⟩
      · rw [k3]
        simp only [kk, if_true, fk, f0_polished_1, f7_leave, bV_some, bI_some, tr, gI_sI, Nat.reduceEqDiff, false_and, if_false, gk, Nat.one_ne_zero]
      · rw [m_polish hw hM he k3 (by decide), if_neg (by decide)]
    · refine ⟨30, sI σ 7 0 0 (31 * A.2 0 0 + 5), sI (sI σ 7 0 0 (31 * A.2 0 0 + 5)) 9 0 14 (31 * A.2 0 0 + 5), 31 * A.2 0 0 + 5, A.2 0 1, ?_, Agr0_7, FC_7, ⟨by rw [gI_sI, if_pos (by decide)], by rw [gI_sI, if_neg (by decide)]; exact fa⟩, fun hM => ⟨?_, FMm_9, T24_9 (by decide), by rw [gI_sI, if_pos (by decide)], by rw [gI_sI, if_neg (by decide)]; exact hM.2.2.2.2.2.2⟩⟩
      · rw [k3]
        simp only [kk, if_true, fk, f5_polished_5, f7_leave, bV_some, bI_some, tr, Nat.reduceEqDiff, if_false]
      · rw [m_polish hw hM he k3 (by decide), if_pos rfl]
  · refine ⟨-1, σ, σ, A.2 0 0, A.2 0 1, ?_, Agr0.rfl, FC.rfl, ⟨tr, fa⟩, fun hM => ⟨?_, FMm.rfl, fun _ _ _ _ => rfl, hM.2.2.2.2.2.1, hM.2.2.2.2.2.2⟩⟩
    · rw [c_eaterAt_out hC.2.1.2.2.1.2 hx, bI_some, rcs_none]
    · unfold f9_polish
      rw [m_isEa_out hM.1.2.1.1 hm hx, bI_some, if_pos rfl])
