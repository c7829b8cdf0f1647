/-! the reference reads an eater -/
def eT9 (e : Int32) (kv : Int32) (s : Sto) : Option (Int32 × Sto) := (if Ix e 2 then (if Ix e 2 then (if 0 ≤ (gI (sI s 37 0 e.toNatClampNeg kv) 37 0 e.toNatClampNeg) then (bI (f9_take 49 52 (sI (sI s 37 0 e.toNatClampNeg kv) 9 0 20 ((gI (sI s 37 0 e.toNatClampNeg kv) 9 0 20) + 1))) (fun v31 s32 => (if Ix e 2 then (if Ix e 2 then (if (gI (sI (sI s32 38 0 e.toNatClampNeg (v31 + 1)) 9 0 27 ((gI (sI s32 38 0 e.toNatClampNeg (v31 + 1)) 9 0 27) + 1)) 38 0 e.toNatClampNeg) ≤ 0 then (some (0, (sI (sI s32 38 0 e.toNatClampNeg (v31 + 1)) 9 0 27 ((gI (sI s32 38 0 e.toNatClampNeg (v31 + 1)) 9 0 27) + 1)))) else (some (1, (sI (sI s32 38 0 e.toNatClampNeg (v31 + 1)) 9 0 27 ((gI (sI s32 38 0 e.toNatClampNeg (v31 + 1)) 9 0 27) + 1))))) else none) else none))) else (some (0, (sI s 37 0 e.toNatClampNeg kv)))) else none) else none)
theorem eater_eq (σ : Sto) : f9_takeEater σ = (bI (f9_take 59 59 σ) (fun v21 s22 => (if 0 ≤ v21 then (if (gI s22 9 0 20) = (gI s22 9 0 21) then eT9 (gI σ 9 0 27) (-1) s22 else (if Ix (gI s22 9 0 20) 240 then (if (gI s22 33 0 (gI s22 9 0 20).toNatClampNeg) = 102 then eT9 (gI σ 9 0 27) 0 s22 else (if (gI s22 33 0 (gI s22 9 0 20).toNatClampNeg) = 107 then eT9 (gI σ 9 0 27) 1 s22 else (if (gI s22 33 0 (gI s22 9 0 20).toNatClampNeg) = 115 then eT9 (gI σ 9 0 27) 2 s22 else eT9 (gI σ 9 0 27) (-1) s22))) else none)) else (some (0, s22))))) := rfl
theorem eT_neg {m : Nat} {s : Sto} (hm : m < 2) : eT9 (iN m) (-1) s = some (0, sI s 37 0 m (-1)) := by
  have ix : Ix (iN m) 2 := (iN_Ix (by omega)).mpr hm
  have e1 : gI (sI s 37 0 (iN m).toNatClampNeg (-1)) 37 0 (iN m).toNatClampNeg = -1 := by rw [gI_sI, if_pos ⟨rfl, rfl, rfl⟩]
  unfold eT9
  rw [if_pos ix, if_pos ix, e1, if_neg (by decide), iN_nat (by omega)]
theorem MP_take {σ : Sto} {T : Nat → Int32} {o n x : Nat} {S : PS} (hM : MP σ T o n x S) : MP (sI σ 9 0 20 (iN (o + x + 1))) T o n (x + 1) S := by
  obtain ⟨⟨p1, p2, p3, p4⟩, p5, p6, p7, p8, p9⟩ := hM
  refine ⟨⟨by rw [gI_sI, if_pos ⟨rfl, rfl, rfl⟩]; rfl, ?_, ?_, ?_⟩, fun y hy => ?_, fun j hj => ?_, fun j hj => ?_, fun e he => ?_, fun e he => ?_⟩
  · rw [gI_sI, if_neg (by omega)]; exact p2
  · rw [gI_sI, if_neg (by omega)]; exact p3
  · rw [gI_sI, if_neg (by omega)]; exact p4
  · rw [gI_sI, if_neg (by omega)]; exact p5 y hy
  · rw [gI_sI, if_neg (by omega)]; exact p6 j hj
  · rw [gI_sI, if_neg (by omega)]; exact p7 j hj
  · rw [gI_sI, if_neg (by omega)]; exact p8 e he
  · rw [gI_sI, if_neg (by omega)]; exact p9 e he
/-- behind a letter: its strength -/
theorem eT_pos {σ : Sto} {T : Nat → Int32} {o n x k : Nat} {S : PS} (ho : o + n ≤ 240) (hx : x < n) (hm : pM S < 2) (hL : pM S = pL S) (hk : k < 3) (hM : MP σ T o n x S) : ((¬ (x + 1 < n ∧ ∃ d, dig 1 4 (T (x + 1)) = some d)) ∧ ∃ σ', eT9 (iN (pM S)) (iN k) σ = some (0, σ') ∧ gI σ' 9 0 20 = iN (o + x + 1) ∧ FU σ σ') ∨ (x + 1 < n ∧ ∃ d, dig 1 4 (T (x + 1)) = some d ∧ ∃ σ', eT9 (iN (pM S)) (iN k) σ = some (1, σ') ∧ MP σ' T o n (x + 2) (up (up S.1 5 (pM S + 1)) 4 (pM S + 1), S.2.1, up S.2.2.1 (pM S) k, up S.2.2.2.1 (pM S) d, S.2.2.2.2) ∧ FU σ σ') := by
  obtain ⟨⟨p1, p2, p3, p4⟩, p5, p6, p7, p8, p9⟩ := hM
  have ix : Ix (iN (pM S)) 2 := (iN_Ix (by omega)).mpr hm
  have em : (iN (pM S)).toNatClampNeg = pM S := iN_nat (by omega)
  have ge : 0 ≤ iN k := (iN_le (a := 0) (by omega) (by omega)).mpr (by omega)
  generalize hs2 : sI (sI σ 37 0 (pM S) (iN k)) 9 0 20 (iN (o + x + 1)) = s2
  have f2 : FU σ s2 := by rw [← hs2]; exact (FU_3 (by decide)).trans (FU_9 (by decide))
  have a20 : gI s2 9 0 20 = iN (o + (x + 1)) := by rw [← hs2, gI_sI, if_pos ⟨rfl, rfl, rfl⟩]; rfl
  have a21 : gI s2 9 0 21 = iN (o + n) := by rw [f2.2 _ _ _ (by omega) (by omega)]; exact p2
  have aT : ∀ y, y < n → gI s2 33 0 (o + y) = T y := fun y hy => by rw [f2.2 _ _ _ (by omega) (by omega)]; exact p5 y hy
  have tk := m_take (a := 49) (b := 52) (by decide) (by decide) ho (show x + 1 ≤ n by omega) a20 a21 aT
  have E : eT9 (iN (pM S)) (iN k) σ = (bI (f9_take 49 52 s2) (fun v31 s32 => (if (gI (sI (sI s32 38 0 (pM S) (v31 + 1)) 9 0 27 ((gI (sI s32 38 0 (pM S) (v31 + 1)) 9 0 27) + 1)) 38 0 (pM S)) ≤ 0 then (some (0, (sI (sI s32 38 0 (pM S) (v31 + 1)) 9 0 27 ((gI (sI s32 38 0 (pM S) (v31 + 1)) 9 0 27) + 1)))) else (some (1, (sI (sI s32 38 0 (pM S) (v31 + 1)) 9 0 27 ((gI (sI s32 38 0 (pM S) (v31 + 1)) 9 0 27) + 1))))))) := by
    have e1 : gI (sI σ 37 0 (iN (pM S)).toNatClampNeg (iN k)) 37 0 (iN (pM S)).toNatClampNeg = iN k := by rw [gI_sI, if_pos ⟨rfl, rfl, rfl⟩]
    have e2 : gI (sI σ 37 0 (iN (pM S)).toNatClampNeg (iN k)) 9 0 20 = iN (o + x) := by rw [gI_sI, if_neg (by omega)]; exact p1
    unfold eT9
    rw [if_pos ix, if_pos ix, e1, if_pos ge, e2, iN_add1]
    simp only [if_pos ix, em, hs2]
  have e27 : ∀ τ v, gI τ 9 0 27 = iN (pM S) → gI (sI τ 38 0 (pM S) v) 9 0 27 = iN (pM S) := fun τ v h => by rw [gI_sI, if_neg (by omega)]; exact h
  have e38 : ∀ (τ : Sto) (v w : Int32), gI (sI (sI τ 38 0 (pM S) v) 9 0 27 w) 38 0 (pM S) = v := fun τ v w => by rw [gI_sI, if_neg (by omega), gI_sI, if_pos ⟨rfl, rfl, rfl⟩]
  have s27 : gI s2 9 0 27 = iN (pM S) := by rw [← hs2, gI_sI, if_neg (by omega), gI_sI, if_neg (by omega)]; exact p4
  by_cases g : x + 1 < n ∧ ((49 : Nat) : Int) ≤ (T (x + 1)).toInt ∧ (T (x + 1)).toInt ≤ ((52 : Nat) : Int)
  · rw [if_pos g] at tk
    have ed : dig 1 4 (T (x + 1)) = some ((T (x + 1)).toInt.toNat - 48) := by
      unfold dig
      rw [if_pos ⟨by have := g.2.1; omega, by have := g.2.2; omega⟩]
    obtain ⟨d1, d2, d3⟩ := dig_some ed
    generalize (T (x + 1)).toInt.toNat - 48 = d at ed d1 d2 d3
    have ev : (T (x + 1) - iN 49) + 1 = iN d := by
      rw [d1, show iN (48 + d) - iN 49 = iN (d - 1) from by rw [iN_sub (by omega), show 48 + d - 49 = d - 1 by omega], iN_add1, show d - 1 + 1 = d by omega]
    have tk : f9_take 49 52 s2 = some (T (x + 1) - iN 49, sI s2 9 0 20 (iN (o + (x + 1) + 1))) := tk
    have s27' : gI (sI s2 9 0 20 (iN (o + (x + 1) + 1))) 9 0 27 = iN (pM S) := by rw [gI_sI, if_neg (by omega)]; exact s27
    refine Or.inr ⟨g.1, d, ed, sI (sI (sI s2 9 0 20 (iN (o + (x + 1) + 1))) 38 0 (pM S) (iN d)) 9 0 27 (iN (pM S + 1)), ?_, ?_, f2.trans (((FU_9 (by decide)).trans (FU_3 (by decide))).trans (FU_9 (by decide)))⟩
    · rw [E, tk, bI_some, ev, e38, if_neg (show ¬ iN d ≤ 0 from by rw [show (0 : Int32) = iN 0 from rfl, iN_le (by omega) (by omega)]; omega), e27 _ _ s27', iN_add1]
    · have fr : ∀ a b, ¬ (a = 9 ∧ (b = 20 ∨ b = 27)) → ¬ (a = 37 ∨ a = 38) → gI (sI (sI (sI s2 9 0 20 (iN (o + (x + 1) + 1))) 38 0 (pM S) (iN d)) 9 0 27 (iN (pM S + 1))) a 0 b = gI σ a 0 b := fun a b h1 h2 => by rw [gI_sI, if_neg (by omega), gI_sI, if_neg (by omega), gI_sI, if_neg (by omega), ← hs2, gI_sI, if_neg (by omega), gI_sI, if_neg (by omega)]
      refine ⟨⟨?_, ?_, ?_, ?_⟩, fun y hy => ?_, fun j hj => ?_, fun j hj => ?_, fun e he => ?_, fun e he => ?_⟩
      · rw [gI_sI, if_neg (by omega), gI_sI, if_neg (by omega), gI_sI, if_pos ⟨rfl, rfl, rfl⟩, show o + (x + 1) + 1 = o + (x + 2) by omega]
      · rw [fr _ _ (by omega) (by omega)]; exact p2
      · rw [fr _ _ (by omega) (by omega)]; exact p3
      · rw [gI_sI, if_pos ⟨rfl, rfl, rfl⟩]; rfl
      · rw [fr _ _ (by omega) (by omega)]; exact p5 y hy
      · rw [fr _ _ (by omega) (by omega)]; exact p6 j hj
      · rw [fr _ _ (by omega) (by omega)]; exact p7 j hj
      · have he : e < pM S + 1 := he
        show _ = iN (up S.2.2.1 (pM S) k e)
        rw [gI_sI, if_neg (by omega), gI_sI, if_neg (by omega), gI_sI, if_neg (by omega), ← hs2, gI_sI, if_neg (by omega), gI_sI]
        by_cases ee : e = pM S
        · rw [if_pos ⟨rfl, rfl, ee⟩, ee, up_eq]
        · rw [if_neg (by omega), up_ne ee]; exact p8 e (by omega)
      · have he : e < pM S + 1 := he
        show _ = iN (up S.2.2.2.1 (pM S) d e)
        rw [gI_sI, if_neg (by omega), gI_sI]
        by_cases ee : e = pM S
        · rw [if_pos ⟨rfl, rfl, ee⟩, ee, up_eq]
        · rw [if_neg (by omega), up_ne ee, gI_sI, if_neg (by omega), ← hs2, gI_sI, if_neg (by omega), gI_sI, if_neg (by omega)]; exact p9 e (by omega)
  · rw [if_neg g] at tk
    have tk : f9_take 49 52 s2 = some (-1, s2) := tk
    refine Or.inl ⟨fun q => ?_, sI (sI s2 38 0 (pM S) 0) 9 0 27 (iN (pM S + 1)), ?_, ?_, f2.trans ((FU_3 (by decide)).trans (FU_9 (by decide)))⟩
    · obtain ⟨q1, d, q2⟩ := q
      obtain ⟨d1, d2, d3⟩ := dig_some q2
      refine g ⟨q1, ?_, ?_⟩
      · rw [d1, iN_toInt (by omega)]; omega
      · rw [d1, iN_toInt (by omega)]; omega
    · rw [E, tk, bI_some, show (-1 : Int32) + 1 = 0 by decide, e38, if_pos (by decide), e27 _ _ s27, iN_add1]
    · rw [gI_sI, if_neg (by omega), gI_sI, if_neg (by omega)]; exact a20
theorem m_eater {σ : Sto} {T : Nat → Int32} {o n x : Nat} {S : PS} (ho : o + n ≤ 240) (hx : x ≤ n) (h3 : 3 ≤ x) (hI : Iv S x) (hr : pR S ≤ x - 3) (hz : (x - 3 - pR S) % 3 = 0) (hm : pM S < 2) (hne : x = n → pM S = 0) (hM : MP σ T o n x S) : (∃ σ' y, f9_takeEater σ = some (0, σ') ∧ y ≤ n ∧ gI σ' 9 0 20 = iN (o + y) ∧ FU σ σ' ∧ badF T n x S y) ∨ (∃ S' σ', f9_takeEater σ = some (1, σ') ∧ x + 3 ≤ n ∧ MP σ' T o n (x + 3) S' ∧ FU σ σ' ∧ Iv S' (x + 3) ∧ (pH S' = pH S ∧ pW S' = pW S ∧ pM S' = pM S + 1) ∧ itP T (n - x) x S = itP T (n - (x + 3)) (x + 3) S') := by
  have i5 := hI.2.2.2.2.1 h3 hr
  have hL : pM S = pL S := by
    have := i5.2.2
    rw [if_neg (by omega), Nat.add_zero] at this
    exact this.symm
  have em3 : 3 * pM S = x - 3 - pR S := by have := i5.2.1; omega
  have st0 : ∀ c, stp S x c = if c = 59 then some S else none := fun c => by
    rw [stp_et h3 hr]
    unfold etS
    rw [if_pos hm, if_pos hz]
  have tk := m_take (a := 59) (b := 59) (by decide) (by decide) ho hx hM.1.1 hM.1.2.1 hM.2.1
  by_cases g : x < n ∧ T x = 59
  · have g' : x < n ∧ ((59 : Nat) : Int) ≤ (T x).toInt ∧ (T x).toInt ≤ ((59 : Nat) : Int) := ⟨g.1, (T_eq (by decide)).mpr g.2⟩
    rw [if_pos g', g.2] at tk
    have tk : f9_take 59 59 σ = some (0, sI σ 9 0 20 (iN (o + x + 1))) := tk
    have es0 : stp S x (T x) = some S := by rw [st0, if_pos g.2]
    have go0 := itP_go g.1 es0
    have hI1 := stp_Iv hI es0
    have hM1 := MP_take hM
    have fu1 : FU σ (sI σ 9 0 20 (iN (o + x + 1))) := FU_9 (by decide)
    generalize sI σ 9 0 20 (iN (o + x + 1)) = s1 at tk hM1 fu1
    have E : f9_takeEater σ = (if (gI s1 9 0 20) = (gI s1 9 0 21) then eT9 (iN (pM S)) (-1) s1 else (if Ix (gI s1 9 0 20) 240 then (if (gI s1 33 0 (gI s1 9 0 20).toNatClampNeg) = 102 then eT9 (iN (pM S)) 0 s1 else (if (gI s1 33 0 (gI s1 9 0 20).toNatClampNeg) = 107 then eT9 (iN (pM S)) 1 s1 else (if (gI s1 33 0 (gI s1 9 0 20).toNatClampNeg) = 115 then eT9 (iN (pM S)) 2 s1 else eT9 (iN (pM S)) (-1) s1))) else none)) := by
      rw [eater_eq, tk, bI_some, if_pos (by decide), hM.1.2.2.2]
    have st1 : ∀ c, stp S (x + 1) c = (ltk c).map (fun k => (up S.1 5 (pM S + 1), S.2.1, up S.2.2.1 (pM S) k, S.2.2.2.1, S.2.2.2.2)) := fun c => by
      rw [stp_et (by omega) (by omega)]
      unfold etS
      rw [if_pos hm, if_neg (by omega), if_pos (by omega)]
    have bad1 : (x + 1 < n → ltk (T (x + 1)) = none) → f9_takeEater σ = some (0, sI s1 37 0 (pM S) (-1)) → ∃ σ' y, f9_takeEater σ = some (0, σ') ∧ y ≤ n ∧ gI σ' 9 0 20 = iN (o + y) ∧ FU σ σ' ∧ badF T n x S y := by
      intro h1 h2
      refine ⟨_, x + 1, h2, by omega, ?_, fu1.trans (FU_3 (by decide)), ?_⟩
      · rw [gI_sI, if_neg (by omega)]; exact hM1.1.1
      · have := badF_stop (T := T) (S := S) (show x + 1 ≤ n by omega) (fun hlt => by rw [st1, h1 hlt]; rfl) (fun en q => by have := q.2; omega)
        unfold badF at this ⊢
        rw [go0]; exact this
    rw [hM1.1.1, hM1.1.2.1] at E
    by_cases e1 : x + 1 = n
    · rw [if_pos (by rw [e1])] at E
      exact Or.inl (bad1 (fun h => by omega) (E.trans (eT_neg hm)))
    · have ix : Ix (iN (o + (x + 1))) 240 := (iN_Ix (by omega)).mpr (by omega)
      have e33 : gI s1 33 0 (iN (o + (x + 1))).toNatClampNeg = T (x + 1) := by rw [iN_nat (by omega), hM1.2.1 (x + 1) (by omega)]
      rw [if_neg (by rw [iN_inj (by omega) (by omega)]; omega), if_pos ix, e33] at E
      have yes : ∀ k, k < 3 → ltk (T (x + 1)) = some k → f9_takeEater σ = eT9 (iN (pM S)) (iN k) s1 → (∃ σ' y, f9_takeEater σ = some (0, σ') ∧ y ≤ n ∧ gI σ' 9 0 20 = iN (o + y) ∧ FU σ σ' ∧ badF T n x S y) ∨ (∃ S' σ', f9_takeEater σ = some (1, σ') ∧ x + 3 ≤ n ∧ MP σ' T o n (x + 3) S' ∧ FU σ σ' ∧ Iv S' (x + 3) ∧ (pH S' = pH S ∧ pW S' = pW S ∧ pM S' = pM S + 1) ∧ itP T (n - x) x S = itP T (n - (x + 3)) (x + 3) S') := by
        intro k hk ek hE
        have es1 : stp S (x + 1) (T (x + 1)) = some (up S.1 5 (pM S + 1), S.2.1, up S.2.2.1 (pM S) k, S.2.2.2.1, S.2.2.2.2) := by rw [st1, ek]; rfl
        have go1 := itP_go (show x + 1 < n by omega) es1
        have hI2 := stp_Iv hI1 es1
        have st2 : ∀ c, stp (up S.1 5 (pM S + 1), S.2.1, up S.2.2.1 (pM S) k, S.2.2.2.1, S.2.2.2.2) (x + 1 + 1) c = (dig 1 4 c).map (fun s => (up (up S.1 5 (pM S + 1)) 4 (pM S + 1), S.2.1, up S.2.2.1 (pM S) k, up S.2.2.2.1 (pM S) s, S.2.2.2.2)) := fun c => by
          rw [stp_et (S := (up S.1 5 (pM S + 1), S.2.1, up S.2.2.1 (pM S) k, S.2.2.2.1, S.2.2.2.2)) (by omega) (show pR S ≤ x + 1 + 1 - 3 by omega)]
          show etS _ (x + 1 + 1 - 3 - pR S) c = _
          unfold etS
          rw [if_pos (show pM (up S.1 5 (pM S + 1), S.2.1, up S.2.2.1 (pM S) k, S.2.2.2.1, S.2.2.2.2) < 2 from hm), if_neg (by omega), if_neg (by omega)]
          rfl
        rcases eT_pos (k := k) ho (show x + 1 < n by omega) hm hL hk hM1 with ⟨q1, s3, q2, q3, q4⟩ | ⟨q1, d, q2, s3, q3, q4, q5⟩
        · refine Or.inl ⟨s3, x + 2, hE.trans q2, by omega, ?_, fu1.trans q4, ?_⟩
          · rw [q3, show o + (x + 1) + 1 = o + (x + 2) by omega]
          · have := badF_stop (T := T) (S := (up S.1 5 (pM S + 1), S.2.1, up S.2.2.1 (pM S) k, S.2.2.2.1, S.2.2.2.2)) (show x + 1 + 1 ≤ n by omega) (fun hlt => by
              rw [st2]
              cases ed : dig 1 4 (T (x + 1 + 1)) with
              | none => rfl
              | some d => exact absurd ⟨hlt, d, ed⟩ q1) (fun en q => by
              have q2 : n = 3 + pR S + 3 * pM S := q.2
              omega)
            unfold badF at this ⊢
            rw [go0, go1]; exact this
        · have es2 := (st2 (T (x + 1 + 1))).trans (congrArg (Option.map (fun s => (up (up S.1 5 (pM S + 1)) 4 (pM S + 1), S.2.1, up S.2.2.1 (pM S) k, up S.2.2.2.1 (pM S) s, S.2.2.2.2))) q2)
          have go2 := itP_go (show x + 1 + 1 < n by omega) es2
          refine Or.inr ⟨_, s3, hE.trans q3, by omega, ?_, fu1.trans q5, stp_Iv hI2 es2, ⟨rfl, rfl, rfl⟩, by rw [go0, go1, go2]⟩
          rw [show x + 3 = x + 1 + 2 by omega]
          exact q4
      by_cases c1 : T (x + 1) = 102
      · rw [if_pos c1] at E
        exact yes 0 (by decide) (by unfold ltk; rw [if_pos c1]) E
      rw [if_neg c1] at E
      by_cases c2 : T (x + 1) = 107
      · rw [if_pos c2] at E
        exact yes 1 (by decide) (by unfold ltk; rw [if_neg c1, if_pos c2]) E
      rw [if_neg c2] at E
      by_cases c3 : T (x + 1) = 115
      · rw [if_pos c3] at E
        exact yes 2 (by decide) (by unfold ltk; rw [if_neg c1, if_neg c2, if_pos c3]) E
      rw [if_neg c3] at E
      exact Or.inl (bad1 (fun _ => by unfold ltk; rw [if_neg c1, if_neg c2, if_neg c3]) (E.trans (eT_neg hm)))
  · rw [if_neg (fun z => g ⟨z.1, (T_eq (by decide)).mp z.2⟩)] at tk
    have tk : f9_take 59 59 σ = some (-1, σ) := tk
    refine Or.inl ⟨σ, x, ?_, hx, hM.1.1, FU.rfl, badF_stop hx (fun hlt => ?_) (fun en q => ?_)⟩
    · rw [eater_eq, tk, bI_some, if_neg (by decide)]
    · rw [st0, if_neg (fun z => g ⟨hlt, z⟩)]
    · have := hne en
      have := q.1
      omega
