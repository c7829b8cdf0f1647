/-! the reference reads a text, all of it -/
theorem MP.s9 {σ : Sto} {T : Nat → Int32} {o n x j : Nat} {S : PS} {v : Int32} (hM : MP σ T o n x S) (hj : j = 22 ∨ j = 23) : MP (sI σ 9 0 j v) T o n x S := by
  obtain ⟨⟨p1, p2, p3, p4⟩, p5, p6, p7, p8, p9⟩ := hM
  refine ⟨⟨?_, ?_, ?_, ?_⟩, fun y hy => ?_, fun j hj => ?_, fun j hj => ?_, fun e he => ?_, fun e he => ?_⟩
  · rw [gI_sI, if_neg (by omega)]; exact p1
  · rw [gI_sI, if_neg (by omega)]; exact p2
  · rw [gI_sI, if_neg (by omega)]; exact p3
  · rw [gI_sI, if_neg (by omega)]; exact p4
  · rw [gI_sI, if_neg (by omega)]; exact p5 y hy
  · rw [gI_sI, if_neg (by omega)]; exact p6 j hj
  · rw [gI_sI, if_neg (by omega)]; exact p7 j hj
  · rw [gI_sI, if_neg (by omega)]; exact p8 e he
  · rw [gI_sI, if_neg (by omega)]; exact p9 e he
theorem dig_T {c : Int32} {lo hi : Nat} (h : ((48 + lo : Nat) : Int) ≤ c.toInt ∧ c.toInt ≤ ((48 + hi : Nat) : Int)) : ∃ d, dig lo hi c = some d := ⟨c.toInt.toNat - 48, by
  unfold dig
  rw [if_pos ⟨by omega, by omega⟩]⟩
theorem dig_F {c : Int32} {lo hi : Nat} (h : ¬ (((48 + lo : Nat) : Int) ≤ c.toInt ∧ c.toInt ≤ ((48 + hi : Nat) : Int))) : dig lo hi c = none := by
  unfold dig
  rw [if_neg (fun q => h ⟨by omega, by omega⟩)]
theorem m_text {σ : Sto} {T : Nat → Int32} {o n : Nat} (ho : o + n ≤ 240) (hn : n ≤ 60) (h20 : gI σ 9 0 20 = iN o) (h21 : gI σ 9 0 21 = iN (o + n)) (hT : ∀ y, y < n → gI σ 33 0 (o + y) = T y) : (∃ σ' y, f9_takeText σ = some (0, σ') ∧ y ≤ n ∧ gI σ' 9 0 20 = iN (o + y) ∧ FT σ σ' ∧ badT T n y) ∨ (∃ S σ', f9_takeText σ = some (1, σ') ∧ goodT T n S ∧ MP σ' T o n n S ∧ (gI σ' 9 0 22 = iN (pH S) ∧ gI σ' 9 0 23 = iN (pW S)) ∧ FT σ σ') := by
  unfold f9_takeText
  generalize hs0 : sI (sI σ 9 0 24 0) 9 0 27 0 = s0
  have f0 : FT σ s0 := by rw [← hs0]; exact (FT_9 (by decide)).trans (FT_9 (by decide))
  have M0 : MP s0 T o n 0 psE := by
    rw [← hs0]
    refine ⟨⟨?_, ?_, ?_, ?_⟩, fun y hy => ?_, fun j hj => absurd hj (Nat.not_lt_zero _), fun j hj => absurd hj (Nat.not_lt_zero _), fun j hj => absurd hj (Nat.not_lt_zero _), fun j hj => absurd hj (Nat.not_lt_zero _)⟩
    · rw [gI_sI, if_neg (by omega), gI_sI, if_neg (by omega)]; exact h20
    · rw [gI_sI, if_neg (by omega), gI_sI, if_neg (by omega)]; exact h21
    · rw [gI_sI, if_neg (by omega), gI_sI, if_pos ⟨rfl, rfl, rfl⟩]; rfl
    · rw [gI_sI, if_pos ⟨rfl, rfl, rfl⟩]; rfl
    · rw [gI_sI, if_neg (by omega), gI_sI, if_neg (by omega)]; exact hT y hy
  have t0 := m_take (a := 112) (b := 112) (by decide) (by decide) ho (Nat.zero_le n) M0.1.1 M0.1.2.1 M0.2.1
  have bT : ∀ x (S : PS) y, itP T (n - 0) 0 psE = itP T (n - x) x S → badF T n x S y → badT T n y := fun x S y h hb => by
    unfold badF at hb
    rw [← h] at hb
    exact hb
  by_cases g0 : 0 < n ∧ T 0 = 112
  · have g0' : 0 < n ∧ ((112 : Nat) : Int) ≤ (T 0).toInt ∧ (T 0).toInt ≤ ((112 : Nat) : Int) := ⟨g0.1, (T_eq (by decide)).mpr g0.2⟩
    rw [if_pos g0', g0.2] at t0
    have t0 : f9_take 112 112 s0 = some (0, sI s0 9 0 20 (iN (o + 0 + 1))) := t0
    have e0 : stp psE 0 (T 0) = some psE := by unfold stp; rw [if_pos rfl, if_pos g0.2]
    have i0 := itP_go (n := n) g0.1 e0
    have I1 := stp_Iv Iv_0 e0
    have M1 := MP_take M0
    have f1 : FT σ (sI s0 9 0 20 (iN (o + 0 + 1))) := f0.trans (FT_9 (by decide))
    generalize sI s0 9 0 20 (iN (o + 0 + 1)) = s1 at t0 M1 f1
    rw [t0, bI_some, if_pos (by decide)]
    have t1 := m_take (a := 50) (b := 53) (by decide) (by decide) ho (show 0 + 1 ≤ n by omega) M1.1.1 M1.1.2.1 M1.2.1
    have st1 : ∀ c, stp psE (0 + 1) c = (dig 2 5 c).map (fun h => (up psE.1 0 h, psE.2)) := fun c => by
      unfold stp
      rw [if_neg (by omega), if_pos (by omega)]
    by_cases g1 : 0 + 1 < n ∧ ((50 : Nat) : Int) ≤ (T (0 + 1)).toInt ∧ (T (0 + 1)).toInt ≤ ((53 : Nat) : Int)
    · rw [if_pos g1] at t1
      have t1 : f9_take 50 53 s1 = some (T (0 + 1) - iN 50, sI s1 9 0 20 (iN (o + (0 + 1) + 1))) := t1
      obtain ⟨h, eh⟩ := dig_T (lo := 2) (hi := 5) g1.2
      obtain ⟨d1, d2, d3⟩ := dig_some eh
      have ev : (T (0 + 1) - iN 50) + 2 = iN h := by
        rw [d1, show iN (48 + h) - iN 50 = iN (h - 2) from by rw [iN_sub (by omega), show 48 + h - 50 = h - 2 by omega], show (2 : Int32) = iN 2 from rfl, iN_add, show h - 2 + 2 = h by omega]
      have e1 : stp psE (0 + 1) (T (0 + 1)) = some (up psE.1 0 h, psE.2) := by rw [st1, eh]; rfl
      have i1 := itP_go g1.1 e1
      have I2 := stp_Iv I1 e1
      have M2 : MP (sI (sI s1 9 0 20 (iN (o + (0 + 1) + 1))) 9 0 22 (iN h)) T o n (0 + 1 + 1) (up psE.1 0 h, psE.2) := (MP_take M1).s9 (Or.inl rfl)
      have f2 : FT σ (sI (sI s1 9 0 20 (iN (o + (0 + 1) + 1))) 9 0 22 (iN h)) := f1.trans ((FT_9 (by decide)).trans (FT_9 (by decide)))
      have w22 : gI (sI (sI s1 9 0 20 (iN (o + (0 + 1) + 1))) 9 0 22 (iN h)) 9 0 22 = iN h := by rw [gI_sI, if_pos ⟨rfl, rfl, rfl⟩]
      rw [t1, bI_some, ev]
      generalize sI (sI s1 9 0 20 (iN (o + (0 + 1) + 1))) 9 0 22 (iN h) = s2 at M2 f2 w22
      rw [w22, if_pos (show 2 ≤ iN h from (iN_le (a := 2) (by omega) (by omega)).mpr d2)]
      have t2 := m_take (a := 50) (b := 54) (by decide) (by decide) ho (show 0 + 1 + 1 ≤ n by omega) M2.1.1 M2.1.2.1 M2.2.1
      have st2 : ∀ c, stp (up psE.1 0 h, psE.2) (0 + 1 + 1) c = (dig 2 6 c).map (fun w => (up (up psE.1 0 h) 1 w, psE.2)) := fun c => by
        unfold stp
        rw [if_neg (by omega), if_neg (by omega), if_pos (by omega)]
      by_cases g2 : 0 + 1 + 1 < n ∧ ((50 : Nat) : Int) ≤ (T (0 + 1 + 1)).toInt ∧ (T (0 + 1 + 1)).toInt ≤ ((54 : Nat) : Int)
      · rw [if_pos g2] at t2
        have t2 : f9_take 50 54 s2 = some (T (0 + 1 + 1) - iN 50, sI s2 9 0 20 (iN (o + (0 + 1 + 1) + 1))) := t2
        obtain ⟨w, ew⟩ := dig_T (lo := 2) (hi := 6) g2.2
        obtain ⟨c1, c2, c3⟩ := dig_some ew
        have ev2 : (T (0 + 1 + 1) - iN 50) + 2 = iN w := by
          rw [c1, show iN (48 + w) - iN 50 = iN (w - 2) from by rw [iN_sub (by omega), show 48 + w - 50 = w - 2 by omega], show (2 : Int32) = iN 2 from rfl, iN_add, show w - 2 + 2 = w by omega]
        have e2 : stp (up psE.1 0 h, psE.2) (0 + 1 + 1) (T (0 + 1 + 1)) = some (up (up psE.1 0 h) 1 w, psE.2) := by rw [st2, ew]; rfl
        have i2 := itP_go g2.1 e2
        have I3 := stp_Iv I2 e2
        have M3 : MP (sI (sI s2 9 0 20 (iN (o + (0 + 1 + 1) + 1))) 9 0 23 (iN w)) T o n (0 + 1 + 1 + 1) (up (up psE.1 0 h) 1 w, psE.2) := (MP_take M2).s9 (Or.inr rfl)
        have f3 : FT σ (sI (sI s2 9 0 20 (iN (o + (0 + 1 + 1) + 1))) 9 0 23 (iN w)) := f2.trans ((FT_9 (by decide)).trans (FT_9 (by decide)))
        have w23 : gI (sI (sI s2 9 0 20 (iN (o + (0 + 1 + 1) + 1))) 9 0 23 (iN w)) 9 0 23 = iN w := by rw [gI_sI, if_pos ⟨rfl, rfl, rfl⟩]
        have w22' : gI (sI (sI s2 9 0 20 (iN (o + (0 + 1 + 1) + 1))) 9 0 23 (iN w)) 9 0 22 = iN h := by rw [gI_sI, if_neg (by omega), gI_sI, if_neg (by omega)]; exact w22
        rw [t2, bI_some, ev2]
        generalize sI (sI s2 9 0 20 (iN (o + (0 + 1 + 1) + 1))) 9 0 23 (iN w) = s3 at M3 f3 w23 w22'
        rw [w23, if_neg (show ¬ iN w < 2 from by rw [show (2 : Int32) = iN 2 from rfl, iN_lt (by omega) (by omega)]; omega)]
        have i3 : itP T (n - 0) 0 psE = itP T (n - (0 + 1 + 1 + 1)) (0 + 1 + 1 + 1) (up (up psE.1 0 h) 1 w, psE.2) := by rw [i0, i1, i2]
        have h30 : h * w ≤ 30 := Nat.mul_le_mul d3 c3
        have h35 : h * (w + 1) ≤ 35 := Nat.mul_le_mul d3 (show w + 1 ≤ 7 by omega)
        have y0 : yc w 0 = 0 := by unfold yc; rw [Nat.zero_div, Nat.zero_mul, Nat.zero_mod, if_pos rfl]
        rcases m_sqsL ho hn ⟨d2, d3⟩ ⟨c2, c3⟩ (h * w) 0 300 s3 (up (up psE.1 0 h) 1 w, psE.2) (0 + 1 + 1 + 1) (by omega) (by omega) rfl rfl rfl (by rw [y0]) (by omega) I3 M3 w22' w23 with ⟨s4, y, r1, r2, r3, r4, r5⟩ | ⟨S4, s4, r1, r2, r3, ⟨r4, r4'⟩, r5, r6, ⟨r7, r7'⟩, r8⟩
        · refine Or.inl ⟨s4, y, ?_, r2, r3, f3.trans r4.ft, bT _ _ _ i3 r5⟩
          unfold f9_takeSquares
          rw [show l9_takeSquares_4 300 1 0 s3 = some (0, s4) from r1, bI_some, if_pos rfl]
        · have f4 := f3.trans r5.ft
          have eR : pR S4 = h * (w + 1) := by show pH S4 * (pW S4 + 1) = _; rw [r7, r7']
          have i4 := i3.trans r8
          have m4 := r6.2.2.2.2.1 (by omega) (show pR S4 ≤ 3 + h * (w + 1) - 3 by omega)
          have m0 : pM S4 = 0 := by rw [m4.2.1]; omega
          unfold f9_takeSquares
          rw [show l9_takeSquares_4 300 1 0 s3 = some (1, s4) from r1, bI_some, if_neg (by decide)]
          rcases m_eater ho r2 (by omega) r6 (by omega) (by omega) (by omega) (fun _ => m0) r3 with ⟨s5, y, u1, u2, u3, u4, u5⟩ | ⟨S5, s5, u1, u2, u3, u4, u5, ⟨u6, u7, u8⟩, u9⟩
          · refine Or.inl ⟨s5, y, ?_, u2, u3, f4.trans u4.ft, bT _ _ _ i4 u5⟩
            rw [u1, bI_some, if_pos rfl]
          · have f5 := f4.trans u4.ft
            have i5 := i4.trans u9
            have eR5 : pR S5 = h * (w + 1) := by show pH S5 * (pW S5 + 1) = _; rw [u6, u7, r7, r7']
            have k22 : gI s5 9 0 22 = iN (pH S5) := by rw [u4.2 _ _ _ (by omega) (by omega), r4, u6, r7]
            have k23 : gI s5 9 0 23 = iN (pW S5) := by rw [u4.2 _ _ _ (by omega) (by omega), r4', u7, r7']
            rw [u1, bI_some, if_neg (by decide), u3.1.1, u3.1.2.1]
            by_cases en : 3 + h * (w + 1) + 3 = n
            · refine Or.inr ⟨S5, s5, ?_, ⟨?_, ?_⟩, ?_, ⟨k22, k23⟩, f5⟩
              · rw [if_pos (by rw [en])]
              · rw [en, itP_n] at i5
                exact i5
              · exact ⟨by omega, by omega⟩
              · rw [en] at u3
                exact u3
            · rw [if_neg (by rw [iN_inj (by omega) (by omega)]; omega)]
              rcases m_eater ho u2 (by omega) u5 (by omega) (by omega) (by omega) (fun e => absurd e en) u3 with ⟨s6, y, v1, v2, v3, v4, v5⟩ | ⟨S6, s6, v1, v2, v3, v4, v5, ⟨v6, v7, v8⟩, v9⟩
              · refine Or.inl ⟨s6, y, ?_, v2, v3, f5.trans v4.ft, bT _ _ _ i5 v5⟩
                rw [v1, bI_some, if_pos rfl]
              · have f6 := f5.trans v4.ft
                have i6 := i5.trans v9
                have eR6 : pR S6 = h * (w + 1) := by show pH S6 * (pW S6 + 1) = _; rw [v6, v7]; exact eR5
                have j22 : gI s6 9 0 22 = iN (pH S6) := by rw [v4.2 _ _ _ (by omega) (by omega), k22, v6]
                have j23 : gI s6 9 0 23 = iN (pW S6) := by rw [v4.2 _ _ _ (by omega) (by omega), k23, v7]
                rw [v1, bI_some, if_neg (by decide), v3.1.1, v3.1.2.1]
                by_cases en6 : 3 + h * (w + 1) + 3 + 3 = n
                · refine Or.inr ⟨S6, s6, ?_, ⟨?_, ?_⟩, ?_, ⟨j22, j23⟩, f6⟩
                  · rw [if_pos (by rw [en6])]
                  · rw [en6, itP_n] at i6
                    exact i6
                  · exact ⟨by omega, by omega⟩
                  · rw [en6] at v3
                    exact v3
                · refine Or.inl ⟨s6, 3 + h * (w + 1) + 3 + 3, ?_, v2, v3.1.1, f6, bT _ _ _ i6 (badF_stop v2 (fun hlt => ?_) (fun e => absurd e en6))⟩
                  · rw [if_neg (by rw [iN_inj (by omega) (by omega)]; omega)]
                  · rw [stp_et (by omega) (by omega)]
                    unfold etS
                    rw [if_neg (by omega)]
      · rw [if_neg g2] at t2
        have t2 : f9_take 50 54 s2 = some (-1, s2) := t2
        refine Or.inl ⟨sI s2 9 0 23 (-1 + 2), 0 + 1 + 1, ?_, by omega, ?_, f2.trans (FT_9 (by decide)), bT (0 + 1 + 1) (up psE.1 0 h, psE.2) _ (by rw [i0, i1]) (badF_stop (by omega) (fun hlt => ?_) (fun _ q => ?_))⟩
        · rw [t2, bI_some, show gI (sI s2 9 0 23 (-1 + 2)) 9 0 23 = -1 + 2 from by rw [gI_sI, if_pos ⟨rfl, rfl, rfl⟩], if_pos (by decide)]
        · rw [gI_sI, if_neg (by omega)]; exact M2.1.1
        · rw [st2, dig_F (fun z => g2 ⟨hlt, z⟩)]; rfl
        · have q1 : 1 ≤ 0 := q.1
          omega
    · rw [if_neg g1] at t1
      have t1 : f9_take 50 53 s1 = some (-1, s1) := t1
      refine Or.inl ⟨sI s1 9 0 22 (-1 + 2), 0 + 1, ?_, by omega, ?_, f1.trans (FT_9 (by decide)), bT (0 + 1) psE _ i0 (badF_stop (by omega) (fun hlt => ?_) (fun _ q => ?_))⟩
      · rw [t1, bI_some, show gI (sI s1 9 0 22 (-1 + 2)) 9 0 22 = -1 + 2 from by rw [gI_sI, if_pos ⟨rfl, rfl, rfl⟩], if_neg (by decide)]
      · rw [gI_sI, if_neg (by omega)]; exact M1.1.1
      · rw [st1, dig_F (fun z => g1 ⟨hlt, z⟩)]; rfl
      · have q1 : 1 ≤ 0 := q.1
        omega
  · rw [if_neg (fun z => g0 ⟨z.1, (T_eq (by decide)).mp z.2⟩)] at t0
    have t0 : f9_take 112 112 s0 = some (-1, s0) := t0
    refine Or.inl ⟨s0, 0, ?_, Nat.zero_le _, M0.1.1, f0, badF_stop (x := 0) (S := psE) (Nat.zero_le _) (fun hlt => ?_) (fun _ q => ?_)⟩
    · rw [t0, bI_some, if_neg (by decide)]
    · unfold stp
      rw [if_pos rfl, if_neg (fun z => g0 ⟨hlt, z⟩)]
    · have q1 : 1 ≤ 0 := q.1
      omega
