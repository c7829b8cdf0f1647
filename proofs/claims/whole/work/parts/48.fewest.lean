/-! fewest, done -/
theorem Agr.trans {a b c : Sto} (h1 : Agr a b) (h2 : Agr b c) : Agr a c := ⟨fun k i j h => (h2.1 k i j h).trans (h1.1 k i j h), fun k i j p q r => (h2.2 k i j p q r).trans (h1.2 k i j p q r)⟩
theorem had_bit {P : Nat → Nat} {p : Nat} (hp : p < 5) : (bits P 100 &&& (1 <<< (iN p &&& 31))) = 0 ↔ ¬ P p = 100 := by
  unfold bits
  match p, hp with
  | 0, _ => by_cases h0 : P 0 = 100 <;> by_cases h1 : P 1 = 100 <;> by_cases h2 : P 2 = 100 <;> by_cases h3 : P 3 = 100 <;> by_cases h4 : P 4 = 100 <;> simp only [h0, h1, h2, h3, h4, if_true, if_false] <;> decide
  | 1, _ => by_cases h0 : P 0 = 100 <;> by_cases h1 : P 1 = 100 <;> by_cases h2 : P 2 = 100 <;> by_cases h3 : P 3 = 100 <;> by_cases h4 : P 4 = 100 <;> simp only [h0, h1, h2, h3, h4, if_true, if_false] <;> decide
  | 2, _ => by_cases h0 : P 0 = 100 <;> by_cases h1 : P 1 = 100 <;> by_cases h2 : P 2 = 100 <;> by_cases h3 : P 3 = 100 <;> by_cases h4 : P 4 = 100 <;> simp only [h0, h1, h2, h3, h4, if_true, if_false] <;> decide
  | 3, _ => by_cases h0 : P 0 = 100 <;> by_cases h1 : P 1 = 100 <;> by_cases h2 : P 2 = 100 <;> by_cases h3 : P 3 = 100 <;> by_cases h4 : P 4 = 100 <;> simp only [h0, h1, h2, h3, h4, if_true, if_false] <;> decide
  | 4, _ => by_cases h0 : P 0 = 100 <;> by_cases h1 : P 1 = 100 <;> by_cases h2 : P 2 = 100 <;> by_cases h3 : P 3 = 100 <;> by_cases h4 : P 4 = 100 <;> simp only [h0, h1, h2, h3, h4, if_true, if_false] <;> decide
def fewA (L : Nat) (q : Int32) (row : Nat → Nat) : Int32 := if q = -1 then iN L else if iN L ≤ q then -9 else iN (row q.toNatClampNeg)
theorem few_ans {σ : Sto} {kx L : Nat} {q : Int32} {row : Nat → Nat} (hL : L ≤ 3) (h1 : -1 ≤ q) (hr : ∀ j, j < L → gI σ kx 0 j = iN (row j)) : (if q = (-1) then (some (iN L, σ)) else (if iN L ≤ q then (some ((-9), σ)) else (if Ix q 3 then (some (gI σ kx 0 q.toNatClampNeg, σ)) else none))) = some (fewA L q row, σ) := by
  unfold fewA
  by_cases e1 : q = -1
  · rw [if_pos e1, if_pos e1]
  · rw [if_neg e1, if_neg e1]
    by_cases e2 : iN L ≤ q
    · rw [if_pos e2, if_pos e2]
    · rw [if_neg e2, if_neg e2]
      rcases iN_or q L (by omega) with ⟨j, hj, rfl⟩ | h | h
      · rw [if_pos ((iN_Ix (by omega)).mpr (by omega)), iN_nat (by omega), hr j hj]
      · exfalso
        apply e1
        rw [Int32.lt_iff_toInt_lt] at h
        rw [Int32.le_iff_toInt_le] at h1
        rw [← Int32.toInt_inj]
        have h1' : (-1 : Int) ≤ q.toInt := h1
        have h' : q.toInt < 0 := h
        show q.toInt = -1
        omega
      · exact absurd h e2
theorem both_fewest (a1 a2 : Int32) : Both (f8_fewest a1 a2) (f9_fewest a1 a2) := Both.go (fun σ A t hw hC hM => by
  have hn := wf_n hw
  have x1 := hC.2.1.1
  have no : f8_fewest a1 a2 σ = some (-1, σ) → (∀ τ, RM τ A → f9_fewest a1 a2 τ = some (-1, τ)) → ∃ r σ1, f8_fewest a1 a2 σ = some (r, σ1) ∧ Agr σ σ1 ∧ FC σ σ1 ∧ (RM σ1 A → ∃ σ2, f9_fewest a1 a2 σ1 = some (r, σ2) ∧ FP σ1 σ2) := fun h1 h2 => ⟨_, σ, h1, Agr.rfl, FC.rfl, fun hM => ⟨σ, h2 _ hM, FP.rfl⟩⟩
  rcases iN_or a1 (aN A) (by omega) with ⟨p, hp, rfl⟩ | hx
  · by_cases h1 : -1 ≤ a2
    · have hl := wf_pea hw hp
      have hv := hl.2.2.2.2.2.2.2
      have hS := hC.2.2.2.2.2.2.1 hl
      have hP := nowP_ok hl
      have ix : Ix (iN p) 5 := (iN_Ix (by omega)).mpr (by omega)
      obtain ⟨s1, g1, g2, g3⟩ := c_copy (i := 2) (i' := 0) (by decide) hS
      have ehad : f6_isHad 0 (iN p) σ = some (if nowP A p = 100 then 1 else 0, σ) := by
        unfold f6_isHad
        rw [show (5 : Int32) = iN 5 from rfl, isBelow_in σ (by decide) (by omega), bI_some, if_neg (by decide), hS.2.2.2.1]
        by_cases e : nowP A p = 100
        · rw [if_pos e, if_neg (fun q => (had_bit (by omega)).mp q e)]
        · rw [if_neg e, if_pos ((had_bit (by omega)).mpr e)]
      have Ec : f8_fewest (iN p) a2 σ = l8_fewest_55 (fun v29 v30 s31 => (if a2 = (-1) then (some (v29, s31)) else (if v29 ≤ a2 then (some ((-9), s31)) else (if Ix a2 3 then (some (gI s31 18 0 a2.toNatClampNeg, s31)) else none)))) (iN p) a2 300 (if nowP A p = 100 then 0 else -9) 1 s1 := by
        unfold f8_fewest
        rw [x1, dr_some, c_hasPea_in hC.2.1.2.2.1.1 hn hp, bI_some, if_neg (by decide), if_pos h1, ehad, bI_some, g1, bV_some, bV_some]
        by_cases e : nowP A p = 100
        · rw [if_pos e, if_neg (by decide), if_pos e]
        · rw [if_neg e, if_pos rfl, if_neg e]
      have Em : ∀ τ, RM τ A → ∀ r τ', f9_findFewest (iN p) τ = some (r, τ') → f9_fewest (iN p) a2 τ = if r = 4 then some (-9, τ') else (if a2 = (-1) then (some (r, τ')) else (if r ≤ a2 then (some ((-9), τ')) else (if Ix a2 3 then (some (gI τ' 41 0 a2.toNatClampNeg, τ')) else none))) := fun τ hM r τ' h => by
        unfold f9_fewest
        rw [m_isPea_in hM.1.2.2.1 hn hp, bI_some, if_neg (by decide), if_pos h1, h, bI_some]
      by_cases e100 : nowP A p = 100
      · rw [if_pos e100] at Ec
        refine ⟨fewA 0 a2 (fun _ => 0), s1, Ec.trans ?_, g3.agr (by decide), g3.fc, fun hM => ?_⟩
        · exact few_ans (kx := 18) (L := 0) (by decide) h1 (fun j hj => by omega)
        · obtain ⟨τ1, m1, m2, m3⟩ := m_now hl hM
          refine ⟨τ1, (Em s1 hM 0 τ1 ?_).trans ?_, m3.fp⟩
          · unfold f9_findFewest
            rw [m1, bV_some, if_pos ix, show gI τ1 39 0 (iN p).toNatClampNeg = atI (nowP A p) from by rw [iN_nat (by omega), m2.2.2 p hp], if_neg (fun q => by have := atI_le.mp q; omega), if_pos ix, if_pos (atI_m1.mpr e100)]
          · rw [if_neg (by decide)]
            exact few_ans (kx := 41) (L := 0) (by decide) h1 (fun j hj => by omega)
      · rw [if_neg e100] at Ec
        obtain ⟨s2, cf, H⟩ := c_fewL (q := a2) (K := fun v29 v30 s31 => (if a2 = (-1) then (some (v29, s31)) else (if v29 ≤ a2 then (some ((-9), s31)) else (if Ix a2 3 then (some (gI s31 18 0 a2.toNatClampNeg, s31)) else none)))) hl hp hP (hC.2.1.fs g3) (hC.2.2.1.fs g3) g2
        have ag : Agr σ s2 := (g3.agr (by decide)).trans cf.agr
        have fc : FC σ s2 := g3.fc.trans cf.fc
        have nine : ∀ x, l8_fewest_55 (fun v29 v30 s31 => (if a2 = (-1) then (some (v29, s31)) else (if v29 ≤ a2 then (some ((-9), s31)) else (if Ix a2 3 then (some (gI s31 18 0 a2.toNatClampNeg, s31)) else none)))) (iN p) a2 300 (-9) 1 s1 = (fun (v29 v30 : Int32) s31 => (if a2 = (-1) then (some (v29, s31)) else (if v29 ≤ a2 then (some ((-9), s31)) else (if Ix a2 3 then (some (gI s31 18 0 a2.toNatClampNeg, s31)) else none)))) (-9) x s2 → f8_fewest (iN p) a2 σ = some (-9, s2) := fun x h => by
          refine (Ec.trans h).trans ?_
          show (if a2 = (-1) then (some (-9, s2)) else (if -9 ≤ a2 then (some ((-9), s2)) else _)) = _
          by_cases e : a2 = -1
          · rw [if_pos e]
          · rw [if_neg e, if_pos (Int32.le_trans (by decide) h1)]
        by_cases on : nowP A p < 30
        · have et := tC_tM hl hp hP e100
          rcases H with ⟨c, x, t1, t2, t3⟩ | ⟨t1, c, x, t2, t3, t4⟩ | ⟨t1, t2, c, x, t3, t4, t5⟩ | ⟨t1, t2, t3, x, t4⟩
          · refine ⟨fewA 1 a2 (fun _ => c), s2, (Ec.trans t2).trans (few_ans (kx := 18) (L := 1) (by decide) h1 (fun j hj => by rw [show j = 0 by omega]; exact t3)), ag, fc, fun hM => ?_⟩
            obtain ⟨τ, fp, ⟨c', u1, u2, u3⟩ | ⟨u1, -⟩ | ⟨u1, -⟩ | ⟨u1, -⟩⟩ := m_few hl hp hM on
            · rw [← et, t1] at u1
              have ec : c = c' := Option.some.inj u1
              subst ec
              refine ⟨τ, (Em s2 hM 1 τ u2).trans ?_, fp⟩
              rw [if_neg (by decide)]
              exact few_ans (kx := 41) (L := 1) (by decide) h1 (fun j hj => by rw [show j = 0 by omega]; exact u3)
            all_goals
              rw [← et, t1] at u1
              exact absurd u1 (by simp)
          · have e2 := s2_eq hl hp hP (et ▸ t1)
            refine ⟨fewA 2 a2 (fun j => if j = 0 then c.1 else c.2), s2, (Ec.trans t3).trans (few_ans (kx := 18) (L := 2) (by decide) h1 (fun j hj => ?_)), ag, fc, fun hM => ?_⟩
            · rcases (show j = 0 ∨ j = 1 by omega) with rfl | rfl
              · exact t4.1
              · exact t4.2
            obtain ⟨τ, fp, ⟨c', u1, -⟩ | ⟨u1, c', u2, u3, u4⟩ | ⟨-, u2, -⟩ | ⟨-, u2, -⟩⟩ := m_few hl hp hM on
            · rw [← et, t1] at u1; exact absurd u1 (by simp)
            · rw [← e2, t2] at u2
              have ec : c = c' := Option.some.inj u2
              subst ec
              refine ⟨τ, (Em s2 hM 2 τ u3).trans ?_, fp⟩
              rw [if_neg (by decide)]
              refine few_ans (kx := 41) (L := 2) (by decide) h1 (fun j hj => ?_)
              rcases (show j = 0 ∨ j = 1 by omega) with rfl | rfl
              · exact u4.1
              · exact u4.2
            all_goals
              rw [← e2, t2] at u2
              exact absurd u2 (by simp)
          · have e2 := s2_eq hl hp hP (et ▸ t1)
            have e3 := s3_eq hl hp hP (e2 ▸ t2)
            refine ⟨fewA 3 a2 (fun j => if j = 0 then c.1 else if j = 1 then c.2.1 else c.2.2), s2, (Ec.trans t4).trans (few_ans (kx := 18) (L := 3) (by decide) h1 (fun j hj => ?_)), ag, fc, fun hM => ?_⟩
            · rcases (show j = 0 ∨ j = 1 ∨ j = 2 by omega) with rfl | rfl | rfl
              · exact t5.1
              · exact t5.2.1
              · exact t5.2.2
            obtain ⟨τ, fp, ⟨c', u1, -⟩ | ⟨-, c', u2, -⟩ | ⟨-, -, c', u3, u4, u5⟩ | ⟨-, -, u3, -⟩⟩ := m_few hl hp hM on
            · rw [← et, t1] at u1; exact absurd u1 (by simp)
            · rw [← e2, t2] at u2; exact absurd u2 (by simp)
            · rw [← e3, t3] at u3
              have ec : c = c' := Option.some.inj u3
              subst ec
              refine ⟨τ, (Em s2 hM 3 τ u4).trans ?_, fp⟩
              rw [if_neg (by decide)]
              refine few_ans (kx := 41) (L := 3) (by decide) h1 (fun j hj => ?_)
              rcases (show j = 0 ∨ j = 1 ∨ j = 2 by omega) with rfl | rfl | rfl
              · exact u5.1
              · exact u5.2.1
              · exact u5.2.2
            · rw [← e3, t3] at u3; exact absurd u3 (by simp)
          · have e2 := s2_eq hl hp hP (et ▸ t1)
            have e3 := s3_eq hl hp hP (e2 ▸ t2)
            refine ⟨-9, s2, nine x t4, ag, fc, fun hM => ?_⟩
            obtain ⟨τ, fp, ⟨c', u1, -⟩ | ⟨-, c', u2, -⟩ | ⟨-, -, c', u3, -⟩ | ⟨-, -, -, u4⟩⟩ := m_few hl hp hM on
            · rw [← et, t1] at u1; exact absurd u1 (by simp)
            · rw [← e2, t2] at u2; exact absurd u2 (by simp)
            · rw [← e3, t3] at u3; exact absurd u3 (by simp)
            · exact ⟨τ, (Em s2 hM 4 τ u4).trans (if_pos rfl), fp⟩
        · have k1 := tC_off (A := A) on
          have k2 := s2_off hl hP on
          have k3 := s3_off hl hP on
          rcases H with ⟨c, x, t1, -⟩ | ⟨-, c, x, t2, -⟩ | ⟨-, -, c, x, t3, -⟩ | ⟨-, -, -, x, t4⟩
          · rw [k1] at t1; exact absurd t1 (by simp)
          · rw [k2] at t2; exact absurd t2 (by simp)
          · rw [k3] at t3; exact absurd t3 (by simp)
          · refine ⟨-9, s2, nine x t4, ag, fc, fun hM => ?_⟩
            obtain ⟨τ1, m1, m2, m3⟩ := m_now hl hM
            refine ⟨τ1, (Em s2 hM 4 τ1 ?_).trans (if_pos rfl), m3.fp⟩
            unfold f9_findFewest
            rw [m1, bV_some, if_pos ix, show gI τ1 39 0 (iN p).toNatClampNeg = atI (nowP A p) from by rw [iN_nat (by omega), m2.2.2 p hp], if_neg (fun q => on (atI_le.mp q)), if_pos ix, if_neg (fun q => e100 (atI_m1.mp q))]
    · refine no ?_ (fun τ hM => ?_)
      · unfold f8_fewest
        rw [x1, dr_some, c_hasPea_in hC.2.1.2.2.1.1 hn hp, bI_some, if_neg (by decide), if_neg h1]
      · unfold f9_fewest
        rw [m_isPea_in hM.1.2.2.1 hn hp, bI_some, if_neg (by decide), if_neg h1]
  · refine no ?_ (fun τ hM => ?_)
    · unfold f8_fewest
      rw [x1, dr_some, c_hasPea_out hC.2.1.2.2.1.1 hx, bI_some, if_pos rfl]
    · unfold f9_fewest
      rw [m_isPea_out hM.1.2.2.1 hn hx, bI_some, if_pos rfl])
