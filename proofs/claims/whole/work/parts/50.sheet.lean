/-! sheet, copy -/
theorem Both.shx {α : Type} {f g : Sto → Option (α × Sto)} (h : ∀ σ A t, wfA A → RC σ t A → RM σ A → ∃ r σ1 x y w, f σ = some (r, σ1) ∧ AgrS σ σ1 ∧ FC σ σ1 ∧ (gI σ1 7 0 0 = x ∧ gI σ1 8 0 13 = y) ∧ RCs σ1 (shA A x y w) ∧ wfS (shA A x y w) ∧ (RM σ1 A → ∃ σ2, g σ1 = some (r, σ2) ∧ FMm σ1 σ2 ∧ (∀ k a b, 24 ≤ k ∧ k < 31 ∨ (k = 9 ∧ b < 14) → gI σ2 k a b = gI σ1 k a b) ∧ (gI σ2 9 0 14 = x ∧ gI σ2 9 0 15 = y) ∧ RMs σ2 (shA A x y w))) : Both f g := by
  refine Both.sh (fun σ A t hw hC hM => ?_)
  obtain ⟨r, σ1, x, y, w, h1, h2, h3, h4, h5, h6, h7⟩ := h σ A t hw hC hM
  obtain ⟨σ2, h8⟩ := h7 (hM.fc h3)
  exact ⟨r, σ1, σ2, x, y, w, h1, h2, h3, h4, h5, h6, fun _ => h8⟩
theorem sh_fin {α : Type} {f g : Sto → Option (α × Sto)} {σ : Sto} {A : AS} {t : Nat} (hw : wfA A) (hC : RC σ t A) (r : α) (y : Int32) (σ1 : Sto) (h1 : σ1 = sI σ 8 0 13 0 ∧ y = 0 ∨ σ1 = sI (sI σ 8 0 13 0) 8 0 13 y) (h2 : f σ = some (r, σ1)) (h3 : RM σ1 A → g σ1 = some (r, sI σ1 9 0 15 y)) : ∃ r σ1 x y w, f σ = some (r, σ1) ∧ AgrS σ σ1 ∧ FC σ σ1 ∧ (gI σ1 7 0 0 = x ∧ gI σ1 8 0 13 = y) ∧ RCs σ1 (shA A x y w) ∧ wfS (shA A x y w) ∧ (RM σ1 A → ∃ σ2, g σ1 = some (r, σ2) ∧ FMm σ1 σ2 ∧ (∀ k a b, 24 ≤ k ∧ k < 31 ∨ (k = 9 ∧ b < 14) → gI σ2 k a b = gI σ1 k a b) ∧ (gI σ2 9 0 14 = x ∧ gI σ2 9 0 15 = y) ∧ RMs σ2 (shA A x y w)) := by
  obtain ⟨tr, fa⟩ := hC.2.2.2.2.2.2.2.2.1
  have sh := hC.2.2.2.2.2.2.2.1
  have key : AgrS σ σ1 ∧ FC σ σ1 ∧ gI σ1 7 0 0 = A.2 0 0 ∧ gI σ1 8 0 13 = y ∧ (∀ a b, gI σ1 4 a b = gI σ 4 a b) ∧ ∀ a b, gI σ1 19 a b = gI σ 19 a b := by
    rcases h1 with ⟨rfl, rfl⟩ | rfl
    · exact ⟨AgrS_f, FC_f, by rw [gI_sI, if_neg (by decide)]; exact tr, gI_f, fun a b => by rw [gI_sI, if_neg (by omega)], fun a b => by rw [gI_sI, if_neg (by omega)]⟩
    · exact ⟨AgrS_f.trans AgrS_f, FC_f.trans FC_f, by rw [gI_sI, if_neg (by decide), gI_sI, if_neg (by decide)]; exact tr, gI_f, fun a b => by rw [gI_sI, if_neg (by omega), gI_sI, if_neg (by omega)], fun a b => by rw [gI_sI, if_neg (by omega), gI_sI, if_neg (by omega)]⟩
  obtain ⟨k1, k2, k3, k4, k5, k6⟩ := key
  exact ⟨r, σ1, A.2 0 0, y, A.2, h2, k1, k2, ⟨k3, k4⟩, sh.fr k5 k6, hw.2.2, fun hM => ⟨sI σ1 9 0 15 y, h3 hM, FMm_9, fun k a b h => by rw [gI_sI, if_neg (by omega)], ⟨by rw [gI_sI, if_neg (by decide)]; exact hM.2.2.2.2.2.1, by rw [gI_sI, if_pos (by decide)]⟩, RMs.fr hM.2.2.2.2.1 (fun k b h => by rw [gI_sI, if_neg (by omega)])⟩⟩
/-- only cells of one kind and one object have changed -/
def FK (k i : Nat) (σ σ' : Sto) : Prop := σ'.2 = σ.2 ∧ ∀ k' a b, ¬ (k' = k ∧ a = i) → gI σ' k' a b = gI σ k' a b
theorem FK.rfl {k i : Nat} {σ : Sto} : FK k i σ σ := ⟨Eq.refl _, fun _ _ _ _ => Eq.refl _⟩
theorem FK.trans {k i : Nat} {a b c : Sto} (h1 : FK k i a b) (h2 : FK k i b c) : FK k i a c := ⟨h2.1.trans h1.1, fun k' a b h => (h2.2 k' a b h).trans (h1.2 k' a b h)⟩
theorem FK_I {k i j : Nat} {σ : Sto} {x : Int32} : FK k i σ (sI σ k i j x) := ⟨Eq.refl _, fun k' a b h => by rw [gI_sI, if_neg (by omega)]⟩
theorem FK.gR {k i : Nat} {σ σ' : Sto} (h : FK k i σ σ') : gR σ' = gR σ := congrArg Prod.fst h.1
theorem c_fillL {i : Nat} : ∀ (f j k : Nat) (σ : Sto), j + f = 60 → f < k → (∀ p, p < j → gI σ 19 i p = 0) → ∃ σ', lJ7_fill_5 i 0 k (iN j) σ = some σ' ∧ FK 19 i σ σ' ∧ ∀ p, p < 60 → gI σ' 19 i p = 0
  | f, j, 0, _, _, hk, _ => by omega
  | 0, j, k + 1, σ, hj, hk, hp => by
    refine ⟨σ, ?_, FK.rfl, fun p h => hp p (by omega)⟩
    show (if 60 ≤ iN j then _ else _) = _
    rw [if_pos (by rw [show (60 : Int32) = iN 60 from rfl, iN_le (by omega) (by omega)]; omega)]
  | f + 1, j, k + 1, σ, hj, hk, hp => by
    show ∃ σ', (if 60 ≤ iN j then _ else _) = some σ' ∧ _
    rw [if_neg (by rw [show (60 : Int32) = iN 60 from rfl, iN_le (by omega) (by omega)]; omega), if_pos ((iN_Ix (by omega)).mpr (by omega)), iN_nat (by omega), iN_add1]
    obtain ⟨σ', g1, g2, g3⟩ := c_fillL f (j + 1) k (sI σ 19 i j 0) (by omega) (by omega) (fun p h => by
      rw [gI_sI]
      by_cases e : p = j
      · rw [if_pos ⟨rfl, rfl, e⟩]
      · rw [if_neg (by omega)]; exact hp p (by omega))
    exact ⟨σ', g1, FK_I.trans g2, g3⟩
theorem m_fillL {q : Nat} (hq : q < 4) : ∀ (f j k : Nat) (σ : Sto), j + f = 60 → f < k → (∀ p, p < j → gI σ 33 0 (60 * q + p) = 0) → ∃ σ', l9_sheet_65 (iN q) k (iN j) σ = some (1, σ') ∧ (σ'.2 = σ.2 ∧ ∀ k a b, ¬ (k = 33 ∧ 60 * q ≤ b ∧ b < 60 * q + 60) → gI σ' k a b = gI σ k a b) ∧ ∀ p, p < 60 → gI σ' 33 0 (60 * q + p) = 0
  | f, j, 0, _, _, hk, _ => by omega
  | 0, j, k + 1, σ, hj, hk, hp => by
    refine ⟨σ, ?_, ⟨rfl, fun _ _ _ _ => rfl⟩, fun p h => hp p (by omega)⟩
    show (if 60 ≤ iN j then _ else _) = _
    rw [if_pos (by rw [show (60 : Int32) = iN 60 from rfl, iN_le (by omega) (by omega)]; omega)]
  | f + 1, j, k + 1, σ, hj, hk, hp => by
    show ∃ σ', (if 60 ≤ iN j then _ else _) = some (1, σ') ∧ _
    rw [if_neg (by rw [show (60 : Int32) = iN 60 from rfl, iN_le (by omega) (by omega)]; omega), at60, if_pos ((iN_Ix (by omega)).mpr (by omega)), iN_nat (by omega), iN_add1]
    obtain ⟨σ', g1, g2, g3⟩ := m_fillL hq f (j + 1) k (sI σ 33 0 (60 * q + j) 0) (by omega) (by omega) (fun p h => by
      rw [gI_sI]
      by_cases e : p = j
      · rw [if_pos ⟨rfl, rfl, by rw [e]⟩]
      · rw [if_neg (by omega)]; exact hp p (by omega))
    exact ⟨σ', g1, ⟨g2.1, fun k' a b h => by rw [g2.2 k' a b h, gI_sI, if_neg (by omega)]⟩, g3⟩
theorem neg_le60 {x : Int32} (h : x < 0) : x ≤ 60 ∧ ¬ 0 ≤ x := ⟨Int32.le_trans (Int32.le_of_lt h) (by decide), Int32.not_le.mpr h⟩
theorem both_sheet (a1 a2 a3 : Int32) : Both (f8_sheet a1 a2 a3) (f9_sheet a1 a2 a3) := Both.shx (fun σ A t hw hC hM => by
  obtain ⟨tr, fa⟩ := hC.2.2.2.2.2.2.2.2.1
  have sh := hC.2.2.2.2.2.2.2.1
  rcases iN_or a1 4 (by decide) with ⟨q, hq, rfl⟩ | hx
  · have ix4 : Ix (iN q) 4 := (iN_Ix (by omega)).mpr hq
    rcases iN_or a2 3 (by decide) with ⟨l, hl, rfl⟩ | hx
    · rcases iN_or a3 61 (by decide) with ⟨n, hn, rfl⟩ | hx
      · have le60 : iN n ≤ 60 := (iN_le (b := 60) (by omega) (by omega)).mpr (by omega)
        have nle60 : ¬ (60 : Int32) < iN n := Int32.not_lt.mpr le60
        have ge0 : 0 ≤ iN n := (iN_le (a := 0) (by omega) (by omega)).mpr (by omega)
        obtain ⟨s1, g1, g2, g3⟩ := c_fillL (i := q) 60 0 300 (sI (sI (sI σ 8 0 13 0) 4 q 1 (iN l)) 4 q 2 (iN n)) rfl (by decide) (fun p hp => by omega)
        have fr : ∀ k a b, ¬ (k = 19 ∧ a = q) → ¬ (k = 4 ∧ a = q) → ¬ (k = 8 ∧ b = 13) → gI s1 k a b = gI σ k a b := fun k a b h1 h2 h3 => by rw [g2.2 k a b h1, gI_sI, if_neg (by omega), gI_sI, if_neg (by omega), gI_sI, if_neg (by omega)]
        refine ⟨1, s1, A.2 0 0, 0, fun a b => if a = 3 ∧ b = q then iN l else if a = 4 ∧ b = q then iN n else if a = 5 ∧ 60 * q ≤ b ∧ b < 60 * q + 60 then 0 else A.2 a b, ?_, ⟨fun k a b _ => by rw [g2.gR]; rfl, fun k a b _ _ _ h h' => fr k a b (by omega) (by omega) (by omega)⟩, fun k a b h => fr k a b (by omega) (by omega) (by omega), ⟨by rw [fr _ _ _ (by omega) (by omega) (by omega)]; exact tr, by rw [g2.2 _ _ _ (by omega), gI_sI, if_neg (by omega), gI_sI, if_neg (by omega)]; exact gI_f⟩, fun k hk => ?_, fun k hk => ?_, fun hM => ?_⟩
        · unfold f8_sheet f4_begin
          rw [c_sheet_in hq, bI_some, rcs_some, if_pos rfl, show (3 : Int32) = iN 3 from rfl, isBelow_in _ (by decide) hl, bI_some, if_neg (by decide), if_pos le60, if_pos ge0, if_neg nle60, show fJ7_fill q 0 (sI (sI (sI σ 8 0 13 0) 4 q 1 (iN l)) 4 q 2 (iN n)) = some s1 from g1, bV_some, bV_some]
        · obtain ⟨z1, z2, z3⟩ := sh k hk
          show ((if 3 = 3 ∧ k = q then iN l else if 3 = 4 ∧ k = q then iN n else if 3 = 5 ∧ 60 * q ≤ k ∧ k < 60 * q + 60 then 0 else A.2 3 k) = -1 → gI s1 4 k 2 = -1) ∧ (¬ (if 3 = 3 ∧ k = q then iN l else if 3 = 4 ∧ k = q then iN n else if 3 = 5 ∧ 60 * q ≤ k ∧ k < 60 * q + 60 then 0 else A.2 3 k) = -1 → gI s1 4 k 1 = (if 3 = 3 ∧ k = q then iN l else if 3 = 4 ∧ k = q then iN n else if 3 = 5 ∧ 60 * q ≤ k ∧ k < 60 * q + 60 then 0 else A.2 3 k) ∧ gI s1 4 k 2 = (if 4 = 3 ∧ k = q then iN l else if 4 = 4 ∧ k = q then iN n else if 4 = 5 ∧ 60 * q ≤ k ∧ k < 60 * q + 60 then 0 else A.2 4 k)) ∧ ∀ j, j < 60 → gI s1 19 k j = (if 5 = 3 ∧ 60 * k + j = q then iN l else if 5 = 4 ∧ 60 * k + j = q then iN n else if 5 = 5 ∧ 60 * q ≤ 60 * k + j ∧ 60 * k + j < 60 * q + 60 then 0 else A.2 5 (60 * k + j))
          by_cases e : k = q
          · subst e
            rw [if_pos ⟨rfl, rfl⟩, if_neg (by omega), if_pos ⟨rfl, rfl⟩]
            refine ⟨fun h => absurd h (iN_ne_m (by omega) (by decide)), fun _ => ⟨?_, ?_⟩, fun j hj => ?_⟩
            · rw [g2.2 _ _ _ (by omega), gI_sI, if_neg (by omega), gI_sI, if_pos ⟨rfl, rfl, rfl⟩]
            · rw [g2.2 _ _ _ (by omega), gI_sI, if_pos ⟨rfl, rfl, rfl⟩]
            · rw [if_neg (by omega), if_neg (by omega), if_pos (by omega)]; exact g3 j hj
          · rw [if_neg (by omega), if_neg (by omega), if_neg (by omega), if_neg (by omega), if_neg (by omega), if_neg (by omega), fr _ _ _ (by omega) (by omega) (by omega), fr _ _ _ (by omega) (by omega) (by omega)]
            refine ⟨z1, z2, fun j hj => ?_⟩
            rw [if_neg (by omega), if_neg (by omega), if_neg (by omega), fr _ _ _ (by omega) (by omega) (by omega)]
            exact z3 j hj
        · show (if 3 = 3 ∧ k = q then iN l else if 3 = 4 ∧ k = q then iN n else if 3 = 5 ∧ 60 * q ≤ k ∧ k < 60 * q + 60 then 0 else A.2 3 k) = -1 ∨ (((if 3 = 3 ∧ k = q then iN l else if 3 = 4 ∧ k = q then iN n else if 3 = 5 ∧ 60 * q ≤ k ∧ k < 60 * q + 60 then 0 else A.2 3 k) = 0 ∨ (if 3 = 3 ∧ k = q then iN l else if 3 = 4 ∧ k = q then iN n else if 3 = 5 ∧ 60 * q ≤ k ∧ k < 60 * q + 60 then 0 else A.2 3 k) = 1 ∨ (if 3 = 3 ∧ k = q then iN l else if 3 = 4 ∧ k = q then iN n else if 3 = 5 ∧ 60 * q ≤ k ∧ k < 60 * q + 60 then 0 else A.2 3 k) = 2) ∧ ∃ s, s ≤ 60 ∧ (if 4 = 3 ∧ k = q then iN l else if 4 = 4 ∧ k = q then iN n else if 4 = 5 ∧ 60 * q ≤ k ∧ k < 60 * q + 60 then 0 else A.2 4 k) = iN s)
          by_cases e : k = q
          · rw [if_pos ⟨rfl, e⟩, if_neg (by omega), if_pos ⟨rfl, e⟩]
            refine Or.inr ⟨?_, n, by omega, rfl⟩
            rcases (show l = 0 ∨ l = 1 ∨ l = 2 by omega) with rfl | rfl | rfl
            · exact Or.inl rfl
            · exact Or.inr (Or.inl rfl)
            · exact Or.inr (Or.inr rfl)
          · rw [if_neg (by omega), if_neg (by omega), if_neg (by omega), if_neg (by omega), if_neg (by omega), if_neg (by omega)]
            exact hw.2.2 k hk
        · obtain ⟨τ, r1, ⟨r2, r3⟩, r4⟩ := m_fillL hq 60 0 300 (sI (sI (sI s1 9 0 15 0) 31 0 q (iN l)) 32 0 q (iN n)) rfl (by decide) (fun p hp => by omega)
          have fr9 : ∀ k a b, ¬ (k = 33 ∧ 60 * q ≤ b ∧ b < 60 * q + 60) → ¬ ((k = 31 ∨ k = 32) ∧ a = 0 ∧ b = q) → ¬ (k = 9 ∧ b = 15) → gI τ k a b = gI s1 k a b := fun k a b h1 h2 h3 => by rw [r3 k a b h1, gI_sI, if_neg (by omega), gI_sI, if_neg (by omega), gI_sI, if_neg (by omega)]
          refine ⟨τ, ?_, ⟨r2, fun k a b h => fr9 k a b (by omega) (by omega) (by omega)⟩, fun k a b h => fr9 k a b (by omega) (by omega) (by omega), ⟨by rw [fr9 _ _ _ (by omega) (by omega) (by omega)]; exact hM.2.2.2.2.2.1, by rw [r3 _ _ _ (by omega), gI_sI, if_neg (by omega), gI_sI, if_neg (by omega), gI_sI, if_pos (by decide)]⟩, fun k hk => ?_, fun j hj => ?_⟩
          · unfold f9_sheet
            rw [m_sheet_in hq, bI_some, if_neg (by decide), m_lane_in hl, bI_some, if_neg (by decide), if_pos le60, if_pos ge0, if_pos ix4, if_pos ix4, iN_nat (by omega)]
            exact r1
          · have z := hM.2.2.2.2.1.1 k hk
            show gI τ 31 0 k = (if 3 = 3 ∧ k = q then iN l else if 3 = 4 ∧ k = q then iN n else if 3 = 5 ∧ 60 * q ≤ k ∧ k < 60 * q + 60 then 0 else A.2 3 k) ∧ (¬ (if 3 = 3 ∧ k = q then iN l else if 3 = 4 ∧ k = q then iN n else if 3 = 5 ∧ 60 * q ≤ k ∧ k < 60 * q + 60 then 0 else A.2 3 k) = -1 → gI τ 32 0 k = (if 4 = 3 ∧ k = q then iN l else if 4 = 4 ∧ k = q then iN n else if 4 = 5 ∧ 60 * q ≤ k ∧ k < 60 * q + 60 then 0 else A.2 4 k))
            by_cases e : k = q
            · rw [if_pos ⟨rfl, e⟩, if_neg (by omega), if_pos ⟨rfl, e⟩, r3 _ _ _ (by omega), r3 _ _ _ (by omega), gI_sI, if_neg (by omega), gI_sI, if_pos ⟨rfl, rfl, e⟩, gI_sI, if_pos ⟨rfl, rfl, e⟩]
              exact ⟨rfl, fun _ => rfl⟩
            · rw [if_neg (by omega), if_neg (by omega), if_neg (by omega), if_neg (by omega), if_neg (by omega), if_neg (by omega), fr9 _ _ _ (by omega) (by omega) (by omega), fr9 _ _ _ (by omega) (by omega) (by omega)]
              exact z
          · show gI τ 33 0 j = (if 5 = 3 ∧ j = q then iN l else if 5 = 4 ∧ j = q then iN n else if 5 = 5 ∧ 60 * q ≤ j ∧ j < 60 * q + 60 then 0 else A.2 5 j)
            rw [if_neg (by omega), if_neg (by omega)]
            by_cases e : 60 * q ≤ j ∧ j < 60 * q + 60
            · rw [if_pos ⟨rfl, e⟩]
              have := r4 (j - 60 * q) (by omega)
              rw [show 60 * q + (j - 60 * q) = j by omega] at this
              exact this
            · rw [if_neg (fun z => e z.2), fr9 _ _ _ (by omega) (by omega) (by omega)]; exact hM.2.2.2.2.1.2 j hj
      · rcases hx with hx | hx
        · have ⟨u1, u2⟩ := neg_le60 hx
          refine sh_fin hw hC (-14) 4 _ (Or.inr rfl) ?_ (fun hM => ?_)
          · unfold f8_sheet f8_failed
            rw [c_sheet_in hq, bI_some, rcs_some, if_pos rfl, show (3 : Int32) = iN 3 from rfl, isBelow_in _ (by decide) hl, bI_some, if_neg (by decide), if_pos u1, if_neg u2, bI_some]
            rfl
          · unfold f9_sheet f9_fails
            rw [m_sheet_in hq, bI_some, if_neg (by decide), m_lane_in hl, bI_some, if_neg (by decide), if_pos u1, if_neg u2, bI_some]
            rfl
        · have u : ¬ a3 ≤ 60 := fun h => by
            have := Int32.le_trans hx h
            exact absurd this (by decide)
          refine sh_fin hw hC (-2) 0 _ (Or.inl ⟨rfl, rfl⟩) ?_ (fun hM => ?_)
          · unfold f8_sheet
            rw [c_sheet_in hq, bI_some, rcs_some, if_pos rfl, show (3 : Int32) = iN 3 from rfl, isBelow_in _ (by decide) hl, bI_some, if_neg (by decide), if_neg u]
          · unfold f9_sheet f9_refused
            rw [m_sheet_in hq, bI_some, if_neg (by decide), m_lane_in hl, bI_some, if_neg (by decide), if_neg u, bI_some]
    · refine sh_fin hw hC (-2) 0 _ (Or.inl ⟨rfl, rfl⟩) ?_ (fun hM => ?_)
      · unfold f8_sheet
        rw [c_sheet_in hq, bI_some, rcs_some, if_pos rfl, show (3 : Int32) = iN 3 from rfl, isBelow_out _ hx, bI_some, if_pos rfl]
      · unfold f9_sheet f9_refused
        rw [m_sheet_in hq, bI_some, if_neg (by decide), m_lane_out hx, bI_some, if_pos rfl, bI_some]
  · refine sh_fin hw hC (-1) 0 _ (Or.inl ⟨rfl, rfl⟩) ?_ (fun hM => ?_)
    · unfold f8_sheet
      rw [c_sheet_out hx, bI_some, rcs_none]
    · unfold f9_sheet f9_refused
      rw [m_sheet_out hx, bI_some, if_pos rfl, bI_some])
/-! cells from i on -/
theorem sub_toInt {s : Nat} {n : Int32} (hs : s ≤ 60) (hn : 0 ≤ n.toInt) : (iN s - n).toInt = (s : Int) - n.toInt := by
  have := Int32.toInt_lt n
  rw [Int32.toInt_sub, iN_toInt (by omega)]
  exact Int.bmod_eq_of_le (by show _ ≤ (s : Int) - n.toInt; omega) (by show (s : Int) - n.toInt < _; omega)
abbrev okR (s : Nat) (i n : Int32) : Prop := 0 ≤ i.toInt ∧ 0 ≤ n.toInt ∧ i.toInt + n.toInt ≤ s
theorem nlt0 {i : Int32} : ¬ i < 0 ↔ 0 ≤ i.toInt := by
  rw [Int32.lt_iff_toInt_lt]
  show ¬ i.toInt < 0 ↔ _
  omega
theorem c_hasCells {σ : Sto} {k s : Nat} {i n : Int32} (hs : s ≤ 60) (h : gI σ 4 k 2 = iN s) : f4_hasCells k i n σ = some (if okR s i n then 1 else 0, σ) := by
  unfold f4_hasCells
  rw [h]
  by_cases h1 : i < 0
  · rw [if_pos h1, if_neg (fun q => nlt0.mpr q.1 h1)]
  rw [if_neg h1]
  by_cases h2 : n < 0
  · rw [if_pos h2, if_neg (fun q => nlt0.mpr q.2.1 h2)]
  rw [if_neg h2]
  have h1' := nlt0.mp h1
  have h2' := nlt0.mp h2
  have e3 : iN s < i ↔ (s : Int) < i.toInt := by rw [Int32.lt_iff_toInt_lt, iN_toInt (by omega)]
  have e4 : (iN s - i) < n ↔ (s : Int) - i.toInt < n.toInt := by rw [Int32.lt_iff_toInt_lt, sub_toInt hs h1']
  by_cases h3 : iN s < i
  · rw [if_pos h3, if_neg (fun q => by have := e3.mp h3; omega)]
  rw [if_neg h3]
  by_cases h4 : (iN s - i) < n
  · rw [if_pos h4, if_neg (fun q => by have := e4.mp h4; omega)]
  rw [if_neg h4, if_pos ⟨h1', h2', by have := mt e4.mpr h4; omega⟩]
theorem okR_nat {s : Nat} {i n : Int32} (hs : s ≤ 60) (h : okR s i n) : ∃ i' n', i = iN i' ∧ n = iN n' ∧ i' + n' ≤ s := by
  obtain ⟨h1, h2, h3⟩ := h
  refine ⟨i.toInt.toNat, n.toInt.toNat, ?_, ?_, by omega⟩
  · rw [← Int32.toInt_inj, iN_toInt (by omega)]; omega
  · rw [← Int32.toInt_inj, iN_toInt (by omega)]; omega
theorem le_sub {s : Nat} {i n : Int32} (hs : s ≤ 60) (hn : 0 ≤ n.toInt) : i ≤ iN s - n ↔ i.toInt + n.toInt ≤ s := by
  rw [Int32.le_iff_toInt_le, sub_toInt hs hn]
  omega
theorem m_cp1 {K : Int32 → Sto → Option (Int32 × Sto)} {a3 a4 : Int32} {q i n : Nat} (hq : q < 4) (hi : i + n ≤ 60) : ∀ (f j k : Nat) (σ : Sto), j + f = n → f < k → ∃ σ' x, l9_copy_120 K (iN q) (iN i) a3 a4 (iN n) k (iN j) σ = K x σ' ∧ FK 34 0 σ σ' ∧ (∀ c, c < j → gI σ' 34 0 c = gI σ 34 0 c) ∧ ∀ c, j ≤ c → c < n → gI σ' 34 0 c = gI σ 33 0 (60 * q + i + c)
  | f, j, 0, _, _, hk => by omega
  | 0, j, k + 1, σ, hj, hk => by
    refine ⟨σ, iN j, ?_, FK.rfl, fun _ _ => rfl, fun c h1 h2 => by omega⟩
    show (if iN n ≤ iN j then _ else _) = _
    rw [if_pos ((iN_le (by omega) (by omega)).mpr (by omega))]
  | f + 1, j, k + 1, σ, hj, hk => by
    have e : ((60 * iN q) + iN i) + iN j = iN (60 * q + i + j) := by rw [at60, iN_add]
    show ∃ σ' x, (if iN n ≤ iN j then _ else _) = _ ∧ _
    rw [if_neg (by rw [iN_le (by omega) (by omega)]; omega), e, if_pos ((iN_Ix (by omega)).mpr (by omega)), if_pos ((iN_Ix (by omega)).mpr (by omega)), iN_nat (show 60 * q + i + j < 2147483648 by omega), iN_nat (show j < 2147483648 by omega), iN_add1]
    obtain ⟨σ', x, g1, g2, g3, g4⟩ := m_cp1 (K := K) (a3 := a3) (a4 := a4) hq hi f (j + 1) k (sI σ 34 0 j (gI σ 33 0 (60 * q + i + j))) (by omega) (by omega)
    refine ⟨σ', x, g1, FK_I.trans g2, fun c hc => ?_, fun c h1 h2 => ?_⟩
    · rw [g3 c (by omega), gI_sI, if_neg (by omega)]
    · by_cases ec : c = j
      · rw [g3 c (by omega), ec, gI_sI, if_pos ⟨rfl, rfl, rfl⟩]
      · rw [g4 c (by omega) h2, gI_sI, if_neg (by omega)]
theorem m_cp2 {q i n : Nat} (hq : q < 4) (hi : i + n ≤ 60) : ∀ (f j k : Nat) (σ : Sto), j + f = n → f < k → ∃ σ', l9_copy_157 (iN q) (iN i) (iN n) k (iN j) σ = some (iN n, σ') ∧ FK 33 0 σ σ' ∧ (∀ b, ¬ (60 * q + i + j ≤ b ∧ b < 60 * q + i + n) → gI σ' 33 0 b = gI σ 33 0 b) ∧ ∀ c, j ≤ c → c < n → gI σ' 33 0 (60 * q + i + c) = gI σ 34 0 c
  | f, j, 0, _, _, hk => by omega
  | 0, j, k + 1, σ, hj, hk => by
    refine ⟨σ, ?_, FK.rfl, fun _ _ => rfl, fun c h1 h2 => by omega⟩
    show (if iN n ≤ iN j then _ else _) = _
    rw [if_pos ((iN_le (by omega) (by omega)).mpr (by omega))]
  | f + 1, j, k + 1, σ, hj, hk => by
    have e : ((60 * iN q) + iN i) + iN j = iN (60 * q + i + j) := by rw [at60, iN_add]
    show ∃ σ', (if iN n ≤ iN j then _ else _) = _ ∧ _
    rw [if_neg (by rw [iN_le (by omega) (by omega)]; omega), if_pos ((iN_Ix (by omega)).mpr (by omega)), e, if_pos ((iN_Ix (by omega)).mpr (by omega)), iN_nat (show 60 * q + i + j < 2147483648 by omega), iN_nat (show j < 2147483648 by omega), iN_add1]
    obtain ⟨σ', g1, g2, g3, g4⟩ := m_cp2 hq hi f (j + 1) k (sI σ 33 0 (60 * q + i + j) (gI σ 34 0 j)) (by omega) (by omega)
    refine ⟨σ', g1, FK_I.trans g2, fun b hb => ?_, fun c h1 h2 => ?_⟩
    · rw [g3 b (by omega), gI_sI, if_neg (by omega)]
    · by_cases ec : c = j
      · rw [g3 _ (by omega), ec, gI_sI, if_pos ⟨rfl, rfl, rfl⟩]
      · rw [g4 c (by omega) h2, gI_sI, if_neg (by omega)]
theorem gI_cp (σ : Sto) (k i sp k2 i2 dp n a b c : Nat) : gI (cpI σ k i sp k2 i2 dp n) a b c = if a = k2 ∧ b = i2 ∧ dp ≤ c ∧ c < dp + n then gI σ k i (sp + (c - dp)) else gI σ a b c := rfl
theorem both_copy (a1 a2 a3 a4 a5 : Int32) : Both (f8_copy a1 a2 a3 a4 a5) (f9_copy a1 a2 a3 a4 a5) := Both.shx (fun σ A t hw hC hM => by
  obtain ⟨tr, fa⟩ := hC.2.2.2.2.2.2.2.2.1
  have sh := hC.2.2.2.2.2.2.2.1
  rcases iN_or a1 4 (by decide) with ⟨k, hk, rfl⟩ | hx
  · have ixk : Ix (iN k) 4 := (iN_Ix (by omega)).mpr hk
    rcases iN_or a3 4 (by decide) with ⟨o, ho, rfl⟩ | hx
    · have ixo : Ix (iN o) 4 := (iN_Ix (by omega)).mpr ho
      obtain ⟨p1, p2, p3⟩ := sh k hk
      obtain ⟨q1, q2, q3⟩ := sh o ho
      have m31 : ∀ z, z < 4 → ∀ τ, RM τ A → gI τ 31 0 (iN z).toNatClampNeg = A.2 3 z := fun z hz τ hM => by rw [iN_nat (by omega), (hM.2.2.2.2.1.1 z hz).1]
      rcases wfS_at hw.2.2 hk with e | ⟨l, s, hl, hs, e1, e2⟩
      · refine sh_fin hw hC (-11) 1 _ (Or.inr rfl) ?_ (fun hM => ?_)
        · unfold f8_copy f8_failed
          rw [c_sheet_in hk, bI_some, c_sheet_in ho, bI_some, rcs_some, if_pos rfl, rcs_some, if_pos rfl, c_nothing (by rw [gI_sI, if_neg (by omega)]; exact p1 e), bI_some, if_neg (by decide), bI_some]
          rfl
        · unfold f9_copy f9_fails
          rw [m_sheet_in hk, bI_some, if_neg (by decide), m_sheet_in ho, bI_some, if_neg (by decide), if_pos ixk, m31 k hk _ hM, e, if_pos (by decide), bI_some]
          rfl
      · have nek : ¬ A.2 3 k = -1 := by rw [e1]; exact iN_ne_m (by omega) (by decide)
        have lk : gI (sI σ 8 0 13 0) 4 k 2 = iN s := by rw [gI_sI, if_neg (by omega)]; exact ((p2 nek).2).trans e2
        have gk : gI (sI σ 8 0 13 0) 4 k 1 = iN l := by rw [gI_sI, if_neg (by omega)]; exact ((p2 nek).1).trans e1
        rcases wfS_at hw.2.2 ho with e' | ⟨l', s', hl', hs', e1', e2'⟩
        · refine sh_fin hw hC (-11) 1 _ (Or.inr rfl) ?_ (fun hM => ?_)
          · unfold f8_copy f8_failed
            rw [c_sheet_in hk, bI_some, c_sheet_in ho, bI_some, rcs_some, if_pos rfl, rcs_some, if_pos rfl, c_row hs lk, bI_some, if_pos rfl, c_nothing (by rw [gI_sI, if_neg (by omega)]; exact q1 e'), bI_some, if_neg (by decide), bI_some]
            rfl
          · unfold f9_copy f9_fails
            rw [m_sheet_in hk, bI_some, if_neg (by decide), m_sheet_in ho, bI_some, if_neg (by decide), if_pos ixk, m31 k hk _ hM, e1, if_neg (iN_neg (by omega)), if_pos ixo, m31 o ho _ hM, e', if_neg (by decide), bI_some]
            rfl
        · have neo : ¬ A.2 3 o = -1 := by rw [e1']; exact iN_ne_m (by omega) (by decide)
          have lo : gI (sI σ 8 0 13 0) 4 o 2 = iN s' := by rw [gI_sI, if_neg (by omega)]; exact ((q2 neo).2).trans e2'
          have go : gI (sI σ 8 0 13 0) 4 o 1 = iN l' := by rw [gI_sI, if_neg (by omega)]; exact ((q2 neo).1).trans e1'
          have m32 : ∀ τ, RM τ A → gI τ 32 0 (iN k).toNatClampNeg = iN s := fun τ hM => by rw [iN_nat (by omega), (hM.2.2.2.2.1.1 k hk).2 nek, e2]
          have m32' : ∀ τ, RM τ A → gI τ 32 0 (iN o).toNatClampNeg = iN s' := fun τ hM => by rw [iN_nat (by omega), (hM.2.2.2.2.1.1 o ho).2 neo, e2']
          by_cases el : l = l'
          · have ell : iN l = iN l' := by rw [el]
            by_cases r1 : okR s a2 a5
            · by_cases r2 : okR s' a4 a5
              · obtain ⟨i, n, rfl, rfl, hin⟩ := okR_nat hs r1
                obtain ⟨j, n', rfl, en, hjn⟩ := okR_nat hs' r2
                have en' : n = n' := (iN_inj (by omega) (by omega)).mp en
                subst en'
                have cond : ¬ iN i < 0 ∧ ¬ iN j < 0 ∧ ¬ iN n < 0 ∧ (iN i).toNatClampNeg + (iN n).toNatClampNeg ≤ 60 ∧ (iN j).toNatClampNeg + (iN n).toNatClampNeg ≤ 60 := ⟨iN_neg (by omega), iN_neg (by omega), iN_neg (by omega), by rw [iN_nat (by omega), iN_nat (by omega)]; omega, by rw [iN_nat (by omega), iN_nat (by omega)]; omega⟩
                have fr : ∀ z a b, ¬ (z = 19 ∧ a = o) → ¬ (z = 8 ∧ b = 13) → gI (cpI (sI σ 8 0 13 0) 19 k i 19 o j n) z a b = gI σ z a b := fun z a b h1 h2 => by rw [gI_cp, if_neg (by omega), gI_sI, if_neg (by omega)]
                refine ⟨iN n, cpI (sI σ 8 0 13 0) 19 k i 19 o j n, A.2 0 0, 0, fun a b => if a = 5 ∧ 60 * o + j ≤ b ∧ b < 60 * o + j + n then A.2 5 (60 * k + i + (b - (60 * o + j))) else A.2 a b, ?_, ⟨fun _ _ _ _ => rfl, fun z a b _ _ _ h h' => fr z a b (by omega) (by omega)⟩, fun z a b h => fr z a b (by omega) (by omega), ⟨by rw [fr _ _ _ (by omega) (by omega)]; exact tr, by rw [gI_cp, if_neg (by omega)]; exact gI_f⟩, fun z hz => ?_, fun z hz => hw.2.2 z hz, fun hM => ?_⟩
                · unfold f8_copy
                  rw [c_sheet_in hk, bI_some, c_sheet_in ho, bI_some, rcs_some, if_pos rfl, rcs_some, if_pos rfl, c_row hs lk, bI_some, if_pos rfl, c_row hs' lo, bI_some, if_pos rfl, gk, go, if_pos ell, c_hasCells hs lk, bI_some, if_pos r1, if_neg (by decide), c_hasCells hs' lo, bI_some, if_pos r2, if_neg (by decide), if_pos cond, iN_nat (show i < 2147483648 by omega), iN_nat (show j < 2147483648 by omega), iN_nat (show n < 2147483648 by omega)]
                · obtain ⟨z1, z2, z3⟩ := sh z hz
                  refine ⟨fun h => ?_, fun h => ?_, fun c hc => ?_⟩
                  · rw [fr _ _ _ (by omega) (by omega)]; exact z1 h
                  · rw [fr _ _ _ (by omega) (by omega), fr _ _ _ (by omega) (by omega)]; exact z2 h
                  · show _ = (if 5 = 5 ∧ 60 * o + j ≤ 60 * z + c ∧ 60 * z + c < 60 * o + j + n then A.2 5 (60 * k + i + (60 * z + c - (60 * o + j))) else A.2 5 (60 * z + c))
                    rw [gI_cp]
                    by_cases ez : z = o ∧ j ≤ c ∧ c < j + n
                    · rw [if_pos ⟨rfl, ez⟩, if_pos (by omega), gI_sI, if_neg (by omega), p3 _ (by omega), show 60 * k + i + (60 * z + c - (60 * o + j)) = 60 * k + (i + (c - j)) by omega]
                    · rw [if_neg (fun w => ez w.2), if_neg (by omega), gI_sI, if_neg (by omega)]; exact z3 c hc
                · generalize hs1 : cpI (sI σ 8 0 13 0) 19 k i 19 o j n = s1 at hM
                  obtain ⟨τ1, x, u1, u2, u3, u4⟩ := m_cp1 (K := fun v37 s38 => (l9_copy_157 (iN o) (iN j) (iN n) 300 0 s38)) (a3 := iN o) (a4 := iN j) hk (show i + n ≤ 60 by omega) n 0 300 (sI s1 9 0 15 0) (by omega) (by omega)
                  obtain ⟨τ2, v1, v2, v3, v4⟩ := m_cp2 ho (show j + n ≤ 60 by omega) n 0 300 τ1 (by omega) (by omega)
                  have fr9 : ∀ z a b, ¬ ((z = 33 ∨ z = 34) ∧ a = 0) → ¬ (z = 9 ∧ b = 15) → gI τ2 z a b = gI s1 z a b := fun z a b h1 h2 => by rw [v2.2 z a b (by omega), u2.2 z a b (by omega), gI_sI, if_neg (by omega)]
                  refine ⟨τ2, ?_, ⟨v2.1.trans u2.1, fun z a b h => fr9 z a b (by omega) (by omega)⟩, fun z a b h => fr9 z a b (by omega) (by omega), ⟨by rw [fr9 _ _ _ (by omega) (by omega)]; exact hM.2.2.2.2.2.1, by rw [v2.2 _ _ _ (by omega), u2.2 _ _ _ (by omega), gI_sI, if_pos (by decide)]⟩, fun z hz => ?_, fun b hb => ?_⟩
                  · unfold f9_copy
                    rw [m_sheet_in hk, bI_some, if_neg (by decide), m_sheet_in ho, bI_some, if_neg (by decide), if_pos ixk, m31 k hk _ hM, e1, if_neg (iN_neg (by omega)), if_pos ixo, m31 o ho _ hM, e1', if_pos (lane_le l' hl'), if_pos ixk, if_pos ixo, if_pos ell, if_neg (iN_neg (by omega)), if_neg (iN_neg (by omega)), if_neg (iN_neg (by omega)), if_pos ixk, m32 _ hM, if_neg (Int32.not_lt.mpr ((le_sub hs r1.2.1).mpr r1.2.2)), if_pos ixo, m32' _ hM, if_pos ((le_sub hs' r2.2.1).mpr r2.2.2)]
                    exact u1.trans v1
                  · rw [fr9 _ _ _ (by omega) (by omega), fr9 _ _ _ (by omega) (by omega)]; exact hM.2.2.2.2.1.1 z hz
                  · show gI τ2 33 0 b = (if 5 = 5 ∧ 60 * o + j ≤ b ∧ b < 60 * o + j + n then A.2 5 (60 * k + i + (b - (60 * o + j))) else A.2 5 b)
                    have e33 : ∀ c, c < 240 → gI (sI s1 9 0 15 0) 33 0 c = A.2 5 c := fun c hc => by rw [gI_sI, if_neg (by omega)]; exact hM.2.2.2.2.1.2 c hc
                    by_cases eb : 60 * o + j ≤ b ∧ b < 60 * o + j + n
                    · rw [if_pos ⟨rfl, eb⟩]
                      have w4 := v4 (b - (60 * o + j)) (by omega) (by omega)
                      rw [show 60 * o + j + (b - (60 * o + j)) = b by omega] at w4
                      rw [w4, u4 _ (by omega) (by omega), e33 _ (by omega)]
                    · rw [if_neg (fun w => eb w.2), v3 b (by omega), u2.2 _ _ _ (by omega), e33 b hb]
              · refine sh_fin hw hC (-13) 3 _ (Or.inr rfl) ?_ (fun hM => ?_)
                · unfold f8_copy f8_failed
                  rw [c_sheet_in hk, bI_some, c_sheet_in ho, bI_some, rcs_some, if_pos rfl, rcs_some, if_pos rfl, c_row hs lk, bI_some, if_pos rfl, c_row hs' lo, bI_some, if_pos rfl, gk, go, if_pos ell, c_hasCells hs lk, bI_some, if_pos r1, if_neg (by decide), c_hasCells hs' lo, bI_some, if_neg r2, if_pos rfl, bI_some]
                  rfl
                · unfold f9_copy f9_fails
                  rw [m_sheet_in hk, bI_some, if_neg (by decide), m_sheet_in ho, bI_some, if_neg (by decide), if_pos ixk, m31 k hk _ hM, e1, if_neg (iN_neg (by omega)), if_pos ixo, m31 o ho _ hM, e1', if_pos (lane_le l' hl'), if_pos ixk, if_pos ixo, if_pos ell, if_neg (nlt0.mpr r1.2.1), if_neg (nlt0.mpr r1.1), if_pos ixk, m32 _ hM, if_neg (Int32.not_lt.mpr ((le_sub hs r1.2.1).mpr r1.2.2)), if_pos ixo, m32' _ hM]
                  by_cases h4 : a4 < 0
                  · rw [if_pos h4, bI_some]; rfl
                  · rw [if_neg h4, if_neg (fun q => r2 ⟨nlt0.mp h4, r1.2.1, (le_sub hs' r1.2.1).mp q⟩), bI_some]; rfl
            · refine sh_fin hw hC (-13) 3 _ (Or.inr rfl) ?_ (fun hM => ?_)
              · unfold f8_copy f8_failed
                rw [c_sheet_in hk, bI_some, c_sheet_in ho, bI_some, rcs_some, if_pos rfl, rcs_some, if_pos rfl, c_row hs lk, bI_some, if_pos rfl, c_row hs' lo, bI_some, if_pos rfl, gk, go, if_pos ell, c_hasCells hs lk, bI_some, if_neg r1, if_pos rfl, bI_some]
                rfl
              · unfold f9_copy f9_fails
                rw [m_sheet_in hk, bI_some, if_neg (by decide), m_sheet_in ho, bI_some, if_neg (by decide), if_pos ixk, m31 k hk _ hM, e1, if_neg (iN_neg (by omega)), if_pos ixo, m31 o ho _ hM, e1', if_pos (lane_le l' hl'), if_pos ixk, if_pos ixo, if_pos ell, if_pos ixk, m32 _ hM, if_pos ixo, m32' _ hM]
                by_cases h5 : a5 < 0
                · rw [if_pos h5, bI_some]; rfl
                rw [if_neg h5]
                by_cases h2 : a2 < 0
                · rw [if_pos h2, bI_some]; rfl
                rw [if_neg h2]
                by_cases h4 : a4 < 0
                · rw [if_pos h4, bI_some]; rfl
                rw [if_neg h4, if_pos (Int32.not_le.mp (fun q => r1 ⟨nlt0.mp h2, nlt0.mp h5, (le_sub hs (nlt0.mp h5)).mp q⟩)), bI_some]; rfl
          · have nel : ¬ iN l = iN l' := by rw [iN_inj (by omega) (by omega)]; exact el
            refine sh_fin hw hC (-12) 2 _ (Or.inr rfl) ?_ (fun hM => ?_)
            · unfold f8_copy f8_failed
              rw [c_sheet_in hk, bI_some, c_sheet_in ho, bI_some, rcs_some, if_pos rfl, rcs_some, if_pos rfl, c_row hs lk, bI_some, if_pos rfl, c_row hs' lo, bI_some, if_pos rfl, gk, go, if_neg nel, bI_some]
              rfl
            · unfold f9_copy f9_fails
              rw [m_sheet_in hk, bI_some, if_neg (by decide), m_sheet_in ho, bI_some, if_neg (by decide), if_pos ixk, m31 k hk _ hM, e1, if_neg (iN_neg (by omega)), if_pos ixo, m31 o ho _ hM, e1', if_pos (lane_le l' hl'), if_pos ixk, if_pos ixo, if_neg nel, bI_some]
              rfl
    · refine sh_fin hw hC (-1) 0 _ (Or.inl ⟨rfl, rfl⟩) ?_ (fun hM => ?_)
      · unfold f8_copy
        rw [c_sheet_in hk, bI_some, c_sheet_out hx, bI_some, rcs_some, if_pos rfl, rcs_none]
      · unfold f9_copy f9_refused
        rw [m_sheet_in hk, bI_some, if_neg (by decide), m_sheet_out hx, bI_some, if_pos rfl, bI_some]
  · refine sh_fin hw hC (-1) 0 _ (Or.inl ⟨rfl, rfl⟩) ?_ (fun hM => ?_)
    · have u : ∃ v, f8_sheetAt a3 (sI σ 8 0 13 0) = some (v, sI σ 8 0 13 0) := by
        rcases iN_or a3 4 (by decide) with ⟨o, ho, rfl⟩ | hx
        · exact ⟨_, c_sheet_in ho⟩
        · exact ⟨_, c_sheet_out hx⟩
      obtain ⟨v, hv⟩ := u
      unfold f8_copy
      rw [c_sheet_out hx, bI_some, hv, bI_some, rcs_none]
    · unfold f9_copy f9_refused
      rw [m_sheet_out hx, bI_some, if_pos rfl, bI_some])
