/-! law, undo, push, set: what they change -/
theorem Both.any {α : Type} {f g : Sto → Option (α × Sto)} (h : ∀ σ A t, wfA A → RC σ t A → RM σ A → ∃ r σ1 σ2 A', f σ = some (r, σ1) ∧ wfA A' ∧ (∃ t', RC σ1 t' A') ∧ FC σ σ1 ∧ (RM σ1 A → g σ1 = some (r, σ2) ∧ FMm σ1 σ2 ∧ RM σ2 A')) : Both f g := by
  intro σ A ⟨hw, ⟨t, hC⟩, hM⟩
  obtain ⟨r, σ1, σ2, A', h1, h2, ⟨t', h3⟩, h4, h5⟩ := h σ A t hw hC hM
  obtain ⟨g1, g2, g3⟩ := h5 (hM.fc h4)
  refine ⟨r, σ1, σ2, A', h1, fun j => h4 46 0 j (by omega), g1, ⟨h2, ⟨t', h3.agr g2.agr⟩, g3⟩, fun j => ?_⟩
  rw [g2.2 46 0 j (by omega), h4 46 0 j (by omega)]
def upA (A : AS) (v k : Nat) (cs : Nat → Nat) (sg : Nat → Int32) : AS := (fun a b => if a = 0 then (if b = 4 then v else if b = 5 then k else A.1 0 b) else if a = 4 then cs b else A.1 a b, fun a b => if a = 1 then sg b else A.2 a b)
def AgrU (σ σ' : Sto) : Prop := (∀ k a b, (k = 8 ∨ k = 13) → gR σ' k a b = gR σ k a b) ∧ ∀ k a b, ¬ (k = 6 ∨ k = 16 ∨ k = 18 ∨ k = 20 ∨ k = 11) → ¬ (k = 8 ∧ (b = 2 ∨ b = 4)) → ¬ (k = 9 ∨ (24 ≤ k ∧ k < 42)) → gI σ' k a b = gI σ k a b
theorem AgrU.trans {a b c : Sto} (h1 : AgrU a b) (h2 : AgrU b c) : AgrU a c := ⟨fun k i j h => (h2.1 k i j h).trans (h1.1 k i j h), fun k i j p q r => (h2.2 k i j p q r).trans (h1.2 k i j p q r)⟩
theorem FS.agrU {i : Nat} {σ σ' : Sto} (h : FS i σ σ') : AgrU σ σ' := ⟨fun k a b hk => h.1.2 k a b (by omega), fun k a b h1 _ _ => h.2 k a b (by omega)⟩
theorem CX.up {σ σ' : Sto} {t v k : Nat} {cs : Nat → Nat} {sg : Nat → Int32} {A : AS} (h : AgrU σ σ') (hX : CX σ t A) (hk : gI σ' 8 0 4 = iN k) (hcs : ∀ j, j < k → gI σ' 20 0 j = iN (cs j)) (hsg : ∀ c, c < (aB A).1 * (aB A).2.1 → gI σ' 11 t c = sg c) : CX σ' t (upA A v k cs sg) := by
  obtain ⟨x1, ⟨b1, b2, b3, b4, b5, b6⟩, ⟨x3, x4⟩, x5, x6, x7, x8⟩ := hX
  have ei : ∀ c a b, c = 0 ∨ c = 1 ∨ c = 5 → gI σ' c a b = gI σ c a b := fun c a b hc => h.2 _ _ _ (by omega) (by omega) (by omega)
  refine ⟨?_, ⟨?_, ?_, ?_, hsg, fun j => ?_, fun j => ?_⟩, ⟨?_, ?_⟩, fun p hp => ?_, fun e he => EF.frame (x6 e he) (h.1 _ _ _ (by omega)) ei, hk, hcs⟩
  · rw [h.1 _ _ _ (by omega)]; exact x1
  · rw [h.2 _ _ _ (by omega) (by omega) (by omega)]; exact b1
  · rw [h.2 _ _ _ (by omega) (by omega) (by omega)]; exact b2
  · rw [h.2 _ _ _ (by omega) (by omega) (by omega)]; exact b3
  · rw [h.2 _ _ _ (by omega) (by omega) (by omega)]; exact b5 j
  · rw [h.2 _ _ _ (by omega) (by omega) (by omega)]; exact b6 j
  · rw [h.2 _ _ _ (by omega) (by omega) (by omega)]; exact x3
  · rw [h.2 _ _ _ (by omega) (by omega) (by omega)]; exact x4
  · rw [h.2 _ _ _ (by omega) (by omega) (by omega)]; exact x5 p hp
theorem RC.up {σ σ' : Sto} {t v k : Nat} {cs : Nat → Nat} {sg : Nat → Int32} {A : AS} (h : AgrU σ σ') (hC : RC σ t A) (hv : gI σ' 8 0 2 = iN v) (hk : gI σ' 8 0 4 = iN k) (hcs : ∀ j, j < k → gI σ' 20 0 j = iN (cs j)) (hsg : ∀ c, c < (aB A).1 * (aB A).2.1 → gI σ' 11 t c = sg c) (hS : laid (upA A v k cs sg) → CS σ' 0 t v (nowP (upA A v k cs sg))) : RC σ' t (upA A v k cs sg) := by
  obtain ⟨⟨t1, t2⟩, hX, ⟨c1, c2⟩, e1, l1, ⟨r1, r2⟩, n1, s1, ⟨f1, f2⟩, u1, u2⟩ := hC
  have ei : ∀ c a b, c = 0 ∨ c = 1 ∨ c = 5 → gI σ' c a b = gI σ c a b := fun c a b hc => h.2 _ _ _ (by omega) (by omega) (by omega)
  refine ⟨⟨t1, ?_⟩, hX.up h hk hcs hsg, ⟨?_, fun x hx => ?_⟩, fun e he => EK.frame (e1 e he) (h.1 _ _ _ (by omega)) ei, hv, ⟨?_, fun k hk => ?_⟩, hS, fun k hk => ?_, ⟨?_, ?_⟩, fun j => ?_, fun j => ?_⟩
  · rw [h.1 _ _ _ (by omega)]; exact t2
  · rw [h.2 _ _ _ (by omega) (by omega) (by omega)]; exact c1
  · rw [h.2 _ _ _ (by omega) (by omega) (by omega)]; exact c2 x hx
  · rw [h.2 _ _ _ (by omega) (by omega) (by omega)]; exact r1
  · rw [h.2 21 _ _ (by omega) (by omega) (by omega), h.2 22 _ _ (by omega) (by omega) (by omega)]; exact r2 k hk
  · rw [h.2 4 _ 1 (by omega) (by omega) (by omega), h.2 4 _ 2 (by omega) (by omega) (by omega)]
    obtain ⟨q1, q2, q3⟩ := s1 k hk
    exact ⟨q1, q2, fun j hj => by rw [h.2 _ _ _ (by omega) (by omega) (by omega)]; exact q3 j hj⟩
  · rw [h.2 _ _ _ (by omega) (by omega) (by omega)]; exact f1
  · rw [h.2 _ _ _ (by omega) (by omega) (by omega)]; exact f2
  · rw [h.2 _ _ _ (by omega) (by omega) (by omega)]; exact u1 j
  · rw [h.2 _ _ _ (by omega) (by omega) (by omega)]; exact u2 j
theorem RM.up {σ σ' : Sto} {v k : Nat} {cs : Nat → Nat} {sg : Nat → Int32} {A : AS} (h : ∀ k a b, (k = 9 ∨ (24 ≤ k ∧ k < 34)) → ¬ (k = 9 ∧ (b = 8 ∨ b = 9)) → ¬ (k = 28 ∨ k = 24) → gI σ' k a b = gI σ k a b) (hM : RM σ A) (h8 : gI σ' 9 0 8 = iN v) (h9 : gI σ' 9 0 9 = iN k) (hcs : ∀ j, j < k → gI σ' 28 0 j = iN (cs j)) (hsg : ∀ c, c < (aB A).1 * (aB A).2.1 → gI σ' 24 0 c = sg c) : RM σ' (upA A v k cs sg) := by
  obtain ⟨⟨⟨x1, x2, x3⟩, ⟨x4, x5⟩, x6, x7, x8, x9⟩, m1, m2, ⟨m3, m4⟩, ⟨m5, m6⟩, m7, m8⟩ := hM
  refine ⟨⟨⟨?_, ?_, hsg⟩, ⟨?_, fun e he => ?_⟩, ?_, fun p hp => ?_, h9, hcs⟩, fun e he => ?_, h8, ⟨?_, fun k hk => ?_⟩, ⟨fun k hk => ?_, fun j hj => ?_⟩, ?_, ?_⟩
  · rw [h _ _ _ (by omega) (by omega) (by omega)]; exact x1
  · rw [h _ _ _ (by omega) (by omega) (by omega)]; exact x2
  · rw [h _ _ _ (by omega) (by omega) (by omega)]; exact x4
  · rw [h 26 _ _ (by omega) (by omega) (by omega), h 27 _ _ (by omega) (by omega) (by omega)]; exact x5 e he
  · rw [h _ _ _ (by omega) (by omega) (by omega)]; exact x6
  · rw [h _ _ _ (by omega) (by omega) (by omega)]; exact x7 p hp
  · rw [h 26 _ _ (by omega) (by omega) (by omega), h 27 _ _ (by omega) (by omega) (by omega)]; exact m1 e he
  · rw [h _ _ _ (by omega) (by omega) (by omega)]; exact m3
  · rw [h 29 _ _ (by omega) (by omega) (by omega), h 30 _ _ (by omega) (by omega) (by omega)]; exact m4 k hk
  · rw [h 31 _ _ (by omega) (by omega) (by omega), h 32 _ _ (by omega) (by omega) (by omega)]; exact m5 k hk
  · rw [h _ _ _ (by omega) (by omega) (by omega)]; exact m6 j hj
  · rw [h _ _ _ (by omega) (by omega) (by omega)]; exact m7
  · rw [h _ _ _ (by omega) (by omega) (by omega)]; exact m8
theorem c_replayNow {σ : Sto} {t : Nat} {A : AS} (h : laid A ∨ unlaid A) (hX : CX σ t A) (hv : gI σ 8 0 2 = iN (aV A)) : ∃ σ', f8_replayNow σ = some σ' ∧ (laid A → CS σ' 0 t (aV A) (nowP A)) ∧ FS 0 σ σ' := by
  unfold f8_replayNow
  rw [hv]
  rcases h with h | h
  · obtain ⟨σ', g1, g2, g3⟩ := c_replay (i := 0) (but := -9) h h.2.2.2.2.2.2.2 hX
    rw [g1, bV_some]
    exact ⟨σ', rfl, fun _ => g2, g3⟩
  · unfold f8_replay f6_beginOn
    rw [hX.1, dr_some]
    have hn : aN A = 0 := h.2.2.1
    have hK : aK A = 0 := h.2.2.2.2.2.1
    generalize hs1 : sI (sI (sI (sR σ 6 0 0 (some (2, t))) 6 0 3 (iN (aV A))) 6 0 1 0) 6 0 2 0 = s1
    have fs : FS 0 σ s1 := by
      rw [← hs1]
      exact ((FS_R.trans (FS_I (Or.inl rfl))).trans (FS_I (Or.inl rfl))).trans (FS_I (Or.inl rfl))
    obtain ⟨s2, g1, g2, g3, g4, g5⟩ := c_beginL (i := 0) (t := t) (n := 0) (st := fun _ => 0) (by decide) (fun p hp => by omega) 5 0 300 s1 rfl (by decide) (by rw [fs.2 _ _ _ (by omega), hX.2.2.1.1, hn]) (fun p hp => by omega) (fun p hp => by omega)
    have e4 : gI s2 8 0 4 = 0 := by rw [g2.2 _ _ _ (by omega), fs.2 _ _ _ (by omega), hX.2.2.2.2.2.1, hK]; rfl
    have e0 : l8_replay_12 0 (-9) 300 0 s2 = some s2 := by
      show (if gI s2 8 0 4 ≤ 0 then _ else _) = _
      rw [e4, if_pos (by decide)]
    refine ⟨s2, ?_, fun hl => ?_, fs.trans g2⟩
    · rw [show (0 : Int32) = iN 0 from rfl, g1, bV_some]
      rw [show iN 0 = (0 : Int32) from rfl, e0, bV_some]
    · have := hl.2.1.1
      have := h.2.2.2.1
      omega
theorem c_laid {σ : Sto} {t : Nat} {A : AS} (h : laid A) (hx : gI σ 2 t 3 = iN (aM A)) : f2_isLaid t σ = some (1, σ) := by
  have := h.2.1
  unfold f2_isLaid
  rw [hx, if_neg (by rw [show (0 : Int32) = iN 0 from rfl, iN_le (by omega) (by omega)]; omega)]
theorem c_unlaid {σ : Sto} {t : Nat} {A : AS} (h : unlaid A) (hx : gI σ 2 t 3 = iN (aM A)) : f2_isLaid t σ = some (0, σ) := by
  unfold f2_isLaid
  rw [hx, h.2.2.2.1, if_pos (by decide)]
theorem m_laid {σ : Sto} {A : AS} (h : laid A) (hx : gI σ 9 0 1 = iN ((aB A).1 * (aB A).2.1)) : ¬ gI σ 9 0 1 = 0 := by
  have h30 := okB_30 h.1
  have hp : 0 < (aB A).1 * (aB A).2.1 := Nat.mul_pos (by have := h.1.1.1; omega) (by have := h.1.2.1.1; omega)
  rw [hx, show (0 : Int32) = iN 0 from rfl, iN_inj (by omega) (by omega)]
  omega
theorem m_unlaid {σ : Sto} {A : AS} (h : unlaid A) (hx : gI σ 9 0 1 = iN ((aB A).1 * (aB A).2.1)) : gI σ 9 0 1 = 0 := by
  rw [hx]
  show iN (A.1 0 0 * A.1 0 1) = 0
  rw [h.1, Nat.zero_mul]
  rfl
theorem both_law (a1 : Int32) : Both (f8_law a1) (f9_law a1) := Both.any (fun σ A t hw hC hM => by
  have no : ∀ r, f8_law a1 σ = some (r, σ) → (∀ τ, RM τ A → f9_law a1 τ = some (r, τ)) → ∃ r σ1 σ2 A', f8_law a1 σ = some (r, σ1) ∧ wfA A' ∧ (∃ t', RC σ1 t' A') ∧ FC σ σ1 ∧ (RM σ1 A → f9_law a1 σ1 = some (r, σ2) ∧ FMm σ1 σ2 ∧ RM σ2 A') := fun r h1 h2 => ⟨r, σ, σ, A, h1, hw, ⟨t, hC⟩, FC.rfl, fun hM => ⟨h2 _ hM, FMm.rfl, hM⟩⟩
  have x1 := hC.2.1.1
  rcases iN_or a1 3 (by decide) with ⟨v, hv, rfl⟩ | hx
  · rcases hw.1 with hl | hl
    · have hl' : laid (upA A v (aK A) (A.1 4) (A.2 1)) := ⟨hl.1, hl.2.1, hl.2.2.1, hl.2.2.2.1, hl.2.2.2.2.1, hl.2.2.2.2.2.1, hl.2.2.2.2.2.2.1, hv⟩
      have ag : AgrU σ (sI σ 8 0 2 (iN v)) := ⟨fun _ _ _ _ => rfl, fun k a b _ h _ => by rw [gI_sI, if_neg (by omega)]⟩
      have e4 : gI (sI σ 8 0 2 (iN v)) 8 0 4 = iN (aK A) := by rw [gI_sI, if_neg (by omega)]; exact hC.2.1.2.2.2.2.2.1
      have e20 : ∀ j, j < aK A → gI (sI σ 8 0 2 (iN v)) 20 0 j = iN (A.1 4 j) := fun j hj => by rw [gI_sI, if_neg (by omega)]; exact hC.2.1.2.2.2.2.2.2 j hj
      have e11 : ∀ c, c < (aB A).1 * (aB A).2.1 → gI (sI σ 8 0 2 (iN v)) 11 t c = A.2 1 c := fun c hc => by rw [gI_sI, if_neg (by omega)]; exact hC.2.1.2.1.2.2.2.1 c hc
      have hX : CX (sI σ 8 0 2 (iN v)) t (upA A v (aK A) (A.1 4) (A.2 1)) := hC.2.1.up ag e4 e20 e11
      obtain ⟨s2, g1, g2, g3⟩ := c_replayNow (Or.inl hl') hX (by rw [gI_sI, if_pos (by decide)]; rfl)
      refine ⟨iN (aV A), s2, sI s2 9 0 8 (iN v), upA A v (aK A) (A.1 4) (A.2 1), ?_, ⟨Or.inl hl', hw.2⟩, ⟨t, hC.up (ag.trans g3.agrU) ?_ ?_ ?_ ?_ g2⟩, FC.trans (FC_lt (by decide)) g3.fc, fun hM => ⟨?_, FMm_9, RM.up (fun k a b _ h _ => ?_) hM ?_ ?_ ?_ ?_⟩⟩
      · unfold f8_law
        rw [show (3 : Int32) = iN 3 from rfl, isBelow_in σ (by decide) hv, bI_some, if_neg (by decide), x1, dr_some, c_laid hl hC.2.1.2.2.1.2, bI_some, if_neg (by decide), g1, bV_some, hC.2.2.2.2.1]
      · rw [g3.2 _ _ _ (by omega), gI_sI, if_pos (by decide)]
      · rw [g3.2 _ _ _ (by omega)]; exact e4
      · exact fun j hj => by rw [g3.2 _ _ _ (by omega)]; exact e20 j hj
      · exact fun c hc => by rw [g3.2 _ _ _ (by omega)]; exact e11 c hc
      · unfold f9_law
        rw [in3_in hv, bI_some, if_neg (by decide), if_neg (m_laid hl hM.1.1.2.1), hM.2.2.1]
      · rw [gI_sI, if_neg (by omega)]
      · rw [gI_sI, if_pos (by decide)]
      · rw [gI_sI, if_neg (by omega)]; exact hM.1.2.2.2.2.1
      · exact fun j hj => by rw [gI_sI, if_neg (by omega)]; exact hM.1.2.2.2.2.2 j hj
      · exact fun c hc => by rw [gI_sI, if_neg (by omega)]; exact hM.1.1.2.2 c hc
    · refine no (-3) ?_ (fun τ hM => ?_)
      · unfold f8_law
        rw [show (3 : Int32) = iN 3 from rfl, isBelow_in σ (by decide) hv, bI_some, if_neg (by decide), x1, dr_some, c_unlaid hl hC.2.1.2.2.1.2, bI_some, if_pos rfl]
      · unfold f9_law
        rw [in3_in hv, bI_some, if_neg (by decide), if_pos (m_unlaid hl hM.1.1.2.1)]
  · refine no (-2) ?_ (fun τ hM => ?_)
    · unfold f8_law
      rw [show (3 : Int32) = iN 3 from rfl, isBelow_out σ hx, bI_some, if_pos rfl]
    · unfold f9_law
      rw [in3_out hx, bI_some, if_pos rfl])
theorem iN_gt {x : Int32} {n : Nat} (hn : n < 1000) (h : x < 0 ∨ iN (n + 1) ≤ x) (h0 : ¬ x < 0) : ¬ x ≤ iN n := fun hle => by
  have h1 := h.resolve_left h0
  rw [Int32.le_iff_toInt_le, iN_toInt (by omega)] at h1
  rw [Int32.le_iff_toInt_le, iN_toInt (by omega)] at hle
  omega
theorem both_undo (a1 : Int32) : Both (f8_undo a1) (f9_undo a1) := Both.any (fun σ A t hw hC hM => by
  have hK : aK A ≤ 30 := by
    rcases hw.1 with h | h
    · exact h.2.2.2.2.2.1
    · rw [h.2.2.2.2.2.1]; decide
  have k8 := hC.2.1.2.2.2.2.2.1
  rcases iN_or a1 (aK A + 1) (by omega) with ⟨k, hk, rfl⟩ | hx
  · have hl' : laid (upA A (aV A) (aK A - k) (A.1 4) (A.2 1)) ∨ unlaid (upA A (aV A) (aK A - k) (A.1 4) (A.2 1)) := by
      rcases hw.1 with hl | hl
      · refine Or.inl ⟨hl.1, hl.2.1, hl.2.2.1, hl.2.2.2.1, hl.2.2.2.2.1, ?_, fun j hj => hl.2.2.2.2.2.2.1 j ?_, hl.2.2.2.2.2.2.2⟩
        · show aK A - k ≤ 30
          omega
        · have : j < aK A - k := hj
          omega
      · refine Or.inr ⟨hl.1, hl.2.1, hl.2.2.1, hl.2.2.2.1, hl.2.2.2.2.1, ?_, hl.2.2.2.2.2.2⟩
        show aK A - k = 0
        have := hl.2.2.2.2.2.1
        omega
    have ag : AgrU σ (sI σ 8 0 4 (iN (aK A - k))) := ⟨fun _ _ _ _ => rfl, fun k a b _ h _ => by rw [gI_sI, if_neg (by omega)]⟩
    have e2 : gI (sI σ 8 0 4 (iN (aK A - k))) 8 0 2 = iN (aV A) := by rw [gI_sI, if_neg (by omega)]; exact hC.2.2.2.2.1
    have e4 : gI (sI σ 8 0 4 (iN (aK A - k))) 8 0 4 = iN (aK A - k) := by rw [gI_sI, if_pos (by decide)]
    have e20 : ∀ j, j < aK A - k → gI (sI σ 8 0 4 (iN (aK A - k))) 20 0 j = iN (A.1 4 j) := fun j hj => by rw [gI_sI, if_neg (by omega)]; exact hC.2.1.2.2.2.2.2.2 j (by omega)
    have e11 : ∀ c, c < (aB A).1 * (aB A).2.1 → gI (sI σ 8 0 4 (iN (aK A - k))) 11 t c = A.2 1 c := fun c hc => by rw [gI_sI, if_neg (by omega)]; exact hC.2.1.2.1.2.2.2.1 c hc
    have hX : CX (sI σ 8 0 4 (iN (aK A - k))) t (upA A (aV A) (aK A - k) (A.1 4) (A.2 1)) := hC.2.1.up ag e4 e20 e11
    obtain ⟨s2, g1, g2, g3⟩ := c_replayNow hl' hX e2
    refine ⟨iN (aK A - k), s2, sI s2 9 0 9 (iN (aK A - k)), upA A (aV A) (aK A - k) (A.1 4) (A.2 1), ?_, ⟨hl', hw.2⟩, ⟨t, hC.up (ag.trans g3.agrU) ?_ ?_ ?_ ?_ g2⟩, FC.trans (FC_lt (by decide)) g3.fc, fun hM => ⟨?_, FMm_9, RM.up (fun k a b _ h _ => ?_) hM ?_ ?_ ?_ ?_⟩⟩
    · unfold f8_undo
      rw [k8, if_neg (iN_neg (by omega)), if_pos ((iN_le (by omega) (by omega)).mpr (by omega)), iN_sub (by omega), g1, bV_some, g3.2 _ _ _ (by omega), e4]
    · rw [g3.2 _ _ _ (by omega)]; exact e2
    · rw [g3.2 _ _ _ (by omega)]; exact e4
    · exact fun j hj => by rw [g3.2 _ _ _ (by omega)]; exact e20 j hj
    · exact fun c hc => by rw [g3.2 _ _ _ (by omega)]; exact e11 c hc
    · unfold f9_undo
      rw [hM.1.2.2.2.2.1, in_le_in (by omega) (by omega), bI_some, if_neg (by decide), hM.1.2.2.2.2.1, iN_sub (by omega)]
      rfl
    · rw [gI_sI, if_neg (by omega)]
    · rw [gI_sI, if_neg (by omega)]; exact hM.2.2.1
    · rw [gI_sI, if_pos (by decide)]
    · exact fun j hj => by rw [gI_sI, if_neg (by omega)]; exact hM.1.2.2.2.2.2 j (by omega)
    · exact fun c hc => by rw [gI_sI, if_neg (by omega)]; exact hM.1.1.2.2 c hc
  · refine ⟨-2, σ, σ, A, ?_, hw, ⟨t, hC⟩, FC.rfl, fun hM => ⟨?_, FMm.rfl, hM⟩⟩
    · unfold f8_undo
      rw [k8]
      by_cases h0 : a1 < 0
      · rw [if_pos h0]
      · rw [if_neg h0, if_neg (iN_gt (by omega) hx h0)]
    · unfold f9_undo
      rw [hM.1.2.2.2.2.1, in_le_out (by omega) hx, bI_some, if_pos rfl])
