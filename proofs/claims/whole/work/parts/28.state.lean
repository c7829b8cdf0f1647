/-! what both sides' stores say of what stands -/
def kk (k : Nat) : Nat := if k = 0 then 0 else if k = 1 then 1 else 5
def EK (σ : Sto) (t e k s : Nat) : Prop := ∃ ix, gR σ 13 t e = some (kk k, ix) ∧ gI σ (kk k) ix 0 = iN e ∧ gI σ (kk k) ix 1 = iN s
def cAt (n x : Nat) : Nat := 100 * (x / (4 * n)) + 10 * (x / 4 % n) + x % 4
abbrev nowP (A : AS) : Nat → Nat := aRun A (aV A) (-9) (aK A)
def unlaid (A : AS) : Prop := A.1 0 0 = 0 ∧ A.1 0 1 = 0 ∧ aN A = 0 ∧ aM A = 0 ∧ aV A = 0 ∧ aK A = 0 ∧ aR A = 0
def wfS (A : AS) : Prop := ∀ k, k < 4 → A.2 3 k = -1 ∨ ((A.2 3 k = 0 ∨ A.2 3 k = 1 ∨ A.2 3 k = 2) ∧ ∃ s, s ≤ 60 ∧ A.2 4 k = iN s)
def wfR (A : AS) : Prop := aR A ≤ 8 ∧ ∀ k, k < aR A → A.1 5 k < aN A ∧ (A.2 2 k = -9 ∨ ∃ c, c < (aB A).1 * (aB A).2.1 ∧ A.2 2 k = iN c)
def wfA (A : AS) : Prop := (laid A ∨ unlaid A) ∧ wfR A ∧ wfS A
def RCs (σ : Sto) (A : AS) : Prop := ∀ k, k < 4 → (A.2 3 k = -1 → gI σ 4 k 2 = -1) ∧ (¬ A.2 3 k = -1 → gI σ 4 k 1 = A.2 3 k ∧ gI σ 4 k 2 = A.2 4 k) ∧ ∀ j, j < 60 → gI σ 19 k j = A.2 5 (60 * k + j)
def RCr (σ : Sto) (A : AS) : Prop := gI σ 8 0 7 = iN (aR A) ∧ ∀ k, k < aR A → gI σ 21 0 k = iN (A.1 5 k) ∧ gI σ 22 0 k = A.2 2 k
def RCc (σ : Sto) (t : Nat) (A : AS) : Prop := gI σ 2 t 4 = iN (4 * aN A * aM A) ∧ ∀ x, x < 4 * aN A * aM A → gI σ 10 t x = iN (cAt (aN A) x)
def RC (σ : Sto) (t : Nat) (A : AS) : Prop := ((t = 0 ∨ t = 1) ∧ gR σ 8 0 1 = some (2, 1 - t)) ∧ CX σ t A ∧ RCc σ t A ∧ (∀ e, e < aM A → EK σ t e (A.1 2 e) (A.1 3 e)) ∧ gI σ 8 0 2 = iN (aV A) ∧ RCr σ A ∧ (laid A → CS σ 0 t (aV A) (nowP A)) ∧ RCs σ A ∧ (gI σ 7 0 0 = A.2 0 0 ∧ gI σ 8 0 13 = A.2 0 1) ∧ (∀ j, gI σ 44 0 j = mtabs 44 j) ∧ ∀ j, gI σ 45 0 j = mtabs 45 j
def RMs (σ : Sto) (A : AS) : Prop := (∀ k, k < 4 → gI σ 31 0 k = A.2 3 k ∧ (¬ A.2 3 k = -1 → gI σ 32 0 k = A.2 4 k)) ∧ ∀ j, j < 240 → gI σ 33 0 j = A.2 5 j
def RMr (σ : Sto) (A : AS) : Prop := gI σ 9 0 11 = iN (aR A) ∧ ∀ k, k < aR A → gI σ 29 0 k = iN (A.1 5 k) ∧ gI σ 30 0 k = A.2 2 k
def RM (σ : Sto) (A : AS) : Prop := MX σ A ∧ (∀ e, e < aM A → gI σ 26 0 e = iN (A.1 2 e) ∧ gI σ 27 0 e = iN (A.1 3 e)) ∧ gI σ 9 0 8 = iN (aV A) ∧ RMr σ A ∧ RMs σ A ∧ gI σ 9 0 14 = A.2 0 0 ∧ gI σ 9 0 15 = A.2 0 1
def WA (σ : Sto) (A : AS) : Prop := wfA A ∧ (∃ t, RC σ t A) ∧ RM σ A
/-- a call on both sides: the same answer, and all stands again -/
def Both {α : Type} (f g : Sto → Option (α × Sto)) : Prop := ∀ σ A, WA σ A → ∃ r σ1 σ2 A', f σ = some (r, σ1) ∧ (∀ j, gI σ1 46 0 j = gI σ 46 0 j) ∧ g σ1 = some (r, σ2) ∧ WA σ2 A' ∧ ∀ j, gI σ2 46 0 j = gI σ 46 0 j
/-- a change of the class's side alone, of the reference's side alone -/
def FC (σ σ' : Sto) : Prop := ∀ k a b, (k = 9 ∨ 24 ≤ k) → gI σ' k a b = gI σ k a b
def FMm (σ σ' : Sto) : Prop := σ'.2 = σ.2 ∧ ∀ k a b, ¬ (k = 9 ∨ (24 ≤ k ∧ k < 42)) → gI σ' k a b = gI σ k a b
theorem FC.rfl {σ : Sto} : FC σ σ := fun _ _ _ _ => Eq.refl _
theorem FC.trans {a b c : Sto} (h1 : FC a b) (h2 : FC b c) : FC a c := fun k i j h => (h2 k i j h).trans (h1 k i j h)
theorem FMm.rfl {σ : Sto} : FMm σ σ := ⟨Eq.refl _, fun _ _ _ _ => Eq.refl _⟩
theorem FMm.trans {a b c : Sto} (h1 : FMm a b) (h2 : FMm b c) : FMm a c := ⟨h2.1.trans h1.1, fun k i j h => (h2.2 k i j h).trans (h1.2 k i j h)⟩
theorem FS.fc {i : Nat} {σ σ' : Sto} (h : FS i σ σ') : FC σ σ' := fun k a b hk => h.2 k a b (by omega)
theorem FM.fmm {σ σ' : Sto} (h : FM σ σ') : FMm σ σ' := ⟨h.1, fun k a b hk => h.2 k a b (by omega)⟩
theorem FMm.gR {σ σ' : Sto} (h : FMm σ σ') : gR σ' = gR σ := congrArg Prod.fst h.1
theorem RM.fc {σ σ' : Sto} {A : AS} (h : FC σ σ') (hM : RM σ A) : RM σ' A := by
  obtain ⟨⟨⟨x1, x2, x3⟩, ⟨x4, x5⟩, x6, x7, x8, x9⟩, m1, m2, ⟨m3, m4⟩, ⟨m5, m6⟩, m7, m8⟩ := hM
  refine ⟨⟨⟨?_, ?_, fun c hc => ?_⟩, ⟨?_, fun e he => ?_⟩, ?_, fun p hp => ?_, ?_, fun k hk => ?_⟩, fun e he => ?_, ?_, ⟨?_, fun k hk => ?_⟩, ⟨fun k hk => ?_, fun j hj => ?_⟩, ?_, ?_⟩
  · rw [h _ _ _ (by omega)]; exact x1
  · rw [h _ _ _ (by omega)]; exact x2
  · rw [h _ _ _ (by omega)]; exact x3 c hc
  · rw [h _ _ _ (by omega)]; exact x4
  · rw [h 26 _ _ (by omega), h 27 _ _ (by omega)]; exact x5 e he
  · rw [h _ _ _ (by omega)]; exact x6
  · rw [h _ _ _ (by omega)]; exact x7 p hp
  · rw [h _ _ _ (by omega)]; exact x8
  · rw [h _ _ _ (by omega)]; exact x9 k hk
  · rw [h 26 _ _ (by omega), h 27 _ _ (by omega)]; exact m1 e he
  · rw [h _ _ _ (by omega)]; exact m2
  · rw [h _ _ _ (by omega)]; exact m3
  · rw [h 29 _ _ (by omega), h 30 _ _ (by omega)]; exact m4 k hk
  · rw [h 31 _ _ (by omega), h 32 _ _ (by omega)]; exact m5 k hk
  · rw [h _ _ _ (by omega)]; exact m6 j hj
  · rw [h _ _ _ (by omega)]; exact m7
  · rw [h _ _ _ (by omega)]; exact m8
theorem EK.frame {σ σ' : Sto} {t e k s : Nat} (h : EK σ t e k s) (hr : gR σ' 13 t e = gR σ 13 t e) (hi : ∀ c a b, c = 0 ∨ c = 1 ∨ c = 5 → gI σ' c a b = gI σ c a b) : EK σ' t e k s := by
  obtain ⟨ix, h1, h2, h3⟩ := h
  have c : kk k = 0 ∨ kk k = 1 ∨ kk k = 5 := by
    unfold kk
    split
    · exact Or.inl rfl
    · split
      · exact Or.inr (Or.inl rfl)
      · exact Or.inr (Or.inr rfl)
  exact ⟨ix, by rw [hr]; exact h1, by rw [hi _ _ _ c]; exact h2, by rw [hi _ _ _ c]; exact h3⟩
theorem EF.frame {σ σ' : Sto} {t e f : Nat} (h : EF σ t e f) (hr : gR σ' 13 t e = gR σ 13 t e) (hi : ∀ c a b, c = 0 ∨ c = 1 ∨ c = 5 → gI σ' c a b = gI σ c a b) : EF σ' t e f := by
  obtain ⟨ix, g⟩ := h
  refine ⟨ix, ?_⟩
  rw [hr, hi 0 _ _ (by decide), hi 1 _ _ (by decide), hi 5 _ _ (by decide)]
  exact g
/-- all that RC reads: where both stores agree there, it goes over -/
def Agr (σ σ' : Sto) : Prop := (∀ k a b, (k = 8 ∨ k = 13 ∨ (k = 6 ∧ a = 0)) → gR σ' k a b = gR σ k a b) ∧ ∀ k a b, ((k = 6 ∨ k = 16) → a = 0) → ¬ k = 18 → ¬ (k = 9 ∨ (24 ≤ k ∧ k < 42)) → gI σ' k a b = gI σ k a b
theorem RC.agr {σ σ' : Sto} {t : Nat} {A : AS} (h : Agr σ σ') (hC : RC σ t A) : RC σ' t A := by
  obtain ⟨⟨t1, t2⟩, ⟨x1, ⟨b1, b2, b3, b4, b5, b6⟩, ⟨x3, x4⟩, x5, x6, x7, x8⟩, ⟨c1, c2⟩, e1, l1, ⟨r1, r2⟩, n1, s1, ⟨f1, f2⟩, u1, u2⟩ := hC
  have ei : ∀ c a b, c = 0 ∨ c = 1 ∨ c = 5 → gI σ' c a b = gI σ c a b := fun c a b hc => h.2 _ _ _ (by omega) (by omega) (by omega)
  refine ⟨⟨t1, ?_⟩, ⟨?_, ⟨?_, ?_, ?_, fun c hc => ?_, fun j => ?_, fun j => ?_⟩, ⟨?_, ?_⟩, fun p hp => ?_, fun e he => (x6 e he).frame (h.1 _ _ _ (by omega)) ei, ?_, fun k hk => ?_⟩, ⟨?_, fun x hx => ?_⟩, fun e he => (e1 e he).frame (h.1 _ _ _ (by omega)) ei, ?_, ⟨?_, fun k hk => ?_⟩, fun hl => ?_, fun k hk => ?_, ⟨?_, ?_⟩, fun j => ?_, fun j => ?_⟩
  · rw [h.1 _ _ _ (by omega)]; exact t2
  · rw [h.1 _ _ _ (by omega)]; exact x1
  · rw [h.2 _ _ _ (by omega) (by omega) (by omega)]; exact b1
  · rw [h.2 _ _ _ (by omega) (by omega) (by omega)]; exact b2
  · rw [h.2 _ _ _ (by omega) (by omega) (by omega)]; exact b3
  · rw [h.2 _ _ _ (by omega) (by omega) (by omega)]; exact b4 c hc
  · rw [h.2 _ _ _ (by omega) (by omega) (by omega)]; exact b5 j
  · rw [h.2 _ _ _ (by omega) (by omega) (by omega)]; exact b6 j
  · rw [h.2 _ _ _ (by omega) (by omega) (by omega)]; exact x3
  · rw [h.2 _ _ _ (by omega) (by omega) (by omega)]; exact x4
  · rw [h.2 _ _ _ (by omega) (by omega) (by omega)]; exact x5 p hp
  · rw [h.2 _ _ _ (by omega) (by omega) (by omega)]; exact x7
  · rw [h.2 _ _ _ (by omega) (by omega) (by omega)]; exact x8 k hk
  · rw [h.2 _ _ _ (by omega) (by omega) (by omega)]; exact c1
  · rw [h.2 _ _ _ (by omega) (by omega) (by omega)]; exact c2 x hx
  · rw [h.2 _ _ _ (by omega) (by omega) (by omega)]; exact l1
  · rw [h.2 _ _ _ (by omega) (by omega) (by omega)]; exact r1
  · rw [h.2 21 _ _ (by omega) (by omega) (by omega), h.2 22 _ _ (by omega) (by omega) (by omega)]; exact r2 k hk
  · obtain ⟨q1, q2, q3, q4, q5⟩ := n1 hl
    refine ⟨?_, ?_, fun p hp => ?_, ?_, ?_⟩
    · rw [h.1 _ _ _ (by omega)]; exact q1
    · rw [h.2 _ _ _ (by omega) (by omega) (by omega)]; exact q2
    · rw [h.2 _ _ _ (by omega) (by omega) (by omega)]; exact q3 p hp
    · rw [h.2 _ _ _ (by omega) (by omega) (by omega)]; exact q4
    · rw [h.2 _ _ _ (by omega) (by omega) (by omega)]; exact q5
  · rw [h.2 4 _ 1 (by omega) (by omega) (by omega), h.2 4 _ 2 (by omega) (by omega) (by omega)]
    obtain ⟨q1, q2, q3⟩ := s1 k hk
    exact ⟨q1, q2, fun j hj => by rw [h.2 _ _ _ (by omega) (by omega) (by omega)]; exact q3 j hj⟩
  · rw [h.2 _ _ _ (by omega) (by omega) (by omega)]; exact f1
  · rw [h.2 _ _ _ (by omega) (by omega) (by omega)]; exact f2
  · rw [h.2 _ _ _ (by omega) (by omega) (by omega)]; exact u1 j
  · rw [h.2 _ _ _ (by omega) (by omega) (by omega)]; exact u2 j
theorem FMm.agr {σ σ' : Sto} (h : FMm σ σ') : Agr σ σ' := ⟨fun k a b _ => by rw [h.gR], fun k a b _ _ hk => h.2 k a b hk⟩
theorem FS.agr {i : Nat} {σ σ' : Sto} (hi : 1 ≤ i) (h : FS i σ σ') : Agr σ σ' := ⟨fun k a b hk => h.1.2 k a b (by omega), fun k a b h1 _ _ => h.2 k a b (by omega)⟩
/-- a call that changes nothing that stands -/
theorem Both.same {α : Type} {f g : Sto → Option (α × Sto)} (h : ∀ σ A t, wfA A → RC σ t A → RM σ A → ∃ r, f σ = some (r, σ) ∧ g σ = some (r, σ)) : Both f g := by
  intro σ A ⟨hw, ⟨t, hC⟩, hM⟩
  obtain ⟨r, h1, h2⟩ := h σ A t hw hC hM
  exact ⟨r, σ, σ, A, h1, fun _ => rfl, h2, ⟨hw, ⟨t, hC⟩, hM⟩, fun _ => rfl⟩
/-! the first calls -/
theorem both_trace : Both (fun σ => f8_trace σ) (fun σ => f9_trace σ) := Both.same (fun σ A t hw hC hM => ⟨A.2 0 0, by
  show some (gI σ 7 0 0, σ) = _
  rw [hC.2.2.2.2.2.2.2.2.1.1], by
  show some (gI σ 9 0 14, σ) = _
  rw [hM.2.2.2.2.2.1]⟩)
theorem both_fault : Both (fun σ => f8_fault σ) (fun σ => f9_fault σ) := Both.same (fun σ A t hw hC hM => ⟨A.2 0 1, by
  show some (gI σ 8 0 13, σ) = _
  rw [hC.2.2.2.2.2.2.2.2.1.2], by
  show some (gI σ 9 0 15, σ) = _
  rw [hM.2.2.2.2.2.2]⟩)
theorem both_many (a1 : Int32) : Both (f8_many a1) (f9_many a1) := Both.same (fun σ A t hw hC hM => by
  obtain ⟨-, ⟨x1, ⟨b1, b2, b3, -⟩, ⟨x3, x4⟩, -, -, x7, -⟩, -, -, l1, ⟨r1, -⟩, -⟩ := hC
  obtain ⟨⟨⟨y1, y2, -⟩, ⟨y4, -⟩, y6, -, y8, -⟩, -, m2, ⟨m3, -⟩, -⟩ := hM
  unfold f8_many f9_many
  simp only [x1, dr_some, b1, b2, x3, x4, x7, r1, l1, y1, y2, y4, y6, y8, m2, m3, iN_mul]
  by_cases h0 : a1 = 0
  · simp only [if_pos h0]; exact ⟨_, rfl, rfl⟩
  by_cases h1 : a1 = 1
  · simp only [if_neg h0, if_pos h1]; exact ⟨_, rfl, rfl⟩
  by_cases h2 : a1 = 2
  · simp only [if_neg h0, if_neg h1, if_pos h2]; exact ⟨_, rfl, rfl⟩
  by_cases h3 : a1 = 3
  · simp only [if_neg h0, if_neg h1, if_neg h2, if_pos h3]; exact ⟨_, rfl, rfl⟩
  by_cases h4 : a1 = 4
  · simp only [if_neg h0, if_neg h1, if_neg h2, if_neg h3, if_pos h4]; exact ⟨_, rfl, rfl⟩
  by_cases h5 : a1 = 5
  · simp only [if_neg h0, if_neg h1, if_neg h2, if_neg h3, if_neg h4, if_pos h5]; exact ⟨_, rfl, rfl⟩
  by_cases h6 : a1 = 6
  · simp only [if_neg h0, if_neg h1, if_neg h2, if_neg h3, if_neg h4, if_neg h5, if_pos h6]; exact ⟨_, rfl, rfl⟩
  simp only [if_neg h0, if_neg h1, if_neg h2, if_neg h3, if_neg h4, if_neg h5, if_neg h6]; exact ⟨_, rfl, rfl⟩)
