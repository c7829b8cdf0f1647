/-! what stands, once for both sides. A.1 0: high, wide, peas, eaters, law, pushes, readings; A.1 1 starts, 2 kinds, 3 strengths, 4 codes, 5 seen peas; A.2 0: trace, fault; A.2 1 signs, 2 seen squares, 3 lanes, 4 sizes, 5 cells -/
abbrev AS : Type := (Nat → Nat → Nat) × (Nat → Nat → Int32)
abbrev aN (A : AS) : Nat := A.1 0 2
abbrev aM (A : AS) : Nat := A.1 0 3
abbrev aV (A : AS) : Nat := A.1 0 4
abbrev aK (A : AS) : Nat := A.1 0 5
abbrev aR (A : AS) : Nat := A.1 0 6
abbrev aB (A : AS) : Bd := (A.1 0 0, A.1 0 1, A.2 1)
def aF (A : AS) (e : Nat) : Nat := if e < aM A then (if A.1 2 e = 0 then A.1 3 e else if A.1 2 e = 1 then A.1 3 e + 1 else 2 * (A.1 3 e + 1)) else 0
abbrev aP0 (A : AS) : Nat → Nat := P0 (aN A) (A.1 1)
/-- a plate has been laid, and all that stands fits it -/
def laid (A : AS) : Prop := okB (aB A) ∧ (1 ≤ aM A ∧ aM A ≤ 2) ∧ aN A ≤ 5 ∧ (∀ p, p < aN A → A.1 1 p < (aB A).1 * (aB A).2.1 ∧ ¬ (aB A).2.2 (A.1 1 p) = 2) ∧ (∀ e, e < aM A → A.1 2 e < 3 ∧ 1 ≤ A.1 3 e ∧ A.1 3 e ≤ 4) ∧ aK A ≤ 30 ∧ (∀ k, k < aK A → okC (aN A) (aM A) (A.1 4 k)) ∧ aV A < 3
theorem aF_lt {A : AS} (h : laid A) (e : Nat) : aF A e < 100 := by
  unfold aF
  by_cases he : e < aM A
  · have := h.2.2.2.2.1 e he
    rw [if_pos he]
    split
    · omega
    · split <;> omega
  · rw [if_neg he]; decide
def CX (σ : Sto) (t : Nat) (A : AS) : Prop := gR σ 8 0 0 = some (2, t) ∧ CB σ t (aB A) ∧ (gI σ 2 t 2 = iN (aN A) ∧ gI σ 2 t 3 = iN (aM A)) ∧ (∀ p, p < aN A → gI σ 12 t p = iN (A.1 1 p)) ∧ (∀ e, e < aM A → EF σ t e (aF A e)) ∧ gI σ 8 0 4 = iN (aK A) ∧ ∀ k, k < aK A → gI σ 20 0 k = iN (A.1 4 k)
theorem CX.fs {σ σ' : Sto} {i t : Nat} {A : AS} (h : FS i σ σ') (hX : CX σ t A) : CX σ' t A := by
  obtain ⟨h1, h2, ⟨h3, h4⟩, h5, h6, h7, h8⟩ := hX
  refine ⟨?_, h2.fs h, ⟨?_, ?_⟩, fun p hp => ?_, fun e he => (h6 e he).fs h, ?_, fun k hk => ?_⟩
  · rw [h.1.2 _ _ _ (by omega)]; exact h1
  · rw [h.2 _ _ _ (by omega)]; exact h3
  · rw [h.2 _ _ _ (by omega)]; exact h4
  · rw [h.2 _ _ _ (by omega)]; exact h5 p hp
  · rw [h.2 _ _ _ (by omega)]; exact h7
  · rw [h.2 _ _ _ (by omega)]; exact h8 k hk
theorem FS_I {σ : Sto} {i k j : Nat} {x : Int32} (hk : k = 6 ∨ k = 16) : FS i σ (sI σ k i j x) := ⟨⟨rfl, fun _ _ _ _ => rfl⟩, fun k' a b h => by
  rw [gI_sI]
  exact if_neg (fun (q : k' = k ∧ a = i ∧ b = j) => h ⟨q.2.1, q.1.symm ▸ hk⟩)⟩
theorem FS_R {σ : Sto} {i j : Nat} {x : Option MA} : FS i σ (sR σ 6 i j x) := ⟨⟨rfl, fun k' a b h => by rw [gR_sR, if_neg (fun q => h ⟨q.2.1, q.1⟩)]⟩, fun _ _ _ _ => rfl⟩
/-- peas are laid on their first squares -/
theorem c_beginL {i t n : Nat} {st : Nat → Nat} (hn : n ≤ 5) (hst : ∀ p, p < n → st p < 30) : ∀ (f j k : Nat) (σ : Sto), j + f = 5 → f < k → gI σ 2 t 2 = iN n → (∀ p, p < n → gI σ 12 t p = iN (st p)) → (∀ p, p < j → gI σ 16 i p = spI (P0 n st p)) → ∃ σ', l6_beginOn_22 i t k (iN j) σ = some σ' ∧ FS i σ σ' ∧ (∀ p, p < 5 → gI σ' 16 i p = spI (P0 n st p)) ∧ (∀ j, gI σ' 6 i j = gI σ 6 i j) ∧ gR σ' = gR σ
  | f, j, 0, _, _, hk, _, _, _ => by omega
  | 0, j, k + 1, σ, hj, hk, h2, h12, hp => by
    refine ⟨σ, ?_, FS.rfl, fun p h => hp p (by omega), fun _ => rfl, rfl⟩
    show (if 5 ≤ iN j then _ else _) = _
    rw [if_pos (by rw [show (5 : Int32) = iN 5 from rfl, iN_le (by omega) (by omega)]; omega)]
  | f + 1, j, k + 1, σ, hj, hk, h2, h12, hp => by
    show ∃ σ', (if 5 ≤ iN j then _ else _) = some σ' ∧ _
    rw [if_neg (by rw [show (5 : Int32) = iN 5 from rfl, iN_le (by omega) (by omega)]; omega), (c_startOf (p := j) hn h2 h12 hst).resolve_right (by omega), bI_some, if_pos ((iN_Ix (by omega)).mpr (by omega)), iN_nat (by omega), iN_add1]
    have fs : FS i σ (sI σ 16 i j (spI (P0 n st j))) := FS_I (Or.inr rfl)
    obtain ⟨σ', g1, g2, g3, g4, g5⟩ := c_beginL hn hst f (j + 1) k (sI σ 16 i j (spI (P0 n st j))) (by omega) (by omega) (by rw [fs.2 _ _ _ (by omega)]; exact h2) (fun p h => by rw [fs.2 _ _ _ (by omega)]; exact h12 p h) (fun p h => by
      rw [gI_sI]
      by_cases e : p = j
      · rw [if_pos ⟨rfl, rfl, e⟩, e]
      · rw [if_neg (fun q => e q.2.2)]; exact hp p (by omega))
    exact ⟨σ', g1, fs.trans g2, g3, fun j' => by rw [g4, gI_sI, if_neg (by omega)], g5⟩
theorem c_begin {σ : Sto} {i t v : Nat} {A : AS} (h : laid A) (hX : CX σ t A) : ∃ σ', f6_beginOn i t (iN v) σ = some σ' ∧ CS σ' i t v (aP0 A) ∧ FS i σ σ' := by
  have h30 := okB_30 h.1
  have st30 : ∀ p, p < aN A → A.1 1 p < 30 := fun p hp => by have := (h.2.2.2.1 p hp).1; omega
  unfold f6_beginOn
  generalize hs1 : sI (sI (sI (sR σ 6 i 0 (some (2, t))) 6 i 3 (iN v)) 6 i 1 0) 6 i 2 0 = s1
  have fs : FS i σ s1 := by
    rw [← hs1]
    exact ((FS_R.trans (FS_I (Or.inl rfl))).trans (FS_I (Or.inl rfl))).trans (FS_I (Or.inl rfl))
  obtain ⟨σ', g1, g2, g3, g4, g5⟩ := c_beginL (i := i) h.2.2.1 st30 5 0 300 s1 rfl (by decide) (by rw [fs.2 _ _ _ (by omega)]; exact hX.2.2.1.1) (fun p hp => by rw [fs.2 _ _ _ (by omega)]; exact hX.2.2.2.1 p hp) (fun p hp => by omega)
  refine ⟨σ', g1, ⟨?_, ?_, g3, ?_, ?_⟩, fs.trans g2⟩
  · rw [g5, ← hs1]
    show gR (sR σ 6 i 0 (some (2, t))) 6 i 0 = _
    rw [gR_sR, if_pos ⟨rfl, rfl, rfl⟩]
  · rw [g4, ← hs1, gI_sI, if_neg (by omega), gI_sI, if_neg (by omega), gI_sI, if_pos ⟨rfl, rfl, rfl⟩]
  · rw [g4, ← hs1, gI_sI, if_neg (by omega), gI_sI, if_pos ⟨rfl, rfl, rfl⟩, P0_bits st30 (by decide) (by decide)]
  · rw [g4, ← hs1, gI_sI, if_pos ⟨rfl, rfl, rfl⟩, P0_bits st30 (by decide) (by decide)]
theorem okP_roll {v n : Nat} {B : Bd} (h : okB B) : ∀ (f p d : Nat) (P : Nat → Nat), p < n → d < 4 → P p < B.1 * B.2.1 → okP B n P → okP B n (rollA B v f p d P)
  | 0, _, _, _, _, _, _, hP => hP
  | f + 1, p, d, P, hp, hd, hc, hP => by
    have h30 := okB_30 h
    unfold rollA
    rcases nx_rg h hc hd with e | e
    · rw [if_pos e]
      split
      · exact okP_roll h f p _ P hp (Nat.mod_lt _ (by decide)) hc hP
      · split
        · exact okP_up hP hp (Or.inr (Or.inr rfl))
        · exact hP
    · rw [if_neg (by omega)]
      generalize nx B.1 B.2.1 (P p) d = s at e ⊢
      by_cases e2 : B.2.2 s = 2
      · rw [if_pos e2]; exact hP
      rw [if_neg e2]
      have kP := okP_up hP hp (x := s) (Or.inl ⟨e, e2⟩)
      by_cases e3 : pon P s = 9
      · rw [if_pos e3]
        split
        · exact kP
        · exact okP_roll h f p d _ hp hd (by rw [up_eq]; exact e) kP
      · obtain ⟨q1, q2, q3⟩ := okP_on hP (by omega) e3
        rw [if_neg e3]
        exact okP_roll h f _ d P q1 hd (by rw [q2]; exact e) hP
theorem okP_push {v n m c : Nat} {B : Bd} {F : Nat → Nat} {P : Nat → Nat} (h : okB B) (hc : okC n m c) (hP : okP B n P) : okP B n (pushA B v F P c) := by
  have h30 := okB_30 h
  unfold pushA
  split
  · rename_i on
    split
    · exact okP_up hP hc.2.1 (Or.inr (Or.inl rfl))
    · rcases hP.1 _ hc.2.1 with ⟨hsq, -⟩ | hoff
      · exact okP_roll h _ _ _ P hc.2.1 hc.2.2 hsq hP
      · omega
  · exact hP
abbrev aRun (A : AS) (v : Nat) (but : Int32) (k : Nat) : Nat → Nat := runP (aB A) v (aF A) (A.1 4) but (aP0 A) k
theorem okP_run {A : AS} {v : Nat} {but : Int32} (h : laid A) : ∀ k, k ≤ aK A → okP (aB A) (aN A) (aRun A v but k)
  | 0, _ => okP_0 h.2.2.2.1
  | k + 1, hk => by
    show okP _ _ (if iN k = but then aRun A v but k else pushA _ _ _ (aRun A v but k) _)
    split
    · exact okP_run h k (by omega)
    · exact okP_push h.1 (h.2.2.2.2.2.2.1 k (by omega)) (okP_run h k (by omega))
theorem c_pushX {σ : Sto} {i t v c : Nat} {A : AS} {P : Nat → Nat} (h : laid A) (hv : v < 3) (hX : CX σ t A) (hc : okC (aN A) (aM A) c) (hP : okP (aB A) (aN A) P) (hS : CS σ i t v P) : ∃ σ', f6_pushByCode i (iN c) σ = some σ' ∧ CS σ' i t v (pushA (aB A) v (aF A) P c) ∧ FS i σ σ' :=
  c_push h.1 hv hX.2.2.1.2 h.2.1.2 h.2.2.1 hX.2.2.2.2.1 (aF_lt h) hc hP hX.2.1 hS
theorem c_replayL {i t v : Nat} {A : AS} {but : Int32} (h : laid A) (hv : v < 3) : ∀ (f j k : Nat) (σ : Sto), j + f = aK A → f < k → CX σ t A → CS σ i t v (aRun A v but j) → ∃ σ', l8_replay_12 i but k (iN j) σ = some σ' ∧ CS σ' i t v (aRun A v but (aK A)) ∧ FS i σ σ'
  | f, j, 0, _, _, hk, _, _ => by omega
  | 0, j, k + 1, σ, hj, hk, hX, hS => by
    have hK := h.2.2.2.2.2.1
    have e : j = aK A := by omega
    refine ⟨σ, ?_, e ▸ hS, FS.rfl⟩
    show (if gI σ 8 0 4 ≤ iN j then _ else _) = _
    rw [hX.2.2.2.2.2.1, if_pos (by rw [iN_le (by omega) (by omega)]; omega)]
  | f + 1, j, k + 1, σ, hj, hk, hX, hS => by
    have hK := h.2.2.2.2.2.1
    show ∃ σ', (if gI σ 8 0 4 ≤ iN j then _ else _) = some σ' ∧ _
    rw [hX.2.2.2.2.2.1, if_neg (by rw [iN_le (by omega) (by omega)]; omega), iN_add1]
    have er : aRun A v but (j + 1) = if iN j = but then aRun A v but j else pushA (aB A) v (aF A) (aRun A v but j) (A.1 4 j) := rfl
    by_cases e : iN j = but
    · rw [if_pos e]
      rw [if_pos e] at er
      exact c_replayL h hv f (j + 1) k σ (by omega) (by omega) hX (er ▸ hS)
    · rw [if_neg e, if_pos ((iN_Ix (by omega)).mpr (by omega)), iN_nat (by omega), hX.2.2.2.2.2.2 j (by omega)]
      rw [if_neg e] at er
      obtain ⟨s1, g1, g2, g3⟩ := c_pushX (c := A.1 4 j) h hv hX (h.2.2.2.2.2.2.1 j (by omega)) (okP_run h j (by omega)) hS
      rw [g1, bV_some]
      obtain ⟨s2, r1, r2, r3⟩ := c_replayL h hv f (j + 1) k s1 (by omega) (by omega) (hX.fs g3) (er ▸ g2)
      exact ⟨s2, r1, r2, g3.trans r3⟩
theorem c_replay {σ : Sto} {i t v : Nat} {A : AS} {but : Int32} (h : laid A) (hv : v < 3) (hX : CX σ t A) : ∃ σ', f8_replay i (iN v) but σ = some σ' ∧ CS σ' i t v (aRun A v but (aK A)) ∧ FS i σ σ' := by
  have hK := h.2.2.2.2.2.1
  obtain ⟨s1, g1, g2, g3⟩ := c_begin (i := i) (v := v) h hX
  obtain ⟨s2, r1, r2, r3⟩ := c_replayL (but := but) h hv (aK A) 0 300 s1 (by omega) (by omega) (hX.fs g3) g2
  unfold f8_replay
  rw [hX.1, dr_some, g1, bV_some]
  exact ⟨s2, r1, r2, g3.trans r3⟩
theorem run_no {A : AS} {v : Nat} {b1 b2 : Int32} (h1 : b1 < 0) (h2 : b2 < 0) : ∀ k, k ≤ 30 → aRun A v b1 k = aRun A v b2 k
  | 0, _ => rfl
  | k + 1, hk => by
    show (if iN k = b1 then aRun A v b1 k else pushA _ _ _ (aRun A v b1 k) _) = (if iN k = b2 then aRun A v b2 k else pushA _ _ _ (aRun A v b2 k) _)
    rw [if_neg (iN_ne_m (by omega) h1), if_neg (iN_ne_m (by omega) h2), run_no h1 h2 k (by omega)]
/-! the reference's replay -/
def MX (σ : Sto) (A : AS) : Prop := MB σ (aB A) ∧ MF σ (aM A) (aF A) ∧ gI σ 9 0 3 = iN (aN A) ∧ (∀ p, p < aN A → gI σ 25 0 p = iN (A.1 1 p)) ∧ gI σ 9 0 9 = iN (aK A) ∧ ∀ k, k < aK A → gI σ 28 0 k = iN (A.1 4 k)
theorem MX.fm {σ σ' : Sto} {A : AS} (h : FM σ σ') (hX : MX σ A) : MX σ' A := by
  obtain ⟨h1, h2, h3, h4, h5, h6⟩ := hX
  refine ⟨h1.fm h, h2.fm h, ?_, fun p hp => ?_, ?_, fun k hk => ?_⟩
  · rw [h.2 _ _ _ (by omega)]; exact h3
  · rw [h.2 _ _ _ (by omega)]; exact h4 p hp
  · rw [h.2 _ _ _ (by omega)]; exact h5
  · rw [h.2 _ _ _ (by omega)]; exact h6 k hk
theorem FM_I {σ : Sto} {a j : Nat} {x : Int32} : FM σ (sI σ 39 a j x) := ⟨rfl, fun k' a' b h => by
  rw [gI_sI]
  exact if_neg (fun (q : k' = 39 ∧ a' = a ∧ b = j) => h q.1)⟩
theorem m_pushX {σ : Sto} {v c : Nat} {A : AS} {P : Nat → Nat} (h : laid A) (hv : v < 3) (hX : MX σ A) (hc : okC (aN A) (aM A) c) (hP : okP (aB A) (aN A) P) (hS : MS σ (aN A) v P) : ∃ σ', f9_doPush (iN c) σ = some σ' ∧ MS σ' (aN A) v (pushA (aB A) v (aF A) P c) ∧ FM σ σ' :=
  (m_push h.1 hv h.2.1.2 h.2.2.1 hX.2.1 (aF_lt h) hc hP hX.1 hS).1
theorem m_beginL {A : AS} {v : Nat} (h : laid A) {K : Int32 → Sto → Option Sto} {a1 : Int32} : ∀ (f j k : Nat) (σ : Sto), j + f = aN A → f < k → MX σ A → gI σ 9 0 8 = iN v → (∀ p, p < j → gI σ 39 0 p = atI (aP0 A p)) → ∃ σ' x, l9_goThrough_2 K a1 k (iN j) σ = K x σ' ∧ MS σ' (aN A) v (aP0 A) ∧ FM σ σ'
  | f, j, 0, _, _, hk, _, _, _ => by omega
  | 0, j, k + 1, σ, hj, hk, hX, h8, hp => by
    have hn := h.2.2.1
    refine ⟨σ, iN j, ?_, ⟨hX.2.2.1, h8, fun p hp' => hp p (by omega)⟩, FM.rfl⟩
    show (if gI σ 9 0 3 ≤ iN j then _ else _) = _
    rw [hX.2.2.1, if_pos (by rw [iN_le (by omega) (by omega)]; omega)]
  | f + 1, j, k + 1, σ, hj, hk, hX, h8, hp => by
    have hn := h.2.2.1
    have h30 := okB_30 h.1
    show ∃ σ' x, (if gI σ 9 0 3 ≤ iN j then _ else _) = _ ∧ _
    rw [hX.2.2.1, if_neg (by rw [iN_le (by omega) (by omega)]; omega), if_pos ((iN_Ix (by omega)).mpr (by omega)), if_pos ((iN_Ix (by omega)).mpr (by omega)), iN_nat (by omega), iN_add1, hX.2.2.2.1 j (by omega)]
    have fm : FM σ (sI σ 39 0 j (iN (A.1 1 j))) := FM_I
    obtain ⟨σ', x, g1, g2, g3⟩ := m_beginL h (K := K) (a1 := a1) f (j + 1) k _ (by omega) (by omega) (hX.fm fm) (by rw [fm.2 _ _ _ (by omega)]; exact h8) (fun p hp' => by
      rw [gI_sI]
      by_cases e : p = j
      · rw [if_pos ⟨rfl, rfl, e⟩, e]
        have := (h.2.2.2.1 j (by omega)).1
        show _ = atI (if j < aN A then A.1 1 j else 102)
        rw [if_pos (by omega), atI_lt (by omega)]
      · rw [if_neg (fun q => e q.2.2)]; exact hp p (by omega))
    exact ⟨σ', x, g1, g2, fm.trans g3⟩
theorem m_goL {v : Nat} {A : AS} {but : Int32} (h : laid A) (hv : v < 3) : ∀ (f j k : Nat) (σ : Sto), j + f = aK A → f < k → MX σ A → MS σ (aN A) v (aRun A v but j) → ∃ σ', l9_goThrough_30 but k (iN j) σ = some σ' ∧ MS σ' (aN A) v (aRun A v but (aK A)) ∧ FM σ σ'
  | f, j, 0, _, _, hk, _, _ => by omega
  | 0, j, k + 1, σ, hj, hk, hX, hS => by
    have hK := h.2.2.2.2.2.1
    have e : j = aK A := by omega
    refine ⟨σ, ?_, e ▸ hS, FM.rfl⟩
    show (if gI σ 9 0 9 ≤ iN j then _ else _) = _
    rw [hX.2.2.2.2.1, if_pos (by rw [iN_le (by omega) (by omega)]; omega)]
  | f + 1, j, k + 1, σ, hj, hk, hX, hS => by
    have hK := h.2.2.2.2.2.1
    show ∃ σ', (if gI σ 9 0 9 ≤ iN j then _ else _) = some σ' ∧ _
    rw [hX.2.2.2.2.1, if_neg (by rw [iN_le (by omega) (by omega)]; omega), iN_add1]
    have er : aRun A v but (j + 1) = if iN j = but then aRun A v but j else pushA (aB A) v (aF A) (aRun A v but j) (A.1 4 j) := rfl
    by_cases e : iN j = but
    · rw [if_pos e]
      rw [if_pos e] at er
      exact m_goL h hv f (j + 1) k σ (by omega) (by omega) hX (er ▸ hS)
    · rw [if_neg e, if_pos ((iN_Ix (by omega)).mpr (by omega)), iN_nat (by omega), hX.2.2.2.2.2 j (by omega)]
      rw [if_neg e] at er
      obtain ⟨s1, g1, g2, g3⟩ := m_pushX (c := A.1 4 j) h hv hX (h.2.2.2.2.2.2.1 j (by omega)) (okP_run h j (by omega)) hS
      rw [g1, bV_some]
      obtain ⟨s2, r1, r2, r3⟩ := m_goL h hv f (j + 1) k s1 (by omega) (by omega) (hX.fm g3) (er ▸ g2)
      exact ⟨s2, r1, r2, g3.trans r3⟩
theorem m_go {σ : Sto} {v : Nat} {A : AS} {but : Int32} (h : laid A) (hv : v < 3) (hX : MX σ A) (h8 : gI σ 9 0 8 = iN v) : ∃ σ', f9_goThrough but σ = some σ' ∧ MS σ' (aN A) v (aRun A v but (aK A)) ∧ FM σ σ' := by
  have hK := h.2.2.2.2.2.1
  have hn := h.2.2.1
  unfold f9_goThrough
  obtain ⟨s1, x, g1, g2, g3⟩ := m_beginL h (K := fun v21 s22 => (l9_goThrough_30 but 300 0 s22)) (a1 := but) (aN A) 0 300 σ (by omega) (by omega) hX h8 (fun p hp => by omega)
  obtain ⟨s2, r1, r2, r3⟩ := m_goL (but := but) h hv (aK A) 0 300 s1 (by omega) (by omega) (hX.fm g3) g2
  exact ⟨s2, g1.trans r1, r2, g3.trans r3⟩
