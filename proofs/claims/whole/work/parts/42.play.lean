/-! sets as loops, copies, frames -/
def bsF (f : Nat → Bool) : Nat → Nat → Int32 → Int32
  | 0, _, a => a
  | k + 1, j, a => bsF f k (j + 1) (if f j = true then a ||| (1 <<< (iN j &&& 31)) else a)
theorem bsF_stop {f : Nat → Bool} : ∀ (k j : Nat) (a : Int32), (∀ p, j ≤ p → f p = false) → bsF f k j a = a
  | 0, _, _, _ => rfl
  | k + 1, j, a, h => by
    show bsF f k (j + 1) (if f j = true then _ else a) = a
    rw [h j (Nat.le_refl _), if_neg (by decide)]
    exact bsF_stop k (j + 1) a (fun p hp => h p (by omega))
theorem bsF_add {f : Nat → Bool} {e : Nat} : ∀ (g j : Nat) (a : Int32), bsF f (g + e) j a = bsF f e (j + g) (bsF f g j a)
  | 0, j, a => by rw [Nat.zero_add]; rfl
  | g + 1, j, a => by
    rw [show g + 1 + e = (g + e) + 1 by omega]
    show bsF f (g + e) (j + 1) _ = bsF f e (j + (g + 1)) (bsF f g (j + 1) _)
    rw [bsF_add g (j + 1), show j + 1 + g = j + (g + 1) by omega]
theorem bsF_n {f : Nat → Bool} {n : Nat} (hn : n ≤ 5) (h : ∀ p, n ≤ p → f p = false) : bsF f n 0 0 = bsF f 5 0 0 := by
  have := bsF_add (f := f) (e := 5 - n) n 0 0
  rw [show n + (5 - n) = 5 by omega, Nat.zero_add] at this
  rw [this, bsF_stop _ _ _ h]
theorem bsF_ext {f g : Nat → Bool} : ∀ (k j : Nat) (a : Int32), (∀ p, j ≤ p → p < j + k → f p = g p) → bsF f k j a = bsF g k j a
  | 0, _, _, _ => rfl
  | k + 1, j, a, h => by
    show bsF f k (j + 1) (if f j = true then _ else a) = bsF g k (j + 1) (if g j = true then _ else a)
    rw [h j (Nat.le_refl _) (by omega)]
    exact bsF_ext k (j + 1) _ (fun p hp hp2 => h p (by omega) (by omega))
theorem bits_bsF (P : Nat → Nat) (x : Nat) : bits P x = bsF (fun p => decide (P p = x)) 5 0 0 := by
  unfold bits
  simp only [bsF, decide_eq_true_eq]
  by_cases h0 : P 0 = x <;> by_cases h1 : P 1 = x <;> by_cases h2 : P 2 = x <;> by_cases h3 : P 3 = x <;> by_cases h4 : P 4 = x <;> simp only [h0, h1, h2, h3, h4, if_true, if_false] <;> decide
/-- only what the reference plays with has changed -/
def FP (σ σ' : Sto) : Prop := σ'.2 = σ.2 ∧ ∀ k a b, ¬ (34 ≤ k ∧ k < 42) → gI σ' k a b = gI σ k a b
theorem FP.rfl {σ : Sto} : FP σ σ := ⟨Eq.refl _, fun _ _ _ _ => Eq.refl _⟩
theorem FP.trans {a b c : Sto} (h1 : FP a b) (h2 : FP b c) : FP a c := ⟨h2.1.trans h1.1, fun k i j h => (h2.2 k i j h).trans (h1.2 k i j h)⟩
theorem FM.fp {σ σ' : Sto} (h : FM σ σ') : FP σ σ' := ⟨h.1, fun k a b hk => h.2 k a b (by omega)⟩
theorem FP.fmm {σ σ' : Sto} (h : FP σ σ') : FMm σ σ' := ⟨h.1, fun k a b hk => h.2 k a b (by omega)⟩
theorem MX.fp {σ σ' : Sto} {A : AS} (h : FP σ σ') (hX : MX σ A) : MX σ' A := by
  obtain ⟨⟨x1, x2, x3⟩, ⟨x4, x5⟩, x6, x7, x8, x9⟩ := hX
  refine ⟨⟨?_, ?_, fun c hc => ?_⟩, ⟨?_, fun e he => ?_⟩, ?_, fun p hp => ?_, ?_, fun k hk => ?_⟩
  · rw [h.2 _ _ _ (by omega)]; exact x1
  · rw [h.2 _ _ _ (by omega)]; exact x2
  · rw [h.2 _ _ _ (by omega)]; exact x3 c hc
  · rw [h.2 _ _ _ (by omega)]; exact x4
  · rw [h.2 26 _ _ (by omega), h.2 27 _ _ (by omega)]; exact x5 e he
  · rw [h.2 _ _ _ (by omega)]; exact x6
  · rw [h.2 _ _ _ (by omega)]; exact x7 p hp
  · rw [h.2 _ _ _ (by omega)]; exact x8
  · rw [h.2 _ _ _ (by omega)]; exact x9 k hk
theorem RMr.fp {σ σ' : Sto} {A : AS} (h : FP σ σ') (hr : RMr σ A) : RMr σ' A := by
  obtain ⟨m3, m4⟩ := hr
  refine ⟨?_, fun k hk => ?_⟩
  · rw [h.2 _ _ _ (by omega)]; exact m3
  · rw [h.2 29 _ _ (by omega), h.2 30 _ _ (by omega)]; exact m4 k hk
theorem RM.fp {σ σ' : Sto} {A : AS} (h : FP σ σ') (hM : RM σ A) : RM σ' A := by
  obtain ⟨x, m1, m2, r, ⟨m5, m6⟩, m7, m8⟩ := hM
  refine ⟨x.fp h, fun e he => ?_, ?_, r.fp h, ⟨fun k hk => ?_, fun j hj => ?_⟩, ?_, ?_⟩
  · rw [h.2 26 _ _ (by omega), h.2 27 _ _ (by omega)]; exact m1 e he
  · rw [h.2 _ _ _ (by omega)]; exact m2
  · rw [h.2 31 _ _ (by omega), h.2 32 _ _ (by omega)]; exact m5 k hk
  · rw [h.2 _ _ _ (by omega)]; exact m6 j hj
  · rw [h.2 _ _ _ (by omega)]; exact m7
  · rw [h.2 _ _ _ (by omega)]; exact m8
theorem RCr.fs {i : Nat} {σ σ' : Sto} {A : AS} (h : FS i σ σ') (hr : RCr σ A) : RCr σ' A := by
  refine ⟨?_, fun k hk => ?_⟩
  · rw [h.2 _ _ _ (by omega)]; exact hr.1
  · rw [h.2 21 _ _ (by omega), h.2 22 _ _ (by omega)]; exact hr.2 k hk
/-- other spots stay -/
theorem CS.ot {σ σ' : Sto} {i j t v : Nat} {P : Nat → Nat} (hS : CS σ i t v P) (h : FS j σ σ') (hij : ¬ i = j) : CS σ' i t v P := hS.fr (fun k b _ => h.2 _ _ _ (fun q => hij q.1)) (h.1.2 _ _ _ (fun q => hij q.1))
theorem c_copyL {i i' : Nat} {P : Nat → Nat} (hne : ¬ i = i') : ∀ (f j k : Nat) (σ : Sto), j + f = 5 → f < k → (∀ p, p < 5 → gI σ 16 i' p = spI (P p)) → (∀ p, p < j → gI σ 16 i p = spI (P p)) → ∃ σ', l6_copyFrom_34 i i' k (iN j) σ = some σ' ∧ FS i σ σ' ∧ (∀ p, p < 5 → gI σ' 16 i p = spI (P p)) ∧ (∀ j, gI σ' 6 i j = gI σ 6 i j) ∧ gR σ' = gR σ
  | f, j, 0, _, _, hk, _, _ => by omega
  | 0, j, k + 1, σ, hj, hk, h1, hp => by
    refine ⟨σ, ?_, FS.rfl, fun p h => hp p (by omega), fun _ => rfl, rfl⟩
    show (if 5 ≤ iN j then _ else _) = _
    rw [if_pos (by rw [show (5 : Int32) = iN 5 from rfl, iN_le (by omega) (by omega)]; omega)]
  | f + 1, j, k + 1, σ, hj, hk, h1, hp => by
    have ix : Ix (iN j) 5 := (iN_Ix (by omega)).mpr (by omega)
    show ∃ σ', (if 5 ≤ iN j then _ else _) = some σ' ∧ _
    rw [if_neg (by rw [show (5 : Int32) = iN 5 from rfl, iN_le (by omega) (by omega)]; omega), if_pos ix, if_pos ix, iN_nat (by omega), iN_add1, h1 j (by omega)]
    have fs : FS i σ (sI σ 16 i j (spI (P j))) := FS_I (Or.inr rfl)
    obtain ⟨σ', g1, g2, g3, g4, g5⟩ := c_copyL hne f (j + 1) k (sI σ 16 i j (spI (P j))) (by omega) (by omega) (fun p h => by rw [fs.2 _ _ _ (fun q => hne q.1.symm)]; exact h1 p h) (fun p h => by
      rw [gI_sI]
      by_cases e : p = j
      · rw [if_pos ⟨rfl, rfl, e⟩, e]
      · rw [if_neg (fun q => e q.2.2)]; exact hp p (by omega))
    exact ⟨σ', g1, fs.trans g2, g3, fun j' => by rw [g4, gI_sI, if_neg (by omega)], g5⟩
theorem c_copy {σ : Sto} {i i' t v : Nat} {P : Nat → Nat} (hne : ¬ i = i') (hS : CS σ i' t v P) : ∃ σ', f6_copyFrom i i' σ = some σ' ∧ CS σ' i t v P ∧ FS i σ σ' := by
  obtain ⟨q1, q2, q3, q4, q5⟩ := hS
  have w : ∀ (τ : Sto) (k j j' : Nat) (x : Int32), gI (sI τ 6 i j x) k i' j' = gI τ k i' j' := fun τ k j j' x => by rw [gI_sI, if_neg (fun q => hne q.2.1.symm)]
  unfold f6_copyFrom
  rw [w, w, w, gI_sR, q1, q2, q4, q5]
  generalize hs1 : sI (sI (sI (sR σ 6 i 0 (some (2, t))) 6 i 3 (iN v)) 6 i 1 (bits P 100)) 6 i 2 (bits P 101) = s1
  have fs : FS i σ s1 := by
    rw [← hs1]
    exact ((FS_R.trans (FS_I (Or.inl rfl))).trans (FS_I (Or.inl rfl))).trans (FS_I (Or.inl rfl))
  obtain ⟨σ', g1, g2, g3, g4, g5⟩ := c_copyL (P := P) hne 5 0 300 s1 rfl (by decide) (fun p hp => by rw [fs.2 _ _ _ (fun q => hne q.1.symm)]; exact q3 p hp) (fun p hp => by omega)
  refine ⟨σ', g1, ⟨?_, ?_, g3, ?_, ?_⟩, fs.trans g2⟩
  · rw [g5, ← hs1]
    show gR (sR σ 6 i 0 (some (2, t))) 6 i 0 = _
    rw [gR_sR, if_pos ⟨rfl, rfl, rfl⟩]
  · rw [g4, ← hs1, gI_sI, if_neg (by omega), gI_sI, if_neg (by omega), gI_sI, if_pos ⟨rfl, rfl, rfl⟩]
  · rw [g4, ← hs1, gI_sI, if_neg (by omega), gI_sI, if_pos ⟨rfl, rfl, rfl⟩]
  · rw [g4, ← hs1, gI_sI, if_pos ⟨rfl, rfl, rfl⟩]
/-! the reference puts by where peas are, and takes it again -/
def WS (σ : Sto) (d n : Nat) (P : Nat → Nat) : Prop := ∀ p, p < n → gI σ 40 0 (5 * d + p) = atI (P p)
def FW (d : Nat) (σ σ' : Sto) : Prop := σ'.2 = σ.2 ∧ ∀ k a b, ¬ (k = 40 ∧ 5 * d ≤ b ∧ b < 5 * d + 5) → gI σ' k a b = gI σ k a b
theorem FW.fp {d : Nat} {σ σ' : Sto} (h : FW d σ σ') : FP σ σ' := ⟨h.1, fun k a b hk => h.2 k a b (by omega)⟩
theorem FW.trans {d : Nat} {a b c : Sto} (h1 : FW d a b) (h2 : FW d b c) : FW d a c := ⟨h2.1.trans h1.1, fun k i j h => (h2.2 k i j h).trans (h1.2 k i j h)⟩
theorem MS.fw {d : Nat} {σ σ' : Sto} {n v : Nat} {P : Nat → Nat} (h : FW d σ σ') (hS : MS σ n v P) : MS σ' n v P := by
  refine ⟨?_, ?_, fun p hp => ?_⟩
  · rw [h.2 _ _ _ (by omega)]; exact hS.1
  · rw [h.2 _ _ _ (by omega)]; exact hS.2.1
  · rw [h.2 _ _ _ (by omega)]; exact hS.2.2 p hp
theorem WS.fm {d n : Nat} {σ σ' : Sto} {P : Nat → Nat} (h : FM σ σ') (hW : WS σ d n P) : WS σ' d n P := fun p hp => by
  rw [h.2 _ _ _ (by omega)]; exact hW p hp
theorem WS.fw {d d' n : Nat} {σ σ' : Sto} {P : Nat → Nat} (hn : n ≤ 5) (hd : ¬ d = d') (h : FW d' σ σ') (hW : WS σ d n P) : WS σ' d n P := fun p hp => by
  rw [h.2 _ _ _ (by omega)]; exact hW p hp
theorem at5 (d p : Nat) : (5 * iN d) + iN p = iN (5 * d + p) := by
  rw [show (5 : Int32) = iN 5 from rfl, iN_mul, iN_add]
theorem m_saveL {n v d : Nat} {P : Nat → Nat} (hn : n ≤ 5) (hd : d < 3) : ∀ (f j k : Nat) (σ : Sto), j + f = n → f < k → MS σ n v P → (∀ p, p < j → gI σ 40 0 (5 * d + p) = atI (P p)) → ∃ σ', l9_save_2 (iN d) k (iN j) σ = some σ' ∧ WS σ' d n P ∧ FW d σ σ'
  | f, j, 0, _, _, hk, _, _ => by omega
  | 0, j, k + 1, σ, hj, hk, hS, hp => by
    refine ⟨σ, ?_, fun p h => hp p (by omega), rfl, fun _ _ _ _ => rfl⟩
    show (if gI σ 9 0 3 ≤ iN j then _ else _) = _
    rw [hS.1, if_pos ((iN_le (by omega) (by omega)).mpr (by omega))]
  | f + 1, j, k + 1, σ, hj, hk, hS, hp => by
    show ∃ σ', (if gI σ 9 0 3 ≤ iN j then _ else _) = some σ' ∧ _
    rw [hS.1, if_neg (by rw [iN_le (by omega) (by omega)]; omega), if_pos ((iN_Ix (by omega)).mpr (by omega)), at5, if_pos ((iN_Ix (by omega)).mpr (by omega)), iN_nat (show 5 * d + j < 2147483648 by omega), iN_nat (show j < 2147483648 by omega), iN_add1, hS.2.2 j (by omega)]
    have fw : FW d σ (sI σ 40 0 (5 * d + j) (atI (P j))) := ⟨rfl, fun k a b h => by rw [gI_sI, if_neg (by omega)]⟩
    obtain ⟨σ', g1, g2, g3⟩ := m_saveL hn hd f (j + 1) k _ (by omega) (by omega) (hS.fw fw) (fun p h => by
      rw [gI_sI]
      by_cases e : p = j
      · rw [if_pos ⟨rfl, rfl, by rw [e]⟩, e]
      · rw [if_neg (by omega)]; exact hp p (by omega))
    exact ⟨σ', g1, g2, fw.trans g3⟩
theorem m_save {σ : Sto} {n v d : Nat} {P : Nat → Nat} (hn : n ≤ 5) (hd : d < 3) (hS : MS σ n v P) : ∃ σ', f9_save (iN d) σ = some σ' ∧ WS σ' d n P ∧ FW d σ σ' := m_saveL hn hd n 0 300 σ (by omega) (by omega) hS (fun p hp => by omega)
theorem m_loadL {n v d : Nat} {P : Nat → Nat} (hn : n ≤ 5) (hd : d < 3) : ∀ (f j k : Nat) (σ : Sto), j + f = n → f < k → gI σ 9 0 3 = iN n → gI σ 9 0 8 = iN v → WS σ d n P → (∀ p, p < j → gI σ 39 0 p = atI (P p)) → ∃ σ', l9_load_2 (iN d) k (iN j) σ = some σ' ∧ MS σ' n v P ∧ FM σ σ'
  | f, j, 0, _, _, hk, _, _, _, _ => by omega
  | 0, j, k + 1, σ, hj, hk, h3, h8, hW, hp => by
    refine ⟨σ, ?_, ⟨h3, h8, fun p h => hp p (by omega)⟩, FM.rfl⟩
    show (if gI σ 9 0 3 ≤ iN j then _ else _) = _
    rw [h3, if_pos ((iN_le (by omega) (by omega)).mpr (by omega))]
  | f + 1, j, k + 1, σ, hj, hk, h3, h8, hW, hp => by
    show ∃ σ', (if gI σ 9 0 3 ≤ iN j then _ else _) = some σ' ∧ _
    rw [h3, if_neg (by rw [iN_le (by omega) (by omega)]; omega), at5, if_pos ((iN_Ix (by omega)).mpr (by omega)), if_pos ((iN_Ix (by omega)).mpr (by omega)), iN_nat (show 5 * d + j < 2147483648 by omega), iN_nat (show j < 2147483648 by omega), iN_add1, hW j (by omega)]
    have fm : FM σ (sI σ 39 0 j (atI (P j))) := FM_I
    obtain ⟨σ', g1, g2, g3⟩ := m_loadL hn hd f (j + 1) k (sI σ 39 0 j (atI (P j))) (by omega) (by omega) (by rw [fm.2 _ _ _ (by omega)]; exact h3) (by rw [fm.2 _ _ _ (by omega)]; exact h8) (hW.fm fm) (fun p h => by
      rw [gI_sI]
      by_cases e : p = j
      · rw [if_pos ⟨rfl, rfl, e⟩, e]
      · rw [if_neg (by omega)]; exact hp p (by omega))
    exact ⟨σ', g1, g2, fm.trans g3⟩
theorem m_load {σ : Sto} {n v d : Nat} {P Q : Nat → Nat} (hn : n ≤ 5) (hd : d < 3) (hS : MS σ n v Q) (hW : WS σ d n P) : ∃ σ', f9_load (iN d) σ = some σ' ∧ MS σ' n v P ∧ FM σ σ' := m_loadL hn hd n 0 300 σ (by omega) (by omega) hS.1 hS.2.1 hW (fun p hp => by omega)
/-! held, for any pea -/
def heldF (B : Bd) (v : Nat) (P : Nat → Nat) (d p : Nat) : Bool := decide (P p < 30) && heldB B v P (P p) d
theorem okP_sq {B : Bd} {n p : Nat} {P : Nat → Nat} (hP : okP B n P) (h : P p < 30) : p < n ∧ P p < B.1 * B.2.1 := by
  by_cases hp : p < n
  · rcases hP.1 p hp with ⟨g, -⟩ | g | g
    · exact ⟨hp, g⟩
    · omega
    · omega
  · have := hP.2 p (by omega); omega
theorem heldF_on {B : Bd} {v d p : Nat} {P : Nat → Nat} (h : P p < 30) : heldF B v P d p = heldB B v P (P p) d := by
  unfold heldF; rw [decide_eq_true h, Bool.true_and]
theorem heldF_off {B : Bd} {v d p : Nat} {P : Nat → Nat} (h : ¬ P p < 30) : heldF B v P d p = false := by
  unfold heldF; rw [decide_eq_false h, Bool.false_and]
theorem c_isHeldF {σ : Sto} {i t v n p d : Nat} {P : Nat → Nat} {B : Bd} (hB : CB σ t B) (h : okB B) (hS : CS σ i t v P) (hv : v < 3) (hP : okP B n P) (hp : p < 5) (hd : d < 4) : f6_isHeld i (iN p) (iN d) σ = some (b2i (heldF B v P d p), σ) := by
  by_cases on : P p < 30
  · rw [heldF_on on]
    rcases c_isHeld hB h hS hv hp (okP_sq hP on).2 hd with ⟨g1, g2⟩ | ⟨g1, g2⟩
    · rw [g2, show b2i (heldB B v P (P p) d) = 1 from if_pos g1]
    · rw [g2, show b2i (heldB B v P (P p) d) = 0 from if_neg g1]
  · rw [c_isHeld_off hS hp on, heldF_off on]; rfl
theorem b2i_0 {b : Bool} : b2i b = 0 ↔ b = false := by cases b <;> decide
theorem b2i_t : b2i true = 1 := rfl
theorem b2i_f : b2i false = 0 := rfl
theorem b2i_ite {α : Type} {b : Bool} {x y : α} : (if b2i b = 0 then x else y) = if b = true then y else x := by cases b <;> rfl
theorem c_heldSetL {σ : Sto} {i t v n d : Nat} {P : Nat → Nat} {B : Bd} (hB : CB σ t B) (h : okB B) (hS : CS σ i t v P) (hv : v < 3) (hP : okP B n P) (hd : d < 4) : ∀ (f j k : Nat) (a : Int32), j + f = 5 → f < k → l6_heldSet_4 i (iN d) k a (iN j) σ = some (bsF (heldF B v P d) f j a, σ)
  | f, j, 0, _, _, hk => by omega
  | 0, j, k + 1, a, hj, hk => by
    show (if 5 ≤ iN j then _ else _) = _
    rw [if_pos (by rw [show (5 : Int32) = iN 5 from rfl, iN_le (by omega) (by omega)]; omega)]
    rfl
  | f + 1, j, k + 1, a, hj, hk => by
    show (if 5 ≤ iN j then _ else _) = _
    rw [if_neg (by rw [show (5 : Int32) = iN 5 from rfl, iN_le (by omega) (by omega)]; omega), c_isHeldF hB h hS hv hP (by omega) hd, bI_some, b2i_ite, iN_add1]
    show _ = some (bsF _ f (j + 1) (if heldF B v P d j = true then _ else a), σ)
    by_cases e : heldF B v P d j = true
    · rw [if_pos e, if_pos e]; exact c_heldSetL hB h hS hv hP hd f (j + 1) k _ (by omega) (by omega)
    · rw [if_neg e, if_neg e]; exact c_heldSetL hB h hS hv hP hd f (j + 1) k _ (by omega) (by omega)
theorem m_setL {σ : Sto} {n : Nat} {a1 : Int32} {f : Nat → Bool} (hn : n ≤ 5) (h3 : gI σ 9 0 3 = iN n) (step : ∀ (j k : Nat) (a : Int32), j < n → l9_setOf_4 a1 (k + 1) a (iN j) σ = if f j = true then l9_setOf_4 a1 k (a ||| (1 <<< (iN j &&& 31))) (iN (j + 1)) σ else l9_setOf_4 a1 k (a ||| 0) (iN (j + 1)) σ) : ∀ (g j k : Nat) (a : Int32), j + g = n → g < k → l9_setOf_4 a1 k a (iN j) σ = some (bsF f g j a, σ)
  | g, j, 0, _, _, hk => by omega
  | 0, j, k + 1, a, hj, hk => by
    show (if gI σ 9 0 3 ≤ iN j then _ else _) = _
    rw [h3, if_pos ((iN_le (by omega) (by omega)).mpr (by omega))]
    rfl
  | g + 1, j, k + 1, a, hj, hk => by
    rw [step j k a (by omega)]
    show _ = some (bsF _ g (j + 1) (if f j = true then _ else a), σ)
    by_cases e : f j = true
    · rw [if_pos e, if_pos e]; exact m_setL hn h3 step g (j + 1) k _ (by omega) (by omega)
    · rw [if_neg e, if_neg e, Int32.or_zero]; exact m_setL hn h3 step g (j + 1) k _ (by omega) (by omega)
theorem atI_m1 {x : Nat} : atI x = -1 ↔ x = 100 := by
  unfold atI
  by_cases h : x < 30
  · rw [if_pos h]
    exact ⟨fun e => absurd e (iN_ne_m (by omega) (by decide)), fun e => by omega⟩
  · rw [if_neg h]
    by_cases e : x = 100
    · rw [if_pos e]; exact ⟨fun _ => e, fun _ => rfl⟩
    · rw [if_neg e]; exact ⟨fun q => absurd q (by decide), fun q => absurd q e⟩
theorem atI_m2 {x : Nat} : atI x = -2 ↔ ¬ x < 30 ∧ ¬ x = 100 := by
  unfold atI
  by_cases h : x < 30
  · rw [if_pos h]
    exact ⟨fun e => absurd e (iN_ne_m (by omega) (by decide)), fun e => absurd h e.1⟩
  · rw [if_neg h]
    by_cases e : x = 100
    · rw [if_pos e]; exact ⟨fun q => absurd q (by decide), fun q => absurd e q.2⟩
    · rw [if_neg e]; exact ⟨fun _ => ⟨h, e⟩, fun _ => rfl⟩
theorem m_set0 {σ : Sto} {n v : Nat} {P : Nat → Nat} {B : Bd} (hn : n ≤ 5) (hP : okP B n P) (hS : MS σ n v P) : f9_setOf 0 σ = some (bits P 100, σ) := by
  have := m_setL (a1 := 0) (f := fun p => decide (P p = 100)) hn hS.1 (fun j k a hj => by
    show (if gI σ 9 0 3 ≤ iN j then _ else _) = _
    rw [hS.1, if_neg (by rw [iN_le (by omega) (by omega)]; omega), if_pos rfl, if_pos ((iN_Ix (by omega)).mpr (by omega)), iN_nat (by omega), hS.2.2 j hj, iN_add1]
    by_cases e : P j = 100
    · rw [if_pos (atI_m1.mpr e), if_pos (decide_eq_true e)]
    · rw [if_neg (mt atI_m1.mp e), if_neg (by rw [decide_eq_false e]; decide)]) n 0 300 0 (by omega) (by omega)
  rw [bsF_n hn (fun p hp => by rw [hP.2 p hp]; rfl), ← bits_bsF] at this
  exact this
theorem m_set1 {σ : Sto} {n v : Nat} {P : Nat → Nat} {B : Bd} (h30 : B.1 * B.2.1 ≤ 30) (hn : n ≤ 5) (hP : okP B n P) (hS : MS σ n v P) : f9_setOf 1 σ = some (bits P 101, σ) := by
  have := m_setL (a1 := 1) (f := fun p => decide (P p = 101)) hn hS.1 (fun j k a hj => by
    show (if gI σ 9 0 3 ≤ iN j then _ else _) = _
    rw [hS.1, if_neg (by rw [iN_le (by omega) (by omega)]; omega), if_neg (by decide), if_pos rfl, if_pos ((iN_Ix (by omega)).mpr (by omega)), iN_nat (by omega), hS.2.2 j hj, iN_add1]
    have q := hP.1 j hj
    by_cases e : P j = 101
    · rw [if_pos (atI_m2.mpr (by omega)), if_pos (decide_eq_true e)]
    · rw [if_neg (fun z => by have := atI_m2.mp z; omega), if_neg (by rw [decide_eq_false e]; decide)]) n 0 300 0 (by omega) (by omega)
  rw [bsF_n hn (fun p hp => by rw [hP.2 p hp]; rfl), ← bits_bsF] at this
  exact this
theorem m_set2 {σ : Sto} {n v d : Nat} {P : Nat → Nat} {B : Bd} (h : okB B) (hv : v < 3) (hn : n ≤ 5) (hP : okP B n P) (hB : MB σ B) (hS : MS σ n v P) (hd : d < 4) : f9_setOf (iN (d + 2)) σ = some (bsF (heldF B v P d) 5 0 0, σ) := by
  have ed : iN (d + 2) - 2 = iN d := iN_sub (a := d + 2) (b := 2) (by omega)
  have := m_setL (a1 := iN (d + 2)) (f := heldF B v P d) hn hS.1 (fun j k a hj => by
    show (if gI σ 9 0 3 ≤ iN j then _ else _) = _
    rw [hS.1, if_neg (by rw [iN_le (by omega) (by omega)]; omega), if_neg (by rw [show (0 : Int32) = iN 0 from rfl, iN_inj (by omega) (by omega)]; omega), if_neg (by rw [show (1 : Int32) = iN 1 from rfl, iN_inj (by omega) (by omega)]; omega), if_pos ((iN_Ix (by omega)).mpr (by omega)), iN_nat (by omega), hS.2.2 j hj, iN_add1, ed]
    by_cases on : P j < 30
    · rw [atI_lt on, if_neg (iN_neg (by omega)), m_isHeld h hv hn hP hB hS hd hj (okP_sq hP on).2, bI_some, b2i_ite, heldF_on on]
    · rw [if_pos (atI_neg on), heldF_off on, if_neg (by decide)]) n 0 300 0 (by omega) (by omega)
  rw [bsF_n hn (fun p hp => heldF_off (by rw [hP.2 p hp]; decide))] at this
  exact this
