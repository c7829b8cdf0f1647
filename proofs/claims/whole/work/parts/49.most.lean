/-! most: how many are had -/
def hcN (P : Nat → Nat) : Nat := cnF (fun q => decide (P q = 100)) 5 0 0
theorem cnF_s {f : Nat → Bool} : ∀ (k j a : Nat), cnF f k j (a + 1) = cnF f k j a + 1
  | 0, _, _ => rfl
  | k + 1, j, a => by
    show cnF f k (j + 1) (if f j = true then a + 1 + 1 else a + 1) = cnF f k (j + 1) (if f j = true then a + 1 else a) + 1
    by_cases e : f j = true
    · rw [if_pos e, if_pos e]; exact cnF_s k (j + 1) (a + 1)
    · rw [if_neg e, if_neg e]; exact cnF_s k (j + 1) a
theorem cnF_ext {f g : Nat → Bool} : ∀ (k j a : Nat), (∀ p, j ≤ p → p < j + k → f p = g p) → cnF f k j a = cnF g k j a
  | 0, _, _, _ => rfl
  | k + 1, j, a, h => by
    show cnF f k (j + 1) (if f j = true then a + 1 else a) = cnF g k (j + 1) (if g j = true then a + 1 else a)
    rw [h j (Nat.le_refl _) (by omega)]
    exact cnF_ext k (j + 1) _ (fun p hp hp2 => h p (by omega) (by omega))
theorem cnF_one {f g : Nat → Bool} {q : Nat} (hf : f q = false) (hg : g q = true) (he : ∀ p, ¬ p = q → f p = g p) : ∀ (k j a : Nat), j ≤ q → q < j + k → cnF g k j a = cnF f k j a + 1
  | 0, j, a, h1, h2 => by omega
  | k + 1, j, a, h1, h2 => by
    show cnF g k (j + 1) (if g j = true then a + 1 else a) = cnF f k (j + 1) (if f j = true then a + 1 else a) + 1
    by_cases e : j = q
    · rw [e, hf, hg, if_pos rfl, if_neg (by decide), cnF_s, cnF_ext (f := f) (g := g) k (q + 1) a (fun p hp _ => he p (by omega))]
    · rw [he j e]
      exact cnF_one hf hg he k (j + 1) _ (by omega) (by omega)
theorem cnF_stop {f : Nat → Bool} : ∀ (k j a : Nat), (∀ p, j ≤ p → f p = false) → cnF f k j a = a
  | 0, _, _, _ => rfl
  | k + 1, j, a, h => by
    show cnF f k (j + 1) (if f j = true then a + 1 else a) = a
    rw [h j (Nat.le_refl _), if_neg (by decide)]
    exact cnF_stop k (j + 1) a (fun p hp => h p (by omega))
theorem cnF_add {f : Nat → Bool} {e : Nat} : ∀ (g j a : Nat), cnF f (g + e) j a = cnF f e (j + g) (cnF f g j a)
  | 0, j, a => by rw [Nat.zero_add]; rfl
  | g + 1, j, a => by
    rw [show g + 1 + e = (g + e) + 1 by omega]
    show cnF f (g + e) (j + 1) _ = cnF f e (j + (g + 1)) (cnF f g (j + 1) _)
    rw [cnF_add g (j + 1), show j + 1 + g = j + (g + 1) by omega]
theorem cnF_n {f : Nat → Bool} {n : Nat} (hn : n ≤ 5) (h : ∀ p, n ≤ p → f p = false) : cnF f n 0 0 = cnF f 5 0 0 := by
  have := cnF_add (f := f) (e := 5 - n) n 0 0
  rw [show n + (5 - n) = 5 by omega, Nat.zero_add] at this
  rw [this, cnF_stop _ _ _ h]
theorem hcN_le (P : Nat → Nat) : hcN P ≤ 5 := by
  have := cnF_le (f := fun q => decide (P q = 100)) 5 0 0
  unfold hcN
  omega
theorem hc_push {A : AS} {P : Nat → Nat} {c : Nat} (hl : laid A) (hP : okP (aB A) (aN A) P) (hc : okC (aN A) (aM A) c) : hcN (psA A P c) = hcN P + (if heldF (aB A) (aV A) P (c % 10) (c / 10 % 10) = true then 1 else 0) := by
  have hn := hl.2.2.1
  have pi := fun x => push_100 (v := aV A) (x := x) (F := aF A) hl.1 hP hc
  unfold hcN
  by_cases hh : heldF (aB A) (aV A) P (c % 10) (c / 10 % 10) = true
  · rw [if_pos hh]
    have on : P (c / 10 % 10) < 30 := by
      by_cases on : P (c / 10 % 10) < 30
      · exact on
      · rw [heldF_off on] at hh; exact absurd hh (by decide)
    refine cnF_one (q := c / 10 % 10) (decide_eq_false (by omega)) (decide_eq_true ((pi _).mpr (Or.inr ⟨rfl, hh⟩))) (fun p hp => ?_) 5 0 0 (Nat.zero_le _) (by have := hc.2.1; omega)
    by_cases e : P p = 100
    · rw [decide_eq_true e, decide_eq_true ((pi p).mpr (Or.inl e))]
    · rw [decide_eq_false e, decide_eq_false (fun q => ?_)]
      rcases (pi p).mp q with z | z
      · exact e z
      · exact hp z.1
  · rw [if_neg hh, Nat.add_zero]
    refine cnF_ext 5 0 0 (fun p _ _ => ?_)
    by_cases e : P p = 100
    · rw [decide_eq_true e, decide_eq_true ((pi p).mpr (Or.inl e))]
    · rw [decide_eq_false e, decide_eq_false (fun q => ?_)]
      rcases (pi p).mp q with z | z
      · exact e z
      · exact hh (z.1 ▸ z.2)
def sto0 : Sto := (fun _ _ _ => 0, fun _ _ _ => none, fun _ => 0)
def bcE (a : Int32) : Int32 := match fJ6_bitCount a sto0 with
  | some x => x.1
  | none => 0
theorem bc_E (a : Int32) (σ : Sto) : fJ6_bitCount a σ = some (bcE a, σ) := rfl
theorem bc_bits (P : Nat → Nat) : bcE (bits P 100) = iN (hcN P) := by
  unfold bits hcN
  simp only [cnF, decide_eq_true_eq]
  by_cases h0 : P 0 = 100 <;> by_cases h1 : P 1 = 100 <;> by_cases h2 : P 2 = 100 <;> by_cases h3 : P 3 = 100 <;> by_cases h4 : P 4 = 100 <;> simp only [h0, h1, h2, h3, h4, if_true, if_false] <;> decide +kernel
theorem c_countHad {σ : Sto} {i t v : Nat} {P : Nat → Nat} (hS : CS σ i t v P) : f6_countHad i σ = some (iN (hcN P), σ) := by
  unfold f6_countHad
  rw [bc_E, bI_some, hS.2.2.2.1, bc_bits]
theorem m_hadL {σ : Sto} {n v : Nat} {P : Nat → Nat} (hn : n ≤ 5) (hS : MS σ n v P) : ∀ (f j k a : Nat), j + f = n → f < k → l9_hadNow_4 k (iN a) (iN j) σ = some (iN (cnF (fun q => decide (P q = 100)) f j a), σ)
  | f, j, 0, _, _, hk => by omega
  | 0, j, k + 1, a, hj, hk => by
    show (if gI σ 9 0 3 ≤ iN j then _ else _) = _
    rw [hS.1, if_pos ((iN_le (by omega) (by omega)).mpr (by omega))]
    rfl
  | f + 1, j, k + 1, a, hj, hk => by
    show (if gI σ 9 0 3 ≤ iN j then _ else _) = _
    rw [hS.1, if_neg (by rw [iN_le (by omega) (by omega)]; omega), if_pos ((iN_Ix (by omega)).mpr (by omega)), iN_nat (by omega), hS.2.2 j (by omega), iN_add1, iN_add1, Int32.add_zero]
    show _ = some (iN (cnF _ f (j + 1) (if decide (P j = 100) = true then a + 1 else a)), σ)
    by_cases e : P j = 100
    · rw [if_pos (atI_m1.mpr e), if_pos (decide_eq_true e)]; exact m_hadL hn hS f (j + 1) k _ (by omega) (by omega)
    · rw [if_neg (mt atI_m1.mp e), if_neg (by rw [decide_eq_false e]; decide)]; exact m_hadL hn hS f (j + 1) k _ (by omega) (by omega)
theorem m_had {σ : Sto} {n v : Nat} {P : Nat → Nat} {B : Bd} (hn : n ≤ 5) (hP : okP B n P) (hS : MS σ n v P) : f9_hadNow σ = some (iN (hcN P), σ) := by
  have := m_hadL hn hS n 0 300 0 (by omega) (by omega)
  rw [cnF_n hn (fun p hp => by rw [hP.2 p hp]; rfl)] at this
  exact this
/-! the most -/
def mxL (g : Nat → Option Nat) : List Nat → Nat → Nat
  | [], b => b
  | c :: l, b => match g c with
    | some x => mxL g l (if b < x then x else b)
    | none => mxL g l b
def moA (A : AS) : Nat → (Nat → Nat) → Nat
  | 0, P => hcN P
  | k + 1, P => mxL (fun c => if onB P c = true then some (moA A k (psA A P c)) else none) (cdA A) (hcN P)
theorem mxL_le {g : Nat → Option Nat} {M : Nat} : ∀ (l : List Nat) (b : Nat), b ≤ M → (∀ c x, c ∈ l → g c = some x → x ≤ M) → mxL g l b ≤ M
  | [], b, h, _ => h
  | c :: l, b, h, hx => by
    unfold mxL
    cases e : g c with
    | none => exact mxL_le l b h (fun c x hc => hx c x (List.mem_cons_of_mem _ hc))
    | some x =>
      have := hx c x (List.mem_cons_self) e
      exact mxL_le l _ (by split <;> omega) (fun c x hc => hx c x (List.mem_cons_of_mem _ hc))
theorem mxL_ge {g : Nat → Option Nat} : ∀ (l : List Nat) (b : Nat), b ≤ mxL g l b
  | [], b => Nat.le_refl _
  | c :: l, b => by
    unfold mxL
    cases e : g c with
    | none => exact mxL_ge l b
    | some x =>
      have := mxL_ge (g := g) l (if b < x then x else b)
      show b ≤ mxL g l (if b < x then x else b)
      split at this <;> rename_i q
      · rw [if_pos q]; omega
      · rw [if_neg q]; exact this
theorem mxL_x {g : Nat → Option Nat} {c x : Nat} (hg : g c = some x) : ∀ (l : List Nat) (b : Nat), c ∈ l → x ≤ mxL g l b
  | [], b, h => absurd h (List.not_mem_nil)
  | a :: l, b, h => by
    unfold mxL
    rcases List.mem_cons.mp h with q | q
    · rw [← q, hg]
      have := mxL_ge (g := g) l (if b < x then x else b)
      show x ≤ mxL g l (if b < x then x else b)
      split at this <;> rename_i z
      · rw [if_pos z]; exact this
      · rw [if_neg z]; omega
    · cases e : g a with
      | none => exact mxL_x hg l b q
      | some y => exact mxL_x hg l _ q
theorem mxL_top {g : Nat → Option Nat} {b : Nat} (l : List Nat) (h : ∀ c x, c ∈ l → g c = some x → x ≤ b) : mxL g l b = b := Nat.le_antisymm (mxL_le l b (Nat.le_refl _) h) (mxL_ge l b)
theorem mo_le {A : AS} (hl : laid A) : ∀ (k : Nat) (P : Nat → Nat), okP (aB A) (aN A) P → moA A k P ≤ hcN P + k
  | 0, P, _ => Nat.le_refl _
  | k + 1, P, hP => by
    refine mxL_le _ _ (by omega) (fun c x hc hx => ?_)
    by_cases on : onB P c = true
    · rw [if_pos on] at hx
      have := mo_le hl k (psA A P c) (cd_okP hl hP hc)
      have h1 := hc_push hl hP (mdF_ok _ _ _ hc).1
      have h2 := Option.some.inj hx
      split at h1 <;> omega
    · rw [if_neg on] at hx; exact absurd hx (by simp)
theorem mo_5 {A : AS} (hl : laid A) {k : Nat} {P : Nat → Nat} (hP : okP (aB A) (aN A) P) (hk : k ≤ 3) : moA A k P < 100 := by
  have := mo_le hl k P hP
  have := hcN_le P
  omega
def anF (f : Nat → Bool) : Nat → Nat → Bool
  | 0, _ => false
  | k + 1, j => if f j = true then true else anF f k (j + 1)
theorem anF_t {f : Nat → Bool} : ∀ (k j : Nat), anF f k j = true → ∃ p, p < j + k ∧ f p = true
  | 0, _, h => absurd h (by simp [anF])
  | k + 1, j, h => by
    have h' : (if f j = true then true else anF f k (j + 1)) = true := h
    by_cases e : f j = true
    · exact ⟨j, by omega, e⟩
    · rw [if_neg e] at h'
      obtain ⟨p, h1, h2⟩ := anF_t k (j + 1) h'
      exact ⟨p, by omega, h2⟩
theorem anF_f {f : Nat → Bool} : ∀ (k j : Nat), anF f k j = false → ∀ p, j ≤ p → p < j + k → f p = false
  | 0, _, _, p, h1, h2 => by omega
  | k + 1, j, h, p, h1, h2 => by
    have h' : (if f j = true then true else anF f k (j + 1)) = false := h
    by_cases e : f j = true
    · rw [if_pos e] at h'; exact absurd h' (by decide)
    · rw [if_neg e] at h'
      by_cases ep : p = j
      · rw [ep]; exact Bool.eq_false_iff.mpr e
      · exact anF_f k (j + 1) h' p (by omega) (by omega)
theorem mdF_mem {n m c : Nat} (hc : okC n m c) : ∀ (f j : Nat), j ≤ c → c < j + f → c ∈ mdF n m f j
  | 0, j, h1, h2 => by omega
  | f + 1, j, h1, h2 => by
    show c ∈ (if okCb n m j = true then j :: mdF n m f (j + 1) else mdF n m f (j + 1))
    by_cases e : j = c
    · rw [e, if_pos (okCb_iff.mpr hc)]; exact List.mem_cons_self
    · have := mdF_mem hc f (j + 1) (by omega) (by omega)
      by_cases eo : okCb n m j = true
      · rw [if_pos eo]; exact List.mem_cons_of_mem _ this
      · rw [if_neg eo]; exact this
theorem fhF_some {h : Nat → Bool} {d : Nat} (e : fhF h = some d) : h d = true := by
  unfold fhF at e
  split at e
  · rename_i q; rw [← Option.some.inj e]; exact q
  split at e
  · rename_i q; rw [← Option.some.inj e]; exact q
  split at e
  · rename_i q; rw [← Option.some.inj e]; exact q
  split at e
  · rename_i q; rw [← Option.some.inj e]; exact q
  · exact absurd e (by simp)
theorem fhF_none {h : Nat → Bool} (e : fhF h = none) {d : Nat} (hd : d < 4) : ¬ h d = true := by
  unfold fhF at e
  split at e
  · exact absurd e (by simp)
  split at e
  · exact absurd e (by simp)
  split at e
  · exact absurd e (by simp)
  split at e
  · exact absurd e (by simp)
  · rename_i q0 q1 q2 q3
    rcases (show d = 0 ∨ d = 1 ∨ d = 2 ∨ d = 3 by omega) with rfl | rfl | rfl | rfl
    · exact q0
    · exact q1
    · exact q2
    · exact q3
def anyB (A : AS) (P : Nat → Nat) : Bool := anF (fun p => (fhF (fun d => heldF (aB A) (aV A) P d p)).isSome) 5 0
theorem mo_1 {A : AS} {P : Nat → Nat} (hl : laid A) (hP : okP (aB A) (aN A) P) : moA A 1 P = if anyB A P = true then hcN P + 1 else hcN P := by
  have hn := hl.2.2.1
  by_cases an : anyB A P = true
  · rw [if_pos an]
    refine Nat.le_antisymm (mo_le hl 1 P hP) ?_
    obtain ⟨p, hp5, hf⟩ := anF_t _ _ an
    obtain ⟨d, hd⟩ := Option.isSome_iff_exists.mp hf
    have hd4 := fhF_lt hd
    have hh := fhF_some hd
    have on : P p < 30 := by
      by_cases on : P p < 30
      · exact on
      · rw [heldF_off on] at hh; exact absurd hh (by decide)
    have hp := (okP_sq hP on).1
    have okc := okC_mk (e := 0) hn (show 0 < aM A by have := hl.2.1.1; omega) hp hd4
    have cp := code_p (e := 0) (show p < 10 by omega) (show d < 10 by omega)
    have cd := code_d (e := 0) (show p < 10 by omega) (show d < 10 by omega)
    generalize 100 * 0 + 10 * p + d = c at okc cp cd
    have hm := mdF_mem okc 200 0 (Nat.zero_le _) (by have := okC_lt hl.2.1.2 okc; omega)
    have hx := hc_push hl hP okc
    rw [cp, cd, if_pos hh] at hx
    rw [← hx]
    refine mxL_x (c := c) ?_ (cdA A) (hcN P) hm
    rw [if_pos (show onB P c = true from decide_eq_true (by rw [cp]; exact on))]
    rfl
  · rw [if_neg an]
    refine mxL_top _ (fun c x hc hx => ?_)
    by_cases on : onB P c = true
    · rw [if_pos on] at hx
      have okc := (mdF_ok _ _ _ hc).1
      have h1 := hc_push hl hP okc
      have hf := anF_f _ _ (Bool.eq_false_iff.mpr an) (c / 10 % 10) (Nat.zero_le _) (by have := okc.2.1; omega)
      have hf' : fhF (fun d => heldF (aB A) (aV A) P d (c / 10 % 10)) = none := by
        cases e : fhF (fun d => heldF (aB A) (aV A) P d (c / 10 % 10)) with
        | none => rfl
        | some y => rw [e] at hf; exact absurd (show true = false from hf) (by decide)
      rw [if_neg (fhF_none hf' okc.2.2), Nat.add_zero] at h1
      have h2 : hcN (psA A P c) = x := Option.some.inj hx
      rw [← h2, h1]
      exact Nat.le_refl _
    · rw [if_neg on] at hx; exact absurd hx (by simp)
theorem c_anyL {σ : Sto} {i t : Nat} {A : AS} {P : Nat → Nat} (hl : laid A) (hB : CB σ t (aB A)) (hS : CS σ i t (aV A) P) (hP : okP (aB A) (aN A) P) : ∀ (f j k : Nat), j + f = 5 → f < k → l6_holdsAny_2 i k (iN j) σ = some (b2i (anF (fun p => (fhF (fun d => heldF (aB A) (aV A) P d p)).isSome) f j), σ)
  | f, j, 0, _, hk => by omega
  | 0, j, k + 1, hj, hk => by
    show (if 5 ≤ iN j then _ else _) = _
    rw [if_pos (by rw [show (5 : Int32) = iN 5 from rfl, iN_le (by omega) (by omega)]; omega)]
    rfl
  | f + 1, j, k + 1, hj, hk => by
    show (if 5 ≤ iN j then _ else _) = _
    rw [if_neg (by rw [show (5 : Int32) = iN 5 from rfl, iN_le (by omega) (by omega)]; omega), c_fh hB hl.1 hS hl.2.2.2.2.2.2.2 hP (by omega), bI_some, iN_add1]
    show _ = some (b2i (if (fhF (fun d => heldF (aB A) (aV A) P d j)).isSome = true then true else anF _ f (j + 1)), σ)
    cases e : fhF (fun d => heldF (aB A) (aV A) P d j) with
    | none =>
      rw [if_pos (show fhI none = -9 from rfl), if_neg (show ¬ (none : Option Nat).isSome = true from fun q => Bool.noConfusion q)]
      exact c_anyL hl hB hS hP f (j + 1) k (by omega) (by omega)
    | some d =>
      have := fhF_lt e
      rw [if_neg (show ¬ fhI (some d) = -9 from iN_ne_m (by omega) (by decide)), if_pos (show (some d).isSome = true from rfl)]
      rfl
theorem c_any {σ : Sto} {i t : Nat} {A : AS} {P : Nat → Nat} (hl : laid A) (hB : CB σ t (aB A)) (hS : CS σ i t (aV A) P) (hP : okP (aB A) (aN A) P) : f6_holdsAny i σ = some (b2i (anyB A P), σ) := c_anyL hl hB hS hP 5 0 300 rfl (by decide)
def Mst (A : AS) (t lev more : Nat) (f : Sto → Option (Int32 × Sto)) : Prop := ∀ (σ : Sto) (P : Nat → Nat), okP (aB A) (aN A) P → CX σ t A → RCc σ t A → CS σ (lev + 2) t (aV A) P → ∃ σ', f σ = some (iN (moA A more P), σ') ∧ CF lev σ σ'
theorem c_most0 {A : AS} {t lev : Nat} {rc : Int32 → Int32 → Sto → Option (Int32 × Sto)} (hl : laid A) (hlev : lev < 3) : Mst A t lev 0 (fun σ => g8_mostHad rc (iN lev) (iN 0) σ) := by
  intro σ P hP hX hc hS
  have ix : Ix (iN lev) 3 := (iN_Ix (by omega)).mpr (by omega)
  have e1 : (iN lev).toNatClampNeg + 2 = lev + 2 := by rw [iN_nat (by omega)]
  refine ⟨σ, ?_, CF.rfl⟩
  show g8_mostHad rc (iN lev) (iN 0) σ = _
  unfold g8_mostHad
  rw [show (3 : Int32) = iN 3 from rfl, isBelow_in σ (by decide) hlev, bI_some, if_neg (by decide), if_pos ix, e1, c_countHad hS, bI_some, if_neg (by decide)]
  rfl
theorem c_most1 {A : AS} {t lev : Nat} {rc : Int32 → Int32 → Sto → Option (Int32 × Sto)} (hl : laid A) (hlev : lev < 3) : Mst A t lev 1 (fun σ => g8_mostHad rc (iN lev) (iN 1) σ) := by
  intro σ P hP hX hc hS
  have ix : Ix (iN lev) 3 := (iN_Ix (by omega)).mpr (by omega)
  have e1 : (iN lev).toNatClampNeg + 2 = lev + 2 := by rw [iN_nat (by omega)]
  refine ⟨σ, ?_, CF.rfl⟩
  show g8_mostHad rc (iN lev) (iN 1) σ = _
  unfold g8_mostHad
  rw [show (3 : Int32) = iN 3 from rfl, isBelow_in σ (by decide) hlev, bI_some, if_neg (by decide), if_pos ix, e1, c_countHad hS, bI_some, if_pos (by decide), if_pos (by decide), c_any hl hX.2.1 hS hP, bI_some, b2i_ite, iN_add1, mo_1 hl hP]
  by_cases an : anyB A P = true
  · rw [if_pos an, if_pos an]
  · rw [if_neg an, if_neg an]
theorem csF_ok {n c : Nat} : ∀ (f j : Nat), c ∈ csF n f j → ∃ x, x < j + f ∧ c = cAt n x
  | 0, j, h => absurd h (List.not_mem_nil)
  | f + 1, j, h => by
    rcases List.mem_cons.mp h with q | q
    · exact ⟨j, by omega, q⟩
    · obtain ⟨x, h1, h2⟩ := csF_ok f (j + 1) q
      exact ⟨x, by omega, h2⟩
theorem c_mostL {A : AS} {t lev more : Nat} {rc : Int32 → Int32 → Sto → Option (Int32 × Sto)} (hl : laid A) (hlev : lev < 2) (hm : 1 ≤ more ∧ more ≤ 3) (hrc : Mst A t (lev + 1) (more - 1) (fun σ => rc (iN (lev + 1)) (iN (more - 1)) σ)) {P : Nat → Nat} (hP : okP (aB A) (aN A) P) : ∀ (f j k b : Nat) (σ : Sto), j + f = 4 * aN A * aM A → f < k → b < 100 → CX σ t A → RCc σ t A → CS σ (lev + 2) t (aV A) P → ∃ σ', l8_mostHad_65 rc (iN lev) (iN more) (iN (hcN P)) t k (iN b) (iN j) σ = some (iN (mxL (fun c => if onB P c = true then some (moA A (more - 1) (psA A P c)) else none) (csF (aN A) f j) b), σ') ∧ CF lev σ σ'
  | f, j, 0, _, _, _, hk, _, _, _, _ => by omega
  | 0, j, k + 1, b, σ, hj, hk, hb, hX, hc, hS => by
    have h40 := n40 hl.2.2.1 hl.2.1.2
    refine ⟨σ, ?_, CF.rfl⟩
    show (if gI σ 2 t 4 ≤ iN j then _ else _) = _
    rw [hc.1, if_pos ((iN_le (by omega) (by omega)).mpr (by omega))]
    rfl
  | f + 1, j, k + 1, b, σ, hj, hk, hb, hX, hc, hS => by
    have h40 := n40 hl.2.2.1 hl.2.1.2
    have h5 := hcN_le P
    have okc := cAt_ok hl.2.2.1 hl.2.1.2 (show j < 4 * aN A * aM A by omega)
    have ix : Ix (iN j) 40 := (iN_Ix (by omega)).mpr (by omega)
    have e10 : gI σ 10 t (iN j).toNatClampNeg = iN (cAt (aN A) j) := by rw [iN_nat (by omega), hc.2 j (by omega)]
    show ∃ σ', (if gI σ 2 t 4 ≤ iN j then _ else _) = _ ∧ _
    rw [hc.1, if_neg (by rw [iN_le (by omega) (by omega)]; omega), iN_add]
    by_cases top : hcN P + more ≤ b
    · rw [if_pos ((iN_le (by omega) (by omega)).mpr top), mxL_top (csF (aN A) (f + 1) j) (fun c x hcm hx => ?_)]
      · exact ⟨σ, rfl, CF.rfl⟩
      · obtain ⟨y, hy, rfl⟩ := csF_ok _ _ hcm
        have okc := cAt_ok hl.2.2.1 hl.2.1.2 (show y < 4 * aN A * aM A by omega)
        by_cases on : onB P (cAt (aN A) y) = true
        · rw [if_pos on] at hx
          have h1 := mo_le hl (more - 1) (psA A P (cAt (aN A) y)) (okP_push hl.1 okc hP)
          have h2 := hc_push hl hP okc
          have h3 := Option.some.inj hx
          split at h2 <;> omega
        · rw [if_neg on] at hx; exact absurd hx (by simp)
    · rw [if_neg (by rw [iN_le (by omega) (by omega)]; exact top), if_pos ix, e10, iN_add1, iN_add1, show iN more - 1 = iN (more - 1) from iN_sub (a := more) (b := 1) (by omega)]
      show ∃ σ', _ = some (iN (mxL _ (cAt (aN A) j :: csF (aN A) f (j + 1)) b), σ') ∧ _
      unfold mxL
      rcases c_step hl hlev hX okc hP hS with ⟨on, g1⟩ | ⟨on, s1, g1, g2, g3⟩
      · rw [g1, bI_some, if_pos rfl, on, if_neg (by decide)]
        exact c_mostL hl hlev hm hrc hP f (j + 1) k b σ (by omega) (by omega) hb hX hc hS
      · have cf1 : CF lev σ s1 := g3.cf (Nat.le_refl _)
        have hP' := okP_push (v := aV A) (F := aF A) hl.1 okc hP
        have hx := mo_5 hl hP' (show more - 1 ≤ 3 by omega)
        obtain ⟨t1, r1, r2⟩ := hrc s1 _ hP' (hX.cf cf1) (hc.cf cf1) g2
        have r1 : rc (iN (lev + 1)) (iN (more - 1)) s1 = _ := r1
        have cf2 := cf1.trans r2.up
        rw [g1, bI_some, if_neg (by decide), r1, bI_some, on, if_pos rfl]
        show ∃ σ', _ = some (iN (mxL _ (csF (aN A) f (j + 1)) (if b < moA A (more - 1) (psA A P (cAt (aN A) j)) then moA A (more - 1) (psA A P (cAt (aN A) j)) else b)), σ') ∧ _
        generalize moA A (more - 1) (psA A P (cAt (aN A) j)) = y at hx
        by_cases lt : b < y
        · rw [if_pos ((iN_lt (by omega) (by omega)).mpr lt), if_pos lt]
          obtain ⟨t2, z1, z2⟩ := c_mostL hl hlev hm hrc hP f (j + 1) k y t1 (by omega) (by omega) hx (hX.cf cf2) (hc.cf cf2) (hS.cf cf2 (by omega))
          exact ⟨t2, z1, cf2.trans z2⟩
        · rw [if_neg (by rw [iN_lt (by omega) (by omega)]; exact lt), if_neg lt]
          obtain ⟨t2, z1, z2⟩ := c_mostL hl hlev hm hrc hP f (j + 1) k b t1 (by omega) (by omega) hb (hX.cf cf2) (hc.cf cf2) (hS.cf cf2 (by omega))
          exact ⟨t2, z1, cf2.trans z2⟩
theorem c_mostS {A : AS} {t lev more : Nat} {rc : Int32 → Int32 → Sto → Option (Int32 × Sto)} (hl : laid A) (hlev : lev < 2) (hm : 1 ≤ more ∧ more < 3) (hrc : Mst A t (lev + 1) more (fun σ => rc (iN (lev + 1)) (iN more) σ)) : Mst A t lev (more + 1) (fun σ => g8_mostHad rc (iN lev) (iN (more + 1)) σ) := by
  intro σ P hP hX hc hS
  have h40 := n40 hl.2.2.1 hl.2.1.2
  have h5 := hcN_le P
  have ix : Ix (iN lev) 3 := (iN_Ix (by omega)).mpr (by omega)
  have e1 : (iN lev).toNatClampNeg + 2 = lev + 2 := by rw [iN_nat (by omega)]
  obtain ⟨s1, g1, g2⟩ := c_mostL (more := more + 1) hl hlev ⟨by omega, by omega⟩ hrc hP (4 * aN A * aM A) 0 300 (hcN P) σ (by omega) (by omega) (by omega) hX hc hS
  rw [codes_eq hl.2.2.1 hl.2.1.2] at g1
  refine ⟨s1, ?_, g2⟩
  show g8_mostHad rc (iN lev) (iN (more + 1)) σ = _
  unfold g8_mostHad
  rw [show (3 : Int32) = iN 3 from rfl, isBelow_in σ (by decide) (by omega), bI_some, if_neg (by decide), if_pos ix, e1, c_countHad hS, bI_some, if_pos (by rw [show (0 : Int32) = iN 0 from rfl, iN_lt (by omega) (by omega)]; omega), if_neg (by rw [show (1 : Int32) = iN 1 from rfl, iN_inj (by omega) (by omega)]; omega), hS.1, dr_some]
  exact g1
theorem c_most {A : AS} {t k : Nat} (hl : laid A) (hk : k < 4) : Mst A t 0 k (fun σ => f8_mostHad 4 0 (iN k) σ) := by
  have o : ∀ lev, lev < 3 → ∀ n, Mst A t lev 1 (fun σ => f8_mostHad (n + 1) (iN lev) (iN 1) σ) := fun lev h n => c_most1 hl h
  have w : ∀ lev, lev < 2 → ∀ n, Mst A t lev 2 (fun σ => f8_mostHad (n + 2) (iN lev) (iN 2) σ) := fun lev h n => c_mostS hl h ⟨by omega, by omega⟩ (o (lev + 1) (by omega) n)
  match k, hk with
  | 0, _ => exact c_most0 hl (by decide)
  | 1, _ => exact o 0 (by decide) 3
  | 2, _ => exact w 0 (by decide) 2
  | 3, _ => exact c_mostS (lev := 0) hl (by decide) ⟨by omega, by omega⟩ (w 1 (by decide) 1)
/-! the reference's most -/
def lpM (inner : Sto → Option (Int32 × Sto)) (dd : Int32) : Nat → Int32 → Int32 → Sto → Option (Int32 × Sto)
  | 0, _, _, _ => none
  | n + 1, a2, a3, σ => (if 200 ≤ a3 then (some (a2, σ)) else (bI (f9_isPush a3 σ) (fun v24 s25 => (if v24 = 0 then (lpM inner dd n a2 (a3 + 1) s25) else (bV (f9_doPush a3 s25) (fun s26 => (bI (inner s26) (fun v27 s28 => (if v27 ≤ a2 then (bV (f9_load dd s28) (fun s29 => (lpM inner dd n a2 (a3 + 1) s29))) else (bV (f9_load dd s28) (fun s30 => (lpM inner dd n v27 (a3 + 1) s30))))))))))))
theorem lp_1 {dd : Int32} : ∀ k, l9_mostByOne_12 dd k = lpM (fun σ => f9_hadNow σ) dd k
  | 0 => rfl
  | k + 1 => by
    funext a b σ
    unfold l9_mostByOne_12 lpM
    rw [lp_1 k]
theorem lp_2 {dd : Int32} : ∀ k, l9_mostByTwo_12 dd k = lpM (fun σ => f9_mostByOne (dd + 1) σ) dd k
  | 0 => rfl
  | k + 1 => by
    funext a b σ
    unfold l9_mostByTwo_12 lpM
    rw [lp_2 k]
theorem lp_3 : ∀ k, l9_mostByThree_12 k = lpM (fun σ => f9_mostByTwo 1 σ) 0 k
  | 0 => rfl
  | k + 1 => by
    funext a b σ
    unfold l9_mostByThree_12 lpM
    rw [lp_3 k]
def Mmo (A : AS) (e q : Nat) (f : Sto → Option (Int32 × Sto)) : Prop := ∀ (σ : Sto) (P : Nat → Nat), okP (aB A) (aN A) P → MX σ A → MS σ (aN A) (aV A) P → ∃ σ', f σ = some (iN (moA A q P), σ') ∧ MS σ' (aN A) (aV A) P ∧ FX e σ σ'
theorem FX.rfl {e : Nat} {σ : Sto} : FX e σ σ := ⟨Eq.refl _, fun _ _ _ _ _ => Eq.refl _⟩
theorem FX.up {e e' : Nat} {σ σ' : Sto} (h : FX e σ σ') (he : e' ≤ e) : FX e' σ σ' := ⟨h.1, fun k a b h1 h2 => h.2 k a b h1 (by omega)⟩
theorem WS.fx {d e n : Nat} {σ σ' : Sto} {P : Nat → Nat} (hW : WS σ d n P) (hn : n ≤ 5) (h : FX e σ σ') (hd : d < e) : WS σ' d n P := hW.fy hn (h.fy (Nat.le_refl _)) hd
theorem m_moL {A : AS} {dd q : Nat} {inner : Sto → Option (Int32 × Sto)} (hl : laid A) (hdd : dd < 3) (hq : q ≤ 3) (hin : Mmo A (dd + 1) q inner) {P : Nat → Nat} (hP : okP (aB A) (aN A) P) : ∀ (f j k b : Nat) (σ : Sto), j + f = 200 → f < k → b < 100 → MX σ A → MS σ (aN A) (aV A) P → WS σ dd (aN A) P → ∃ σ', lpM inner (iN dd) k (iN b) (iN j) σ = some (iN (mxL (fun c => if onB P c = true then some (moA A q (psA A P c)) else none) (mdF (aN A) (aM A) f j) b), σ') ∧ MS σ' (aN A) (aV A) P ∧ FX (dd + 1) σ σ'
  | f, j, 0, _, _, _, hk, _, _, _, _ => by omega
  | 0, j, k + 1, b, σ, hj, hk, hb, hX, hS, hW => by
    refine ⟨σ, ?_, hS, FX.rfl⟩
    show (if 200 ≤ iN j then _ else _) = _
    rw [if_pos (by rw [show (200 : Int32) = iN 200 from rfl, iN_le (by omega) (by omega)]; omega)]
    rfl
  | f + 1, j, k + 1, b, σ, hj, hk, hb, hX, hS, hW => by
    have hn := hl.2.2.1
    show ∃ σ', (if 200 ≤ iN j then _ else _) = _ ∧ _
    rw [if_neg (by rw [show (200 : Int32) = iN 200 from rfl, iN_le (by omega) (by omega)]; omega), m_isPush hl hX hS (by omega), bI_some, b2i_ite, iN_add1]
    show ∃ σ', _ = some (iN (mxL _ (if okCb (aN A) (aM A) j = true then j :: mdF (aN A) (aM A) f (j + 1) else mdF (aN A) (aM A) f (j + 1)) b), σ') ∧ _
    by_cases eo : okCb (aN A) (aM A) j = true
    · rw [eo, Bool.true_and, if_pos (show true = true from rfl)]
      unfold mxL
      by_cases on : onB P j = true
      · rw [on, if_pos (show true = true from rfl), if_pos (show true = true from rfl)]
        obtain ⟨s1, g1, g2, g3⟩ := m_pushX hl hl.2.2.2.2.2.2.2 hX (okCb_iff.mp eo) hP hS
        have hP' := okP_push (v := aV A) (F := aF A) hl.1 (okCb_iff.mp eo) hP
        obtain ⟨t1, r1, r2, r3⟩ := hin s1 _ hP' (hX.fm g3) g2
        have fa : FX (dd + 1) σ t1 := (FM.fx g3).trans r3
        obtain ⟨t2, k1, k2, k3⟩ := m_load hn hdd r2 (hW.fx hn fa (by omega))
        have fb := fa.trans (FM.fx k3)
        have hx := mo_5 hl hP' hq
        rw [g1, bV_some, r1, bI_some, k1, bV_some, bV_some]
        show ∃ σ', _ = some (iN (mxL _ (mdF (aN A) (aM A) f (j + 1)) (if b < moA A q (psA A P j) then moA A q (psA A P j) else b)), σ') ∧ _
        generalize moA A q (psA A P j) = y at hx
        by_cases lt : b < y
        · rw [if_neg (by rw [iN_le (by omega) (by omega)]; omega), if_pos lt]
          obtain ⟨t3, z1, z2, z3⟩ := m_moL hl hdd hq hin hP f (j + 1) k y t2 (by omega) (by omega) hx (hX.fp fb.fp) k2 (hW.fx hn fb (by omega))
          exact ⟨t3, z1, z2, fb.trans z3⟩
        · rw [if_pos ((iN_le (by omega) (by omega)).mpr (by omega)), if_neg lt]
          obtain ⟨t3, z1, z2, z3⟩ := m_moL hl hdd hq hin hP f (j + 1) k b t2 (by omega) (by omega) hb (hX.fp fb.fp) k2 (hW.fx hn fb (by omega))
          exact ⟨t3, z1, z2, fb.trans z3⟩
      · rw [Bool.eq_false_iff.mpr on, if_neg (by decide), if_neg (by decide)]
        exact m_moL hl hdd hq hin hP f (j + 1) k b σ (by omega) (by omega) hb hX hS hW
    · rw [Bool.eq_false_iff.mpr eo, Bool.false_and, if_neg (by decide), if_neg (by decide)]
      exact m_moL hl hdd hq hin hP f (j + 1) k b σ (by omega) (by omega) hb hX hS hW
theorem m_moS {A : AS} {dd q : Nat} {inner : Sto → Option (Int32 × Sto)} (hl : laid A) (hdd : dd < 3) (hq : q ≤ 3) (hin : Mmo A (dd + 1) q inner) : Mmo A dd (q + 1) (fun σ => (bV (f9_save (iN dd) σ) (fun s21 => (bI (f9_hadNow s21) (fun v22 s23 => (lpM inner (iN dd) 300 v22 0 s23)))))) := by
  intro σ P hP hX hS
  have hn := hl.2.2.1
  obtain ⟨s1, g1, g2, g3⟩ := m_save hn hdd hS
  obtain ⟨s2, r1, r2, r3⟩ := m_moL hl hdd hq hin hP 200 0 300 (hcN P) s1 rfl (by decide) (by have := hcN_le P; omega) (hX.fp g3.fp) (hS.fw g3) g2
  refine ⟨s2, ?_, r2, g3.fx.trans (r3.up (by omega))⟩
  show (bV (f9_save (iN dd) σ) (fun s21 => (bI (f9_hadNow s21) (fun v22 s23 => (lpM inner (iN dd) 300 v22 0 s23))))) = _
  rw [g1, bV_some, m_had hn hP (hS.fw g3), bI_some]
  exact r1
theorem m_mo0 {A : AS} {e : Nat} (hl : laid A) : Mmo A e 0 (fun σ => f9_hadNow σ) := fun σ P hP hX hS => ⟨σ, m_had hl.2.2.1 hP hS, hS, FX.rfl⟩
theorem m_mo1 {A : AS} {dd : Nat} (hl : laid A) (hdd : dd < 3) : Mmo A dd 1 (fun σ => f9_mostByOne (iN dd) σ) := by
  have := m_moS hl hdd (by decide) (m_mo0 (e := dd + 1) hl)
  unfold f9_mostByOne
  rw [lp_1]
  exact this
theorem m_mo2 {A : AS} {dd : Nat} (hl : laid A) (hdd : dd < 2) : Mmo A dd 2 (fun σ => f9_mostByTwo (iN dd) σ) := by
  have := m_moS hl (show dd < 3 by omega) (by decide) (m_mo1 (dd := dd + 1) hl (by omega))
  unfold f9_mostByTwo
  rw [lp_2, iN_add1]
  exact this
theorem m_mo3 {A : AS} (hl : laid A) : Mmo A 0 3 (fun σ => f9_mostByThree σ) := by
  have := m_moS hl (show 0 < 3 by omega) (by decide) (m_mo2 (dd := 0 + 1) hl (by decide))
  unfold f9_mostByThree
  rw [lp_3]
  exact this
theorem both_most (a1 : Int32) : Both (f8_most a1) (f9_most a1) := Both.go (fun σ A t hw hC hM => by
  have x1 := hC.2.1.1
  have no : ∀ r, f8_most a1 σ = some (r, σ) → (∀ τ, RM τ A → f9_most a1 τ = some (r, τ)) → ∃ r σ1, f8_most a1 σ = some (r, σ1) ∧ Agr σ σ1 ∧ FC σ σ1 ∧ (RM σ1 A → ∃ σ2, f9_most a1 σ1 = some (r, σ2) ∧ FP σ1 σ2) := fun r h1 h2 => ⟨r, σ, h1, Agr.rfl, FC.rfl, fun hM => ⟨σ, h2 _ hM, FP.rfl⟩⟩
  rcases iN_or a1 4 (by decide) with ⟨k, hk, rfl⟩ | hx
  · have le3 : iN k ≤ 3 := (iN_le (b := 3) (by omega) (by omega)).mpr (by omega)
    rcases hw.1 with hl | hl
    · have hS := hC.2.2.2.2.2.2.1 hl
      have hP := nowP_ok hl
      obtain ⟨s1, g1, g2, g3⟩ := c_copy (i := 2) (i' := 0) (by decide) hS
      obtain ⟨s2, r1, r2⟩ := c_most hl hk s1 _ hP (hC.2.1.fs g3) (hC.2.2.1.fs g3) g2
      have r1 : f8_mostHad 4 0 (iN k) s1 = _ := r1
      refine ⟨iN (moA A k (nowP A)), s2, ?_, (g3.agr (by decide)).trans r2.agr, g3.fc.trans r2.fc, fun hM => ?_⟩
      · unfold f8_most
        rw [if_neg (iN_neg (by omega)), if_pos le3, x1, dr_some, c_laid hl hC.2.1.2.2.1.2, bI_some, if_neg (by decide), g1, bV_some, r1, bI_some]
      · obtain ⟨τ1, m1, m2, m3⟩ := m_now hl hM
        have hX := hM.1.fm m3
        have E : f9_most (iN k) s2 = (if iN k = 0 then (bI (f9_hadNow τ1) (fun v30 s31 => (some (v30, s31)))) else (if iN k = 1 then (bI (f9_mostByOne 0 τ1) (fun v28 s29 => (some (v28, s29)))) else (if iN k = 2 then (bI (f9_mostByTwo 0 τ1) (fun v26 s27 => (some (v26, s27)))) else (bI (f9_mostByThree τ1) (fun v24 s25 => (some (v24, s25))))))) := by
          unfold f9_most
          rw [in4_in hk, bI_some, if_neg (by decide), if_neg (m_laid hl hM.1.1.2.1), m1, bV_some]
        rw [E]
        match k, hk with
        | 0, _ =>
          obtain ⟨τ2, z1, z2, z3⟩ := m_mo0 (e := 0) hl τ1 _ hP hX m2
          have z1 : f9_hadNow τ1 = _ := z1
          refine ⟨τ2, ?_, m3.fp.trans z3.fp⟩
          rw [if_pos (by decide), z1, bI_some]
        | 1, _ =>
          obtain ⟨τ2, z1, z2, z3⟩ := m_mo1 (dd := 0) hl (by decide) τ1 _ hP hX m2
          have z1 : f9_mostByOne 0 τ1 = _ := z1
          refine ⟨τ2, ?_, m3.fp.trans z3.fp⟩
          rw [if_neg (by decide), if_pos (by decide), z1, bI_some]
        | 2, _ =>
          obtain ⟨τ2, z1, z2, z3⟩ := m_mo2 (dd := 0) hl (by decide) τ1 _ hP hX m2
          have z1 : f9_mostByTwo 0 τ1 = _ := z1
          refine ⟨τ2, ?_, m3.fp.trans z3.fp⟩
          rw [if_neg (by decide), if_neg (by decide), if_pos (by decide), z1, bI_some]
        | 3, _ =>
          obtain ⟨τ2, z1, z2, z3⟩ := m_mo3 hl τ1 _ hP hX m2
          have z1 : f9_mostByThree τ1 = _ := z1
          refine ⟨τ2, ?_, m3.fp.trans z3.fp⟩
          rw [if_neg (by decide), if_neg (by decide), if_neg (by decide), z1, bI_some]
    · refine no (-3) ?_ (fun τ hM => ?_)
      · unfold f8_most
        rw [if_neg (iN_neg (by omega)), if_pos le3, x1, dr_some, c_unlaid hl hC.2.1.2.2.1.2, bI_some, if_pos rfl]
      · unfold f9_most
        rw [in4_in hk, bI_some, if_neg (by decide), if_pos (m_unlaid hl hM.1.1.2.1)]
  · refine no (-2) ?_ (fun τ hM => ?_)
    · unfold f8_most
      by_cases h0 : a1 < 0
      · rw [if_pos h0]
      · rw [if_neg h0, if_neg (show ¬ a1 ≤ 3 from iN_gt (n := 3) (by omega) hx h0)]
    · unfold f9_most
      rw [in4_out hx, bI_some, if_pos rfl])
