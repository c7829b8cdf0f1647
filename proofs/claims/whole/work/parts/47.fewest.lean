/-! the reference's search -/
def FY (e : Nat) (σ σ' : Sto) : Prop := σ'.2 = σ.2 ∧ ∀ k a b, ¬ (k = 39 ∨ k = 41) → ¬ (k = 40 ∧ 5 * e ≤ b) → gI σ' k a b = gI σ k a b
def FX (e : Nat) (σ σ' : Sto) : Prop := σ'.2 = σ.2 ∧ ∀ k a b, ¬ k = 39 → ¬ (k = 40 ∧ 5 * e ≤ b) → gI σ' k a b = gI σ k a b
theorem FY.rfl {e : Nat} {σ : Sto} : FY e σ σ := ⟨Eq.refl _, fun _ _ _ _ _ => Eq.refl _⟩
theorem FY.trans {e : Nat} {a b c : Sto} (h1 : FY e a b) (h2 : FY e b c) : FY e a c := ⟨h2.1.trans h1.1, fun k i j h h' => (h2.2 k i j h h').trans (h1.2 k i j h h')⟩
theorem FX.trans {e : Nat} {a b c : Sto} (h1 : FX e a b) (h2 : FX e b c) : FX e a c := ⟨h2.1.trans h1.1, fun k i j h h' => (h2.2 k i j h h').trans (h1.2 k i j h h')⟩
theorem FX.fy {e e' : Nat} {σ σ' : Sto} (h : FX e σ σ') (he : e' ≤ e) : FY e' σ σ' := ⟨h.1, fun k a b h1 h2 => h.2 k a b (by omega) (by omega)⟩
theorem FY.up {e e' : Nat} {σ σ' : Sto} (h : FY e σ σ') (he : e' ≤ e) : FY e' σ σ' := ⟨h.1, fun k a b h1 h2 => h.2 k a b (by omega) (by omega)⟩
theorem FM.fx {e : Nat} {σ σ' : Sto} (h : FM σ σ') : FX e σ σ' := ⟨h.1, fun k a b h1 _ => h.2 k a b h1⟩
theorem FM.fy {e : Nat} {σ σ' : Sto} (h : FM σ σ') : FY e σ σ' := ⟨h.1, fun k a b h1 _ => h.2 k a b (by omega)⟩
theorem FW.fx {e : Nat} {σ σ' : Sto} (h : FW e σ σ') : FX e σ σ' := ⟨h.1, fun k a b _ h2 => h.2 k a b (by omega)⟩
theorem FY_41 {e j : Nat} {σ : Sto} {x : Int32} : FY e σ (sI σ 41 0 j x) := ⟨rfl, fun k a b h _ => by rw [gI_sI, if_neg (by omega)]⟩
theorem FY.fp {e : Nat} {σ σ' : Sto} (h : FY e σ σ') : FP σ σ' := ⟨h.1, fun k a b hk => h.2 k a b (by omega) (by omega)⟩
theorem FX.fp {e : Nat} {σ σ' : Sto} (h : FX e σ σ') : FP σ σ' := ⟨h.1, fun k a b hk => h.2 k a b (by omega) (by omega)⟩
theorem WS.fy {d e n : Nat} {σ σ' : Sto} {P : Nat → Nat} (hW : WS σ d n P) (hn : n ≤ 5) (h : FY e σ σ') (hd : d < e) : WS σ' d n P := fun p hp => by
  rw [h.2 _ _ _ (by omega) (by omega)]; exact hW p hp
theorem MS.s41 {n v j : Nat} {σ : Sto} {P : Nat → Nat} {x : Int32} (hS : MS σ n v P) : MS (sI σ 41 0 j x) n v P := ⟨by rw [gI_sI, if_neg (by omega)]; exact hS.1, by rw [gI_sI, if_neg (by omega)]; exact hS.2.1, fun p hp => by rw [gI_sI, if_neg (by omega)]; exact hS.2.2 p hp⟩
theorem m_isPush {σ : Sto} {v c : Nat} {A : AS} {P : Nat → Nat} (hl : laid A) (hX : MX σ A) (hS : MS σ (aN A) v P) (hc : c < 200) : f9_isPush (iN c) σ = some (b2i (okCb (aN A) (aM A) c && onB P c), σ) := by
  have hn := hl.2.2.1
  unfold f9_isPush f9_peaOf
  rw [m_isCode hn hl.2.1.2 hX.2.2.1 hX.2.1.1 hc, bI_some, b2i_ite]
  by_cases eo : okCb (aN A) (aM A) c = true
  · have okc := okCb_iff.mp eo
    have hp := okc.2.1
    rw [if_pos eo, bI_some, (code_at hc).2.1, if_pos ((iN_Ix (by omega)).mpr (by omega)), iN_nat (by omega), hS.2.2 _ hp, eo, Bool.true_and]
    unfold onB
    by_cases on : P (c / 10 % 10) < 30
    · rw [if_neg (by rw [atI_lt on]; exact iN_neg (by omega)), decide_eq_true on]; rfl
    · rw [if_pos (atI_neg on), decide_eq_false on]; rfl
  · rw [if_neg eo, Bool.eq_false_iff.mpr eo, Bool.false_and]; rfl
def lrI : Option Nat → Int32
  | none => -1
  | some c => iN c
theorem m_lpL {A : AS} {p dd : Nat} {P : Nat → Nat} (hl : laid A) (hp : p < aN A) (hdd : dd < 3) (hP : okP (aB A) (aN A) P) : ∀ (f j k : Nat) (σ : Sto), j + f = 200 → f < k → MX σ A → MS σ (aN A) (aV A) P → WS σ dd (aN A) P → ∃ σ', l9_lastPush_7 (iN p) (iN dd) k (iN j) σ = some (lrI (fnd (fun c => onB P c && decide (psA A P c p = 100)) (mdF (aN A) (aM A) f j)), σ') ∧ MS σ' (aN A) (aV A) P ∧ FM σ σ'
  | f, j, 0, _, _, hk, _, _, _ => by omega
  | 0, j, k + 1, σ, hj, hk, hX, hS, hW => by
    refine ⟨σ, ?_, hS, FM.rfl⟩
    show (if 200 ≤ iN j then _ else _) = _
    rw [if_pos (by rw [show (200 : Int32) = iN 200 from rfl, iN_le (by omega) (by omega)]; omega)]
    rfl
  | f + 1, j, k + 1, σ, hj, hk, hX, hS, hW => by
    have hn := hl.2.2.1
    show ∃ σ', (if 200 ≤ iN j then _ else _) = _ ∧ _
    rw [if_neg (by rw [show (200 : Int32) = iN 200 from rfl, iN_le (by omega) (by omega)]; omega), m_isPush hl hX hS (by omega), bI_some, b2i_ite, iN_add1]
    show ∃ σ', _ = some (lrI (fnd _ (if okCb (aN A) (aM A) j = true then j :: mdF (aN A) (aM A) f (j + 1) else mdF (aN A) (aM A) f (j + 1))), σ') ∧ _
    by_cases eo : okCb (aN A) (aM A) j = true
    · rw [eo, Bool.true_and, if_pos (show true = true from rfl)]
      unfold fnd
      by_cases on : onB P j = true
      · obtain ⟨s1, g1, g2, g3⟩ := m_pushX hl hl.2.2.2.2.2.2.2 hX (okCb_iff.mp eo) hP hS
        obtain ⟨s2, k1, k2, k3⟩ := m_load hn hdd g2 (hW.fm g3)
        have fm := g3.trans k3
        have e39 : gI s1 39 0 (iN p).toNatClampNeg = atI (psA A P j p) := by rw [iN_nat (by omega), g2.2.2 p hp]
        rw [on, if_pos (show true = true from rfl), Bool.true_and, g1, bV_some, if_pos ((iN_Ix (by omega)).mpr (by omega)), e39, k1, bV_some, bV_some]
        by_cases e : psA A P j p = 100
        · rw [if_pos (atI_m1.mpr e), if_pos (decide_eq_true e)]
          exact ⟨s2, rfl, k2, fm⟩
        · rw [if_neg (mt atI_m1.mp e), if_neg (by rw [decide_eq_false e]; decide)]
          obtain ⟨s3, r1, r2, r3⟩ := m_lpL hl hp hdd hP f (j + 1) k s2 (by omega) (by omega) (hX.fm fm) k2 (hW.fm fm)
          exact ⟨s3, r1, r2, fm.trans r3⟩
      · rw [Bool.eq_false_iff.mpr on, if_neg (by decide), Bool.false_and, if_neg (by decide)]
        exact m_lpL hl hp hdd hP f (j + 1) k σ (by omega) (by omega) hX hS hW
    · rw [Bool.eq_false_iff.mpr eo, Bool.false_and, if_neg (by decide), if_neg (by decide)]
      exact m_lpL hl hp hdd hP f (j + 1) k σ (by omega) (by omega) hX hS hW
theorem MS.fx {e n v : Nat} {σ σ' : Sto} {P : Nat → Nat} (h : FW e σ σ') (hS : MS σ n v P) : MS σ' n v P := hS.fw h
theorem m_lp {σ : Sto} {A : AS} {p dd : Nat} {P : Nat → Nat} (hl : laid A) (hp : p < aN A) (hdd : dd < 3) (hP : okP (aB A) (aN A) P) (hX : MX σ A) (hS : MS σ (aN A) (aV A) P) : ∃ σ', f9_lastPush (iN p) (iN dd) σ = some (lrI (tM A p P), σ') ∧ MS σ' (aN A) (aV A) P ∧ FX dd σ σ' := by
  obtain ⟨s1, g1, g2, g3⟩ := m_save hl.2.2.1 hdd hS
  obtain ⟨s2, r1, r2, r3⟩ := m_lpL hl hp hdd hP 200 0 300 s1 rfl (by decide) (hX.fp g3.fp) (hS.fw g3) g2
  refine ⟨s2, ?_, r2, g3.fx.trans r3.fx⟩
  unfold f9_lastPush
  rw [g1, bV_some]
  exact r1
theorem tM_lt {A : AS} {p c : Nat} {P : Nat → Nat} (h : tM A p P = some c) : c < 200 := by
  have := (mdF_ok _ _ _ (fnd_mem _ h)).2
  omega
theorem lr_neg {A : AS} {p : Nat} {P : Nat → Nat} : lrI (tM A p P) < 0 ↔ tM A p P = none := by
  cases h : tM A p P with
  | none => exact ⟨fun _ => rfl, fun _ => by decide⟩
  | some c => exact ⟨fun q => absurd q (iN_neg (by have := tM_lt h; omega)), fun q => absurd q (by simp)⟩
/-- a loop over codes: found, or through -/
def Lp {α : Type} (A : AS) (e : Nat) (P : Nat → Nat) (σ : Sto) (o : Option (Nat × α)) (r : Option (Int32 × Sto)) (K : Sto → Option (Int32 × Sto)) (w : Int32) (R : Sto → Nat × α → Prop) : Prop := (∃ x σ', o = some x ∧ r = some (w, σ') ∧ R σ' x ∧ FY e σ σ') ∨ (o = none ∧ ∃ σ', r = K σ' ∧ MS σ' (aN A) (aV A) P ∧ FY e σ σ')
theorem m_twoL {A : AS} {p : Nat} {P : Nat → Nat} {K : Sto → Option (Int32 × Sto)} (hl : laid A) (hp : p < aN A) (hP : okP (aB A) (aN A) P) : ∀ (f j k : Nat) (σ : Sto), j + f = 200 → f < k → MX σ A → MS σ (aN A) (aV A) P → WS σ 0 (aN A) P → Lp A 1 P σ (fnO (fun a => if onB P a = true then tM A p (psA A P a) else none) (mdF (aN A) (aM A) f j)) (l9_findFewest_55 (fun _ s => K s) (iN p) k (iN j) σ) K 2 (fun σ' x => gI σ' 41 0 0 = iN x.1 ∧ gI σ' 41 0 1 = iN x.2)
  | f, j, 0, _, _, hk, _, _, _ => by omega
  | 0, j, k + 1, σ, hj, hk, hX, hS, hW => by
    refine Or.inr ⟨rfl, σ, ?_, hS, FY.rfl⟩
    show (if 200 ≤ iN j then _ else _) = _
    rw [if_pos (by rw [show (200 : Int32) = iN 200 from rfl, iN_le (by omega) (by omega)]; omega)]
  | f + 1, j, k + 1, σ, hj, hk, hX, hS, hW => by
    have hn := hl.2.2.1
    show Lp A 1 P σ _ (if 200 ≤ iN j then _ else _) K 2 _
    rw [if_neg (by rw [show (200 : Int32) = iN 200 from rfl, iN_le (by omega) (by omega)]; omega), m_isPush hl hX hS (by omega), bI_some, b2i_ite, iN_add1]
    show Lp A 1 P σ (fnO _ (if okCb (aN A) (aM A) j = true then j :: mdF (aN A) (aM A) f (j + 1) else mdF (aN A) (aM A) f (j + 1))) _ K 2 _
    by_cases eo : okCb (aN A) (aM A) j = true
    · rw [eo, Bool.true_and, if_pos (show true = true from rfl)]
      unfold fnO
      by_cases on : onB P j = true
      · rw [on, if_pos (show true = true from rfl), if_pos (show true = true from rfl)]
        obtain ⟨s1, g1, g2, g3⟩ := m_pushX hl hl.2.2.2.2.2.2.2 hX (okCb_iff.mp eo) hP hS
        have fa : FY 1 σ (sI s1 41 0 0 (iN j)) := (FM.fy g3).trans FY_41
        have hP' := okP_push (v := aV A) (F := aF A) hl.1 (okCb_iff.mp eo) hP
        obtain ⟨s2, r1, r2, r3⟩ := m_lp (dd := 1) hl hp (by decide) hP' (hX.fp fa.fp) (g2.s41 (j := 0) (x := iN j))
        have fb : FY 1 σ (sI s2 41 0 1 (lrI (tM A p (psA A P j)))) := (fa.trans (r3.fy (Nat.le_refl _))).trans FY_41
        obtain ⟨s3, k1, k2, k3⟩ := m_load (d := 0) hn (by decide) (r2.s41 (j := 1) (x := lrI (tM A p (psA A P j)))) (hW.fy hn fb (by decide))
        have fc := fb.trans (FM.fy k3)
        have e1 : gI s3 41 0 1 = lrI (tM A p (psA A P j)) := by rw [k3.2 _ _ _ (by decide), gI_sI, if_pos (by decide)]
        have e0 : gI s3 41 0 0 = iN j := by rw [k3.2 _ _ _ (by decide), gI_sI, if_neg (by decide), r3.2 _ _ _ (by decide) (by decide), gI_sI, if_pos (by decide)]
        rw [g1, bV_some, show f9_lastPush (iN p) 1 (sI s1 41 0 0 (iN j)) = _ from r1, bI_some, show f9_load 0 (sI s2 41 0 1 (lrI (tM A p (psA A P j)))) = some s3 from k1, bV_some, e1]
        cases et : tM A p (psA A P j) with
        | some y =>
          rw [if_neg (by rw [← et, lr_neg, et]; simp)]
          exact Or.inl ⟨(j, y), s3, rfl, rfl, ⟨e0, by rw [e1, et]; rfl⟩, fc⟩
        | none =>
          rw [if_pos (by decide)]
          rcases m_twoL (K := K) hl hp hP f (j + 1) k s3 (by omega) (by omega) (hX.fp fc.fp) k2 (hW.fy hn fc (by decide)) with ⟨x, s4, z1, z2, z3, z4⟩ | ⟨z1, s4, z2, z3, z4⟩
          · exact Or.inl ⟨x, s4, z1, z2, z3, fc.trans z4⟩
          · exact Or.inr ⟨z1, s4, z2, z3, fc.trans z4⟩
      · rw [Bool.eq_false_iff.mpr on, if_neg (by decide), if_neg (by decide)]
        exact m_twoL hl hp hP f (j + 1) k σ (by omega) (by omega) hX hS hW
    · rw [Bool.eq_false_iff.mpr eo, Bool.false_and, if_neg (by decide), if_neg (by decide)]
      exact m_twoL hl hp hP f (j + 1) k σ (by omega) (by omega) hX hS hW
theorem m_inL {A : AS} {p : Nat} {a2 : Int32} {P : Nat → Nat} {K : Sto → Option (Int32 × Sto)} (hl : laid A) (hp : p < aN A) (hP : okP (aB A) (aN A) P) : ∀ (f j k : Nat) (σ : Sto), j + f = 200 → f < k → MX σ A → MS σ (aN A) (aV A) P → WS σ 1 (aN A) P → Lp A 2 P σ (fnO (fun a => if onB P a = true then tM A p (psA A P a) else none) (mdF (aN A) (aM A) f j)) (l9_findThree_29 (fun _ s => K s) (iN p) a2 k (iN j) σ) K 1 (fun σ' x => gI σ' 41 0 0 = a2 ∧ gI σ' 41 0 1 = iN x.1 ∧ gI σ' 41 0 2 = iN x.2)
  | f, j, 0, _, _, hk, _, _, _ => by omega
  | 0, j, k + 1, σ, hj, hk, hX, hS, hW => by
    refine Or.inr ⟨rfl, σ, ?_, hS, FY.rfl⟩
    show (if 200 ≤ iN j then _ else _) = _
    rw [if_pos (by rw [show (200 : Int32) = iN 200 from rfl, iN_le (by omega) (by omega)]; omega)]
  | f + 1, j, k + 1, σ, hj, hk, hX, hS, hW => by
    have hn := hl.2.2.1
    show Lp A 2 P σ _ (if 200 ≤ iN j then _ else _) K 1 _
    rw [if_neg (by rw [show (200 : Int32) = iN 200 from rfl, iN_le (by omega) (by omega)]; omega), m_isPush hl hX hS (by omega), bI_some, b2i_ite, iN_add1]
    show Lp A 2 P σ (fnO _ (if okCb (aN A) (aM A) j = true then j :: mdF (aN A) (aM A) f (j + 1) else mdF (aN A) (aM A) f (j + 1))) _ K 1 _
    by_cases eo : okCb (aN A) (aM A) j = true
    · rw [eo, Bool.true_and, if_pos (show true = true from rfl)]
      unfold fnO
      by_cases on : onB P j = true
      · rw [on, if_pos (show true = true from rfl), if_pos (show true = true from rfl)]
        obtain ⟨s1, g1, g2, g3⟩ := m_pushX hl hl.2.2.2.2.2.2.2 hX (okCb_iff.mp eo) hP hS
        have fa : FY 2 σ (sI (sI s1 41 0 0 a2) 41 0 1 (iN j)) := ((FM.fy g3).trans FY_41).trans FY_41
        have hP' := okP_push (v := aV A) (F := aF A) hl.1 (okCb_iff.mp eo) hP
        obtain ⟨s2, r1, r2, r3⟩ := m_lp (dd := 2) hl hp (by decide) hP' (hX.fp fa.fp) ((g2.s41 (j := 0) (x := a2)).s41 (j := 1) (x := iN j))
        have fb : FY 2 σ (sI s2 41 0 2 (lrI (tM A p (psA A P j)))) := (fa.trans (r3.fy (Nat.le_refl _))).trans FY_41
        obtain ⟨s3, k1, k2, k3⟩ := m_load (d := 1) hn (by decide) (r2.s41 (j := 2) (x := lrI (tM A p (psA A P j)))) (hW.fy hn fb (by decide))
        have fc := fb.trans (FM.fy k3)
        have e2 : gI s3 41 0 2 = lrI (tM A p (psA A P j)) := by rw [k3.2 _ _ _ (by decide), gI_sI, if_pos (by decide)]
        have e1 : gI s3 41 0 1 = iN j := by rw [k3.2 _ _ _ (by decide), gI_sI, if_neg (by decide), r3.2 _ _ _ (by decide) (by decide), gI_sI, if_pos (by decide)]
        have e0 : gI s3 41 0 0 = a2 := by rw [k3.2 _ _ _ (by decide), gI_sI, if_neg (by decide), r3.2 _ _ _ (by decide) (by decide), gI_sI, if_neg (by decide), gI_sI, if_pos (by decide)]
        rw [g1, bV_some, show f9_lastPush (iN p) 2 (sI (sI s1 41 0 0 a2) 41 0 1 (iN j)) = _ from r1, bI_some, show f9_load 1 (sI s2 41 0 2 (lrI (tM A p (psA A P j)))) = some s3 from k1, bV_some, e2]
        cases et : tM A p (psA A P j) with
        | some y =>
          rw [if_neg (by rw [← et, lr_neg, et]; simp)]
          exact Or.inl ⟨(j, y), s3, rfl, rfl, ⟨e0, e1, by rw [e2, et]; rfl⟩, fc⟩
        | none =>
          rw [if_pos (by decide)]
          rcases m_inL (a2 := a2) (K := K) hl hp hP f (j + 1) k s3 (by omega) (by omega) (hX.fp fc.fp) k2 (hW.fy hn fc (by decide)) with ⟨x, s4, z1, z2, z3, z4⟩ | ⟨z1, s4, z2, z3, z4⟩
          · exact Or.inl ⟨x, s4, z1, z2, z3, fc.trans z4⟩
          · exact Or.inr ⟨z1, s4, z2, z3, fc.trans z4⟩
      · rw [Bool.eq_false_iff.mpr on, if_neg (by decide), if_neg (by decide)]
        exact m_inL hl hp hP f (j + 1) k σ (by omega) (by omega) hX hS hW
    · rw [Bool.eq_false_iff.mpr eo, Bool.false_and, if_neg (by decide), if_neg (by decide)]
      exact m_inL hl hp hP f (j + 1) k σ (by omega) (by omega) hX hS hW
theorem m_threeL {A : AS} {p : Nat} {P : Nat → Nat} (hl : laid A) (hp : p < aN A) (hP : okP (aB A) (aN A) P) : ∀ (f j k : Nat) (σ : Sto), j + f = 200 → f < k → MX σ A → MS σ (aN A) (aV A) P → WS σ 0 (aN A) P → Lp A 1 P σ (fnO (fun a => if onB P a = true then s2 A (tM A p) (psA A P a) else none) (mdF (aN A) (aM A) f j)) (l9_findThree_2 (iN p) k (iN j) σ) (fun s => some (0, s)) 1 (fun σ' x => gI σ' 41 0 0 = iN x.1 ∧ gI σ' 41 0 1 = iN x.2.1 ∧ gI σ' 41 0 2 = iN x.2.2)
  | f, j, 0, _, _, hk, _, _, _ => by omega
  | 0, j, k + 1, σ, hj, hk, hX, hS, hW => by
    refine Or.inr ⟨rfl, σ, ?_, hS, FY.rfl⟩
    show (if 200 ≤ iN j then _ else _) = _
    rw [if_pos (by rw [show (200 : Int32) = iN 200 from rfl, iN_le (by omega) (by omega)]; omega)]
  | f + 1, j, k + 1, σ, hj, hk, hX, hS, hW => by
    have hn := hl.2.2.1
    show Lp A 1 P σ _ (if 200 ≤ iN j then _ else _) _ 1 _
    rw [if_neg (by rw [show (200 : Int32) = iN 200 from rfl, iN_le (by omega) (by omega)]; omega), m_isPush hl hX hS (by omega), bI_some, b2i_ite, iN_add1]
    show Lp A 1 P σ (fnO _ (if okCb (aN A) (aM A) j = true then j :: mdF (aN A) (aM A) f (j + 1) else mdF (aN A) (aM A) f (j + 1))) _ _ 1 _
    by_cases eo : okCb (aN A) (aM A) j = true
    · rw [eo, Bool.true_and, if_pos (show true = true from rfl)]
      unfold fnO
      by_cases on : onB P j = true
      · rw [on, if_pos (show true = true from rfl), if_pos (show true = true from rfl)]
        obtain ⟨s1, g1, g2, g3⟩ := m_pushX hl hl.2.2.2.2.2.2.2 hX (okCb_iff.mp eo) hP hS
        have hP' := okP_push (v := aV A) (F := aF A) hl.1 (okCb_iff.mp eo) hP
        obtain ⟨t1, r1, r2, r3⟩ := m_save (d := 1) hn (by decide) g2
        have fa : FY 1 σ t1 := (FM.fy g3).trans (r3.fx.fy (Nat.le_refl _))
        rw [g1, bV_some, show f9_save 1 s1 = some t1 from r1, bV_some]
        have inn := m_inL (p := p) (a2 := iN j) (K := fun s32 => (bV (f9_load 0 s32) (fun s33 => (l9_findThree_2 (iN p) k (iN (j + 1)) s33)))) hl hp hP' 200 0 300 t1 rfl (by decide) (hX.fp fa.fp) (g2.fw r3) r2
        rcases inn with ⟨x, s4, z1, z2, z3, z4⟩ | ⟨z1, s4, z2, z3, z4⟩
        · rw [show s2 A (tM A p) (psA A P j) = some x from z1]
          exact Or.inl ⟨(j, x), s4, rfl, z2, z3, fa.trans (z4.up (by decide))⟩
        · rw [show s2 A (tM A p) (psA A P j) = none from z1]
          have fb := fa.trans (z4.up (e' := 1) (by decide))
          obtain ⟨s5, k1, k2, k3⟩ := m_load (d := 0) hn (by decide) z3 (hW.fy hn fb (by decide))
          have fc := fb.trans (FM.fy k3)
          have e : (l9_findThree_29 (fun v31 s32 => (bV (f9_load 0 s32) (fun s33 => (l9_findThree_2 (iN p) k (iN (j + 1)) s33)))) (iN p) (iN j) 300 0 t1) = l9_findThree_2 (iN p) k (iN (j + 1)) s5 := by
            refine Eq.trans z2 ?_
            show bV (f9_load 0 s4) _ = _
            rw [show f9_load 0 s4 = some s5 from k1, bV_some]
          rw [e]
          rcases m_threeL hl hp hP f (j + 1) k s5 (by omega) (by omega) (hX.fp fc.fp) k2 (hW.fy hn fc (by decide)) with ⟨x, s6, y1, y2, y3, y4⟩ | ⟨y1, s6, y2, y3, y4⟩
          · exact Or.inl ⟨x, s6, y1, y2, y3, fc.trans y4⟩
          · exact Or.inr ⟨y1, s6, y2, y3, fc.trans y4⟩
      · rw [Bool.eq_false_iff.mpr on, if_neg (by decide), if_neg (by decide)]
        exact m_threeL hl hp hP f (j + 1) k σ (by omega) (by omega) hX hS hW
    · rw [Bool.eq_false_iff.mpr eo, Bool.false_and, if_neg (by decide), if_neg (by decide)]
      exact m_threeL hl hp hP f (j + 1) k σ (by omega) (by omega) hX hS hW
/-! fewest -/
def rw1 (k : Nat) (c : Nat) (σ : Sto) : Prop := gI σ k 0 0 = iN c
def rw2 (k : Nat) (x : Nat × Nat) (σ : Sto) : Prop := gI σ k 0 0 = iN x.1 ∧ gI σ k 0 1 = iN x.2
def rw3 (k : Nat) (x : Nat × Nat × Nat) (σ : Sto) : Prop := gI σ k 0 0 = iN x.1 ∧ gI σ k 0 1 = iN x.2.1 ∧ gI σ k 0 2 = iN x.2.2
theorem c_fewL {σ : Sto} {A : AS} {t p : Nat} {q : Int32} {P : Nat → Nat} {K : Int32 → Int32 → Sto → Option (Int32 × Sto)} (hl : laid A) (hp : p < aN A) (hP : okP (aB A) (aN A) P) (hX : CX σ t A) (hc : RCc σ t A) (hS : CS σ 2 t (aV A) P) : ∃ σ', CF 0 σ σ' ∧ ((∃ c x, tC A p P = some c ∧ l8_fewest_55 K (iN p) q 300 (-9) 1 σ = K 1 x σ' ∧ rw1 18 c σ') ∨ (tC A p P = none ∧ ∃ c x, s2 A (tC A p) P = some c ∧ l8_fewest_55 K (iN p) q 300 (-9) 1 σ = K 2 x σ' ∧ rw2 18 c σ') ∨ (tC A p P = none ∧ s2 A (tC A p) P = none ∧ ∃ c x, s3 A (tC A p) P = some c ∧ l8_fewest_55 K (iN p) q 300 (-9) 1 σ = K 3 x σ' ∧ rw3 18 c σ') ∨ (tC A p P = none ∧ s2 A (tC A p) P = none ∧ s3 A (tC A p) P = none ∧ ∃ x, l8_fewest_55 K (iN p) q 300 (-9) 1 σ = K (-9) x σ')) := by
  have st : ∀ (k : Nat) (a : Int32) (σ : Sto), ¬ 3 < a → l8_fewest_55 K (iN p) q (k + 1) (-9) a σ = (bI (f8_findsRow 4 (iN p) 0 a σ) (fun v27 s28 => (if v27 = 0 then (l8_fewest_55 K (iN p) q k (-9) (a + 1) s28) else (l8_fewest_55 K (iN p) q k a (a + 1) s28)))) := fun k a σ h => by
    show (if (-9 : Int32) = -9 then (if 3 < a then _ else _) else _) = _
    rw [if_pos rfl, if_neg h]
  have en : ∀ (k : Nat) (b a : Int32) (σ : Sto), ¬ b = -9 → l8_fewest_55 K (iN p) q (k + 1) b a σ = K b a σ := fun k b a σ h => by
    show (if b = -9 then _ else _) = _
    rw [if_neg h]
  have e9 : ∀ (k : Nat) (σ : Sto), l8_fewest_55 K (iN p) q (k + 1) (-9) 4 σ = K (-9) 4 σ := fun k σ => by
    show (if (-9 : Int32) = -9 then (if (3 : Int32) < 4 then _ else _) else _) = _
    rw [if_pos rfl, if_pos (by decide)]
  obtain ⟨s1, g1, g2, g3⟩ := c_find1 (n := 3) hl (by decide) hp σ P hP hX hc hS
  have g1 : f8_findsRow 4 (iN p) 0 1 σ = _ := g1
  have E1 := st 299 1 σ (by decide)
  rw [g1, bI_some, b2i_ite] at E1
  cases h1 : tC A p P with
  | some c =>
    rw [h1, if_pos (show (some c).isSome = true from rfl)] at E1
    exact ⟨s1, g2, Or.inl ⟨c, 1 + 1, rfl, E1.trans (en 298 1 _ s1 (by decide)), g3 c h1⟩⟩
  | none =>
    rw [h1, if_neg (show ¬ (none : Option Nat).isSome = true from fun q => Bool.noConfusion q)] at E1
    obtain ⟨t1, r1, r2, r3⟩ := c_find2 (n := 2) hl (by decide) hp s1 P hP (hX.cf g2) (hc.cf g2) (hS.cf g2 (by decide))
    have r1 : f8_findsRow 4 (iN p) 0 (1 + 1) s1 = _ := r1
    rw [st 298 (1 + 1) s1 (by decide), r1, bI_some, b2i_ite] at E1
    have f2 := g2.trans r2
    cases h2 : s2 A (tC A p) P with
    | some c =>
      rw [h2, if_pos (show (some c).isSome = true from rfl)] at E1
      exact ⟨t1, f2, Or.inr (Or.inl ⟨rfl, c, 1 + 1 + 1, rfl, E1.trans (en 297 (1 + 1) _ t1 (by decide)), r3 c h2⟩)⟩
    | none =>
      rw [h2, if_neg (show ¬ (none : Option (Nat × Nat)).isSome = true from fun q => Bool.noConfusion q)] at E1
      obtain ⟨t2, w1, w2, w3⟩ := c_find3 (n := 1) hl hp t1 P hP (hX.cf f2) (hc.cf f2) (hS.cf f2 (by decide))
      have w1 : f8_findsRow 4 (iN p) 0 (1 + 1 + 1) t1 = _ := w1
      rw [st 297 (1 + 1 + 1) t1 (by decide), w1, bI_some, b2i_ite] at E1
      have f3 := f2.trans w2
      cases h3 : s3 A (tC A p) P with
      | some c =>
        rw [h3, if_pos (show (some c).isSome = true from rfl)] at E1
        exact ⟨t2, f3, Or.inr (Or.inr (Or.inl ⟨rfl, rfl, c, 1 + 1 + 1 + 1, rfl, E1.trans (en 296 (1 + 1 + 1) _ t2 (by decide)), w3 c h3⟩))⟩
      | none =>
        rw [h3, if_neg (show ¬ (none : Option (Nat × Nat × Nat)).isSome = true from fun q => Bool.noConfusion q)] at E1
        exact ⟨t2, f3, Or.inr (Or.inr (Or.inr ⟨rfl, rfl, rfl, 4, E1.trans (e9 296 t2)⟩))⟩
theorem m_few {σ : Sto} {A : AS} {p : Nat} (hl : laid A) (hp : p < aN A) (hM : RM σ A) (on : nowP A p < 30) : ∃ σ', FP σ σ' ∧ ((∃ c, tM A p (nowP A) = some c ∧ f9_findFewest (iN p) σ = some (1, σ') ∧ rw1 41 c σ') ∨ (tM A p (nowP A) = none ∧ ∃ c, s2 A (tM A p) (nowP A) = some c ∧ f9_findFewest (iN p) σ = some (2, σ') ∧ rw2 41 c σ') ∨ (tM A p (nowP A) = none ∧ s2 A (tM A p) (nowP A) = none ∧ ∃ c, s3 A (tM A p) (nowP A) = some c ∧ f9_findFewest (iN p) σ = some (3, σ') ∧ rw3 41 c σ') ∨ (tM A p (nowP A) = none ∧ s2 A (tM A p) (nowP A) = none ∧ s3 A (tM A p) (nowP A) = none ∧ f9_findFewest (iN p) σ = some (4, σ'))) := by
  have hn := hl.2.2.1
  have hP := nowP_ok hl
  obtain ⟨τ1, m1, m2, m3⟩ := m_now hl hM
  have hX1 := hM.1.fm m3
  have ix : Ix (iN p) 5 := (iN_Ix (by omega)).mpr (by omega)
  obtain ⟨τs, n1, n2, n3⟩ := m_save (d := 0) hn (by decide) m2
  obtain ⟨τ2, r1, r2, r3⟩ := m_lpL (p := p) hl hp (show 0 < 3 by decide) hP 200 0 300 τs rfl (by decide) (hX1.fp n3.fp) (m2.fw n3) n2
  have hW2 := n2.fm r3
  have elp : f9_lastPush (iN p) 0 τ1 = some (lrI (tM A p (nowP A)), τ2) := by
    unfold f9_lastPush
    rw [show f9_save 0 τ1 = some τs from n1, bV_some]
    exact r1
  have E : f9_findFewest (iN p) σ = (if lrI (tM A p (nowP A)) < 0 then (l9_findFewest_55 (fun v30 s31 => (bI (f9_findThree (iN p) s31) (fun v32 s33 => (if v32 = 0 then (some (4, s33)) else (some (3, s33)))))) (iN p) 300 0 (sI τ2 41 0 0 (lrI (tM A p (nowP A))))) else (some (1, (sI τ2 41 0 0 (lrI (tM A p (nowP A))))))) := by
    unfold f9_findFewest
    rw [m1, bV_some, if_pos ix, show gI τ1 39 0 (iN p).toNatClampNeg = atI (nowP A p) from by rw [iN_nat (by omega), m2.2.2 p hp], if_pos (atI_le.mpr on), elp, bI_some]
    rfl
  have f0 : FP σ (sI τ2 41 0 0 (lrI (tM A p (nowP A)))) := ((m3.fp.trans n3.fp).trans r3.fp).trans (FY_41 (e := 0)).fp
  cases h1 : tM A p (nowP A) with
  | some c =>
    rw [h1] at E f0
    rw [if_neg (show ¬ lrI (some c) < 0 from iN_neg (by have := tM_lt h1; omega))] at E
    exact ⟨_, f0, Or.inl ⟨c, rfl, E, rfl⟩⟩
  | none =>
    rw [h1] at E f0
    rw [if_pos (show lrI none < 0 by decide)] at E
    have two := m_twoL (K := fun s31 => (bI (f9_findThree (iN p) s31) (fun v32 s33 => (if v32 = 0 then (some (4, s33)) else (some (3, s33)))))) hl hp hP 200 0 300 (sI τ2 41 0 0 (lrI none)) rfl (by decide) (hM.1.fp f0) (r2.s41) (hW2.fy hn (FY_41 (e := 1)) (by decide))
    rcases two with ⟨x, s4, z1, z2, z3, z4⟩ | ⟨z1, s4, z2, z3, z4⟩
    · exact ⟨s4, f0.trans z4.fp, Or.inr (Or.inl ⟨rfl, x, z1, E.trans z2, z3⟩)⟩
    · have f4 := f0.trans z4.fp
      have hW4 := (hW2.fy hn (FY_41 (e := 1) (j := 0) (x := lrI none)) (by decide)).fy hn z4 (by decide)
      have E2 := E.trans z2
      rcases m_threeL hl hp hP 200 0 300 s4 rfl (by decide) (hM.1.fp f4) z3 hW4 with ⟨x, s5, y1, y2, y3, y4⟩ | ⟨y1, s5, y2, y3, y4⟩
      · refine ⟨s5, f4.trans y4.fp, Or.inr (Or.inr (Or.inl ⟨rfl, z1, x, y1, E2.trans ?_, y3⟩))⟩
        show bI (f9_findThree (iN p) s4) _ = _
        rw [show f9_findThree (iN p) s4 = some (1, s5) from y2, bI_some, if_neg (by decide)]
      · refine ⟨s5, f4.trans y4.fp, Or.inr (Or.inr (Or.inr ⟨rfl, z1, y1, E2.trans ?_⟩))⟩
        show bI (f9_findThree (iN p) s4) _ = _
        rw [show f9_findThree (iN p) s4 = some (0, s5) from y2, bI_some, if_pos rfl]
