/-! the class makes its eaters, lists its codes -/
def FE (t : Nat) (σ σ' : Sto) : Prop := (∀ k a b, ¬ (k = 13 ∧ a = t) → ¬ (k = 0 ∨ k = 1 ∨ k = 5) → gR σ' k a b = gR σ k a b) ∧ ∀ k a b, ¬ (k = 0 ∨ k = 1 ∨ k = 5) → gI σ' k a b = gI σ k a b
theorem FE.rfl {t : Nat} {σ : Sto} : FE t σ σ := ⟨fun _ _ _ _ _ => Eq.refl _, fun _ _ _ _ => Eq.refl _⟩
theorem FE.trans {t : Nat} {a b c : Sto} (h1 : FE t a b) (h2 : FE t b c) : FE t a c := ⟨fun k i j h h' => (h2.1 k i j h h').trans (h1.1 k i j h h'), fun k i j h => (h2.2 k i j h).trans (h1.2 k i j h)⟩
def EKn (σ : Sto) (t e k s : Nat) : Prop := ∃ ix, gR σ 13 t e = some (kk k, ix) ∧ gI σ (kk k) ix 0 = iN e ∧ gI σ (kk k) ix 1 = iN s ∧ ix < gN σ (kk k)
theorem kk_3 (k : Nat) : kk k = 0 ∨ kk k = 1 ∨ kk k = 5 := by
  unfold kk
  split
  · exact Or.inl rfl
  · split
    · exact Or.inr (Or.inl rfl)
    · exact Or.inr (Or.inr rfl)
theorem c_byLetter {σ : Sto} {k : Nat} {a1 a2 : Int32} (hk : k < 3) : f2_eaterByLetter (lcI k) a1 a2 σ = some (some (kk k, gN σ (kk k)), sI (sI (sN σ (kk k)) (kk k) (gN σ (kk k)) 0 a1) (kk k) (gN σ (kk k)) 1 a2) := by
  unfold f2_eaterByLetter
  match k, hk with
  | 0, _ => rw [if_neg (by decide), if_neg (by decide)]; rfl
  | 1, _ => rw [if_pos (by decide)]; rfl
  | 2, _ => rw [if_neg (by decide), if_pos (by decide)]; rfl
def eatS (σ : Sto) (t e k s : Nat) : Sto := sR (sI (sI (sN σ (kk k)) (kk k) (gN σ (kk k)) 0 (iN e)) (kk k) (gN σ (kk k)) 1 (iN s)) 13 t e (some (kk k, gN σ (kk k)))
theorem gI_sN (σ : Sto) (k a b c : Nat) : gI (sN σ k) a b c = if a = k ∧ b = gN σ k then 0 else gI σ a b c := rfl
theorem gR_sN (σ : Sto) (k a b c : Nat) : gR (sN σ k) a b c = if a = k ∧ b = gN σ k then none else gR σ a b c := rfl
theorem eat_I {σ : Sto} {t e k s a b c : Nat} (h : ¬ (a = kk k ∧ b = gN σ (kk k))) : gI (eatS σ t e k s) a b c = gI σ a b c := by
  show gI (sI (sI (sN σ (kk k)) (kk k) (gN σ (kk k)) 0 (iN e)) (kk k) (gN σ (kk k)) 1 (iN s)) a b c = _
  rw [gI_sI, if_neg (fun q => h ⟨q.1, q.2.1⟩), gI_sI, if_neg (fun q => h ⟨q.1, q.2.1⟩), gI_sN, if_neg h]
theorem eat_R {σ : Sto} {t e k s a b c : Nat} (h : ¬ (a = kk k ∧ b = gN σ (kk k))) (h2 : ¬ (a = 13 ∧ b = t ∧ c = e)) : gR (eatS σ t e k s) a b c = gR σ a b c := by
  unfold eatS
  rw [gR_sR, if_neg h2, gR_sI, gR_sI, gR_sN, if_neg h]
theorem eat_N {σ : Sto} {t e k s a : Nat} : gN (eatS σ t e k s) a = if a = kk k then gN σ (kk k) + 1 else gN σ a := rfl
theorem eat_step {σ : Sto} {t e k s : Nat} : EKn (eatS σ t e k s) t e k s ∧ (∀ e' k' s', ¬ e' = e → EKn σ t e' k' s' → EKn (eatS σ t e k s) t e' k' s') ∧ FE t σ (eatS σ t e k s) := by
  have k3 := kk_3 k
  refine ⟨⟨gN σ (kk k), ?_, ?_, ?_, ?_⟩, fun e' k' s' he ⟨ix, h1, h2, h3, h4⟩ => ⟨ix, ?_, ?_, ?_, ?_⟩, fun a b c h1 h2 => eat_R (by omega) (by omega), fun a b c h => eat_I (by omega)⟩
  · unfold eatS
    rw [gR_sR, if_pos ⟨rfl, rfl, rfl⟩]
  · show gI (sI (sI (sN σ (kk k)) (kk k) (gN σ (kk k)) 0 (iN e)) (kk k) (gN σ (kk k)) 1 (iN s)) (kk k) (gN σ (kk k)) 0 = _
    rw [gI_sI, if_neg (by omega), gI_sI, if_pos ⟨rfl, rfl, rfl⟩]
  · show gI (sI (sI (sN σ (kk k)) (kk k) (gN σ (kk k)) 0 (iN e)) (kk k) (gN σ (kk k)) 1 (iN s)) (kk k) (gN σ (kk k)) 1 = _
    rw [gI_sI, if_pos ⟨rfl, rfl, rfl⟩]
  · rw [eat_N, if_pos rfl]; omega
  · rw [eat_R (by omega) (by omega)]; exact h1
  · rw [eat_I (fun q => ?_)]
    · exact h2
    · rw [q.2, q.1] at h4; omega
  · rw [eat_I (fun q => ?_)]
    · exact h3
    · rw [q.2, q.1] at h4; omega
  · rw [eat_N]
    split
    · rename_i q
      rw [q] at h4; omega
    · exact h4
theorem c_eatL {t m : Nat} {kd sr : Nat → Nat} (hm : m ≤ 2) (hkd : ∀ e, e < m → kd e < 3) : ∀ (f e q : Nat) (σ : Sto), e + f = m → f < q → gI σ 2 t 3 = iN m → (∀ e, e < m → gI σ 14 t e = lcI (kd e)) → (∀ e, e < m → gI σ 15 t e = iN (sr e)) → (∀ e', e' < e → EKn σ t e' (kd e') (sr e')) → ∃ σ', l2_readText_68 t q (iN e) σ = (bV (f2_listCodes t σ') (fun s30 => (some ((-9), s30)))) ∧ (∀ e', e' < m → EKn σ' t e' (kd e') (sr e')) ∧ FE t σ σ'
  | f, e, 0, _, _, hq, _, _, _, _ => by omega
  | 0, e, q + 1, σ, he, hq, h3, h14, h15, hE => by
    refine ⟨σ, ?_, fun e' h => hE e' (by omega), FE.rfl⟩
    show (if gI σ 2 t 3 ≤ iN e then _ else _) = _
    rw [h3, if_pos ((iN_le (by omega) (by omega)).mpr (by omega))]
  | f + 1, e, q + 1, σ, he, hq, h3, h14, h15, hE => by
    have ix : Ix (iN e) 2 := (iN_Ix (by omega)).mpr (by omega)
    have e14 : gI σ 14 t (iN e).toNatClampNeg = lcI (kd e) := by rw [iN_nat (by omega)]; exact h14 e (by omega)
    have e15 : gI σ 15 t (iN e).toNatClampNeg = iN (sr e) := by rw [iN_nat (by omega)]; exact h15 e (by omega)
    have may : mmay 13 (kk (kd e)) = true := by rcases kk_3 (kd e) with q | q | q <;> rw [q] <;> rfl
    obtain ⟨z1, z2, z3⟩ := eat_step (σ := σ) (t := t) (e := e) (k := kd e) (s := sr e)
    show ∃ σ', (if gI σ 2 t 3 ≤ iN e then _ else _) = _ ∧ _
    rw [h3, if_neg (by rw [iN_le (by omega) (by omega)]; omega), if_pos ix, if_pos ix, e14, e15, c_byLetter (hkd e (by omega)), bI_some, rcs_some, if_pos may, if_pos ix, iN_nat (by omega), iN_add1]
    obtain ⟨σ', g1, g2, g3⟩ := c_eatL hm hkd f (e + 1) q (eatS σ t e (kd e) (sr e)) (by omega) (by omega) (by rw [z3.2 _ _ _ (by omega)]; exact h3) (fun e' h => by rw [z3.2 _ _ _ (by omega)]; exact h14 e' h) (fun e' h => by rw [z3.2 _ _ _ (by omega)]; exact h15 e' h) (fun e' h => by
      by_cases ee : e' = e
      · rw [ee]; exact z1
      · exact z2 e' _ _ ee (hE e' (by omega)))
    exact ⟨σ', g1, g2, z3.trans g3⟩
def FL4 (t : Nat) (σ σ' : Sto) : Prop := σ'.2 = σ.2 ∧ ∀ k a b, ¬ (k = 2 ∧ a = t ∧ b = 4) → ¬ (k = 10 ∧ a = t) → gI σ' k a b = gI σ k a b
theorem FL4.rfl {t : Nat} {σ : Sto} : FL4 t σ σ := ⟨Eq.refl _, fun _ _ _ _ _ => Eq.refl _⟩
theorem FL4.trans {t : Nat} {a b c : Sto} (h1 : FL4 t a b) (h2 : FL4 t b c) : FL4 t a c := ⟨h2.1.trans h1.1, fun k i j h h' => (h2.2 k i j h h').trans (h1.2 k i j h h')⟩
theorem cAt_chk : ((List.range 2).all fun e => (List.range 6).all fun n => (List.range n).all fun p => (List.range 4).all fun d => Nat.beq (cAt n (4 * (e * n + p) + d)) (100 * e + 10 * p + d)) = true := by decide +kernel
theorem cAt_at {e n p d : Nat} (he : e < 2) (hn : n ≤ 5) (hp : p < n) (hd : d < 4) : cAt n (4 * (e * n + p) + d) = 100 * e + 10 * p + d := Nat.eq_of_beq_eq_true (List.all_eq_true.mp (List.all_eq_true.mp (List.all_eq_true.mp (List.all_eq_true.mp cAt_chk e (List.mem_range.mpr he)) n (List.mem_range.mpr (by omega))) p (List.mem_range.mpr hp)) d (List.mem_range.mpr hd))
def LC (σ : Sto) (t n x : Nat) : Prop := gI σ 2 t 4 = iN x ∧ ∀ j, j < x → gI σ 10 t j = iN (cAt n j)
theorem c_l22 {K : Int32 → Sto → Option Sto} {t n e p : Nat} (he : e < 2) (hn : n ≤ 5) (hp : p < n) : ∀ (f d q : Nat) (σ : Sto), d + f = 4 → f < q → LC σ t n (4 * (e * n + p) + d) → ∃ σ' x, l2_listCodes_22 K t (iN e) (iN p) q (iN d) σ = K x σ' ∧ LC σ' t n (4 * (e * n + p) + 4) ∧ FL4 t σ σ'
  | f, d, 0, _, _, hq, _ => by omega
  | 0, d, q + 1, σ, hd, hq, hL => by
    have ed : d = 4 := by omega
    subst ed
    refine ⟨σ, iN 4, ?_, hL, FL4.rfl⟩
    show (if 4 ≤ iN 4 then _ else _) = _
    rw [if_pos (by decide)]
  | f + 1, d, q + 1, σ, hd, hq, hL => by
    have hen : e * n + p ≤ 9 := by
      have : e * n ≤ 1 * n := Nat.mul_le_mul_right n (by omega)
      omega
    have l40 : ¬ (40 : Int32) ≤ iN (4 * (e * n + p) + d) := by rw [show (40 : Int32) = iN 40 from rfl, iN_le (by omega) (by omega)]; omega
    have ix : Ix (iN (4 * (e * n + p) + d)) 40 := (iN_Ix (by omega)).mpr (by omega)
    have e1 : ∀ j v, gI (sI σ 10 t j v) 2 t 4 = iN (4 * (e * n + p) + d) := fun j v => by rw [gI_sI, if_neg (by omega)]; exact hL.1
    show ∃ σ' x, (if 4 ≤ iN d then _ else _) = _ ∧ _
    unfold f8_codeOf
    rw [if_neg (by rw [show (4 : Int32) = iN 4 from rfl, iN_le (by omega) (by omega)]; omega), hL.1, if_neg l40, bI_some, if_pos ix, code_iN, e1, iN_add1, iN_add1, iN_nat (show 4 * (e * n + p) + d < 2147483648 by omega)]
    obtain ⟨σ', x, g1, g2, g3⟩ := c_l22 (K := K) he hn hp f (d + 1) q (sI (sI σ 10 t (4 * (e * n + p) + d) (iN (100 * e + 10 * p + d))) 2 t 4 (iN (4 * (e * n + p) + d + 1))) (by omega) (by omega) ⟨by rw [gI_sI, if_pos ⟨rfl, rfl, rfl⟩]; rfl, fun j hj => by
      rw [gI_sI, if_neg (by omega), gI_sI]
      by_cases ej : j = 4 * (e * n + p) + d
      · rw [if_pos ⟨rfl, rfl, ej⟩, ej, cAt_at he hn hp (by omega)]
      · rw [if_neg (by omega)]; exact hL.2 j (by omega)⟩
    have w : FL4 t σ (sI (sI σ 10 t (4 * (e * n + p) + d) (iN (100 * e + 10 * p + d))) 2 t 4 (iN (4 * (e * n + p) + d + 1))) := ⟨rfl, fun k a b h h' => by rw [gI_sI, if_neg (by omega), gI_sI, if_neg (by omega)]⟩
    exact ⟨σ', x, g1, g2, w.trans g3⟩
theorem c_l12 {K : Int32 → Sto → Option Sto} {t n e : Nat} (he : e < 2) (hn : n ≤ 5) : ∀ (f p q : Nat) (σ : Sto), p + f = n → f < q → gI σ 2 t 2 = iN n → LC σ t n (4 * (e * n + p)) → ∃ σ' x, l2_listCodes_12 K t (iN e) q (iN p) σ = K x σ' ∧ LC σ' t n (4 * (e * n + n)) ∧ FL4 t σ σ'
  | f, p, 0, _, _, hq, _, _ => by omega
  | 0, p, q + 1, σ, hp, hq, h2, hL => by
    have ep : p = n := by omega
    subst ep
    refine ⟨σ, iN p, ?_, hL, FL4.rfl⟩
    show (if gI σ 2 t 2 ≤ iN p then _ else _) = _
    rw [h2, if_pos (Int32.le_refl _)]
  | f + 1, p, q + 1, σ, hp, hq, h2, hL => by
    show ∃ σ' x, (if gI σ 2 t 2 ≤ iN p then _ else _) = _ ∧ _
    rw [h2, if_neg (by rw [iN_le (by omega) (by omega)]; omega), iN_add1]
    obtain ⟨s1, x1, g1, g2, g3⟩ := c_l22 (K := fun v23 s24 => (l2_listCodes_12 K t (iN e) q (iN (p + 1)) s24)) (t := t) he hn (show p < n by omega) 4 0 300 σ rfl (by decide) hL
    obtain ⟨s2, x2, r1, r2, r3⟩ := c_l12 (K := K) he hn f (p + 1) q s1 (by omega) (by omega) (by rw [g3.2 _ _ _ (by omega) (by omega)]; exact h2) (by rw [show 4 * (e * n + (p + 1)) = 4 * (e * n + p) + 4 by omega]; exact g2)
    exact ⟨s2, x2, g1.trans r1, r2, g3.trans r3⟩
theorem c_l2 {t n m : Nat} (hn : n ≤ 5) (hm : m ≤ 2) : ∀ (f e q : Nat) (σ : Sto), e + f = m → f < q → gI σ 2 t 2 = iN n → gI σ 2 t 3 = iN m → LC σ t n (4 * (e * n)) → ∃ σ', l2_listCodes_2 t q (iN e) σ = some σ' ∧ LC σ' t n (4 * (m * n)) ∧ FL4 t σ σ'
  | f, e, 0, _, _, hq, _, _, _ => by omega
  | 0, e, q + 1, σ, he, hq, h2, h3, hL => by
    have ee : e = m := by omega
    subst ee
    refine ⟨σ, ?_, hL, FL4.rfl⟩
    show (if gI σ 2 t 3 ≤ iN e then _ else _) = _
    rw [h3, if_pos (Int32.le_refl _)]
  | f + 1, e, q + 1, σ, he, hq, h2, h3, hL => by
    show ∃ σ', (if gI σ 2 t 3 ≤ iN e then _ else _) = _ ∧ _
    rw [h3, if_neg (by rw [iN_le (by omega) (by omega)]; omega), iN_add1]
    obtain ⟨s1, x1, g1, g2, g3⟩ := c_l12 (K := fun v25 s26 => (l2_listCodes_2 t q (iN (e + 1)) s26)) (t := t) (show e < 2 by omega) hn n 0 300 σ (by omega) (by omega) h2 hL
    obtain ⟨s2, r1, r2, r3⟩ := c_l2 hn hm f (e + 1) q s1 (by omega) (by omega) (by rw [g3.2 _ _ _ (by omega) (by omega)]; exact h2) (by rw [g3.2 _ _ _ (by omega) (by omega)]; exact h3) (by rw [Nat.add_mul, Nat.one_mul]; exact g2)
    exact ⟨s2, g1.trans r1, r2, g3.trans r3⟩
theorem c_list {σ : Sto} {t n m : Nat} (hn : n ≤ 5) (hm : m ≤ 2) (h2 : gI σ 2 t 2 = iN n) (h3 : gI σ 2 t 3 = iN m) (h4 : gI σ 2 t 4 = 0) : ∃ σ', f2_listCodes t σ = some σ' ∧ LC σ' t n (4 * n * m) ∧ FL4 t σ σ' := by
  obtain ⟨σ', g1, g2, g3⟩ := c_l2 (t := t) hn hm m 0 300 σ (by omega) (by omega) h2 h3 (by rw [Nat.zero_mul, Nat.mul_zero]; exact ⟨h4, fun j hj => by omega⟩)
  rw [show 4 * (m * n) = 4 * n * m by rw [Nat.mul_comm m n, Nat.mul_assoc]] at g2
  exact ⟨σ', g1, g2, g3⟩
/-! the text, all in all -/
def cpl (S : PS) (n : Nat) : Prop := 1 ≤ pM S ∧ n = 3 + pR S + 3 * pM S
/-- a text that is no text: its first fault -/
def badT (T : Nat → Int32) (n x : Nat) : Prop := (itP T n 0 psE).1 = x ∧ ∀ S, (itP T n 0 psE).2 = some S → ¬ cpl S n
def goodT (T : Nat → Int32) (n : Nat) (S : PS) : Prop := itP T n 0 psE = (n, some S) ∧ cpl S n
def FF (t : Nat) (σ σ' : Sto) : Prop := (∀ k a b, ¬ (k = 13 ∧ a = t) → ¬ (k = 0 ∨ k = 1 ∨ k = 5) → gR σ' k a b = gR σ k a b) ∧ ∀ k a b, ¬ (k = 0 ∨ k = 1 ∨ k = 5) → ¬ ((k = 2 ∨ k = 10 ∨ k = 11 ∨ k = 12 ∨ k = 14 ∨ k = 15) ∧ a = t) → gI σ' k a b = gI σ k a b
theorem c_readText {σ : Sto} {T : Nat → Int32} {t k s i n : Nat} (hs : s ≤ 60) (hin : i + n ≤ s) (h42 : gI σ 4 k 2 = iN s) (h19 : ∀ y, y < n → gI σ 19 k (i + y) = T y) : (∃ x, x ≤ n ∧ badT T n x ∧ ∃ σ', f2_readText t k (iN i) (iN n) σ = some (iN x, σ') ∧ FD t σ σ') ∨ (∃ S, goodT T n S ∧ Iv S n ∧ ∃ σ', f2_readText t k (iN i) (iN n) σ = some (-9, σ') ∧ ((gI σ' 2 t 0 = iN (pH S) ∧ gI σ' 2 t 1 = iN (pW S) ∧ gI σ' 2 t 11 = iN (pQ S) ∧ gI σ' 2 t 2 = iN (pP S) ∧ gI σ' 2 t 3 = iN (pM S)) ∧ (∀ j, j < pQ S → gI σ' 11 t j = S.2.2.2.2 j) ∧ (∀ j, j < pP S → gI σ' 12 t j = iN (S.2.1 j)) ∧ LC σ' t (pP S) (4 * pP S * pM S) ∧ ∀ e, e < pM S → EK σ' t e (S.2.2.1 e) (S.2.2.2.1 e)) ∧ FF t σ σ') := by
  unfold f2_readText f2_wipe
  rw [bV_some]
  generalize hw : sI (sI (sI (sI (sI (sI σ 2 t 0 0) 2 t 1 0) 2 t 11 0) 2 t 2 0) 2 t 3 0) 2 t 4 0 = s0
  have f0 : FD t σ s0 := by
    rw [← hw]
    exact ((((((FD_I (Or.inl rfl)).trans (FD_I (Or.inl rfl))).trans (FD_I (Or.inl rfl))).trans (FD_I (Or.inl rfl))).trans (FD_I (Or.inl rfl))).trans (FD_I (Or.inl rfl)))
  have hP0 : CP s0 t psE := by
    rw [← hw]
    refine ⟨⟨?_, ?_, ?_, ?_, ?_, ?_⟩, fun j hj => absurd hj (Nat.not_lt_zero _), fun j hj => absurd hj (Nat.not_lt_zero _), fun j hj => absurd hj (Nat.not_lt_zero _), fun j hj => absurd hj (Nat.not_lt_zero _)⟩
    · rw [gI_sI, if_neg (by omega), gI_sI, if_neg (by omega), gI_sI, if_neg (by omega), gI_sI, if_neg (by omega), gI_sI, if_neg (by omega), gI_sI, if_pos ⟨rfl, rfl, rfl⟩]; rfl
    · rw [gI_sI, if_neg (by omega), gI_sI, if_neg (by omega), gI_sI, if_neg (by omega), gI_sI, if_neg (by omega), gI_sI, if_pos ⟨rfl, rfl, rfl⟩]; rfl
    · rw [gI_sI, if_neg (by omega), gI_sI, if_neg (by omega), gI_sI, if_neg (by omega), gI_sI, if_pos ⟨rfl, rfl, rfl⟩]; rfl
    · rw [gI_sI, if_neg (by omega), gI_sI, if_neg (by omega), gI_sI, if_pos ⟨rfl, rfl, rfl⟩]; rfl
    · rw [gI_sI, if_neg (by omega), gI_sI, if_pos ⟨rfl, rfl, rfl⟩]; rfl
    · rw [gI_sI, if_pos ⟨rfl, rfl, rfl⟩]
  rcases c_textL (K := fun v26 s27 => (if (gI s27 2 t 3) = 0 then (some (iN n, s27)) else (bI (f2_rowCodes t s27) (fun v28 s29 => (if iN n = ((3 + v28) + (3 * (gI s29 2 t 3))) then (l2_readText_68 t 3 0 s29) else (some (iN n, s29))))))) (T := T) (t := t) (k := k) hs hin n 0 300 s0 psE (by omega) (by omega) Iv_0 hP0 (by rw [f0.2 _ _ _ (by omega)]; exact h42) (fun y hy => by rw [f0.2 _ _ _ (by omega)]; exact h19 y hy) with ⟨q1, s1, q2, q3, q4⟩ | ⟨S, q1, q2, s1, q3, q4, q5⟩
  · exact Or.inl ⟨(itP T n 0 psE).1, by omega, ⟨rfl, fun S hS => by rw [q1] at hS; exact absurd hS (by simp)⟩, s1, q2, f0.trans q3⟩
  · have f1 := f0.trans q5
    obtain ⟨⟨p1, p2, p3, p4, p5, p6⟩, p7, p8, p9, p10⟩ := q4
    have hm2 := q2.2.2.2.2.2.1.2
    have hp5 := q2.2.2.2.2.2.1.1
    have bad : ¬ cpl S n → badT T n n := fun hc => ⟨by rw [q1], fun S' hS' => by
      rw [q1] at hS'
      rw [← Option.some.inj hS']; exact hc⟩
    by_cases em : pM S = 0
    · refine Or.inl ⟨n, Nat.le_refl _, bad (fun q => by have := q.1; omega), s1, q3.trans ?_, f1⟩
      show (if (gI s1 2 t 3) = 0 then _ else _) = _
      rw [p5, em, if_pos (show iN 0 = 0 from rfl)]
    · have hx3 : 3 ≤ n := by
        by_cases h : 3 ≤ n
        · exact h
        · have := q2.1 (by omega)
          omega
      have r35 := pR_35 q2 hx3
      have ecmp : (3 + iN (pH S) * (iN (pW S) + 1)) + 3 * iN (pM S) = iN (3 + pR S + 3 * pM S) := by
        rw [iN_add1, iN_mul, show (3 : Int32) = iN 3 from rfl, iN_mul, iN_add, iN_add]
      have eK : ∀ Z, (if iN n = iN (3 + pR S + 3 * pM S) then (l2_readText_68 t 3 0 s1) else (some (iN n, s1))) = Z → l2_readText_7 (fun v26 s27 => (if (gI s27 2 t 3) = 0 then (some (iN n, s27)) else (bI (f2_rowCodes t s27) (fun v28 s29 => (if iN n = ((3 + v28) + (3 * (gI s29 2 t 3))) then (l2_readText_68 t 3 0 s29) else (some (iN n, s29))))))) t k (iN i) (iN n) 300 (iN 0) s0 = Z := fun Z hZ => by
        refine q3.trans ?_
        show (if (gI s1 2 t 3) = 0 then _ else _) = _
        unfold f2_rowCodes
        rw [p5, if_neg (by rw [iN_0 (by omega)]; exact em), bI_some, p1, p2, p5, ecmp]
        exact hZ
      by_cases en : n = 3 + pR S + 3 * pM S
      · have hIL := Iv_L q2
        obtain ⟨s2, g1, g2, g3⟩ := c_eatL (t := t) (m := pM S) (kd := S.2.2.1) (sr := S.2.2.2.1) hm2 (fun e he => q2.2.2.2.2.2.2.2.2.1 e (by omega)) (pM S) 0 3 s1 (by omega) (by omega) p5 (fun e he => p9 e (by omega)) p10 (fun e he => by omega)
        obtain ⟨s3, r1, r2, r3⟩ := c_list (σ := s2) (t := t) hp5 hm2 (by rw [g3.2 _ _ _ (by omega)]; exact p4) (by rw [g3.2 _ _ _ (by omega)]; exact p5) (by rw [g3.2 _ _ _ (by omega)]; exact p6)
        have fr : ∀ a b c, ¬ (a = 0 ∨ a = 1 ∨ a = 5) → ¬ (a = 2 ∧ b = t ∧ c = 4) → ¬ (a = 10 ∧ b = t) → gI s3 a b c = gI s1 a b c := fun a b c h1 h2 h3 => by rw [r3.2 a b c h2 h3, g3.2 a b c h1]
        refine Or.inr ⟨S, ⟨q1, by omega, en⟩, q2, s3, eK _ ?_, ⟨⟨?_, ?_, ?_, ?_, ?_⟩, fun j hj => ?_, fun j hj => ?_, r2, fun e he => ?_⟩, fun a b c h1 h2 => ?_, fun a b c h1 h2 => ?_⟩
        · rw [if_pos (by rw [← en]), show l2_readText_68 t 3 0 s1 = _ from g1, r1, bV_some]
        · rw [fr _ _ _ (by omega) (by omega) (by omega)]; exact p1
        · rw [fr _ _ _ (by omega) (by omega) (by omega)]; exact p2
        · rw [fr _ _ _ (by omega) (by omega) (by omega)]; exact p3
        · rw [fr _ _ _ (by omega) (by omega) (by omega)]; exact p4
        · rw [fr _ _ _ (by omega) (by omega) (by omega)]; exact p5
        · rw [fr _ _ _ (by omega) (by omega) (by omega)]; exact p7 j hj
        · rw [fr _ _ _ (by omega) (by omega) (by omega)]; exact p8 j hj
        · obtain ⟨ix, e1, e2, e3, -⟩ := g2 e he
          have k3 := kk_3 (S.2.2.1 e)
          refine ⟨ix, ?_, ?_, ?_⟩
          · rw [show gR s3 = gR s2 from congrArg Prod.fst r3.1]; exact e1
          · rw [r3.2 _ _ _ (by omega) (by omega)]; exact e2
          · rw [r3.2 _ _ _ (by omega) (by omega)]; exact e3
        · rw [show gR s3 = gR s2 from congrArg Prod.fst r3.1, g3.1 a b c h1 h2, f1.gR]
        · rw [fr a b c h1 (by omega) (by omega), f1.2 a b c (by omega)]
      · refine Or.inl ⟨n, Nat.le_refl _, bad (fun q => en q.2), s1, eK _ ?_, f1⟩
        rw [if_neg (by rw [iN_inj (by omega) (by omega)]; exact en)]
