/-! row -/
theorem Both.tfx {α : Type} {f g : Sto → Option (α × Sto)} (h : ∀ σ A t, wfA A → RC σ t A → RM σ A → ∃ r σ1 x y, f σ = some (r, σ1) ∧ Agr0 σ σ1 ∧ FC σ σ1 ∧ (gI σ1 7 0 0 = x ∧ gI σ1 8 0 13 = y) ∧ (RM σ1 A → ∃ σ2, g σ1 = some (r, σ2) ∧ FMm σ1 σ2 ∧ T24 σ1 σ2 ∧ gI σ2 9 0 14 = x ∧ gI σ2 9 0 15 = y)) : Both f g := by
  refine Both.tf (fun σ A t hw hC hM => ?_)
  obtain ⟨r, σ1, x, y, h1, h2, h3, h4, h5⟩ := h σ A t hw hC hM
  obtain ⟨σ2, h6⟩ := h5 (hM.fc h3)
  exact ⟨r, σ1, σ2, x, y, h1, h2, h3, h4, fun _ => h6⟩
theorem tf_fin {α : Type} {f g : Sto → Option (α × Sto)} {σ : Sto} {A : AS} {t : Nat} (hC : RC σ t A) (r : α) (y : Int32) (σ1 : Sto) (h1 : σ1 = sI σ 8 0 13 0 ∧ y = 0 ∨ σ1 = sI (sI σ 8 0 13 0) 8 0 13 y) (h2 : f σ = some (r, σ1)) (h3 : RM σ1 A → g σ1 = some (r, sI σ1 9 0 15 y)) : ∃ r σ1 x y, f σ = some (r, σ1) ∧ Agr0 σ σ1 ∧ FC σ σ1 ∧ (gI σ1 7 0 0 = x ∧ gI σ1 8 0 13 = y) ∧ (RM σ1 A → ∃ σ2, g σ1 = some (r, σ2) ∧ FMm σ1 σ2 ∧ T24 σ1 σ2 ∧ gI σ2 9 0 14 = x ∧ gI σ2 9 0 15 = y) := by
  have tr := hC.2.2.2.2.2.2.2.2.1.1
  have key : Agr0 σ σ1 ∧ FC σ σ1 ∧ gI σ1 7 0 0 = A.2 0 0 ∧ gI σ1 8 0 13 = y := by
    rcases h1 with ⟨rfl, rfl⟩ | rfl
    · exact ⟨Agr0_f, FC_f, by rw [gI_sI, if_neg (by decide)]; exact tr, gI_f⟩
    · exact ⟨Agr0_f.trans Agr0_f, FC_f.trans FC_f, by rw [gI_sI, if_neg (by decide), gI_sI, if_neg (by decide)]; exact tr, gI_f⟩
  obtain ⟨k1, k2, k3, k4⟩ := key
  exact ⟨r, σ1, A.2 0 0, y, h2, k1, k2, ⟨k3, k4⟩, fun hM => ⟨sI σ1 9 0 15 y, h3 hM, FMm_9, T24_9 (by decide), by rw [gI_sI, if_neg (by decide)]; exact hM.2.2.2.2.2.1, by rw [gI_sI, if_pos (by decide)]⟩⟩
def fcA (A : AS) (k : Nat) (a2 i n : Int32) : Int32 := if A.2 3 k = -1 then 1 else if A.2 3 k = a2 then (if n < 0 then 4 else if okR (A.2 4 k).toNatClampNeg i n then 0 else 3) else 2
theorem c_faultC {σ : Sto} {A : AS} {k : Nat} {a2 i n : Int32} (hk : k < 4) (hs : RCs σ A) (hw : wfS A) : f4_faultOfCells k a2 i n σ = some (fcA A k a2 i n, σ) := by
  obtain ⟨p1, p2, p3⟩ := hs k hk
  unfold f4_faultOfCells f4_faultOfLane fcA
  rcases wfS_at hw hk with e | ⟨l, s, hl, hs, e1, e2⟩
  · rw [c_nothing (p1 e), bI_some, if_neg (by decide), bI_some, if_neg (by decide), if_pos e]
  · have ne : ¬ A.2 3 k = -1 := by rw [e1]; exact iN_ne_m (by omega) (by decide)
    have e2' := ((p2 ne).2).trans e2
    rw [c_row hs e2', bI_some, if_pos rfl, (p2 ne).1, if_neg ne]
    by_cases el : A.2 3 k = a2
    · rw [if_pos el, if_pos el, bI_some, if_pos rfl, e2, iN_nat (by omega)]
      by_cases h : n < 0
      · rw [if_pos h, if_neg (Int32.not_le.mpr h)]
      · rw [if_neg h, if_pos (Int32.not_lt.mp h), c_hasCells hs e2', bI_some]
        by_cases r : okR s i n
        · rw [if_pos r, if_pos r, if_neg (by decide)]
        · rw [if_neg r, if_neg r, if_pos rfl]
    · rw [if_neg el, if_neg el, bI_some, if_neg (by decide)]
theorem m_faultC {σ : Sto} {A : AS} {k : Nat} {a2 i n : Int32} (hk : k < 4) (hs : RMs σ A) (hw : wfS A) : f9_faultOf (iN k) a2 i n σ = some (fcA A k a2 i n, σ) := by
  have z := hs.1 k hk
  have ix : Ix (iN k) 4 := (iN_Ix (by omega)).mpr hk
  have e31 : gI σ 31 0 (iN k).toNatClampNeg = A.2 3 k := by rw [iN_nat (by omega)]; exact z.1
  unfold f9_faultOf fcA
  rw [if_pos ix, if_pos ix, if_pos ix, e31]
  rcases wfS_at hw hk with e | ⟨l, s, hl, hs', e1, e2⟩
  · rw [if_pos e, e, if_neg (by decide)]
  · have ne : ¬ A.2 3 k = -1 := by rw [e1]; exact iN_ne_m (by omega) (by decide)
    have e32 : gI σ 32 0 (iN k).toNatClampNeg = iN s := by rw [iN_nat (by omega), z.2 ne, e2]
    rw [if_neg ne, if_pos (by rw [e1]; exact lane_le l hl), e32, e2, iN_nat (by omega)]
    by_cases el : A.2 3 k = a2
    · rw [if_pos el, if_pos el]
      by_cases h : n < 0
      · rw [if_pos h, if_neg (Int32.not_le.mpr h)]
      · rw [if_neg h, if_pos (Int32.not_lt.mp h)]
        have hn := nlt0.mp h
        by_cases h2 : i < 0
        · rw [if_pos h2, if_neg (fun q => nlt0.mpr q.1 h2)]
        · rw [if_neg h2]
          by_cases r : okR s i n
          · rw [if_pos r, if_pos ((le_sub hs' hn).mpr r.2.2)]
          · rw [if_neg r, if_neg (fun q => r ⟨nlt0.mp h2, hn, (le_sub hs' hn).mp q⟩)]
    · rw [if_neg el, if_neg el]
theorem fcA_0 {A : AS} {k : Nat} {a2 i n : Int32} (hk : k < 4) (hw : wfS A) (h : fcA A k a2 i n = 0) : ∃ s i' n', s ≤ 60 ∧ ¬ A.2 3 k = -1 ∧ A.2 4 k = iN s ∧ i = iN i' ∧ n = iN n' ∧ i' + n' ≤ s := by
  unfold fcA at h
  rcases wfS_at hw hk with e | ⟨l, s, hl, hs, e1, e2⟩
  · rw [if_pos e] at h; exact absurd h (by decide)
  · have ne : ¬ A.2 3 k = -1 := by rw [e1]; exact iN_ne_m (by omega) (by decide)
    rw [if_neg ne, e2, iN_nat (by omega)] at h
    by_cases el : A.2 3 k = a2
    · rw [if_pos el] at h
      by_cases h1 : n < 0
      · rw [if_pos h1] at h; exact absurd h (by decide)
      · rw [if_neg h1] at h
        by_cases r : okR s i n
        · obtain ⟨i', n', h2, h3, h4⟩ := okR_nat hs r
          exact ⟨s, i', n', hs, ne, e2, h2, h3, h4⟩
        · rw [if_neg r] at h; exact absurd h (by decide)
    · rw [if_neg el] at h; exact absurd h (by decide)
/-! codes, of any int -/
def icB (n m : Nat) (v : Int32) : Bool := decide (0 ≤ v.toInt) && decide (v.toInt < 200) && okCb n m v.toNatClampNeg
theorem icB_in {n m c : Nat} (hc : c < 200) : icB n m (iN c) = okCb n m c := by
  unfold icB
  rw [iN_toInt (by omega), iN_nat (by omega), decide_eq_true (show (0 : Int) ≤ c by omega), decide_eq_true (show (c : Int) < 200 by omega)]
  rfl
theorem icB_t {n m : Nat} {v : Int32} (h : icB n m v = true) : ∃ c, c < 200 ∧ v = iN c ∧ okC n m c := by
  unfold icB at h
  simp only [Bool.and_eq_true, decide_eq_true_eq] at h
  refine ⟨v.toNatClampNeg, ?_, ?_, okCb_iff.mp h.2⟩
  · show v.toInt.toNat < 200
    omega
  · rw [← Int32.toInt_inj, iN_toInt (by show v.toInt.toNat < _; omega)]
    show v.toInt = (v.toInt.toNat : Int)
    omega
theorem big_div {v : Int32} (h : iN 200 ≤ v) : iN 2 ≤ v / 100 ∧ ¬ v < 0 := by
  have h1 : (200 : Int) ≤ v.toInt := Int32.le_iff_toInt_le.mp h
  have h2 := Int32.toInt_lt v
  refine ⟨?_, nlt0.mpr (by omega)⟩
  rw [Int32.le_iff_toInt_le, Int32.toInt_div]
  show (2 : Int) ≤ (v.toInt.tdiv 100).bmod _
  have e : v.toInt.tdiv 100 = v.toInt / 100 := Int.tdiv_eq_ediv_of_nonneg (by omega)
  rw [e, Int.bmod_eq_of_le (by show _ ≤ v.toInt / 100; omega) (by show v.toInt / 100 < _; omega)]
  omega
theorem c_isCode {σ : Sto} {t n m c : Nat} (hn : n ≤ 5) (hm : m ≤ 2) (h2 : gI σ 2 t 2 = iN n) (h3 : gI σ 2 t 3 = iN m) (hc : c < 200) : f2_isCode t (iN c) σ = some (b2i (okCb n m c), σ) := by
  obtain ⟨k1, k2, k3⟩ := code_at hc
  unfold f2_isCode f8_peaOf
  rw [if_neg (iN_neg (by omega)), k1, h3]
  unfold okCb
  by_cases he : c / 100 < m
  · rw [isBelow_in σ (by omega) he, bI_some, if_neg (by decide), bI_some, k2]
    by_cases hp : c / 10 % 10 < n
    · rw [c_hasPea_in h2 hn hp, bI_some, if_neg (by decide), k3, show (4 : Int32) = iN 4 from rfl]
      by_cases hd : c % 10 < 4
      · rw [isBelow_in σ (by decide) hd, bI_some, if_neg (by decide), show (Nat.blt (c / 100) m && Nat.blt (c / 10 % 10) n && Nat.blt (c % 10) 4) = true from okCb_iff.mpr ⟨he, hp, hd⟩]
        rfl
      · rw [isBelow_out σ (Or.inr ((iN_le (by omega) (by omega)).mpr (by omega))), bI_some, if_pos rfl, show Nat.blt (c % 10) 4 = false from Bool.eq_false_iff.mpr (fun q => hd (Nat.blt_eq ▸ q)), Bool.and_false]
        rfl
    · rw [c_hasPea_out h2 (Or.inr ((iN_le (by omega) (by omega)).mpr (by omega))), bI_some, if_pos rfl, show Nat.blt (c / 10 % 10) n = false from Bool.eq_false_iff.mpr (fun q => hp (Nat.blt_eq ▸ q)), Bool.and_false, Bool.false_and]
      rfl
  · rw [isBelow_out σ (Or.inr ((iN_le (by omega) (by omega)).mpr (by omega))), bI_some, if_pos rfl, show Nat.blt (c / 100) m = false from Bool.eq_false_iff.mpr (fun q => he (Nat.blt_eq ▸ q)), Bool.false_and, Bool.false_and]
    rfl
theorem icB_out {n m : Nat} {v : Int32} (h : v < 0 ∨ iN 200 ≤ v) : icB n m v = false := by
  unfold icB
  rcases h with h | h
  · rw [decide_eq_false (fun q => nlt0.mpr q h)]; rfl
  · have h1 : (200 : Int) ≤ v.toInt := Int32.le_iff_toInt_le.mp h
    rw [decide_eq_false (show ¬ v.toInt < 200 by omega), Bool.and_false]; rfl
theorem c_isC {σ : Sto} {t n m : Nat} {v : Int32} (hn : n ≤ 5) (hm : m ≤ 2) (h2 : gI σ 2 t 2 = iN n) (h3 : gI σ 2 t 3 = iN m) : f2_isCode t v σ = some (b2i (icB n m v), σ) := by
  rcases iN_or v 200 (by decide) with ⟨c, hc, rfl⟩ | h
  · rw [icB_in hc]; exact c_isCode hn hm h2 h3 hc
  · rw [icB_out h]
    unfold f2_isCode
    by_cases h0 : v < 0
    · rw [if_pos h0]; rfl
    · have b := (big_div (h.resolve_left h0)).1
      rw [if_neg h0, h3, isBelow_out σ (Or.inr (Int32.le_trans ((iN_le (by omega) (by omega)).mpr hm) b)), bI_some, if_pos rfl]
      rfl
theorem m_isC {σ : Sto} {n m : Nat} {v : Int32} (hn : n ≤ 5) (hm : m ≤ 2) (h3 : gI σ 9 0 3 = iN n) (h5 : gI σ 9 0 5 = iN m) : f9_isCode v σ = some (b2i (icB n m v), σ) := by
  rcases iN_or v 200 (by decide) with ⟨c, hc, rfl⟩ | h
  · rw [icB_in hc]; exact m_isCode hn hm h3 h5 hc
  · rw [icB_out h]
    unfold f9_isCode f9_eaterOf
    by_cases h0 : v < 0
    · rw [if_pos h0]; rfl
    · have b := (big_div (h.resolve_left h0)).1
      rw [if_neg h0, bI_some, m_isEa_out h5 hm (Or.inr (Int32.le_trans ((iN_le (by omega) (by omega)).mpr hm) b)), bI_some, if_pos rfl]
      rfl
def allF (f : Nat → Bool) : Nat → Nat → Bool
  | 0, _ => true
  | k + 1, j => if f j = true then allF f k (j + 1) else false
theorem allF_t {f : Nat → Bool} : ∀ (k j : Nat), allF f k j = true → ∀ p, j ≤ p → p < j + k → f p = true
  | 0, _, _, p, h1, h2 => by omega
  | k + 1, j, h, p, h1, h2 => by
    have h' : (if f j = true then allF f k (j + 1) else false) = true := h
    by_cases e : f j = true
    · rw [if_pos e] at h'
      by_cases ep : p = j
      · rw [ep]; exact e
      · exact allF_t k (j + 1) h' p (by omega) (by omega)
    · rw [if_neg e] at h'; exact absurd h' (by decide)
theorem c_arL {σ : Sto} {A : AS} {t k s i n : Nat} (hn : aN A ≤ 5) (hm : aM A ≤ 2) (hX : CX σ t A) (hk : k < 4) (hs : s ≤ 60) (h42 : gI σ 4 k 2 = iN s) (h19 : ∀ j, j < 60 → gI σ 19 k j = A.2 5 (60 * k + j)) (hin : i + n ≤ s) : ∀ f j q, j + f = n → f < q → l8_areCodes_3 k (iN i) (iN n) q (iN j) σ = some (b2i (allF (fun x => icB (aN A) (aM A) (A.2 5 (60 * k + i + x))) f j), σ)
  | f, j, 0, _, hq => by omega
  | 0, j, q + 1, hj, hq => by
    show (if iN n ≤ iN j then _ else _) = _
    rw [if_pos ((iN_le (by omega) (by omega)).mpr (by omega))]
    rfl
  | f + 1, j, q + 1, hj, hq => by
    show (if iN n ≤ iN j then _ else _) = _
    rw [if_neg (by rw [iN_le (by omega) (by omega)]; omega), iN_add, c_read hs h42 (by omega), bI_some, hX.1, dr_some, h19 _ (by omega), show 60 * k + (i + j) = 60 * k + i + j by omega, c_isC hn hm hX.2.2.1.1 hX.2.2.1.2, bI_some, b2i_ite, iN_add1]
    show _ = some (b2i (if icB (aN A) (aM A) (A.2 5 (60 * k + i + j)) = true then allF _ f (j + 1) else false), σ)
    by_cases e : icB (aN A) (aM A) (A.2 5 (60 * k + i + j)) = true
    · rw [if_pos e, if_pos e]; exact c_arL hn hm hX hk hs h42 h19 hin f (j + 1) q (by omega) (by omega)
    · rw [if_neg e, if_neg e]; rfl
theorem m_arL0 {σ : Sto} {o n : Nat} (ho : o + n ≤ 240) : ∀ f j q, j + f = n → f < q → l9_areCodes_5 (iN o) (iN n) q 0 (iN (o + j)) σ = some (0, σ)
  | f, j, 0, _, hq => by omega
  | 0, j, q + 1, hj, hq => by
    show (if (iN o + iN n) ≤ iN (o + j) then _ else _) = _
    rw [iN_add, if_pos ((iN_le (by omega) (by omega)).mpr (by omega)), if_pos (Or.inl rfl)]
  | f + 1, j, q + 1, hj, hq => by
    show (if (iN o + iN n) ≤ iN (o + j) then _ else _) = _
    rw [iN_add, if_neg (by rw [iN_le (by omega) (by omega)]; omega), if_pos rfl, iN_add1]
    exact m_arL0 ho f (j + 1) q (by omega) (by omega)
theorem m_arL {σ : Sto} {A : AS} {o n : Nat} (hn : aN A ≤ 5) (hm : aM A ≤ 2) (hX : MX σ A) (h33 : ∀ j, j < 240 → gI σ 33 0 j = A.2 5 j) (ho : o + n ≤ 240) : ∀ f j q, j + f = n → f < q → l9_areCodes_5 (iN o) (iN n) q 1 (iN (o + j)) σ = some (b2i (allF (fun x => icB (aN A) (aM A) (A.2 5 (o + x))) f j), σ)
  | f, j, 0, _, hq => by omega
  | 0, j, q + 1, hj, hq => by
    show (if (iN o + iN n) ≤ iN (o + j) then _ else _) = _
    rw [iN_add, if_pos ((iN_le (by omega) (by omega)).mpr (by omega)), if_pos (Or.inr rfl)]
    rfl
  | f + 1, j, q + 1, hj, hq => by
    show (if (iN o + iN n) ≤ iN (o + j) then _ else _) = _
    rw [iN_add, if_neg (by rw [iN_le (by omega) (by omega)]; omega), if_neg (by decide), if_pos ((iN_Ix (by omega)).mpr (by omega)), iN_nat (by omega), h33 _ (by omega), m_isC hn hm hX.2.2.1 hX.2.1.1, bI_some, b2i_ite, iN_add1]
    show _ = some (b2i (if icB (aN A) (aM A) (A.2 5 (o + j)) = true then allF _ f (j + 1) else false), σ)
    by_cases e : icB (aN A) (aM A) (A.2 5 (o + j)) = true
    · rw [if_pos e, if_pos e]; exact m_arL hn hm hX h33 ho f (j + 1) q (by omega) (by omega)
    · rw [if_neg e, if_neg e]; exact m_arL0 ho f (j + 1) q (by omega) (by omega)
def rowF (A : AS) (cd : Nat → Nat) : Nat → Nat → (Nat → Nat) → Int32
  | 0, _, P => iN (hcN P)
  | f + 1, j, P => if onB P (cd j) = true then rowF A cd f (j + 1) (psA A P (cd j)) else -100 - iN j
theorem c_rowL {A : AS} {t k s i n : Nat} {cd : Nat → Nat} (hl : laid A) (hk : k < 4) (hs : s ≤ 60) (hin : i + n ≤ s) (hcd : ∀ x, x < n → okC (aN A) (aM A) (cd x)) : ∀ (f j q : Nat) (σ : Sto) (P : Nat → Nat), j + f = n → f < q → CX σ t A → gI σ 4 k 2 = iN s → (∀ x, x < n → gI σ 19 k (i + x) = iN (cd x)) → okP (aB A) (aN A) P → CS σ 1 t (aV A) P → ∃ σ', l8_hadByRow_14 k (iN i) (iN n) q (iN j) σ = some (rowF A cd f j P, σ') ∧ FS 1 σ σ'
  | f, j, 0, _, _, _, hq, _, _, _, _, _ => by omega
  | 0, j, q + 1, σ, P, hj, hq, hX, h42, h19, hP, hS => by
    refine ⟨σ, ?_, FS.rfl⟩
    show (if iN n ≤ iN j then _ else _) = _
    rw [if_pos ((iN_le (by omega) (by omega)).mpr (by omega)), c_countHad hS, bI_some]
    rfl
  | f + 1, j, q + 1, σ, P, hj, hq, hX, h42, h19, hP, hS => by
    have okc := hcd j (by omega)
    have c200 := okC_lt hl.2.1.2 okc
    have hp5 : cd j / 10 % 10 < 5 := by have := okc.2.1; have := hl.2.2.1; omega
    show ∃ σ', (if iN n ≤ iN j then _ else _) = _ ∧ _
    unfold f8_peaOf
    rw [if_neg (by rw [iN_le (by omega) (by omega)]; omega), iN_add, c_read hs h42 (by omega), bI_some, h19 j (by omega), bI_some, (code_at c200).2.1, c_isOn hS hp5, bI_some, iN_add1]
    show ∃ σ', _ = some (if onB P (cd j) = true then rowF A cd f (j + 1) (psA A P (cd j)) else -100 - iN j, σ') ∧ _
    by_cases on : P (cd j / 10 % 10) < 30
    · obtain ⟨s1, g1, g2, g3⟩ := c_pushX (i := 1) hl hl.2.2.2.2.2.2.2 hX okc hP hS
      rw [if_pos on, if_neg (by decide), g1, bV_some, if_pos (show onB P (cd j) = true from decide_eq_true on)]
      obtain ⟨s2, r1, r2⟩ := c_rowL hl hk hs hin hcd f (j + 1) q s1 _ (by omega) (by omega) (hX.fs g3) (by rw [g3.2 _ _ _ (by omega)]; exact h42) (fun x hx => by rw [g3.2 _ _ _ (by omega)]; exact h19 x hx) (okP_push hl.1 okc hP) g2
      exact ⟨s2, r1, g3.trans r2⟩
    · rw [if_neg on, if_pos rfl, if_neg (show ¬ onB P (cd j) = true from fun q => on (of_decide_eq_true q))]
      exact ⟨σ, rfl, FS.rfl⟩
theorem m_rowL {A : AS} {o n : Nat} {cd : Nat → Nat} (hl : laid A) (ho : o + n ≤ 240) (hcd : ∀ x, x < n → okC (aN A) (aM A) (cd x)) : ∀ (f j q : Nat) (σ : Sto) (P : Nat → Nat), j + f = n → f < q → MX σ A → (∀ x, x < n → gI σ 33 0 (o + x) = iN (cd x)) → okP (aB A) (aN A) P → MS σ (aN A) (aV A) P → ∃ σ', l9_row_116 (iN n) (iN o) q (iN j) σ = some (rowF A cd f j P, σ') ∧ FM σ σ'
  | f, j, 0, _, _, _, hq, _, _, _, _ => by omega
  | 0, j, q + 1, σ, P, hj, hq, hX, h33, hP, hS => by
    refine ⟨σ, ?_, FM.rfl⟩
    show (if iN n ≤ iN j then _ else _) = _
    rw [if_pos ((iN_le (by omega) (by omega)).mpr (by omega)), m_had hl.2.2.1 hP hS, bI_some]
    rfl
  | f + 1, j, q + 1, σ, P, hj, hq, hX, h33, hP, hS => by
    have okc := hcd j (by omega)
    have c200 := okC_lt hl.2.1.2 okc
    have ix : Ix (iN (o + j)) 240 := (iN_Ix (by omega)).mpr (by omega)
    have e33 : gI σ 33 0 (iN (o + j)).toNatClampNeg = iN (cd j) := by rw [iN_nat (by omega), h33 j (by omega)]
    show ∃ σ', (if iN n ≤ iN j then _ else _) = _ ∧ _
    rw [if_neg (by rw [iN_le (by omega) (by omega)]; omega), iN_add, if_pos ix, e33, m_isPush hl hX hS c200, bI_some, okCb_iff.mpr okc, Bool.true_and, b2i_ite, if_pos ix, e33, iN_add1]
    show ∃ σ', _ = some (if onB P (cd j) = true then rowF A cd f (j + 1) (psA A P (cd j)) else -100 - iN j, σ') ∧ _
    by_cases on : onB P (cd j) = true
    · obtain ⟨s1, g1, g2, g3⟩ := m_pushX hl hl.2.2.2.2.2.2.2 hX okc hP hS
      rw [if_pos on, if_pos on, g1, bV_some]
      obtain ⟨s2, r1, r2⟩ := m_rowL hl ho hcd f (j + 1) q s1 _ (by omega) (by omega) (hX.fm g3) (fun x hx => by rw [g3.2 _ _ _ (by omega)]; exact h33 x hx) (okP_push hl.1 okc hP) g2
      exact ⟨s2, r1, g3.trans r2⟩
    · rw [if_neg on, if_neg on]
      exact ⟨σ, rfl, FM.rfl⟩
theorem FS.agr0 {i : Nat} {σ σ' : Sto} (hi : 1 ≤ i) (h : FS i σ σ') : Agr0 σ σ' := ⟨fun k a b hk => h.1.2 k a b (by omega), fun k a b h1 _ _ _ => h.2 k a b (by omega)⟩
theorem FM.t24 {σ σ' : Sto} (h : FM σ σ') : T24 σ σ' := fun k a b hk => h.2 k a b (by omega)
theorem both_row (a1 a2 a3 a4 : Int32) : Both (f8_row a1 a2 a3 a4) (f9_row a1 a2 a3 a4) := Both.tfx (fun σ A t hw hC hM => by
  have hn := wf_n hw
  have hm := wf_m hw
  have tr := hC.2.2.2.2.2.2.2.2.1.1
  have hC0 := hC.f0 (y := 0)
  have hX0 : CX (sI σ 8 0 13 0) t A := hC0.2.1
  have hs0 : RCs (sI σ 8 0 13 0) A := hC0.2.2.2.2.2.2.2.1
  rcases iN_or a1 4 (by decide) with ⟨k, hk, rfl⟩ | hx
  · rcases iN_or a2 3 (by decide) with ⟨l, hl3, rfl⟩ | hx
    · rcases hw.1 with hl | hl
      · have c0 : ∀ Z : Option (Int32 × Sto), (bI (f4_faultOfCells k (iN l) a3 a4 (sI σ 8 0 13 0)) (fun v30 s31 => (if v30 = 0 then (if a4 ≤ 20 then (bI (f8_areCodes k a3 a4 s31) (fun v32 s33 => (if v32 = 0 then (some ((-1), s33)) else (bI (f8_hadByRow k a3 a4 s33) (fun v34 s35 => (some (v34, s35))))))) else (some ((-2), s31))) else (bI (f8_failed v30 s31) (fun v36 s37 => (some (v36, s37))))))) = Z → f8_row (iN k) (iN l) a3 a4 σ = Z := fun Z h => by
          unfold f8_row
          rw [c_sheet_in hk, bI_some, rcs_some, if_pos rfl, show (3 : Int32) = iN 3 from rfl, isBelow_in _ (by decide) hl3, bI_some, if_neg (by decide), hX0.1, dr_some, c_laid hl hX0.2.2.1.2, bI_some, if_neg (by decide)]
          exact h
        have m0 : ∀ τ, RM τ A → ∀ Z : Option (Int32 × Sto), (bI (f9_faultOf (iN k) (iN l) a3 a4 τ) (fun v25 s26 => (if v25 = 0 then (if a4 ≤ 20 then (bI (f9_areCodes ((60 * iN k) + a3) a4 s26) (fun v27 s28 => (if v27 = 0 then (bI (f9_refused (-1) s28) (fun v35 s36 => (some (v35, s36)))) else (bV (f9_goThrough (-1) (sI s28 9 0 15 0)) (fun s29 => (l9_row_116 a4 ((60 * iN k) + a3) 300 0 s29)))))) else (bI (f9_refused (-2) s26) (fun v37 s38 => (some (v37, s38))))) else (bI (f9_fails v25 s26) (fun v39 s40 => (some (v39, s40))))))) = Z → f9_row (iN k) (iN l) a3 a4 τ = Z := fun τ hM Z h => by
          unfold f9_row
          rw [m_sheet_in hk, bI_some, if_neg (by decide), m_lane_in hl3, bI_some, if_neg (by decide), if_neg (m_laid hl hM.1.1.2.1)]
          exact h
        by_cases hf : fcA A k (iN l) a3 a4 = 0
        · obtain ⟨s, i, n, hs, ne, e4, rfl, rfl, hin⟩ := fcA_0 hk hw.2.2 hf
          obtain ⟨z1, z2, z3⟩ := hs0 k hk
          have h42 : gI (sI σ 8 0 13 0) 4 k 2 = iN s := ((z2 ne).2).trans e4
          by_cases h20 : iN n ≤ 20
          · have n20 : n ≤ 20 := (iN_le (b := 20) (by omega) (by omega)).mp h20
            have Ec : f8_areCodes k (iN i) (iN n) (sI σ 8 0 13 0) = some (b2i (allF (fun x => icB (aN A) (aM A) (A.2 5 (60 * k + i + x))) n 0), sI σ 8 0 13 0) := c_arL hn hm hX0 hk hs h42 z3 hin n 0 300 (by omega) (by omega)
            have Em : ∀ τ, RM τ A → f9_areCodes ((60 * iN k) + iN i) (iN n) τ = some (b2i (allF (fun x => icB (aN A) (aM A) (A.2 5 (60 * k + i + x))) n 0), τ) := fun τ hM => by
              rw [at60]
              exact m_arL hn hm hM.1 hM.2.2.2.2.1.2 (show 60 * k + i + n ≤ 240 by omega) n 0 300 (by omega) (by omega)
            by_cases all : allF (fun x => icB (aN A) (aM A) (A.2 5 (60 * k + i + x))) n 0 = true
            · have hcd : ∀ x, x < n → okC (aN A) (aM A) (A.2 5 (60 * k + i + x)).toNatClampNeg ∧ A.2 5 (60 * k + i + x) = iN (A.2 5 (60 * k + i + x)).toNatClampNeg := fun x hx => by
                obtain ⟨c, h1, h2, h3⟩ := icB_t (allF_t n 0 all x (Nat.zero_le _) (by omega))
                rw [h2, iN_nat (by omega)]
                exact ⟨h3, rfl⟩
              have hP := nowP_ok hl
              have hS0 : CS (sI σ 8 0 13 0) 0 t (aV A) (nowP A) := hC0.2.2.2.2.2.2.1 hl
              obtain ⟨s1, g1, g2, g3⟩ := c_copy (i := 1) (i' := 0) (by decide) hS0
              obtain ⟨s2, r1, r2⟩ := c_rowL (cd := fun x => (A.2 5 (60 * k + i + x)).toNatClampNeg) hl hk hs hin (fun x hx => (hcd x hx).1) n 0 300 s1 (nowP A) (by omega) (by omega) (hX0.fs g3) (by rw [g3.2 _ _ _ (by omega)]; exact h42) (fun x hx => by rw [g3.2 _ _ _ (by omega), z3 _ (by omega), ← (hcd x hx).2]; show A.2 5 _ = A.2 5 _; rw [show 60 * k + (i + x) = 60 * k + i + x by omega]) hP g2
              have fs := g3.trans r2
              refine ⟨rowF A (fun x => (A.2 5 (60 * k + i + x)).toNatClampNeg) n 0 (nowP A), s2, A.2 0 0, 0, c0 _ ?_, Agr0_f.trans (fs.agr0 (by decide)), FC_f.trans fs.fc, ⟨by rw [fs.2 _ _ _ (by omega), gI_sI, if_neg (by omega)]; exact tr, by rw [fs.2 _ _ _ (by omega)]; exact gI_f⟩, fun hM => ?_⟩
              · rw [c_faultC hk hs0 hw.2.2, bI_some, if_pos hf, if_pos h20, Ec, bI_some, b2i_ite, if_pos all]
                unfold f8_hadByRow
                rw [g1, bV_some, show l8_hadByRow_14 k (iN i) (iN n) 300 0 s1 = _ from r1, bI_some]
              · have fp9 : T24 s2 (sI s2 9 0 15 0) := T24_9 (by decide)
                have hX9 : MX (sI s2 9 0 15 0) A := by
                  obtain ⟨⟨x1, x2, x3⟩, ⟨x4, x5⟩, x6, x7, x8, x9⟩ := hM.1
                  have w : ∀ k b, ¬ (k = 9 ∧ b = 15) → gI (sI s2 9 0 15 0) k 0 b = gI s2 k 0 b := fun k b h => by rw [gI_sI, if_neg (by omega)]
                  exact ⟨⟨by rw [w _ _ (by omega)]; exact x1, by rw [w _ _ (by omega)]; exact x2, fun c hc => by rw [w _ _ (by omega)]; exact x3 c hc⟩, ⟨by rw [w _ _ (by omega)]; exact x4, fun e he => by rw [w 26 _ (by omega), w 27 _ (by omega)]; exact x5 e he⟩, by rw [w _ _ (by omega)]; exact x6, fun p hp => by rw [w _ _ (by omega)]; exact x7 p hp, by rw [w _ _ (by omega)]; exact x8, fun k hk => by rw [w _ _ (by omega)]; exact x9 k hk⟩
                obtain ⟨τ1, m1, m2, m3⟩ := m_go (but := -1) hl hl.2.2.2.2.2.2.2 hX9 (by rw [gI_sI, if_neg (by omega)]; exact hM.2.2.1)
                rw [run_no (b2 := -9) (by decide) (by decide) (aK A) hl.2.2.2.2.2.1] at m2
                obtain ⟨τ2, n1, n2⟩ := m_rowL (o := 60 * k + i) (cd := fun x => (A.2 5 (60 * k + i + x)).toNatClampNeg) hl (show 60 * k + i + n ≤ 240 by omega) (fun x hx => (hcd x hx).1) n 0 300 τ1 (nowP A) (by omega) (by omega) (hX9.fm m3) (fun x hx => by rw [m3.2 _ _ _ (by omega), gI_sI, if_neg (by omega), hM.2.2.2.2.1.2 _ (by omega), ← (hcd x hx).2]) hP m2
                have fm := m3.trans n2
                refine ⟨τ2, m0 _ hM _ ?_, FMm_9.trans fm.fmm, fp9.trans fm.t24, by rw [fm.2 _ _ _ (by omega), gI_sI, if_neg (by omega)]; exact hM.2.2.2.2.2.1, by rw [fm.2 _ _ _ (by omega), gI_sI, if_pos (by decide)]⟩
                rw [m_faultC hk hM.2.2.2.2.1 hw.2.2, bI_some, if_pos hf, if_pos h20, Em _ hM, bI_some, b2i_ite, if_pos all, m1, bV_some, at60]
                exact n1
            · refine tf_fin hC (-1) 0 _ (Or.inl ⟨rfl, rfl⟩) (c0 _ ?_) (fun hM => m0 _ hM _ ?_)
              · rw [c_faultC hk hs0 hw.2.2, bI_some, if_pos hf, if_pos h20, Ec, bI_some, b2i_ite, if_neg all]
              · unfold f9_refused
                rw [m_faultC hk hM.2.2.2.2.1 hw.2.2, bI_some, if_pos hf, if_pos h20, Em _ hM, bI_some, b2i_ite, if_neg all, bI_some]
          · refine tf_fin hC (-2) 0 _ (Or.inl ⟨rfl, rfl⟩) (c0 _ ?_) (fun hM => m0 _ hM _ ?_)
            · rw [c_faultC hk hs0 hw.2.2, bI_some, if_pos hf, if_neg h20]
            · unfold f9_refused
              rw [m_faultC hk hM.2.2.2.2.1 hw.2.2, bI_some, if_pos hf, if_neg h20, bI_some]
        · refine tf_fin hC (-10 - fcA A k (iN l) a3 a4) (fcA A k (iN l) a3 a4) _ (Or.inr rfl) (c0 _ ?_) (fun hM => m0 _ hM _ ?_)
          · unfold f8_failed
            rw [c_faultC hk hs0 hw.2.2, bI_some, if_neg hf, bI_some]
          · unfold f9_fails
            rw [m_faultC hk hM.2.2.2.2.1 hw.2.2, bI_some, if_neg hf, bI_some]
      · refine tf_fin hC (-3) 0 _ (Or.inl ⟨rfl, rfl⟩) ?_ (fun hM => ?_)
        · unfold f8_row
          rw [c_sheet_in hk, bI_some, rcs_some, if_pos rfl, show (3 : Int32) = iN 3 from rfl, isBelow_in _ (by decide) hl3, bI_some, if_neg (by decide), hX0.1, dr_some, c_unlaid hl hX0.2.2.1.2, bI_some, if_pos rfl]
        · unfold f9_row f9_refused
          rw [m_sheet_in hk, bI_some, if_neg (by decide), m_lane_in hl3, bI_some, if_neg (by decide), if_pos (m_unlaid hl hM.1.1.2.1), bI_some]
    · refine tf_fin hC (-2) 0 _ (Or.inl ⟨rfl, rfl⟩) ?_ (fun hM => ?_)
      · unfold f8_row
        rw [c_sheet_in hk, bI_some, rcs_some, if_pos rfl, show (3 : Int32) = iN 3 from rfl, isBelow_out _ hx, bI_some, if_pos rfl]
      · unfold f9_row f9_refused
        rw [m_sheet_in hk, bI_some, if_neg (by decide), m_lane_out hx, bI_some, if_pos rfl, bI_some]
  · refine tf_fin hC (-1) 0 _ (Or.inl ⟨rfl, rfl⟩) ?_ (fun hM => ?_)
    · unfold f8_row
      rw [c_sheet_out hx, bI_some, rcs_none]
    · unfold f9_row f9_refused
      rw [m_sheet_out hx, bI_some, if_pos rfl, bI_some])
