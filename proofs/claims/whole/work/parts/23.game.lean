/-! THE GAME, once for both sides: a plate (high, wide, signs), where peas are: a square, 100 had, 101 off, 102 no such pea -/
abbrev Bd : Type := Nat × Nat × (Nat → Int32)
def okB (B : Bd) : Prop := (2 ≤ B.1 ∧ B.1 < 6) ∧ (2 ≤ B.2.1 ∧ B.2.1 < 7) ∧ ∀ c, c < B.1 * B.2.1 → B.2.2 c = 0 ∨ B.2.2 c = 1 ∨ B.2.2 c = 2
def pon (P : Nat → Nat) (c : Nat) : Nat := if P 0 = c then 0 else if P 1 = c then 1 else if P 2 = c then 2 else if P 3 = c then 3 else if P 4 = c then 4 else 9
def bl (B : Bd) (P : Nat → Nat) (d : Nat) : Nat → Nat → Nat
  | 0, c => c
  | f + 1, c => if c = 99 then 99 else if pon P c = 9 then c else bl B P d f (nx B.1 B.2.1 c d)
def bhd (B : Bd) (P : Nat → Nat) (c d : Nat) : Nat := bl B P d 5 (nx B.1 B.2.1 c d)
def heldB (B : Bd) (v : Nat) (P : Nat → Nat) (c d : Nat) : Bool := if bhd B P c d = 99 then Nat.beq v 2 else decide (B.2.2 (bhd B P c d) = 2)
abbrev heldA (B : Bd) (v : Nat) (P : Nat → Nat) (c d : Nat) : Prop := heldB B v P c d = true
def up (P : Nat → Nat) (p x : Nat) : Nat → Nat := fun a => if a = p then x else P a
def rollA (B : Bd) (v : Nat) : Nat → Nat → Nat → (Nat → Nat) → (Nat → Nat)
  | 0, _, _, P => P
  | f + 1, p, d, P => if nx B.1 B.2.1 (P p) d = 99 then (if v = 0 then rollA B v f p ((d + 2) % 4) P else if v = 1 then up P p 101 else P)
    else if B.2.2 (nx B.1 B.2.1 (P p) d) = 2 then P
    else if pon P (nx B.1 B.2.1 (P p) d) = 9 then (if B.2.2 (nx B.1 B.2.1 (P p) d) = 1 then up P p (nx B.1 B.2.1 (P p) d) else rollA B v f p d (up P p (nx B.1 B.2.1 (P p) d)))
    else rollA B v f (pon P (nx B.1 B.2.1 (P p) d)) d P
/-- a push by its code -/
def pushA (B : Bd) (v : Nat) (F : Nat → Nat) (P : Nat → Nat) (c : Nat) : Nat → Nat := if P (c / 10 % 10) < 30 then (if heldA B v P (P (c / 10 % 10)) (c % 10) then up P (c / 10 % 10) 100 else rollA B v (F (c / 100)) (c / 10 % 10) (c % 10) P) else P
def okP (B : Bd) (n : Nat) (P : Nat → Nat) : Prop := (∀ p, p < n → (P p < B.1 * B.2.1 ∧ ¬ B.2.2 (P p) = 2) ∨ P p = 100 ∨ P p = 101) ∧ ∀ p, n ≤ p → P p = 102
theorem okB_30 {B : Bd} (h : okB B) : B.1 * B.2.1 ≤ 30 := Nat.mul_le_mul (show B.1 ≤ 5 by have := h.1.2; omega) (show B.2.1 ≤ 6 by have := h.2.1.2; omega)
theorem nx_rg_chk : hwc (fun h w c => (List.range 4).all fun d => Nat.beq (nx h w c d) 99 || Nat.blt (nx h w c d) (h * w)) = true := by decide +kernel
theorem nx_rg {B : Bd} {c d : Nat} (h : okB B) (hc : c < B.1 * B.2.1) (hd : d < 4) : nx B.1 B.2.1 c d = 99 ∨ nx B.1 B.2.1 c d < B.1 * B.2.1 := by
  have := List.all_eq_true.mp (hwc_at nx_rg_chk h.1.2 h.2.1.2 h.1.1 h.2.1.1 hc) d (List.mem_range.mpr hd)
  simp only [Bool.or_eq_true, Nat.beq_eq, Nat.blt_eq] at this
  exact this
theorem nC_nx {B : Bd} {c d : Nat} (h : okB B) (hc : c < B.1 * B.2.1) (hd : d < 4) : nC (iN B.1) (iN B.2.1) (iN (B.1 * B.2.1)) (iN c) (iN d) = some (rv (nx B.1 B.2.1 c d)) := by
  have := List.all_eq_true.mp (hwc_at nC_chk h.1.2 h.2.1.2 h.1.1 h.2.1.1 hc) d (List.mem_range.mpr hd)
  exact beq_iff_eq.mp this
theorem next_nx {B : Bd} {c d : Nat} {σ : Sto} (h : okB B) (hc : c < B.1 * B.2.1) (hd : d < 4) (h0 : gI σ 9 0 0 = iN B.2.1) (h1 : gI σ 9 0 1 = iN (B.1 * B.2.1)) : f9_next (iN c) (iN d) σ = some (rv (nx B.1 B.2.1 c d), σ) := by
  have k := hwc_at nM_chk h.1.2 h.2.1.2 h.1.1 h.2.1.1 hc
  simp only [Bool.and_eq_true, beq_iff_eq] at k
  obtain ⟨⟨⟨k0, k1⟩, k2⟩, k3⟩ := k
  have hw : ¬ iN B.2.1 = 0 := by
    have := h.2.1
    rw [show (0 : Int32) = iN 0 from rfl, iN_inj (by omega) (by omega)]; omega
  match d, hd with
  | 0, _ => rw [← k0]; exact next_0 h0 h1 hw
  | 1, _ => rw [← k1]; exact next_1 h0 h1 hw
  | 2, _ => rw [← k2]; exact next_2 h0 h1 hw
  | 3, _ => rw [← k3]; exact next_3 h0 h1 hw
theorem rv_99 : rv 99 = -1 := rfl
theorem rv_lt {x : Nat} (h : x < 30) : rv x = iN x := by unfold rv; rw [if_neg (by omega)]
theorem iN_ne_m {x : Nat} (h : x < 2147483648) {y : Int32} (hy : y < 0) : ¬ iN x = y := fun e => iN_neg h (e ▸ hy)
theorem pon_le (P : Nat → Nat) (c : Nat) : pon P c = 9 ∨ (pon P c < 5 ∧ P (pon P c) = c) := by
  unfold pon
  by_cases h0 : P 0 = c
  · rw [if_pos h0]; exact Or.inr ⟨by decide, h0⟩
  rw [if_neg h0]
  by_cases h1 : P 1 = c
  · rw [if_pos h1]; exact Or.inr ⟨by decide, h1⟩
  rw [if_neg h1]
  by_cases h2 : P 2 = c
  · rw [if_pos h2]; exact Or.inr ⟨by decide, h2⟩
  rw [if_neg h2]
  by_cases h3 : P 3 = c
  · rw [if_pos h3]; exact Or.inr ⟨by decide, h3⟩
  rw [if_neg h3]
  by_cases h4 : P 4 = c
  · rw [if_pos h4]; exact Or.inr ⟨by decide, h4⟩
  rw [if_neg h4]; exact Or.inl rfl
theorem bl_rg {B : Bd} {P : Nat → Nat} {d : Nat} (h : okB B) (hd : d < 4) : ∀ (f c : Nat), (c = 99 ∨ c < B.1 * B.2.1) → bl B P d f c = 99 ∨ bl B P d f c < B.1 * B.2.1
  | 0, c, hc => hc
  | f + 1, c, hc => by
    unfold bl
    by_cases e : c = 99
    · rw [if_pos e]; exact Or.inl rfl
    rw [if_neg e]
    have hc' := hc.resolve_left e
    by_cases e2 : pon P c = 9
    · rw [if_pos e2]; exact hc
    rw [if_neg e2]
    exact bl_rg h hd f _ (nx_rg h hc' hd)
theorem bhd_rg {B : Bd} {P : Nat → Nat} {c d : Nat} (h : okB B) (hc : c < B.1 * B.2.1) (hd : d < 4) : bhd B P c d = 99 ∨ bhd B P c d < B.1 * B.2.1 := bl_rg h hd 5 _ (nx_rg h hc hd)
/-- six squares on is beyond the rim -/
def nxs (h w d : Nat) : Nat → Nat → Nat
  | 0, c => c
  | f + 1, c => if c = 99 then 99 else nxs h w d f (nx h w c d)
theorem nxs_chk : hwc (fun h w c => (List.range 4).all fun d => Nat.beq (nxs h w d 6 c) 99) = true := by decide +kernel
/-! the class's side -/
def spI (x : Nat) : Int32 := if x < 30 then iN x else -9
def bits (P : Nat → Nat) (x : Nat) : Int32 := (if P 0 = x then 1 else 0) ||| (if P 1 = x then 2 else 0) ||| (if P 2 = x then 4 else 0) ||| (if P 3 = x then 8 else 0) ||| (if P 4 = x then 16 else 0)
def CB (σ : Sto) (t : Nat) (B : Bd) : Prop := gI σ 2 t 0 = iN B.1 ∧ gI σ 2 t 1 = iN B.2.1 ∧ gI σ 2 t 11 = iN (B.1 * B.2.1) ∧ (∀ c, c < B.1 * B.2.1 → gI σ 11 t c = B.2.2 c) ∧ (∀ j, gI σ 42 0 j = mtabs 42 j) ∧ ∀ j, gI σ 43 0 j = mtabs 43 j
def CS (σ : Sto) (i t v : Nat) (P : Nat → Nat) : Prop := gR σ 6 i 0 = some (2, t) ∧ gI σ 6 i 3 = iN v ∧ (∀ p, p < 5 → gI σ 16 i p = spI (P p)) ∧ gI σ 6 i 1 = bits P 100 ∧ gI σ 6 i 2 = bits P 101
def FS (i : Nat) (σ σ' : Sto) : Prop := (σ'.2.2 = σ.2.2 ∧ ∀ k a b, ¬ (a = i ∧ k = 6) → gR σ' k a b = gR σ k a b) ∧ ∀ k a b, ¬ (a = i ∧ (k = 6 ∨ k = 16)) → gI σ' k a b = gI σ k a b
theorem FS.rfl {i : Nat} {σ : Sto} : FS i σ σ := ⟨⟨Eq.refl _, fun _ _ _ _ => Eq.refl _⟩, fun _ _ _ _ => Eq.refl _⟩
theorem FS.trans {i : Nat} {σ σ1 σ2 : Sto} (h1 : FS i σ σ1) (h2 : FS i σ1 σ2) : FS i σ σ2 := ⟨⟨h2.1.1.trans h1.1.1, fun k a b h => (h2.1.2 k a b h).trans (h1.1.2 k a b h)⟩, fun k a b h => (h2.2 k a b h).trans (h1.2 k a b h)⟩
theorem CB.fs {i t : Nat} {σ σ' : Sto} {B : Bd} (h : FS i σ σ') (hB : CB σ t B) : CB σ' t B := by
  obtain ⟨h1, h2, h3, h4, h5, h6⟩ := hB
  refine ⟨?_, ?_, ?_, fun c hc => ?_, fun j => ?_, fun j => ?_⟩
  · rw [h.2 _ _ _ (by omega)]; exact h1
  · rw [h.2 _ _ _ (by omega)]; exact h2
  · rw [h.2 _ _ _ (by omega)]; exact h3
  · rw [h.2 _ _ _ (by omega)]; exact h4 c hc
  · rw [h.2 _ _ _ (by omega)]; exact h5 j
  · rw [h.2 _ _ _ (by omega)]; exact h6 j
theorem c_next {σ : Sto} {t c d : Nat} {B : Bd} (hB : CB σ t B) (h : okB B) (hc : c < B.1 * B.2.1) (hd : d < 4) : f2_nextTo t (iN c) (iN d) σ = some (rv (nx B.1 B.2.1 c d), σ) := by
  obtain ⟨h1, h2, h3, -, h5, h6⟩ := hB
  rw [nextTo_nC h1 h2 h3 h5 h6, nC_nx h hc hd]; rfl
theorem c_signAt {σ : Sto} {t c : Nat} {B : Bd} (hB : CB σ t B) (h : okB B) (hc : c < B.1 * B.2.1) : f2_signAt t (iN c) σ = some (B.2.2 c, σ) := by
  have h30 := okB_30 h
  unfold f2_signAt
  rw [if_neg (iN_neg (by omega)), hB.2.2.1, if_pos ((iN_lt (by omega) (by omega)).mpr hc), if_pos ((iN_Ix (by omega)).mpr (by omega)), iN_nat (by omega), hB.2.2.2.1 c hc]
theorem spI_lt {x : Nat} (h : x < 30) : spI x = iN x := if_pos h
theorem spI_ge {x : Nat} (h : ¬ x < 30) : spI x = -9 := if_neg h
theorem spI_eq {x c : Nat} (hc : c < 30) : spI x = iN c ↔ x = c := by
  by_cases h : x < 30
  · rw [spI_lt h, iN_inj (by omega) (by omega)]
  · rw [spI_ge h]
    constructor
    · intro e; exact absurd e.symm (iN_ne_m (by omega) (by decide))
    · intro e; omega
theorem c_spotOf {σ : Sto} {i t v p : Nat} {P : Nat → Nat} (hS : CS σ i t v P) (hp : p < 5) : f6_spotOf i (iN p) σ = some (spI (P p), σ) := by
  unfold f6_spotOf
  rw [if_neg (iN_neg (by omega)), if_pos (show iN p < 5 from (iN_lt (b := 5) (by omega) (by omega)).mpr hp), if_pos ((iN_Ix (by omega)).mpr hp), iN_nat (by omega), hS.2.2.1 p hp]
theorem c_isOn {σ : Sto} {i t v p : Nat} {P : Nat → Nat} (hS : CS σ i t v P) (hp : p < 5) : f6_isOn i (iN p) σ = some (if P p < 30 then 1 else 0, σ) := by
  unfold f6_isOn
  rw [c_spotOf hS hp, bI_some]
  by_cases h : P p < 30
  · rw [if_pos h, spI_lt h, if_neg (iN_ne_m (by omega) (by decide))]
  · rw [if_neg h, spI_ge h, if_pos rfl]
def poI (x : Nat) : Int32 := if x = 9 then -9 else iN x
theorem peaOn_s {σ : Sto} {i n j : Nat} {x : Int32} (hj : j < 5) : l6_peaOn_2 i x (n + 1) (iN j) σ = if gI σ 16 i j = x then some (iN j, σ) else l6_peaOn_2 i x n (iN (j + 1)) σ := by
  show (if 5 ≤ iN j then _ else _) = _
  rw [if_neg (by rw [show (5 : Int32) = iN 5 from rfl, iN_le (by omega) (by omega)]; omega), if_pos ((iN_Ix (by omega)).mpr hj), iN_nat (by omega), iN_add1]
theorem c_peaOn {σ : Sto} {i t v c : Nat} {P : Nat → Nat} (hS : CS σ i t v P) (hc : c < 30) : f6_peaOn i (iN c) σ = some (poI (pon P c), σ) := by
  have e := hS.2.2.1
  unfold f6_peaOn pon
  show l6_peaOn_2 i (iN c) (295 + 1 + 1 + 1 + 1 + 1) (iN 0) σ = _
  rw [peaOn_s (by decide), e 0 (by decide)]
  by_cases h0 : P 0 = c
  · rw [if_pos h0, if_pos ((spI_eq hc).mpr h0)]; rfl
  rw [if_neg h0, if_neg (mt (spI_eq hc).mp h0), peaOn_s (by decide), e 1 (by decide)]
  by_cases h1 : P 1 = c
  · rw [if_pos h1, if_pos ((spI_eq hc).mpr h1)]; rfl
  rw [if_neg h1, if_neg (mt (spI_eq hc).mp h1), peaOn_s (by decide), e 2 (by decide)]
  by_cases h2 : P 2 = c
  · rw [if_pos h2, if_pos ((spI_eq hc).mpr h2)]; rfl
  rw [if_neg h2, if_neg (mt (spI_eq hc).mp h2), peaOn_s (by decide), e 3 (by decide)]
  by_cases h3 : P 3 = c
  · rw [if_pos h3, if_pos ((spI_eq hc).mpr h3)]; rfl
  rw [if_neg h3, if_neg (mt (spI_eq hc).mp h3), peaOn_s (by decide), e 4 (by decide)]
  by_cases h4 : P 4 = c
  · rw [if_pos h4, if_pos ((spI_eq hc).mpr h4)]; rfl
  rw [if_neg h4, if_neg (mt (spI_eq hc).mp h4)]
  rfl
