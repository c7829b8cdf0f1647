/-! the class plays it -/
theorem poI_9 : poI 9 = -9 := rfl
theorem poI_ne {x : Nat} (h : x < 5) : poI x = iN x := by unfold poI; rw [if_neg (by omega)]
theorem c_bl {σ : Sto} {i t v d : Nat} {P : Nat → Nat} {B : Bd} (hB : CB σ t B) (h : okB B) (hS : CS σ i t v P) (hd : d < 4) : ∀ (f n c : Nat), f ≤ 5 → f < n → (c = 99 ∨ c < B.1 * B.2.1) → l6_behindLine_17 i (iN d) n (rv c) (iN (5 - f)) σ = some (rv (bl B P d f c), σ)
  | 0, n + 1, c, _, _, hc => by
    show (if 5 ≤ iN 5 then _ else _) = _
    rw [if_pos (by decide)]; rfl
  | f + 1, n + 1, c, hf, hn, hc => by
    have h30 := okB_30 h
    show (if 5 ≤ iN (5 - (f + 1)) then _ else _) = _
    rw [if_neg (by rw [show (5 : Int32) = iN 5 from rfl, iN_le (by omega) (by omega)]; omega)]
    unfold bl
    by_cases e : c = 99
    · subst e
      rw [if_pos rfl, if_pos rv_99]
    have hc' := hc.resolve_left e
    rw [if_neg e, rv_lt (by omega), if_neg (iN_ne_m (by omega) (by decide)), c_peaOn hS (by omega), bI_some]
    rcases pon_le P c with e2 | ⟨e2, -⟩
    · rw [if_pos e2, e2, if_pos poI_9, rv_lt (by omega)]
    · rw [if_neg (show ¬ pon P c = 9 by omega), poI_ne e2, if_neg (iN_ne_m (by omega) (by decide)), hS.1, dr_some, c_next hB h hc' hd, bI_some, iN_add1]
      have := c_bl hB h hS hd f n (nx B.1 B.2.1 c d) (by omega) (by omega) (nx_rg h hc' hd)
      rw [show 5 - (f + 1) + 1 = 5 - f by omega]
      exact this
theorem c_behind {σ : Sto} {i t v p d : Nat} {P : Nat → Nat} {B : Bd} (hB : CB σ t B) (h : okB B) (hS : CS σ i t v P) (hp : p < 5) (hc : P p < B.1 * B.2.1) (hd : d < 4) : f6_behindLine i (iN p) (iN d) σ = some (rv (bhd B P (P p) d), σ) := by
  have h30 := okB_30 h
  unfold f6_behindLine
  rw [c_spotOf hS hp, bI_some, hS.1, dr_some, spI_lt (by omega), c_next hB h hc hd, bI_some]
  exact c_bl hB h hS hd 5 300 _ (by decide) (by decide) (nx_rg h hc hd)
theorem heldA_99 {B : Bd} {v : Nat} {P : Nat → Nat} {c d : Nat} (e : bhd B P c d = 99) : heldA B v P c d ↔ v = 2 := by
  unfold heldA heldB; rw [if_pos e, Nat.beq_eq]
theorem heldA_in {B : Bd} {v : Nat} {P : Nat → Nat} {c d : Nat} (e : ¬ bhd B P c d = 99) : heldA B v P c d ↔ B.2.2 (bhd B P c d) = 2 := by
  unfold heldA heldB; rw [if_neg e, decide_eq_true_eq]
theorem c_isHeld {σ : Sto} {i t v p d : Nat} {P : Nat → Nat} {B : Bd} (hB : CB σ t B) (h : okB B) (hS : CS σ i t v P) (hv : v < 3) (hp : p < 5) (hc : P p < B.1 * B.2.1) (hd : d < 4) : (heldA B v P (P p) d ∧ f6_isHeld i (iN p) (iN d) σ = some (1, σ)) ∨ (¬ heldA B v P (P p) d ∧ f6_isHeld i (iN p) (iN d) σ = some (0, σ)) := by
  have h30 := okB_30 h
  unfold f6_isHeld
  rw [c_isOn hS hp, bI_some, if_pos (show P p < 30 by omega), if_neg (by decide), c_behind hB h hS hp hc hd, bI_some]
  rcases bhd_rg (P := P) h hc hd with e | e
  · rw [e, rv_99, if_pos rfl, hS.2.1, heldA_99 e]
    by_cases e2 : v = 2
    · rw [if_pos (by rw [e2]; rfl)]; exact Or.inl ⟨e2, rfl⟩
    · rw [if_neg (by rw [show (2 : Int32) = iN 2 from rfl, iN_inj (by omega) (by omega)]; exact e2)]; exact Or.inr ⟨e2, rfl⟩
  · have ne : ¬ bhd B P (P p) d = 99 := by omega
    rw [rv_lt (by omega), if_neg (iN_ne_m (by omega) (by decide)), hS.1, dr_some, c_signAt hB h e, bI_some, heldA_in ne]
    by_cases e2 : B.2.2 (bhd B P (P p) d) = 2
    · rw [if_pos e2]; exact Or.inl ⟨e2, rfl⟩
    · rw [if_neg e2]; exact Or.inr ⟨e2, rfl⟩
theorem c_isHeld_off {σ : Sto} {i t v p : Nat} {d : Int32} {P : Nat → Nat} (hS : CS σ i t v P) (hp : p < 5) (hc : ¬ P p < 30) : f6_isHeld i (iN p) d σ = some (0, σ) := by
  unfold f6_isHeld
  rw [c_isOn hS hp, bI_some, if_neg hc, if_pos rfl]
theorem up_eq (P : Nat → Nat) (p x : Nat) : up P p x p = x := if_pos rfl
theorem up_ne {P : Nat → Nat} {p x a : Nat} (h : ¬ a = p) : up P p x a = P a := if_neg h
/-- a pea on the plate goes to another square: the sets stay -/
theorem bits_up {P : Nat → Nat} {p x y : Nat} (h1 : ¬ P p = y) (h2 : ¬ x = y) : bits (up P p x) y = bits P y := by
  have e : ∀ a, (up P p x a = y) = (P a = y) := fun a => by
    by_cases ha : a = p
    · rw [ha, up_eq]; simp [h1, h2]
    · rw [up_ne ha]
  unfold bits
  simp only [e]
theorem bits_in {P : Nat → Nat} {p y : Nat} (hp : p < 5) (h1 : ¬ P p = y) : bits (up P p y) y = bits P y ||| (1 <<< (iN p &&& 31)) := by
  have z : ∀ a, ¬ a = p → (up P p y a = y) = (P a = y) := fun a ha => by rw [up_ne ha]
  unfold bits
  match p, hp with
  | 0, _ =>
    simp only [z 1 (by decide), z 2 (by decide), z 3 (by decide), z 4 (by decide), up_eq, if_neg h1, if_true]
    generalize (if P 1 = y then (2 : Int32) else 0) = b1; generalize (if P 2 = y then (4 : Int32) else 0) = b2; generalize (if P 3 = y then (8 : Int32) else 0) = b3; generalize (if P 4 = y then (16 : Int32) else 0) = b4
    rw [show (1 : Int32) <<< (iN 0 &&& 31) = 1 by decide]
    simp only [Int32.or_assoc, Int32.or_comm 1, Int32.zero_or]
  | 1, _ =>
    simp only [z 0 (by decide), z 2 (by decide), z 3 (by decide), z 4 (by decide), up_eq, if_neg h1, if_true]
    generalize (if P 0 = y then (1 : Int32) else 0) = b1; generalize (if P 2 = y then (4 : Int32) else 0) = b2; generalize (if P 3 = y then (8 : Int32) else 0) = b3; generalize (if P 4 = y then (16 : Int32) else 0) = b4
    rw [show (1 : Int32) <<< (iN 1 &&& 31) = 2 by decide]
    simp only [Int32.or_assoc, Int32.or_comm 2, Int32.zero_or]
  | 2, _ =>
    simp only [z 0 (by decide), z 1 (by decide), z 3 (by decide), z 4 (by decide), up_eq, if_neg h1, if_true]
    generalize (if P 0 = y then (1 : Int32) else 0) = b1; generalize (if P 1 = y then (2 : Int32) else 0) = b2; generalize (if P 3 = y then (8 : Int32) else 0) = b3; generalize (if P 4 = y then (16 : Int32) else 0) = b4
    rw [show (1 : Int32) <<< (iN 2 &&& 31) = 4 by decide]
    simp only [Int32.or_assoc, Int32.or_comm 4, Int32.zero_or]
  | 3, _ =>
    simp only [z 0 (by decide), z 1 (by decide), z 2 (by decide), z 4 (by decide), up_eq, if_neg h1, if_true]
    generalize (if P 0 = y then (1 : Int32) else 0) = b1; generalize (if P 1 = y then (2 : Int32) else 0) = b2; generalize (if P 2 = y then (4 : Int32) else 0) = b3; generalize (if P 4 = y then (16 : Int32) else 0) = b4
    rw [show (1 : Int32) <<< (iN 3 &&& 31) = 8 by decide]
    simp only [Int32.or_assoc, Int32.or_comm 8, Int32.zero_or]
  | 4, _ =>
    simp only [z 0 (by decide), z 1 (by decide), z 2 (by decide), z 3 (by decide), up_eq, if_neg h1, if_true]
    generalize (if P 0 = y then (1 : Int32) else 0) = b1; generalize (if P 1 = y then (2 : Int32) else 0) = b2; generalize (if P 2 = y then (4 : Int32) else 0) = b3; generalize (if P 3 = y then (8 : Int32) else 0) = b4
    rw [show (1 : Int32) <<< (iN 4 &&& 31) = 16 by decide]
    simp only [Int32.or_assoc, Int32.or_zero]
theorem CS.put {σ : Sto} {i t v p c : Nat} {P : Nat → Nat} (hS : CS σ i t v P) (hp : p < 5) (h1 : P p < 30) (hc : c < 30) : CS (sI σ 16 i p (iN c)) i t v (up P p c) ∧ FS i σ (sI σ 16 i p (iN c)) := by
  obtain ⟨a1, a2, a3, a4, a5⟩ := hS
  refine ⟨⟨a1, ?_, fun q hq => ?_, ?_, ?_⟩, ⟨rfl, fun _ _ _ _ => rfl⟩, fun k a b hk => ?_⟩
  · rw [gI_sI, if_neg (by omega)]; exact a2
  · rw [gI_sI]
    by_cases e : q = p
    · rw [if_pos ⟨rfl, rfl, e⟩, e, up_eq, spI_lt hc]
    · rw [if_neg (fun x => e x.2.2), up_ne e]; exact a3 q hq
  · rw [gI_sI, if_neg (by omega), bits_up (by omega) (by omega)]; exact a4
  · rw [gI_sI, if_neg (by omega), bits_up (by omega) (by omega)]; exact a5
  · rw [gI_sI, if_neg (fun x => hk ⟨x.2.1, Or.inr x.1⟩)]
theorem CS.had {σ : Sto} {i t v p : Nat} {P : Nat → Nat} (hS : CS σ i t v P) (hp : p < 5) (h1 : P p < 30) : CS (sI (sI σ 6 i 1 ((gI σ 6 i 1) ||| (1 <<< (iN p &&& 31)))) 16 i p (-9)) i t v (up P p 100) ∧ FS i σ (sI (sI σ 6 i 1 ((gI σ 6 i 1) ||| (1 <<< (iN p &&& 31)))) 16 i p (-9)) := by
  obtain ⟨a1, a2, a3, a4, a5⟩ := hS
  refine ⟨⟨a1, ?_, fun q hq => ?_, ?_, ?_⟩, ⟨rfl, fun _ _ _ _ => rfl⟩, fun k a b hk => ?_⟩
  · rw [gI_sI, if_neg (by omega), gI_sI, if_neg (by omega)]; exact a2
  · rw [gI_sI]
    by_cases e : q = p
    · rw [if_pos ⟨rfl, rfl, e⟩, e, up_eq, spI_ge (by omega)]
    · rw [if_neg (fun x => e x.2.2), up_ne e, gI_sI, if_neg (by omega)]; exact a3 q hq
  · rw [gI_sI, if_neg (by omega), gI_sI, if_pos ⟨rfl, rfl, rfl⟩, bits_in hp (by omega), a4]
  · rw [gI_sI, if_neg (by omega), gI_sI, if_neg (by omega), bits_up (by omega) (by omega)]; exact a5
  · rw [gI_sI, if_neg (fun x => hk ⟨x.2.1, Or.inr x.1⟩), gI_sI, if_neg (fun x => hk ⟨x.2.1, Or.inl x.1⟩)]
theorem CS.off {σ : Sto} {i t v p : Nat} {P : Nat → Nat} (hS : CS σ i t v P) (hp : p < 5) (h1 : P p < 30) : CS (sI (sI σ 6 i 2 ((gI σ 6 i 2) ||| (1 <<< (iN p &&& 31)))) 16 i p (-9)) i t v (up P p 101) ∧ FS i σ (sI (sI σ 6 i 2 ((gI σ 6 i 2) ||| (1 <<< (iN p &&& 31)))) 16 i p (-9)) := by
  obtain ⟨a1, a2, a3, a4, a5⟩ := hS
  refine ⟨⟨a1, ?_, fun q hq => ?_, ?_, ?_⟩, ⟨rfl, fun _ _ _ _ => rfl⟩, fun k a b hk => ?_⟩
  · rw [gI_sI, if_neg (by omega), gI_sI, if_neg (by omega)]; exact a2
  · rw [gI_sI]
    by_cases e : q = p
    · rw [if_pos ⟨rfl, rfl, e⟩, e, up_eq, spI_ge (by omega)]
    · rw [if_neg (fun x => e x.2.2), up_ne e, gI_sI, if_neg (by omega)]; exact a3 q hq
  · rw [gI_sI, if_neg (by omega), gI_sI, if_neg (by omega), bits_up (by omega) (by omega)]; exact a4
  · rw [gI_sI, if_neg (by omega), gI_sI, if_pos ⟨rfl, rfl, rfl⟩, bits_in hp (by omega), a5]
  · rw [gI_sI, if_neg (fun x => hk ⟨x.2.1, Or.inr x.1⟩), gI_sI, if_neg (fun x => hk ⟨x.2.1, Or.inl x.1⟩)]
theorem turn_d {d : Nat} (hd : d < 4) : (iN d + 2) - (iN d + 2) / 4 * 4 = iN ((d + 2) % 4) := by
  match d, hd with
  | 0, _ => decide
  | 1, _ => decide
  | 2, _ => decide
  | 3, _ => decide
theorem iN_pred (f : Nat) : iN (f + 1) + (-1) = iN f := by
  rw [← iN_add1, Int32.add_assoc, show (1 : Int32) + -1 = 0 by decide, Int32.add_zero]
theorem c_roll {t i v : Nat} {B : Bd} (h : okB B) (hv : v < 3) : ∀ (f n p d : Nat) (σ : Sto) (P : Nat → Nat), f < n → f < 100 → p < 5 → d < 4 → P p < B.1 * B.2.1 → CB σ t B → CS σ i t v P → ∃ σ', l6_roll_9 i n (iN p) (iN d) (iN f) σ = some σ' ∧ CS σ' i t v (rollA B v f p d P) ∧ FS i σ σ'
  | 0, n + 1, p, d, σ, P, _, _, _, _, _, _, hS => by
    refine ⟨σ, ?_, hS, FS.rfl⟩
    show (if iN 0 ≤ 0 then _ else _) = _
    rw [if_pos (by decide)]
  | f + 1, n + 1, p, d, σ, P, hn, hf, hp, hd, hc, hB, hS => by
    have h30 := okB_30 h
    show ∃ σ', (if iN (f + 1) ≤ 0 then _ else _) = some σ' ∧ _
    rw [if_neg (by rw [show (0 : Int32) = iN 0 from rfl, iN_le (by omega) (by omega)]; omega), if_pos ((iN_Ix (by omega)).mpr hp), hS.1, dr_some, show gI σ 16 i (iN p).toNatClampNeg = iN (P p) from by rw [iN_nat (by omega), hS.2.2.1 p hp, spI_lt (by omega)], c_next hB h hc hd, bI_some, turn_d hd, iN_pred, hS.1, dr_some]
    unfold rollA
    rcases nx_rg h hc hd with e | e
    · rw [e, rv_99, if_pos rfl, if_pos rfl, hS.2.1]
      by_cases e0 : v = 0
      · rw [if_pos (by rw [e0]; rfl), if_pos e0]
        exact c_roll h hv f n p _ σ P (by omega) (by omega) hp (Nat.mod_lt _ (by decide)) hc hB hS
      · rw [if_neg (by rw [show (0 : Int32) = iN 0 from rfl, iN_inj (by omega) (by omega)]; exact e0), if_neg e0]
        unfold f6_comeToRim
        rw [hS.2.1]
        by_cases e1 : v = 1
        · obtain ⟨k1, k2⟩ := hS.off hp (by omega)
          rw [if_pos (by rw [e1]; rfl), if_pos e1, if_pos ((iN_Ix (by omega)).mpr hp), iN_nat (by omega)]
          exact ⟨_, rfl, k1, k2⟩
        · rw [if_neg (by rw [show (1 : Int32) = iN 1 from rfl, iN_inj (by omega) (by omega)]; exact e1), if_neg e1]
          exact ⟨σ, rfl, hS, FS.rfl⟩
    · generalize hs : nx B.1 B.2.1 (P p) d = s at e ⊢
      have ne : ¬ s = 99 := by omega
      rw [if_neg ne, rv_lt (by omega), if_neg (iN_ne_m (by omega) (by decide)), c_signAt hB h e, bI_some]
      by_cases e2 : B.2.2 s = 2
      · rw [if_pos e2, if_pos e2]; exact ⟨σ, rfl, hS, FS.rfl⟩
      rw [if_neg e2, if_neg e2, c_peaOn hS (by omega), bI_some]
      rcases pon_le P s with e3 | ⟨e3, e4⟩
      · obtain ⟨k1, k2⟩ := hS.put hp (c := s) (by omega) (by omega)
        have kB := hB.fs k2
        rw [e3, if_pos rfl, poI_9, if_pos rfl, if_pos ((iN_Ix (by omega)).mpr hp)]
        show ∃ σ', (dr 2 (gR σ 6 i 0) _) = some σ' ∧ _
        rw [hS.1, dr_some, iN_nat (by omega), c_signAt kB h e, bI_some]
        by_cases e5 : B.2.2 s = 1
        · rw [if_pos e5, if_pos e5]; exact ⟨_, rfl, k1, k2⟩
        · rw [if_neg e5, if_neg e5]
          obtain ⟨σ', g1, g2, g3⟩ := c_roll h hv f n p d _ (up P p s) (by omega) (by omega) hp hd (by rw [up_eq]; exact e) kB k1
          exact ⟨σ', g1, g2, k2.trans g3⟩
      · rw [if_neg (show ¬ pon P s = 9 by omega), poI_ne e3, if_neg (iN_ne_m (by omega) (by decide)), c_peaOn hS (by omega), bI_some, poI_ne e3]
        exact c_roll h hv f n (pon P s) d σ P (by omega) (by omega) e3 hd (by rw [e4]; exact e) hB hS
/-- how strongly an eater pushes -/
def EF (σ : Sto) (t e f : Nat) : Prop := ∃ ix, (gR σ 13 t e = some (0, ix) ∧ gI σ 0 ix 1 = iN f) ∨ (gR σ 13 t e = some (1, ix) ∧ gI σ 1 ix 1 + 1 = iN f) ∨ (gR σ 13 t e = some (5, ix) ∧ 2 * (gI σ 5 ix 1 + 1) = iN f)
theorem c_eaterAt {σ : Sto} {t e m : Nat} (hm : gI σ 2 t 3 = iN m) (hm2 : m ≤ 2) (he : e < m) : f2_eaterAt t (iN e) σ = some (gR σ 13 t e, σ) := by
  unfold f2_eaterAt
  rw [hm, isBelow_in σ (by omega) he, bI_some, if_neg (by decide), if_pos ((iN_Ix (by omega)).mpr (by omega)), iN_nat (by omega)]
theorem c_eaterAt_out {σ : Sto} {t m : Nat} {x : Int32} (hm : gI σ 2 t 3 = iN m) (h : x < 0 ∨ iN m ≤ x) : f2_eaterAt t x σ = some (none, σ) := by
  unfold f2_eaterAt
  rw [hm, isBelow_out σ h, bI_some, if_pos rfl]
theorem code_chk : (List.range 200).all (fun c => iN c / 100 == iN (c / 100) && (iN c / 10 - iN c / 10 / 10 * 10 == iN (c / 10 % 10)) && (iN c - iN c / 10 * 10 == iN (c % 10))) = true := by decide +kernel
theorem code_at {c : Nat} (hc : c < 200) : iN c / 100 = iN (c / 100) ∧ iN c / 10 - iN c / 10 / 10 * 10 = iN (c / 10 % 10) ∧ iN c - iN c / 10 * 10 = iN (c % 10) := by
  have := List.all_eq_true.mp code_chk c (List.mem_range.mpr hc)
  simp only [Bool.and_eq_true, beq_iff_eq] at this
  exact ⟨this.1.1, this.1.2, this.2⟩
/-- a code of a push that there is, of n peas and m eaters -/
def okC (n m c : Nat) : Prop := c / 100 < m ∧ c / 10 % 10 < n ∧ c % 10 < 4
theorem okC_lt {n m c : Nat} (hm : m ≤ 2) (h : okC n m c) : c < 200 := by
  have := h.1
  omega
theorem c_push {t i v n m c : Nat} {B : Bd} {F : Nat → Nat} {σ : Sto} {P : Nat → Nat} (h : okB B) (hv : v < 3) (hm : gI σ 2 t 3 = iN m) (hm2 : m ≤ 2) (hn : n ≤ 5) (hE : ∀ e, e < m → EF σ t e (F e)) (hF : ∀ e, F e < 100) (hc : okC n m c) (hP : okP B n P) (hB : CB σ t B) (hS : CS σ i t v P) : ∃ σ', f6_pushByCode i (iN c) σ = some σ' ∧ CS σ' i t v (pushA B v F P c) ∧ FS i σ σ' := by
  have h30 := okB_30 h
  have c200 := okC_lt hm2 hc
  obtain ⟨k1, k2, k3⟩ := code_at c200
  have hp5 : c / 10 % 10 < 5 := by have := hc.2.1; omega
  unfold f6_pushByCode pushA
  rw [hS.1, dr_some, k1, c_eaterAt hm hm2 hc.1, bI_some]
  unfold f8_peaOf
  rw [bI_some, k2, k3]
  rcases hP.1 _ hc.2.1 with ⟨hsq, -⟩ | hoff
  · have on : P (c / 10 % 10) < 30 := by omega
    rw [if_pos on]
    have R := c_roll (t := t) (i := i) h hv (F (c / 100)) 300 (c / 10 % 10) (c % 10) σ P (by have := hF (c / 100); omega) (hF _) hp5 hc.2.2 hsq hB hS
    obtain ⟨ix, e | e | e⟩ := hE _ hc.1
    all_goals
      rw [e.1, rcs_some, c_isOn hS hp5, bI_some, if_pos on, if_neg (by decide)]
      rcases c_isHeld hB h hS hv hp5 hsq hc.2.2 with ⟨g1, g2⟩ | ⟨g1, g2⟩
      · obtain ⟨q1, q2⟩ := hS.had hp5 on
        rw [g2, bI_some, if_neg (by decide), if_pos ((iN_Ix (by omega)).mpr hp5), if_pos g1, iN_nat (by omega)]
        exact ⟨_, rfl, q1, q2⟩
      · rw [g2, bI_some, if_pos rfl, if_neg g1]
        obtain ⟨σ', r1, r2, r3⟩ := R
        refine ⟨σ', ?_, r2, r3⟩
        simp only [fk, f0_pushForce_0, f1_pushForce_1, f5_pushForce_5, f1_pushForce_5, bI_some, e.2, f6_roll, r1, bV_some, if_true, if_false, reduceCtorEq, Nat.reduceEqDiff]
        try rfl
  · have on : ¬ P (c / 10 % 10) < 30 := by omega
    rw [if_neg on]
    obtain ⟨ix, e | e | e⟩ := hE _ hc.1
    all_goals
      rw [e.1, rcs_some, c_isOn hS hp5, bI_some, if_neg on, if_pos rfl]
      exact ⟨σ, rfl, hS, FS.rfl⟩
theorem EF.fs {σ σ' : Sto} {i t e f : Nat} (h : FS i σ σ') (hE : EF σ t e f) : EF σ' t e f := by
  obtain ⟨ix, g⟩ := hE
  refine ⟨ix, ?_⟩
  rw [h.1.2 13 _ _ (by omega), h.2 0 _ _ (by omega), h.2 1 _ _ (by omega), h.2 5 _ _ (by omega)]
  exact g
