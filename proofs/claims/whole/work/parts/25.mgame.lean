/-! the reference plays it -/
def atI (x : Nat) : Int32 := if x < 30 then iN x else if x = 100 then -1 else -2
def MB (σ : Sto) (B : Bd) : Prop := gI σ 9 0 0 = iN B.2.1 ∧ gI σ 9 0 1 = iN (B.1 * B.2.1) ∧ ∀ c, c < B.1 * B.2.1 → gI σ 24 0 c = B.2.2 c
def MS (σ : Sto) (n v : Nat) (P : Nat → Nat) : Prop := gI σ 9 0 3 = iN n ∧ gI σ 9 0 8 = iN v ∧ ∀ p, p < n → gI σ 39 0 p = atI (P p)
def FM (σ σ' : Sto) : Prop := σ'.2 = σ.2 ∧ ∀ k a b, ¬ k = 39 → gI σ' k a b = gI σ k a b
theorem FM.rfl {σ : Sto} : FM σ σ := ⟨Eq.refl _, fun _ _ _ _ => Eq.refl _⟩
theorem FM.trans {σ σ1 σ2 : Sto} (h1 : FM σ σ1) (h2 : FM σ1 σ2) : FM σ σ2 := ⟨h2.1.trans h1.1, fun k a b h => (h2.2 k a b h).trans (h1.2 k a b h)⟩
theorem MB.fm {σ σ' : Sto} {B : Bd} (h : FM σ σ') (hB : MB σ B) : MB σ' B := by
  obtain ⟨h1, h2, h3⟩ := hB
  refine ⟨?_, ?_, fun c hc => ?_⟩
  · rw [h.2 _ _ _ (by omega)]; exact h1
  · rw [h.2 _ _ _ (by omega)]; exact h2
  · rw [h.2 _ _ _ (by omega)]; exact h3 c hc
theorem atI_lt {x : Nat} (h : x < 30) : atI x = iN x := if_pos h
theorem atI_neg {x : Nat} (h : ¬ x < 30) : atI x < 0 := by
  unfold atI
  rw [if_neg h]
  split <;> decide
theorem atI_eq {x c : Nat} (hc : c < 30) : atI x = iN c ↔ x = c := by
  by_cases h : x < 30
  · rw [atI_lt h, iN_inj (by omega) (by omega)]
  · constructor
    · intro e; exact absurd (e ▸ atI_neg h) (iN_neg (by omega))
    · intro e; omega
def ponF (P : Nat → Nat) (c : Nat) : Nat → Nat → Nat
  | 0, _ => 9
  | f + 1, j => if P j = c then j else ponF P c f (j + 1)
theorem pon_F (P : Nat → Nat) (c : Nat) : pon P c = ponF P c 5 0 := rfl
theorem ponF_9 {P : Nat → Nat} {c : Nat} (hc : c < 30) : ∀ (f j : Nat), (∀ p, j ≤ p → P p = 102) → ponF P c f j = 9
  | 0, _, _ => rfl
  | f + 1, j, h => by
    unfold ponF
    rw [if_neg (by rw [h j (Nat.le_refl _)]; omega)]
    exact ponF_9 hc f (j + 1) (fun p hp => h p (by omega))
def paI (x : Nat) : Int32 := if x = 9 then -1 else iN x
theorem paI_9 : paI 9 = -1 := rfl
theorem paI_ne {x : Nat} (h : x < 5) : paI x = iN x := by unfold paI; rw [if_neg (by omega)]
theorem m_peaL {σ : Sto} {n v c : Nat} {P : Nat → Nat} {B : Bd} (hn : n ≤ 5) (hP : okP B n P) (hS : MS σ n v P) (hc : c < 30) : ∀ (f j k : Nat), j + f = 5 → j ≤ n → f < k → l9_peaAt_2 (iN c) k (iN j) σ = some (paI (ponF P c f j), σ)
  | f, j, 0, _, _, hk => by omega
  | f, j, k + 1, hf, hj, hk => by
    show (if gI σ 9 0 3 ≤ iN j then _ else _) = _
    rw [hS.1]
    by_cases e : n ≤ j
    · have ej : j = n := by omega
      rw [if_pos ((iN_le (by omega) (by omega)).mpr e), ponF_9 hc f j (fun p hp => hP.2 p (by omega)), paI_9]
    · rw [if_neg (by rw [iN_le (by omega) (by omega)]; exact e), if_pos ((iN_Ix (by omega)).mpr (by omega)), iN_nat (by omega), hS.2.2 j (by omega), iN_add1]
      obtain ⟨f', rfl⟩ : ∃ f', f = f' + 1 := ⟨f - 1, by omega⟩
      unfold ponF
      by_cases e2 : P j = c
      · rw [if_pos e2, if_pos ((atI_eq hc).mpr e2), paI_ne (by omega)]
      · rw [if_neg e2, if_neg (mt (atI_eq hc).mp e2)]
        exact m_peaL hn hP hS hc f' (j + 1) k (by omega) (by omega) (by omega)
theorem m_peaAt {σ : Sto} {n v c : Nat} {P : Nat → Nat} {B : Bd} (hn : n ≤ 5) (hP : okP B n P) (hS : MS σ n v P) (hc : c < 30) : f9_peaAt (iN c) σ = some (paI (pon P c), σ) := m_peaL hn hP hS hc 5 0 300 rfl (Nat.zero_le _) (by decide)
/-- a square with a pea: the pea is one of the n, and it isn't mash -/
theorem okP_on {B : Bd} {n c : Nat} {P : Nat → Nat} (hP : okP B n P) (h30 : c < 30) (h : ¬ pon P c = 9) : pon P c < n ∧ P (pon P c) = c ∧ ¬ B.2.2 c = 2 := by
  rcases pon_le P c with e | ⟨e1, e2⟩
  · exact absurd e h
  · have hlt : pon P c < n := by
      by_cases hn : pon P c < n
      · exact hn
      · have := hP.2 _ (Nat.le_of_not_lt hn); omega
    rcases hP.1 _ hlt with ⟨-, g⟩ | g | g
    · rw [e2] at g; exact ⟨hlt, e2, g⟩
    · omega
    · omega
def hres (B : Bd) (v r : Nat) : Bool := if r = 99 then Nat.beq v 2 else decide (B.2.2 r = 2)
def b2i (b : Bool) : Int32 := if b = true then 1 else 0
theorem m_heldL {σ : Sto} {n v d : Nat} {P : Nat → Nat} {B : Bd} (h : okB B) (hv : v < 3) (hn : n ≤ 5) (hP : okP B n P) (hB : MB σ B) (hS : MS σ n v P) (hd : d < 4) : ∀ (f k p s : Nat), f < k → p < n → P p < B.1 * B.2.1 → nx B.1 B.2.1 (P p) d = s → nxs B.1 B.2.1 d f s = 99 → l9_isHeld_2 (fun v25 s26 => (if (gI s26 9 0 8) = 2 then (some (1, s26)) else (some (0, s26)))) (iN d) (k + 1) (iN p) σ = some (b2i (hres B v (bl B P d f s)), σ) := by
  intro f
  have h30 := okB_30 h
  induction f with
  | zero =>
    intro k p s hk hp hc hs hx
    have hx : s = 99 := hx
    subst hx
    show (if iN p < 0 then _ else _) = _
    rw [if_neg (iN_neg (by omega)), if_pos ((iN_Ix (by omega)).mpr (by omega)), iN_nat (by omega), hS.2.2 p hp, atI_lt (by omega), next_nx h hc hd hB.1 hB.2.1, bI_some, hs, rv_99, if_neg (by decide)]
    show (if gI σ 9 0 8 = 2 then some (1, σ) else some (0, σ)) = _
    rw [show hres B v (bl B P d 0 99) = Nat.beq v 2 from rfl, hS.2.1]
    by_cases e : v = 2
    · subst e; rfl
    · rw [if_neg (by rw [show (2 : Int32) = iN 2 from rfl, iN_inj (by omega) (by omega)]; exact e), show Nat.beq v 2 = false from by
        cases hb : Nat.beq v 2 with
        | false => rfl
        | true => exact absurd (Nat.eq_of_beq_eq_true hb) e]
      rfl
  | succ f ih =>
    intro k p s hk hp hc hs hx
    by_cases e99 : s = 99
    · have := ih k p s (by omega) hp hc hs (by subst e99; cases f <;> rfl)
      rw [this]
      subst e99
      cases f <;> rfl
    have es : s < B.1 * B.2.1 := by
      rcases nx_rg h hc hd with q | q
      · omega
      · omega
    show (if iN p < 0 then _ else _) = _
    rw [if_neg (iN_neg (by omega)), if_pos ((iN_Ix (by omega)).mpr (by omega)), iN_nat (by omega), hS.2.2 p hp, atI_lt (by omega), next_nx h hc hd hB.1 hB.2.1, bI_some, hs, rv_lt (by omega), if_pos (by rw [show (0 : Int32) = iN 0 from rfl, iN_le (by omega) (by omega)]; omega), if_pos ((iN_Ix (by omega)).mpr (by omega)), iN_nat (by omega), hB.2.2 s es]
    unfold bl
    rw [if_neg e99]
    by_cases ep : pon P s = 9
    · rw [if_pos ep]
      by_cases e2 : B.2.2 s = 2
      · rw [if_pos e2]
        unfold hres
        rw [if_neg e99, decide_eq_true e2]; rfl
      · rw [if_neg e2, m_peaAt hn hP hS (by omega), bI_some, ep, paI_9]
        unfold hres
        rw [if_neg e99, decide_eq_false e2]
        obtain ⟨k', rfl⟩ : ∃ k', k = k' + 1 := ⟨k - 1, by omega⟩
        show (if (-1 : Int32) < 0 then _ else _) = _
        rw [if_pos (by decide)]; rfl
    · obtain ⟨q1, q2, q3⟩ := okP_on hP (by omega) ep
      rw [if_neg ep, if_neg q3, m_peaAt hn hP hS (by omega), bI_some, paI_ne (by omega)]
      obtain ⟨k', rfl⟩ : ∃ k', k = k' + 1 := ⟨k - 1, by omega⟩
      refine ih k' (pon P s) _ (by omega) q1 (by rw [q2]; exact es) (by rw [q2]) ?_
      have hx' : (if s = 99 then 99 else nxs B.1 B.2.1 d f (nx B.1 B.2.1 s d)) = 99 := hx
      rw [if_neg e99] at hx'
      exact hx'
theorem m_isHeld {σ : Sto} {n v p d : Nat} {P : Nat → Nat} {B : Bd} (h : okB B) (hv : v < 3) (hn : n ≤ 5) (hP : okP B n P) (hB : MB σ B) (hS : MS σ n v P) (hd : d < 4) (hp : p < n) (hc : P p < B.1 * B.2.1) : f9_isHeld (iN p) (iN d) σ = some (b2i (heldB B v P (P p) d), σ) := by
  have h30 := okB_30 h
  unfold f9_isHeld
  have hx : nxs B.1 B.2.1 d 5 (nx B.1 B.2.1 (P p) d) = 99 := by
    have := List.all_eq_true.mp (hwc_at nxs_chk h.1.2 h.2.1.2 h.1.1 h.2.1.1 hc) d (List.mem_range.mpr hd)
    have := Nat.eq_of_beq_eq_true this
    have e : (if P p = 99 then 99 else nxs B.1 B.2.1 d 5 (nx B.1 B.2.1 (P p) d)) = 99 := this
    rw [if_neg (by omega)] at e
    exact e
  exact m_heldL h hv hn hP hB hS hd 5 299 p _ (by decide) hp hc rfl hx
theorem MS.put {σ : Sto} {n v p x : Nat} {P : Nat → Nat} {y : Int32} (hS : MS σ n v P) (hy : y = atI x) : MS (sI σ 39 0 p y) n v (up P p x) ∧ FM σ (sI σ 39 0 p y) := by
  obtain ⟨a1, a2, a3⟩ := hS
  refine ⟨⟨?_, ?_, fun q hq => ?_⟩, rfl, fun k a b hk => ?_⟩
  · rw [gI_sI, if_neg (by omega)]; exact a1
  · rw [gI_sI, if_neg (by omega)]; exact a2
  · rw [gI_sI]
    by_cases e : q = p
    · rw [if_pos ⟨rfl, rfl, e⟩, e, up_eq, hy]
    · rw [if_neg (fun x => e x.2.2), up_ne e]; exact a3 q hq
  · rw [gI_sI, if_neg (fun x => hk x.1)]
theorem okP_up {B : Bd} {n p x : Nat} {P : Nat → Nat} (hP : okP B n P) (hp : p < n) (hx : (x < B.1 * B.2.1 ∧ ¬ B.2.2 x = 2) ∨ x = 100 ∨ x = 101) : okP B n (up P p x) := by
  refine ⟨fun q hq => ?_, fun q hq => ?_⟩
  · by_cases e : q = p
    · rw [e, up_eq]; exact hx
    · rw [up_ne e]; exact hP.1 q hq
  · rw [up_ne (by omega)]; exact hP.2 q hq
theorem up_self (P : Nat → Nat) (p : Nat) : up P p (P p) = P := by
  funext a
  unfold up
  split
  · subst_vars; rfl
  · rfl
theorem roll_0 {n p d : Nat} {σ : Sto} : l9_roll_9 (n + 1) (iN p) 0 (iN d) σ = some σ := by
  show (if (0 : Int32) ≤ 0 then _ else _) = _
  rw [if_pos (by decide)]
theorem iN_pred' (f : Nat) : iN (f + 1) - 1 = iN f := iN_sub (a := f + 1) (b := 1) (by omega)
theorem m_roll {v n : Nat} {B : Bd} (h : okB B) (hv : v < 3) (hn : n ≤ 5) : ∀ (f k p d : Nat) (σ : Sto) (P : Nat → Nat), f + 1 < k → f < 100 → p < n → d < 4 → P p < B.1 * B.2.1 → okP B n P → MB σ B → MS σ n v P → (∃ σ', l9_roll_9 k (iN p) (iN f) (iN d) σ = some σ' ∧ MS σ' n v (rollA B v f p d P) ∧ FM σ σ') ∧ okP B n (rollA B v f p d P)
  | 0, k + 1, p, d, σ, P, _, _, _, _, _, hP, _, hS => by
    refine ⟨⟨σ, ?_, hS, FM.rfl⟩, hP⟩
    exact roll_0
  | f + 1, k + 1, p, d, σ, P, hk, hf, hp, hd, hc, hP, hB, hS => by
    have h30 := okB_30 h
    obtain ⟨k', rfl⟩ : ∃ k', k = k' + 1 := ⟨k - 1, by omega⟩
    show (∃ σ', (if iN (f + 1) ≤ 0 then _ else _) = some σ' ∧ _) ∧ _
    rw [if_neg (by rw [show (0 : Int32) = iN 0 from rfl, iN_le (by omega) (by omega)]; omega), if_pos ((iN_Ix (by omega)).mpr (by omega)), show gI σ 39 0 (iN p).toNatClampNeg = iN (P p) from by rw [iN_nat (by omega), hS.2.2 p hp, atI_lt (by omega)], next_nx h hc hd hB.1 hB.2.1, bI_some]
    unfold rollA
    rcases nx_rg h hc hd with e | e
    · rw [e, rv_99, if_neg (by decide), if_pos rfl, hS.2.1]
      by_cases e0 : v = 0
      · rw [if_pos (by rw [e0]; rfl), if_pos e0, turn_d hd, iN_pred]
        exact m_roll h hv hn f _ p _ σ P (by omega) (by omega) hp (Nat.mod_lt _ (by decide)) hc hP hB hS
      · rw [if_neg (by rw [show (0 : Int32) = iN 0 from rfl, iN_inj (by omega) (by omega)]; exact e0), if_neg e0, if_neg (by decide)]
        by_cases e1 : v = 1
        · obtain ⟨k1, k2⟩ := hS.put (p := p) (x := 101) (y := -2) rfl
          rw [if_pos (by rw [e1]; rfl), if_pos e1, if_pos ((iN_Ix (by omega)).mpr (by omega)), iN_nat (by omega)]
          exact ⟨⟨_, roll_0, k1, k2⟩, okP_up hP hp (Or.inr (Or.inr rfl))⟩
        · obtain ⟨k1, k2⟩ := hS.put (p := p) (x := P p) (y := gI σ 39 0 p) (hS.2.2 p hp)
          rw [up_self] at k1
          rw [if_neg (by rw [show (1 : Int32) = iN 1 from rfl, iN_inj (by omega) (by omega)]; exact e1), if_neg e1, if_pos ((iN_Ix (by omega)).mpr (by omega)), if_pos ((iN_Ix (by omega)).mpr (by omega)), iN_nat (by omega)]
          exact ⟨⟨_, roll_0, k1, k2⟩, hP⟩
    · generalize hs : nx B.1 B.2.1 (P p) d = s at e ⊢
      have ne : ¬ s = 99 := by omega
      have pos : 0 ≤ iN s := by rw [show (0 : Int32) = iN 0 from rfl, iN_le (by omega) (by omega)]; omega
      rw [if_neg ne, rv_lt (by omega), if_pos pos, if_pos pos, if_pos ((iN_Ix (by omega)).mpr (by omega)), show gI σ 24 0 (iN s).toNatClampNeg = B.2.2 s from by rw [iN_nat (by omega), hB.2.2 s e]]
      by_cases e2 : B.2.2 s = 2
      · rw [if_pos e2, if_pos e2]; exact ⟨⟨σ, roll_0, hS, FM.rfl⟩, hP⟩
      rw [if_neg e2, if_neg e2, m_peaAt hn hP hS (by omega), bI_some]
      by_cases e3 : pon P s = 9
      · obtain ⟨k1, k2⟩ := hS.put (p := p) (x := s) (y := iN s) (atI_lt (by omega)).symm
        have kB := hB.fm k2
        have kP := okP_up hP hp (x := s) (Or.inl ⟨e, e2⟩)
        rw [e3, if_pos rfl, paI_9, if_pos (by decide), if_pos ((iN_Ix (by omega)).mpr (by omega)), if_pos ((iN_Ix (by omega)).mpr (by omega)), show (iN s).toNatClampNeg = s from iN_nat (by omega), show (iN p).toNatClampNeg = p from iN_nat (by omega), kB.2.2 s e]
        by_cases e5 : B.2.2 s = 1
        · rw [if_pos e5, if_pos e5]; exact ⟨⟨_, roll_0, k1, k2⟩, kP⟩
        · rw [if_neg e5, if_neg e5, iN_pred']
          obtain ⟨⟨σ', g1, g2, g3⟩, g4⟩ := m_roll h hv hn f _ p d _ (up P p s) (show f + 1 < k' + 1 by omega) (by omega) hp hd (by rw [up_eq]; exact e) kP kB k1
          exact ⟨⟨σ', g1, g2, k2.trans g3⟩, g4⟩
      · obtain ⟨q1, q2, q3⟩ := okP_on hP (by omega) e3
        rw [if_neg e3, paI_ne (by omega), if_neg (iN_neg (by omega)), m_peaAt hn hP hS (by omega), bI_some, paI_ne (by omega), iN_pred]
        exact m_roll h hv hn f _ (pon P s) d σ P (by omega) (by omega) q1 hd (by rw [q2]; exact e) hP hB hS
/-- the forces of the reference's eaters -/
def MF (σ : Sto) (m : Nat) (F : Nat → Nat) : Prop := gI σ 9 0 5 = iN m ∧ ∀ e, e < m → (gI σ 26 0 e = 0 ∧ gI σ 27 0 e = iN (F e)) ∨ (gI σ 26 0 e = 1 ∧ gI σ 27 0 e + 1 = iN (F e)) ∨ (gI σ 26 0 e = 2 ∧ 2 * (gI σ 27 0 e + 1) = iN (F e))
theorem m_force {σ : Sto} {m e : Nat} {F : Nat → Nat} (hm2 : m ≤ 2) (h : MF σ m F) (he : e < m) : f9_forceOf (iN e) σ = some (iN (F e), σ) := by
  have ix : Ix (iN e) 2 := (iN_Ix (by omega)).mpr (by omega)
  unfold f9_forceOf
  simp only [if_pos ix, iN_nat (show e < 2147483648 by omega)]
  rcases h.2 e he with ⟨g1, g2⟩ | ⟨g1, g2⟩ | ⟨g1, g2⟩
  · rw [if_pos g1, g2]
  · rw [g1, if_neg (by decide), if_pos rfl, g2]
  · rw [g1, if_neg (by decide), if_neg (by decide), g2]
theorem MF.fm {σ σ' : Sto} {m : Nat} {F : Nat → Nat} (h : FM σ σ') (hF : MF σ m F) : MF σ' m F := by
  refine ⟨by rw [h.2 _ _ _ (by omega)]; exact hF.1, fun e he => ?_⟩
  rw [h.2 26 _ _ (by omega), h.2 27 _ _ (by omega)]
  exact hF.2 e he
theorem m_push {v n m c : Nat} {B : Bd} {F : Nat → Nat} {σ : Sto} {P : Nat → Nat} (h : okB B) (hv : v < 3) (hm2 : m ≤ 2) (hn : n ≤ 5) (hF : MF σ m F) (hF2 : ∀ e, F e < 100) (hc : okC n m c) (hP : okP B n P) (hB : MB σ B) (hS : MS σ n v P) : (∃ σ', f9_doPush (iN c) σ = some σ' ∧ MS σ' n v (pushA B v F P c) ∧ FM σ σ') ∧ okP B n (pushA B v F P c) := by
  have h30 := okB_30 h
  have c200 := okC_lt hm2 hc
  obtain ⟨k1, k2, k3⟩ := code_at c200
  have hpn := hc.2.1
  have hp5 : c / 10 % 10 < 5 := by omega
  unfold f9_doPush pushA f9_peaOf f9_eaterOf
  rw [bI_some, k2, k3, if_pos ((iN_Ix (by omega)).mpr hp5), show gI σ 39 0 (iN (c / 10 % 10)).toNatClampNeg = atI (P (c / 10 % 10)) from by rw [iN_nat (by omega), hS.2.2 _ hpn]]
  rcases hP.1 _ hpn with ⟨hsq, -⟩ | hoff
  · have on : P (c / 10 % 10) < 30 := by omega
    rw [if_pos on, atI_lt on, if_neg (iN_neg (by omega)), m_isHeld h hv hn hP hB hS hc.2.2 hpn hsq, bI_some]
    by_cases hb : heldA B v P (P (c / 10 % 10)) (c % 10)
    · obtain ⟨q1, q2⟩ := hS.put (p := c / 10 % 10) (x := 100) (y := -1) rfl
      rw [show b2i (heldB B v P (P (c / 10 % 10)) (c % 10)) = 1 from if_pos hb, if_neg (by decide), if_pos ((iN_Ix (by omega)).mpr hp5), iN_nat (by omega), if_pos hb]
      exact ⟨⟨_, rfl, q1, q2⟩, okP_up hP hpn (Or.inr (Or.inl rfl))⟩
    · obtain ⟨⟨σ', r1, r2, r3⟩, r4⟩ := m_roll h hv hn (F (c / 100)) 300 (c / 10 % 10) (c % 10) σ P (by have := hF2 (c / 100); omega) (hF2 _) hpn hc.2.2 hsq hP hB hS
      rw [show b2i (heldB B v P (P (c / 10 % 10)) (c % 10)) = 0 from if_neg hb, if_pos rfl, bI_some, k1, m_force hm2 hF hc.1, bI_some, if_neg hb]
      unfold f9_roll
      rw [r1, bV_some]
      exact ⟨⟨σ', rfl, r2, r3⟩, r4⟩
  · have on : ¬ P (c / 10 % 10) < 30 := by omega
    rw [if_neg on, if_pos (atI_neg on)]
    exact ⟨⟨σ, rfl, hS, FM.rfl⟩, hP⟩
