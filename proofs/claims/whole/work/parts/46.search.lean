/-! searching: rows of pushes -/
abbrev psA (A : AS) (P : Nat → Nat) (c : Nat) : Nat → Nat := pushA (aB A) (aV A) (aF A) P c
def onB (P : Nat → Nat) (c : Nat) : Bool := decide (P (c / 10 % 10) < 30)
def fhF (h : Nat → Bool) : Option Nat := if h 0 = true then some 0 else if h 1 = true then some 1 else if h 2 = true then some 2 else if h 3 = true then some 3 else none
def tC (A : AS) (p : Nat) (P : Nat → Nat) : Option Nat := (fhF (fun d => heldF (aB A) (aV A) P d p)).map (fun d => 10 * p + d)
def fnd (f : Nat → Bool) : List Nat → Option Nat
  | [] => none
  | c :: l => if f c = true then some c else fnd f l
def tM (A : AS) (p : Nat) (P : Nat → Nat) : Option Nat := fnd (fun c => onB P c && decide (psA A P c p = 100)) (mdF (aN A) (aM A) 200 0)
def fnO {α : Type} (g : Nat → Option α) : List Nat → Option (Nat × α)
  | [] => none
  | a :: l => match g a with
    | some x => some (a, x)
    | none => fnO g l
abbrev cdA (A : AS) : List Nat := mdF (aN A) (aM A) 200 0
def s2 (A : AS) (t : (Nat → Nat) → Option Nat) (P : Nat → Nat) : Option (Nat × Nat) := fnO (fun a => if onB P a = true then t (psA A P a) else none) (cdA A)
def s3 (A : AS) (t : (Nat → Nat) → Option Nat) (P : Nat → Nat) : Option (Nat × Nat × Nat) := fnO (fun a => if onB P a = true then s2 A t (psA A P a) else none) (cdA A)
theorem mdF_ok {n m : Nat} : ∀ (f j c : Nat), c ∈ mdF n m f j → okC n m c ∧ c < j + f
  | 0, j, c, h => absurd h (List.not_mem_nil)
  | f + 1, j, c, h => by
    have h' : c ∈ (if okCb n m j = true then j :: mdF n m f (j + 1) else mdF n m f (j + 1)) := h
    by_cases e : okCb n m j = true
    · rw [if_pos e] at h'
      rcases List.mem_cons.mp h' with q | q
      · rw [q]; exact ⟨okCb_iff.mp e, by omega⟩
      · have := mdF_ok f (j + 1) c q
        exact ⟨this.1, by omega⟩
    · rw [if_neg e] at h'
      have := mdF_ok f (j + 1) c h'
      exact ⟨this.1, by omega⟩
theorem fnd_congr {f g : Nat → Bool} : ∀ l : List Nat, (∀ c, c ∈ l → f c = g c) → fnd f l = fnd g l
  | [], _ => rfl
  | c :: l, h => by
    unfold fnd
    rw [h c (List.mem_cons_self), fnd_congr l (fun c hc => h c (List.mem_cons_of_mem _ hc))]
theorem fnd_none {f : Nat → Bool} : ∀ l : List Nat, fnd f l = none → ∀ c, c ∈ l → ¬ f c = true
  | [], _, c, hc => absurd hc (List.not_mem_nil)
  | x :: l, h, c, hc => by
    unfold fnd at h
    by_cases e : f x = true
    · rw [if_pos e] at h; exact absurd h (by simp)
    · rw [if_neg e] at h
      rcases List.mem_cons.mp hc with q | q
      · rw [q]; exact e
      · exact fnd_none l h c q
theorem fnd_mem {f : Nat → Bool} {c : Nat} : ∀ l : List Nat, fnd f l = some c → c ∈ l
  | [], h => by unfold fnd at h; exact absurd h (by simp)
  | x :: l, h => by
    unfold fnd at h
    by_cases e : f x = true
    · rw [if_pos e] at h
      rw [← Option.some.inj h]; exact List.mem_cons_self
    · rw [if_neg e] at h
      exact List.mem_cons_of_mem _ (fnd_mem l h)
theorem fnO_congr {α : Type} {f g : Nat → Option α} : ∀ l : List Nat, (∀ c, c ∈ l → f c = g c) → fnO f l = fnO g l
  | [], _ => rfl
  | c :: l, h => by
    unfold fnO
    rw [h c (List.mem_cons_self), fnO_congr l (fun c hc => h c (List.mem_cons_of_mem _ hc))]
theorem fnO_none {α : Type} {f : Nat → Option α} : ∀ l : List Nat, fnO f l = none → ∀ c, c ∈ l → f c = none
  | [], _, c, hc => absurd hc (List.not_mem_nil)
  | x :: l, h, c, hc => by
    unfold fnO at h
    cases e : f x with
    | some y => rw [e] at h; exact absurd h (by simp)
    | none =>
      rw [e] at h
      rcases List.mem_cons.mp hc with q | q
      · rw [q]; exact e
      · exact fnO_none l h c q
theorem fnO_nil {α : Type} {f : Nat → Option α} : ∀ l : List Nat, (∀ c, c ∈ l → f c = none) → fnO f l = none
  | [], _ => rfl
  | x :: l, h => by
    unfold fnO
    rw [h x (List.mem_cons_self)]
    exact fnO_nil l (fun c hc => h c (List.mem_cons_of_mem _ hc))
theorem fnO_mem {α : Type} {f : Nat → Option α} {a : Nat} {x : α} : ∀ l : List Nat, fnO f l = some (a, x) → a ∈ l ∧ f a = some x
  | [], h => by unfold fnO at h; exact absurd h (by simp)
  | c :: l, h => by
    unfold fnO at h
    cases e : f c with
    | some y =>
      rw [e] at h
      have h2 := Option.some.inj h
      have e1 : c = a := congrArg Prod.fst h2
      have e2 : y = x := congrArg Prod.snd h2
      rw [← e1, ← e2]
      exact ⟨List.mem_cons_self, e⟩
    | none =>
      rw [e] at h
      have := fnO_mem l h
      exact ⟨List.mem_cons_of_mem _ this.1, this.2⟩
def hb (b0 b1 b2 b3 : Bool) (d : Nat) : Bool := if d = 0 then b0 else if d = 1 then b1 else if d = 2 then b2 else b3
def tf2 : List Bool := [true, false]
theorem tf2_all (b : Bool) : b ∈ tf2 := by cases b <;> decide
set_option maxRecDepth 4000 in
theorem fh_chk : ((List.range 6).all fun n => (List.range 2).all fun m => (List.range n).all fun p => tf2.all fun b0 => tf2.all fun b1 => tf2.all fun b2 => tf2.all fun b3 => fnd (fun c => Nat.beq (c / 10 % 10) p && hb b0 b1 b2 b3 (c % 10)) (csF n (4 * n * (m + 1)) 0) == (fhF (hb b0 b1 b2 b3)).map (fun d => 10 * p + d)) = true := by decide +kernel
theorem fh_tab {n m p : Nat} (hn : n ≤ 5) (hm : 1 ≤ m ∧ m ≤ 2) (hp : p < n) (b0 b1 b2 b3 : Bool) : fnd (fun c => Nat.beq (c / 10 % 10) p && hb b0 b1 b2 b3 (c % 10)) (mdF n m 200 0) = (fhF (hb b0 b1 b2 b3)).map (fun d => 10 * p + d) := by
  have := List.all_eq_true.mp (List.all_eq_true.mp (List.all_eq_true.mp (List.all_eq_true.mp (List.all_eq_true.mp (List.all_eq_true.mp (List.all_eq_true.mp fh_chk n (List.mem_range.mpr (by omega))) (m - 1) (List.mem_range.mpr (by omega))) p (List.mem_range.mpr hp)) b0 (tf2_all _)) b1 (tf2_all _)) b2 (tf2_all _)) b3 (tf2_all _)
  rw [show m - 1 + 1 = m by omega, codes_eq hn hm.2] at this
  exact beq_iff_eq.mp this
/-- where the pea isn't had yet, the reference's last push is the class's -/
theorem tC_tM {A : AS} {p : Nat} {P : Nat → Nat} (hl : laid A) (hp : p < aN A) (hP : okP (aB A) (aN A) P) (h1 : ¬ P p = 100) : tC A p P = tM A p P := by
  unfold tM tC
  rw [fnd_congr (g := fun c => Nat.beq (c / 10 % 10) p && hb (heldF (aB A) (aV A) P 0 p) (heldF (aB A) (aV A) P 1 p) (heldF (aB A) (aV A) P 2 p) (heldF (aB A) (aV A) P 3 p) (c % 10)) (mdF (aN A) (aM A) 200 0) (fun c hc => ?_), fh_tab hl.2.2.1 hl.2.1 hp]
  · rfl
  · have okc := (mdF_ok _ _ _ hc).1
    have hd := okc.2.2
    have eh : hb (heldF (aB A) (aV A) P 0 p) (heldF (aB A) (aV A) P 1 p) (heldF (aB A) (aV A) P 2 p) (heldF (aB A) (aV A) P 3 p) (c % 10) = heldF (aB A) (aV A) P (c % 10) p := by
      rcases (show c % 10 = 0 ∨ c % 10 = 1 ∨ c % 10 = 2 ∨ c % 10 = 3 by omega) with e | e | e | e <;> rw [e] <;> rfl
    rw [eh]
    have pi := push_100 (v := aV A) (x := p) (F := aF A) hl.1 hP okc
    by_cases ep : p = c / 10 % 10
    · rw [show Nat.beq (c / 10 % 10) p = true from by rw [Nat.beq_eq]; exact ep.symm, Bool.true_and]
      by_cases hh : heldF (aB A) (aV A) P (c % 10) p = true
      · have on : P p < 30 := by
          by_cases on : P p < 30
          · exact on
          · rw [heldF_off on] at hh; exact absurd hh (by decide)
        rw [hh, show onB P c = true from decide_eq_true (ep ▸ on), decide_eq_true (pi.mpr (Or.inr ⟨ep, hh⟩))]
        rfl
      · rw [Bool.eq_false_iff.mpr hh, decide_eq_false (fun q => ?_), Bool.and_false]
        rcases pi.mp q with z | z
        · exact h1 z
        · exact hh z.2
    · rw [show Nat.beq (c / 10 % 10) p = false from Bool.eq_false_iff.mpr (fun q => ep (Nat.eq_of_beq_eq_true q).symm), Bool.false_and, decide_eq_false (fun q => ?_), Bool.and_false]
      rcases pi.mp q with z | z
      · exact h1 z
      · exact ep z.1
theorem tM_none {A : AS} {p : Nat} {P : Nat → Nat} (h : tM A p P = none) {c : Nat} (hc : c ∈ cdA A) (on : onB P c = true) : ¬ psA A P c p = 100 := fun e => fnd_none _ h c hc (by rw [on, decide_eq_true e]; rfl)
theorem cd_okP {A : AS} {P : Nat → Nat} {c : Nat} (hl : laid A) (hP : okP (aB A) (aN A) P) (hc : c ∈ cdA A) : okP (aB A) (aN A) (psA A P c) := okP_push hl.1 (mdF_ok _ _ _ hc).1 hP
theorem s2_eq {A : AS} {p : Nat} {P : Nat → Nat} (hl : laid A) (hp : p < aN A) (hP : okP (aB A) (aN A) P) (h : tM A p P = none) : s2 A (tC A p) P = s2 A (tM A p) P := fnO_congr _ (fun c hc => by
  by_cases on : onB P c = true
  · rw [if_pos on, if_pos on]
    exact tC_tM hl hp (cd_okP hl hP hc) (tM_none h hc on)
  · rw [if_neg on, if_neg on])
theorem s3_eq {A : AS} {p : Nat} {P : Nat → Nat} (hl : laid A) (hp : p < aN A) (hP : okP (aB A) (aN A) P) (h : s2 A (tM A p) P = none) : s3 A (tC A p) P = s3 A (tM A p) P := fnO_congr _ (fun c hc => by
  by_cases on : onB P c = true
  · rw [if_pos on, if_pos on]
    have q := fnO_none _ h c hc
    rw [if_pos on] at q
    exact s2_eq hl hp (cd_okP hl hP hc) q
  · rw [if_neg on, if_neg on])
theorem tC_off {A : AS} {p : Nat} {P : Nat → Nat} (h : ¬ P p < 30) : tC A p P = none := by
  have e : ∀ d, heldF (aB A) (aV A) P d p = false := fun d => heldF_off h
  unfold tC fhF
  simp only [e]
  rfl
theorem s2_off {A : AS} {p : Nat} {P : Nat → Nat} (hl : laid A) (hP : okP (aB A) (aN A) P) (h : ¬ P p < 30) : s2 A (tC A p) P = none := fnO_nil _ (fun c hc => by
  by_cases on : onB P c = true
  · rw [if_pos on]
    exact tC_off (by rw [show psA A P c p = P p from push_gone hl.1 hP (mdF_ok _ _ _ hc).1 h]; exact h)
  · rw [if_neg on])
theorem s3_off {A : AS} {p : Nat} {P : Nat → Nat} (hl : laid A) (hP : okP (aB A) (aN A) P) (h : ¬ P p < 30) : s3 A (tC A p) P = none := fnO_nil _ (fun c hc => by
  by_cases on : onB P c = true
  · rw [if_pos on]
    exact s2_off hl (cd_okP hl hP hc) (by rw [show psA A P c p = P p from push_gone hl.1 hP (mdF_ok _ _ _ hc).1 h]; exact h)
  · rw [if_neg on])
/-! the class's search -/
def CF (lev : Nat) (σ σ' : Sto) : Prop := (σ'.2.2 = σ.2.2 ∧ ∀ k a b, ¬ (k = 6 ∧ lev + 3 ≤ a) → gR σ' k a b = gR σ k a b) ∧ ∀ k a b, ¬ ((k = 6 ∨ k = 16) ∧ lev + 3 ≤ a) → ¬ (k = 18 ∧ lev ≤ b) → gI σ' k a b = gI σ k a b
theorem CF.rfl {lev : Nat} {σ : Sto} : CF lev σ σ := ⟨⟨Eq.refl _, fun _ _ _ _ => Eq.refl _⟩, fun _ _ _ _ _ => Eq.refl _⟩
theorem CF.trans {lev : Nat} {a b c : Sto} (h1 : CF lev a b) (h2 : CF lev b c) : CF lev a c := ⟨⟨h2.1.1.trans h1.1.1, fun k i j h => (h2.1.2 k i j h).trans (h1.1.2 k i j h)⟩, fun k i j h h' => (h2.2 k i j h h').trans (h1.2 k i j h h')⟩
theorem CF.up {lev : Nat} {σ σ' : Sto} (h : CF (lev + 1) σ σ') : CF lev σ σ' := ⟨⟨h.1.1, fun k a b hk => h.1.2 k a b (by omega)⟩, fun k a b h1 h2 => h.2 k a b (by omega) (by omega)⟩
theorem FS.cf {lev i : Nat} {σ σ' : Sto} (hi : lev + 3 ≤ i) (h : FS i σ σ') : CF lev σ σ' := ⟨⟨h.1.1, fun k a b hk => h.1.2 k a b (by omega)⟩, fun k a b h1 _ => h.2 k a b (by omega)⟩
theorem CF_18 {lev j : Nat} {σ : Sto} {x : Int32} (hj : lev ≤ j) : CF lev σ (sI σ 18 0 j x) := ⟨⟨rfl, fun _ _ _ _ => rfl⟩, fun k a b _ h => by rw [gI_sI, if_neg (by omega)]⟩
theorem CF.agr {lev : Nat} {σ σ' : Sto} (h : CF lev σ σ') : Agr σ σ' := ⟨fun k a b hk => h.1.2 k a b (by omega), fun k a b h1 h2 h3 => h.2 k a b (by omega) (by omega)⟩
theorem CF.fc {lev : Nat} {σ σ' : Sto} (h : CF lev σ σ') : FC σ σ' := fun k a b hk => h.2 k a b (by omega) (by omega)
theorem CS.cf {lev i t v : Nat} {σ σ' : Sto} {P : Nat → Nat} (hS : CS σ i t v P) (h : CF lev σ σ') (hi : i < lev + 3) : CS σ' i t v P := hS.fr (fun k b hk => h.2 _ _ _ (by omega) (by omega)) (h.1.2 _ _ _ (by omega))
theorem CX.cf {lev t : Nat} {σ σ' : Sto} {A : AS} (hX : CX σ t A) (h : CF lev σ σ') : CX σ' t A := by
  obtain ⟨h1, ⟨b1, b2, b3, b4, b5, b6⟩, ⟨h3, h4⟩, h5, h6, h7, h8⟩ := hX
  refine ⟨?_, ⟨?_, ?_, ?_, fun c hc => ?_, fun j => ?_, fun j => ?_⟩, ⟨?_, ?_⟩, fun p hp => ?_, fun e he => (h6 e he).frame (h.1.2 _ _ _ (by omega)) (fun c a b hc => h.2 _ _ _ (by omega) (by omega)), ?_, fun k hk => ?_⟩
  · rw [h.1.2 _ _ _ (by omega)]; exact h1
  · rw [h.2 _ _ _ (by omega) (by omega)]; exact b1
  · rw [h.2 _ _ _ (by omega) (by omega)]; exact b2
  · rw [h.2 _ _ _ (by omega) (by omega)]; exact b3
  · rw [h.2 _ _ _ (by omega) (by omega)]; exact b4 c hc
  · rw [h.2 _ _ _ (by omega) (by omega)]; exact b5 j
  · rw [h.2 _ _ _ (by omega) (by omega)]; exact b6 j
  · rw [h.2 _ _ _ (by omega) (by omega)]; exact h3
  · rw [h.2 _ _ _ (by omega) (by omega)]; exact h4
  · rw [h.2 _ _ _ (by omega) (by omega)]; exact h5 p hp
  · rw [h.2 _ _ _ (by omega) (by omega)]; exact h7
  · rw [h.2 _ _ _ (by omega) (by omega)]; exact h8 k hk
theorem RCc.cf {lev t : Nat} {σ σ' : Sto} {A : AS} (hc : RCc σ t A) (h : CF lev σ σ') : RCc σ' t A := by
  refine ⟨?_, fun x hx => ?_⟩
  · rw [h.2 _ _ _ (by omega) (by omega)]; exact hc.1
  · rw [h.2 _ _ _ (by omega) (by omega)]; exact hc.2 x hx
theorem iN_toNat {j : Nat} (h : j < 2147483648) : (iN j).toNatClampNeg = j := iN_nat h
theorem c_step {σ : Sto} {t lev c : Nat} {A : AS} {P : Nat → Nat} (hl : laid A) (hlev : lev < 2) (hX : CX σ t A) (okc : okC (aN A) (aM A) c) (hP : okP (aB A) (aN A) P) (hS : CS σ (lev + 2) t (aV A) P) : (onB P c = false ∧ f3_stepsOn (iN lev) (iN c) σ = some (0, σ)) ∨ (onB P c = true ∧ ∃ σ', f3_stepsOn (iN lev) (iN c) σ = some (1, σ') ∧ CS σ' (lev + 3) t (aV A) (psA A P c) ∧ FS (lev + 3) σ σ') := by
  obtain ⟨k1, k2, k3⟩ := code_at (okC_lt hl.2.1.2 okc)
  have hp5 : c / 10 % 10 < 5 := by have := okc.2.1; have := hl.2.2.1; omega
  have ix : Ix (iN lev) 3 := (iN_Ix (by omega)).mpr (by omega)
  have ix1 : Ix (iN (lev + 1)) 3 := (iN_Ix (by omega)).mpr (by omega)
  have e1 : (iN lev).toNatClampNeg + 2 = lev + 2 := by rw [iN_nat (by omega)]
  have e2 : (iN (lev + 1)).toNatClampNeg + 2 = lev + 3 := by rw [iN_nat (by omega)]
  unfold f3_stepsOn f8_peaOf
  rw [show (2 : Int32) = iN 2 from rfl, isBelow_in σ (by decide) hlev, bI_some, if_neg (by decide), if_pos ix, bI_some, k2, e1, c_isOn hS hp5, bI_some, iN_add1]
  by_cases on : P (c / 10 % 10) < 30
  · obtain ⟨s1, g1, g2, g3⟩ := c_copy (i := lev + 3) (i' := lev + 2) (by omega) hS
    obtain ⟨s2, r1, r2, r3⟩ := c_pushX (i := lev + 3) hl hl.2.2.2.2.2.2.2 (hX.fs g3) okc hP g2
    refine Or.inr ⟨decide_eq_true on, s2, ?_, r2, g3.trans r3⟩
    rw [if_pos on, if_neg (by decide), if_pos ix1, if_pos ix, e2, g1, bV_some, if_pos ix1, r1, bV_some]
  · refine Or.inl ⟨decide_eq_false on, ?_⟩
    rw [if_neg on, if_pos rfl]
theorem c_fhS {σ : Sto} {i t v n p j k : Nat} {P : Nat → Nat} {B : Bd} (hB : CB σ t B) (h : okB B) (hS : CS σ i t v P) (hv : v < 3) (hP : okP B n P) (hp : p < 5) (hj : j < 4) : l6_firstHold_2 i (iN p) (k + 1) (iN j) σ = if heldF B v P j p = true then some (iN j, σ) else l6_firstHold_2 i (iN p) k (iN (j + 1)) σ := by
  show (if 4 ≤ iN j then _ else _) = _
  rw [if_neg (by rw [show (4 : Int32) = iN 4 from rfl, iN_le (by omega) (by omega)]; omega), c_isHeldF hB h hS hv hP hp hj, bI_some, b2i_ite, iN_add1]
def fhI : Option Nat → Int32
  | none => -9
  | some d => iN d
theorem c_fh {σ : Sto} {i t v n p : Nat} {P : Nat → Nat} {B : Bd} (hB : CB σ t B) (h : okB B) (hS : CS σ i t v P) (hv : v < 3) (hP : okP B n P) (hp : p < 5) : f6_firstHold i (iN p) σ = some (fhI (fhF (fun d => heldF B v P d p)), σ) := by
  unfold f6_firstHold fhF
  show l6_firstHold_2 i (iN p) (295 + 1 + 1 + 1 + 1 + 1) (iN 0) σ = _
  rw [c_fhS hB h hS hv hP hp (by decide)]
  by_cases e0 : heldF B v P 0 p = true
  · rw [if_pos e0, if_pos e0]; rfl
  rw [if_neg e0, if_neg e0, c_fhS hB h hS hv hP hp (by decide)]
  by_cases e1 : heldF B v P 1 p = true
  · rw [if_pos e1, if_pos e1]; rfl
  rw [if_neg e1, if_neg e1, c_fhS hB h hS hv hP hp (by decide)]
  by_cases e2 : heldF B v P 2 p = true
  · rw [if_pos e2, if_pos e2]; rfl
  rw [if_neg e2, if_neg e2, c_fhS hB h hS hv hP hp (by decide)]
  by_cases e3 : heldF B v P 3 p = true
  · rw [if_pos e3, if_pos e3]; rfl
  rw [if_neg e3, if_neg e3]
  rfl
theorem fhF_lt {h : Nat → Bool} {d : Nat} (e : fhF h = some d) : d < 4 := by
  unfold fhF at e
  split at e
  · have := Option.some.inj e; omega
  split at e
  · have := Option.some.inj e; omega
  split at e
  · have := Option.some.inj e; omega
  split at e
  · have := Option.some.inj e; omega
  · exact absurd e (by simp)
/-- what a search from a level on is to do -/
def Fnds {α : Type} (A : AS) (t lev : Nat) (g : (Nat → Nat) → Option α) (R : Sto → α → Prop) (f : Sto → Option (Int32 × Sto)) : Prop := ∀ (σ : Sto) (P : Nat → Nat), okP (aB A) (aN A) P → CX σ t A → RCc σ t A → CS σ (lev + 2) t (aV A) P → ∃ σ', f σ = some (b2i (g P).isSome, σ') ∧ CF lev σ σ' ∧ ∀ x, g P = some x → R σ' x
theorem c_find0 {A : AS} {t lev p len : Nat} {rc : Int32 → Int32 → Int32 → Sto → Option (Int32 × Sto)} (hl : laid A) (hlev : lev < 3) (hp : p < aN A) (hlen : len = lev + 1) : Fnds A t lev (tC A p) (fun σ c => gI σ 18 0 lev = iN c) (fun σ => g8_findsRow rc (iN p) (iN lev) (iN len) σ) := by
  intro σ P hP hX hc hS
  have hn := hl.2.2.1
  have ix : Ix (iN lev) 3 := (iN_Ix (by omega)).mpr (by omega)
  have e1 : (iN lev).toNatClampNeg + 2 = lev + 2 := by rw [iN_nat (by omega)]
  have el : iN len - 1 = iN lev := by rw [hlen]; exact iN_pred' lev
  have ef := c_fh (p := p) hX.2.1 hl.1 hS hl.2.2.2.2.2.2.2 hP (by omega)
  show ∃ σ', g8_findsRow rc (iN p) (iN lev) (iN len) σ = _ ∧ _
  unfold g8_findsRow f8_codeOf
  rw [show (3 : Int32) = iN 3 from rfl, isBelow_in σ (by decide) hlev, bI_some, if_neg (by decide), if_pos ix, el, if_neg (show ¬ iN lev < iN lev from fun q => Int32.lt_irrefl q), e1, ef, bI_some, bI_some, if_pos ix, iN_nat (by omega)]
  unfold tC
  cases eh : fhF (fun d => heldF (aB A) (aV A) P d p) with
  | none =>
    refine ⟨sI σ 18 0 lev (100 * 0 + 10 * iN p + fhI none), ?_, CF_18 (Nat.le_refl _), fun x hx => absurd hx (by simp)⟩
    rw [if_pos (show fhI none = -9 from rfl)]; rfl
  | some d =>
    have hd := fhF_lt eh
    refine ⟨sI σ 18 0 lev (100 * 0 + 10 * iN p + fhI (some d)), ?_, CF_18 (Nat.le_refl _), fun x hx => ?_⟩
    · rw [if_neg (show ¬ fhI (some d) = -9 from iN_ne_m (by omega) (by decide))]; rfl
    · have hx' : 10 * p + d = x := Option.some.inj hx
      show gI (sI σ 18 0 lev (100 * 0 + 10 * iN p + fhI (some d))) 18 0 lev = iN x
      rw [gI_sI, if_pos ⟨rfl, rfl, rfl⟩, ← hx']
      have := code_iN 0 p d
      rw [show 100 * 0 + 10 * p + d = 10 * p + d by omega] at this
      exact this
theorem c_findL {α : Type} {A : AS} {t lev p len : Nat} {rc : Int32 → Int32 → Int32 → Sto → Option (Int32 × Sto)} {g : (Nat → Nat) → Option α} {R : Sto → α → Prop} (hl : laid A) (hlev : lev < 2) (hrc : Fnds A t (lev + 1) g R (fun σ => rc (iN p) (iN (lev + 1)) (iN len) σ)) : ∀ (f j k : Nat) (σ : Sto) (P : Nat → Nat), j + f = 4 * aN A * aM A → f < k → okP (aB A) (aN A) P → CX σ t A → RCc σ t A → CS σ (lev + 2) t (aV A) P → ∃ σ', l8_findsRow_69 rc (iN p) (iN lev) (iN len) t k (iN j) σ = some (b2i (fnO (fun a => if onB P a = true then g (psA A P a) else none) (csF (aN A) f j)).isSome, σ') ∧ CF lev σ σ' ∧ ∀ a x, fnO (fun a => if onB P a = true then g (psA A P a) else none) (csF (aN A) f j) = some (a, x) → gI σ' 18 0 lev = iN a ∧ R σ' x
  | f, j, 0, _, _, _, hk, _, _, _, _ => by omega
  | 0, j, k + 1, σ, P, hj, hk, hP, hX, hc, hS => by
    have h40 := n40 hl.2.2.1 hl.2.1.2
    refine ⟨σ, ?_, CF.rfl, fun a x h => absurd h (by simp [csF, fnO])⟩
    show (if gI σ 2 t 4 ≤ iN j then _ else _) = _
    rw [hc.1, if_pos ((iN_le (by omega) (by omega)).mpr (by omega))]
    rfl
  | f + 1, j, k + 1, σ, P, hj, hk, hP, hX, hc, hS => by
    have h40 := n40 hl.2.2.1 hl.2.1.2
    have okc := cAt_ok hl.2.2.1 hl.2.1.2 (show j < 4 * aN A * aM A by omega)
    have ix : Ix (iN j) 40 := (iN_Ix (by omega)).mpr (by omega)
    have ixl : Ix (iN lev) 3 := (iN_Ix (by omega)).mpr (by omega)
    have e10 : gI σ 10 t (iN j).toNatClampNeg = iN (cAt (aN A) j) := by rw [iN_nat (by omega), hc.2 j (by omega)]
    show ∃ σ', (if gI σ 2 t 4 ≤ iN j then _ else _) = _ ∧ _
    rw [hc.1, if_neg (by rw [iN_le (by omega) (by omega)]; omega), if_pos ix, e10, iN_add1, iN_add1]
    show ∃ σ', _ = some (b2i (fnO _ (cAt (aN A) j :: csF (aN A) f (j + 1))).isSome, σ') ∧ _ ∧ ∀ a x, fnO _ (cAt (aN A) j :: csF (aN A) f (j + 1)) = some (a, x) → _
    unfold fnO
    rcases c_step hl hlev hX okc hP hS with ⟨on, g1⟩ | ⟨on, s1, g1, g2, g3⟩
    · rw [g1, bI_some, if_pos rfl, on, if_neg (by decide)]
      exact c_findL hl hlev hrc f (j + 1) k σ P (by omega) (by omega) hP hX hc hS
    · have cf1 : CF lev σ (sI s1 18 0 lev (iN (cAt (aN A) j))) := (g3.cf (Nat.le_refl _)).trans (CF_18 (Nat.le_refl _))
      have hS1 : CS (sI s1 18 0 lev (iN (cAt (aN A) j))) (lev + 3) t (aV A) (psA A P (cAt (aN A) j)) := g2.fr (fun k b hk => by rw [gI_sI, if_neg (by omega)]) rfl
      obtain ⟨s2, r1, r2, r3⟩ := hrc _ _ (okP_push hl.1 okc hP) (hX.cf cf1) (hc.cf cf1) hS1
      have r1 : rc (iN p) (iN (lev + 1)) (iN len) (sI s1 18 0 lev (iN (cAt (aN A) j))) = _ := r1
      have cf2 := cf1.trans r2.up
      rw [g1, bI_some, if_neg (by decide), if_pos ixl, iN_nat (show lev < 2147483648 by omega), r1, bI_some, b2i_ite, on, if_pos rfl]
      cases eg : g (psA A P (cAt (aN A) j)) with
      | some y =>
        refine ⟨s2, ?_, cf2, fun a x h => ?_⟩
        · rw [if_pos (show (some y).isSome = true from rfl)]; rfl
        · have h2 := Option.some.inj h
          have e1 : cAt (aN A) j = a := congrArg Prod.fst h2
          have e2 : y = x := congrArg Prod.snd h2
          rw [← e1, ← e2]
          refine ⟨?_, r3 y eg⟩
          rw [r2.2 _ _ _ (by omega) (by omega), gI_sI, if_pos ⟨rfl, rfl, rfl⟩]
      | none =>
        rw [if_neg (show ¬ (none : Option α).isSome = true from fun q => Bool.noConfusion q)]
        obtain ⟨s3, z1, z2, z3⟩ := c_findL hl hlev hrc f (j + 1) k s2 P (by omega) (by omega) hP (hX.cf cf2) (hc.cf cf2) (hS.cf cf2 (by omega))
        exact ⟨s3, z1, cf2.trans z2, z3⟩
theorem c_findS {α : Type} {A : AS} {t lev p len : Nat} {rc : Int32 → Int32 → Int32 → Sto → Option (Int32 × Sto)} {g : (Nat → Nat) → Option α} {R : Sto → α → Prop} (hl : laid A) (hlev : lev < 2) (hlen : lev + 1 < len ∧ len < 4) (hrc : Fnds A t (lev + 1) g R (fun σ => rc (iN p) (iN (lev + 1)) (iN len) σ)) : Fnds A t lev (fun P => fnO (fun a => if onB P a = true then g (psA A P a) else none) (cdA A)) (fun σ x => gI σ 18 0 lev = iN x.1 ∧ R σ x.2) (fun σ => g8_findsRow rc (iN p) (iN lev) (iN len) σ) := by
  intro σ P hP hX hc hS
  have h40 := n40 hl.2.2.1 hl.2.1.2
  have ix : Ix (iN lev) 3 := (iN_Ix (by omega)).mpr (by omega)
  have e1 : (iN lev).toNatClampNeg + 2 = lev + 2 := by rw [iN_nat (by omega)]
  have el : iN len - 1 = iN (len - 1) := iN_sub (a := len) (b := 1) (by omega)
  obtain ⟨s1, g1, g2, g3⟩ := c_findL (p := p) hl hlev hrc (4 * aN A * aM A) 0 300 σ P (by omega) (by omega) hP hX hc hS
  refine ⟨s1, ?_, g2, fun x hx => g3 x.1 x.2 ?_⟩
  · show g8_findsRow rc (iN p) (iN lev) (iN len) σ = _
    unfold g8_findsRow
    rw [show (3 : Int32) = iN 3 from rfl, isBelow_in σ (by decide) (by omega), bI_some, if_neg (by decide), if_pos ix, el, if_pos ((iN_lt (by omega) (by omega)).mpr (by omega)), e1, hS.1, dr_some]
    rw [codes_eq hl.2.2.1 hl.2.1.2] at g1
    exact g1
  · rw [codes_eq hl.2.2.1 hl.2.1.2]; exact hx
theorem c_find1 {A : AS} {t lev p : Nat} (hl : laid A) (hlev : lev < 3) (hp : p < aN A) {n : Nat} : Fnds A t lev (tC A p) (fun σ c => gI σ 18 0 lev = iN c) (fun σ => f8_findsRow (n + 1) (iN p) (iN lev) (iN (lev + 1)) σ) := c_find0 hl hlev hp rfl
theorem c_find2 {A : AS} {t lev p : Nat} (hl : laid A) (hlev : lev < 2) (hp : p < aN A) {n : Nat} : Fnds A t lev (s2 A (tC A p)) (fun σ x => gI σ 18 0 lev = iN x.1 ∧ gI σ 18 0 (lev + 1) = iN x.2) (fun σ => f8_findsRow (n + 2) (iN p) (iN lev) (iN (lev + 2)) σ) := c_findS hl hlev ⟨by omega, by omega⟩ (c_find1 (n := n) hl (by omega) hp)
theorem c_find3 {A : AS} {t p : Nat} (hl : laid A) (hp : p < aN A) {n : Nat} : Fnds A t 0 (s3 A (tC A p)) (fun σ x => gI σ 18 0 0 = iN x.1 ∧ gI σ 18 0 1 = iN x.2.1 ∧ gI σ 18 0 2 = iN x.2.2) (fun σ => f8_findsRow (n + 3) (iN p) (iN 0) (iN 3) σ) := c_findS hl (by decide) ⟨by omega, by omega⟩ (c_find2 (n := n) hl (by decide) hp)
