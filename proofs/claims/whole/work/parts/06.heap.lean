/-! THE STEPS: fields and arrays -/
theorem mref_arr {k : Nat} (hk : 10 ≤ k) (j : Nat) : mref k j = mref k 0 := by
  have h : mobjR[k]? = none := List.getElem?_eq_none hk
  simp only [mref, h]
theorem mcls_lt {k : Nat} {q : vw_C} (h : vwCl[k]? = some q) : k < 10 := (List.getElem?_eq_some_iff.mp h).1
theorem mlen_obj {k Ln : Nat} {q : vw_C} (h : vwCl[k]? = some q) : mlen Ln k = q.2.2 := by
  match k, h with
  | 0, h => cases h; rfl
  | 1, h => cases h; rfl
  | 2, h => cases h; rfl
  | 3, h => cases h; rfl
  | 4, h => cases h; rfl
  | 5, h => cases h; rfl
  | 6, h => cases h; rfl
  | 7, h => cases h; rfl
  | 8, h => cases h; rfl
  | 9, h => cases h; rfl
  | k + 10, h => exact absurd (mcls_lt h) (by omega)
theorem good_lay (C : String) (T : u_T) (k : Nat) : goodWord (u_lay C T k) = true := by
  unfold u_lay
  split <;> rfl
theorem mlays {Γ : GG} {s : State} (hG : mG Γ s) {k : Nat} {q : vw_C} (h : vwCl[k]? = some q) (a : Array Value) : ∀ w ∈ u_ws q.1 q.2.1 q.2.2, w.before a s = true := by
  have key : ∀ w ∈ u_ws q.1 q.2.1 q.2.2, w ∈ lw_tbl := by
    match k, h with
    | 0, h => cases h; exact inX0
    | 1, h => cases h; exact inX1
    | 2, h => cases h; exact inX2
    | 3, h => cases h; exact inX3
    | 4, h => cases h; exact inX4
    | 5, h => cases h; exact inX5
    | 6, h => cases h; exact inX6
    | 7, h => cases h; exact inX7
    | 8, h => cases h; exact inX8
    | 9, h => cases h; exact inX9
    | k + 10, h => exact absurd (mcls_lt h) (by omega)
  intro w hw
  refine hG.1 w (key w hw) ?_ a
  obtain ⟨j, -, rfl⟩ := List.mem_map.mp hw
  exact good_lay _ _ _
/-- the types of the fields: int where mref says so, else of references -/
def mtyck (k : Nat) (q : vw_C) : Bool := (List.range q.2.2).all (fun j => match parseFieldDescriptor (q.2.1 j).2.2.1 with
  | some .int => !(mref k j)
  | some (.object _) => mref k j
  | some (.array _) => mref k j
  | _ => false)
theorem mty_all : (List.range 10).all (fun k => match vwCl[k]? with | some q => mtyck k q | none => false) = true := by decide +kernel
theorem mty {k : Nat} {q : vw_C} (h : vwCl[k]? = some q) {j : Nat} (hj : j < q.2.2) : ∃ ty, parseFieldDescriptor (q.2.1 j).2.2.1 = some ty ∧ ((mref k j = false ∧ ty = .int) ∨ (mref k j = true ∧ ((∃ n, ty = .object n) ∨ ∃ t, ty = .array t))) := by
  have h1 := List.all_eq_true.mp mty_all k (List.mem_range.mpr (mcls_lt h))
  rw [h] at h1
  have h2 := List.all_eq_true.mp h1 j (List.mem_range.mpr hj)
  split at h2
  · rename_i e; exact ⟨.int, e, Or.inl ⟨by simpa using h2, rfl⟩⟩
  · rename_i n e; exact ⟨_, e, Or.inr ⟨h2, Or.inl ⟨n, rfl⟩⟩⟩
  · rename_i n e; exact ⟨_, e, Or.inr ⟨h2, Or.inr ⟨n, rfl⟩⟩⟩
  · cases h2
def mnmck (q : vw_C) : Bool := (List.range q.2.2).all (fun a => (List.range q.2.2).all (fun b => decide (a = b) || decide ((q.2.1 a).2.1 ≠ (q.2.1 b).2.1)))
theorem mnm_all : vwCl.all mnmck = true := by decide +kernel
theorem mnm {k : Nat} {q : vw_C} (h : vwCl[k]? = some q) : ∀ a, a < q.2.2 → ∀ b, b < q.2.2 → a ≠ b → (q.2.1 a).2.1 ≠ (q.2.1 b).2.1 := by
  intro a ha b hb hab
  have h1 := List.all_eq_true.mp mnm_all q (List.mem_of_getElem? h)
  have h2 := List.all_eq_true.mp (List.all_eq_true.mp h1 a (List.mem_range.mpr ha)) b (List.mem_range.mpr hb)
  simp only [Bool.or_eq_true, decide_eq_true_eq] at h2
  exact h2.resolve_left hab
theorem mapart {Γ : GG} {s : State} (hG : mG Γ s) {k : Nat} {q : vw_C} (h : vwCl[k]? = some q) : ∀ a b, a < q.2.2 → b < q.2.2 → a ≠ b → Γ.2.2.2 k a ≠ Γ.2.2.2 k b := by
  intro a b ha hb hne
  obtain ⟨hS, -⟩ := hG.2.2.1 k q h
  obtain ⟨_, _, _, fa, hia, ea⟩ := hS a ha
  obtain ⟨_, _, _, fb, hib, eb⟩ := hS b hb
  obtain ⟨ta, hta, -⟩ := mty h ha
  obtain ⟨tb, htb, -⟩ := mty h hb
  rw [← ea, ← eb]
  refine u_apart (u_lays (mlays hG h #[]) (fun w hw => hw) ha) (u_lays (mlays hG h #[]) (fun w hw => hw) hb) hia hib ?_
  rw [(State.fieldFound?_type hia hta).1, (State.fieldFound?_type hib htb).1]
  exact mnm h a ha b hb hne
/-! one slot changes -/
theorem mpl_ne {Γ : GG} {s : State} (hG : mG Γ s) {k a b : Nat} (ha : a < mlen Γ.2.1 k) (hb : b < mlen Γ.2.1 k) (hne : a ≠ b) : mpl Γ k a ≠ mpl Γ k b := by
  unfold mpl
  by_cases hk : k < 10
  · rw [if_pos hk, if_pos hk]
    obtain ⟨q, hq⟩ : ∃ q, vwCl[k]? = some q := ⟨_, List.getElem?_eq_getElem hk⟩
    rw [mlen_obj hq] at ha hb
    exact mapart hG hq a b ha hb hne
  · rw [if_neg hk, if_neg hk]; exact hne
theorem mhdr.set {Γ : GG} {s : State} {k n : Nat} {cell : Cell} {v : Value} (h : mhdr Γ s k cell) : mhdr Γ s k (cell.setSlot n v) := by
  unfold mhdr at h ⊢
  split
  · rw [if_pos (by assumption)] at h; exact h
  · rw [if_neg (by assumption)] at h
    obtain ⟨h1, h2, h3, h4⟩ := h
    exact ⟨h1, h2, by show _ ≤ (cell.slots.setIfInBounds n v).size ∧ (cell.slots.setIfInBounds n v).size.toInt32 = _; rw [Array.size_setIfInBounds]; exact h3, h4⟩
theorem Rep.put {ph : Bool} {Γ : GG} {s : State} {ad : MA → Option Nat} {σ σ' : Sto} {H H' : Heap} {k i j q : Nat} {cell : Cell} {w : MV} {v : Value} (h : Rep ph Γ s ad σ H) (hG : mG Γ s) (hk42 : k < 42) (hq : ad (k, i) = some q) (hc : H[q]? = some cell) (hj : j < mlen Γ.2.1 k)
    (hw : mv ad w = some v) (hs : sv ph σ' k i j = w) (ho : ∀ k' i' j', ¬ (k' = k ∧ i' = i ∧ j' = j) → sv ph σ' k' i' j' = sv ph σ k' i' j') (hN : ∀ k', gN σ' k' = gN σ k')
    (e1 : H'[q]? = some (cell.setSlot (mpl Γ k j) v)) (e2 : H'.size = H.size) (e3 : ∀ x, x ≠ q → H'[x]? = H[x]?) : Rep ph Γ s ad σ' H' := by
  refine ⟨h.1, fun k' i' q' hq' => ?_, by rw [e2]; exact h.2.2⟩
  obtain ⟨⟨cell', c1, c2, c3⟩, c4⟩ := h.2.1 k' i' q' hq'
  refine ⟨?_, fun hk => by rw [hN]; exact c4 hk⟩
  by_cases hqq : q' = q
  · subst hqq
    have hki := h.1 _ _ _ hk42 hq hq'
    simp only [Prod.mk.injEq] at hki
    obtain ⟨rfl, rfl⟩ := hki
    cases c1.symm.trans hc
    refine ⟨_, e1, c2.set, fun j' hj' => ?_⟩
    by_cases hjj : j' = j
    · subst hjj
      obtain ⟨v0, -, hv0⟩ := c3 j' hj'
      exact ⟨v, by rw [hs]; exact hw, Cell.slots_setSlot_self _ (k2_hasslot hv0)⟩
    · obtain ⟨v0, g1, g2⟩ := c3 j' hj'
      exact ⟨v0, by rw [ho _ _ _ (fun z => hjj z.2.2)]; exact g1, by rw [slot_ne _ _ (mpl_ne hG hj hj' (Ne.symm hjj))]; exact g2⟩
  · have hne : ¬ (k' = k ∧ i' = i) := fun z => hqq (Option.some.inj (hq'.symm.trans (by rw [z.1, z.2]; exact hq)))
    exact ⟨cell', (e3 q' hqq).trans c1, c2, fun j' hj' => by rw [ho _ _ _ (fun z => hne ⟨z.1, z.2.1⟩)]; exact c3 j' hj'⟩
theorem sv_sI {ph : Bool} {σ : Sto} {k i j : Nat} {x : Int32} (h : mref k j = false) : sv ph (sI σ k i j x) k i j = vi x := by simp [sv, h, gI, sI]
theorem sv_sI_ne {ph : Bool} {σ : Sto} {k i j k' i' j' : Nat} {x : Int32} (h : ¬ (k' = k ∧ i' = i ∧ j' = j)) : sv ph (sI σ k i j x) k' i' j' = sv ph σ k' i' j' := by
  unfold sv
  split
  · rfl
  · simp [gI, sI, h]
theorem sv_sR {ph : Bool} {σ : Sto} {k i j : Nat} {x : Option MA} (h : mref k j = true) (hf : ph = false ∨ mfin k i j = none) : sv ph (sR σ k i j x) k i j = vq x := by
  unfold sv
  rw [h]
  rcases hf with rfl | hf
  · simp [mrf, gR, sR]
  · cases ph <;> simp [mrf, hf, gR, sR]
theorem sv_sR_ne {ph : Bool} {σ : Sto} {k i j k' i' j' : Nat} {x : Option MA} (h : ¬ (k' = k ∧ i' = i ∧ j' = j)) : sv ph (sR σ k i j x) k' i' j' = sv ph σ k' i' j' := by
  unfold sv
  split
  · congr 1
    unfold mrf
    cases ph <;> simp [gR, sR, h]
  · rfl
/-- the fields that a class names: pool index, slot, classes of the object, the name's class, how it may be written (0: always, 1: in a constructor, 2: never) -/
abbrev mFT : Type := List (Nat × Nat × List Nat × String × Nat)
def mFck (own : String) (x : Nat × Nat × List Nat × String × Nat) (q : vw_C) : Bool :=
  decide (x.2.1 < q.2.2) && decide (Cond.fieldLink own x.1 x.2.2.2.1 (q.2.1 x.2.1).2.1 (q.2.1 x.2.1).2.2.1 ∈ lw_tbl) && (decide (x.2.2.2.1 = (q.2.1 x.2.1).1) || decide (Cond.sameField x.2.2.2.1 (q.2.1 x.2.1).1 (q.2.1 x.2.1).2.1 (q.2.1 x.2.1).2.2.1 ∈ lw_tbl)) &&
  (match x.2.2.2.2 with | 0 => !((q.2.1 x.2.1).2.2.2) | 1 => (q.2.1 x.2.1).2.2.2 && decide ((q.2.1 x.2.1).1 = own) | _ => true)
def mFchk (own : String) (F : mFT) : Bool := F.all (fun x => x.2.2.1.all (fun ci => match vwCl[ci]? with | some q => mFck own x q | none => false))
theorem mFget {own : String} {F : mFT} (h : mFchk own F = true) {x : Nat × Nat × List Nat × String × Nat} (hx : x ∈ F) {ci : Nat} (hc : ci ∈ x.2.2.1) : ∃ q, vwCl[ci]? = some q ∧ x.2.1 < q.2.2 ∧ Cond.fieldLink own x.1 x.2.2.2.1 (q.2.1 x.2.1).2.1 (q.2.1 x.2.1).2.2.1 ∈ lw_tbl ∧
    (x.2.2.2.1 = (q.2.1 x.2.1).1 ∨ Cond.sameField x.2.2.2.1 (q.2.1 x.2.1).1 (q.2.1 x.2.1).2.1 (q.2.1 x.2.1).2.2.1 ∈ lw_tbl) ∧ (x.2.2.2.2 = 0 → (q.2.1 x.2.1).2.2.2 = false) ∧ (x.2.2.2.2 = 1 → (q.2.1 x.2.1).2.2.2 = true ∧ (q.2.1 x.2.1).1 = own) := by
  have h1 := List.all_eq_true.mp (List.all_eq_true.mp h x hx) ci hc
  cases hq : vwCl[ci]? with
  | none => rw [hq] at h1; cases h1
  | some q =>
    rw [hq] at h1
    simp only [mFck, Bool.and_eq_true, Bool.or_eq_true, decide_eq_true_eq] at h1
    obtain ⟨⟨⟨a1, a2⟩, a3⟩, a4⟩ := h1
    refine ⟨q, rfl, a1, a2, a3, fun e => ?_, fun e => ?_⟩
    · rw [e] at a4; simpa using a4
    · rw [e] at a4; simpa using a4
theorem msame {Γ : GG} {s : State} (hG : mG Γ s) {ref : String} {t : String × String × String × Bool} (h : ref = t.1 ∨ Cond.sameField ref t.1 t.2.1 t.2.2.1 ∈ lw_tbl) (z : ClassId × Class × Nat × Field) (hz : s.fieldFound? t.1 t.2.1 t.2.2.1 = some z) : s.fieldFound? ref t.2.1 t.2.2.1 = some z := by
  rcases h with rfl | h
  · exact hz
  · exact u_same (hG.1 _ h rfl #[]) z hz
section Heap1
variable {ph : Bool} {Γ : GG} {y : Mth} {d mc ms kc ks : Nat} {Q : Option MV → Sto → Prop} {pc : Nat} {L : List (Option MV)} {S : List MV} {σ : Sto}
theorem M_getfield {F : mFT} (hF : mFchk y.1.cls F = true) {x : Nat × Nat × List Nat × String × Nat} {k i : Nat} (hx : x ∈ F) (hk : k ∈ x.2.2.1) (hd : decode y.2.1 pc = .ok (.getfield x.1, 3)) (kk : M ph Γ y d mc ms kc ks Q (pc + 3) L (sv ph σ k i x.2.1 :: S) σ) : M ph Γ y d mc ms kc ks Q pc L (vq (some (k, i)) :: S) σ := by
  intro p l e s m args below meth c H locs ad0 ad ls st hc hG hst he hR hS hB hl hkk
  obtain ⟨q, st', rfl, hq, hk'⟩ := mk_r hkk
  obtain ⟨w, hw, hj, hlink, hsm, -, -⟩ := mFget hF hx hk
  obtain ⟨⟨cell, c1, c2, c3⟩, -⟩ := hR.2.1 k i q hq
  obtain ⟨v, v1, v2⟩ := c3 x.2.1 (by rw [mlen_obj hw]; exact hj)
  have hk10 := mcls_lt hw
  unfold mhdr at c2
  rw [if_pos hk10] at c2
  unfold mpl at v2
  rw [if_pos hk10] at v2
  obtain ⟨hSl, hfc, kC, hkC, hkind⟩ := hG.2.2.1 k w hw
  obtain ⟨cf, kf, fi, f, hi, hsl⟩ := hSl x.2.1 hj
  have hst0 := (u_facts hfc hkC (u_lays (mlays hG hw args) (fun w hw => hw) hj) hi).1
  refine W.getf hc.1 hc.2.1 hc.2.2.2.2.1 (hG.1 _ hlink rfl args) (msame hG hsm _ hi) hst0 c1 (by rw [c2.2]; exact fun h => by cases h) (v := v) (by rw [hsl]; exact v2) rfl rfl hd ?_
  exact kk p l e s m args below meth c H locs ad0 ad ls _ hc hG hst he hR hS hB hl (by simp only [List.map_cons, v1, hk'])
/-- the word that a field's write rests on -/
theorem M_putraw {F : mFT} (hF : mFchk y.1.cls F = true) {x : Nat × Nat × List Nat × String × Nat} {k i : Nat} {w : MV} {σ' : Sto} (hx : x ∈ F) (hk : k ∈ x.2.2.1) (hp : x.2.2.2.2 = 0 ∨ (x.2.2.2.2 = 1 ∧ y.1.name = "<init>")) (hd : decode y.2.1 pc = .ok (.putfield x.1, 3))
    (hty : (mref k x.2.1 = false ∧ ∃ z, w = vi z) ∨ (mref k x.2.1 = true ∧ ∃ z, w = vq z)) (hs : sv ph σ' k i x.2.1 = w) (ho : ∀ k' i' j', ¬ (k' = k ∧ i' = i ∧ j' = x.2.1) → sv ph σ' k' i' j' = sv ph σ k' i' j') (hN : ∀ k', gN σ' k' = gN σ k')
    (kk : M ph Γ y d mc ms kc ks Q (pc + 3) L S σ') : M ph Γ y d mc ms kc ks Q pc L (w :: vq (some (k, i)) :: S) σ := by
  intro p l e s m args below meth c H locs ad0 ad ls st hc hG hst he hR hS hB hl hkk
  obtain ⟨v, st1, rfl, hv, hk1⟩ := mk_top hkk
  obtain ⟨q, st', rfl, hq, hk'⟩ := mk_r hk1
  obtain ⟨r, hr, hj, hlink, hsm, hp0, hp1⟩ := mFget hF hx hk
  obtain ⟨⟨cell, c1, c2, c3⟩, c4⟩ := hR.2.1 k i q hq
  have hk10 := mcls_lt hr
  have hjl : x.2.1 < mlen Γ.2.1 k := by rw [mlen_obj hr]; exact hj
  obtain ⟨v0, -, v2⟩ := c3 x.2.1 hjl
  have c2' := c2
  unfold mhdr at c2
  rw [if_pos hk10] at c2
  have hpl : mpl Γ k x.2.1 = Γ.2.2.2 k x.2.1 := by unfold mpl; rw [if_pos hk10]
  rw [hpl] at v2
  obtain ⟨hSl, hfc, kC, hkC, hkind⟩ := hG.2.2.1 k r hr
  obtain ⟨cf, kf, fi, f, hi, hsl⟩ := hSl x.2.1 hj
  have hst0 := (u_facts hfc hkC (u_lays (mlays hG hr args) (fun w hw => hw) hj) hi).1
  obtain ⟨ty, hpd, hty'⟩ := mty hr hj
  have hnf : narrow ty v = v ∧ fits ty v = true := by
    rcases hty with ⟨m0, z, rfl⟩ | ⟨m1, z, rfl⟩
    · cases hv
      rcases hty' with ⟨-, rfl⟩ | ⟨m2, -⟩
      · exact ⟨rfl, rfl⟩
      · rw [m0] at m2; cases m2
    · rcases hty' with ⟨m2, -⟩ | ⟨-, ⟨n, rfl⟩ | ⟨n, rfl⟩⟩
      · rw [m1] at m2; cases m2
      · rcases mk_q hv with ⟨-, rfl⟩ | ⟨a, q2, -, -, rfl⟩ <;> exact ⟨rfl, rfl⟩
      · rcases mk_q hv with ⟨-, rfl⟩ | ⟨a, q2, -, -, rfl⟩ <;> exact ⟨rfl, rfl⟩
  have hlay := mlays hG hr args _ (u_in_lay hj)
  have fin : ∀ H' : Heap, H'[q]? = some (cell.setSlot f.slot v) → H'.size = H.size → (∀ z, z ≠ q → H'[z]? = H[z]?) → W p l e (mRm d mc ms) s m args below meth c H' (locs ++ [⟨q, f.slot⟩]) kc ks (MQ below (mQ ph Γ Q ad0) args s mc ms (mA Γ)) (F0 m (pc + 3) ls st') := by
    intro H' e1 e2 e3
    rw [hsl] at e1
    exact kk p l e s m args below meth c H' _ ad0 ad ls _ hc hG hst he (hR.put hG (by omega) hq c1 hjl hv hs ho hN (by rw [hpl]; exact e1) e2 e3) (hS.put e2 e3 (c4 (by omega)).1) hB hl hk'
  rcases hp with hp | ⟨hp, hini⟩
  · unfold u_lay at hlay
    rw [if_neg (by rw [hp0 hp]; decide)] at hlay
    have h6 := u_store hfc hkC hkind hlay hi hpd hnf.1 hnf.2
    exact W.putK hc.1 hc.2.1 (f := f) ⟨hc.2.2.2.2.1, hG.1 _ hlink rfl args, ⟨_, _, _, msame hG hsm _ hi⟩, hst0⟩ (by rw [c2.1]; exact h6) c1 c2.2 (by rw [hsl]; exact k2_hasslot v2) rfl rfl hd fin
  · unfold u_lay at hlay
    rw [if_pos (hp1 hp).1] at hlay
    have hcf : m.cls = cf := by
      obtain ⟨_, _, c', _, _, _, -, -, hf', -, -, -, hown2, -⟩ := Cond.laysFinal_spec hlay
      have e1 : c' = cf := by have := hi.symm.trans hf'; simp at this; exact this.1.symm
      rw [(hp1 hp).2] at hown2
      rw [← e1]; exact Option.some.inj (hc.2.2.2.2.1.symm.trans hown2)
    have h6 := u_fits hfc hkC hkind (Or.inr hlay) hi hpd hnf.1 hnf.2
    exact W.putFinK hc.1 hc.2.1 hc.2.2.2.2.1 (hG.1 _ hlink rfl args) (msame hG hsm _ hi) hst0 hcf (hc.2.2.2.2.2.2.trans hini) (by rw [c2.1]; exact h6) c1 c2.2 (by rw [hsl]; exact k2_hasslot v2) rfl rfl hd fin
theorem M_putI {F : mFT} (hF : mFchk y.1.cls F = true) {x : Nat × Nat × List Nat × String × Nat} {k i : Nat} {z : Int32} (hx : x ∈ F) (hk : k ∈ x.2.2.1) (hp : x.2.2.2.2 = 0 ∨ (x.2.2.2.2 = 1 ∧ y.1.name = "<init>")) (hm : mref k x.2.1 = false) (hd : decode y.2.1 pc = .ok (.putfield x.1, 3))
    (kk : M ph Γ y d mc ms kc ks Q (pc + 3) L S (sI σ k i x.2.1 z)) : M ph Γ y d mc ms kc ks Q pc L (vi z :: vq (some (k, i)) :: S) σ :=
  M_putraw hF hx hk hp hd (Or.inl ⟨hm, z, rfl⟩) (sv_sI hm) (fun _ _ _ h => sv_sI_ne h) (fun _ => rfl) kk
theorem M_putR {F : mFT} (hF : mFchk y.1.cls F = true) {x : Nat × Nat × List Nat × String × Nat} {k i : Nat} {z : Option MA} (hx : x ∈ F) (hk : k ∈ x.2.2.1) (hp : x.2.2.2.2 = 0 ∨ (x.2.2.2.2 = 1 ∧ y.1.name = "<init>")) (hm : mref k x.2.1 = true) (hf : ph = false ∨ mfin k i x.2.1 = none) (hd : decode y.2.1 pc = .ok (.putfield x.1, 3))
    (kk : M ph Γ y d mc ms kc ks Q (pc + 3) L S (sR σ k i x.2.1 z)) : M ph Γ y d mc ms kc ks Q pc L (vq z :: vq (some (k, i)) :: S) σ :=
  M_putraw hF hx hk hp hd (Or.inr ⟨hm, z, rfl⟩) (sv_sR hm hf) (fun _ _ _ h => sv_sR_ne h) (fun _ => rfl) kk
abbrev Ix (x : Int32) (n : Nat) : Prop := ¬ x < 0 ∧ x.toNatClampNeg < n
theorem Ix.not {x : Int32} {n : Nat} (h : Ix x n) : ¬ (x < 0 ∨ n ≤ x.toNatClampNeg) := fun z => z.elim h.1 (Nat.not_le.mpr h.2)
theorem mety_int {k : Nat} (h : mref k 0 = false) : mety k = .int := by simp [mety, h]
theorem mety_ref {k : Nat} (h : mref k 0 = true) : mety k = .object (melc k) := by simp [mety, h]
theorem M_iaload {k i : Nat} {x : Int32} (hk : 10 ≤ k) (hm : mref k 0 = false) (hx : Ix x (mlen Γ.2.1 k)) (hd : decode y.2.1 pc = .ok (.iaload, 1)) (kk : M ph Γ y d mc ms kc ks Q (pc + 1) L (vi (gI σ k i x.toNatClampNeg) :: S) σ) : M ph Γ y d mc ms kc ks Q pc L (vi x :: vq (some (k, i)) :: S) σ := by
  intro p l e s m args below meth c H locs ad0 ad ls st hc hG hst he hR hS hB hl hkk
  obtain ⟨st1, rfl, hk1⟩ := mk_i hkk
  obtain ⟨q, st', rfl, hq, hk'⟩ := mk_r hk1
  obtain ⟨⟨cell, c1, c2, c3⟩, -⟩ := hR.2.1 k i q hq
  obtain ⟨v, v1, v2⟩ := c3 x.toNatClampNeg hx.2
  unfold mhdr at c2
  rw [if_neg (by omega)] at c2
  unfold mpl at v2
  rw [if_neg (by omega)] at v2
  have hsv : sv ph σ k i x.toNatClampNeg = vi (gI σ k i x.toNatClampNeg) := by unfold sv; rw [mref_arr hk, hm]
  rw [hsv] at v1
  cases v1
  refine W.iald hc.1 hc.2.1 c1 (by rw [← mety_int hm]; exact c2.1) c2.2.1 (fun z => z.elim hx.1 (fun w => Nat.not_le.mpr hx.2 (Nat.le_trans c2.2.2.1.1 w))) v2 rfl rfl hd ?_
  exact kk p l e s m args below meth c H locs ad0 ad ls _ hc hG hst he hR hS hB hl (by simp [mv, hk'])
theorem M_iastore {k i : Nat} {x z : Int32} (hk : 10 ≤ k) (hk2 : k < 42) (hm : mref k 0 = false) (hx : Ix x (mlen Γ.2.1 k)) (hd : decode y.2.1 pc = .ok (.iastore, 1)) (kk : M ph Γ y d mc ms kc ks Q (pc + 1) L S (sI σ k i x.toNatClampNeg z)) : M ph Γ y d mc ms kc ks Q pc L (vi z :: vi x :: vq (some (k, i)) :: S) σ := by
  intro p l e s m args below meth c H locs ad0 ad ls st hc hG hst he hR hS hB hl hkk
  obtain ⟨st1, rfl, hk1⟩ := mk_i hkk
  obtain ⟨st2, rfl, hk2'⟩ := mk_i hk1
  obtain ⟨q, st', rfl, hq, hk'⟩ := mk_r hk2'
  obtain ⟨⟨cell, c1, c2, c3⟩, c4⟩ := hR.2.1 k i q hq
  unfold mhdr at c2
  rw [if_neg (by omega)] at c2
  have hpl : mpl Γ k x.toNatClampNeg = x.toNatClampNeg := by unfold mpl; rw [if_neg (by omega)]
  refine W.iast hc.1 hc.2.1 c1 (by rw [← mety_int hm]; exact c2.1) c2.2.1 (fun z => z.elim hx.1 (fun w => Nat.not_le.mpr hx.2 (Nat.le_trans c2.2.2.1.1 w))) rfl rfl hd fun H' e1 e2 e3 => ?_
  exact kk p l e s m args below meth c H' _ ad0 ad ls _ hc hG hst he (hR.put hG hk2 hq c1 hx.2 (w := vi z) rfl (sv_sI (by rw [mref_arr hk]; exact hm)) (fun _ _ _ h => sv_sI_ne h) (fun _ => rfl) (by rw [hpl]; exact e1) e2 e3) (hS.put e2 e3 (c4 hk2).1) hB hl hk'
theorem M_aaload {k i : Nat} {x : Int32} (hk : 10 ≤ k) (hm : mref k 0 = true) (hx : Ix x (mlen Γ.2.1 k)) (hd : decode y.2.1 pc = .ok (.aaload, 1)) (kk : M ph Γ y d mc ms kc ks Q (pc + 1) L (vq (mrf ph σ k i x.toNatClampNeg) :: S) σ) : M ph Γ y d mc ms kc ks Q pc L (vi x :: vq (some (k, i)) :: S) σ := by
  intro p l e s m args below meth c H locs ad0 ad ls st hc hG hst he hR hS hB hl hkk
  obtain ⟨st1, rfl, hk1⟩ := mk_i hkk
  obtain ⟨q, st', rfl, hq, hk'⟩ := mk_r hk1
  obtain ⟨⟨cell, c1, c2, c3⟩, -⟩ := hR.2.1 k i q hq
  obtain ⟨v, v1, v2⟩ := c3 x.toNatClampNeg hx.2
  unfold mhdr at c2
  rw [if_neg (by omega)] at c2
  unfold mpl at v2
  rw [if_neg (by omega)] at v2
  have hsv : sv ph σ k i x.toNatClampNeg = vq (mrf ph σ k i x.toNatClampNeg) := by unfold sv; rw [mref_arr hk, hm]
  rw [hsv] at v1
  refine W.aald (ty := .object (melc k)) hc.1 hc.2.1 c1 (by rw [← mety_ref hm]; exact c2.1) rfl c2.2.1 (fun z => z.elim hx.1 (fun w => Nat.not_le.mpr hx.2 (Nat.le_trans c2.2.2.1.1 w))) v2 rfl rfl hd ?_
  exact kk p l e s m args below meth c H locs ad0 ad ls _ hc hG hst he hR hS hB hl (by simp only [List.map_cons, v1, hk'])
theorem M_alen {k i : Nat} (hk : 10 ≤ k) (hd : decode y.2.1 pc = .ok (.arraylength, 1)) (kk : M ph Γ y d mc ms kc ks Q (pc + 1) L (vi (Int32.ofNat (mlen Γ.2.1 k)) :: S) σ) : M ph Γ y d mc ms kc ks Q pc L (vq (some (k, i)) :: S) σ := by
  intro p l e s m args below meth c H locs ad0 ad ls st hc hG hst he hR hS hB hl hkk
  obtain ⟨q, st', rfl, hq, hk'⟩ := mk_r hkk
  obtain ⟨⟨cell, c1, c2, c3⟩, -⟩ := hR.2.1 k i q hq
  unfold mhdr at c2
  rw [if_neg (by omega)] at c2
  refine W.alen (n := Int32.ofNat (mlen Γ.2.1 k)) hc.1 hc.2.1 c1 c2.1 c2.2.2.1.2 rfl rfl hd ?_
  exact kk p l e s m args below meth c H locs ad0 ad ls _ hc hG hst he hR hS hB hl (by simp [mv, hk'])
theorem M_ldc2 {idx : Nat} {v : Int64} (hw : Cond.constantLong y.1.cls idx v ∈ lw_tbl) (hd : decode y.2.1 pc = .ok (.ldc2_w idx, 3)) (kk : M ph Γ y d mc ms kc ks Q (pc + 3) L (vl v :: S) σ) : M ph Γ y d mc ms kc ks Q pc L S σ := by
  intro p l e s m args below meth c H locs ad0 ad ls st hc hG hst he hR hS hB hl hk
  exact lv_ldc2 hc.1 hc.2.1 hc.2.2.2.2.1 (hG.1 _ hw rfl args) hd (kk p l e s m args below meth c H locs ad0 ad ls _ hc hG hst he hR hS hB hl (by simp [mv, hk]))
theorem M_ldcw {idx : Nat} {v : Int32} (hw : Cond.constant y.1.cls idx v ∈ lw_tbl) (hd : decode y.2.1 pc = .ok (.ldc_w idx, 3)) (kk : M ph Γ y d mc ms kc ks Q (pc + 3) L (vi v :: S) σ) : M ph Γ y d mc ms kc ks Q pc L S σ := by
  intro p l e s m args below meth c H locs ad0 ad ls st hc hG hst he hR hS hB hl hk
  exact lv_ldcw hc.1 hc.2.1 hc.2.2.2.2.1 (hG.1 _ hw rfl args) hd (kk p l e s m args below meth c H locs ad0 ad ls _ hc hG hst he hR hS hB hl (by simp [mv, hk]))
theorem M_gets {k idx : Nat} {nm : String} (hk : (k, nm) ∈ mstats) (hw : Cond.fieldLink y.1.cls idx "PlatePeas" nm "[I" ∈ lw_tbl) (hd : decode y.2.1 pc = .ok (.getstatic idx, 3)) (kk : M ph Γ y d mc ms kc ks Q (pc + 3) L (vq (some (k, 0)) :: S) σ) : M ph Γ y d mc ms kc ks Q pc L S σ := by
  intro p l e s m args below meth c H locs ad0 ad ls st hc hG hst he hR hS hB hl hkk
  obtain ⟨q, h1, h2⟩ := hst _ hk
  exact va_gets hc.1 hc.2.1 h2 hS hc.2.2.2.2.1 (hG.1 _ hw rfl args) (fun _ h => h) hd (kk p l e s m args below meth c H locs ad0 ad ls _ hc hG hst he hR hS hB hl (by simp [mv, he _ _ h1, hkk]))
theorem M_getsN {k idx : Nat} {nm host : String} (hk : (k, nm) ∈ mstats) (hw : Cond.fieldLinkNest y.1.cls idx "PlatePeas" nm "[I" host ∈ lw_tbl) (hd : decode y.2.1 pc = .ok (.getstatic idx, 3)) (kk : M ph Γ y d mc ms kc ks Q (pc + 3) L (vq (some (k, 0)) :: S) σ) : M ph Γ y d mc ms kc ks Q pc L S σ := by
  intro p l e s m args below meth c H locs ad0 ad ls st hc hG hst he hR hS hB hl hkk
  obtain ⟨q, h1, h2⟩ := hst _ hk
  exact va_getsN hc.1 hc.2.1 h2 hS hc.2.2.2.2.1 (va_Nw.use rfl (hG.2.1 _ hw rfl)) (fun _ h => h) hd (kk p l e s m args below meth c H locs ad0 ad ls _ hc hG hst he hR hS hB hl (by simp [mv, he _ _ h1, hkk]))
end Heap1
