/-! NEW CELLS, references stored, instanceof, the JDK's own calls -/
theorem gN_sN_self (σ : Sto) (k : Nat) : gN (sN σ k) k = gN σ k + 1 := by simp [gN, sN]
theorem gN_sN_ne (σ : Sto) {k k' : Nat} (h : k' ≠ k) : gN (sN σ k) k' = gN σ k' := by simp [gN, sN, h]
theorem sv_sN_ne {ph : Bool} {σ : Sto} {k k' i' j' : Nat} (h : ¬ (k' = k ∧ i' = gN σ k)) : sv ph (sN σ k) k' i' j' = sv ph σ k' i' j' := by
  unfold sv
  have h' : ¬ (k' = k ∧ i' = σ.2.2 k) := h
  split
  · congr 1
    unfold mrf
    cases ph <;> simp [gR, sN, h']
  · simp [gI, sN, h']
/-- no reference of that kind is known ahead -/
def mplain (ph : Bool) (k : Nat) : Prop := ph = false ∨ ∀ j, mref k j = false
theorem sv_sN {ph : Bool} {σ : Sto} {k j : Nat} (h : mplain ph k) : sv ph (sN σ k) k (gN σ k) j = match mref k j with | true => vq none | false => vi 0 := by
  unfold sv
  cases hm : mref k j with
  | true =>
    rcases h with rfl | h
    · simp [mrf, gR, sN, gN]
    · rw [h j] at hm; cases hm
  | false => simp [gI, sN, gN]
theorem Rep.new {ph : Bool} {Γ : GG} {s : State} {ad : MA → Option Nat} {σ : Sto} {H H' : Heap} {k : Nat} {cell : Cell} (h : Rep ph Γ s ad σ H) (hk : k < 42) (e1 : H'[H.size]? = some cell) (e2 : H'.size = H.size + 1) (e3 : ∀ q, q < H.size → H'[q]? = H[q]?) (hh : mhdr Γ s k cell)
    (hp : mplain ph k) (hsl : ∀ j, j < mlen Γ.2.1 k → cell.slots[mpl Γ k j]? = some (match mref k j with | true => .null | false => .int 0)) :
    ∃ ad', ad' (k, gN σ k) = some H.size ∧ (∀ a q, ad a = some q → ad' a = some q) ∧ Rep ph Γ s ad' (sN σ k) H' := by
  have hfresh : ad (k, gN σ k) = none := by
    cases hq : ad (k, gN σ k) with
    | none => rfl
    | some q => exact absurd ((h.2.1 _ _ _ hq).2 hk).2 (Nat.lt_irrefl _)
  have hold : ∀ a q, ad a = some q → q < H.size := fun a q hq => by
    obtain ⟨⟨c0, c1, -⟩, -⟩ := h.2.1 a.1 a.2 q hq
    exact (Array.getElem?_eq_some_iff.mp c1).1
  have hext : ∀ a q, ad a = some q → (fun a => if a = (k, gN σ k) then some H.size else ad a) a = some q := fun a q hq => by
    have hne : a ≠ (k, gN σ k) := fun z => by rw [z, hfresh] at hq; cases hq
    simp only [if_neg hne, hq]
  refine ⟨fun a => if a = (k, gN σ k) then some H.size else ad a, by simp, hext, fun a b q ha42 ha hb => ?_, fun k' i' q hq => ?_, by rw [e2]; exact Nat.le_trans h.2.2 (Nat.le_succ _)⟩
  · by_cases ea : a = (k, gN σ k) <;> by_cases eb : b = (k, gN σ k)
    · rw [ea, eb]
    · simp only [if_pos ea, if_neg eb, Option.some.injEq] at ha hb
      exact absurd (hold _ _ hb) (by omega)
    · simp only [if_neg ea, if_pos eb, Option.some.injEq] at ha hb
      exact absurd (hold _ _ ha) (by omega)
    · simp only [if_neg ea, if_neg eb] at ha hb
      exact h.1 a b q ha42 ha hb
  · by_cases ea : (k', i') = (k, gN σ k)
    · simp only [if_pos ea, Option.some.injEq] at hq
      simp only [Prod.mk.injEq] at ea
      obtain ⟨rfl, rfl⟩ := ea
      subst hq
      refine ⟨⟨cell, e1, hh, fun j hj => ⟨_, ?_, hsl j hj⟩⟩, fun _ => ⟨h.2.2, by rw [gN_sN_self]; exact Nat.lt_succ_self _⟩⟩
      rw [sv_sN hp]
      cases mref k' j <;> rfl
    · simp only [if_neg ea] at hq
      obtain ⟨⟨c0, c1, c2, c3⟩, c4⟩ := h.2.1 k' i' q hq
      have hne : ¬ (k' = k ∧ i' = gN σ k) := fun z => ea (by rw [z.1, z.2])
      refine ⟨⟨c0, (e3 q (hold _ _ hq)).trans c1, c2, fun j hj => ?_⟩, fun hk' => ⟨(c4 hk').1, ?_⟩⟩
      · obtain ⟨v, v1, v2⟩ := c3 j hj
        exact ⟨v, by rw [sv_sN_ne hne]; exact mv_ext hext v1, v2⟩
      · have := (c4 hk').2
        by_cases hkk : k' = k
        · subst hkk; rw [gN_sN_self]; omega
        · rw [gN_sN_ne _ hkk]; exact this
theorem va_S.grow {A : Nat → Prop} {H0 H H1 : Heap} {locs : List Loc} (h : va_S A H0 H locs) (z : H1.size = H.size + 1) (oq : ∀ q : Nat, q < H.size → H1[q]? = H[q]?) : va_S A H0 H1 locs :=
  ⟨Nat.le_trans h.1 (by omega), fun x h1 h2 => (oq x (Nat.lt_of_lt_of_le h1 h.1)).trans (h.2.1 x h1 h2), h.2.2⟩
section Alloc1
variable {ph : Bool} {Γ : GG} {y : Mth} {d mc ms kc ks : Nat} {Q : Option MV → Sto → Prop} {pc : Nat} {L : List (Option MV)} {S : List MV} {σ : Sto}
theorem M_new {k idx : Nat} {r : vw_C} (hr : vwCl[k]? = some r) (hp : mplain ph k) (h1 : Cond.classLink y.1.cls idx r.1 ∈ lw_tbl) (h2 : Cond.instantiable r.1 r.2.2 ∈ lw_tbl) (h3 : Cond.initialized r.1 ∈ lw_tbl) (hd : decode y.2.1 pc = .ok (.new idx, 3)) (hkc : kc + 1 ≤ mc) (hks : ks + r.2.2 ≤ ms)
    (kk : M ph Γ y d mc ms (kc + 1) (ks + r.2.2) Q (pc + 3) L (vq (some (k, gN σ k)) :: S) (sN σ k)) : M ph Γ y d mc ms kc ks Q pc L S σ := by
  intro p l e s m args below meth c H locs ad0 ad ls st hc hG hst he hR hS hB hl hk
  have hKn := hG.2.2.1 k r hr
  have hk10 := mcls_lt hr
  refine W.newcK hc.1 hc.2.1 hc.2.2.2.2.1 (hG.1 _ h1 rfl args) (hG.1 _ h2 rfl args) (hG.1 _ h3 rfl args) rfl hd hkc hks hKn.2.1 rfl fun H1 kC hkC e1 z1 o1 => ?_
  obtain ⟨cell, b1, b2, b3, b4⟩ := u_born (fun j => (parseFieldDescriptor (r.2.1 j).2.2.1).getD .int) (mlays hG hr args) (fun w hw => hw) hKn hkC e1 (fun j hj => by obtain ⟨ty, ht, -⟩ := mty hr hj; rw [ht]; rfl)
  obtain ⟨ad', a1, a2, a3⟩ := hR.new (k := k) (by omega) b1 z1 o1 (by unfold mhdr; rw [if_pos hk10]; exact ⟨b2, b3⟩) hp (fun j hj => by
    rw [mlen_obj hr] at hj
    unfold mpl
    rw [if_pos hk10, b4 j hj]
    dsimp only
    obtain ⟨ty, ht, ⟨m0, rfl⟩ | ⟨m1, ⟨n, rfl⟩ | ⟨n, rfl⟩⟩⟩ := mty hr hj
    · rw [ht, m0]; rfl
    · rw [ht, m1]; rfl
    · rw [ht, m1]; rfl)
  exact kk p l e s m args below meth c H1 locs ad0 ad' ls _ hc hG hst (fun a q h => a2 a q (he a q h)) a3 (hS.grow z1 o1) hB (hl.ext a2) (by simp only [List.map_cons, mv, a1, Option.map_some, mv_exts a2 hk])
theorem M_newarr {k : Nat} {n : Int32} {N : Nat} (hk : 10 ≤ k) (hk2 : k < 42) (hm : mref k 0 = false) (hw : Cond.arrayClass .int ∈ lw_tbl) (hn : ¬ n < 0) (hN : n.toNatClampNeg = N) (hlen : mlen Γ.2.1 k = N) (hb4 : N * 4 ≤ 536870912) (hd : decode y.2.1 pc = .ok (.newarray .int, 2)) (hkc : kc + 1 ≤ mc) (hks : ks + N ≤ ms)
    (kk : M ph Γ y d mc ms (kc + 1) (ks + N) Q (pc + 2) L (vq (some (k, gN σ k)) :: S) (sN σ k)) : M ph Γ y d mc ms kc ks Q pc L (vi n :: S) σ := by
  intro p l e s m args below meth c H locs ad0 ad ls st hc hG hst he hR hS hB hl hkk
  obtain ⟨st', rfl, hk'⟩ := mk_i hkk
  refine va_newaK (atype := .int) hc.1 hc.2.1 (hG.1 _ hw rfl args) rfl hd rfl hn hN hb4 hkc hks rfl fun H1 cA e1 z1 o1 hAr hNm => ?_
  obtain ⟨ad', a1, a2, a3⟩ := hR.new (k := k) hk2 e1 z1 o1 (by
      unfold mhdr
      rw [if_neg (by omega)]
      exact ⟨by rw [mety_int hm]; exact hAr _ _, (fun h => by cases h), (by rw [arrV_size, hlen]; exact ⟨Nat.le_refl _, rfl⟩), (fun h => by rw [hm] at h; cases h)⟩) (Or.inr (fun j => by rw [mref_arr hk]; exact hm)) (fun j hj => by
      unfold mpl
      rw [if_neg (by omega), mref_arr hk, hm, arrV_read _ _ (by rw [← hlen]; exact hj)]
      rfl)
  exact kk p l e s m args below meth c H1 locs ad0 ad' ls _ hc hG hst (fun a q h => a2 a q (he a q h)) a3 (hS.grow z1 o1) hB (hl.ext a2) (by simp only [List.map_cons, mv, a1, Option.map_some, mv_exts a2 hk'])
theorem M_anew {k idx : Nat} {n : Int32} {N : Nat} (hph : ph = false) (hk : 10 ≤ k) (hk2 : k < 42) (hm : mref k 0 = true) (h1 : Cond.classLink y.1.cls idx (melc k) ∈ lw_tbl) (hn : ¬ n < 0) (hN : n.toNatClampNeg = N) (hlen : mlen Γ.2.1 k = N) (hb4 : N * 4 ≤ 536870912) (hd : decode y.2.1 pc = .ok (.anewarray idx, 3)) (hkc : kc + 1 ≤ mc) (hks : ks + N ≤ ms)
    (kk : M ph Γ y d mc ms (kc + 1) (ks + N) Q (pc + 3) L (vq (some (k, gN σ k)) :: S) (sN σ k)) : M ph Γ y d mc ms kc ks Q pc L (vi n :: S) σ := by
  intro p l e s m args below meth c H locs ad0 ad ls st hc hG hst he hR hS hB hl hkk
  obtain ⟨st', rfl, hk'⟩ := mk_i hkk
  subst hN
  have hAO : va_AO (melc k) s := by
    obtain ⟨a1, a2, a3⟩ := hG.2.2.2.1
    unfold melc
    split
    · exact a2
    · split
      · exact a3
      · exact a1
  refine W.anew hc.1 hc.2.1 hc.2.2.2.2.1 (hG.1 _ h1 rfl args) hAO.use rfl hd rfl hn hb4 hkc hks fun cA kA comp f1 f2 f3 f4 => ?_
  have z1 : (H.push ({ cls := cA, slots := Array.replicate n.toNatClampNeg .null, vm := .none } : Cell)).size = H.size + 1 := by simp
  have o1 : ∀ q, q < H.size → (H.push ({ cls := cA, slots := Array.replicate n.toNatClampNeg .null, vm := .none } : Cell))[q]? = H[q]? := fun q hq => by rw [Array.getElem?_push, if_neg (Nat.ne_of_lt hq)]
  obtain ⟨ad', a1, a2, a3⟩ := hR.new (k := k) (cell := ({ cls := cA, slots := Array.replicate n.toNatClampNeg .null, vm := .none } : Cell)) hk2 (by simp) z1 o1 (by
      unfold mhdr
      rw [if_neg (by omega)]
      exact ⟨⟨(fun z h => by cases h), kA, f2, comp, (by rw [mety_ref hm]; exact f3)⟩, (fun h => by cases h), (by rw [hlen]; simp), fun _ => ⟨kA, comp, f2, (by rw [mety_ref hm]; exact f3), f4⟩⟩) (Or.inl hph) (fun j hj => by
      unfold mpl
      rw [if_neg (by omega), mref_arr hk, hm]
      rw [hlen] at hj
      simp [hj])
  exact kk p l e s m args below meth c _ locs ad0 ad' ls _ hc hG hst (fun a q h => a2 a q (he a q h)) a3 (hS.grow z1 o1) hB (hl.ext a2) (by simp only [List.map_cons, mv, a1, Option.map_some, mv_exts a2 hk'])
/-- objects of kind k' may stand in an array of kind k -/
def mmay (k k' : Nat) : Bool := (Nat.beq k 13 && (Nat.beq k' 0 || Nat.beq k' 1 || Nat.beq k' 5)) || (Nat.beq k 17 && Nat.beq k' 6) || (Nat.beq k 23 && Nat.beq k' 4)
theorem mmay_spec {Γ : GG} {s : State} (hG : mG Γ s) {k k' : Nat} (h : mmay k k' = true) : ∃ r, vwCl[k']? = some r ∧ ∃ (comp : ClassId) (kc : Class), s.vm.findClass (melc k) = some comp ∧ s.vm.classes[comp]? = some kc ∧ s.vm.assignable (Γ.2.2.1 k') comp = true := by
  have own : ∀ (n : Nat) (r : vw_C), vwCl[n]? = some r → ∃ kc : Class, s.vm.findClass r.1 = some (Γ.2.2.1 n) ∧ s.vm.classes[Γ.2.2.1 n]? = some kc := fun n r hr => by
    obtain ⟨-, h1, kc, h2, -⟩ := hG.2.2.1 n r hr
    exact ⟨kc, h1, h2⟩
  simp only [mmay, Bool.or_eq_true, Bool.and_eq_true, Nat.beq_eq] at h
  rcases h with (⟨rfl, (rfl | rfl) | rfl⟩ | ⟨rfl, rfl⟩) | ⟨rfl, rfl⟩
  · obtain ⟨kc, h1, h2⟩ := own 0 _ rfl
    exact ⟨_, rfl, _, kc, h1, h2, va_assign (hG.2.2.1 0 _ rfl).2⟩
  · obtain ⟨kc, h1, h2⟩ := own 0 _ rfl
    obtain ⟨kc1, h3, h4⟩ := own 1 _ rfl
    exact ⟨_, rfl, _, kc, h1, h2, vb_asgC hG.2.2.2.2.1.1 _ _ h1 h3⟩
  · obtain ⟨kc, h1, h2⟩ := own 0 _ rfl
    obtain ⟨kc1, h3, h4⟩ := own 5 _ rfl
    exact ⟨_, rfl, _, kc, h1, h2, vb_asgC hG.2.2.2.2.1.2.1 _ _ h1 h3⟩
  · obtain ⟨kc, h1, h2⟩ := own 6 _ rfl
    exact ⟨_, rfl, _, kc, h1, h2, va_assign (hG.2.2.1 6 _ rfl).2⟩
  · obtain ⟨kc, h1, h2⟩ := own 4 _ rfl
    exact ⟨_, rfl, _, kc, h1, h2, va_assign (hG.2.2.1 4 _ rfl).2⟩
theorem M_aastore {k i k' i' : Nat} {x : Int32} (hk : 10 ≤ k) (hk2 : k < 42) (hm : mref k 0 = true) (hmay : mmay k k' = true) (hf : ph = false ∨ mfin k i x.toNatClampNeg = none) (hx : Ix x (mlen Γ.2.1 k)) (hd : decode y.2.1 pc = .ok (.aastore, 1))
    (kk : M ph Γ y d mc ms kc ks Q (pc + 1) L S (sR σ k i x.toNatClampNeg (some (k', i')))) : M ph Γ y d mc ms kc ks Q pc L (vq (some (k', i')) :: vi x :: vq (some (k, i)) :: S) σ := by
  intro p l e s m args below meth c H locs ad0 ad ls st hc hG hst he hR hS hB hl hkk
  obtain ⟨v, st1, rfl, hv, hk1⟩ := mk_r hkk
  obtain ⟨st2, rfl, hk2'⟩ := mk_i hk1
  obtain ⟨q, st', rfl, hq, hk'⟩ := mk_r hk2'
  obtain ⟨⟨cell, c1, c2, c3⟩, c4⟩ := hR.2.1 k i q hq
  obtain ⟨⟨cellV, v1, v2, -⟩, -⟩ := hR.2.1 k' i' v hv
  obtain ⟨r, hr, comp, kcm, g1, g2, g3⟩ := mmay_spec hG hmay
  have hV : cellV.cls = Γ.2.2.1 k' ∧ cellV.vm = .none := by
    unfold mhdr at v2
    rw [if_pos (mcls_lt hr)] at v2
    exact v2
  obtain ⟨-, -, kV, hkV, -⟩ := hG.2.2.1 k' r hr
  unfold mhdr at c2
  rw [if_neg (by omega)] at c2
  have hpl : mpl Γ k x.toNatClampNeg = x.toNatClampNeg := by unfold mpl; rw [if_neg (by omega)]
  obtain ⟨kA, comp', b1, b2, b3⟩ := c2.2.2.2 hm
  cases g1.symm.trans b3
  rw [mety_ref hm] at b2
  refine W.aast hc.1 hc.2.1 c1 c2.1.1 c2.2.1 b1 b2 rfl g2 ⟨hx.1, Nat.lt_of_lt_of_le hx.2 c2.2.2.1.1⟩ v1 (fun z h => by rw [hV.2] at h; cases h) (by rw [hV.1]; exact hkV) (by rw [hV.1]; exact g3) rfl rfl hd fun H' e1 e2 e3 => ?_
  exact kk p l e s m args below meth c H' _ ad0 ad ls _ hc hG hst he (hR.put hG hk2 hq c1 hx.2 (w := vq (some (k', i'))) (v := .ref v) (by simp [mv, hv]) (sv_sR (by rw [mref_arr hk]; exact hm) hf) (fun _ _ _ h => sv_sR_ne h) (fun _ => rfl) (by rw [hpl]; exact e1) e2 e3) (hS.put e2 e3 (c4 hk2).1) hB hl hk'
def minst (k : Nat) (nm : String) : Option Int32 := if nm = "PlatePeas$Knife" then (if k = 0 then some 0 else if k = 1 then some 1 else if k = 5 then some 1 else none) else if nm = "PlatePeas$Spoon" then (if k = 0 then some 0 else if k = 1 then some 0 else if k = 5 then some 1 else none) else none
theorem M_instanceof {k i idx : Nat} {nm : String} {r : Int32} (hr : minst k nm = some r) (h1 : Cond.classLink y.1.cls idx nm ∈ lw_tbl) (hd : decode y.2.1 pc = .ok (.instanceof idx, 3)) (kk : M ph Γ y d mc ms kc ks Q (pc + 3) L (vi r :: S) σ) : M ph Γ y d mc ms kc ks Q pc L (vq (some (k, i)) :: S) σ := by
  intro p l e s m args below meth c H locs ad0 ad ls st hc hG hst he hR hS hB hl hkk
  obtain ⟨q, st', rfl, hq, hk'⟩ := mk_r hkk
  obtain ⟨⟨cell, c1, c2, -⟩, -⟩ := hR.2.1 k i q hq
  have K : W p l e (mRm d mc ms) s m args below meth c H locs kc ks (MQ below (mQ ph Γ Q ad0) args s mc ms (mA Γ)) (F0 m (pc + 3) ls (.int r :: st')) := kk p l e s m args below meth c H locs ad0 ad ls _ hc hG hst he hR hS hB hl (by simp [mv, hk'])
  have hlk := hG.1 _ h1 rfl args
  obtain ⟨k1, k2, k3⟩ := hG.2.2.2.2.1
  obtain ⟨n1, n2, n3⟩ := hG.2.2.2.2.2
  have rc : ∀ (n : Nat) (w : vw_C), vwCl[n]? = some w → k = n → ∃ cell : Cell, H[q]? = some cell ∧ cell.vm.isStatics = false ∧ s.vm.findClass w.1 = some cell.cls := fun n w hw e0 => by
    subst e0
    unfold mhdr at c2
    rw [if_pos (mcls_lt hw)] at c2
    exact ⟨cell, c1, by rw [c2.2]; rfl, by rw [c2.1]; exact (hG.2.2.1 k w hw).2.1⟩
  unfold minst at hr
  split at hr
  · rename_i e1; subst e1
    split at hr
    · rename_i e0; cases hr; exact va_instNo hc.1 hc.2.1 hc.2.2.2.2.1 hlk n1 (rc 0 _ rfl e0) hd K
    · split at hr
      · rename_i e0; cases hr; exact va_instS hc.1 hc.2.1 hc.2.2.2.2.1 hlk (hG.2.2.1 1 _ rfl).2 (rc 1 _ rfl e0) hd K
      · split at hr
        · rename_i e0; cases hr; exact va_instY hc.1 hc.2.1 hc.2.2.2.2.1 hlk k3 (rc 5 _ rfl e0) hd K
        · cases hr
  · split at hr
    · rename_i e1; subst e1
      split at hr
      · rename_i e0; cases hr; exact va_instNo hc.1 hc.2.1 hc.2.2.2.2.1 hlk n2 (rc 0 _ rfl e0) hd K
      · split at hr
        · rename_i e0; cases hr; exact va_instNo hc.1 hc.2.1 hc.2.2.2.2.1 hlk n3 (rc 1 _ rfl e0) hd K
        · split at hr
          · rename_i e0; cases hr; exact va_instS hc.1 hc.2.1 hc.2.2.2.2.1 hlk (hG.2.2.1 5 _ rfl).2 (rc 5 _ rfl e0) hd K
          · cases hr
    · cases hr
theorem M_objInit {k i idx : Nat} (hk : k < 10) (h1 : Cond.methodLink y.1.cls idx Lib.objectInit ∈ lw_tbl) (h2 : Cond.instanceMethod Lib.objectInit ∈ lw_tbl) (h3 : Cond.code Lib.objectInit ⟨#[0xb1]⟩ 1 none ∈ lw_tbl) (hcat : (S.map mcat).sum ≤ 8) (hdd : 1 ≤ d) (hd : decode y.2.1 pc = .ok (.invokespecial idx, 3)) (kk : M ph Γ y d mc ms kc ks Q (pc + 3) L S σ) : M ph Γ y d mc ms kc ks Q pc L (vq (some (k, i)) :: S) σ := by
  intro p l e s m args below meth c H locs ad0 ad ls st hc hG hst he hR hS hB hl hkk
  obtain ⟨q, st', rfl, hq, hk'⟩ := mk_r hkk
  refine W.objInit hc.1 hc.2.1 hc.2.2.2.2.1 (hG.1 _ h1 rfl args) (hG.1 _ h2 rfl args) (hG.1 _ h3 rfl args) rfl (hl.1.1.trans hc.2.2.2.1.symm) rfl hd hdd (by
    have hcs := mcatS hk'
    show 2 * 0 + (st'.map fun v => v.category).sum + 12 ≤ 64 * d
    rw [hcs]; omega) ?_
  exact kk p l e s m args below meth c H locs ad0 ad ls _ hc hG hst he hR hS hB hl hk'
theorem M_max {a b : Int32} {idx : Nat} (h1 : Cond.methodLink y.1.cls idx Lib.Math.max.name ∈ lw_tbl) (h2 : Cond.static Lib.Math.max.name ∈ lw_tbl) (h3 : Cond.initialized "java/lang/Math" ∈ lw_tbl) (h4 : Cond.code Lib.Math.max.name Lib.Math.max.code 2 (some .int) ∈ lw_tbl) (hcat : (S.map mcat).sum ≤ 8) (hdd : 1 ≤ d) (hkc : kc ≤ mc) (hks : ks ≤ ms) (hd : decode y.2.1 pc = .ok (.invokestatic idx, 3))
    (kk : M ph Γ y d mc ms kc ks Q (pc + 3) L (vi (if a < b then b else a) :: S) σ) : M ph Γ y d mc ms kc ks Q pc L (vi b :: vi a :: S) σ := by
  intro p l e s m args below meth c H locs ad0 ad ls st hc hG hst he hR hS hB hl hkk
  obtain ⟨st1, rfl, hk1⟩ := mk_i hkk
  obtain ⟨st2, rfl, hk2⟩ := mk_i hk1
  exact va_mmax hc.1 hc.2.1 (hc.2.2.2.1.trans hl.1.1.symm) hc.2.2.2.2.1 (hG.1 _ h1 rfl args) (hG.1 _ h2 rfl args) (hG.1 _ h3 rfl args) (hG.1 _ h4 rfl args) hdd (by rw [mcatS hk2]; show _ + 13 ≤ 64 * d; omega) hkc hks hd (kk p l e s m args below meth c H locs ad0 ad ls _ hc hG hst he hR hS hB hl (by simp [mv, hk2]))
theorem M_min {a b : Int32} {idx : Nat} (h1 : Cond.methodLink y.1.cls idx Lib.Math.min.name ∈ lw_tbl) (h2 : Cond.static Lib.Math.min.name ∈ lw_tbl) (h3 : Cond.initialized "java/lang/Math" ∈ lw_tbl) (h4 : Cond.code Lib.Math.min.name Lib.Math.min.code 2 (some .int) ∈ lw_tbl) (hcat : (S.map mcat).sum ≤ 8) (hdd : 1 ≤ d) (hkc : kc ≤ mc) (hks : ks ≤ ms) (hd : decode y.2.1 pc = .ok (.invokestatic idx, 3))
    (kk : M ph Γ y d mc ms kc ks Q (pc + 3) L (vi (if b < a then b else a) :: S) σ) : M ph Γ y d mc ms kc ks Q pc L (vi b :: vi a :: S) σ := by
  intro p l e s m args below meth c H locs ad0 ad ls st hc hG hst he hR hS hB hl hkk
  obtain ⟨st1, rfl, hk1⟩ := mk_i hkk
  obtain ⟨st2, rfl, hk2⟩ := mk_i hk1
  exact va_mmin hc.1 hc.2.1 (hc.2.2.2.1.trans hl.1.1.symm) hc.2.2.2.2.1 (hG.1 _ h1 rfl args) (hG.1 _ h2 rfl args) (hG.1 _ h3 rfl args) (hG.1 _ h4 rfl args) hdd (by rw [mcatS hk2]; show _ + 13 ≤ 64 * d; omega) hkc hks hd (kk p l e s m args below meth c H locs ad0 ad ls _ hc hG hst he hR hS hB hl (by simp [mv, hk2]))
end Alloc1
