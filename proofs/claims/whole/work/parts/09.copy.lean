/-! System.arraycopy between rows of ints -/
def cpI (σ : Sto) (k i sp k2 i2 dp n : Nat) : Sto := (fun a b c => if a = k2 ∧ b = i2 ∧ dp ≤ c ∧ c < dp + n then σ.1 k i (sp + (c - dp)) else σ.1 a b c, σ.2.1, σ.2.2)
theorem Rep.upd {ph : Bool} {Γ : GG} {s : State} {ad : MA → Option Nat} {σ σ' : Sto} {H H' : Heap} {k i q : Nat} {cell' : Cell} (h : Rep ph Γ s ad σ H) (hk42 : k < 42) (hq : ad (k, i) = some q) (hN : ∀ k', gN σ' k' = gN σ k') (ho : ∀ k' i' j', ¬ (k' = k ∧ i' = i) → sv ph σ' k' i' j' = sv ph σ k' i' j')
    (e1 : H'[q]? = some cell') (e2 : H'.size = H.size) (e3 : ∀ x, x ≠ q → H'[x]? = H[x]?) (hh : mhdr Γ s k cell') (hs : ∀ j, j < mlen Γ.2.1 k → ∃ v, mv ad (sv ph σ' k i j) = some v ∧ cell'.slots[mpl Γ k j]? = some v) : Rep ph Γ s ad σ' H' := by
  refine ⟨h.1, fun k' i' q' hq' => ?_, by rw [e2]; exact h.2.2⟩
  obtain ⟨⟨c0, c1, c2, c3⟩, c4⟩ := h.2.1 k' i' q' hq'
  refine ⟨?_, fun hk => by rw [hN]; exact c4 hk⟩
  by_cases hqq : q' = q
  · subst hqq
    have hki := h.1 _ _ _ hk42 hq hq'
    simp only [Prod.mk.injEq] at hki
    obtain ⟨rfl, rfl⟩ := hki
    exact ⟨cell', e1, hh, hs⟩
  · have hne : ¬ (k' = k ∧ i' = i) := fun z => hqq (Option.some.inj (hq'.symm.trans (by rw [z.1, z.2]; exact hq)))
    exact ⟨c0, (e3 q' hqq).trans c1, c2, fun j' hj' => by rw [ho _ _ _ hne]; exact c3 j' hj'⟩
theorem nn_clamp {z : Int32} (hz : ¬ z < 0) : z.toInt = (z.toNatClampNeg : Int) := by
  have hz0 : (0 : Int) ≤ z.toInt := by
    have := Int32.not_lt.mp hz
    simpa using Int32.le_iff_toInt_le.mp this
  show z.toInt = ((z.toInt.toNat : Nat) : Int)
  omega
theorem nfw : nativeFrameWords "java/lang/System" "arraycopy" 5 + 11 ≤ 56 := by decide +kernel
section Copy1
variable {ph : Bool} {Γ : GG} {y : Mth} {d mc ms kc ks : Nat} {Q : Option MV → Sto → Prop} {pc : Nat} {L : List (Option MV)} {S : List MV} {σ : Sto}
theorem M_arraycopy {k i k2 i2 idx : Nat} {sp dp n : Int32} (hk : 10 ≤ k) (hm : mref k 0 = false) (hk2 : 10 ≤ k2) (hk3 : k2 < 42) (hm2 : mref k2 0 = false) (h1 : ¬ sp < 0) (h2 : ¬ dp < 0) (h3 : ¬ n < 0) (h4 : sp.toNatClampNeg + n.toNatClampNeg ≤ mlen Γ.2.1 k) (h5 : dp.toNatClampNeg + n.toNatClampNeg ≤ mlen Γ.2.1 k2)
    (w1 : Cond.methodLink y.1.cls idx arraycopyName ∈ lw_tbl) (w2 : Cond.native arraycopyName ∈ lw_tbl) (w3 : Cond.static arraycopyName ∈ lw_tbl) (w4 : Cond.initialized "java/lang/System" ∈ lw_tbl) (hcat : (S.map mcat).sum ≤ 8) (hdd : 1 ≤ d) (hd : decode y.2.1 pc = .ok (.invokestatic idx, 3))
    (kk : M ph Γ y d mc ms kc ks Q (pc + 3) L S (cpI σ k i sp.toNatClampNeg k2 i2 dp.toNatClampNeg n.toNatClampNeg)) : M ph Γ y d mc ms kc ks Q pc L (vi n :: vi dp :: vq (some (k2, i2)) :: vi sp :: vq (some (k, i)) :: S) σ := by
  intro p l e s m args below meth c H locs ad0 ad ls st hc hG hst he hR hS hB hl hkk
  obtain ⟨st1, rfl, hk1⟩ := mk_i hkk
  obtain ⟨st2, rfl, hk2'⟩ := mk_i hk1
  obtain ⟨q2, st3, rfl, hq2, hk3'⟩ := mk_r hk2'
  obtain ⟨st4, rfl, hk4⟩ := mk_i hk3'
  obtain ⟨q, st5, rfl, hq, hk5⟩ := mk_r hk4
  obtain ⟨⟨cs, c1, c2, c3⟩, -⟩ := hR.2.1 k i q hq
  obtain ⟨⟨cd, d1, d2, d3⟩, d4⟩ := hR.2.1 k2 i2 q2 hq2
  have d2' := d2
  unfold mhdr at c2 d2
  rw [if_neg (by omega)] at c2 d2
  have cint : ∀ j, j < mlen Γ.2.1 k → cs.slots[j]? = some (.int (gI σ k i j)) := fun j hj => by
    obtain ⟨v, v1, v2⟩ := c3 j hj
    unfold mpl at v2
    rw [if_neg (by omega)] at v2
    unfold sv at v1
    rw [mref_arr hk, hm] at v1
    cases v1
    exact v2
  obtain ⟨hco, kS, hkS, cmS, hkkS⟩ := c2.1
  obtain ⟨hdo, kD, hkD, cmD, hkkD⟩ := d2.1
  rw [mety_int hm] at hkkS
  rw [mety_int hm2] at hkkD
  intro T hT X
  obtain ⟨vm', X', step⟩ := X.arraycopy hc.1 hc.2.2.2.2.1 (hG.1 _ w1 rfl args) (hG.1 _ w2 rfl args) (hG.1 _ w3 rfl args) (hG.1 _ w4 rfl args) (src := q) (dst := q2) (cs := cs) (cd := cd) (srcPos := sp) (destPos := dp) (n := n) (by rw [hT]; exact c1) (by rw [hT]; exact d1)
    hco hdo c2.2.1 d2.2.1 hkS hkD hkkS hkkD (by decide) h1 h2 h3
    (by have hh := c2.2.2.1.1; rw [nn_clamp h1, nn_clamp h3]; omega)
    (by have hh := d2.2.2.1.1; rw [nn_clamp h2, nn_clamp h3]; omega)
    (fun vm₁ _ j hj => by
      have e0 : cs.slots.getD (sp.toNatClampNeg + j) .null = .int (gI σ k i (sp.toNatClampNeg + j)) := by
        rw [Array.getD_eq_getD_getElem?, cint _ (by omega)]
        rfl
      rw [e0]
      exact ⟨rfl, trivial⟩)
    (g := F0 m pc ls (.int n :: .int dp :: .ref q2 :: .int sp :: .ref q :: st5)) rfl (hl.1.1.trans hc.2.2.2.1.symm) (rest := st5) rfl (by rw [hc.2.1]; exact hd) hdd (by
      have h0 := mcatS hk5
      have h9 := nfw
      show 2 * 0 + (st5.map fun v => v.category).sum + _ ≤ 64 * d
      rw [h0]; omega)
  have hlt : q2 < H.size := (Array.getElem?_eq_some_iff.mp d1).1
  have hlen : (cs.stretch sp.toNatClampNeg n.toNatClampNeg).length = n.toNatClampNeg := by simp [Cell.stretch]
  have hfacts := cd.storeRun_facts dp.toNatClampNeg (cs.stretch sp.toNatClampNeg n.toNatClampNeg)
  have hget := fun j => cd.storeRun_get dp.toNatClampNeg (cs.stretch sp.toNatClampNeg n.toNatClampNeg) j (by rw [hlen]; exact Nat.le_trans h5 d2.2.2.1.1)
  have hRep : Rep ph Γ s ad (cpI σ k i sp.toNatClampNeg k2 i2 dp.toNatClampNeg n.toNatClampNeg) (H.setIfInBounds q2 (cd.storeRun dp.toNatClampNeg (cs.stretch sp.toNatClampNeg n.toNatClampNeg))) := by
    refine hR.upd (cell' := cd.storeRun dp.toNatClampNeg (cs.stretch sp.toNatClampNeg n.toNatClampNeg)) hk3 hq2 (fun _ => rfl) (fun k' i' j' hne => ?_) (by simp [Array.getElem?_setIfInBounds, hlt]) (by simp) (fun x hx => by simp [Array.getElem?_setIfInBounds, Ne.symm hx]) ?_ (fun j hj => ?_)
    · unfold sv
      split
      · rfl
      · congr 1
        show (if _ then _ else _) = _
        rw [if_neg (fun z => hne ⟨z.1, z.2.1⟩)]
        rfl
    · unfold mhdr
      rw [if_neg (by omega)]
      obtain ⟨f1, f2, f3, -⟩ := hfacts
      refine ⟨⟨fun z => by rw [f2]; exact hdo z, kD, by rw [f1]; exact hkD, cmD, by rw [mety_int hm2]; exact hkkD⟩, by rw [f2]; exact d2.2.1, by rw [f3]; exact d2.2.2.1, fun h => by rw [hm2] at h; cases h⟩
    · have hsv : sv ph (cpI σ k i sp.toNatClampNeg k2 i2 dp.toNatClampNeg n.toNatClampNeg) k2 i2 j = vi (gI (cpI σ k i sp.toNatClampNeg k2 i2 dp.toNatClampNeg n.toNatClampNeg) k2 i2 j) := by unfold sv; rw [mref_arr hk2, hm2]
      refine ⟨_, by rw [hsv]; rfl, ?_⟩
      unfold mpl
      rw [if_neg (by omega), hget j, hlen]
      by_cases hin : dp.toNatClampNeg ≤ j ∧ j < dp.toNatClampNeg + n.toNatClampNeg
      · rw [if_pos hin]
        have e5 : gI (cpI σ k i sp.toNatClampNeg k2 i2 dp.toNatClampNeg n.toNatClampNeg) k2 i2 j = gI σ k i (sp.toNatClampNeg + (j - dp.toNatClampNeg)) := by
          show (if _ then _ else _) = _
          rw [if_pos ⟨rfl, rfl, hin.1, hin.2⟩]
          rfl
        rw [e5]
        unfold Cell.stretch
        rw [List.getElem?_map, List.getElem?_range (by omega)]
        simp only [Option.map_some]
        rw [Array.getD_eq_getD_getElem?, cint _ (by omega)]
        rfl
      · rw [if_neg hin]
        have e5 : gI (cpI σ k i sp.toNatClampNeg k2 i2 dp.toNatClampNeg n.toNatClampNeg) k2 i2 j = gI σ k2 i2 j := by
          show (if _ then _ else _) = _
          rw [if_neg (fun z => hin z.2.2)]
          rfl
        rw [e5]
        obtain ⟨v, v1, v2⟩ := d3 j hj
        unfold mpl at v2
        rw [if_neg (by omega)] at v2
        unfold sv at v1
        rw [mref_arr hk2, hm2] at v1
        cases v1
        exact v2
  have hA2 : Γ.1 ≤ q2 := (d4 hk3).1
  obtain ⟨t, a1, b1⟩ := kk p l e s m args below meth c _ (locs ++ (cs.stretch sp.toNatClampNeg n.toNatClampNeg).zipIdx.map fun z => ⟨q2, dp.toNatClampNeg + z.2⟩) ad0 ad ls st5 hc hG hst he hRep
    ⟨by simp; exact hS.1, fun x g1 g2 => by
      have hne : x ≠ q2 := fun z => g2 (by rw [z]; exact hA2)
      rw [show (H.setIfInBounds q2 (cd.storeRun dp.toNatClampNeg (cs.stretch sp.toNatClampNeg n.toNatClampNeg)))[x]? = H[x]? by simp [Array.getElem?_setIfInBounds, Ne.symm hne]]
      exact hS.2.1 x g1 g2, fun z hz => by
      rcases List.mem_append.mp hz with h | h
      · exact hS.2.2 z h
      · obtain ⟨w, -, hw⟩ := List.mem_map.mp h
        rw [← hw]
        exact hA2⟩ hB hl hk5 _ (by rw [← hT]; rfl) X'
  exact ⟨t, step t a1, b1⟩
end Copy1
