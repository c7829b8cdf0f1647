/-! rules for methods that make objects: what is made is counted -/
theorem mref_e0 (j : Nat) : mref 0 j = false := by
  rcases j with _ | _ | j <;> simp [mref, mobjR]
theorem mref_e1 (j : Nat) : mref 1 j = false := by
  rcases j with _ | _ | j <;> simp [mref, mobjR]
theorem mref_e5 (j : Nat) : mref 5 j = false := by
  rcases j with _ | _ | j <;> simp [mref, mobjR]
section ARules
variable {ph : Bool} {Γ : GG} {y : Mth} {d mc ms kc ks : Nat} {Q : Option MV → Sto → Prop} {pc : Nat} {L : List (Option MV)} {S : List MV} {σ : Sto}
theorem r_new {idx : Nat} {r : vw_C} (k0 N i kc' ks' pn : Nat) (hd : decode y.2.1 pc = .ok (.new idx, 3)) (hp' : pc + 3 = pn) (hr : vwCl[k0]? = some r) (hN : r.2.2 = N) (hp : mplain ph k0) (h1 : Cond.classLink y.1.cls idx r.1 ∈ lw_tbl) (h2 : Cond.instantiable r.1 r.2.2 ∈ lw_tbl) (h3 : Cond.initialized r.1 ∈ lw_tbl) (hi : gN σ k0 = i) (e1 : kc + 1 = kc') (e2 : ks + N = ks') (hkc : kc' ≤ mc) (hks : ks' ≤ ms)
    (kk : M ph Γ y d mc ms kc' ks' Q pn L (vq (some (k0, i)) :: S) (sN σ k0)) : M ph Γ y d mc ms kc ks Q pc L S σ := by
  subst hi; subst hN; subst e1; subst e2; subst hp'
  exact M_new hr hp h1 h2 h3 hd hkc hks kk
theorem r_newarr {n : Int32} (k0 N i kc' ks' pn : Nat) (hd : decode y.2.1 pc = .ok (.newarray .int, 2)) (hp' : pc + 2 = pn) (hk : 10 ≤ k0) (hk2 : k0 < 42) (hm : mref k0 0 = false) (hw : Cond.arrayClass .int ∈ lw_tbl) (hn : ¬ n < 0) (hN : n.toNatClampNeg = N) (hlen : mlen Γ.2.1 k0 = N) (hb4 : N * 4 ≤ 536870912) (hi : gN σ k0 = i) (e1 : kc + 1 = kc') (e2 : ks + N = ks') (hkc : kc' ≤ mc) (hks : ks' ≤ ms)
    (kk : M ph Γ y d mc ms kc' ks' Q pn L (vq (some (k0, i)) :: S) (sN σ k0)) : M ph Γ y d mc ms kc ks Q pc L (vi n :: S) σ := by
  subst hi; subst e1; subst e2; subst hp'
  exact M_newarr hk hk2 hm hw hn hN hlen hb4 hd hkc hks kk
theorem r_anew {n : Int32} {idx : Nat} (k0 N i kc' ks' pn : Nat) (hd : decode y.2.1 pc = .ok (.anewarray idx, 3)) (hp' : pc + 3 = pn) (hph : ph = false) (hk : 10 ≤ k0) (hk2 : k0 < 42) (hm : mref k0 0 = true) (hw : Cond.classLink y.1.cls idx (melc k0) ∈ lw_tbl) (hn : ¬ n < 0) (hN : n.toNatClampNeg = N) (hlen : mlen Γ.2.1 k0 = N) (hb4 : N * 4 ≤ 536870912) (hi : gN σ k0 = i) (e1 : kc + 1 = kc') (e2 : ks + N = ks') (hkc : kc' ≤ mc) (hks : ks' ≤ ms)
    (kk : M ph Γ y d mc ms kc' ks' Q pn L (vq (some (k0, i)) :: S) (sN σ k0)) : M ph Γ y d mc ms kc ks Q pc L (vi n :: S) σ := by
  subst hi; subst e1; subst e2; subst hp'
  exact M_anew hph hk hk2 hm hw hn hN hlen hb4 hd hkc hks kk
theorem r_aastore {k i k' i' : Nat} {x : Int32} (j n pn : Nat) (hd : decode y.2.1 pc = .ok (.aastore, 1)) (hp : pc + 1 = pn) (hk : 10 ≤ k) (hk2 : k < 42) (hm : mref k 0 = true) (hmay : mmay k k' = true) (hn : mlen Γ.2.1 k = n) (hx : Ix x n) (hj : x.toNatClampNeg = j) (hf : ph = false ∨ mfin k i j = none)
    (kk : M ph Γ y d mc ms kc ks Q pn L S (sR σ k i j (some (k', i')))) : M ph Γ y d mc ms kc ks Q pc L (vq (some (k', i')) :: vi x :: vq (some (k, i)) :: S) σ := by
  subst hp; subst hn; subst hj
  exact M_aastore hk hk2 hm hmay hf hx hd kk
/-- a call of a method that makes cells -/
theorem c_AI {β : Type} {y' : Mth} {C : String} {np d' : Nat} {f : Option (Int32 × Sto)} {g : Int32 → Sto → Option β} {K : β → Prop} (mc' ms' kc' ks' : Nat) (as rest : List MV) (pn : Nat) (hrun : mRun y pc y' C np) (hp : pc + 3 = pn) (h : Out (bI f g) K) (hC : ∀ K' : Int32 × Sto → Prop, Out f K' → Ct ph Γ y' d' mc' ms' as σ (QI K')) (hS : S = as.reverse ++ rest) (hlen : as.length = np) (hrec : mrecv C as = true) (hcat : Nat.ble (rest.map mcat).sum 8 = true) (hd : Nat.ble (d' + 1) d = true) (e1 : kc + mc' = kc') (e2 : ks + ms' = ks') (hkc : kc' ≤ mc) (hks : ks' ≤ ms)
    (kk : ∀ r σ', Out (g r σ') K → M ph Γ y d mc ms kc' ks' Q pn L (vi r :: rest) σ') : M ph Γ y d mc ms kc ks Q pc L S σ := by
  subst hp; subst e1; subst e2
  refine M_call hrun (hC _ (Out_bI h)) hS hlen hrec (Nat.le_of_ble_eq_true hcat) (Nat.le_of_ble_eq_true hd) hkc hks ?_
  rintro v σ' ⟨r, rfl, h⟩
  exact kk r σ' h
theorem c_AR {β : Type} {y' : Mth} {C : String} {np d' : Nat} {f : Option (Option MA × Sto)} {g : Option MA → Sto → Option β} {K : β → Prop} (mc' ms' kc' ks' : Nat) (as rest : List MV) (pn : Nat) (hrun : mRun y pc y' C np) (hp : pc + 3 = pn) (h : Out (bI f g) K) (hC : ∀ K' : Option MA × Sto → Prop, Out f K' → Ct ph Γ y' d' mc' ms' as σ (QR K')) (hS : S = as.reverse ++ rest) (hlen : as.length = np) (hrec : mrecv C as = true) (hcat : Nat.ble (rest.map mcat).sum 8 = true) (hd : Nat.ble (d' + 1) d = true) (e1 : kc + mc' = kc') (e2 : ks + ms' = ks') (hkc : kc' ≤ mc) (hks : ks' ≤ ms)
    (kk : ∀ r σ', Out (g r σ') K → M ph Γ y d mc ms kc' ks' Q pn L (vq r :: rest) σ') : M ph Γ y d mc ms kc ks Q pc L S σ := by
  subst hp; subst e1; subst e2
  refine M_call hrun (hC _ (Out_bI h)) hS hlen hrec (Nat.le_of_ble_eq_true hcat) (Nat.le_of_ble_eq_true hd) hkc hks ?_
  rintro v σ' ⟨r, rfl, h⟩
  exact kk r σ' h
theorem c_AV {β : Type} {y' : Mth} {C : String} {np d' : Nat} {f : Option Sto} {g : Sto → Option β} {K : β → Prop} (mc' ms' kc' ks' : Nat) (as rest : List MV) (pn : Nat) (hrun : mRun y pc y' C np) (hp : pc + 3 = pn) (h : Out (bV f g) K) (hC : ∀ K' : Sto → Prop, Out f K' → Ct ph Γ y' d' mc' ms' as σ (QV K')) (hS : S = as.reverse ++ rest) (hlen : as.length = np) (hrec : mrecv C as = true) (hcat : Nat.ble (rest.map mcat).sum 8 = true) (hd : Nat.ble (d' + 1) d = true) (e1 : kc + mc' = kc') (e2 : ks + ms' = ks') (hkc : kc' ≤ mc) (hks : ks' ≤ ms)
    (kk : ∀ σ', Out (g σ') K → M ph Γ y d mc ms kc' ks' Q pn L rest σ') : M ph Γ y d mc ms kc ks Q pc L S σ := by
  subst hp; subst e1; subst e2
  refine M_call hrun (hC _ (Out_bV h)) hS hlen hrec (Nat.le_of_ble_eq_true hcat) (Nat.le_of_ble_eq_true hd) hkc hks ?_
  rintro v σ' ⟨rfl, h⟩
  exact kk σ' h
end ARules
