/-! THE STEPS, one instruction a row -/
theorem mk_top {ad : MA → Option Nat} {v : MV} {S : List MV} {st : List Value} (h : (v :: S).map (mv ad) = st.map some) : ∃ (r : Value) (st' : List Value), st = r :: st' ∧ mv ad v = some r ∧ S.map (mv ad) = st'.map some := by
  cases st with
  | nil => simp at h
  | cons r st' =>
    simp only [List.map_cons, List.cons.injEq] at h
    exact ⟨r, st', rfl, h.1, h.2⟩
theorem mk_i {ad : MA → Option Nat} {x : Int32} {S : List MV} {st : List Value} (h : (vi x :: S).map (mv ad) = st.map some) : ∃ st' : List Value, st = .int x :: st' ∧ S.map (mv ad) = st'.map some := by
  obtain ⟨r, st', rfl, h1, h2⟩ := mk_top h
  cases h1
  exact ⟨st', rfl, h2⟩
theorem mk_l {ad : MA → Option Nat} {x : Int64} {S : List MV} {st : List Value} (h : (vl x :: S).map (mv ad) = st.map some) : ∃ st' : List Value, st = .long x :: st' ∧ S.map (mv ad) = st'.map some := by
  obtain ⟨r, st', rfl, h1, h2⟩ := mk_top h
  cases h1
  exact ⟨st', rfl, h2⟩
theorem mk_q {ad : MA → Option Nat} {x : Option MA} {r : Value} (h : mv ad (vq x) = some r) : (x = none ∧ r = .null) ∨ ∃ a q, x = some a ∧ ad a = some q ∧ r = .ref q := by
  cases x with
  | none => cases h; exact Or.inl ⟨rfl, rfl⟩
  | some a =>
    simp only [mv, Option.map_eq_some_iff] at h
    obtain ⟨q, h1, h2⟩ := h
    exact Or.inr ⟨a, q, rfl, h1, h2.symm⟩
theorem mk_r {ad : MA → Option Nat} {a : MA} {S : List MV} {st : List Value} (h : (vq (some a) :: S).map (mv ad) = st.map some) : ∃ (q : Nat) (st' : List Value), st = .ref q :: st' ∧ ad a = some q ∧ S.map (mv ad) = st'.map some := by
  obtain ⟨r, st', rfl, h1, h2⟩ := mk_top h
  rcases mk_q h1 with ⟨e, -⟩ | ⟨a', q, e, h3, rfl⟩
  · cases e
  · cases e; exact ⟨q, st', rfl, h3, h2⟩
section Steps1
variable {ph : Bool} {Γ : GG} {y : Mth} {d mc ms kc ks : Nat} {Q : Option MV → Sto → Prop} {pc : Nat} {L : List (Option MV)} {S : List MV} {σ : Sto}
theorem M_iconst {n : Int} (hd : decode y.2.1 pc = .ok (.iconst n, 1)) (k : M ph Γ y d mc ms kc ks Q (pc + 1) L (vi (Int32.ofInt n) :: S) σ) : M ph Γ y d mc ms kc ks Q pc L S σ := by
  intro p l e s m args below meth c H locs ad0 ad ls st hc hG hst he hR hS hB hl hk
  exact lv_iconst hc.1 hc.2.1 hd rfl (k p l e s m args below meth c H locs ad0 ad ls _ hc hG hst he hR hS hB hl (by simp [mv, hk]))
theorem M_bipush {n : Int} (hd : decode y.2.1 pc = .ok (.bipush n, 2)) (k : M ph Γ y d mc ms kc ks Q (pc + 2) L (vi (Int8.ofInt n).toInt32 :: S) σ) : M ph Γ y d mc ms kc ks Q pc L S σ := by
  intro p l e s m args below meth c H locs ad0 ad ls st hc hG hst he hR hS hB hl hk
  exact lv_bipush hc.1 hc.2.1 hd rfl (k p l e s m args below meth c H locs ad0 ad ls _ hc hG hst he hR hS hB hl (by simp [mv, hk]))
theorem M_sipush {n : Int} (hd : decode y.2.1 pc = .ok (.sipush n, 3)) (k : M ph Γ y d mc ms kc ks Q (pc + 3) L (vi (Int16.ofInt n).toInt32 :: S) σ) : M ph Γ y d mc ms kc ks Q pc L S σ := by
  intro p l e s m args below meth c H locs ad0 ad ls st hc hG hst he hR hS hB hl hk
  exact lv_sipush hc.1 hc.2.1 hd rfl (k p l e s m args below meth c H locs ad0 ad ls _ hc hG hst he hR hS hB hl (by simp [mv, hk]))
theorem M_lconst {n : Fin 2} (hd : decode y.2.1 pc = .ok (.lconst n, 1)) (k : M ph Γ y d mc ms kc ks Q (pc + 1) L (vl (Int64.ofNat n) :: S) σ) : M ph Γ y d mc ms kc ks Q pc L S σ := by
  intro p l e s m args below meth c H locs ad0 ad ls st hc hG hst he hR hS hB hl hk
  exact lv_lconst hc.1 hc.2.1 hd rfl (k p l e s m args below meth c H locs ad0 ad ls _ hc hG hst he hR hS hB hl (by simp [mv, hk]))
theorem M_null (hd : decode y.2.1 pc = .ok (.aconst_null, 1)) (k : M ph Γ y d mc ms kc ks Q (pc + 1) L (vq none :: S) σ) : M ph Γ y d mc ms kc ks Q pc L S σ := by
  intro p l e s m args below meth c H locs ad0 ad ls st hc hG hst he hR hS hB hl hk
  exact lv_null hc.1 hc.2.1 hd (k p l e s m args below meth c H locs ad0 ad ls _ hc hG hst he hR hS hB hl (by simp [mv, hk]))
theorem M_iload_n {n : Fin 4} {x : Int32} (hd : decode y.2.1 pc = .ok (.iload_n n, 1)) (hL : L[(n : Nat)]? = some (some (vi x))) (k : M ph Γ y d mc ms kc ks Q (pc + 1) L (vi x :: S) σ) : M ph Γ y d mc ms kc ks Q pc L S σ := by
  intro p l e s m args below meth c H locs ad0 ad ls st hc hG hst he hR hS hB hl hk
  obtain ⟨rv, h1, h2⟩ := hl.2.2 _ _ hL
  cases h1
  exact lv_iload_n hc.1 hc.2.1 hd rfl h2 (k p l e s m args below meth c H locs ad0 ad ls _ hc hG hst he hR hS hB hl (by simp [mv, hk]))
theorem M_iload {n : Nat} {x : Int32} (hd : decode y.2.1 pc = .ok (.iload n, 2)) (hL : L[n]? = some (some (vi x))) (k : M ph Γ y d mc ms kc ks Q (pc + 2) L (vi x :: S) σ) : M ph Γ y d mc ms kc ks Q pc L S σ := by
  intro p l e s m args below meth c H locs ad0 ad ls st hc hG hst he hR hS hB hl hk
  obtain ⟨rv, h1, h2⟩ := hl.2.2 _ _ hL
  cases h1
  exact lv_iload hc.1 hc.2.1 hd h2 (k p l e s m args below meth c H locs ad0 ad ls _ hc hG hst he hR hS hB hl (by simp [mv, hk]))
theorem M_lload_n {n : Fin 4} {x : Int64} (hd : decode y.2.1 pc = .ok (.lload_n n, 1)) (hL : L[(n : Nat)]? = some (some (vl x))) (k : M ph Γ y d mc ms kc ks Q (pc + 1) L (vl x :: S) σ) : M ph Γ y d mc ms kc ks Q pc L S σ := by
  intro p l e s m args below meth c H locs ad0 ad ls st hc hG hst he hR hS hB hl hk
  obtain ⟨rv, h1, h2⟩ := hl.2.2 _ _ hL
  cases h1
  exact lv_lload_n hc.1 hc.2.1 hd rfl h2 (k p l e s m args below meth c H locs ad0 ad ls _ hc hG hst he hR hS hB hl (by simp [mv, hk]))
theorem M_lload {n : Nat} {x : Int64} (hd : decode y.2.1 pc = .ok (.lload n, 2)) (hL : L[n]? = some (some (vl x))) (k : M ph Γ y d mc ms kc ks Q (pc + 2) L (vl x :: S) σ) : M ph Γ y d mc ms kc ks Q pc L S σ := by
  intro p l e s m args below meth c H locs ad0 ad ls st hc hG hst he hR hS hB hl hk
  obtain ⟨rv, h1, h2⟩ := hl.2.2 _ _ hL
  cases h1
  exact lv_lload hc.1 hc.2.1 hd h2 (k p l e s m args below meth c H locs ad0 ad ls _ hc hG hst he hR hS hB hl (by simp [mv, hk]))
theorem M_aload_n {n : Fin 4} {x : Option MA} (hd : decode y.2.1 pc = .ok (.aload_n n, 1)) (hL : L[(n : Nat)]? = some (some (vq x))) (k : M ph Γ y d mc ms kc ks Q (pc + 1) L (vq x :: S) σ) : M ph Γ y d mc ms kc ks Q pc L S σ := by
  intro p l e s m args below meth c H locs ad0 ad ls st hc hG hst he hR hS hB hl hk
  obtain ⟨rv, h1, h2⟩ := hl.2.2 _ _ hL
  have hk' : (vq x :: S).map (mv ad) = (rv :: st).map some := by simp only [List.map_cons, h1, hk]
  rcases mk_q h1 with ⟨-, rfl⟩ | ⟨a, q, -, -, rfl⟩
  · exact lv_aload_nN hc.1 hc.2.1 hd rfl h2 (k p l e s m args below meth c H locs ad0 ad ls _ hc hG hst he hR hS hB hl hk')
  · exact lv_aload_n hc.1 hc.2.1 hd rfl h2 (k p l e s m args below meth c H locs ad0 ad ls _ hc hG hst he hR hS hB hl hk')
theorem M_aload {n : Nat} {x : Option MA} (hd : decode y.2.1 pc = .ok (.aload n, 2)) (hL : L[n]? = some (some (vq x))) (k : M ph Γ y d mc ms kc ks Q (pc + 2) L (vq x :: S) σ) : M ph Γ y d mc ms kc ks Q pc L S σ := by
  intro p l e s m args below meth c H locs ad0 ad ls st hc hG hst he hR hS hB hl hk
  obtain ⟨rv, h1, h2⟩ := hl.2.2 _ _ hL
  have hk' : (vq x :: S).map (mv ad) = (rv :: st).map some := by simp only [List.map_cons, h1, hk]
  rcases mk_q h1 with ⟨-, rfl⟩ | ⟨a, q, -, -, rfl⟩
  · exact lv_aloadN hc.1 hc.2.1 hd h2 (k p l e s m args below meth c H locs ad0 ad ls _ hc hG hst he hR hS hB hl hk')
  · exact lv_aload hc.1 hc.2.1 hd h2 (k p l e s m args below meth c H locs ad0 ad ls _ hc hG hst he hR hS hB hl hk')
/-- the locals as the kit's list -/
def lvs (ad : MA → Option Nat) (L : List (Option MV)) : List (Nat × Value) := L.zipIdx.filterMap (fun q => (q.1.bind (mv ad)).map (fun r => (q.2, r)))
theorem lvs_mem {ad : MA → Option Nat} {L : List (Option MV)} {k : Nat} {r : Value} : (k, r) ∈ lvs ad L ↔ ∃ v, L[k]? = some (some v) ∧ mv ad v = some r := by
  unfold lvs
  rw [List.mem_filterMap]
  constructor
  · rintro ⟨⟨o, j⟩, h1, h2⟩
    rw [List.mem_zipIdx_iff_getElem?] at h1
    simp only [Option.map_eq_some_iff, Option.bind_eq_some_iff, Prod.mk.injEq] at h2
    obtain ⟨r', ⟨v, h3, h4⟩, h5, h6⟩ := h2
    subst h3 h5 h6
    exact ⟨v, h1, h4⟩
  · rintro ⟨v, h1, h2⟩
    exact ⟨(some v, k), List.mem_zipIdx_iff_getElem?.mpr h1, by simp [h2]⟩
theorem mloc.has {ad : MA → Option Nat} {ls : Array Slot} {n : Nat} {L : List (Option MV)} (h : mloc ad ls n L) : lv_has ls n (lvs ad L) := by
  refine ⟨h.1.1, h.2.1, fun q hq => ?_⟩
  obtain ⟨v, h1, h2⟩ := lvs_mem.mp (show (q.1, q.2) ∈ _ from hq)
  obtain ⟨rv, h3, h4⟩ := h.2.2 _ _ h1
  cases h2.symm.trans h3
  exact h4
/-- a value of one slot may be stored at i: no long stands just ahead of it -/
def mfree (L : List (Option MV)) (i : Nat) : Bool := Nat.blt i L.length && (match i with
  | 0 => true
  | j + 1 => match L[j]? with
    | some (some (.inr (.inl _))) => false
    | _ => true)
theorem mv_cat1 {ad : MA → Option Nat} {v : MV} {r : Value} (h : mv ad v = some r) : r.category = mcat v := by
  rcases v with x | x | (_ | a)
  · cases h; rfl
  · cases h; rfl
  · cases h; rfl
  · simp only [mv, Option.map_eq_some_iff] at h
    obtain ⟨q, h1, rfl⟩ := h
    rfl
theorem mloc.set {ad : MA → Option Nat} {ls' : Array Slot} {n i : Nat} {L : List (Option MV)} {v : MV} {r : Value} (hv : mv ad v = some r) (hi : mfree L i = true) (hn : L.length = n)
    (h : lv_has ls' n ((i, r) :: (lvs ad L).filter (fun q => !(q.1 == i) && !(q.1 + 1 == i && q.2.category == 2)))) (hm : ∀ (k : Nat) (w : MV), L[k]? = some (some w) → ∃ rw, mv ad w = some rw) : mloc ad ls' n (L.set i (some v)) := by
  have hi1 : i < L.length := by
    have := (Bool.and_eq_true _ _ ▸ hi).1
    exact Nat.blt_eq.mp this
  refine ⟨⟨h.1, by rw [List.length_set]; exact hn⟩, h.2.1, fun k w hk => ?_⟩
  by_cases hki : k = i
  · subst hki
    rw [List.getElem?_set_self hi1] at hk
    cases hk
    exact ⟨r, hv, h.2.2 (k, r) List.mem_cons_self⟩
  · rw [List.getElem?_set_ne (Ne.symm hki)] at hk
    obtain ⟨rw, hrw⟩ := hm k w hk
    refine ⟨rw, hrw, h.2.2 (k, rw) (List.mem_cons_of_mem _ (List.mem_filter.mpr ⟨lvs_mem.mpr ⟨w, hk, hrw⟩, ?_⟩))⟩
    simp only [Bool.and_eq_true, Bool.not_eq_true', beq_eq_false_iff_ne, ne_eq, Bool.and_eq_false_iff]
    refine ⟨hki, ?_⟩
    by_cases hj : k + 1 = i
    · right
      subst hj
      have h2 := (Bool.and_eq_true _ _ ▸ hi).2
      rw [mv_cat1 hrw]
      rcases w with x | x | x
      · simp [mcat]
      · simp [hk] at h2
      · simp [mcat]
    · exact Or.inl hj
theorem mloc.val {ad : MA → Option Nat} {ls : Array Slot} {n : Nat} {L : List (Option MV)} (h : mloc ad ls n L) : ∀ (k : Nat) (w : MV), L[k]? = some (some w) → ∃ rw, mv ad w = some rw := fun k w hk => by
  obtain ⟨rv, h1, -⟩ := h.2.2 k w hk
  exact ⟨rv, h1⟩
theorem mfree.lt {L : List (Option MV)} {i n : Nat} (hi : mfree L i = true) (hn : L.length = n) : i < n := by
  have := (Bool.and_eq_true _ _ ▸ hi).1
  rw [← hn]; exact Nat.blt_eq.mp this
theorem M_istore_n {n : Fin 4} {x : Int32} (hd : decode y.2.1 pc = .ok (.istore_n n, 1)) (hL : mfree L n = true) (k : M ph Γ y d mc ms kc ks Q (pc + 1) (L.set n (some (vi x))) S σ) : M ph Γ y d mc ms kc ks Q pc L (vi x :: S) σ := by
  intro p l e s m args below meth c H locs ad0 ad ls st hc hG hst he hR hS hB hl hk
  obtain ⟨st', rfl, hk'⟩ := mk_i hk
  exact lv_istore_n hc.1 hc.2.1 hd rfl hl.has (mfree.lt hL hl.1.2) rfl (fun ls' h' => k p l e s m args below meth c H locs ad0 ad ls' _ hc hG hst he hR hS hB (mloc.set rfl hL hl.1.2 h' hl.val) hk')
theorem M_istore {n : Nat} {x : Int32} (hd : decode y.2.1 pc = .ok (.istore n, 2)) (hL : mfree L n = true) (k : M ph Γ y d mc ms kc ks Q (pc + 2) (L.set n (some (vi x))) S σ) : M ph Γ y d mc ms kc ks Q pc L (vi x :: S) σ := by
  intro p l e s m args below meth c H locs ad0 ad ls st hc hG hst he hR hS hB hl hk
  obtain ⟨st', rfl, hk'⟩ := mk_i hk
  exact lv_istore hc.1 hc.2.1 hd hl.has (mfree.lt hL hl.1.2) rfl (fun ls' h' => k p l e s m args below meth c H locs ad0 ad ls' _ hc hG hst he hR hS hB (mloc.set rfl hL hl.1.2 h' hl.val) hk')
theorem M_astore_n {n : Fin 4} {x : Option MA} (hd : decode y.2.1 pc = .ok (.astore_n n, 1)) (hL : mfree L n = true) (k : M ph Γ y d mc ms kc ks Q (pc + 1) (L.set n (some (vq x))) S σ) : M ph Γ y d mc ms kc ks Q pc L (vq x :: S) σ := by
  intro p l e s m args below meth c H locs ad0 ad ls st hc hG hst he hR hS hB hl hk
  obtain ⟨r, st', rfl, h1, hk'⟩ := mk_top hk
  rcases mk_q h1 with ⟨-, rfl⟩ | ⟨a, q, -, -, rfl⟩
  · exact lv_astore_nN hc.1 hc.2.1 hd rfl hl.has (mfree.lt hL hl.1.2) rfl (fun ls' h' => k p l e s m args below meth c H locs ad0 ad ls' _ hc hG hst he hR hS hB (mloc.set h1 hL hl.1.2 h' hl.val) hk')
  · exact lv_astore_n hc.1 hc.2.1 hd rfl hl.has (mfree.lt hL hl.1.2) rfl (fun ls' h' => k p l e s m args below meth c H locs ad0 ad ls' _ hc hG hst he hR hS hB (mloc.set h1 hL hl.1.2 h' hl.val) hk')
theorem M_astore {n : Nat} {x : Option MA} (hd : decode y.2.1 pc = .ok (.astore n, 2)) (hL : mfree L n = true) (k : M ph Γ y d mc ms kc ks Q (pc + 2) (L.set n (some (vq x))) S σ) : M ph Γ y d mc ms kc ks Q pc L (vq x :: S) σ := by
  intro p l e s m args below meth c H locs ad0 ad ls st hc hG hst he hR hS hB hl hk
  obtain ⟨r, st', rfl, h1, hk'⟩ := mk_top hk
  rcases mk_q h1 with ⟨-, rfl⟩ | ⟨a, q, -, -, rfl⟩
  · exact lv_astoreN hc.1 hc.2.1 hd hl.has (mfree.lt hL hl.1.2) rfl (fun ls' h' => k p l e s m args below meth c H locs ad0 ad ls' _ hc hG hst he hR hS hB (mloc.set h1 hL hl.1.2 h' hl.val) hk')
  · exact lv_astore hc.1 hc.2.1 hd hl.has (mfree.lt hL hl.1.2) rfl (fun ls' h' => k p l e s m args below meth c H locs ad0 ad ls' _ hc hG hst he hR hS hB (mloc.set h1 hL hl.1.2 h' hl.val) hk')
theorem M_iinc {n : Nat} {z : Int} {x : Int32} (hd : decode y.2.1 pc = .ok (.iinc n z, 3)) (hL : mfree L n = true) (hx : L[n]? = some (some (vi x))) (k : M ph Γ y d mc ms kc ks Q (pc + 3) (L.set n (some (vi (x + Int32.ofInt z)))) S σ) : M ph Γ y d mc ms kc ks Q pc L S σ := by
  intro p l e s m args below meth c H locs ad0 ad ls st hc hG hst he hR hS hB hl hk
  obtain ⟨j, hj⟩ := List.getElem?_of_mem (lvs_mem.mpr ⟨vi x, hx, (rfl : mv ad (vi x) = some (.int x))⟩)
  exact lv_iinc hc.1 hc.2.1 hd hl.has hj rfl (mfree.lt hL hl.1.2) rfl (fun ls' h' => k p l e s m args below meth c H locs ad0 ad ls' _ hc hG hst he hR hS hB (mloc.set rfl hL hl.1.2 h' hl.val) hk)
end Steps1
