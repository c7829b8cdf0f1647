/-! THE RULES as the generated rows use them: the next counter stands as a number, values stand plain; Out: what a function with a fault gives -/
def Out {α : Type} (o : Option α) (K : α → Prop) : Prop := ∃ r, o = some r ∧ K r
theorem Out_some {α : Type} {r : α} {K : α → Prop} (h : Out (some r) K) : K r := by
  obtain ⟨r', e, h⟩ := h
  cases e
  exact h
theorem Out_none {α : Type} {K : α → Prop} (h : Out (none : Option α) K) : False := by
  obtain ⟨r', e, -⟩ := h
  cases e
theorem Out_pos {α : Type} {c : Prop} {i : Decidable c} {A B : Option α} {K : α → Prop} (hc : c) (h : Out (@ite _ c i A B) K) : Out A K := by rwa [if_pos hc] at h
theorem Out_neg {α : Type} {c : Prop} {i : Decidable c} {A B : Option α} {K : α → Prop} (hc : ¬ c) (h : Out (@ite _ c i A B) K) : Out B K := by rwa [if_neg hc] at h
/-- what must hold, or there is a fault -/
theorem Out_grd {α : Type} {c : Prop} {i : Decidable c} {A : Option α} {K : α → Prop} (h : Out (@ite _ c i A none) K) : c ∧ Out A K := by
  by_cases hc : c
  · exact ⟨hc, Out_pos hc h⟩
  · exact absurd (Out_neg hc h) Out_none
theorem Out_bind {α β : Type} {o : Option α} {g : α → Option β} {K : β → Prop} (h : Out (o.bind g) K) : Out o (fun r => Out (g r) K) := by
  obtain ⟨r, e, hr⟩ := h
  cases o with
  | none => cases e
  | some a => exact ⟨a, rfl, r, e, hr⟩
theorem Out_mono {α : Type} {o : Option α} {K K' : α → Prop} (h : Out o K) (hk : ∀ r, K r → K' r) : Out o K' := by
  obtain ⟨r, e, hr⟩ := h
  exact ⟨r, e, hk r hr⟩
/-- a reference: nothing, or of a kind and an instance -/
def rcs {α : Type} (r : Option MA) (n : α) (f : Nat → Nat → α) : α := match r with
  | none => n
  | some (k, i) => f k i
/-- a reference that must be of a kind -/
def dr {α : Type} (k0 : Nat) (r : Option MA) (f : Nat → Option α) : Option α := match r with
  | none => none
  | some (k, i) => if k = k0 then f i else none
theorem Out_dr {α : Type} {k0 : Nat} {r : Option MA} {f : Nat → Option α} {K : α → Prop} (h : Out (dr k0 r f) K) : ∃ i, r = some (k0, i) ∧ Out (f i) K := by
  rcases r with _ | ⟨k, i⟩
  · exact absurd h Out_none
  · obtain ⟨e, h2⟩ := Out_grd (show Out (if k = k0 then f i else none) K from h)
    exact ⟨i, by rw [e], h2⟩
theorem Out_rcs {α : Type} {r : Option MA} {n : Option α} {f : Nat → Nat → Option α} {K : α → Prop} (h : Out (rcs r n f) K) : (r = none ∧ Out n K) ∨ ∃ k i, r = some (k, i) ∧ Out (f k i) K := by
  rcases r with _ | ⟨k, i⟩
  · exact Or.inl ⟨rfl, h⟩
  · exact Or.inr ⟨k, i, rfl, h⟩
/-- one of the three kinds of eaters -/
def fk {α : Type} (k : Nat) (a b c : Option α) : Option α := if k = 0 then a else if k = 1 then b else if k = 5 then c else none
theorem Out_fk {α : Type} {k : Nat} {a b c : Option α} {K : α → Prop} (h : Out (fk k a b c) K) : (k = 0 ∧ Out a K) ∨ (k = 1 ∧ Out b K) ∨ (k = 5 ∧ Out c K) := by
  unfold fk at h
  by_cases h0 : k = 0
  · exact Or.inl ⟨h0, Out_pos h0 h⟩
  · replace h := Out_neg h0 h
    by_cases h1 : k = 1
    · exact Or.inr (Or.inl ⟨h1, Out_pos h1 h⟩)
    · obtain ⟨h5, h⟩ := Out_grd (Out_neg h1 h)
      exact Or.inr (Or.inr ⟨h5, h⟩)
def bI {α β : Type} (o : Option (α × Sto)) (g : α → Sto → Option β) : Option β := match o with
  | none => none
  | some (r, σ) => g r σ
def bV {β : Type} (o : Option Sto) (g : Sto → Option β) : Option β := match o with
  | none => none
  | some σ => g σ
theorem Out_bI {α β : Type} {o : Option (α × Sto)} {g : α → Sto → Option β} {K : β → Prop} (h : Out (bI o g) K) : Out o (fun p => Out (g p.1 p.2) K) := by
  rcases o with _ | ⟨r, σ⟩
  · exact absurd h Out_none
  · exact ⟨(r, σ), rfl, h⟩
theorem Out_bV {β : Type} {o : Option Sto} {g : Sto → Option β} {K : β → Prop} (h : Out (bV o g) K) : Out o (fun p => Out (g p) K) := by
  rcases o with _ | σ
  · exact absurd h Out_none
  · exact ⟨σ, rfl, h⟩
def mmask (m : List Bool) (L : List (Option MV)) : List (Option MV) := List.zipWith (fun b v => match b with | true => v | false => none) m L
def QI (K : Int32 × Sto → Prop) : Option MV → Sto → Prop := fun v σ => ∃ r, v = some (vi r) ∧ K (r, σ)
def QL (K : Int64 × Sto → Prop) : Option MV → Sto → Prop := fun v σ => ∃ r, v = some (vl r) ∧ K (r, σ)
def QR (K : Option MA × Sto → Prop) : Option MV → Sto → Prop := fun v σ => ∃ r, v = some (vq r) ∧ K (r, σ)
def QV (K : Sto → Prop) : Option MV → Sto → Prop := fun v σ => v = none ∧ K σ
section Rules
variable {ph : Bool} {Γ : GG} {y : Mth} {d mc ms kc ks : Nat} {Q : Option MV → Sto → Prop} {pc : Nat} {L : List (Option MV)} {S : List MV} {σ : Sto}
theorem r_iconst {n : Int} (v : Int32) (pn : Nat) (hd : decode y.2.1 pc = .ok (.iconst n, 1)) (hp : pc + 1 = pn) (hv : Int32.ofInt n = v) (k : M ph Γ y d mc ms kc ks Q pn L (vi v :: S) σ) : M ph Γ y d mc ms kc ks Q pc L S σ := by
  subst hp
  subst hv; exact M_iconst hd k
theorem r_bipush {n : Int} (v : Int32) (pn : Nat) (hd : decode y.2.1 pc = .ok (.bipush n, 2)) (hp : pc + 2 = pn) (hv : (Int8.ofInt n).toInt32 = v) (k : M ph Γ y d mc ms kc ks Q pn L (vi v :: S) σ) : M ph Γ y d mc ms kc ks Q pc L S σ := by
  subst hp
  subst hv; exact M_bipush hd k
theorem r_sipush {n : Int} (v : Int32) (pn : Nat) (hd : decode y.2.1 pc = .ok (.sipush n, 3)) (hp : pc + 3 = pn) (hv : (Int16.ofInt n).toInt32 = v) (k : M ph Γ y d mc ms kc ks Q pn L (vi v :: S) σ) : M ph Γ y d mc ms kc ks Q pc L S σ := by
  subst hp
  subst hv; exact M_sipush hd k
theorem r_lconst {n : Fin 2} (v : Int64) (pn : Nat) (hd : decode y.2.1 pc = .ok (.lconst n, 1)) (hp : pc + 1 = pn) (hv : Int64.ofNat n = v) (k : M ph Γ y d mc ms kc ks Q pn L (vl v :: S) σ) : M ph Γ y d mc ms kc ks Q pc L S σ := by
  subst hp
  subst hv; exact M_lconst hd k
theorem r_null (pn : Nat) (hd : decode y.2.1 pc = .ok (.aconst_null, 1)) (hp : pc + 1 = pn) (k : M ph Γ y d mc ms kc ks Q pn L (vq none :: S) σ) : M ph Γ y d mc ms kc ks Q pc L S σ := by
  subst hp
  exact M_null hd k
theorem r_iload_n {n : Fin 4} {x : Int32} (pn : Nat) (hd : decode y.2.1 pc = .ok (.iload_n n, 1)) (hp : pc + 1 = pn) (hL : L[(n : Nat)]? = some (some (vi x))) (k : M ph Γ y d mc ms kc ks Q pn L (vi x :: S) σ) : M ph Γ y d mc ms kc ks Q pc L S σ := by
  subst hp
  exact M_iload_n hd hL k
theorem r_iload {n : Nat} {x : Int32} (pn : Nat) (hd : decode y.2.1 pc = .ok (.iload n, 2)) (hp : pc + 2 = pn) (hL : L[(n : Nat)]? = some (some (vi x))) (k : M ph Γ y d mc ms kc ks Q pn L (vi x :: S) σ) : M ph Γ y d mc ms kc ks Q pc L S σ := by
  subst hp
  exact M_iload hd hL k
theorem r_lload_n {n : Fin 4} {x : Int64} (pn : Nat) (hd : decode y.2.1 pc = .ok (.lload_n n, 1)) (hp : pc + 1 = pn) (hL : L[(n : Nat)]? = some (some (vl x))) (k : M ph Γ y d mc ms kc ks Q pn L (vl x :: S) σ) : M ph Γ y d mc ms kc ks Q pc L S σ := by
  subst hp
  exact M_lload_n hd hL k
theorem r_lload {n : Nat} {x : Int64} (pn : Nat) (hd : decode y.2.1 pc = .ok (.lload n, 2)) (hp : pc + 2 = pn) (hL : L[(n : Nat)]? = some (some (vl x))) (k : M ph Γ y d mc ms kc ks Q pn L (vl x :: S) σ) : M ph Γ y d mc ms kc ks Q pc L S σ := by
  subst hp
  exact M_lload hd hL k
theorem r_aload_n {n : Fin 4} {x : Option MA} (pn : Nat) (hd : decode y.2.1 pc = .ok (.aload_n n, 1)) (hp : pc + 1 = pn) (hL : L[(n : Nat)]? = some (some (vq x))) (k : M ph Γ y d mc ms kc ks Q pn L (vq x :: S) σ) : M ph Γ y d mc ms kc ks Q pc L S σ := by
  subst hp
  exact M_aload_n hd hL k
theorem r_aload {n : Nat} {x : Option MA} (pn : Nat) (hd : decode y.2.1 pc = .ok (.aload n, 2)) (hp : pc + 2 = pn) (hL : L[(n : Nat)]? = some (some (vq x))) (k : M ph Γ y d mc ms kc ks Q pn L (vq x :: S) σ) : M ph Γ y d mc ms kc ks Q pc L S σ := by
  subst hp
  exact M_aload hd hL k
theorem r_istore_n {n : Fin 4} {x : Int32} (L' : List (Option MV)) (pn : Nat) (hd : decode y.2.1 pc = .ok (.istore_n n, 1)) (hp : pc + 1 = pn) (hL : mfree L n = true) (hL' : L.set n (some (vi x)) = L') (k : M ph Γ y d mc ms kc ks Q pn L' S σ) : M ph Γ y d mc ms kc ks Q pc L (vi x :: S) σ := by
  subst hp
  subst hL'; exact M_istore_n hd hL k
theorem r_istore {n : Nat} {x : Int32} (L' : List (Option MV)) (pn : Nat) (hd : decode y.2.1 pc = .ok (.istore n, 2)) (hp : pc + 2 = pn) (hL : mfree L n = true) (hL' : L.set n (some (vi x)) = L') (k : M ph Γ y d mc ms kc ks Q pn L' S σ) : M ph Γ y d mc ms kc ks Q pc L (vi x :: S) σ := by
  subst hp
  subst hL'; exact M_istore hd hL k
theorem r_astore_n {n : Fin 4} {x : Option MA} (L' : List (Option MV)) (pn : Nat) (hd : decode y.2.1 pc = .ok (.astore_n n, 1)) (hp : pc + 1 = pn) (hL : mfree L n = true) (hL' : L.set n (some (vq x)) = L') (k : M ph Γ y d mc ms kc ks Q pn L' S σ) : M ph Γ y d mc ms kc ks Q pc L (vq x :: S) σ := by
  subst hp
  subst hL'; exact M_astore_n hd hL k
theorem r_astore {n : Nat} {x : Option MA} (L' : List (Option MV)) (pn : Nat) (hd : decode y.2.1 pc = .ok (.astore n, 2)) (hp : pc + 2 = pn) (hL : mfree L n = true) (hL' : L.set n (some (vq x)) = L') (k : M ph Γ y d mc ms kc ks Q pn L' S σ) : M ph Γ y d mc ms kc ks Q pc L (vq x :: S) σ := by
  subst hp
  subst hL'; exact M_astore hd hL k
theorem r_iinc {n : Nat} {z : Int} {x : Int32} (c : Int32) (L' : List (Option MV)) (pn : Nat) (hd : decode y.2.1 pc = .ok (.iinc n z, 3)) (hp : pc + 3 = pn) (hz : Int32.ofInt z = c) (hL : mfree L n = true) (hx : L[n]? = some (some (vi x))) (hL' : L.set n (some (vi (x + c))) = L') (k : M ph Γ y d mc ms kc ks Q pn L' S σ) : M ph Γ y d mc ms kc ks Q pc L S σ := by
  subst hp
  subst hz; subst hL'; exact M_iinc hd hL hx k
theorem r_iadd {a b : Int32} (pn : Nat) (hd : decode y.2.1 pc = .ok (.iadd, 1)) (hp : pc + 1 = pn) (k : M ph Γ y d mc ms kc ks Q pn L (vi (a + b) :: S) σ) : M ph Γ y d mc ms kc ks Q pc L (vi b :: vi a :: S) σ := by
  subst hp
  exact M_iadd hd k
theorem r_isub {a b : Int32} (pn : Nat) (hd : decode y.2.1 pc = .ok (.isub, 1)) (hp : pc + 1 = pn) (k : M ph Γ y d mc ms kc ks Q pn L (vi (a - b) :: S) σ) : M ph Γ y d mc ms kc ks Q pc L (vi b :: vi a :: S) σ := by
  subst hp
  exact M_isub hd k
theorem r_imul {a b : Int32} (pn : Nat) (hd : decode y.2.1 pc = .ok (.imul, 1)) (hp : pc + 1 = pn) (k : M ph Γ y d mc ms kc ks Q pn L (vi (a * b) :: S) σ) : M ph Γ y d mc ms kc ks Q pc L (vi b :: vi a :: S) σ := by
  subst hp
  exact M_imul hd k
theorem r_iand {a b : Int32} (pn : Nat) (hd : decode y.2.1 pc = .ok (.iand, 1)) (hp : pc + 1 = pn) (k : M ph Γ y d mc ms kc ks Q pn L (vi (a &&& b) :: S) σ) : M ph Γ y d mc ms kc ks Q pc L (vi b :: vi a :: S) σ := by
  subst hp
  exact M_iand hd k
theorem r_ior {a b : Int32} (pn : Nat) (hd : decode y.2.1 pc = .ok (.ior, 1)) (hp : pc + 1 = pn) (k : M ph Γ y d mc ms kc ks Q pn L (vi (a ||| b) :: S) σ) : M ph Γ y d mc ms kc ks Q pc L (vi b :: vi a :: S) σ := by
  subst hp
  exact M_ior hd k
theorem r_ishl {a b : Int32} (pn : Nat) (hd : decode y.2.1 pc = .ok (.ishl, 1)) (hp : pc + 1 = pn) (k : M ph Γ y d mc ms kc ks Q pn L (vi (a <<< (b &&& 31)) :: S) σ) : M ph Γ y d mc ms kc ks Q pc L (vi b :: vi a :: S) σ := by
  subst hp
  exact M_ishl hd k
theorem r_ishr {a b : Int32} (pn : Nat) (hd : decode y.2.1 pc = .ok (.ishr, 1)) (hp : pc + 1 = pn) (k : M ph Γ y d mc ms kc ks Q pn L (vi (a >>> (b &&& 31)) :: S) σ) : M ph Γ y d mc ms kc ks Q pc L (vi b :: vi a :: S) σ := by
  subst hp
  exact M_ishr hd k
theorem r_iushr {a b : Int32} (pn : Nat) (hd : decode y.2.1 pc = .ok (.iushr, 1)) (hp : pc + 1 = pn) (k : M ph Γ y d mc ms kc ks Q pn L (vi ((a.toUInt32 >>> (b.toUInt32 &&& Int32.toUInt32 31)).toInt32) :: S) σ) : M ph Γ y d mc ms kc ks Q pc L (vi b :: vi a :: S) σ := by
  subst hp
  exact M_iushr hd k
theorem r_idiv {a b : Int32} (pn : Nat) (hd : decode y.2.1 pc = .ok (.idiv, 1)) (hp : pc + 1 = pn) (hb0 : ¬ b = 0) (k : M ph Γ y d mc ms kc ks Q pn L (vi (a / b) :: S) σ) : M ph Γ y d mc ms kc ks Q pc L (vi b :: vi a :: S) σ := by
  subst hp
  exact M_idiv hd hb0 k
theorem r_irem {a b : Int32} (pn : Nat) (hd : decode y.2.1 pc = .ok (.irem, 1)) (hp : pc + 1 = pn) (hb0 : ¬ b = 0) (k : M ph Γ y d mc ms kc ks Q pn L (vi (a - a / b * b) :: S) σ) : M ph Γ y d mc ms kc ks Q pc L (vi b :: vi a :: S) σ := by
  subst hp
  exact M_irem hd hb0 k
theorem r_ineg {a : Int32} (pn : Nat) (hd : decode y.2.1 pc = .ok (.ineg, 1)) (hp : pc + 1 = pn) (k : M ph Γ y d mc ms kc ks Q pn L (vi (-a) :: S) σ) : M ph Γ y d mc ms kc ks Q pc L (vi a :: S) σ := by
  subst hp
  exact M_ineg hd k
theorem r_i2l {a : Int32} (pn : Nat) (hd : decode y.2.1 pc = .ok (.i2l, 1)) (hp : pc + 1 = pn) (k : M ph Γ y d mc ms kc ks Q pn L (vl a.toInt64 :: S) σ) : M ph Γ y d mc ms kc ks Q pc L (vi a :: S) σ := by
  subst hp
  exact M_i2l hd k
theorem r_i2b {a : Int32} (pn : Nat) (hd : decode y.2.1 pc = .ok (.i2b, 1)) (hp : pc + 1 = pn) (k : M ph Γ y d mc ms kc ks Q pn L (vi a.toInt8.toInt32 :: S) σ) : M ph Γ y d mc ms kc ks Q pc L (vi a :: S) σ := by
  subst hp
  exact M_i2b hd k
theorem r_i2s {a : Int32} (pn : Nat) (hd : decode y.2.1 pc = .ok (.i2s, 1)) (hp : pc + 1 = pn) (k : M ph Γ y d mc ms kc ks Q pn L (vi a.toInt16.toInt32 :: S) σ) : M ph Γ y d mc ms kc ks Q pc L (vi a :: S) σ := by
  subst hp
  exact M_i2s hd k
theorem r_lcmp {a b : Int64} (pn : Nat) (hd : decode y.2.1 pc = .ok (.lcmp, 1)) (hp : pc + 1 = pn) (k : M ph Γ y d mc ms kc ks Q pn L (vi (lg_cmp a b) :: S) σ) : M ph Γ y d mc ms kc ks Q pc L (vl b :: vl a :: S) σ := by
  subst hp
  exact M_lcmp hd k
theorem r_dup {v : MV} (pn : Nat) (hd : decode y.2.1 pc = .ok (.dup, 1)) (hp : pc + 1 = pn) (hv : mcat v = 1) (k : M ph Γ y d mc ms kc ks Q pn L (v :: v :: S) σ) : M ph Γ y d mc ms kc ks Q pc L (v :: S) σ := by
  subst hp
  exact M_dup hd hv k
theorem r_dup_x1 {v w : MV} (pn : Nat) (hd : decode y.2.1 pc = .ok (.dup_x1, 1)) (hp : pc + 1 = pn) (hv : mcat v = 1) (hw : mcat w = 1) (k : M ph Γ y d mc ms kc ks Q pn L (v :: w :: v :: S) σ) : M ph Γ y d mc ms kc ks Q pc L (v :: w :: S) σ := by
  subst hp
  exact M_dup_x1 hd hv hw k
theorem r_pop {v : MV} (pn : Nat) (hd : decode y.2.1 pc = .ok (.pop, 1)) (hp : pc + 1 = pn) (hv : mcat v = 1) (k : M ph Γ y d mc ms kc ks Q pn L S σ) : M ph Γ y d mc ms kc ks Q pc L (v :: S) σ := by
  subst hp
  exact M_pop hd hv k
theorem r_getI {x : Nat × Nat × List Nat × String × Nat} {k0 i : Nat} (j : Nat) (pn : Nat) (hF : mFchk y.1.cls [x] = true) (hk : k0 ∈ x.2.2.1) (hd : decode y.2.1 pc = .ok (.getfield x.1, 3)) (hp : pc + 3 = pn) (hj : x.2.1 = j) (hm : mref k0 j = false) (k : M ph Γ y d mc ms kc ks Q pn L (vi (gI σ k0 i j) :: S) σ) : M ph Γ y d mc ms kc ks Q pc L (vq (some (k0, i)) :: S) σ := by
  subst hp
  subst hj; exact M_getfield hF (List.mem_singleton.mpr rfl) hk hd (by unfold sv; rw [hm]; exact k)
theorem r_getR {x : Nat × Nat × List Nat × String × Nat} {k0 i : Nat} (j : Nat) (pn : Nat) (hF : mFchk y.1.cls [x] = true) (hk : k0 ∈ x.2.2.1) (hd : decode y.2.1 pc = .ok (.getfield x.1, 3)) (hp : pc + 3 = pn) (hj : x.2.1 = j) (hm : mref k0 j = true) (hf : ph = false ∨ mfin k0 i j = none) (k : M ph Γ y d mc ms kc ks Q pn L (vq (gR σ k0 i j) :: S) σ) : M ph Γ y d mc ms kc ks Q pc L (vq (some (k0, i)) :: S) σ := by
  subst hp
  subst hj; refine M_getfield hF (List.mem_singleton.mpr rfl) hk hd ?_
  have e : sv ph σ k0 i x.2.1 = vq (gR σ k0 i x.2.1) := by
    unfold sv
    rw [hm]
    rcases hf with rfl | hf
    · rfl
    · cases ph
      · rfl
      · simp only [mrf, hf]
  rw [e]; exact k
theorem r_getF {x : Nat × Nat × List Nat × String × Nat} {k0 i : Nat} (j : Nat) (a : MA) (pn : Nat) (hF : mFchk y.1.cls [x] = true) (hk : k0 ∈ x.2.2.1) (hd : decode y.2.1 pc = .ok (.getfield x.1, 3)) (hp : pc + 3 = pn) (hj : x.2.1 = j) (hm : mref k0 j = true) (hf : mfin k0 i j = some a) (k : M true Γ y d mc ms kc ks Q pn L (vq (some a) :: S) σ) : M true Γ y d mc ms kc ks Q pc L (vq (some (k0, i)) :: S) σ := by
  subst hp
  subst hj
  refine M_getfield hF (List.mem_singleton.mpr rfl) hk hd ?_
  have e : sv true σ k0 i x.2.1 = vq (some a) := by
    unfold sv
    rw [hm]
    simp only [mrf, hf]
  rw [e]; exact k
theorem r_putI {x : Nat × Nat × List Nat × String × Nat} {k0 i : Nat} (j : Nat) {z : Int32} (pn : Nat) (hF : mFchk y.1.cls [x] = true) (hk : k0 ∈ x.2.2.1) (hd : decode y.2.1 pc = .ok (.putfield x.1, 3)) (hp : pc + 3 = pn) (hw : x.2.2.2.2 = 0 ∨ (x.2.2.2.2 = 1 ∧ y.1.name = "<init>")) (hj : x.2.1 = j) (hm : mref k0 j = false) (k : M ph Γ y d mc ms kc ks Q pn L S (sI σ k0 i j z)) : M ph Γ y d mc ms kc ks Q pc L (vi z :: vq (some (k0, i)) :: S) σ := by
  subst hp
  subst hj; exact M_putI hF (List.mem_singleton.mpr rfl) hk hw hm hd k
theorem r_putR {x : Nat × Nat × List Nat × String × Nat} {k0 i : Nat} (j : Nat) {z : Option MA} (pn : Nat) (hF : mFchk y.1.cls [x] = true) (hk : k0 ∈ x.2.2.1) (hd : decode y.2.1 pc = .ok (.putfield x.1, 3)) (hp : pc + 3 = pn) (hw : x.2.2.2.2 = 0 ∨ (x.2.2.2.2 = 1 ∧ y.1.name = "<init>")) (hj : x.2.1 = j) (hm : mref k0 j = true) (hf : ph = false ∨ mfin k0 i j = none) (k : M ph Γ y d mc ms kc ks Q pn L S (sR σ k0 i j z)) : M ph Γ y d mc ms kc ks Q pc L (vq z :: vq (some (k0, i)) :: S) σ := by
  subst hp
  subst hj; exact M_putR hF (List.mem_singleton.mpr rfl) hk hw hm hf hd k
theorem r_iaload {k0 i : Nat} {x : Int32} (j n pn : Nat) (hd : decode y.2.1 pc = .ok (.iaload, 1)) (hp : pc + 1 = pn) (hk : 10 ≤ k0) (hm : mref k0 0 = false) (hn : mlen Γ.2.1 k0 = n) (hx : Ix x n) (hj : x.toNatClampNeg = j) (k : M ph Γ y d mc ms kc ks Q pn L (vi (gI σ k0 i j) :: S) σ) : M ph Γ y d mc ms kc ks Q pc L (vi x :: vq (some (k0, i)) :: S) σ := by
  subst hp
  subst hj; subst hn; exact M_iaload hk hm hx hd k
theorem r_iastore {k0 i : Nat} {x z : Int32} (j n pn : Nat) (hd : decode y.2.1 pc = .ok (.iastore, 1)) (hp : pc + 1 = pn) (hk : 10 ≤ k0) (hk2 : k0 < 42) (hm : mref k0 0 = false) (hn : mlen Γ.2.1 k0 = n) (hx : Ix x n) (hj : x.toNatClampNeg = j) (k : M ph Γ y d mc ms kc ks Q pn L S (sI σ k0 i j z)) : M ph Γ y d mc ms kc ks Q pc L (vi z :: vi x :: vq (some (k0, i)) :: S) σ := by
  subst hp
  subst hj; subst hn; exact M_iastore hk hk2 hm hx hd k
theorem r_aaload {k0 i : Nat} {x : Int32} (r : Option MA) (j n pn : Nat) (hd : decode y.2.1 pc = .ok (.aaload, 1)) (hp : pc + 1 = pn) (hk : 10 ≤ k0) (hm : mref k0 0 = true) (hn : mlen Γ.2.1 k0 = n) (hx : Ix x n) (hj : x.toNatClampNeg = j) (hr : mrf ph σ k0 i j = r) (k : M ph Γ y d mc ms kc ks Q pn L (vq r :: S) σ) : M ph Γ y d mc ms kc ks Q pc L (vi x :: vq (some (k0, i)) :: S) σ := by
  subst hp
  subst hj; subst hr; subst hn; exact M_aaload hk hm hx hd k
theorem r_alen {k0 i : Nat} (v : Int32) (pn : Nat) (hd : decode y.2.1 pc = .ok (.arraylength, 1)) (hp : pc + 1 = pn) (hk : 10 ≤ k0) (hv : Int32.ofNat (mlen Γ.2.1 k0) = v) (k : M ph Γ y d mc ms kc ks Q pn L (vi v :: S) σ) : M ph Γ y d mc ms kc ks Q pc L (vq (some (k0, i)) :: S) σ := by
  subst hp
  subst hv; exact M_alen hk hd k
theorem r_ldc2 {idx : Nat} (v : Int64) (pn : Nat) (hd : decode y.2.1 pc = .ok (.ldc2_w idx, 3)) (hp : pc + 3 = pn) (hw : Cond.constantLong y.1.cls idx v ∈ lw_tbl) (k : M ph Γ y d mc ms kc ks Q pn L (vl v :: S) σ) : M ph Γ y d mc ms kc ks Q pc L S σ := by
  subst hp
  exact M_ldc2 hw hd k
theorem r_ldcw {idx : Nat} (v : Int32) (pn : Nat) (hd : decode y.2.1 pc = .ok (.ldc_w idx, 3)) (hp : pc + 3 = pn) (hw : Cond.constant y.1.cls idx v ∈ lw_tbl) (k : M ph Γ y d mc ms kc ks Q pn L (vi v :: S) σ) : M ph Γ y d mc ms kc ks Q pc L S σ := by
  subst hp
  exact M_ldcw hw hd k
theorem r_call {y' : Mth} {C : String} {np d' : Nat} {Q' : Option MV → Sto → Prop} (as rest : List MV) (hrun : mRun y pc y' C np) (hC : Ct ph Γ y' d' 0 0 as σ Q') (hS : S = as.reverse ++ rest) (hlen : as.length = np) (hrec : mrecv C as = true) (hcat : Nat.ble (rest.map mcat).sum 8 = true) (hd : Nat.ble (d' + 1) d = true) (hkc : kc ≤ mc) (hks : ks ≤ ms)
    (kk : ∀ v σ', Q' v σ' → M ph Γ y d mc ms kc ks Q (pc + 3) L (v.toList ++ rest) σ') : M ph Γ y d mc ms kc ks Q pc L S σ :=
  M_call hrun hC hS hlen hrec (Nat.le_of_ble_eq_true hcat) (Nat.le_of_ble_eq_true hd) hkc hks kk
theorem r_callI {y' : Mth} {C : String} {np d' : Nat} {K : Int32 × Sto → Prop} (as rest : List MV) (pn : Nat) (hrun : mRun y pc y' C np) (hp : pc + 3 = pn) (hC : Ct ph Γ y' d' 0 0 as σ (QI K)) (hS : S = as.reverse ++ rest) (hlen : as.length = np) (hrec : mrecv C as = true) (hcat : Nat.ble (rest.map mcat).sum 8 = true) (hd : Nat.ble (d' + 1) d = true) (hkc : kc ≤ mc) (hks : ks ≤ ms)
    (kk : ∀ r σ', K (r, σ') → M ph Γ y d mc ms kc ks Q pn L (vi r :: rest) σ') : M ph Γ y d mc ms kc ks Q pc L S σ := by
  subst hp
  refine r_call as rest hrun hC hS hlen hrec hcat hd hkc hks ?_
  rintro v σ' ⟨r, rfl, h⟩
  exact kk r σ' h
theorem r_callL {y' : Mth} {C : String} {np d' : Nat} {K : Int64 × Sto → Prop} (as rest : List MV) (pn : Nat) (hrun : mRun y pc y' C np) (hp : pc + 3 = pn) (hC : Ct ph Γ y' d' 0 0 as σ (QL K)) (hS : S = as.reverse ++ rest) (hlen : as.length = np) (hrec : mrecv C as = true) (hcat : Nat.ble (rest.map mcat).sum 8 = true) (hd : Nat.ble (d' + 1) d = true) (hkc : kc ≤ mc) (hks : ks ≤ ms)
    (kk : ∀ r σ', K (r, σ') → M ph Γ y d mc ms kc ks Q pn L (vl r :: rest) σ') : M ph Γ y d mc ms kc ks Q pc L S σ := by
  subst hp
  refine r_call as rest hrun hC hS hlen hrec hcat hd hkc hks ?_
  rintro v σ' ⟨r, rfl, h⟩
  exact kk r σ' h
theorem r_callR {y' : Mth} {C : String} {np d' : Nat} {K : Option MA × Sto → Prop} (as rest : List MV) (pn : Nat) (hrun : mRun y pc y' C np) (hp : pc + 3 = pn) (hC : Ct ph Γ y' d' 0 0 as σ (QR K)) (hS : S = as.reverse ++ rest) (hlen : as.length = np) (hrec : mrecv C as = true) (hcat : Nat.ble (rest.map mcat).sum 8 = true) (hd : Nat.ble (d' + 1) d = true) (hkc : kc ≤ mc) (hks : ks ≤ ms)
    (kk : ∀ r σ', K (r, σ') → M ph Γ y d mc ms kc ks Q pn L (vq r :: rest) σ') : M ph Γ y d mc ms kc ks Q pc L S σ := by
  subst hp
  refine r_call as rest hrun hC hS hlen hrec hcat hd hkc hks ?_
  rintro v σ' ⟨r, rfl, h⟩
  exact kk r σ' h
theorem r_callV {y' : Mth} {C : String} {np d' : Nat} {K : Sto → Prop} (as rest : List MV) (pn : Nat) (hrun : mRun y pc y' C np) (hp : pc + 3 = pn) (hC : Ct ph Γ y' d' 0 0 as σ (QV K)) (hS : S = as.reverse ++ rest) (hlen : as.length = np) (hrec : mrecv C as = true) (hcat : Nat.ble (rest.map mcat).sum 8 = true) (hd : Nat.ble (d' + 1) d = true) (hkc : kc ≤ mc) (hks : ks ≤ ms)
    (kk : ∀ σ', K σ' → M ph Γ y d mc ms kc ks Q pn L rest σ') : M ph Γ y d mc ms kc ks Q pc L S σ := by
  subst hp
  refine r_call as rest hrun hC hS hlen hrec hcat hd hkc hks ?_
  rintro v σ' ⟨rfl, h⟩
  exact kk σ' h
theorem c_I {β : Type} {y' : Mth} {C : String} {np d' : Nat} {f : Option (Int32 × Sto)} {g : Int32 → Sto → Option β} {K : β → Prop} (as rest : List MV) (pn : Nat) (hrun : mRun y pc y' C np) (hp : pc + 3 = pn) (h : Out (bI f g) K) (hC : ∀ K' : Int32 × Sto → Prop, Out f K' → Ct ph Γ y' d' 0 0 as σ (QI K')) (hS : S = as.reverse ++ rest) (hlen : as.length = np) (hrec : mrecv C as = true) (hcat : Nat.ble (rest.map mcat).sum 8 = true) (hd : Nat.ble (d' + 1) d = true) (hkc : kc ≤ mc) (hks : ks ≤ ms)
    (kk : ∀ r σ', Out (g r σ') K → M ph Γ y d mc ms kc ks Q pn L (vi r :: rest) σ') : M ph Γ y d mc ms kc ks Q pc L S σ :=
  r_callI as rest pn hrun hp (hC _ (Out_bI h)) hS hlen hrec hcat hd hkc hks (fun r σ' h => kk r σ' h)
theorem c_L {β : Type} {y' : Mth} {C : String} {np d' : Nat} {f : Option (Int64 × Sto)} {g : Int64 → Sto → Option β} {K : β → Prop} (as rest : List MV) (pn : Nat) (hrun : mRun y pc y' C np) (hp : pc + 3 = pn) (h : Out (bI f g) K) (hC : ∀ K' : Int64 × Sto → Prop, Out f K' → Ct ph Γ y' d' 0 0 as σ (QL K')) (hS : S = as.reverse ++ rest) (hlen : as.length = np) (hrec : mrecv C as = true) (hcat : Nat.ble (rest.map mcat).sum 8 = true) (hd : Nat.ble (d' + 1) d = true) (hkc : kc ≤ mc) (hks : ks ≤ ms)
    (kk : ∀ r σ', Out (g r σ') K → M ph Γ y d mc ms kc ks Q pn L (vl r :: rest) σ') : M ph Γ y d mc ms kc ks Q pc L S σ :=
  r_callL as rest pn hrun hp (hC _ (Out_bI h)) hS hlen hrec hcat hd hkc hks (fun r σ' h => kk r σ' h)
theorem c_R {β : Type} {y' : Mth} {C : String} {np d' : Nat} {f : Option (Option MA × Sto)} {g : Option MA → Sto → Option β} {K : β → Prop} (as rest : List MV) (pn : Nat) (hrun : mRun y pc y' C np) (hp : pc + 3 = pn) (h : Out (bI f g) K) (hC : ∀ K' : Option MA × Sto → Prop, Out f K' → Ct ph Γ y' d' 0 0 as σ (QR K')) (hS : S = as.reverse ++ rest) (hlen : as.length = np) (hrec : mrecv C as = true) (hcat : Nat.ble (rest.map mcat).sum 8 = true) (hd : Nat.ble (d' + 1) d = true) (hkc : kc ≤ mc) (hks : ks ≤ ms)
    (kk : ∀ r σ', Out (g r σ') K → M ph Γ y d mc ms kc ks Q pn L (vq r :: rest) σ') : M ph Γ y d mc ms kc ks Q pc L S σ :=
  r_callR as rest pn hrun hp (hC _ (Out_bI h)) hS hlen hrec hcat hd hkc hks (fun r σ' h => kk r σ' h)
theorem c_V {β : Type} {y' : Mth} {C : String} {np d' : Nat} {f : Option Sto} {g : Sto → Option β} {K : β → Prop} (as rest : List MV) (pn : Nat) (hrun : mRun y pc y' C np) (hp : pc + 3 = pn) (h : Out (bV f g) K) (hC : ∀ K' : Sto → Prop, Out f K' → Ct ph Γ y' d' 0 0 as σ (QV K')) (hS : S = as.reverse ++ rest) (hlen : as.length = np) (hrec : mrecv C as = true) (hcat : Nat.ble (rest.map mcat).sum 8 = true) (hd : Nat.ble (d' + 1) d = true) (hkc : kc ≤ mc) (hks : ks ≤ ms)
    (kk : ∀ σ', Out (g σ') K → M ph Γ y d mc ms kc ks Q pn L rest σ') : M ph Γ y d mc ms kc ks Q pc L S σ :=
  r_callV as rest pn hrun hp (hC _ (Out_bV h)) hS hlen hrec hcat hd hkc hks (fun σ' h => kk σ' h)
theorem r_mask (m : List Bool) (L' : List (Option MV)) (hm : m.length = L.length) (hL : mmask m L = L') (k : M ph Γ y d mc ms kc ks Q pc L' S σ) : M ph Γ y d mc ms kc ks Q pc L S σ := by
  subst hL
  intro p l e s mm args below meth c H locs ad0 ad ls st hc hG hst he hR hS hB hl hk
  refine k p l e s mm args below meth c H locs ad0 ad ls st hc hG hst he hR hS hB ⟨⟨hl.1.1, ?_⟩, hl.2.1, fun j v hj => ?_⟩ hk
  · rw [mmask, List.length_zipWith, hm, Nat.min_self]; exact hl.1.2
  · unfold mmask at hj
    rw [List.getElem?_zipWith] at hj
    split at hj
    · rename_i b w hb hw
      cases b
      · cases hj
      · simp only [Option.some.injEq] at hj
        subst hj
        exact hl.2.2 j v hw
    · cases hj
theorem r_ireturn {K : Int32 × Sto → Prop} {x : Int32} (hd : decode y.2.1 pc = .ok (.ireturn, 1)) (hret : y.2.2.2 = some .int) (h1 : kc ≤ mc) (h2 : ks ≤ ms) (hq : Out (some (x, σ)) K) : M ph Γ y d mc ms kc ks (QI K) pc L [vi x] σ := M_ireturn hret hd h1 h2 ⟨x, rfl, Out_some hq⟩
theorem r_zreturn {K : Int32 × Sto → Prop} {x : Int32} (hd : decode y.2.1 pc = .ok (.ireturn, 1)) (hret : y.2.2.2 = some .boolean) (hx : x = 0 ∨ x = 1) (h1 : kc ≤ mc) (h2 : ks ≤ ms) (hq : Out (some (x, σ)) K) : M ph Γ y d mc ms kc ks (QI K) pc L [vi x] σ := M_zreturn hret hd hx h1 h2 ⟨x, rfl, Out_some hq⟩
theorem r_lreturn {K : Int64 × Sto → Prop} {x : Int64} (hd : decode y.2.1 pc = .ok (.lreturn, 1)) (hret : y.2.2.2 = some .long) (h1 : kc ≤ mc) (h2 : ks ≤ ms) (hq : Out (some (x, σ)) K) : M ph Γ y d mc ms kc ks (QL K) pc L [vl x] σ := M_lreturn hret hd h1 h2 ⟨x, rfl, Out_some hq⟩
theorem r_areturn {K : Option MA × Sto → Prop} {x : Option MA} {C : String} (hd : decode y.2.1 pc = .ok (.areturn, 1)) (hret : y.2.2.2 = some (.object C)) (h1 : kc ≤ mc) (h2 : ks ≤ ms) (hq : Out (some (x, σ)) K) : M ph Γ y d mc ms kc ks (QR K) pc L [vq x] σ := M_areturn hret hd h1 h2 ⟨x, rfl, Out_some hq⟩
theorem r_return {K : Sto → Prop} (hd : decode y.2.1 pc = .ok (.return_, 1)) (hret : y.2.2.2 = none) (h1 : kc ≤ mc) (h2 : ks ≤ ms) (hq : Out (some σ) K) : M ph Γ y d mc ms kc ks (QV K) pc L [] σ := M_return hret hd h1 h2 ⟨rfl, Out_some hq⟩
theorem r_if_eq {a : Int32} {off : Int} (t pn : Nat) (hd : decode y.2.1 pc = .ok (.ifCond .eq off, 3)) (ht : (pc : Int) + off = (t : Int)) (hp : pc + 3 = pn) (kt : ((a = 0) → M ph Γ y d mc ms kc ks Q t L S σ)) (kf : (¬ (a = 0) → M ph Γ y d mc ms kc ks Q pn L S σ)) : M ph Γ y d mc ms kc ks Q pc L (vi a :: S) σ := by
  subst hp
  exact M_if_eq hd ht kt (kf)
theorem r_icmp_eq {a b : Int32} {off : Int} (t pn : Nat) (hd : decode y.2.1 pc = .ok (.if_icmp .eq off, 3)) (ht : (pc : Int) + off = (t : Int)) (hp : pc + 3 = pn) (kt : ((a = b) → M ph Γ y d mc ms kc ks Q t L S σ)) (kf : (¬ (a = b) → M ph Γ y d mc ms kc ks Q pn L S σ)) : M ph Γ y d mc ms kc ks Q pc L (vi b :: vi a :: S) σ := by
  subst hp
  exact M_icmp_eq hd ht kt (kf)
theorem r_if_ne {a : Int32} {off : Int} (t pn : Nat) (hd : decode y.2.1 pc = .ok (.ifCond .ne off, 3)) (ht : (pc : Int) + off = (t : Int)) (hp : pc + 3 = pn) (kt : (¬ (a = 0) → M ph Γ y d mc ms kc ks Q t L S σ)) (kf : ((a = 0) → M ph Γ y d mc ms kc ks Q pn L S σ)) : M ph Γ y d mc ms kc ks Q pc L (vi a :: S) σ := by
  subst hp
  exact M_if_ne hd ht kt (fun h => kf (Decidable.not_not.mp h))
theorem r_icmp_ne {a b : Int32} {off : Int} (t pn : Nat) (hd : decode y.2.1 pc = .ok (.if_icmp .ne off, 3)) (ht : (pc : Int) + off = (t : Int)) (hp : pc + 3 = pn) (kt : (¬ (a = b) → M ph Γ y d mc ms kc ks Q t L S σ)) (kf : ((a = b) → M ph Γ y d mc ms kc ks Q pn L S σ)) : M ph Γ y d mc ms kc ks Q pc L (vi b :: vi a :: S) σ := by
  subst hp
  exact M_icmp_ne hd ht kt (fun h => kf (Decidable.not_not.mp h))
theorem r_if_lt {a : Int32} {off : Int} (t pn : Nat) (hd : decode y.2.1 pc = .ok (.ifCond .lt off, 3)) (ht : (pc : Int) + off = (t : Int)) (hp : pc + 3 = pn) (kt : ((a < 0) → M ph Γ y d mc ms kc ks Q t L S σ)) (kf : (¬ (a < 0) → M ph Γ y d mc ms kc ks Q pn L S σ)) : M ph Γ y d mc ms kc ks Q pc L (vi a :: S) σ := by
  subst hp
  exact M_if_lt hd ht kt (kf)
theorem r_icmp_lt {a b : Int32} {off : Int} (t pn : Nat) (hd : decode y.2.1 pc = .ok (.if_icmp .lt off, 3)) (ht : (pc : Int) + off = (t : Int)) (hp : pc + 3 = pn) (kt : ((a < b) → M ph Γ y d mc ms kc ks Q t L S σ)) (kf : (¬ (a < b) → M ph Γ y d mc ms kc ks Q pn L S σ)) : M ph Γ y d mc ms kc ks Q pc L (vi b :: vi a :: S) σ := by
  subst hp
  exact M_icmp_lt hd ht kt (kf)
theorem r_if_ge {a : Int32} {off : Int} (t pn : Nat) (hd : decode y.2.1 pc = .ok (.ifCond .ge off, 3)) (ht : (pc : Int) + off = (t : Int)) (hp : pc + 3 = pn) (kt : ((0 ≤ a) → M ph Γ y d mc ms kc ks Q t L S σ)) (kf : (¬ (0 ≤ a) → M ph Γ y d mc ms kc ks Q pn L S σ)) : M ph Γ y d mc ms kc ks Q pc L (vi a :: S) σ := by
  subst hp
  exact M_if_ge hd ht kt (kf)
theorem r_icmp_ge {a b : Int32} {off : Int} (t pn : Nat) (hd : decode y.2.1 pc = .ok (.if_icmp .ge off, 3)) (ht : (pc : Int) + off = (t : Int)) (hp : pc + 3 = pn) (kt : ((b ≤ a) → M ph Γ y d mc ms kc ks Q t L S σ)) (kf : (¬ (b ≤ a) → M ph Γ y d mc ms kc ks Q pn L S σ)) : M ph Γ y d mc ms kc ks Q pc L (vi b :: vi a :: S) σ := by
  subst hp
  exact M_icmp_ge hd ht kt (kf)
theorem r_if_gt {a : Int32} {off : Int} (t pn : Nat) (hd : decode y.2.1 pc = .ok (.ifCond .gt off, 3)) (ht : (pc : Int) + off = (t : Int)) (hp : pc + 3 = pn) (kt : ((0 < a) → M ph Γ y d mc ms kc ks Q t L S σ)) (kf : (¬ (0 < a) → M ph Γ y d mc ms kc ks Q pn L S σ)) : M ph Γ y d mc ms kc ks Q pc L (vi a :: S) σ := by
  subst hp
  exact M_if_gt hd ht kt (kf)
theorem r_icmp_gt {a b : Int32} {off : Int} (t pn : Nat) (hd : decode y.2.1 pc = .ok (.if_icmp .gt off, 3)) (ht : (pc : Int) + off = (t : Int)) (hp : pc + 3 = pn) (kt : ((b < a) → M ph Γ y d mc ms kc ks Q t L S σ)) (kf : (¬ (b < a) → M ph Γ y d mc ms kc ks Q pn L S σ)) : M ph Γ y d mc ms kc ks Q pc L (vi b :: vi a :: S) σ := by
  subst hp
  exact M_icmp_gt hd ht kt (kf)
theorem r_if_le {a : Int32} {off : Int} (t pn : Nat) (hd : decode y.2.1 pc = .ok (.ifCond .le off, 3)) (ht : (pc : Int) + off = (t : Int)) (hp : pc + 3 = pn) (kt : ((a ≤ 0) → M ph Γ y d mc ms kc ks Q t L S σ)) (kf : (¬ (a ≤ 0) → M ph Γ y d mc ms kc ks Q pn L S σ)) : M ph Γ y d mc ms kc ks Q pc L (vi a :: S) σ := by
  subst hp
  exact M_if_le hd ht kt (kf)
theorem r_icmp_le {a b : Int32} {off : Int} (t pn : Nat) (hd : decode y.2.1 pc = .ok (.if_icmp .le off, 3)) (ht : (pc : Int) + off = (t : Int)) (hp : pc + 3 = pn) (kt : ((a ≤ b) → M ph Γ y d mc ms kc ks Q t L S σ)) (kf : (¬ (a ≤ b) → M ph Γ y d mc ms kc ks Q pn L S σ)) : M ph Γ y d mc ms kc ks Q pc L (vi b :: vi a :: S) σ := by
  subst hp
  exact M_icmp_le hd ht kt (kf)
theorem r_ifnull {x : Option MA} {off : Int} (t pn : Nat) (hd : decode y.2.1 pc = .ok (.ifnull off, 3)) (ht : (pc : Int) + off = (t : Int)) (hp : pc + 3 = pn) (kt : x = none → M ph Γ y d mc ms kc ks Q t L S σ) (kf : ¬ x = none → M ph Γ y d mc ms kc ks Q pn L S σ) : M ph Γ y d mc ms kc ks Q pc L (vq x :: S) σ := by
  subst hp
  exact M_ifnull hd ht kt kf
theorem r_ifnonnull {x : Option MA} {off : Int} (t pn : Nat) (hd : decode y.2.1 pc = .ok (.ifnonnull off, 3)) (ht : (pc : Int) + off = (t : Int)) (hp : pc + 3 = pn) (kt : ¬ x = none → M ph Γ y d mc ms kc ks Q t L S σ) (kf : x = none → M ph Γ y d mc ms kc ks Q pn L S σ) : M ph Γ y d mc ms kc ks Q pc L (vq x :: S) σ := by
  subst hp
  exact M_ifnonnull hd ht kt kf
theorem r_goto {off : Int} (t : Nat) (hd : decode y.2.1 pc = .ok (.goto off, 3)) (ht : (pc : Int) + off = (t : Int)) (k : M ph Γ y d mc ms kc ks Q t L S σ) : M ph Γ y d mc ms kc ks Q pc L S σ := M_goto hd ht k
theorem r_gets {idx : Nat} (k0 : Nat) (nm : String) (pn : Nat) (hd : decode y.2.1 pc = .ok (.getstatic idx, 3)) (hp : pc + 3 = pn) (hk : (k0, nm) ∈ mstats) (hw : Cond.fieldLink y.1.cls idx "PlatePeas" nm "[I" ∈ lw_tbl) (k : M ph Γ y d mc ms kc ks Q pn L (vq (some (k0, 0)) :: S) σ) : M ph Γ y d mc ms kc ks Q pc L S σ := by
  subst hp
  exact M_gets hk hw hd k
theorem r_getsN {idx : Nat} (k0 : Nat) (nm : String) (pn : Nat) (hd : decode y.2.1 pc = .ok (.getstatic idx, 3)) (hp : pc + 3 = pn) (hk : (k0, nm) ∈ mstats) (hw : Cond.fieldLinkNest y.1.cls idx "PlatePeas" nm "[I" "PlatePeas" ∈ lw_tbl) (k : M ph Γ y d mc ms kc ks Q pn L (vq (some (k0, 0)) :: S) σ) : M ph Γ y d mc ms kc ks Q pc L S σ := by
  subst hp
  exact M_getsN hk hw hd k
end Rules
