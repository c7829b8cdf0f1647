/-! THE MINI MACHINE: values and stores whose addresses are (kind, instance); what a heap has to do with a store; M: from here the machine comes to its return. -/
abbrev MA : Type := Nat × Nat
abbrev MV : Type := Int32 ⊕ (Int64 ⊕ Option MA)
abbrev Sto : Type := (Nat → Nat → Nat → Int32) × (Nat → Nat → Nat → Option MA) × (Nat → Nat)
abbrev vi (x : Int32) : MV := Sum.inl x
abbrev vl (x : Int64) : MV := Sum.inr (Sum.inl x)
abbrev vq (r : Option MA) : MV := Sum.inr (Sum.inr r)
def gI (σ : Sto) (k i j : Nat) : Int32 := σ.1 k i j
def gR (σ : Sto) (k i j : Nat) : Option MA := σ.2.1 k i j
def gN (σ : Sto) (k : Nat) : Nat := σ.2.2 k
def sI (σ : Sto) (k i j : Nat) (v : Int32) : Sto := (fun a b c => if a = k ∧ b = i ∧ c = j then v else σ.1 a b c, σ.2.1, σ.2.2)
def sR (σ : Sto) (k i j : Nat) (v : Option MA) : Sto := (σ.1, fun a b c => if a = k ∧ b = i ∧ c = j then v else σ.2.1 a b c, σ.2.2)
def sN (σ : Sto) (k : Nat) : Sto := (fun a b c => if a = k ∧ b = σ.2.2 k then 0 else σ.1 a b c, fun a b c => if a = k ∧ b = σ.2.2 k then none else σ.2.1 a b c, fun a => if a = k then σ.2.2 k + 1 else σ.2.2 a)
/-- how many slots a cell of a kind has: kinds 0 to 9 are objects of the class of that number in vwCl, 10 to 41 arrays, 42 to 45 static arrays, 46 the script -/
def mlen (L k : Nat) : Nat := if k = 46 then L else ([2,2,12,2,3,2,5,1,14,33,40,30,5,2,2,2,5,3,3,60,30,8,8,4,30,5,2,2,30,8,8,4,4,240,60,30,5,2,2,5,15,3,4,4,5,5] : List Nat).getD k 0
def mobjR : List (List Bool) := [[false,false],[false,false],[false,false,false,false,false,true,true,true,true,true,true,false],[true,true],[true,false,false],[false,false],[true,false,false,false,true],[false],[true,true,false,true,false,true,true,false,true,true,true,true,true,false],
  [false,false,true,false,true,false,true,true,false,false,true,false,true,true,false,false,true,true,true,true,false,false,false,false,false,true,true,false,true,true,true,true,true]]
def mref (k j : Nat) : Bool := match mobjR[k]? with
  | some l => l.getD j false
  | none => Nat.beq k 13 || Nat.beq k 17 || Nat.beq k 23
def mety (k : Nat) : FieldType := if mref k 0 = true then .object (melc k) else .int
/-- references that never change once they are made: which cell they name -/
def mfinT : List (List (Option (Nat × Option Nat))) := [[], [], [none, none, none, none, none, some (10, none), some (11, none), some (12, none), some (13, none), some (14, none), some (15, none)], [some (17, none), some (18, none)], [some (19, none)], [], [none, none, none, none, some (16, none)], [],
  [none, none, none, some (20, none), none, some (21, none), some (22, none), none, some (6, some 0), some (6, some 1), some (3, none), some (23, none), some (7, none)],
  [none, none, some (24, none), none, some (25, none), none, some (26, none), some (27, none), none, none, some (28, none), none, some (29, none), some (30, none), none, none, some (31, none), some (32, none), some (33, none), some (34, none), none, none, none, none, none, some (35, none), some (36, none), none, some (37, none), some (38, none), some (39, none), some (40, none), some (41, none)]]
def mfin (k i j : Nat) : Option MA := match mfinT[k]? with
  | some l => match l[j]? with
    | some (some (a, some b)) => some (a, b)
    | some (some (a, none)) => some (a, i)
    | _ => none
  | none => if k = 17 then some (6, j + 2) else if k = 23 then some (4, j) else none
/-- a reference as it is read: in the phase 'true' (all is made) those that never change are known -/
def mrf (ph : Bool) (σ : Sto) (k i j : Nat) : Option MA := match ph with
  | false => gR σ k i j
  | true => match mfin k i j with
    | some a => some a
    | none => gR σ k i j
def sv (ph : Bool) (σ : Sto) (k i j : Nat) : MV := match mref k j with
  | true => vq (mrf ph σ k i j)
  | false => vi (gI σ k i j)
def mv (ad : MA → Option Nat) (v : MV) : Option Value := match v with
  | .inl x => some (.int x)
  | .inr (.inl x) => some (.long x)
  | .inr (.inr none) => some .null
  | .inr (.inr (some a)) => (ad a).map Value.ref
def mcat (v : MV) : Nat := match v with
  | .inr (.inl _) => 2
  | _ => 1
abbrev GG : Type := Nat × Nat × va_G
def mhdr (Γ : GG) (s : State) (k : Nat) (cell : Cell) : Prop :=
  if k < 10 then cell.cls = Γ.2.2.1 k ∧ cell.vm = .none
  else s.isArrayOf cell (mety k) ∧ cell.vm ≠ .unknown ∧ (mlen Γ.2.1 k ≤ cell.slots.size ∧ cell.slots.size.toInt32 = Int32.ofNat (mlen Γ.2.1 k)) ∧ (mref k 0 = true → ∃ (kA : Class) (comp : ClassId), s.vm.classes[cell.cls]? = some kA ∧ kA.kind = .array comp (mety k) ∧ s.vm.findClass (melc k) = some comp)
def mpl (Γ : GG) (k j : Nat) : Nat := if k < 10 then Γ.2.2.2 k j else j
def mcell (ph : Bool) (Γ : GG) (s : State) (ad : MA → Option Nat) (σ : Sto) (H : Heap) (k i q : Nat) : Prop :=
  ∃ cell : Cell, H[q]? = some cell ∧ mhdr Γ s k cell ∧ ∀ j, j < mlen Γ.2.1 k → ∃ v, mv ad (sv ph σ k i j) = some v ∧ cell.slots[mpl Γ k j]? = some v
def Rep (ph : Bool) (Γ : GG) (s : State) (ad : MA → Option Nat) (σ : Sto) (H : Heap) : Prop :=
  (∀ (a b : MA) q, a.1 < 42 → ad a = some q → ad b = some q → a = b) ∧ (∀ k i q, ad (k, i) = some q → mcell ph Γ s ad σ H k i q ∧ (k < 42 → Γ.1 ≤ q ∧ i < gN σ k)) ∧ Γ.1 ≤ H.size
def nestW (w : Cond) : Bool := match w with
  | .methodLinkNest .. => true
  | .fieldLinkNest .. => true
  | _ => false
/-- what the tables say, at any state of the run -/
def mG (Γ : GG) (s : State) : Prop :=
  (∀ w ∈ lw_tbl, goodWord w = true → ∀ a : Array Value, w.before a s = true) ∧ (∀ w ∈ lw_tbl, nestW w = true → va_Nw w s) ∧ (∀ (c : Nat) (q : vw_C), vwCl[c]? = some q → u_Kn s q.1 q.2.1 q.2.2 (Γ.2.2.1 c) (Γ.2.2.2 c)) ∧
  (va_AO "PlatePeas$Sheet" s ∧ va_AO "PlatePeas$Fork" s ∧ va_AO "PlatePeas$Spots" s) ∧ (va_Nw (.castable "PlatePeas$Knife" "PlatePeas$Fork") s ∧ va_Nw (.castable "PlatePeas$Spoon" "PlatePeas$Fork") s ∧ va_Nw (.castable "PlatePeas$Spoon" "PlatePeas$Knife") s) ∧
  (va_Nc "PlatePeas$Fork" "PlatePeas$Knife" s ∧ va_Nc "PlatePeas$Fork" "PlatePeas$Spoon" s ∧ va_Nc "PlatePeas$Knife" "PlatePeas$Spoon" s)
def mstats : List (Nat × String) := [(42, "DOWN"), (43, "ACROSS"), (44, "UPPER"), (45, "LOWER")]
def mst (Γ : GG) (s : State) (ad : MA → Option Nat) (H : Heap) : Prop := ∀ x ∈ mstats, ∃ q, ad (x.1, 0) = some q ∧ va_Z "PlatePeas" x.2 "[I" (.ref q) (fun a => Γ.1 ≤ a) s H
def mctx (y : Mth) (p : Program) (s : State) (m : MethodId) (meth : Method) (c : Code) : Prop :=
  p.tables.exec = Jvm.exec ∧ c.code = y.2.1 ∧ meth.sig.returnType = y.2.2.2 ∧ c.maxLocals = y.2.2.1 ∧ s.vm.findClass y.1.cls = some m.cls ∧ meth.locks = false ∧ meth.name = y.1.name
def mloc (ad : MA → Option Nat) (ls : Array Slot) (n : Nat) (L : List (Option MV)) : Prop := (ls.size = n ∧ L.length = n) ∧ lv_wf ls ∧ ∀ (k : Nat) (v : MV), L[k]? = some (some v) → ∃ rv, mv ad v = some rv ∧ ls[k]? = some (.val rv)
def mQ (ph : Bool) (Γ : GG) (Q : Option MV → Sto → Prop) (ad0 : MA → Option Nat) : Array Value → State → Outcome → State → Prop := fun _ st oc t =>
  ∃ (v : Option MV) (rv : Option Value) (σ : Sto) (ad : MA → Option Nat), oc = .returned rv ∧ v.map (mv ad) = rv.map some ∧ Q v σ ∧ (∀ a q, ad0 a = some q → ad a = some q) ∧ Rep ph Γ t ad σ t.heap ∧ st.heap.size ≤ t.heap.size ∧ ∀ q, q < Γ.1 → t.heap[q]? = st.heap[q]?
abbrev mRm (d mc ms : Nat) : Room := { frames := d, cells := mc, slots := ms, locals := 64 * d }
abbrev mA (Γ : GG) : Nat → Prop := fun q => Γ.1 ≤ q
/-- from this frame and store the machine comes to the method's return, with Q -/
def M (ph : Bool) (Γ : GG) (y : Mth) (d mc ms kc ks : Nat) (Q : Option MV → Sto → Prop) (pc : Nat) (L : List (Option MV)) (S : List MV) (σ : Sto) : Prop :=
  ∀ (p : Program) (l : Launch) (e : Env) (s : State) (m : MethodId) (args : Array Value) (below : List Frame) (meth : Method) (c : Code) (H : Heap) (locs : List Loc) (ad0 ad : MA → Option Nat) (ls : Array Slot) (st : List Value),
    mctx y p s m meth c → mG Γ s → mst Γ s ad0 s.heap → (∀ a q, ad0 a = some q → ad a = some q) → Rep ph Γ s ad σ H → va_S (mA Γ) s.heap H locs → Γ.1 ≤ s.heap.size → mloc ad ls y.2.2.1 L → S.map (mv ad) = st.map some →
    W p l e (mRm d mc ms) s m args below meth c H locs kc ks (MQ below (mQ ph Γ Q ad0) args s mc ms (mA Γ)) (F0 m pc ls st)
def mP (ph : Bool) (Γ : GG) (ad : MA → Option Nat) (σ : Sto) (ras : List Value) : Array Value → State → Prop := fun a U => a = ras.toArray ∧ mG Γ U ∧ mst Γ U ad U.heap ∧ Rep ph Γ U ad σ U.heap
/-- a method's contract: from this store and these arguments -/
def Ct (ph : Bool) (Γ : GG) (y : Mth) (d mc ms : Nat) (as : List MV) (σ : Sto) (Q : Option MV → Sto → Prop) : Prop :=
  ∀ (l : Launch) (ad : MA → Option Nat) (ras : List Value), as.map (mv ad) = ras.map some → Met l y.1 [mcode y] (mRm d mc ms) (mP ph Γ ad σ ras) (mQ ph Γ Q ad) mc ms (mA Γ)
/-! what doesn't change when the tables warm -/
theorem mG.warm {Γ : GG} {s U : State} (hW : s.WarmedH U.vm) (h : mG Γ s) : mG Γ U := by
  obtain ⟨h1, h2, h3, ⟨a1, a2, a3⟩, ⟨b1, b2, b3⟩, ⟨c1, c2, c3⟩⟩ := h
  have hal := hW.alike
  refine ⟨fun w hw hg a => word_at hW (good_of_word hg) (h1 w hw hg #[]), fun w hw hn => ?_, fun c q hq => u_Kn_moved hal (h3 c q hq), ⟨a1.moved hal, a2.moved hal, a3.moved hal⟩, ?_, ⟨c1.moved hal, c2.moved hal, c3.moved hal⟩⟩
  · have h := h2 w hw hn
    cases w <;> first | (simp [nestW] at hn; done) | exact va_Nw.warmM hW h | exact va_Nw.warmF hW h
  · exact ⟨b1.warmC hW, b2.warmC hW, b3.warmC hW⟩
theorem mst.warm {Γ : GG} {s U : State} {ad : MA → Option Nat} {H : Heap} (hal : s.vm.Alike U.vm) (h : mst Γ s ad H) : mst Γ U ad H := fun x hx => by
  obtain ⟨q, h1, h2⟩ := h x hx
  exact ⟨q, h1, h2.moved hal⟩
theorem mst.kept {Γ : GG} {s : State} {ad : MA → Option Nat} {H H1 : Heap} (h : mst Γ s ad H) (hk : ∀ q, q < Γ.1 → H1[q]? = H[q]?) : mst Γ s ad H1 := fun x hx => by
  obtain ⟨q, h1, h2⟩ := h x hx
  exact ⟨q, h1, h2.kept (fun a _ ha => hk a (Nat.not_le.mp ha))⟩
theorem mst.ext {Γ : GG} {s : State} {ad ad' : MA → Option Nat} {H : Heap} (h : mst Γ s ad H) (he : ∀ a q, ad a = some q → ad' a = some q) : mst Γ s ad' H := fun x hx => by
  obtain ⟨q, h1, h2⟩ := h x hx
  exact ⟨q, he _ _ h1, h2⟩
theorem mhdr.warm {Γ : GG} {s U : State} {k : Nat} {cell : Cell} (hal : s.vm.Alike U.vm) (h : mhdr Γ s k cell) : mhdr Γ U k cell := by
  unfold mhdr at h ⊢
  split
  · rw [if_pos (by assumption)] at h; exact h
  · rw [if_neg (by assumption)] at h
    obtain ⟨h1, h2, h3, h4⟩ := h
    refine ⟨State.isArrayOf_alike hal h1, h2, h3, fun hr => ?_⟩
    obtain ⟨kA, comp, g1, g2, g3⟩ := h4 hr
    obtain ⟨k', hk', he⟩ := hal.2.2 _ _ g1
    exact ⟨k', comp, hk', by rw [he]; exact g2, by rw [hal.findClass]; exact g3⟩
theorem Rep.warm {ph : Bool} {Γ : GG} {s U : State} {ad : MA → Option Nat} {σ : Sto} {H : Heap} (hal : s.vm.Alike U.vm) (h : Rep ph Γ s ad σ H) : Rep ph Γ U ad σ H := by
  refine ⟨h.1, fun k i q hq => ?_, h.2.2⟩
  obtain ⟨⟨cell, h1, h2, h3⟩, h4⟩ := h.2.1 k i q hq
  exact ⟨⟨cell, h1, h2.warm hal, h3⟩, h4⟩
theorem mv_ext {ad ad' : MA → Option Nat} (he : ∀ a q, ad a = some q → ad' a = some q) {v : MV} {rv : Value} (h : mv ad v = some rv) : mv ad' v = some rv := by
  rcases v with x | x | (_ | a)
  · exact h
  · exact h
  · exact h
  · simp only [mv, Option.map_eq_some_iff] at h ⊢
    obtain ⟨q, h1, h2⟩ := h
    exact ⟨q, he _ _ h1, h2⟩
theorem mv_exts {ad ad' : MA → Option Nat} (he : ∀ a q, ad a = some q → ad' a = some q) : ∀ {S : List MV} {st : List Value}, S.map (mv ad) = st.map some → S.map (mv ad') = st.map some
  | [], [], _ => rfl
  | [], _ :: _, h => by simp at h
  | _ :: _, [], h => by simp at h
  | v :: S, r :: st, h => by
    simp only [List.map_cons, List.cons.injEq] at h ⊢
    exact ⟨mv_ext he h.1, mv_exts he h.2⟩
theorem mloc.ext {ad ad' : MA → Option Nat} (he : ∀ a q, ad a = some q → ad' a = some q) {ls : Array Slot} {n : Nat} {L : List (Option MV)} (h : mloc ad ls n L) : mloc ad' ls n L :=
  ⟨h.1, h.2.1, fun k v hk => by obtain ⟨rv, h1, h2⟩ := h.2.2 k v hk; exact ⟨rv, mv_ext he h1, h2⟩⟩
