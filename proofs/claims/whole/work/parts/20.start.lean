/-! FROM THE LAW'S ENTRY TO ITS LOOP -/
def R_law : String := "PlatePeasLaw"
def lw_P (b : Addr) (xs : List Int32) (args : Array Value) (s : State) : Prop := args = #[.ref b] ∧ s.IntsAt b xs ∧ xs.length ≤ 384 ∧ (Jvm.Cond.and given_1 narrow_1).before args s = true
def lw_Q (_ : Array Value) (s : State) (o : Outcome) (t : State) : Prop := o = .returned (some (.int 1)) ∧ Framed s o t [] 600000 7302250
def lw_Z (below : List Frame) (a : Array Value) (s : State) : State → Prop := fun t => ∃ o, t.status = .running ∧ Ended t below o ∧ lw_Q a s o t
def lw_At (p : Program) (s : State) (m : MethodId) (meth : Method) (c : Code) (b L : Nat) (xs : Nat → Int32) : Prop :=
  p.tables.exec = Jvm.exec ∧ c.code = code ∧ meth.sig.returnType = ret ∧ c.maxLocals = 4 ∧ s.vm.findClass R_law = some m.cls ∧ meth.name = x.name ∧ (∀ w ∈ lw_tbl, w.before #[Value.ref b] s = true) ∧ va_X b L xs s s.heap ∧ b < s.heap.size ∧ meth.locks = false ∧ (Jvm.Cond.and given_1 narrow_1).before #[Value.ref b] s = true
/-! less room, a weaker end -/
theorem hasRoom_le {s : State} {pl : Platform} {R R' : Room} (h : s.hasRoom pl R = true) (h1 : R'.frames ≤ R.frames) (h2 : R'.cells ≤ R.cells) (h3 : R'.slots ≤ R.slots) (h4 : R'.locals ≤ R.locals) : s.hasRoom pl R' = true := by
  simp only [State.hasRoom, Bool.and_eq_true, decide_eq_true_eq] at h ⊢
  obtain ⟨⟨⟨⟨a1, b1, b2, b3, b4, b5⟩, c1⟩, d1⟩, e1⟩ := h
  exact ⟨⟨⟨⟨by omega, by omega, by omega, by omega, by omega, b5⟩, by omega⟩, by omega⟩, e1⟩
theorem W_room {p : Program} {l : Launch} {e : Env} {R R' : Room} {s : State} {m : MethodId} {args : Array Value} {below : List Frame} {meth : Method} {c : Code} {H : Heap} {locs : List Loc} {cells slots : Nat} {Q : State → Prop} {g : JFrame} (h1 : R'.frames ≤ R.frames) (h2 : R'.cells ≤ R.cells) (h3 : R'.slots ≤ R.slots) (h4 : R'.locals ≤ R.locals)
    (k : W p l e R' s m args below meth c H locs cells slots Q g) : W p l e R s m args below meth c H locs cells slots Q g := fun T hT X => k T hT { X with room := hasRoom_le X.room h1 h2 h3 h4 }
theorem W_mono {p : Program} {l : Launch} {e : Env} {R : Room} {s : State} {m : MethodId} {args : Array Value} {below : List Frame} {meth : Method} {c : Code} {H : Heap} {locs : List Loc} {cells slots : Nat} {Q Q' : State → Prop} {g : JFrame} (hq : ∀ t, Q t → Q' t)
    (k : W p l e R s m args below meth c H locs cells slots Q g) : W p l e R s m args below meth c H locs cells slots Q' g := fun T hT X => by
  obtain ⟨t, a, b⟩ := k T hT X
  exact ⟨t, a, hq t b⟩
/-! the phases -/
def fixR (σ : Sto) : Sto := (σ.1, fun k i j => mrf true σ k i j, σ.2.2)
theorem sv_fix (σ : Sto) (k i j : Nat) : sv false (fixR σ) k i j = sv true σ k i j := by
  unfold sv
  split <;> rfl
theorem Rep.fix {Γ : GG} {s : State} {ad : MA → Option Nat} {σ : Sto} {H : Heap} (h : Rep true Γ s ad σ H) : Rep false Γ s ad (fixR σ) H := by
  refine ⟨h.1, fun k i q hq => ?_, h.2.2⟩
  obtain ⟨⟨cell, c1, c2, c3⟩, c4⟩ := h.2.1 k i q hq
  exact ⟨⟨cell, c1, c2, fun j hj => by rw [sv_fix]; exact c3 j hj⟩, c4⟩
theorem Rep.seal {Γ : GG} {s : State} {ad : MA → Option Nat} {σ : Sto} {H : Heap} (h : Rep false Γ s ad σ H) (hl : ∀ k, k < 42 → ∀ i, i < gN σ k → ∀ j, j < mlen 0 k → mref k j = true → mrf true σ k i j = gR σ k i j) : Rep true Γ s ad σ H := by
  refine ⟨h.1, fun k i q hq => ?_, h.2.2⟩
  obtain ⟨⟨cell, c1, c2, c3⟩, c4⟩ := h.2.1 k i q hq
  refine ⟨⟨cell, c1, c2, fun j hj => ?_⟩, c4⟩
  have e : sv true σ k i j = sv false σ k i j := by
    unfold sv
    cases hm : mref k j with
    | false => rfl
    | true =>
      have hk : k < 42 := by
        rcases Nat.lt_or_ge k 10 with h1 | h1
        · omega
        · have hn : mobjR[k]? = none := List.getElem?_eq_none h1
          simp only [mref, hn, Bool.or_eq_true, Nat.beq_eq] at hm
          omega
      show vq _ = vq _
      have hlen : mlen Γ.2.1 k = mlen 0 k := by
        unfold mlen
        rw [if_neg (by omega), if_neg (by omega)]
      rw [hl k hk i (c4 hk).2 j (by rw [← hlen]; exact hj) hm]
      rfl
  rw [e]
  exact c3 j hj
def K1 : Int32 × Sto → Prop := fun r => r.1 = 1
theorem mQ_fix {Γ : GG} {ad0 : MA → Option Nat} {a : Array Value} {st t : State} {o : Outcome} (h : mQ true Γ (QI K1) ad0 a st o t) : mQ false Γ (QI K1) ad0 a st o t := by
  obtain ⟨v, rv, σ, ad, h1, h2, ⟨r, hr, hk⟩, h4, h5, h6, h7⟩ := h
  exact ⟨v, rv, fixR σ, ad, h1, h2, ⟨r, hr, hk⟩, h4, h5.fix, h6, h7⟩
theorem M_seal {Γ : GG} {y : Mth} {d mc ms kc ks pc : Nat} {L : List (Option MV)} {S : List MV} {σ : Sto} (hl : ∀ k, k < 42 → ∀ i, i < gN σ k → ∀ j, j < mlen 0 k → mref k j = true → mrf true σ k i j = gR σ k i j) (h : M true Γ y d mc ms kc ks (QI K1) pc L S σ) : M false Γ y d mc ms kc ks (QI K1) pc L S σ := by
  intro p l e s m args below meth c H locs ad0 ad ls st hc hG hst he hR hS hB hlo hk
  refine W_mono (fun t ht => ?_) (h p l e s m args below meth c H locs ad0 ad ls st hc hG hst he (hR.seal hl) hS hB hlo hk)
  obtain ⟨o, a1, a2, a3, a4⟩ := ht
  exact ⟨o, a1, a2, mQ_fix a3, a4⟩
/-! the start -/
def mtabs (k j : Nat) : Int32 := if k = 42 then ([-1, 0, 1, 0] : List Int32).getD j 0 else if k = 43 then ([0, 1, 0, -1] : List Int32).getD j 0 else if k = 44 then ([0, 1, 1, 3, 1] : List Int32).getD j 0 else if k = 45 then ([1, 4, 2, 4, 1] : List Int32).getD j 0 else 0
def st0 (xs : Nat → Int32) : Sto := (fun k _ j => if k = 46 then xs j else mtabs k j, fun _ _ _ => none, fun _ => 0)
def st1 (xs : Nat → Int32) : Sto := (f8_init 0 (sN (st0 xs) 8)).getD (st0 xs)
theorem st1_eq (xs : Nat → Int32) : f8_init 0 (sN (st0 xs) 8) = some (st1 xs) := rfl
def st2 (xs : Nat → Int32) : Sto := (f9_init 0 (sN (st1 xs) 9)).getD (st0 xs)
theorem st2_eq (xs : Nat → Int32) : f9_init 0 (sN (st1 xs) 9) = some (st2 xs) := rfl
abbrev nl42 : List Nat := [0, 0, 2, 1, 4, 0, 5, 1, 1, 1, 2, 2, 2, 2, 2, 2, 5, 1, 1, 4, 1, 1, 1, 1, 1, 1, 1, 1, 1, 1, 1, 1, 1, 1, 1, 1, 1, 1, 1, 1, 1, 1]
theorem st2_N (xs : Nat → Int32) : ∀ k, k < 42 → gN (st2 xs) k = nl42.getD k 0
  | 0, _ => rfl
  | 1, _ => rfl
  | 2, _ => rfl
  | 3, _ => rfl
  | 4, _ => rfl
  | 5, _ => rfl
  | 6, _ => rfl
  | 7, _ => rfl
  | 8, _ => rfl
  | 9, _ => rfl
  | 10, _ => rfl
  | 11, _ => rfl
  | 12, _ => rfl
  | 13, _ => rfl
  | 14, _ => rfl
  | 15, _ => rfl
  | 16, _ => rfl
  | 17, _ => rfl
  | 18, _ => rfl
  | 19, _ => rfl
  | 20, _ => rfl
  | 21, _ => rfl
  | 22, _ => rfl
  | 23, _ => rfl
  | 24, _ => rfl
  | 25, _ => rfl
  | 26, _ => rfl
  | 27, _ => rfl
  | 28, _ => rfl
  | 29, _ => rfl
  | 30, _ => rfl
  | 31, _ => rfl
  | 32, _ => rfl
  | 33, _ => rfl
  | 34, _ => rfl
  | 35, _ => rfl
  | 36, _ => rfl
  | 37, _ => rfl
  | 38, _ => rfl
  | 39, _ => rfl
  | 40, _ => rfl
  | 41, _ => rfl
  | n + 42, h => absurd h (by omega)
def RL2 : List (Nat × Nat × Nat) := [(2, 0, 5), (2, 0, 6), (2, 0, 7), (2, 0, 8), (2, 0, 9), (2, 0, 10), (2, 1, 5), (2, 1, 6), (2, 1, 7), (2, 1, 8), (2, 1, 9), (2, 1, 10), (3, 0, 0), (3, 0, 1), (4, 0, 0), (4, 1, 0), (4, 2, 0), (4, 3, 0), (6, 0, 0), (6, 0, 4), (6, 1, 0), (6, 1, 4), (6, 2, 0), (6, 2, 4), (6, 3, 0), (6, 3, 4), (6, 4, 0), (6, 4, 4), (8, 0, 0), (8, 0, 1), (8, 0, 3), (8, 0, 5), (8, 0, 6), (8, 0, 8), (8, 0, 9), (8, 0, 10), (8, 0, 11), (8, 0, 12), (9, 0, 2), (9, 0, 4), (9, 0, 6), (9, 0, 7), (9, 0, 10), (9, 0, 12), (9, 0, 13), (9, 0, 16), (9, 0, 17), (9, 0, 18), (9, 0, 19), (9, 0, 25), (9, 0, 26), (9, 0, 28), (9, 0, 29), (9, 0, 30), (9, 0, 31), (9, 0, 32), (13, 0, 0), (13, 0, 1), (13, 1, 0), (13, 1, 1), (17, 0, 0), (17, 0, 1), (17, 0, 2), (23, 0, 0), (23, 0, 1), (23, 0, 2), (23, 0, 3)]
theorem RL2_all : ((List.range 42).all fun k => (List.range (nl42.getD k 0)).all fun i => (List.range (mlen 0 k)).all fun j => !mref k j || RL2.contains (k, i, j)) = true := by decide +kernel
set_option maxRecDepth 4000 in
theorem RL2_ok (xs : Nat → Int32) : ∀ e ∈ RL2, mrf true (st2 xs) e.1 e.2.1 e.2.2 = gR (st2 xs) e.1 e.2.1 e.2.2 := List.forall_mem_cons.mpr ⟨rfl, List.forall_mem_cons.mpr ⟨rfl, List.forall_mem_cons.mpr ⟨rfl, List.forall_mem_cons.mpr ⟨rfl, List.forall_mem_cons.mpr ⟨rfl, List.forall_mem_cons.mpr ⟨rfl, List.forall_mem_cons.mpr ⟨rfl, List.forall_mem_cons.mpr ⟨rfl, List.forall_mem_cons.mpr ⟨rfl, List.forall_mem_cons.mpr ⟨rfl, List.forall_mem_cons.mpr ⟨rfl, List.forall_mem_cons.mpr ⟨rfl, List.forall_mem_cons.mpr ⟨rfl, List.forall_mem_cons.mpr ⟨rfl, List.forall_mem_cons.mpr ⟨rfl, List.forall_mem_cons.mpr ⟨rfl, List.forall_mem_cons.mpr ⟨rfl, List.forall_mem_cons.mpr ⟨rfl, List.forall_mem_cons.mpr ⟨rfl, List.forall_mem_cons.mpr ⟨rfl, List.forall_mem_cons.mpr ⟨rfl, List.forall_mem_cons.mpr ⟨rfl, List.forall_mem_cons.mpr ⟨rfl, List.forall_mem_cons.mpr ⟨rfl, List.forall_mem_cons.mpr ⟨rfl, List.forall_mem_cons.mpr ⟨rfl, List.forall_mem_cons.mpr ⟨rfl, List.forall_mem_cons.mpr ⟨rfl, List.forall_mem_cons.mpr ⟨rfl, List.forall_mem_cons.mpr ⟨rfl, List.forall_mem_cons.mpr ⟨rfl, List.forall_mem_cons.mpr ⟨rfl, List.forall_mem_cons.mpr ⟨rfl, List.forall_mem_cons.mpr ⟨rfl, List.forall_mem_cons.mpr ⟨rfl, List.forall_mem_cons.mpr ⟨rfl, List.forall_mem_cons.mpr ⟨rfl, List.forall_mem_cons.mpr ⟨rfl, List.forall_mem_cons.mpr ⟨rfl, List.forall_mem_cons.mpr ⟨rfl, List.forall_mem_cons.mpr ⟨rfl, List.forall_mem_cons.mpr ⟨rfl, List.forall_mem_cons.mpr ⟨rfl, List.forall_mem_cons.mpr ⟨rfl, List.forall_mem_cons.mpr ⟨rfl, List.forall_mem_cons.mpr ⟨rfl, List.forall_mem_cons.mpr ⟨rfl, List.forall_mem_cons.mpr ⟨rfl, List.forall_mem_cons.mpr ⟨rfl, List.forall_mem_cons.mpr ⟨rfl, List.forall_mem_cons.mpr ⟨rfl, List.forall_mem_cons.mpr ⟨rfl, List.forall_mem_cons.mpr ⟨rfl, List.forall_mem_cons.mpr ⟨rfl, List.forall_mem_cons.mpr ⟨rfl, List.forall_mem_cons.mpr ⟨rfl, List.forall_mem_cons.mpr ⟨rfl, List.forall_mem_cons.mpr ⟨rfl, List.forall_mem_cons.mpr ⟨rfl, List.forall_mem_cons.mpr ⟨rfl, List.forall_mem_cons.mpr ⟨rfl, List.forall_mem_cons.mpr ⟨rfl, List.forall_mem_cons.mpr ⟨rfl, List.forall_mem_cons.mpr ⟨rfl, List.forall_mem_cons.mpr ⟨rfl, List.forall_mem_cons.mpr ⟨rfl, List.forall_mem_cons.mpr ⟨rfl, fun _ h => by cases h⟩⟩⟩⟩⟩⟩⟩⟩⟩⟩⟩⟩⟩⟩⟩⟩⟩⟩⟩⟩⟩⟩⟩⟩⟩⟩⟩⟩⟩⟩⟩⟩⟩⟩⟩⟩⟩⟩⟩⟩⟩⟩⟩⟩⟩⟩⟩⟩⟩⟩⟩⟩⟩⟩⟩⟩⟩⟩⟩⟩⟩⟩⟩⟩⟩⟩⟩
theorem st2_seal (xs : Nat → Int32) : ∀ k, k < 42 → ∀ i, i < gN (st2 xs) k → ∀ j, j < mlen 0 k → mref k j = true → mrf true (st2 xs) k i j = gR (st2 xs) k i j := by
  intro k hk i hi j hj hm
  rw [st2_N xs k hk] at hi
  have h := List.all_eq_true.mp (List.all_eq_true.mp (List.all_eq_true.mp RL2_all k (List.mem_range.mpr hk)) i (List.mem_range.mpr hi)) j (List.mem_range.mpr hj)
  rw [hm] at h
  exact RL2_ok xs (k, i, j) (by simpa using h)
set_option maxRecDepth 20000 in
theorem law_M {Γ : GG} {xs : Nat → Int32} (h : Out (lL_law_18 Γ.2.1 66 0 (st2 xs)) K1) : M false Γ mL_law 1312 600000 7302250 0 0 (QI K1) 0 [some (vq (some (46, 0))), none, none, none] [] (st0 xs) := by
  refine r_new 8 14 0 1 14 3 dL_law_0 rfl rfl rfl (Or.inl rfl) (by decide +kernel) (by decide +kernel) (by decide +kernel) rfl rfl rfl (by omega) (by omega) ?_
  refine r_dup 4 dL_law_3 rfl rfl ?_
  refine M_call (mc' := 40) (ms' := 547) (as := [vq (some (8, 0))]) (rest := [vq (some (8, 0))]) csL_law_4 (ct8_init (K := fun s => s = st1 xs) ⟨st1 xs, st1_eq xs, rfl⟩) rfl rfl rfl (by decide) (by omega) (by omega) (by omega) (fun v σ' hq => ?_)
  obtain ⟨rfl, hq⟩ := hq
  subst hq
  refine r_astore_n [some (vq (some (46, 0))), some (vq (some (8, 0))), none, none] 8 dL_law_7 rfl rfl rfl ?_
  refine r_new 9 33 0 42 594 11 dL_law_8 rfl rfl rfl (Or.inl rfl) (by decide +kernel) (by decide +kernel) (by decide +kernel) rfl rfl rfl (by omega) (by omega) ?_
  refine r_dup 12 dL_law_11 rfl rfl ?_
  refine M_call (mc' := 18) (ms' := 455) (as := [vq (some (9, 0))]) (rest := [vq (some (9, 0))]) csL_law_12 (ct9_init (K := fun s => s = st2 xs) ⟨st2 xs, st2_eq xs, rfl⟩) rfl rfl rfl (by decide) (by omega) (by omega) (by omega) (fun v σ' hq => ?_)
  obtain ⟨rfl, hq⟩ := hq
  subst hq
  refine r_astore_n [some (vq (some (46, 0))), some (vq (some (8, 0))), some (vq (some (9, 0))), none] 16 dL_law_15 rfl rfl rfl ?_
  refine r_iconst 0 17 dL_law_16 rfl (by decide) ?_
  refine r_istore_n [some (vq (some (46, 0))), some (vq (some (8, 0))), some (vq (some (9, 0))), some (vi 0)] 18 dL_law_17 rfl rfl rfl ?_
  exact M_seal (st2_seal xs) (tlL_law_18 66 _ _ (by omega) (by omega) 0 _ h)
/-! from the entry state -/
theorem start_DOWN {b : Nat} {s : State} (hgv : (Jvm.Cond.and given_1 narrow_1).before #[Value.ref b] s = true) : ∃ t : Nat, (Term.static "PlatePeas" "DOWN" "[I").eval #[Value.ref b] s none [] s = some (.ref t) ∧ va_T .int t 4 (fun j => .int (mtabs 42 j)) (fun a => s.heap.size ≤ a) s s.heap := by
  have hf := flat_of_before _ hgv
  refine va_Tof (by decide) (hf _ (by decide +kernel)) (va_eqt (hf (Cond.eq (.length (.static "PlatePeas" "DOWN" "[I")) (.int 4)) (by decide +kernel))) (fun j hj => ?_) (fun a h => Nat.not_le.mpr h)
  match j, hj with
  | 0, _ => exact va_eqt (hf (Cond.eq (.elem (.static "PlatePeas" "DOWN" "[I") (.int 0)) (.int (-1))) (by decide +kernel))
  | 1, _ => exact va_eqt (hf (Cond.eq (.elem (.static "PlatePeas" "DOWN" "[I") (.int 1)) (.int (0))) (by decide +kernel))
  | 2, _ => exact va_eqt (hf (Cond.eq (.elem (.static "PlatePeas" "DOWN" "[I") (.int 2)) (.int (1))) (by decide +kernel))
  | 3, _ => exact va_eqt (hf (Cond.eq (.elem (.static "PlatePeas" "DOWN" "[I") (.int 3)) (.int (0))) (by decide +kernel))
  | m + 4, h => omega
theorem start_ACROSS {b : Nat} {s : State} (hgv : (Jvm.Cond.and given_1 narrow_1).before #[Value.ref b] s = true) : ∃ t : Nat, (Term.static "PlatePeas" "ACROSS" "[I").eval #[Value.ref b] s none [] s = some (.ref t) ∧ va_T .int t 4 (fun j => .int (mtabs 43 j)) (fun a => s.heap.size ≤ a) s s.heap := by
  have hf := flat_of_before _ hgv
  refine va_Tof (by decide) (hf _ (by decide +kernel)) (va_eqt (hf (Cond.eq (.length (.static "PlatePeas" "ACROSS" "[I")) (.int 4)) (by decide +kernel))) (fun j hj => ?_) (fun a h => Nat.not_le.mpr h)
  match j, hj with
  | 0, _ => exact va_eqt (hf (Cond.eq (.elem (.static "PlatePeas" "ACROSS" "[I") (.int 0)) (.int (0))) (by decide +kernel))
  | 1, _ => exact va_eqt (hf (Cond.eq (.elem (.static "PlatePeas" "ACROSS" "[I") (.int 1)) (.int (1))) (by decide +kernel))
  | 2, _ => exact va_eqt (hf (Cond.eq (.elem (.static "PlatePeas" "ACROSS" "[I") (.int 2)) (.int (0))) (by decide +kernel))
  | 3, _ => exact va_eqt (hf (Cond.eq (.elem (.static "PlatePeas" "ACROSS" "[I") (.int 3)) (.int (-1))) (by decide +kernel))
  | m + 4, h => omega
theorem start_UPPER {b : Nat} {s : State} (hgv : (Jvm.Cond.and given_1 narrow_1).before #[Value.ref b] s = true) : ∃ t : Nat, (Term.static "PlatePeas" "UPPER" "[I").eval #[Value.ref b] s none [] s = some (.ref t) ∧ va_T .int t 5 (fun j => .int (mtabs 44 j)) (fun a => s.heap.size ≤ a) s s.heap := by
  have hf := flat_of_before _ hgv
  refine va_Tof (by decide) (hf _ (by decide +kernel)) (va_eqt (hf (Cond.eq (.length (.static "PlatePeas" "UPPER" "[I")) (.int 5)) (by decide +kernel))) (fun j hj => ?_) (fun a h => Nat.not_le.mpr h)
  match j, hj with
  | 0, _ => exact va_eqt (hf (Cond.eq (.elem (.static "PlatePeas" "UPPER" "[I") (.int 0)) (.int (0))) (by decide +kernel))
  | 1, _ => exact va_eqt (hf (Cond.eq (.elem (.static "PlatePeas" "UPPER" "[I") (.int 1)) (.int (1))) (by decide +kernel))
  | 2, _ => exact va_eqt (hf (Cond.eq (.elem (.static "PlatePeas" "UPPER" "[I") (.int 2)) (.int (1))) (by decide +kernel))
  | 3, _ => exact va_eqt (hf (Cond.eq (.elem (.static "PlatePeas" "UPPER" "[I") (.int 3)) (.int (3))) (by decide +kernel))
  | 4, _ => exact va_eqt (hf (Cond.eq (.elem (.static "PlatePeas" "UPPER" "[I") (.int 4)) (.int (1))) (by decide +kernel))
  | m + 5, h => omega
theorem start_LOWER {b : Nat} {s : State} (hgv : (Jvm.Cond.and given_1 narrow_1).before #[Value.ref b] s = true) : ∃ t : Nat, (Term.static "PlatePeas" "LOWER" "[I").eval #[Value.ref b] s none [] s = some (.ref t) ∧ va_T .int t 5 (fun j => .int (mtabs 45 j)) (fun a => s.heap.size ≤ a) s s.heap := by
  have hf := flat_of_before _ hgv
  refine va_Tof (by decide) (hf _ (by decide +kernel)) (va_eqt (hf (Cond.eq (.length (.static "PlatePeas" "LOWER" "[I")) (.int 5)) (by decide +kernel))) (fun j hj => ?_) (fun a h => Nat.not_le.mpr h)
  match j, hj with
  | 0, _ => exact va_eqt (hf (Cond.eq (.elem (.static "PlatePeas" "LOWER" "[I") (.int 0)) (.int (1))) (by decide +kernel))
  | 1, _ => exact va_eqt (hf (Cond.eq (.elem (.static "PlatePeas" "LOWER" "[I") (.int 1)) (.int (4))) (by decide +kernel))
  | 2, _ => exact va_eqt (hf (Cond.eq (.elem (.static "PlatePeas" "LOWER" "[I") (.int 2)) (.int (2))) (by decide +kernel))
  | 3, _ => exact va_eqt (hf (Cond.eq (.elem (.static "PlatePeas" "LOWER" "[I") (.int 3)) (.int (4))) (by decide +kernel))
  | 4, _ => exact va_eqt (hf (Cond.eq (.elem (.static "PlatePeas" "LOWER" "[I") (.int 4)) (.int (1))) (by decide +kernel))
  | m + 5, h => omega
def ad0 (b q42 q43 q44 q45 : Nat) : MA → Option Nat := fun a => if a = (42, 0) then some q42 else if a = (43, 0) then some q43 else if a = (44, 0) then some q44 else if a = (45, 0) then some q45 else if a = (46, 0) then some b else none
theorem start_cell {Γ : GG} {s : State} {ad : MA → Option Nat} {xs : Nat → Int32} {k q n : Nat} (hk : k = 42 ∨ k = 43 ∨ k = 44 ∨ k = 45) (hn : mlen 0 k = n) (h : va_T .int q n (fun j => .int (mtabs k j)) (fun a => s.heap.size ≤ a) s s.heap) : mcell false Γ s ad (st0 xs) s.heap k 0 q := by
  obtain ⟨cell, h1, h2, h3, h4, h5, h6, -⟩ := h
  have e1 : mlen Γ.2.1 k = n := by rw [← hn]; rcases hk with rfl | rfl | rfl | rfl <;> rfl
  have e2 : ∀ j, mref k j = false := fun j => by rcases hk with rfl | rfl | rfl | rfl <;> rfl
  have e3 : ¬ k < 10 := by omega
  refine ⟨cell, h1, ?_, fun j hj => ?_⟩
  · unfold mhdr
    rw [if_neg e3, e1]
    refine ⟨?_, h3, ⟨h4, h5⟩, fun h => by rw [e2] at h; cases h⟩
    unfold mety
    rw [e2, if_neg (by decide)]
    exact h2
  · rw [e1] at hj
    refine ⟨.int (mtabs k j), ?_, ?_⟩
    · unfold sv
      rw [e2]
      show some (Value.int (if k = 46 then xs j else mtabs k j)) = _
      rw [if_neg (by omega)]
    · unfold mpl
      rw [if_neg e3]
      exact h6 j hj
theorem start_rep {Γ : GG} {s : State} {xs : Nat → Int32} {b q42 q43 q44 q45 : Nat} (hB : Γ.1 = s.heap.size) (hX : va_X b Γ.2.1 xs s s.heap) (h42 : va_T .int q42 4 (fun j => .int (mtabs 42 j)) (fun a => s.heap.size ≤ a) s s.heap) (h43 : va_T .int q43 4 (fun j => .int (mtabs 43 j)) (fun a => s.heap.size ≤ a) s s.heap) (h44 : va_T .int q44 5 (fun j => .int (mtabs 44 j)) (fun a => s.heap.size ≤ a) s s.heap) (h45 : va_T .int q45 5 (fun j => .int (mtabs 45 j)) (fun a => s.heap.size ≤ a) s s.heap) : Rep false Γ s (ad0 b q42 q43 q44 q45) (st0 xs) s.heap := by
  have inv : ∀ (a : MA) q, ad0 b q42 q43 q44 q45 a = some q → (a = (42, 0) ∧ q42 = q) ∨ (a = (43, 0) ∧ q43 = q) ∨ (a = (44, 0) ∧ q44 = q) ∨ (a = (45, 0) ∧ q45 = q) ∨ (a = (46, 0) ∧ b = q) := by
    intro a q h
    unfold ad0 at h
    split at h
    · exact Or.inl ⟨by assumption, by simpa using h⟩
    split at h
    · exact Or.inr (Or.inl ⟨by assumption, by simpa using h⟩)
    split at h
    · exact Or.inr (Or.inr (Or.inl ⟨by assumption, by simpa using h⟩))
    split at h
    · exact Or.inr (Or.inr (Or.inr (Or.inl ⟨by assumption, by simpa using h⟩)))
    split at h
    · exact Or.inr (Or.inr (Or.inr (Or.inr ⟨by assumption, by simpa using h⟩)))
    · cases h
  refine ⟨fun a a' q ha h1 h2 => ?_, fun k i q hq => ?_, by rw [hB]; exact Nat.le_refl _⟩
  · rcases inv a q h1 with ⟨rfl, -⟩ | ⟨rfl, -⟩ | ⟨rfl, -⟩ | ⟨rfl, -⟩ | ⟨rfl, -⟩ <;> exact absurd ha (by decide)
  · rcases inv (k, i) q hq with ⟨h, e⟩ | ⟨h, e⟩ | ⟨h, e⟩ | ⟨h, e⟩ | ⟨h, e⟩
    · cases h; subst e; exact ⟨start_cell (Or.inl rfl) rfl h42, fun h => absurd h (by decide)⟩
    · cases h; subst e; exact ⟨start_cell (Or.inr (Or.inl rfl)) rfl h43, fun h => absurd h (by decide)⟩
    · cases h; subst e; exact ⟨start_cell (Or.inr (Or.inr (Or.inl rfl))) rfl h44, fun h => absurd h (by decide)⟩
    · cases h; subst e; exact ⟨start_cell (Or.inr (Or.inr (Or.inr rfl))) rfl h45, fun h => absurd h (by decide)⟩
    · cases h; subst e
      obtain ⟨scr, h1, h2, h3, h4, h5⟩ := hX
      refine ⟨⟨scr, h1, ?_, fun j hj => ⟨.int (xs j), rfl, h5 j hj⟩⟩, fun h => absurd h (by decide)⟩
      show s.isArrayOf scr .int ∧ scr.vm ≠ .unknown ∧ (Γ.2.1 ≤ scr.slots.size ∧ scr.slots.size.toInt32 = Int32.ofNat Γ.2.1) ∧ _
      exact ⟨h2, h3, ⟨by omega, by rw [h4]⟩, fun h => by cases h⟩
theorem start_classes {b : Nat} {s : State} (hts : ∀ w ∈ lw_tbl, w.before #[Value.ref b] s = true) : ∃ (dC : Nat → ClassId) (dI : Nat → Nat → Nat), ∀ (k : Nat) (q : vw_C), vwCl[k]? = some q → u_Kn s q.1 q.2.1 q.2.2 (dC k) (dI k) := by
  obtain ⟨c0, iS0, hK0⟩ := u_known (C := RX0) (T := TX0) (N := 2) (n := 2) hts inX0 (hts (.instantiable RX0 2) (by decide +kernel))
  obtain ⟨c1, iS1, hK1⟩ := u_known (C := RX1) (T := TX1) (N := 2) (n := 2) hts inX1 (hts (.instantiable RX1 2) (by decide +kernel))
  obtain ⟨c2, iS2, hK2⟩ := u_known (C := RX2) (T := TX2) (N := 12) (n := 12) hts inX2 (hts (.instantiable RX2 12) (by decide +kernel))
  obtain ⟨c3, iS3, hK3⟩ := u_known (C := RX3) (T := TX3) (N := 2) (n := 2) hts inX3 (hts (.instantiable RX3 2) (by decide +kernel))
  obtain ⟨c4, iS4, hK4⟩ := u_known (C := RX4) (T := TX4) (N := 3) (n := 3) hts inX4 (hts (.instantiable RX4 3) (by decide +kernel))
  obtain ⟨c5, iS5, hK5⟩ := u_known (C := RX5) (T := TX5) (N := 2) (n := 2) hts inX5 (hts (.instantiable RX5 2) (by decide +kernel))
  obtain ⟨c6, iS6, hK6⟩ := u_known (C := RX6) (T := TX6) (N := 5) (n := 5) hts inX6 (hts (.instantiable RX6 5) (by decide +kernel))
  obtain ⟨c7, iS7, hK7⟩ := u_known (C := RX7) (T := TX7) (N := 1) (n := 1) hts inX7 (hts (.instantiable RX7 1) (by decide +kernel))
  obtain ⟨c8, iS8, hK8⟩ := u_known (C := RX8) (T := TX8) (N := 14) (n := 14) hts inX8 (hts (.instantiable RX8 14) (by decide +kernel))
  obtain ⟨c9, iS9, hK9⟩ := u_known (C := RX9) (T := TX9) (N := 33) (n := 33) hts inX9 (hts (.instantiable RX9 33) (by decide +kernel))
  refine ⟨fun k => if k = 0 then c0 else if k = 1 then c1 else if k = 2 then c2 else if k = 3 then c3 else if k = 4 then c4 else if k = 5 then c5 else if k = 6 then c6 else if k = 7 then c7 else if k = 8 then c8 else c9, fun k => if k = 0 then iS0 else if k = 1 then iS1 else if k = 2 then iS2 else if k = 3 then iS3 else if k = 4 then iS4 else if k = 5 then iS5 else if k = 6 then iS6 else if k = 7 then iS7 else if k = 8 then iS8 else iS9, ?_⟩
  intro k q hq
  match k, hq with
  | 0, hq => cases hq; exact hK0
  | 1, hq => cases hq; exact hK1
  | 2, hq => cases hq; exact hK2
  | 3, hq => cases hq; exact hK3
  | 4, hq => cases hq; exact hK4
  | 5, hq => cases hq; exact hK5
  | 6, hq => cases hq; exact hK6
  | 7, hq => cases hq; exact hK7
  | 8, hq => cases hq; exact hK8
  | 9, hq => cases hq; exact hK9
  | k + 10, hq => simp [vwCl] at hq
theorem start_mG {Γ : GG} {b : Nat} {s : State} (hts : ∀ w ∈ lw_tbl, w.before #[Value.ref b] s = true) (hgv : (Jvm.Cond.and given_1 narrow_1).before #[Value.ref b] s = true) (hK : ∀ (k : Nat) (q : vw_C), vwCl[k]? = some q → u_Kn s q.1 q.2.1 q.2.2 (Γ.2.2.1 k) (Γ.2.2.2 k)) : mG Γ s := by
  have hf := flat_of_before _ hgv
  refine ⟨fun w hw hg a => word_at (State.WarmedH.refl s) (good_of_word hg) (hts w hw), fun w hw hn => ?_, hK, ⟨va_AO.of (hts _ (by decide +kernel)), va_AO.of (hts _ (by decide +kernel)), va_AO.of (hts _ (by decide +kernel))⟩, ⟨va_Nw.of rfl (hts _ (by decide +kernel)), va_Nw.of rfl (hts _ (by decide +kernel)), va_Nw.of rfl (hts _ (by decide +kernel))⟩, ⟨va_Nc.of (hf _ (by decide +kernel)), va_Nc.of (hf _ (by decide +kernel)), va_Nc.of (hf _ (by decide +kernel))⟩⟩
  refine va_Nw.of ?_ (hts w hw)
  cases w <;> first | rfl | (simp [nestW] at hn; done)
theorem mQ_end {Γ : GG} {s t : State} {below : List Frame} {ad : MA → Option Nat} {b : Nat} (hB : Γ.1 = s.heap.size) (h : MQ below (mQ false Γ (QI K1) ad) #[Value.ref b] s 600000 7302250 (mA Γ) t) : lw_Z below #[Value.ref b] s t := by
  obtain ⟨o, h1, h2, h3, L, ⟨g1, g2, g3⟩, h5⟩ := h
  obtain ⟨v, rv, σ, ad', e1, e2, ⟨r, e3, e4⟩, -⟩ := h3
  subst e3
  have e4 : r = 1 := e4
  subst e4
  have e5 : rv = some (.int 1) := by
    cases rv with
    | none => cases e2
    | some u => simp [mv] at e2; exact congrArg some e2.symm
  subst e5
  refine ⟨o, h1, h2, e1, g1, g2, ?_⟩
  refine State.sameButNew.drop_fresh (L := []) (J := L) g3 (fun x hx => ?_)
  have := h5 x hx
  rw [← hB]
  exact this
theorem whole_of {p : Program} {e : Env} {s : State} {m : MethodId} {below : List Frame} {meth : Method} {c : Code} (l : Launch) {b L : Nat} {xs : Nat → Int32} (hP : Out (lL_law_18 L 66 0 (st2 xs)) K1) (C0 : lw_At p s m meth c b L xs) : W p l e room_1 s m #[Value.ref b] below meth c s.heap [] 0 0 (lw_Z below #[Value.ref b] s) (entryFrame m ([Value.ref b] : List Value).toArray 4) := by
  obtain ⟨hx, hb, hr, hml, hown, hname, hts, hX, hbl, hlocks, hgv⟩ := C0
  obtain ⟨dC, dI, hK⟩ := start_classes hts
  obtain ⟨q42, v42, t42⟩ := start_DOWN hgv
  obtain ⟨q43, v43, t43⟩ := start_ACROSS hgv
  obtain ⟨q44, v44, t44⟩ := start_UPPER hgv
  obtain ⟨q45, v45, t45⟩ := start_LOWER hgv
  have hA : ∀ a : Nat, a < s.heap.size → ¬ s.heap.size ≤ a := fun a h => Nat.not_le.mpr h
  refine W_room (R' := mRm 1312 600000 7302250) (by decide) (by decide) (by decide) (by decide) (W_mono (fun t ht => mQ_end (Γ := (s.heap.size, L, dC, dI)) (ad := ad0 b q42 q43 q44 q45) rfl ht) ?_)
  have hl := lv_entry ([.ref b]) (n := 4) (Nat.le_of_ble_eq_true rfl)
  rw [lg_entry_eq]
  refine law_M (Γ := (s.heap.size, L, dC, dI)) (xs := xs) hP p l e s m _ below meth c s.heap [] (ad0 b q42 q43 q44 q45) (ad0 b q42 q43 q44 q45) _ [] ⟨hx, hb, hr, hml, hown, hlocks, hname⟩ (start_mG hts hgv hK) ?_ (fun _ _ h => h) (start_rep rfl hX t42 t43 t44 t45) va_S.rf (Nat.le_refl _) ⟨⟨hl.1, rfl⟩, hl.2.1, fun k v hk => ?_⟩ rfl
  · intro x hx
    have hini := hts (.initialized "PlatePeas") (by decide +kernel)
    simp only [mstats, List.mem_cons, List.not_mem_nil, or_false] at hx
    rcases hx with rfl | rfl | rfl | rfl
    · exact ⟨q42, rfl, va_Zof (hts _ (by decide +kernel)) hini v42 hA⟩
    · exact ⟨q43, rfl, va_Zof (hts _ (by decide +kernel)) hini v43 hA⟩
    · exact ⟨q44, rfl, va_Zof (hts _ (by decide +kernel)) hini v44 hA⟩
    · exact ⟨q45, rfl, va_Zof (hts _ (by decide +kernel)) hini v45 hA⟩
  · match k, hk with
    | 0, hk => cases hk; exact ⟨.ref b, rfl, hl.2.2 (0, .ref b) (by simp [lv_args])⟩
    | 1, hk => cases hk
    | 2, hk => cases hk
    | 3, hk => cases hk
    | k + 4, hk => simp at hk
