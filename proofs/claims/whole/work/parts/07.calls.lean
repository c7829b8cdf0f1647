/-! CALLS: a method's entry, and the ways a method is called -/
def mLa : List MV → List (Option MV)
  | [] => []
  | v :: vs => match mcat v with
    | 2 => some v :: none :: mLa vs
    | _ => some v :: mLa vs
theorem mcat_12 (v : MV) : mcat v = 1 ∨ mcat v = 2 := by
  rcases v with x | x | x
  · exact Or.inl rfl
  · exact Or.inr rfl
  · exact Or.inl rfl
theorem mLa_cons1 {v : MV} {vs : List MV} (h : mcat v = 1) : mLa (v :: vs) = some v :: mLa vs := by simp [mLa, h]
theorem mLa_cons2 {v : MV} {vs : List MV} (h : mcat v = 2) : mLa (v :: vs) = some v :: none :: mLa vs := by simp [mLa, h]
theorem mLa_ok {ad : MA → Option Nat} : ∀ {as : List MV} {ras : List Value}, as.map (mv ad) = ras.map some → (mLa as).length = (lg_sl ras).length ∧ ∀ (off k : Nat) (v : MV), (mLa as)[k]? = some (some v) → ∃ rv, mv ad v = some rv ∧ (off + k, rv) ∈ lv_args off ras
  | [], [], _ => ⟨rfl, fun off k v h => by simp [mLa] at h⟩
  | [], _ :: _, h => by simp at h
  | _ :: _, [], h => by simp at h
  | a :: as, r :: ras, h => by
    simp only [List.map_cons, List.cons.injEq] at h
    obtain ⟨ih1, ih2⟩ := mLa_ok h.2
    have hc := mv_cat1 h.1
    rcases mcat_12 a with e | e
    · have e' : ¬ r.category = 2 := by rw [hc, e]; decide
      rw [mLa_cons1 e]
      refine ⟨by simp only [List.length_cons, ih1, lg_sl, List.flatMap_cons, if_neg e', List.length_append, List.length_nil]; omega, fun off k v hk => ?_⟩
      cases k with
      | zero =>
        simp only [List.getElem?_cons_zero, Option.some.injEq] at hk
        subst hk
        exact ⟨r, h.1, List.mem_cons_self⟩
      | succ k =>
        rw [List.getElem?_cons_succ] at hk
        obtain ⟨rv, g1, g2⟩ := ih2 (off + 1) k v hk
        refine ⟨rv, g1, List.mem_cons_of_mem _ ?_⟩
        rw [if_neg e', show off + (k + 1) = off + 1 + k by omega]
        exact g2
    · have e' : r.category = 2 := by rw [hc, e]
      rw [mLa_cons2 e]
      refine ⟨by simp only [List.length_cons, ih1, lg_sl, List.flatMap_cons, if_pos e', List.length_append, List.length_nil]; omega, fun off k v hk => ?_⟩
      cases k with
      | zero =>
        simp only [List.getElem?_cons_zero, Option.some.injEq] at hk
        subst hk
        exact ⟨r, h.1, List.mem_cons_self⟩
      | succ k =>
        cases k with
        | zero => simp at hk
        | succ k =>
          rw [List.getElem?_cons_succ, List.getElem?_cons_succ] at hk
          obtain ⟨rv, g1, g2⟩ := ih2 (off + 2) k v hk
          refine ⟨rv, g1, List.mem_cons_of_mem _ ?_⟩
          rw [if_pos e', show off + (k + 1 + 1) = off + 2 + k by omega]
          exact g2
/-- the locals at a method's entry -/
def mL0 (as : List MV) (n : Nat) : List (Option MV) := mLa as ++ List.replicate (n - (mLa as).length) none
theorem Ct_intro {ph : Bool} {Γ : GG} {y : Mth} {d mc ms : Nat} {Q : Option MV → Sto → Prop} {as : List MV} {σ : Sto} (hpl : plainName y.1.cls = true) (hn : Nat.ble (mLa as).length y.2.2.1 = true) (h : M ph Γ y d mc ms 0 0 Q 0 (mL0 as y.2.2.1) [] σ) : Ct ph Γ y d mc ms as σ Q := by
  intro l ad ras hras
  have hn' : (mLa as).length ≤ y.2.2.1 := Nat.le_of_ble_eq_true hn
  refine Met.ofW (cc := y.2.1) (maxL := y.2.2.1) (ret := y.2.2.2) hpl rfl ?_
  intro p e s m args below meth c s₁ B hml hv
  obtain ⟨rfl, hG, hst, hR⟩ := hv
  obtain ⟨q1, q2⟩ := mLa_ok hras
  have hl := lv_entry ras (n := y.2.2.1) (by rw [← q1]; exact hn')
  rw [lg_entry_eq]
  refine h p l e s m _ below meth c s.heap [] ad ad _ [] ⟨B.exec, B.bytes, B.returns, hml, findClass_of_methodNamed B.named, B.notSynchronized, (name_of_methodNamed B.named B.method).1⟩ hG hst (fun _ _ h => h) hR va_S.rf hR.2.2 ⟨⟨hl.1, ?_⟩, hl.2.1, fun k v hk => ?_⟩ rfl
  · simp only [mL0, List.length_append, List.length_replicate]; omega
  · unfold mL0 at hk
    rcases Nat.lt_or_ge k (mLa as).length with hlt | hge
    · rw [List.getElem?_append_left hlt] at hk
      obtain ⟨rv, g1, g2⟩ := q2 0 k v hk
      exact ⟨rv, g1, by simpa using hl.2.2 _ g2⟩
    · rw [List.getElem?_append_right hge] at hk
      have := List.mem_of_getElem? hk
      simp at this
/-- how a call site runs the method y' (C: the receiver's class, or nothing) -/
def mRun (y : Mth) (pc : Nat) (y' : Mth) (C : String) (np : Nat) : Prop := ∀ (Γ : GG) (d mc ms kc ks d' mc' ms' : Nat) (p : Program) (l : Launch) (e : Env) (s : State) (m : MethodId) (args : Array Value) (below : List Frame) (meth : Method) (c : Code) (H : Heap) (locs : List Loc) (ls : Array Slot) (ras rest : List Value)
  (Pc : Array Value → State → Prop) (Qc : Array Value → State → Outcome → State → Prop) (free : Addr → Prop), mctx y p s m meth c → mG Γ s → Met l y'.1 [mcode y'] (mRm d' mc' ms') Pc Qc mc' ms' free → FrameBlind Pc → (∀ U : State, U.heap = H → s.WarmedH U.vm → Pc ras.toArray U) →
  (C = "" ∨ ∃ (b : Nat) (cellB : Cell) (cC : ClassId), ras.head? = some (.ref b) ∧ H[b]? = some cellB ∧ cellB.vm.isStatics = false ∧ s.vm.findClass C = some cellB.cls ∧ ClassAt s C cC) → d' + 1 ≤ d → ras.length = np → ls.size = y.2.2.1 → (rest.map fun v => v.category).sum ≤ 8 → kc + mc' ≤ mc → ks + ms' ≤ ms →
  va_Run p l e (mRm d mc ms) s m args below meth c H locs kc ks mc' ms' (F0 m pc ls (ras.reverse ++ rest)) rest (Qc ras.toArray) free
theorem mP_blind {ph : Bool} {Γ : GG} {ad : MA → Option Nat} {σ : Sto} {ras : List Value} : FrameBlind (mP ph Γ ad σ ras) := by
  intro a U g mk h
  obtain ⟨h1, h2, h3, h4⟩ := h
  have hal : U.vm.Alike (U.calling g mk a).vm := Vm.Alike.refl U.vm
  refine ⟨h1, ?_, h3.warm hal, h4.warm hal⟩
  obtain ⟨a1, a2, a3, ⟨b1, b2, b3⟩, ⟨c1, c2, c3⟩, ⟨d1, d2, d3⟩⟩ := h2
  have hvm : U.vm = (U.calling g mk a).vm := rfl
  refine ⟨fun w hw hg z => ?_, fun w hw hn => ?_, fun c q hq => u_Kn_moved hal (a3 c q hq), ⟨b1.moved hal, b2.moved hal, b3.moved hal⟩, ⟨va_Nw.same rfl hvm c1, va_Nw.same rfl hvm c2, va_Nw.same rfl hvm c3⟩, ⟨d1.moved hal, d2.moved hal, d3.moved hal⟩⟩
  · have h := a1 w hw hg z
    rcases good_of_word hg with hg' | ⟨ty, rfl⟩
    · simp only [Bool.and_eq_true] at hg'
      exact va_tabs hg'.1 hvm h
    · exact h
  · have h := a2 w hw hn
    cases w <;> first | (simp [nestW] at hn; done) | exact va_Nw.same rfl hvm h
section Calls1
variable {ph : Bool} {Γ : GG} {y : Mth} {d mc ms kc ks : Nat} {Q : Option MV → Sto → Prop} {pc : Nat} {L : List (Option MV)} {S : List MV} {σ : Sto}
/-- the receiver's kind and its class -/
def mrecv (C : String) (as : List MV) : Bool := decide (C = "") || (match as with
  | .inr (.inr (some (k, _))) :: _ => (match vwCl[k]? with | some q => decide (q.1 = C) | none => false)
  | _ => false)
theorem mcatS {ad : MA → Option Nat} : ∀ {S : List MV} {st : List Value}, S.map (mv ad) = st.map some → (st.map fun v => v.category).sum = (S.map mcat).sum
  | [], [], _ => rfl
  | [], _ :: _, h => by simp at h
  | _ :: _, [], h => by simp at h
  | v :: S, r :: st, h => by
    simp only [List.map_cons, List.cons.injEq] at h
    simp only [List.map_cons, List.sum_cons, mv_cat1 h.1, mcatS h.2]
theorem mapp_split {ad : MA → Option Nat} : ∀ {A B : List MV} {st : List Value}, (A ++ B).map (mv ad) = st.map some → ∃ a b, st = a ++ b ∧ A.map (mv ad) = a.map some ∧ B.map (mv ad) = b.map some
  | [], B, st, h => ⟨[], st, rfl, rfl, h⟩
  | v :: A, B, [], h => by simp at h
  | v :: A, B, r :: st, h => by
    simp only [List.cons_append, List.map_cons, List.cons.injEq] at h
    obtain ⟨a, b, rfl, h1, h2⟩ := mapp_split h.2
    exact ⟨r :: a, b, rfl, by simp only [List.map_cons, h.1, h1], h2⟩
theorem M_call {y' : Mth} {C : String} {np d' mc' ms' : Nat} {Q' : Option MV → Sto → Prop} {as rest : List MV} (hrun : mRun y pc y' C np) (hC : Ct ph Γ y' d' mc' ms' as σ Q') (hS : S = as.reverse ++ rest) (hlen : as.length = np) (hrec : mrecv C as = true) (hcat : (rest.map mcat).sum ≤ 8) (hd : d' + 1 ≤ d) (hkc : kc + mc' ≤ mc) (hks : ks + ms' ≤ ms)
    (kk : ∀ v σ', Q' v σ' → M ph Γ y d mc ms (kc + mc') (ks + ms') Q (pc + 3) L (v.toList ++ rest) σ') : M ph Γ y d mc ms kc ks Q pc L S σ := by
  subst hS
  intro p l e s m args below meth c H locs ad0 ad ls st hc hG hst he hR hS hB hl hk
  obtain ⟨ra, rrest, rfl, hra, hrr⟩ := mapp_split hk
  have hras : as.map (mv ad) = ra.reverse.map some := by
    have h := congrArg List.reverse hra
    simpa only [← List.map_reverse, List.reverse_reverse] using h
  have hk1 : ∀ q, q < Γ.1 → H[q]? = s.heap[q]? := fun q hq => hS.2.1 q (Nat.lt_of_lt_of_le hq hB) (Nat.not_le.mpr hq)
  have hrc : C = "" ∨ ∃ (b : Nat) (cellB : Cell) (cC : ClassId), ra.reverse.head? = some (.ref b) ∧ H[b]? = some cellB ∧ cellB.vm.isStatics = false ∧ s.vm.findClass C = some cellB.cls ∧ ClassAt s C cC := by
    simp only [mrecv, Bool.or_eq_true, decide_eq_true_eq] at hrec
    rcases hrec with h | h
    · exact Or.inl h
    · right
      split at h
      · rename_i k i tl
        cases hq : vwCl[k]? with
        | none => rw [hq] at h; cases h
        | some q =>
          rw [hq] at h
          simp only [decide_eq_true_eq] at h
          cases hrr2 : ra.reverse with
          | nil => rw [hrr2] at hras; simp at hras
          | cons r0 rt =>
            rw [hrr2] at hras
            simp only [List.map_cons, List.cons.injEq] at hras
            rcases mk_q hras.1 with ⟨e0, -⟩ | ⟨a, b, e0, hb, rfl⟩
            · cases e0
            · cases e0
              obtain ⟨⟨cell, c1, c2, -⟩, -⟩ := hR.2.1 k i b hb
              unfold mhdr at c2
              rw [if_pos (mcls_lt hq)] at c2
              have hkn := hG.2.2.1 k q hq
              exact ⟨b, cell, _, rfl, c1, by rw [c2.2]; rfl, by rw [← h, c2.1]; exact hkn.2.1, by rw [← h]; exact hkn.2⟩
      · cases h
  have hr := hrun Γ d mc ms kc ks d' mc' ms' p l e s m args below meth c H locs ls ra.reverse rrest (mP ph Γ ad σ ra.reverse) (mQ ph Γ Q' ad) (mA Γ) hc hG (hC l ad _ hras) mP_blind
    (fun U hU hW => ⟨rfl, hG.warm hW, ((hst.warm hW.alike).ext he).kept (by rw [hU]; exact hk1), by rw [hU]; exact hR.warm hW.alike⟩) hrc hd
    (by rw [← hlen, ← List.length_map (f := mv ad), hras, List.length_map]) hl.1.1 (by rw [mcatS hrr]; exact hcat) hkc hks
  rw [List.reverse_reverse] at hr
  intro T hT X
  obtain ⟨v, st₀, t, T', L', h0, X', hL', e1, e2, ⟨mvv, rv, σ', ad', hv, hm, hQ', hext, hR', hz, hfr⟩, stp⟩ := hr T hT X
  cases hv
  rw [h0] at hz hfr
  have hS' : va_S (mA Γ) s.heap t.heap (locs ++ L') := by
    refine ⟨Nat.le_trans hS.1 hz, fun q h1 h2 => ?_, fun q hq => ?_⟩
    · rw [hfr q (Nat.not_le.mp h2)]; exact hS.2.1 q h1 h2
    · rcases List.mem_append.mp hq with h | h
      · exact hS.2.2 q h
      · exact hL' q h
  have hal : t.vm.Alike s.vm := by rw [← e2]; exact X'.warmed.alike.symm
  obtain ⟨t2, a1, b1⟩ := kk mvv σ' hQ' p l e s m args below meth c t.heap (locs ++ L') ad0 ad' ls (v.toList ++ rrest) hc hG hst (fun a q h => hext a q (he a q h)) (hR'.warm hal) hS' hB (hl.ext hext) (by
    cases mvv with
    | none => cases v with
      | none => exact mv_exts hext hrr
      | some _ => simp at hm
    | some w => cases v with
      | none => simp at hm
      | some r =>
        simp only [Option.map_some, Option.some.injEq] at hm
        simp only [Option.toList, List.cons_append, List.nil_append, List.map_cons, hm, mv_exts hext hrr]) T' e1 X'
  exact ⟨t2, stp t2 a1, b1⟩
end Calls1
/-! the flavours -/
def mlensig (y : MethodName) (n : Nat) : Bool := decide ((parseMethodDescriptor y.desc).map (fun d => d.parameters.length) = some n)
theorem mlensig_spec {y : MethodName} {n : Nat} (h : mlensig y n = true) : ∀ sig, parseMethodDescriptor y.desc = some sig → n = sig.parameters.length := by
  intro sig hs
  have h2 := of_decide_eq_true h
  rw [hs] at h2
  exact (Option.some.inj h2).symm
def mnoMH (c : String) : Bool := decide (c ≠ "java/lang/invoke/MethodHandle") && decide (c ≠ "java/lang/invoke/VarHandle")
theorem mnoMH_spec {c : String} (h : mnoMH c = true) : c ≠ "java/lang/invoke/MethodHandle" ∧ c ≠ "java/lang/invoke/VarHandle" := by
  simpa [mnoMH] using h
theorem mws {Γ : GG} {s : State} (hG : mG Γ s) {y' : Mth} (hw : mcode y' ∈ lw_tbl) : ∀ w ∈ [mcode y'], ∀ (a' : Array Value) (U : State), s.WarmedH U.vm → w.before a' U = true := by
  intro w h a' U hW
  rw [List.mem_singleton.mp h]
  exact (hG.warm hW).1 _ hw rfl a'
theorem run_S {y y' : Mth} {pc idx np : Nat} (hd : decode y.2.1 pc = .ok (.invokestatic idx, 3)) (h1 : Cond.methodLink y.1.cls idx y'.1 ∈ lw_tbl) (h2 : Cond.static y'.1 ∈ lw_tbl) (h3 : Cond.initialized y'.1.cls ∈ lw_tbl) (h4 : mcode y' ∈ lw_tbl) (h5 : mlensig y'.1 np = true) (h6 : mnoMH y'.1.cls = true) (h7 : y'.2.2.1 ≤ 45) : mRun y pc y' "" np := by
  intro Γ d mc ms kc ks d' mc' ms' p l e s m args below meth c H locs ls ras rest Pc Qc free hc hG hM hbl hPc hrec hdd hlen hls hcat hkc hks
  exact va_runS (Ts := []) ⟨hc.1, hc.2.1, hc.2.2.2.1, hc.2.2.2.2.1, fun w h => by cases h⟩ hM ⟨⟨rfl, rfl, hdd, by show 8 + (y'.2.2.1 + 11) + 64 * d' ≤ 64 * d; omega, mws hG h4, List.mem_singleton.mpr rfl, hG.1 _ h4 rfl args, hG.1 _ h3 rfl args, mnoMH_spec h6, mlensig_spec h5, hG.1 _ h1 rfl args⟩, hG.1 _ h2 rfl args⟩ ⟨hbl, hPc⟩ rfl hlen hls rfl (by show 2 * 0 + _ ≤ 8; omega) hd ⟨hkc, hks⟩
theorem run_SN {y y' : Mth} {pc idx np : Nat} {host : String} (hd : decode y.2.1 pc = .ok (.invokestatic idx, 3)) (h1 : Cond.methodLinkNest y.1.cls idx y'.1 host ∈ lw_tbl) (h2 : Cond.static y'.1 ∈ lw_tbl) (h3 : Cond.initialized y'.1.cls ∈ lw_tbl) (h4 : mcode y' ∈ lw_tbl) (h5 : mlensig y'.1 np = true) (h6 : mnoMH y'.1.cls = true) (h7 : y'.2.2.1 ≤ 45) : mRun y pc y' "" np := by
  intro Γ d mc ms kc ks d' mc' ms' p l e s m args below meth c H locs ls ras rest Pc Qc free hc hG hM hbl hPc hrec hdd hlen hls hcat hkc hks
  exact va_runSN (Ts := []) ⟨hc.1, hc.2.1, hc.2.2.2.1, hc.2.2.2.2.1, fun w h => by cases h⟩ hM ⟨⟨⟨rfl, rfl, hdd, by show 8 + (y'.2.2.1 + 11) + 64 * d' ≤ 64 * d; omega, mws hG h4, List.mem_singleton.mpr rfl⟩, hG.1 _ h4 rfl args, hG.1 _ h3 rfl args, mnoMH_spec h6, mlensig_spec h5, va_Nw.use rfl (hG.2.1 _ h1 rfl)⟩, hG.1 _ h2 rfl args, trivial⟩ ⟨hbl, hPc⟩ rfl hlen hls rfl (by show 2 * 0 + _ ≤ 8; omega) hd ⟨hkc, hks⟩
theorem ras_cons {ras : List Value} {b : Nat} (h : ras.head? = some (.ref b)) : ∃ As, ras = .ref b :: As := by
  cases ras with
  | nil => cases h
  | cons r As => simp only [List.head?_cons, Option.some.injEq] at h; exact ⟨As, by rw [h]⟩
theorem run_V {y y' : Mth} {pc idx np : Nat} {C : String} (hd : decode y.2.1 pc = .ok (.invokevirtual idx, 3)) (hC : C ≠ "") (h1 : Cond.methodLink y.1.cls idx y'.1 ∈ lw_tbl) (h2 : Cond.instanceMethod y'.1 ∈ lw_tbl) (h2s : Cond.selects C y'.1 y'.1 ∈ lw_tbl) (h3 : Cond.initialized y'.1.cls ∈ lw_tbl) (h4 : mcode y' ∈ lw_tbl) (h5 : mlensig y'.1 np = true) (h6 : mnoMH y'.1.cls = true) (h7 : y'.2.2.1 ≤ 45) : mRun y pc y' C (np + 1) := by
  intro Γ d mc ms kc ks d' mc' ms' p l e s m args below meth c H locs ls ras rest Pc Qc free hc hG hM hbl hPc hrec hdd hlen hls hcat hkc hks
  obtain ⟨b, cellB, cC, r1, r2, r3, r4, r5⟩ := hrec.resolve_left hC
  obtain ⟨As, rfl⟩ := ras_cons r1
  exact va_runV (Ts := []) (As := As) ⟨hc.1, hc.2.1, hc.2.2.2.1, hc.2.2.2.2.1, fun w h => by cases h⟩ hM ⟨⟨rfl, rfl, hdd, by show 8 + (y'.2.2.1 + 11) + 64 * d' ≤ 64 * d; omega, mws hG h4, List.mem_singleton.mpr rfl, hG.1 _ h4 rfl args, hG.1 _ h3 rfl args, mnoMH_spec h6, mlensig_spec h5, hG.1 _ h1 rfl args⟩, hG.1 _ h2 rfl args, hG.1 _ h2s rfl args⟩ ⟨hbl, ⟨cellB, r2, r3, r4⟩, hPc⟩ rfl (by simpa using hlen) hls (by simp) (by show 2 * 0 + _ ≤ 8; omega) hd ⟨hkc, hks⟩
theorem run_U {y y' : Mth} {pc idx np : Nat} {C owner : String} {xm : MethodName} {b0 : ByteArray} {m0 : Nat} {r0 : Option FieldType} (hd : decode y.2.1 pc = .ok (.invokevirtual idx, 3)) (hC : C ≠ "") (h1 : Cond.methodLink y.1.cls idx xm ∈ lw_tbl) (hsm : Cond.sameMethod xm.cls owner xm.name xm.desc ∈ lw_tbl) (hi0 : Cond.instanceMethod ⟨owner, xm.name, xm.desc⟩ ∈ lw_tbl) (hc0 : Cond.code ⟨owner, xm.name, xm.desc⟩ b0 m0 r0 ∈ lw_tbl) (h2 : Cond.instanceMethod y'.1 ∈ lw_tbl) (h2s : Cond.selects C xm y'.1 ∈ lw_tbl) (h3 : Cond.initialized y'.1.cls ∈ lw_tbl) (h4 : mcode y' ∈ lw_tbl) (h5 : mlensig xm np = true) (h6 : mnoMH owner = true) (h7 : y'.2.2.1 ≤ 45) : mRun y pc y' C (np + 1) := by
  intro Γ d mc ms kc ks d' mc' ms' p l e s m args below meth c H locs ls ras rest Pc Qc free hc hG hM hbl hPc hrec hdd hlen hls hcat hkc hks
  obtain ⟨b, cellB, cC, r1, r2, r3, r4, r5⟩ := hrec.resolve_left hC
  obtain ⟨As, rfl⟩ := ras_cons r1
  exact va_runU (Ts := []) (As := As) ⟨hc.1, hc.2.1, hc.2.2.2.1, hc.2.2.2.2.1, fun w h => by cases h⟩ hM ⟨⟨rfl, rfl, hdd, by show 8 + (y'.2.2.1 + 11) + 64 * d' ≤ 64 * d; omega, mws hG h4, List.mem_singleton.mpr rfl⟩, hG.1 _ h4 rfl args, hG.1 _ h3 rfl args, mnoMH_spec h6, mlensig_spec h5, hG.1 _ h1 rfl args, hG.1 _ hsm rfl args, va_Decl.of (hG.1 _ hi0 rfl args) (hG.1 _ hc0 rfl args), hG.1 _ h2s rfl args, hG.1 _ h2 rfl args⟩ ⟨hbl, ⟨cellB, r2, r3, r4⟩, hPc⟩ rfl (by simpa using hlen) hls (by simp) (by show 2 * 0 + _ ≤ 8; omega) hd ⟨hkc, hks⟩
theorem run_SU {y y' : Mth} {pc idx np : Nat} {C : String} (hd : decode y.2.1 pc = .ok (.invokespecial idx, 3)) (hC : C ≠ "") (h1 : Cond.methodLink y.1.cls idx y'.1 ∈ lw_tbl) (hsm : Cond.sameMethod y'.1.cls y'.1.cls y'.1.name y'.1.desc ∈ lw_tbl) (hsup : Cond.superclass y.1.cls y'.1.cls ∈ lw_tbl) (h2 : Cond.instanceMethod y'.1 ∈ lw_tbl) (h3 : Cond.initialized y'.1.cls ∈ lw_tbl) (h4 : mcode y' ∈ lw_tbl) (h5 : mlensig y'.1 np = true) (h6 : y'.1.name ≠ "<init>") (h7 : y'.2.2.1 ≤ 45) : mRun y pc y' C (np + 1) := by
  intro Γ d mc ms kc ks d' mc' ms' p l e s m args below meth c H locs ls ras rest Pc Qc free hc hG hM hbl hPc hrec hdd hlen hls hcat hkc hks
  obtain ⟨b, cellB, cC, r1, r2, r3, r4, r5⟩ := hrec.resolve_left hC
  obtain ⟨As, rfl⟩ := ras_cons r1
  exact va_runSU (Ts := []) (As := As) r5 ⟨hc.1, hc.2.1, hc.2.2.2.1, hc.2.2.2.2.1, fun w h => by cases h⟩ hM ⟨⟨rfl, rfl, hdd, by show 8 + (y'.2.2.1 + 11) + 64 * d' ≤ 64 * d; omega, mws hG h4, List.mem_singleton.mpr rfl⟩, hG.1 _ h1 rfl args, hG.1 _ hsm rfl args, hG.1 _ hsup rfl args, hG.1 _ h2 rfl args, hG.1 _ h3 rfl args, hG.1 _ h4 rfl args, h6, mlensig_spec h5⟩ ⟨hbl, ⟨cellB, r2, r3, r4⟩, hPc⟩ rfl (by simpa using hlen) hls (by simp) (by show 2 * 0 + _ ≤ 8; omega) hd ⟨hkc, hks⟩
theorem run_I {y y' : Mth} {pc idx np : Nat} {C : String} (hd : decode y.2.1 pc = .ok (.invokespecial idx, 3)) (hC : C ≠ "") (hret : y'.2.2.2 = none) (hy : y'.1.name = "<init>") (h1 : Cond.methodLink y.1.cls idx y'.1 ∈ lw_tbl) (h2 : Cond.instanceMethod y'.1 ∈ lw_tbl) (h3 : Cond.initialized y'.1.cls ∈ lw_tbl) (h4 : mcode y' ∈ lw_tbl) (h5 : mlensig y'.1 np = true) (h6 : mnoMH y'.1.cls = true) (h7 : y'.2.2.1 ≤ 45) : mRun y pc y' C (np + 1) := by
  intro Γ d mc ms kc ks d' mc' ms' p l e s m args below meth c H locs ls ras rest Pc Qc free hc hG hM hbl hPc hrec hdd hlen hls hcat hkc hks
  obtain ⟨b, cellB, cC, r1, r2, r3, r4, r5⟩ := hrec.resolve_left hC
  obtain ⟨As, rfl⟩ := ras_cons r1
  obtain ⟨n', c', l', rt'⟩ := y'
  dsimp only at hret; subst hret
  exact va_runI (Ts := []) (As := As) ⟨hc.1, hc.2.1, hc.2.2.2.1, hc.2.2.2.2.1, fun w h => by cases h⟩ hM ⟨⟨rfl, rfl, hdd, by show 8 + (l' + 11) + 64 * d' ≤ 64 * d; dsimp only at h7; omega, mws hG h4, List.mem_singleton.mpr rfl, hG.1 _ h4 rfl args, hG.1 _ h3 rfl args, mnoMH_spec h6, mlensig_spec h5, hG.1 _ h1 rfl args⟩, hy, hG.1 _ h2 rfl args⟩ ⟨hbl, hPc⟩ rfl (by simpa using hlen) hls (by simp) (by show 2 * 0 + _ ≤ 8; omega) hd ⟨hkc, hks⟩
theorem run_IN {y y' : Mth} {pc idx np : Nat} {C host : String} (hd : decode y.2.1 pc = .ok (.invokespecial idx, 3)) (hC : C ≠ "") (hret : y'.2.2.2 = none) (hy : y'.1.name = "<init>") (h1 : Cond.methodLinkNest y.1.cls idx y'.1 host ∈ lw_tbl) (h2 : Cond.instanceMethod y'.1 ∈ lw_tbl) (h3 : Cond.initialized y'.1.cls ∈ lw_tbl) (h4 : mcode y' ∈ lw_tbl) (h5 : mlensig y'.1 np = true) (h6 : mnoMH y'.1.cls = true) (h7 : y'.2.2.1 ≤ 45) : mRun y pc y' C (np + 1) := by
  intro Γ d mc ms kc ks d' mc' ms' p l e s m args below meth c H locs ls ras rest Pc Qc free hc hG hM hbl hPc hrec hdd hlen hls hcat hkc hks
  obtain ⟨b, cellB, cC, r1, r2, r3, r4, r5⟩ := hrec.resolve_left hC
  obtain ⟨As, rfl⟩ := ras_cons r1
  obtain ⟨n', c', l', rt'⟩ := y'
  dsimp only at hret; subst hret
  exact va_runIN (Ts := []) (As := As) ⟨hc.1, hc.2.1, hc.2.2.2.1, hc.2.2.2.2.1, fun w h => by cases h⟩ hM ⟨⟨⟨rfl, rfl, hdd, by show 8 + (l' + 11) + 64 * d' ≤ 64 * d; dsimp only at h7; omega, mws hG h4, List.mem_singleton.mpr rfl⟩, hG.1 _ h4 rfl args, hG.1 _ h3 rfl args, mnoMH_spec h6, mlensig_spec h5, va_Nw.use rfl (hG.2.1 _ h1 rfl)⟩, hy, hG.1 _ h2 rfl args⟩ ⟨hbl, hPc⟩ rfl (by simpa using hlen) hls (by simp) (by show 2 * 0 + _ ≤ 8; omega) hd ⟨hkc, hks⟩
