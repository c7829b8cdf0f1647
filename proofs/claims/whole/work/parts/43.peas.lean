/-! peas, would -/
theorem in6_in {σ : Sto} {j : Nat} (h : j < 6) : f9_in (iN j).toInt64 0 5 σ = some (1, σ) := in_in (n := 6) σ (by decide) h
theorem in6_out {σ : Sto} {x : Int32} (h : x < 0 ∨ iN 6 ≤ x) : f9_in x.toInt64 0 5 σ = some (0, σ) := in_out (n := 6) σ (by decide) h
theorem in2_in {σ : Sto} {j : Nat} (h : j < 2) : f9_in (iN j).toInt64 0 1 σ = some (1, σ) := in_in (n := 2) σ (by decide) h
theorem in2_out {σ : Sto} {x : Int32} (h : x < 0 ∨ iN 2 ≤ x) : f9_in x.toInt64 0 1 σ = some (0, σ) := in_out (n := 2) σ (by decide) h
theorem nowP_ok {A : AS} (h : laid A) : okP (aB A) (aN A) (nowP A) := okP_run h (aK A) (Nat.le_refl _)
theorem both_peas (a1 : Int32) : Both (f8_peas a1) (f9_peas a1) := Both.play (fun σ A t hw hC hM => by
  have x1 := hC.2.1.1
  have no : ∀ r, f8_peas a1 σ = some (r, σ) → (∀ τ, RM τ A → f9_peas a1 τ = some (r, τ)) → ∃ r σ1 σ2, f8_peas a1 σ = some (r, σ1) ∧ Agr σ σ1 ∧ FC σ σ1 ∧ (RM σ1 A → f9_peas a1 σ1 = some (r, σ2) ∧ FMm σ1 σ2 ∧ RM σ2 A) := fun r h1 h2 => ⟨r, σ, σ, h1, Agr.rfl, FC.rfl, fun hM => ⟨h2 _ hM, FMm.rfl, hM⟩⟩
  rcases iN_or a1 6 (by decide) with ⟨w, hw6, rfl⟩ | hx
  · rcases hw.1 with hl | hl
    · have hn := hl.2.2.1
      have hv := hl.2.2.2.2.2.2.2
      have hS := hC.2.2.2.2.2.2.1 hl
      have hP := nowP_ok hl
      have hB := hC.2.1.2.1
      have yes : ∀ r, (if iN w = 0 then (some (gI σ 6 0 1, σ)) else (if iN w = 1 then (some (gI σ 6 0 2, σ)) else (bI (f6_heldSet 0 (iN w - 2) σ) (fun v26 s27 => (some (v26, s27)))))) = some (r, σ) → (∀ τ, RM τ A → MS τ (aN A) (aV A) (nowP A) → f9_setOf (iN w) τ = some (r, τ)) → ∃ r σ1 σ2, f8_peas (iN w) σ = some (r, σ1) ∧ Agr σ σ1 ∧ FC σ σ1 ∧ (RM σ1 A → f9_peas (iN w) σ1 = some (r, σ2) ∧ FMm σ1 σ2 ∧ RM σ2 A) := by
        intro r h1 h2
        obtain ⟨σ2, g1, g2, g3⟩ := m_now hl hM
        refine ⟨r, σ, σ2, ?_, Agr.rfl, FC.rfl, fun hM => ⟨?_, g3.fmm, hM.fm g3⟩⟩
        · unfold f8_peas
          rw [show (6 : Int32) = iN 6 from rfl, isBelow_in σ (by decide) hw6, bI_some, if_neg (by decide), x1, dr_some, c_laid hl hC.2.1.2.2.1.2, bI_some, if_neg (by decide)]
          exact h1
        · unfold f9_peas
          rw [in6_in hw6, bI_some, if_neg (by decide), if_neg (m_laid hl hM.1.1.2.1), g1, bV_some, h2 σ2 (hM.fm g3) g2, bI_some]
      by_cases w0 : w = 0
      · subst w0
        refine yes (bits (nowP A) 100) ?_ (fun τ hM hS => m_set0 hn hP hS)
        rw [if_pos (by decide), hS.2.2.2.1]
      by_cases w1 : w = 1
      · subst w1
        refine yes (bits (nowP A) 101) ?_ (fun τ hM hS => m_set1 (okB_30 hl.1) hn hP hS)
        rw [if_neg (by decide), if_pos (by decide), hS.2.2.2.2]
      obtain ⟨d, rfl⟩ : ∃ d, w = d + 2 := ⟨w - 2, by omega⟩
      refine yes (bsF (heldF (aB A) (aV A) (nowP A) d) 5 0 0) ?_ (fun τ hM hS => m_set2 hl.1 hv hn hP hM.1.1 hS (by omega))
      rw [if_neg (by rw [show (0 : Int32) = iN 0 from rfl, iN_inj (by omega) (by omega)]; exact w0), if_neg (by rw [show (1 : Int32) = iN 1 from rfl, iN_inj (by omega) (by omega)]; exact w1), show iN (d + 2) - 2 = iN d from iN_sub (a := d + 2) (b := 2) (by omega)]
      rw [show f6_heldSet 0 (iN d) σ = _ from c_heldSetL hB hl.1 hS hv hP (show d < 4 by omega) 5 0 300 0 rfl (by decide), bI_some]
    · refine no (-3) ?_ (fun τ hM => ?_)
      · unfold f8_peas
        rw [show (6 : Int32) = iN 6 from rfl, isBelow_in σ (by decide) hw6, bI_some, if_neg (by decide), x1, dr_some, c_unlaid hl hC.2.1.2.2.1.2, bI_some, if_pos rfl]
      · unfold f9_peas
        rw [in6_in hw6, bI_some, if_neg (by decide), if_pos (m_unlaid hl hM.1.1.2.1)]
  · refine no (-2) ?_ (fun τ hM => ?_)
    · unfold f8_peas
      rw [show (6 : Int32) = iN 6 from rfl, isBelow_out σ hx, bI_some, if_pos rfl]
    · unfold f9_peas
      rw [in6_out hx, bI_some, if_pos rfl])
/-! gone is gone; rolling has none -/
theorem roll_gone {B : Bd} {v : Nat} (h : okB B) : ∀ (f p d : Nat) (P : Nat → Nat), d < 4 → P p < B.1 * B.2.1 → ∀ x, ¬ P x < 30 → rollA B v f p d P x = P x
  | 0, _, _, _, _, _, _, _ => rfl
  | f + 1, p, d, P, hd, hc, x, hx => by
    have h30 := okB_30 h
    have xp : ¬ x = p := fun e => by rw [e] at hx; omega
    unfold rollA
    rcases nx_rg h hc hd with e | e
    · rw [if_pos e]
      split
      · exact roll_gone h f p _ P (Nat.mod_lt _ (by decide)) hc x hx
      · split
        · exact up_ne xp
        · rfl
    · rw [if_neg (by omega)]
      generalize nx B.1 B.2.1 (P p) d = s at e ⊢
      split
      · rfl
      · by_cases e3 : pon P s = 9
        · rw [if_pos e3]
          split
          · exact up_ne xp
          · rw [roll_gone h f p d (up P p s) hd (by rw [up_eq]; exact e) x (by rw [up_ne xp]; exact hx), up_ne xp]
        · rw [if_neg e3]
          rcases pon_le P s with q | ⟨-, q⟩
          · exact absurd q e3
          · exact roll_gone h f _ d P hd (by rw [q]; exact e) x hx
theorem roll_100 {B : Bd} {v : Nat} (h : okB B) : ∀ (f p d : Nat) (P : Nat → Nat), d < 4 → P p < B.1 * B.2.1 → ∀ x, rollA B v f p d P x = 100 → P x = 100
  | 0, _, _, _, _, _, _, hx => hx
  | f + 1, p, d, P, hd, hc, x, hx => by
    have h30 := okB_30 h
    have key : ∀ y, ¬ y = 100 → up P p y x = 100 → P x = 100 := fun y hy hu => by
      by_cases xp : x = p
      · rw [xp, up_eq] at hu; exact absurd hu hy
      · rw [up_ne xp] at hu; exact hu
    unfold rollA at hx
    rcases nx_rg h hc hd with e | e
    · rw [if_pos e] at hx
      split at hx
      · exact roll_100 h f p _ P (Nat.mod_lt _ (by decide)) hc x hx
      · split at hx
        · exact key _ (by decide) hx
        · exact hx
    · rw [if_neg (by omega)] at hx
      generalize nx B.1 B.2.1 (P p) d = s at e hx
      split at hx
      · exact hx
      · by_cases e3 : pon P s = 9
        · rw [if_pos e3] at hx
          split at hx
          · exact key _ (by omega) hx
          · exact key s (by omega) (roll_100 h f p d (up P p s) hd (by rw [up_eq]; exact e) x hx)
        · rw [if_neg e3] at hx
          rcases pon_le P s with q | ⟨-, q⟩
          · exact absurd q e3
          · exact roll_100 h f _ d P hd (by rw [q]; exact e) x hx
theorem push_gone {B : Bd} {n m v c x : Nat} {F P : Nat → Nat} (h : okB B) (hP : okP B n P) (hc : okC n m c) (hx : ¬ P x < 30) : pushA B v F P c x = P x := by
  unfold pushA
  split
  · rename_i on
    split
    · exact up_ne (fun e => by rw [e] at hx; exact hx on)
    · exact roll_gone h _ _ _ P hc.2.2 (okP_sq hP on).2 x hx
  · rfl
/-- a pea that is had now was had, or it was pushed and held -/
theorem push_100 {B : Bd} {n m v c x : Nat} {F P : Nat → Nat} (h : okB B) (hP : okP B n P) (hc : okC n m c) : pushA B v F P c x = 100 ↔ P x = 100 ∨ (x = c / 10 % 10 ∧ heldF B v P (c % 10) x = true) := by
  unfold pushA
  by_cases on : P (c / 10 % 10) < 30
  · rw [if_pos on]
    by_cases hh : heldA B v P (P (c / 10 % 10)) (c % 10)
    · rw [if_pos hh]
      by_cases e : x = c / 10 % 10
      · rw [e, up_eq]
        exact ⟨fun _ => Or.inr ⟨rfl, by rw [heldF_on on]; exact hh⟩, fun _ => rfl⟩
      · rw [up_ne e]
        exact ⟨Or.inl, fun q => q.resolve_right (fun z => e z.1)⟩
    · rw [if_neg hh]
      constructor
      · intro q; exact Or.inl (roll_100 h _ _ _ P hc.2.2 (okP_sq hP on).2 x q)
      · rintro (q | ⟨e, q⟩)
        · rw [roll_gone h _ _ _ P hc.2.2 (okP_sq hP on).2 x (by omega)]; exact q
        · rw [e, heldF_on on] at q; exact absurd q hh
  · rw [if_neg on]
    refine ⟨Or.inl, fun q => q.resolve_right (fun z => ?_)⟩
    have z2 := z.2
    rw [z.1, heldF_off on] at z2
    exact absurd z2 (by decide)
theorem c_elseL {σ : Sto} {i i' t v v' : Nat} {P P' : Nat → Nat} (hS : CS σ i t v P') (hS' : CS σ i' t v' P) : ∀ (f j k : Nat) (a : Int32), j + f = 5 → f < k → l6_elsewhereThan_4 i i' k a (iN j) σ = some (bsF (fun p => !decide (spI (P' p) = spI (P p))) f j a, σ)
  | f, j, 0, _, _, hk => by omega
  | 0, j, k + 1, a, hj, hk => by
    show (if 5 ≤ iN j then _ else _) = _
    rw [if_pos (by rw [show (5 : Int32) = iN 5 from rfl, iN_le (by omega) (by omega)]; omega)]
    rfl
  | f + 1, j, k + 1, a, hj, hk => by
    have ix : Ix (iN j) 5 := (iN_Ix (by omega)).mpr (by omega)
    show (if 5 ≤ iN j then _ else _) = _
    rw [if_neg (by rw [show (5 : Int32) = iN 5 from rfl, iN_le (by omega) (by omega)]; omega), if_pos ix, if_pos ix, iN_nat (by omega), hS.2.2.1 j (by omega), hS'.2.2.1 j (by omega), iN_add1]
    show _ = some (bsF _ f (j + 1) (if (!decide (spI (P' j) = spI (P j))) = true then _ else a), σ)
    by_cases e : spI (P' j) = spI (P j)
    · rw [if_pos e, if_neg (by rw [decide_eq_true e]; decide)]; exact c_elseL hS hS' f (j + 1) k _ (by omega) (by omega)
    · rw [if_neg e, if_pos (by rw [decide_eq_false e]; decide)]; exact c_elseL hS hS' f (j + 1) k _ (by omega) (by omega)
theorem m_wouldL {σ : Sto} {n v : Nat} {P P' : Nat → Nat} {a2 a4 : Int32} {K : Int32 → Int32 → Sto → Option (Int32 × Sto)} (hn : n ≤ 5) (hS : MS σ n v P') (hW : WS σ 0 n P) : ∀ (f j k : Nat) (a : Int32), j + f = n → f < k → l9_would_89 K a2 a4 k a (iN j) σ = K (bsF (fun p => !decide (atI (P' p) = atI (P p))) f j a) (iN n) σ
  | f, j, 0, _, _, hk => by omega
  | 0, j, k + 1, a, hj, hk => by
    show (if gI σ 9 0 3 ≤ iN j then _ else _) = _
    rw [hS.1, if_pos ((iN_le (by omega) (by omega)).mpr (by omega)), show j = n by omega]
    rfl
  | f + 1, j, k + 1, a, hj, hk => by
    have e40 : gI σ 40 0 j = atI (P j) := by have := hW j (by omega); rw [show 5 * 0 + j = j by omega] at this; exact this
    show (if gI σ 9 0 3 ≤ iN j then _ else _) = _
    rw [hS.1, if_neg (by rw [iN_le (by omega) (by omega)]; omega), if_pos ((iN_Ix (by omega)).mpr (by omega)), if_pos ((iN_Ix (by omega)).mpr (by omega)), iN_nat (by omega), hS.2.2 j (by omega), e40, iN_add1]
    show _ = K (bsF _ f (j + 1) (if (!decide (atI (P' j) = atI (P j))) = true then _ else a)) (iN n) σ
    by_cases e : atI (P' j) = atI (P j)
    · rw [if_pos e, if_neg (by rw [decide_eq_true e]; decide), Int32.or_zero]; exact m_wouldL hn hS hW f (j + 1) k _ (by omega) (by omega)
    · rw [if_neg e, if_pos (by rw [decide_eq_false e]; decide)]; exact m_wouldL hn hS hW f (j + 1) k _ (by omega) (by omega)
theorem code_p {e p d : Nat} (hp : p < 10) (hd : d < 10) : (100 * e + 10 * p + d) / 10 % 10 = p := by omega
theorem code_d {e p d : Nat} (hp : p < 10) (hd : d < 10) : (100 * e + 10 * p + d) % 10 = d := by omega
theorem code_e {e p d : Nat} (hp : p < 10) (hd : d < 10) : (100 * e + 10 * p + d) / 100 = e := by omega
/-- both sides answer the same; the class has used its trial spots, the reference its boards -/
theorem Both.go {α : Type} {f g : Sto → Option (α × Sto)} (h : ∀ σ A t, wfA A → RC σ t A → RM σ A → ∃ r σ1, f σ = some (r, σ1) ∧ Agr σ σ1 ∧ FC σ σ1 ∧ (RM σ1 A → ∃ σ2, g σ1 = some (r, σ2) ∧ FP σ1 σ2)) : Both f g := by
  intro σ A ⟨hw, ⟨t, hC⟩, hM⟩
  obtain ⟨r, σ1, h1, h2, h3, h4⟩ := h σ A t hw hC hM
  obtain ⟨σ2, h5, h6⟩ := h4 (hM.fc h3)
  refine ⟨r, σ1, σ2, A, h1, fun j => h3 46 0 j (by omega), h5, ⟨hw, ⟨t, (hC.agr h2).agr h6.fmm.agr⟩, (hM.fc h3).fp h6⟩, fun j => ?_⟩
  rw [h6.2 46 0 j (by omega), h3 46 0 j (by omega)]
theorem both_would (a1 a2 a3 a4 : Int32) : Both (f8_would a1 a2 a3 a4) (f9_would a1 a2 a3 a4) := Both.go (fun σ A t hw hC hM => by
  have hn := wf_n hw
  have hm := wf_m hw
  have no : ∀ r, f8_would a1 a2 a3 a4 σ = some (r, σ) → (∀ τ, RM τ A → f9_would a1 a2 a3 a4 τ = some (r, τ)) → ∃ r σ1, f8_would a1 a2 a3 a4 σ = some (r, σ1) ∧ Agr σ σ1 ∧ FC σ σ1 ∧ (RM σ1 A → ∃ σ2, f9_would a1 a2 a3 a4 σ1 = some (r, σ2) ∧ FP σ1 σ2) := fun r h1 h2 => ⟨r, σ, h1, Agr.rfl, FC.rfl, fun hM => ⟨σ, h2 _ hM, FP.rfl⟩⟩
  rcases iN_or a1 (aM A) (by omega) with ⟨e, he, rfl⟩ | hx
  · rcases iN_or a2 (aN A) (by omega) with ⟨p, hp, rfl⟩ | hx
    · rcases iN_or a3 4 (by decide) with ⟨d, hd, rfl⟩ | hx
      · rcases iN_or a4 3 (by decide) with ⟨w, hw3, rfl⟩ | hx
        · have hl := wf_pea hw hp
          have hv := hl.2.2.2.2.2.2.2
          have hS := hC.2.2.2.2.2.2.1 hl
          have hP := nowP_ok hl
          have h30 := okB_30 hl.1
          have ix : Ix (iN p) 5 := (iN_Ix (by omega)).mpr (by omega)
          by_cases on : nowP A p < 30
          · generalize hc : 100 * e + 10 * p + d = c
            have okc : okC (aN A) (aM A) c := hc ▸ okC_mk hn he hp hd
            obtain ⟨s1, g1, g2, g3⟩ := c_copy (i := 1) (i' := 0) (by decide) hS
            obtain ⟨s2, k1, k2, k3⟩ := c_pushX (i := 1) hl hv (hC.2.1.fs g3) okc hP g2
            have hP' := okP_push (v := aV A) (F := aF A) hl.1 okc hP
            have gone : ∀ x, ¬ nowP A x < 30 → pushA (aB A) (aV A) (aF A) (nowP A) c x = nowP A x := fun x hx => push_gone hl.1 hP okc hx
            have mp : ∀ τ, MX τ A → MS τ (aN A) (aV A) (nowP A) → ∃ τ', f9_doPush (iN c) τ = some τ' ∧ MS τ' (aN A) (aV A) (pushA (aB A) (aV A) (aF A) (nowP A) c) ∧ FM τ τ' := fun τ hX hS => m_pushX hl hv hX okc hP hS
            generalize pushA (aB A) (aV A) (aF A) (nowP A) c = P' at k2 hP' gone mp
            have hS0 : CS s2 0 t (aV A) (nowP A) := (hS.ot g3 (by decide)).ot k3 (by decide)
            have fs := g3.trans k3
            have body : ∀ r, (if iN w = 0 then (bI (f6_spotOf 1 (iN p) s2) (fun v33 s34 => (some (v33, s34)))) else (if iN w = 1 then (some (gI s2 6 1 1, s2)) else (bI (f6_elsewhereThan 1 0 s2) (fun v31 s32 => (some (v31, s32)))))) = some (r, s2) → (∀ τ, MS τ (aN A) (aV A) P' → (if iN w = 0 then (if Ix (iN p) 5 then (if 0 ≤ (gI τ 39 0 (iN p).toNatClampNeg) then (if Ix (iN p) 5 then (some (gI τ 39 0 (iN p).toNatClampNeg, τ)) else none) else (some ((-9), τ))) else none) else (if iN w = 1 then (bI (f9_setOf 0 τ) (fun v35 s36 => (some (v35, s36)))) else (some (bsF (fun p => !decide (atI (P' p) = atI (nowP A p))) (aN A) 0 0, τ)))) = some (r, τ)) → ∃ r σ1, f8_would (iN e) (iN p) (iN d) (iN w) σ = some (r, σ1) ∧ Agr σ σ1 ∧ FC σ σ1 ∧ (RM σ1 A → ∃ σ2, f9_would (iN e) (iN p) (iN d) (iN w) σ1 = some (r, σ2) ∧ FP σ1 σ2) := by
              intro r h1 h2
              refine ⟨r, s2, ?_, fs.agr (by decide), fs.fc, fun hM => ?_⟩
              · unfold f8_would f8_codeOf
                rw [c_ref_ok hw hC he hp hd, bI_some, if_pos rfl, show (3 : Int32) = iN 3 from rfl, isBelow_in σ (by decide) hw3, bI_some, if_neg (by decide), c_isOn hS (by omega), bI_some, if_pos on, if_neg (by decide), g1, bV_some, bI_some, code_iN, hc, k1, bV_some]
                exact h1
              · obtain ⟨τ1, m1, m2, m3⟩ := m_now hl hM
                obtain ⟨τ2, n1, n2, n3⟩ := m_save (d := 0) hn (by decide) m2
                obtain ⟨τ3, o1, o2, o3⟩ := mp τ2 ((hM.1.fm m3).fp n3.fp) (m2.fw n3)
                refine ⟨τ3, ?_, (m3.fp.trans n3.fp).trans o3.fp⟩
                unfold f9_would
                rw [m_isEa_in hM.1.2.1.1 hm he, bI_some, if_neg (by decide), m_isPea_in hM.1.2.2.1 hn hp, bI_some, if_neg (by decide), in4_in hd, bI_some, if_neg (by decide), in3_in hw3, bI_some, if_neg (by decide), m1, bV_some, if_pos ix, show gI τ1 39 0 (iN p).toNatClampNeg = atI (nowP A p) from by rw [iN_nat (by omega), m2.2.2 p hp], if_pos (atI_le.mpr on), show f9_save 0 τ1 = some τ2 from n1, bV_some, code_iN, hc, o1, bV_some]
                exact (m_wouldL hn o2 (n2.fm o3) (aN A) 0 300 0 (by omega) (by omega)).trans (h2 τ3 o2)
            by_cases w0 : w = 0
            · subst w0
              refine body (spI (P' p)) ?_ (fun τ hS => ?_)
              · rw [if_pos (by decide), c_spotOf k2 (by omega), bI_some]
              · rw [if_pos (by decide), if_pos ix, if_pos ix, show gI τ 39 0 (iN p).toNatClampNeg = atI (P' p) from by rw [iN_nat (by omega), hS.2.2 p hp]]
                by_cases on' : P' p < 30
                · rw [if_pos (atI_le.mpr on'), atI_lt on', spI_lt on']
                · rw [if_neg (mt atI_le.mp on'), spI_ge on']
            by_cases w1 : w = 1
            · subst w1
              refine body (bits P' 100) ?_ (fun τ hS => ?_)
              · rw [if_neg (by decide), if_pos (by decide), k2.2.2.2.1]
              · rw [if_neg (by decide), if_pos (by decide), m_set0 hn hP' hS, bI_some]
            have w2 : w = 2 := by omega
            subst w2
            refine body (bsF (fun p => !decide (atI (P' p) = atI (nowP A p))) (aN A) 0 0) ?_ (fun τ hS => ?_)
            · rw [if_neg (by decide), if_neg (by decide)]
              rw [show f6_elsewhereThan 1 0 s2 = _ from c_elseL k2 hS0 5 0 300 0 rfl (by decide), bI_some]
              rw [← bsF_n hn (fun x hx => by rw [gone x (by rw [hP.2 x hx]; decide), decide_eq_true rfl]; rfl)]
              rw [bsF_ext (g := fun p => !decide (atI (P' p) = atI (nowP A p))) (aN A) 0 0 (fun x _ hx => ?_)]
              have hx : x < aN A := by omega
              by_cases on1 : nowP A x < 30
              · by_cases on2 : P' x < 30
                · rw [spI_lt on1, spI_lt on2, atI_lt on1, atI_lt on2]
                · rw [spI_lt on1, spI_ge on2, atI_lt on1, decide_eq_false (fun z => absurd z.symm (iN_ne_m (by omega) (by decide))), decide_eq_false (fun z => absurd z.symm (iN_ne_m (by omega) (atI_neg on2)))]
              · rw [gone x on1, decide_eq_true rfl, decide_eq_true rfl]
            · rw [if_neg (by decide), if_neg (by decide)]
          · refine ⟨-3, σ, ?_, Agr.rfl, FC.rfl, fun hM => ?_⟩
            · unfold f8_would
              rw [c_ref_ok hw hC he hp hd, bI_some, if_pos rfl, show (3 : Int32) = iN 3 from rfl, isBelow_in σ (by decide) hw3, bI_some, if_neg (by decide), c_isOn hS (by omega), bI_some, if_neg on, if_pos rfl]
            · obtain ⟨τ1, m1, m2, m3⟩ := m_now hl hM
              refine ⟨τ1, ?_, m3.fp⟩
              unfold f9_would
              rw [m_isEa_in hM.1.2.1.1 hm he, bI_some, if_neg (by decide), m_isPea_in hM.1.2.2.1 hn hp, bI_some, if_neg (by decide), in4_in hd, bI_some, if_neg (by decide), in3_in hw3, bI_some, if_neg (by decide), m1, bV_some, if_pos ix, show gI τ1 39 0 (iN p).toNatClampNeg = atI (nowP A p) from by rw [iN_nat (by omega), m2.2.2 p hp], if_neg (mt atI_le.mp on)]
        · refine no (-2) ?_ (fun τ hM => ?_)
          · unfold f8_would
            rw [c_ref_ok hw hC he hp hd, bI_some, if_pos rfl, show (3 : Int32) = iN 3 from rfl, isBelow_out σ hx, bI_some, if_pos rfl]
          · unfold f9_would
            rw [m_isEa_in hM.1.2.1.1 hm he, bI_some, if_neg (by decide), m_isPea_in hM.1.2.2.1 hn hp, bI_some, if_neg (by decide), in4_in hd, bI_some, if_neg (by decide), in3_out hx, bI_some, if_pos rfl]
      · refine no (-2) ?_ (fun τ hM => ?_)
        · unfold f8_would
          rw [c_ref_d hw hC he hp hx, bI_some, if_neg (by decide)]
        · unfold f9_would
          rw [m_isEa_in hM.1.2.1.1 hm he, bI_some, if_neg (by decide), m_isPea_in hM.1.2.2.1 hn hp, bI_some, if_neg (by decide), in4_out hx, bI_some, if_pos rfl]
    · refine no (-1) ?_ (fun τ hM => ?_)
      · unfold f8_would
        rw [c_ref_p hw hC he hx, bI_some, if_neg (by decide)]
      · unfold f9_would
        rw [m_isEa_in hM.1.2.1.1 hm he, bI_some, if_neg (by decide), m_isPea_out hM.1.2.2.1 hn hx, bI_some, if_pos rfl]
  · refine no (-1) ?_ (fun τ hM => ?_)
    · unfold f8_would
      rw [c_ref_e hC hx, bI_some, if_neg (by decide)]
    · unfold f9_would
      rw [m_isEa_out hM.1.2.1.1 hm hx, bI_some, if_pos rfl])
