/-! push, set -/
theorem c_ref_ok {σ : Sto} {t e p d : Nat} {A : AS} (hw : wfA A) (hC : RC σ t A) (he : e < aM A) (hp : p < aN A) (hd : d < 4) : f8_refusalOfPush (iN e) (iN p) (iN d) σ = some (0, σ) := by
  obtain ⟨ix, g1, -⟩ := c_eater hw hC he
  unfold f8_refusalOfPush
  rw [hC.2.1.1, dr_some, g1, bI_some, rcs_some, hC.2.1.1, dr_some, c_hasPea_in hC.2.1.2.2.1.1 (wf_n hw) hp, bI_some, if_neg (by decide), show (4 : Int32) = iN 4 from rfl, isBelow_in σ (by decide) hd, bI_some, if_neg (by decide)]
theorem c_ref_d {σ : Sto} {t e p : Nat} {d : Int32} {A : AS} (hw : wfA A) (hC : RC σ t A) (he : e < aM A) (hp : p < aN A) (hd : d < 0 ∨ iN 4 ≤ d) : f8_refusalOfPush (iN e) (iN p) d σ = some (-2, σ) := by
  obtain ⟨ix, g1, -⟩ := c_eater hw hC he
  unfold f8_refusalOfPush
  rw [hC.2.1.1, dr_some, g1, bI_some, rcs_some, hC.2.1.1, dr_some, c_hasPea_in hC.2.1.2.2.1.1 (wf_n hw) hp, bI_some, if_neg (by decide), show (4 : Int32) = iN 4 from rfl, isBelow_out σ hd, bI_some, if_pos rfl]
theorem c_ref_p {σ : Sto} {t e : Nat} {p d : Int32} {A : AS} (hw : wfA A) (hC : RC σ t A) (he : e < aM A) (hp : p < 0 ∨ iN (aN A) ≤ p) : f8_refusalOfPush (iN e) p d σ = some (-1, σ) := by
  obtain ⟨ix, g1, -⟩ := c_eater hw hC he
  unfold f8_refusalOfPush
  rw [hC.2.1.1, dr_some, g1, bI_some, rcs_some, hC.2.1.1, dr_some, c_hasPea_out hC.2.1.2.2.1.1 hp, bI_some, if_pos rfl]
theorem c_ref_e {σ : Sto} {t : Nat} {e p d : Int32} {A : AS} (hC : RC σ t A) (he : e < 0 ∨ iN (aM A) ≤ e) : f8_refusalOfPush e p d σ = some (-1, σ) := by
  unfold f8_refusalOfPush
  rw [hC.2.1.1, dr_some, c_eaterAt_out hC.2.1.2.2.1.2 he, bI_some, rcs_none]
theorem code_iN (e p d : Nat) : ((100 * iN e) + (10 * iN p)) + iN d = iN (100 * e + 10 * p + d) := by
  rw [show (100 : Int32) = iN 100 from rfl, show (10 : Int32) = iN 10 from rfl, iN_mul, iN_mul, iN_add, iN_add]
theorem okC_mk {n m e p d : Nat} (hn : n ≤ 5) (he : e < m) (hp : p < n) (hd : d < 4) : okC n m (100 * e + 10 * p + d) := ⟨by omega, by omega, by omega⟩
theorem run_ext {B : Bd} {v : Nat} {F cs cs' : Nat → Nat} {but : Int32} {Q : Nat → Nat} : ∀ k, (∀ j, j < k → cs j = cs' j) → runP B v F cs but Q k = runP B v F cs' but Q k
  | 0, _ => rfl
  | k + 1, h => by
    show (if iN k = but then runP B v F cs but Q k else pushA B v F (runP B v F cs but Q k) (cs k)) = (if iN k = but then runP B v F cs' but Q k else pushA B v F (runP B v F cs' but Q k) (cs' k))
    rw [run_ext k (fun j hj => h j (by omega)), h k (by omega)]
theorem CS.fr {σ σ' : Sto} {i t v : Nat} {P : Nat → Nat} (hS : CS σ i t v P) (hi : ∀ k b, k = 6 ∨ k = 16 → gI σ' k i b = gI σ k i b) (hr : gR σ' 6 i 0 = gR σ 6 i 0) : CS σ' i t v P := by
  obtain ⟨q1, q2, q3, q4, q5⟩ := hS
  refine ⟨?_, ?_, fun p hp => ?_, ?_, ?_⟩
  · rw [hr]; exact q1
  · rw [hi 6 _ (Or.inl rfl)]; exact q2
  · rw [hi 16 _ (Or.inr rfl)]; exact q3 p hp
  · rw [hi 6 _ (Or.inl rfl)]; exact q4
  · rw [hi 6 _ (Or.inl rfl)]; exact q5
theorem both_push (a1 a2 a3 : Int32) : Both (f8_push a1 a2 a3) (f9_push a1 a2 a3) := Both.any (fun σ A t hw hC hM => by
  have hn := wf_n hw
  have hm := wf_m hw
  have no : ∀ r, f8_push a1 a2 a3 σ = some (r, σ) → (∀ τ, RM τ A → f9_push a1 a2 a3 τ = some (r, τ)) → ∃ r σ1 σ2 A', f8_push a1 a2 a3 σ = some (r, σ1) ∧ wfA A' ∧ (∃ t', RC σ1 t' A') ∧ FC σ σ1 ∧ (RM σ1 A → f9_push a1 a2 a3 σ1 = some (r, σ2) ∧ FMm σ1 σ2 ∧ RM σ2 A') := fun r h1 h2 => ⟨r, σ, σ, A, h1, hw, ⟨t, hC⟩, FC.rfl, fun hM => ⟨h2 _ hM, FMm.rfl, hM⟩⟩
  rcases iN_or a1 (aM A) (by omega) with ⟨e, he, rfl⟩ | hx
  · rcases iN_or a2 (aN A) (by omega) with ⟨p, hp, rfl⟩ | hx
    · rcases iN_or a3 4 (by decide) with ⟨d, hd, rfl⟩ | hx
      · have hl := wf_pea hw hp
        have hK := hl.2.2.2.2.2.1
        have k8 := hC.2.1.2.2.2.2.2.1
        by_cases hlt : aK A < 30
        · generalize hc : 100 * e + 10 * p + d = c
          have okc : okC (aN A) (aM A) c := hc ▸ okC_mk hn he hp hd
          have lt30 : iN (aK A) < 30 := (iN_lt (b := 30) (by omega) (by omega)).mpr hlt
          have ix : Ix (iN (aK A)) 30 := (iN_Ix (by omega)).mpr hlt
          generalize hcs : (fun b => if b = aK A then c else A.1 4 b) = cs
          have csK : cs (aK A) = c := by rw [← hcs]; exact if_pos rfl
          have csj : ∀ j, j < aK A → cs j = A.1 4 j := fun j hj => by rw [← hcs]; exact if_neg (by omega)
          have hl' : laid (upA A (aV A) (aK A + 1) cs (A.2 1)) := by
            refine ⟨hl.1, hl.2.1, hl.2.2.1, hl.2.2.2.1, hl.2.2.2.2.1, hlt, fun j hj => ?_, hl.2.2.2.2.2.2.2⟩
            show okC (aN A) (aM A) (cs j)
            have hj : j < aK A + 1 := hj
            by_cases ej : j = aK A
            · rw [ej, csK]; exact okc
            · rw [csj j (by omega)]; exact hl.2.2.2.2.2.2.1 j (by omega)
          generalize hs1 : sI (sI σ 20 0 (aK A) (iN c)) 8 0 4 (iN (aK A + 1)) = s1
          have ag : AgrU σ s1 := by
            rw [← hs1]
            exact ⟨fun _ _ _ _ => rfl, fun k a b _ h _ => by rw [gI_sI, if_neg (by omega), gI_sI, if_neg (by omega)]⟩
          have fc : FC σ s1 := by
            rw [← hs1]
            exact FC.trans (FC_lt (by decide)) (FC_lt (by decide))
          have e2 : gI s1 8 0 2 = iN (aV A) := by rw [← hs1, gI_sI, if_neg (by omega), gI_sI, if_neg (by omega)]; exact hC.2.2.2.2.1
          have e4 : gI s1 8 0 4 = iN (aK A + 1) := by rw [← hs1, gI_sI, if_pos (by decide)]
          have e20 : ∀ j, j < aK A + 1 → gI s1 20 0 j = iN (cs j) := fun j hj => by
            rw [← hs1, gI_sI, if_neg (by omega), gI_sI]
            by_cases ej : j = aK A
            · rw [if_pos ⟨rfl, rfl, ej⟩, ej, csK]
            · rw [if_neg (by omega), csj j (by omega)]; exact hC.2.1.2.2.2.2.2.2 j (by omega)
          have e11 : ∀ c, c < (aB A).1 * (aB A).2.1 → gI s1 11 t c = A.2 1 c := fun c hc => by rw [← hs1, gI_sI, if_neg (by omega), gI_sI, if_neg (by omega)]; exact hC.2.1.2.1.2.2.2.1 c hc
          have hX : CX s1 t (upA A (aV A) (aK A + 1) cs (A.2 1)) := hC.2.1.up ag e4 e20 e11
          have hS : CS s1 0 t (aV A) (nowP A) := by
            refine (hC.2.2.2.2.2.2.1 hl).fr (fun k b hk => ?_) ?_
            · rw [← hs1, gI_sI, if_neg (by omega), gI_sI, if_neg (by omega)]
            · rw [← hs1]; rfl
          obtain ⟨s2, g1, g2, g3⟩ := c_pushX (c := c) hl' hl.2.2.2.2.2.2.2 hX okc (okP_run hl (aK A) (Nat.le_refl _)) hS
          have en : nowP (upA A (aV A) (aK A + 1) cs (A.2 1)) = pushA (aB A) (aV A) (aF A) (nowP A) c := by
            show (if iN (aK A) = -9 then _ else pushA (aB A) (aV A) (aF A) (runP (aB A) (aV A) (aF A) cs (-9) (aP0 A) (aK A)) (cs (aK A))) = _
            rw [if_neg (iN_ne_m (by omega) (by decide)), csK, run_ext (cs := cs) (cs' := A.1 4) (aK A) csj]
          refine ⟨iN (aK A), s2, sI (sI s2 28 0 (aK A) (iN c)) 9 0 9 (iN (aK A + 1)), upA A (aV A) (aK A + 1) cs (A.2 1), ?_, ⟨Or.inl hl', hw.2⟩, ⟨t, hC.up (ag.trans g3.agrU) ?_ ?_ ?_ ?_ (fun _ => by rw [en]; exact g2)⟩, fc.trans g3.fc, fun hM => ⟨?_, ⟨rfl, fun k a b h => by rw [gI_sI, if_neg (by omega), gI_sI, if_neg (by omega)]⟩, RM.up (fun k a b _ h h' => ?_) hM ?_ ?_ ?_ ?_⟩⟩
          · have e' : ∀ (i : Nat) (x : Int32), gI (sI σ 20 0 i x) 8 0 4 = iN (aK A) := fun i x => by rw [gI_sI, if_neg (by omega)]; exact k8
            unfold f8_push f8_codeOf
            rw [c_ref_ok hw hC he hp hd, bI_some, if_pos rfl, k8, if_pos lt30, bI_some, code_iN, hc, k8, if_pos ix, e', iN_add1, iN_nat (by omega), hs1, g1, bV_some, g3.2 _ _ _ (by omega), e4, iN_pred']
          · rw [g3.2 _ _ _ (by omega)]; exact e2
          · rw [g3.2 _ _ _ (by omega)]; exact e4
          · exact fun j hj => by rw [g3.2 _ _ _ (by omega)]; exact e20 j hj
          · exact fun c hc => by rw [g3.2 _ _ _ (by omega)]; exact e11 c hc
          · have k9 := hM.1.2.2.2.2.1
            have e' : ∀ (i : Nat) (x : Int32), gI (sI s2 28 0 i x) 9 0 9 = iN (aK A) := fun i x => by rw [gI_sI, if_neg (by omega)]; exact k9
            have e3 : ∀ (τ : Sto) (z : Int32), gI (sI τ 9 0 9 z) 9 0 9 = z := fun _ _ => rfl
            unfold f9_push
            rw [m_isEa_in hM.1.2.1.1 hm he, bI_some, if_neg (by decide), m_isPea_in hM.1.2.2.1 hn hp, bI_some, if_neg (by decide), in4_in hd, bI_some, if_neg (by decide), k9, if_neg (by rw [show (30 : Int32) = iN 30 from rfl, iN_inj (by omega) (by omega)]; omega), if_pos ix, e3, e', iN_add1, code_iN, hc, iN_nat (by omega), iN_pred']
          · rw [gI_sI, if_neg (by omega), gI_sI, if_neg (by omega)]
          · rw [gI_sI, if_neg (by omega), gI_sI, if_neg (by omega)]; exact hM.2.2.1
          · rw [gI_sI, if_pos (by decide)]
          · refine fun j hj => ?_
            rw [gI_sI, if_neg (by omega), gI_sI]
            by_cases ej : j = aK A
            · rw [if_pos ⟨rfl, rfl, ej⟩, ej, csK]
            · rw [if_neg (by omega), csj j (by omega)]; exact hM.1.2.2.2.2.2 j (by omega)
          · exact fun c hc => by rw [gI_sI, if_neg (by omega), gI_sI, if_neg (by omega)]; exact hM.1.1.2.2 c hc
        · refine no (-4) ?_ (fun τ hM => ?_)
          · unfold f8_push
            rw [c_ref_ok hw hC he hp hd, bI_some, if_pos rfl, k8, if_neg (show ¬ iN (aK A) < 30 from fun q => hlt ((iN_lt (b := 30) (by omega) (by omega)).mp q))]
          · unfold f9_push
            rw [m_isEa_in hM.1.2.1.1 hm he, bI_some, if_neg (by decide), m_isPea_in hM.1.2.2.1 hn hp, bI_some, if_neg (by decide), in4_in hd, bI_some, if_neg (by decide), hM.1.2.2.2.2.1, if_pos (by rw [show (30 : Int32) = iN 30 from rfl, iN_inj (by omega) (by omega)]; omega)]
      · refine no (-2) ?_ (fun τ hM => ?_)
        · unfold f8_push
          rw [c_ref_d hw hC he hp hx, bI_some, if_neg (by decide)]
        · unfold f9_push
          rw [m_isEa_in hM.1.2.1.1 hm he, bI_some, if_neg (by decide), m_isPea_in hM.1.2.2.1 hn hp, bI_some, if_neg (by decide), in4_out hx, bI_some, if_pos rfl]
    · refine no (-1) ?_ (fun τ hM => ?_)
      · unfold f8_push
        rw [c_ref_p hw hC he hx, bI_some, if_neg (by decide)]
      · unfold f9_push
        rw [m_isEa_in hM.1.2.1.1 hm he, bI_some, if_neg (by decide), m_isPea_out hM.1.2.2.1 hn hx, bI_some, if_pos rfl]
  · refine no (-1) ?_ (fun τ hM => ?_)
    · unfold f8_push
      rw [c_ref_e hC hx, bI_some, if_neg (by decide)]
    · unfold f9_push
      rw [m_isEa_out hM.1.2.1.1 hm hx, bI_some, if_pos rfl])
/-! set -/
theorem c_startsL {σ : Sto} {t n c : Nat} {st : Nat → Nat} (hn : n ≤ 5) (h2 : gI σ 2 t 2 = iN n) (h12 : ∀ p, p < n → gI σ 12 t p = iN (st p)) (hst : ∀ p, p < n → st p < 30) (hc : c < 30) : ∀ f j k, j + f = n → f < k → (l2_startsOn_2 t (iN c) k (iN j) σ = some (1, σ) ∧ ∃ p, p < n ∧ st p = c) ∨ (l2_startsOn_2 t (iN c) k (iN j) σ = some (0, σ) ∧ ∀ p, j ≤ p → p < n → ¬ st p = c)
  | f, j, 0, _, hk => by omega
  | 0, j, k + 1, hj, hk => by
    refine Or.inr ⟨?_, fun p h1 h2 => by omega⟩
    show (if gI σ 2 t 2 ≤ iN j then _ else _) = _
    rw [h2, if_pos ((iN_le (by omega) (by omega)).mpr (by omega))]
  | f + 1, j, k + 1, hj, hk => by
    have e : l2_startsOn_2 t (iN c) (k + 1) (iN j) σ = if st j = c then some (1, σ) else l2_startsOn_2 t (iN c) k (iN (j + 1)) σ := by
      show (if gI σ 2 t 2 ≤ iN j then _ else _) = _
      rw [h2, if_neg (by rw [iN_le (by omega) (by omega)]; omega), if_pos ((iN_Ix (by omega)).mpr (by omega)), iN_nat (by omega), h12 j (by omega), iN_add1]
      have := hst j (by omega)
      by_cases ec : st j = c
      · rw [if_pos ec, if_pos (by rw [ec])]
      · rw [if_neg ec, if_neg (by rw [iN_inj (by omega) (by omega)]; exact ec)]
    rw [e]
    by_cases ec : st j = c
    · rw [if_pos ec]; exact Or.inl ⟨rfl, j, by omega, ec⟩
    · rw [if_neg ec]
      rcases c_startsL hn h2 h12 hst hc f (j + 1) k (by omega) (by omega) with h | ⟨h1, h2⟩
      · exact Or.inl h
      · refine Or.inr ⟨h1, fun p hp hpn => ?_⟩
        by_cases ep : p = j
        · rw [ep]; exact ec
        · exact h2 p (by omega) hpn
theorem m_startsL1 {σ : Sto} {n : Nat} {a1 : Int32} (hn : n ≤ 5) (h3 : gI σ 9 0 3 = iN n) : ∀ f j k, j + f = n → f < k → l9_startsAt_4 a1 k 1 (iN j) σ = some (1, σ)
  | f, j, 0, _, hk => by omega
  | 0, j, k + 1, hj, hk => by
    show (if gI σ 9 0 3 ≤ iN j then _ else _) = _
    rw [h3, if_pos ((iN_le (by omega) (by omega)).mpr (by omega)), if_pos (Or.inr rfl)]
  | f + 1, j, k + 1, hj, hk => by
    show (if gI σ 9 0 3 ≤ iN j then _ else _) = _
    rw [h3, if_neg (by rw [iN_le (by omega) (by omega)]; omega), if_neg (by decide), iN_add1]
    exact m_startsL1 hn h3 f (j + 1) k (by omega) (by omega)
theorem m_startsL {σ : Sto} {n c : Nat} {st : Nat → Nat} (hn : n ≤ 5) (h3 : gI σ 9 0 3 = iN n) (h25 : ∀ p, p < n → gI σ 25 0 p = iN (st p)) (hst : ∀ p, p < n → st p < 30) (hc : c < 30) : ∀ f j k, j + f = n → f < k → (l9_startsAt_4 (iN c) k 0 (iN j) σ = some (1, σ) ∧ ∃ p, p < n ∧ st p = c) ∨ (l9_startsAt_4 (iN c) k 0 (iN j) σ = some (0, σ) ∧ ∀ p, j ≤ p → p < n → ¬ st p = c)
  | f, j, 0, _, hk => by omega
  | 0, j, k + 1, hj, hk => by
    refine Or.inr ⟨?_, fun p h1 h2 => by omega⟩
    show (if gI σ 9 0 3 ≤ iN j then _ else _) = _
    rw [h3, if_pos ((iN_le (by omega) (by omega)).mpr (by omega)), if_pos (Or.inl rfl)]
  | f + 1, j, k + 1, hj, hk => by
    have e : l9_startsAt_4 (iN c) (k + 1) 0 (iN j) σ = if st j = c then l9_startsAt_4 (iN c) k 1 (iN (j + 1)) σ else l9_startsAt_4 (iN c) k 0 (iN (j + 1)) σ := by
      show (if gI σ 9 0 3 ≤ iN j then _ else _) = _
      rw [h3, if_neg (by rw [iN_le (by omega) (by omega)]; omega), if_pos rfl, if_pos ((iN_Ix (by omega)).mpr (by omega)), iN_nat (by omega), h25 j (by omega), iN_add1]
      have := hst j (by omega)
      by_cases ec : st j = c
      · rw [if_pos ec, if_pos (by rw [ec])]
      · rw [if_neg ec, if_neg (by rw [iN_inj (by omega) (by omega)]; exact ec)]
    rw [e]
    by_cases ec : st j = c
    · rw [if_pos ec]
      exact Or.inl ⟨m_startsL1 hn h3 f (j + 1) k (by omega) (by omega), j, by omega, ec⟩
    · rw [if_neg ec]
      rcases m_startsL hn h3 h25 hst hc f (j + 1) k (by omega) (by omega) with h | ⟨h1, h2⟩
      · exact Or.inl h
      · refine Or.inr ⟨h1, fun p hp hpn => ?_⟩
        by_cases ep : p = j
        · rw [ep]; exact ec
        · exact h2 p (by omega) hpn
theorem both_set (a1 a2 : Int32) : Both (f8_set a1 a2) (f9_set a1 a2) := Both.any (fun σ A t hw hC hM => by
  have hq := wf_q hw
  have x1 := hC.2.1.1
  have no : ∀ r, f8_set a1 a2 σ = some (r, σ) → (∀ τ, RM τ A → f9_set a1 a2 τ = some (r, τ)) → ∃ r σ1 σ2 A', f8_set a1 a2 σ = some (r, σ1) ∧ wfA A' ∧ (∃ t', RC σ1 t' A') ∧ FC σ σ1 ∧ (RM σ1 A → f9_set a1 a2 σ1 = some (r, σ2) ∧ FMm σ1 σ2 ∧ RM σ2 A') := fun r h1 h2 => ⟨r, σ, σ, A, h1, hw, ⟨t, hC⟩, FC.rfl, fun hM => ⟨h2 _ hM, FMm.rfl, hM⟩⟩
  rcases iN_or a1 ((aB A).1 * (aB A).2.1) (by omega) with ⟨c, hc, rfl⟩ | hx
  · have hl := wf_sq hw hc
    have hn := hl.2.2.1
    have st30 : ∀ p, p < aN A → A.1 1 p < 30 := fun p hp => by have := (hl.2.2.2.1 p hp).1; omega
    rcases iN_or a2 3 (by decide) with ⟨s, hs, rfl⟩ | hx
    · have is2 : iN s = 2 ↔ s = 2 := iN_inj (b := 2) (by omega) (by omega)
      have ix : Ix (iN c) 30 := (iN_Ix (by omega)).mpr (by omega)
      have yes : ((∀ r s2, (dr 2 (gR σ 8 0 0) (fun i26 => (bI (f2_signAt i26 (iN c) σ) (fun v27 s28 => (dr 2 (gR s28 8 0 0) (fun i29 => (bV (f2_changeSign i29 (iN c) (iN s) s28) (fun s30 => (bV (f8_replayNow s30) (fun s31 => (some (v27, s31)))))))))))) = some (r, s2) → f8_set (iN c) (iN s) σ = some (r, s2)) ∧ ∀ τ, RM τ A → f9_set (iN c) (iN s) τ = some (A.2 1 c, sI τ 24 0 c (iN s))) → (s = 2 → ∀ p, p < aN A → ¬ A.1 1 p = c) → ∃ r σ1 σ2 A', f8_set (iN c) (iN s) σ = some (r, σ1) ∧ wfA A' ∧ (∃ t', RC σ1 t' A') ∧ FC σ σ1 ∧ (RM σ1 A → f9_set (iN c) (iN s) σ1 = some (r, σ2) ∧ FMm σ1 σ2 ∧ RM σ2 A') := by
        intro ⟨hz8, hz9⟩ hst
        generalize hsg : (fun b => if b = c then iN s else A.2 1 b) = sg
        have sgc : sg c = iN s := by rw [← hsg]; exact if_pos rfl
        have sgj : ∀ j, ¬ j = c → sg j = A.2 1 j := fun j hj => by rw [← hsg]; exact if_neg hj
        have hl' : laid (upA A (aV A) (aK A) (A.1 4) sg) := by
          refine ⟨⟨hl.1.1, hl.1.2.1, fun b hb => ?_⟩, hl.2.1, hl.2.2.1, fun p hp => ⟨(hl.2.2.2.1 p hp).1, ?_⟩, hl.2.2.2.2⟩
          · show sg b = 0 ∨ sg b = 1 ∨ sg b = 2
            by_cases eb : b = c
            · rw [eb, sgc]
              rcases (show s = 0 ∨ s = 1 ∨ s = 2 by omega) with rfl | rfl | rfl
              · exact Or.inl rfl
              · exact Or.inr (Or.inl rfl)
              · exact Or.inr (Or.inr rfl)
            · rw [sgj b eb]; exact hl.1.2.2 b hb
          · show ¬ sg (A.1 1 p) = 2
            by_cases eb : A.1 1 p = c
            · rw [eb, sgc, is2]
              exact fun h2 => hst h2 p hp eb
            · rw [sgj _ eb]; exact (hl.2.2.2.1 p hp).2
        have ag : AgrU σ (sI σ 11 t c (iN s)) := ⟨fun _ _ _ _ => rfl, fun k a b h _ _ => by rw [gI_sI, if_neg (by omega)]⟩
        have e2 : gI (sI σ 11 t c (iN s)) 8 0 2 = iN (aV A) := by rw [gI_sI, if_neg (by omega)]; exact hC.2.2.2.2.1
        have e4 : gI (sI σ 11 t c (iN s)) 8 0 4 = iN (aK A) := by rw [gI_sI, if_neg (by omega)]; exact hC.2.1.2.2.2.2.2.1
        have e20 : ∀ j, j < aK A → gI (sI σ 11 t c (iN s)) 20 0 j = iN (A.1 4 j) := fun j hj => by rw [gI_sI, if_neg (by omega)]; exact hC.2.1.2.2.2.2.2.2 j (by omega)
        have e11 : ∀ b, b < (aB A).1 * (aB A).2.1 → gI (sI σ 11 t c (iN s)) 11 t b = sg b := fun b hb => by
          rw [gI_sI]
          by_cases eb : b = c
          · rw [if_pos ⟨rfl, rfl, eb⟩, eb, sgc]
          · rw [if_neg (by omega), sgj b eb]; exact hC.2.1.2.1.2.2.2.1 b hb
        have hX : CX (sI σ 11 t c (iN s)) t (upA A (aV A) (aK A) (A.1 4) sg) := hC.2.1.up ag e4 e20 e11
        obtain ⟨s2, g1, g2, g3⟩ := c_replayNow (Or.inl hl') hX e2
        have hz : (dr 2 (gR σ 8 0 0) (fun i26 => (bI (f2_signAt i26 (iN c) σ) (fun v27 s28 => (dr 2 (gR s28 8 0 0) (fun i29 => (bV (f2_changeSign i29 (iN c) (iN s) s28) (fun s30 => (bV (f8_replayNow s30) (fun s31 => (some (v27, s31)))))))))))) = some (A.2 1 c, s2) := by
          unfold f2_changeSign
          rw [x1, dr_some, c_signAt hC.2.1.2.1 hl.1 hc, bI_some, x1, dr_some, c_hasSq_in hC.2.1.2.1.2.2.1 hq hc, bI_some, if_neg (by decide), if_pos ix, iN_nat (by omega), bV_some, g1, bV_some]
        refine ⟨A.2 1 c, s2, sI s2 24 0 c (iN s), upA A (aV A) (aK A) (A.1 4) sg, hz8 _ _ hz, ⟨Or.inl hl', hw.2⟩, ⟨t, hC.up (ag.trans g3.agrU) ?_ ?_ ?_ ?_ g2⟩, FC.trans (FC_lt (by decide)) g3.fc, fun hM => ⟨hz9 _ hM, ⟨rfl, fun k a b h => by rw [gI_sI, if_neg (by omega)]⟩, RM.up (fun k a b _ h h' => ?_) hM ?_ ?_ ?_ ?_⟩⟩
        · rw [g3.2 _ _ _ (by omega)]; exact e2
        · rw [g3.2 _ _ _ (by omega)]; exact e4
        · exact fun j hj => by rw [g3.2 _ _ _ (by omega)]; exact e20 j hj
        · exact fun c hc => by rw [g3.2 _ _ _ (by omega)]; exact e11 c hc
        · rw [gI_sI, if_neg (by omega)]
        · rw [gI_sI, if_neg (by omega)]; exact hM.2.2.1
        · rw [gI_sI, if_neg (by omega)]; exact hM.1.2.2.2.2.1
        · exact fun j hj => by rw [gI_sI, if_neg (by omega)]; exact hM.1.2.2.2.2.2 j hj
        · refine fun b hb => ?_
          rw [gI_sI]
          by_cases eb : b = c
          · rw [if_pos ⟨rfl, rfl, eb⟩, eb, sgc]
          · rw [if_neg (by omega), sgj b eb]; exact hM.1.1.2.2 b hb
      by_cases es : s = 2
      · rcases c_startsL hn hC.2.1.2.2.1.1 hC.2.1.2.2.2.1 st30 (c := c) (by omega) (aN A) 0 300 (by omega) (by omega) with ⟨q1, p, hp, ep⟩ | ⟨q1, q2⟩
        · refine no (-3) ?_ (fun τ hM => ?_)
          · unfold f8_set f2_startsOn
            rw [x1, dr_some, c_hasSq_in hC.2.1.2.1.2.2.1 hq hc, bI_some, if_neg (by decide), show (3 : Int32) = iN 3 from rfl, isBelow_in σ (by decide) hs, bI_some, if_neg (by decide), if_pos (is2.mpr es), x1, dr_some]
            rw [show l2_startsOn_2 t (iN c) 300 0 σ = some (1, σ) from q1, bI_some, if_neg (by decide)]
          · rcases m_startsL hn hM.1.2.2.1 hM.1.2.2.2.1 st30 (c := c) (by omega) (aN A) 0 300 (by omega) (by omega) with ⟨r1, -⟩ | ⟨-, r2⟩
            · unfold f9_set f9_startsAt
              rw [m_isSq_in hM.1.1.2.1 hq hc, bI_some, if_neg (by decide), in3_in hs, bI_some, if_neg (by decide), if_pos (is2.mpr es)]
              rw [show l9_startsAt_4 (iN c) 300 0 0 τ = some (1, τ) from r1, bI_some, if_neg (by decide)]
            · exact absurd ep (r2 p (Nat.zero_le _) hp)
        · refine yes ⟨fun r z2 hz => ?_, fun τ hM => ?_⟩ (fun _ p hp => q2 p (Nat.zero_le _) hp)
          · unfold f8_set f2_startsOn
            rw [x1, dr_some, c_hasSq_in hC.2.1.2.1.2.2.1 hq hc, bI_some, if_neg (by decide), show (3 : Int32) = iN 3 from rfl, isBelow_in σ (by decide) hs, bI_some, if_neg (by decide), if_pos (is2.mpr es), x1, dr_some]
            rw [show l2_startsOn_2 t (iN c) 300 0 σ = some (0, σ) from q1, bI_some, if_pos rfl]
            rw [x1] at hz
            rw [x1]
            exact hz
          · rcases m_startsL hn hM.1.2.2.1 hM.1.2.2.2.1 st30 (c := c) (by omega) (aN A) 0 300 (by omega) (by omega) with ⟨-, p, hp, ep⟩ | ⟨r1, -⟩
            · exact absurd ep (q2 p (Nat.zero_le _) hp)
            · unfold f9_set f9_startsAt
              rw [m_isSq_in hM.1.1.2.1 hq hc, bI_some, if_neg (by decide), in3_in hs, bI_some, if_neg (by decide), if_pos (is2.mpr es)]
              rw [show l9_startsAt_4 (iN c) 300 0 0 τ = some (0, τ) from r1, bI_some, if_pos rfl, if_pos ix, if_pos ix, iN_nat (by omega), hM.1.1.2.2 c hc]
      · refine yes ⟨fun r z2 hz => ?_, fun τ hM => ?_⟩ (fun h2 => absurd h2 es)
        · unfold f8_set
          rw [x1, dr_some, c_hasSq_in hC.2.1.2.1.2.2.1 hq hc, bI_some, if_neg (by decide), show (3 : Int32) = iN 3 from rfl, isBelow_in σ (by decide) hs, bI_some, if_neg (by decide), if_neg (mt is2.mp es)]
          exact hz
        · unfold f9_set
          rw [m_isSq_in hM.1.1.2.1 hq hc, bI_some, if_neg (by decide), in3_in hs, bI_some, if_neg (by decide), if_neg (mt is2.mp es), if_pos ix, if_pos ix, iN_nat (by omega), hM.1.1.2.2 c hc]
    · refine no (-2) ?_ (fun τ hM => ?_)
      · unfold f8_set
        rw [x1, dr_some, c_hasSq_in hC.2.1.2.1.2.2.1 hq hc, bI_some, if_neg (by decide), show (3 : Int32) = iN 3 from rfl, isBelow_out σ hx, bI_some, if_pos rfl]
      · unfold f9_set
        rw [m_isSq_in hM.1.1.2.1 hq hc, bI_some, if_neg (by decide), in3_out hx, bI_some, if_pos rfl]
  · refine no (-1) ?_ (fun τ hM => ?_)
    · unfold f8_set
      rw [x1, dr_some, c_hasSq_out hC.2.1.2.1.2.2.1 hx, bI_some, if_pos rfl]
    · unfold f9_set
      rw [m_isSq_out hM.1.1.2.1 hq hx, bI_some, if_pos rfl])
