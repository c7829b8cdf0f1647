/-! odds -/
def cnF (f : Nat → Bool) : Nat → Nat → Nat → Nat
  | 0, _, a => a
  | k + 1, j, a => cnF f k (j + 1) (if f j = true then a + 1 else a)
theorem cnF_le {f : Nat → Bool} : ∀ (k j a : Nat), cnF f k j a ≤ a + k
  | 0, _, a => Nat.le_refl _
  | k + 1, j, a => by
    show cnF f k (j + 1) (if f j = true then a + 1 else a) ≤ _
    have := cnF_le (f := f) k (j + 1) (if f j = true then a + 1 else a)
    split at this <;> rename_i h <;> simp only [h, if_true, if_false, Bool.false_eq_true] at this ⊢ <;> omega
theorem c_countL {σ : Sto} {i t v n p : Nat} {P : Nat → Nat} {B : Bd} (hB : CB σ t B) (h : okB B) (hS : CS σ i t v P) (hv : v < 3) (hP : okP B n P) (hp : p < 5) : ∀ (f j k a : Nat), j + f = 4 → f < k → l6_countHolds_4 i (iN p) k (iN a) (iN j) σ = some (iN (cnF (fun d => heldF B v P d p) f j a), σ)
  | f, j, 0, _, _, hk => by omega
  | 0, j, k + 1, a, hj, hk => by
    show (if 4 ≤ iN j then _ else _) = _
    rw [if_pos (by rw [show (4 : Int32) = iN 4 from rfl, iN_le (by omega) (by omega)]; omega)]
    rfl
  | f + 1, j, k + 1, a, hj, hk => by
    show (if 4 ≤ iN j then _ else _) = _
    rw [if_neg (by rw [show (4 : Int32) = iN 4 from rfl, iN_le (by omega) (by omega)]; omega), c_isHeldF hB h hS hv hP hp (by omega), bI_some, b2i_ite, iN_add1, iN_add1]
    show _ = some (iN (cnF _ f (j + 1) (if heldF B v P j p = true then a + 1 else a)), σ)
    by_cases e : heldF B v P j p = true
    · rw [if_pos e, if_pos e]; exact c_countL hB h hS hv hP hp f (j + 1) k _ (by omega) (by omega)
    · rw [if_neg e, if_neg e]; exact c_countL hB h hS hv hP hp f (j + 1) k _ (by omega) (by omega)
theorem m_oddsL {σ : Sto} {v n p : Nat} {P : Nat → Nat} {B : Bd} {a2 a3 : Int32} {K : Int32 → Int32 → Sto → Option (Int64 × Sto)} (h : okB B) (hv : v < 3) (hn : n ≤ 5) (hP : okP B n P) (hB : MB σ B) (hS : MS σ n v P) (hp : p < n) (on : P p < 30) : ∀ (f j k a : Nat), j + f = 4 → f < k → l9_odds_54 K (iN p) a3 k (iN a) (iN j) σ = K (iN (cnF (fun d => heldF B v P d p) f j a)) (iN 4) σ
  | f, j, 0, _, _, hk => by omega
  | 0, j, k + 1, a, hj, hk => by
    show (if 4 ≤ iN j then _ else _) = _
    rw [if_pos (by rw [show (4 : Int32) = iN 4 from rfl, iN_le (by omega) (by omega)]; omega), show j = 4 by omega]
    rfl
  | f + 1, j, k + 1, a, hj, hk => by
    show (if 4 ≤ iN j then _ else _) = _
    rw [if_neg (by rw [show (4 : Int32) = iN 4 from rfl, iN_le (by omega) (by omega)]; omega), m_isHeld h hv hn hP hB hS (by omega) hp (okP_sq hP on).2, bI_some, b2i_ite, iN_add1, iN_add1, Int32.add_zero]
    show _ = K (iN (cnF _ f (j + 1) (if heldF B v P j p = true then a + 1 else a))) (iN 4) σ
    rw [heldF_on on]
    by_cases e : heldB B v P (P p) j = true
    · rw [if_pos e, if_pos e]; exact m_oddsL (a2 := a2) h hv hn hP hB hS hp on f (j + 1) k _ (by omega) (by omega)
    · rw [if_neg e, if_neg e]; exact m_oddsL (a2 := a2) h hv hn hP hB hS hp on f (j + 1) k _ (by omega) (by omega)
theorem div_s {k : Nat} {x y : Int32} {σ : Sto} : l9_divisor_4 (k + 1) x y σ = if y = 0 then some (x, σ) else l9_divisor_4 k y (x - x / y * y) σ := by
  show (if y = 0 then some (x, σ) else (if ¬ y = 0 then l9_divisor_4 k y (x - x / y * y) σ else none)) = _
  by_cases h : y = 0
  · rw [if_pos h, if_pos h]
  · rw [if_neg h, if_neg h, if_pos h]
def gd (c : Nat) : Int32 := if c = 0 then 4 else if c = 1 then 1 else if c = 2 then 2 else if c = 3 then 1 else 4
theorem m_div {σ : Sto} {c : Nat} (hc : c < 5) : f9_divisor (iN c) 4 σ = some (gd c, σ) := by
  unfold f9_divisor
  show l9_divisor_4 (295 + 1 + 1 + 1 + 1 + 1) _ _ _ = _
  match c, hc with
  | 0, _ => rw [div_s, if_neg (by decide), show (iN 0 - iN 0 / 4 * 4 : Int32) = 0 by decide, div_s, if_pos rfl]; rfl
  | 1, _ => rw [div_s, if_neg (by decide), show (iN 1 - iN 1 / 4 * 4 : Int32) = 1 by decide, div_s, if_neg (by decide), show (4 - 4 / 1 * 1 : Int32) = 0 by decide, div_s, if_pos rfl]; rfl
  | 2, _ => rw [div_s, if_neg (by decide), show (iN 2 - iN 2 / 4 * 4 : Int32) = 2 by decide, div_s, if_neg (by decide), show (4 - 4 / 2 * 2 : Int32) = 0 by decide, div_s, if_pos rfl]; rfl
  | 3, _ => rw [div_s, if_neg (by decide), show (iN 3 - iN 3 / 4 * 4 : Int32) = 3 by decide, div_s, if_neg (by decide), show (4 - 4 / 3 * 3 : Int32) = 1 by decide, div_s, if_neg (by decide), show (3 - 3 / 1 * 1 : Int32) = 0 by decide, div_s, if_pos rfl]; rfl
  | 4, _ => rw [div_s, if_neg (by decide), show (iN 4 - iN 4 / 4 * 4 : Int32) = 0 by decide, div_s, if_pos rfl]; rfl
theorem odds_tab {c : Nat} (hc : c < 5) : ¬ gd c = 0 ∧ mtabs 44 c = iN c / gd c ∧ mtabs 45 c = 4 / gd c := by
  match c, hc with
  | 0, _ => decide
  | 1, _ => decide
  | 2, _ => decide
  | 3, _ => decide
  | 4, _ => decide
theorem both_odds (a1 a2 a3 : Int32) : Both (f8_odds a1 a2 a3) (f9_odds a1 a2 a3) := Both.go (fun σ A t hw hC hM => by
  have hn := wf_n hw
  have hm := wf_m hw
  have x1 := hC.2.1.1
  have no : f8_odds a1 a2 a3 σ = some (-9223372036854775808, σ) → (∀ τ, RM τ A → f9_odds a1 a2 a3 τ = some (-9223372036854775808, τ)) → ∃ r σ1, f8_odds a1 a2 a3 σ = some (r, σ1) ∧ Agr σ σ1 ∧ FC σ σ1 ∧ (RM σ1 A → ∃ σ2, f9_odds a1 a2 a3 σ1 = some (r, σ2) ∧ FP σ1 σ2) := fun h1 h2 => ⟨_, σ, h1, Agr.rfl, FC.rfl, fun hM => ⟨σ, h2 _ hM, FP.rfl⟩⟩
  rcases iN_or a1 (aM A) (by omega) with ⟨e, he, rfl⟩ | hx
  · obtain ⟨ixe, q1, -⟩ := c_eater hw hC he
    rcases iN_or a2 (aN A) (by omega) with ⟨p, hp, rfl⟩ | hx
    · rcases iN_or a3 2 (by decide) with ⟨w, hw2, rfl⟩ | hx
      · have hl := wf_pea hw hp
        have hv := hl.2.2.2.2.2.2.2
        have hS := hC.2.2.2.2.2.2.1 hl
        have hP := nowP_ok hl
        have ix : Ix (iN p) 5 := (iN_Ix (by omega)).mpr (by omega)
        by_cases on : nowP A p < 30
        · have hc5 : cnF (fun d => heldF (aB A) (aV A) (nowP A) d p) 4 0 0 < 5 := by
            have := cnF_le (f := fun d => heldF (aB A) (aV A) (nowP A) d p) 4 0 0
            omega
          have ec : f6_countHolds 0 (iN p) σ = some (iN (cnF (fun d => heldF (aB A) (aV A) (nowP A) d p) 4 0 0), σ) := c_countL hC.2.1.2.1 hl.1 hS hv hP (by omega) 4 0 300 0 rfl (by decide)
          have em := fun (τ : Sto) (K : Int32 → Int32 → Sto → Option (Int64 × Sto)) (hB : MB τ (aB A)) (hS : MS τ (aN A) (aV A) (nowP A)) => m_oddsL (a2 := 0) (a3 := iN w) (K := K) hl.1 hv hn hP hB hS hp on 4 0 300 0 rfl (by decide)
          generalize cnF (fun d => heldF (aB A) (aV A) (nowP A) d p) 4 0 0 = c at hc5 ec em
          obtain ⟨t1, t2, t3⟩ := odds_tab hc5
          have ixc : Ix (iN c) 5 := (iN_Ix (by omega)).mpr (by omega)
          refine ⟨(if iN w = 0 then iN c / gd c else 4 / gd c).toInt64, σ, ?_, Agr.rfl, FC.rfl, fun hM => ?_⟩
          · unfold f8_odds
            rw [x1, dr_some, q1, bI_some, rcs_some, x1, dr_some, c_hasPea_in hC.2.1.2.2.1.1 hn hp, bI_some, if_neg (by decide), show (2 : Int32) = iN 2 from rfl, isBelow_in σ (by decide) hw2, bI_some, if_neg (by decide), c_isOn hS (by omega), bI_some, if_pos on, if_neg (by decide), ec, bI_some, if_pos ixc, if_pos ixc, hC.2.2.2.2.2.2.2.2.2.1, hC.2.2.2.2.2.2.2.2.2.2, iN_nat (by omega), t2, t3]
            by_cases w0 : iN w = 0
            · rw [if_pos w0, if_pos w0]
            · rw [if_neg w0, if_neg w0]
          · obtain ⟨τ1, m1, m2, m3⟩ := m_now hl hM
            refine ⟨τ1, ?_, m3.fp⟩
            unfold f9_odds
            rw [m_isEa_in hM.1.2.1.1 hm he, bI_some, if_neg (by decide), m_isPea_in hM.1.2.2.1 hn hp, bI_some, if_neg (by decide), in2_in hw2, bI_some, if_neg (by decide), m1, bV_some, if_pos ix, show gI τ1 39 0 (iN p).toNatClampNeg = atI (nowP A p) from by rw [iN_nat (by omega), m2.2.2 p hp], if_pos (atI_le.mpr on)]
            refine (em τ1 _ (hM.1.fm m3).1 m2).trans ?_
            show (bI (f9_divisor (iN c) 4 τ1) _) = _
            rw [m_div hc5, bI_some, if_pos t1, if_pos t1]
            by_cases w0 : iN w = 0
            · rw [if_pos w0, if_pos w0]
            · rw [if_neg w0, if_neg w0]
        · refine ⟨-9223372036854775808, σ, ?_, Agr.rfl, FC.rfl, fun hM => ?_⟩
          · unfold f8_odds
            rw [x1, dr_some, q1, bI_some, rcs_some, x1, dr_some, c_hasPea_in hC.2.1.2.2.1.1 hn hp, bI_some, if_neg (by decide), show (2 : Int32) = iN 2 from rfl, isBelow_in σ (by decide) hw2, bI_some, if_neg (by decide), c_isOn hS (by omega), bI_some, if_neg on, if_pos rfl]
          · obtain ⟨τ1, m1, m2, m3⟩ := m_now hl hM
            refine ⟨τ1, ?_, m3.fp⟩
            unfold f9_odds
            rw [m_isEa_in hM.1.2.1.1 hm he, bI_some, if_neg (by decide), m_isPea_in hM.1.2.2.1 hn hp, bI_some, if_neg (by decide), in2_in hw2, bI_some, if_neg (by decide), m1, bV_some, if_pos ix, show gI τ1 39 0 (iN p).toNatClampNeg = atI (nowP A p) from by rw [iN_nat (by omega), m2.2.2 p hp], if_neg (mt atI_le.mp on)]
      · refine no ?_ (fun τ hM => ?_)
        · unfold f8_odds
          rw [x1, dr_some, q1, bI_some, rcs_some, x1, dr_some, c_hasPea_in hC.2.1.2.2.1.1 hn hp, bI_some, if_neg (by decide), show (2 : Int32) = iN 2 from rfl, isBelow_out σ hx, bI_some, if_pos rfl]
        · unfold f9_odds
          rw [m_isEa_in hM.1.2.1.1 hm he, bI_some, if_neg (by decide), m_isPea_in hM.1.2.2.1 hn hp, bI_some, if_neg (by decide), in2_out hx, bI_some, if_pos rfl]
    · refine no ?_ (fun τ hM => ?_)
      · unfold f8_odds
        rw [x1, dr_some, q1, bI_some, rcs_some, x1, dr_some, c_hasPea_out hC.2.1.2.2.1.1 hx, bI_some, if_pos rfl]
      · unfold f9_odds
        rw [m_isEa_in hM.1.2.1.1 hm he, bI_some, if_neg (by decide), m_isPea_out hM.1.2.2.1 hn hx, bI_some, if_pos rfl]
  · refine no ?_ (fun τ hM => ?_)
    · unfold f8_odds
      rw [x1, dr_some, c_eaterAt_out hC.2.1.2.2.1.2 hx, bI_some, rcs_none]
    · unfold f9_odds
      rw [m_isEa_out hM.1.2.1.1 hm hx, bI_some, if_pos rfl])
/-! wall -/
theorem sI_back {σ : Sto} {k i j : Nat} {x v : Int32} (h : gI σ k i j = v) : sI (sI σ k i j x) k i j v = σ := by
  have e : (fun a b c => if a = k ∧ b = i ∧ c = j then v else if a = k ∧ b = i ∧ c = j then x else gI σ a b c) = σ.1 := by
    funext a b c
    by_cases q : a = k ∧ b = i ∧ c = j
    · rw [if_pos q, q.1, q.2.1, q.2.2]; exact h.symm
    · rw [if_neg q, if_neg q]; rfl
  exact Prod.ext e rfl
theorem bl_end {B : Bd} {P : Nat → Nat} {d : Nat} : ∀ f c, nxs B.1 B.2.1 d f c = 99 → bl B P d f c = 99 ∨ pon P (bl B P d f c) = 9
  | 0, c, h => Or.inl h
  | f + 1, c, h => by
    have h' : (if c = 99 then 99 else nxs B.1 B.2.1 d f (nx B.1 B.2.1 c d)) = 99 := h
    unfold bl
    by_cases e : c = 99
    · rw [if_pos e]; exact Or.inl rfl
    · rw [if_neg e]
      rw [if_neg e] at h'
      by_cases e2 : pon P c = 9
      · rw [if_pos e2]; exact Or.inr e2
      · rw [if_neg e2]; exact bl_end f _ h'
theorem bhd_free {B : Bd} {P : Nat → Nat} {c d : Nat} (h : okB B) (hc : c < B.1 * B.2.1) (hd : d < 4) : bhd B P c d = 99 ∨ pon P (bhd B P c d) = 9 := by
  have h30 := okB_30 h
  have := List.all_eq_true.mp (hwc_at nxs_chk h.1.2 h.2.1.2 h.1.1 h.2.1.1 hc) d (List.mem_range.mpr hd)
  have := Nat.eq_of_beq_eq_true this
  have e : (if c = 99 then 99 else nxs B.1 B.2.1 d 5 (nx B.1 B.2.1 c d)) = 99 := this
  rw [if_neg (by omega)] at e
  exact bl_end 5 _ e
theorem bl_sg {a b d : Nat} {s s' : Nat → Int32} {P : Nat → Nat} : ∀ f c, bl (a, b, s) P d f c = bl (a, b, s') P d f c
  | 0, _ => rfl
  | f + 1, c => by
    unfold bl
    rw [bl_sg f]
theorem bhd_sg {a b c d : Nat} {s s' : Nat → Int32} {P : Nat → Nat} : bhd (a, b, s) P c d = bhd (a, b, s') P c d := bl_sg 5 _
theorem pon_9 {P : Nat → Nat} {c p : Nat} (h : pon P c = 9) (hp : p < 5) : ¬ P p = c := by
  unfold pon at h
  intro e
  match p, hp with
  | 0, _ => rw [if_pos e] at h; omega
  | 1, _ => rw [if_pos e] at h; split at h <;> omega
  | 2, _ => rw [if_pos e] at h; (repeat' split at h) <;> omega
  | 3, _ => rw [if_pos e] at h; (repeat' split at h) <;> omega
  | 4, _ => rw [if_pos e] at h; (repeat' split at h) <;> omega
def wlR (B : Bd) (b j : Nat) : Int32 := if ¬ b = 99 ∧ j ≤ b ∧ B.2.2 b = 0 then iN b else -9
theorem m_wallL {σ : Sto} {B : Bd} {v n p d : Nat} {P : Nat → Nat} (h : okB B) (hv : v < 3) (hn : n ≤ 5) (hP : okP B n P) (hB : MB σ B) (hS : MS σ n v P) (hd : d < 4) (hp : p < n) (hc : P p < B.1 * B.2.1) (hnot : ¬ heldA B v P (P p) d) : ∀ f j k, j + f = B.1 * B.2.1 → f < k → l9_wall_65 (iN p) (iN d) k (iN j) σ = some (wlR B (bhd B P (P p) d) j, σ)
  | f, j, 0, _, hk => by omega
  | 0, j, k + 1, hj, hk => by
    have h30 := okB_30 h
    show (if gI σ 9 0 1 ≤ iN j then _ else _) = _
    rw [hB.2.1, if_pos ((iN_le (by omega) (by omega)).mpr (by omega))]
    unfold wlR
    rw [if_neg (fun q => by have := bhd_rg (P := P) h hc hd; omega)]
  | f + 1, j, k + 1, hj, hk => by
    have h30 := okB_30 h
    have ih := m_wallL h hv hn hP hB hS hd hp hc hnot f (j + 1) k (by omega) (by omega)
    have ix : Ix (iN j) 30 := (iN_Ix (by omega)).mpr (by omega)
    have skip : (¬ bhd B P (P p) d = j ∨ ¬ B.2.2 j = 0) → wlR B (bhd B P (P p) d) (j + 1) = wlR B (bhd B P (P p) d) j := by
      intro hne
      unfold wlR
      generalize bhd B P (P p) d = b at hne
      by_cases q : ¬ b = 99 ∧ j + 1 ≤ b ∧ B.2.2 b = 0
      · rw [if_pos q, if_pos ⟨q.1, by omega, q.2.2⟩]
      · rw [if_neg q, if_neg]
        intro z
        by_cases eb : b = j
        · rcases hne with hne | hne
          · exact hne eb
          · rw [← eb] at hne; exact hne z.2.2
        · exact q ⟨z.1, by omega, z.2.2⟩
    show (if gI σ 9 0 1 ≤ iN j then _ else _) = _
    rw [hB.2.1, if_neg (by rw [iN_le (by omega) (by omega)]; omega), if_pos ix, show gI σ 24 0 (iN j).toNatClampNeg = B.2.2 j from by rw [iN_nat (by omega), hB.2.2 j (by omega)], iN_add1]
    by_cases e0 : B.2.2 j = 0
    · rw [if_pos e0, m_peaAt hn hP hS (by omega), bI_some]
      by_cases ep : pon P j = 9
      · rw [ep, paI_9, if_neg (by decide), if_pos ix, show sI σ 24 0 (iN j).toNatClampNeg 2 = sI σ 24 0 j 2 from by rw [iN_nat (by omega)]]
        have nob : ∀ q, q < n → ¬ P q = j := fun q hq => pon_9 ep (by omega)
        generalize hB' : ((B.1, B.2.1, fun b => if b = j then 2 else B.2.2 b) : Bd) = B'
        have B1 : B'.1 = B.1 := by rw [← hB']
        have B2 : B'.2.1 = B.2.1 := by rw [← hB']
        have B3 : ∀ b, B'.2.2 b = if b = j then 2 else B.2.2 b := fun b => by rw [← hB']
        have okB' : okB B' := by
          refine ⟨by rw [B1]; exact h.1, by rw [B2]; exact h.2.1, fun b hb => ?_⟩
          rw [B3]
          rw [B1, B2] at hb
          by_cases eb : b = j
          · rw [if_pos eb]; exact Or.inr (Or.inr rfl)
          · rw [if_neg eb]; exact h.2.2 b hb
        have okP' : okP B' n P := by
          refine ⟨fun q hq => ?_, hP.2⟩
          rw [B1, B2, B3, if_neg (nob q hq)]
          exact hP.1 q hq
        have fs : ∀ k b, ¬ k = 24 → gI (sI σ 24 0 j 2) k 0 b = gI σ k 0 b := fun k b hk => by rw [gI_sI, if_neg (by omega)]
        have hMB' : MB (sI σ 24 0 j 2) B' := by
          refine ⟨by rw [fs _ _ (by decide), B2]; exact hB.1, by rw [fs _ _ (by decide), B1, B2]; exact hB.2.1, fun b hb => ?_⟩
          rw [B1, B2] at hb
          rw [B3, gI_sI]
          by_cases eb : b = j
          · rw [if_pos ⟨rfl, rfl, eb⟩, if_pos eb]
          · rw [if_neg (by omega), if_neg eb]; exact hB.2.2 b hb
        have hMS' : MS (sI σ 24 0 j 2) n v P := ⟨by rw [fs _ _ (by decide)]; exact hS.1, by rw [fs _ _ (by decide)]; exact hS.2.1, fun q hq => by rw [fs _ _ (by decide)]; exact hS.2.2 q hq⟩
        rw [m_isHeld okB' hv hn okP' hMB' hMS' hd hp (by rw [B1, B2]; exact hc), bI_some, if_pos ix, iN_nat (by omega), sI_back (by rw [hB.2.2 j (by omega)]; exact e0), b2i_ite]
        have eb : bhd B' P (P p) d = bhd B P (P p) d := by rw [← hB']; exact bhd_sg
        have hd' : heldB B' v P (P p) d = decide (bhd B P (P p) d = j) := by
          unfold heldB
          rw [eb]
          have hnot' : ¬ (if bhd B P (P p) d = 99 then Nat.beq v 2 else decide (B.2.2 (bhd B P (P p) d) = 2)) = true := hnot
          by_cases e99 : bhd B P (P p) d = 99
          · rw [if_pos e99, decide_eq_false (by omega)]
            rw [if_pos e99] at hnot'
            exact Bool.not_eq_true _ ▸ hnot'
          · rw [if_neg e99, B3]
            rw [if_neg e99] at hnot'
            by_cases ej : bhd B P (P p) d = j
            · rw [if_pos ej, decide_eq_true ej]; rfl
            · rw [if_neg ej, decide_eq_false ej]
              exact Bool.not_eq_true _ ▸ hnot'
        rw [hd']
        by_cases ej : bhd B P (P p) d = j
        · rw [if_pos (decide_eq_true ej)]
          unfold wlR
          rw [ej, if_pos ⟨by omega, Nat.le_refl _, e0⟩]
        · rw [if_neg (by rw [decide_eq_false ej]; decide), ih, skip (Or.inl ej)]
      · obtain ⟨q1, q2, q3⟩ := okP_on hP (by omega) ep
        rw [paI_ne (by omega), if_pos (by rw [show (0 : Int32) = iN 0 from rfl, iN_le (by omega) (by omega)]; omega), ih, skip (Or.inl (fun ej => ?_))]
        rcases bhd_free (P := P) h hc hd with z | z
        · omega
        · rw [ej] at z; exact ep z
    · rw [if_neg e0, ih, skip (Or.inr e0)]
theorem both_wall (a1 a2 a3 : Int32) : Both (f8_wall a1 a2 a3) (f9_wall a1 a2 a3) := Both.go (fun σ A t hw hC hM => by
  have hn := wf_n hw
  have hm := wf_m hw
  have no : ∀ r, f8_wall a1 a2 a3 σ = some (r, σ) → (∀ τ, RM τ A → f9_wall a1 a2 a3 τ = some (r, τ)) → ∃ r σ1, f8_wall a1 a2 a3 σ = some (r, σ1) ∧ Agr σ σ1 ∧ FC σ σ1 ∧ (RM σ1 A → ∃ σ2, f9_wall a1 a2 a3 σ1 = some (r, σ2) ∧ FP σ1 σ2) := fun r h1 h2 => ⟨r, σ, h1, Agr.rfl, FC.rfl, fun hM => ⟨σ, h2 _ hM, FP.rfl⟩⟩
  rcases iN_or a1 (aM A) (by omega) with ⟨e, he, rfl⟩ | hx
  · rcases iN_or a2 (aN A) (by omega) with ⟨p, hp, rfl⟩ | hx
    · rcases iN_or a3 4 (by decide) with ⟨d, hd, rfl⟩ | hx
      · have hl := wf_pea hw hp
        have hv := hl.2.2.2.2.2.2.2
        have hS := hC.2.2.2.2.2.2.1 hl
        have hP := nowP_ok hl
        have h30 := okB_30 hl.1
        have ix : Ix (iN p) 5 := (iN_Ix (by omega)).mpr (by omega)
        by_cases on : nowP A p < 30
        · have hsq := (okP_sq hP on).2
          have hr := bhd_rg (P := nowP A) hl.1 hsq hd
          refine ⟨wlR (aB A) (bhd (aB A) (nowP A) (nowP A p) d) 0, σ, ?_, Agr.rfl, FC.rfl, fun hM => ?_⟩
          · unfold f8_wall
            rw [c_ref_ok hw hC he hp hd, bI_some, if_pos rfl, c_isOn hS (by omega), bI_some, if_pos on, if_neg (by decide), c_behind hC.2.1.2.1 hl.1 hS (by omega) hsq hd, bI_some]
            unfold wlR
            generalize bhd (aB A) (nowP A) (nowP A p) d = b at hr
            rcases hr with hr | hr
            · rw [hr, rv_99, if_pos rfl, if_neg (fun z => z.1 rfl)]
            · rw [rv_lt (by omega), if_neg (iN_ne_m (by omega) (by decide)), hC.2.1.1, dr_some, c_signAt hC.2.1.2.1 hl.1 hr, bI_some]
              by_cases e0 : (aB A).2.2 b = 0
              · rw [if_pos e0, if_pos ⟨by omega, Nat.zero_le _, e0⟩]
              · rw [if_neg e0, if_neg (fun z => e0 z.2.2)]
          · obtain ⟨τ1, m1, m2, m3⟩ := m_now hl hM
            have hX := hM.1.fm m3
            refine ⟨τ1, ?_, m3.fp⟩
            unfold f9_wall
            rw [m_isEa_in hM.1.2.1.1 hm he, bI_some, if_neg (by decide), m_isPea_in hM.1.2.2.1 hn hp, bI_some, if_neg (by decide), in4_in hd, bI_some, if_neg (by decide), m1, bV_some, if_pos ix, show gI τ1 39 0 (iN p).toNatClampNeg = atI (nowP A p) from by rw [iN_nat (by omega), m2.2.2 p hp], if_pos (atI_le.mpr on), m_isHeld hl.1 hv hn hP hX.1 m2 hd hp hsq, bI_some, b2i_ite]
            by_cases hh : heldB (aB A) (aV A) (nowP A) (nowP A p) d = true
            · rw [if_pos hh]
              unfold wlR
              rw [if_neg (fun z => ?_)]
              have := (heldA_in z.1).mp hh
              rw [z.2.2] at this
              exact absurd this (by decide)
            · rw [if_neg hh]
              exact m_wallL hl.1 hv hn hP hX.1 m2 hd hp hsq hh ((aB A).1 * (aB A).2.1) 0 300 (by omega) (by omega)
        · refine ⟨-3, σ, ?_, Agr.rfl, FC.rfl, fun hM => ?_⟩
          · unfold f8_wall
            rw [c_ref_ok hw hC he hp hd, bI_some, if_pos rfl, c_isOn hS (by omega), bI_some, if_neg on, if_pos rfl]
          · obtain ⟨τ1, m1, m2, m3⟩ := m_now hl hM
            refine ⟨τ1, ?_, m3.fp⟩
            unfold f9_wall
            rw [m_isEa_in hM.1.2.1.1 hm he, bI_some, if_neg (by decide), m_isPea_in hM.1.2.2.1 hn hp, bI_some, if_neg (by decide), in4_in hd, bI_some, if_neg (by decide), m1, bV_some, if_pos ix, show gI τ1 39 0 (iN p).toNatClampNeg = atI (nowP A p) from by rw [iN_nat (by omega), m2.2.2 p hp], if_neg (mt atI_le.mp on)]
      · refine no (-2) ?_ (fun τ hM => ?_)
        · unfold f8_wall
          rw [c_ref_d hw hC he hp hx, bI_some, if_neg (by decide)]
        · unfold f9_wall
          rw [m_isEa_in hM.1.2.1.1 hm he, bI_some, if_neg (by decide), m_isPea_in hM.1.2.2.1 hn hp, bI_some, if_neg (by decide), in4_out hx, bI_some, if_pos rfl]
    · refine no (-1) ?_ (fun τ hM => ?_)
      · unfold f8_wall
        rw [c_ref_p hw hC he hx, bI_some, if_neg (by decide)]
      · unfold f9_wall
        rw [m_isEa_in hM.1.2.1.1 hm he, bI_some, if_neg (by decide), m_isPea_out hM.1.2.2.1 hn hx, bI_some, if_pos rfl]
  · refine no (-1) ?_ (fun τ hM => ?_)
    · unfold f8_wall
      rw [c_ref_e hC hx, bI_some, if_neg (by decide)]
    · unfold f9_wall
      rw [m_isEa_out hM.1.2.1.1 hm hx, bI_some, if_pos rfl])
