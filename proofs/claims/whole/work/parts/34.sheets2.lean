/-! calls that change sheets -/
def shA (A : AS) (x y : Int32) (f : Nat → Nat → Int32) : AS := (A.1, fun a b => if a = 0 then (if b = 0 then x else y) else if a = 3 then f 3 b else if a = 4 then f 4 b else if a = 5 then f 5 b else A.2 a b)
def AgrS (σ σ' : Sto) : Prop := (∀ k a b, (k = 8 ∨ k = 13 ∨ (k = 6 ∧ a = 0)) → gR σ' k a b = gR σ k a b) ∧ ∀ k a b, ((k = 6 ∨ k = 16) → a = 0) → ¬ k = 18 → ¬ (k = 9 ∨ (24 ≤ k ∧ k < 42)) → ¬ (k = 7 ∨ (k = 8 ∧ b = 13)) → ¬ (k = 4 ∨ k = 19) → gI σ' k a b = gI σ k a b
theorem RC.sh {σ σ' : Sto} {t : Nat} {A : AS} {x y : Int32} {f : Nat → Nat → Int32} (h : AgrS σ σ') (hC : RC σ t A) (hx : gI σ' 7 0 0 = x) (hy : gI σ' 8 0 13 = y) (hs : RCs σ' (shA A x y f)) : RC σ' t (shA A x y f) := by
  obtain ⟨⟨t1, t2⟩, ⟨x1, ⟨b1, b2, b3, b4, b5, b6⟩, ⟨x3, x4⟩, x5, x6, x7, x8⟩, ⟨c1, c2⟩, e1, l1, ⟨r1, r2⟩, n1, s1, ⟨f1, f2⟩, u1, u2⟩ := hC
  have ei : ∀ c a b, c = 0 ∨ c = 1 ∨ c = 5 → gI σ' c a b = gI σ c a b := fun c a b hc => h.2 _ _ _ (by omega) (by omega) (by omega) (by omega) (by omega)
  refine ⟨⟨t1, ?_⟩, ⟨?_, ⟨?_, ?_, ?_, fun c hc => ?_, fun j => ?_, fun j => ?_⟩, ⟨?_, ?_⟩, fun p hp => ?_, fun e he => (x6 e he).frame (h.1 _ _ _ (by omega)) ei, ?_, fun k hk => ?_⟩, ⟨?_, fun x hx => ?_⟩, fun e he => (e1 e he).frame (h.1 _ _ _ (by omega)) ei, ?_, ⟨?_, fun k hk => ?_⟩, fun hl => ?_, fun k hk => ?_, ⟨?_, ?_⟩, fun j => ?_, fun j => ?_⟩
  · rw [h.1 _ _ _ (by omega)]; exact t2
  · rw [h.1 _ _ _ (by omega)]; exact x1
  · rw [h.2 _ _ _ (by omega) (by omega) (by omega) (by omega) (by omega)]; exact b1
  · rw [h.2 _ _ _ (by omega) (by omega) (by omega) (by omega) (by omega)]; exact b2
  · rw [h.2 _ _ _ (by omega) (by omega) (by omega) (by omega) (by omega)]; exact b3
  · rw [h.2 _ _ _ (by omega) (by omega) (by omega) (by omega) (by omega)]; exact b4 c hc
  · rw [h.2 _ _ _ (by omega) (by omega) (by omega) (by omega) (by omega)]; exact b5 j
  · rw [h.2 _ _ _ (by omega) (by omega) (by omega) (by omega) (by omega)]; exact b6 j
  · rw [h.2 _ _ _ (by omega) (by omega) (by omega) (by omega) (by omega)]; exact x3
  · rw [h.2 _ _ _ (by omega) (by omega) (by omega) (by omega) (by omega)]; exact x4
  · rw [h.2 _ _ _ (by omega) (by omega) (by omega) (by omega) (by omega)]; exact x5 p hp
  · rw [h.2 _ _ _ (by omega) (by omega) (by omega) (by omega) (by omega)]; exact x7
  · rw [h.2 _ _ _ (by omega) (by omega) (by omega) (by omega) (by omega)]; exact x8 k hk
  · rw [h.2 _ _ _ (by omega) (by omega) (by omega) (by omega) (by omega)]; exact c1
  · rw [h.2 _ _ _ (by omega) (by omega) (by omega) (by omega) (by omega)]; exact c2 x hx
  · rw [h.2 _ _ _ (by omega) (by omega) (by omega) (by omega) (by omega)]; exact l1
  · rw [h.2 _ _ _ (by omega) (by omega) (by omega) (by omega) (by omega)]; exact r1
  · rw [h.2 21 _ _ (by omega) (by omega) (by omega) (by omega) (by omega), h.2 22 _ _ (by omega) (by omega) (by omega) (by omega) (by omega)]; exact r2 k hk
  · obtain ⟨q1, q2, q3, q4, q5⟩ := n1 hl
    refine ⟨?_, ?_, fun p hp => ?_, ?_, ?_⟩
    · rw [h.1 _ _ _ (by omega)]; exact q1
    · rw [h.2 _ _ _ (by omega) (by omega) (by omega) (by omega) (by omega)]; exact q2
    · rw [h.2 _ _ _ (by omega) (by omega) (by omega) (by omega) (by omega)]; exact q3 p hp
    · rw [h.2 _ _ _ (by omega) (by omega) (by omega) (by omega) (by omega)]; exact q4
    · rw [h.2 _ _ _ (by omega) (by omega) (by omega) (by omega) (by omega)]; exact q5
  · exact hs k hk
  · exact hx
  · exact hy
  · rw [h.2 _ _ _ (by omega) (by omega) (by omega) (by omega) (by omega)]; exact u1 j
  · rw [h.2 _ _ _ (by omega) (by omega) (by omega) (by omega) (by omega)]; exact u2 j
theorem RM.sh {σ σ' : Sto} {A : AS} {x y : Int32} {f : Nat → Nat → Int32} (h : ∀ k a b, 24 ≤ k ∧ k < 31 ∨ (k = 9 ∧ b < 14) → gI σ' k a b = gI σ k a b) (hM : RM σ A) (hx : gI σ' 9 0 14 = x) (hy : gI σ' 9 0 15 = y) (hs : RMs σ' (shA A x y f)) : RM σ' (shA A x y f) := by
  obtain ⟨⟨⟨x1, x2, x3⟩, ⟨x4, x5⟩, x6, x7, x8, x9⟩, m1, m2, ⟨m3, m4⟩, ⟨m5, m6⟩, m7, m8⟩ := hM
  refine ⟨⟨⟨?_, ?_, fun c hc => ?_⟩, ⟨?_, fun e he => ?_⟩, ?_, fun p hp => ?_, ?_, fun k hk => ?_⟩, fun e he => ?_, ?_, ⟨?_, fun k hk => ?_⟩, hs, hx, hy⟩
  · rw [h _ _ _ (by omega)]; exact x1
  · rw [h _ _ _ (by omega)]; exact x2
  · rw [h _ _ _ (by omega)]; exact x3 c hc
  · rw [h _ _ _ (by omega)]; exact x4
  · rw [h 26 _ _ (by omega), h 27 _ _ (by omega)]; exact x5 e he
  · rw [h _ _ _ (by omega)]; exact x6
  · rw [h _ _ _ (by omega)]; exact x7 p hp
  · rw [h _ _ _ (by omega)]; exact x8
  · rw [h _ _ _ (by omega)]; exact x9 k hk
  · rw [h 26 _ _ (by omega), h 27 _ _ (by omega)]; exact m1 e he
  · rw [h _ _ _ (by omega)]; exact m2
  · rw [h _ _ _ (by omega)]; exact m3
  · rw [h 29 _ _ (by omega), h 30 _ _ (by omega)]; exact m4 k hk
theorem Both.sh {α : Type} {f g : Sto → Option (α × Sto)} (h : ∀ σ A t, wfA A → RC σ t A → RM σ A → ∃ r σ1 σ2 x y w, f σ = some (r, σ1) ∧ AgrS σ σ1 ∧ FC σ σ1 ∧ (gI σ1 7 0 0 = x ∧ gI σ1 8 0 13 = y) ∧ RCs σ1 (shA A x y w) ∧ wfS (shA A x y w) ∧ (RM σ1 A → g σ1 = some (r, σ2) ∧ FMm σ1 σ2 ∧ (∀ k a b, 24 ≤ k ∧ k < 31 ∨ (k = 9 ∧ b < 14) → gI σ2 k a b = gI σ1 k a b) ∧ (gI σ2 9 0 14 = x ∧ gI σ2 9 0 15 = y) ∧ RMs σ2 (shA A x y w))) : Both f g := by
  intro σ A ⟨hw, ⟨t, hC⟩, hM⟩
  obtain ⟨r, σ1, σ2, x, y, w, h1, h2, h3, ⟨h4, h5⟩, hs, hv, h6⟩ := h σ A t hw hC hM
  obtain ⟨g1, g2, g3, ⟨g4, g5⟩, g6⟩ := h6 (hM.fc h3)
  refine ⟨r, σ1, σ2, shA A x y w, h1, fun j => h3 46 0 j (by omega), g1, ⟨⟨hw.1, hw.2.1, hv⟩, ⟨t, (hC.sh h2 h4 h5 hs).agr g2.agr⟩, RM.sh g3 (hM.fc h3) g4 g5 g6⟩, fun j => ?_⟩
  rw [g2.2 46 0 j (by omega), h3 46 0 j (by omega)]
theorem both_lose (a1 : Int32) : Both (f8_lose a1) (f9_lose a1) := Both.sh (fun σ A t hw hC hM => by
  obtain ⟨tr, fa⟩ := hC.2.2.2.2.2.2.2.2.1
  have sh := hC.2.2.2.2.2.2.2.1
  rcases iN_or a1 4 (by decide) with ⟨k, hk, rfl⟩ | hx
  · have ix4 : Ix (iN k) 4 := (iN_Ix (by omega)).mpr hk
    refine ⟨if A.2 3 k = -1 then 0 else 1, sI σ 4 k 2 (-1), sI (sI σ 4 k 2 (-1)) 31 0 k (-1), A.2 0 0, A.2 0 1, fun a b => if a = 3 ∧ b = k then -1 else A.2 a b, ?_, ⟨fun _ _ _ _ => rfl, fun k' a b _ _ _ _ h => by rw [gI_sI, if_neg (by omega)]⟩, fun k' a b h => by rw [gI_sI, if_neg (by omega)], ⟨by rw [gI_sI, if_neg (by omega)]; exact tr, by rw [gI_sI, if_neg (by omega)]; exact fa⟩, fun k' hk' => ?_, fun k' hk' => ?_, fun hM => ⟨?_, ⟨rfl, fun k' a b h => by rw [gI_sI, if_neg (by omega)]⟩, fun k' a b h => by rw [gI_sI, if_neg (by omega)], ⟨by rw [gI_sI, if_neg (by omega)]; exact hM.2.2.2.2.2.1, by rw [gI_sI, if_neg (by omega)]; exact hM.2.2.2.2.2.2⟩, ⟨fun k' hk' => ?_, fun j hj => ?_⟩⟩⟩
    · unfold f8_lose
      rw [c_sheet_in hk, bI_some, rcs_some, if_pos rfl]
      obtain ⟨q1, q2, q3⟩ := sh k hk
      rcases wfS_at hw.2.2 hk with e | ⟨l', s, hl', hs, e1, e2⟩
      · rw [c_nothing (q1 e), bI_some, if_neg (by decide), if_pos e]; rfl
      · have ne : ¬ A.2 3 k = -1 := by rw [e1]; exact iN_ne_m (by omega) (by decide)
        rw [c_row hs (((q2 ne).2).trans e2), bI_some, if_pos rfl, if_neg ne]; rfl
    · obtain ⟨q1, q2, q3⟩ := sh k' hk'
      show ((if 3 = 3 ∧ k' = k then (-1 : Int32) else A.2 3 k') = -1 → gI (sI σ 4 k 2 (-1)) 4 k' 2 = -1) ∧ (¬ (if 3 = 3 ∧ k' = k then (-1 : Int32) else A.2 3 k') = -1 → gI (sI σ 4 k 2 (-1)) 4 k' 1 = (if 3 = 3 ∧ k' = k then (-1 : Int32) else A.2 3 k') ∧ gI (sI σ 4 k 2 (-1)) 4 k' 2 = A.2 4 k') ∧ ∀ j, j < 60 → gI (sI σ 4 k 2 (-1)) 19 k' j = A.2 5 (60 * k' + j)
      by_cases e : k' = k
      · rw [if_pos ⟨rfl, e⟩, gI_sI, if_pos ⟨rfl, e, rfl⟩]
        exact ⟨fun _ => rfl, fun h => absurd rfl h, fun j hj => by rw [gI_sI, if_neg (by omega)]; exact q3 j hj⟩
      · rw [if_neg (fun h => e h.2), gI_sI, if_neg (by omega), gI_sI, if_neg (by omega)]
        exact ⟨q1, q2, fun j hj => by rw [gI_sI, if_neg (by omega)]; exact q3 j hj⟩
    · show (if 3 = 3 ∧ k' = k then (-1 : Int32) else A.2 3 k') = -1 ∨ _
      by_cases e : k' = k
      · rw [if_pos ⟨rfl, e⟩]; exact Or.inl rfl
      · rw [if_neg (fun h => e h.2)]
        have := hw.2.2 k' hk'
        show _ ∨ (((if 3 = 3 ∧ k' = k then (-1 : Int32) else A.2 3 k') = 0 ∨ (if 3 = 3 ∧ k' = k then (-1 : Int32) else A.2 3 k') = 1 ∨ (if 3 = 3 ∧ k' = k then (-1 : Int32) else A.2 3 k') = 2) ∧ ∃ s, s ≤ 60 ∧ A.2 4 k' = iN s)
        rw [if_neg (fun h => e h.2)]
        exact this
    · unfold f9_lose
      rw [m_sheet_in hk, bI_some, if_neg (by decide), if_pos ix4, show gI (sI σ 4 k 2 (-1)) 31 0 (iN k).toNatClampNeg = A.2 3 k from by rw [iN_nat (by omega), (hM.2.2.2.2.1.1 k hk).1]]
      rcases wfS_at hw.2.2 hk with e | ⟨l', s, hl', hs, e1, e2⟩
      · rw [e, if_neg (by decide), if_pos ix4, if_pos rfl, iN_nat (by omega)]
      · rw [e1, if_pos (lane_le l' hl'), if_pos ix4, if_neg (iN_ne_m (by omega) (by decide)), iN_nat (by omega)]
    · have q := hM.2.2.2.2.1.1 k' hk'
      show gI _ 31 0 k' = (if 3 = 3 ∧ k' = k then (-1 : Int32) else A.2 3 k') ∧ (¬ (if 3 = 3 ∧ k' = k then (-1 : Int32) else A.2 3 k') = -1 → gI _ 32 0 k' = A.2 4 k')
      by_cases e : k' = k
      · rw [if_pos ⟨rfl, e⟩, gI_sI, if_pos ⟨rfl, rfl, e⟩]
        exact ⟨rfl, fun h => absurd rfl h⟩
      · rw [if_neg (fun h => e h.2), gI_sI, if_neg (by omega), gI_sI, if_neg (by omega)]
        exact q
    · rw [gI_sI, if_neg (by omega)]; exact hM.2.2.2.2.1.2 j hj
  · refine ⟨-1, σ, σ, A.2 0 0, A.2 0 1, A.2, ?_, ⟨fun _ _ _ _ => rfl, fun _ _ _ _ _ _ _ _ => rfl⟩, FC.rfl, ⟨tr, fa⟩, sh, hw.2.2, fun hM => ⟨?_, FMm.rfl, fun _ _ _ _ => rfl, ⟨hM.2.2.2.2.2.1, hM.2.2.2.2.2.2⟩, hM.2.2.2.2.1⟩⟩
    · unfold f8_lose
      rw [c_sheet_out hx, bI_some, rcs_none]
    · unfold f9_lose
      rw [m_sheet_out hx, bI_some, if_pos rfl])
