/-! put -/
theorem RCs.fr {σ σ' : Sto} {A : AS} {x y : Int32} (h : RCs σ A) (h4 : ∀ a b, gI σ' 4 a b = gI σ 4 a b) (h19 : ∀ a b, gI σ' 19 a b = gI σ 19 a b) : RCs σ' (shA A x y A.2) := fun k hk => by
  obtain ⟨q1, q2, q3⟩ := h k hk
  rw [h4, h4]
  exact ⟨q1, q2, fun j hj => by rw [h19]; exact q3 j hj⟩
theorem RMs.fr {σ σ' : Sto} {A : AS} {x y : Int32} (h : RMs σ A) (h3 : ∀ k b, 31 ≤ k ∧ k < 34 → gI σ' k 0 b = gI σ k 0 b) : RMs σ' (shA A x y A.2) := ⟨fun k hk => by
  rw [h3 31 _ (by omega), h3 32 _ (by omega)]
  exact h.1 k hk, fun j hj => by rw [h3 33 _ (by omega)]; exact h.2 j hj⟩
theorem AgrS.trans {a b c : Sto} (h1 : AgrS a b) (h2 : AgrS b c) : AgrS a c := ⟨fun k i j h => (h2.1 k i j h).trans (h1.1 k i j h), fun k i j p q r s u => (h2.2 k i j p q r s u).trans (h1.2 k i j p q r s u)⟩
theorem AgrS_f {σ : Sto} {x : Int32} : AgrS σ (sI σ 8 0 13 x) := ⟨fun _ _ _ _ => rfl, fun k a b _ _ _ h _ => by rw [gI_sI, if_neg (by omega)]⟩
theorem AgrS_19 {σ : Sto} {i j : Nat} {x : Int32} : AgrS σ (sI σ 19 i j x) := ⟨fun _ _ _ _ => rfl, fun k a b _ _ _ _ h => by rw [gI_sI, if_neg (by omega)]⟩
theorem FC_lt {σ : Sto} {k i j : Nat} {x : Int32} (hk : k < 24 ∧ ¬ k = 9) : FC σ (sI σ k i j x) := fun k' a b h => by rw [gI_sI, if_neg (by omega)]
def cutI (l : Int32) (v : Int32) : Int32 := if l = 0 then v.toInt8.toInt32 else if l = 1 then v.toInt16.toInt32 else v
theorem c_cut {σ : Sto} {k : Nat} {l v : Int32} (h : gI σ 4 k 1 = l) : f4_cut k v σ = some (cutI l v, σ) := by
  unfold f4_cut cutI
  rw [h]
  split
  · rfl
  · split <;> rfl
theorem m_cut {σ : Sto} {l v : Int32} : f9_cut l v σ = some (cutI l v, σ) := by
  unfold f9_cut cutI
  split
  · rfl
  · split <;> rfl
theorem both_put (a1 a2 a3 : Int32) : Both (f8_put a1 a2 a3) (f9_put a1 a2 a3) := Both.sh (fun σ A t hw hC hM => by
  obtain ⟨tr, fa⟩ := hC.2.2.2.2.2.2.2.2.1
  have sh := hC.2.2.2.2.2.2.2.1
  have fin : ∀ (r : Int32) (y : Int32) (σ1 : Sto), (σ1 = sI σ 8 0 13 0 ∧ y = 0 ∨ σ1 = sI (sI σ 8 0 13 0) 8 0 13 y) → f8_put a1 a2 a3 σ = some (r, σ1) → (RM σ1 A → f9_put a1 a2 a3 σ1 = some (r, sI σ1 9 0 15 y)) → ∃ r σ1 σ2 x y w, f8_put a1 a2 a3 σ = some (r, σ1) ∧ AgrS σ σ1 ∧ FC σ σ1 ∧ (gI σ1 7 0 0 = x ∧ gI σ1 8 0 13 = y) ∧ RCs σ1 (shA A x y w) ∧ wfS (shA A x y w) ∧ (RM σ1 A → f9_put a1 a2 a3 σ1 = some (r, σ2) ∧ FMm σ1 σ2 ∧ (∀ k a b, 24 ≤ k ∧ k < 31 ∨ (k = 9 ∧ b < 14) → gI σ2 k a b = gI σ1 k a b) ∧ (gI σ2 9 0 14 = x ∧ gI σ2 9 0 15 = y) ∧ RMs σ2 (shA A x y w)) := by
    intro r y σ1 h1 h2 h3
    have key : AgrS σ σ1 ∧ FC σ σ1 ∧ gI σ1 7 0 0 = A.2 0 0 ∧ gI σ1 8 0 13 = y ∧ (∀ a b, gI σ1 4 a b = gI σ 4 a b) ∧ ∀ a b, gI σ1 19 a b = gI σ 19 a b := by
      rcases h1 with ⟨rfl, rfl⟩ | rfl
      · exact ⟨AgrS_f, FC_f, by rw [gI_sI, if_neg (by decide)]; exact tr, gI_f, fun a b => by rw [gI_sI, if_neg (by omega)], fun a b => by rw [gI_sI, if_neg (by omega)]⟩
      · exact ⟨AgrS_f.trans AgrS_f, FC_f.trans FC_f, by rw [gI_sI, if_neg (by decide), gI_sI, if_neg (by decide)]; exact tr, gI_f, fun a b => by rw [gI_sI, if_neg (by omega), gI_sI, if_neg (by omega)], fun a b => by rw [gI_sI, if_neg (by omega), gI_sI, if_neg (by omega)]⟩
    obtain ⟨k1, k2, k3, k4, k5, k6⟩ := key
    exact ⟨r, σ1, sI σ1 9 0 15 y, A.2 0 0, y, A.2, h2, k1, k2, ⟨k3, k4⟩, sh.fr k5 k6, hw.2.2, fun hM => ⟨h3 hM, FMm_9, fun k a b h => by rw [gI_sI, if_neg (by omega)], ⟨by rw [gI_sI, if_neg (by decide)]; exact hM.2.2.2.2.2.1, by rw [gI_sI, if_pos (by decide)]⟩, RMs.fr hM.2.2.2.2.1 (fun k b h => by rw [gI_sI, if_neg (by omega)])⟩⟩
  rcases iN_or a1 4 (by decide) with ⟨k, hk, rfl⟩ | hx
  · have ix4 : Ix (iN k) 4 := (iN_Ix (by omega)).mpr hk
    obtain ⟨q1, q2, q3⟩ := sh k hk
    rcases wfS_at hw.2.2 hk with e | ⟨l', s, hl', hs, e1, e2⟩
    · refine fin (-11) 1 _ (Or.inr rfl) ?_ (fun hM => ?_)
      · unfold f8_put f8_failed
        rw [c_sheet_in hk, bI_some, rcs_some, if_pos rfl, c_nothing (by rw [gI_sI, if_neg (by omega)]; exact q1 e), bI_some, if_neg (by decide), bI_some]
        rfl
      · unfold f9_put f9_fails
        rw [m_sheet_in hk, bI_some, if_neg (by decide), if_pos ix4, show gI (sI (sI σ 8 0 13 0) 8 0 13 1) 31 0 (iN k).toNatClampNeg = -1 from by rw [iN_nat (by omega), (hM.2.2.2.2.1.1 k hk).1]; exact e, if_neg (by decide), bI_some]
        rfl
    · have ne : ¬ A.2 3 k = -1 := by rw [e1]; exact iN_ne_m (by omega) (by decide)
      have p1 : gI (sI σ 8 0 13 0) 4 k 1 = iN l' := by rw [gI_sI, if_neg (by omega)]; exact ((q2 ne).1).trans e1
      have p2 : gI (sI σ 8 0 13 0) 4 k 2 = iN s := by rw [gI_sI, if_neg (by omega)]; exact ((q2 ne).2).trans e2
      have m31 : ∀ τ, RM τ A → gI τ 31 0 (iN k).toNatClampNeg = iN l' := fun τ hM => by rw [iN_nat (by omega), (hM.2.2.2.2.1.1 k hk).1, e1]
      have m32 : ∀ τ, RM τ A → gI τ 32 0 (iN k).toNatClampNeg = iN s := fun τ hM => by rw [iN_nat (by omega), (hM.2.2.2.2.1.1 k hk).2 ne, e2]
      rcases iN_or a2 s (by omega) with ⟨j, hj, rfl⟩ | hx
      · refine ⟨1, sI (sI σ 8 0 13 0) 19 k j (cutI (iN l') a3), sI (sI (sI (sI σ 8 0 13 0) 19 k j (cutI (iN l') a3)) 9 0 15 0) 33 0 (60 * k + j) (cutI (iN l') a3), A.2 0 0, 0, fun a b => if a = 5 ∧ b = 60 * k + j then cutI (iN l') a3 else A.2 a b, ?_, AgrS_f.trans AgrS_19, FC_f.trans (FC_lt (by decide)), ⟨by rw [gI_sI, if_neg (by omega), gI_sI, if_neg (by decide)]; exact tr, by rw [gI_sI, if_neg (by omega)]; exact gI_f⟩, fun k' hk' => ?_, fun k' hk' => hw.2.2 k' hk', fun hM => ⟨?_, ⟨rfl, fun k' a b h => by rw [gI_sI, if_neg (by omega), gI_sI, if_neg (by omega)]⟩, fun k' a b h => by rw [gI_sI, if_neg (by omega), gI_sI, if_neg (by omega)], ⟨by rw [gI_sI, if_neg (by omega), gI_sI, if_neg (by omega)]; exact hM.2.2.2.2.2.1, by rw [gI_sI, if_neg (by omega), gI_sI, if_pos (by decide)]⟩, ⟨fun k' hk' => ?_, fun j' hj' => ?_⟩⟩⟩
        · unfold f8_put f4_write
          rw [c_sheet_in hk, bI_some, rcs_some, if_pos rfl, c_row hs p2, bI_some, if_pos rfl, c_hasCell_in hs p2 hj, bI_some, if_neg (by decide), c_hasCell_in hs p2 hj, bI_some, if_neg (by decide), c_cut p1, bI_some, if_pos ((iN_Ix (by omega)).mpr (by omega)), iN_nat (by omega), bV_some]
        · obtain ⟨z1, z2, z3⟩ := sh k' hk'
          refine ⟨fun h => ?_, fun h => ?_, fun j' hj' => ?_⟩
          · rw [gI_sI, if_neg (by omega), gI_sI, if_neg (by omega)]; exact z1 h
          · rw [gI_sI, if_neg (by omega), gI_sI, if_neg (by omega), gI_sI, if_neg (by omega), gI_sI, if_neg (by omega)]; exact z2 h
          · show _ = (if 5 = 5 ∧ 60 * k' + j' = 60 * k + j then cutI (iN l') a3 else A.2 5 (60 * k' + j'))
            rw [gI_sI]
            by_cases e : k' = k ∧ j' = j
            · rw [if_pos ⟨rfl, e.1, e.2⟩, if_pos ⟨rfl, by rw [e.1, e.2]⟩]
            · rw [if_neg (by omega), if_neg (by omega), gI_sI, if_neg (by omega)]; exact z3 j' hj'
        · unfold f9_put
          rw [m_sheet_in hk, bI_some, if_neg (by decide), if_pos ix4, m31 _ hM, if_pos (lane_le l' hl'), if_pos ix4, m32 _ hM, in_in _ (by omega) hj, bI_some, if_neg (by decide), if_pos ix4, m_cut, bI_some, at60, if_pos ((iN_Ix (by omega)).mpr (by omega)), show gI (sI (sI (sI σ 8 0 13 0) 19 k j (cutI (iN l') a3)) 9 0 15 0) 31 0 (iN k).toNatClampNeg = iN l' from by rw [gI_sI, if_neg (by omega)]; exact m31 _ hM, iN_nat (by omega)]
        · rw [gI_sI, if_neg (by omega), gI_sI, if_neg (by omega), gI_sI, if_neg (by omega), gI_sI, if_neg (by omega)]; exact hM.2.2.2.2.1.1 k' hk'
        · show _ = (if 5 = 5 ∧ j' = 60 * k + j then cutI (iN l') a3 else A.2 5 j')
          rw [gI_sI]
          by_cases e : j' = 60 * k + j
          · rw [if_pos ⟨rfl, rfl, e⟩, if_pos ⟨rfl, e⟩]
          · rw [if_neg (by omega), if_neg (by omega), gI_sI, if_neg (by omega)]; exact hM.2.2.2.2.1.2 j' hj'
      · refine fin (-13) 3 _ (Or.inr rfl) ?_ (fun hM => ?_)
        · unfold f8_put f8_failed
          rw [c_sheet_in hk, bI_some, rcs_some, if_pos rfl, c_row hs p2, bI_some, if_pos rfl, c_hasCell_out p2 hx, bI_some, if_pos rfl, bI_some]
          rfl
        · unfold f9_put f9_fails
          rw [m_sheet_in hk, bI_some, if_neg (by decide), if_pos ix4, m31 _ hM, if_pos (lane_le l' hl'), if_pos ix4, m32 _ hM, in_out _ (by omega) hx, bI_some, if_pos rfl, bI_some]
          rfl
  · refine fin (-1) 0 _ (Or.inl ⟨rfl, rfl⟩) ?_ (fun hM => ?_)
    · unfold f8_put
      rw [c_sheet_out hx, bI_some, rcs_none]
    · unfold f9_put f9_refused
      rw [m_sheet_out hx, bI_some, if_pos rfl, bI_some])
