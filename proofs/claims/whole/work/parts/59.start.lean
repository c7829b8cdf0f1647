/-! the start: nothing stands -/
def asE : AS := (fun _ _ => 0, fun a _ => if a = 3 then -1 else 0)
theorem asE_no : ¬ laid asE := fun h => by
  have := h.1.1.1
  have : 2 ≤ 0 := this
  omega
theorem asE_wf : wfA asE := ⟨Or.inr ⟨rfl, rfl, rfl, rfl, rfl, rfl, rfl⟩, ⟨Nat.zero_le _, fun k hk => absurd hk (Nat.not_lt_zero _)⟩, fun k hk => Or.inl rfl⟩
theorem st2_RCs (xs : Nat → Int32) : RCs (st2 xs) asE := by
  intro k hk
  match k, hk with
  | 0, _ => exact ⟨fun _ => rfl, fun h => absurd rfl h, fun j hj => rfl⟩
  | 1, _ => exact ⟨fun _ => rfl, fun h => absurd rfl h, fun j hj => rfl⟩
  | 2, _ => exact ⟨fun _ => rfl, fun h => absurd rfl h, fun j hj => rfl⟩
  | 3, _ => exact ⟨fun _ => rfl, fun h => absurd rfl h, fun j hj => rfl⟩
theorem st2_CX (xs : Nat → Int32) : CX (st2 xs) 0 asE := ⟨rfl, ⟨rfl, rfl, rfl, fun c hc => absurd hc (Nat.not_lt_zero _), fun j => rfl, fun j => rfl⟩, ⟨rfl, rfl⟩, fun p hp => absurd hp (Nat.not_lt_zero _), fun e he => absurd he (Nat.not_lt_zero _), rfl, fun k hk => absurd hk (Nat.not_lt_zero _)⟩
theorem st2_RC (xs : Nat → Int32) : RC (st2 xs) 0 asE := ⟨⟨Or.inl rfl, rfl⟩, st2_CX xs, ⟨rfl, fun x hx => absurd hx (Nat.not_lt_zero _)⟩, fun e he => absurd he (Nat.not_lt_zero _), rfl, ⟨rfl, fun k hk => absurd hk (Nat.not_lt_zero _)⟩, fun h => absurd h asE_no, st2_RCs xs, ⟨rfl, rfl⟩, fun j => rfl, fun j => rfl⟩
theorem st2_RMs (xs : Nat → Int32) : RMs (st2 xs) asE := by
  refine ⟨fun k hk => ?_, fun j hj => rfl⟩
  match k, hk with
  | 0, _ => exact ⟨rfl, fun h => absurd rfl h⟩
  | 1, _ => exact ⟨rfl, fun h => absurd rfl h⟩
  | 2, _ => exact ⟨rfl, fun h => absurd rfl h⟩
  | 3, _ => exact ⟨rfl, fun h => absurd rfl h⟩
theorem st2_RM (xs : Nat → Int32) : RM (st2 xs) asE := ⟨⟨⟨rfl, rfl, fun c hc => absurd hc (Nat.not_lt_zero _)⟩, ⟨rfl, fun e he => absurd he (Nat.not_lt_zero _)⟩, rfl, fun p hp => absurd hp (Nat.not_lt_zero _), rfl, fun k hk => absurd hk (Nat.not_lt_zero _)⟩, fun e he => absurd he (Nat.not_lt_zero _), rfl, ⟨rfl, fun k hk => absurd hk (Nat.not_lt_zero _)⟩, st2_RMs xs, rfl, rfl⟩
theorem st2_WA (xs : Nat → Int32) : WA (st2 xs) asE := ⟨asE_wf, ⟨0, st2_RC xs⟩, st2_RM xs⟩
