/-! ===== the loop's start: what it says ===== -/
section SIM0
variable {xs : Nat → Int32}
theorem st0_2 (s : Nat) : (st0 xs).1 22 s = if s < 24 then -1 else bkA0 2 s := rfl
theorem st0_5 (s : Nat) : (st0 xs).1 25 s = if s < 72 then -1 else bkA0 5 s := rfl
theorem sim_V : pV 0 (pB (st0 xs) 20) := by
  refine ⟨by omega, rfl, fun s _ h => ⟨?_, rfl, rfl, fun u hu => ?_⟩, fun s h => absurd h (Nat.not_lt_zero _), fun k _ => ⟨0, by omega, rfl⟩⟩
  · exact (st0_2 s).trans (if_pos h)
  · exact (st0_5 (3 * s + u)).trans (if_pos (by omega))
theorem sim_L : pL 0 (pB (st0 xs) 20) ((st0 xs).1 8) := by
  intro r i h
  match r, h with
  | 0, h =>
    have h : i < 5 := h
    have : i = 0 ∨ i = 1 ∨ i = 2 ∨ i = 3 ∨ i = 4 := by omega
    rcases this with rfl | rfl | rfl | rfl | rfl <;> rfl
  | 1, h =>
    have h : i < 2 := h
    have : i = 0 ∨ i = 1 := by omega
    rcases this with rfl | rfl <;> rfl
  | 2, h => exact absurd h (Nat.not_lt_zero _)
  | 3, h => exact absurd h (Nat.not_lt_zero _)
  | 4, h => exact absurd h (Nat.not_lt_zero _)
  | 5, h => exact absurd h (Nat.not_lt_zero _)
  | 6, h => exact absurd h (Nat.not_lt_zero _)
  | 7, h =>
    have h : i < 4 := h
    have : i = 0 ∨ i = 1 ∨ i = 2 ∨ i = 3 := by omega
    rcases this with rfl | rfl | rfl | rfl <;> rfl
  | 8, h =>
    have h : i < 4 := h
    have : i = 0 ∨ i = 1 ∨ i = 2 ∨ i = 3 := by omega
    rcases this with rfl | rfl | rfl | rfl <;> rfl
  | 9, h =>
    have h : i < 6 := h
    have : i = 0 ∨ i = 1 ∨ i = 2 ∨ i = 3 ∨ i = 4 ∨ i = 5 := by omega
    rcases this with rfl | rfl | rfl | rfl | rfl | rfl <;> rfl
  | 10, h =>
    have h : i < 6 := h
    have : i = 0 ∨ i = 1 ∨ i = 2 ∨ i = 3 ∨ i = 4 ∨ i = 5 := by omega
    rcases this with rfl | rfl | rfl | rfl | rfl | rfl <;> rfl
  | 11, h =>
    have h : i < 6 := h
    have : i = 0 ∨ i = 1 ∨ i = 2 ∨ i = 3 ∨ i = 4 ∨ i = 5 := by omega
    rcases this with rfl | rfl | rfl | rfl | rfl | rfl <;> rfl
  | 12, h =>
    have h : i < 6 := h
    have : i = 0 ∨ i = 1 ∨ i = 2 ∨ i = 3 ∨ i = 4 ∨ i = 5 := by omega
    rcases this with rfl | rfl | rfl | rfl | rfl | rfl <;> rfl
  | r + 13, h => exact absurd h id
theorem sim0 : pSim (st0 xs) := by
  refine ⟨⟨fun k _ => rfl, fun k _ => rfl⟩, ⟨0, sim_V, sim_L, fun k hk => ?_⟩, ⟨0, 0, by omega, by omega, rfl, rfl, rfl, fun j hj => absurd hj (Nat.not_lt_zero _)⟩, 0, by omega, rfl, rfl, fun i hi => absurd hi (Nat.not_lt_zero _)⟩
  have : k = 0 ∨ k = 1 ∨ k = 2 ∨ k = 3 := by omega
  rcases this with rfl | rfl | rfl | rfl <;> rfl
end SIM0
