/-! the start: the state that the constructors make, and that class and reference agree there -/
def st0 : ns_S := (fun u => if u = 131 ∨ u = 3072 ∨ u = 4009 then -1 else 0, fun i => if i = 17 ∨ i = 44 then (fun _ => -1) else if i = 79 then upd (fun _ => 0) 0 (-1) else fun _ => 0, fun _ => 0, fun _ => false)
def ids0 : List Nat := [0, 1, 2, 3, 4, 5, 6, 7, 8, 9, 10, 11, 12, 13, 14, 15, 16, 17, 18, 19, 20, 21, 22, 23, 24, 25, 26, 27, 28, 29, 30, 31, 32, 33, 34, 35, 36, 37, 38, 39, 40, 41, 42, 43, 44, 45, 46, 47, 48, 49, 50, 51, 52, 53, 54, 55, 56, 57, 58, 59, 60, 61, 62, 63, 64, 65, 66, 67, 68, 69, 70, 71, 72, 73, 74, 75, 76, 77, 78, 79, 80, 81, 82, 83, 84, 85, 86, 87, 88, 89, 90, 91, 92, 93, 94, 95, 96, 97, 98, 99, 100, 101, 102, 103, 104, 105, 106]
set_option maxHeartbeats 4000000 in
set_option maxRecDepth 100000 in
theorem st0_C (D : va_G) (q q' : Nat → Nat) : WX10 D q ++ WX11 D q' = ns_wl D (fun i => if i < 62 then q i else q' (i - 62)) st0 ids0 := rfl
theorem ids0_ok : idsOK ids0 st0 := by
  intro i
  constructor
  · intro h
    refine Or.inl ?_
    have : ∀ j ∈ ids0, j < 107 := by decide
    exact this i h
  · intro h
    rcases h with h | ⟨k, -, h, -⟩
    · have : ∀ j, j < 107 → j ∈ ids0 := by decide
      exact this i h
    · cases h
theorem rel_0 : Rel st0 0 := by
  refine ⟨⟨fun _ _ => 0, ?_, ⟨⟨rfl, fun _ _ => rfl, rfl, fun _ _ => rfl, fun _ _ => rfl, fun _ _ => rfl, fun _ _ => rfl, fun _ _ => rfl⟩, ⟨rfl, fun _ _ => rfl, fun _ _ => rfl, fun _ _ => rfl, fun _ _ => rfl, fun _ _ => rfl⟩, ⟨rfl, fun _ _ => rfl, fun _ _ => rfl, fun _ _ => rfl, fun _ _ => rfl⟩, ⟨rfl, rfl, fun _ _ => rfl, fun _ _ => rfl, fun _ _ => rfl, fun _ _ => rfl⟩, ⟨rfl, fun l hl => absurd hl (Nat.not_lt_zero l)⟩⟩, ?_⟩, ⟨fun j _ => ⟨rfl, (by show (-128 : Int) ≤ (0 : Int32).toInt; decide), (by show (0 : Int32).toInt < 128; decide)⟩, ⟨0, Nat.zero_le _, rfl, rfl⟩, rfl, rfl⟩, fun k _ => Or.inr ⟨rfl, rfl⟩⟩
  · refine all31 (fun _ _ => rfl) (fun _ _ => rfl) (fun _ _ => rfl) (fun _ _ => rfl) (fun _ _ => rfl) (fun _ _ => rfl) (fun _ _ => rfl) (fun _ _ => rfl) (fun _ _ => rfl) (fun _ _ => rfl) (fun _ _ => rfl) (fun _ _ => rfl) (fun _ _ => rfl) (fun _ _ => rfl) (fun j hj => ?_) (fun _ _ => rfl) (fun j hj => absurd hj (Nat.not_lt_zero j)) (fun _ _ => rfl) (fun _ _ => rfl) (fun _ _ => rfl) (fun _ _ => rfl) (fun _ _ => rfl) (fun _ _ => rfl) (fun _ _ => rfl) (fun _ _ => rfl) (fun _ _ => rfl) (fun _ _ => rfl) (fun _ _ => rfl) (fun _ _ => rfl) (fun _ _ => rfl) (fun _ _ => rfl)
    obtain rfl : j = 0 := by have : j < 1 := hj; omega
    rfl
  · refine ⟨⟨by decide, by decide, by decide, fun _ _ => (by decide : (0 : Nat) < 100), fun _ _ => (by decide : (0 : Nat) < 100 ∧ (0 : Nat) < 100 ∧ (0 : Nat) < 5 ∧ (0 : Nat) < 6), fun c h => absurd h (Nat.not_lt_zero c), fun p _ => ⟨(by decide : (0 : Nat) ≤ 6), (by decide : (0 : Nat) < 100), fun k h => absurd h (Nat.not_lt_zero k)⟩⟩, fun p _ i j h => absurd h (Nat.not_lt_zero i), ⟨fun _ _ => (by decide : (0 : Nat) < 100000), fun _ _ => (by decide : (0 : Nat) < 1000 ∧ (0 : Nat) < 1000), fun _ _ _ => rfl⟩, ⟨(by decide : (0 : Nat) < 2 ^ 0), fun p _ c h => ?_, fun _ _ _ => ⟨rfl, rfl⟩, fun c _ => ⟨fun h => ?_, (by decide : (0 : Nat) < 100)⟩⟩, fun _ => ⟨rfl, fun _ _ => ⟨rfl, rfl, rfl⟩, fun _ _ => ⟨rfl, rfl⟩, fun _ _ => rfl, fun _ _ => rfl⟩, stp_off, Nat.le_refl _, ⟨by decide, fun l h => absurd h (Nat.not_lt_zero l)⟩⟩
    · have h : (0 : Nat).testBit c = true := h
      rw [Nat.zero_testBit] at h; cases h
    · have h : (0 : Nat).testBit c = true := h
      rw [Nat.zero_testBit] at h; cases h
