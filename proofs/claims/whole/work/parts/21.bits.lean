/-! bits of small numbers -/
def bt (m c : Nat) : Nat := (m.testBit c).toNat
theorem bt_shr : ∀ c, c < 10 → ∀ m, m < 1024 → ((nI m >>> (nI c &&& 31)) &&& 1) = nI (bt m c) := by decide +kernel
theorem bt_or : ∀ c, c < 10 → ∀ m, m < 1024 → (nI m ||| (1 <<< (nI c &&& 31))) = nI (m ||| 2 ^ c) := by decide +kernel
def clr (m c : Nat) : Nat := m ^^^ (m &&& 2 ^ c)
theorem bt_clr : ∀ c, c < 10 → ∀ m, m < 1024 → (nI m &&& ((1 <<< (nI c &&& 31)) ^^^ (-1))) = nI (clr m c) := by decide +kernel
theorem bt_all : ∀ m, m < 1024 → (nI m &&& (-1)) = nI m := by decide +kernel
def pop (m : Nat) : Nat := bt m 0 + bt m 1 + bt m 2 + bt m 3 + bt m 4 + bt m 5 + bt m 6 + bt m 7 + bt m 8 + bt m 9
theorem bitCount_all : ∀ m, m < 1024 → fJ6_bitCount_0f7a4 0 (nI m) = some (nI (pop m)) := by
  unfold fJ6_bitCount_0f7a4
  decide +kernel
theorem bitCount_eq {N m : Nat} (h : m < 1024) : fJ6_bitCount_0f7a4 N (nI m) = some (nI (pop m)) := bitCount_all m h
