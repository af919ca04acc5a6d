/-! bits of small masks -/
theorem bs_has : ∀ m, m < 128 → ∀ d, d < 7 → (((nI m >>> (nI d &&& 31)) &&& 1) = if m.testBit d = true then 1 else 0) := by decide +kernel
theorem bs_set : ∀ m, m < 128 → ∀ d, d < 7 → (nI m ||| ((1 : Int32) <<< (nI d &&& 31))) = nI (m ||| 2 ^ d) ∧ m ||| 2 ^ d < 128 := by decide +kernel
theorem bs_setT : ∀ m, m < 128 → ∀ d, d < 7 → ∀ j, j < 7 → (m ||| 2 ^ d).testBit j = (m.testBit j || j == d) := by decide +kernel
def bs_clr (m d : Nat) : Nat := if m.testBit d = true then m - 2 ^ d else m
theorem bs_clrI : ∀ m, m < 128 → ∀ d, d < 7 → (nI m &&& (((1 : Int32) <<< (nI d &&& 31)) ^^^ (-1))) = nI (bs_clr m d) ∧ bs_clr m d < 128 := by decide +kernel
theorem bs_clrT : ∀ m, m < 128 → ∀ d, d < 7 → ∀ j, j < 7 → (bs_clr m d).testBit j = (m.testBit j && !(j == d)) := by decide +kernel
theorem bs_zero : ∀ m, m < 128 → m ≠ 0 → ∃ j, j < 7 ∧ m.testBit j = true := by decide +kernel
theorem bs_ext : ∀ m, m < 128 → ∀ l, l < 128 → (∀ j, j < 7 → m.testBit j = l.testBit j) → m = l := by decide +kernel
