theorem or_dec : ∀ mask, mask < 256 → ∀ i, i < 8 → nI mask ||| ((1 : Int32) <<< ((nI i) &&& 31)) = nI (mask ||| 2 ^ i) ∧ mask ||| 2 ^ i < 256 := by decide +kernel
theorem and_dec : ∀ mask, mask < 256 → ∀ i, i < 8 → nI mask &&& (((1 : Int32) <<< ((nI i) &&& 31)) ^^^ (-1)) = nI (mask &&& (255 - 2 ^ i)) ∧ mask &&& (255 - 2 ^ i) < 256 := by decide +kernel
theorem ort_dec : ∀ mask, mask < 256 → ∀ i, i < 8 → ∀ j, j < 8 → (mask ||| 2 ^ i).testBit j = (mask.testBit j || j == i) := by decide +kernel
theorem andt_dec : ∀ mask, mask < 256 → ∀ i, i < 8 → ∀ j, j < 8 → (mask &&& (255 - 2 ^ i)).testBit j = (mask.testBit j && j != i) := by decide +kernel
theorem bits_dec : ∀ mask, mask < 256 → ∀ i, i < 8 → (if mask.testBit i then nI (mask % 2 ^ i) ||| ((1 : Int32) <<< ((nI i) &&& 31)) else nI (mask % 2 ^ i) ||| 0) = nI (mask % 2 ^ (i + 1)) := by decide +kernel
theorem pop_dec : ∀ mask, mask < 256 → F_J6_bitCount_0f7a4 (nI mask) = F_X6_ones (nI mask) ∧ ∃ n, n < 9 ∧ F_X6_ones (nI mask) = some (nI n) := by decide +kernel
