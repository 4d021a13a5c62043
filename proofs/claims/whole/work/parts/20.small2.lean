theorem tr_momentum : ∀ k, k < 7 → ∀ w, w < 2 → pu_try 60 69 [.int (nI k), .int (nI w)] = some (ac_tab w k) := by decide +kernel
theorem tr_has : ∀ b, b < 128 → ∀ k, k < 7 → pu_try 60 70 [.int (nI b), .int (nI k)] = some (bI (b.testBit k)) := by decide +kernel
theorem tr_count : ∀ b, b < 128 → pu_try 400 71 [.int (nI b)] = some (nI (cnN b)) := by decide +kernel
theorem tr_turn3 : ∀ b, b < 128 → pu_try 400 72 [.int (nI b), .int 3] = some (nI (rtN b 3)) := by decide +kernel
theorem tr_become : ∀ b, b < 128 → ∀ s, s < 2 → pu_try 800 73 [.int (nI b), .int (nI s)] = some (nI (tdN b s)) := by decide +kernel
theorem tr_nth : ∀ b, b < 128 → ∀ n, n < 7 → pu_try 400 90 [.int (nI b), .int (nI n)] = some (ntI b n) := by decide +kernel
theorem tr_worth : ∀ b, b < 128 → ∀ f, f < 3 → pu_try 800 106 [.int (nI b), .int (nI f)] = some (amI b f) := by decide +kernel
theorem tr_rowsOn : ∀ d, d < 6 → pu_try 60 10 [.int (nI d)] = some (if d = 0 ∨ d = 3 then 0 else if d < 3 then -1 else 1) := by decide +kernel
theorem tr_columnsOn : ∀ y, y < 16 → ∀ d, d < 6 → pu_try 60 11 [.int (nI y), .int (nI d)] = some (if d = 0 then 1 else if d = 3 then -1 else if d = 1 ∨ d = 5 then nI (y % 2) else nI (y % 2) - 1) := by decide +kernel
theorem tr_floorMod : ∀ a, a < 18 → ∀ w, w < 17 → 4 ≤ w → pu_try 60 1 [.int (nI a - 1), .int (nI w)] = some (nI ((a + w - 1) % w)) := by decide +kernel
/-- the rule with the other sense undoes itself -/
theorem td_back : ∀ b, b < 128 → ∀ s, s < 2 → tdN (tdN b s) (1 - s) = b ∧ tdN b s < 128 := by decide +kernel
theorem td_zero : ∀ s, s < 2 → tdN 0 s = 0 := by decide +kernel
theorem td_cnt : ∀ b, b < 128 → ∀ s, s < 2 → cnN (tdN b s) = cnN b := by decide +kernel
theorem rt_lt : ∀ b, b < 128 → rtN b 3 < 128 := by decide +kernel
