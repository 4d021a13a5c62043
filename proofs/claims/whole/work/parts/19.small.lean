/-! ===== the small numbers' functions ===== -/
/-- the flying kinds by d more, the resting one as it is -/
def rtN (b d : Nat) : Nat := (List.range 6).foldl (fun a k => if b.testBit k then a ||| 2 ^ ((k + d) % 6) else a) (b &&& 64)
def cnN (b : Nat) : Nat := (List.range 7).foldl (fun a k => if b.testBit k then a + 1 else a) 0
/-- THE RULE -/
def tdN (b s : Nat) : Nat :=
  let f := b % 64
  if f = 9 ∨ f = 18 ∨ f = 36 ∨ f = 54 ∨ f = 45 ∨ f = 27 then rtN b (if s = 0 then 1 else 5)
  else if f = 21 ∨ f = 42 then b ^^^ 63
  else if 64 ≤ b ∧ cnN f = 1 then rtN f 1 ||| rtN f 5
  else if b < 64 ∧ cnN f = 2 ∧ rtN f 1 &&& rtN f 5 ≠ 0 then (rtN f 1 &&& rtN f 5) ||| 64
  else b
/-- how many (0), or the momentum (1, 2) -/
def amI (b f : Nat) : Int32 := (List.range 7).foldl (fun a k => if b.testBit k then a + (if f = 0 then 1 else ac_tab (f - 1) k) else a) 0
def bI (b : Bool) : Int32 := if b then 1 else 0
/-- the kind of the n-th -/
def ntI (b n : Nat) : Int32 := match (List.range 7).find? (fun k => b.testBit k && cnN (b % 2 ^ k) == n) with
  | some k => nI k
  | none => -1
theorem tr_bitCount : ∀ b, b < 128 → pu_try 100 0 [.int (nI b)] = some (nI (cnN b)) := by decide +kernel
theorem tr_holds : ∀ b, b < 128 → ∀ k, k < 7 → pu_try 100 47 [.int (nI b), .int (nI k)] = some (bI (b.testBit k)) := by decide +kernel
theorem tr_amount : ∀ b, b < 128 → ∀ f, f < 3 → pu_try 400 48 [.int (nI b), .int (nI f)] = some (amI b f) := by decide +kernel
theorem tr_bounced : ∀ b, b < 128 → pu_try 100 50 [.int (nI b)] = some (nI (rtN b 3)) := by decide +kernel
theorem tr_turned : ∀ b, b < 128 → ∀ s, s < 2 → pu_try 300 51 [.int (nI b), .int (nI s)] = some (nI (tdN b s)) := by decide +kernel
