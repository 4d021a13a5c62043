def RX0 : String := "SixWayGas$BodyAccount"
def TX0 : u_T := fun k => match k with
  | 0 => ("SixWayGas$BodyAccount", "weight", "I", false)
  | 1 => ("SixWayGas$BodyAccount", "gotP", "I", false)
  | 2 => ("SixWayGas$BodyAccount", "gotQ", "I", false)
  | _ => ("SixWayGas$BodyAccount", "moves", "I", false)
def tyX0 : Nat → FieldType := fun k => match k with
  | 0 => .int
  | 1 => .int
  | 2 => .int
  | _ => .int
abbrev wsX00 : List Cond := u_ws RX0 TX0 4
theorem nmX0 : ∀ a, a < 4 → ∀ b, b < 4 → a ≠ b → (TX0 a).2.1 ≠ (TX0 b).2.1 := by decide +kernel
theorem tyX0_ok : ∀ k, k < 4 → parseFieldDescriptor (TX0 k).2.2.1 = some (tyX0 k) := by decide +kernel
def RX1 : String := "SixWayGas$Books"
def TX1 : u_T := fun k => match k with
  | _ => ("SixWayGas$Books", "gave", "[I", true)
def tyX1 : Nat → FieldType := fun k => match k with
  | _ => .array .int
abbrev wsX10 : List Cond := u_ws RX1 TX1 1
theorem nmX1 : ∀ a, a < 1 → ∀ b, b < 1 → a ≠ b → (TX1 a).2.1 ≠ (TX1 b).2.1 := by decide +kernel
theorem tyX1_ok : ∀ k, k < 1 → parseFieldDescriptor (TX1 k).2.2.1 = some (tyX1 k) := by decide +kernel
def RX2 : String := "SixWayGas$Grid"
def TX2 : u_T := fun k => match k with
  | 0 => ("SixWayGas$Grid", "width", "I", true)
  | 1 => ("SixWayGas$Grid", "height", "I", true)
  | 2 => ("SixWayGas$Grid", "cells", "I", true)
  | _ => ("SixWayGas$Grid", "neighbours", "[I", true)
def tyX2 : Nat → FieldType := fun k => match k with
  | 0 => .int
  | 1 => .int
  | 2 => .int
  | _ => .array .int
abbrev wsX20 : List Cond := u_ws RX2 TX2 4
theorem nmX2 : ∀ a, a < 4 → ∀ b, b < 4 → a ≠ b → (TX2 a).2.1 ≠ (TX2 b).2.1 := by decide +kernel
theorem tyX2_ok : ∀ k, k < 4 → parseFieldDescriptor (TX2 k).2.2.1 = some (tyX2 k) := by decide +kernel
def RX3 : String := "SixWayGas$Marks"
def TX3 : u_T := fun k => match k with
  | 0 => ("SixWayGas$Marks", "cells", "[I", true)
  | 1 => ("SixWayGas$Marks", "kinds", "[I", true)
  | _ => ("SixWayGas$Marks", "count", "I", false)
def tyX3 : Nat → FieldType := fun k => match k with
  | 0 => .array .int
  | 1 => .array .int
  | _ => .int
abbrev wsX30 : List Cond := u_ws RX3 TX3 3
theorem nmX3 : ∀ a, a < 3 → ∀ b, b < 3 → a ≠ b → (TX3 a).2.1 ≠ (TX3 b).2.1 := by decide +kernel
theorem tyX3_ok : ∀ k, k < 3 → parseFieldDescriptor (TX3 k).2.2.1 = some (tyX3 k) := by decide +kernel
def RX4 : String := "SixWayGas"
def TX4 : u_T := fun k => match k with
  | 0 => ("SixWayGas", "grid", "LSixWayGas$Grid;", true)
  | 1 => ("SixWayGas", "edges", "[I", true)
  | 2 => ("SixWayGas", "rates", "[I", true)
  | 3 => ("SixWayGas", "books", "LSixWayGas$Books;", true)
  | 4 => ("SixWayGas", "bodyAccount", "LSixWayGas$BodyAccount;", true)
  | 5 => ("SixWayGas", "marks", "LSixWayGas$Marks;", true)
  | 6 => ("SixWayGas", "gainedCells", "[I", true)
  | 7 => ("SixWayGas", "leftCells", "[I", true)
  | 8 => ("SixWayGas", "cellBits", "[I", false)
  | 9 => ("SixWayGas", "arriving", "[I", false)
  | 10 => ("SixWayGas", "time", "I", false)
  | _ => ("SixWayGas", "seedNow", "I", false)
def tyX4 : Nat → FieldType := fun k => match k with
  | 0 => .object "SixWayGas$Grid"
  | 1 => .array .int
  | 2 => .array .int
  | 3 => .object "SixWayGas$Books"
  | 4 => .object "SixWayGas$BodyAccount"
  | 5 => .object "SixWayGas$Marks"
  | 6 => .array .int
  | 7 => .array .int
  | 8 => .array .int
  | 9 => .array .int
  | 10 => .int
  | _ => .int
abbrev wsX40 : List Cond := u_ws RX4 TX4 12
theorem nmX4 : ∀ a, a < 12 → ∀ b, b < 12 → a ≠ b → (TX4 a).2.1 ≠ (TX4 b).2.1 := by decide +kernel
theorem tyX4_ok : ∀ k, k < 12 → parseFieldDescriptor (TX4 k).2.2.1 = some (tyX4 k) := by decide +kernel
def RX5 : String := "SixWayGasModel"
def TX5 : u_T := fun k => match k with
  | 0 => ("SixWayGasModel", "thrown", "I", false)
  | 1 => ("SixWayGasModel", "w", "I", true)
  | 2 => ("SixWayGasModel", "h", "I", true)
  | 3 => ("SixWayGasModel", "time", "I", false)
  | 4 => ("SixWayGasModel", "seed", "I", false)
  | 5 => ("SixWayGasModel", "bits", "[I", true)
  | 6 => ("SixWayGasModel", "sort", "[I", true)
  | 7 => ("SixWayGasModel", "rate", "[I", true)
  | 8 => ("SixWayGasModel", "fresh", "[I", true)
  | 9 => ("SixWayGasModel", "ahead", "[Z", true)
  | 10 => ("SixWayGasModel", "books", "[I", true)
  | 11 => ("SixWayGasModel", "mass", "I", false)
  | 12 => ("SixWayGasModel", "account", "[I", true)
  | 13 => ("SixWayGasModel", "moves", "I", false)
  | 14 => ("SixWayGasModel", "marks", "I", false)
  | 15 => ("SixWayGasModel", "markCell", "[I", true)
  | _ => ("SixWayGasModel", "markKind", "[I", true)
def tyX5 : Nat → FieldType := fun k => match k with
  | 0 => .int
  | 1 => .int
  | 2 => .int
  | 3 => .int
  | 4 => .int
  | 5 => .array .int
  | 6 => .array .int
  | 7 => .array .int
  | 8 => .array .int
  | 9 => .array .boolean
  | 10 => .array .int
  | 11 => .int
  | 12 => .array .int
  | 13 => .int
  | 14 => .int
  | 15 => .array .int
  | _ => .array .int
abbrev wsX50 : List Cond := u_ws RX5 TX5 17
theorem nmX5 : ∀ a, a < 17 → ∀ b, b < 17 → a ≠ b → (TX5 a).2.1 ≠ (TX5 b).2.1 := by decide +kernel
theorem tyX5_ok : ∀ k, k < 17 → parseFieldDescriptor (TX5 k).2.2.1 = some (tyX5 k) := by decide +kernel
abbrev vwCl : List vw_C := [(RX0, TX0, 4), (RX1, TX1, 1), (RX2, TX2, 4), (RX3, TX3, 3), (RX4, TX4, 12), (RX5, TX5, 17)]
