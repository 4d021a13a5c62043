/-! ===== an abstract machine: cells by number, one frame at a time, calls in one stride ===== -/
abbrev ac_C : Type := (FieldType × vp_A) ⊕ (Nat × List Value)
abbrev ac_H : Type := List ac_C
abbrev ac_S : Type := Nat × List Value × List Value × ac_H × Nat × Nat
abbrev ac_R : Type := (Option Value ⊕ Nat) × ac_H × Nat × Nat
/-- a plain operation; a call (method, arguments, place behind, receiver: 0 none, 1 a cell, n + 2 one of class n); a return (0 void, 1 int, 2 boolean); a throw (number of the exception) -/
abbrev ac_O : Type := (ac_S → Option ac_S) ⊕ (Nat × Nat × Nat × Nat) ⊕ Nat ⊕ Nat
/-- name, code, locals, return type, frames and locals' words below, rows of its table, whether it has one -/
abbrev ac_M : Type := MethodName × ByteArray × Nat × Option FieldType × Nat × Nat × List (Nat × Nat × Nat × Nat) × Bool
def ac_un : Value := .double 0
def ac_junk : ac_C := .inr (1000, [])
/-- values of one slot that the abstract machine passes on -/
def ac_one : Value → Bool
  | .int _ => true
  | .ref _ => true
  | .float _ => true
  | _ => false
/-- base, static arrays and the script by their numbers, class numbers, array classes, the texts, the script's length and ints -/
abbrev ac_E : Type := Nat × (Nat → Nat) × va_G × (FieldType → ClassId) × (Nat → Nat) × Nat × (Nat → Int32)
abbrev ac_b (E : ac_E) : Nat := E.1
abbrev ac_sa (E : ac_E) : Nat → Nat := E.2.1
abbrev ac_D (E : ac_E) : va_G := E.2.2.1
abbrev ac_ca (E : ac_E) : FieldType → ClassId := E.2.2.2.1
abbrev ac_sx (E : ac_E) : Nat → Nat := E.2.2.2.2.1
abbrev ac_len (E : ac_E) : Nat := E.2.2.2.2.2.1
abbrev ac_xs (E : ac_E) : Nat → Int32 := E.2.2.2.2.2.2
def ac_v (E : ac_E) : Value → Value
  | .ref k => .ref (ac_b E + k)
  | .float t => .ref (ac_sa E t.toNat)
  | v => v
/-- a list with one place new, handed on -/
def ac_set {α β : Type} : List α → Nat → α → (List α → Option β) → Option β
  | [], _, _, _ => none
  | _ :: l, 0, v, k => k (v :: l)
  | a :: l, i + 1, v, k => ac_set l i v (fun l' => k (a :: l'))
theorem ac_set_eq {α β : Type} : ∀ (l : List α) (i : Nat) (v : α) (k : List α → Option β), ac_set l i v k = if i < l.length then k (l.set i v) else none
  | [], i, v, k => by simp [ac_set]
  | a :: l, 0, v, k => by simp [ac_set]
  | a :: l, i + 1, v, k => by
    rw [ac_set, ac_set_eq l i v]
    simp
theorem ac_set_some {α β : Type} {l : List α} {i : Nat} {v : α} {k : List α → Option β} {r : β} (h : ac_set l i v k = some r) : i < l.length ∧ k (l.set i v) = some r := by
  rw [ac_set_eq] at h
  split at h
  · exact ⟨by assumption, h⟩
  · cases h
/-! the operations: each with the place behind it -/
def o_con (v : Value) (nx : Nat) : ac_S → Option ac_S := fun ⟨_, ls, st, h, c, k⟩ => some (nx, ls, v :: st, h, c, k)
def o_ild (i nx : Nat) : ac_S → Option ac_S := fun ⟨_, ls, st, h, c, k⟩ => match ls[i]? with
  | some (.int x) => some (nx, ls, .int x :: st, h, c, k)
  | _ => none
def o_ald (i nx : Nat) : ac_S → Option ac_S := fun ⟨_, ls, st, h, c, k⟩ => match ls[i]? with
  | some (.ref x) => some (nx, ls, .ref x :: st, h, c, k)
  | some (.float x) => some (nx, ls, .float x :: st, h, c, k)
  | _ => none
def o_ist (i nx : Nat) : ac_S → Option ac_S := fun ⟨_, ls, st, h, c, k⟩ => match st with
  | .int x :: st => ac_set ls i (.int x) (fun ls => some (nx, ls, st, h, c, k))
  | _ => none
def o_ast (i nx : Nat) : ac_S → Option ac_S := fun ⟨_, ls, st, h, c, k⟩ => match st with
  | .ref x :: st => ac_set ls i (.ref x) (fun ls => some (nx, ls, st, h, c, k))
  | _ => none
def o_inc (i : Nat) (v : Int32) (nx : Nat) : ac_S → Option ac_S := fun ⟨_, ls, st, h, c, k⟩ => match ls[i]? with
  | some (.int x) => ac_set ls i (.int (x + v)) (fun ls => some (nx, ls, st, h, c, k))
  | _ => none
def o_add (nx : Nat) : ac_S → Option ac_S := fun ⟨_, ls, st, h, c, k⟩ => match st with
  | .int y :: .int x :: st => some (nx, ls, .int (x + y) :: st, h, c, k)
  | _ => none
def o_sub (nx : Nat) : ac_S → Option ac_S := fun ⟨_, ls, st, h, c, k⟩ => match st with
  | .int y :: .int x :: st => some (nx, ls, .int (x - y) :: st, h, c, k)
  | _ => none
def o_mul (nx : Nat) : ac_S → Option ac_S := fun ⟨_, ls, st, h, c, k⟩ => match st with
  | .int y :: .int x :: st => some (nx, ls, .int (x * y) :: st, h, c, k)
  | _ => none
def o_and (nx : Nat) : ac_S → Option ac_S := fun ⟨_, ls, st, h, c, k⟩ => match st with
  | .int y :: .int x :: st => some (nx, ls, .int (x &&& y) :: st, h, c, k)
  | _ => none
def o_or (nx : Nat) : ac_S → Option ac_S := fun ⟨_, ls, st, h, c, k⟩ => match st with
  | .int y :: .int x :: st => some (nx, ls, .int (x ||| y) :: st, h, c, k)
  | _ => none
def o_xor (nx : Nat) : ac_S → Option ac_S := fun ⟨_, ls, st, h, c, k⟩ => match st with
  | .int y :: .int x :: st => some (nx, ls, .int (x ^^^ y) :: st, h, c, k)
  | _ => none
def o_shl (nx : Nat) : ac_S → Option ac_S := fun ⟨_, ls, st, h, c, k⟩ => match st with
  | .int y :: .int x :: st => some (nx, ls, .int (x <<< (y &&& 31)) :: st, h, c, k)
  | _ => none
def o_shr (nx : Nat) : ac_S → Option ac_S := fun ⟨_, ls, st, h, c, k⟩ => match st with
  | .int y :: .int x :: st => some (nx, ls, .int (x >>> (y &&& 31)) :: st, h, c, k)
  | _ => none
def ac_ush (x y : Int32) : Int32 := (x.toUInt32 >>> (y.toUInt32 &&& Int32.toUInt32 31)).toInt32
def o_ush (nx : Nat) : ac_S → Option ac_S := fun ⟨_, ls, st, h, c, k⟩ => match st with
  | .int y :: .int x :: st => some (nx, ls, .int (ac_ush x y) :: st, h, c, k)
  | _ => none
def o_neg (nx : Nat) : ac_S → Option ac_S := fun ⟨_, ls, st, h, c, k⟩ => match st with
  | .int x :: st => some (nx, ls, .int (-x) :: st, h, c, k)
  | _ => none
def ac_rm (x y : Int32) : Int32 := x - x / y * y
def o_div (nx : Nat) : ac_S → Option ac_S := fun ⟨_, ls, st, h, c, k⟩ => match st with
  | .int y :: .int x :: st => if y = 0 then none else some (nx, ls, .int (x / y) :: st, h, c, k)
  | _ => none
def o_rem (nx : Nat) : ac_S → Option ac_S := fun ⟨_, ls, st, h, c, k⟩ => match st with
  | .int y :: .int x :: st => if y = 0 then none else some (nx, ls, .int (ac_rm x y) :: st, h, c, k)
  | _ => none
def o_i2l (nx : Nat) : ac_S → Option ac_S := fun ⟨_, ls, st, h, c, k⟩ => match st with
  | .int x :: st => some (nx, ls, .long x.toInt64 :: st, h, c, k)
  | _ => none
def o_lcm (nx : Nat) : ac_S → Option ac_S := fun ⟨_, ls, st, h, c, k⟩ => match st with
  | .long y :: .long x :: st => some (nx, ls, .int (lg_cmp x y) :: st, h, c, k)
  | _ => none
def o_dup (nx : Nat) : ac_S → Option ac_S := fun ⟨_, ls, st, h, c, k⟩ => match st with
  | .int x :: st => some (nx, ls, .int x :: .int x :: st, h, c, k)
  | .ref x :: st => some (nx, ls, .ref x :: .ref x :: st, h, c, k)
  | _ => none
def o_dx1 (nx : Nat) : ac_S → Option ac_S := fun ⟨_, ls, st, h, c, k⟩ => match st with
  | .int x :: .ref y :: st => some (nx, ls, .int x :: .ref y :: .int x :: st, h, c, k)
  | _ => none
def o_dp2 (nx : Nat) : ac_S → Option ac_S := fun ⟨_, ls, st, h, c, k⟩ => match st with
  | .int x :: .ref y :: st => some (nx, ls, .int x :: .ref y :: .int x :: .ref y :: st, h, c, k)
  | _ => none
def o_pop (nx : Nat) : ac_S → Option ac_S := fun ⟨_, ls, st, h, c, k⟩ => match st with
  | .int _ :: st => some (nx, ls, st, h, c, k)
  | _ => none
def o_go (nx : Nat) : ac_S → Option ac_S := fun ⟨_, ls, st, h, c, k⟩ => some (nx, ls, st, h, c, k)
def o_eq0 (t nx : Nat) : ac_S → Option ac_S := fun ⟨_, ls, st, h, c, k⟩ => match st with
  | .int x :: st => some (if x = 0 then t else nx, ls, st, h, c, k)
  | _ => none
def o_ne0 (t nx : Nat) : ac_S → Option ac_S := fun ⟨_, ls, st, h, c, k⟩ => match st with
  | .int x :: st => some (if x = 0 then nx else t, ls, st, h, c, k)
  | _ => none
def o_lt0 (t nx : Nat) : ac_S → Option ac_S := fun ⟨_, ls, st, h, c, k⟩ => match st with
  | .int x :: st => some (if x < 0 then t else nx, ls, st, h, c, k)
  | _ => none
def o_ge0 (t nx : Nat) : ac_S → Option ac_S := fun ⟨_, ls, st, h, c, k⟩ => match st with
  | .int x :: st => some (if 0 ≤ x then t else nx, ls, st, h, c, k)
  | _ => none
def o_le0 (t nx : Nat) : ac_S → Option ac_S := fun ⟨_, ls, st, h, c, k⟩ => match st with
  | .int x :: st => some (if x ≤ 0 then t else nx, ls, st, h, c, k)
  | _ => none
def o_gt0 (t nx : Nat) : ac_S → Option ac_S := fun ⟨_, ls, st, h, c, k⟩ => match st with
  | .int x :: st => some (if 0 < x then t else nx, ls, st, h, c, k)
  | _ => none
def o_eq (t nx : Nat) : ac_S → Option ac_S := fun ⟨_, ls, st, h, c, k⟩ => match st with
  | .int y :: .int x :: st => some (if x = y then t else nx, ls, st, h, c, k)
  | _ => none
def o_ne (t nx : Nat) : ac_S → Option ac_S := fun ⟨_, ls, st, h, c, k⟩ => match st with
  | .int y :: .int x :: st => some (if x = y then nx else t, ls, st, h, c, k)
  | _ => none
def o_lt (t nx : Nat) : ac_S → Option ac_S := fun ⟨_, ls, st, h, c, k⟩ => match st with
  | .int y :: .int x :: st => some (if x < y then t else nx, ls, st, h, c, k)
  | _ => none
def o_ge (t nx : Nat) : ac_S → Option ac_S := fun ⟨_, ls, st, h, c, k⟩ => match st with
  | .int y :: .int x :: st => some (if y ≤ x then t else nx, ls, st, h, c, k)
  | _ => none
def o_le (t nx : Nat) : ac_S → Option ac_S := fun ⟨_, ls, st, h, c, k⟩ => match st with
  | .int y :: .int x :: st => some (if x ≤ y then t else nx, ls, st, h, c, k)
  | _ => none
def o_gt (t nx : Nat) : ac_S → Option ac_S := fun ⟨_, ls, st, h, c, k⟩ => match st with
  | .int y :: .int x :: st => some (if y < x then t else nx, ls, st, h, c, k)
  | _ => none
/-- a switch over 0 .. ts.length - 1 -/
def o_sw (ts : List Nat) (d : Nat) : ac_S → Option ac_S := fun ⟨_, ls, st, h, c, k⟩ => match st with
  | .int x :: st => some (if x < 0 then d else ts.getD x.toNatClampNeg d, ls, st, h, c, k)
  | _ => none
/-- field f of an object of class ci -/
def o_get (ci f nx : Nat) : ac_S → Option ac_S := fun ⟨_, ls, st, h, c, k⟩ => match st with
  | .ref a :: st => match h[a]? with
    | some (.inr (cj, fs)) => if cj = ci then (match fs[f]? with
      | some v => some (nx, ls, v :: st, h, c, k)
      | none => none) else none
    | _ => none
  | _ => none
def o_put (ci f nx : Nat) : ac_S → Option ac_S := fun ⟨_, ls, st, h, c, k⟩ => match st with
  | .int v :: .ref a :: st => match h[a]? with
    | some (.inr (cj, fs)) => if cj = ci then ac_set fs f (.int v) (fun fs => ac_set h a (.inr (cj, fs)) (fun h => some (nx, ls, st, h, c, k))) else none
    | _ => none
  | _ => none
/-- a reference into a field -/
def o_pur (ci f nx : Nat) : ac_S → Option ac_S := fun ⟨_, ls, st, h, c, k⟩ => match st with
  | .ref v :: .ref a :: st => match h[a]? with
    | some (.inr (cj, fs)) => if cj = ci then ac_set fs f (.ref v) (fun fs => ac_set h a (.inr (cj, fs)) (fun h => some (nx, ls, st, h, c, k))) else none
    | _ => none
  | _ => none
/-- the t-th static array -/
def o_sta (t : UInt32) (nx : Nat) : ac_S → Option ac_S := fun ⟨_, ls, st, h, c, k⟩ => some (nx, ls, .float t :: st, h, c, k)
def ac_in (i : Int32) (n : Nat) : Bool := decide (¬ i < 0) && decide (i.toNatClampNeg < n)
def o_ia (nx : Nat) : ac_S → Option ac_S := fun ⟨_, ls, st, h, c, k⟩ => match st with
  | .int i :: .ref a :: st => match h[a]? with
    | some (.inl (.int, n, .inl f)) => if ac_in i n = true then some (nx, ls, .int (f i.toNatClampNeg) :: st, h, c, k) else none
    | _ => none
  | _ => none
def o_za (nx : Nat) : ac_S → Option ac_S := fun ⟨_, ls, st, h, c, k⟩ => match st with
  | .int i :: .ref a :: st => match h[a]? with
    | some (.inl (.boolean, n, .inl f)) => if ac_in i n = true then some (nx, ls, .int (f i.toNatClampNeg) :: st, h, c, k) else none
    | _ => none
  | _ => none
def o_la (nx : Nat) : ac_S → Option ac_S := fun ⟨_, ls, st, h, c, k⟩ => match st with
  | .int i :: .ref a :: st => match h[a]? with
    | some (.inl (.long, n, .inr (.inl f))) => if ac_in i n = true then some (nx, ls, .long (f i.toNatClampNeg) :: st, h, c, k) else none
    | _ => none
  | _ => none
def o_is (nx : Nat) : ac_S → Option ac_S := fun ⟨_, ls, st, h, c, k⟩ => match st with
  | .int x :: .int i :: .ref a :: st => match h[a]? with
    | some (.inl (.int, n, .inl f)) => if ac_in i n = true then ac_set h a (.inl (.int, n, .inl (upd f i.toNatClampNeg x))) (fun h => some (nx, ls, st, h, c, k)) else none
    | _ => none
  | _ => none
def o_zs (nx : Nat) : ac_S → Option ac_S := fun ⟨_, ls, st, h, c, k⟩ => match st with
  | .int x :: .int i :: .ref a :: st => match h[a]? with
    | some (.inl (.boolean, n, .inl f)) => if ac_in i n = true then ac_set h a (.inl (.boolean, n, .inl (upd f i.toNatClampNeg (vp_nar .boolean x)))) (fun h => some (nx, ls, st, h, c, k)) else none
    | _ => none
  | _ => none
def o_ls (nx : Nat) : ac_S → Option ac_S := fun ⟨_, ls, st, h, c, k⟩ => match st with
  | .long x :: .int i :: .ref a :: st => match h[a]? with
    | some (.inl (.long, n, .inr (.inl f))) => if ac_in i n = true then ac_set h a (.inl (.long, n, .inr (.inl (vp_updL f i.toNatClampNeg x)))) (fun h => some (nx, ls, st, h, c, k)) else none
    | _ => none
  | _ => none
/-- the t-th static array's element; tab: its six ints -/
def o_ta (tab : Nat → Nat → Int32) (nx : Nat) : ac_S → Option ac_S := fun ⟨_, ls, st, h, c, k⟩ => match st with
  | .int i :: .float t :: st => if ac_in i 6 = true ∧ t.toNat < 4 then some (nx, ls, .int (tab t.toNat i.toNatClampNeg) :: st, h, c, k) else none
  | _ => none
/-- the script's element, its length -/
def o_xa (L : Nat) (xs : Nat → Int32) (nx : Nat) : ac_S → Option ac_S := fun ⟨_, ls, st, h, c, k⟩ => match st with
  | .int i :: .float t :: st => if ac_in i L = true ∧ t = 9 then some (nx, ls, .int (xs i.toNatClampNeg) :: st, h, c, k) else none
  | _ => none
def o_xl (L : Nat) (nx : Nat) : ac_S → Option ac_S := fun ⟨_, ls, st, h, c, k⟩ => match st with
  | .float t :: st => if t = 9 then some (nx, ls, .int (Int32.ofNat L) :: st, h, c, k) else none
  | _ => none
def o_len (nx : Nat) : ac_S → Option ac_S := fun ⟨_, ls, st, h, c, k⟩ => match st with
  | .ref a :: st => match h[a]? with
    | some (.inl (.int, n, .inl _)) => some (nx, ls, .int (Int32.ofNat n) :: st, h, c, k)
    | _ => none
  | _ => none
def o_ni (nx : Nat) : ac_S → Option ac_S := fun ⟨_, ls, st, h, c, k⟩ => match st with
  | .int n :: st => if ¬ n < 0 ∧ n.toNatClampNeg ≤ 4096 then some (nx, ls, .ref h.length :: st, h ++ [.inl (.int, n.toNatClampNeg, .inl (fun _ => 0))], c + 1, k + n.toNatClampNeg) else none
  | _ => none
def o_nz (nx : Nat) : ac_S → Option ac_S := fun ⟨_, ls, st, h, c, k⟩ => match st with
  | .int n :: st => if ¬ n < 0 ∧ n.toNatClampNeg ≤ 4096 then some (nx, ls, .ref h.length :: st, h ++ [.inl (.boolean, n.toNatClampNeg, .inl (fun _ => 0))], c + 1, k + n.toNatClampNeg) else none
  | _ => none
def o_nl (nx : Nat) : ac_S → Option ac_S := fun ⟨_, ls, st, h, c, k⟩ => match st with
  | .int n :: st => if ¬ n < 0 ∧ n.toNatClampNeg ≤ 4096 then some (nx, ls, .ref h.length :: st, h ++ [.inl (.long, n.toNatClampNeg, .inr (.inl (fun _ => 0)))], c + 1, k + n.toNatClampNeg) else none
  | _ => none
def o_new (ci : Nat) (fs : List Value) (nx : Nat) : ac_S → Option ac_S := fun ⟨_, ls, st, h, c, k⟩ => some (nx, ls, .ref h.length :: st, h ++ [.inr (ci, fs)], c + 1, k + fs.length)
/-- Object.<init> -/
def o_obj1 (nx : Nat) : ac_S → Option ac_S := fun ⟨_, ls, st, h, c, k⟩ => match st with
  | [.ref _] => some (nx, ls, [], h, c, k)
  | _ => none
def ac_rv (rv : Nat) (as : List Value) (h : ac_H) : Bool := match rv with
  | 0 => true
  | 1 => match as with
    | .ref _ :: _ => true
    | _ => false
  | ci + 2 => match as with
    | .ref b :: _ => match h[b]? with
      | some (.inr (cj, _)) => Nat.beq cj ci
      | _ => false
    | _ => false
/-- a method run from a state: fuel, number of the method -/
def ac_x (T : Nat → Nat → ac_O) (HD : Nat → Nat → Nat → Option (Option (Nat × Nat))) (nl : Nat → Nat) : Nat → Nat → ac_S → Option ac_R
  | 0, _, _ => none
  | n + 1, y, (pc, ls, st, h, c, k) => match T y pc with
    | .inl f => match f (pc, ls, st, h, c, k) with
      | some σ => ac_x T HD nl n y σ
      | none => none
    | .inr (.inl (z, na, nx, rv)) =>
      if na ≤ st.length ∧ (st.drop na).length ≤ 4 ∧ na ≤ nl z ∧ (st.take na).all ac_one = true ∧ ac_rv rv (st.take na).reverse h = true then
        match ac_x T HD nl n z (0, (st.take na).reverse ++ List.replicate (nl z - na) ac_un, [], h, 0, 0) with
        | some (.inl v, h', c', k') => ac_x T HD nl n y (nx, ls, v.toList ++ st.drop na, h', c + c', k + k')
        | some (.inr x, h', c', k') => match HD y pc x with
          | some (some (i, nx')) => ac_set ls i ac_un (fun ls => ac_x T HD nl n y (nx', ls, [], h', c + c', k + k'))
          | some none => some (.inr x, h', c + c', k + k')
          | none => none
        | none => none
      else none
    | .inr (.inr (.inl b)) => match b, st with
      | 0, [] => some (.inl none, h, c, k)
      | 1, [.int v] => some (.inl (some (.int v)), h, c, k)
      | 2, [.int v] => if v = 0 ∨ v = 1 then some (.inl (some (.int v)), h, c, k) else none
      | _, _ => none
    | .inr (.inr (.inr x)) => match st with
      | [] => some (.inr x, h ++ [ac_junk], c + 1, k + 6)
      | _ => none
