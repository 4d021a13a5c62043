/-! ===== the class: its making ===== -/
theorem ev_ni {L : Nat} {xs : Nat → Int32} {y pc nx : Nat} {ls st : List Value} {h : ac_H} {c k : Nat} {r : ac_R} {i : Int32} (hT : ac_Tf L xs y pc = .inl (o_ni nx)) (n : Nat) (hi : i = nI n) (hn : n ≤ 4096) (kk : Ev L xs y (nx, ls, .ref h.length :: st, h ++ [Ar n (fun _ => 0)], c + 1, k + n) r) : Ev L xs y (pc, ls, .int i :: st, h, c, k) r := by
  subst hi
  refine ev_step hT ?_ kk
  have hc := nI_clamp (n := n) (by omega)
  simp only [o_ni, hc]
  rw [if_pos ⟨nI_pos (by omega), hn⟩]
/-- a side, as it is asked for -/
def sdV (v : Int32) : Nat := if v < 4 ∨ 16 < v then 8 else if v.toNatClampNeg % 2 = 0 then v.toNatClampNeg else 8
theorem rm_2 : ∀ j, j < 17 → ac_rm (nI j) 2 = nI (j % 2) := by decide +kernel
theorem sdV_or (v : Int32) (h1 : ¬ v < 4) (h2 : ¬ 16 < v) : ∃ j, j < 17 ∧ 4 ≤ j ∧ v = nI j := by
  obtain ⟨j, hj, e⟩ := nI_of2 (x := v) (M := 16) (n := 16) (by decide) (fun h => h1 (Int32.lt_trans h (by decide))) (Int32.not_lt.mp h2)
  refine ⟨j, by omega, ?_, e⟩
  subst e
  exact Nat.not_lt.mp (fun h => h1 (nI_lt (a := j) (b := 4) h (by decide)))
theorem sdV_ok (v : Int32) : sideOk (sdV v) := by
  unfold sdV
  split
  · exact ⟨by decide, by decide, by decide⟩
  · rename_i h
    obtain ⟨j, hj, h4, rfl⟩ := sdV_or v (fun q => h (Or.inl q)) (fun q => h (Or.inr q))
    rw [nI_clamp (by omega)]
    split
    · exact ⟨h4, by omega, by assumption⟩
    · exact ⟨by decide, by decide, by decide⟩
theorem mt_sideOf {L : Nat} {xs : Nat → Int32} {v : Int32} {H : ac_H} : Mt L xs 42 [.int v] H (some (.int (nI (sdV v)))) H 0 0 := by
  show Ev L xs 42 (0, [.int v, ac_un], [], _, 0, 0) _
  unfold sdV
  (repeat refine ev_step rfl rfl ?_)
  refine ev_br (fun z => ?_) (fun z => ?_)
  · rw [if_pos (Or.inl z)]
    (repeat refine ev_step rfl rfl ?_)
    exact ev_r1 rfl
  · (repeat refine ev_step rfl rfl ?_)
    refine ev_br (fun z2 => ?_) (fun z2 => ?_)
    · rw [if_pos (Or.inr z2)]
      (repeat refine ev_step rfl rfl ?_)
      exact ev_r1 rfl
    · obtain ⟨j, hj, h4, rfl⟩ := sdV_or v z z2
      rw [if_neg (fun q => q.elim z z2), nI_clamp (by omega)]
      (repeat refine ev_step rfl rfl ?_)
      rw [rm_2 j hj]
      refine ev_br (fun z3 => ?_) (fun z3 => ?_)
      · rw [if_pos ((nI_eq (a := j % 2) (b := 0) (by omega) (by decide)).mp z3)]
        (repeat refine ev_step rfl rfl ?_)
        exact ev_r1 rfl
      · rw [if_neg (fun g => z3 (by rw [g]; rfl))]
        (repeat refine ev_step rfl rfl ?_)
        exact ev_r1 rfl
/-! the grid -/
def clI (y d : Nat) : Int32 := if d = 0 then 1 else if d = 3 then -1 else if d = 1 ∨ d = 5 then nI (y % 2) else nI (y % 2) - 1
def roI (d : Nat) : Int32 := if d = 0 ∨ d = 3 then 0 else if d < 3 then -1 else 1
def clN (x y d : Nat) : Nat := if d = 0 then x + 2 else if d = 3 then x else if d = 1 ∨ d = 5 then x + 1 + y % 2 else x + y % 2
def roN (y d : Nat) : Nat := if d = 0 ∨ d = 3 then y + 1 else if d < 3 then y else y + 2
theorem cl_eq : ∀ x, x < 16 → ∀ y, y < 16 → ∀ d, d < 6 → nI x + clI y d = nI (clN x y d) - 1 := by decide +kernel
theorem ro_eq : ∀ y, y < 16 → ∀ d, d < 6 → nI y + roI d = nI (roN y d) - 1 := by decide +kernel
theorem cl_col {w x y d : Nat} (hw : 4 ≤ w) (hx : x < w) : (clN x y d + w - 1) % w = colN w x (y % 2) d ∧ clN x y d < w + 2 := by
  have hp := Nat.mod_lt y (show 2 > 0 by decide)
  unfold clN colN
  by_cases h0 : d = 0
  · rw [if_pos h0, if_pos h0]
    exact ⟨by rw [show x + 2 + w - 1 = x + 1 + w by omega, Nat.add_mod_right], by omega⟩
  · rw [if_neg h0, if_neg h0]
    by_cases h3 : d = 3
    · rw [if_pos h3, if_pos h3]
      exact ⟨rfl, by omega⟩
    · rw [if_neg h3, if_neg h3]
      by_cases h1 : d = 1 ∨ d = 5
      · rw [if_pos h1, if_pos h1]
        exact ⟨by rw [show x + 1 + y % 2 + w - 1 = x + y % 2 + w by omega, Nat.add_mod_right], by omega⟩
      · rw [if_neg h1, if_neg h1]
        exact ⟨rfl, by omega⟩
theorem ro_row {q y d : Nat} (hq : 4 ≤ q) (hy : y < q) : (roN y d + q - 1) % q = rowN q y d ∧ roN y d < q + 2 := by
  unfold roN rowN
  by_cases h0 : d = 0 ∨ d = 3
  · rw [if_pos h0, if_pos h0]
    exact ⟨by rw [show y + 1 + q - 1 = y + q by omega, Nat.add_mod_right, Nat.mod_eq_of_lt hy], by omega⟩
  · rw [if_neg h0, if_neg h0]
    by_cases h3 : d < 3
    · rw [if_pos h3, if_pos h3]
      exact ⟨rfl, by omega⟩
    · rw [if_neg h3, if_neg h3]
      exact ⟨by rw [show y + 2 + q - 1 = y + 1 + q by omega, Nat.add_mod_right], by omega⟩
theorem mt_columnsOn {L : Nat} {xs : Nat → Int32} {y d : Nat} (hy : y < 16) (hd : d < 6) (H : ac_H) : Mt L xs 11 [.int (nI y), .int (nI d)] H (some (.int (clI y d))) H 0 0 := pu_mt (by decide) (tr_columnsOn y hy d hd) H
theorem mt_rowsOn {L : Nat} {xs : Nat → Int32} {d : Nat} (hd : d < 6) (H : ac_H) : Mt L xs 10 [.int (nI d)] H (some (.int (roI d))) H 0 0 := pu_mt (by decide) (tr_rowsOn d hd) H
theorem mt_floorMod {L : Nat} {xs : Nat → Int32} {a w : Nat} (ha : a < 18) (hw : w < 17) (h4 : 4 ≤ w) (H : ac_H) : Mt L xs 1 [.int (nI a - 1), .int (nI w)] H (some (.int (nI ((a + w - 1) % w)))) H 0 0 := pu_mt (by decide) (tr_floorMod a ha w hw h4) H
abbrev nbF (w q : Nat) : Nat → Int32 := fun j => nI (nbC w q (j / 6) (j % 6))
abbrev GR (g0 : ac_C) (w q j : Nat) : ac_H := g0 :: .inr (2, [.int (nI w), .int (nI q), .int (nI (w * q)), .ref 2]) :: Ar (w * q * 6) (pre j (nbF w q) (fun _ => 0)) :: []
theorem nI_mul (a b : Nat) : nI a * nI b = nI (a * b) := (Int32.ofNat_mul a b).symm
theorem grid_d {L : Nat} {xs : Nat → Int32} {g0 : ac_C} {w q x y c0 k0 : Nat} {R : ac_R} (hw : sideOk w) (hq : sideOk q) (hx : x < w) (hy : y < q) (kk : ∀ u1 u2, Ev L xs 9 (118, [.ref 1, .int (nI w), .int (nI q), .int (nI y), .int (nI x), .int (nI 6), u1, u2], [], GR g0 w q ((y * w + x) * 6 + 6), c0, k0) R) : ∀ (n d : Nat) (u1 u2 : Value), d + n = 6 → Ev L xs 9 (53, [.ref 1, .int (nI w), .int (nI q), .int (nI y), .int (nI x), .int (nI d), u1, u2], [], GR g0 w q ((y * w + x) * 6 + d), c0, k0) R := by
  have hn := side_n hw hq
  have hc := cell_lt hx hy
  have hw1 := hw.2.1
  have hq1 := hq.2.1
  intro n
  induction n with
  | zero =>
    intro d u1 u2 hd
    have e : d = 6 := by omega
    subst e
    iterate 3 (refine ev_step rfl rfl ?_)
    exact kk u1 u2
  | succ n ih =>
    intro d u1 u2 hd
    have ih1 := fun u1 u2 => ih (d + 1) u1 u2 (by omega)
    obtain ⟨a1, a2⟩ := cl_col (y := y) (d := d) hw.1 hx
    obtain ⟨b1, b2⟩ := ro_row (d := d) hq.1 hy
    (repeat refine ev_step rfl rfl ?_)
    refine ev_f (nI_ge (a := d) (b := 6) (by omega) (by decide)) ?_
    (repeat refine ev_step rfl rfl ?_)
    refine ev_i2 rfl rfl (Nat.le_of_ble_eq_true rfl) (Nat.le_of_ble_eq_true rfl) rfl (mt_columnsOn (show y < 16 by omega) (show d < 6 by omega) _) ?_
    iterate 1 (refine ev_step rfl rfl ?_)
    rw [cl_eq x (by omega) y (by omega) d (by omega)]
    (repeat refine ev_step rfl rfl ?_)
    refine ev_i2 rfl rfl (Nat.le_of_ble_eq_true rfl) (Nat.le_of_ble_eq_true rfl) rfl (mt_floorMod (show clN x y d < 18 by omega) (show w < 17 by omega) hw.1 _) ?_
    (repeat refine ev_step rfl rfl ?_)
    refine ev_i1 rfl rfl (Nat.le_of_ble_eq_true rfl) (Nat.le_of_ble_eq_true rfl) rfl (mt_rowsOn (show d < 6 by omega) _) ?_
    iterate 1 (refine ev_step rfl rfl ?_)
    rw [ro_eq y (by omega) d (by omega)]
    (repeat refine ev_step rfl rfl ?_)
    refine ev_i2 rfl rfl (Nat.le_of_ble_eq_true rfl) (Nat.le_of_ble_eq_true rfl) rfl (mt_floorMod (show roN y d < 18 by omega) (show q < 17 by omega) hq.1 _) ?_
    (repeat refine ev_step rfl rfl ?_)
    rw [a1, b1, nI_mul, nI_add, nI_mul, nI_add, show nI (y * w + x) * 6 = nI ((y * w + x) * 6) from nI_mul (y * w + x) 6, nI_add]
    refine ev_is rfl rfl ((y * w + x) * 6 + d) (rfl) (by omega) (by omega) rfl ?_
    iterate 2 (refine ev_step rfl rfl ?_)
    rw [nI_1]
    have e1 : nI (rowN q y d * w + colN w x (y % 2) d) = nbF w q ((y * w + x) * 6 + d) := by
      unfold nbF nbC
      rw [show ((y * w + x) * 6 + d) / 6 = y * w + x by omega, show ((y * w + x) * 6 + d) % 6 = d by omega, Nat.mod_eq_of_lt (show d < 6 by omega)]
      rw [show (y * w + x) / w = y by rw [Nat.add_comm, Nat.add_mul_div_right _ _ (by omega), Nat.div_eq_of_lt hx, Nat.zero_add], show (y * w + x) % w = x by rw [Nat.add_comm, Nat.add_mul_mod_self_right, Nat.mod_eq_of_lt hx]]
    rw [e1, pre_put]
    exact ih1 _ _
theorem grid_x {L : Nat} {xs : Nat → Int32} {g0 : ac_C} {w q y c0 k0 : Nat} {R : ac_R} (hw : sideOk w) (hq : sideOk q) (hy : y < q) (kk : ∀ u0 u1 u2, Ev L xs 9 (124, [.ref 1, .int (nI w), .int (nI q), .int (nI y), .int (nI w), u0, u1, u2], [], GR g0 w q ((y * w + w) * 6), c0, k0) R) : ∀ (n x : Nat) (u0 u1 u2 : Value), x + n = w → Ev L xs 9 (44, [.ref 1, .int (nI w), .int (nI q), .int (nI y), .int (nI x), u0, u1, u2], [], GR g0 w q ((y * w + x) * 6), c0, k0) R := by
  have hn := side_n hw hq
  have hw1 := hw.2.1
  intro n
  induction n with
  | zero =>
    intro x u0 u1 u2 hx
    have e : x = w := by omega
    rw [e]
    (repeat refine ev_step rfl rfl ?_)
    refine ev_t (nI_le (Nat.le_refl w) (by omega)) ?_
    exact kk u0 u1 u2
  | succ n ih =>
    intro x u0 u1 u2 hx
    have ih1 := fun u0 u1 u2 => ih (x + 1) u0 u1 u2 (by omega)
    (repeat refine ev_step rfl rfl ?_)
    refine ev_f (nI_ge (a := x) (b := w) (by omega) (by omega)) ?_
    iterate 2 (refine ev_step rfl rfl ?_)
    refine grid_d hw hq (by omega) hy (fun v1 v2 => ?_) 6 0 _ _ rfl
    iterate 2 (refine ev_step rfl rfl ?_)
    rw [nI_1, show (y * w + x) * 6 + 6 = (y * w + (x + 1)) * 6 by omega]
    exact ih1 _ _ _
theorem grid_y {L : Nat} {xs : Nat → Int32} {g0 : ac_C} {w q c0 k0 : Nat} (hw : sideOk w) (hq : sideOk q) : ∀ (n y : Nat) (u u0 u1 u2 : Value), y + n = q → Ev L xs 9 (36, [.ref 1, .int (nI w), .int (nI q), .int (nI y), u, u0, u1, u2], [], GR g0 w q (y * w * 6), c0, k0) (.inl none, GR g0 w q (q * w * 6), c0, k0) := by
  have hn := side_n hw hq
  have hq1 := hq.2.1
  intro n
  induction n with
  | zero =>
    intro y u u0 u1 u2 hy
    have e : y = q := by omega
    rw [e]
    (repeat refine ev_step rfl rfl ?_)
    refine ev_t (nI_le (Nat.le_refl q) (by omega)) ?_
    exact ev_r0 rfl
  | succ n ih =>
    intro y u u0 u1 u2 hy
    have ih1 := fun u u0 u1 u2 => ih (y + 1) u u0 u1 u2 (by omega)
    (repeat refine ev_step rfl rfl ?_)
    refine ev_f (nI_ge (a := y) (b := q) (by omega) (by omega)) ?_
    iterate 2 (refine ev_step rfl rfl ?_)
    refine grid_x hw hq (by omega) (fun v0 v1 v2 => ?_) w 0 _ _ _ (Nat.zero_add _)
    iterate 2 (refine ev_step rfl rfl ?_)
    rw [nI_1, show y * w + w = (y + 1) * w by rw [Nat.succ_mul]]
    exact ih1 _ _ _ _
theorem mt_grid {L : Nat} {xs : Nat → Int32} {g0 : ac_C} {w q : Nat} (hw : sideOk w) (hq : sideOk q) : Mt L xs 9 [.ref 1, .int (nI w), .int (nI q)] (g0 :: .inr (2, [.int 0, .int 0, .int 0, .null]) :: []) none (g0 :: .inr (2, [.int (nI w), .int (nI q), .int (nI (w * q)), .ref 2]) :: Ar (w * q * 6) (nbT w q) :: []) 1 (w * q * 6) := by
  have hn := side_n hw hq
  show Ev L xs 9 (0, [.ref 1, .int (nI w), .int (nI q), ac_un, ac_un, ac_un, ac_un, ac_un], [], _, 0, 0) _
  (repeat refine ev_step rfl rfl ?_)
  rw [nI_mul]
  refine ev_ni rfl (w * q * 6) (nI_mul (w * q) 6) (by omega) ?_
  iterate 3 (refine ev_step rfl rfl ?_)
  have h := grid_y (L := L) (xs := xs) (g0 := g0) (c0 := 1) (k0 := w * q * 6) hw hq q 0 ac_un ac_un ac_un ac_un (Nat.zero_add _)
  rw [Nat.mul_comm q w, Nat.zero_mul, Nat.zero_mul] at h
  dsimp only [GR] at h
  rw [pre_0] at h
  rw [Nat.zero_add, Nat.zero_add]
  exact h
theorem mt_books {L : Nat} {xs : Nat → Int32} {g0 g1 g2 g3 g4 : ac_C} : Mt L xs 7 [.ref 5] [g0, g1, g2, g3, g4, .inr (1, [.null])] none [g0, g1, g2, g3, g4, .inr (1, [.ref 6]), Ar 12 (fun _ => 0)] 1 12 := by
  show Ev L xs 7 (0, [.ref 5], [], _, 0, 0) _
  iterate 4 (refine ev_step rfl rfl ?_)
  refine ev_ni rfl 12 rfl (by decide) ?_
  (repeat refine ev_step rfl rfl ?_)
  exact ev_r0 rfl
theorem mt_acct {L : Nat} {xs : Nat → Int32} {g0 g1 g2 g3 g4 g5 g6 : ac_C} : Mt L xs 3 [.ref 7] [g0, g1, g2, g3, g4, g5, g6, .inr (0, [.int 0, .int 0, .int 0, .int 0])] none [g0, g1, g2, g3, g4, g5, g6, .inr (0, [.int 100, .int 0, .int 0, .int 0])] 0 0 := by
  show Ev L xs 3 (0, [.ref 7], [], _, 0, 0) _
  (repeat refine ev_step rfl rfl ?_)
  exact ev_r0 rfl
theorem mt_marksI {L : Nat} {xs : Nat → Int32} {g0 g1 g2 g3 g4 g5 g6 g7 : ac_C} : Mt L xs 15 [.ref 8] [g0, g1, g2, g3, g4, g5, g6, g7, .inr (3, [.null, .null, .int 0])] none [g0, g1, g2, g3, g4, g5, g6, g7, .inr (3, [.ref 9, .ref 10, .int (nI 0)]), Ar 4 (fun _ => 0), Ar 4 (fun _ => 0)] 2 8 := by
  show Ev L xs 15 (0, [.ref 8], [], _, 0, 0) _
  iterate 4 (refine ev_step rfl rfl ?_)
  refine ev_ni rfl 4 rfl (by decide) ?_
  iterate 3 (refine ev_step rfl rfl ?_)
  refine ev_ni rfl 4 rfl (by decide) ?_
  (repeat refine ev_step rfl rfl ?_)
  exact ev_r0 rfl
/-- a new gas -/
def nwS (a b : Int32) : GS := (sdV a, sdV b, fun _ => 0, fun _ => 0, fun _ => 0, 100, 0, 0, 0, 0, fun _ => 0, fun _ => 0, fun _ => 0, 0, 0)
theorem inv_nw (a b : Int32) : Inv (nwS a b) := ⟨sdV_ok a, sdV_ok b, fun _ _ => ⟨0, by decide, rfl⟩, fun _ _ => rfl, fun _ _ => ⟨0, by decide, rfl⟩, Nat.zero_le 4, fun j hj => absurd hj (Nat.not_lt_zero j), fun j hj => absurd hj (Nat.not_lt_zero j)⟩
theorem ev_cnt {L : Nat} {xs : Nat → Int32} {y : Nat} {σ : ac_S} {r : Option Value ⊕ Nat} {h' : ac_H} {c1 k1 c2 k2 : Nat} (h : Ev L xs y σ (r, h', c1, k1)) (hc : c1 = c2) (hk : k1 = k2) : Ev L xs y σ (r, h', c2, k2) := by
  subst hc; subst hk; exact h
theorem mt_gas {L : Nat} {xs : Nat → Int32} {a b : Int32} {w q : Nat} (hw : sideOk w) (hq : sideOk q) (ea : sdV a = w) (eb : sdV b = q) : Mt L xs 23 [.ref 0, .int a, .int b] [.inr (4, [.null, .null, .null, .null, .null, .null, .null, .null, .null, .null, .int 0, .int 0])] none (GH w q (nbT w q) (fun _ => 0) (fun _ => 0) (fun _ => 0) 100 0 0 0 0 (fun _ => 0) (fun _ => 0) (fun _ => 0) (fun _ => 0) false (fun _ => 0) (fun _ => 0) 0 0 []) 14 (w * q * 6 + 6 * (w * q) + 32) := by
  have hn := side_n hw hq
  show Ev L xs 23 (0, [.ref 0, .int a, .int b], [], _, 0, 0) _
  apply ev_cnt
  case h =>
    (repeat refine ev_step rfl rfl ?_)
    refine ev_i1 rfl rfl (Nat.le_of_ble_eq_true rfl) (Nat.le_of_ble_eq_true rfl) rfl (mt_sideOf) ?_
    (repeat refine ev_step rfl rfl ?_)
    refine ev_i1 rfl rfl (Nat.le_of_ble_eq_true rfl) (Nat.le_of_ble_eq_true rfl) rfl (mt_sideOf) ?_
    rw [ea, eb]
    refine ev_v3 rfl rfl (Nat.le_of_ble_eq_true rfl) (Nat.le_of_ble_eq_true rfl) rfl (mt_grid hw hq) ?_
    (repeat refine ev_step rfl rfl ?_)
    refine ev_ni rfl (w * q) rfl (by omega) ?_
    (repeat refine ev_step rfl rfl ?_)
    refine ev_ni rfl (w * q) rfl (by omega) ?_
    (repeat refine ev_step rfl rfl ?_)
    refine ev_v1 rfl rfl (Nat.le_of_ble_eq_true rfl) (Nat.le_of_ble_eq_true rfl) rfl (mt_books) ?_
    (repeat refine ev_step rfl rfl ?_)
    refine ev_v1 rfl rfl (Nat.le_of_ble_eq_true rfl) (Nat.le_of_ble_eq_true rfl) rfl (mt_acct) ?_
    (repeat refine ev_step rfl rfl ?_)
    refine ev_v1 rfl rfl (Nat.le_of_ble_eq_true rfl) (Nat.le_of_ble_eq_true rfl) rfl (mt_marksI) ?_
    (repeat refine ev_step rfl rfl ?_)
    refine ev_ni rfl (w * q) rfl (by omega) ?_
    (repeat refine ev_step rfl rfl ?_)
    refine ev_ni rfl (w * q) rfl (by omega) ?_
    (repeat refine ev_step rfl rfl ?_)
    refine ev_ni rfl (w * q) rfl (by omega) ?_
    (repeat refine ev_step rfl rfl ?_)
    refine ev_ni rfl (w * q) rfl (by omega) ?_
    (repeat refine ev_step rfl rfl ?_)
    exact ev_r0 rfl
  case hc => rfl
  case hk =>
    simp only [List.length_cons, List.length_nil]
    omega
