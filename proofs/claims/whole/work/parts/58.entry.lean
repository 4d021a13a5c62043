/-! ===== the law: its beginning ===== -/
def clX (L : Nat) (xs : Nat → Int32) (j : Nat) : Int32 := if j < L then xs j else 0
theorem mt_cell {L : Nat} {xs : Nat → Int32} {j : Nat} {H : ac_H} (hj : j < 100) (hL : L < 2 ^ 31) : Mt L xs 112 [.float 9, .int (nI j)] H (some (.int (clX L xs j))) H 0 0 := by
  show Ev L xs 112 (0, [.float 9, .int (nI j)], [], _, 0, 0) _
  unfold clX
  iterate 3 (refine ev_step rfl rfl ?_)
  refine ev_step rfl rfl ?_
  by_cases h : j < L
  · rw [if_pos h]
    refine ev_f (nI_ge (a := j) (b := L) h hL) ?_
    iterate 2 (refine ev_step rfl rfl ?_)
    refine ev_xa rfl j rfl h hL ?_
    (repeat refine ev_step rfl rfl ?_)
    exact ev_r1 rfl
  · rw [if_neg h]
    refine ev_t (nI_le (a := L) (b := j) (by omega) (by omega)) ?_
    (repeat refine ev_step rfl rfl ?_)
    exact ev_r1 rfl
theorem ev_nl1 {L : Nat} {xs : Nat → Int32} {y pc nx : Nat} {ls st : List Value} {h : ac_H} {c k : Nat} {r : ac_R} (hT : ac_Tf L xs y pc = .inl (o_nl nx)) (kk : Ev L xs y (nx, ls, .ref h.length :: st, h ++ [AL (fun _ => 0)], c + 1, k + 1) r) : Ev L xs y (pc, ls, .int 1 :: st, h, c, k) r := ev_step hT rfl kk
theorem law_all {L : Nat} {xs : Nat → Int32} (hL : L < 2 ^ 31 - 6) : ∃ r, lwQ (26 + (L + 10)) (4500 + (L + 10)) r ∧ Ev L xs 129 (0, [.float 9, ac_un, ac_un, ac_un, ac_un, ac_un, ac_un], [], [], 0, 0) r := by
  have hL2 : L < 2 ^ 31 := by omega
  have hw := sdV_ok (clX L xs 0)
  have hq := sdV_ok (clX L xs 1)
  have hn := side_n hw hq
  obtain ⟨r, ⟨q1, q2, q3⟩, hE⟩ := law_loop (L := L) (xs := xs) hL (L + 12) 2 26 (12 + (sdV (clX L xs 0) * sdV (clX L xs 1) * 6 + 6 * (sdV (clX L xs 0) * sdV (clX L xs 1)) + 32) + 17 + 1302 + 1) (nwS (clX L xs 0) (clX L xs 1)) (GX (nwS (clX L xs 0) (clX L xs 1)) (fun _ => 0) (fun _ => 0) false (fun _ => 0) (MC (nwS (clX L xs 0) (clX L xs 1)) 0 (fun _ => 0) (fun _ => 0) (AL (fun _ => 0) :: []))) [] (by omega) (by omega) (inv_nw _ _) ⟨_, _, _, _, _, _, _, _, fun _ _ => rfl, fun _ _ => rfl, rfl⟩
  refine ⟨r, ⟨q1, by omega, by omega⟩, ?_⟩
  have h2 := hE ac_un ac_un
  clear hE
  (repeat refine ev_step rfl rfl ?_)
  refine ev_i2 rfl rfl (Nat.le_of_ble_eq_true rfl) (Nat.le_of_ble_eq_true rfl) rfl (mt_cell (j := 0) (by decide) hL2) ?_
  (repeat refine ev_step rfl rfl ?_)
  refine ev_i2 rfl rfl (Nat.le_of_ble_eq_true rfl) (Nat.le_of_ble_eq_true rfl) rfl (mt_cell (j := 1) (by decide) hL2) ?_
  refine ev_v3 rfl rfl (Nat.le_of_ble_eq_true rfl) (Nat.le_of_ble_eq_true rfl) rfl (mt_gas hw hq rfl rfl) ?_
  (repeat refine ev_step rfl rfl ?_)
  refine ev_i2 rfl rfl (Nat.le_of_ble_eq_true rfl) (Nat.le_of_ble_eq_true rfl) rfl (mt_cell (j := 0) (by decide) hL2) ?_
  (repeat refine ev_step rfl rfl ?_)
  refine ev_i2 rfl rfl (Nat.le_of_ble_eq_true rfl) (Nat.le_of_ble_eq_true rfl) rfl (mt_cell (j := 1) (by decide) hL2) ?_
  refine ev_v3 rfl rfl (Nat.le_of_ble_eq_true rfl) (Nat.le_of_ble_eq_true rfl) rfl (mm_ctor rfl rfl) ?_
  iterate 2 (refine ev_step rfl rfl ?_)
  refine ev_nl1 rfl ?_
  iterate 3 (refine ev_step rfl rfl ?_)
  exact h2
