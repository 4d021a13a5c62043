/-! ===== the law: its beginning ===== -/
def clX (L : Nat) (xs : Nat → Int32) (j : Nat) : Int32 := if j < L then xs j else 0
theorem mt_cell {L : Nat} {xs : Nat → Int32} {j : Nat} {H : ac_H} (hj : j < 100) (hL : L < 2 ^ 31) : Mt L xs 112 [.float 9, .int (nI j)] H (some (.int (clX L xs j))) H 0 0 := by
  show Ev L xs 112 (0, [.float 9, .int (nI j)], [], _, 0, 0) _
  unfold clX
  iterate 3 (refine ev_step rfl rfl ?_)
  refine ev_step rfl rfl ?_
  by_cases h : j < L
  · rw [if_pos h]
    refine ev_f (nI_ge (a := j) (b := L) h hL) ?_
    iterate 2 (refine ev_step rfl rfl ?_)
    refine ev_xa rfl j rfl h hL ?_
    (repeat refine ev_step rfl rfl ?_)
    exact ev_r1 rfl
  · rw [if_neg h]
    refine ev_t (nI_le (a := L) (b := j) (by omega) (by omega)) ?_
    (repeat refine ev_step rfl rfl ?_)
    exact ev_r1 rfl
