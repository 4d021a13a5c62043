/-! ===== the plain form: meeting and flight ===== -/
theorem nI_xm (x w : Nat) (hw : 0 < w) : nI x - 1 + nI w = nI (x + w - 1) := by
  have e : nI (x + w) - 1 = nI (x + w - 1) := by
    conv => lhs; rw [show x + w = x + w - 1 + 1 by omega]
    exact nI_pred _
  rw [← e, ← nI_add, Int32.sub_eq_add_neg, Int32.sub_eq_add_neg, Int32.add_assoc, Int32.add_assoc, Int32.add_comm (-1) (nI w)]
theorem nb_end {L : Nat} {xs : Nat → Int32} {g0 g1 g2 g3 g4 g5 g6 g7 g8 g9 g10 g11 g12 g13 g14 : ac_C} {th : Int32} {w q : Nat} {tm sd : Int32} {bi ed ra fr ah bk : Nat → Int32} {wt gp gq mv : Int32} {cn : Nat} {mc mk : Nat → Int32} {rest : ac_H} {X Y : Int32} {X' Y' : Nat} {u1 u2 u5 : Value} (hw : sideOk w) (hq : sideOk q) (hX : X + nI w = nI X') (hY : Y + nI q = nI Y') (hx : X' < 2 ^ 31) (hy : Y' < 2 ^ 31) : Ev L xs 89 (121, [.ref 15, u1, u2, .int X, .int Y, u5], [.int (nI q), .int (Y + nI q)], (MH g0 g1 g2 g3 g4 g5 g6 g7 g8 g9 g10 g11 g12 g13 g14 th w q tm sd bi ed ra fr ah bk wt gp gq mv cn mc mk rest), 0, 0) (.inl (some (.int (nI (Y' % q * w + X' % w)))), (MH g0 g1 g2 g3 g4 g5 g6 g7 g8 g9 g10 g11 g12 g13 g14 th w q tm sd bi ed ra fr ah bk wt gp gq mv cn mc mk rest), 0, 0) := by
  have h1 := hw.2.1
  have h2 := hq.2.1
  have h3 := hw.1
  have h4 := hq.1
  rw [hY]
  refine ev_rem rfl (nI_ne0 (by omega) (by omega)) ?_
  refine ev_tp (pk_rem hy (by omega) (by omega)) ?_
  (repeat refine ev_step rfl rfl ?_)
  rw [hX]
  refine ev_rem rfl (nI_ne0 (by omega) (by omega)) ?_
  refine ev_tp (pk_rem hx (by omega) (by omega)) ?_
  (repeat refine ev_step rfl rfl ?_)
  rw [nI_mul, nI_add]
  exact ev_r1 rfl
theorem mm_neighbour {L : Nat} {xs : Nat → Int32} {g0 g1 g2 g3 g4 g5 g6 g7 g8 g9 g10 g11 g12 g13 g14 : ac_C} {th : Int32} {w q : Nat} {tm sd : Int32} {bi ed ra fr ah bk : Nat → Int32} {wt gp gq mv : Int32} {cn : Nat} {mc mk : Nat → Int32} {rest : ac_H} {c k : Nat} (hw : sideOk w) (hq : sideOk q) (hc : c < w * q) (hk : k < 7) : Mt L xs 89 [.ref 15, .int (nI c), .int (nI k)] (MH g0 g1 g2 g3 g4 g5 g6 g7 g8 g9 g10 g11 g12 g13 g14 th w q tm sd bi ed ra fr ah bk wt gp gq mv cn mc mk rest) (some (.int (nI (dsN w q 0 c k)))) (MH g0 g1 g2 g3 g4 g5 g6 g7 g8 g9 g10 g11 g12 g13 g14 th w q tm sd bi ed ra fr ah bk wt gp gq mv cn mc mk rest) 0 0 := by
  have hn := side_n hw hq
  have h1 := hw.2.1
  have h2 := hq.2.1
  have h3 := hw.1
  have h4 := hq.1
  obtain ⟨c1, c2, c3⟩ := cell_xy hc
  have e1 : rowN q (c / w) 0 = c / w := rfl
  have eq0 : (c / w + q) % q = c / w := by rw [Nat.add_mod_right, Nat.mod_eq_of_lt c3]
  show Ev L xs 89 (0, [.ref 15, .int (nI c), .int (nI k), ac_un, ac_un, ac_un], [], _, 0, 0) _
  (repeat refine ev_step rfl rfl ?_)
  refine ev_rem rfl (nI_ne0 (by omega) (by omega)) ?_
  refine ev_tp (pk_rem (by omega) (by omega) (by omega)) ?_
  (repeat refine ev_step rfl rfl ?_)
  refine ev_div rfl (nI_ne0 (by omega) (by omega)) ?_
  refine ev_tp (pk_div (by omega) (by omega) (by omega)) ?_
  iterate 3 (refine ev_step rfl rfl ?_)
  refine ev_rem rfl (by decide) ?_
  rw [rm_2 (c / w) (by omega)]
  have hk' : k = 0 ∨ k = 1 ∨ k = 2 ∨ k = 3 ∨ k = 4 ∨ k = 5 ∨ k = 6 := by omega
  have p2 := Nat.mod_lt (c / w) (show 2 > 0 by decide)
  rcases hk' with rfl | rfl | rfl | rfl | rfl | rfl | rfl
  · have e : dsN w q 0 c 0 = (c / w + q) % q * w + (c % w + 1 + w) % w := by
      show c / w * w + (c % w + 1) % w = _
      rw [eq0, Nat.add_mod_right]
    rw [e]
    (repeat refine ev_step rfl rfl ?_)
    exact nb_end hw hq (by rw [nI_1, nI_add]) (by rw [nI_add]) (by omega) (by omega)
  · have e : dsN w q 0 c 1 = (c / w + q - 1) % q * w + (c % w + c / w % 2 + w) % w := by
      show (c / w + q - 1) % q * w + (c % w + c / w % 2) % w = _
      rw [Nat.add_mod_right]
    rw [e]
    (repeat refine ev_step rfl rfl ?_)
    exact nb_end hw hq (by rw [nI_add, nI_add]) (by rw [nI_xm _ _ (by omega)]) (by omega) (by omega)
  · have e : dsN w q 0 c 2 = (c / w + q - 1) % q * w + (c % w + c / w % 2 + w - 1) % w := by
      show (c / w + q - 1) % q * w + (c % w + c / w % 2 + w - 1) % w = _
      rfl
    rw [e]
    (repeat refine ev_step rfl rfl ?_)
    exact nb_end hw hq (by rw [nI_add, nI_xm _ _ (by omega)]) (by rw [nI_xm _ _ (by omega)]) (by omega) (by omega)
  · have e : dsN w q 0 c 3 = (c / w + q) % q * w + (c % w + w - 1) % w := by
      show c / w * w + (c % w + w - 1) % w = _
      rw [eq0]
    rw [e]
    (repeat refine ev_step rfl rfl ?_)
    exact nb_end hw hq (by rw [nI_xm _ _ (by omega)]) (by rw [nI_add]) (by omega) (by omega)
  · have e : dsN w q 0 c 4 = (c / w + 1 + q) % q * w + (c % w + c / w % 2 + w - 1) % w := by
      show (c / w + 1) % q * w + (c % w + c / w % 2 + w - 1) % w = _
      rw [Nat.add_mod_right (c / w + 1) q]
    rw [e]
    (repeat refine ev_step rfl rfl ?_)
    exact nb_end hw hq (by rw [nI_add, nI_xm _ _ (by omega)]) (by rw [nI_1, nI_add]) (by omega) (by omega)
  · have e : dsN w q 0 c 5 = (c / w + 1 + q) % q * w + (c % w + c / w % 2 + w) % w := by
      show (c / w + 1) % q * w + (c % w + c / w % 2) % w = _
      rw [Nat.add_mod_right (c / w + 1) q, Nat.add_mod_right]
    rw [e]
    (repeat refine ev_step rfl rfl ?_)
    exact nb_end hw hq (by rw [nI_add, nI_add]) (by rw [nI_1, nI_add]) (by omega) (by omega)
  · have e : dsN w q 0 c 6 = (c / w + q) % q * w + (c % w + w) % w := by
      rw [eq0, Nat.add_mod_right, Nat.mod_eq_of_lt c2, Nat.mul_comm]
      exact (Nat.div_add_mod c w).symm
    rw [e]
    (repeat refine ev_step rfl rfl ?_)
    exact nb_end hw hq (by rw [nI_add]) (by rw [nI_add]) (by omega) (by omega)
