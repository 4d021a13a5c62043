/-! ===== the grid, the books, the account: one call each ===== -/
abbrev Ar (n : Nat) (f : Nat → Int32) : ac_C := .inl (.int, n, .inl f)
theorem mt_columnOf {L : Nat} {xs : Nat → Int32} {w c : Nat} {g0 : ac_C} {f1 f2 f3 : Value} {rest : ac_H} (hw : 0 < w) (hw2 : w < 2 ^ 31) (hc : c < 2 ^ 31) : Mt L xs 12 [.ref 1, .int (nI c)] (g0 :: .inr (2, [.int (nI w), f1, f2, f3]) :: rest) (some (.int (nI (c % w)))) (g0 :: .inr (2, [.int (nI w), f1, f2, f3]) :: rest) 0 0 := by
  show Ev L xs 12 (0, [.ref 1, .int (nI c)], [], _, 0, 0) _
  (repeat refine ev_step rfl rfl ?_)
  refine ev_rem rfl (nI_ne0 hw hw2) ?_
  refine ev_tp (pk_rem hc hw hw2) ?_
  exact ev_r1 rfl
theorem mt_rowOf {L : Nat} {xs : Nat → Int32} {w c : Nat} {g0 : ac_C} {f1 f2 f3 : Value} {rest : ac_H} (hw : 0 < w) (hw2 : w < 2 ^ 31) (hc : c < 2 ^ 31) : Mt L xs 13 [.ref 1, .int (nI c)] (g0 :: .inr (2, [.int (nI w), f1, f2, f3]) :: rest) (some (.int (nI (c / w)))) (g0 :: .inr (2, [.int (nI w), f1, f2, f3]) :: rest) 0 0 := by
  show Ev L xs 13 (0, [.ref 1, .int (nI c)], [], _, 0, 0) _
  (repeat refine ev_step rfl rfl ?_)
  refine ev_div rfl (nI_ne0 hw hw2) ?_
  refine ev_tp (pk_div hc hw hw2) ?_
  exact ev_r1 rfl
theorem mt_neighbour {L : Nat} {xs : Nat → Int32} {n c d : Nat} {nb : Nat → Int32} {g0 : ac_C} {f0 f1 f2 : Value} {rest : ac_H} (hn : n ≤ 256) (hc : c < n) (hd : d < 100) : Mt L xs 14 [.ref 1, .int (nI c), .int (nI d)] (g0 :: .inr (2, [f0, f1, f2, .ref 2]) :: Ar (n * 6) nb :: rest) (some (.int (nb (c * 6 + d % 6)))) (g0 :: .inr (2, [f0, f1, f2, .ref 2]) :: Ar (n * 6) nb :: rest) 0 0 := by
  show Ev L xs 14 (0, [.ref 1, .int (nI c), .int (nI d)], [], _, 0, 0) _
  (repeat refine ev_step rfl rfl ?_)
  refine ev_ia rfl rfl (c * 6 + d % 6) (by rw [show ac_rm (nI d) 6 = nI (d % 6) from pk_rem (d := 6) (by omega) (by decide) (by decide), show nI c * 6 = nI (c * 6) from pk_mul c 6, nI_add]) (by omega) (by omega) ?_
  exact ev_r1 rfl
theorem ev_ta {L : Nat} {xs : Nat → Int32} {y pc nx : Nat} {ls st : List Value} {h : ac_H} {c k : Nat} {r : ac_R} {i : Int32} {t : UInt32} (hT : ac_Tf L xs y pc = .inl (o_ta ac_tab nx)) (tn : Nat) (ht : t.toNat = tn) (j : Nat) (hi : i = nI j) (hj : j < 6) (h4 : tn < 4) (kk : Ev L xs y (nx, ls, .int (ac_tab tn j) :: st, h, c, k) r) : Ev L xs y (pc, ls, .int i :: .float t :: st, h, c, k) r := by
  subst hi
  subst ht
  refine ev_step hT ?_ kk
  have hc := nI_clamp (n := j) (by omega)
  have hin : ac_in (nI j) 6 = true := by simp only [ac_in, hc, Bool.and_eq_true, decide_eq_true_eq]; exact ⟨nI_pos (by omega), hj⟩
  simp [o_ta, hin, hc, h4]
theorem mt_amount {L : Nat} {xs : Nat → Int32} {b f : Nat} (hb : b < 128) (hf : f < 3) (H : ac_H) : Mt L xs 48 [.int (nI b), .int (nI f)] H (some (.int (amI b f))) H 0 0 := pu_mt (by decide) (tr_amount b hb f hf) H
/-- one field of a book -/
theorem enter_it {L : Nat} {xs : Nat → Int32} {κ a b i : Nat} {bk : Nat → Int32} {g0 g1 g2 g3 g4 : ac_C} {rest : ac_H} {r : ac_R} (hκ : κ < 4) (ha : a < 128) (hb : b < 128) (hi : i < 3)
    (kk : Ev L xs 8 (3, [.ref 5, .int (nI κ), .int (nI b), .int (nI a), .int (nI (i + 1))], [], g0 :: g1 :: g2 :: g3 :: g4 :: .inr (1, [.ref 6]) :: Ar 12 (upd bk (κ * 3 + i) (bk (κ * 3 + i) + (amI a i - amI b i))) :: rest, 0, 0) r) :
    Ev L xs 8 (3, [.ref 5, .int (nI κ), .int (nI b), .int (nI a), .int (nI i)], [], g0 :: g1 :: g2 :: g3 :: g4 :: .inr (1, [.ref 6]) :: Ar 12 bk :: rest, 0, 0) r := by
  have e : nI κ * 3 + nI i = nI (κ * 3 + i) := by rw [show nI κ * 3 = nI (κ * 3) from pk_mul κ 3, nI_add]
  iterate 3 (refine ev_step rfl rfl ?_)
  refine ev_f (nI_ge hi (by decide)) ?_
  (repeat refine ev_step rfl rfl ?_)
  refine ev_ia rfl rfl (κ * 3 + i) (e) (by omega) (by decide) ?_
  (repeat refine ev_step rfl rfl ?_)
  refine ev_i2 rfl rfl (Nat.le_of_ble_eq_true rfl) (Nat.le_of_ble_eq_true rfl) rfl (mt_amount ha hi _) ?_
  (repeat refine ev_step rfl rfl ?_)
  refine ev_i2 rfl rfl (Nat.le_of_ble_eq_true rfl) (Nat.le_of_ble_eq_true rfl) rfl (mt_amount hb hi _) ?_
  (repeat refine ev_step rfl rfl ?_)
  refine ev_is rfl rfl (κ * 3 + i) (e) (by omega) (by decide) rfl ?_
  iterate 2 (refine ev_step rfl rfl ?_)
  rw [nI_1]
  exact kk
/-- what an edge of a sort gave: its book -/
def bkF (bk : Nat → Int32) (κ a b : Nat) : Nat → Int32 := fun j => if j / 3 = κ then bk j + (amI a (j % 3) - amI b (j % 3)) else bk j
theorem bkF_eq (bk : Nat → Int32) (κ a b : Nat) : upd (upd (upd bk (κ * 3 + 0) (bk (κ * 3 + 0) + (amI a 0 - amI b 0))) (κ * 3 + 1) (upd bk (κ * 3 + 0) (bk (κ * 3 + 0) + (amI a 0 - amI b 0)) (κ * 3 + 1) + (amI a 1 - amI b 1))) (κ * 3 + 2) (upd (upd bk (κ * 3 + 0) (bk (κ * 3 + 0) + (amI a 0 - amI b 0))) (κ * 3 + 1) (upd bk (κ * 3 + 0) (bk (κ * 3 + 0) + (amI a 0 - amI b 0)) (κ * 3 + 1) + (amI a 1 - amI b 1)) (κ * 3 + 2) + (amI a 2 - amI b 2)) = bkF bk κ a b := by
  funext j
  by_cases h2 : j = κ * 3 + 2
  · subst h2
    simp [upd, bkF, show (κ * 3 + 2) / 3 = κ by omega, show (κ * 3 + 2) % 3 = 2 by omega]
  · by_cases h1 : j = κ * 3 + 1
    · subst h1
      simp [upd, bkF, show (κ * 3 + 1) / 3 = κ by omega, show (κ * 3 + 1) % 3 = 1 by omega]
    · by_cases h0 : j = κ * 3
      · subst h0
        simp [upd, bkF, show (κ * 3) / 3 = κ by omega, show (κ * 3) % 3 = 0 by omega]
      · have h3 : ¬ j / 3 = κ := by omega
        simp [upd, bkF, h2, h1, h0, h3]
theorem mt_enter {L : Nat} {xs : Nat → Int32} {κ a b : Nat} {bk : Nat → Int32} {g0 g1 g2 g3 g4 : ac_C} {rest : ac_H} (hκ : κ < 4) (ha : a < 128) (hb : b < 128) : Mt L xs 8 [.ref 5, .int (nI κ), .int (nI b), .int (nI a)] (g0 :: g1 :: g2 :: g3 :: g4 :: .inr (1, [.ref 6]) :: Ar 12 bk :: rest) none (g0 :: g1 :: g2 :: g3 :: g4 :: .inr (1, [.ref 6]) :: Ar 12 (bkF bk κ a b) :: rest) 0 0 := by
  show Ev L xs 8 (0, [.ref 5, .int (nI κ), .int (nI b), .int (nI a), ac_un], [], _, 0, 0) _
  iterate 2 (refine ev_step rfl rfl ?_)
  refine enter_it (i := 0) hκ ha hb (by decide) ?_
  refine enter_it (i := 1) hκ ha hb (by decide) ?_
  refine enter_it (i := 2) hκ ha hb (by decide) ?_
  rw [bkF_eq]
  iterate 3 (refine ev_step rfl rfl ?_)
  refine ev_t (by decide) ?_
  exact ev_r0 rfl
theorem mt_receive {L : Nat} {xs : Nat → Int32} {a b : Nat} {wt gp gq mv : Int32} {g0 g1 g2 g3 g4 g5 g6 : ac_C} {rest : ac_H} (ha : a < 128) (hb : b < 128) : Mt L xs 4 [.ref 7, .int (nI b), .int (nI a)] (g0 :: g1 :: g2 :: g3 :: g4 :: g5 :: g6 :: .inr (0, [.int wt, .int gp, .int gq, .int mv]) :: rest) none (g0 :: g1 :: g2 :: g3 :: g4 :: g5 :: g6 :: .inr (0, [.int wt, .int (gp - (amI a 1 - amI b 1)), .int (gq - (amI a 2 - amI b 2)), .int mv]) :: rest) 0 0 := by
  show Ev L xs 4 (0, [.ref 7, .int (nI b), .int (nI a)], [], _, 0, 0) _
  (repeat refine ev_step rfl rfl ?_)
  refine ev_i2 rfl rfl (Nat.le_of_ble_eq_true rfl) (Nat.le_of_ble_eq_true rfl) rfl (mt_amount ha (f := 1) (by decide) _) ?_
  (repeat refine ev_step rfl rfl ?_)
  refine ev_i2 rfl rfl (Nat.le_of_ble_eq_true rfl) (Nat.le_of_ble_eq_true rfl) rfl (mt_amount hb (f := 1) (by decide) _) ?_
  (repeat refine ev_step rfl rfl ?_)
  refine ev_i2 rfl rfl (Nat.le_of_ble_eq_true rfl) (Nat.le_of_ble_eq_true rfl) rfl (mt_amount ha (f := 2) (by decide) _) ?_
  (repeat refine ev_step rfl rfl ?_)
  refine ev_i2 rfl rfl (Nat.le_of_ble_eq_true rfl) (Nat.le_of_ble_eq_true rfl) rfl (mt_amount hb (f := 2) (by decide) _) ?_
  (repeat refine ev_step rfl rfl ?_)
  exact ev_r0 rfl
def hdF (wt gp gq : Int32) : Nat → Nat → Int32
  | 0, _ => -1
  | n + 1, d => if ac_tab 2 d * gp + ac_tab 3 d * gq < 2 * wt then hdF wt gp gq n (d + 1) else nI d
theorem heading_it {L : Nat} {xs : Nat → Int32} {wt gp gq mv : Int32} {g0 g1 g2 g3 g4 g5 g6 : ac_C} {rest : ac_H} : ∀ (n d : Nat), d + n = 6 → Ev L xs 5 (2, [.ref 7, .int (nI d)], [], g0 :: g1 :: g2 :: g3 :: g4 :: g5 :: g6 :: .inr (0, [.int wt, .int gp, .int gq, .int mv]) :: rest, 0, 0) (.inl (some (.int (hdF wt gp gq n d))), g0 :: g1 :: g2 :: g3 :: g4 :: g5 :: g6 :: .inr (0, [.int wt, .int gp, .int gq, .int mv]) :: rest, 0, 0) := by
  intro n
  induction n with
  | zero =>
    intro d hd
    iterate 3 (refine ev_step rfl rfl ?_)
    refine ev_t (nI_le (a := 6) (b := d) (by omega) (by omega)) ?_
    (repeat refine ev_step rfl rfl ?_)
    exact ev_r1 rfl
  | succ n ih =>
    intro d hd
    iterate 3 (refine ev_step rfl rfl ?_)
    refine ev_f (nI_ge (a := d) (b := 6) (by omega) (by decide)) ?_
    (repeat refine ev_step rfl rfl ?_)
    refine ev_ta rfl (2) rfl (d) (rfl) (by omega) (by decide) ?_
    (repeat refine ev_step rfl rfl ?_)
    refine ev_ta rfl (3) rfl (d) (rfl) (by omega) (by decide) ?_
    (repeat refine ev_step rfl rfl ?_)
    rw [hdF]
    refine ev_br (fun q => ?_) (fun q => ?_)
    · rw [if_pos q]
      iterate 2 (refine ev_step rfl rfl ?_)
      rw [nI_1]
      exact ih (d + 1) (by omega)
    · rw [if_neg q]
      (repeat refine ev_step rfl rfl ?_)
      exact ev_r1 rfl
theorem mt_heading {L : Nat} {xs : Nat → Int32} {wt gp gq mv : Int32} {g0 g1 g2 g3 g4 g5 g6 : ac_C} {rest : ac_H} : Mt L xs 5 [.ref 7] (g0 :: g1 :: g2 :: g3 :: g4 :: g5 :: g6 :: .inr (0, [.int wt, .int gp, .int gq, .int mv]) :: rest) (some (.int (hdF wt gp gq 6 0))) (g0 :: g1 :: g2 :: g3 :: g4 :: g5 :: g6 :: .inr (0, [.int wt, .int gp, .int gq, .int mv]) :: rest) 0 0 := by
  show Ev L xs 5 (0, [.ref 7, ac_un], [], _, 0, 0) _
  iterate 2 (refine ev_step rfl rfl ?_)
  exact heading_it 6 0 rfl
theorem mt_spend {L : Nat} {xs : Nat → Int32} {d : Nat} {wt gp gq mv : Int32} {g0 g1 g2 g3 g4 g5 g6 : ac_C} {rest : ac_H} (hd : d < 6) : Mt L xs 6 [.ref 7, .int (nI d)] (g0 :: g1 :: g2 :: g3 :: g4 :: g5 :: g6 :: .inr (0, [.int wt, .int gp, .int gq, .int mv]) :: rest) none (g0 :: g1 :: g2 :: g3 :: g4 :: g5 :: g6 :: .inr (0, [.int wt, .int (gp - wt * ac_tab 0 d), .int (gq - wt * ac_tab 1 d), .int (mv + 1)]) :: rest) 0 0 := by
  show Ev L xs 6 (0, [.ref 7, .int (nI d)], [], _, 0, 0) _
  (repeat refine ev_step rfl rfl ?_)
  refine ev_ta rfl (0) rfl (d) (rfl) (by omega) (by decide) ?_
  (repeat refine ev_step rfl rfl ?_)
  refine ev_ta rfl (1) rfl (d) (rfl) (by omega) (by decide) ?_
  (repeat refine ev_step rfl rfl ?_)
  exact ev_r0 rfl
