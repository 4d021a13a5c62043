/-! ===== the plain form: sources, all edges ===== -/
theorem sh_eq (s : Int32) : s >>> ((16 : Int32) &&& 31) &&& 255 = ac_ush s 16 &&& 255 := by
  apply Int32.toBitVec_inj.mp
  unfold ac_ush
  rw [Int32.toBitVec_and, Int32.toBitVec_and, Int32.toBitVec_shiftRight]
  have e1 : (((16 : Int32) &&& 31).toBitVec.smod 32) = 16#32 := by decide
  have e2 : ((s.toUInt32 >>> ((16 : Int32).toUInt32 &&& Int32.toUInt32 31)).toInt32).toBitVec = s.toBitVec >>> (16 : Nat) := by
    show s.toUInt32.toBitVec >>> _ = _
    rfl
  rw [e1, e2]
  have e3 : (255 : Int32).toBitVec = 255#32 := by decide
  rw [e3]
  show s.toBitVec.sshiftRight 16 &&& 255#32 = _
  apply BitVec.eq_of_getLsbD_eq
  intro i hi
  rw [BitVec.getLsbD_and, BitVec.getLsbD_and, BitVec.getLsbD_ushiftRight, BitVec.getLsbD_sshiftRight]
  by_cases h : i < 8
  · have h2 : ¬ 32 ≤ i := by omega
    have h3 : 16 + i < 32 := by omega
    simp [h2, h3]
  · have h4 : (255#32).getLsbD i = false := by
      show Nat.testBit 255 i = false
      exact Nat.testBit_lt_two_pow (Nat.lt_of_lt_of_le (by decide : 255 < 2 ^ 8) (Nat.pow_le_pow_right (by decide) (by omega)))
    rw [h4, Bool.and_false, Bool.and_false]
theorem or_same : ∀ b, b < 128 → ∀ k, k < 7 → b.testBit k = true → b ||| 2 ^ k = b := by decide +kernel
theorem i_as (x y z : Int32) : x - z + 1 * y = x + y - z := by
  rw [Int32.one_mul, Int32.sub_eq_add_neg, Int32.sub_eq_add_neg, Int32.add_assoc, Int32.add_assoc, Int32.add_comm (-z) y]
theorem pour_it {L : Nat} {xs : Nat → Int32} {g0 g1 g2 g3 g4 g5 g6 g7 g8 g9 g10 g11 g12 g13 g14 : ac_C} {th : Int32} {w q : Nat} {tm : Int32} {bi ed ra fr ah bk : Nat → Int32} {wt gp gq mv : Int32} {cn : Nat} {mc mk : Nat → Int32} {rest : ac_H} {c β : Nat} (hc : c < 256) : ∀ (n k b : Nat) (sd : Int32), k + n = 7 → b < 128 → Ev L xs 97 (2, [.ref 15, .int (nI c), .int (nI k)], [], (MH g0 g1 g2 g3 g4 g5 g6 g7 g8 g9 g10 g11 g12 g13 g14 th w q tm sd (upd bi c (nI b)) ed ra fr ah (bkD bk 1 (fun f => amI b f - amI β f)) wt gp gq mv cn mc mk rest), 0, 0) (.inl none, (MH g0 g1 g2 g3 g4 g5 g6 g7 g8 g9 g10 g11 g12 g13 g14 th w q tm (sdI n sd) (upd bi c (nI (fdN (ra c) n k b sd))) ed ra fr ah (bkD bk 1 (fun f => amI (fdN (ra c) n k b sd) f - amI β f)) wt gp gq mv cn mc mk rest), 0, 0) := by
  intro n
  induction n with
  | zero =>
    intro k b sd hk hb
    have e : k = 7 := by omega
    subst e
    (repeat refine ev_step rfl rfl ?_)
    exact ev_r0 rfl
  | succ n ih =>
    intro k b sd hk hb
    have ih1 := ih (k + 1)
    have eb : upd bi c (nI b) c = nI b := if_pos rfl
    rw [fdN_s, sdI_s]
    iterate 3 (refine ev_step rfl rfl ?_)
    refine ev_f (nI_ge (a := k) (b := 7) (by omega) (by decide)) ?_
    (repeat refine ev_step rfl rfl ?_)
    refine ev_ia rfl rfl (c) (rfl) (hc) (by omega) ?_
    rw [sh_eq]
    iterate 1 (refine ev_step rfl rfl ?_)
    refine ev_br (fun z => ?_) (fun z => ?_)
    · rw [show fd1 (ra c) (sdN sd) k b = b from if_pos z]
      iterate 2 (refine ev_step rfl rfl ?_)
      rw [nI_1]
      exact ih1 b (sdN sd) (by omega) hb
    · rw [show fd1 (ra c) (sdN sd) k b = b ||| 2 ^ k from if_neg z]
      (repeat refine ev_step rfl rfl ?_)
      refine ev_ia rfl rfl (c) (rfl) (hc) (by omega) ?_
      rw [eb]
      (repeat refine ev_step rfl rfl ?_)
      refine ev_i2 rfl rfl (Nat.le_of_ble_eq_true rfl) (Nat.le_of_ble_eq_true rfl) rfl (mt_has hb (show k < 7 by omega) _) ?_
      cases hbit : b.testBit k with
      | true =>
        rw [or_same b hb k (by omega) hbit]
        iterate 3 (refine ev_step rfl rfl ?_)
        rw [nI_1]
        exact ih1 b (sdN sd) (by omega) hb
      | false =>
        (repeat refine ev_step rfl rfl ?_)
        refine ev_ia rfl rfl (c) (rfl) (hc) (by omega) ?_
        rw [eb]
        (repeat refine ev_step rfl rfl ?_)
        rw [or_bit b hb k (by omega)]
        refine ev_is rfl rfl (c) (rfl) (hc) (by omega) rfl ?_
        have e2 : upd (upd bi c (nI b)) c (nI (b ||| 2 ^ k)) = upd bi c (nI (b ||| 2 ^ k)) := by
          funext j
          unfold upd
          split <;> rfl
        rw [e2]
        (repeat refine ev_step rfl rfl ?_)
        refine ev_v4 rfl rfl (Nat.le_of_ble_eq_true rfl) (Nat.le_of_ble_eq_true rfl) rfl (mm_note (s := 2) (by decide) (by decide) (show k < 7 by omega)) ?_
        iterate 2 (refine ev_step rfl rfl ?_)
        rw [nI_1, bkD_add, bkD_congr (e := fun f => amI (b ||| 2 ^ k) f - amI β f) (fun f hf => by rw [am_or b hb k (by omega) f hf hbit, i_as])]
        exact ih1 (b ||| 2 ^ k) (sdN sd) (by omega) (or_lt hb (by omega))
theorem mm_pour {L : Nat} {xs : Nat → Int32} {g0 g1 g2 g3 g4 g5 g6 g7 g8 g9 g10 g11 g12 g13 g14 : ac_C} {th : Int32} {w q : Nat} {tm sd : Int32} {bi ed ra fr ah bk : Nat → Int32} {wt gp gq mv : Int32} {cn : Nat} {mc mk : Nat → Int32} {rest : ac_H} {c β : Nat} (hc : c < 256) (hβ : β < 128) (hb : bi c = nI β) : Mt L xs 97 [.ref 15, .int (nI c)] (MH g0 g1 g2 g3 g4 g5 g6 g7 g8 g9 g10 g11 g12 g13 g14 th w q tm sd bi ed ra fr ah bk wt gp gq mv cn mc mk rest) none (MH g0 g1 g2 g3 g4 g5 g6 g7 g8 g9 g10 g11 g12 g13 g14 th w q tm (sdI 7 sd) (upd bi c (nI (fdN (ra c) 7 0 β sd))) ed ra fr ah (bkF bk 1 (fdN (ra c) 7 0 β sd) β) wt gp gq mv cn mc mk rest) 0 0 := by
  have h := pour_it (L := L) (xs := xs) (g0 := g0) (g1 := g1) (g2 := g2) (g3 := g3) (g4 := g4) (g5 := g5) (g6 := g6) (g7 := g7) (g8 := g8) (g9 := g9) (g10 := g10) (g11 := g11) (g12 := g12) (g13 := g13) (g14 := g14) (th := th) (w := w) (q := q) (tm := tm) (bi := bi) (ed := ed) (ra := ra) (fr := fr) (ah := ah) (bk := bk) (wt := wt) (gp := gp) (gq := gq) (mv := mv) (cn := cn) (mc := mc) (mk := mk) (rest := rest) (β := β) hc 7 0 β sd rfl hβ
  have e1 : upd bi c (nI β) = bi := by rw [← hb, upd_self]
  have e2 : bkD bk 1 (fun f => amI β f - amI β f) = bk := by
    rw [bkD_congr (e := fun _ => 0) (fun f _ => Int32.sub_self _), bkD_0]
  rw [e1, e2] at h
  show Ev L xs 97 (0, [.ref 15, .int (nI c), ac_un], [], _, 0, 0) _
  iterate 2 (refine ev_step rfl rfl ?_)
  exact h
/-! one cell after the other -/
theorem pre_all {cn : Nat} {f g h : Nat → Int32} (h1 : ∀ j, j < cn → f j = h j) (h2 : ∀ j, ¬ j < cn → g j = h j) : pre cn f g = h := by
  funext j
  unfold pre
  split
  · exact h1 j (by assumption)
  · exact h2 j (by assumption)
