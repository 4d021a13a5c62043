/-! ===== the plain form: marks, its making ===== -/
theorem mmark_it {L : Nat} {xs : Nat → Int32} {g0 g1 g2 g3 g4 g5 g6 g7 g8 g9 g10 g11 g12 g13 g14 : ac_C} {th : Int32} {w q : Nat} {tm sd : Int32} {bi ed ra fr ah bk : Nat → Int32} {wt gp gq mv : Int32} {cn : Nat} {mc mk : Nat → Int32} {rest : ac_H} {R : ac_R} {a b : Nat} {k : Int32} (hcn : cn ≤ 4) : ∀ (n i : Nat), i + n = cn → (onF mc mk (nI (b * w + a)) k n i = 0 → ∀ u, Ev L xs 110 (119, [.ref 15, .int (nI a), .int (nI b), .int k, u], [], (MH g0 g1 g2 g3 g4 g5 g6 g7 g8 g9 g10 g11 g12 g13 g14 (0) w q tm sd bi ed ra fr ah bk wt gp gq mv cn mc mk rest), 0, 0) R) → (onF mc mk (nI (b * w + a)) k n i = 1 → ∀ u, Ev L xs 110 (119, [.ref 15, .int (nI a), .int (nI b), .int k, u], [], (MH g0 g1 g2 g3 g4 g5 g6 g7 g8 g9 g10 g11 g12 g13 g14 (4) w q tm sd bi ed ra fr ah bk wt gp gq mv cn mc mk rest), 0, 0) R) → Ev L xs 110 (59, [.ref 15, .int (nI a), .int (nI b), .int k, .int (nI i)], [], (MH g0 g1 g2 g3 g4 g5 g6 g7 g8 g9 g10 g11 g12 g13 g14 (0) w q tm sd bi ed ra fr ah bk wt gp gq mv cn mc mk rest), 0, 0) R := by
  intro n
  induction n with
  | zero =>
    intro i hi h0 h1
    have e : i = cn := by omega
    rw [e]
    (repeat refine ev_step rfl rfl ?_)
    refine ev_t (nI_le (Nat.le_refl _) (by omega)) ?_
    exact h0 rfl _
  | succ n ih =>
    intro i hi h0 h1
    rw [onF] at h0 h1
    (repeat refine ev_step rfl rfl ?_)
    refine ev_f (nI_ge (a := i) (b := cn) (by omega) (by omega)) ?_
    (repeat refine ev_step rfl rfl ?_)
    refine ev_ia rfl rfl (i) (rfl) (by omega) (by omega) ?_
    (repeat refine ev_step rfl rfl ?_)
    rw [nI_mulw]
    refine ev_br (fun z => ?_) (fun z => ?_)
    · (repeat refine ev_step rfl rfl ?_)
      refine ev_ia rfl rfl (i) (rfl) (by omega) (by omega) ?_
      iterate 2 (refine ev_step rfl rfl ?_)
      refine ev_br (fun z2 => ?_) (fun z2 => ?_)
      · rw [if_pos ⟨z, z2⟩] at h1
        have e1 : nI i + 1 = nI (i + 1) := nI_1 i
        iterate 5 (refine ev_step rfl rfl ?_)
        rw [e1]
        by_cases hl : i + 1 < cn
        · iterate 4 (refine ev_step rfl rfl ?_)
          refine ev_f (nI_ge (a := i + 1) (b := cn) hl (by omega)) ?_
          iterate 3 (refine ev_step rfl rfl ?_)
          exact h1 rfl _
        · iterate 4 (refine ev_step rfl rfl ?_)
          refine ev_t (nI_le (a := cn) (b := i + 1) (by omega) (by omega)) ?_
          exact h1 rfl _
      · rw [if_neg (fun q => z2 q.2)] at h0 h1
        iterate 4 (refine ev_step rfl rfl ?_)
        rw [nI_1]
        exact ih (i + 1) (by omega) h0 h1
    · rw [if_neg (fun q => z q.1)] at h0 h1
      iterate 4 (refine ev_step rfl rfl ?_)
      rw [nI_1]
      exact ih (i + 1) (by omega) h0 h1
theorem mm_mark1 {L : Nat} {xs : Nat → Int32} {g0 g1 g2 g3 g4 g5 g6 g7 g8 g9 g10 g11 g12 g13 g14 : ac_C} {th : Int32} {w q : Nat} {tm sd : Int32} {bi ed ra fr ah bk : Nat → Int32} {wt gp gq mv : Int32} {cn : Nat} {mc mk : Nat → Int32} {rest : ac_H} {x y v : Int32} (hcn : cn ≤ 4) (h : badXY w q x y) : Mt L xs 110 [.ref 15, .int x, .int y, .int v] (MH g0 g1 g2 g3 g4 g5 g6 g7 g8 g9 g10 g11 g12 g13 g14 th w q tm sd bi ed ra fr ah bk wt gp gq mv cn mc mk rest) (some (.int 0)) (MH g0 g1 g2 g3 g4 g5 g6 g7 g8 g9 g10 g11 g12 g13 g14 (1) w q tm sd bi ed ra fr ah bk wt gp gq mv cn mc mk rest) 0 0 := by
  show Ev L xs 110 (0, [.ref 15, .int x, .int y, .int v, ac_un], [], _, 0, 0) _
  (repeat refine ev_step rfl rfl ?_)
  refine ev_i3 rfl rfl (Nat.le_of_ble_eq_true rfl) (Nat.le_of_ble_eq_true rfl) rfl (mm_noCell h) ?_
  (repeat refine ev_step rfl rfl ?_)
  refine ev_br (fun _ => by (repeat refine ev_step rfl rfl ?_); exact ev_r1 rfl) (fun _ => by (repeat refine ev_step rfl rfl ?_); exact ev_r1 rfl)
theorem mm_mark2 {L : Nat} {xs : Nat → Int32} {g0 g1 g2 g3 g4 g5 g6 g7 g8 g9 g10 g11 g12 g13 g14 : ac_C} {th : Int32} {w q : Nat} {tm sd : Int32} {bi ed ra fr ah bk : Nat → Int32} {wt gp gq mv : Int32} {cn : Nat} {mc mk : Nat → Int32} {rest : ac_H} {a b : Nat} {v : Int32} (hw : sideOk w) (hq : sideOk q) (ha : a < w) (hb : b < q) (h : v < 0 ∨ ¬ v ≤ 6) : Mt L xs 110 [.ref 15, .int (nI a), .int (nI b), .int v] (MH g0 g1 g2 g3 g4 g5 g6 g7 g8 g9 g10 g11 g12 g13 g14 th w q tm sd bi ed ra fr ah bk wt gp gq mv cn mc mk rest) (some (.int 0)) (MH g0 g1 g2 g3 g4 g5 g6 g7 g8 g9 g10 g11 g12 g13 g14 (2) w q tm sd bi ed ra fr ah bk wt gp gq mv cn mc mk rest) 0 0 := by
  show Ev L xs 110 (0, [.ref 15, .int (nI a), .int (nI b), .int v, ac_un], [], _, 0, 0) _
  (repeat refine ev_step rfl rfl ?_)
  refine ev_i3 rfl rfl (Nat.le_of_ble_eq_true rfl) (Nat.le_of_ble_eq_true rfl) rfl (mm_isCell hw hq ha hb) ?_
  (repeat refine ev_step rfl rfl ?_)
  refine ev_br (fun _ => ?_) (fun h1 => ?_)
  · (repeat refine ev_step rfl rfl ?_)
    refine ev_br (fun _ => by (repeat refine ev_step rfl rfl ?_); exact ev_r1 rfl) (fun _ => by (repeat refine ev_step rfl rfl ?_); exact ev_r1 rfl)
  · (repeat refine ev_step rfl rfl ?_)
    refine ev_f (fun h2 => h.elim h1 (fun z => z h2)) ?_
    (repeat refine ev_step rfl rfl ?_)
    refine ev_br (fun _ => by (repeat refine ev_step rfl rfl ?_); exact ev_r1 rfl) (fun _ => by (repeat refine ev_step rfl rfl ?_); exact ev_r1 rfl)
theorem mm_mark3 {L : Nat} {xs : Nat → Int32} {g0 g1 g2 g3 g4 g5 g6 g7 g8 g9 g10 g11 g12 g13 g14 : ac_C} {th : Int32} {w q : Nat} {tm sd : Int32} {bi ed ra fr ah bk : Nat → Int32} {wt gp gq mv : Int32} {cn : Nat} {mc mk : Nat → Int32} {rest : ac_H} {a b k β : Nat} (hw : sideOk w) (hq : sideOk q) (ha : a < w) (hb : b < q) (hk : k < 7) (hβ : β < 128) (hbi : bi (b * w + a) = nI β) (hbit : β.testBit k = false) : Mt L xs 110 [.ref 15, .int (nI a), .int (nI b), .int (nI k)] (MH g0 g1 g2 g3 g4 g5 g6 g7 g8 g9 g10 g11 g12 g13 g14 th w q tm sd bi ed ra fr ah bk wt gp gq mv cn mc mk rest) (some (.int 0)) (MH g0 g1 g2 g3 g4 g5 g6 g7 g8 g9 g10 g11 g12 g13 g14 (3) w q tm sd bi ed ra fr ah bk wt gp gq mv cn mc mk rest) 0 0 := by
  have hn := side_n hw hq
  have hc := cell_lt ha hb
  show Ev L xs 110 (0, [.ref 15, .int (nI a), .int (nI b), .int (nI k), ac_un], [], _, 0, 0) _
  (repeat refine ev_step rfl rfl ?_)
  refine ev_i3 rfl rfl (Nat.le_of_ble_eq_true rfl) (Nat.le_of_ble_eq_true rfl) rfl (mm_isCell hw hq ha hb) ?_
  (repeat refine ev_step rfl rfl ?_)
  refine ev_f (nI_pos (by omega)) ?_
  (repeat refine ev_step rfl rfl ?_)
  refine ev_t (nI_le (a := k) (b := 6) (by omega) (by decide)) ?_
  (repeat refine ev_step rfl rfl ?_)
  rw [nI_mulw]
  refine ev_ia rfl rfl (b * w + a) (rfl) (by omega) (by omega) ?_
  rw [hbi]
  (repeat refine ev_step rfl rfl ?_)
  refine ev_i2 rfl rfl (Nat.le_of_ble_eq_true rfl) (Nat.le_of_ble_eq_true rfl) rfl (mt_has hβ hk _) ?_
  rw [hbit]
  (repeat refine ev_step rfl rfl ?_)
  refine ev_br (fun _ => by (repeat refine ev_step rfl rfl ?_); exact ev_r1 rfl) (fun _ => by (repeat refine ev_step rfl rfl ?_); exact ev_r1 rfl)
theorem mark_go {L : Nat} {xs : Nat → Int32} {g0 g1 g2 g3 g4 g5 g6 g7 g8 g9 g10 g11 g12 g13 g14 : ac_C} {th : Int32} {w q : Nat} {tm sd : Int32} {bi ed ra fr ah bk : Nat → Int32} {wt gp gq mv : Int32} {cn : Nat} {mc mk : Nat → Int32} {rest : ac_H} {R : ac_R} {a b k β : Nat} (hw : sideOk w) (hq : sideOk q) (ha : a < w) (hb : b < q) (hk : k < 7) (hβ : β < 128) (hbi : bi (b * w + a) = nI β) (hbit : β.testBit k = true) (kk : Ev L xs 110 (59, [.ref 15, .int (nI a), .int (nI b), .int (nI k), .int (nI 0)], [], (MH g0 g1 g2 g3 g4 g5 g6 g7 g8 g9 g10 g11 g12 g13 g14 (0) w q tm sd bi ed ra fr ah bk wt gp gq mv cn mc mk rest), 0, 0) R) : Ev L xs 110 (0, [.ref 15, .int (nI a), .int (nI b), .int (nI k), ac_un], [], (MH g0 g1 g2 g3 g4 g5 g6 g7 g8 g9 g10 g11 g12 g13 g14 th w q tm sd bi ed ra fr ah bk wt gp gq mv cn mc mk rest), 0, 0) R := by
  have hn := side_n hw hq
  have hc := cell_lt ha hb
  (repeat refine ev_step rfl rfl ?_)
  refine ev_i3 rfl rfl (Nat.le_of_ble_eq_true rfl) (Nat.le_of_ble_eq_true rfl) rfl (mm_isCell hw hq ha hb) ?_
  (repeat refine ev_step rfl rfl ?_)
  refine ev_f (nI_pos (by omega)) ?_
  (repeat refine ev_step rfl rfl ?_)
  refine ev_t (nI_le (a := k) (b := 6) (by omega) (by decide)) ?_
  (repeat refine ev_step rfl rfl ?_)
  rw [nI_mulw]
  refine ev_ia rfl rfl (b * w + a) (rfl) (by omega) (by omega) ?_
  rw [hbi]
  (repeat refine ev_step rfl rfl ?_)
  refine ev_i2 rfl rfl (Nat.le_of_ble_eq_true rfl) (Nat.le_of_ble_eq_true rfl) rfl (mt_has hβ hk _) ?_
  rw [hbit]
  iterate 5 (refine ev_step rfl rfl ?_)
  exact kk
theorem mm_mark4 {L : Nat} {xs : Nat → Int32} {g0 g1 g2 g3 g4 g5 g6 g7 g8 g9 g10 g11 g12 g13 g14 : ac_C} {th : Int32} {w q : Nat} {tm sd : Int32} {bi ed ra fr ah bk : Nat → Int32} {wt gp gq mv : Int32} {cn : Nat} {mc mk : Nat → Int32} {rest : ac_H} {a b k β : Nat} (hw : sideOk w) (hq : sideOk q) (ha : a < w) (hb : b < q) (hk : k < 7) (hβ : β < 128) (hbi : bi (b * w + a) = nI β) (hbit : β.testBit k = true) (hon : onF mc mk (nI (b * w + a)) (nI k) cn 0 = 1) (hcn : cn ≤ 4) : Mt L xs 110 [.ref 15, .int (nI a), .int (nI b), .int (nI k)] (MH g0 g1 g2 g3 g4 g5 g6 g7 g8 g9 g10 g11 g12 g13 g14 th w q tm sd bi ed ra fr ah bk wt gp gq mv cn mc mk rest) (some (.int 0)) (MH g0 g1 g2 g3 g4 g5 g6 g7 g8 g9 g10 g11 g12 g13 g14 (4) w q tm sd bi ed ra fr ah bk wt gp gq mv cn mc mk rest) 0 0 := by
  refine mark_go hw hq ha hb hk hβ hbi hbit ?_
  refine mmark_it (th := th) hcn cn 0 (Nat.zero_add _) (fun h => absurd (hon.symm.trans h) (by decide)) (fun _ u => ?_)
  (repeat refine ev_step rfl rfl ?_)
  exact ev_r1 rfl
theorem mm_mark5 {L : Nat} {xs : Nat → Int32} {g0 g1 g2 g3 g4 g5 g6 g7 g8 g9 g10 g11 g12 g13 g14 : ac_C} {th : Int32} {w q : Nat} {tm sd : Int32} {bi ed ra fr ah bk : Nat → Int32} {wt gp gq mv : Int32} {cn : Nat} {mc mk : Nat → Int32} {rest : ac_H} {a b k β : Nat} (hw : sideOk w) (hq : sideOk q) (ha : a < w) (hb : b < q) (hk : k < 7) (hβ : β < 128) (hbi : bi (b * w + a) = nI β) (hbit : β.testBit k = true) (hon : onF mc mk (nI (b * w + a)) (nI k) cn 0 = 0) (hcn : cn = 4) : Mt L xs 110 [.ref 15, .int (nI a), .int (nI b), .int (nI k)] (MH g0 g1 g2 g3 g4 g5 g6 g7 g8 g9 g10 g11 g12 g13 g14 th w q tm sd bi ed ra fr ah bk wt gp gq mv cn mc mk rest) (some (.int 0)) (MH g0 g1 g2 g3 g4 g5 g6 g7 g8 g9 g10 g11 g12 g13 g14 (5) w q tm sd bi ed ra fr ah bk wt gp gq mv cn mc mk rest) 0 0 := by
  refine mark_go hw hq ha hb hk hβ hbi hbit ?_
  refine mmark_it (th := th) (by omega) cn 0 (Nat.zero_add _) (fun _ u => ?_) (fun h => absurd (hon.symm.trans h) (by decide))
  subst hcn
  (repeat refine ev_step rfl rfl ?_)
  exact ev_r1 rfl
theorem mm_mark {L : Nat} {xs : Nat → Int32} {g0 g1 g2 g3 g4 g5 g6 g7 g8 g9 g10 g11 g12 g13 g14 : ac_C} {th : Int32} {w q : Nat} {tm sd : Int32} {bi ed ra fr ah bk : Nat → Int32} {wt gp gq mv : Int32} {cn : Nat} {mc mk : Nat → Int32} {rest : ac_H} {a b k β : Nat} (hw : sideOk w) (hq : sideOk q) (ha : a < w) (hb : b < q) (hk : k < 7) (hβ : β < 128) (hbi : bi (b * w + a) = nI β) (hbit : β.testBit k = true) (hon : onF mc mk (nI (b * w + a)) (nI k) cn 0 = 0) (hcn : cn < 4) : Mt L xs 110 [.ref 15, .int (nI a), .int (nI b), .int (nI k)] (MH g0 g1 g2 g3 g4 g5 g6 g7 g8 g9 g10 g11 g12 g13 g14 th w q tm sd bi ed ra fr ah bk wt gp gq mv cn mc mk rest) (some (.int (nI cn))) (MH g0 g1 g2 g3 g4 g5 g6 g7 g8 g9 g10 g11 g12 g13 g14 (0) w q tm sd bi ed ra fr ah bk wt gp gq mv (cn + 1) (upd mc cn (nI (b * w + a))) (upd mk cn (nI k)) rest) 0 0 := by
  refine mark_go hw hq ha hb hk hβ hbi hbit ?_
  refine mmark_it (th := th) (by omega) cn 0 (Nat.zero_add _) (fun _ u => ?_) (fun h => absurd (hon.symm.trans h) (by decide))
  (repeat refine ev_step rfl rfl ?_)
  refine ev_f (nI_ne (b := 4) (by omega) (by decide) (by omega)) ?_
  (repeat refine ev_step rfl rfl ?_)
  rw [nI_mulw]
  refine ev_is rfl rfl (cn) (rfl) (by omega) (by decide) rfl ?_
  (repeat refine ev_step rfl rfl ?_)
  refine ev_is rfl rfl (cn) (rfl) (by omega) (by decide) rfl ?_
  iterate 5 (refine ev_step rfl rfl ?_)
  rw [nI_1]
  iterate 5 (refine ev_step rfl rfl ?_)
  rw [nI_pred]
  exact ev_r1 rfl
theorem mm_marked {L : Nat} {xs : Nat → Int32} {g0 g1 g2 g3 g4 g5 g6 g7 g8 g9 g10 g11 g12 g13 g14 : ac_C} {th : Int32} {w q : Nat} {tm sd : Int32} {bi ed ra fr ah bk : Nat → Int32} {wt gp gq mv : Int32} {cn : Nat} {mc mk : Nat → Int32} {rest : ac_H} {m : Nat} (hw : sideOk w) (hq : sideOk q) (hcn : cn ≤ 4) (hm : m < cn) (hok : mkOk (w * q) cn mc mk) : Mt L xs 111 [.ref 15, .int (nI m)] (MH g0 g1 g2 g3 g4 g5 g6 g7 g8 g9 g10 g11 g12 g13 g14 th w q tm sd bi ed ra fr ah bk wt gp gq mv cn mc mk rest) (some (.int (mdF w mc mk m))) (MH g0 g1 g2 g3 g4 g5 g6 g7 g8 g9 g10 g11 g12 g13 g14 (0) w q tm sd bi ed ra fr ah bk wt gp gq mv cn mc mk rest) 0 0 := by
  have hn := side_n hw hq
  obtain ⟨hc, -⟩ := hok m hm
  have hw1 := hw.1
  have hw2 := hw.2.1
  show Ev L xs 111 (0, [.ref 15, .int (nI m), ac_un], [], _, 0, 0) _
  unfold mdF
  (repeat refine ev_step rfl rfl ?_)
  refine ev_f (nI_pos (by omega)) ?_
  (repeat refine ev_step rfl rfl ?_)
  refine ev_t (nI_lt hm (by omega)) ?_
  (repeat refine ev_step rfl rfl ?_)
  refine ev_ia rfl rfl (m) (rfl) (by omega) (by decide) ?_
  rcases hc with e | ⟨c, hc1, e⟩
  · rw [e, if_pos rfl]
    (repeat refine ev_step rfl rfl ?_)
    exact ev_r1 rfl
  · rw [e, if_neg (nI_m1 (by omega)), nI_clamp (by omega)]
    iterate 2 (refine ev_step rfl rfl ?_)
    iterate 1 (refine ev_step rfl rfl ?_)
    refine ev_t (nI_pos' (by omega)) ?_
    (repeat refine ev_step rfl rfl ?_)
    refine ev_div rfl (nI_ne0 (by omega) (by omega)) ?_
    refine ev_tp (pk_div (by omega) (by omega) (by omega)) ?_
    (repeat refine ev_step rfl rfl ?_)
    refine ev_rem rfl (nI_ne0 (by omega) (by omega)) ?_
    refine ev_tp (pk_rem (by omega) (by omega) (by omega)) ?_
    (repeat refine ev_step rfl rfl ?_)
    refine ev_ia rfl rfl (m) (rfl) (by omega) (by decide) ?_
    (repeat refine ev_step rfl rfl ?_)
    exact ev_r1 rfl
theorem mm_marked1 {L : Nat} {xs : Nat → Int32} {g0 g1 g2 g3 g4 g5 g6 g7 g8 g9 g10 g11 g12 g13 g14 : ac_C} {th : Int32} {w q : Nat} {tm sd : Int32} {bi ed ra fr ah bk : Nat → Int32} {wt gp gq mv : Int32} {cn : Nat} {mc mk : Nat → Int32} {rest : ac_H} {v : Int32} (h : v < 0 ∨ ¬ v < nI cn) : Mt L xs 111 [.ref 15, .int v] (MH g0 g1 g2 g3 g4 g5 g6 g7 g8 g9 g10 g11 g12 g13 g14 th w q tm sd bi ed ra fr ah bk wt gp gq mv cn mc mk rest) (some (.int 0)) (MH g0 g1 g2 g3 g4 g5 g6 g7 g8 g9 g10 g11 g12 g13 g14 (1) w q tm sd bi ed ra fr ah bk wt gp gq mv cn mc mk rest) 0 0 := by
  show Ev L xs 111 (0, [.ref 15, .int v, ac_un], [], _, 0, 0) _
  (repeat refine ev_step rfl rfl ?_)
  refine ev_br (fun _ => by (repeat refine ev_step rfl rfl ?_); exact ev_r1 rfl) (fun h1 => ?_)
  (repeat refine ev_step rfl rfl ?_)
  refine ev_f (fun h2 => h.elim h1 (fun z => z h2)) ?_
  (repeat refine ev_step rfl rfl ?_)
  exact ev_r1 rfl
