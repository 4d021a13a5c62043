/-! ===== the plain form: its cells, its plain calls ===== -/
abbrev Az (n : Nat) (f : Nat → Int32) : ac_C := .inl (.boolean, n, .inl f)
def acA (gp gq : Int32) : Nat → Int32 := fun j => if j = 0 then gp else if j = 1 then gq else 0
abbrev MH (g0 g1 g2 g3 g4 g5 g6 g7 g8 g9 g10 g11 g12 g13 g14 : ac_C) (th : Int32) (w q : Nat) (tm sd : Int32) (bi ed ra fr ah bk : Nat → Int32) (wt gp gq mv : Int32) (cn : Nat) (mc mk : Nat → Int32) (rest : ac_H) : ac_H :=
  g0 :: g1 :: g2 :: g3 :: g4 :: g5 :: g6 :: g7 :: g8 :: g9 :: g10 :: g11 :: g12 :: g13 :: g14 :: .inr (5, [.int th, .int (nI w), .int (nI q), .int tm, .int sd, .ref 16, .ref 17, .ref 18, .ref 19, .ref 20, .ref 21, .int wt, .ref 22, .int mv, .int (nI cn), .ref 23, .ref 24]) :: Ar 256 bi :: Ar 256 ed :: Ar 256 ra :: Ar 256 fr :: Az 256 ah :: Ar 12 bk :: Ar 2 (acA gp gq) :: Ar 4 mc :: Ar 4 mk :: rest
theorem mm_thrown {L : Nat} {xs : Nat → Int32} {g0 g1 g2 g3 g4 g5 g6 g7 g8 g9 g10 g11 g12 g13 g14 : ac_C} {th : Int32} {w q : Nat} {tm sd : Int32} {bi ed ra fr ah bk : Nat → Int32} {wt gp gq mv : Int32} {cn : Nat} {mc mk : Nat → Int32} {rest : ac_H} : Mt L xs 67 [.ref 15] (MH g0 g1 g2 g3 g4 g5 g6 g7 g8 g9 g10 g11 g12 g13 g14 th w q tm sd bi ed ra fr ah bk wt gp gq mv cn mc mk rest) (some (.int th)) (MH g0 g1 g2 g3 g4 g5 g6 g7 g8 g9 g10 g11 g12 g13 g14 th w q tm sd bi ed ra fr ah bk wt gp gq mv cn mc mk rest) 0 0 := by
  show Ev L xs 67 (0, [.ref 15], [], _, 0, 0) _
  (repeat refine ev_step rfl rfl ?_)
  exact ev_r1 rfl
theorem mm_isCell {L : Nat} {xs : Nat → Int32} {g0 g1 g2 g3 g4 g5 g6 g7 g8 g9 g10 g11 g12 g13 g14 : ac_C} {th : Int32} {w q : Nat} {tm sd : Int32} {bi ed ra fr ah bk : Nat → Int32} {wt gp gq mv : Int32} {cn : Nat} {mc mk : Nat → Int32} {rest : ac_H} {a b : Nat} (hw : sideOk w) (hq : sideOk q) (ha : a < w) (hb : b < q) : Mt L xs 68 [.ref 15, .int (nI a), .int (nI b)] (MH g0 g1 g2 g3 g4 g5 g6 g7 g8 g9 g10 g11 g12 g13 g14 th w q tm sd bi ed ra fr ah bk wt gp gq mv cn mc mk rest) (some (.int 1)) (MH g0 g1 g2 g3 g4 g5 g6 g7 g8 g9 g10 g11 g12 g13 g14 th w q tm sd bi ed ra fr ah bk wt gp gq mv cn mc mk rest) 0 0 := by
  have h1 := hw.2.1
  have h2 := hq.2.1
  show Ev L xs 68 (0, [.ref 15, .int (nI a), .int (nI b)], [], _, 0, 0) _
  (repeat refine ev_step rfl rfl ?_)
  refine ev_f (nI_pos (by omega)) ?_
  (repeat refine ev_step rfl rfl ?_)
  refine ev_f (nI_ge ha (by omega)) ?_
  (repeat refine ev_step rfl rfl ?_)
  refine ev_f (nI_pos (by omega)) ?_
  (repeat refine ev_step rfl rfl ?_)
  refine ev_f (nI_ge hb (by omega)) ?_
  (repeat refine ev_step rfl rfl ?_)
  exact ev_r2 rfl (Or.inr rfl)
theorem mm_noCell {L : Nat} {xs : Nat → Int32} {g0 g1 g2 g3 g4 g5 g6 g7 g8 g9 g10 g11 g12 g13 g14 : ac_C} {th : Int32} {w q : Nat} {tm sd : Int32} {bi ed ra fr ah bk : Nat → Int32} {wt gp gq mv : Int32} {cn : Nat} {mc mk : Nat → Int32} {rest : ac_H} {x y : Int32} (h : badXY w q x y) : Mt L xs 68 [.ref 15, .int x, .int y] (MH g0 g1 g2 g3 g4 g5 g6 g7 g8 g9 g10 g11 g12 g13 g14 th w q tm sd bi ed ra fr ah bk wt gp gq mv cn mc mk rest) (some (.int 0)) (MH g0 g1 g2 g3 g4 g5 g6 g7 g8 g9 g10 g11 g12 g13 g14 th w q tm sd bi ed ra fr ah bk wt gp gq mv cn mc mk rest) 0 0 := by
  show Ev L xs 68 (0, [.ref 15, .int x, .int y], [], _, 0, 0) _
  (repeat refine ev_step rfl rfl ?_)
  refine ev_br (fun _ => by (repeat refine ev_step rfl rfl ?_); exact ev_r2 rfl (Or.inl rfl)) (fun h1 => ?_)
  (repeat refine ev_step rfl rfl ?_)
  refine ev_br (fun _ => by (repeat refine ev_step rfl rfl ?_); exact ev_r2 rfl (Or.inl rfl)) (fun h2 => ?_)
  (repeat refine ev_step rfl rfl ?_)
  refine ev_br (fun _ => by (repeat refine ev_step rfl rfl ?_); exact ev_r2 rfl (Or.inl rfl)) (fun h3 => ?_)
  (repeat refine ev_step rfl rfl ?_)
  refine ev_br (fun _ => by (repeat refine ev_step rfl rfl ?_); exact ev_r2 rfl (Or.inl rfl)) (fun h4 => ?_)
  exact absurd h (fun z => by
    rcases z with z | z | z | z
    · exact h1 z
    · exact h2 z
    · exact h3 z
    · exact h4 z)
theorem mt_become {L : Nat} {xs : Nat → Int32} {b s : Nat} (hb : b < 128) (hs : s < 2) (H : ac_H) : Mt L xs 73 [.int (nI b), .int (nI s)] H (some (.int (nI (tdN b s)))) H 0 0 := pu_mt (by decide) (tr_become b hb s hs) H
theorem mm_rule {L : Nat} {xs : Nat → Int32} {g0 g1 g2 g3 g4 g5 g6 g7 g8 g9 g10 g11 g12 g13 g14 : ac_C} {th : Int32} {w q : Nat} {tm sd : Int32} {bi ed ra fr ah bk : Nat → Int32} {wt gp gq mv : Int32} {cn : Nat} {mc mk : Nat → Int32} {rest : ac_H} {b s : Nat} (hb : b < 128) (hs : s < 2) : Mt L xs 75 [.ref 15, .int (nI b), .int (nI s)] (MH g0 g1 g2 g3 g4 g5 g6 g7 g8 g9 g10 g11 g12 g13 g14 th w q tm sd bi ed ra fr ah bk wt gp gq mv cn mc mk rest) (some (.int (nI (tdN b s)))) (MH g0 g1 g2 g3 g4 g5 g6 g7 g8 g9 g10 g11 g12 g13 g14 (0) w q tm sd bi ed ra fr ah bk wt gp gq mv cn mc mk rest) 0 0 := by
  show Ev L xs 75 (0, [.ref 15, .int (nI b), .int (nI s)], [], _, 0, 0) _
  (repeat refine ev_step rfl rfl ?_)
  refine ev_f (nI_pos (by omega)) ?_
  (repeat refine ev_step rfl rfl ?_)
  refine ev_f (nI_nlt (a := 127) (b := b) (by omega) (by omega)) ?_
  (repeat refine ev_step rfl rfl ?_)
  refine ev_f (nI_pos (by omega)) ?_
  (repeat refine ev_step rfl rfl ?_)
  refine ev_t (nI_le (a := s) (b := 1) (by omega) (by decide)) ?_
  (repeat refine ev_step rfl rfl ?_)
  refine ev_i2 rfl rfl (Nat.le_of_ble_eq_true rfl) (Nat.le_of_ble_eq_true rfl) rfl (mt_become hb hs _) ?_
  exact ev_r1 rfl
theorem mm_rule1 {L : Nat} {xs : Nat → Int32} {g0 g1 g2 g3 g4 g5 g6 g7 g8 g9 g10 g11 g12 g13 g14 : ac_C} {th : Int32} {w q : Nat} {tm sd : Int32} {bi ed ra fr ah bk : Nat → Int32} {wt gp gq mv : Int32} {cn : Nat} {mc mk : Nat → Int32} {rest : ac_H} {b s : Int32} (h : b < 0 ∨ 127 < b ∨ s < 0 ∨ ¬ s ≤ 1) : Mt L xs 75 [.ref 15, .int b, .int s] (MH g0 g1 g2 g3 g4 g5 g6 g7 g8 g9 g10 g11 g12 g13 g14 th w q tm sd bi ed ra fr ah bk wt gp gq mv cn mc mk rest) (some (.int 0)) (MH g0 g1 g2 g3 g4 g5 g6 g7 g8 g9 g10 g11 g12 g13 g14 (1) w q tm sd bi ed ra fr ah bk wt gp gq mv cn mc mk rest) 0 0 := by
  show Ev L xs 75 (0, [.ref 15, .int b, .int s], [], _, 0, 0) _
  (repeat refine ev_step rfl rfl ?_)
  refine ev_br (fun _ => by (repeat refine ev_step rfl rfl ?_); exact ev_r1 rfl) (fun h1 => ?_)
  (repeat refine ev_step rfl rfl ?_)
  refine ev_br (fun _ => by (repeat refine ev_step rfl rfl ?_); exact ev_r1 rfl) (fun h2 => ?_)
  (repeat refine ev_step rfl rfl ?_)
  refine ev_br (fun _ => by (repeat refine ev_step rfl rfl ?_); exact ev_r1 rfl) (fun h3 => ?_)
  (repeat refine ev_step rfl rfl ?_)
  refine ev_f (fun h4 => ?_) (by (repeat refine ev_step rfl rfl ?_); exact ev_r1 rfl)
  exact h.elim h1 (fun z => z.elim h2 (fun z => z.elim h3 (fun z => z h4)))
theorem nI_mulw (w b a : Nat) : nI w * nI b + nI a = nI (b * w + a) := by rw [nI_mul, nI_add, Nat.mul_comm]
theorem mset_it {L : Nat} {xs : Nat → Int32} {g0 g1 g2 g3 g4 g5 g6 g7 g8 g9 g10 g11 g12 g13 g14 : ac_C} {th : Int32} {w q : Nat} {tm sd : Int32} {bi ed ra fr ah bk : Nat → Int32} {wt gp gq mv : Int32} {cn : Nat} {mc mk : Nat → Int32} {rest : ac_H} {a b : Nat} {u : Value} (hcn : cn ≤ 4) : ∀ (n i : Nat), i + n = cn → Ev L xs 76 (57, [.ref 15, .int (nI a), .int (nI b), u, .int (nI i)], [], (MH g0 g1 g2 g3 g4 g5 g6 g7 g8 g9 g10 g11 g12 g13 g14 th w q tm sd bi ed ra fr ah bk wt gp gq mv cn (pre i (loF (nI (b * w + a)) mc) mc) mk rest), 0, 0) (.inl none, (MH g0 g1 g2 g3 g4 g5 g6 g7 g8 g9 g10 g11 g12 g13 g14 th w q tm sd bi ed ra fr ah bk wt gp gq mv cn (pre cn (loF (nI (b * w + a)) mc) mc) mk rest), 0, 0) := by
  intro n
  induction n with
  | zero =>
    intro i hi
    have e : i = cn := by omega
    rw [e]
    (repeat refine ev_step rfl rfl ?_)
    refine ev_t (nI_le (Nat.le_refl _) (by omega)) ?_
    exact ev_r0 rfl
  | succ n ih =>
    intro i hi
    have ih1 := ih (i + 1) (by omega)
    rw [← pre_put] at ih1
    (repeat refine ev_step rfl rfl ?_)
    refine ev_f (nI_ge (a := i) (b := cn) (by omega) (by omega)) ?_
    (repeat refine ev_step rfl rfl ?_)
    refine ev_ia rfl rfl (i) (rfl) (by omega) (by omega) ?_
    (repeat refine ev_step rfl rfl ?_)
    rw [nI_mulw, pre_at]
    refine ev_br (fun z => ?_) (fun z => ?_)
    · rw [show loF (nI (b * w + a)) mc i = -1 from if_pos z] at ih1
      (repeat refine ev_step rfl rfl ?_)
      refine ev_is rfl rfl (i) (rfl) (by omega) (by omega) rfl ?_
      iterate 2 (refine ev_step rfl rfl ?_)
      rw [nI_1]
      exact ih1
    · rw [show loF (nI (b * w + a)) mc i = mc i from if_neg z] at ih1
      (repeat refine ev_step rfl rfl ?_)
      refine ev_ia rfl rfl (i) (rfl) (by omega) (by omega) ?_
      rw [pre_at]
      refine ev_is rfl rfl (i) (rfl) (by omega) (by omega) rfl ?_
      iterate 2 (refine ev_step rfl rfl ?_)
      rw [nI_1]
      exact ih1
theorem mm_set {L : Nat} {xs : Nat → Int32} {g0 g1 g2 g3 g4 g5 g6 g7 g8 g9 g10 g11 g12 g13 g14 : ac_C} {th : Int32} {w q : Nat} {tm sd : Int32} {bi ed ra fr ah bk : Nat → Int32} {wt gp gq mv : Int32} {cn : Nat} {mc mk : Nat → Int32} {rest : ac_H} {a b : Nat} {v : Int32} (hw : sideOk w) (hq : sideOk q) (ha : a < w) (hb : b < q) (h1 : ¬ v < 0) (h2 : v ≤ 127) (hcn : cn ≤ 4) : Mt L xs 76 [.ref 15, .int (nI a), .int (nI b), .int v] (MH g0 g1 g2 g3 g4 g5 g6 g7 g8 g9 g10 g11 g12 g13 g14 th w q tm sd bi ed ra fr ah bk wt gp gq mv cn mc mk rest) none (MH g0 g1 g2 g3 g4 g5 g6 g7 g8 g9 g10 g11 g12 g13 g14 (0) w q tm sd (upd bi (b * w + a) v) ed ra fr ah bk wt gp gq mv cn (pre cn (loF (nI (b * w + a)) mc) mc) mk rest) 0 0 := by
  have hn := side_n hw hq
  have hc := cell_lt ha hb
  show Ev L xs 76 (0, [.ref 15, .int (nI a), .int (nI b), .int v, ac_un], [], _, 0, 0) _
  (repeat refine ev_step rfl rfl ?_)
  refine ev_i3 rfl rfl (Nat.le_of_ble_eq_true rfl) (Nat.le_of_ble_eq_true rfl) rfl (mm_isCell hw hq ha hb) ?_
  (repeat refine ev_step rfl rfl ?_)
  refine ev_f h1 ?_
  (repeat refine ev_step rfl rfl ?_)
  refine ev_t h2 ?_
  (repeat refine ev_step rfl rfl ?_)
  rw [nI_mulw]
  refine ev_is rfl rfl (b * w + a) (rfl) (by omega) (by omega) rfl ?_
  iterate 2 (refine ev_step rfl rfl ?_)
  have h := mset_it (L := L) (xs := xs) (g0 := g0) (g1 := g1) (g2 := g2) (g3 := g3) (g4 := g4) (g5 := g5) (g6 := g6) (g7 := g7) (g8 := g8) (g9 := g9) (g10 := g10) (g11 := g11) (g12 := g12) (g13 := g13) (g14 := g14) (th := 0) (w := w) (q := q) (tm := tm) (sd := sd) (bi := upd bi (b * w + a) v) (ed := ed) (ra := ra) (fr := fr) (ah := ah) (bk := bk) (wt := wt) (gp := gp) (gq := gq) (mv := mv) (mc := mc) (mk := mk) (rest := rest) (a := a) (b := b) (u := .int v) hcn cn 0 (Nat.zero_add _)
  rw [pre_0] at h
  exact h
theorem mm_set1 {L : Nat} {xs : Nat → Int32} {g0 g1 g2 g3 g4 g5 g6 g7 g8 g9 g10 g11 g12 g13 g14 : ac_C} {th : Int32} {w q : Nat} {tm sd : Int32} {bi ed ra fr ah bk : Nat → Int32} {wt gp gq mv : Int32} {cn : Nat} {mc mk : Nat → Int32} {rest : ac_H} {x y v : Int32} (h : badXY w q x y) : Mt L xs 76 [.ref 15, .int x, .int y, .int v] (MH g0 g1 g2 g3 g4 g5 g6 g7 g8 g9 g10 g11 g12 g13 g14 th w q tm sd bi ed ra fr ah bk wt gp gq mv cn mc mk rest) none (MH g0 g1 g2 g3 g4 g5 g6 g7 g8 g9 g10 g11 g12 g13 g14 (1) w q tm sd bi ed ra fr ah bk wt gp gq mv cn mc mk rest) 0 0 := by
  show Ev L xs 76 (0, [.ref 15, .int x, .int y, .int v, ac_un], [], _, 0, 0) _
  (repeat refine ev_step rfl rfl ?_)
  refine ev_i3 rfl rfl (Nat.le_of_ble_eq_true rfl) (Nat.le_of_ble_eq_true rfl) rfl (mm_noCell h) ?_
  (repeat refine ev_step rfl rfl ?_)
  exact ev_r0 rfl
theorem mm_set2 {L : Nat} {xs : Nat → Int32} {g0 g1 g2 g3 g4 g5 g6 g7 g8 g9 g10 g11 g12 g13 g14 : ac_C} {th : Int32} {w q : Nat} {tm sd : Int32} {bi ed ra fr ah bk : Nat → Int32} {wt gp gq mv : Int32} {cn : Nat} {mc mk : Nat → Int32} {rest : ac_H} {a b : Nat} {v : Int32} (hw : sideOk w) (hq : sideOk q) (ha : a < w) (hb : b < q) (h : v < 0 ∨ ¬ v ≤ 127) : Mt L xs 76 [.ref 15, .int (nI a), .int (nI b), .int v] (MH g0 g1 g2 g3 g4 g5 g6 g7 g8 g9 g10 g11 g12 g13 g14 th w q tm sd bi ed ra fr ah bk wt gp gq mv cn mc mk rest) none (MH g0 g1 g2 g3 g4 g5 g6 g7 g8 g9 g10 g11 g12 g13 g14 (2) w q tm sd bi ed ra fr ah bk wt gp gq mv cn mc mk rest) 0 0 := by
  show Ev L xs 76 (0, [.ref 15, .int (nI a), .int (nI b), .int v, ac_un], [], _, 0, 0) _
  (repeat refine ev_step rfl rfl ?_)
  refine ev_i3 rfl rfl (Nat.le_of_ble_eq_true rfl) (Nat.le_of_ble_eq_true rfl) rfl (mm_isCell hw hq ha hb) ?_
  (repeat refine ev_step rfl rfl ?_)
  refine ev_br (fun _ => by (repeat refine ev_step rfl rfl ?_); exact ev_r0 rfl) (fun h1 => ?_)
  (repeat refine ev_step rfl rfl ?_)
  refine ev_f (fun h2 => h.elim h1 (fun z => z h2)) ?_
  (repeat refine ev_step rfl rfl ?_)
  exact ev_r0 rfl
theorem mm_get {L : Nat} {xs : Nat → Int32} {g0 g1 g2 g3 g4 g5 g6 g7 g8 g9 g10 g11 g12 g13 g14 : ac_C} {th : Int32} {w q : Nat} {tm sd : Int32} {bi ed ra fr ah bk : Nat → Int32} {wt gp gq mv : Int32} {cn : Nat} {mc mk : Nat → Int32} {rest : ac_H} {a b : Nat} (hw : sideOk w) (hq : sideOk q) (ha : a < w) (hb : b < q) : Mt L xs 77 [.ref 15, .int (nI a), .int (nI b)] (MH g0 g1 g2 g3 g4 g5 g6 g7 g8 g9 g10 g11 g12 g13 g14 th w q tm sd bi ed ra fr ah bk wt gp gq mv cn mc mk rest) (some (.int (bi (b * w + a)))) (MH g0 g1 g2 g3 g4 g5 g6 g7 g8 g9 g10 g11 g12 g13 g14 (0) w q tm sd bi ed ra fr ah bk wt gp gq mv cn mc mk rest) 0 0 := by
  have hn := side_n hw hq
  have hc := cell_lt ha hb
  show Ev L xs 77 (0, [.ref 15, .int (nI a), .int (nI b)], [], _, 0, 0) _
  (repeat refine ev_step rfl rfl ?_)
  refine ev_i3 rfl rfl (Nat.le_of_ble_eq_true rfl) (Nat.le_of_ble_eq_true rfl) rfl (mm_isCell hw hq ha hb) ?_
  (repeat refine ev_step rfl rfl ?_)
  rw [nI_mulw]
  refine ev_ia rfl rfl (b * w + a) (rfl) (by omega) (by omega) ?_
  exact ev_r1 rfl
theorem mm_get1 {L : Nat} {xs : Nat → Int32} {g0 g1 g2 g3 g4 g5 g6 g7 g8 g9 g10 g11 g12 g13 g14 : ac_C} {th : Int32} {w q : Nat} {tm sd : Int32} {bi ed ra fr ah bk : Nat → Int32} {wt gp gq mv : Int32} {cn : Nat} {mc mk : Nat → Int32} {rest : ac_H} {x y : Int32} (h : badXY w q x y) : Mt L xs 77 [.ref 15, .int x, .int y] (MH g0 g1 g2 g3 g4 g5 g6 g7 g8 g9 g10 g11 g12 g13 g14 th w q tm sd bi ed ra fr ah bk wt gp gq mv cn mc mk rest) (some (.int 0)) (MH g0 g1 g2 g3 g4 g5 g6 g7 g8 g9 g10 g11 g12 g13 g14 (1) w q tm sd bi ed ra fr ah bk wt gp gq mv cn mc mk rest) 0 0 := by
  show Ev L xs 77 (0, [.ref 15, .int x, .int y], [], _, 0, 0) _
  (repeat refine ev_step rfl rfl ?_)
  refine ev_i3 rfl rfl (Nat.le_of_ble_eq_true rfl) (Nat.le_of_ble_eq_true rfl) rfl (mm_noCell h) ?_
  (repeat refine ev_step rfl rfl ?_)
  exact ev_r1 rfl
theorem mm_edge {L : Nat} {xs : Nat → Int32} {g0 g1 g2 g3 g4 g5 g6 g7 g8 g9 g10 g11 g12 g13 g14 : ac_C} {th : Int32} {w q : Nat} {tm sd : Int32} {bi ed ra fr ah bk : Nat → Int32} {wt gp gq mv : Int32} {cn : Nat} {mc mk : Nat → Int32} {rest : ac_H} {a b : Nat} (hw : sideOk w) (hq : sideOk q) (ha : a < w) (hb : b < q) : Mt L xs 85 [.ref 15, .int (nI a), .int (nI b)] (MH g0 g1 g2 g3 g4 g5 g6 g7 g8 g9 g10 g11 g12 g13 g14 th w q tm sd bi ed ra fr ah bk wt gp gq mv cn mc mk rest) (some (.int (ed (b * w + a)))) (MH g0 g1 g2 g3 g4 g5 g6 g7 g8 g9 g10 g11 g12 g13 g14 (0) w q tm sd bi ed ra fr ah bk wt gp gq mv cn mc mk rest) 0 0 := by
  have hn := side_n hw hq
  have hc := cell_lt ha hb
  show Ev L xs 85 (0, [.ref 15, .int (nI a), .int (nI b)], [], _, 0, 0) _
  (repeat refine ev_step rfl rfl ?_)
  refine ev_i3 rfl rfl (Nat.le_of_ble_eq_true rfl) (Nat.le_of_ble_eq_true rfl) rfl (mm_isCell hw hq ha hb) ?_
  (repeat refine ev_step rfl rfl ?_)
  rw [nI_mulw]
  refine ev_ia rfl rfl (b * w + a) (rfl) (by omega) (by omega) ?_
  exact ev_r1 rfl
theorem mm_edge1 {L : Nat} {xs : Nat → Int32} {g0 g1 g2 g3 g4 g5 g6 g7 g8 g9 g10 g11 g12 g13 g14 : ac_C} {th : Int32} {w q : Nat} {tm sd : Int32} {bi ed ra fr ah bk : Nat → Int32} {wt gp gq mv : Int32} {cn : Nat} {mc mk : Nat → Int32} {rest : ac_H} {x y : Int32} (h : badXY w q x y) : Mt L xs 85 [.ref 15, .int x, .int y] (MH g0 g1 g2 g3 g4 g5 g6 g7 g8 g9 g10 g11 g12 g13 g14 th w q tm sd bi ed ra fr ah bk wt gp gq mv cn mc mk rest) (some (.int 0)) (MH g0 g1 g2 g3 g4 g5 g6 g7 g8 g9 g10 g11 g12 g13 g14 (1) w q tm sd bi ed ra fr ah bk wt gp gq mv cn mc mk rest) 0 0 := by
  show Ev L xs 85 (0, [.ref 15, .int x, .int y], [], _, 0, 0) _
  (repeat refine ev_step rfl rfl ?_)
  refine ev_i3 rfl rfl (Nat.le_of_ble_eq_true rfl) (Nat.le_of_ble_eq_true rfl) rfl (mm_noCell h) ?_
  (repeat refine ev_step rfl rfl ?_)
  exact ev_r1 rfl
theorem mm_isOther {L : Nat} {xs : Nat → Int32} {g0 g1 g2 g3 g4 g5 g6 g7 g8 g9 g10 g11 g12 g13 g14 : ac_C} {th : Int32} {w q : Nat} {tm sd : Int32} {bi ed ra fr ah bk : Nat → Int32} {wt gp gq mv : Int32} {cn : Nat} {mc mk : Nat → Int32} {rest : ac_H} {c : Nat} {s : Int32} (hc : c < 256) : Mt L xs 79 [.ref 15, .int (nI c), .int s] (MH g0 g1 g2 g3 g4 g5 g6 g7 g8 g9 g10 g11 g12 g13 g14 th w q tm sd bi ed ra fr ah bk wt gp gq mv cn mc mk rest) (some (.int (bI (decide (¬ (ed c = 0 ∨ ed c = s)))))) (MH g0 g1 g2 g3 g4 g5 g6 g7 g8 g9 g10 g11 g12 g13 g14 th w q tm sd bi ed ra fr ah bk wt gp gq mv cn mc mk rest) 0 0 := by
  show Ev L xs 79 (0, [.ref 15, .int (nI c), .int s], [], _, 0, 0) _
  (repeat refine ev_step rfl rfl ?_)
  refine ev_ia rfl rfl (c) (rfl) (hc) (by omega) ?_
  iterate 1 (refine ev_step rfl rfl ?_)
  refine ev_br (fun z => ?_) (fun z => ?_)
  · rw [decide_eq_false (fun q => q (Or.inl z))]
    (repeat refine ev_step rfl rfl ?_)
    exact ev_r2 rfl (Or.inl rfl)
  · (repeat refine ev_step rfl rfl ?_)
    refine ev_ia rfl rfl (c) (rfl) (hc) (by omega) ?_
    (repeat refine ev_step rfl rfl ?_)
    refine ev_br (fun z2 => ?_) (fun z2 => ?_)
    · rw [decide_eq_false (fun q => q (Or.inr z2))]
      (repeat refine ev_step rfl rfl ?_)
      exact ev_r2 rfl (Or.inl rfl)
    · rw [decide_eq_true (show ¬ (ed c = 0 ∨ ed c = s) from fun q => q.elim z z2)]
      (repeat refine ev_step rfl rfl ?_)
      exact ev_r2 rfl (Or.inr rfl)
theorem mm_make {L : Nat} {xs : Nat → Int32} {g0 g1 g2 g3 g4 g5 g6 g7 g8 g9 g10 g11 g12 g13 g14 : ac_C} {th : Int32} {w q : Nat} {tm sd : Int32} {bi ed ra fr ah bk : Nat → Int32} {wt gp gq mv : Int32} {cn : Nat} {mc mk : Nat → Int32} {rest : ac_H} {c : Nat} {s o : Int32} (hc : c < 256) (hs : ¬ s = 0) (ho : o = 0 ∨ o = 1) (h : ed c = 0 ∨ ed c = s) : Mt L xs 78 [.ref 15, .int (nI c), .int s, .int o] (MH g0 g1 g2 g3 g4 g5 g6 g7 g8 g9 g10 g11 g12 g13 g14 th w q tm sd bi ed ra fr ah bk wt gp gq mv cn mc mk rest) (some (.int (bI (decide (¬ peE s o = ed c))))) (MH g0 g1 g2 g3 g4 g5 g6 g7 g8 g9 g10 g11 g12 g13 g14 th w q tm sd bi (upd ed c (peE s o)) ra fr ah bk wt gp gq mv cn mc mk rest) 0 0 := by
  show Ev L xs 78 (0, [.ref 15, .int (nI c), .int s, .int o, ac_un], [], _, 0, 0) _
  (repeat refine ev_step rfl rfl ?_)
  refine ev_ia rfl rfl (c) (rfl) (hc) (by omega) ?_
  iterate 2 (refine ev_step rfl rfl ?_)
  refine ev_br (fun z => ?_) (fun z => ?_)
  · rcases ho with rfl | rfl
    · rw [show peE s 0 = 0 from rfl, decide_eq_true (show ¬ 0 = ed c from fun q => hs (z.symm.trans q.symm))]
      (repeat refine ev_step rfl rfl ?_)
      refine ev_is rfl rfl (c) (rfl) (hc) (by omega) rfl ?_
      (repeat refine ev_step rfl rfl ?_)
      exact ev_r2 rfl (Or.inr rfl)
    · rw [show peE s 1 = s from rfl, decide_eq_false (fun q => q z.symm)]
      (repeat refine ev_step rfl rfl ?_)
      refine ev_is rfl rfl (c) (rfl) (hc) (by omega) rfl ?_
      (repeat refine ev_step rfl rfl ?_)
      exact ev_r2 rfl (Or.inl rfl)
  · have z0 := h.resolve_right z
    rcases ho with rfl | rfl
    · rw [show peE s 0 = 0 from rfl, decide_eq_false (fun q => q z0.symm)]
      (repeat refine ev_step rfl rfl ?_)
      refine ev_is rfl rfl (c) (rfl) (hc) (by omega) rfl ?_
      (repeat refine ev_step rfl rfl ?_)
      exact ev_r2 rfl (Or.inl rfl)
    · rw [show peE s 1 = s from rfl, decide_eq_true (show ¬ s = ed c from fun q => z q.symm)]
      (repeat refine ev_step rfl rfl ?_)
      refine ev_is rfl rfl (c) (rfl) (hc) (by omega) rfl ?_
      (repeat refine ev_step rfl rfl ?_)
      exact ev_r2 rfl (Or.inr rfl)
theorem mm_edgeCall {L : Nat} {xs : Nat → Int32} {g0 g1 g2 g3 g4 g5 g6 g7 g8 g9 g10 g11 g12 g13 g14 : ac_C} {th : Int32} {w q : Nat} {tm sd : Int32} {bi ed ra fr ah bk : Nat → Int32} {wt gp gq mv : Int32} {cn : Nat} {mc mk : Nat → Int32} {rest : ac_H} {a b : Nat} {s o : Int32} (hw : sideOk w) (hq : sideOk q) (ha : a < w) (hb : b < q) (hs : ¬ s = 0) (ho : o = 0 ∨ o = 1) (h : ed (b * w + a) = 0 ∨ ed (b * w + a) = s) : Mt L xs 80 [.ref 15, .int (nI a), .int (nI b), .int s, .int o] (MH g0 g1 g2 g3 g4 g5 g6 g7 g8 g9 g10 g11 g12 g13 g14 th w q tm sd bi ed ra fr ah bk wt gp gq mv cn mc mk rest) (some (.int (bI (decide (¬ peE s o = ed (b * w + a)))))) (MH g0 g1 g2 g3 g4 g5 g6 g7 g8 g9 g10 g11 g12 g13 g14 (0) w q tm sd bi (upd ed (b * w + a) (peE s o)) ra fr ah bk wt gp gq mv cn mc mk rest) 0 0 := by
  have hn := side_n hw hq
  have hc := cell_lt ha hb
  show Ev L xs 80 (0, [.ref 15, .int (nI a), .int (nI b), .int s, .int o], [], _, 0, 0) _
  (repeat refine ev_step rfl rfl ?_)
  refine ev_i3 rfl rfl (Nat.le_of_ble_eq_true rfl) (Nat.le_of_ble_eq_true rfl) rfl (mm_isCell hw hq ha hb) ?_
  (repeat refine ev_step rfl rfl ?_)
  rw [nI_mulw]
  refine ev_i3 rfl rfl (Nat.le_of_ble_eq_true rfl) (Nat.le_of_ble_eq_true rfl) rfl (mm_isOther (by omega)) ?_
  rw [decide_eq_false (fun q => q h)]
  (repeat refine ev_step rfl rfl ?_)
  rw [nI_mulw]
  refine ev_i4 rfl rfl (Nat.le_of_ble_eq_true rfl) (Nat.le_of_ble_eq_true rfl) rfl (mm_make (by omega) hs ho h) ?_
  cases decide (¬ peE s o = ed (b * w + a)) with
  | false =>
    (repeat refine ev_step rfl rfl ?_)
    exact ev_r2 rfl (Or.inl rfl)
  | true =>
    (repeat refine ev_step rfl rfl ?_)
    exact ev_r2 rfl (Or.inr rfl)
theorem mm_edgeCall1 {L : Nat} {xs : Nat → Int32} {g0 g1 g2 g3 g4 g5 g6 g7 g8 g9 g10 g11 g12 g13 g14 : ac_C} {th : Int32} {w q : Nat} {tm sd : Int32} {bi ed ra fr ah bk : Nat → Int32} {wt gp gq mv : Int32} {cn : Nat} {mc mk : Nat → Int32} {rest : ac_H} {x y s o : Int32} (h : badXY w q x y) : Mt L xs 80 [.ref 15, .int x, .int y, .int s, .int o] (MH g0 g1 g2 g3 g4 g5 g6 g7 g8 g9 g10 g11 g12 g13 g14 th w q tm sd bi ed ra fr ah bk wt gp gq mv cn mc mk rest) (some (.int 0)) (MH g0 g1 g2 g3 g4 g5 g6 g7 g8 g9 g10 g11 g12 g13 g14 (1) w q tm sd bi ed ra fr ah bk wt gp gq mv cn mc mk rest) 0 0 := by
  show Ev L xs 80 (0, [.ref 15, .int x, .int y, .int s, .int o], [], _, 0, 0) _
  (repeat refine ev_step rfl rfl ?_)
  refine ev_i3 rfl rfl (Nat.le_of_ble_eq_true rfl) (Nat.le_of_ble_eq_true rfl) rfl (mm_noCell h) ?_
  (repeat refine ev_step rfl rfl ?_)
  exact ev_r2 rfl (Or.inl rfl)
theorem mm_edgeCall2 {L : Nat} {xs : Nat → Int32} {g0 g1 g2 g3 g4 g5 g6 g7 g8 g9 g10 g11 g12 g13 g14 : ac_C} {th : Int32} {w q : Nat} {tm sd : Int32} {bi ed ra fr ah bk : Nat → Int32} {wt gp gq mv : Int32} {cn : Nat} {mc mk : Nat → Int32} {rest : ac_H} {a b : Nat} {s o : Int32} (hw : sideOk w) (hq : sideOk q) (ha : a < w) (hb : b < q) (h : ¬ (ed (b * w + a) = 0 ∨ ed (b * w + a) = s)) : Mt L xs 80 [.ref 15, .int (nI a), .int (nI b), .int s, .int o] (MH g0 g1 g2 g3 g4 g5 g6 g7 g8 g9 g10 g11 g12 g13 g14 th w q tm sd bi ed ra fr ah bk wt gp gq mv cn mc mk rest) (some (.int 0)) (MH g0 g1 g2 g3 g4 g5 g6 g7 g8 g9 g10 g11 g12 g13 g14 (2) w q tm sd bi ed ra fr ah bk wt gp gq mv cn mc mk rest) 0 0 := by
  have hn := side_n hw hq
  have hc := cell_lt ha hb
  show Ev L xs 80 (0, [.ref 15, .int (nI a), .int (nI b), .int s, .int o], [], _, 0, 0) _
  (repeat refine ev_step rfl rfl ?_)
  refine ev_i3 rfl rfl (Nat.le_of_ble_eq_true rfl) (Nat.le_of_ble_eq_true rfl) rfl (mm_isCell hw hq ha hb) ?_
  (repeat refine ev_step rfl rfl ?_)
  rw [nI_mulw]
  refine ev_i3 rfl rfl (Nat.le_of_ble_eq_true rfl) (Nat.le_of_ble_eq_true rfl) rfl (mm_isOther (by omega)) ?_
  rw [decide_eq_true h]
  (repeat refine ev_step rfl rfl ?_)
  exact ev_r2 rfl (Or.inl rfl)
theorem r2_bI {L : Nat} {xs : Nat → Int32} {y pc : Nat} {ls : List Value} {h : ac_H} {c k : Nat} {b : Bool} (hT : ac_Tf L xs y pc = .inr (.inr (.inl 2))) : Ev L xs y (pc, ls, [.int (bI b)], h, c, k) (.inl (some (.int (bI b))), h, c, k) := ev_r2 hT (bI_01 b)
theorem mm_wall {L : Nat} {xs : Nat → Int32} {g0 g1 g2 g3 g4 g5 g6 g7 g8 g9 g10 g11 g12 g13 g14 : ac_C} {th : Int32} {w q : Nat} {tm sd : Int32} {bi ed ra fr ah bk : Nat → Int32} {wt gp gq mv : Int32} {cn : Nat} {mc mk : Nat → Int32} {rest : ac_H} {x y o r : Int32} {h' : ac_H} (m : Mt L xs 80 [.ref 15, .int x, .int y, .int 1, .int o] (MH g0 g1 g2 g3 g4 g5 g6 g7 g8 g9 g10 g11 g12 g13 g14 th w q tm sd bi ed ra fr ah bk wt gp gq mv cn mc mk rest) (some (.int r)) h' 0 0) (hr : r = 0 ∨ r = 1) : Mt L xs 81 [.ref 15, .int x, .int y, .int o] (MH g0 g1 g2 g3 g4 g5 g6 g7 g8 g9 g10 g11 g12 g13 g14 th w q tm sd bi ed ra fr ah bk wt gp gq mv cn mc mk rest) (some (.int r)) h' 0 0 := by
  show Ev L xs 81 (0, [.ref 15, .int x, .int y, .int o], [], _, 0, 0) _
  (repeat refine ev_step rfl rfl ?_)
  refine ev_i5 rfl rfl (Nat.le_of_ble_eq_true rfl) (Nat.le_of_ble_eq_true rfl) rfl (m) ?_
  exact ev_r2 rfl hr
theorem mm_sink {L : Nat} {xs : Nat → Int32} {g0 g1 g2 g3 g4 g5 g6 g7 g8 g9 g10 g11 g12 g13 g14 : ac_C} {th : Int32} {w q : Nat} {tm sd : Int32} {bi ed ra fr ah bk : Nat → Int32} {wt gp gq mv : Int32} {cn : Nat} {mc mk : Nat → Int32} {rest : ac_H} {x y o r : Int32} {h' : ac_H} (m : Mt L xs 80 [.ref 15, .int x, .int y, .int 3, .int o] (MH g0 g1 g2 g3 g4 g5 g6 g7 g8 g9 g10 g11 g12 g13 g14 th w q tm sd bi ed ra fr ah bk wt gp gq mv cn mc mk rest) (some (.int r)) h' 0 0) (hr : r = 0 ∨ r = 1) : Mt L xs 83 [.ref 15, .int x, .int y, .int o] (MH g0 g1 g2 g3 g4 g5 g6 g7 g8 g9 g10 g11 g12 g13 g14 th w q tm sd bi ed ra fr ah bk wt gp gq mv cn mc mk rest) (some (.int r)) h' 0 0 := by
  show Ev L xs 83 (0, [.ref 15, .int x, .int y, .int o], [], _, 0, 0) _
  (repeat refine ev_step rfl rfl ?_)
  refine ev_i5 rfl rfl (Nat.le_of_ble_eq_true rfl) (Nat.le_of_ble_eq_true rfl) rfl (m) ?_
  exact ev_r2 rfl hr
theorem mm_body {L : Nat} {xs : Nat → Int32} {g0 g1 g2 g3 g4 g5 g6 g7 g8 g9 g10 g11 g12 g13 g14 : ac_C} {th : Int32} {w q : Nat} {tm sd : Int32} {bi ed ra fr ah bk : Nat → Int32} {wt gp gq mv : Int32} {cn : Nat} {mc mk : Nat → Int32} {rest : ac_H} {x y o r : Int32} {h' : ac_H} (m : Mt L xs 80 [.ref 15, .int x, .int y, .int 4, .int o] (MH g0 g1 g2 g3 g4 g5 g6 g7 g8 g9 g10 g11 g12 g13 g14 th w q tm sd bi ed ra fr ah bk wt gp gq mv cn mc mk rest) (some (.int r)) h' 0 0) (hr : r = 0 ∨ r = 1) : Mt L xs 84 [.ref 15, .int x, .int y, .int o] (MH g0 g1 g2 g3 g4 g5 g6 g7 g8 g9 g10 g11 g12 g13 g14 th w q tm sd bi ed ra fr ah bk wt gp gq mv cn mc mk rest) (some (.int r)) h' 0 0 := by
  show Ev L xs 84 (0, [.ref 15, .int x, .int y, .int o], [], _, 0, 0) _
  (repeat refine ev_step rfl rfl ?_)
  refine ev_i5 rfl rfl (Nat.le_of_ble_eq_true rfl) (Nat.le_of_ble_eq_true rfl) rfl (m) ?_
  exact ev_r2 rfl hr
theorem mm_source {L : Nat} {xs : Nat → Int32} {g0 g1 g2 g3 g4 g5 g6 g7 g8 g9 g10 g11 g12 g13 g14 : ac_C} {th : Int32} {w q : Nat} {tm sd : Int32} {bi ed ra fr ah bk : Nat → Int32} {wt gp gq mv : Int32} {cn : Nat} {mc mk : Nat → Int32} {rest : ac_H} {a b : Nat} {v : Int32} (hw : sideOk w) (hq : sideOk q) (ha : a < w) (hb : b < q) (h1 : ¬ v < 0) (h2 : v ≤ 256) (h : ed (b * w + a) = 0 ∨ ed (b * w + a) = 2) : Mt L xs 82 [.ref 15, .int (nI a), .int (nI b), .int v] (MH g0 g1 g2 g3 g4 g5 g6 g7 g8 g9 g10 g11 g12 g13 g14 th w q tm sd bi ed ra fr ah bk wt gp gq mv cn mc mk rest) none (MH g0 g1 g2 g3 g4 g5 g6 g7 g8 g9 g10 g11 g12 g13 g14 (0) w q tm sd bi (upd ed (b * w + a) (if v ≤ 0 then 0 else 2)) (upd ra (b * w + a) v) fr ah bk wt gp gq mv cn mc mk rest) 0 0 := by
  have hn := side_n hw hq
  have hc := cell_lt ha hb
  show Ev L xs 82 (0, [.ref 15, .int (nI a), .int (nI b), .int v, ac_un], [], _, 0, 0) _
  (repeat refine ev_step rfl rfl ?_)
  refine ev_i3 rfl rfl (Nat.le_of_ble_eq_true rfl) (Nat.le_of_ble_eq_true rfl) rfl (mm_isCell hw hq ha hb) ?_
  (repeat refine ev_step rfl rfl ?_)
  refine ev_f h1 ?_
  (repeat refine ev_step rfl rfl ?_)
  refine ev_t h2 ?_
  (repeat refine ev_step rfl rfl ?_)
  rw [nI_mulw]
  refine ev_i3 rfl rfl (Nat.le_of_ble_eq_true rfl) (Nat.le_of_ble_eq_true rfl) rfl (mm_isOther (by omega)) ?_
  rw [decide_eq_false (fun q => q h)]
  (repeat refine ev_step rfl rfl ?_)
  rw [nI_mulw]
  refine ev_br (fun z => ?_) (fun z => ?_)
  · rw [if_pos z]
    (repeat refine ev_step rfl rfl ?_)
    refine ev_i4 rfl rfl (Nat.le_of_ble_eq_true rfl) (Nat.le_of_ble_eq_true rfl) rfl (mm_make (s := 2) (o := 0) (by omega) (by decide) (Or.inl rfl) h) ?_
    (repeat refine ev_step rfl rfl ?_)
    rw [nI_mulw]
    refine ev_is rfl rfl (b * w + a) (rfl) (by omega) (by omega) rfl ?_
    exact ev_r0 rfl
  · rw [if_neg z]
    (repeat refine ev_step rfl rfl ?_)
    refine ev_i4 rfl rfl (Nat.le_of_ble_eq_true rfl) (Nat.le_of_ble_eq_true rfl) rfl (mm_make (s := 2) (o := 1) (by omega) (by decide) (Or.inr rfl) h) ?_
    (repeat refine ev_step rfl rfl ?_)
    rw [nI_mulw]
    refine ev_is rfl rfl (b * w + a) (rfl) (by omega) (by omega) rfl ?_
    exact ev_r0 rfl
theorem mm_source1 {L : Nat} {xs : Nat → Int32} {g0 g1 g2 g3 g4 g5 g6 g7 g8 g9 g10 g11 g12 g13 g14 : ac_C} {th : Int32} {w q : Nat} {tm sd : Int32} {bi ed ra fr ah bk : Nat → Int32} {wt gp gq mv : Int32} {cn : Nat} {mc mk : Nat → Int32} {rest : ac_H} {x y v : Int32} (h : badXY w q x y) : Mt L xs 82 [.ref 15, .int x, .int y, .int v] (MH g0 g1 g2 g3 g4 g5 g6 g7 g8 g9 g10 g11 g12 g13 g14 th w q tm sd bi ed ra fr ah bk wt gp gq mv cn mc mk rest) none (MH g0 g1 g2 g3 g4 g5 g6 g7 g8 g9 g10 g11 g12 g13 g14 (1) w q tm sd bi ed ra fr ah bk wt gp gq mv cn mc mk rest) 0 0 := by
  show Ev L xs 82 (0, [.ref 15, .int x, .int y, .int v, ac_un], [], _, 0, 0) _
  (repeat refine ev_step rfl rfl ?_)
  refine ev_i3 rfl rfl (Nat.le_of_ble_eq_true rfl) (Nat.le_of_ble_eq_true rfl) rfl (mm_noCell h) ?_
  (repeat refine ev_step rfl rfl ?_)
  exact ev_r0 rfl
theorem mm_source2 {L : Nat} {xs : Nat → Int32} {g0 g1 g2 g3 g4 g5 g6 g7 g8 g9 g10 g11 g12 g13 g14 : ac_C} {th : Int32} {w q : Nat} {tm sd : Int32} {bi ed ra fr ah bk : Nat → Int32} {wt gp gq mv : Int32} {cn : Nat} {mc mk : Nat → Int32} {rest : ac_H} {a b : Nat} {v : Int32} (hw : sideOk w) (hq : sideOk q) (ha : a < w) (hb : b < q) (h : v < 0 ∨ ¬ v ≤ 256) : Mt L xs 82 [.ref 15, .int (nI a), .int (nI b), .int v] (MH g0 g1 g2 g3 g4 g5 g6 g7 g8 g9 g10 g11 g12 g13 g14 th w q tm sd bi ed ra fr ah bk wt gp gq mv cn mc mk rest) none (MH g0 g1 g2 g3 g4 g5 g6 g7 g8 g9 g10 g11 g12 g13 g14 (2) w q tm sd bi ed ra fr ah bk wt gp gq mv cn mc mk rest) 0 0 := by
  show Ev L xs 82 (0, [.ref 15, .int (nI a), .int (nI b), .int v, ac_un], [], _, 0, 0) _
  (repeat refine ev_step rfl rfl ?_)
  refine ev_i3 rfl rfl (Nat.le_of_ble_eq_true rfl) (Nat.le_of_ble_eq_true rfl) rfl (mm_isCell hw hq ha hb) ?_
  (repeat refine ev_step rfl rfl ?_)
  refine ev_br (fun _ => by (repeat refine ev_step rfl rfl ?_); exact ev_r0 rfl) (fun h1 => ?_)
  (repeat refine ev_step rfl rfl ?_)
  refine ev_f (fun h2 => h.elim h1 (fun z => z h2)) ?_
  (repeat refine ev_step rfl rfl ?_)
  exact ev_r0 rfl
theorem mm_source3 {L : Nat} {xs : Nat → Int32} {g0 g1 g2 g3 g4 g5 g6 g7 g8 g9 g10 g11 g12 g13 g14 : ac_C} {th : Int32} {w q : Nat} {tm sd : Int32} {bi ed ra fr ah bk : Nat → Int32} {wt gp gq mv : Int32} {cn : Nat} {mc mk : Nat → Int32} {rest : ac_H} {a b : Nat} {v : Int32} (hw : sideOk w) (hq : sideOk q) (ha : a < w) (hb : b < q) (h1 : ¬ v < 0) (h2 : v ≤ 256) (h : ¬ (ed (b * w + a) = 0 ∨ ed (b * w + a) = 2)) : Mt L xs 82 [.ref 15, .int (nI a), .int (nI b), .int v] (MH g0 g1 g2 g3 g4 g5 g6 g7 g8 g9 g10 g11 g12 g13 g14 th w q tm sd bi ed ra fr ah bk wt gp gq mv cn mc mk rest) none (MH g0 g1 g2 g3 g4 g5 g6 g7 g8 g9 g10 g11 g12 g13 g14 (3) w q tm sd bi ed ra fr ah bk wt gp gq mv cn mc mk rest) 0 0 := by
  have hn := side_n hw hq
  have hc := cell_lt ha hb
  show Ev L xs 82 (0, [.ref 15, .int (nI a), .int (nI b), .int v, ac_un], [], _, 0, 0) _
  (repeat refine ev_step rfl rfl ?_)
  refine ev_i3 rfl rfl (Nat.le_of_ble_eq_true rfl) (Nat.le_of_ble_eq_true rfl) rfl (mm_isCell hw hq ha hb) ?_
  (repeat refine ev_step rfl rfl ?_)
  refine ev_f h1 ?_
  (repeat refine ev_step rfl rfl ?_)
  refine ev_t h2 ?_
  (repeat refine ev_step rfl rfl ?_)
  rw [nI_mulw]
  refine ev_i3 rfl rfl (Nat.le_of_ble_eq_true rfl) (Nat.le_of_ble_eq_true rfl) rfl (mm_isOther (by omega)) ?_
  rw [decide_eq_true h]
  (repeat refine ev_step rfl rfl ?_)
  exact ev_r0 rfl
theorem mm_mass {L : Nat} {xs : Nat → Int32} {g0 g1 g2 g3 g4 g5 g6 g7 g8 g9 g10 g11 g12 g13 g14 : ac_C} {th : Int32} {w q : Nat} {tm sd : Int32} {bi ed ra fr ah bk : Nat → Int32} {wt gp gq mv : Int32} {cn : Nat} {mc mk : Nat → Int32} {rest : ac_H} {v : Int32} (h1 : ¬ v < 1) (h2 : v ≤ 10000) : Mt L xs 86 [.ref 15, .int v] (MH g0 g1 g2 g3 g4 g5 g6 g7 g8 g9 g10 g11 g12 g13 g14 th w q tm sd bi ed ra fr ah bk wt gp gq mv cn mc mk rest) none (MH g0 g1 g2 g3 g4 g5 g6 g7 g8 g9 g10 g11 g12 g13 g14 (0) w q tm sd bi ed ra fr ah bk (v) gp gq mv cn mc mk rest) 0 0 := by
  show Ev L xs 86 (0, [.ref 15, .int v], [], _, 0, 0) _
  (repeat refine ev_step rfl rfl ?_)
  refine ev_f h1 ?_
  (repeat refine ev_step rfl rfl ?_)
  refine ev_t h2 ?_
  (repeat refine ev_step rfl rfl ?_)
  exact ev_r0 rfl
theorem mm_mass1 {L : Nat} {xs : Nat → Int32} {g0 g1 g2 g3 g4 g5 g6 g7 g8 g9 g10 g11 g12 g13 g14 : ac_C} {th : Int32} {w q : Nat} {tm sd : Int32} {bi ed ra fr ah bk : Nat → Int32} {wt gp gq mv : Int32} {cn : Nat} {mc mk : Nat → Int32} {rest : ac_H} {v : Int32} (h : v < 1 ∨ ¬ v ≤ 10000) : Mt L xs 86 [.ref 15, .int v] (MH g0 g1 g2 g3 g4 g5 g6 g7 g8 g9 g10 g11 g12 g13 g14 th w q tm sd bi ed ra fr ah bk wt gp gq mv cn mc mk rest) none (MH g0 g1 g2 g3 g4 g5 g6 g7 g8 g9 g10 g11 g12 g13 g14 (1) w q tm sd bi ed ra fr ah bk wt gp gq mv cn mc mk rest) 0 0 := by
  show Ev L xs 86 (0, [.ref 15, .int v], [], _, 0, 0) _
  (repeat refine ev_step rfl rfl ?_)
  refine ev_br (fun _ => by (repeat refine ev_step rfl rfl ?_); exact ev_r0 rfl) (fun h1 => ?_)
  (repeat refine ev_step rfl rfl ?_)
  refine ev_f (fun h2 => h.elim h1 (fun z => z h2)) ?_
  (repeat refine ev_step rfl rfl ?_)
  exact ev_r0 rfl
theorem mm_account {L : Nat} {xs : Nat → Int32} {g0 g1 g2 g3 g4 g5 g6 g7 g8 g9 g10 g11 g12 g13 g14 : ac_C} {th : Int32} {w q : Nat} {tm sd : Int32} {bi ed ra fr ah bk : Nat → Int32} {wt gp gq mv : Int32} {cn : Nat} {mc mk : Nat → Int32} {rest : ac_H} {v : Int32} (h1 : ¬ v < 0) (h2 : v ≤ 2) : Mt L xs 87 [.ref 15, .int v] (MH g0 g1 g2 g3 g4 g5 g6 g7 g8 g9 g10 g11 g12 g13 g14 th w q tm sd bi ed ra fr ah bk wt gp gq mv cn mc mk rest) (some (.int (acF gp gq mv v))) (MH g0 g1 g2 g3 g4 g5 g6 g7 g8 g9 g10 g11 g12 g13 g14 (0) w q tm sd bi ed ra fr ah bk wt gp gq mv cn mc mk rest) 0 0 := by
  show Ev L xs 87 (0, [.ref 15, .int v], [], _, 0, 0) _
  obtain ⟨j, hj, rfl⟩ := nI_of2 (x := v) (M := 2) (n := 2) (by decide) h1 h2
  (repeat refine ev_step rfl rfl ?_)
  refine ev_f h1 ?_
  (repeat refine ev_step rfl rfl ?_)
  refine ev_t h2 ?_
  (repeat refine ev_step rfl rfl ?_)
  refine ev_br (fun z => ?_) (fun z => ?_)
  · have e : j = 2 := (nI_eq (a := j) (b := 2) (by omega) (by decide)).mp z
    subst e
    (repeat refine ev_step rfl rfl ?_)
    exact ev_r1 rfl
  · have e : j ≠ 2 := fun e => z (by rw [e]; rfl)
    (repeat refine ev_step rfl rfl ?_)
    refine ev_ia rfl rfl (j) (rfl) (by omega) (by decide) ?_
    have e2 : j = 0 ∨ j = 1 := by omega
    rcases e2 with rfl | rfl
    · exact ev_r1 rfl
    · exact ev_r1 rfl
theorem mm_account1 {L : Nat} {xs : Nat → Int32} {g0 g1 g2 g3 g4 g5 g6 g7 g8 g9 g10 g11 g12 g13 g14 : ac_C} {th : Int32} {w q : Nat} {tm sd : Int32} {bi ed ra fr ah bk : Nat → Int32} {wt gp gq mv : Int32} {cn : Nat} {mc mk : Nat → Int32} {rest : ac_H} {v : Int32} (h : v < 0 ∨ ¬ v ≤ 2) : Mt L xs 87 [.ref 15, .int v] (MH g0 g1 g2 g3 g4 g5 g6 g7 g8 g9 g10 g11 g12 g13 g14 th w q tm sd bi ed ra fr ah bk wt gp gq mv cn mc mk rest) (some (.int 0)) (MH g0 g1 g2 g3 g4 g5 g6 g7 g8 g9 g10 g11 g12 g13 g14 (1) w q tm sd bi ed ra fr ah bk wt gp gq mv cn mc mk rest) 0 0 := by
  show Ev L xs 87 (0, [.ref 15, .int v], [], _, 0, 0) _
  (repeat refine ev_step rfl rfl ?_)
  refine ev_br (fun _ => by (repeat refine ev_step rfl rfl ?_); exact ev_r1 rfl) (fun h1 => ?_)
  (repeat refine ev_step rfl rfl ?_)
  refine ev_f (fun h2 => h.elim h1 (fun z => z h2)) ?_
  (repeat refine ev_step rfl rfl ?_)
  exact ev_r1 rfl
theorem mm_seed {L : Nat} {xs : Nat → Int32} {g0 g1 g2 g3 g4 g5 g6 g7 g8 g9 g10 g11 g12 g13 g14 : ac_C} {th : Int32} {w q : Nat} {tm sd : Int32} {bi ed ra fr ah bk : Nat → Int32} {wt gp gq mv : Int32} {cn : Nat} {mc mk : Nat → Int32} {rest : ac_H} {v : Int32} : Mt L xs 88 [.ref 15, .int v] (MH g0 g1 g2 g3 g4 g5 g6 g7 g8 g9 g10 g11 g12 g13 g14 th w q tm sd bi ed ra fr ah bk wt gp gq mv cn mc mk rest) none (MH g0 g1 g2 g3 g4 g5 g6 g7 g8 g9 g10 g11 g12 g13 g14 (0) w q tm (v) bi ed ra fr ah bk wt gp gq mv cn mc mk rest) 0 0 := by
  show Ev L xs 88 (0, [.ref 15, .int v], [], _, 0, 0) _
  (repeat refine ev_step rfl rfl ?_)
  exact ev_r0 rfl
