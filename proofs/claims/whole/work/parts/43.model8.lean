/-! ===== the plain form: what moving needs ===== -/
theorem mm_countOf {L : Nat} {xs : Nat → Int32} {g0 g1 g2 g3 g4 g5 g6 g7 g8 g9 g10 g11 g12 g13 g14 : ac_C} {th : Int32} {w q : Nat} {tm sd : Int32} {bi ed ra fr ah bk : Nat → Int32} {wt gp gq mv : Int32} {cn : Nat} {mc mk : Nat → Int32} {rest : ac_H} {s : Int32} (hw : sideOk w) (hq : sideOk q) : Mt L xs 99 [.ref 15, .int s] (MH g0 g1 g2 g3 g4 g5 g6 g7 g8 g9 g10 g11 g12 g13 g14 th w q tm sd bi ed ra fr ah bk wt gp gq mv cn mc mk rest) (some (.int (nI (fl (fun c => decide (ed c = s)) (w * q)).length))) (MH g0 g1 g2 g3 g4 g5 g6 g7 g8 g9 g10 g11 g12 g13 g14 th w q tm sd bi ed ra fr ah bk wt gp gq mv cn mc mk rest) 0 0 := by
  have hn := side_n hw hq
  have it : ∀ (n c : Nat), c + n = w * q → Ev L xs 99 (4, [.ref 15, .int s, .int (nI (fl (fun c => decide (ed c = s)) c).length), .int (nI c)], [], (MH g0 g1 g2 g3 g4 g5 g6 g7 g8 g9 g10 g11 g12 g13 g14 th w q tm sd bi ed ra fr ah bk wt gp gq mv cn mc mk rest), 0, 0) (.inl (some (.int (nI (fl (fun c => decide (ed c = s)) (w * q)).length))), (MH g0 g1 g2 g3 g4 g5 g6 g7 g8 g9 g10 g11 g12 g13 g14 th w q tm sd bi ed ra fr ah bk wt gp gq mv cn mc mk rest), 0, 0) := by
    intro n
    induction n with
    | zero =>
      intro c hc
      have e : c = w * q := by omega
      rw [e]
      (repeat refine ev_step rfl rfl ?_)
      rw [nI_mul]
      refine ev_t (nI_le (Nat.le_refl _) (by omega)) ?_
      (repeat refine ev_step rfl rfl ?_)
      exact ev_r1 rfl
    | succ n ih =>
      intro c hc
      have ih1 := ih (c + 1) (by omega)
      rw [fl_s] at ih1
      (repeat refine ev_step rfl rfl ?_)
      rw [nI_mul]
      refine ev_f (nI_ge (a := c) (b := w * q) (by omega) (by omega)) ?_
      (repeat refine ev_step rfl rfl ?_)
      refine ev_ia rfl rfl (c) (rfl) (by omega) (by omega) ?_
      iterate 2 (refine ev_step rfl rfl ?_)
      refine ev_br (fun z => ?_) (fun z => ?_)
      · rw [if_pos (decide_eq_true z), List.length_append, List.length_singleton] at ih1
        iterate 7 (refine ev_step rfl rfl ?_)
        rw [nI_1, nI_1]
        exact ih1
      · rw [if_neg (fun q => z (of_decide_eq_true q))] at ih1
        iterate 4 (refine ev_step rfl rfl ?_)
        rw [nI_1]
        exact ih1
  show Ev L xs 99 (0, [.ref 15, .int s, ac_un, ac_un], [], _, 0, 0) _
  iterate 4 (refine ev_step rfl rfl ?_)
  exact it (w * q) 0 (Nat.zero_add _)
theorem mm_along {L : Nat} {xs : Nat → Int32} {g0 g1 g2 g3 g4 g5 g6 g7 g8 g9 g10 g11 g12 g13 g14 : ac_C} {th : Int32} {w q : Nat} {tm sd : Int32} {bi ed ra fr ah bk : Nat → Int32} {wt gp gq mv : Int32} {cn : Nat} {mc mk : Nat → Int32} {rest : ac_H} {d : Nat} (hd : d < 6) : Mt L xs 100 [.ref 15, .int (nI d)] (MH g0 g1 g2 g3 g4 g5 g6 g7 g8 g9 g10 g11 g12 g13 g14 th w q tm sd bi ed ra fr ah bk wt gp gq mv cn mc mk rest) (some (.int (ac_tab 2 d * gp + ac_tab 3 d * gq))) (MH g0 g1 g2 g3 g4 g5 g6 g7 g8 g9 g10 g11 g12 g13 g14 th w q tm sd bi ed ra fr ah bk wt gp gq mv cn mc mk rest) 0 0 := by
  show Ev L xs 100 (0, [.ref 15, .int (nI d), ac_un, ac_un], [], _, 0, 0) _
  iterate 3 (refine ev_step rfl rfl ?_)
  refine ev_ia rfl rfl (0) (rfl) (by decide) (by decide) ?_
  iterate 4 (refine ev_step rfl rfl ?_)
  refine ev_ia rfl rfl (1) (rfl) (by decide) (by decide) ?_
  have ea : acA gp gq 0 = gp := rfl
  have eb : acA gp gq 1 = gq := rfl
  rw [ea, eb]
  have hd' : d = 0 ∨ d = 1 ∨ d = 2 ∨ d = 3 ∨ d = 4 ∨ d = 5 := by omega
  rcases hd' with rfl | rfl | rfl | rfl | rfl | rfl
  · rw [show ac_tab 2 0 * gp + ac_tab 3 0 * gq = 2 * gp + gq by rw [show ac_tab 2 0 = 2 from rfl, show ac_tab 3 0 = 1 from rfl, Int32.one_mul]]
    (repeat refine ev_step rfl rfl ?_)
    exact ev_r1 rfl
  · rw [show ac_tab 2 1 * gp + ac_tab 3 1 * gq = gp + 2 * gq by rw [show ac_tab 2 1 = 1 from rfl, show ac_tab 3 1 = 2 from rfl, Int32.one_mul]]
    (repeat refine ev_step rfl rfl ?_)
    exact ev_r1 rfl
  · rw [show ac_tab 2 2 * gp + ac_tab 3 2 * gq = gq - gp by rw [show ac_tab 2 2 = -1 from rfl, show ac_tab 3 2 = 1 from rfl, Int32.one_mul, Int32.neg_mul, Int32.one_mul, Int32.add_comm, Int32.sub_eq_add_neg]]
    (repeat refine ev_step rfl rfl ?_)
    exact ev_r1 rfl
  · rw [show ac_tab 2 3 * gp + ac_tab 3 3 * gq = -2 * gp - gq by rw [show ac_tab 2 3 = -2 from rfl, show ac_tab 3 3 = -1 from rfl, Int32.neg_mul 1 gq, Int32.one_mul, Int32.sub_eq_add_neg]]
    (repeat refine ev_step rfl rfl ?_)
    exact ev_r1 rfl
  · rw [show ac_tab 2 4 * gp + ac_tab 3 4 * gq = -gp - 2 * gq by rw [show ac_tab 2 4 = -1 from rfl, show ac_tab 3 4 = -2 from rfl, Int32.neg_mul 1 gp, Int32.one_mul, Int32.neg_mul 2 gq, Int32.sub_eq_add_neg]]
    (repeat refine ev_step rfl rfl ?_)
    exact ev_r1 rfl
  · rw [show ac_tab 2 5 * gp + ac_tab 3 5 * gq = gp - gq by rw [show ac_tab 2 5 = 1 from rfl, show ac_tab 3 5 = -1 from rfl, Int32.one_mul, Int32.neg_mul 1 gq, Int32.one_mul, Int32.sub_eq_add_neg]]
    (repeat refine ev_step rfl rfl ?_)
    exact ev_r1 rfl
theorem swap_it {L : Nat} {xs : Nat → Int32} {g0 g1 g2 g3 g4 g5 g6 g7 g8 g9 g10 g11 g12 g13 g14 : ac_C} {th : Int32} {w q : Nat} {tm sd : Int32} {bi ed ra fr ah bk : Nat → Int32} {wt gp gq mv : Int32} {cn : Nat} {mc mk : Nat → Int32} {rest : ac_H} {a b : Nat} {u : Value} (hcn : cn ≤ 4) : ∀ (n i : Nat), i + n = cn → Ev L xs 101 (29, [.ref 15, .int (nI a), .int (nI b), u, .int (nI i)], [], (MH g0 g1 g2 g3 g4 g5 g6 g7 g8 g9 g10 g11 g12 g13 g14 th w q tm sd bi ed ra fr ah bk wt gp gq mv cn (pre i (exF (nI a) (nI b) mc) mc) mk rest), 0, 0) (.inl none, (MH g0 g1 g2 g3 g4 g5 g6 g7 g8 g9 g10 g11 g12 g13 g14 th w q tm sd bi ed ra fr ah bk wt gp gq mv cn (pre cn (exF (nI a) (nI b) mc) mc) mk rest), 0, 0) := by
  intro n
  induction n with
  | zero =>
    intro i hi
    have e : i = cn := by omega
    rw [e]
    (repeat refine ev_step rfl rfl ?_)
    refine ev_t (nI_le (Nat.le_refl _) (by omega)) ?_
    exact ev_r0 rfl
  | succ n ih =>
    intro i hi
    have ih1 := ih (i + 1) (by omega)
    rw [← pre_put] at ih1
    unfold exF at ih1
    (repeat refine ev_step rfl rfl ?_)
    refine ev_f (nI_ge (a := i) (b := cn) (by omega) (by omega)) ?_
    (repeat refine ev_step rfl rfl ?_)
    refine ev_ia rfl rfl (i) (rfl) (by omega) (by omega) ?_
    rw [pre_at]
    iterate 2 (refine ev_step rfl rfl ?_)
    refine ev_br (fun z => ?_) (fun z => ?_)
    · rw [if_pos z] at ih1
      (repeat refine ev_step rfl rfl ?_)
      refine ev_is rfl rfl (i) (rfl) (by omega) (by omega) rfl ?_
      iterate 2 (refine ev_step rfl rfl ?_)
      rw [nI_1]
      exact ih1
    · rw [if_neg z] at ih1
      (repeat refine ev_step rfl rfl ?_)
      refine ev_ia rfl rfl (i) (rfl) (by omega) (by omega) ?_
      rw [pre_at]
      iterate 2 (refine ev_step rfl rfl ?_)
      refine ev_br (fun z2 => ?_) (fun z2 => ?_)
      · rw [if_pos z2] at ih1
        (repeat refine ev_step rfl rfl ?_)
        refine ev_is rfl rfl (i) (rfl) (by omega) (by omega) rfl ?_
        iterate 2 (refine ev_step rfl rfl ?_)
        rw [nI_1]
        exact ih1
      · rw [if_neg z2] at ih1
        (repeat refine ev_step rfl rfl ?_)
        refine ev_ia rfl rfl (i) (rfl) (by omega) (by omega) ?_
        rw [pre_at]
        refine ev_is rfl rfl (i) (rfl) (by omega) (by omega) rfl ?_
        iterate 2 (refine ev_step rfl rfl ?_)
        rw [nI_1]
        exact ih1
theorem mm_swap {L : Nat} {xs : Nat → Int32} {g0 g1 g2 g3 g4 g5 g6 g7 g8 g9 g10 g11 g12 g13 g14 : ac_C} {th : Int32} {w q : Nat} {tm sd : Int32} {bi ed ra fr ah bk : Nat → Int32} {wt gp gq mv : Int32} {cn : Nat} {mc mk : Nat → Int32} {rest : ac_H} {a b : Nat} (ha : a < 256) (hb : b < 256) (hcn : cn ≤ 4) : Mt L xs 101 [.ref 15, .int (nI a), .int (nI b)] (MH g0 g1 g2 g3 g4 g5 g6 g7 g8 g9 g10 g11 g12 g13 g14 th w q tm sd bi ed ra fr ah bk wt gp gq mv cn mc mk rest) none (MH g0 g1 g2 g3 g4 g5 g6 g7 g8 g9 g10 g11 g12 g13 g14 th w q tm sd (swB bi a b) ed ra fr ah bk wt gp gq mv cn (pre cn (exF (nI a) (nI b) mc) mc) mk rest) 0 0 := by
  have h := swap_it (L := L) (xs := xs) (g0 := g0) (g1 := g1) (g2 := g2) (g3 := g3) (g4 := g4) (g5 := g5) (g6 := g6) (g7 := g7) (g8 := g8) (g9 := g9) (g10 := g10) (g11 := g11) (g12 := g12) (g13 := g13) (g14 := g14) (th := th) (w := w) (q := q) (tm := tm) (sd := sd) (ed := ed) (ra := ra) (fr := fr) (ah := ah) (bk := bk) (wt := wt) (gp := gp) (gq := gq) (mv := mv) (cn := cn) (mc := mc) (mk := mk) (rest := rest) (bi := swB bi a b) (a := a) (b := b) (u := .int (bi a)) hcn cn 0 (Nat.zero_add _)
  rw [pre_0] at h
  show Ev L xs 101 (0, [.ref 15, .int (nI a), .int (nI b), ac_un, ac_un], [], _, 0, 0) _
  (repeat refine ev_step rfl rfl ?_)
  refine ev_ia rfl rfl (a) (rfl) (ha) (by omega) ?_
  (repeat refine ev_step rfl rfl ?_)
  refine ev_ia rfl rfl (b) (rfl) (hb) (by omega) ?_
  refine ev_is rfl rfl (a) (rfl) (ha) (by omega) rfl ?_
  (repeat refine ev_step rfl rfl ?_)
  refine ev_is rfl rfl (b) (rfl) (hb) (by omega) rfl ?_
  iterate 2 (refine ev_step rfl rfl ?_)
  exact h
/-! the cells of a kind, from c on -/
def glL (p : Nat → Bool) : Nat → Nat → List Nat
  | 0, _ => []
  | n + 1, c => if p c = true then c :: glL p n (c + 1) else glL p n (c + 1)
theorem gl_fl (p : Nat → Bool) : ∀ n c, fl p c ++ glL p n c = fl p (c + n) := by
  intro n
  induction n with
  | zero => intro c; rw [glL, List.append_nil]; rfl
  | succ n ih =>
    intro c
    rw [show c + (n + 1) = c + 1 + n by omega, ← ih (c + 1), fl_s, glL]
    split
    · rw [List.append_assoc]; rfl
    · rfl
theorem gl_0 (p : Nat → Bool) (n : Nat) : glL p n 0 = fl p n := by
  have h := gl_fl p n 0
  rw [Nat.zero_add] at h
  exact h
theorem gl_cons (p : Nat → Bool) : ∀ n c a as, glL p n c = a :: as → a < c + n ∧ c ≤ a ∧ p a = true ∧ as = glL p (c + n - (a + 1)) (a + 1) := by
  intro n
  induction n with
  | zero => intro c a as h; cases h
  | succ n ih =>
    intro c a as h
    rw [glL] at h
    split at h
    · rename_i hp
      injection h with h1 h2
      subst h1
      refine ⟨by omega, Nat.le_refl _, hp, ?_⟩
      rw [← h2, show c + (n + 1) - (c + 1) = n by omega]
    · obtain ⟨h1, h2, h3, h4⟩ := ih (c + 1) a as h
      refine ⟨by omega, by omega, h3, ?_⟩
      rw [h4, show c + 1 + n = c + (n + 1) by omega]
def hdL : List Nat → Int32
  | [] => -1
  | a :: _ => nI a
theorem next_0 {L : Nat} {xs : Nat → Int32} {g0 g1 g2 g3 g4 g5 g6 g7 g8 g9 g10 g11 g12 g13 g14 : ac_C} {th : Int32} {w q : Nat} {tm sd : Int32} {bi ed ra fr ah bk : Nat → Int32} {wt gp gq mv : Int32} {cn : Nat} {mc mk : Nat → Int32} {rest : ac_H} {p : Nat → Bool} {x : Value} (hw : sideOk w) (hq : sideOk q) (hp : ∀ c, c < w * q → p c = (!decide (ed c = 4) && !decide (ah c = 0))) : ∀ (n c : Nat), c + n = w * q → Ev L xs 102 (2, [.ref 15, x, .int 0, .int (nI c)], [], (MH g0 g1 g2 g3 g4 g5 g6 g7 g8 g9 g10 g11 g12 g13 g14 th w q tm sd bi ed ra fr ah bk wt gp gq mv cn mc mk rest), 0, 0) (.inl (some (.int (hdL (glL p n c)))), (MH g0 g1 g2 g3 g4 g5 g6 g7 g8 g9 g10 g11 g12 g13 g14 th w q tm sd bi ed ra fr ah bk wt gp gq mv cn mc mk rest), 0, 0) := by
  have hn := side_n hw hq
  intro n
  induction n with
  | zero =>
    intro c hc
    have e : c = w * q := by omega
    rw [e]
    (repeat refine ev_step rfl rfl ?_)
    rw [nI_mul]
    refine ev_t (nI_le (Nat.le_refl _) (by omega)) ?_
    (repeat refine ev_step rfl rfl ?_)
    exact ev_r1 rfl
  | succ n ih =>
    intro c hc
    have ih1 := ih (c + 1) (by omega)
    have hpc := hp c (by omega)
    rw [glL]
    (repeat refine ev_step rfl rfl ?_)
    rw [nI_mul]
    refine ev_f (nI_ge (a := c) (b := w * q) (by omega) (by omega)) ?_
    (repeat refine ev_step rfl rfl ?_)
    refine ev_ia rfl rfl (c) (rfl) (by omega) (by omega) ?_
    iterate 2 (refine ev_step rfl rfl ?_)
    refine ev_br (fun z => ?_) (fun z => ?_)
    · rw [decide_eq_true z] at hpc
      rw [hpc, if_neg (by simp)]
      iterate 2 (refine ev_step rfl rfl ?_)
      rw [nI_1]
      exact ih1
    · rw [decide_eq_false z] at hpc
      (repeat refine ev_step rfl rfl ?_)
      refine ev_za rfl rfl (c) (rfl) (by omega) (by omega) ?_
      iterate 1 (refine ev_step rfl rfl ?_)
      refine ev_br (fun z2 => ?_) (fun z2 => ?_)
      · rw [decide_eq_true z2] at hpc
        rw [hpc, if_neg (by simp)]
        iterate 2 (refine ev_step rfl rfl ?_)
        rw [nI_1]
        exact ih1
      · rw [decide_eq_false z2] at hpc
        rw [hpc, if_pos (by simp)]
        (repeat refine ev_step rfl rfl ?_)
        exact ev_r1 rfl
theorem next_1 {L : Nat} {xs : Nat → Int32} {g0 g1 g2 g3 g4 g5 g6 g7 g8 g9 g10 g11 g12 g13 g14 : ac_C} {th : Int32} {w q : Nat} {tm sd : Int32} {bi ed ra fr ah bk : Nat → Int32} {wt gp gq mv : Int32} {cn : Nat} {mc mk : Nat → Int32} {rest : ac_H} {p : Nat → Bool} {x : Value} (hw : sideOk w) (hq : sideOk q) (hp : ∀ c, c < w * q → p c = (decide (ed c = 4) && decide (ah c = 0))) : ∀ (n c : Nat), c + n = w * q → Ev L xs 102 (2, [.ref 15, x, .int 1, .int (nI c)], [], (MH g0 g1 g2 g3 g4 g5 g6 g7 g8 g9 g10 g11 g12 g13 g14 th w q tm sd bi ed ra fr ah bk wt gp gq mv cn mc mk rest), 0, 0) (.inl (some (.int (hdL (glL p n c)))), (MH g0 g1 g2 g3 g4 g5 g6 g7 g8 g9 g10 g11 g12 g13 g14 th w q tm sd bi ed ra fr ah bk wt gp gq mv cn mc mk rest), 0, 0) := by
  have hn := side_n hw hq
  intro n
  induction n with
  | zero =>
    intro c hc
    have e : c = w * q := by omega
    rw [e]
    (repeat refine ev_step rfl rfl ?_)
    rw [nI_mul]
    refine ev_t (nI_le (Nat.le_refl _) (by omega)) ?_
    (repeat refine ev_step rfl rfl ?_)
    exact ev_r1 rfl
  | succ n ih =>
    intro c hc
    have ih1 := ih (c + 1) (by omega)
    have hpc := hp c (by omega)
    rw [glL]
    (repeat refine ev_step rfl rfl ?_)
    rw [nI_mul]
    refine ev_f (nI_ge (a := c) (b := w * q) (by omega) (by omega)) ?_
    (repeat refine ev_step rfl rfl ?_)
    refine ev_ia rfl rfl (c) (rfl) (by omega) (by omega) ?_
    iterate 2 (refine ev_step rfl rfl ?_)
    refine ev_br (fun z => ?_) (fun z => ?_)
    · rw [decide_eq_true z] at hpc
      (repeat refine ev_step rfl rfl ?_)
      refine ev_za rfl rfl (c) (rfl) (by omega) (by omega) ?_
      iterate 1 (refine ev_step rfl rfl ?_)
      refine ev_br (fun z2 => ?_) (fun z2 => ?_)
      · rw [decide_eq_true z2] at hpc
        rw [hpc, if_pos (by simp)]
        (repeat refine ev_step rfl rfl ?_)
        exact ev_r1 rfl
      · rw [decide_eq_false z2] at hpc
        rw [hpc, if_neg (by simp)]
        iterate 2 (refine ev_step rfl rfl ?_)
        rw [nI_1]
        exact ih1
    · rw [decide_eq_false z] at hpc
      rw [hpc, if_neg (by simp)]
      iterate 2 (refine ev_step rfl rfl ?_)
      rw [nI_1]
      exact ih1
theorem mm_next0 {L : Nat} {xs : Nat → Int32} {g0 g1 g2 g3 g4 g5 g6 g7 g8 g9 g10 g11 g12 g13 g14 : ac_C} {th : Int32} {w q : Nat} {tm sd : Int32} {bi ed ra fr ah bk : Nat → Int32} {wt gp gq mv : Int32} {cn : Nat} {mc mk : Nat → Int32} {rest : ac_H} {p : Nat → Bool} {c : Nat} (hw : sideOk w) (hq : sideOk q) (hp : ∀ c, c < w * q → p c = (!decide (ed c = 4) && !decide (ah c = 0))) (hc : c ≤ w * q) : Mt L xs 102 [.ref 15, .int (nI c), .int 0] (MH g0 g1 g2 g3 g4 g5 g6 g7 g8 g9 g10 g11 g12 g13 g14 th w q tm sd bi ed ra fr ah bk wt gp gq mv cn mc mk rest) (some (.int (hdL (glL p (w * q - c) c)))) (MH g0 g1 g2 g3 g4 g5 g6 g7 g8 g9 g10 g11 g12 g13 g14 th w q tm sd bi ed ra fr ah bk wt gp gq mv cn mc mk rest) 0 0 := by
  show Ev L xs 102 (0, [.ref 15, .int (nI c), .int 0, ac_un], [], _, 0, 0) _
  iterate 2 (refine ev_step rfl rfl ?_)
  exact next_0 hw hq hp (w * q - c) c (by omega)
theorem mm_next1 {L : Nat} {xs : Nat → Int32} {g0 g1 g2 g3 g4 g5 g6 g7 g8 g9 g10 g11 g12 g13 g14 : ac_C} {th : Int32} {w q : Nat} {tm sd : Int32} {bi ed ra fr ah bk : Nat → Int32} {wt gp gq mv : Int32} {cn : Nat} {mc mk : Nat → Int32} {rest : ac_H} {p : Nat → Bool} {c : Nat} (hw : sideOk w) (hq : sideOk q) (hp : ∀ c, c < w * q → p c = (decide (ed c = 4) && decide (ah c = 0))) (hc : c ≤ w * q) : Mt L xs 102 [.ref 15, .int (nI c), .int 1] (MH g0 g1 g2 g3 g4 g5 g6 g7 g8 g9 g10 g11 g12 g13 g14 th w q tm sd bi ed ra fr ah bk wt gp gq mv cn mc mk rest) (some (.int (hdL (glL p (w * q - c) c)))) (MH g0 g1 g2 g3 g4 g5 g6 g7 g8 g9 g10 g11 g12 g13 g14 th w q tm sd bi ed ra fr ah bk wt gp gq mv cn mc mk rest) 0 0 := by
  show Ev L xs 102 (0, [.ref 15, .int (nI c), .int 1, ac_un], [], _, 0, 0) _
  iterate 2 (refine ev_step rfl rfl ?_)
  exact next_1 hw hq hp (w * q - c) c (by omega)
