/-! ===== the plain form: the body moves ===== -/
theorem mhd_it {L : Nat} {xs : Nat → Int32} {g0 g1 g2 g3 g4 g5 g6 g7 g8 g9 g10 g11 g12 g13 g14 : ac_C} {th : Int32} {w q : Nat} {tm sd : Int32} {bi ed ra fr ah bk : Nat → Int32} {wt gp gq mv : Int32} {cn : Nat} {mc mk : Nat → Int32} {rest : ac_H} {R : ac_R} {u2 u3 u4 u5 : Value} : ∀ (n d : Nat), d + n = 6 → (hdF wt gp gq n d = -1 → Ev L xs 103 (28, [.ref 15, .int (nI 6), u2, u3, u4, u5], [], (MH g0 g1 g2 g3 g4 g5 g6 g7 g8 g9 g10 g11 g12 g13 g14 th w q tm sd bi ed ra fr ah bk wt gp gq mv cn mc mk rest), 0, 0) R) → (∀ e, e < 6 → hdF wt gp gq n d = nI e → Ev L xs 103 (28, [.ref 15, .int (nI e), u2, u3, u4, u5], [], (MH g0 g1 g2 g3 g4 g5 g6 g7 g8 g9 g10 g11 g12 g13 g14 th w q tm sd bi ed ra fr ah bk wt gp gq mv cn mc mk rest), 0, 0) R) → Ev L xs 103 (2, [.ref 15, .int (nI d), u2, u3, u4, u5], [], (MH g0 g1 g2 g3 g4 g5 g6 g7 g8 g9 g10 g11 g12 g13 g14 th w q tm sd bi ed ra fr ah bk wt gp gq mv cn mc mk rest), 0, 0) R := by
  intro n
  induction n with
  | zero =>
    intro d hd h1 h2
    have e : d = 6 := by omega
    subst e
    iterate 3 (refine ev_step rfl rfl ?_)
    exact h1 rfl
  | succ n ih =>
    intro d hd h1 h2
    rw [hdF] at h1 h2
    iterate 3 (refine ev_step rfl rfl ?_)
    refine ev_f (nI_ge (a := d) (b := 6) (by omega) (by decide)) ?_
    (repeat refine ev_step rfl rfl ?_)
    refine ev_i2 rfl rfl (Nat.le_of_ble_eq_true rfl) (Nat.le_of_ble_eq_true rfl) rfl (mm_along (show d < 6 by omega)) ?_
    (repeat refine ev_step rfl rfl ?_)
    refine ev_br (fun z => ?_) (fun z => ?_)
    · have z2 : ¬ ac_tab 2 d * gp + ac_tab 3 d * gq < 2 * wt := Int32.not_lt.mpr z
      rw [if_neg z2] at h2
      exact h2 d (by omega) rfl
    · have z2 : ac_tab 2 d * gp + ac_tab 3 d * gq < 2 * wt := Int32.not_le.mp z
      rw [if_pos z2] at h1 h2
      iterate 2 (refine ev_step rfl rfl ?_)
      rw [nI_1]
      exact ih (d + 1) (by omega) h1 h2
theorem mah_it {L : Nat} {xs : Nat → Int32} {g0 g1 g2 g3 g4 g5 g6 g7 g8 g9 g10 g11 g12 g13 g14 : ac_C} {th : Int32} {w q : Nat} {tm sd : Int32} {bi ed ra fr ah bk : Nat → Int32} {wt gp gq mv : Int32} {cn : Nat} {mc mk : Nat → Int32} {rest : ac_H} {R : ac_R} {u1 u2 u4 u5 : Value} (hw : sideOk w) (hq : sideOk q) (kk : Ev L xs 103 (73, [.ref 15, u1, u2, .int (nI (w * q)), u4, u5], [], (MH g0 g1 g2 g3 g4 g5 g6 g7 g8 g9 g10 g11 g12 g13 g14 th w q tm sd bi ed ra fr (pre (w * q) (fun _ => 0) ah) bk wt gp gq mv cn mc mk rest), 0, 0) R) : ∀ (n c : Nat), c + n = w * q → Ev L xs 103 (47, [.ref 15, u1, u2, .int (nI c), u4, u5], [], (MH g0 g1 g2 g3 g4 g5 g6 g7 g8 g9 g10 g11 g12 g13 g14 th w q tm sd bi ed ra fr (pre c (fun _ => 0) ah) bk wt gp gq mv cn mc mk rest), 0, 0) R := by
  have hn := side_n hw hq
  intro n
  induction n with
  | zero =>
    intro c hc
    have e : c = w * q := by omega
    rw [e]
    (repeat refine ev_step rfl rfl ?_)
    rw [nI_mul]
    refine ev_t (nI_le (Nat.le_refl _) (by omega)) ?_
    exact kk
  | succ n ih =>
    intro c hc
    have ih1 := ih (c + 1) (by omega)
    rw [← pre_put] at ih1
    (repeat refine ev_step rfl rfl ?_)
    rw [nI_mul]
    refine ev_f (nI_ge (a := c) (b := w * q) (by omega) (by omega)) ?_
    (repeat refine ev_step rfl rfl ?_)
    refine ev_zs rfl rfl (c) (rfl) (by omega) (by omega) rfl ?_
    iterate 2 (refine ev_step rfl rfl ?_)
    rw [nI_1]
    exact ih1
def ahF (w q : Nat) (ed : Nat → Int32) (d c : Nat) (ah : Nat → Int32) : Nat → Int32 := fun j => if j < w * q then bI (decide (ed (nbC w q j (d + 3)) = 4) && decide (nbC w q j (d + 3) < c)) else ah j
theorem ah_0 {w q : Nat} {ed : Nat → Int32} {d : Nat} {ah : Nat → Int32} : ahF w q ed d 0 ah = pre (w * q) (fun _ => 0) ah := by
  funext j
  unfold ahF pre
  split
  · rw [decide_eq_false (Nat.not_lt_zero _), Bool.and_false]; rfl
  · rfl
theorem ah_put {w q : Nat} {ed : Nat → Int32} {d c : Nat} {ah : Nat → Int32} (hw : sideOk w) (hq : sideOk q) (hc : c < w * q) (h4 : ed c = 4) : upd (ahF w q ed d c ah) (nbC w q c d) 1 = ahF w q ed d (c + 1) ah := by
  funext j
  unfold upd ahF
  by_cases h : j = nbC w q c d
  · subst h
    rw [if_pos rfl, if_pos (nbC_lt hw hq hc d), nbC_back hw hq hc d, decide_eq_true h4, decide_eq_true (Nat.lt_succ_self c)]
    rfl
  · rw [if_neg h]
    split
    · rename_i hj
      have hne : nbC w q j (d + 3) ≠ c := fun e => h (by rw [← e, nbC_back2 hw hq hj d])
      have : decide (nbC w q j (d + 3) < c) = decide (nbC w q j (d + 3) < c + 1) := by congr 1; exact propext ⟨fun _ => by omega, fun _ => by omega⟩
      rw [this]
    · rfl
theorem ah_skip {w q : Nat} {ed : Nat → Int32} {d c : Nat} {ah : Nat → Int32} (h4 : ¬ ed c = 4) : ahF w q ed d (c + 1) ah = ahF w q ed d c ah := by
  funext j
  unfold ahF
  split
  · by_cases h : nbC w q j (d + 3) = c
    · rw [h, decide_eq_false h4, Bool.false_and, Bool.false_and]
    · have : decide (nbC w q j (d + 3) < c + 1) = decide (nbC w q j (d + 3) < c) := by congr 1; exact propext ⟨fun _ => by omega, fun _ => by omega⟩
      rw [this]
  · rfl
def fre (w q : Nat) (ed : Nat → Int32) (d : Nat) : Nat → Bool
  | 0 => true
  | c + 1 => fre w q ed d c && (!decide (ed c = 4) || decide (ed (nbC w q c d) = 0 ∨ ed (nbC w q c d) = 4))
theorem mfr_it {L : Nat} {xs : Nat → Int32} {g0 g1 g2 g3 g4 g5 g6 g7 g8 g9 g10 g11 g12 g13 g14 : ac_C} {th : Int32} {w q : Nat} {tm sd : Int32} {bi ed ra fr ah bk : Nat → Int32} {wt gp gq mv : Int32} {cn : Nat} {mc mk : Nat → Int32} {rest : ac_H} {R : ac_R} {d : Nat} {u4 u5 : Value} (hw : sideOk w) (hq : sideOk q) (hd : d < 6) (kk : Ev L xs 103 (140, [.ref 15, .int (nI d), .int (bI (fre w q ed d (w * q))), .int (nI (w * q)), u4, u5], [], (MH g0 g1 g2 g3 g4 g5 g6 g7 g8 g9 g10 g11 g12 g13 g14 th w q tm sd bi ed ra fr (ahF w q ed d (w * q) ah) bk wt gp gq mv cn mc mk rest), 0, 0) R) : ∀ (n c : Nat), c + n = w * q → Ev L xs 103 (75, [.ref 15, .int (nI d), .int (bI (fre w q ed d c)), .int (nI c), u4, u5], [], (MH g0 g1 g2 g3 g4 g5 g6 g7 g8 g9 g10 g11 g12 g13 g14 th w q tm sd bi ed ra fr (ahF w q ed d c ah) bk wt gp gq mv cn mc mk rest), 0, 0) R := by
  have hn := side_n hw hq
  intro n
  induction n with
  | zero =>
    intro c hc
    have e : c = w * q := by omega
    rw [e]
    (repeat refine ev_step rfl rfl ?_)
    rw [nI_mul]
    refine ev_t (nI_le (Nat.le_refl _) (by omega)) ?_
    exact kk
  | succ n ih =>
    intro c hc
    have ih1 := ih (c + 1) (by omega)
    have hc1 : c < w * q := by omega
    have hl := nbC_lt hw hq hc1 d
    have ed0 : dsN w q 0 c d = nbC w q c d := if_pos hd
    rw [fre] at ih1
    (repeat refine ev_step rfl rfl ?_)
    rw [nI_mul]
    refine ev_f (nI_ge (a := c) (b := w * q) (by omega) (by omega)) ?_
    (repeat refine ev_step rfl rfl ?_)
    refine ev_ia rfl rfl (c) (rfl) (by omega) (by omega) ?_
    iterate 2 (refine ev_step rfl rfl ?_)
    refine ev_br (fun z => ?_) (fun z => ?_)
    · rw [decide_eq_true z, Bool.not_true, Bool.false_or, ← ah_put hw hq hc1 z] at ih1
      (repeat refine ev_step rfl rfl ?_)
      refine ev_i3 rfl rfl (Nat.le_of_ble_eq_true rfl) (Nat.le_of_ble_eq_true rfl) rfl (mm_neighbour hw hq hc1 (show d < 7 by omega)) ?_
      rw [ed0]
      (repeat refine ev_step rfl rfl ?_)
      refine ev_zs rfl rfl (nbC w q c d) (rfl) (by omega) (by omega) rfl ?_
      cases hf : fre w q ed d c with
      | false =>
        rw [hf, Bool.false_and] at ih1
        iterate 6 (refine ev_step rfl rfl ?_)
        rw [nI_1]
        exact ih1
      | true =>
        rw [hf, Bool.true_and] at ih1
        (repeat refine ev_step rfl rfl ?_)
        refine ev_i3 rfl rfl (Nat.le_of_ble_eq_true rfl) (Nat.le_of_ble_eq_true rfl) rfl (mm_neighbour hw hq hc1 (show d < 7 by omega)) ?_
        rw [ed0]
        (repeat refine ev_step rfl rfl ?_)
        refine ev_i3 rfl rfl (Nat.le_of_ble_eq_true rfl) (Nat.le_of_ble_eq_true rfl) rfl (mm_isOther (by omega)) ?_
        by_cases z2 : ed (nbC w q c d) = 0 ∨ ed (nbC w q c d) = 4
        · rw [decide_eq_true z2] at ih1
          rw [decide_eq_false (show ¬ ¬ (ed (nbC w q c d) = 0 ∨ ed (nbC w q c d) = 4) from fun q => q z2)]
          iterate 6 (refine ev_step rfl rfl ?_)
          rw [nI_1]
          exact ih1
        · rw [decide_eq_false z2] at ih1
          rw [decide_eq_true (show ¬ (ed (nbC w q c d) = 0 ∨ ed (nbC w q c d) = 4) from z2)]
          iterate 5 (refine ev_step rfl rfl ?_)
          rw [nI_1]
          exact ih1
    · rw [decide_eq_false z, Bool.not_false, Bool.true_or, Bool.and_true, ah_skip z] at ih1
      iterate 2 (refine ev_step rfl rfl ?_)
      rw [nI_1]
      exact ih1
theorem mwh_it {L : Nat} {xs : Nat → Int32} {g0 g1 g2 g3 g4 g5 g6 g7 g8 g9 g10 g11 g12 g13 g14 : ac_C} {th : Int32} {w q : Nat} {tm sd : Int32} {bi ed ra fr ah bk : Nat → Int32} {wt gp gq mv : Int32} {cn : Nat} {mc mk : Nat → Int32} {rest : ac_H} {R : ac_R} {pg pl : Nat → Bool} {u1 u2 u5 : Value} (hw : sideOk w) (hq : sideOk q) (hcn : cn ≤ 4) (hg : ∀ c, c < w * q → pg c = (!decide (ed c = 4) && !decide (ah c = 0))) (hl : ∀ c, c < w * q → pl c = (decide (ed c = 4) && decide (ah c = 0))) {X9 : X3} (kk : ∀ u3 u4, Ev L xs 103 (194, [.ref 15, u1, u2, u3, u4, u5], [], (MH g0 g1 g2 g3 g4 g5 g6 g7 g8 g9 g10 g11 g12 g13 g14 th w q tm sd (X9.2.1) ed ra fr ah bk wt gp gq mv cn (X9.2.2) mk rest), 0, 0) R) : ∀ (G Lf : List Nat) (a b : Nat) (X : X3), a ≤ w * q → b ≤ w * q → glL pg (w * q - a) a = G → glL pl (w * q - b) b = Lf → G.length = Lf.length → sxF cn G Lf X = X9 → Ev L xs 103 (160, [.ref 15, u1, u2, .int (hdL G), .int (hdL Lf), u5], [], (MH g0 g1 g2 g3 g4 g5 g6 g7 g8 g9 g10 g11 g12 g13 g14 th w q tm sd (X.2.1) ed ra fr ah bk wt gp gq mv cn (X.2.2) mk rest), 0, 0) R := by
  have hn := side_n hw hq
  intro G
  induction G with
  | nil =>
    intro Lf a b X ha hb eg el hlen hX
    have : Lf = [] := List.eq_nil_of_length_eq_zero hlen.symm
    subst this
    have hX2 : X = X9 := hX
    rw [hX2]
    iterate 2 (refine ev_step rfl rfl ?_)
    exact kk _ _
  | cons c cs ih =>
    intro Lf a b X ha hb eg el hlen hX
    cases Lf with
    | nil => cases hlen
    | cons e es =>
      obtain ⟨c1, c2, c3, c4⟩ := gl_cons pg _ _ _ _ eg
      obtain ⟨d1, d2, d3, d4⟩ := gl_cons pl _ _ _ _ el
      rw [show a + (w * q - a) = w * q by omega] at c1 c4
      rw [show b + (w * q - b) = w * q by omega] at d1 d4
      rw [sxF] at hX
      have ih1 := ih es (c + 1) (e + 1) (sx1 cn c e X) (by omega) (by omega) c4.symm d4.symm (by simpa using hlen) hX
      show Ev L xs 103 (160, [.ref 15, u1, u2, .int (nI c), .int (nI e), u5], [], (MH g0 g1 g2 g3 g4 g5 g6 g7 g8 g9 g10 g11 g12 g13 g14 th w q tm sd (X.2.1) ed ra fr ah bk wt gp gq mv cn (X.2.2) mk rest), 0, 0) R
      (repeat refine ev_step rfl rfl ?_)
      refine ev_f (nI_pos (by omega)) ?_
      (repeat refine ev_step rfl rfl ?_)
      refine ev_v3 rfl rfl (Nat.le_of_ble_eq_true rfl) (Nat.le_of_ble_eq_true rfl) rfl (mm_swap (show c < 256 by omega) (show e < 256 by omega) hcn) ?_
      (repeat refine ev_step rfl rfl ?_)
      rw [nI_1]
      refine ev_i3 rfl rfl (Nat.le_of_ble_eq_true rfl) (Nat.le_of_ble_eq_true rfl) rfl (mm_next0 hw hq hg (show c + 1 ≤ w * q by omega)) ?_
      (repeat refine ev_step rfl rfl ?_)
      rw [nI_1]
      refine ev_i3 rfl rfl (Nat.le_of_ble_eq_true rfl) (Nat.le_of_ble_eq_true rfl) rfl (mm_next1 hw hq hl (show e + 1 ≤ w * q by omega)) ?_
      rw [← c4, ← d4]
      iterate 2 (refine ev_step rfl rfl ?_)
      exact ih1
def soE (ed ah : Nat → Int32) : Nat → Int32 := fun c => if ah c = 0 then (if ed c = 4 then 0 else ed c) else 4
theorem mso_it {L : Nat} {xs : Nat → Int32} {g0 g1 g2 g3 g4 g5 g6 g7 g8 g9 g10 g11 g12 g13 g14 : ac_C} {th : Int32} {w q : Nat} {tm sd : Int32} {bi ed ra fr ah bk : Nat → Int32} {wt gp gq mv : Int32} {cn : Nat} {mc mk : Nat → Int32} {rest : ac_H} {R : ac_R} {u1 u2 u3 u4 : Value} (hw : sideOk w) (hq : sideOk q) (kk : Ev L xs 103 (260, [.ref 15, u1, u2, u3, u4, .int (nI (w * q))], [], (MH g0 g1 g2 g3 g4 g5 g6 g7 g8 g9 g10 g11 g12 g13 g14 th w q tm sd bi (pre (w * q) (soE ed ah) ed) ra fr ah bk wt gp gq mv cn mc mk rest), 0, 0) R) : ∀ (n c : Nat), c + n = w * q → Ev L xs 103 (197, [.ref 15, u1, u2, u3, u4, .int (nI c)], [], (MH g0 g1 g2 g3 g4 g5 g6 g7 g8 g9 g10 g11 g12 g13 g14 th w q tm sd bi (pre c (soE ed ah) ed) ra fr ah bk wt gp gq mv cn mc mk rest), 0, 0) R := by
  have hn := side_n hw hq
  intro n
  induction n with
  | zero =>
    intro c hc
    have e : c = w * q := by omega
    rw [e]
    (repeat refine ev_step rfl rfl ?_)
    rw [nI_mul]
    refine ev_t (nI_le (Nat.le_refl _) (by omega)) ?_
    exact kk
  | succ n ih =>
    intro c hc
    have ih1 := ih (c + 1) (by omega)
    rw [← pre_put] at ih1
    unfold soE at ih1
    (repeat refine ev_step rfl rfl ?_)
    rw [nI_mul]
    refine ev_f (nI_ge (a := c) (b := w * q) (by omega) (by omega)) ?_
    (repeat refine ev_step rfl rfl ?_)
    refine ev_za rfl rfl (c) (rfl) (by omega) (by omega) ?_
    iterate 1 (refine ev_step rfl rfl ?_)
    refine ev_br (fun z => ?_) (fun z => ?_)
    · rw [if_pos z] at ih1
      (repeat refine ev_step rfl rfl ?_)
      refine ev_ia rfl rfl (c) (rfl) (by omega) (by omega) ?_
      rw [pre_at]
      iterate 2 (refine ev_step rfl rfl ?_)
      refine ev_br (fun z2 => ?_) (fun z2 => ?_)
      · rw [if_pos z2] at ih1
        (repeat refine ev_step rfl rfl ?_)
        refine ev_is rfl rfl (c) (rfl) (by omega) (by omega) rfl ?_
        iterate 2 (refine ev_step rfl rfl ?_)
        rw [nI_1]
        exact ih1
      · rw [if_neg z2] at ih1
        (repeat refine ev_step rfl rfl ?_)
        refine ev_ia rfl rfl (c) (rfl) (by omega) (by omega) ?_
        rw [pre_at]
        refine ev_is rfl rfl (c) (rfl) (by omega) (by omega) rfl ?_
        iterate 2 (refine ev_step rfl rfl ?_)
        rw [nI_1]
        exact ih1
    · rw [if_neg z] at ih1
      (repeat refine ev_step rfl rfl ?_)
      refine ev_is rfl rfl (c) (rfl) (by omega) (by omega) rfl ?_
      iterate 2 (refine ev_step rfl rfl ?_)
      rw [nI_1]
      exact ih1
theorem sx_ed (cn j : Nat) : ∀ (G Lf : List Nat) (X : X3), G.length = Lf.length → (∀ i, i ∈ G → ¬ i ∈ Lf) → (sxF cn G Lf X).1 j = if j ∈ Lf then 0 else if j ∈ G then 4 else X.1 j := by
  intro G
  induction G with
  | nil =>
    intro Lf X hl _
    have : Lf = [] := List.eq_nil_of_length_eq_zero hl.symm
    subst this
    simp [sxF]
  | cons a as ih =>
    intro Lf X hl hd
    cases Lf with
    | nil => cases hl
    | cons b bs =>
      rw [sxF, ih bs _ (by simpa using hl) (fun i hi h => hd i (List.mem_cons_of_mem _ hi) (List.mem_cons_of_mem _ h))]
      show (if j ∈ bs then (0 : Int32) else if j ∈ as then 4 else upd (upd X.1 a 4) b 0 j) = _
      have hab : a ≠ b := fun e => hd a (List.mem_cons_self ..) (by rw [e]; exact List.mem_cons_self ..)
      have hb : b ∉ as := fun h => hd b (List.mem_cons_of_mem _ h) (List.mem_cons_self ..)
      unfold upd
      by_cases h1 : j ∈ bs
      · rw [if_pos h1, if_pos (List.mem_cons_of_mem _ h1)]
      · rw [if_neg h1]
        by_cases h2 : j = b
        · subst h2
          rw [if_neg hb, if_pos rfl, if_pos (List.mem_cons_self ..)]
        · rw [if_neg (show ¬ j ∈ b :: bs from fun h => (List.mem_cons.mp h).elim h2 h1)]
          by_cases h3 : j ∈ as
          · rw [if_pos h3, if_pos (List.mem_cons_of_mem _ h3)]
          · rw [if_neg h3, if_neg h2]
            by_cases h4 : j = a
            · rw [if_pos h4, if_pos (by rw [h4]; exact List.mem_cons_self ..)]
            · rw [if_neg h4, if_neg (show ¬ j ∈ a :: as from fun h => (List.mem_cons.mp h).elim h4 h3)]
