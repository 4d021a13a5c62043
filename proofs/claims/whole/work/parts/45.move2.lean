/-! ===== the plain form: the body moves, whole ===== -/
theorem cm_no {ed nb : Nat → Int32} {d : Nat} : ∀ (n c : Nat) (h : Int32), (∀ j, c ≤ j → j < c + n → ¬ ed j = 4) → cmF ed nb d n c h = h := by
  intro n
  induction n with
  | zero => intro c h _; rfl
  | succ n ih =>
    intro c h hj
    rw [cmF, if_neg (hj c (Nat.le_refl _) (by omega))]
    exact ih (c + 1) h (fun j h1 h2 => hj j (by omega) (by omega))
theorem cm_bad {ed nb : Nat → Int32} {d : Nat} : ∀ (n c : Nat) (h : Int32) (j : Nat), c ≤ j → j < c + n → ed j = 4 → ¬ (ed (nbN nb j d) = 0 ∨ ed (nbN nb j d) = 4) → cmF ed nb d n c h = 0 := by
  intro n
  induction n with
  | zero => intro c h j h1 h2; omega
  | succ n ih =>
    intro c h j h1 h2 h4 hb
    rw [cmF]
    by_cases e : c = j
    · subst e
      rw [if_pos h4, if_neg hb]
    · split
      · split
        · exact ih (c + 1) _ j (by omega) (by omega) h4 hb
        · rfl
      · exact ih (c + 1) _ j (by omega) (by omega) h4 hb
theorem cm_yes {ed nb : Nat → Int32} {d : Nat} : ∀ (n c : Nat) (h : Int32), (∀ j, c ≤ j → j < c + n → ed j = 4 → (ed (nbN nb j d) = 0 ∨ ed (nbN nb j d) = 4)) → (h = 1 ∨ ∃ j, c ≤ j ∧ j < c + n ∧ ed j = 4) → cmF ed nb d n c h = 1 := by
  intro n
  induction n with
  | zero =>
    intro c h _ h2
    rcases h2 with h2 | ⟨j, h1, h2, -⟩
    · exact h2
    · omega
  | succ n ih =>
    intro c h hok h2
    rw [cmF]
    split
    · rename_i z
      rw [if_pos (hok c (Nat.le_refl _) (by omega) z)]
      exact ih (c + 1) 1 (fun j a b => hok j (by omega) (by omega)) (Or.inl rfl)
    · rename_i z
      refine ih (c + 1) h (fun j a b => hok j (by omega) (by omega)) (h2.imp id (fun ⟨j, a, b, e⟩ => ⟨j, ?_, by omega, e⟩))
      have : j ≠ c := fun q => z (by rw [← q]; exact e)
      omega
theorem fre_iff {w q : Nat} {ed : Nat → Int32} {d : Nat} : ∀ c, fre w q ed d c = true ↔ ∀ j, j < c → ed j = 4 → (ed (nbC w q j d) = 0 ∨ ed (nbC w q j d) = 4) := by
  intro c
  induction c with
  | zero => exact ⟨fun _ j hj => absurd hj (Nat.not_lt_zero j), fun _ => rfl⟩
  | succ c ih =>
    rw [fre, Bool.and_eq_true, ih, Bool.or_eq_true, decide_eq_true_eq]
    constructor
    · rintro ⟨h1, h2⟩ j hj h4
      by_cases e : j = c
      · subst e
        refine h2.resolve_left (fun g => ?_)
        rw [decide_eq_true h4] at g
        cases g
      · exact h1 j (by omega) h4
    · intro h
      refine ⟨fun j hj => h j (by omega), ?_⟩
      by_cases h4 : ed c = 4
      · exact Or.inr (h c (Nat.lt_succ_self c) h4)
      · left
        rw [decide_eq_false h4]
        rfl
theorem ct_0 {ed : Nat → Int32} {n : Nat} {s : Int32} : (fl (fun c => decide (ed c = s)) n).length = 0 ↔ ∀ j, j < n → ¬ ed j = s := by
  constructor
  · intro h j hj e
    have h2 := List.eq_nil_of_length_eq_zero h
    have h3 : j ∈ fl (fun c => decide (ed c = s)) n := fl_mem.mpr ⟨hj, decide_eq_true e⟩
    rw [h2] at h3
    cases h3
  · intro h
    cases e : fl (fun c => decide (ed c = s)) n with
    | nil => rfl
    | cons a as =>
      have h3 : a ∈ fl (fun c => decide (ed c = s)) n := by rw [e]; exact List.mem_cons_self ..
      obtain ⟨h4, h5⟩ := fl_mem.mp h3
      exact absurd (of_decide_eq_true h5) (h a h4)
theorem mm_moveN {L : Nat} {xs : Nat → Int32} {g0 g1 g2 g3 g4 g5 g6 g7 g8 g9 g10 g11 g12 g13 g14 : ac_C} {th : Int32} {w q : Nat} {tm sd : Int32} {bi ed ra fr ah bk : Nat → Int32} {wt gp gq mv : Int32} {cn : Nat} {mc mk : Nat → Int32} {rest : ac_H} (hh : hdF wt gp gq 6 0 = -1) : Mt L xs 103 [.ref 15] (MH g0 g1 g2 g3 g4 g5 g6 g7 g8 g9 g10 g11 g12 g13 g14 th w q tm sd bi ed ra fr ah bk wt gp gq mv cn mc mk rest) none (MH g0 g1 g2 g3 g4 g5 g6 g7 g8 g9 g10 g11 g12 g13 g14 th w q tm sd bi ed ra fr ah bk wt gp gq mv cn mc mk rest) 0 0 := by
  show Ev L xs 103 (0, [.ref 15, ac_un, ac_un, ac_un, ac_un, ac_un], [], _, 0, 0) _
  iterate 2 (refine ev_step rfl rfl ?_)
  refine mhd_it 6 0 rfl (fun _ => ?_) (fun e he h => absurd (h.symm.trans hh) (nI_m1 (by omega)))
  (repeat refine ev_step rfl rfl ?_)
  exact ev_r0 rfl
theorem nI_ne {a b : Nat} (ha : a < 2 ^ 31) (hb : b < 2 ^ 31) (h : a ≠ b) : ¬ nI a = nI b := fun q => h ((nI_eq ha hb).mp q)
theorem mm_move0 {L : Nat} {xs : Nat → Int32} {g0 g1 g2 g3 g4 g5 g6 g7 g8 g9 g10 g11 g12 g13 g14 : ac_C} {th : Int32} {w q : Nat} {tm sd : Int32} {bi ed ra fr ah bk : Nat → Int32} {wt gp gq mv : Int32} {cn : Nat} {mc mk : Nat → Int32} {rest : ac_H} {d : Nat} (hw : sideOk w) (hq : sideOk q) (hd : d < 6) (hh : hdF wt gp gq 6 0 = nI d) (hcm : cmF ed (nbT w q) d (w * q) 0 0 = 0) : ∃ ah', Mt L xs 103 [.ref 15] (MH g0 g1 g2 g3 g4 g5 g6 g7 g8 g9 g10 g11 g12 g13 g14 th w q tm sd bi ed ra fr ah bk wt gp gq mv cn mc mk rest) none (MH g0 g1 g2 g3 g4 g5 g6 g7 g8 g9 g10 g11 g12 g13 g14 th w q tm sd bi ed ra fr (ah') bk wt gp gq mv cn mc mk rest) 0 0 := by
  have hn := side_n hw hq
  by_cases z : (fl (fun c => decide (ed c = 4)) (w * q)).length = 0
  · refine ⟨ah, ?_⟩
    show Ev L xs 103 (0, [.ref 15, ac_un, ac_un, ac_un, ac_un, ac_un], [], _, 0, 0) _
    iterate 2 (refine ev_step rfl rfl ?_)
    refine mhd_it 6 0 rfl (fun h => absurd (hh.symm.trans h) (nI_m1 (by omega))) (fun e he h => ?_)
    have e1 : e = d := (nI_eq (by omega) (by omega)).mp (h.symm.trans hh)
    subst e1
    (repeat refine ev_step rfl rfl ?_)
    refine ev_f (nI_ne (b := 6) (by omega) (by decide) (by omega)) ?_
    (repeat refine ev_step rfl rfl ?_)
    refine ev_i2 rfl rfl (Nat.le_of_ble_eq_true rfl) (Nat.le_of_ble_eq_true rfl) rfl (mm_countOf hw hq) ?_
    rw [z]
    (repeat refine ev_step rfl rfl ?_)
    exact ev_r0 rfl
  · have hle := fl_len (fun c => decide (ed c = 4)) (w * q)
    refine ⟨ahF w q ed d (w * q) ah, ?_⟩
    have hf : fre w q ed d (w * q) = false := by
      cases hf : fre w q ed d (w * q) with
      | false => rfl
      | true =>
        have h1 := (fre_iff (w * q)).mp hf
        have h2 : ∃ j, 0 ≤ j ∧ j < 0 + w * q ∧ ed j = 4 := Classical.byContradiction (fun hno => z (ct_0.mpr (fun j hj e => hno ⟨j, Nat.zero_le _, by omega, e⟩)))
        have h3 := cm_yes (ed := ed) (nb := nbT w q) (d := d) (w * q) 0 0 (fun j _ hj e => by rw [nbN_T hw hq (by omega)]; exact h1 j (by omega) e) (Or.inr h2)
        rw [hcm] at h3
        exact absurd h3 (by decide)
    show Ev L xs 103 (0, [.ref 15, ac_un, ac_un, ac_un, ac_un, ac_un], [], _, 0, 0) _
    iterate 2 (refine ev_step rfl rfl ?_)
    refine mhd_it 6 0 rfl (fun h => absurd (hh.symm.trans h) (nI_m1 (by omega))) (fun e he h => ?_)
    have e1 : e = d := (nI_eq (by omega) (by omega)).mp (h.symm.trans hh)
    subst e1
    (repeat refine ev_step rfl rfl ?_)
    refine ev_f (nI_ne (b := 6) (by omega) (by decide) (by omega)) ?_
    (repeat refine ev_step rfl rfl ?_)
    refine ev_i2 rfl rfl (Nat.le_of_ble_eq_true rfl) (Nat.le_of_ble_eq_true rfl) rfl (mm_countOf hw hq) ?_
    iterate 1 (refine ev_step rfl rfl ?_)
    refine ev_f (nI_ne0 (by omega) (by omega)) ?_
    iterate 4 (refine ev_step rfl rfl ?_)
    have ha := mah_it (L := L) (xs := xs) (g0 := g0) (g1 := g1) (g2 := g2) (g3 := g3) (g4 := g4) (g5 := g5) (g6 := g6) (g7 := g7) (g8 := g8) (g9 := g9) (g10 := g10) (g11 := g11) (g12 := g12) (g13 := g13) (g14 := g14) (th := th) (w := w) (q := q) (tm := tm) (sd := sd) (bi := bi) (ed := ed) (ra := ra) (fr := fr) (ah := ah) (bk := bk) (wt := wt) (gp := gp) (gq := gq) (mv := mv) (cn := cn) (mc := mc) (mk := mk) (rest := rest) (u1 := .int (nI e)) (u2 := .int 1) (u4 := ac_un) (u5 := ac_un) (R := (.inl none, (MH g0 g1 g2 g3 g4 g5 g6 g7 g8 g9 g10 g11 g12 g13 g14 th w q tm sd bi ed ra fr (ahF w q ed e (w * q) ah) bk wt gp gq mv cn mc mk rest), 0, 0)) hw hq (by
      iterate 2 (refine ev_step rfl rfl ?_)
      rw [← ah_0 (ed := ed) (d := e)]
      refine mfr_it hw hq hd ?_ (w * q) 0 (Nat.zero_add _)
      rw [hf]
      (repeat refine ev_step rfl rfl ?_)
      exact ev_r0 rfl) (w * q) 0 (Nat.zero_add _)
    rw [pre_0] at ha
    exact ha
theorem mm_move1 {L : Nat} {xs : Nat → Int32} {g0 g1 g2 g3 g4 g5 g6 g7 g8 g9 g10 g11 g12 g13 g14 : ac_C} {th : Int32} {w q : Nat} {tm sd : Int32} {bi ed ra fr ah bk : Nat → Int32} {wt gp gq mv : Int32} {cn : Nat} {mc mk : Nat → Int32} {rest : ac_H} {d : Nat} (hw : sideOk w) (hq : sideOk q) (hcn : cn ≤ 4) (hd : d < 6) (hh : hdF wt gp gq 6 0 = nI d) (hcm : ¬ cmF ed (nbT w q) d (w * q) 0 0 = 0) {X : X3} (hX : sxF cn (fl (gaP ed (nbT w q) d) (w * q)) (fl (leP ed (nbT w q) d) (w * q)) (ed, bi, mc) = X) : ∃ ah', Mt L xs 103 [.ref 15] (MH g0 g1 g2 g3 g4 g5 g6 g7 g8 g9 g10 g11 g12 g13 g14 th w q tm sd bi ed ra fr ah bk wt gp gq mv cn mc mk rest) none (MH g0 g1 g2 g3 g4 g5 g6 g7 g8 g9 g10 g11 g12 g13 g14 th w q tm sd (X.2.1) (X.1) ra fr (ah') bk wt (gp - wt * ac_tab 0 d) (gq - wt * ac_tab 1 d) (mv + 1) cn (X.2.2) mk rest) 0 0 := by
  have hn := side_n hw hq
  have hle := fl_len (fun c => decide (ed c = 4)) (w * q)
  have z : ¬ (fl (fun c => decide (ed c = 4)) (w * q)).length = 0 := fun z => hcm (cm_no (w * q) 0 0 (fun j _ hj => ct_0.mp z j (by omega)))
  have hf : fre w q ed d (w * q) = true := (fre_iff (w * q)).mpr (fun j hj h4 => Classical.byContradiction (fun hb => hcm (cm_bad (w * q) 0 0 j (Nat.zero_le _) (by omega) h4 (by rw [nbN_T hw hq hj]; exact hb))))
  have eA : ∀ c, c < w * q → ahF w q ed d (w * q) ah c = bI (decide (ed (nbC w q c (d + 3)) = 4)) := fun c hc => by
    unfold ahF
    rw [if_pos hc, decide_eq_true (nbC_lt hw hq hc (d + 3)), Bool.and_true]
  have hg : ∀ c, c < w * q → gaP ed (nbT w q) d c = (!decide (ed c = 4) && !decide (ahF w q ed d (w * q) ah c = 0)) := fun c hc => by
    unfold gaP
    rw [eA c hc, nbN_T hw hq hc]
    cases decide (ed (nbC w q c (d + 3)) = 4) <;> cases decide (ed c = 4) <;> rfl
  have hl : ∀ c, c < w * q → leP ed (nbT w q) d c = (decide (ed c = 4) && decide (ahF w q ed d (w * q) ah c = 0)) := fun c hc => by
    unfold leP
    rw [eA c hc, nbN_T hw hq hc]
    cases decide (ed (nbC w q c (d + 3)) = 4) <;> cases decide (ed c = 4) <;> rfl
  have eE : pre (w * q) (soE ed (ahF w q ed d (w * q) ah)) ed = X.1 := by
    funext j
    rw [← hX, sx_ed cn j _ _ _ (lg_len hw hq).symm (fun i h1 h2 => by
      have g1 := (fl_mem.mp h1).2
      have g2 := (fl_mem.mp h2).2
      unfold gaP at g1
      unfold leP at g2
      cases h : decide (ed i = 4)
      · rw [h] at g2; simp at g2
      · rw [h] at g1; simp at g1)]
    unfold pre
    by_cases hj : j < w * q
    · rw [if_pos hj]
      unfold soE
      rw [eA j hj]
      have m1 : j ∈ fl (leP ed (nbT w q) d) (w * q) ↔ leP ed (nbT w q) d j = true := ⟨fun h => (fl_mem.mp h).2, fun h => fl_mem.mpr ⟨hj, h⟩⟩
      have m2 : j ∈ fl (gaP ed (nbT w q) d) (w * q) ↔ gaP ed (nbT w q) d j = true := ⟨fun h => (fl_mem.mp h).2, fun h => fl_mem.mpr ⟨hj, h⟩⟩
      simp only [m1, m2]
      unfold leP gaP
      rw [nbN_T hw hq hj]
      by_cases h1 : ed j = 4
      · by_cases h2 : ed (nbC w q j (d + 3)) = 4
        · simp [h1, h2, bI]
        · simp [h1, h2, bI]
      · by_cases h2 : ed (nbC w q j (d + 3)) = 4
        · simp [h1, h2, bI]
        · simp [h1, h2, bI]
    · rw [if_neg hj, if_neg (fun h => hj (fl_mem.mp h).1), if_neg (fun h => hj (fl_mem.mp h).1)]
  refine ⟨ahF w q ed d (w * q) ah, ?_⟩
  show Ev L xs 103 (0, [.ref 15, ac_un, ac_un, ac_un, ac_un, ac_un], [], _, 0, 0) _
  iterate 2 (refine ev_step rfl rfl ?_)
  refine mhd_it 6 0 rfl (fun h => absurd (hh.symm.trans h) (nI_m1 (by omega))) (fun e he h => ?_)
  have e1 : e = d := (nI_eq (by omega) (by omega)).mp (h.symm.trans hh)
  subst e1
  (repeat refine ev_step rfl rfl ?_)
  refine ev_f (nI_ne (b := 6) (by omega) (by decide) (by omega)) ?_
  (repeat refine ev_step rfl rfl ?_)
  refine ev_i2 rfl rfl (Nat.le_of_ble_eq_true rfl) (Nat.le_of_ble_eq_true rfl) rfl (mm_countOf hw hq) ?_
  iterate 1 (refine ev_step rfl rfl ?_)
  refine ev_f (nI_ne0 (by omega) (by omega)) ?_
  iterate 4 (refine ev_step rfl rfl ?_)
  have ha := mah_it (L := L) (xs := xs) (g0 := g0) (g1 := g1) (g2 := g2) (g3 := g3) (g4 := g4) (g5 := g5) (g6 := g6) (g7 := g7) (g8 := g8) (g9 := g9) (g10 := g10) (g11 := g11) (g12 := g12) (g13 := g13) (g14 := g14) (th := th) (w := w) (q := q) (tm := tm) (sd := sd) (bi := bi) (ed := ed) (ra := ra) (fr := fr) (ah := ah) (bk := bk) (wt := wt) (gp := gp) (gq := gq) (mv := mv) (cn := cn) (mc := mc) (mk := mk) (rest := rest) (u1 := .int (nI e)) (u2 := .int 1) (u4 := ac_un) (u5 := ac_un) (R := (.inl none, (MH g0 g1 g2 g3 g4 g5 g6 g7 g8 g9 g10 g11 g12 g13 g14 th w q tm sd (X.2.1) (X.1) ra fr (ahF w q ed e (w * q) ah) bk wt (gp - wt * ac_tab 0 e) (gq - wt * ac_tab 1 e) (mv + 1) cn (X.2.2) mk rest), 0, 0)) hw hq (by
    iterate 2 (refine ev_step rfl rfl ?_)
    rw [← ah_0 (ed := ed) (d := e)]
    refine mfr_it hw hq hd ?_ (w * q) 0 (Nat.zero_add _)
    rw [hf]
    (repeat refine ev_step rfl rfl ?_)
    refine ev_i3 rfl rfl (Nat.le_of_ble_eq_true rfl) (Nat.le_of_ble_eq_true rfl) rfl (mm_next0 (c := 0) hw hq hg (Nat.zero_le _)) ?_
    (repeat refine ev_step rfl rfl ?_)
    refine ev_i3 rfl rfl (Nat.le_of_ble_eq_true rfl) (Nat.le_of_ble_eq_true rfl) rfl (mm_next1 (c := 0) hw hq hl (Nat.zero_le _)) ?_
    iterate 1 (refine ev_step rfl rfl ?_)
    have hwh := mwh_it (L := L) (xs := xs) (g0 := g0) (g1 := g1) (g2 := g2) (g3 := g3) (g4 := g4) (g5 := g5) (g6 := g6) (g7 := g7) (g8 := g8) (g9 := g9) (g10 := g10) (g11 := g11) (g12 := g12) (g13 := g13) (g14 := g14) (th := th) (w := w) (q := q) (tm := tm) (sd := sd) (bi := bi) (ed := ed) (ra := ra) (fr := fr) (bk := bk) (wt := wt) (gp := gp) (gq := gq) (mv := mv) (cn := cn) (mc := mc) (mk := mk) (rest := rest) (ah := ahF w q ed e (w * q) ah) (u1 := .int (nI e)) (u2 := .int (bI true)) (u5 := ac_un) (R := (.inl none, (MH g0 g1 g2 g3 g4 g5 g6 g7 g8 g9 g10 g11 g12 g13 g14 th w q tm sd (X.2.1) (X.1) ra fr (ahF w q ed e (w * q) ah) bk wt (gp - wt * ac_tab 0 e) (gq - wt * ac_tab 1 e) (mv + 1) cn (X.2.2) mk rest), 0, 0)) (X9 := X) hw hq hcn hg hl (fun u3 u4 => by
      iterate 2 (refine ev_step rfl rfl ?_)
      have hso := mso_it (L := L) (xs := xs) (g0 := g0) (g1 := g1) (g2 := g2) (g3 := g3) (g4 := g4) (g5 := g5) (g6 := g6) (g7 := g7) (g8 := g8) (g9 := g9) (g10 := g10) (g11 := g11) (g12 := g12) (g13 := g13) (g14 := g14) (th := th) (w := w) (q := q) (tm := tm) (sd := sd) (ed := ed) (ra := ra) (fr := fr) (bk := bk) (wt := wt) (gp := gp) (gq := gq) (mv := mv) (cn := cn) (mk := mk) (rest := rest) (ah := ahF w q ed e (w * q) ah) (bi := X.2.1) (mc := X.2.2) (u1 := .int (nI e)) (u2 := .int (bI true)) (u3 := u3) (u4 := u4) (R := (.inl none, (MH g0 g1 g2 g3 g4 g5 g6 g7 g8 g9 g10 g11 g12 g13 g14 th w q tm sd (X.2.1) (X.1) ra fr (ahF w q ed e (w * q) ah) bk wt (gp - wt * ac_tab 0 e) (gq - wt * ac_tab 1 e) (mv + 1) cn (X.2.2) mk rest), 0, 0)) hw hq (by
        rw [eE]
        iterate 6 (refine ev_step rfl rfl ?_)
        refine ev_ia rfl rfl (0) (rfl) (by decide) (by decide) ?_
        (repeat refine ev_step rfl rfl ?_)
        refine ev_i2 rfl rfl (Nat.le_of_ble_eq_true rfl) (Nat.le_of_ble_eq_true rfl) rfl (mt_momentum (show e < 7 by omega) (v := 0) (by decide) _) ?_
        iterate 2 (refine ev_step rfl rfl ?_)
        refine ev_is rfl rfl (0) (rfl) (by decide) (by decide) rfl ?_
        rw [acA_0]
        iterate 6 (refine ev_step rfl rfl ?_)
        refine ev_ia rfl rfl (1) (rfl) (by decide) (by decide) ?_
        (repeat refine ev_step rfl rfl ?_)
        refine ev_i2 rfl rfl (Nat.le_of_ble_eq_true rfl) (Nat.le_of_ble_eq_true rfl) rfl (mt_momentum (show e < 7 by omega) (v := 1) (by decide) _) ?_
        iterate 2 (refine ev_step rfl rfl ?_)
        refine ev_is rfl rfl (1) (rfl) (by decide) (by decide) rfl ?_
        rw [acA_1]
        (repeat refine ev_step rfl rfl ?_)
        exact ev_r0 rfl) (w * q) 0 (Nat.zero_add _)
      rw [pre_0] at hso
      exact hso) _ _ 0 0 (ed, bi, mc) (Nat.zero_le _) (Nat.zero_le _) rfl rfl (by
        rw [Nat.sub_zero, gl_0, gl_0]
        exact (lg_len hw hq).symm) (by rw [Nat.sub_zero, gl_0, gl_0]; exact hX)
    exact hwh) (w * q) 0 (Nat.zero_add _)
  rw [pre_0] at ha
  exact ha
