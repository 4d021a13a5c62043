/-! ===== the class: the body moves ===== -/
def swB (f : Nat → Int32) (a b : Nat) : Nat → Int32 := upd (upd f a (f b)) b (f a)
theorem mt_exchange {L : Nat} {xs : Nat → Int32} {w q : Nat} {nb ed ra bk : Nat → Int32} {wt gp gq mv : Int32} {cn : Nat} {mc mk ga le : Nat → Int32} {sw : Bool} {bi ar : Nat → Int32} {tm sd : Int32} {rest : ac_H} {a b : Nat} (hw : sideOk w) (hq : sideOk q) (ha : a < w * q) (hb : b < w * q) (hcn : cn ≤ 4) : Mt L xs 65 [.ref 0, .int (nI a), .int (nI b)] (GH w q nb ed ra bk wt gp gq mv cn mc mk ga le sw bi ar tm sd rest) none (GH w q nb ed ra bk wt gp gq mv cn (pre cn (exF (nI a) (nI b) mc) mc) mk ga le sw (swB bi a b) ar tm sd rest) 0 0 := by
  have hn := side_n hw hq
  cases sw
  all_goals
    show Ev L xs 65 (0, [.ref 0, .int (nI a), .int (nI b), ac_un], [], _, 0, 0) _
    (repeat refine ev_step rfl rfl ?_)
    refine ev_ia rfl rfl (a) (rfl) (ha) (by omega) ?_
    (repeat refine ev_step rfl rfl ?_)
    refine ev_ia rfl rfl (b) (rfl) (hb) (by omega) ?_
    refine ev_is rfl rfl (a) (rfl) (ha) (by omega) rfl ?_
    (repeat refine ev_step rfl rfl ?_)
    refine ev_is rfl rfl (b) (rfl) (hb) (by omega) rfl ?_
    (repeat refine ev_step rfl rfl ?_)
    refine ev_v3 rfl rfl (Nat.le_of_ble_eq_true rfl) (Nat.le_of_ble_eq_true rfl) rfl (mt_mexch hcn) ?_
    exact ev_r0 rfl
/-- can the body move: behind n cells from c on -/
def cmF (ed nb : Nat → Int32) (d : Nat) : Nat → Nat → Int32 → Int32
  | 0, _, h => h
  | n + 1, c, h => if ed c = 4 then (if ed (nbN nb c d) = 0 ∨ ed (nbN nb c d) = 4 then cmF ed nb d n (c + 1) 1 else 0) else cmF ed nb d n (c + 1) h
theorem can_it {L : Nat} {xs : Nat → Int32} {w q : Nat} {nb ed ra bk : Nat → Int32} {wt gp gq mv : Int32} {cn : Nat} {mc mk ga le : Nat → Int32} {sw : Bool} {bi ar : Nat → Int32} {tm sd : Int32} {rest : ac_H} {d : Nat} (hw : sideOk w) (hq : sideOk q) (hnb : nbOk (w * q) nb) (hd : d < 6) : ∀ (n c : Nat) (h : Int32) (u : Value), c + n = w * q → (h = 0 ∨ h = 1) → Ev L xs 63 (4, [.ref 0, .int (nI d), .int h, .int (nI c), u], [], (GH w q nb ed ra bk wt gp gq mv cn mc mk ga le sw bi ar tm sd rest), 0, 0) (.inl (some (.int (cmF ed nb d n c h))), (GH w q nb ed ra bk wt gp gq mv cn mc mk ga le sw bi ar tm sd rest), 0, 0) := by
  have hn := side_n hw hq
  intro n
  induction n with
  | zero =>
    intro c h u hc hh
    have e : c = w * q := by omega
    rw [e]
    (repeat refine ev_step rfl rfl ?_)
    refine ev_t (nI_le (Nat.le_refl _) (by omega)) ?_
    (repeat refine ev_step rfl rfl ?_)
    exact ev_r2 rfl hh
  | succ n ih =>
    intro c h u hc hh
    have ih1 := ih (c + 1)
    obtain ⟨e1, h1⟩ := nbN_spec hnb hn.1 (show c < w * q by omega) d
    rw [cmF]
    (repeat refine ev_step rfl rfl ?_)
    refine ev_f (nI_ge (a := c) (b := w * q) (by omega) (by omega)) ?_
    (repeat refine ev_step rfl rfl ?_)
    refine ev_ia rfl rfl (c) (rfl) (by omega) (by omega) ?_
    iterate 2 (refine ev_step rfl rfl ?_)
    refine ev_br (fun z => ?_) (fun z => ?_)
    · rw [if_pos z]
      (repeat refine ev_step rfl rfl ?_)
      refine ev_i3 rfl rfl (Nat.le_of_ble_eq_true rfl) (Nat.le_of_ble_eq_true rfl) rfl (mt_neighbour hn.1 (show c < w * q by omega) (d := d) (by omega)) ?_
      rw [e1]
      refine ev_ia rfl rfl (nbN nb c d) (rfl) (h1) (by omega) ?_
      iterate 3 (refine ev_step rfl rfl ?_)
      refine ev_br (fun z => ?_) (fun z => ?_)
      · rw [if_pos (Or.inl z)]
        iterate 2 (refine ev_step rfl rfl ?_)
        rw [nI_1]
        exact ih1 _ _ (by omega) (Or.inr rfl)
      · iterate 3 (refine ev_step rfl rfl ?_)
        refine ev_br (fun z2 => ?_) (fun z2 => ?_)
        · rw [if_pos (Or.inr z2)]
          iterate 2 (refine ev_step rfl rfl ?_)
          rw [nI_1]
          exact ih1 _ _ (by omega) (Or.inr rfl)
        · rw [if_neg (fun q => q.elim z z2)]
          (repeat refine ev_step rfl rfl ?_)
          exact ev_r2 rfl (Or.inl rfl)
    · rw [if_neg z]
      iterate 2 (refine ev_step rfl rfl ?_)
      rw [nI_1]
      exact ih1 _ _ (by omega) hh
theorem mt_canMove {L : Nat} {xs : Nat → Int32} {w q : Nat} {nb ed ra bk : Nat → Int32} {wt gp gq mv : Int32} {cn : Nat} {mc mk ga le : Nat → Int32} {sw : Bool} {bi ar : Nat → Int32} {tm sd : Int32} {rest : ac_H} {d : Nat} (hw : sideOk w) (hq : sideOk q) (hnb : nbOk (w * q) nb) (hd : d < 6) : Mt L xs 63 [.ref 0, .int (nI d)] (GH w q nb ed ra bk wt gp gq mv cn mc mk ga le sw bi ar tm sd rest) (some (.int (cmF ed nb d (w * q) 0 0))) (GH w q nb ed ra bk wt gp gq mv cn mc mk ga le sw bi ar tm sd rest) 0 0 := by
  show Ev L xs 63 (0, [.ref 0, .int (nI d), ac_un, ac_un, ac_un], [], _, 0, 0) _
  iterate 4 (refine ev_step rfl rfl ?_)
  exact can_it hw hq hnb hd (w * q) 0 0 _ (Nat.zero_add _) (Or.inl rfl)
/-- the cells that the body comes into, and those that it leaves -/
def gaP (ed nb : Nat → Int32) (d c : Nat) : Bool := decide (ed (nbN nb c (d + 3)) = 4) && !decide (ed c = 4)
def leP (ed nb : Nat → Int32) (d c : Nat) : Bool := decide (ed c = 4) && !decide (ed (nbN nb c (d + 3)) = 4)
def fl (p : Nat → Bool) (c : Nat) : List Nat := (List.range c).filter p
theorem fl_s (p : Nat → Bool) (c : Nat) : fl p (c + 1) = if p c = true then fl p c ++ [c] else fl p c := by
  unfold fl
  rw [List.range_succ, List.filter_append]
  by_cases h : p c = true
  · simp [h]
  · simp [h]
theorem fl_len (p : Nat → Bool) (c : Nat) : (fl p c).length ≤ c := by
  have h := List.length_filter_le p (List.range c)
  rw [List.length_range] at h
  exact h
theorem fl_mem {p : Nat → Bool} {c j : Nat} : j ∈ fl p c ↔ j < c ∧ p j = true := by
  simp [fl]
def lsA (l : List Nat) (f : Nat → Int32) : Nat → Int32 := fun i => match l[i]? with
  | some c => nI c
  | none => f i
theorem lsA_at {l : List Nat} {f : Nat → Int32} {i : Nat} (h : i < l.length) : lsA l f i = nI l[i] := by
  simp [lsA, List.getElem?_eq_getElem h]
theorem lsA_add (l : List Nat) (f : Nat → Int32) (c : Nat) : upd (lsA l f) l.length (nI c) = lsA (l ++ [c]) f := by
  funext i
  unfold upd lsA
  by_cases h : i = l.length
  · subst h; simp
  · by_cases h2 : i < l.length
    · simp [h, List.getElem?_append_left h2]
    · have h3 : l.length < i := by omega
      simp [h, List.getElem?_eq_none_iff.mpr (show l.length ≤ i by omega), List.getElem?_eq_none_iff.mpr (show (l ++ [c]).length ≤ i by simp; omega)]
theorem lsA_nil (f : Nat → Int32) : lsA [] f = f := by funext i; rfl
theorem shift_1 {L : Nat} {xs : Nat → Int32} {w q : Nat} {nb ed ra bk : Nat → Int32} {wt gp gq mv : Int32} {cn : Nat} {mc mk ga le : Nat → Int32} {sw : Bool} {bi ar : Nat → Int32} {tm sd : Int32} {rest : ac_H} {d : Nat} {R : ac_R} (hw : sideOk w) (hq : sideOk q) (hnb : nbOk (w * q) nb) (hd : d < 6) (k : ∀ u1 u2, Ev L xs 64 (113, [.ref 0, .int (nI d), .int (nI (fl (gaP ed nb d) (w * q)).length), .int (nI (fl (leP ed nb d) (w * q)).length), .int (nI (w * q)), u1, u2], [], (GH w q nb ed ra bk wt gp gq mv cn mc mk (lsA (fl (gaP ed nb d) (w * q)) ga) (lsA (fl (leP ed nb d) (w * q)) le) sw bi ar tm sd rest), 0, 0) R) : ∀ (n c : Nat) (u1 u2 : Value), c + n = w * q → Ev L xs 64 (7, [.ref 0, .int (nI d), .int (nI (fl (gaP ed nb d) c).length), .int (nI (fl (leP ed nb d) c).length), .int (nI c), u1, u2], [], (GH w q nb ed ra bk wt gp gq mv cn mc mk (lsA (fl (gaP ed nb d) c) ga) (lsA (fl (leP ed nb d) c) le) sw bi ar tm sd rest), 0, 0) R := by
  have hn := side_n hw hq
  intro n
  induction n with
  | zero =>
    intro c u1 u2 hc
    have e : c = w * q := by omega
    rw [e]
    (repeat refine ev_step rfl rfl ?_)
    refine ev_t (nI_le (Nat.le_refl _) (by omega)) ?_
    exact k u1 u2
  | succ n ih =>
    intro c u1 u2 hc
    obtain ⟨e1, h1⟩ := nbN_spec hnb hn.1 (show c < w * q by omega) (d + 3)
    have ih1 := fun u1 u2 => ih (c + 1) u1 u2 (by omega)
    have g1 := fl_len (gaP ed nb d) c
    have g2 := fl_len (leP ed nb d) c
    rw [fl_s, fl_s] at ih1
    unfold gaP leP at ih1
    have e3 : nI d + 3 = nI (d + 3) := nI_add d 3
    (repeat refine ev_step rfl rfl ?_)
    refine ev_f (nI_ge (a := c) (b := w * q) (by omega) (by omega)) ?_
    (repeat refine ev_step rfl rfl ?_)
    refine ev_ia rfl rfl (c) (rfl) (by omega) (by omega) ?_
    iterate 2 (refine ev_step rfl rfl ?_)
    refine ev_br (fun z => ?_) (fun z => ?_)
    · (repeat refine ev_step rfl rfl ?_)
      rw [e3]
      refine ev_i3 rfl rfl (Nat.le_of_ble_eq_true rfl) (Nat.le_of_ble_eq_true rfl) rfl (mt_neighbour hn.1 (show c < w * q by omega) (d := d + 3) (by omega)) ?_
      rw [e1]
      refine ev_ia rfl rfl (nbN nb c (d + 3)) (rfl) (h1) (by omega) ?_
      iterate 2 (refine ev_step rfl rfl ?_)
      refine ev_br (fun z2 => ?_) (fun z2 => ?_)
      · simp only [z, z2, decide_true, Bool.not_true, Bool.and_false, Bool.false_eq_true, if_false] at ih1
        iterate 13 (refine ev_step rfl rfl ?_)
        rw [nI_1]
        exact ih1 _ _
      · simp only [z, z2, decide_true, decide_false, Bool.not_true, Bool.not_false, Bool.and_true, Bool.and_false, Bool.false_eq_true, if_false, if_true, List.length_append, List.length_singleton] at ih1
        (repeat refine ev_step rfl rfl ?_)
        refine ev_is rfl rfl ((fl (leP ed nb d) c).length) (rfl) (by omega) (by omega) rfl ?_
        iterate 2 (refine ev_step rfl rfl ?_)
        rw [nI_1, nI_1]
        rw [← lsA_add] at ih1
        exact ih1 _ _
    · (repeat refine ev_step rfl rfl ?_)
      rw [e3]
      refine ev_i3 rfl rfl (Nat.le_of_ble_eq_true rfl) (Nat.le_of_ble_eq_true rfl) rfl (mt_neighbour hn.1 (show c < w * q by omega) (d := d + 3) (by omega)) ?_
      rw [e1]
      refine ev_ia rfl rfl (nbN nb c (d + 3)) (rfl) (h1) (by omega) ?_
      iterate 2 (refine ev_step rfl rfl ?_)
      refine ev_br (fun z2 => ?_) (fun z2 => ?_)
      · simp only [z, z2, decide_true, decide_false, Bool.not_true, Bool.not_false, Bool.and_true, Bool.and_false, Bool.false_eq_true, if_false, if_true, List.length_append, List.length_singleton] at ih1
        (repeat refine ev_step rfl rfl ?_)
        refine ev_is rfl rfl ((fl (gaP ed nb d) c).length) (rfl) (by omega) (by omega) rfl ?_
        iterate 4 (refine ev_step rfl rfl ?_)
        rw [nI_1, nI_1]
        rw [← lsA_add] at ih1
        exact ih1 _ _
      · simp only [z, z2, decide_true, decide_false, Bool.not_true, Bool.not_false, Bool.and_true, Bool.and_false, Bool.false_eq_true, if_false] at ih1
        iterate 8 (refine ev_step rfl rfl ?_)
        rw [nI_1]
        exact ih1 _ _
abbrev X3 : Type := (Nat → Int32) × (Nat → Int32) × (Nat → Int32)
/-- one exchange: edges, bits, the marks' cells -/
def sx1 (cn a b : Nat) (X : X3) : X3 := (upd (upd X.1 a 4) b 0, swB X.2.1 a b, pre cn (exF (nI a) (nI b) X.2.2) X.2.2)
def sxF (cn : Nat) : List Nat → List Nat → X3 → X3
  | a :: as, b :: bs, X => sxF cn as bs (sx1 cn a b X)
  | _, _, X => X
theorem shift_2 {L : Nat} {xs : Nat → Int32} {w q : Nat} {nb ed ra bk : Nat → Int32} {wt gp gq mv : Int32} {cn : Nat} {mc mk ga le : Nat → Int32} {sw : Bool} {bi ar : Nat → Int32} {tm sd : Int32} {rest : ac_H} {d : Nat} {G Lf : List Nat} {x3 u1 u2 : Value} (hw : sideOk w) (hq : sideOk q) (hcn : cn ≤ 4) (hG : ∀ j, j ∈ G → j < w * q) (hL : ∀ j, j ∈ Lf → j < w * q) (hGl : G.length ≤ w * q) (hl : Lf.length = G.length) : ∀ (n i : Nat) (X : X3), i + n = G.length → Ev L xs 64 (116, [.ref 0, .int (nI d), .int (nI G.length), x3, .int (nI i), u1, u2], [], (GH w q nb (X.1) ra bk wt gp gq mv cn (X.2.2) mk (lsA G ga) (lsA Lf le) sw (X.2.1) ar tm sd rest), 0, 0) (.inl none, (GH w q nb ((sxF cn (G.drop i) (Lf.drop i) X).1) ra bk wt gp gq mv cn ((sxF cn (G.drop i) (Lf.drop i) X).2.2) mk (lsA G ga) (lsA Lf le) sw ((sxF cn (G.drop i) (Lf.drop i) X).2.1) ar tm sd rest), 0, 0) := by
  have hn := side_n hw hq
  intro n
  induction n with
  | zero =>
    intro i X hi
    have e : i = G.length := by omega
    rw [List.drop_eq_nil_of_le (show G.length ≤ i by omega)]
    rw [e]
    (repeat refine ev_step rfl rfl ?_)
    refine ev_t (nI_le (Nat.le_refl _) (by omega)) ?_
    exact ev_r0 rfl
  | succ n ih =>
    intro i X hi
    have hi1 : i < G.length := by omega
    have hi2 : i < Lf.length := by omega
    have a1 := hG _ (List.getElem_mem hi1)
    have b1 := hL _ (List.getElem_mem hi2)
    have ih1 := ih (i + 1) (sx1 cn G[i] Lf[i] X) (by omega)
    rw [List.drop_eq_getElem_cons hi1, List.drop_eq_getElem_cons hi2, sxF]
    (repeat refine ev_step rfl rfl ?_)
    refine ev_f (nI_ge (a := i) (b := G.length) (by omega) (by omega)) ?_
    (repeat refine ev_step rfl rfl ?_)
    refine ev_ia rfl rfl (i) (rfl) (by omega) (by omega) ?_
    refine ev_tp (lsA_at hi1) ?_
    (repeat refine ev_step rfl rfl ?_)
    refine ev_is rfl rfl (G[i]) (rfl) (a1) (by omega) rfl ?_
    (repeat refine ev_step rfl rfl ?_)
    refine ev_ia rfl rfl (i) (rfl) (by omega) (by omega) ?_
    refine ev_tp (lsA_at hi2) ?_
    (repeat refine ev_step rfl rfl ?_)
    refine ev_is rfl rfl (Lf[i]) (rfl) (b1) (by omega) rfl ?_
    (repeat refine ev_step rfl rfl ?_)
    refine ev_ia rfl rfl (i) (rfl) (by omega) (by omega) ?_
    refine ev_tp (lsA_at hi1) ?_
    (repeat refine ev_step rfl rfl ?_)
    refine ev_ia rfl rfl (i) (rfl) (by omega) (by omega) ?_
    refine ev_tp (lsA_at hi2) ?_
    refine ev_v3 rfl rfl (Nat.le_of_ble_eq_true rfl) (Nat.le_of_ble_eq_true rfl) rfl (mt_exchange hw hq a1 b1 hcn) ?_
    iterate 2 (refine ev_step rfl rfl ?_)
    rw [nI_1]
    exact ih1
theorem mt_shift {L : Nat} {xs : Nat → Int32} {w q : Nat} {nb ed ra bk : Nat → Int32} {wt gp gq mv : Int32} {cn : Nat} {mc mk ga le : Nat → Int32} {sw : Bool} {bi ar : Nat → Int32} {tm sd : Int32} {rest : ac_H} {d : Nat} (hw : sideOk w) (hq : sideOk q) (hnb : nbOk (w * q) nb) (hd : d < 6) (hcn : cn ≤ 4) (hl : (fl (leP ed nb d) (w * q)).length = (fl (gaP ed nb d) (w * q)).length) {X : X3} (hX : sxF cn (fl (gaP ed nb d) (w * q)) (fl (leP ed nb d) (w * q)) (ed, bi, mc) = X) : Mt L xs 64 [.ref 0, .int (nI d)] (GH w q nb ed ra bk wt gp gq mv cn mc mk ga le sw bi ar tm sd rest) none (GH w q nb (X.1) ra bk wt gp gq mv cn (X.2.2) mk (lsA (fl (gaP ed nb d) (w * q)) ga) (lsA (fl (leP ed nb d) (w * q)) le) sw (X.2.1) ar tm sd rest) 0 0 := by
  subst hX
  show Ev L xs 64 (0, [.ref 0, .int (nI d), ac_un, ac_un, ac_un, ac_un, ac_un], [], _, 0, 0) _
  iterate 6 (refine ev_step rfl rfl ?_)
  have h := shift_1 (L := L) (xs := xs) (ed := ed) (R := (.inl none, (GH w q nb ((sxF cn (fl (gaP ed nb d) (w * q)) (fl (leP ed nb d) (w * q)) (ed, bi, mc)).1) ra bk wt gp gq mv cn ((sxF cn (fl (gaP ed nb d) (w * q)) (fl (leP ed nb d) (w * q)) (ed, bi, mc)).2.2) mk (lsA (fl (gaP ed nb d) (w * q)) ga) (lsA (fl (leP ed nb d) (w * q)) le) sw ((sxF cn (fl (gaP ed nb d) (w * q)) (fl (leP ed nb d) (w * q)) (ed, bi, mc)).2.1) ar tm sd rest), 0, 0)) (ra := ra) (bk := bk) (wt := wt) (gp := gp) (gq := gq) (mv := mv) (cn := cn) (mc := mc) (mk := mk) (ga := ga) (le := le) (sw := sw) (bi := bi) (ar := ar) (tm := tm) (sd := sd) (rest := rest) hw hq hnb hd (fun u1 u2 => by
    iterate 2 (refine ev_step rfl rfl ?_)
    exact shift_2 (ed := ed) (bi := bi) (mc := mc) (G := fl (gaP ed nb d) (w * q)) (Lf := fl (leP ed nb d) (w * q)) hw hq hcn (fun j hj => (fl_mem.mp hj).1) (fun j hj => (fl_mem.mp hj).1) (fl_len _ _) hl (fl (gaP ed nb d) (w * q)).length 0 (ed, bi, mc) (Nat.zero_add _)) (w * q) 0 ac_un ac_un (Nat.zero_add _)
  exact h
