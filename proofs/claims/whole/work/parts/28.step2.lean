/-! ===== the class: flight ===== -/
def nbOk (n : Nat) (nb : Nat → Int32) : Prop := ∀ j, j < n * 6 → ∃ m, m < n ∧ nb j = nI m
/-- the cell by a direction -/
def nbN (nb : Nat → Int32) (c d : Nat) : Nat := (nb (c * 6 + d % 6)).toNatClampNeg
theorem nbN_spec {n : Nat} {nb : Nat → Int32} (h : nbOk n nb) (hn : n ≤ 256) {c : Nat} (hc : c < n) (d : Nat) : nb (c * 6 + d % 6) = nI (nbN nb c d) ∧ nbN nb c d < n := by
  obtain ⟨m, hm, e⟩ := h (c * 6 + d % 6) (by have := Nat.mod_lt d (show 6 > 0 by decide); omega)
  unfold nbN
  rw [e, nI_clamp (by omega)]
  exact ⟨rfl, hm⟩
def soF (nb : Nat → Int32) (t c β : Nat) : Nat → Nat → (Nat → Int32) → Nat → Int32
  | 0, _, f => f
  | n + 1, k, f => soF nb t c β n (k + 1) (if β.testBit k = true then upd f (nbN nb c (k + t)) (f (nbN nb c (k + t)) ||| ((1 : Int32) <<< (nI k &&& 31))) else f)
def soC (nb : Nat → Int32) (t c β : Nat) (f : Nat → Int32) : Nat → Int32 := soF nb t c β 6 0 (upd f c (f c ||| (nI β &&& 64)))
theorem send_it {L : Nat} {xs : Nat → Int32} {w q : Nat} {nb ed ra bk : Nat → Int32} {wt gp gq mv : Int32} {cn : Nat} {mc mk ga le : Nat → Int32} {sw : Bool} {bi ar : Nat → Int32} {tm sd : Int32} {rest : ac_H} {c β t : Nat} (hw : sideOk w) (hq : sideOk q) (hnb : nbOk (w * q) nb) (hc : c < w * q) (hβ : β < 128) (ht : t < 7) : ∀ (n k : Nat) (f : Nat → Int32), k + n = 6 → Ev L xs 58 (16, [.ref 0, .int (nI c), .int (nI β), .int (nI t), .int (nI k)], [], (GH w q nb ed ra bk wt gp gq mv cn mc mk ga le sw bi (f) tm sd rest), 0, 0) (.inl none, (GH w q nb ed ra bk wt gp gq mv cn mc mk ga le sw bi (soF nb t c β n k f) tm sd rest), 0, 0) := by
  have hn := side_n hw hq
  intro n
  induction n with
  | zero =>
    intro k f hk
    have e : k = 6 := by omega
    subst e
    (repeat refine ev_step rfl rfl ?_)
    refine ev_t (by decide) ?_
    exact ev_r0 rfl
  | succ n ih =>
    intro k f hk
    have ih1 := ih (k + 1)
    obtain ⟨e1, h1⟩ := nbN_spec hnb hn.1 hc (k + t)
    rw [soF]
    (repeat refine ev_step rfl rfl ?_)
    refine ev_f (nI_ge (a := k) (b := 6) (by omega) (by decide)) ?_
    iterate 2 (refine ev_step rfl rfl ?_)
    refine ev_i2 rfl rfl (Nat.le_of_ble_eq_true rfl) (Nat.le_of_ble_eq_true rfl) rfl (mt_holds hβ (k := k) (by omega) _) ?_
    cases hbit : β.testBit k with
    | false =>
      iterate 3 (refine ev_step rfl rfl ?_)
      rw [nI_1, if_neg (by decide)]
      exact ih1 f (by omega)
    | true =>
      rw [if_pos rfl]
      cases sw
      all_goals
        (repeat refine ev_step rfl rfl ?_)
        rw [nI_add]
        refine ev_i3 rfl rfl (Nat.le_of_ble_eq_true rfl) (Nat.le_of_ble_eq_true rfl) rfl (mt_neighbour hn.1 hc (d := k + t) (by omega)) ?_
        rw [e1]
        (repeat refine ev_step rfl rfl ?_)
        refine ev_ia rfl rfl (nbN nb c (k + t)) (rfl) (h1) (by omega) ?_
        (repeat refine ev_step rfl rfl ?_)
        refine ev_is rfl rfl (nbN nb c (k + t)) (rfl) (h1) (by omega) rfl ?_
        iterate 2 (refine ev_step rfl rfl ?_)
        rw [nI_1]
        exact ih1 (upd f (nbN nb c (k + t)) (f (nbN nb c (k + t)) ||| ((1 : Int32) <<< (nI k &&& 31)))) (by omega)
theorem mt_sendOff {L : Nat} {xs : Nat → Int32} {w q : Nat} {nb ed ra bk : Nat → Int32} {wt gp gq mv : Int32} {cn : Nat} {mc mk ga le : Nat → Int32} {sw : Bool} {bi ar : Nat → Int32} {tm sd : Int32} {rest : ac_H} {c β t : Nat} (hw : sideOk w) (hq : sideOk q) (hnb : nbOk (w * q) nb) (hc : c < w * q) (hβ : β < 128) (ht : t < 7) : Mt L xs 58 [.ref 0, .int (nI c), .int (nI β), .int (nI t)] (GH w q nb ed ra bk wt gp gq mv cn mc mk ga le sw bi ar tm sd rest) none (GH w q nb ed ra bk wt gp gq mv cn mc mk ga le sw bi (soC nb t c β ar) tm sd rest) 0 0 := by
  have hn := side_n hw hq
  have h := fun f => send_it (L := L) (xs := xs) (ar := ar) (nb := nb) (ed := ed) (ra := ra) (bk := bk) (wt := wt) (gp := gp) (gq := gq) (mv := mv) (cn := cn) (mc := mc) (mk := mk) (ga := ga) (le := le) (sw := sw) (bi := bi) (tm := tm) (sd := sd) (rest := rest) hw hq hnb hc hβ ht 6 0 f rfl
  cases sw
  all_goals
    show Ev L xs 58 (0, [.ref 0, .int (nI c), .int (nI β), .int (nI t), ac_un], [], _, 0, 0) _
    (repeat refine ev_step rfl rfl ?_)
    refine ev_ia rfl rfl (c) (rfl) (hc) (by omega) ?_
    (repeat refine ev_step rfl rfl ?_)
    refine ev_is rfl rfl (c) (rfl) (hc) (by omega) rfl ?_
    iterate 2 (refine ev_step rfl rfl ?_)
    exact h (upd ar c (ar c ||| (nI β &&& 64)))
def flF (nb bi : Nat → Int32) (t : Nat) : Nat → Nat → (Nat → Int32) → Nat → Int32
  | 0, _, f => f
  | n + 1, c, f => flF nb bi t n (c + 1) (if bi c = 0 then f else soC nb t c (bi c).toNatClampNeg f)
theorem fly_it {L : Nat} {xs : Nat → Int32} {w q : Nat} {nb ed ra bk : Nat → Int32} {wt gp gq mv : Int32} {cn : Nat} {mc mk ga le : Nat → Int32} {sw : Bool} {bi ar : Nat → Int32} {tm sd : Int32} {rest : ac_H} {t : Nat} {R : ac_R} (hw : sideOk w) (hq : sideOk q) (hnb : nbOk (w * q) nb) (hbt : btOk (w * q) bi) (ht : t < 7) : ∀ (n c : Nat) (f : Nat → Int32), c + n = w * q → (Ev L xs 57 (48, [.ref 0, .int (nI t), .int (nI (w * q))], [], (GH w q nb ed ra bk wt gp gq mv cn mc mk ga le sw bi (flF nb bi t n c f) tm sd rest), 0, 0) R) → Ev L xs 57 (10, [.ref 0, .int (nI t), .int (nI c)], [], (GH w q nb ed ra bk wt gp gq mv cn mc mk ga le sw bi (f) tm sd rest), 0, 0) R := by
  have hn := side_n hw hq
  intro n
  induction n with
  | zero =>
    intro c f hc k
    have e : c = w * q := by omega
    rw [e]
    (repeat refine ev_step rfl rfl ?_)
    refine ev_t (nI_le (Nat.le_refl _) (by omega)) ?_
    exact k
  | succ n ih =>
    intro c f hc k
    obtain ⟨β, hβ, hb⟩ := hbt c (by omega)
    rw [flF] at k
    have ih1 := ih (c + 1) _ (by omega) k
    cases sw
    all_goals
      (repeat refine ev_step rfl rfl ?_)
      refine ev_f (nI_ge (a := c) (b := w * q) (by omega) (by omega)) ?_
      (repeat refine ev_step rfl rfl ?_)
      refine ev_ia rfl rfl (c) (rfl) (by omega) (by omega) ?_
      refine ev_tp (show _ = bi c from rfl) ?_
      iterate 1 (refine ev_step rfl rfl ?_)
      refine ev_br (fun z => ?_) (fun z => ?_)
      · rw [if_pos z] at ih1
        iterate 2 (refine ev_step rfl rfl ?_)
        rw [nI_1]
        exact ih1
      · rw [if_neg z, hb, nI_clamp (by omega)] at ih1
        (repeat refine ev_step rfl rfl ?_)
        refine ev_ia rfl rfl (c) (rfl) (by omega) (by omega) ?_
        refine ev_tp hb ?_
        (repeat refine ev_step rfl rfl ?_)
        refine ev_v4 rfl rfl (Nat.le_of_ble_eq_true rfl) (Nat.le_of_ble_eq_true rfl) rfl (mt_sendOff hw hq hnb (by omega) hβ ht) ?_
        iterate 2 (refine ev_step rfl rfl ?_)
        rw [nI_1]
        exact ih1
/-- the bits behind a flight -/
def flB (nb bi ar : Nat → Int32) (n t : Nat) : Nat → Int32 := flF nb bi t n 0 (pre n (fun _ => 0) ar)
theorem mt_fly {L : Nat} {xs : Nat → Int32} {w q : Nat} {nb ed ra bk : Nat → Int32} {wt gp gq mv : Int32} {cn : Nat} {mc mk ga le : Nat → Int32} {sw : Bool} {bi ar : Nat → Int32} {tm sd : Int32} {rest : ac_H} {t : Nat} (hw : sideOk w) (hq : sideOk q) (hnb : nbOk (w * q) nb) (hbt : btOk (w * q) bi) (ht : t < 7) (hcn : cn ≤ 4) (hok : mkOk (w * q) cn mc mk) : Mt L xs 57 [.ref 0, .int (nI t)] (GH w q nb ed ra bk wt gp gq mv cn mc mk ga le sw bi ar tm sd rest) none (GH w q nb ed ra bk wt gp gq mv cn (pre cn (fyF nb t mc mk) mc) mk ga le (!sw) (flB nb bi ar (w * q) t) (bi) tm sd rest) 0 0 := by
  have hn := side_n hw hq
  cases sw
  all_goals
    show Ev L xs 57 (0, [.ref 0, .int (nI t), ac_un], [], _, 0, 0) _
    (repeat refine ev_step rfl rfl ?_)
    refine ev_v2 rfl rfl (Nat.le_of_ble_eq_true rfl) (Nat.le_of_ble_eq_true rfl) rfl (mt_fill rfl (by omega)) ?_
    iterate 2 (refine ev_step rfl rfl ?_)
  · refine fly_it (ar := ar) (sw := false) hw hq hnb hbt ht (w * q) 0 (pre (w * q) (fun _ => 0) ar) (Nat.zero_add _) ?_
    (repeat refine ev_step rfl rfl ?_)
    refine ev_v3 rfl rfl (Nat.le_of_ble_eq_true rfl) (Nat.le_of_ble_eq_true rfl) rfl (mt_mfly hn.1 ht hcn hok) ?_
    exact ev_r0 rfl
  · refine fly_it (ar := ar) (sw := true) hw hq hnb hbt ht (w * q) 0 (pre (w * q) (fun _ => 0) ar) (Nat.zero_add _) ?_
    (repeat refine ev_step rfl rfl ?_)
    refine ev_v3 rfl rfl (Nat.le_of_ble_eq_true rfl) (Nat.le_of_ble_eq_true rfl) rfl (mt_mfly hn.1 ht hcn hok) ?_
    exact ev_r0 rfl
