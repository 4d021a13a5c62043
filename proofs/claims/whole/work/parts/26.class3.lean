/-- all bits are 0 .. 127 -/
def btOk (n : Nat) (bi : Nat → Int32) : Prop := ∀ i, i < n → ∃ β, β < 128 ∧ bi i = nI β
theorem mt_mark {L : Nat} {xs : Nat → Int32} {w q : Nat} {nb ed ra bk : Nat → Int32} {wt gp gq mv : Int32} {cn : Nat} {mc mk ga le : Nat → Int32} {sw : Bool} {bi ar : Nat → Int32} {tm sd : Int32} {rest : ac_H} {a b k : Nat} (hw : sideOk w) (hq : sideOk q) (ha : a < w) (hb : b < q) (hk : k < 7) {β : Nat} (hβ : β < 128) (hbi : bi (b * w + a) = nI β) (hbit : β.testBit k = true) (hon : onF mc mk (nI (b * w + a)) (nI k) cn 0 = 0) (hcn : cn < 4) : Mt L xs 40 [.ref 0, .int (nI a), .int (nI b), .int (nI k)] (GH w q nb ed ra bk wt gp gq mv cn mc mk ga le sw bi ar tm sd rest) (some (.int (nI cn))) (GH w q nb ed ra bk wt gp gq mv (cn + 1) (upd mc cn (nI (b * w + a))) (upd mk cn (nI k)) ga le sw bi ar tm sd rest) 0 0 := by
  have hn := side_n hw hq
  have hc := cell_lt ha hb
  cases sw
  all_goals
    show Ev L xs 40 (0, [.ref 0, .int (nI a), .int (nI b), .int (nI k), ac_un], [], _, 0, 0) _
    (repeat refine ev_step rfl rfl ?_)
    refine ev_i3 rfl rfl (Nat.le_of_ble_eq_true rfl) (Nat.le_of_ble_eq_true rfl) rfl (mt_cellAt hw.2.1 hq.2.1 ha hb) ?_
    (repeat refine ev_step rfl rfl ?_)
    refine ev_v3 rfl rfl (Nat.le_of_ble_eq_true rfl) (Nat.le_of_ble_eq_true rfl) rfl (mt_refuse (nI_pos (by omega)) (nI_le (a := k) (b := 6) (by omega) (by decide)) _) ?_
    (repeat refine ev_step rfl rfl ?_)
    refine ev_ia rfl rfl (b * w + a) (rfl) (hc) (by omega) ?_
    refine ev_tp hbi ?_
    (repeat refine ev_step rfl rfl ?_)
    refine ev_i2 rfl rfl (Nat.le_of_ble_eq_true rfl) (Nat.le_of_ble_eq_true rfl) rfl (mt_holds hβ hk _) ?_
    rw [hbit]
    (repeat refine ev_step rfl rfl ?_)
    refine ev_i3 rfl rfl (Nat.le_of_ble_eq_true rfl) (Nat.le_of_ble_eq_true rfl) rfl (mt_isOn (Nat.le_of_lt hcn)) ?_
    refine ev_tp hon ?_
    (repeat refine ev_step rfl rfl ?_)
    refine ev_t (nI_lt (a := cn) (b := 4) hcn (by decide)) ?_
    (repeat refine ev_step rfl rfl ?_)
    refine ev_i3 rfl rfl (Nat.le_of_ble_eq_true rfl) (Nat.le_of_ble_eq_true rfl) rfl (mt_put hcn) ?_
    exact ev_r1 rfl
theorem mx_mark1 {L : Nat} {xs : Nat → Int32} {w q : Nat} {nb ed ra bk : Nat → Int32} {wt gp gq mv : Int32} {cn : Nat} {mc mk ga le : Nat → Int32} {sw : Bool} {bi ar : Nat → Int32} {tm sd : Int32} {rest : ac_H} {x y v : Int32} (h : badXY w q x y) : Mx L xs 40 [.ref 0, .int x, .int y, .int v] (GH w q nb ed ra bk wt gp gq mv cn mc mk ga le sw bi ar tm sd rest) 0 (GH w q nb ed ra bk wt gp gq mv cn mc mk ga le sw bi ar tm sd (rest ++ [ac_junk])) 1 6 := by
  show Ev L xs 40 (0, [.ref 0, .int x, .int y, .int v, ac_un], [], _, 0, 0) _
  (repeat refine ev_step rfl rfl ?_)
  exact ev_x3 rfl rfl (Nat.le_of_ble_eq_true rfl) (Nat.le_of_ble_eq_true rfl) rfl (mx_cellAt h) rfl
theorem mx_mark2 {L : Nat} {xs : Nat → Int32} {w q : Nat} {nb ed ra bk : Nat → Int32} {wt gp gq mv : Int32} {cn : Nat} {mc mk ga le : Nat → Int32} {sw : Bool} {bi ar : Nat → Int32} {tm sd : Int32} {rest : ac_H} {a b : Nat} {v : Int32} (hw : sideOk w) (hq : sideOk q) (ha : a < w) (hb : b < q) (h : v < 0 ∨ ¬ v ≤ 6) : Mx L xs 40 [.ref 0, .int (nI a), .int (nI b), .int v] (GH w q nb ed ra bk wt gp gq mv cn mc mk ga le sw bi ar tm sd rest) 1 (GH w q nb ed ra bk wt gp gq mv cn mc mk ga le sw bi ar tm sd (rest ++ [ac_junk])) 1 6 := by
  show Ev L xs 40 (0, [.ref 0, .int (nI a), .int (nI b), .int v, ac_un], [], _, 0, 0) _
  (repeat refine ev_step rfl rfl ?_)
  refine ev_i3 rfl rfl (Nat.le_of_ble_eq_true rfl) (Nat.le_of_ble_eq_true rfl) rfl (mt_cellAt hw.2.1 hq.2.1 ha hb) ?_
  (repeat refine ev_step rfl rfl ?_)
  exact ev_x3 rfl rfl (Nat.le_of_ble_eq_true rfl) (Nat.le_of_ble_eq_true rfl) rfl (mx_refuse h _) rfl
theorem mx_mark3 {L : Nat} {xs : Nat → Int32} {w q : Nat} {nb ed ra bk : Nat → Int32} {wt gp gq mv : Int32} {cn : Nat} {mc mk ga le : Nat → Int32} {sw : Bool} {bi ar : Nat → Int32} {tm sd : Int32} {rest : ac_H} {a b k : Nat} (hw : sideOk w) (hq : sideOk q) (ha : a < w) (hb : b < q) (hk : k < 7) {β : Nat} (hβ : β < 128) (hbi : bi (b * w + a) = nI β) (hbit : β.testBit k = false) : Mx L xs 40 [.ref 0, .int (nI a), .int (nI b), .int (nI k)] (GH w q nb ed ra bk wt gp gq mv cn mc mk ga le sw bi ar tm sd rest) 4 (GH w q nb ed ra bk wt gp gq mv cn mc mk ga le sw bi ar tm sd (rest ++ [ac_junk])) 1 6 := by
  have hn := side_n hw hq
  have hc := cell_lt ha hb
  cases sw
  all_goals
    show Ev L xs 40 (0, [.ref 0, .int (nI a), .int (nI b), .int (nI k), ac_un], [], _, 0, 0) _
    (repeat refine ev_step rfl rfl ?_)
    refine ev_i3 rfl rfl (Nat.le_of_ble_eq_true rfl) (Nat.le_of_ble_eq_true rfl) rfl (mt_cellAt hw.2.1 hq.2.1 ha hb) ?_
    (repeat refine ev_step rfl rfl ?_)
    refine ev_v3 rfl rfl (Nat.le_of_ble_eq_true rfl) (Nat.le_of_ble_eq_true rfl) rfl (mt_refuse (nI_pos (by omega)) (nI_le (a := k) (b := 6) (by omega) (by decide)) _) ?_
    (repeat refine ev_step rfl rfl ?_)
    refine ev_ia rfl rfl (b * w + a) (rfl) (hc) (by omega) ?_
    refine ev_tp hbi ?_
    (repeat refine ev_step rfl rfl ?_)
    refine ev_i2 rfl rfl (Nat.le_of_ble_eq_true rfl) (Nat.le_of_ble_eq_true rfl) rfl (mt_holds hβ hk _) ?_
    rw [hbit]
    (repeat refine ev_step rfl rfl ?_)
    exact ev_thr rfl
theorem mx_mark4 {L : Nat} {xs : Nat → Int32} {w q : Nat} {nb ed ra bk : Nat → Int32} {wt gp gq mv : Int32} {cn : Nat} {mc mk ga le : Nat → Int32} {sw : Bool} {bi ar : Nat → Int32} {tm sd : Int32} {rest : ac_H} {a b k : Nat} (hw : sideOk w) (hq : sideOk q) (ha : a < w) (hb : b < q) (hk : k < 7) {β : Nat} (hβ : β < 128) (hbi : bi (b * w + a) = nI β) (hbit : β.testBit k = true) (hon : onF mc mk (nI (b * w + a)) (nI k) cn 0 = 1) (hcn : cn ≤ 4) : Mx L xs 40 [.ref 0, .int (nI a), .int (nI b), .int (nI k)] (GH w q nb ed ra bk wt gp gq mv cn mc mk ga le sw bi ar tm sd rest) 2 (GH w q nb ed ra bk wt gp gq mv cn mc mk ga le sw bi ar tm sd (rest ++ [ac_junk])) 1 6 := by
  have hn := side_n hw hq
  have hc := cell_lt ha hb
  cases sw
  all_goals
    show Ev L xs 40 (0, [.ref 0, .int (nI a), .int (nI b), .int (nI k), ac_un], [], _, 0, 0) _
    (repeat refine ev_step rfl rfl ?_)
    refine ev_i3 rfl rfl (Nat.le_of_ble_eq_true rfl) (Nat.le_of_ble_eq_true rfl) rfl (mt_cellAt hw.2.1 hq.2.1 ha hb) ?_
    (repeat refine ev_step rfl rfl ?_)
    refine ev_v3 rfl rfl (Nat.le_of_ble_eq_true rfl) (Nat.le_of_ble_eq_true rfl) rfl (mt_refuse (nI_pos (by omega)) (nI_le (a := k) (b := 6) (by omega) (by decide)) _) ?_
    (repeat refine ev_step rfl rfl ?_)
    refine ev_ia rfl rfl (b * w + a) (rfl) (hc) (by omega) ?_
    refine ev_tp hbi ?_
    (repeat refine ev_step rfl rfl ?_)
    refine ev_i2 rfl rfl (Nat.le_of_ble_eq_true rfl) (Nat.le_of_ble_eq_true rfl) rfl (mt_holds hβ hk _) ?_
    rw [hbit]
    (repeat refine ev_step rfl rfl ?_)
    refine ev_i3 rfl rfl (Nat.le_of_ble_eq_true rfl) (Nat.le_of_ble_eq_true rfl) rfl (mt_isOn hcn) ?_
    refine ev_tp hon ?_
    (repeat refine ev_step rfl rfl ?_)
    exact ev_thr rfl
theorem mx_mark5 {L : Nat} {xs : Nat → Int32} {w q : Nat} {nb ed ra bk : Nat → Int32} {wt gp gq mv : Int32} {cn : Nat} {mc mk ga le : Nat → Int32} {sw : Bool} {bi ar : Nat → Int32} {tm sd : Int32} {rest : ac_H} {a b k : Nat} (hw : sideOk w) (hq : sideOk q) (ha : a < w) (hb : b < q) (hk : k < 7) {β : Nat} (hβ : β < 128) (hbi : bi (b * w + a) = nI β) (hbit : β.testBit k = true) (hon : onF mc mk (nI (b * w + a)) (nI k) cn 0 = 0) (hcn : cn = 4) : Mx L xs 40 [.ref 0, .int (nI a), .int (nI b), .int (nI k)] (GH w q nb ed ra bk wt gp gq mv cn mc mk ga le sw bi ar tm sd rest) 3 (GH w q nb ed ra bk wt gp gq mv cn mc mk ga le sw bi ar tm sd (rest ++ [ac_junk])) 1 6 := by
  have hn := side_n hw hq
  have hc := cell_lt ha hb
  subst hcn
  cases sw
  all_goals
    show Ev L xs 40 (0, [.ref 0, .int (nI a), .int (nI b), .int (nI k), ac_un], [], _, 0, 0) _
    (repeat refine ev_step rfl rfl ?_)
    refine ev_i3 rfl rfl (Nat.le_of_ble_eq_true rfl) (Nat.le_of_ble_eq_true rfl) rfl (mt_cellAt hw.2.1 hq.2.1 ha hb) ?_
    (repeat refine ev_step rfl rfl ?_)
    refine ev_v3 rfl rfl (Nat.le_of_ble_eq_true rfl) (Nat.le_of_ble_eq_true rfl) rfl (mt_refuse (nI_pos (by omega)) (nI_le (a := k) (b := 6) (by omega) (by decide)) _) ?_
    (repeat refine ev_step rfl rfl ?_)
    refine ev_ia rfl rfl (b * w + a) (rfl) (hc) (by omega) ?_
    refine ev_tp hbi ?_
    (repeat refine ev_step rfl rfl ?_)
    refine ev_i2 rfl rfl (Nat.le_of_ble_eq_true rfl) (Nat.le_of_ble_eq_true rfl) rfl (mt_holds hβ hk _) ?_
    rw [hbit]
    (repeat refine ev_step rfl rfl ?_)
    refine ev_i3 rfl rfl (Nat.le_of_ble_eq_true rfl) (Nat.le_of_ble_eq_true rfl) rfl (mt_isOn (Nat.le_refl 4)) ?_
    refine ev_tp hon ?_
    (repeat refine ev_step rfl rfl ?_)
    exact ev_thr rfl
/-- a sum of n numbers from i on, onto t -/
def smF (g : Nat → Int32) : Nat → Nat → Int32 → Int32
  | 0, _, t => t
  | n + 1, i, t => smF g n (i + 1) (t + g i)
def chG (w : Nat) (bi : Nat → Int32) : Nat → Int32 := fun c => bi c * (nI (c / w) * 16 + nI (c % w) + 1)
theorem check_it {L : Nat} {xs : Nat → Int32} {w q : Nat} {nb ed ra bk : Nat → Int32} {wt gp gq mv : Int32} {cn : Nat} {mc mk ga le : Nat → Int32} {sw : Bool} {bi ar : Nat → Int32} {tm sd : Int32} {rest : ac_H} (hw : sideOk w) (hq : sideOk q) : ∀ (n i : Nat) (t : Int32), i + n = w * q → Ev L xs 39 (4, [.ref 0, .int t, .int (nI i)], [], (GH w q nb ed ra bk wt gp gq mv cn mc mk ga le sw bi ar tm sd rest), 0, 0) (.inl (some (.int (smF (chG w bi) n i t))), (GH w q nb ed ra bk wt gp gq mv cn mc mk ga le sw bi ar tm sd rest), 0, 0) := by
  have hn := side_n hw hq
  have hw1 := hw.1
  have hw2 := hw.2.1
  intro n
  induction n with
  | zero =>
    intro i t hi
    (repeat refine ev_step rfl rfl ?_)
    refine ev_t (nI_le (a := w * q) (b := i) (by omega) (by omega)) ?_
    (repeat refine ev_step rfl rfl ?_)
    exact ev_r1 rfl
  | succ n ih =>
    intro i t hi
    rw [smF]
    have ih1 := ih (i + 1) (t + chG w bi i) (by omega)
    cases sw
    all_goals
      (repeat refine ev_step rfl rfl ?_)
      refine ev_f (nI_ge (a := i) (b := w * q) (by omega) (by omega)) ?_
      (repeat refine ev_step rfl rfl ?_)
      refine ev_ia rfl rfl (i) (rfl) (by omega) (by omega) ?_
      (repeat refine ev_step rfl rfl ?_)
      refine ev_i2 rfl rfl (Nat.le_of_ble_eq_true rfl) (Nat.le_of_ble_eq_true rfl) rfl (mt_rowOf (by omega) (by omega) (by omega)) ?_
      (repeat refine ev_step rfl rfl ?_)
      refine ev_i2 rfl rfl (Nat.le_of_ble_eq_true rfl) (Nat.le_of_ble_eq_true rfl) rfl (mt_columnOf (by omega) (by omega) (by omega)) ?_
      iterate 8 (refine ev_step rfl rfl ?_)
      rw [nI_1]
      exact ih1
theorem mt_check {L : Nat} {xs : Nat → Int32} {w q : Nat} {nb ed ra bk : Nat → Int32} {wt gp gq mv : Int32} {cn : Nat} {mc mk ga le : Nat → Int32} {sw : Bool} {bi ar : Nat → Int32} {tm sd : Int32} {rest : ac_H} (hw : sideOk w) (hq : sideOk q) : Mt L xs 39 [.ref 0] (GH w q nb ed ra bk wt gp gq mv cn mc mk ga le sw bi ar tm sd rest) (some (.int (smF (chG w bi) (w * q) 0 0))) (GH w q nb ed ra bk wt gp gq mv cn mc mk ga le sw bi ar tm sd rest) 0 0 := by
  show Ev L xs 39 (0, [.ref 0, ac_un, ac_un], [], _, 0, 0) _
  iterate 4 (refine ev_step rfl rfl ?_)
  exact check_it hw hq (w * q) 0 0 (Nat.zero_add _)
/-- what a cell of a rectangle counts -/
def suG (bi : Nat → Int32) (f o : Nat) : Nat → Int32 := fun c => amI (bi (o + c)).toNatClampNeg f
def srF (bi : Nat → Int32) (f w W o : Nat) : Nat → Nat → Int32 → Int32
  | 0, _, t => t
  | n + 1, r, t => srF bi f w W o n (r + 1) (smF (suG bi f (o + r * w)) W 0 t)
theorem sum_in {L : Nat} {xs : Nat → Int32} {w q : Nat} {nb ed ra bk : Nat → Int32} {wt gp gq mv : Int32} {cn : Nat} {mc mk ga le : Nat → Int32} {sw : Bool} {bi ar : Nat → Int32} {tm sd : Int32} {rest : ac_H} {a b W Hh f r : Nat} (hw : sideOk w) (hq : sideOk q) (hW : a + W ≤ w) (hr : b + r < q) (hH : Hh ≤ q) (hf : f < 3) (hok : btOk (w * q) bi) {R : ac_R} (x1 x2 : Value) : ∀ (n i : Nat) (t : Int32), i + n = W →
    (Ev L xs 37 (122, [.ref 0, x1, x2, .int (nI W), .int (nI Hh), .int (nI f), .int (nI (b * w + a)), .int (smF (suG bi f (b * w + a + r * w)) n i t), .int (nI r), .int (nI W)], [], (GH w q nb ed ra bk wt gp gq mv cn mc mk ga le sw bi ar tm sd rest), 0, 0) R) →
    Ev L xs 37 (79, [.ref 0, x1, x2, .int (nI W), .int (nI Hh), .int (nI f), .int (nI (b * w + a)), .int t, .int (nI r), .int (nI i)], [], (GH w q nb ed ra bk wt gp gq mv cn mc mk ga le sw bi ar tm sd rest), 0, 0) R := by
  have hn := side_n hw hq
  have hw2 := hw.2.1
  have hq2 := hq.2.1
  intro n
  induction n with
  | zero =>
    intro i t hi k
    have e : i = W := by omega
    subst e
    iterate 3 (refine ev_step rfl rfl ?_)
    refine ev_t (nI_le (Nat.le_refl i) (by omega)) ?_
    exact k
  | succ n ih =>
    intro i t hi k
    have hcell : b * w + a + r * w + i < w * q := by
      have h := cell_lt (w := w) (q := q) (a := a + i) (b := b + r) (by omega) hr
      rw [Nat.add_mul] at h
      omega
    obtain ⟨β, hβ, hbi⟩ := hok _ hcell
    have ih1 := ih (i + 1) (t + suG bi f (b * w + a + r * w) i) (by omega) k
    have e9 : suG bi f (b * w + a + r * w) i = amI β f := by unfold suG; rw [hbi, nI_clamp (by omega)]
    rw [e9] at ih1
    have hrw : r * w < 2 ^ 31 := by omega
    cases sw
    all_goals
      iterate 3 (refine ev_step rfl rfl ?_)
      refine ev_f (nI_ge (a := i) (b := W) (by omega) (by omega)) ?_
      (repeat refine ev_step rfl rfl ?_)
      refine ev_ia rfl rfl (b * w + a + r * w + i) (by rw [pk_mul, nI_add, nI_add]) (hcell) (by omega) ?_
      refine ev_tp hbi ?_
      (repeat refine ev_step rfl rfl ?_)
      refine ev_i2 rfl rfl (Nat.le_of_ble_eq_true rfl) (Nat.le_of_ble_eq_true rfl) rfl (mt_amount hβ hf _) ?_
      iterate 4 (refine ev_step rfl rfl ?_)
      rw [nI_1]
      exact ih1
theorem sum_out {L : Nat} {xs : Nat → Int32} {w q : Nat} {nb ed ra bk : Nat → Int32} {wt gp gq mv : Int32} {cn : Nat} {mc mk ga le : Nat → Int32} {sw : Bool} {bi ar : Nat → Int32} {tm sd : Int32} {rest : ac_H} {a b W Hh f : Nat} (hw : sideOk w) (hq : sideOk q) (hW : a + W ≤ w) (hH : b + Hh ≤ q) (hf : f < 3) (hok : btOk (w * q) bi) (x1 x2 : Value) : ∀ (n r : Nat) (t : Int32) (u : Value), r + n = Hh → Ev L xs 37 (69, [.ref 0, x1, x2, .int (nI W), .int (nI Hh), .int (nI f), .int (nI (b * w + a)), .int t, .int (nI r), u], [], (GH w q nb ed ra bk wt gp gq mv cn mc mk ga le sw bi ar tm sd rest), 0, 0) (.inl (some (.int (srF bi f w W (b * w + a) n r t))), (GH w q nb ed ra bk wt gp gq mv cn mc mk ga le sw bi ar tm sd rest), 0, 0) := by
  have hq2 := hq.2.1
  intro n
  induction n with
  | zero =>
    intro r t u hr
    iterate 3 (refine ev_step rfl rfl ?_)
    refine ev_t (nI_le (a := Hh) (b := r) (by omega) (by omega)) ?_
    (repeat refine ev_step rfl rfl ?_)
    exact ev_r1 rfl
  | succ n ih =>
    intro r t u hr
    rw [srF]
    iterate 3 (refine ev_step rfl rfl ?_)
    refine ev_f (nI_ge (a := r) (b := Hh) (by omega) (by omega)) ?_
    iterate 2 (refine ev_step rfl rfl ?_)
    refine sum_in hw hq hW (r := r) (by omega) (by omega) hf hok x1 x2 W 0 t (Nat.zero_add _) ?_
    iterate 2 (refine ev_step rfl rfl ?_)
    rw [nI_1]
    exact ih (r + 1) _ _ (by omega)
theorem mt_sum {L : Nat} {xs : Nat → Int32} {w q : Nat} {nb ed ra bk : Nat → Int32} {wt gp gq mv : Int32} {cn : Nat} {mc mk ga le : Nat → Int32} {sw : Bool} {bi ar : Nat → Int32} {tm sd : Int32} {rest : ac_H} {a b W Hh f : Nat} (hw : sideOk w) (hq : sideOk q) (ha : a < w) (hb : b < q) (h1 : 0 < W) (h2 : 0 < Hh) (hW : a + W ≤ w) (hH : b + Hh ≤ q) (hf : f < 3) (hok : btOk (w * q) bi) : Mt L xs 37 [.ref 0, .int (nI a), .int (nI b), .int (nI W), .int (nI Hh), .int (nI f)] (GH w q nb ed ra bk wt gp gq mv cn mc mk ga le sw bi ar tm sd rest) (some (.int (srF bi f w W (b * w + a) Hh 0 0))) (GH w q nb ed ra bk wt gp gq mv cn mc mk ga le sw bi ar tm sd rest) 0 0 := by
  have hw2 := hw.2.1
  have hq2 := hq.2.1
  show Ev L xs 37 (0, [.ref 0, .int (nI a), .int (nI b), .int (nI W), .int (nI Hh), .int (nI f), ac_un, ac_un, ac_un, ac_un], [], _, 0, 0) _
  (repeat refine ev_step rfl rfl ?_)
  refine ev_i3 rfl rfl (Nat.le_of_ble_eq_true rfl) (Nat.le_of_ble_eq_true rfl) rfl (mt_cellAt hw.2.1 hq.2.1 ha hb) ?_
  (repeat refine ev_step rfl rfl ?_)
  refine ev_f (nI_nlt (a := W) (b := 1) (by omega) (by omega)) ?_
  (repeat refine ev_step rfl rfl ?_)
  rw [pk_sub (a := w) (b := a) (by omega)]
  refine ev_f (nI_nlt (a := w - a) (b := W) (by omega) (by omega)) ?_
  (repeat refine ev_step rfl rfl ?_)
  refine ev_f (nI_nlt (a := Hh) (b := 1) (by omega) (by omega)) ?_
  (repeat refine ev_step rfl rfl ?_)
  rw [pk_sub (a := q) (b := b) (by omega)]
  refine ev_t (nI_le (a := Hh) (b := q - b) (by omega) (by omega)) ?_
  (repeat refine ev_step rfl rfl ?_)
  refine ev_v3 rfl rfl (Nat.le_of_ble_eq_true rfl) (Nat.le_of_ble_eq_true rfl) rfl (mt_refuse (nI_pos (by omega)) (nI_le (a := f) (b := 2) (by omega) (by decide)) _) ?_
  iterate 4 (refine ev_step rfl rfl ?_)
  exact sum_out hw hq hW hH hf hok _ _ Hh 0 0 _ (Nat.zero_add _)
theorem mx_sum1 {L : Nat} {xs : Nat → Int32} {w q : Nat} {nb ed ra bk : Nat → Int32} {wt gp gq mv : Int32} {cn : Nat} {mc mk ga le : Nat → Int32} {sw : Bool} {bi ar : Nat → Int32} {tm sd : Int32} {rest : ac_H} {x y u v f : Int32} (h : badXY w q x y) : Mx L xs 37 [.ref 0, .int x, .int y, .int u, .int v, .int f] (GH w q nb ed ra bk wt gp gq mv cn mc mk ga le sw bi ar tm sd rest) 0 (GH w q nb ed ra bk wt gp gq mv cn mc mk ga le sw bi ar tm sd (rest ++ [ac_junk])) 1 6 := by
  show Ev L xs 37 (0, [.ref 0, .int x, .int y, .int u, .int v, .int f, ac_un, ac_un, ac_un, ac_un], [], _, 0, 0) _
  (repeat refine ev_step rfl rfl ?_)
  exact ev_x3 rfl rfl (Nat.le_of_ble_eq_true rfl) (Nat.le_of_ble_eq_true rfl) rfl (mx_cellAt h) rfl
def badR (w q a b : Nat) (u v : Int32) : Prop := u < 1 ∨ nI (w - a) < u ∨ v < 1 ∨ ¬ v ≤ nI (q - b)
theorem mx_sum2 {L : Nat} {xs : Nat → Int32} {w q : Nat} {nb ed ra bk : Nat → Int32} {wt gp gq mv : Int32} {cn : Nat} {mc mk ga le : Nat → Int32} {sw : Bool} {bi ar : Nat → Int32} {tm sd : Int32} {rest : ac_H} {a b : Nat} {u v f : Int32} (hw : sideOk w) (hq : sideOk q) (ha : a < w) (hb : b < q) (h : badR w q a b u v) : Mx L xs 37 [.ref 0, .int (nI a), .int (nI b), .int u, .int v, .int f] (GH w q nb ed ra bk wt gp gq mv cn mc mk ga le sw bi ar tm sd rest) 0 (GH w q nb ed ra bk wt gp gq mv cn mc mk ga le sw bi ar tm sd (rest ++ [ac_junk])) 1 6 := by
  show Ev L xs 37 (0, [.ref 0, .int (nI a), .int (nI b), .int u, .int v, .int f, ac_un, ac_un, ac_un, ac_un], [], _, 0, 0) _
  (repeat refine ev_step rfl rfl ?_)
  refine ev_i3 rfl rfl (Nat.le_of_ble_eq_true rfl) (Nat.le_of_ble_eq_true rfl) rfl (mt_cellAt hw.2.1 hq.2.1 ha hb) ?_
  (repeat refine ev_step rfl rfl ?_)
  refine ev_br (fun _ => by exact ev_thr rfl) (fun h1 => ?_)
  (repeat refine ev_step rfl rfl ?_)
  rw [pk_sub (a := w) (b := a) (by omega)]
  refine ev_br (fun _ => by exact ev_thr rfl) (fun h2 => ?_)
  (repeat refine ev_step rfl rfl ?_)
  refine ev_br (fun _ => by exact ev_thr rfl) (fun h3 => ?_)
  (repeat refine ev_step rfl rfl ?_)
  rw [pk_sub (a := q) (b := b) (by omega)]
  refine ev_br (fun h4 => ?_) (fun _ => by exact ev_thr rfl)
  exact absurd h (fun z => by
    rcases z with z | z | z | z
    · exact h1 z
    · exact h2 z
    · exact h3 z
    · exact z h4)
theorem mx_sum3 {L : Nat} {xs : Nat → Int32} {w q : Nat} {nb ed ra bk : Nat → Int32} {wt gp gq mv : Int32} {cn : Nat} {mc mk ga le : Nat → Int32} {sw : Bool} {bi ar : Nat → Int32} {tm sd : Int32} {rest : ac_H} {a b : Nat} {u v f : Int32} (hw : sideOk w) (hq : sideOk q) (ha : a < w) (hb : b < q) (h : ¬ badR w q a b u v) (hf : f < 0 ∨ ¬ f ≤ 2) : Mx L xs 37 [.ref 0, .int (nI a), .int (nI b), .int u, .int v, .int f] (GH w q nb ed ra bk wt gp gq mv cn mc mk ga le sw bi ar tm sd rest) 1 (GH w q nb ed ra bk wt gp gq mv cn mc mk ga le sw bi ar tm sd (rest ++ [ac_junk])) 1 6 := by
  show Ev L xs 37 (0, [.ref 0, .int (nI a), .int (nI b), .int u, .int v, .int f, ac_un, ac_un, ac_un, ac_un], [], _, 0, 0) _
  (repeat refine ev_step rfl rfl ?_)
  refine ev_i3 rfl rfl (Nat.le_of_ble_eq_true rfl) (Nat.le_of_ble_eq_true rfl) rfl (mt_cellAt hw.2.1 hq.2.1 ha hb) ?_
  (repeat refine ev_step rfl rfl ?_)
  refine ev_f (fun z => h (Or.inl z)) ?_
  (repeat refine ev_step rfl rfl ?_)
  rw [pk_sub (a := w) (b := a) (by omega)]
  refine ev_f (fun z => h (Or.inr (Or.inl z))) ?_
  (repeat refine ev_step rfl rfl ?_)
  refine ev_f (fun z => h (Or.inr (Or.inr (Or.inl z)))) ?_
  (repeat refine ev_step rfl rfl ?_)
  rw [pk_sub (a := q) (b := b) (by omega)]
  refine ev_t (Decidable.byContradiction (fun z => h (Or.inr (Or.inr (Or.inr z))))) ?_
  (repeat refine ev_step rfl rfl ?_)
  exact ev_x3 rfl rfl (Nat.le_of_ble_eq_true rfl) (Nat.le_of_ble_eq_true rfl) rfl (mx_refuse hf _) rfl
