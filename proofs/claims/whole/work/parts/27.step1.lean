/-! ===== the class: meeting and flight ===== -/
def sgN (x : Int32) : Nat := (x &&& 1).toNatClampNeg
theorem sg_spec (x : Int32) : x &&& 1 = nI (sgN x) ∧ sgN x < 2 := by
  obtain ⟨j, hj, e⟩ := pk_andE x (m := 1) 1 (by decide)
  unfold sgN
  rw [e, nI_clamp (by omega)]
  exact ⟨rfl, by omega⟩
def mbF (w : Nat) (ed bi : Nat → Int32) (tm : Int32) (ow c : Nat) : Int32 := if bi c = 0 ∨ ed c = 1 ∨ ed c = 4 then bi c else nI (tdN (bi c).toNatClampNeg (sgN (nI (c % w) + nI (c / w) + tm + nI ow)))
theorem mb_ok {w n : Nat} {ed bi : Nat → Int32} {tm : Int32} {ow c : Nat} (hok : btOk n bi) (hc : c < n) : ∃ α, α < 128 ∧ mbF w ed bi tm ow c = nI α := by
  obtain ⟨β, hβ, hb⟩ := hok c hc
  unfold mbF
  split
  · exact ⟨β, hβ, hb⟩
  · exact ⟨_, (td_back _ (by rw [hb, nI_clamp (by omega)]; exact hβ) _ (sg_spec _).2).2, rfl⟩
theorem mt_metBits {L : Nat} {xs : Nat → Int32} {w q : Nat} {nb ed ra bk : Nat → Int32} {wt gp gq mv : Int32} {cn : Nat} {mc mk ga le : Nat → Int32} {sw : Bool} {bi ar : Nat → Int32} {tm sd : Int32} {rest : ac_H} {c ow : Nat} (hw : sideOk w) (hq : sideOk q) (hc : c < w * q) {β : Nat} (hβ : β < 128) (hb : bi c = nI β) : Mt L xs 56 [.ref 0, .int (nI c), .int (nI ow)] (GH w q nb ed ra bk wt gp gq mv cn mc mk ga le sw bi ar tm sd rest) (some (.int (mbF w ed bi tm ow c))) (GH w q nb ed ra bk wt gp gq mv cn mc mk ga le sw bi ar tm sd rest) 0 0 := by
  have hn := side_n hw hq
  have hw1 := hw.1
  have hw2 := hw.2.1
  cases sw
  all_goals
    show Ev L xs 56 (0, [.ref 0, .int (nI c), .int (nI ow), ac_un, ac_un], [], _, 0, 0) _
    (repeat refine ev_step rfl rfl ?_)
    refine ev_ia rfl rfl (c) (rfl) (hc) (by omega) ?_
    refine ev_tp (show _ = bi c from rfl) ?_
    (repeat refine ev_step rfl rfl ?_)
    refine ev_br (fun z => ?_) (fun z1 => ?_)
    · rw [mbF, if_pos (Or.inl z)]
      (repeat refine ev_step rfl rfl ?_)
      exact ev_r1 rfl
    · (repeat refine ev_step rfl rfl ?_)
      refine ev_ia rfl rfl (c) (rfl) (hc) (by omega) ?_
      (repeat refine ev_step rfl rfl ?_)
      refine ev_br (fun z => ?_) (fun z2 => ?_)
      · rw [mbF, if_pos (Or.inr (Or.inl z))]
        (repeat refine ev_step rfl rfl ?_)
        exact ev_r1 rfl
      · (repeat refine ev_step rfl rfl ?_)
        refine ev_ia rfl rfl (c) (rfl) (hc) (by omega) ?_
        (repeat refine ev_step rfl rfl ?_)
        refine ev_br (fun z => ?_) (fun z3 => ?_)
        · rw [mbF, if_pos (Or.inr (Or.inr z))]
          (repeat refine ev_step rfl rfl ?_)
          exact ev_r1 rfl
        · rw [mbF, if_neg (fun z => z.elim z1 (fun z => z.elim z2 z3))]
          (repeat refine ev_step rfl rfl ?_)
          refine ev_i2 rfl rfl (Nat.le_of_ble_eq_true rfl) (Nat.le_of_ble_eq_true rfl) rfl (mt_columnOf (by omega) (by omega) (by omega)) ?_
          (repeat refine ev_step rfl rfl ?_)
          refine ev_i2 rfl rfl (Nat.le_of_ble_eq_true rfl) (Nat.le_of_ble_eq_true rfl) rfl (mt_rowOf (by omega) (by omega) (by omega)) ?_
          iterate 8 (refine ev_step rfl rfl ?_)
          refine ev_tp ((sg_spec _).1) ?_
          iterate 2 (refine ev_step rfl rfl ?_)
          rw [hb, nI_clamp (by omega)]
          iterate 1 (refine ev_step rfl rfl ?_)
          refine ev_i2 rfl rfl (Nat.le_of_ble_eq_true rfl) (Nat.le_of_ble_eq_true rfl) rfl (mt_turned hβ (sg_spec _).2 _) ?_
          exact ev_r1 rfl
def mmF (mc mk bi mb : Nat → Int32) : Nat → Int32 := fun j => if mc j = -1 then mk j else mtF (bi (mc j).toNatClampNeg).toNatClampNeg (mb (mc j).toNatClampNeg).toNatClampNeg (mk j).toNatClampNeg
theorem meet_m {L : Nat} {xs : Nat → Int32} {w q : Nat} {nb ed ra bk : Nat → Int32} {wt gp gq mv : Int32} {cn : Nat} {mc mk ga le : Nat → Int32} {sw : Bool} {bi ar : Nat → Int32} {tm sd : Int32} {rest : ac_H} {ow : Nat} {R : ac_R} (hw : sideOk w) (hq : sideOk q) (hcn : cn ≤ 4) (hok : mkOk (w * q) cn mc mk) (hbt : btOk (w * q) bi) (k : ∀ u, Ev L xs 55 (54, [.ref 0, .int (nI ow), .int (nI cn), u], [], (GH w q nb ed ra bk wt gp gq mv cn mc (pre cn (mmF mc mk bi (mbF w ed bi tm ow)) mk) ga le sw bi ar tm sd rest), 0, 0) R) : ∀ (n i : Nat) (u : Value), i + n = cn → Ev L xs 55 (2, [.ref 0, .int (nI ow), .int (nI i), u], [], (GH w q nb ed ra bk wt gp gq mv cn mc (pre i (mmF mc mk bi (mbF w ed bi tm ow)) mk) ga le sw bi ar tm sd rest), 0, 0) R := by
  have hn := side_n hw hq
  intro n
  induction n with
  | zero =>
    intro i u hi
    have e : i = cn := by omega
    subst e
    (repeat refine ev_step rfl rfl ?_)
    refine ev_t (nI_le (Nat.le_refl i) (by omega)) ?_
    exact k u
  | succ n ih =>
    intro i u hi
    obtain ⟨hc, κ, hκ, hk⟩ := hok i (by omega)
    have ih1 := ih (i + 1)
    cases sw
    all_goals
      (repeat refine ev_step rfl rfl ?_)
      refine ev_f (nI_ge (a := i) (b := cn) (by omega) (by omega)) ?_
      (repeat refine ev_step rfl rfl ?_)
      refine ev_ia rfl rfl (i) (rfl) (by omega) (by decide) ?_
      (repeat refine ev_step rfl rfl ?_)
      refine ev_br (fun z => ?_) (fun z => ?_)
      · iterate 2 (refine ev_step rfl rfl ?_)
        rw [nI_1, pre_same i (mmF mc mk bi (mbF w ed bi tm ow)) mk (by simp [mmF, z])]
        exact ih1 _ (by omega)
      · obtain ⟨c, hc1, hc2⟩ := hc.resolve_left z
        obtain ⟨β, hβ, hb⟩ := hbt c hc1
        obtain ⟨α, hα, ha⟩ := mb_ok (w := w) (ed := ed) (tm := tm) (ow := ow) hbt hc1
        rw [hc2]
        (repeat refine ev_step rfl rfl ?_)
        refine ev_ia rfl rfl (c) (rfl) (hc1) (by omega) ?_
        (repeat refine ev_step rfl rfl ?_)
        refine ev_i3 rfl rfl (Nat.le_of_ble_eq_true rfl) (Nat.le_of_ble_eq_true rfl) rfl (mt_metBits hw hq hc1 hβ hb) ?_
        dsimp only [cond_false, cond_true]
        rw [ha, hb]
        refine ev_v4 rfl rfl (Nat.le_of_ble_eq_true rfl) (Nat.le_of_ble_eq_true rfl) rfl (mt_mturn hα hβ (by omega) hκ (by rw [pre_at]; exact hk)) ?_
        iterate 2 (refine ev_step rfl rfl ?_)
        have e1 : mmF mc mk bi (mbF w ed bi tm ow) i = mtF β α κ := by
          unfold mmF
          rw [if_neg z, hc2, nI_clamp (by omega), hb, ha, hk, nI_clamp (by omega), nI_clamp (by omega), nI_clamp (by omega)]
        rw [nI_1, show upd (pre i (mmF mc mk bi (mbF w ed bi tm ow)) mk) i (mtF β α κ) = pre (i + 1) (mmF mc mk bi (mbF w ed bi tm ow)) mk by rw [← pre_put, e1]]
        exact ih1 _ (by omega)
theorem meet_b {L : Nat} {xs : Nat → Int32} {w q : Nat} {nb ed ra bk : Nat → Int32} {wt gp gq mv : Int32} {cn : Nat} {mc mk ga le : Nat → Int32} {sw : Bool} {bi ar : Nat → Int32} {tm sd : Int32} {rest : ac_H} {ow : Nat} (hw : sideOk w) (hq : sideOk q) (hbt : btOk (w * q) bi) : ∀ (n i : Nat) (u : Value), i + n = w * q → Ev L xs 55 (56, [.ref 0, .int (nI ow), .int (nI i), u], [], (GH w q nb ed ra bk wt gp gq mv cn mc mk ga le sw (pre i (mbF w ed bi tm ow) bi) ar tm sd rest), 0, 0) (.inl none, (GH w q nb ed ra bk wt gp gq mv cn mc mk ga le sw (pre (w * q) (mbF w ed bi tm ow) bi) ar tm sd rest), 0, 0) := by
  have hn := side_n hw hq
  intro n
  induction n with
  | zero =>
    intro i u hi
    have e : i = w * q := by omega
    rw [← e]
    (repeat refine ev_step rfl rfl ?_)
    refine ev_t (nI_le (a := w * q) (b := i) (by omega) (by omega)) ?_
    exact ev_r0 rfl
  | succ n ih =>
    intro i u hi
    obtain ⟨β, hβ, hb⟩ := hbt i (by omega)
    have ih1 := ih (i + 1) u (by omega)
    rw [← pre_put] at ih1
    have e1 : mbF w ed (pre i (mbF w ed bi tm ow) bi) tm ow i = mbF w ed bi tm ow i := by
      simp only [mbF]
      rw [pre_at]
    cases sw
    all_goals
      (repeat refine ev_step rfl rfl ?_)
      refine ev_f (nI_ge (a := i) (b := w * q) (by omega) (by omega)) ?_
      (repeat refine ev_step rfl rfl ?_)
      refine ev_i3 rfl rfl (Nat.le_of_ble_eq_true rfl) (Nat.le_of_ble_eq_true rfl) rfl (mt_metBits hw hq (by omega) hβ (by rw [pre_at]; exact hb)) ?_
      rw [e1]
      refine ev_is rfl rfl (i) (rfl) (by omega) (by omega) rfl ?_
      iterate 2 (refine ev_step rfl rfl ?_)
      rw [nI_1]
      exact ih1
theorem mt_meet {L : Nat} {xs : Nat → Int32} {w q : Nat} {nb ed ra bk : Nat → Int32} {wt gp gq mv : Int32} {cn : Nat} {mc mk ga le : Nat → Int32} {sw : Bool} {bi ar : Nat → Int32} {tm sd : Int32} {rest : ac_H} {ow : Nat} (hw : sideOk w) (hq : sideOk q) (hcn : cn ≤ 4) (hok : mkOk (w * q) cn mc mk) (hbt : btOk (w * q) bi) : Mt L xs 55 [.ref 0, .int (nI ow)] (GH w q nb ed ra bk wt gp gq mv cn mc mk ga le sw bi ar tm sd rest) none (GH w q nb ed ra bk wt gp gq mv cn mc (pre cn (mmF mc mk bi (mbF w ed bi tm ow)) mk) ga le sw (pre (w * q) (mbF w ed bi tm ow) bi) ar tm sd rest) 0 0 := by
  show Ev L xs 55 (0, [.ref 0, .int (nI ow), ac_un, ac_un], [], _, 0, 0) _
  iterate 2 (refine ev_step rfl rfl ?_)
  have h := meet_m (L := L) (xs := xs) (nb := nb) (ed := ed) (ra := ra) (bk := bk) (wt := wt) (gp := gp) (gq := gq) (mv := mv) (ga := ga) (le := le) (sw := sw) (ar := ar) (tm := tm) (sd := sd) (rest := rest) (ow := ow) (R := (.inl none, (GH w q nb ed ra bk wt gp gq mv cn mc (pre cn (mmF mc mk bi (mbF w ed bi tm ow)) mk) ga le sw (pre (w * q) (mbF w ed bi tm ow) bi) ar tm sd rest), 0, 0)) hw hq hcn hok hbt (fun u => by
    iterate 2 (refine ev_step rfl rfl ?_)
    have h2 := meet_b (L := L) (xs := xs) (nb := nb) (ed := ed) (ra := ra) (bk := bk) (wt := wt) (gp := gp) (gq := gq) (mv := mv) (cn := cn) (mc := mc) (mk := pre cn (mmF mc mk bi (mbF w ed bi tm ow)) mk) (ga := ga) (le := le) (sw := sw) (ar := ar) (tm := tm) (sd := sd) (rest := rest) (ow := ow) hw hq hbt (w * q) 0 u (Nat.zero_add _)
    rw [pre_0] at h2
    exact h2) cn 0 ac_un (Nat.zero_add _)
  rw [pre_0] at h
  exact h
theorem ev_len {L : Nat} {xs : Nat → Int32} {y pc nx a n : Nat} {ls st : List Value} {h : ac_H} {c k : Nat} {r : ac_R} {f : Nat → Int32} (hT : ac_Tf L xs y pc = .inl (o_len nx)) (hh : h[a]? = some (Ar n f)) (kk : Ev L xs y (nx, ls, .int (nI n) :: st, h, c, k) r) : Ev L xs y (pc, ls, .ref a :: st, h, c, k) r := by
  refine ev_step hT ?_ kk
  simp only [o_len, hh, nI]
theorem fill_it {L : Nat} {xs : Nat → Int32} {h : ac_H} {a n : Nat} {f : Nat → Int32} {v : Int32} (hn : n < 2 ^ 31) (ha : a < h.length) : ∀ (m i : Nat), i + m = n → Ev L xs 2 (5, [.ref a, .int v, .int (nI i), .int (nI n)], [], h.set a (Ar n (pre i (fun _ => v) f)), 0, 0) (.inl none, h.set a (Ar n (pre n (fun _ => v) f)), 0, 0) := by
  intro m
  induction m with
  | zero =>
    intro i hi
    have e : i = n := by omega
    subst e
    iterate 3 (refine ev_step rfl rfl ?_)
    refine ev_t (nI_le (Nat.le_refl i) hn) ?_
    exact ev_r0 rfl
  | succ m ih =>
    intro i hi
    have ih1 := ih (i + 1) (by omega)
    rw [← pre_put] at ih1
    iterate 3 (refine ev_step rfl rfl ?_)
    refine ev_f (nI_ge (a := i) (b := n) (by omega) hn) ?_
    iterate 3 (refine ev_step rfl rfl ?_)
    refine ev_is rfl (List.getElem?_set_self ha) i rfl (by omega) hn (by rw [ac_set_eq, if_pos (by rw [List.length_set]; exact ha), List.set_set]) ?_
    iterate 2 (refine ev_step rfl rfl ?_)
    rw [nI_1]
    exact ih1
theorem mt_fill {L : Nat} {xs : Nat → Int32} {h : ac_H} {a n : Nat} {f : Nat → Int32} {v : Int32} (hh : h[a]? = some (Ar n f)) (hn : n < 2 ^ 31) : Mt L xs 2 [.ref a, .int v] h none (h.set a (Ar n (pre n (fun _ => v) f))) 0 0 := by
  have ha : a < h.length := (List.getElem?_eq_some_iff.mp hh).1
  show Ev L xs 2 (0, [.ref a, .int v, ac_un, ac_un], [], _, 0, 0) _
  iterate 3 (refine ev_step rfl rfl ?_)
  refine ev_len rfl hh ?_
  iterate 1 (refine ev_step rfl rfl ?_)
  have h1 := fill_it (L := L) (xs := xs) (f := f) (v := v) hn ha n 0 (Nat.zero_add _)
  rw [pre_0, show h.set a (Ar n f) = h by
    obtain ⟨_, e⟩ := List.getElem?_eq_some_iff.mp hh
    rw [← e, List.set_getElem_self]] at h1
  exact h1
