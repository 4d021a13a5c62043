/-! ===== the plain form: meeting ===== -/
theorem td_inv {b c s : Nat} (hb : b < 128) (hc : c < 128) (hs : s < 2) : tdN c s = b ↔ c = tdN b (1 - s) := by
  constructor
  · intro h
    rw [← h]
    exact (td_back c hc s hs).1.symm
  · intro h
    subst h
    have h2 := (td_back b hb (1 - s) (by omega)).1
    rwa [show 1 - (1 - s) = s by omega] at h2
theorem un_it {L : Nat} {xs : Nat → Int32} {b s : Nat} (hb : b < 128) (hs : s < 2) (H : ac_H) : ∀ (n c : Nat), c + n = 128 → Ev L xs 74 (4, [.int (nI b), .int (nI s), .int (nI (if tdN b (1 - s) < c then tdN b (1 - s) else b)), .int (nI c)], [], H, 0, 0) (.inl (some (.int (nI (tdN b (1 - s))))), H, 0, 0) := by
  have ht := (td_back b hb (1 - s) (by omega)).2
  intro n
  induction n with
  | zero =>
    intro c hc
    rw [if_pos (show tdN b (1 - s) < c by omega)]
    iterate 3 (refine ev_step rfl rfl ?_)
    refine ev_t (nI_le (a := 128) (b := c) (by omega) (by omega)) ?_
    (repeat refine ev_step rfl rfl ?_)
    exact ev_r1 rfl
  | succ n ih =>
    intro c hc
    have ih1 := ih (c + 1) (by omega)
    iterate 3 (refine ev_step rfl rfl ?_)
    refine ev_f (nI_ge (a := c) (b := 128) (by omega) (by decide)) ?_
    (repeat refine ev_step rfl rfl ?_)
    refine ev_i2 rfl rfl (Nat.le_of_ble_eq_true rfl) (Nat.le_of_ble_eq_true rfl) rfl (mt_become (show c < 128 by omega) hs _) ?_
    iterate 2 (refine ev_step rfl rfl ?_)
    refine ev_br (fun z => ?_) (fun z => ?_)
    · have e : c = tdN b (1 - s) := (td_inv hb (by omega) hs).mp ((nI_eq (by have := (td_back c (by omega) s hs).2; omega) (by omega)).mp z)
      rw [if_pos (show tdN b (1 - s) < c + 1 by omega), ← e] at ih1
      iterate 5 (refine ev_step rfl rfl ?_)
      rw [nI_1, ← e]
      exact ih1
    · have e : c ≠ tdN b (1 - s) := fun e => z (by rw [(td_inv hb (by omega) hs).mpr e])
      have e2 : (if tdN b (1 - s) < c + 1 then tdN b (1 - s) else b) = (if tdN b (1 - s) < c then tdN b (1 - s) else b) := by
        by_cases h : tdN b (1 - s) < c
        · rw [if_pos h, if_pos (show tdN b (1 - s) < c + 1 by omega)]
        · rw [if_neg h, if_neg (show ¬ tdN b (1 - s) < c + 1 by omega)]
      rw [e2] at ih1
      iterate 4 (refine ev_step rfl rfl ?_)
      rw [nI_1]
      exact ih1
theorem mt_unbecome {L : Nat} {xs : Nat → Int32} {b s : Nat} (hb : b < 128) (hs : s < 2) (H : ac_H) : Mt L xs 74 [.int (nI b), .int (nI s)] H (some (.int (nI (tdN b (1 - s))))) H 0 0 := by
  have h := un_it (L := L) (xs := xs) hb hs H 128 0 rfl
  rw [if_neg (Nat.not_lt_zero _)] at h
  show Ev L xs 74 (0, [.int (nI b), .int (nI s), ac_un, ac_un], [], _, 0, 0) _
  iterate 4 (refine ev_step rfl rfl ?_)
  exact h
theorem mt_count {L : Nat} {xs : Nat → Int32} {b : Nat} (hb : b < 128) (H : ac_H) : Mt L xs 71 [.int (nI b)] H (some (.int (nI (cnN b)))) H 0 0 := pu_mt (by decide) (tr_count b hb) H
theorem mt_nth {L : Nat} {xs : Nat → Int32} {b n : Nat} (hb : b < 128) (hn : n < 7) (H : ac_H) : Mt L xs 90 [.int (nI b), .int (nI n)] H (some (.int (ntI b n))) H 0 0 := pu_mt (by decide) (tr_nth b hb n hn) H
theorem cn_mod : ∀ b, b < 128 → ∀ κ, κ < 7 → cnN (b % 2 ^ κ) < 7 := by decide +kernel
/-- the bits behind a meeting with sense s, forth (0) or back (1) -/
def mnN (bk b s : Nat) : Nat := if bk = 0 then tdN b s else tdN b (1 - s)
theorem mn_td {bk b s : Nat} (hs : s < 2) : ∃ s', s' < 2 ∧ mnN bk b s = tdN b s' := by
  unfold mnN
  split
  · exact ⟨s, hs, rfl⟩
  · exact ⟨1 - s, by omega, rfl⟩
theorem mAt_it {L : Nat} {xs : Nat → Int32} {g0 g1 g2 g3 g4 g5 g6 g7 g8 g9 g10 g11 g12 g13 g14 : ac_C} {th : Int32} {w q : Nat} {tm sd : Int32} {bi ed ra fr ah bk : Nat → Int32} {wt gp gq mv : Int32} {cn : Nat} {mc mk : Nat → Int32} {rest : ac_H} {c β s bk0 : Nat} {u2 u3 : Value} (hcn : cn ≤ 4) (hβ : β < 128) (hs : s < 2) (hc : c < 256) (hok : ∀ j, j < cn → mc j = nI c → ∃ κ, κ < 7 ∧ mk j = nI κ ∧ β.testBit κ = true) : ∀ (n i : Nat), i + n = cn → Ev L xs 91 (61, [.ref 15, .int (nI c), u2, u3, .int (nI β), .int (nI (mnN bk0 β s)), .int (nI i)], [], (MH g0 g1 g2 g3 g4 g5 g6 g7 g8 g9 g10 g11 g12 g13 g14 th w q tm sd bi ed ra fr ah bk wt gp gq mv cn mc (pre i (fun j => if mc j = nI c then mtF β (mnN bk0 β s) (mk j).toNatClampNeg else mk j) mk) rest), 0, 0) (.inl none, (MH g0 g1 g2 g3 g4 g5 g6 g7 g8 g9 g10 g11 g12 g13 g14 th w q tm sd bi ed ra fr ah bk wt gp gq mv cn mc (pre cn (fun j => if mc j = nI c then mtF β (mnN bk0 β s) (mk j).toNatClampNeg else mk j) mk) rest), 0, 0) := by
  obtain ⟨s', hs', eα⟩ := mn_td (bk := bk0) (b := β) hs
  have hα := (td_back β hβ s' hs').2
  rw [eα]
  intro n
  induction n with
  | zero =>
    intro i hi
    have e : i = cn := by omega
    rw [e]
    (repeat refine ev_step rfl rfl ?_)
    refine ev_t (nI_le (Nat.le_refl _) (by omega)) ?_
    exact ev_r0 rfl
  | succ n ih =>
    intro i hi
    have ih1 := ih (i + 1) (by omega)
    (repeat refine ev_step rfl rfl ?_)
    refine ev_f (nI_ge (a := i) (b := cn) (by omega) (by omega)) ?_
    (repeat refine ev_step rfl rfl ?_)
    refine ev_ia rfl rfl (i) (rfl) (by omega) (by omega) ?_
    iterate 2 (refine ev_step rfl rfl ?_)
    refine ev_br (fun z => ?_) (fun z => ?_)
    · obtain ⟨κ, hκ, hk, hbit⟩ := hok i (by omega) z
      iterate 3 (refine ev_step rfl rfl ?_)
      refine ev_br (fun z2 => ?_) (fun z2 => ?_)
      · rw [← pre_same i (fun j => if mc j = nI c then mtF β (tdN β s') (mk j).toNatClampNeg else mk j) mk (by
          rw [if_pos z, hk, nI_clamp (by omega)]
          unfold mtF
          rw [if_pos ((nI_eq (by omega) (by omega)).mp z2).symm])] at ih1
        iterate 2 (refine ev_step rfl rfl ?_)
        rw [nI_1]
        exact ih1
      · rw [← pre_put] at ih1
        have hne : ¬ β = tdN β s' := fun e => z2 (by rw [← e])
        rw [if_pos z, hk, nI_clamp (n := κ) (by omega), ← ((mt_live β hβ s' hs' κ hκ hbit).resolve_right hne).2] at ih1
        (repeat refine ev_step rfl rfl ?_)
        refine ev_ia rfl rfl (i) (rfl) (by omega) (by omega) ?_
        refine ev_tp ((pre_at i _ mk).trans hk) ?_
        (repeat refine ev_step rfl rfl ?_)
        refine ev_tp (mk_mask β hβ κ hκ) ?_
        refine ev_i1 rfl rfl (Nat.le_of_ble_eq_true rfl) (Nat.le_of_ble_eq_true rfl) rfl (mt_count (Nat.lt_of_le_of_lt (Nat.mod_le _ _) hβ) _) ?_
        refine ev_i2 rfl rfl (Nat.le_of_ble_eq_true rfl) (Nat.le_of_ble_eq_true rfl) rfl (mt_nth hα (cn_mod β hβ κ hκ) _) ?_
        refine ev_is rfl rfl (i) (rfl) (by omega) (by omega) rfl ?_
        iterate 2 (refine ev_step rfl rfl ?_)
        rw [nI_1]
        exact ih1
    · rw [← pre_same i (fun j => if mc j = nI c then mtF β (tdN β s') (mk j).toNatClampNeg else mk j) mk (if_neg z)] at ih1
      iterate 2 (refine ev_step rfl rfl ?_)
      rw [nI_1]
      exact ih1
theorem mm_meetAt {L : Nat} {xs : Nat → Int32} {g0 g1 g2 g3 g4 g5 g6 g7 g8 g9 g10 g11 g12 g13 g14 : ac_C} {th : Int32} {w q : Nat} {tm sd : Int32} {bi ed ra fr ah bk : Nat → Int32} {wt gp gq mv : Int32} {cn : Nat} {mc mk : Nat → Int32} {rest : ac_H} {c β bk0 : Nat} (hw : sideOk w) (hq : sideOk q) (hc : c < w * q) (hβ : β < 128) (hb : bi c = nI β) (hk0 : bk0 < 2) (hcn : cn ≤ 4) (hok : ∀ j, j < cn → mc j = nI c → ∃ κ, κ < 7 ∧ mk j = nI κ ∧ β.testBit κ = true) {α : Nat} (hα : mnN bk0 β (sgN (nI (c % w) + nI (c / w) + tm)) = α) : Mt L xs 91 [.ref 15, .int (nI c), .int (nI bk0)] (MH g0 g1 g2 g3 g4 g5 g6 g7 g8 g9 g10 g11 g12 g13 g14 th w q tm sd bi ed ra fr ah bk wt gp gq mv cn mc mk rest) none (MH g0 g1 g2 g3 g4 g5 g6 g7 g8 g9 g10 g11 g12 g13 g14 th w q tm sd (upd bi c (nI α)) ed ra fr ah bk wt gp gq mv cn mc (pre cn (fun j => if mc j = nI c then mtF β α (mk j).toNatClampNeg else mk j) mk) rest) 0 0 := by
  have hn := side_n hw hq
  have h1 := hw.2.1
  have h3 := hw.1
  obtain ⟨e1, e2⟩ := sg_spec (nI (c % w) + nI (c / w) + tm)
  have h := fun u2 u3 => mAt_it (L := L) (xs := xs) (g0 := g0) (g1 := g1) (g2 := g2) (g3 := g3) (g4 := g4) (g5 := g5) (g6 := g6) (g7 := g7) (g8 := g8) (g9 := g9) (g10 := g10) (g11 := g11) (g12 := g12) (g13 := g13) (g14 := g14) (th := th) (w := w) (q := q) (tm := tm) (sd := sd) (bi := upd bi c (nI α)) (ed := ed) (ra := ra) (fr := fr) (ah := ah) (bk := bk) (wt := wt) (gp := gp) (gq := gq) (mv := mv) (rest := rest) (u2 := u2) (u3 := u3) (bk0 := bk0) hcn hβ e2 (show c < 256 by omega) hok cn 0 (Nat.zero_add _)
  rw [pre_0, hα] at h
  show Ev L xs 91 (0, [.ref 15, .int (nI c), .int (nI bk0), ac_un, ac_un, ac_un, ac_un], [], _, 0, 0) _
  (repeat refine ev_step rfl rfl ?_)
  refine ev_rem rfl (nI_ne0 (by omega) (by omega)) ?_
  refine ev_tp (pk_rem (by omega) (by omega) (by omega)) ?_
  (repeat refine ev_step rfl rfl ?_)
  refine ev_div rfl (nI_ne0 (by omega) (by omega)) ?_
  refine ev_tp (pk_div (by omega) (by omega) (by omega)) ?_
  iterate 6 (refine ev_step rfl rfl ?_)
  rw [e1]
  (repeat refine ev_step rfl rfl ?_)
  refine ev_ia rfl rfl (c) (rfl) (by omega) (by omega) ?_
  rw [hb]
  have hk' : bk0 = 0 ∨ bk0 = 1 := by omega
  rcases hk' with rfl | rfl
  · rw [show mnN 0 β (sgN (nI (c % w) + nI (c / w) + tm)) = tdN β (sgN (nI (c % w) + nI (c / w) + tm)) from rfl] at hα
    (repeat refine ev_step rfl rfl ?_)
    refine ev_i2 rfl rfl (Nat.le_of_ble_eq_true rfl) (Nat.le_of_ble_eq_true rfl) rfl (mt_become hβ e2 _) ?_
    rw [hα]
    (repeat refine ev_step rfl rfl ?_)
    refine ev_is rfl rfl (c) (rfl) (by omega) (by omega) rfl ?_
    iterate 2 (refine ev_step rfl rfl ?_)
    exact h _ _
  · rw [show mnN 1 β (sgN (nI (c % w) + nI (c / w) + tm)) = tdN β (1 - sgN (nI (c % w) + nI (c / w) + tm)) from rfl] at hα
    (repeat refine ev_step rfl rfl ?_)
    refine ev_i2 rfl rfl (Nat.le_of_ble_eq_true rfl) (Nat.le_of_ble_eq_true rfl) rfl (mt_unbecome hβ e2 _) ?_
    rw [hα]
    (repeat refine ev_step rfl rfl ?_)
    refine ev_is rfl rfl (c) (rfl) (by omega) (by omega) rfl ?_
    iterate 2 (refine ev_step rfl rfl ?_)
    exact h _ _
theorem sg_nat (x : Int32) : sgN x = x.toBitVec.toNat % 2 := by
  obtain ⟨e, h⟩ := sg_spec x
  have h2 : (x &&& 1).toBitVec.toNat = (nI (sgN x)).toBitVec.toNat := by rw [e]
  have h3 : (x &&& 1).toBitVec.toNat = x.toBitVec.toNat % 2 := by
    rw [Int32.toBitVec_and, BitVec.toNat_and]
    exact Nat.and_one_is_mod _
  have h4 : (nI (sgN x)).toBitVec.toNat = sgN x := by
    show (Int32.ofNat (sgN x)).toBitVec.toNat = _
    rw [Int32.toBitVec_ofNat', BitVec.toNat_ofNat]
    omega
  omega
theorem sg_1 (x : Int32) : sgN (x + 1) = 1 - sgN x := by
  rw [sg_nat, sg_nat, Int32.toBitVec_add, BitVec.toNat_add]
  show (x.toBitVec.toNat + 1) % 2 ^ 32 % 2 = _
  omega
theorem mn_mb {w : Nat} {ed bi : Nat → Int32} {tm : Int32} {bk0 c β : Nat} (hb : bi c = nI β) (hβ : β < 128) (hk0 : bk0 < 2) (h1 : ¬ ed c = 1) (h4 : ¬ ed c = 4) : nI (mnN bk0 β (sgN (nI (c % w) + nI (c / w) + tm))) = mbF w ed bi tm bk0 c := by
  have e2 := (sg_spec (nI (c % w) + nI (c / w) + tm)).2
  unfold mbF
  have hk' : bk0 = 0 ∨ bk0 = 1 := by omega
  by_cases z : bi c = 0
  · have hβ0 : β = 0 := (nI_eq (b := 0) (by omega) (by decide)).mp (hb.symm.trans z)
    subst hβ0
    rw [if_pos (Or.inl z), z]
    obtain ⟨s', hs', e⟩ := mn_td (bk := bk0) (b := 0) e2
    rw [e, td_zero s' hs']
    rfl
  · rw [if_neg (fun q => q.elim z (fun q => q.elim h1 h4)), hb, nI_clamp (by omega)]
    rcases hk' with rfl | rfl
    · rw [show nI 0 = 0 from rfl, Int32.add_zero]
      rfl
    · rw [show nI 1 = 1 from rfl, sg_1]
      rfl
/-- the marks' kinds while the cells below c have met -/
def mkU (c cn : Nat) (mc mk mm : Nat → Int32) : Nat → Int32 := fun j => if j < cn ∧ mc j ≠ -1 ∧ (mc j).toNatClampNeg < c then mm j else mk j
theorem mkU_at {c cn j : Nat} {mc mk mm : Nat → Int32} (hc : c < 2 ^ 31) (e : mc j = nI c) : mkU c cn mc mk mm j = mk j := by
  unfold mkU
  rw [if_neg (fun h => by rw [e, nI_clamp hc] at h; omega)]
theorem mkU_s {n c cn j : Nat} {mc mk mm : Nat → Int32} (hn : n ≤ 256) (hc : c < n) (hok : mkOk n cn mc mk) (hj : j < cn) : mkU (c + 1) cn mc mk mm j = if mc j = nI c then mm j else mkU c cn mc mk mm j := by
  unfold mkU
  by_cases z : mc j = nI c
  · rw [if_pos z, if_pos ⟨hj, fun e => nI_m1 (c := c) (by omega) (z.symm.trans e), by rw [z, nI_clamp (by omega)]; omega⟩]
  · rw [if_neg z]
    rcases (hok j hj).1 with e | ⟨c', hc', e⟩
    · rw [if_neg (fun h => h.2.1 e), if_neg (fun h => h.2.1 e)]
    · have hne : c' ≠ c := fun q => z (by rw [e, q])
      rw [e, nI_clamp (by omega)]
      by_cases h : c' < c
      · rw [if_pos ⟨hj, nI_m1 (by omega), by omega⟩, if_pos ⟨hj, nI_m1 (by omega), h⟩]
      · rw [if_neg (fun q => by have := q.2.2; omega), if_neg (fun q => h q.2.2)]
theorem mkU_out {c cn j : Nat} {mc mk mm : Nat → Int32} (hj : ¬ j < cn) : mkU c cn mc mk mm j = mk j := by
  unfold mkU
  rw [if_neg (fun h => hj h.1)]
theorem mmeet_it {L : Nat} {xs : Nat → Int32} {g0 g1 g2 g3 g4 g5 g6 g7 g8 g9 g10 g11 g12 g13 g14 : ac_C} {th : Int32} {w q : Nat} {tm sd : Int32} {bi ed ra fr ah bk : Nat → Int32} {wt gp gq mv : Int32} {cn : Nat} {mc mk : Nat → Int32} {rest : ac_H} {bk0 : Nat} (hw : sideOk w) (hq : sideOk q) (hk0 : bk0 < 2) (hcn : cn ≤ 4) (hok : mkOk (w * q) cn mc mk) (hbt : btOk (w * q) bi) (hlv : ∀ j, j < cn → mc j ≠ -1 → (bi (mc j).toNatClampNeg).toNatClampNeg.testBit (mk j).toNatClampNeg = true) : ∀ (n c : Nat), c + n = w * q → Ev L xs 92 (2, [.ref 15, .int (nI bk0), .int (nI c)], [], (MH g0 g1 g2 g3 g4 g5 g6 g7 g8 g9 g10 g11 g12 g13 g14 th w q tm sd (pre c (mbF w ed bi tm bk0) bi) ed ra fr ah bk wt gp gq mv cn mc (mkU c cn mc mk (mmF mc mk bi (mbF w ed bi tm bk0))) rest), 0, 0) (.inl none, (MH g0 g1 g2 g3 g4 g5 g6 g7 g8 g9 g10 g11 g12 g13 g14 th w q tm sd (pre (w * q) (mbF w ed bi tm bk0) bi) ed ra fr ah bk wt gp gq mv cn mc (mkU (w * q) cn mc mk (mmF mc mk bi (mbF w ed bi tm bk0))) rest), 0, 0) := by
  have hn := side_n hw hq
  intro n
  induction n with
  | zero =>
    intro c hc
    have e : c = w * q := by omega
    rw [e]
    (repeat refine ev_step rfl rfl ?_)
    rw [nI_mul]
    refine ev_t (nI_le (Nat.le_refl _) (by omega)) ?_
    exact ev_r0 rfl
  | succ n ih =>
    intro c hc
    have hc1 : c < w * q := by omega
    have ih1 := ih (c + 1) (by omega)
    obtain ⟨β, hβ, hb⟩ := hbt c hc1
    have wall : (ed c = 1 ∨ ed c = 4) → mkU (c + 1) cn mc mk (mmF mc mk bi (mbF w ed bi tm bk0)) = mkU c cn mc mk (mmF mc mk bi (mbF w ed bi tm bk0)) ∧ pre (c + 1) (mbF w ed bi tm bk0) bi = pre c (mbF w ed bi tm bk0) bi := fun z => by
      have e0 : mbF w ed bi tm bk0 c = bi c := if_pos (Or.inr z)
      refine ⟨?_, (pre_same c _ bi e0).symm⟩
      funext j
      by_cases hj : j < cn
      · rw [mkU_s hn.1 hc1 hok hj]
        split
        · rename_i e
          rw [mkU_at (by omega) e]
          obtain ⟨κ, hκ, hk⟩ := (hok j hj).2
          unfold mmF
          rw [if_neg (fun q => nI_m1 (c := c) (by omega) (e.symm.trans q)), e, nI_clamp (by omega), e0, hk, nI_clamp (n := κ) (by omega)]
          exact if_pos rfl
        · rfl
      · rw [mkU_out hj, mkU_out hj]
    (repeat refine ev_step rfl rfl ?_)
    rw [nI_mul]
    refine ev_f (nI_ge (a := c) (b := w * q) (by omega) (by omega)) ?_
    (repeat refine ev_step rfl rfl ?_)
    refine ev_ia rfl rfl (c) (rfl) (by omega) (by omega) ?_
    iterate 2 (refine ev_step rfl rfl ?_)
    refine ev_br (fun z => ?_) (fun z => ?_)
    · rw [(wall (Or.inl z)).1, (wall (Or.inl z)).2] at ih1
      iterate 2 (refine ev_step rfl rfl ?_)
      rw [nI_1]
      exact ih1
    · (repeat refine ev_step rfl rfl ?_)
      refine ev_ia rfl rfl (c) (rfl) (by omega) (by omega) ?_
      iterate 2 (refine ev_step rfl rfl ?_)
      refine ev_br (fun z2 => ?_) (fun z2 => ?_)
      · rw [(wall (Or.inr z2)).1, (wall (Or.inr z2)).2] at ih1
        iterate 2 (refine ev_step rfl rfl ?_)
        rw [nI_1]
        exact ih1
      · have ea := mn_mb (w := w) (ed := ed) (tm := tm) hb hβ hk0 z z2
        have hm := mm_meetAt (L := L) (xs := xs) (g0 := g0) (g1 := g1) (g2 := g2) (g3 := g3) (g4 := g4) (g5 := g5) (g6 := g6) (g7 := g7) (g8 := g8) (g9 := g9) (g10 := g10) (g11 := g11) (g12 := g12) (g13 := g13) (g14 := g14) (th := th) (tm := tm) (sd := sd) (bi := pre c (mbF w ed bi tm bk0) bi) (ed := ed) (ra := ra) (fr := fr) (ah := ah) (bk := bk) (wt := wt) (gp := gp) (gq := gq) (mv := mv) (mc := mc) (mk := mkU c cn mc mk (mmF mc mk bi (mbF w ed bi tm bk0))) (rest := rest) hw hq hc1 hβ ((pre_at c _ bi).trans hb) hk0 hcn (fun j hj e => by
          obtain ⟨κ, hκ, hk⟩ := (hok j hj).2
          have hl := hlv j hj (fun q => nI_m1 (c := c) (by omega) (e.symm.trans q))
          rw [e, nI_clamp (by omega), hb, nI_clamp (by omega), hk, nI_clamp (by omega)] at hl
          exact ⟨κ, hκ, (mkU_at (by omega) e).trans hk, hl⟩) (α := mnN bk0 β (sgN (nI (c % w) + nI (c / w) + tm))) rfl
        have hα : mnN bk0 β (sgN (nI (c % w) + nI (c / w) + tm)) < 128 := by
          obtain ⟨s', hs', e⟩ := mn_td (bk := bk0) (b := β) (sg_spec (nI (c % w) + nI (c / w) + tm)).2
          rw [e]
          exact (td_back β hβ s' hs').2
        have em : pre cn (fun j => if mc j = nI c then mtF β (mnN bk0 β (sgN (nI (c % w) + nI (c / w) + tm))) (mkU c cn mc mk (mmF mc mk bi (mbF w ed bi tm bk0)) j).toNatClampNeg else mkU c cn mc mk (mmF mc mk bi (mbF w ed bi tm bk0)) j) (mkU c cn mc mk (mmF mc mk bi (mbF w ed bi tm bk0))) = mkU (c + 1) cn mc mk (mmF mc mk bi (mbF w ed bi tm bk0)) := by
          funext j
          unfold pre
          by_cases hj : j < cn
          · rw [if_pos hj, mkU_s hn.1 hc1 hok hj]
            dsimp only
            by_cases e : mc j = nI c
            · rw [if_pos e, if_pos e, mkU_at (by omega) e]
              unfold mmF
              rw [if_neg (fun q => nI_m1 (c := c) (by omega) (e.symm.trans q)), e, nI_clamp (by omega), hb, ← ea, nI_clamp (n := β) (by omega), nI_clamp (by omega)]
            · rw [if_neg e, if_neg e]
          · rw [if_neg hj, mkU_out hj, mkU_out hj]
        rw [em, ea, pre_put] at hm
        (repeat refine ev_step rfl rfl ?_)
        refine ev_v3 rfl rfl (Nat.le_of_ble_eq_true rfl) (Nat.le_of_ble_eq_true rfl) rfl (hm) ?_
        iterate 2 (refine ev_step rfl rfl ?_)
        rw [nI_1]
        exact ih1
theorem mm_meet {L : Nat} {xs : Nat → Int32} {g0 g1 g2 g3 g4 g5 g6 g7 g8 g9 g10 g11 g12 g13 g14 : ac_C} {th : Int32} {w q : Nat} {tm sd : Int32} {bi ed ra fr ah bk : Nat → Int32} {wt gp gq mv : Int32} {cn : Nat} {mc mk : Nat → Int32} {rest : ac_H} {bk0 : Nat} (hw : sideOk w) (hq : sideOk q) (hk0 : bk0 < 2) (hcn : cn ≤ 4) (hok : mkOk (w * q) cn mc mk) (hbt : btOk (w * q) bi) (hlv : ∀ j, j < cn → mc j ≠ -1 → (bi (mc j).toNatClampNeg).toNatClampNeg.testBit (mk j).toNatClampNeg = true) : Mt L xs 92 [.ref 15, .int (nI bk0)] (MH g0 g1 g2 g3 g4 g5 g6 g7 g8 g9 g10 g11 g12 g13 g14 th w q tm sd bi ed ra fr ah bk wt gp gq mv cn mc mk rest) none (MH g0 g1 g2 g3 g4 g5 g6 g7 g8 g9 g10 g11 g12 g13 g14 th w q tm sd (pre (w * q) (mbF w ed bi tm bk0) bi) ed ra fr ah bk wt gp gq mv cn mc (pre cn (mmF mc mk bi (mbF w ed bi tm bk0)) mk) rest) 0 0 := by
  have hn := side_n hw hq
  have h := mmeet_it (L := L) (xs := xs) (g0 := g0) (g1 := g1) (g2 := g2) (g3 := g3) (g4 := g4) (g5 := g5) (g6 := g6) (g7 := g7) (g8 := g8) (g9 := g9) (g10 := g10) (g11 := g11) (g12 := g12) (g13 := g13) (g14 := g14) (th := th) (tm := tm) (sd := sd) (ed := ed) (ra := ra) (fr := fr) (ah := ah) (bk := bk) (wt := wt) (gp := gp) (gq := gq) (mv := mv) (rest := rest) hw hq hk0 hcn hok hbt hlv (w * q) 0 (Nat.zero_add _)
  have e0 : mkU 0 cn mc mk (mmF mc mk bi (mbF w ed bi tm bk0)) = mk := by
    funext j
    unfold mkU
    rw [if_neg (fun q => Nat.not_lt_zero _ q.2.2)]
  have e1 : mkU (w * q) cn mc mk (mmF mc mk bi (mbF w ed bi tm bk0)) = pre cn (mmF mc mk bi (mbF w ed bi tm bk0)) mk := by
    funext j
    unfold mkU pre
    by_cases hj : j < cn
    · rw [if_pos hj]
      rcases (hok j hj).1 with e | ⟨c, hc, e⟩
      · rw [if_neg (fun q => q.2.1 e)]
        exact (if_pos e).symm
      · rw [if_pos ⟨hj, fun q => nI_m1 (c := c) (by omega) (e.symm.trans q), by rw [e, nI_clamp (by omega)]; exact hc⟩]
    · rw [if_neg hj, if_neg (fun q => hj q.1)]
  rw [e0, e1, pre_0] at h
  show Ev L xs 92 (0, [.ref 15, .int (nI bk0), ac_un], [], _, 0, 0) _
  iterate 2 (refine ev_step rfl rfl ?_)
  exact h
