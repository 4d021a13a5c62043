/-! ===== the class: steps ===== -/
def sgX (a b c : Nat) : Nat := if c = a then b else if c = b then a else c
theorem sw_at (f : Nat → Int32) (a b c : Nat) : swB f a b (sgX a b c) = f c := by
  unfold sgX swB upd
  by_cases h1 : c = a
  · subst h1; simp
  · by_cases h2 : c = b
    · subst h2
      rw [if_neg h1, if_pos rfl]
      by_cases h3 : a = c
      · exact absurd h3.symm h1
      · simp [h3]
    · simp [h1, h2]
theorem ex_at {f : Nat → Int32} {a b c j n : Nat} (hn : n ≤ 256) (ha : a < n) (hb : b < n) (hc : c < n) (e : f j = nI c) : exF (nI a) (nI b) f j = nI (sgX a b c) := by
  unfold exF sgX
  rw [e]
  have e1 : nI c = nI a ↔ c = a := nI_eq (by omega) (by omega)
  have e2 : nI c = nI b ↔ c = b := nI_eq (by omega) (by omega)
  by_cases h1 : c = a
  · rw [if_pos (e1.mpr h1), if_pos h1]
  · rw [if_neg (mt e1.mp h1), if_neg h1]
    by_cases h2 : c = b
    · rw [if_pos (e2.mpr h2), if_pos h2]
    · rw [if_neg (mt e2.mp h2), if_neg h2]
theorem ex_no {f : Nat → Int32} {a b j n : Nat} (hn : n ≤ 256) (ha : a < n) (hb : b < n) (e : f j = -1) : exF (nI a) (nI b) f j = -1 := by
  unfold exF
  rw [e, if_neg (fun q => nI_m1 (by omega) q.symm), if_neg (fun q => nI_m1 (by omega) q.symm)]
theorem sg_lt {a b c n : Nat} (ha : a < n) (hb : b < n) (hc : c < n) : sgX a b c < n := by
  unfold sgX
  split
  · exact hb
  · split
    · exact ha
    · exact hc
def setX (S : GS) (X : X3) : GS := (S.w, S.q, (X.1), S.ra, S.bk, S.wt, S.gp, S.gq, S.mv, S.cn, (X.2.2), S.mk, (X.2.1), S.tm, S.sd)
theorem inv_x1 {S : GS} {a b : Nat} {X : X3} (ha : a < S.w * S.q) (hb : b < S.w * S.q) (h : Inv (setX S X)) : Inv (setX S (sx1 S.cn a b X)) := by
  have hn := h.n
  replace hn : S.w * S.q ≤ 256 ∧ 16 ≤ S.w * S.q := hn
  refine ⟨h.hw, h.hq, fun i hi => ?_, fun j hj => ?_, fun i hi => ?_, h.cn, fun j hj => ⟨?_, (h.mk j hj).2⟩, fun j hj hm => ?_⟩
  · replace hi : i < S.w * S.q := hi
    show ∃ β, β < 128 ∧ upd (upd X.2.1 a (X.2.1 b)) b (X.2.1 a) i = nI β
    unfold upd
    split
    · exact h.bt a ha
    · split
      · exact h.bt b hb
      · exact h.bt i hi
  · replace hj : S.w * S.q ≤ j := hj
    show upd (upd X.2.1 a (X.2.1 b)) b (X.2.1 a) j = 0
    unfold upd
    rw [if_neg (by omega), if_neg (by omega)]
    exact h.b0 j hj
  · replace hi : i < S.w * S.q := hi
    show ∃ s, s < 5 ∧ upd (upd X.1 a 4) b 0 i = nI s
    unfold upd
    split
    · exact ⟨0, by decide, rfl⟩
    · split
      · exact ⟨4, by decide, rfl⟩
      · exact h.ed i hi
  · replace hj : j < S.cn := hj
    show pre S.cn (exF (nI a) (nI b) X.2.2) X.2.2 j = -1 ∨ ∃ c, c < S.w * S.q ∧ pre S.cn (exF (nI a) (nI b) X.2.2) X.2.2 j = nI c
    rw [pre, if_pos hj]
    rcases (h.mk j hj).1 with e | ⟨c, hc, e⟩
    · exact Or.inl (ex_no hn.1 ha hb e)
    · exact Or.inr ⟨_, sg_lt ha hb hc, ex_at hn.1 ha hb hc e⟩
  · replace hj : j < S.cn := hj
    have ej : (setX S (sx1 S.cn a b X)).mc j = exF (nI a) (nI b) X.2.2 j := by
      show pre S.cn _ _ j = _
      rw [pre, if_pos hj]
    rcases (h.mk j hj).1 with e | ⟨c, hc, e⟩
    · exact absurd (ej.trans (ex_no hn.1 ha hb e)) hm
    · have hl := h.lv j hj (fun e2 => nI_m1 (c := c) (by replace hc : c < S.w * S.q := hc; omega) (e.symm.trans e2))
      replace hc : c < S.w * S.q := hc
      replace e : X.2.2 j = nI c := e
      replace hl : (X.2.1 (X.2.2 j).toNatClampNeg).toNatClampNeg.testBit (S.mk j).toNatClampNeg = true := hl
      rw [e, nI_clamp (by omega)] at hl
      rw [ej, ex_at hn.1 ha hb hc e, nI_clamp (by have := sg_lt ha hb hc; omega)]
      show (swB X.2.1 a b (sgX a b c)).toNatClampNeg.testBit (S.mk j).toNatClampNeg = true
      rw [sw_at]
      exact hl
theorem inv_xF {S : GS} : ∀ (G Lf : List Nat) (X : X3), (∀ j, j ∈ G → j < S.w * S.q) → (∀ j, j ∈ Lf → j < S.w * S.q) → Inv (setX S X) → Inv (setX S (sxF S.cn G Lf X)) := by
  intro G
  induction G with
  | nil => intro Lf X _ _ h; exact h
  | cons a as ih =>
    intro Lf X hG hL h
    cases Lf with
    | nil => exact h
    | cons b bs =>
      rw [sxF]
      exact ih bs _ (fun j hj => hG j (List.mem_cons_of_mem _ hj)) (fun j hj => hL j (List.mem_cons_of_mem _ hj)) (inv_x1 (hG a (List.mem_cons_self ..)) (hL b (List.mem_cons_self ..)) h)
theorem inv_mv1 {S : GS} (d : Nat) (h : Inv S) : Inv (mv1 S d) := inv_xF (S := S) (fl (gaP S.ed (nbT S.w S.q) d) (S.w * S.q)) (fl (leP S.ed (nbT S.w S.q) d) (S.w * S.q)) (S.ed, S.bi, S.mc) (fun _ hj => (fl_mem.mp hj).1) (fun _ hj => (fl_mem.mp hj).1) h
theorem inv_mv {S : GS} (h : Inv S) : Inv (mvS S) := by
  unfold mvS
  split
  · exact h
  · split
    · exact h
    · exact inv_mv1 _ h
theorem inv_tmT {S : GS} (y : Int32) (h : Inv S) : Inv (tmT y S) := h
theorem inv_tm {S : GS} (x : Int32) (h : Inv S) : Inv (tmS x S) := inv_tmT _ h
def fwS (S : GS) : GS := tmS 1 (mvS (egS (flS 0 (meS 0 S))))
def bwS (S : GS) : GS := meS 1 (flS 3 (egS (tmS (-1) S)))
theorem inv_fw {S : GS} (h : Inv S) : Inv (fwS S) := inv_tm 1 (inv_mv (inv_eg (inv_fl 0 (inv_me 0 h))))
theorem inv_bw {S : GS} (h : Inv S) : Inv (bwS S) := inv_me 1 (inv_fl 3 (inv_eg (inv_tm (-1) h)))
def itS (f : GS → GS) : Nat → GS → GS
  | 0, S => S
  | n + 1, S => itS f n (f S)
theorem itS_s (f : GS → GS) (n : Nat) (S : GS) : itS f (n + 1) S = itS f n (f S) := rfl
theorem inv_it {f : GS → GS} (hf : ∀ S, Inv S → Inv (f S)) : ∀ n S, Inv S → Inv (itS f n S) := by
  intro n
  induction n with
  | zero => intro S h; exact h
  | succ n ih => intro S h; exact ih _ (hf S h)
theorem ct_me {L : Nat} {xs : Nat → Int32} {S : GS} {H rest : ac_H} (ow : Nat) (h : Inv S) (hH : Hd S H rest) : ∃ H', Hd (meS ow S) H' rest ∧ Mt L xs 55 [.ref 0, .int (nI ow)] H none H' 0 0 := by
  obtain ⟨ga, le, sw, ar, ha, rfl⟩ := hH
  exact ⟨_, ⟨ga, le, sw, ar, ha, rfl⟩, mt_meet h.hw h.hq h.cn h.mk h.bt⟩
theorem ct_fl {L : Nat} {xs : Nat → Int32} {S : GS} {H rest : ac_H} {t : Nat} (ht : t < 7) (h : Inv S) (hH : Hd S H rest) : ∃ H', Hd (flS t S) H' rest ∧ Mt L xs 57 [.ref 0, .int (nI t)] H none H' 0 0 := by
  obtain ⟨ga, le, sw, ar, ha, rfl⟩ := hH
  have e : pre (S.w * S.q) (fun _ => 0) ar = fun _ => 0 := by
    funext j
    unfold pre
    split
    · rfl
    · exact ha j (by omega)
  have hm := mt_fly (L := L) (xs := xs) (ed := S.ed) (ra := S.ra) (bk := S.bk) (wt := S.wt) (gp := S.gp) (gq := S.gq) (mv := S.mv) (ga := ga) (le := le) (sw := sw) (ar := ar) (tm := S.tm) (sd := S.sd) (rest := rest) h.hw h.hq (nbT_ok h.hw h.hq) h.bt ht h.cn h.mk
  unfold flB at hm
  rw [e] at hm
  exact ⟨_, ⟨ga, le, !sw, S.bi, h.b0, rfl⟩, hm⟩
theorem ct_eg {L : Nat} {xs : Nat → Int32} {S : GS} {H rest : ac_H} (h : Inv S) (hH : Hd S H rest) : ∃ H', Hd (egS S) H' rest ∧ Mt L xs 59 [.ref 0] H none H' 0 0 := by
  obtain ⟨ga, le, sw, ar, ha, rfl⟩ := hH
  exact ⟨_, ⟨ga, le, sw, ar, ha, rfl⟩, mt_passEdges h.hw h.hq h.ed h.bt h.cn h.mk rfl⟩
theorem ct_mv {L : Nat} {xs : Nat → Int32} {S : GS} {H rest : ac_H} (h : Inv S) (hH : Hd S H rest) : ∃ H', Hd (mvS S) H' rest ∧ Mt L xs 62 [.ref 0] H none H' 0 0 := by
  obtain ⟨ga, le, sw, ar, ha, rfl⟩ := hH
  unfold mvS
  by_cases z : hdI S = -1
  · rw [if_pos z]
    refine ⟨_, ⟨ga, le, sw, ar, ha, rfl⟩, ?_⟩
    show Ev L xs 62 (0, [.ref 0, ac_un], [], _, 0, 0) _
    (repeat refine ev_step rfl rfl ?_)
    refine ev_i1 rfl rfl (Nat.le_of_ble_eq_true rfl) (Nat.le_of_ble_eq_true rfl) rfl (mt_heading) ?_
    refine ev_tp (z) ?_
    (repeat refine ev_step rfl rfl ?_)
    exact ev_r0 rfl
  · rw [if_neg z]
    obtain ⟨d, hd, e⟩ := (hd_or S.wt S.gp S.gq 6 0 rfl).resolve_left z
    have e2 : (hdI S).toNatClampNeg = d := by
      show (hdF S.wt S.gp S.gq 6 0).toNatClampNeg = d
      rw [e, nI_clamp (by omega)]
    rw [e2]
    by_cases z2 : cmF S.ed (nbT S.w S.q) d (S.w * S.q) 0 0 = 0
    · rw [if_pos z2]
      refine ⟨_, ⟨ga, le, sw, ar, ha, rfl⟩, ?_⟩
      show Ev L xs 62 (0, [.ref 0, ac_un], [], _, 0, 0) _
      (repeat refine ev_step rfl rfl ?_)
      refine ev_i1 rfl rfl (Nat.le_of_ble_eq_true rfl) (Nat.le_of_ble_eq_true rfl) rfl (mt_heading) ?_
      refine ev_tp (e) ?_
      (repeat refine ev_step rfl rfl ?_)
      refine ev_f (nI_m1 (by omega)) ?_
      (repeat refine ev_step rfl rfl ?_)
      refine ev_i2 rfl rfl (Nat.le_of_ble_eq_true rfl) (Nat.le_of_ble_eq_true rfl) rfl (mt_canMove h.hw h.hq (nbT_ok h.hw h.hq) hd) ?_
      refine ev_tp (z2) ?_
      (repeat refine ev_step rfl rfl ?_)
      exact ev_r0 rfl
    · rw [if_neg z2]
      refine ⟨_, ⟨lsA (fl (gaP S.ed (nbT S.w S.q) d) (S.w * S.q)) ga, lsA (fl (leP S.ed (nbT S.w S.q) d) (S.w * S.q)) le, sw, ar, ha, rfl⟩, ?_⟩
      show Ev L xs 62 (0, [.ref 0, ac_un], [], _, 0, 0) _
      (repeat refine ev_step rfl rfl ?_)
      refine ev_i1 rfl rfl (Nat.le_of_ble_eq_true rfl) (Nat.le_of_ble_eq_true rfl) rfl (mt_heading) ?_
      refine ev_tp (e) ?_
      (repeat refine ev_step rfl rfl ?_)
      refine ev_f (nI_m1 (by omega)) ?_
      (repeat refine ev_step rfl rfl ?_)
      refine ev_i2 rfl rfl (Nat.le_of_ble_eq_true rfl) (Nat.le_of_ble_eq_true rfl) rfl (mt_canMove h.hw h.hq (nbT_ok h.hw h.hq) hd) ?_
      iterate 1 (refine ev_step rfl rfl ?_)
      refine ev_f z2 ?_
      (repeat refine ev_step rfl rfl ?_)
      refine ev_v2 rfl rfl (Nat.le_of_ble_eq_true rfl) (Nat.le_of_ble_eq_true rfl) rfl (mt_shift h.hw h.hq (nbT_ok h.hw h.hq) hd h.cn (lg_len h.hw h.hq) (X := mvX S d) rfl) ?_
      (repeat refine ev_step rfl rfl ?_)
      refine ev_v2 rfl rfl (Nat.le_of_ble_eq_true rfl) (Nat.le_of_ble_eq_true rfl) rfl (mt_spend hd) ?_
      exact ev_r0 rfl
theorem fw_glue {L : Nat} {xs : Nat → Int32} {S Z1 Z2 Z3 Z4 : GS} {H H1 H2 H3 H4 rest : ac_H} (y : Int32) (hy : y = Z4.tm + 1) (h0 : Hd S H rest) (h1 : Hd Z1 H1 rest) (h2 : Hd Z2 H2 rest) (h3 : Hd Z3 H3 rest) (h4 : Hd Z4 H4 rest) (m1 : Mt L xs 55 [.ref 0, .int (nI 0)] H none H1 0 0) (m2 : Mt L xs 57 [.ref 0, .int (nI 0)] H1 none H2 0 0) (m3 : Mt L xs 59 [.ref 0] H2 none H3 0 0) (m4 : Mt L xs 62 [.ref 0] H3 none H4 0 0) : ∃ H', Hd (tmT y Z4) H' rest ∧ Mt L xs 52 [.ref 0] H none H' 0 0 := by
  obtain ⟨g0, l0, s0, a0, -, rfl⟩ := h0
  obtain ⟨g1, l1, s1, a1, -, rfl⟩ := h1
  obtain ⟨g2, l2, s2, a2, -, rfl⟩ := h2
  obtain ⟨g3, l3, s3, a3, -, rfl⟩ := h3
  obtain ⟨ga, le, sw, ar, ha, rfl⟩ := h4
  refine ⟨_, ⟨ga, le, sw, ar, ha, rfl⟩, ?_⟩
  show Ev L xs 52 (0, [.ref 0], [], _, 0, 0) _
  (repeat refine ev_step rfl rfl ?_)
  refine ev_v2 rfl rfl (Nat.le_of_ble_eq_true rfl) (Nat.le_of_ble_eq_true rfl) rfl (m1) ?_
  (repeat refine ev_step rfl rfl ?_)
  refine ev_v2 rfl rfl (Nat.le_of_ble_eq_true rfl) (Nat.le_of_ble_eq_true rfl) rfl (m2) ?_
  (repeat refine ev_step rfl rfl ?_)
  refine ev_v1 rfl rfl (Nat.le_of_ble_eq_true rfl) (Nat.le_of_ble_eq_true rfl) rfl (m3) ?_
  (repeat refine ev_step rfl rfl ?_)
  refine ev_v1 rfl rfl (Nat.le_of_ble_eq_true rfl) (Nat.le_of_ble_eq_true rfl) rfl (m4) ?_
  iterate 5 (refine ev_step rfl rfl ?_)
  rw [← hy]
  (repeat refine ev_step rfl rfl ?_)
  exact ev_r0 rfl
theorem ct_fw {L : Nat} {xs : Nat → Int32} {S : GS} {H rest : ac_H} (h : Inv S) (hH : Hd S H rest) : ∃ H', Hd (fwS S) H' rest ∧ Mt L xs 52 [.ref 0] H none H' 0 0 := by
  obtain ⟨H1, h1, m1⟩ := ct_me (L := L) (xs := xs) 0 h hH
  obtain ⟨H2, h2, m2⟩ := ct_fl (L := L) (xs := xs) (t := 0) (by decide) (inv_me 0 h) h1
  obtain ⟨H3, h3, m3⟩ := ct_eg (L := L) (xs := xs) (inv_fl 0 (inv_me 0 h)) h2
  obtain ⟨H4, h4, m4⟩ := ct_mv (L := L) (xs := xs) (inv_eg (inv_fl 0 (inv_me 0 h))) h3
  exact fw_glue ((mvS (egS (flS 0 (meS 0 S)))).tm + 1) rfl hH h1 h2 h3 h4 m1 m2 m3 m4
theorem bw_glue {L : Nat} {xs : Nat → Int32} {S Z1 Z2 : GS} {H1 H2 H3 rest : ac_H} {ga le : Nat → Int32} {sw : Bool} {ar : Nat → Int32} (y : Int32) (hy : y = S.tm - 1) (h1 : Hd Z1 H1 rest) (h2 : Hd Z2 H2 rest) (m1 : Mt L xs 59 [.ref 0] (GX (tmT y S) ga le sw ar rest) none H1 0 0) (m2 : Mt L xs 57 [.ref 0, .int (nI 3)] H1 none H2 0 0) (m3 : Mt L xs 55 [.ref 0, .int (nI 1)] H2 none H3 0 0) : Mt L xs 53 [.ref 0] (GX S ga le sw ar rest) none H3 0 0 := by
  obtain ⟨g1, l1, s1, a1, -, rfl⟩ := h1
  obtain ⟨g2, l2, s2, a2, -, rfl⟩ := h2
  show Ev L xs 53 (0, [.ref 0], [], _, 0, 0) _
  iterate 5 (refine ev_step rfl rfl ?_)
  rw [← hy]
  (repeat refine ev_step rfl rfl ?_)
  refine ev_v1 rfl rfl (Nat.le_of_ble_eq_true rfl) (Nat.le_of_ble_eq_true rfl) rfl (m1) ?_
  (repeat refine ev_step rfl rfl ?_)
  refine ev_v2 rfl rfl (Nat.le_of_ble_eq_true rfl) (Nat.le_of_ble_eq_true rfl) rfl (m2) ?_
  (repeat refine ev_step rfl rfl ?_)
  refine ev_v2 rfl rfl (Nat.le_of_ble_eq_true rfl) (Nat.le_of_ble_eq_true rfl) rfl (m3) ?_
  exact ev_r0 rfl
theorem hd_tm {S : GS} {ga le : Nat → Int32} {sw : Bool} {ar : Nat → Int32} {rest : ac_H} (y : Int32) (ha : ∀ j, S.w * S.q ≤ j → ar j = 0) : Hd (tmT y S) (GX (tmT y S) ga le sw ar rest) rest := ⟨ga, le, sw, ar, ha, rfl⟩
theorem ct_bw {L : Nat} {xs : Nat → Int32} {S : GS} {H rest : ac_H} (h : Inv S) (hH : Hd S H rest) : ∃ H', Hd (bwS S) H' rest ∧ Mt L xs 53 [.ref 0] H none H' 0 0 := by
  obtain ⟨g0, l0, s0, a0, ha0, rfl⟩ := hH
  have h0 := hd_tm (S := S) (ga := g0) (le := l0) (sw := s0) (rest := rest) (S.tm + -1) ha0
  obtain ⟨H1, h1, m1⟩ := ct_eg (L := L) (xs := xs) (inv_tmT (S.tm + -1) h) h0
  obtain ⟨H2, h2, m2⟩ := ct_fl (L := L) (xs := xs) (t := 3) (by decide) (inv_eg (inv_tmT (S.tm + -1) h)) h1
  obtain ⟨H3, h3, m3⟩ := ct_me (L := L) (xs := xs) 1 (inv_fl 3 (inv_eg (inv_tmT (S.tm + -1) h))) h2
  exact ⟨H3, h3, bw_glue (S.tm + -1) (Int32.sub_eq_add_neg ..).symm h1 h2 m1 m2 m3⟩
theorem steps_it {L : Nat} {xs : Nat → Int32} {rest : ac_H} {k : Nat} (hk : k ≤ 64) : ∀ (n i : Nat) (S : GS) (H : ac_H), i + n = k → Inv S → Hd S H rest → ∃ H', Hd (itS fwS n S) H' rest ∧ Ev L xs 35 (9, [.ref 0, .int (nI k), .int (nI i)], [], H, 0, 0) (.inl (some (.int (itS fwS n S).tm)), H', 0, 0) := by
  intro n
  induction n with
  | zero =>
    intro i S H hi h hH
    refine ⟨H, hH, ?_⟩
    obtain ⟨ga, le, sw, ar, ha, rfl⟩ := hH
    have e : i = k := by omega
    subst e
    (repeat refine ev_step rfl rfl ?_)
    refine ev_t (nI_le (Nat.le_refl i) (by omega)) ?_
    (repeat refine ev_step rfl rfl ?_)
    exact ev_r1 rfl
  | succ n ih =>
    intro i S H hi h hH
    obtain ⟨H1, h1, m1⟩ := ct_fw (L := L) (xs := xs) h hH
    obtain ⟨H2, h2, m2⟩ := ih (i + 1) (fwS S) H1 (by omega) (inv_fw h) h1
    rw [itS_s]
    generalize itS fwS n (fwS S) = Z9 at h2 m2 ⊢
    refine ⟨H2, h2, ?_⟩
    obtain ⟨ga, le, sw, ar, ha, rfl⟩ := hH
    (repeat refine ev_step rfl rfl ?_)
    refine ev_f (nI_ge (a := i) (b := k) (by omega) (by omega)) ?_
    (repeat refine ev_step rfl rfl ?_)
    refine ev_v1 rfl rfl (Nat.le_of_ble_eq_true rfl) (Nat.le_of_ble_eq_true rfl) rfl (m1) ?_
    iterate 2 (refine ev_step rfl rfl ?_)
    rw [nI_1]
    exact m2
theorem ct_step {L : Nat} {xs : Nat → Int32} {S : GS} {H rest : ac_H} {k : Nat} (hk : k ≤ 64) (h : Inv S) (hH : Hd S H rest) : ∃ H', Hd (itS fwS k S) H' rest ∧ Mt L xs 35 [.ref 0, .int (nI k)] H (some (.int (itS fwS k S).tm)) H' 0 0 := by
  obtain ⟨H', h', m⟩ := steps_it (L := L) (xs := xs) hk k 0 S H (Nat.zero_add _) h hH
  refine ⟨H', h', ?_⟩
  show Ev L xs 35 (0, [.ref 0, .int (nI k), ac_un], [], _, 0, 0) _
  (repeat refine ev_step rfl rfl ?_)
  refine ev_v3 rfl rfl (Nat.le_of_ble_eq_true rfl) (Nat.le_of_ble_eq_true rfl) rfl (mt_refuse (nI_pos (by omega)) (nI_le (a := k) (b := 64) hk (by decide)) _) ?_
  iterate 2 (refine ev_step rfl rfl ?_)
  exact m
theorem mx_step {L : Nat} {xs : Nat → Int32} {v : Int32} {H : ac_H} (h : v < 0 ∨ ¬ v ≤ 64) : Mx L xs 35 [.ref 0, .int v] H 1 (H ++ [ac_junk]) 1 6 := by
  show Ev L xs 35 (0, [.ref 0, .int v, ac_un], [], _, 0, 0) _
  (repeat refine ev_step rfl rfl ?_)
  exact ev_x3 rfl rfl (Nat.le_of_ble_eq_true rfl) (Nat.le_of_ble_eq_true rfl) rfl (mx_refuse h _) rfl
/-- only walls, from c on -/
def owF (ed : Nat → Int32) : Nat → Nat → Bool
  | 0, _ => true
  | n + 1, c => (decide (ed c = 0) || decide (ed c = 1)) && owF ed n (c + 1)
theorem walls_it {L : Nat} {xs : Nat → Int32} {w q : Nat} {nb ed ra bk : Nat → Int32} {wt gp gq mv : Int32} {cn : Nat} {mc mk ga le : Nat → Int32} {sw : Bool} {bi ar : Nat → Int32} {tm sd : Int32} {rest : ac_H} (hw : sideOk w) (hq : sideOk q) : ∀ (n c : Nat), c + n = w * q → Ev L xs 54 (2, [.ref 0, .int (nI c)], [], (GH w q nb ed ra bk wt gp gq mv cn mc mk ga le sw bi ar tm sd rest), 0, 0) (.inl (some (.int (bI (owF ed n c)))), (GH w q nb ed ra bk wt gp gq mv cn mc mk ga le sw bi ar tm sd rest), 0, 0) := by
  have hn := side_n hw hq
  intro n
  induction n with
  | zero =>
    intro c hc
    have e : c = w * q := by omega
    rw [e]
    (repeat refine ev_step rfl rfl ?_)
    refine ev_t (nI_le (Nat.le_refl _) (by omega)) ?_
    (repeat refine ev_step rfl rfl ?_)
    exact ev_r2 rfl (Or.inr rfl)
  | succ n ih =>
    intro c hc
    have ih1 := ih (c + 1) (by omega)
    rw [owF]
    (repeat refine ev_step rfl rfl ?_)
    refine ev_f (nI_ge (a := c) (b := w * q) (by omega) (by omega)) ?_
    (repeat refine ev_step rfl rfl ?_)
    refine ev_ia rfl rfl (c) (rfl) (by omega) (by omega) ?_
    iterate 1 (refine ev_step rfl rfl ?_)
    refine ev_br (fun z => ?_) (fun z => ?_)
    · rw [decide_eq_true z, Bool.true_or, Bool.true_and]
      iterate 2 (refine ev_step rfl rfl ?_)
      rw [nI_1]
      exact ih1
    · (repeat refine ev_step rfl rfl ?_)
      refine ev_ia rfl rfl (c) (rfl) (by omega) (by omega) ?_
      iterate 2 (refine ev_step rfl rfl ?_)
      refine ev_br (fun z2 => ?_) (fun z2 => ?_)
      · rw [decide_eq_true z2, Bool.or_true, Bool.true_and]
        iterate 2 (refine ev_step rfl rfl ?_)
        rw [nI_1]
        exact ih1
      · rw [decide_eq_false z, decide_eq_false z2, Bool.or_false, Bool.false_and]
        (repeat refine ev_step rfl rfl ?_)
        exact ev_r2 rfl (Or.inl rfl)
theorem mt_walls {L : Nat} {xs : Nat → Int32} {w q : Nat} {nb ed ra bk : Nat → Int32} {wt gp gq mv : Int32} {cn : Nat} {mc mk ga le : Nat → Int32} {sw : Bool} {bi ar : Nat → Int32} {tm sd : Int32} {rest : ac_H} (hw : sideOk w) (hq : sideOk q) : Mt L xs 54 [.ref 0] (GH w q nb ed ra bk wt gp gq mv cn mc mk ga le sw bi ar tm sd rest) (some (.int (bI (owF ed (w * q) 0)))) (GH w q nb ed ra bk wt gp gq mv cn mc mk ga le sw bi ar tm sd rest) 0 0 := by
  show Ev L xs 54 (0, [.ref 0, ac_un], [], _, 0, 0) _
  iterate 2 (refine ev_step rfl rfl ?_)
  exact walls_it hw hq (w * q) 0 (Nat.zero_add _)
theorem back_it {L : Nat} {xs : Nat → Int32} {rest : ac_H} {k : Nat} (hk : k ≤ 64) : ∀ (n i : Nat) (S : GS) (H : ac_H), i + n = k → Inv S → Hd S H rest → ∃ H', Hd (itS bwS n S) H' rest ∧ Ev L xs 36 (26, [.ref 0, .int (nI k), .int (nI i)], [], H, 0, 0) (.inl (some (.int (itS bwS n S).tm)), H', 0, 0) := by
  intro n
  induction n with
  | zero =>
    intro i S H hi h hH
    refine ⟨H, hH, ?_⟩
    obtain ⟨ga, le, sw, ar, ha, rfl⟩ := hH
    have e : i = k := by omega
    subst e
    (repeat refine ev_step rfl rfl ?_)
    refine ev_t (nI_le (Nat.le_refl i) (by omega)) ?_
    (repeat refine ev_step rfl rfl ?_)
    exact ev_r1 rfl
  | succ n ih =>
    intro i S H hi h hH
    obtain ⟨H1, h1, m1⟩ := ct_bw (L := L) (xs := xs) h hH
    obtain ⟨H2, h2, m2⟩ := ih (i + 1) (bwS S) H1 (by omega) (inv_bw h) h1
    rw [itS_s]
    generalize itS bwS n (bwS S) = Z9 at h2 m2 ⊢
    refine ⟨H2, h2, ?_⟩
    obtain ⟨ga, le, sw, ar, ha, rfl⟩ := hH
    (repeat refine ev_step rfl rfl ?_)
    refine ev_f (nI_ge (a := i) (b := k) (by omega) (by omega)) ?_
    (repeat refine ev_step rfl rfl ?_)
    refine ev_v1 rfl rfl (Nat.le_of_ble_eq_true rfl) (Nat.le_of_ble_eq_true rfl) rfl (m1) ?_
    iterate 2 (refine ev_step rfl rfl ?_)
    rw [nI_1]
    exact m2
theorem ct_back {L : Nat} {xs : Nat → Int32} {S : GS} {H rest : ac_H} {k : Nat} (hk : k ≤ 64) (h : Inv S) (hH : Hd S H rest) (ho : owF S.ed (S.w * S.q) 0 = true) : ∃ H', Hd (itS bwS k S) H' rest ∧ Mt L xs 36 [.ref 0, .int (nI k)] H (some (.int (itS bwS k S).tm)) H' 0 0 := by
  obtain ⟨H', h', m⟩ := back_it (L := L) (xs := xs) hk k 0 S H (Nat.zero_add _) h hH
  refine ⟨H', h', ?_⟩
  obtain ⟨ga, le, sw, ar, ha, rfl⟩ := hH
  show Ev L xs 36 (0, [.ref 0, .int (nI k), ac_un], [], _, 0, 0) _
  (repeat refine ev_step rfl rfl ?_)
  refine ev_v3 rfl rfl (Nat.le_of_ble_eq_true rfl) (Nat.le_of_ble_eq_true rfl) rfl (mt_refuse (nI_pos (by omega)) (nI_le (a := k) (b := 64) hk (by decide)) _) ?_
  (repeat refine ev_step rfl rfl ?_)
  refine ev_i1 rfl rfl (Nat.le_of_ble_eq_true rfl) (Nat.le_of_ble_eq_true rfl) rfl (mt_walls h.hw h.hq) ?_
  rw [ho]
  iterate 3 (refine ev_step rfl rfl ?_)
  exact m
theorem mx_back1 {L : Nat} {xs : Nat → Int32} {v : Int32} {H : ac_H} (h : v < 0 ∨ ¬ v ≤ 64) : Mx L xs 36 [.ref 0, .int v] H 1 (H ++ [ac_junk]) 1 6 := by
  show Ev L xs 36 (0, [.ref 0, .int v, ac_un], [], _, 0, 0) _
  (repeat refine ev_step rfl rfl ?_)
  exact ev_x3 rfl rfl (Nat.le_of_ble_eq_true rfl) (Nat.le_of_ble_eq_true rfl) rfl (mx_refuse h _) rfl
theorem mx_back2 {L : Nat} {xs : Nat → Int32} {w q : Nat} {nb ed ra bk : Nat → Int32} {wt gp gq mv : Int32} {cn : Nat} {mc mk ga le : Nat → Int32} {sw : Bool} {bi ar : Nat → Int32} {tm sd : Int32} {rest : ac_H} {v : Int32} (hw : sideOk w) (hq : sideOk q) (h1 : ¬ v < 0) (h2 : v ≤ 64) (ho : owF ed (w * q) 0 = false) : Mx L xs 36 [.ref 0, .int v] (GH w q nb ed ra bk wt gp gq mv cn mc mk ga le sw bi ar tm sd rest) 3 (GH w q nb ed ra bk wt gp gq mv cn mc mk ga le sw bi ar tm sd (rest ++ [ac_junk])) 1 6 := by
  show Ev L xs 36 (0, [.ref 0, .int v, ac_un], [], _, 0, 0) _
  (repeat refine ev_step rfl rfl ?_)
  refine ev_v3 rfl rfl (Nat.le_of_ble_eq_true rfl) (Nat.le_of_ble_eq_true rfl) rfl (mt_refuse h1 h2 _) ?_
  (repeat refine ev_step rfl rfl ?_)
  refine ev_i1 rfl rfl (Nat.le_of_ble_eq_true rfl) (Nat.le_of_ble_eq_true rfl) rfl (mt_walls hw hq) ?_
  rw [ho]
  iterate 1 (refine ev_step rfl rfl ?_)
  exact ev_thr rfl
