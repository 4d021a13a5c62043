/-! ===== the plain form: steps ===== -/
abbrev MX (g0 g1 g2 g3 g4 g5 g6 g7 g8 g9 g10 g11 g12 g13 g14 : ac_C) (S : GS) (th : Int32) (fr ah : Nat → Int32) (rest : ac_H) : ac_H := MH g0 g1 g2 g3 g4 g5 g6 g7 g8 g9 g10 g11 g12 g13 g14 th S.w S.q S.tm S.sd S.bi S.ed S.ra fr ah S.bk S.wt S.gp S.gq S.mv S.cn S.mc S.mk rest
def frOk (S : GS) (fr : Nat → Int32) : Prop := ∀ j, S.w * S.q ≤ j → fr j = 0
theorem km_me {L : Nat} {xs : Nat → Int32} {g0 g1 g2 g3 g4 g5 g6 g7 g8 g9 g10 g11 g12 g13 g14 : ac_C} {rest : ac_H} {S : GS} {th : Int32} {fr ah : Nat → Int32} {bk0 : Nat} (hk0 : bk0 < 2) (h : Inv S) : Mt L xs 92 [.ref 15, .int (nI bk0)] (MX g0 g1 g2 g3 g4 g5 g6 g7 g8 g9 g10 g11 g12 g13 g14 (S) (th) (fr) (ah) rest) none (MX g0 g1 g2 g3 g4 g5 g6 g7 g8 g9 g10 g11 g12 g13 g14 (meS bk0 S) (th) (fr) (ah) rest) 0 0 := mm_meet h.hw h.hq hk0 h.cn h.mk h.bt h.lv
theorem km_fl {L : Nat} {xs : Nat → Int32} {g0 g1 g2 g3 g4 g5 g6 g7 g8 g9 g10 g11 g12 g13 g14 : ac_C} {rest : ac_H} {S : GS} {th : Int32} {fr ah : Nat → Int32} {bk0 : Nat} (hk0 : bk0 < 2) (h : Inv S) (hf : frOk S fr) : ∃ fr', frOk (flS (3 * bk0) S) fr' ∧ Mt L xs 93 [.ref 15, .int (nI bk0)] (MX g0 g1 g2 g3 g4 g5 g6 g7 g8 g9 g10 g11 g12 g13 g14 (S) (th) (fr) (ah) rest) none (MX g0 g1 g2 g3 g4 g5 g6 g7 g8 g9 g10 g11 g12 g13 g14 (flS (3 * bk0) S) (th) (fr') (ah) rest) 0 0 := by
  have eb : (flS (3 * bk0) S).bi = scF S.w S.q (3 * bk0) S.bi (fun _ _ => true) := flS_bi h.hw h.hq h.bt
  have hm := mm_fly (L := L) (xs := xs) (g0 := g0) (g1 := g1) (g2 := g2) (g3 := g3) (g4 := g4) (g5 := g5) (g6 := g6) (g7 := g7) (g8 := g8) (g9 := g9) (g10 := g10) (g11 := g11) (g12 := g12) (g13 := g13) (g14 := g14) (th := th) (tm := S.tm) (sd := S.sd) (ed := S.ed) (ra := S.ra) (ah := ah) (bk := S.bk) (wt := S.wt) (gp := S.gp) (gq := S.gq) (mv := S.mv) (rest := rest) h.hw h.hq hk0 h.cn h.mk h.bt h.b0 hf
  refine ⟨scF S.w S.q (3 * bk0) S.bi (fun _ _ => true), fun j hj => if_neg (Nat.not_lt.mpr hj), ?_⟩
  have e2 : scF S.w S.q (3 * bk0) S.bi (fun _ _ => true) = flF (nbT S.w S.q) S.bi (3 * bk0) (S.w * S.q) 0 (fun _ => 0) := eb.symm
  show Mt L xs 93 [.ref 15, .int (nI bk0)] _ none (MH g0 g1 g2 g3 g4 g5 g6 g7 g8 g9 g10 g11 g12 g13 g14 th S.w S.q S.tm S.sd (flF (nbT S.w S.q) S.bi (3 * bk0) (S.w * S.q) 0 (fun _ => 0)) S.ed S.ra (scF S.w S.q (3 * bk0) S.bi (fun _ _ => true)) ah S.bk S.wt S.gp S.gq S.mv S.cn (pre S.cn (fyF (nbT S.w S.q) (3 * bk0) S.mc S.mk) S.mc) S.mk rest) 0 0
  rw [← e2]
  exact hm
theorem km_eg {L : Nat} {xs : Nat → Int32} {g0 g1 g2 g3 g4 g5 g6 g7 g8 g9 g10 g11 g12 g13 g14 : ac_C} {rest : ac_H} {S : GS} {th : Int32} {fr ah : Nat → Int32} (h : Inv S) : Mt L xs 98 [.ref 15] (MX g0 g1 g2 g3 g4 g5 g6 g7 g8 g9 g10 g11 g12 g13 g14 (S) (th) (fr) (ah) rest) none (MX g0 g1 g2 g3 g4 g5 g6 g7 g8 g9 g10 g11 g12 g13 g14 (egS S) (th) (fr) (ah) rest) 0 0 := mm_edges h.hw h.hq h.ed h.cn h.mk h.bt rfl
theorem km_mv {L : Nat} {xs : Nat → Int32} {g0 g1 g2 g3 g4 g5 g6 g7 g8 g9 g10 g11 g12 g13 g14 : ac_C} {rest : ac_H} {S : GS} {th : Int32} {fr ah : Nat → Int32} (h : Inv S) : ∃ ah', Mt L xs 103 [.ref 15] (MX g0 g1 g2 g3 g4 g5 g6 g7 g8 g9 g10 g11 g12 g13 g14 (S) (th) (fr) (ah) rest) none (MX g0 g1 g2 g3 g4 g5 g6 g7 g8 g9 g10 g11 g12 g13 g14 (mvS S) (th) (fr) (ah') rest) 0 0 := by
  unfold mvS
  by_cases z : hdI S = -1
  · refine ⟨ah, ?_⟩
    rw [if_pos z]
    exact mm_moveN z
  · rw [if_neg z]
    obtain ⟨d, hd, e⟩ := (hd_or S.wt S.gp S.gq 6 0 rfl).resolve_left z
    have e2 : (hdI S).toNatClampNeg = d := by
      show (hdF S.wt S.gp S.gq 6 0).toNatClampNeg = d
      rw [e, nI_clamp (by omega)]
    rw [e2]
    by_cases z2 : cmF S.ed (nbT S.w S.q) d (S.w * S.q) 0 0 = 0
    · rw [if_pos z2]
      exact mm_move0 h.hw h.hq hd e z2
    · rw [if_neg z2]
      obtain ⟨w, q, ed, ra, bk, wt, gp, gq, mv, cn, mc, mk, bi, tm, sd⟩ := S
      exact mm_move1 h.hw h.hq h.cn hd e z2 rfl
theorem tmT_w (y : Int32) (S : GS) : (tmT y S).w = S.w ∧ (tmT y S).q = S.q := ⟨rfl, rfl⟩
theorem mvS_w (S : GS) : (mvS S).w = S.w ∧ (mvS S).q = S.q := by
  unfold mvS
  split
  · exact ⟨rfl, rfl⟩
  · split
    · exact ⟨rfl, rfl⟩
    · exact ⟨rfl, rfl⟩
theorem fwS_w (S : GS) : (fwS S).w = S.w ∧ (fwS S).q = S.q := by
  unfold fwS tmS
  rw [(tmT_w _ _).1, (tmT_w _ _).2, (mvS_w _).1, (mvS_w _).2]
  exact ⟨rfl, rfl⟩
theorem meS_w (t : Nat) (S : GS) : (meS t S).w = S.w ∧ (meS t S).q = S.q := ⟨rfl, rfl⟩
theorem flS_w (t : Nat) (S : GS) : (flS t S).w = S.w ∧ (flS t S).q = S.q := ⟨rfl, rfl⟩
theorem egS_w (S : GS) : (egS S).w = S.w ∧ (egS S).q = S.q := ⟨rfl, rfl⟩
theorem bwT_w (y : Int32) (S : GS) : (meS 1 (flS 3 (egS (tmT y S)))).w = S.w ∧ (meS 1 (flS 3 (egS (tmT y S)))).q = S.q := by
  rw [(meS_w _ _).1, (meS_w _ _).2, (flS_w _ _).1, (flS_w _ _).2, (egS_w _).1, (egS_w _).2, (tmT_w _ _).1, (tmT_w _ _).2]
  exact ⟨rfl, rfl⟩
theorem bwS_w (S : GS) : (bwS S).w = S.w ∧ (bwS S).q = S.q := bwT_w (S.tm + -1) S
theorem frOk_cg {S Z : GS} {fr : Nat → Int32} (h1 : S.w = Z.w) (h2 : S.q = Z.q) (h : frOk S fr) : frOk Z fr := by
  unfold frOk at h ⊢
  rw [h1, h2] at h
  exact h
theorem fr_tm {S : GS} {fr : Nat → Int32} (y : Int32) (h : frOk S fr) : frOk (egS (tmT y S)) fr := frOk_cg (by rw [(egS_w _).1, (tmT_w _ _).1]) (by rw [(egS_w _).2, (tmT_w _ _).2]) h
theorem fr_bw {S : GS} {fr : Nat → Int32} (y : Int32) (h : frOk (flS 3 (egS (tmT y S))) fr) : frOk (meS 1 (flS 3 (egS (tmT y S)))) fr := frOk_cg (by rw [(meS_w _ _).1]) (by rw [(meS_w _ _).2]) h
theorem kfw {L : Nat} {xs : Nat → Int32} {g0 g1 g2 g3 g4 g5 g6 g7 g8 g9 g10 g11 g12 g13 g14 : ac_C} {rest : ac_H} {S Z1 Z2 Z3 Z4 : GS} {th : Int32} {fr ah fr1 ah1 : Nat → Int32} {R : ac_R} {i k : Nat} (hik : i < k) (hk : k ≤ 64) (y : Int32) (hy : y = Z4.tm + 1) (m1 : Mt L xs 92 [.ref 15, .int (nI 0)] (MX g0 g1 g2 g3 g4 g5 g6 g7 g8 g9 g10 g11 g12 g13 g14 (S) (th) (fr) (ah) rest) none (MX g0 g1 g2 g3 g4 g5 g6 g7 g8 g9 g10 g11 g12 g13 g14 (Z1) (th) (fr) (ah) rest) 0 0) (m2 : Mt L xs 93 [.ref 15, .int (nI 0)] (MX g0 g1 g2 g3 g4 g5 g6 g7 g8 g9 g10 g11 g12 g13 g14 (Z1) (th) (fr) (ah) rest) none (MX g0 g1 g2 g3 g4 g5 g6 g7 g8 g9 g10 g11 g12 g13 g14 (Z2) (th) (fr1) (ah) rest) 0 0) (m3 : Mt L xs 98 [.ref 15] (MX g0 g1 g2 g3 g4 g5 g6 g7 g8 g9 g10 g11 g12 g13 g14 (Z2) (th) (fr1) (ah) rest) none (MX g0 g1 g2 g3 g4 g5 g6 g7 g8 g9 g10 g11 g12 g13 g14 (Z3) (th) (fr1) (ah) rest) 0 0) (m4 : Mt L xs 103 [.ref 15] (MX g0 g1 g2 g3 g4 g5 g6 g7 g8 g9 g10 g11 g12 g13 g14 (Z3) (th) (fr1) (ah) rest) none (MX g0 g1 g2 g3 g4 g5 g6 g7 g8 g9 g10 g11 g12 g13 g14 (Z4) (th) (fr1) (ah1) rest) 0 0) (kk : Ev L xs 104 (30, [.ref 15, .int (nI k), .int (nI (i + 1))], [], (MX g0 g1 g2 g3 g4 g5 g6 g7 g8 g9 g10 g11 g12 g13 g14 (tmT y Z4) (th) (fr1) (ah1) rest), 0, 0) R) : Ev L xs 104 (30, [.ref 15, .int (nI k), .int (nI i)], [], (MX g0 g1 g2 g3 g4 g5 g6 g7 g8 g9 g10 g11 g12 g13 g14 (S) (th) (fr) (ah) rest), 0, 0) R := by
  (repeat refine ev_step rfl rfl ?_)
  refine ev_f (nI_ge (a := i) (b := k) (by omega) (by omega)) ?_
  (repeat refine ev_step rfl rfl ?_)
  refine ev_v2 rfl rfl (Nat.le_of_ble_eq_true rfl) (Nat.le_of_ble_eq_true rfl) rfl (m1) ?_
  (repeat refine ev_step rfl rfl ?_)
  refine ev_v2 rfl rfl (Nat.le_of_ble_eq_true rfl) (Nat.le_of_ble_eq_true rfl) rfl (m2) ?_
  (repeat refine ev_step rfl rfl ?_)
  refine ev_v1 rfl rfl (Nat.le_of_ble_eq_true rfl) (Nat.le_of_ble_eq_true rfl) rfl (m3) ?_
  (repeat refine ev_step rfl rfl ?_)
  refine ev_v1 rfl rfl (Nat.le_of_ble_eq_true rfl) (Nat.le_of_ble_eq_true rfl) rfl (m4) ?_
  iterate 5 (refine ev_step rfl rfl ?_)
  rw [← hy]
  iterate 3 (refine ev_step rfl rfl ?_)
  rw [nI_1]
  exact kk
theorem ksteps_it {L : Nat} {xs : Nat → Int32} {g0 g1 g2 g3 g4 g5 g6 g7 g8 g9 g10 g11 g12 g13 g14 : ac_C} {rest : ac_H} {k : Nat} (hk : k ≤ 64) : ∀ (n i : Nat) (S : GS) (fr ah : Nat → Int32), i + n = k → Inv S → frOk S fr → ∃ fr' ah', frOk (itS fwS n S) fr' ∧ Ev L xs 104 (30, [.ref 15, .int (nI k), .int (nI i)], [], (MX g0 g1 g2 g3 g4 g5 g6 g7 g8 g9 g10 g11 g12 g13 g14 (S) (0) (fr) (ah) rest), 0, 0) (.inl (some (.int (itS fwS n S).tm)), (MX g0 g1 g2 g3 g4 g5 g6 g7 g8 g9 g10 g11 g12 g13 g14 (itS fwS n S) (0) (fr') (ah') rest), 0, 0) := by
  intro n
  induction n with
  | zero =>
    intro i S fr ah hi h hf
    refine ⟨fr, ah, hf, ?_⟩
    have e : i = k := by omega
    subst e
    (repeat refine ev_step rfl rfl ?_)
    refine ev_t (nI_le (Nat.le_refl i) (by omega)) ?_
    (repeat refine ev_step rfl rfl ?_)
    exact ev_r1 rfl
  | succ n ih =>
    intro i S fr ah hi h hf
    have m1 := km_me (L := L) (xs := xs) (g0 := g0) (g1 := g1) (g2 := g2) (g3 := g3) (g4 := g4) (g5 := g5) (g6 := g6) (g7 := g7) (g8 := g8) (g9 := g9) (g10 := g10) (g11 := g11) (g12 := g12) (g13 := g13) (g14 := g14) (rest := rest) (th := 0) (fr := fr) (ah := ah) (bk0 := 0) (by decide) h
    obtain ⟨fr1, hf1, m2⟩ := km_fl (L := L) (xs := xs) (g0 := g0) (g1 := g1) (g2 := g2) (g3 := g3) (g4 := g4) (g5 := g5) (g6 := g6) (g7 := g7) (g8 := g8) (g9 := g9) (g10 := g10) (g11 := g11) (g12 := g12) (g13 := g13) (g14 := g14) (rest := rest) (th := 0) (fr := fr) (ah := ah) (bk0 := 0) (by decide) (inv_me 0 h) hf
    have m3 := km_eg (L := L) (xs := xs) (g0 := g0) (g1 := g1) (g2 := g2) (g3 := g3) (g4 := g4) (g5 := g5) (g6 := g6) (g7 := g7) (g8 := g8) (g9 := g9) (g10 := g10) (g11 := g11) (g12 := g12) (g13 := g13) (g14 := g14) (rest := rest) (th := 0) (fr := fr1) (ah := ah) (inv_fl 0 (inv_me 0 h))
    obtain ⟨ah1, m4⟩ := km_mv (L := L) (xs := xs) (g0 := g0) (g1 := g1) (g2 := g2) (g3 := g3) (g4 := g4) (g5 := g5) (g6 := g6) (g7 := g7) (g8 := g8) (g9 := g9) (g10 := g10) (g11 := g11) (g12 := g12) (g13 := g13) (g14 := g14) (rest := rest) (th := 0) (fr := fr1) (ah := ah) (inv_eg (inv_fl 0 (inv_me 0 h)))
    obtain ⟨fr2, ah2, hf2, m5⟩ := ih (i + 1) (fwS S) fr1 ah1 (by omega) (inv_fw h) (fun j hj => hf1 j (by rw [(fwS_w S).1, (fwS_w S).2] at hj; exact hj))
    rw [itS_s]
    generalize itS fwS n (fwS S) = Z9 at hf2 m5 ⊢
    exact ⟨fr2, ah2, hf2, kfw (by omega) hk ((mvS (egS (flS 0 (meS 0 S)))).tm + 1) rfl m1 m2 m3 m4 m5⟩
theorem km_step {L : Nat} {xs : Nat → Int32} {g0 g1 g2 g3 g4 g5 g6 g7 g8 g9 g10 g11 g12 g13 g14 : ac_C} {rest : ac_H} {S : GS} {th : Int32} {fr ah : Nat → Int32} {k : Nat} (hk : k ≤ 64) (h : Inv S) (hf : frOk S fr) : ∃ fr' ah', frOk (itS fwS k S) fr' ∧ Mt L xs 104 [.ref 15, .int (nI k)] (MX g0 g1 g2 g3 g4 g5 g6 g7 g8 g9 g10 g11 g12 g13 g14 (S) (th) (fr) (ah) rest) (some (.int (itS fwS k S).tm)) (MX g0 g1 g2 g3 g4 g5 g6 g7 g8 g9 g10 g11 g12 g13 g14 (itS fwS k S) (0) (fr') (ah') rest) 0 0 := by
  obtain ⟨fr', ah', h1, m⟩ := ksteps_it (L := L) (xs := xs) (g0 := g0) (g1 := g1) (g2 := g2) (g3 := g3) (g4 := g4) (g5 := g5) (g6 := g6) (g7 := g7) (g8 := g8) (g9 := g9) (g10 := g10) (g11 := g11) (g12 := g12) (g13 := g13) (g14 := g14) (rest := rest) hk k 0 S fr ah (Nat.zero_add _) h hf
  refine ⟨fr', ah', h1, ?_⟩
  generalize itS fwS k S = Z9 at m ⊢
  show Ev L xs 104 (0, [.ref 15, .int (nI k), ac_un], [], _, 0, 0) _
  (repeat refine ev_step rfl rfl ?_)
  refine ev_f (nI_pos (by omega)) ?_
  (repeat refine ev_step rfl rfl ?_)
  refine ev_t (nI_le (a := k) (b := 64) hk (by decide)) ?_
  iterate 7 (refine ev_step rfl rfl ?_)
  exact m
theorem km_step1 {L : Nat} {xs : Nat → Int32} {g0 g1 g2 g3 g4 g5 g6 g7 g8 g9 g10 g11 g12 g13 g14 : ac_C} {th : Int32} {w q : Nat} {tm sd : Int32} {bi ed ra fr ah bk : Nat → Int32} {wt gp gq mv : Int32} {cn : Nat} {mc mk : Nat → Int32} {rest : ac_H} {v : Int32} (h : v < 0 ∨ ¬ v ≤ 64) : Mt L xs 104 [.ref 15, .int v] (MH g0 g1 g2 g3 g4 g5 g6 g7 g8 g9 g10 g11 g12 g13 g14 th w q tm sd bi ed ra fr ah bk wt gp gq mv cn mc mk rest) (some (.int 0)) (MH g0 g1 g2 g3 g4 g5 g6 g7 g8 g9 g10 g11 g12 g13 g14 (1) w q tm sd bi ed ra fr ah bk wt gp gq mv cn mc mk rest) 0 0 := by
  show Ev L xs 104 (0, [.ref 15, .int v, ac_un], [], _, 0, 0) _
  (repeat refine ev_step rfl rfl ?_)
  refine ev_br (fun _ => by (repeat refine ev_step rfl rfl ?_); exact ev_r1 rfl) (fun h1 => ?_)
  (repeat refine ev_step rfl rfl ?_)
  refine ev_f (fun h2 => h.elim h1 (fun z => z h2)) ?_
  (repeat refine ev_step rfl rfl ?_)
  exact ev_r1 rfl
theorem kbw {L : Nat} {xs : Nat → Int32} {g0 g1 g2 g3 g4 g5 g6 g7 g8 g9 g10 g11 g12 g13 g14 : ac_C} {rest : ac_H} {S Z1 Z2 Z3 : GS} {th : Int32} {fr ah fr1 : Nat → Int32} {R : ac_R} {i k : Nat} (hik : i < k) (hk : k ≤ 64) (y : Int32) (hy : y = S.tm - 1) (m1 : Mt L xs 98 [.ref 15] (MX g0 g1 g2 g3 g4 g5 g6 g7 g8 g9 g10 g11 g12 g13 g14 (tmT y S) (th) (fr) (ah) rest) none (MX g0 g1 g2 g3 g4 g5 g6 g7 g8 g9 g10 g11 g12 g13 g14 (Z1) (th) (fr) (ah) rest) 0 0) (m2 : Mt L xs 93 [.ref 15, .int (nI 1)] (MX g0 g1 g2 g3 g4 g5 g6 g7 g8 g9 g10 g11 g12 g13 g14 (Z1) (th) (fr) (ah) rest) none (MX g0 g1 g2 g3 g4 g5 g6 g7 g8 g9 g10 g11 g12 g13 g14 (Z2) (th) (fr1) (ah) rest) 0 0) (m3 : Mt L xs 92 [.ref 15, .int (nI 1)] (MX g0 g1 g2 g3 g4 g5 g6 g7 g8 g9 g10 g11 g12 g13 g14 (Z2) (th) (fr1) (ah) rest) none (MX g0 g1 g2 g3 g4 g5 g6 g7 g8 g9 g10 g11 g12 g13 g14 (Z3) (th) (fr1) (ah) rest) 0 0) (kk : Ev L xs 105 (54, [.ref 15, .int (nI k), .int (nI (i + 1))], [], (MX g0 g1 g2 g3 g4 g5 g6 g7 g8 g9 g10 g11 g12 g13 g14 (Z3) (th) (fr1) (ah) rest), 0, 0) R) : Ev L xs 105 (54, [.ref 15, .int (nI k), .int (nI i)], [], (MX g0 g1 g2 g3 g4 g5 g6 g7 g8 g9 g10 g11 g12 g13 g14 (S) (th) (fr) (ah) rest), 0, 0) R := by
  iterate 3 (refine ev_step rfl rfl ?_)
  refine ev_f (nI_ge (a := i) (b := k) (by omega) (by omega)) ?_
  iterate 5 (refine ev_step rfl rfl ?_)
  rw [← hy]
  (repeat refine ev_step rfl rfl ?_)
  refine ev_v1 rfl rfl (Nat.le_of_ble_eq_true rfl) (Nat.le_of_ble_eq_true rfl) rfl (m1) ?_
  (repeat refine ev_step rfl rfl ?_)
  refine ev_v2 rfl rfl (Nat.le_of_ble_eq_true rfl) (Nat.le_of_ble_eq_true rfl) rfl (m2) ?_
  (repeat refine ev_step rfl rfl ?_)
  refine ev_v2 rfl rfl (Nat.le_of_ble_eq_true rfl) (Nat.le_of_ble_eq_true rfl) rfl (m3) ?_
  iterate 2 (refine ev_step rfl rfl ?_)
  rw [nI_1]
  exact kk
theorem kback_it {L : Nat} {xs : Nat → Int32} {g0 g1 g2 g3 g4 g5 g6 g7 g8 g9 g10 g11 g12 g13 g14 : ac_C} {rest : ac_H} {k : Nat} (hk : k ≤ 64) : ∀ (n i : Nat) (S : GS) (fr ah : Nat → Int32), i + n = k → Inv S → frOk S fr → ∃ fr' ah', frOk (itS bwS n S) fr' ∧ Ev L xs 105 (54, [.ref 15, .int (nI k), .int (nI i)], [], (MX g0 g1 g2 g3 g4 g5 g6 g7 g8 g9 g10 g11 g12 g13 g14 (S) (0) (fr) (ah) rest), 0, 0) (.inl (some (.int (itS bwS n S).tm)), (MX g0 g1 g2 g3 g4 g5 g6 g7 g8 g9 g10 g11 g12 g13 g14 (itS bwS n S) (0) (fr') (ah') rest), 0, 0) := by
  intro n
  induction n with
  | zero =>
    intro i S fr ah hi h hf
    refine ⟨fr, ah, hf, ?_⟩
    have e : i = k := by omega
    subst e
    (repeat refine ev_step rfl rfl ?_)
    refine ev_t (nI_le (Nat.le_refl i) (by omega)) ?_
    (repeat refine ev_step rfl rfl ?_)
    exact ev_r1 rfl
  | succ n ih =>
    intro i S fr ah hi h hf
    have ht := inv_tmT (S.tm + -1) h
    have m1 := km_eg (L := L) (xs := xs) (g0 := g0) (g1 := g1) (g2 := g2) (g3 := g3) (g4 := g4) (g5 := g5) (g6 := g6) (g7 := g7) (g8 := g8) (g9 := g9) (g10 := g10) (g11 := g11) (g12 := g12) (g13 := g13) (g14 := g14) (rest := rest) (th := 0) (fr := fr) (ah := ah) ht
    obtain ⟨fr1, hf1, m2⟩ := km_fl (L := L) (xs := xs) (g0 := g0) (g1 := g1) (g2 := g2) (g3 := g3) (g4 := g4) (g5 := g5) (g6 := g6) (g7 := g7) (g8 := g8) (g9 := g9) (g10 := g10) (g11 := g11) (g12 := g12) (g13 := g13) (g14 := g14) (rest := rest) (th := 0) (fr := fr) (ah := ah) (bk0 := 1) (by decide) (inv_eg ht) (fr_tm _ hf)
    have m3 := km_me (L := L) (xs := xs) (g0 := g0) (g1 := g1) (g2 := g2) (g3 := g3) (g4 := g4) (g5 := g5) (g6 := g6) (g7 := g7) (g8 := g8) (g9 := g9) (g10 := g10) (g11 := g11) (g12 := g12) (g13 := g13) (g14 := g14) (rest := rest) (th := 0) (fr := fr1) (ah := ah) (bk0 := 1) (by decide) (inv_fl 3 (inv_eg ht))
    obtain ⟨fr2, ah2, hf2, m5⟩ := ih (i + 1) (bwS S) fr1 ah (by omega) (inv_bw h) (fr_bw (S.tm + -1) hf1)
    rw [itS_s]
    generalize itS bwS n (bwS S) = Z9 at hf2 m5 ⊢
    exact ⟨fr2, ah2, hf2, kbw (by omega) hk (S.tm + -1) (Int32.sub_eq_add_neg ..).symm m1 m2 m3 m5⟩
theorem ow_iff {ed : Nat → Int32} : ∀ n c, owF ed n c = true ↔ ∀ j, c ≤ j → j < c + n → (ed j = 0 ∨ ed j = 1) := by
  intro n
  induction n with
  | zero => intro c; exact ⟨fun _ j h1 h2 => by omega, fun _ => rfl⟩
  | succ n ih =>
    intro c
    rw [owF, Bool.and_eq_true, ih, Bool.or_eq_true, decide_eq_true_eq, decide_eq_true_eq]
    constructor
    · rintro ⟨h1, h2⟩ j a b
      by_cases e : j = c
      · subst e; exact h1
      · exact h2 j (by omega) (by omega)
    · intro h
      exact ⟨h c (Nat.le_refl _) (by omega), fun j a b => h j (by omega) (by omega)⟩
theorem ow_cnt {n : Nat} {ed : Nat → Int32} (hed : edOk n ed) : owF ed n 0 = true ↔ (fl (fun c => decide (ed c = 2)) n).length + (fl (fun c => decide (ed c = 3)) n).length + (fl (fun c => decide (ed c = 4)) n).length = 0 := by
  rw [ow_iff]
  constructor
  · intro h
    have g : ∀ s : Int32, ¬ s = 0 → ¬ s = 1 → (fl (fun c => decide (ed c = s)) n).length = 0 := fun s h0 h1 => ct_0.mpr (fun j hj e => (h j (Nat.zero_le _) (by omega)).elim (fun q => h0 (e.symm.trans q)) (fun q => h1 (e.symm.trans q)))
    rw [g 2 (by decide) (by decide), g 3 (by decide) (by decide), g 4 (by decide) (by decide)]
  · intro h j _ hj
    obtain ⟨s, hs, e⟩ := hed j (by omega)
    have n2 := ct_0.mp (show (fl (fun c => decide (ed c = 2)) n).length = 0 by omega) j (by omega)
    have n3 := ct_0.mp (show (fl (fun c => decide (ed c = 3)) n).length = 0 by omega) j (by omega)
    have n4 := ct_0.mp (show (fl (fun c => decide (ed c = 4)) n).length = 0 by omega) j (by omega)
    have hs' : s = 0 ∨ s = 1 ∨ s = 2 ∨ s = 3 ∨ s = 4 := by omega
    rcases hs' with rfl | rfl | rfl | rfl | rfl
    · exact Or.inl e
    · exact Or.inr e
    · exact absurd e n2
    · exact absurd e n3
    · exact absurd e n4
theorem km_back {L : Nat} {xs : Nat → Int32} {g0 g1 g2 g3 g4 g5 g6 g7 g8 g9 g10 g11 g12 g13 g14 : ac_C} {rest : ac_H} {S : GS} {th : Int32} {fr ah : Nat → Int32} {k : Nat} (hk : k ≤ 64) (h : Inv S) (hf : frOk S fr) (ho : owF S.ed (S.w * S.q) 0 = true) : ∃ fr' ah', frOk (itS bwS k S) fr' ∧ Mt L xs 105 [.ref 15, .int (nI k)] (MX g0 g1 g2 g3 g4 g5 g6 g7 g8 g9 g10 g11 g12 g13 g14 (S) (th) (fr) (ah) rest) (some (.int (itS bwS k S).tm)) (MX g0 g1 g2 g3 g4 g5 g6 g7 g8 g9 g10 g11 g12 g13 g14 (itS bwS k S) (0) (fr') (ah') rest) 0 0 := by
  obtain ⟨fr', ah', h1, m⟩ := kback_it (L := L) (xs := xs) (g0 := g0) (g1 := g1) (g2 := g2) (g3 := g3) (g4 := g4) (g5 := g5) (g6 := g6) (g7 := g7) (g8 := g8) (g9 := g9) (g10 := g10) (g11 := g11) (g12 := g12) (g13 := g13) (g14 := g14) (rest := rest) hk k 0 S fr ah (Nat.zero_add _) h hf
  refine ⟨fr', ah', h1, ?_⟩
  generalize itS bwS k S = Z9 at m ⊢
  have hc := (ow_cnt h.ed).mp ho
  show Ev L xs 105 (0, [.ref 15, .int (nI k), ac_un], [], _, 0, 0) _
  (repeat refine ev_step rfl rfl ?_)
  refine ev_f (nI_pos (by omega)) ?_
  (repeat refine ev_step rfl rfl ?_)
  refine ev_t (nI_le (a := k) (b := 64) hk (by decide)) ?_
  (repeat refine ev_step rfl rfl ?_)
  refine ev_i2 rfl rfl (Nat.le_of_ble_eq_true rfl) (Nat.le_of_ble_eq_true rfl) rfl (mm_countOf h.hw h.hq) ?_
  (repeat refine ev_step rfl rfl ?_)
  refine ev_i2 rfl rfl (Nat.le_of_ble_eq_true rfl) (Nat.le_of_ble_eq_true rfl) rfl (mm_countOf h.hw h.hq) ?_
  (repeat refine ev_step rfl rfl ?_)
  refine ev_i2 rfl rfl (Nat.le_of_ble_eq_true rfl) (Nat.le_of_ble_eq_true rfl) rfl (mm_countOf h.hw h.hq) ?_
  iterate 1 (refine ev_step rfl rfl ?_)
  rw [nI_add, nI_add, hc]
  iterate 8 (refine ev_step rfl rfl ?_)
  exact m
theorem km_back1 {L : Nat} {xs : Nat → Int32} {g0 g1 g2 g3 g4 g5 g6 g7 g8 g9 g10 g11 g12 g13 g14 : ac_C} {th : Int32} {w q : Nat} {tm sd : Int32} {bi ed ra fr ah bk : Nat → Int32} {wt gp gq mv : Int32} {cn : Nat} {mc mk : Nat → Int32} {rest : ac_H} {v : Int32} (h : v < 0 ∨ ¬ v ≤ 64) : Mt L xs 105 [.ref 15, .int v] (MH g0 g1 g2 g3 g4 g5 g6 g7 g8 g9 g10 g11 g12 g13 g14 th w q tm sd bi ed ra fr ah bk wt gp gq mv cn mc mk rest) (some (.int 0)) (MH g0 g1 g2 g3 g4 g5 g6 g7 g8 g9 g10 g11 g12 g13 g14 (1) w q tm sd bi ed ra fr ah bk wt gp gq mv cn mc mk rest) 0 0 := by
  show Ev L xs 105 (0, [.ref 15, .int v, ac_un], [], _, 0, 0) _
  (repeat refine ev_step rfl rfl ?_)
  refine ev_br (fun _ => by (repeat refine ev_step rfl rfl ?_); exact ev_r1 rfl) (fun h1 => ?_)
  (repeat refine ev_step rfl rfl ?_)
  refine ev_f (fun h2 => h.elim h1 (fun z => z h2)) ?_
  (repeat refine ev_step rfl rfl ?_)
  exact ev_r1 rfl
theorem km_back2 {L : Nat} {xs : Nat → Int32} {g0 g1 g2 g3 g4 g5 g6 g7 g8 g9 g10 g11 g12 g13 g14 : ac_C} {th : Int32} {w q : Nat} {tm sd : Int32} {bi ed ra fr ah bk : Nat → Int32} {wt gp gq mv : Int32} {cn : Nat} {mc mk : Nat → Int32} {rest : ac_H} {v : Int32} (hw : sideOk w) (hq : sideOk q) (hed : edOk (w * q) ed) (h1 : ¬ v < 0) (h2 : v ≤ 64) (ho : owF ed (w * q) 0 = false) : Mt L xs 105 [.ref 15, .int v] (MH g0 g1 g2 g3 g4 g5 g6 g7 g8 g9 g10 g11 g12 g13 g14 th w q tm sd bi ed ra fr ah bk wt gp gq mv cn mc mk rest) (some (.int 0)) (MH g0 g1 g2 g3 g4 g5 g6 g7 g8 g9 g10 g11 g12 g13 g14 (2) w q tm sd bi ed ra fr ah bk wt gp gq mv cn mc mk rest) 0 0 := by
  have hn := side_n hw hq
  have hc : ¬ (fl (fun c => decide (ed c = 2)) (w * q)).length + (fl (fun c => decide (ed c = 3)) (w * q)).length + (fl (fun c => decide (ed c = 4)) (w * q)).length = 0 := fun q => by rw [(ow_cnt hed).mpr q] at ho; cases ho
  have l2 := fl_len (fun c => decide (ed c = 2)) (w * q)
  have l3 := fl_len (fun c => decide (ed c = 3)) (w * q)
  have l4 := fl_len (fun c => decide (ed c = 4)) (w * q)
  show Ev L xs 105 (0, [.ref 15, .int v, ac_un], [], _, 0, 0) _
  (repeat refine ev_step rfl rfl ?_)
  refine ev_f h1 ?_
  (repeat refine ev_step rfl rfl ?_)
  refine ev_t h2 ?_
  (repeat refine ev_step rfl rfl ?_)
  refine ev_i2 rfl rfl (Nat.le_of_ble_eq_true rfl) (Nat.le_of_ble_eq_true rfl) rfl (mm_countOf hw hq) ?_
  (repeat refine ev_step rfl rfl ?_)
  refine ev_i2 rfl rfl (Nat.le_of_ble_eq_true rfl) (Nat.le_of_ble_eq_true rfl) rfl (mm_countOf hw hq) ?_
  (repeat refine ev_step rfl rfl ?_)
  refine ev_i2 rfl rfl (Nat.le_of_ble_eq_true rfl) (Nat.le_of_ble_eq_true rfl) rfl (mm_countOf hw hq) ?_
  iterate 1 (refine ev_step rfl rfl ?_)
  rw [nI_add, nI_add]
  iterate 1 (refine ev_step rfl rfl ?_)
  refine ev_f (nI_nle (by omega) (by omega)) ?_
  (repeat refine ev_step rfl rfl ?_)
  exact ev_r1 rfl
