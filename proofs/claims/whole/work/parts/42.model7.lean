/-! ===== the plain form: all edges ===== -/
theorem mkU_skip {n c cn : Nat} {mc mk mm : Nat → Int32} {kk : Nat → Int32} (hn : n ≤ 256) (hc : c < n) (hok : mkOk n cn mc kk) (h : ∀ j, j < cn → mc j = nI c → mm j = mk j) : mkU (c + 1) cn mc mk mm = mkU c cn mc mk mm := by
  funext j
  by_cases hj : j < cn
  · unfold mkU
    rcases (hok j hj).1 with e | ⟨c', hc', e⟩
    · rw [if_neg (fun q => q.2.1 e), if_neg (fun q => q.2.1 e)]
    · have hm : mc j ≠ -1 := fun q => nI_m1 (c := c') (by omega) (e.symm.trans q)
      by_cases h1 : c' = c
      · subst h1
        rw [if_neg (c := j < cn ∧ mc j ≠ -1 ∧ (mc j).toNatClampNeg < c') (fun q => by have := q.2.2; rw [e, nI_clamp (by omega)] at this; omega), if_pos ⟨hj, hm, by rw [e, nI_clamp (by omega)]; omega⟩]
        exact h j hj e
      · by_cases h2 : c' < c
        · rw [if_pos ⟨hj, hm, by rw [e, nI_clamp (by omega)]; omega⟩, if_pos ⟨hj, hm, by rw [e, nI_clamp (by omega)]; omega⟩]
        · rw [if_neg (fun q => by have := q.2.2; rw [e, nI_clamp (by omega)] at this; omega), if_neg (fun q => by have := q.2.2; rw [e, nI_clamp (by omega)] at this; omega)]
  · rw [mkU_out hj, mkU_out hj]
theorem mkU_put {n c cn : Nat} {mc mk mm F : Nat → Int32} {kk : Nat → Int32} (hn : n ≤ 256) (hc : c < n) (hok : mkOk n cn mc kk) (h1 : ∀ j, j < cn → mc j = nI c → F j = mm j) (h2 : ∀ j, j < cn → mc j ≠ nI c → F j = mkU c cn mc mk mm j) : pre cn F (mkU c cn mc mk mm) = mkU (c + 1) cn mc mk mm := by
  funext j
  unfold pre
  by_cases hj : j < cn
  · rw [if_pos hj]
    rcases (hok j hj).1 with e | ⟨c', hc', e⟩
    · rw [h2 j hj (fun q => nI_m1 (c := c) (by omega) (q.symm.trans e))]
      unfold mkU
      rw [if_neg (fun q => q.2.1 e), if_neg (fun q => q.2.1 e)]
    · have hm : mc j ≠ -1 := fun q => nI_m1 (c := c') (by omega) (e.symm.trans q)
      by_cases h3 : c' = c
      · subst h3
        rw [h1 j hj e]
        unfold mkU
        rw [if_pos ⟨hj, hm, by rw [e, nI_clamp (by omega)]; omega⟩]
      · rw [h2 j hj (fun q => h3 ((nI_eq (by omega) (by omega)).mp (e.symm.trans q)))]
        unfold mkU
        by_cases h4 : c' < c
        · rw [if_pos ⟨hj, hm, by rw [e, nI_clamp (by omega)]; omega⟩, if_pos ⟨hj, hm, by rw [e, nI_clamp (by omega)]; omega⟩]
        · rw [if_neg (fun q => by have := q.2.2; rw [e, nI_clamp (by omega)] at this; omega), if_neg (fun q => by have := q.2.2; rw [e, nI_clamp (by omega)] at this; omega)]
  · rw [if_neg hj, mkU_out hj, mkU_out hj]
theorem mkU_end {n cn : Nat} {mc mk mm : Nat → Int32} {kk : Nat → Int32} (hn : n ≤ 256) (hok : mkOk n cn mc kk) (h : ∀ j, j < cn → mc j = -1 → mm j = mk j) : mkU n cn mc mk mm = pre cn mm mk := by
  funext j
  unfold mkU pre
  by_cases hj : j < cn
  · rw [if_pos hj]
    rcases (hok j hj).1 with e | ⟨c, hc, e⟩
    · rw [if_neg (fun q => q.2.1 e)]
      exact (h j hj e).symm
    · rw [if_pos ⟨hj, fun q => nI_m1 (c := c) (by omega) (e.symm.trans q), by rw [e, nI_clamp (by omega)]; exact hc⟩]
  · rw [if_neg hj, if_neg (fun q => hj q.1)]
theorem mkU_0 {cn : Nat} {mc mk mm : Nat → Int32} : mkU 0 cn mc mk mm = mk := by
  funext j
  unfold mkU
  rw [if_neg (fun q => Nat.not_lt_zero _ q.2.2)]
/-- a mark is on c then as before -/
theorem mcU_iff {n c cn j : Nat} {ed mc kk : Nat → Int32} (hn : n ≤ 256) (hc : c < n) (hok : mkOk n cn mc kk) (hj : j < cn) : mkU c cn mc mc (peC ed mc) j = nI c ↔ mc j = nI c := by
  constructor
  · intro h
    unfold mkU at h
    split at h
    · rename_i q
      unfold peC at h
      rw [if_neg q.2.1] at h
      split at h
      · exact absurd h.symm (nI_m1 (by omega))
      · exact h
    · exact h
  · intro h
    rw [mkU_at (by omega) h]
    exact h
theorem mkV_ok {n c cn : Nat} {ed mc mk : Nat → Int32} (hn : n ≤ 256) (hok : mkOk n cn mc mk) (hed : edOk n ed) : ∀ j, j < cn → ∃ κ, κ < 7 ∧ mkU c cn mc mk (peK ed mc mk) j = nI κ := by
  intro j hj
  obtain ⟨κ, hκ, hk⟩ := (hok j hj).2
  unfold mkU
  split
  · rename_i q
    obtain ⟨c', hc', e⟩ := (hok j hj).1.resolve_left q.2.1
    obtain ⟨s, hs, he⟩ := hed c' hc'
    rw [pek_eq hn hc' hκ hs e hk he]
    refine ⟨_, ?_, rfl⟩
    split <;> omega
  · exact ⟨κ, hκ, hk⟩
theorem medges_it {L : Nat} {xs : Nat → Int32} {g0 g1 g2 g3 g4 g5 g6 g7 g8 g9 g10 g11 g12 g13 g14 : ac_C} {th : Int32} {w q : Nat} {tm sd : Int32} {bi ed ra fr ah bk : Nat → Int32} {wt gp gq mv : Int32} {cn : Nat} {mc mk : Nat → Int32} {rest : ac_H} (hw : sideOk w) (hq : sideOk q) (hed : edOk (w * q) ed) (hcn : cn ≤ 4) (hok : mkOk (w * q) cn mc mk) : ∀ (n c : Nat) (X : E5), c + n = w * q → btOk (w * q) X.1 → Ev L xs 98 (2, [.ref 15, .int (nI c)], [], (MH g0 g1 g2 g3 g4 g5 g6 g7 g8 g9 g10 g11 g12 g13 g14 th w q tm (X.2.2.2.2) (X.1) ed ra fr ah (X.2.1) wt (X.2.2.1) (X.2.2.2.1) mv cn (mkU c cn mc mc (peC ed mc)) (mkU c cn mc mk (peK ed mc mk)) rest), 0, 0) (.inl none, (MH g0 g1 g2 g3 g4 g5 g6 g7 g8 g9 g10 g11 g12 g13 g14 th w q tm ((egF ed ra n c X).2.2.2.2) ((egF ed ra n c X).1) ed ra fr ah ((egF ed ra n c X).2.1) wt ((egF ed ra n c X).2.2.1) ((egF ed ra n c X).2.2.2.1) mv cn (mkU (w * q) cn mc mc (peC ed mc)) (mkU (w * q) cn mc mk (peK ed mc mk)) rest), 0, 0) := by
  have hn := side_n hw hq
  intro n
  induction n with
  | zero =>
    intro c X hc hX
    have e : c = w * q := by omega
    rw [e]
    (repeat refine ev_step rfl rfl ?_)
    rw [nI_mul]
    refine ev_t (nI_le (Nat.le_refl _) (by omega)) ?_
    exact ev_r0 rfl
  | succ n ih =>
    intro c X hc hX
    have hc1 : c < w * q := by omega
    have hc2 : c < 256 := by omega
    obtain ⟨β, hβ, hb⟩ := hX c hc1
    obtain ⟨s, hs, he⟩ := hed c hc1
    have ih1 := ih (c + 1) (egC ed ra c X) (by omega) (egC_ok hX)
    rw [egF]
    obtain ⟨b0, k0, p0, q0, s0⟩ := X
    dsimp only at hb ⊢
    unfold egC at ih1 ⊢
    dsimp only at ih1 ⊢
    have e1 : nI s = 1 ↔ s = 1 := nI_eq (b := 1) (by omega) (by decide)
    have e2 : nI s = 2 ↔ s = 2 := nI_eq (b := 2) (by omega) (by decide)
    have e3 : nI s = 3 ↔ s = 3 := nI_eq (b := 3) (by omega) (by decide)
    have e4 : nI s = 4 ↔ s = 4 := nI_eq (b := 4) (by omega) (by decide)
    have eC : ∀ j, j < cn → mc j = nI c → peC ed mc j = if s = 3 then -1 else mc j := fun j hj e => by
      unfold peC
      rw [if_neg (fun q => nI_m1 (c := c) (by omega) (e.symm.trans q)), e, nI_clamp (by omega), he]
      by_cases h3 : s = 3
      · rw [if_pos h3, if_pos (e3.mpr h3)]
      · rw [if_neg h3, if_neg (mt e3.mp h3)]
    have eK : ∀ j, j < cn → mc j = nI c → peK ed mc mk j = if (s = 1 ∨ s = 4) ∧ ¬ 6 ≤ mk j then nI (((mk j).toNatClampNeg + 3) % 6) else mk j := fun j hj e => by
      unfold peK
      rw [if_neg (fun q => nI_m1 (c := c) (by omega) (e.symm.trans q)), e, nI_clamp (by omega), he]
      by_cases h3 : (s = 1 ∨ s = 4) ∧ ¬ 6 ≤ mk j
      · rw [if_pos h3, if_pos ⟨h3.1.imp e1.mpr e4.mpr, h3.2⟩]
      · rw [if_neg h3, if_neg (fun q => h3 ⟨q.1.imp e1.mp e4.mp, q.2⟩)]
    have cS : s ≠ 3 → mkU (c + 1) cn mc mc (peC ed mc) = mkU c cn mc mc (peC ed mc) := fun h3 => mkU_skip hn.1 hc1 hok (fun j hj e => by rw [eC j hj e, if_neg h3])
    have kS : ¬ (s = 1 ∨ s = 4) → mkU (c + 1) cn mc mk (peK ed mc mk) = mkU c cn mc mk (peK ed mc mk) := fun h3 => mkU_skip hn.1 hc1 hok (fun j hj e => by rw [eK j hj e, if_neg (fun q => h3 q.1)])
    (repeat refine ev_step rfl rfl ?_)
    rw [nI_mul]
    refine ev_f (nI_ge (a := c) (b := w * q) (by omega) (by omega)) ?_
    (repeat refine ev_step rfl rfl ?_)
    refine ev_ia rfl rfl (c) (rfl) (by omega) (by omega) ?_
    rw [he]
    rw [he, hb, nI_clamp (by omega), nI_clamp (by omega)] at ih1
    have mirr : ∀ (hs14 : s = 1 ∨ s = 4), Ev L xs 98 (35, [.ref 15, .int (nI c)], [], (MH g0 g1 g2 g3 g4 g5 g6 g7 g8 g9 g10 g11 g12 g13 g14 th w q tm (s0) (b0) ed ra fr ah (k0) wt (p0) (q0) mv cn (mkU c cn mc mc (peC ed mc)) (mkU c cn mc mk (peK ed mc mk)) rest), 0, 0) (.inl none, (MH g0 g1 g2 g3 g4 g5 g6 g7 g8 g9 g10 g11 g12 g13 g14 th w q tm ((egF ed ra n (c + 1) (if nI s = 0 then (b0, k0, p0, q0, s0) else (upd b0 c (nI (alN s (ra c) β s0)), bkF k0 (s - 1) (alN s (ra c) β s0) β, (if s = 4 then p0 - (amI (alN s (ra c) β s0) 1 - amI β 1) else p0), (if s = 4 then q0 - (amI (alN s (ra c) β s0) 2 - amI β 2) else q0), (if s = 2 then sdI 7 s0 else s0)))).2.2.2.2) ((egF ed ra n (c + 1) (if nI s = 0 then (b0, k0, p0, q0, s0) else (upd b0 c (nI (alN s (ra c) β s0)), bkF k0 (s - 1) (alN s (ra c) β s0) β, (if s = 4 then p0 - (amI (alN s (ra c) β s0) 1 - amI β 1) else p0), (if s = 4 then q0 - (amI (alN s (ra c) β s0) 2 - amI β 2) else q0), (if s = 2 then sdI 7 s0 else s0)))).1) ed ra fr ah ((egF ed ra n (c + 1) (if nI s = 0 then (b0, k0, p0, q0, s0) else (upd b0 c (nI (alN s (ra c) β s0)), bkF k0 (s - 1) (alN s (ra c) β s0) β, (if s = 4 then p0 - (amI (alN s (ra c) β s0) 1 - amI β 1) else p0), (if s = 4 then q0 - (amI (alN s (ra c) β s0) 2 - amI β 2) else q0), (if s = 2 then sdI 7 s0 else s0)))).2.1) wt ((egF ed ra n (c + 1) (if nI s = 0 then (b0, k0, p0, q0, s0) else (upd b0 c (nI (alN s (ra c) β s0)), bkF k0 (s - 1) (alN s (ra c) β s0) β, (if s = 4 then p0 - (amI (alN s (ra c) β s0) 1 - amI β 1) else p0), (if s = 4 then q0 - (amI (alN s (ra c) β s0) 2 - amI β 2) else q0), (if s = 2 then sdI 7 s0 else s0)))).2.2.1) ((egF ed ra n (c + 1) (if nI s = 0 then (b0, k0, p0, q0, s0) else (upd b0 c (nI (alN s (ra c) β s0)), bkF k0 (s - 1) (alN s (ra c) β s0) β, (if s = 4 then p0 - (amI (alN s (ra c) β s0) 1 - amI β 1) else p0), (if s = 4 then q0 - (amI (alN s (ra c) β s0) 2 - amI β 2) else q0), (if s = 2 then sdI 7 s0 else s0)))).2.2.2.1) mv cn (mkU (w * q) cn mc mc (peC ed mc)) (mkU (w * q) cn mc mk (peK ed mc mk)) rest), 0, 0) := fun hs14 => by
      have z0 : ¬ nI s = 0 := nI_ne0 (by omega) (by omega)
      have ea : alN s (ra c) β s0 = rtN β 3 := by
        unfold alN
        rw [if_neg (by omega), if_neg (by omega)]
      rw [if_neg z0, ea, if_neg (show ¬ s = 2 by omega)] at ih1 ⊢
      dsimp only at ih1
      have em : pre cn (miF c (mkU c cn mc mc (peC ed mc)) (mkU c cn mc mk (peK ed mc mk))) (mkU c cn mc mk (peK ed mc mk)) = mkU (c + 1) cn mc mk (peK ed mc mk) := mkU_put hn.1 hc1 hok (fun j hj e => by
        unfold miF
        rw [mkU_at (mk := mk) (by omega) e, eK j hj e]
        have ec : mkU c cn mc mc (peC ed mc) j = nI c := (mcU_iff hn.1 hc1 hok hj).mpr e
        by_cases h6 : 6 ≤ mk j
        · rw [if_neg (fun q => q.2 h6), if_neg (fun q => q.2 h6)]
        · rw [if_pos ⟨ec, h6⟩, if_pos ⟨hs14, h6⟩]) (fun j hj e => by
        unfold miF
        rw [if_neg (fun q => e ((mcU_iff hn.1 hc1 hok hj).mp q.1))])
      rw [cS (by omega), ← em] at ih1
      (repeat refine ev_step rfl rfl ?_)
      refine ev_v2 rfl rfl (Nat.le_of_ble_eq_true rfl) (Nat.le_of_ble_eq_true rfl) rfl (mm_mirror hc2 hβ hb he hs (by omega) hcn (mkV_ok hn.1 hok hed)) ?_
      iterate 3 (refine ev_step rfl rfl ?_)
      rw [nI_1]
      exact ih1
    rw [hb, nI_clamp (n := s) (by omega), nI_clamp (n := β) (by omega)]
    iterate 2 (refine ev_step rfl rfl ?_)
    refine ev_br (fun z => mirr (Or.inl (e1.mp z))) (fun z1 => ?_)
    (repeat refine ev_step rfl rfl ?_)
    refine ev_ia rfl rfl (c) (rfl) (by omega) (by omega) ?_
    rw [he]
    iterate 2 (refine ev_step rfl rfl ?_)
    refine ev_br (fun z => mirr (Or.inr (e4.mp z))) (fun z4 => ?_)
    have n1 : s ≠ 1 := mt e1.mpr z1
    have n4 : s ≠ 4 := mt e4.mpr z4
    rw [kS (fun q => q.elim n1 n4)] at ih1
    (repeat refine ev_step rfl rfl ?_)
    refine ev_ia rfl rfl (c) (rfl) (by omega) (by omega) ?_
    rw [he]
    iterate 2 (refine ev_step rfl rfl ?_)
    refine ev_br (fun z => ?_) (fun z2 => ?_)
    · have z2 : s = 2 := e2.mp z
      have z0 : ¬ nI s = 0 := nI_ne0 (by omega) (by omega)
      have ea : alN s (ra c) β s0 = fdN (ra c) 7 0 β s0 := by
        unfold alN
        rw [if_neg (by omega), if_pos z2]
      rw [if_neg z0, ea, if_pos z2, if_neg n4, if_neg n4] at ih1 ⊢
      dsimp only at ih1
      rw [cS (by omega), show s - 1 = 1 by omega] at ih1
      rw [show s - 1 = 1 by omega]
      (repeat refine ev_step rfl rfl ?_)
      refine ev_v2 rfl rfl (Nat.le_of_ble_eq_true rfl) (Nat.le_of_ble_eq_true rfl) rfl (mm_pour hc2 hβ hb) ?_
      iterate 3 (refine ev_step rfl rfl ?_)
      rw [nI_1]
      exact ih1
    · have n2 : s ≠ 2 := mt e2.mpr z2
      (repeat refine ev_step rfl rfl ?_)
      refine ev_ia rfl rfl (c) (rfl) (by omega) (by omega) ?_
      rw [he]
      iterate 2 (refine ev_step rfl rfl ?_)
      refine ev_br (fun z => ?_) (fun z3 => ?_)
      · have z3 : s = 3 := e3.mp z
        have z0 : ¬ nI s = 0 := nI_ne0 (by omega) (by omega)
        have ea : alN s (ra c) β s0 = 0 := if_pos z3
        rw [if_neg z0, ea, if_neg n2, if_neg n4, if_neg n4] at ih1 ⊢
        dsimp only at ih1
        have em : pre cn (loF (nI c) (mkU c cn mc mc (peC ed mc))) (mkU c cn mc mc (peC ed mc)) = mkU (c + 1) cn mc mc (peC ed mc) := mkU_put hn.1 hc1 hok (fun j hj e => by
          unfold loF
          rw [if_pos ((mcU_iff hn.1 hc1 hok hj).mpr e), eC j hj e, if_pos z3]) (fun j hj e => by
          unfold loF
          rw [if_neg (fun q => e ((mcU_iff hn.1 hc1 hok hj).mp q))])
        rw [← em, show s - 1 = 2 by omega] at ih1
        rw [show s - 1 = 2 by omega]
        (repeat refine ev_step rfl rfl ?_)
        refine ev_v2 rfl rfl (Nat.le_of_ble_eq_true rfl) (Nat.le_of_ble_eq_true rfl) rfl (mm_drain hc2 hβ hb hcn) ?_
        iterate 2 (refine ev_step rfl rfl ?_)
        rw [nI_1]
        exact ih1
      · have n3 : s ≠ 3 := mt e3.mpr z3
        have z0 : s = 0 := by omega
        rw [if_pos (show nI s = 0 by rw [z0]; rfl)] at ih1 ⊢
        rw [cS n3] at ih1
        iterate 2 (refine ev_step rfl rfl ?_)
        rw [nI_1]
        exact ih1
theorem mm_edges {L : Nat} {xs : Nat → Int32} {g0 g1 g2 g3 g4 g5 g6 g7 g8 g9 g10 g11 g12 g13 g14 : ac_C} {th : Int32} {w q : Nat} {tm sd : Int32} {bi ed ra fr ah bk : Nat → Int32} {wt gp gq mv : Int32} {cn : Nat} {mc mk : Nat → Int32} {rest : ac_H} (hw : sideOk w) (hq : sideOk q) (hed : edOk (w * q) ed) (hcn : cn ≤ 4) (hok : mkOk (w * q) cn mc mk) (hbt : btOk (w * q) bi) {X : E5} (hX : egF ed ra (w * q) 0 (bi, bk, gp, gq, sd) = X) : Mt L xs 98 [.ref 15] (MH g0 g1 g2 g3 g4 g5 g6 g7 g8 g9 g10 g11 g12 g13 g14 th w q tm sd bi ed ra fr ah bk wt gp gq mv cn mc mk rest) none (MH g0 g1 g2 g3 g4 g5 g6 g7 g8 g9 g10 g11 g12 g13 g14 th w q tm (X.2.2.2.2) (X.1) ed ra fr ah (X.2.1) wt (X.2.2.1) (X.2.2.2.1) mv cn (pre cn (peC ed mc) mc) (pre cn (peK ed mc mk) mk) rest) 0 0 := by
  have hn := side_n hw hq
  have h := medges_it (L := L) (xs := xs) (g0 := g0) (g1 := g1) (g2 := g2) (g3 := g3) (g4 := g4) (g5 := g5) (g6 := g6) (g7 := g7) (g8 := g8) (g9 := g9) (g10 := g10) (g11 := g11) (g12 := g12) (g13 := g13) (g14 := g14) (th := th) (w := w) (q := q) (tm := tm) (ed := ed) (ra := ra) (fr := fr) (ah := ah) (wt := wt) (mv := mv) (cn := cn) (mc := mc) (mk := mk) (rest := rest) (bi := bi) (bk := bk) (gp := gp) (gq := gq) (sd := sd) hw hq hed hcn hok (w * q) 0 (bi, bk, gp, gq, sd) (Nat.zero_add _) hbt
  rw [hX, mkU_0, mkU_0, mkU_end (mm := peC ed mc) hn.1 hok (fun j _ e => if_pos e), mkU_end (mm := peK ed mc mk) hn.1 hok (fun j _ e => if_pos e)] at h
  show Ev L xs 98 (0, [.ref 15, ac_un], [], _, 0, 0) _
  iterate 2 (refine ev_step rfl rfl ?_)
  exact h
