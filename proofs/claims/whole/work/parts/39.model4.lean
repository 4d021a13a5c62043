/-! ===== the plain form: flight ===== -/
theorem mt_has {L : Nat} {xs : Nat → Int32} {b k : Nat} (hb : b < 128) (hk : k < 7) (H : ac_H) : Mt L xs 70 [.int (nI b), .int (nI k)] H (some (.int (bI (b.testBit k)))) H 0 0 := pu_mt (by decide) (tr_has b hb k hk) H
theorem mfly_a {L : Nat} {xs : Nat → Int32} {g0 g1 g2 g3 g4 g5 g6 g7 g8 g9 g10 g11 g12 g13 g14 : ac_C} {th : Int32} {w q : Nat} {tm sd : Int32} {bi ed ra fr ah bk : Nat → Int32} {wt gp gq mv : Int32} {cn : Nat} {mc mk : Nat → Int32} {rest : ac_H} {R : ac_R} {bk0 : Int32} {u3 u4 : Value} (hw : sideOk w) (hq : sideOk q) (kk : Ev L xs 93 (28, [.ref 15, .int bk0, .int (nI (w * q)), u3, u4], [], (MH g0 g1 g2 g3 g4 g5 g6 g7 g8 g9 g10 g11 g12 g13 g14 th w q tm sd bi ed ra (pre (w * q) (fun _ => 0) fr) ah bk wt gp gq mv cn mc mk rest), 0, 0) R) : ∀ (n c : Nat), c + n = w * q → Ev L xs 93 (2, [.ref 15, .int bk0, .int (nI c), u3, u4], [], (MH g0 g1 g2 g3 g4 g5 g6 g7 g8 g9 g10 g11 g12 g13 g14 th w q tm sd bi ed ra (pre c (fun _ => 0) fr) ah bk wt gp gq mv cn mc mk rest), 0, 0) R := by
  have hn := side_n hw hq
  intro n
  induction n with
  | zero =>
    intro c hc
    have e : c = w * q := by omega
    rw [e]
    (repeat refine ev_step rfl rfl ?_)
    rw [nI_mul]
    refine ev_t (nI_le (Nat.le_refl _) (by omega)) ?_
    exact kk
  | succ n ih =>
    intro c hc
    have ih1 := ih (c + 1) (by omega)
    rw [← pre_put] at ih1
    (repeat refine ev_step rfl rfl ?_)
    rw [nI_mul]
    refine ev_f (nI_ge (a := c) (b := w * q) (by omega) (by omega)) ?_
    (repeat refine ev_step rfl rfl ?_)
    refine ev_is rfl rfl (c) (rfl) (by omega) (by omega) rfl ?_
    iterate 2 (refine ev_step rfl rfl ?_)
    rw [nI_1]
    exact ih1
theorem mfly_b {L : Nat} {xs : Nat → Int32} {g0 g1 g2 g3 g4 g5 g6 g7 g8 g9 g10 g11 g12 g13 g14 : ac_C} {th : Int32} {w q : Nat} {tm sd : Int32} {bi ed ra fr ah bk : Nat → Int32} {wt gp gq mv : Int32} {cn : Nat} {mc mk : Nat → Int32} {rest : ac_H} {R : ac_R} {bk0 : Int32} {Φ : Nat → Nat → Int32} (hw : sideOk w) (hq : sideOk q) (hin : ∀ c u3 u4, c < w * q → (∀ u3 u4, Ev L xs 93 (134, [.ref 15, .int bk0, .int (nI c), u3, u4], [], (MH g0 g1 g2 g3 g4 g5 g6 g7 g8 g9 g10 g11 g12 g13 g14 th w q tm sd bi ed ra (Φ (c + 1)) ah bk wt gp gq mv cn mc mk rest), 0, 0) R) → Ev L xs 93 (43, [.ref 15, .int bk0, .int (nI c), u3, u4], [], (MH g0 g1 g2 g3 g4 g5 g6 g7 g8 g9 g10 g11 g12 g13 g14 th w q tm sd bi ed ra (Φ c) ah bk wt gp gq mv cn mc mk rest), 0, 0) R) (kk : ∀ u3 u4, Ev L xs 93 (140, [.ref 15, .int bk0, .int (nI (w * q)), u3, u4], [], (MH g0 g1 g2 g3 g4 g5 g6 g7 g8 g9 g10 g11 g12 g13 g14 th w q tm sd bi ed ra (Φ (w * q)) ah bk wt gp gq mv cn mc mk rest), 0, 0) R) : ∀ (n c : Nat) (u3 u4 : Value), c + n = w * q → Ev L xs 93 (30, [.ref 15, .int bk0, .int (nI c), u3, u4], [], (MH g0 g1 g2 g3 g4 g5 g6 g7 g8 g9 g10 g11 g12 g13 g14 th w q tm sd bi ed ra (Φ c) ah bk wt gp gq mv cn mc mk rest), 0, 0) R := by
  have hn := side_n hw hq
  intro n
  induction n with
  | zero =>
    intro c u3 u4 hc
    have e : c = w * q := by omega
    rw [e]
    (repeat refine ev_step rfl rfl ?_)
    rw [nI_mul]
    refine ev_t (nI_le (Nat.le_refl _) (by omega)) ?_
    exact kk u3 u4
  | succ n ih =>
    intro c u3 u4 hc
    have ih1 := fun u3 u4 => ih (c + 1) u3 u4 (by omega)
    (repeat refine ev_step rfl rfl ?_)
    rw [nI_mul]
    refine ev_f (nI_ge (a := c) (b := w * q) (by omega) (by omega)) ?_
    refine hin c u3 u4 (by omega) (fun v3 v4 => ?_)
    iterate 2 (refine ev_step rfl rfl ?_)
    rw [nI_1]
    exact ih1 v3 v4
theorem mfly_f {L : Nat} {xs : Nat → Int32} {g0 g1 g2 g3 g4 g5 g6 g7 g8 g9 g10 g11 g12 g13 g14 : ac_C} {th : Int32} {w q : Nat} {tm sd : Int32} {bi ed ra fr ah bk : Nat → Int32} {wt gp gq mv : Int32} {cn : Nat} {mc mk : Nat → Int32} {rest : ac_H} {R : ac_R} {c : Nat} (hw : sideOk w) (hq : sideOk q) (hbt : btOk (w * q) bi) (hc : c < w * q) (kk : ∀ u3 u4, Ev L xs 93 (134, [.ref 15, .int (nI 0), .int (nI c), u3, u4], [], (MH g0 g1 g2 g3 g4 g5 g6 g7 g8 g9 g10 g11 g12 g13 g14 th w q tm sd bi ed ra (scF w q 0 bi (fun a _ => decide (a < c + 1))) ah bk wt gp gq mv cn mc mk rest), 0, 0) R) : ∀ (n k : Nat) (u4 : Value), k + n = 7 → Ev L xs 93 (45, [.ref 15, .int (nI 0), .int (nI c), .int (nI k), u4], [], (MH g0 g1 g2 g3 g4 g5 g6 g7 g8 g9 g10 g11 g12 g13 g14 th w q tm sd bi ed ra (scF w q 0 bi (fun a i => decide (a < c) || (decide (a = c) && decide (i < k)))) ah bk wt gp gq mv cn mc mk rest), 0, 0) R := by
  have hn := side_n hw hq
  obtain ⟨β, hβ, hb⟩ := hbt c hc
  have hB : ∀ i, btB bi c i = β.testBit i := fun i => by unfold btB; rw [hb, nI_clamp (by omega)]
  intro n
  induction n with
  | zero =>
    intro k u4 hk
    have e : k = 7 := by omega
    subst e
    rw [sc_congr (P' := fun a _ => decide (a < c + 1)) hw hq (fun a i _ hi _ => by
      by_cases h : a = c
      · subst h; simp [hi]
      · rw [decide_eq_false h, Bool.false_and, Bool.or_false]
        congr 1
        exact propext ⟨fun _ => by omega, fun _ => by omega⟩)]
    iterate 3 (refine ev_step rfl rfl ?_)
    exact kk _ _
  | succ n ih =>
    intro k u4 hk
    have ih1 := fun u4 => ih (k + 1) u4 (by omega)
    have hd := ds_lt (t := 0) (k := k) hw hq hc
    iterate 3 (refine ev_step rfl rfl ?_)
    refine ev_f (nI_ge (a := k) (b := 7) (by omega) (by decide)) ?_
    (repeat refine ev_step rfl rfl ?_)
    refine ev_i3 rfl rfl (Nat.le_of_ble_eq_true rfl) (Nat.le_of_ble_eq_true rfl) rfl (mm_neighbour hw hq hc (show k < 7 by omega)) ?_
    (repeat refine ev_step rfl rfl ?_)
    refine ev_ia rfl rfl (c) (rfl) (by omega) (by omega) ?_
    rw [hb]
    (repeat refine ev_step rfl rfl ?_)
    refine ev_i2 rfl rfl (Nat.le_of_ble_eq_true rfl) (Nat.le_of_ble_eq_true rfl) rfl (mt_has hβ (show k < 7 by omega) _) ?_
    cases hbit : β.testBit k with
    | false =>
      rw [sc_congr (P' := fun a i => decide (a < c) || (decide (a = c) && decide (i < k))) hw hq (fun a i _ _ hbi => by
        by_cases h : a = c
        · subst h
          have hik : i ≠ k := fun e => by subst e; rw [hB, hbit] at hbi; cases hbi
          have : decide (i < k + 1) = decide (i < k) := by congr 1; exact propext ⟨fun _ => by omega, fun _ => by omega⟩
          rw [this]
        · rw [decide_eq_false h, Bool.false_and, Bool.false_and])] at ih1
      iterate 3 (refine ev_step rfl rfl ?_)
      rw [nI_1]
      exact ih1 _
    | true =>
      have ht := tok (t := 0) (P := fun a i => decide (a < c) || (decide (a = c) && decide (i < k))) hw hq hc (show k < 7 by omega) (by rw [hB]; exact hbit)
      rw [sc_congr (P' := fun a i => decide (a < c) || (decide (a = c) && decide (i < k)) || (decide (a = c) && decide (i = k))) hw hq (fun a i _ _ _ => by
        by_cases h : a = c
        · by_cases hik : i = k
          · subst hik; simp [h]
          · have : decide (i < k + 1) = decide (i < k) := by congr 1; exact propext ⟨fun _ => by omega, fun _ => by omega⟩
            rw [this, decide_eq_false hik, Bool.and_false, Bool.or_false]
        · rw [decide_eq_false h, Bool.false_and, Bool.false_and, Bool.false_and, Bool.or_false, Bool.or_false])] at ih1
      rw [← ht] at ih1
      (repeat refine ev_step rfl rfl ?_)
      refine ev_ia rfl rfl (dsN w q 0 c k) (rfl) (by omega) (by omega) ?_
      (repeat refine ev_step rfl rfl ?_)
      refine ev_is rfl rfl (dsN w q 0 c k) (rfl) (by omega) (by omega) rfl ?_
      iterate 2 (refine ev_step rfl rfl ?_)
      rw [nI_1]
      exact ih1 _
theorem gtU_lt (g : Nat → Bool) {n : Nat} (h : n ≤ 7) : gtU g n < 128 := Nat.lt_pow_two_of_testBit (n := 7) _ (fun i hi => by rw [gtU_bit, decide_eq_false (by omega)]; rfl)
def bcF (w q : Nat) (bi : Nat → Int32) (c : Nat) : Nat → Int32 := fun j => if j < c then scF w q 3 bi (fun _ _ => true) j else 0
theorem sr3_ds (w q c k : Nat) : srN w q 3 c k = dsN w q 0 c k := by
  unfold srN dsN
  split
  · exact nbC_6 w q c k
  · rfl
theorem mfly_g {L : Nat} {xs : Nat → Int32} {g0 g1 g2 g3 g4 g5 g6 g7 g8 g9 g10 g11 g12 g13 g14 : ac_C} {th : Int32} {w q : Nat} {tm sd : Int32} {bi ed ra fr ah bk : Nat → Int32} {wt gp gq mv : Int32} {cn : Nat} {mc mk : Nat → Int32} {rest : ac_H} {R : ac_R} {c : Nat} (hw : sideOk w) (hq : sideOk q) (hbt : btOk (w * q) bi) (hc : c < w * q) (kk : ∀ u3 u4, Ev L xs 93 (134, [.ref 15, .int (nI 1), .int (nI c), u3, u4], [], (MH g0 g1 g2 g3 g4 g5 g6 g7 g8 g9 g10 g11 g12 g13 g14 th w q tm sd bi ed ra (bcF w q bi (c + 1)) ah bk wt gp gq mv cn mc mk rest), 0, 0) R) : ∀ (n k : Nat) (u4 : Value), k + n = 7 → Ev L xs 93 (45, [.ref 15, .int (nI 1), .int (nI c), .int (nI k), u4], [], (MH g0 g1 g2 g3 g4 g5 g6 g7 g8 g9 g10 g11 g12 g13 g14 th w q tm sd bi ed ra (upd (bcF w q bi c) c (nI (gtU (fun i => btB bi (dsN w q 0 c i) i) k))) ah bk wt gp gq mv cn mc mk rest), 0, 0) R := by
  have hn := side_n hw hq
  intro n
  induction n with
  | zero =>
    intro k u4 hk
    have e : k = 7 := by omega
    subst e
    rw [show upd (bcF w q bi c) c (nI (gtU (fun i => btB bi (dsN w q 0 c i) i) 7)) = bcF w q bi (c + 1) by
      funext j
      unfold upd bcF
      by_cases h : j = c
      · subst h
        rw [if_pos rfl, if_pos (Nat.lt_succ_self j)]
        unfold scF
        rw [if_pos hc]
        refine congrArg nI ?_
        exact gtN_congr (fun i _ => by rw [sr3_ds]; rfl)
      · by_cases h2 : j < c
        · rw [if_neg h, if_pos h2, if_pos (by omega)]
        · rw [if_neg h, if_neg h2, if_neg (by omega)]]
    iterate 3 (refine ev_step rfl rfl ?_)
    exact kk _ _
  | succ n ih =>
    intro k u4 hk
    have ih1 := fun u4 => ih (k + 1) u4 (by omega)
    have hd := ds_lt (t := 0) (k := k) hw hq hc
    obtain ⟨β, hβ, hb⟩ := hbt _ hd
    have hB : btB bi (dsN w q 0 c k) k = β.testBit k := by unfold btB; rw [hb, nI_clamp (by omega)]
    rw [gtU, hB] at ih1
    iterate 3 (refine ev_step rfl rfl ?_)
    refine ev_f (nI_ge (a := k) (b := 7) (by omega) (by decide)) ?_
    (repeat refine ev_step rfl rfl ?_)
    refine ev_i3 rfl rfl (Nat.le_of_ble_eq_true rfl) (Nat.le_of_ble_eq_true rfl) rfl (mm_neighbour hw hq hc (show k < 7 by omega)) ?_
    (repeat refine ev_step rfl rfl ?_)
    refine ev_ia rfl rfl (dsN w q 0 c k) (rfl) (by omega) (by omega) ?_
    rw [hb]
    (repeat refine ev_step rfl rfl ?_)
    refine ev_i2 rfl rfl (Nat.le_of_ble_eq_true rfl) (Nat.le_of_ble_eq_true rfl) rfl (mt_has hβ (show k < 7 by omega) _) ?_
    cases hbit : β.testBit k with
    | false =>
      rw [hbit, if_neg (by decide)] at ih1
      iterate 5 (refine ev_step rfl rfl ?_)
      rw [nI_1]
      exact ih1 _
    | true =>
      rw [hbit, if_pos rfl, ← or_bit _ (gtU_lt _ (show k ≤ 7 by omega)) k (by omega)] at ih1
      (repeat refine ev_step rfl rfl ?_)
      refine ev_ia rfl rfl (c) (rfl) (by omega) (by omega) ?_
      rw [show upd (bcF w q bi c) c (nI (gtU (fun i => btB bi (dsN w q 0 c i) i) k)) c = nI (gtU (fun i => btB bi (dsN w q 0 c i) i) k) from if_pos rfl]
      (repeat refine ev_step rfl rfl ?_)
      refine ev_is rfl rfl (c) (rfl) (by omega) (by omega) rfl ?_
      iterate 4 (refine ev_step rfl rfl ?_)
      rw [nI_1]
      have e2 : upd (upd (bcF w q bi c) c (nI (gtU (fun i => btB bi (dsN w q 0 c i) i) k))) c (nI (gtU (fun i => btB bi (dsN w q 0 c i) i) k) ||| ((1 : Int32) <<< (nI k &&& 31))) = upd (bcF w q bi c) c (nI (gtU (fun i => btB bi (dsN w q 0 c i) i) k) ||| ((1 : Int32) <<< (nI k &&& 31))) := by
        funext j
        unfold upd
        split <;> rfl
      rw [e2]
      exact ih1 _
theorem mfly_c {L : Nat} {xs : Nat → Int32} {g0 g1 g2 g3 g4 g5 g6 g7 g8 g9 g10 g11 g12 g13 g14 : ac_C} {th : Int32} {w q : Nat} {tm sd : Int32} {bi ed ra fr ah bk : Nat → Int32} {wt gp gq mv : Int32} {cn : Nat} {mc mk : Nat → Int32} {rest : ac_H} {R : ac_R} {bk0 : Int32} {u3 u4 : Value} (hw : sideOk w) (hq : sideOk q) (kk : Ev L xs 93 (173, [.ref 15, .int bk0, .int (nI (w * q)), u3, u4], [], (MH g0 g1 g2 g3 g4 g5 g6 g7 g8 g9 g10 g11 g12 g13 g14 th w q tm sd (pre (w * q) fr bi) ed ra fr ah bk wt gp gq mv cn mc mk rest), 0, 0) R) : ∀ (n c : Nat), c + n = w * q → Ev L xs 93 (142, [.ref 15, .int bk0, .int (nI c), u3, u4], [], (MH g0 g1 g2 g3 g4 g5 g6 g7 g8 g9 g10 g11 g12 g13 g14 th w q tm sd (pre c fr bi) ed ra fr ah bk wt gp gq mv cn mc mk rest), 0, 0) R := by
  have hn := side_n hw hq
  intro n
  induction n with
  | zero =>
    intro c hc
    have e : c = w * q := by omega
    rw [e]
    (repeat refine ev_step rfl rfl ?_)
    rw [nI_mul]
    refine ev_t (nI_le (Nat.le_refl _) (by omega)) ?_
    exact kk
  | succ n ih =>
    intro c hc
    have ih1 := ih (c + 1) (by omega)
    rw [← pre_put] at ih1
    (repeat refine ev_step rfl rfl ?_)
    rw [nI_mul]
    refine ev_f (nI_ge (a := c) (b := w * q) (by omega) (by omega)) ?_
    (repeat refine ev_step rfl rfl ?_)
    refine ev_ia rfl rfl (c) (rfl) (by omega) (by omega) ?_
    refine ev_is rfl rfl (c) (rfl) (by omega) (by omega) rfl ?_
    iterate 2 (refine ev_step rfl rfl ?_)
    rw [nI_1]
    exact ih1
theorem mfly_d {L : Nat} {xs : Nat → Int32} {g0 g1 g2 g3 g4 g5 g6 g7 g8 g9 g10 g11 g12 g13 g14 : ac_C} {th : Int32} {w q : Nat} {tm sd : Int32} {bi ed ra fr ah bk : Nat → Int32} {wt gp gq mv : Int32} {cn : Nat} {mc mk : Nat → Int32} {rest : ac_H} {bk0 : Nat} {u4 : Value} (hw : sideOk w) (hq : sideOk q) (hk0 : bk0 < 2) (hcn : cn ≤ 4) (hok : mkOk (w * q) cn mc mk) : ∀ (n i : Nat) (u3 : Value), i + n = cn → Ev L xs 93 (175, [.ref 15, .int (nI bk0), .int (nI i), u3, u4], [], (MH g0 g1 g2 g3 g4 g5 g6 g7 g8 g9 g10 g11 g12 g13 g14 th w q tm sd bi ed ra fr ah bk wt gp gq mv cn (pre i (fyF (nbT w q) (3 * bk0) mc mk) mc) mk rest), 0, 0) (.inl none, (MH g0 g1 g2 g3 g4 g5 g6 g7 g8 g9 g10 g11 g12 g13 g14 th w q tm sd bi ed ra fr ah bk wt gp gq mv cn (pre cn (fyF (nbT w q) (3 * bk0) mc mk) mc) mk rest), 0, 0) := by
  have hn := side_n hw hq
  intro n
  induction n with
  | zero =>
    intro i u3 hi
    have e : i = cn := by omega
    rw [e]
    (repeat refine ev_step rfl rfl ?_)
    refine ev_t (nI_le (Nat.le_refl _) (by omega)) ?_
    exact ev_r0 rfl
  | succ n ih =>
    intro i u3 hi
    have ih1 := fun u3 => ih (i + 1) u3 (by omega)
    obtain ⟨hc0, κ, hκ, hk⟩ := hok i (by omega)
    (repeat refine ev_step rfl rfl ?_)
    refine ev_f (nI_ge (a := i) (b := cn) (by omega) (by omega)) ?_
    (repeat refine ev_step rfl rfl ?_)
    refine ev_ia rfl rfl (i) (rfl) (by omega) (by omega) ?_
    rw [hk]
    (repeat refine ev_step rfl rfl ?_)
    refine ev_ia rfl rfl (i) (rfl) (by omega) (by omega) ?_
    rw [pre_at]
    rcases hc0 with e | ⟨c, hc, e⟩
    · rw [← pre_same i (fyF (nbT w q) (3 * bk0) mc mk) mc (if_pos e)] at ih1
      rw [e]
      iterate 3 (refine ev_step rfl rfl ?_)
      rw [nI_1]
      exact ih1 _
    · have ef := fy_eq (t := 3 * bk0) hw hq hc hκ e hk
      rw [← pre_put, ef] at ih1
      rw [e]
      iterate 1 (refine ev_step rfl rfl ?_)
      refine ev_f (nI_pos (by omega)) ?_
      (repeat refine ev_step rfl rfl ?_)
      refine ev_ia rfl rfl (i) (rfl) (by omega) (by omega) ?_
      rw [pre_at, e]
      have hk' : bk0 = 0 ∨ bk0 = 1 := by omega
      rcases hk' with rfl | rfl
      · (repeat refine ev_step rfl rfl ?_)
        refine ev_i3 rfl rfl (Nat.le_of_ble_eq_true rfl) (Nat.le_of_ble_eq_true rfl) rfl (mm_neighbour hw hq hc hκ) ?_
        refine ev_is rfl rfl (i) (rfl) (by omega) (by omega) rfl ?_
        iterate 2 (refine ev_step rfl rfl ?_)
        rw [nI_1]
        exact ih1 _
      · (repeat refine ev_step rfl rfl ?_)
        refine ev_br (fun z => ?_) (fun z => ?_)
        · have z6 : κ = 6 := by have := (nI_leI (a := 6) (b := κ) (by decide) (by omega)).mp z; omega
          subst z6
          (repeat refine ev_step rfl rfl ?_)
          refine ev_i3 rfl rfl (Nat.le_of_ble_eq_true rfl) (Nat.le_of_ble_eq_true rfl) rfl (mm_neighbour hw hq hc hκ) ?_
          refine ev_is rfl rfl (i) (rfl) (by omega) (by omega) rfl ?_
          iterate 2 (refine ev_step rfl rfl ?_)
          rw [nI_1]
          exact ih1 _
        · have z6 : κ < 6 := Nat.not_le.mp (fun h => z ((nI_leI (a := 6) (b := κ) (by decide) (by omega)).mpr h))
          (repeat refine ev_step rfl rfl ?_)
          rw [show ac_rm (nI κ + 3) 6 = nI ((κ + 3) % 6) by rw [show nI κ + 3 = nI (κ + 3) from nI_add κ 3]; exact pk_rem (d := 6) (by omega) (by decide) (by decide)]
          refine ev_i3 rfl rfl (Nat.le_of_ble_eq_true rfl) (Nat.le_of_ble_eq_true rfl) rfl (mm_neighbour hw hq hc (show (κ + 3) % 6 < 7 by omega)) ?_
          rw [show dsN w q 0 c ((κ + 3) % 6) = dsN w q (3 * 1) c κ by
            unfold dsN
            rw [if_pos (show (κ + 3) % 6 < 6 by omega), if_pos z6, Nat.add_zero, nbC_mod]]
          refine ev_is rfl rfl (i) (rfl) (by omega) (by omega) rfl ?_
          iterate 2 (refine ev_step rfl rfl ?_)
          rw [nI_1]
          exact ih1 _
theorem mm_fly {L : Nat} {xs : Nat → Int32} {g0 g1 g2 g3 g4 g5 g6 g7 g8 g9 g10 g11 g12 g13 g14 : ac_C} {th : Int32} {w q : Nat} {tm sd : Int32} {bi ed ra fr ah bk : Nat → Int32} {wt gp gq mv : Int32} {cn : Nat} {mc mk : Nat → Int32} {rest : ac_H} {bk0 : Nat} (hw : sideOk w) (hq : sideOk q) (hk0 : bk0 < 2) (hcn : cn ≤ 4) (hok : mkOk (w * q) cn mc mk) (hbt : btOk (w * q) bi) (hb0 : ∀ j, w * q ≤ j → bi j = 0) (hf0 : ∀ j, w * q ≤ j → fr j = 0) : Mt L xs 93 [.ref 15, .int (nI bk0)] (MH g0 g1 g2 g3 g4 g5 g6 g7 g8 g9 g10 g11 g12 g13 g14 th w q tm sd bi ed ra fr ah bk wt gp gq mv cn mc mk rest) none (MH g0 g1 g2 g3 g4 g5 g6 g7 g8 g9 g10 g11 g12 g13 g14 th w q tm sd (scF w q (3 * bk0) bi (fun _ _ => true)) ed ra (scF w q (3 * bk0) bi (fun _ _ => true)) ah bk wt gp gq mv cn (pre cn (fyF (nbT w q) (3 * bk0) mc mk) mc) mk rest) 0 0 := by
  have hn := side_n hw hq
  have e0 : pre (w * q) (fun _ => 0) fr = fun _ => 0 := by
    funext j
    unfold pre
    split
    · rfl
    · exact hf0 j (by omega)
  have e1 : pre (w * q) (scF w q (3 * bk0) bi (fun _ _ => true)) bi = scF w q (3 * bk0) bi (fun _ _ => true) := by
    funext j
    unfold pre
    by_cases h : j < w * q
    · rw [if_pos h]
    · rw [if_neg h, hb0 j (by omega)]
      unfold scF
      rw [if_neg h]
  have hend : ∀ u3 u4, Ev L xs 93 (140, [.ref 15, .int (nI bk0), .int (nI (w * q)), u3, u4], [], (MH g0 g1 g2 g3 g4 g5 g6 g7 g8 g9 g10 g11 g12 g13 g14 th w q tm sd bi ed ra (scF w q (3 * bk0) bi (fun _ _ => true)) ah bk wt gp gq mv cn mc mk rest), 0, 0) (.inl none, (MH g0 g1 g2 g3 g4 g5 g6 g7 g8 g9 g10 g11 g12 g13 g14 th w q tm sd (scF w q (3 * bk0) bi (fun _ _ => true)) ed ra (scF w q (3 * bk0) bi (fun _ _ => true)) ah bk wt gp gq mv cn (pre cn (fyF (nbT w q) (3 * bk0) mc mk) mc) mk rest), 0, 0) := fun u3 u4 => by
    iterate 2 (refine ev_step rfl rfl ?_)
    have h := mfly_c (L := L) (xs := xs) (g0 := g0) (g1 := g1) (g2 := g2) (g3 := g3) (g4 := g4) (g5 := g5) (g6 := g6) (g7 := g7) (g8 := g8) (g9 := g9) (g10 := g10) (g11 := g11) (g12 := g12) (g13 := g13) (g14 := g14) (th := th) (w := w) (q := q) (tm := tm) (sd := sd) (ed := ed) (ra := ra) (ah := ah) (bk := bk) (wt := wt) (gp := gp) (gq := gq) (mv := mv) (cn := cn) (mc := mc) (mk := mk) (rest := rest) (bi := bi) (fr := scF w q (3 * bk0) bi (fun _ _ => true)) (R := (.inl none, (MH g0 g1 g2 g3 g4 g5 g6 g7 g8 g9 g10 g11 g12 g13 g14 th w q tm sd (scF w q (3 * bk0) bi (fun _ _ => true)) ed ra (scF w q (3 * bk0) bi (fun _ _ => true)) ah bk wt gp gq mv cn (pre cn (fyF (nbT w q) (3 * bk0) mc mk) mc) mk rest), 0, 0)) (bk0 := nI bk0) (u3 := u3) (u4 := u4) hw hq (by
      rw [e1]
      iterate 2 (refine ev_step rfl rfl ?_)
      have h2 := mfly_d (L := L) (xs := xs) (g0 := g0) (g1 := g1) (g2 := g2) (g3 := g3) (g4 := g4) (g5 := g5) (g6 := g6) (g7 := g7) (g8 := g8) (g9 := g9) (g10 := g10) (g11 := g11) (g12 := g12) (g13 := g13) (g14 := g14) (th := th) (w := w) (q := q) (tm := tm) (sd := sd) (ed := ed) (ra := ra) (ah := ah) (bk := bk) (wt := wt) (gp := gp) (gq := gq) (mv := mv) (cn := cn) (mc := mc) (mk := mk) (rest := rest) (bi := scF w q (3 * bk0) bi (fun _ _ => true)) (fr := scF w q (3 * bk0) bi (fun _ _ => true)) (u4 := u4) hw hq hk0 hcn hok cn 0 u3 (Nat.zero_add _)
      rw [pre_0] at h2
      exact h2) (w * q) 0 (Nat.zero_add _)
    rw [pre_0] at h
    exact h
  show Ev L xs 93 (0, [.ref 15, .int (nI bk0), ac_un, ac_un, ac_un], [], _, 0, 0) _
  iterate 2 (refine ev_step rfl rfl ?_)
  have ha := mfly_a (L := L) (xs := xs) (g0 := g0) (g1 := g1) (g2 := g2) (g3 := g3) (g4 := g4) (g5 := g5) (g6 := g6) (g7 := g7) (g8 := g8) (g9 := g9) (g10 := g10) (g11 := g11) (g12 := g12) (g13 := g13) (g14 := g14) (th := th) (w := w) (q := q) (tm := tm) (sd := sd) (bi := bi) (ed := ed) (ra := ra) (fr := fr) (ah := ah) (bk := bk) (wt := wt) (gp := gp) (gq := gq) (mv := mv) (cn := cn) (mc := mc) (mk := mk) (rest := rest) (bk0 := nI bk0) (u3 := ac_un) (u4 := ac_un) (R := (.inl none, (MH g0 g1 g2 g3 g4 g5 g6 g7 g8 g9 g10 g11 g12 g13 g14 th w q tm sd (scF w q (3 * bk0) bi (fun _ _ => true)) ed ra (scF w q (3 * bk0) bi (fun _ _ => true)) ah bk wt gp gq mv cn (pre cn (fyF (nbT w q) (3 * bk0) mc mk) mc) mk rest), 0, 0)) hw hq (by
    rw [e0]
    iterate 2 (refine ev_step rfl rfl ?_)
    have hk' : bk0 = 0 ∨ bk0 = 1 := by omega
    rcases hk' with rfl | rfl
    · have hx := mfly_b (L := L) (xs := xs) (g0 := g0) (g1 := g1) (g2 := g2) (g3 := g3) (g4 := g4) (g5 := g5) (g6 := g6) (g7 := g7) (g8 := g8) (g9 := g9) (g10 := g10) (g11 := g11) (g12 := g12) (g13 := g13) (g14 := g14) (th := th) (w := w) (q := q) (tm := tm) (sd := sd) (bi := bi) (ed := ed) (ra := ra) (ah := ah) (bk := bk) (wt := wt) (gp := gp) (gq := gq) (mv := mv) (cn := cn) (mc := mc) (mk := mk) (rest := rest) (fr := fr) (bk0 := nI 0) (R := (.inl none, (MH g0 g1 g2 g3 g4 g5 g6 g7 g8 g9 g10 g11 g12 g13 g14 th w q tm sd (scF w q (3 * 0) bi (fun _ _ => true)) ed ra (scF w q (3 * 0) bi (fun _ _ => true)) ah bk wt gp gq mv cn (pre cn (fyF (nbT w q) (3 * 0) mc mk) mc) mk rest), 0, 0)) (Φ := fun c => scF w q 0 bi (fun a _ => decide (a < c))) hw hq (fun c u3 u4 hc kk => by
        iterate 2 (refine ev_step rfl rfl ?_)
        have h3 := mfly_f (L := L) (xs := xs) (g0 := g0) (g1 := g1) (g2 := g2) (g3 := g3) (g4 := g4) (g5 := g5) (g6 := g6) (g7 := g7) (g8 := g8) (g9 := g9) (g10 := g10) (g11 := g11) (g12 := g12) (g13 := g13) (g14 := g14) (th := th) (w := w) (q := q) (tm := tm) (sd := sd) (bi := bi) (ed := ed) (ra := ra) (ah := ah) (bk := bk) (wt := wt) (gp := gp) (gq := gq) (mv := mv) (cn := cn) (mc := mc) (mk := mk) (rest := rest) (fr := fr) hw hq hbt hc kk 7 0 u4 rfl
        rw [sc_congr (P' := fun a _ => decide (a < c)) hw hq (fun a i _ _ _ => by simp)] at h3
        exact h3) (fun u3 u4 => by
        have h4 := hend u3 u4
        rw [sc_congr (P' := fun a _ => decide (a < w * q)) hw hq (fun a i ha _ _ => (decide_eq_true ha).symm)] at h4
        rw [sc_congr (P' := fun a _ => decide (a < w * q)) hw hq (fun a i ha _ _ => (decide_eq_true ha).symm)]
        exact h4) (w * q) 0 ac_un ac_un (Nat.zero_add _)
      rw [sc_0] at hx
      exact hx
    · have hx := mfly_b (L := L) (xs := xs) (g0 := g0) (g1 := g1) (g2 := g2) (g3 := g3) (g4 := g4) (g5 := g5) (g6 := g6) (g7 := g7) (g8 := g8) (g9 := g9) (g10 := g10) (g11 := g11) (g12 := g12) (g13 := g13) (g14 := g14) (th := th) (w := w) (q := q) (tm := tm) (sd := sd) (bi := bi) (ed := ed) (ra := ra) (ah := ah) (bk := bk) (wt := wt) (gp := gp) (gq := gq) (mv := mv) (cn := cn) (mc := mc) (mk := mk) (rest := rest) (fr := fr) (bk0 := nI 1) (R := (.inl none, (MH g0 g1 g2 g3 g4 g5 g6 g7 g8 g9 g10 g11 g12 g13 g14 th w q tm sd (scF w q (3 * 1) bi (fun _ _ => true)) ed ra (scF w q (3 * 1) bi (fun _ _ => true)) ah bk wt gp gq mv cn (pre cn (fyF (nbT w q) (3 * 1) mc mk) mc) mk rest), 0, 0)) (Φ := bcF w q bi) hw hq (fun c u3 u4 hc kk => by
        iterate 2 (refine ev_step rfl rfl ?_)
        have h3 := mfly_g (L := L) (xs := xs) (g0 := g0) (g1 := g1) (g2 := g2) (g3 := g3) (g4 := g4) (g5 := g5) (g6 := g6) (g7 := g7) (g8 := g8) (g9 := g9) (g10 := g10) (g11 := g11) (g12 := g12) (g13 := g13) (g14 := g14) (th := th) (w := w) (q := q) (tm := tm) (sd := sd) (bi := bi) (ed := ed) (ra := ra) (ah := ah) (bk := bk) (wt := wt) (gp := gp) (gq := gq) (mv := mv) (cn := cn) (mc := mc) (mk := mk) (rest := rest) (fr := fr) hw hq hbt hc kk 7 0 u4 rfl
        rw [show upd (bcF w q bi c) c (nI (gtU (fun i => btB bi (dsN w q 0 c i) i) 0)) = bcF w q bi c by
          funext j
          unfold upd
          split
          · rename_i e
            subst e
            exact (if_neg (Nat.lt_irrefl j)).symm
          · rfl] at h3
        exact h3) (fun u3 u4 => by
        have e5 : bcF w q bi (w * q) = scF w q (3 * 1) bi (fun _ _ => true) := by
          funext j
          unfold bcF
          split
          · rfl
          · rename_i h
            unfold scF
            rw [if_neg h]
        rw [e5]
        exact hend u3 u4) (w * q) 0 ac_un ac_un (Nat.zero_add _)
      have e6 : bcF w q bi 0 = fun _ => 0 := by
        funext j
        exact if_neg (Nat.not_lt_zero j)
      rw [e6] at hx
      exact hx) (w * q) 0 (Nat.zero_add _)
  rw [pre_0] at ha
  exact ha
