/-! ===== the plain form: the edges ===== -/
def amK (k f : Nat) : Int32 := if f = 0 then 1 else ac_tab (f - 1) k
def bkD (bk : Nat → Int32) (κ : Nat) (d : Nat → Int32) : Nat → Int32 := fun j => if j / 3 = κ then bk j + d (j % 3) else bk j
def gpD (s : Nat) (g x : Int32) : Int32 := if s = 4 then g - x else g
theorem bkD_0 (bk : Nat → Int32) (κ : Nat) : bkD bk κ (fun _ => 0) = bk := by
  funext j
  unfold bkD
  split
  · exact Int32.add_zero _
  · rfl
theorem gpD_0 (s : Nat) (g : Int32) : gpD s g 0 = g := by
  unfold gpD
  split
  · exact Int32.sub_zero _
  · rfl
theorem bkD_add (bk : Nat → Int32) (κ : Nat) (d e : Nat → Int32) : bkD (bkD bk κ d) κ e = bkD bk κ (fun f => d f + e f) := by
  funext j
  unfold bkD
  by_cases h : j / 3 = κ
  · rw [if_pos h, if_pos h, if_pos h, Int32.add_assoc]
  · rw [if_neg h, if_neg h, if_neg h]
theorem i_sub2 (g x y : Int32) : g - x - y = g - (x + y) := by
  rw [Int32.sub_eq_add_neg, Int32.sub_eq_add_neg, Int32.sub_eq_add_neg, Int32.neg_add, Int32.sub_eq_add_neg, Int32.add_assoc]
theorem gpD_add (s : Nat) (g x y : Int32) : gpD s (gpD s g x) y = gpD s g (x + y) := by
  unfold gpD
  by_cases h : s = 4
  · rw [if_pos h, if_pos h, if_pos h, i_sub2]
  · rw [if_neg h, if_neg h, if_neg h]
theorem bkD_congr {bk : Nat → Int32} {κ : Nat} {d e : Nat → Int32} (h : ∀ f, f < 3 → d f = e f) : bkD bk κ d = bkD bk κ e := by
  funext j
  unfold bkD
  split
  · rw [h (j % 3) (Nat.mod_lt _ (by decide))]
  · rfl
theorem bkF_D (bk : Nat → Int32) (κ a b : Nat) : bkF bk κ a b = bkD bk κ (fun f => amI a f - amI b f) := rfl
theorem mt_momentum {L : Nat} {xs : Nat → Int32} {k v : Nat} (hk : k < 7) (hv : v < 2) (H : ac_H) : Mt L xs 69 [.int (nI k), .int (nI v)] H (some (.int (ac_tab v k))) H 0 0 := pu_mt (by decide) (tr_momentum k hk v hv) H
theorem acA_0 (a b x : Int32) : upd (acA a b) 0 x = acA x b := by
  funext j
  unfold upd acA
  split
  · rfl
  · rfl
theorem acA_1 (a b x : Int32) : upd (acA a b) 1 x = acA a x := by
  funext j
  unfold upd acA
  by_cases h : j = 1
  · subst h; rfl
  · rw [if_neg h, if_neg h, if_neg h]
theorem nt_bk (bk : Nat → Int32) (κ k : Nat) (v : Int32) : upd (upd (upd bk (3 * κ) (bk (3 * κ) + v)) (3 * κ + 1) (upd bk (3 * κ) (bk (3 * κ) + v) (3 * κ + 1) + v * ac_tab 0 k)) (3 * κ + 2) (upd (upd bk (3 * κ) (bk (3 * κ) + v)) (3 * κ + 1) (upd bk (3 * κ) (bk (3 * κ) + v) (3 * κ + 1) + v * ac_tab 0 k) (3 * κ + 2) + v * ac_tab 1 k) = bkD bk κ (fun f => v * amK k f) := by
  funext j
  unfold bkD upd
  by_cases h0 : j = 3 * κ
  · subst h0
    rw [if_neg (show ¬ 3 * κ = 3 * κ + 2 by omega), if_neg (show ¬ 3 * κ = 3 * κ + 1 by omega), if_pos rfl, if_pos (show 3 * κ / 3 = κ by omega), show 3 * κ % 3 = 0 by omega]
    show _ = _ + v * 1
    rw [Int32.mul_one]
  · by_cases h1 : j = 3 * κ + 1
    · subst h1
      rw [if_neg (show ¬ 3 * κ + 1 = 3 * κ + 2 by omega), if_pos rfl, if_neg (show ¬ 3 * κ + 1 = 3 * κ by omega), if_pos (show (3 * κ + 1) / 3 = κ by omega), show (3 * κ + 1) % 3 = 1 by omega]
      rfl
    · by_cases h2 : j = 3 * κ + 2
      · subst h2
        rw [if_pos rfl, if_neg (show ¬ 3 * κ + 2 = 3 * κ + 1 by omega), if_neg (show ¬ 3 * κ + 2 = 3 * κ by omega), if_pos (show (3 * κ + 2) / 3 = κ by omega), show (3 * κ + 2) % 3 = 2 by omega]
        rfl
      · rw [if_neg h2, if_neg h1, if_neg h0, if_neg (show ¬ j / 3 = κ by omega)]
theorem mm_note {L : Nat} {xs : Nat → Int32} {g0 g1 g2 g3 g4 g5 g6 g7 g8 g9 g10 g11 g12 g13 g14 : ac_C} {th : Int32} {w q : Nat} {tm sd : Int32} {bi ed ra fr ah bk : Nat → Int32} {wt gp gq mv : Int32} {cn : Nat} {mc mk : Nat → Int32} {rest : ac_H} {s k : Nat} {v : Int32} (hs : s < 5) (hs0 : s ≠ 0) (hk : k < 7) : Mt L xs 94 [.ref 15, .int (nI s), .int (nI k), .int v] (MH g0 g1 g2 g3 g4 g5 g6 g7 g8 g9 g10 g11 g12 g13 g14 th w q tm sd bi ed ra fr ah bk wt gp gq mv cn mc mk rest) none (MH g0 g1 g2 g3 g4 g5 g6 g7 g8 g9 g10 g11 g12 g13 g14 th w q tm sd bi ed ra fr ah (bkD bk (s - 1) (fun f => v * amK k f)) wt (gpD s gp (v * amK k 1)) (gpD s gq (v * amK k 2)) mv cn mc mk rest) 0 0 := by
  have e : (3 : Int32) * (nI s - 1) = nI (3 * (s - 1)) := by
    rw [show nI s - 1 = nI (s - 1) from pk_sub (b := 1) (by omega)]
    exact pk_mul 3 (s - 1)
  show Ev L xs 94 (0, [.ref 15, .int (nI s), .int (nI k), .int v, ac_un], [], _, 0, 0) _
  iterate 5 (refine ev_step rfl rfl ?_)
  rw [e]
  (repeat refine ev_step rfl rfl ?_)
  refine ev_ia rfl rfl (3 * (s - 1)) (rfl) (by omega) (by decide) ?_
  (repeat refine ev_step rfl rfl ?_)
  refine ev_is rfl rfl (3 * (s - 1)) (rfl) (by omega) (by decide) rfl ?_
  (repeat refine ev_step rfl rfl ?_)
  refine ev_ia rfl rfl (3 * (s - 1) + 1) (nI_1 _) (by omega) (by decide) ?_
  (repeat refine ev_step rfl rfl ?_)
  refine ev_i2 rfl rfl (Nat.le_of_ble_eq_true rfl) (Nat.le_of_ble_eq_true rfl) rfl (mt_momentum hk (v := 0) (by decide) _) ?_
  (repeat refine ev_step rfl rfl ?_)
  refine ev_is rfl rfl (3 * (s - 1) + 1) (nI_1 _) (by omega) (by decide) rfl ?_
  (repeat refine ev_step rfl rfl ?_)
  refine ev_ia rfl rfl (3 * (s - 1) + 2) (nI_add _ 2) (by omega) (by decide) ?_
  (repeat refine ev_step rfl rfl ?_)
  refine ev_i2 rfl rfl (Nat.le_of_ble_eq_true rfl) (Nat.le_of_ble_eq_true rfl) rfl (mt_momentum hk (v := 1) (by decide) _) ?_
  (repeat refine ev_step rfl rfl ?_)
  refine ev_is rfl rfl (3 * (s - 1) + 2) (nI_add _ 2) (by omega) (by decide) rfl ?_
  rw [nt_bk]
  iterate 3 (refine ev_step rfl rfl ?_)
  refine ev_br (fun z => ?_) (fun z => ?_)
  · have z4 : s = 4 := (nI_eq (a := s) (b := 4) (by omega) (by decide)).mp z
    rw [show gpD s gp (v * amK k 1) = gp - v * ac_tab 0 k from if_pos z4, show gpD s gq (v * amK k 2) = gq - v * ac_tab 1 k from if_pos z4]
    iterate 6 (refine ev_step rfl rfl ?_)
    refine ev_ia rfl rfl (0) (rfl) (by decide) (by decide) ?_
    (repeat refine ev_step rfl rfl ?_)
    refine ev_i2 rfl rfl (Nat.le_of_ble_eq_true rfl) (Nat.le_of_ble_eq_true rfl) rfl (mt_momentum hk (v := 0) (by decide) _) ?_
    iterate 2 (refine ev_step rfl rfl ?_)
    refine ev_is rfl rfl (0) (rfl) (by decide) (by decide) rfl ?_
    rw [acA_0]
    iterate 6 (refine ev_step rfl rfl ?_)
    refine ev_ia rfl rfl (1) (rfl) (by decide) (by decide) ?_
    (repeat refine ev_step rfl rfl ?_)
    refine ev_i2 rfl rfl (Nat.le_of_ble_eq_true rfl) (Nat.le_of_ble_eq_true rfl) rfl (mt_momentum hk (v := 1) (by decide) _) ?_
    iterate 2 (refine ev_step rfl rfl ?_)
    refine ev_is rfl rfl (1) (rfl) (by decide) (by decide) rfl ?_
    rw [acA_1]
    exact ev_r0 rfl
  · have z4 : s ≠ 4 := fun q => z (by rw [q]; rfl)
    rw [show gpD s gp (v * amK k 1) = gp from if_neg z4, show gpD s gq (v * amK k 2) = gq from if_neg z4]
    exact ev_r0 rfl
/-- the same, on top of d -/
theorem mm_noteD {L : Nat} {xs : Nat → Int32} {g0 g1 g2 g3 g4 g5 g6 g7 g8 g9 g10 g11 g12 g13 g14 : ac_C} {th : Int32} {w q : Nat} {tm sd : Int32} {bi ed ra fr ah bk : Nat → Int32} {wt gp gq mv : Int32} {cn : Nat} {mc mk : Nat → Int32} {rest : ac_H} {s k : Nat} {v : Int32} {d : Nat → Int32} (hs : s < 5) (hs0 : s ≠ 0) (hk : k < 7) : Mt L xs 94 [.ref 15, .int (nI s), .int (nI k), .int v] (MH g0 g1 g2 g3 g4 g5 g6 g7 g8 g9 g10 g11 g12 g13 g14 th w q tm sd bi ed ra fr ah (bkD bk (s - 1) d) wt (gpD s gp (d 1)) (gpD s gq (d 2)) mv cn mc mk rest) none (MH g0 g1 g2 g3 g4 g5 g6 g7 g8 g9 g10 g11 g12 g13 g14 th w q tm sd bi ed ra fr ah (bkD bk (s - 1) (fun f => d f + v * amK k f)) wt (gpD s gp (d 1 + v * amK k 1)) (gpD s gq (d 2 + v * amK k 2)) mv cn mc mk rest) 0 0 := by
  have h := mm_note (L := L) (xs := xs) (g0 := g0) (g1 := g1) (g2 := g2) (g3 := g3) (g4 := g4) (g5 := g5) (g6 := g6) (g7 := g7) (g8 := g8) (g9 := g9) (g10 := g10) (g11 := g11) (g12 := g12) (g13 := g13) (g14 := g14) (th := th) (w := w) (q := q) (tm := tm) (sd := sd) (bi := bi) (ed := ed) (ra := ra) (fr := fr) (ah := ah) (wt := wt) (mv := mv) (cn := cn) (mc := mc) (mk := mk) (rest := rest) (bk := bkD bk (s - 1) d) (gp := gpD s gp (d 1)) (gq := gpD s gq (d 2)) (v := v) hs hs0 hk
  rw [bkD_add, gpD_add, gpD_add] at h
  exact h
def dmI (β : Nat) : Nat → Nat → Int32
  | 0 => fun _ => 0
  | i + 1 => if β.testBit i = true then fun f => dmI β i f + -1 * amK i f + 1 * amK ((i + 3) % 6) f else dmI β i
theorem dm_6 : ∀ β, β < 128 → ∀ f, f < 3 → dmI β 6 f = amI (rtN β 3) f - amI β f := by decide +kernel
def ddI (β : Nat) : Nat → Nat → Int32
  | 0 => fun _ => 0
  | i + 1 => if β.testBit i = true then fun f => ddI β i f + -1 * amK i f else ddI β i
theorem dd_7 : ∀ β, β < 128 → ∀ f, f < 3 → ddI β 7 f = amI 0 f - amI β f := by decide +kernel
theorem am_or : ∀ b, b < 128 → ∀ k, k < 7 → ∀ f, f < 3 → b.testBit k = false → amI (b ||| 2 ^ k) f = amI b f + amK k f := by decide +kernel
theorem mt_turn3 {L : Nat} {xs : Nat → Int32} {b : Nat} (hb : b < 128) (H : ac_H) : Mt L xs 72 [.int (nI b), .int 3] H (some (.int (nI (rtN b 3)))) H 0 0 := pu_mt (by decide) (tr_turn3 b hb) H
theorem mirr_1 {L : Nat} {xs : Nat → Int32} {g0 g1 g2 g3 g4 g5 g6 g7 g8 g9 g10 g11 g12 g13 g14 : ac_C} {th : Int32} {w q : Nat} {tm sd : Int32} {bi ed ra fr ah bk : Nat → Int32} {wt gp gq mv : Int32} {cn : Nat} {mc mk : Nat → Int32} {rest : ac_H} {R : ac_R} {c β s : Nat} (hc : c < 256) (hβ : β < 128) (he : ed c = nI s) (hs : s < 5) (hs0 : s ≠ 0) (kk : Ev L xs 95 (69, [.ref 15, .int (nI c), .int (nI β), .int (nI 6)], [], (MH g0 g1 g2 g3 g4 g5 g6 g7 g8 g9 g10 g11 g12 g13 g14 th w q tm sd bi ed ra fr ah (bkD bk (s - 1) (dmI β 6)) wt (gpD s gp (dmI β 6 1)) (gpD s gq (dmI β 6 2)) mv cn mc mk rest), 0, 0) R) : ∀ (n i : Nat), i + n = 6 → Ev L xs 95 (20, [.ref 15, .int (nI c), .int (nI β), .int (nI i)], [], (MH g0 g1 g2 g3 g4 g5 g6 g7 g8 g9 g10 g11 g12 g13 g14 th w q tm sd bi ed ra fr ah (bkD bk (s - 1) (dmI β i)) wt (gpD s gp (dmI β i 1)) (gpD s gq (dmI β i 2)) mv cn mc mk rest), 0, 0) R := by
  intro n
  induction n with
  | zero =>
    intro i hi
    have e : i = 6 := by omega
    subst e
    iterate 3 (refine ev_step rfl rfl ?_)
    exact kk
  | succ n ih =>
    intro i hi
    have ih1 := ih (i + 1) (by omega)
    rw [dmI] at ih1
    iterate 3 (refine ev_step rfl rfl ?_)
    refine ev_f (nI_ge (a := i) (b := 6) (by omega) (by decide)) ?_
    (repeat refine ev_step rfl rfl ?_)
    refine ev_i2 rfl rfl (Nat.le_of_ble_eq_true rfl) (Nat.le_of_ble_eq_true rfl) rfl (mt_has hβ (show i < 7 by omega) _) ?_
    cases hbit : β.testBit i with
    | false =>
      rw [hbit, if_neg (by decide)] at ih1
      iterate 3 (refine ev_step rfl rfl ?_)
      rw [nI_1]
      exact ih1
    | true =>
      rw [hbit, if_pos rfl] at ih1
      (repeat refine ev_step rfl rfl ?_)
      refine ev_ia rfl rfl (c) (rfl) (hc) (by omega) ?_
      rw [he]
      (repeat refine ev_step rfl rfl ?_)
      refine ev_v4 rfl rfl (Nat.le_of_ble_eq_true rfl) (Nat.le_of_ble_eq_true rfl) rfl (mm_noteD hs hs0 (show i < 7 by omega)) ?_
      (repeat refine ev_step rfl rfl ?_)
      refine ev_ia rfl rfl (c) (rfl) (hc) (by omega) ?_
      rw [he]
      (repeat refine ev_step rfl rfl ?_)
      rw [show ac_rm (nI i + 3) 6 = nI ((i + 3) % 6) by rw [show nI i + 3 = nI (i + 3) from nI_add i 3]; exact pk_rem (d := 6) (by omega) (by decide) (by decide)]
      refine ev_v4 rfl rfl (Nat.le_of_ble_eq_true rfl) (Nat.le_of_ble_eq_true rfl) rfl (mm_noteD (d := fun f => dmI β i f + -1 * amK i f) hs hs0 (show (i + 3) % 6 < 7 by omega)) ?_
      iterate 2 (refine ev_step rfl rfl ?_)
      rw [nI_1]
      exact ih1
def miF (c : Nat) (mc mk : Nat → Int32) : Nat → Int32 := fun j => if mc j = nI c ∧ ¬ 6 ≤ mk j then nI (((mk j).toNatClampNeg + 3) % 6) else mk j
theorem mirr_2 {L : Nat} {xs : Nat → Int32} {g0 g1 g2 g3 g4 g5 g6 g7 g8 g9 g10 g11 g12 g13 g14 : ac_C} {th : Int32} {w q : Nat} {tm sd : Int32} {bi ed ra fr ah bk : Nat → Int32} {wt gp gq mv : Int32} {cn : Nat} {mc mk : Nat → Int32} {rest : ac_H} {c : Nat} {u2 : Value} (hcn : cn ≤ 4) (hok : ∀ j, j < cn → ∃ κ, κ < 7 ∧ mk j = nI κ) : ∀ (n i : Nat), i + n = cn → Ev L xs 95 (71, [.ref 15, .int (nI c), u2, .int (nI i)], [], (MH g0 g1 g2 g3 g4 g5 g6 g7 g8 g9 g10 g11 g12 g13 g14 th w q tm sd bi ed ra fr ah bk wt gp gq mv cn mc (pre i (miF c mc mk) mk) rest), 0, 0) (.inl none, (MH g0 g1 g2 g3 g4 g5 g6 g7 g8 g9 g10 g11 g12 g13 g14 th w q tm sd bi ed ra fr ah bk wt gp gq mv cn mc (pre cn (miF c mc mk) mk) rest), 0, 0) := by
  intro n
  induction n with
  | zero =>
    intro i hi
    have e : i = cn := by omega
    rw [e]
    (repeat refine ev_step rfl rfl ?_)
    refine ev_t (nI_le (Nat.le_refl _) (by omega)) ?_
    exact ev_r0 rfl
  | succ n ih =>
    intro i hi
    have ih1 := ih (i + 1) (by omega)
    obtain ⟨κ, hκ, hk⟩ := hok i (by omega)
    (repeat refine ev_step rfl rfl ?_)
    refine ev_f (nI_ge (a := i) (b := cn) (by omega) (by omega)) ?_
    (repeat refine ev_step rfl rfl ?_)
    refine ev_ia rfl rfl (i) (rfl) (by omega) (by omega) ?_
    iterate 2 (refine ev_step rfl rfl ?_)
    refine ev_br (fun z => ?_) (fun z => ?_)
    · (repeat refine ev_step rfl rfl ?_)
      refine ev_ia rfl rfl (i) (rfl) (by omega) (by omega) ?_
      rw [pre_at, hk]
      iterate 2 (refine ev_step rfl rfl ?_)
      refine ev_br (fun z2 => ?_) (fun z2 => ?_)
      · rw [← pre_same i (miF c mc mk) mk (if_neg (fun q => q.2 (by rw [hk]; exact z2)))] at ih1
        iterate 2 (refine ev_step rfl rfl ?_)
        rw [nI_1]
        exact ih1
      · rw [← pre_put, show miF c mc mk i = nI ((κ + 3) % 6) by unfold miF; rw [if_pos ⟨z, by rw [hk]; exact z2⟩, hk, nI_clamp (by omega)]] at ih1
        (repeat refine ev_step rfl rfl ?_)
        refine ev_ia rfl rfl (i) (rfl) (by omega) (by omega) ?_
        rw [pre_at, hk]
        (repeat refine ev_step rfl rfl ?_)
        rw [show ac_rm (nI κ + 3) 6 = nI ((κ + 3) % 6) by rw [show nI κ + 3 = nI (κ + 3) from nI_add κ 3]; exact pk_rem (d := 6) (by omega) (by decide) (by decide)]
        refine ev_is rfl rfl (i) (rfl) (by omega) (by omega) rfl ?_
        iterate 2 (refine ev_step rfl rfl ?_)
        rw [nI_1]
        exact ih1
    · rw [← pre_same i (miF c mc mk) mk (if_neg (fun q => z q.1))] at ih1
      iterate 2 (refine ev_step rfl rfl ?_)
      rw [nI_1]
      exact ih1
theorem mm_mirror {L : Nat} {xs : Nat → Int32} {g0 g1 g2 g3 g4 g5 g6 g7 g8 g9 g10 g11 g12 g13 g14 : ac_C} {th : Int32} {w q : Nat} {tm sd : Int32} {bi ed ra fr ah bk : Nat → Int32} {wt gp gq mv : Int32} {cn : Nat} {mc mk : Nat → Int32} {rest : ac_H} {c β s : Nat} (hc : c < 256) (hβ : β < 128) (hb : bi c = nI β) (he : ed c = nI s) (hs : s < 5) (hs0 : s ≠ 0) (hcn : cn ≤ 4) (hok : ∀ j, j < cn → ∃ κ, κ < 7 ∧ mk j = nI κ) : Mt L xs 95 [.ref 15, .int (nI c)] (MH g0 g1 g2 g3 g4 g5 g6 g7 g8 g9 g10 g11 g12 g13 g14 th w q tm sd bi ed ra fr ah bk wt gp gq mv cn mc mk rest) none (MH g0 g1 g2 g3 g4 g5 g6 g7 g8 g9 g10 g11 g12 g13 g14 th w q tm sd (upd bi c (nI (rtN β 3))) ed ra fr ah (bkF bk (s - 1) (rtN β 3) β) wt (gpD s gp (amI (rtN β 3) 1 - amI β 1)) (gpD s gq (amI (rtN β 3) 2 - amI β 2)) mv cn mc (pre cn (miF c mc mk) mk) rest) 0 0 := by
  rw [bkF_D, ← bkD_congr (d := dmI β 6) (fun f hf => dm_6 β hβ f hf), ← dm_6 β hβ 1 (by decide), ← dm_6 β hβ 2 (by decide)]
  have h := mirr_1 (L := L) (xs := xs) (g0 := g0) (g1 := g1) (g2 := g2) (g3 := g3) (g4 := g4) (g5 := g5) (g6 := g6) (g7 := g7) (g8 := g8) (g9 := g9) (g10 := g10) (g11 := g11) (g12 := g12) (g13 := g13) (g14 := g14) (th := th) (w := w) (q := q) (tm := tm) (sd := sd) (ed := ed) (ra := ra) (fr := fr) (ah := ah) (bk := bk) (wt := wt) (gp := gp) (gq := gq) (mv := mv) (cn := cn) (mc := mc) (mk := mk) (rest := rest) (bi := upd bi c (nI (rtN β 3))) (R := (.inl none, (MH g0 g1 g2 g3 g4 g5 g6 g7 g8 g9 g10 g11 g12 g13 g14 th w q tm sd (upd bi c (nI (rtN β 3))) ed ra fr ah (bkD bk (s - 1) (dmI β 6)) wt (gpD s gp (dmI β 6 1)) (gpD s gq (dmI β 6 2)) mv cn mc (pre cn (miF c mc mk) mk) rest), 0, 0)) hc hβ he hs hs0 (by
    iterate 2 (refine ev_step rfl rfl ?_)
    have h2 := mirr_2 (L := L) (xs := xs) (g0 := g0) (g1 := g1) (g2 := g2) (g3 := g3) (g4 := g4) (g5 := g5) (g6 := g6) (g7 := g7) (g8 := g8) (g9 := g9) (g10 := g10) (g11 := g11) (g12 := g12) (g13 := g13) (g14 := g14) (th := th) (w := w) (q := q) (tm := tm) (sd := sd) (ed := ed) (ra := ra) (fr := fr) (ah := ah) (wt := wt) (mv := mv) (cn := cn) (mc := mc) (mk := mk) (rest := rest) (bi := upd bi c (nI (rtN β 3))) (bk := bkD bk (s - 1) (dmI β 6)) (gp := gpD s gp (dmI β 6 1)) (gq := gpD s gq (dmI β 6 2)) (c := c) (u2 := .int (nI β)) hcn hok cn 0 (Nat.zero_add _)
    rw [pre_0] at h2
    exact h2) 6 0 rfl
  rw [dmI, bkD_0, gpD_0, gpD_0] at h
  show Ev L xs 95 (0, [.ref 15, .int (nI c), ac_un, ac_un], [], _, 0, 0) _
  (repeat refine ev_step rfl rfl ?_)
  refine ev_ia rfl rfl (c) (rfl) (hc) (by omega) ?_
  rw [hb]
  (repeat refine ev_step rfl rfl ?_)
  refine ev_i2 rfl rfl (Nat.le_of_ble_eq_true rfl) (Nat.le_of_ble_eq_true rfl) rfl (mt_turn3 hβ _) ?_
  refine ev_is rfl rfl (c) (rfl) (hc) (by omega) rfl ?_
  iterate 2 (refine ev_step rfl rfl ?_)
  exact h
theorem drain_1 {L : Nat} {xs : Nat → Int32} {g0 g1 g2 g3 g4 g5 g6 g7 g8 g9 g10 g11 g12 g13 g14 : ac_C} {th : Int32} {w q : Nat} {tm sd : Int32} {bi ed ra fr ah bk : Nat → Int32} {wt gp gq mv : Int32} {cn : Nat} {mc mk : Nat → Int32} {rest : ac_H} {R : ac_R} {c β : Nat} (hc : c < 256) (hβ : β < 128) (hb : bi c = nI β) (kk : Ev L xs 96 (34, [.ref 15, .int (nI c), .int (nI 7)], [], (MH g0 g1 g2 g3 g4 g5 g6 g7 g8 g9 g10 g11 g12 g13 g14 th w q tm sd bi ed ra fr ah (bkD bk (3 - 1) (ddI β 7)) wt (gpD 3 gp (ddI β 7 1)) (gpD 3 gq (ddI β 7 2)) mv cn mc mk rest), 0, 0) R) : ∀ (n i : Nat), i + n = 7 → Ev L xs 96 (2, [.ref 15, .int (nI c), .int (nI i)], [], (MH g0 g1 g2 g3 g4 g5 g6 g7 g8 g9 g10 g11 g12 g13 g14 th w q tm sd bi ed ra fr ah (bkD bk (3 - 1) (ddI β i)) wt (gpD 3 gp (ddI β i 1)) (gpD 3 gq (ddI β i 2)) mv cn mc mk rest), 0, 0) R := by
  intro n
  induction n with
  | zero =>
    intro i hi
    have e : i = 7 := by omega
    subst e
    iterate 3 (refine ev_step rfl rfl ?_)
    exact kk
  | succ n ih =>
    intro i hi
    have ih1 := ih (i + 1) (by omega)
    rw [ddI] at ih1
    iterate 3 (refine ev_step rfl rfl ?_)
    refine ev_f (nI_ge (a := i) (b := 7) (by omega) (by decide)) ?_
    (repeat refine ev_step rfl rfl ?_)
    refine ev_ia rfl rfl (c) (rfl) (hc) (by omega) ?_
    rw [hb]
    (repeat refine ev_step rfl rfl ?_)
    refine ev_i2 rfl rfl (Nat.le_of_ble_eq_true rfl) (Nat.le_of_ble_eq_true rfl) rfl (mt_has hβ (show i < 7 by omega) _) ?_
    cases hbit : β.testBit i with
    | false =>
      rw [hbit, if_neg (by decide)] at ih1
      iterate 3 (refine ev_step rfl rfl ?_)
      rw [nI_1]
      exact ih1
    | true =>
      rw [hbit, if_pos rfl] at ih1
      (repeat refine ev_step rfl rfl ?_)
      refine ev_v4 rfl rfl (Nat.le_of_ble_eq_true rfl) (Nat.le_of_ble_eq_true rfl) rfl (mm_noteD (s := 3) (by decide) (by decide) (show i < 7 by omega)) ?_
      iterate 2 (refine ev_step rfl rfl ?_)
      rw [nI_1]
      exact ih1
theorem drain_2 {L : Nat} {xs : Nat → Int32} {g0 g1 g2 g3 g4 g5 g6 g7 g8 g9 g10 g11 g12 g13 g14 : ac_C} {th : Int32} {w q : Nat} {tm sd : Int32} {bi ed ra fr ah bk : Nat → Int32} {wt gp gq mv : Int32} {cn : Nat} {mc mk : Nat → Int32} {rest : ac_H} {c : Nat} (hcn : cn ≤ 4) : ∀ (n i : Nat), i + n = cn → Ev L xs 96 (43, [.ref 15, .int (nI c), .int (nI i)], [], (MH g0 g1 g2 g3 g4 g5 g6 g7 g8 g9 g10 g11 g12 g13 g14 th w q tm sd bi ed ra fr ah bk wt gp gq mv cn (pre i (loF (nI c) mc) mc) mk rest), 0, 0) (.inl none, (MH g0 g1 g2 g3 g4 g5 g6 g7 g8 g9 g10 g11 g12 g13 g14 th w q tm sd bi ed ra fr ah bk wt gp gq mv cn (pre cn (loF (nI c) mc) mc) mk rest), 0, 0) := by
  intro n
  induction n with
  | zero =>
    intro i hi
    have e : i = cn := by omega
    rw [e]
    (repeat refine ev_step rfl rfl ?_)
    refine ev_t (nI_le (Nat.le_refl _) (by omega)) ?_
    exact ev_r0 rfl
  | succ n ih =>
    intro i hi
    have ih1 := ih (i + 1) (by omega)
    rw [← pre_put] at ih1
    (repeat refine ev_step rfl rfl ?_)
    refine ev_f (nI_ge (a := i) (b := cn) (by omega) (by omega)) ?_
    (repeat refine ev_step rfl rfl ?_)
    refine ev_ia rfl rfl (i) (rfl) (by omega) (by omega) ?_
    rw [pre_at]
    iterate 2 (refine ev_step rfl rfl ?_)
    refine ev_br (fun z => ?_) (fun z => ?_)
    · rw [show loF (nI c) mc i = -1 from if_pos z] at ih1
      (repeat refine ev_step rfl rfl ?_)
      refine ev_is rfl rfl (i) (rfl) (by omega) (by omega) rfl ?_
      iterate 2 (refine ev_step rfl rfl ?_)
      rw [nI_1]
      exact ih1
    · rw [show loF (nI c) mc i = mc i from if_neg z] at ih1
      (repeat refine ev_step rfl rfl ?_)
      refine ev_ia rfl rfl (i) (rfl) (by omega) (by omega) ?_
      rw [pre_at]
      refine ev_is rfl rfl (i) (rfl) (by omega) (by omega) rfl ?_
      iterate 2 (refine ev_step rfl rfl ?_)
      rw [nI_1]
      exact ih1
theorem mm_drain {L : Nat} {xs : Nat → Int32} {g0 g1 g2 g3 g4 g5 g6 g7 g8 g9 g10 g11 g12 g13 g14 : ac_C} {th : Int32} {w q : Nat} {tm sd : Int32} {bi ed ra fr ah bk : Nat → Int32} {wt gp gq mv : Int32} {cn : Nat} {mc mk : Nat → Int32} {rest : ac_H} {c β : Nat} (hc : c < 256) (hβ : β < 128) (hb : bi c = nI β) (hcn : cn ≤ 4) : Mt L xs 96 [.ref 15, .int (nI c)] (MH g0 g1 g2 g3 g4 g5 g6 g7 g8 g9 g10 g11 g12 g13 g14 th w q tm sd bi ed ra fr ah bk wt gp gq mv cn mc mk rest) none (MH g0 g1 g2 g3 g4 g5 g6 g7 g8 g9 g10 g11 g12 g13 g14 th w q tm sd (upd bi c 0) ed ra fr ah (bkF bk 2 0 β) wt gp gq mv cn (pre cn (loF (nI c) mc) mc) mk rest) 0 0 := by
  rw [bkF_D, ← bkD_congr (d := ddI β 7) (fun f hf => dd_7 β hβ f hf)]
  have h := drain_1 (L := L) (xs := xs) (g0 := g0) (g1 := g1) (g2 := g2) (g3 := g3) (g4 := g4) (g5 := g5) (g6 := g6) (g7 := g7) (g8 := g8) (g9 := g9) (g10 := g10) (g11 := g11) (g12 := g12) (g13 := g13) (g14 := g14) (th := th) (w := w) (q := q) (tm := tm) (sd := sd) (bi := bi) (ed := ed) (ra := ra) (fr := fr) (ah := ah) (bk := bk) (wt := wt) (gp := gp) (gq := gq) (mv := mv) (cn := cn) (mc := mc) (mk := mk) (rest := rest) (R := (.inl none, (MH g0 g1 g2 g3 g4 g5 g6 g7 g8 g9 g10 g11 g12 g13 g14 th w q tm sd (upd bi c 0) ed ra fr ah (bkD bk 2 (ddI β 7)) wt gp gq mv cn (pre cn (loF (nI c) mc) mc) mk rest), 0, 0)) hc hβ hb (by
    (repeat refine ev_step rfl rfl ?_)
    refine ev_is rfl rfl (c) (rfl) (hc) (by omega) rfl ?_
    iterate 2 (refine ev_step rfl rfl ?_)
    have h2 := drain_2 (L := L) (xs := xs) (g0 := g0) (g1 := g1) (g2 := g2) (g3 := g3) (g4 := g4) (g5 := g5) (g6 := g6) (g7 := g7) (g8 := g8) (g9 := g9) (g10 := g10) (g11 := g11) (g12 := g12) (g13 := g13) (g14 := g14) (th := th) (w := w) (q := q) (tm := tm) (sd := sd) (ed := ed) (ra := ra) (fr := fr) (ah := ah) (wt := wt) (mv := mv) (cn := cn) (mc := mc) (mk := mk) (rest := rest) (bi := upd bi c 0) (bk := bkD bk 2 (ddI β 7)) (gp := gp) (gq := gq) (c := c) hcn cn 0 (Nat.zero_add _)
    rw [pre_0] at h2
    exact h2) 7 0 rfl
  rw [ddI, bkD_0] at h
  show Ev L xs 96 (0, [.ref 15, .int (nI c), ac_un], [], _, 0, 0) _
  iterate 2 (refine ev_step rfl rfl ?_)
  exact h
