/-! ===== the plain form: sums, books, marks ===== -/
theorem lt1 (u : Int32) : u < 1 ↔ u ≤ 0 := by
  rw [Int32.lt_iff_toInt_lt, Int32.le_iff_toInt_le]
  have e1 : (1 : Int32).toInt = 1 := by decide
  have e0 : (0 : Int32).toInt = 0 := by decide
  rw [e1, e0]
  omega
theorem mt_worth {L : Nat} {xs : Nat → Int32} {b f : Nat} (hb : b < 128) (hf : f < 3) (H : ac_H) : Mt L xs 106 [.int (nI b), .int (nI f)] H (some (.int (amI b f))) H 0 0 := pu_mt (by decide) (tr_worth b hb f hf) H
theorem msum_in {L : Nat} {xs : Nat → Int32} {g0 g1 g2 g3 g4 g5 g6 g7 g8 g9 g10 g11 g12 g13 g14 : ac_C} {th : Int32} {w q : Nat} {tm sd : Int32} {bi ed ra fr ah bk : Nat → Int32} {wt gp gq mv : Int32} {cn : Nat} {mc mk : Nat → Int32} {rest : ac_H} {a b W Hh f r : Nat} (hw : sideOk w) (hq : sideOk q) (hW : a + W ≤ w) (hr : b + r < q) (hH : Hh ≤ q) (hf : f < 3) (hok : btOk (w * q) bi) {R : ac_R} {u6 : Value} : ∀ (n i : Nat) (t : Int32), i + n = W →
    (Ev L xs 107 (139, [.ref 15, .int (nI a), .int (nI b), .int (nI W), .int (nI Hh), .int (nI f), u6, .int (smF (suG bi f (b * w + a + r * w)) n i t), .int (nI r), .int (nI W)], [], (MH g0 g1 g2 g3 g4 g5 g6 g7 g8 g9 g10 g11 g12 g13 g14 th w q tm sd bi ed ra fr ah bk wt gp gq mv cn mc mk rest), 0, 0) R) →
    Ev L xs 107 (98, [.ref 15, .int (nI a), .int (nI b), .int (nI W), .int (nI Hh), .int (nI f), u6, .int t, .int (nI r), .int (nI i)], [], (MH g0 g1 g2 g3 g4 g5 g6 g7 g8 g9 g10 g11 g12 g13 g14 th w q tm sd bi ed ra fr ah bk wt gp gq mv cn mc mk rest), 0, 0) R := by
  have hn := side_n hw hq
  have hw2 := hw.2.1
  have hq2 := hq.2.1
  intro n
  induction n with
  | zero =>
    intro i t hi k
    have e : i = W := by omega
    subst e
    iterate 3 (refine ev_step rfl rfl ?_)
    refine ev_t (nI_le (Nat.le_refl i) (by omega)) ?_
    exact k
  | succ n ih =>
    intro i t hi k
    have hcell : b * w + a + r * w + i < w * q := by
      have h := cell_lt (w := w) (q := q) (a := a + i) (b := b + r) (by omega) hr
      rw [Nat.add_mul] at h
      omega
    obtain ⟨β, hβ, hbi⟩ := hok _ hcell
    have ih1 := ih (i + 1) (t + suG bi f (b * w + a + r * w) i) (by omega) k
    have e9 : suG bi f (b * w + a + r * w) i = amI β f := by unfold suG; rw [hbi, nI_clamp (by omega)]
    rw [e9] at ih1
    iterate 3 (refine ev_step rfl rfl ?_)
    refine ev_f (nI_ge (a := i) (b := W) (by omega) (by omega)) ?_
    (repeat refine ev_step rfl rfl ?_)
    refine ev_ia rfl rfl (b * w + a + r * w + i) (by rw [nI_add, nI_mulw, nI_add, Nat.add_mul]; congr 1; omega) (by omega) (by omega) ?_
    rw [hbi]
    (repeat refine ev_step rfl rfl ?_)
    refine ev_i2 rfl rfl (Nat.le_of_ble_eq_true rfl) (Nat.le_of_ble_eq_true rfl) rfl (mt_worth hβ hf _) ?_
    iterate 4 (refine ev_step rfl rfl ?_)
    rw [nI_1]
    exact ih1
theorem msum_out {L : Nat} {xs : Nat → Int32} {g0 g1 g2 g3 g4 g5 g6 g7 g8 g9 g10 g11 g12 g13 g14 : ac_C} {th : Int32} {w q : Nat} {tm sd : Int32} {bi ed ra fr ah bk : Nat → Int32} {wt gp gq mv : Int32} {cn : Nat} {mc mk : Nat → Int32} {rest : ac_H} {a b W Hh f : Nat} (hw : sideOk w) (hq : sideOk q) (hW : a + W ≤ w) (hH : b + Hh ≤ q) (hf : f < 3) (hok : btOk (w * q) bi) (hth : th = 0) {u6 : Value} : ∀ (n r : Nat) (t : Int32) (u : Value), r + n = Hh → Ev L xs 107 (81, [.ref 15, .int (nI a), .int (nI b), .int (nI W), .int (nI Hh), .int (nI f), u6, .int t, .int (nI r), u], [], (MH g0 g1 g2 g3 g4 g5 g6 g7 g8 g9 g10 g11 g12 g13 g14 th w q tm sd bi ed ra fr ah bk wt gp gq mv cn mc mk rest), 0, 0) (.inl (some (.int (srF bi f w W (b * w + a) n r t))), (MH g0 g1 g2 g3 g4 g5 g6 g7 g8 g9 g10 g11 g12 g13 g14 th w q tm sd bi ed ra fr ah bk wt gp gq mv cn mc mk rest), 0, 0) := by
  have hq2 := hq.2.1
  subst hth
  intro n
  induction n with
  | zero =>
    intro r t u hr
    iterate 6 (refine ev_step rfl rfl ?_)
    refine ev_t (nI_le (a := Hh) (b := r) (by omega) (by omega)) ?_
    (repeat refine ev_step rfl rfl ?_)
    exact ev_r1 rfl
  | succ n ih =>
    intro r t u hr
    rw [srF]
    iterate 6 (refine ev_step rfl rfl ?_)
    refine ev_f (nI_ge (a := r) (b := Hh) (by omega) (by omega)) ?_
    iterate 2 (refine ev_step rfl rfl ?_)
    refine msum_in hw hq hW (r := r) (by omega) (by omega) hf hok W 0 t (Nat.zero_add _) ?_
    iterate 2 (refine ev_step rfl rfl ?_)
    rw [nI_1]
    exact ih (r + 1) _ _ (by omega)
theorem mm_sum {L : Nat} {xs : Nat → Int32} {g0 g1 g2 g3 g4 g5 g6 g7 g8 g9 g10 g11 g12 g13 g14 : ac_C} {th : Int32} {w q : Nat} {tm sd : Int32} {bi ed ra fr ah bk : Nat → Int32} {wt gp gq mv : Int32} {cn : Nat} {mc mk : Nat → Int32} {rest : ac_H} {a b W Hh f : Nat} (hw : sideOk w) (hq : sideOk q) (ha : a < w) (hb : b < q) (h1 : 0 < W) (h2 : 0 < Hh) (hW : a + W ≤ w) (hH : b + Hh ≤ q) (hf : f < 3) (hok : btOk (w * q) bi) : Mt L xs 107 [.ref 15, .int (nI a), .int (nI b), .int (nI W), .int (nI Hh), .int (nI f)] (MH g0 g1 g2 g3 g4 g5 g6 g7 g8 g9 g10 g11 g12 g13 g14 th w q tm sd bi ed ra fr ah bk wt gp gq mv cn mc mk rest) (some (.int (srF bi f w W (b * w + a) Hh 0 0))) (MH g0 g1 g2 g3 g4 g5 g6 g7 g8 g9 g10 g11 g12 g13 g14 (0) w q tm sd bi ed ra fr ah bk wt gp gq mv cn mc mk rest) 0 0 := by
  have hw2 := hw.2.1
  have hq2 := hq.2.1
  show Ev L xs 107 (0, [.ref 15, .int (nI a), .int (nI b), .int (nI W), .int (nI Hh), .int (nI f), ac_un, ac_un, ac_un, ac_un], [], _, 0, 0) _
  (repeat refine ev_step rfl rfl ?_)
  refine ev_i3 rfl rfl (Nat.le_of_ble_eq_true rfl) (Nat.le_of_ble_eq_true rfl) rfl (mm_isCell hw hq ha hb) ?_
  (repeat refine ev_step rfl rfl ?_)
  refine ev_f (nI_nle h1 (by omega)) ?_
  (repeat refine ev_step rfl rfl ?_)
  refine ev_f (nI_nle h2 (by omega)) ?_
  (repeat refine ev_step rfl rfl ?_)
  rw [pk_sub (a := w) (b := a) (by omega)]
  refine ev_f (nI_nlt (a := w - a) (b := W) (by omega) (by omega)) ?_
  (repeat refine ev_step rfl rfl ?_)
  rw [pk_sub (a := q) (b := b) (by omega)]
  refine ev_f (nI_nlt (a := q - b) (b := Hh) (by omega) (by omega)) ?_
  (repeat refine ev_step rfl rfl ?_)
  refine ev_f (nI_pos (by omega)) ?_
  (repeat refine ev_step rfl rfl ?_)
  refine ev_t (nI_le (a := f) (b := 2) (by omega) (by decide)) ?_
  iterate 6 (refine ev_step rfl rfl ?_)
  exact msum_out hw hq hW hH hf hok rfl Hh 0 0 _ (Nat.zero_add _)
theorem mm_sum1 {L : Nat} {xs : Nat → Int32} {g0 g1 g2 g3 g4 g5 g6 g7 g8 g9 g10 g11 g12 g13 g14 : ac_C} {th : Int32} {w q : Nat} {tm sd : Int32} {bi ed ra fr ah bk : Nat → Int32} {wt gp gq mv : Int32} {cn : Nat} {mc mk : Nat → Int32} {rest : ac_H} {x y u v f : Int32} (h : badXY w q x y) : Mt L xs 107 [.ref 15, .int x, .int y, .int u, .int v, .int f] (MH g0 g1 g2 g3 g4 g5 g6 g7 g8 g9 g10 g11 g12 g13 g14 th w q tm sd bi ed ra fr ah bk wt gp gq mv cn mc mk rest) (some (.int 0)) (MH g0 g1 g2 g3 g4 g5 g6 g7 g8 g9 g10 g11 g12 g13 g14 (1) w q tm sd bi ed ra fr ah bk wt gp gq mv cn mc mk rest) 0 0 := by
  show Ev L xs 107 (0, [.ref 15, .int x, .int y, .int u, .int v, .int f, ac_un, ac_un, ac_un, ac_un], [], _, 0, 0) _
  (repeat refine ev_step rfl rfl ?_)
  refine ev_i3 rfl rfl (Nat.le_of_ble_eq_true rfl) (Nat.le_of_ble_eq_true rfl) rfl (mm_noCell h) ?_
  (repeat refine ev_step rfl rfl ?_)
  exact ev_r1 rfl
theorem mm_sum2 {L : Nat} {xs : Nat → Int32} {g0 g1 g2 g3 g4 g5 g6 g7 g8 g9 g10 g11 g12 g13 g14 : ac_C} {th : Int32} {w q : Nat} {tm sd : Int32} {bi ed ra fr ah bk : Nat → Int32} {wt gp gq mv : Int32} {cn : Nat} {mc mk : Nat → Int32} {rest : ac_H} {a b : Nat} {u v f : Int32} (hw : sideOk w) (hq : sideOk q) (ha : a < w) (hb : b < q) (h : badR w q a b u v) : Mt L xs 107 [.ref 15, .int (nI a), .int (nI b), .int u, .int v, .int f] (MH g0 g1 g2 g3 g4 g5 g6 g7 g8 g9 g10 g11 g12 g13 g14 th w q tm sd bi ed ra fr ah bk wt gp gq mv cn mc mk rest) (some (.int 0)) (MH g0 g1 g2 g3 g4 g5 g6 g7 g8 g9 g10 g11 g12 g13 g14 (1) w q tm sd bi ed ra fr ah bk wt gp gq mv cn mc mk rest) 0 0 := by
  show Ev L xs 107 (0, [.ref 15, .int (nI a), .int (nI b), .int u, .int v, .int f, ac_un, ac_un, ac_un, ac_un], [], _, 0, 0) _
  (repeat refine ev_step rfl rfl ?_)
  refine ev_i3 rfl rfl (Nat.le_of_ble_eq_true rfl) (Nat.le_of_ble_eq_true rfl) rfl (mm_isCell hw hq ha hb) ?_
  (repeat refine ev_step rfl rfl ?_)
  refine ev_br (fun _ => by (repeat refine ev_step rfl rfl ?_); exact ev_r1 rfl) (fun h1 => ?_)
  (repeat refine ev_step rfl rfl ?_)
  refine ev_br (fun _ => by (repeat refine ev_step rfl rfl ?_); exact ev_r1 rfl) (fun h2 => ?_)
  (repeat refine ev_step rfl rfl ?_)
  rw [pk_sub (a := w) (b := a) (by omega)]
  refine ev_br (fun _ => by (repeat refine ev_step rfl rfl ?_); exact ev_r1 rfl) (fun h3 => ?_)
  (repeat refine ev_step rfl rfl ?_)
  rw [pk_sub (a := q) (b := b) (by omega)]
  refine ev_br (fun _ => by (repeat refine ev_step rfl rfl ?_); exact ev_r1 rfl) (fun h4 => ?_)
  exact absurd h (fun z => by
    rcases z with z | z | z | z
    · exact h1 ((lt1 u).mp z)
    · exact h3 z
    · exact h2 ((lt1 v).mp z)
    · exact z (Int32.not_lt.mp h4))
theorem mm_sum3 {L : Nat} {xs : Nat → Int32} {g0 g1 g2 g3 g4 g5 g6 g7 g8 g9 g10 g11 g12 g13 g14 : ac_C} {th : Int32} {w q : Nat} {tm sd : Int32} {bi ed ra fr ah bk : Nat → Int32} {wt gp gq mv : Int32} {cn : Nat} {mc mk : Nat → Int32} {rest : ac_H} {a b : Nat} {u v f : Int32} (hw : sideOk w) (hq : sideOk q) (ha : a < w) (hb : b < q) (h : ¬ badR w q a b u v) (hf : f < 0 ∨ ¬ f ≤ 2) : Mt L xs 107 [.ref 15, .int (nI a), .int (nI b), .int u, .int v, .int f] (MH g0 g1 g2 g3 g4 g5 g6 g7 g8 g9 g10 g11 g12 g13 g14 th w q tm sd bi ed ra fr ah bk wt gp gq mv cn mc mk rest) (some (.int 0)) (MH g0 g1 g2 g3 g4 g5 g6 g7 g8 g9 g10 g11 g12 g13 g14 (2) w q tm sd bi ed ra fr ah bk wt gp gq mv cn mc mk rest) 0 0 := by
  show Ev L xs 107 (0, [.ref 15, .int (nI a), .int (nI b), .int u, .int v, .int f, ac_un, ac_un, ac_un, ac_un], [], _, 0, 0) _
  (repeat refine ev_step rfl rfl ?_)
  refine ev_i3 rfl rfl (Nat.le_of_ble_eq_true rfl) (Nat.le_of_ble_eq_true rfl) rfl (mm_isCell hw hq ha hb) ?_
  (repeat refine ev_step rfl rfl ?_)
  refine ev_f (fun z => h (Or.inl ((lt1 u).mpr z))) ?_
  (repeat refine ev_step rfl rfl ?_)
  refine ev_f (fun z => h (Or.inr (Or.inr (Or.inl ((lt1 v).mpr z))))) ?_
  (repeat refine ev_step rfl rfl ?_)
  rw [pk_sub (a := w) (b := a) (by omega)]
  refine ev_f (fun z => h (Or.inr (Or.inl z))) ?_
  (repeat refine ev_step rfl rfl ?_)
  rw [pk_sub (a := q) (b := b) (by omega)]
  refine ev_f (fun z => h (Or.inr (Or.inr (Or.inr (Int32.not_le.mpr z))))) ?_
  (repeat refine ev_step rfl rfl ?_)
  refine ev_br (fun _ => by (repeat refine ev_step rfl rfl ?_); exact ev_r1 rfl) (fun h1 => ?_)
  (repeat refine ev_step rfl rfl ?_)
  refine ev_f (fun h2 => hf.elim h1 (fun z => z h2)) ?_
  (repeat refine ev_step rfl rfl ?_)
  exact ev_r1 rfl
theorem mm_book {L : Nat} {xs : Nat → Int32} {g0 g1 g2 g3 g4 g5 g6 g7 g8 g9 g10 g11 g12 g13 g14 : ac_C} {th : Int32} {w q : Nat} {tm sd : Int32} {bi ed ra fr ah bk : Nat → Int32} {wt gp gq mv : Int32} {cn : Nat} {mc mk : Nat → Int32} {rest : ac_H} {κ f : Nat} (hκ : κ < 4) (hf : f < 3) : Mt L xs 108 [.ref 15, .int (nI κ), .int (nI f)] (MH g0 g1 g2 g3 g4 g5 g6 g7 g8 g9 g10 g11 g12 g13 g14 th w q tm sd bi ed ra fr ah bk wt gp gq mv cn mc mk rest) (some (.int (bk (κ * 3 + f)))) (MH g0 g1 g2 g3 g4 g5 g6 g7 g8 g9 g10 g11 g12 g13 g14 (0) w q tm sd bi ed ra fr ah bk wt gp gq mv cn mc mk rest) 0 0 := by
  show Ev L xs 108 (0, [.ref 15, .int (nI κ), .int (nI f)], [], _, 0, 0) _
  (repeat refine ev_step rfl rfl ?_)
  refine ev_f (nI_pos (by omega)) ?_
  (repeat refine ev_step rfl rfl ?_)
  refine ev_f (nI_nlt (a := 3) (b := κ) (by omega) (by decide)) ?_
  (repeat refine ev_step rfl rfl ?_)
  refine ev_f (nI_pos (by omega)) ?_
  (repeat refine ev_step rfl rfl ?_)
  refine ev_t (nI_le (a := f) (b := 2) (by omega) (by decide)) ?_
  (repeat refine ev_step rfl rfl ?_)
  refine ev_ia rfl rfl (κ * 3 + f) (by rw [show (3 : Int32) * nI κ = nI (3 * κ) from pk_mul 3 κ, nI_add, Nat.mul_comm]) (by omega) (by decide) ?_
  exact ev_r1 rfl
theorem mm_book1 {L : Nat} {xs : Nat → Int32} {g0 g1 g2 g3 g4 g5 g6 g7 g8 g9 g10 g11 g12 g13 g14 : ac_C} {th : Int32} {w q : Nat} {tm sd : Int32} {bi ed ra fr ah bk : Nat → Int32} {wt gp gq mv : Int32} {cn : Nat} {mc mk : Nat → Int32} {rest : ac_H} {u v : Int32} (h : u < 0 ∨ 3 < u ∨ v < 0 ∨ ¬ v ≤ 2) : Mt L xs 108 [.ref 15, .int u, .int v] (MH g0 g1 g2 g3 g4 g5 g6 g7 g8 g9 g10 g11 g12 g13 g14 th w q tm sd bi ed ra fr ah bk wt gp gq mv cn mc mk rest) (some (.int 0)) (MH g0 g1 g2 g3 g4 g5 g6 g7 g8 g9 g10 g11 g12 g13 g14 (1) w q tm sd bi ed ra fr ah bk wt gp gq mv cn mc mk rest) 0 0 := by
  show Ev L xs 108 (0, [.ref 15, .int u, .int v], [], _, 0, 0) _
  (repeat refine ev_step rfl rfl ?_)
  refine ev_br (fun _ => by (repeat refine ev_step rfl rfl ?_); exact ev_r1 rfl) (fun h1 => ?_)
  (repeat refine ev_step rfl rfl ?_)
  refine ev_br (fun _ => by (repeat refine ev_step rfl rfl ?_); exact ev_r1 rfl) (fun h2 => ?_)
  (repeat refine ev_step rfl rfl ?_)
  refine ev_br (fun _ => by (repeat refine ev_step rfl rfl ?_); exact ev_r1 rfl) (fun h3 => ?_)
  (repeat refine ev_step rfl rfl ?_)
  refine ev_f (fun h4 => ?_) (by (repeat refine ev_step rfl rfl ?_); exact ev_r1 rfl)
  exact h.elim h1 (fun z => z.elim h2 (fun z => z.elim h3 (fun z => z h4)))
theorem smF_add (g : Nat → Int32) : ∀ (m n i : Nat) (t : Int32), smF g (m + n) i t = smF g n (i + m) (smF g m i t) := by
  intro m
  induction m with
  | zero => intro n i t; rw [Nat.zero_add]; rfl
  | succ m ih =>
    intro n i t
    rw [show m + 1 + n = (m + n) + 1 by omega, smF, smF, ih, show i + 1 + m = i + (m + 1) by omega]
theorem mcheck_x {L : Nat} {xs : Nat → Int32} {g0 g1 g2 g3 g4 g5 g6 g7 g8 g9 g10 g11 g12 g13 g14 : ac_C} {th : Int32} {w q : Nat} {tm sd : Int32} {bi ed ra fr ah bk : Nat → Int32} {wt gp gq mv : Int32} {cn : Nat} {mc mk : Nat → Int32} {rest : ac_H} {R : ac_R} {y : Nat} (hw : sideOk w) (hq : sideOk q) (hy : y < q) : ∀ (n x : Nat) (t : Int32), x + n = w → (Ev L xs 109 (58, [.ref 15, .int (smF (chG w bi) n (y * w + x) t), .int (nI y), .int (nI w)], [], (MH g0 g1 g2 g3 g4 g5 g6 g7 g8 g9 g10 g11 g12 g13 g14 th w q tm sd bi ed ra fr ah bk wt gp gq mv cn mc mk rest), 0, 0) R) → Ev L xs 109 (19, [.ref 15, .int t, .int (nI y), .int (nI x)], [], (MH g0 g1 g2 g3 g4 g5 g6 g7 g8 g9 g10 g11 g12 g13 g14 th w q tm sd bi ed ra fr ah bk wt gp gq mv cn mc mk rest), 0, 0) R := by
  have hn := side_n hw hq
  have hw2 := hw.2.1
  have hw1 := hw.1
  have hq2 := hq.2.1
  intro n
  induction n with
  | zero =>
    intro x t hx k
    have e : x = w := by omega
    rw [e]
    (repeat refine ev_step rfl rfl ?_)
    refine ev_t (nI_le (Nat.le_refl _) (by omega)) ?_
    exact k
  | succ n ih =>
    intro x t hx k
    have hc := cell_lt (show x < w by omega) hy
    rw [smF, show y * w + x + 1 = y * w + (x + 1) by omega] at k
    have e1 : chG w bi (y * w + x) = bi (y * w + x) * (16 * nI y + nI x + 1) := by
      unfold chG
      rw [show (y * w + x) / w = y by rw [Nat.add_comm, Nat.add_mul_div_right _ _ (by omega), Nat.div_eq_of_lt (by omega), Nat.zero_add], show (y * w + x) % w = x by rw [Nat.add_comm, Nat.add_mul_mod_self_right, Nat.mod_eq_of_lt (by omega)], Int32.mul_comm 16 (nI y)]
    rw [e1] at k
    have ih1 := ih (x + 1) _ (by omega) k
    (repeat refine ev_step rfl rfl ?_)
    refine ev_f (nI_ge (a := x) (b := w) (by omega) (by omega)) ?_
    (repeat refine ev_step rfl rfl ?_)
    rw [nI_mulw]
    refine ev_ia rfl rfl (y * w + x) (rfl) (by omega) (by omega) ?_
    (iterate 12 (refine ev_step rfl rfl ?_))
    rw [nI_1]
    exact ih1
theorem mm_check {L : Nat} {xs : Nat → Int32} {g0 g1 g2 g3 g4 g5 g6 g7 g8 g9 g10 g11 g12 g13 g14 : ac_C} {th : Int32} {w q : Nat} {tm sd : Int32} {bi ed ra fr ah bk : Nat → Int32} {wt gp gq mv : Int32} {cn : Nat} {mc mk : Nat → Int32} {rest : ac_H} (hw : sideOk w) (hq : sideOk q) : Mt L xs 109 [.ref 15] (MH g0 g1 g2 g3 g4 g5 g6 g7 g8 g9 g10 g11 g12 g13 g14 th w q tm sd bi ed ra fr ah bk wt gp gq mv cn mc mk rest) (some (.int (smF (chG w bi) (w * q) 0 0))) (MH g0 g1 g2 g3 g4 g5 g6 g7 g8 g9 g10 g11 g12 g13 g14 (0) w q tm sd bi ed ra fr ah bk wt gp gq mv cn mc mk rest) 0 0 := by
  have hn := side_n hw hq
  have hq2 := hq.2.1
  have it : ∀ (n y : Nat) (t : Int32) (u : Value), y + n = q → Ev L xs 109 (9, [.ref 15, .int t, .int (nI y), u], [], (MH g0 g1 g2 g3 g4 g5 g6 g7 g8 g9 g10 g11 g12 g13 g14 (0) w q tm sd bi ed ra fr ah bk wt gp gq mv cn mc mk rest), 0, 0) (.inl (some (.int (smF (chG w bi) (n * w) (y * w) t))), (MH g0 g1 g2 g3 g4 g5 g6 g7 g8 g9 g10 g11 g12 g13 g14 (0) w q tm sd bi ed ra fr ah bk wt gp gq mv cn mc mk rest), 0, 0) := by
    intro n
    induction n with
    | zero =>
      intro y t u hy
      have e : y = q := by omega
      rw [e, Nat.zero_mul]
      (repeat refine ev_step rfl rfl ?_)
      refine ev_t (nI_le (Nat.le_refl _) (by omega)) ?_
      (repeat refine ev_step rfl rfl ?_)
      exact ev_r1 rfl
    | succ n ih =>
      intro y t u hy
      rw [Nat.succ_mul, Nat.add_comm (n * w) w, smF_add]
      (repeat refine ev_step rfl rfl ?_)
      refine ev_f (nI_ge (a := y) (b := q) (by omega) (by omega)) ?_
      iterate 2 (refine ev_step rfl rfl ?_)
      refine mcheck_x hw hq (show y < q by omega) w 0 t (Nat.zero_add _) ?_
      iterate 2 (refine ev_step rfl rfl ?_)
      rw [nI_1, Nat.add_zero, show y * w + w = (y + 1) * w by rw [Nat.succ_mul]]
      exact ih (y + 1) _ _ (by omega)
  have h := it q 0 0 ac_un (Nat.zero_add _)
  rw [Nat.zero_mul, Nat.mul_comm q w] at h
  show Ev L xs 109 (0, [.ref 15, ac_un, ac_un, ac_un], [], _, 0, 0) _
  iterate 7 (refine ev_step rfl rfl ?_)
  exact h
