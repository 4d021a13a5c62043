/-! ===== the class: the edges ===== -/
def edOk (n : Nat) (ed : Nat → Int32) : Prop := ∀ i, i < n → ∃ s, s < 5 ∧ ed i = nI s
def sdN (s : Int32) : Int32 := s * 1103515245 + 12345
def itI (t : Int32 → Int32) : Nat → Int32 → Int32
  | 0, s => s
  | n + 1, s => itI t n (t s)
def sdI (n : Nat) (s : Int32) : Int32 := itI sdN n s
theorem itI_s (t : Int32 → Int32) (n : Nat) (s : Int32) : itI t (n + 1) s = itI t n (t s) := rfl
theorem sdI_s (n : Nat) (s : Int32) : sdI (n + 1) s = sdI n (sdN s) := itI_s sdN n s
/-- does the kind come -/
abbrev fdQ (v s : Int32) : Prop := v ≤ (ac_ush s 16 &&& 255)
def fdG (t : Int32 → Int32) (g : Int32 → Nat → Nat → Nat) : Nat → Nat → Nat → Int32 → Nat
  | 0, _, b, _ => b
  | n + 1, k, b, s => fdG t g n (k + 1) (g (t s) k b) (t s)
def fd1 (v s : Int32) (k b : Nat) : Nat := if fdQ v s then b else b ||| 2 ^ k
/-- a source's bits: the kind k comes if the seed says so -/
def fdN (v : Int32) (n k b : Nat) (s : Int32) : Nat := fdG sdN (fd1 v) n k b s
theorem fdN_0 (v : Int32) (k b : Nat) (s : Int32) : fdN v 0 k b s = b := rfl
theorem fdG_s (t : Int32 → Int32) (g : Int32 → Nat → Nat → Nat) (n k b : Nat) (s : Int32) : fdG t g (n + 1) k b s = fdG t g n (k + 1) (g (t s) k b) (t s) := rfl
theorem fdN_s (v : Int32) (n k b : Nat) (s : Int32) : fdN v (n + 1) k b s = fdN v n (k + 1) (fd1 v (sdN s) k b) (sdN s) := fdG_s sdN (fd1 v) n k b s
theorem or_lt {b k : Nat} (hb : b < 128) (hk : k < 7) : b ||| 2 ^ k < 128 := Nat.or_lt_two_pow (n := 7) hb (Nat.pow_lt_pow_right (by decide) hk)
theorem fd_lt (v : Int32) : ∀ (n k b : Nat) (s : Int32), k + n ≤ 7 → b < 128 → fdN v n k b s < 128 := by
  intro n
  induction n with
  | zero => intro k b s _ hb; exact hb
  | succ n ih =>
    intro k b s hk hb
    rw [fdN_s]
    refine ih _ _ _ (by omega) ?_
    unfold fd1
    split
    · exact hb
    · exact or_lt hb (by omega)
theorem or_bit : ∀ b, b < 128 → ∀ k, k < 7 → nI b ||| ((1 : Int32) <<< (nI k &&& 31)) = nI (b ||| 2 ^ k) := by decide +kernel
theorem mt_bounced {L : Nat} {xs : Nat → Int32} {b : Nat} (hb : b < 128) (H : ac_H) : Mt L xs 50 [.int (nI b)] H (some (.int (nI (rtN b 3)))) H 0 0 := pu_mt (by decide) (tr_bounced b hb) H
theorem fed_it {L : Nat} {xs : Nat → Int32} {w q : Nat} {nb ed ra bk : Nat → Int32} {wt gp gq mv : Int32} {cn : Nat} {mc mk ga le : Nat → Int32} {sw : Bool} {bi ar : Nat → Int32} {tm : Int32} {rest : ac_H} {v x : Int32} : ∀ (n k b : Nat) (sd : Int32), k + n = 7 → b < 128 → Ev L xs 61 (5, [.ref 0, .int x, .int v, .int (nI b), .int (nI k)], [], (GH w q nb ed ra bk wt gp gq mv cn mc mk ga le sw bi ar tm sd rest), 0, 0) (.inl (some (.int (nI (fdN v n k b sd)))), (GH w q nb ed ra bk wt gp gq mv cn mc mk ga le sw bi ar tm (sdI n sd) rest), 0, 0) := by
  intro n
  induction n with
  | zero =>
    intro k b sd hk hb
    have e : k = 7 := by omega
    subst e
    (repeat refine ev_step rfl rfl ?_)
    exact ev_r1 rfl
  | succ n ih =>
    intro k b sd hk hb
    have ih1 := ih (k + 1)
    rw [fdN_s, sdI_s]
    (repeat refine ev_step rfl rfl ?_)
    refine ev_f (nI_ge (a := k) (b := 7) (by omega) (by decide)) ?_
    (repeat refine ev_step rfl rfl ?_)
    refine ev_br (fun z => ?_) (fun z => ?_)
    · rw [show fd1 v (sdN sd) k b = b from if_pos z]
      iterate 2 (refine ev_step rfl rfl ?_)
      rw [nI_1]
      exact ih1 b (sdN sd) (by omega) hb
    · rw [show fd1 v (sdN sd) k b = b ||| 2 ^ k from if_neg z]
      iterate 7 (refine ev_step rfl rfl ?_)
      rw [or_bit b hb k (by omega), nI_1]
      iterate 1 (refine ev_step rfl rfl ?_)
      exact ih1 (b ||| 2 ^ k) (sdN sd) (by omega) (or_lt hb (by omega))
theorem mt_fed {L : Nat} {xs : Nat → Int32} {w q : Nat} {nb ed ra bk : Nat → Int32} {wt gp gq mv : Int32} {cn : Nat} {mc mk ga le : Nat → Int32} {sw : Bool} {bi ar : Nat → Int32} {tm sd : Int32} {rest : ac_H} {v : Int32} {b : Nat} (hb : b < 128) : Mt L xs 61 [.ref 0, .int (nI b), .int v] (GH w q nb ed ra bk wt gp gq mv cn mc mk ga le sw bi ar tm sd rest) (some (.int (nI (fdN v 7 0 b sd)))) (GH w q nb ed ra bk wt gp gq mv cn mc mk ga le sw bi ar tm (sdI 7 sd) rest) 0 0 := by
  show Ev L xs 61 (0, [.ref 0, .int (nI b), .int v, ac_un, ac_un], [], _, 0, 0) _
  iterate 4 (refine ev_step rfl rfl ?_)
  exact fed_it 7 0 b sd rfl hb
/-- a cell's bits behind its edge -/
def alN (s : Nat) (v : Int32) (b : Nat) (sd : Int32) : Nat := if s = 3 then 0 else if s = 2 then fdN v 7 0 b sd else rtN b 3
theorem al_lt {s : Nat} {v : Int32} {b : Nat} {sd : Int32} (hb : b < 128) : alN s v b sd < 128 := by
  unfold alN
  split
  · decide
  · split
    · exact fd_lt _ _ _ _ _ (by decide) hb
    · exact rt_lt b hb
theorem mt_edgeBits {L : Nat} {xs : Nat → Int32} {w q : Nat} {nb ed ra bk : Nat → Int32} {wt gp gq mv : Int32} {cn : Nat} {mc mk ga le : Nat → Int32} {sw : Bool} {bi ar : Nat → Int32} {tm sd : Int32} {rest : ac_H} {v : Int32} {b s : Nat} (hb : b < 128) (hs : s < 5) : Mt L xs 60 [.ref 0, .int (nI s), .int (nI b), .int v] (GH w q nb ed ra bk wt gp gq mv cn mc mk ga le sw bi ar tm sd rest) (some (.int (nI (alN s v b sd)))) (GH w q nb ed ra bk wt gp gq mv cn mc mk ga le sw bi ar tm (if s = 2 then sdI 7 sd else sd) rest) 0 0 := by
  show Ev L xs 60 (0, [.ref 0, .int (nI s), .int (nI b), .int v], [], _, 0, 0) _
  unfold alN
  (repeat refine ev_step rfl rfl ?_)
  refine ev_br (fun z => ?_) (fun z => ?_)
  · have z1 : s = 3 := (nI_eq (a := s) (b := 3) (by omega) (by decide)).mp z
    rw [if_pos z1, if_neg (show ¬ s = 2 by omega)]
    (repeat refine ev_step rfl rfl ?_)
    exact ev_r1 rfl
  · have z1 : s ≠ 3 := fun q => z (by rw [q]; rfl)
    rw [if_neg z1]
    (repeat refine ev_step rfl rfl ?_)
    refine ev_br (fun z => ?_) (fun z => ?_)
    · have z2 : s = 2 := (nI_eq (a := s) (b := 2) (by omega) (by decide)).mp z
      rw [if_pos z2, if_pos z2]
      (repeat refine ev_step rfl rfl ?_)
      refine ev_i3 rfl rfl (Nat.le_of_ble_eq_true rfl) (Nat.le_of_ble_eq_true rfl) rfl (mt_fed hb) ?_
      (repeat refine ev_step rfl rfl ?_)
      exact ev_r1 rfl
    · have z2 : s ≠ 2 := fun q => z (by rw [q]; rfl)
      rw [if_neg z2, if_neg z2]
      (repeat refine ev_step rfl rfl ?_)
      refine ev_i1 rfl rfl (Nat.le_of_ble_eq_true rfl) (Nat.le_of_ble_eq_true rfl) rfl (mt_bounced hb _) ?_
      exact ev_r1 rfl
abbrev E5 : Type := (Nat → Int32) × (Nat → Int32) × Int32 × Int32 × Int32
/-- one cell's edge: bits, books, the body's account, the seed -/
def egC (ed ra : Nat → Int32) (c : Nat) (X : E5) : E5 :=
  if ed c = 0 then X else
  (upd X.1 c (nI (alN (ed c).toNatClampNeg (ra c) (X.1 c).toNatClampNeg X.2.2.2.2)),
   bkF X.2.1 ((ed c).toNatClampNeg - 1) (alN (ed c).toNatClampNeg (ra c) (X.1 c).toNatClampNeg X.2.2.2.2) (X.1 c).toNatClampNeg,
   (if (ed c).toNatClampNeg = 4 then X.2.2.1 - (amI (alN (ed c).toNatClampNeg (ra c) (X.1 c).toNatClampNeg X.2.2.2.2) 1 - amI (X.1 c).toNatClampNeg 1) else X.2.2.1),
   (if (ed c).toNatClampNeg = 4 then X.2.2.2.1 - (amI (alN (ed c).toNatClampNeg (ra c) (X.1 c).toNatClampNeg X.2.2.2.2) 2 - amI (X.1 c).toNatClampNeg 2) else X.2.2.2.1),
   (if (ed c).toNatClampNeg = 2 then sdI 7 X.2.2.2.2 else X.2.2.2.2))
def egF (ed ra : Nat → Int32) : Nat → Nat → E5 → E5
  | 0, _, X => X
  | n + 1, c, X => egF ed ra n (c + 1) (egC ed ra c X)
theorem egC_ok {n : Nat} {ed ra : Nat → Int32} {c : Nat} {X : E5} (h : btOk n X.1) : btOk n (egC ed ra c X).1 := by
  intro i hi
  unfold egC
  split
  · exact h i hi
  · show ∃ β, β < 128 ∧ upd _ _ _ i = nI β
    unfold upd
    split
    · rename_i e
      obtain ⟨β, hβ, hb⟩ := h i hi
      subst e
      rw [hb, nI_clamp (by omega)]
      exact ⟨_, al_lt hβ, rfl⟩
    · exact h i hi
theorem egF_ok {m : Nat} {ed ra : Nat → Int32} : ∀ (n c : Nat) (X : E5), btOk m X.1 → btOk m (egF ed ra n c X).1 := by
  intro n
  induction n with
  | zero => intro c X h; exact h
  | succ n ih => intro c X h; exact ih _ _ (egC_ok h)
theorem edges_it {L : Nat} {xs : Nat → Int32} {w q : Nat} {nb ed ra bk : Nat → Int32} {wt gp gq mv : Int32} {cn : Nat} {mc mk ga le : Nat → Int32} {sw : Bool} {bi ar : Nat → Int32} {tm sd : Int32} {rest : ac_H} {R : ac_R} (hw : sideOk w) (hq : sideOk q) (hed : edOk (w * q) ed) : ∀ (n c : Nat) (X : E5) (u1 u2 u3 : Value), c + n = w * q → btOk (w * q) X.1 → (∀ u1 u2 u3, Ev L xs 59 (87, [.ref 0, .int (nI (w * q)), u1, u2, u3], [], (GH w q nb ed ra ((egF ed ra n c X).2.1) wt ((egF ed ra n c X).2.2.1) ((egF ed ra n c X).2.2.2.1) mv cn mc mk ga le sw ((egF ed ra n c X).1) ar tm ((egF ed ra n c X).2.2.2.2) rest), 0, 0) R) → Ev L xs 59 (2, [.ref 0, .int (nI c), u1, u2, u3], [], (GH w q nb ed ra (X.2.1) wt (X.2.2.1) (X.2.2.2.1) mv cn mc mk ga le sw (X.1) ar tm (X.2.2.2.2) rest), 0, 0) R := by
  have hn := side_n hw hq
  intro n
  induction n with
  | zero =>
    intro c X u1 u2 u3 hc hX k
    have e : c = w * q := by omega
    rw [e]
    (repeat refine ev_step rfl rfl ?_)
    refine ev_t (nI_le (Nat.le_refl _) (by omega)) ?_
    exact k u1 u2 u3
  | succ n ih =>
    intro c X u1 u2 u3 hc hX k
    obtain ⟨β, hβ, hb⟩ := hX c (by omega)
    obtain ⟨s, hs, he⟩ := hed c (by omega)
    rw [egF] at k
    have ih1 := fun u1 u2 u3 => ih (c + 1) (egC ed ra c X) u1 u2 u3 (by omega) (egC_ok hX) k
    have hα := al_lt (s := s) (v := ra c) (sd := X.2.2.2.2) hβ
    obtain ⟨b0, k0, p0, q0, s0⟩ := X
    dsimp only at hb hα ⊢
    unfold egC at ih1
    dsimp only at ih1
    cases sw
    all_goals
      (repeat refine ev_step rfl rfl ?_)
      refine ev_f (nI_ge (a := c) (b := w * q) (by omega) (by omega)) ?_
      (repeat refine ev_step rfl rfl ?_)
      refine ev_ia rfl rfl (c) (rfl) (by omega) (by omega) ?_
      iterate 3 (refine ev_step rfl rfl ?_)
      refine ev_br (fun z => ?_) (fun z => ?_)
      · rw [if_pos z] at ih1
        iterate 2 (refine ev_step rfl rfl ?_)
        rw [nI_1]
        exact ih1 _ _ _
      · have hs0 : s ≠ 0 := fun q => z (by rw [he, q]; rfl)
        rw [if_neg z, he, hb, nI_clamp (by omega), nI_clamp (by omega)] at ih1
        dsimp only at ih1
        rw [he]
        (repeat refine ev_step rfl rfl ?_)
        refine ev_ia rfl rfl (c) (rfl) (by omega) (by omega) ?_
        refine ev_tp (hb) ?_
        (repeat refine ev_step rfl rfl ?_)
        refine ev_ia rfl rfl (c) (rfl) (by omega) (by omega) ?_
        refine ev_i4 rfl rfl (Nat.le_of_ble_eq_true rfl) (Nat.le_of_ble_eq_true rfl) rfl (mt_edgeBits hβ hs) ?_
        (repeat refine ev_step rfl rfl ?_)
        refine ev_is rfl rfl (c) (rfl) (by omega) (by omega) rfl ?_
        iterate 5 (refine ev_step rfl rfl ?_)
        refine ev_tp (show nI s - 1 = nI (s - 1) by conv => { lhs; rw [show s = s - 1 + 1 by omega, nI_pred] }) ?_
        iterate 2 (refine ev_step rfl rfl ?_)
        refine ev_v4 rfl rfl (Nat.le_of_ble_eq_true rfl) (Nat.le_of_ble_eq_true rfl) rfl (mt_enter (by omega) hα hβ) ?_
        iterate 3 (refine ev_step rfl rfl ?_)
        refine ev_br (fun z => ?_) (fun z => ?_)
        · have z2 : s = 4 := (nI_eq (a := s) (b := 4) (by omega) (by decide)).mp z
          rw [if_pos z2, if_pos z2] at ih1
          iterate 4 (refine ev_step rfl rfl ?_)
          refine ev_v3 rfl rfl (Nat.le_of_ble_eq_true rfl) (Nat.le_of_ble_eq_true rfl) rfl (mt_receive hα hβ) ?_
          iterate 2 (refine ev_step rfl rfl ?_)
          rw [nI_1]
          exact ih1 _ _ _
        · have z2 : s ≠ 4 := fun q => z (by rw [q]; rfl)
          rw [if_neg z2, if_neg z2] at ih1
          iterate 2 (refine ev_step rfl rfl ?_)
          rw [nI_1]
          exact ih1 _ _ _
theorem mt_passEdges {L : Nat} {xs : Nat → Int32} {w q : Nat} {nb ed ra bk : Nat → Int32} {wt gp gq mv : Int32} {cn : Nat} {mc mk ga le : Nat → Int32} {sw : Bool} {bi ar : Nat → Int32} {tm sd : Int32} {rest : ac_H} (hw : sideOk w) (hq : sideOk q) (hed : edOk (w * q) ed) (hbt : btOk (w * q) bi) (hcn : cn ≤ 4) (hok : mkOk (w * q) cn mc mk) {X : E5} (hX : egF ed ra (w * q) 0 (bi, bk, gp, gq, sd) = X) : Mt L xs 59 [.ref 0] (GH w q nb ed ra bk wt gp gq mv cn mc mk ga le sw bi ar tm sd rest) none (GH w q nb ed ra (X.2.1) wt (X.2.2.1) (X.2.2.2.1) mv cn (pre cn (peC ed mc) mc) (pre cn (peK ed mc mk) mk) ga le sw (X.1) ar tm (X.2.2.2.2) rest) 0 0 := by
  have hn := side_n hw hq
  show Ev L xs 59 (0, [.ref 0, ac_un, ac_un, ac_un, ac_un], [], _, 0, 0) _
  iterate 2 (refine ev_step rfl rfl ?_)
  refine edges_it (bk := bk) (gp := gp) (gq := gq) (bi := bi) (sd := sd) hw hq hed (w * q) 0 (bi, bk, gp, gq, sd) _ _ _ (Nat.zero_add _) hbt (fun u1 u2 u3 => ?_)
  rw [hX]
  (repeat refine ev_step rfl rfl ?_)
  refine ev_v2 rfl rfl (Nat.le_of_ble_eq_true rfl) (Nat.le_of_ble_eq_true rfl) rfl (mt_mpass hn.1 hcn hok) ?_
  exact ev_r0 rfl
