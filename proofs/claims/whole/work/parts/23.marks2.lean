theorem mk_mask : ∀ b, b < 128 → ∀ k, k < 7 → nI b &&& ((1 : Int32) <<< (nI k &&& 31) - 1) = nI (b % 2 ^ k) := by decide +kernel
theorem bI_0 (x : Bool) : bI x = 0 ↔ x = false := by cases x <;> decide
theorem cn_lt : ∀ b, b < 128 → cnN b < 8 := by decide +kernel
theorem mt_bitCount {L : Nat} {xs : Nat → Int32} {b : Nat} (hb : b < 128) (H : ac_H) : Mt L xs 0 [.int (nI b)] H (some (.int (nI (cnN b)))) H 0 0 := pu_mt (by decide) (tr_bitCount b hb) H
theorem mt_holds {L : Nat} {xs : Nat → Int32} {b k : Nat} (hb : b < 128) (hk : k < 7) (H : ac_H) : Mt L xs 47 [.int (nI b), .int (nI k)] H (some (.int (bI (b.testBit k)))) H 0 0 := pu_mt (by decide) (tr_holds b hb k hk) H
def tuF (a l : Nat) (old : Int32) : Nat → Nat → Int32
  | 0, _ => old
  | n + 1, k => if a.testBit k = true ∧ cnN (a % 2 ^ k) = l then nI k else tuF a l old n (k + 1)
theorem upd_self (f : Nat → Int32) (i : Nat) : upd f i (f i) = f := by
  funext j
  by_cases h : j = i
  · subst h; simp [upd]
  · simp [upd, h]
theorem mturn_it {L : Nat} {xs : Nat → Int32} {g0 g1 g2 g3 g4 g5 g6 g7 : ac_C} {cn : Nat} {mc mk : Nat → Int32} {rest : ac_H} {a b l i : Nat} (ha : a < 128) (hl : l < 8) (hi : i < 4) : ∀ (n k : Nat), k + n = 7 → Ev L xs 19 (26, [.ref 8, .int (nI i), .int (nI b), .int (nI a), .int (nI l), .int (nI k)], [], MkH g0 g1 g2 g3 g4 g5 g6 g7 cn mc mk rest, 0, 0) (.inl none, MkH g0 g1 g2 g3 g4 g5 g6 g7 cn mc (upd mk i (tuF a l (mk i) n k)) rest, 0, 0) := by
  intro n
  induction n with
  | zero =>
    intro k hk
    have e : k = 7 := by omega
    subst e
    iterate 3 (refine ev_step rfl rfl ?_)
    refine ev_t (by decide) ?_
    rw [tuF, upd_self]
    exact ev_r0 rfl
  | succ n ih =>
    intro k hk
    have hm : a % 2 ^ k < 128 := Nat.lt_of_le_of_lt (Nat.mod_le _ _) ha
    have h8 := cn_lt _ hm
    rw [tuF]
    iterate 3 (refine ev_step rfl rfl ?_)
    refine ev_f (nI_ge (a := k) (b := 7) (by omega) (by decide)) ?_
    iterate 2 (refine ev_step rfl rfl ?_)
    refine ev_i2 rfl rfl (Nat.le_of_ble_eq_true rfl) (Nat.le_of_ble_eq_true rfl) rfl (mt_holds ha (k := k) (by omega) _) ?_
    (repeat refine ev_step rfl rfl ?_)
    refine ev_br (fun q => ?_) (fun q => ?_)
    · rw [if_neg (fun z => by rw [(bI_0 _).mp q] at z; exact nomatch z.1)]
      iterate 2 (refine ev_step rfl rfl ?_)
      rw [nI_1]
      exact ih (k + 1) (by omega)
    · have q' : a.testBit k = true := by
        cases hb : a.testBit k with
        | true => rfl
        | false => exact absurd ((bI_0 _).mpr hb) q
      (repeat refine ev_step rfl rfl ?_)
      refine ev_tp (mk_mask a ha k (by omega)) ?_
      refine ev_i1 rfl rfl (Nat.le_of_ble_eq_true rfl) (Nat.le_of_ble_eq_true rfl) rfl (mt_bitCount hm _) ?_
      (repeat refine ev_step rfl rfl ?_)
      refine ev_br (fun q2 => ?_) (fun q2 => ?_)
      · rw [if_pos ⟨q', (nI_eq (by omega) (by omega)).mp q2⟩]
        (repeat refine ev_step rfl rfl ?_)
        refine ev_is rfl rfl (i) (rfl) (hi) (by decide) rfl ?_
        exact ev_r0 rfl
      · rw [if_neg (fun z => q2 (by rw [z.2]))]
        iterate 2 (refine ev_step rfl rfl ?_)
        rw [nI_1]
        exact ih (k + 1) (by omega)
/-- a mark in meeting: the k-th of before becomes the k-th of after -/
def mtF (b a : Nat) (κ : Nat) : Int32 := if b = a then nI κ else tuF a (cnN (b % 2 ^ κ)) (nI κ) 7 0
theorem mt_mturn {L : Nat} {xs : Nat → Int32} {g0 g1 g2 g3 g4 g5 g6 g7 : ac_C} {cn : Nat} {mc mk : Nat → Int32} {rest : ac_H} {a b i κ : Nat} (ha : a < 128) (hb : b < 128) (hi : i < 4) (hκ : κ < 7) (hk : mk i = nI κ) : Mt L xs 19 [.ref 8, .int (nI i), .int (nI b), .int (nI a)] (MkH g0 g1 g2 g3 g4 g5 g6 g7 cn mc mk rest) none (MkH g0 g1 g2 g3 g4 g5 g6 g7 cn mc (upd mk i (mtF b a κ)) rest) 0 0 := by
  show Ev L xs 19 (0, [.ref 8, .int (nI i), .int (nI b), .int (nI a), ac_un, ac_un], [], _, 0, 0) _
  have hm : b % 2 ^ κ < 128 := Nat.lt_of_le_of_lt (Nat.mod_le _ _) hb
  iterate 3 (refine ev_step rfl rfl ?_)
  refine ev_br (fun q => ?_) (fun q => ?_)
  · have e : b = a := (nI_eq (by omega) (by omega)).mp q
    rw [mtF, if_pos e, ← hk, upd_self]
    exact ev_r0 rfl
  · have e : ¬ b = a := fun z => q (by rw [z])
    rw [mtF, if_neg e]
    (repeat refine ev_step rfl rfl ?_)
    refine ev_ia rfl rfl (i) (rfl) (hi) (by decide) ?_
    rw [hk]
    (repeat refine ev_step rfl rfl ?_)
    refine ev_tp (mk_mask b hb κ hκ) ?_
    refine ev_i1 rfl rfl (Nat.le_of_ble_eq_true rfl) (Nat.le_of_ble_eq_true rfl) rfl (mt_bitCount hm _) ?_
    iterate 3 (refine ev_step rfl rfl ?_)
    have h := mturn_it (L := L) (xs := xs) (g0 := g0) (g1 := g1) (g2 := g2) (g3 := g3) (g4 := g4) (g5 := g5) (g6 := g6) (g7 := g7) (cn := cn) (mc := mc) (mk := mk) (rest := rest) (b := b) ha (cn_lt _ hm) hi 7 0 rfl
    rw [hk] at h
    exact h
/-- edges, for the marks: cells, kinds -/
def peC (ed mc : Nat → Int32) : Nat → Int32 := fun j => if mc j = -1 then mc j else if ed (mc j).toNatClampNeg = 3 then -1 else mc j
def peK (ed mc mk : Nat → Int32) : Nat → Int32 := fun j => if mc j = -1 then mk j else if (ed (mc j).toNatClampNeg = 1 ∨ ed (mc j).toNatClampNeg = 4) ∧ ¬ 6 ≤ mk j then nI (((mk j).toNatClampNeg + 3) % 6) else mk j
theorem mpass_it {L : Nat} {xs : Nat → Int32} {n : Nat} {ed : Nat → Int32} {g0 g1 g2 g4 g5 g6 g7 : ac_C} {cn : Nat} {mc mk : Nat → Int32} {rest : ac_H} (hn : n ≤ 256) (hcn : cn ≤ 4) (hok : mkOk n cn mc mk) : ∀ (m i : Nat), i + m = cn → ∀ (u : Value), Ev L xs 21 (2, [.ref 8, .ref 3, .int (nI i), u], [], MkH g0 g1 g2 (Ar n ed) g4 g5 g6 g7 cn (pre i (peC ed mc) mc) (pre i (peK ed mc mk) mk) rest, 0, 0) (.inl none, MkH g0 g1 g2 (Ar n ed) g4 g5 g6 g7 cn (pre cn (peC ed mc) mc) (pre cn (peK ed mc mk) mk) rest, 0, 0) := by
  intro m
  induction m with
  | zero =>
    intro i hi u
    have e : i = cn := by omega
    subst e
    iterate 4 (refine ev_step rfl rfl ?_)
    refine ev_t (nI_le (Nat.le_refl i) (by omega)) ?_
    exact ev_r0 rfl
  | succ m ih =>
    intro i hi u
    obtain ⟨hc, κ, hκ, hk⟩ := hok i (by omega)
    iterate 4 (refine ev_step rfl rfl ?_)
    refine ev_f (nI_ge (a := i) (b := cn) (by omega) (by omega)) ?_
    (repeat refine ev_step rfl rfl ?_)
    refine ev_ia rfl rfl (i) (rfl) (by omega) (by decide) ?_
    rw [pre_at]
    (repeat refine ev_step rfl rfl ?_)
    refine ev_br (fun q => ?_) (fun q => ?_)
    · -- lost
      iterate 3 (refine ev_step rfl rfl ?_)
      iterate 3 (refine ev_step rfl rfl ?_)
      refine ev_f (by decide) ?_
      iterate 3 (refine ev_step rfl rfl ?_)
      refine ev_f (by decide) ?_
      iterate 3 (refine ev_step rfl rfl ?_)
      refine ev_f (by decide) ?_
      iterate 2 (refine ev_step rfl rfl ?_)
      rw [nI_1, pre_same i (peC ed mc) mc (by simp [peC, q]), pre_same i (peK ed mc mk) mk (by simp [peK, q])]
      exact ih (i + 1) (by omega) _
    · obtain ⟨c, hc1, hc2⟩ := hc.resolve_left q
      have hcl : (mc i).toNatClampNeg = c := by rw [hc2, nI_clamp (by omega)]
      (repeat refine ev_step rfl rfl ?_)
      refine ev_ia rfl rfl (i) (rfl) (by omega) (by decide) ?_
      rw [pre_at]
      (repeat refine ev_step rfl rfl ?_)
      refine ev_ia rfl rfl (c) (hc2) (hc1) (by omega) ?_
      (repeat refine ev_step rfl rfl ?_)
      refine ev_br (fun q3 => ?_) (fun q3 => ?_)
      · (repeat refine ev_step rfl rfl ?_)
        refine ev_is rfl rfl (i) (rfl) (by omega) (by decide) rfl ?_
        iterate 3 (refine ev_step rfl rfl ?_)
        rw [nI_1, show upd (pre i (peC ed mc) mc) i (-1) = pre (i + 1) (peC ed mc) mc by rw [← pre_put]; simp [peC, q, hcl, q3], pre_same i (peK ed mc mk) mk (by simp [peK, q, hcl, q3])]
        exact ih (i + 1) (by omega) _
      · have eC : pre i (peC ed mc) mc = pre (i + 1) (peC ed mc) mc := pre_same i (peC ed mc) mc (by simp [peC, q, hcl, q3])
        have last : (ed c = 1 ∨ ed c = 4) → Ev L xs 21 (58, [.ref 8, .ref 3, .int (nI i), .int (ed c)], [], MkH g0 g1 g2 (Ar n ed) g4 g5 g6 g7 cn (pre i (peC ed mc) mc) (pre i (peK ed mc mk) mk) rest, 0, 0) (.inl none, MkH g0 g1 g2 (Ar n ed) g4 g5 g6 g7 cn (pre cn (peC ed mc) mc) (pre cn (peK ed mc mk) mk) rest, 0, 0) := by
          intro q4
          (repeat refine ev_step rfl rfl ?_)
          refine ev_ia rfl rfl (i) (rfl) (by omega) (by decide) ?_
          rw [pre_at]
          (repeat refine ev_step rfl rfl ?_)
          refine ev_br (fun q6 => ?_) (fun q6 => ?_)
          · iterate 2 (refine ev_step rfl rfl ?_)
            rw [nI_1, eC, pre_same i (peK ed mc mk) mk (by simp [peK, q, q6])]
            exact ih (i + 1) (by omega) _
          · (repeat refine ev_step rfl rfl ?_)
            refine ev_ia rfl rfl (i) (rfl) (by omega) (by decide) ?_
            rw [pre_at, hk]
            (repeat refine ev_step rfl rfl ?_)
            refine ev_tp (show ac_rm (nI κ + 3) 6 = nI ((κ + 3) % 6) by rw [show nI κ + 3 = nI (κ + 3) from nI_add κ 3]; exact pk_rem (d := 6) (by omega) (by decide) (by decide)) ?_
            refine ev_is rfl rfl (i) (rfl) (by omega) (by decide) rfl ?_
            iterate 2 (refine ev_step rfl rfl ?_)
            have e1 : peK ed mc mk i = nI ((κ + 3) % 6) := by
              unfold peK
              rw [if_neg q, hcl, if_pos ⟨q4, q6⟩, hk, nI_clamp (by omega)]
            rw [nI_1, eC, show upd (pre i (peK ed mc mk) mk) i (nI ((κ + 3) % 6)) = pre (i + 1) (peK ed mc mk) mk by rw [← pre_put, e1]]
            exact ih (i + 1) (by omega) _
        iterate 3 (refine ev_step rfl rfl ?_)
        refine ev_br (fun q4 => last (Or.inl q4)) (fun q4 => ?_)
        iterate 3 (refine ev_step rfl rfl ?_)
        refine ev_br (fun q5 => last (Or.inr q5)) (fun q5 => ?_)
        iterate 2 (refine ev_step rfl rfl ?_)
        rw [nI_1, eC, pre_same i (peK ed mc mk) mk (by simp [peK, q, hcl, q4, q5])]
        exact ih (i + 1) (by omega) _
theorem mt_mpass {L : Nat} {xs : Nat → Int32} {n : Nat} {ed : Nat → Int32} {g0 g1 g2 g4 g5 g6 g7 : ac_C} {cn : Nat} {mc mk : Nat → Int32} {rest : ac_H} (hn : n ≤ 256) (hcn : cn ≤ 4) (hok : mkOk n cn mc mk) : Mt L xs 21 [.ref 8, .ref 3] (MkH g0 g1 g2 (Ar n ed) g4 g5 g6 g7 cn mc mk rest) none (MkH g0 g1 g2 (Ar n ed) g4 g5 g6 g7 cn (pre cn (peC ed mc) mc) (pre cn (peK ed mc mk) mk) rest) 0 0 := by
  show Ev L xs 21 (0, [.ref 8, .ref 3, ac_un, ac_un], [], _, 0, 0) _
  iterate 2 (refine ev_step rfl rfl ?_)
  have h := mpass_it (L := L) (xs := xs) (g0 := g0) (g1 := g1) (g2 := g2) (g4 := g4) (g5 := g5) (g6 := g6) (g7 := g7) (ed := ed) (rest := rest) hn hcn hok cn 0 (Nat.zero_add _) ac_un
  rw [pre_0, pre_0] at h
  exact h
