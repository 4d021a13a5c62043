/-! ===== the marks ===== -/
/-- the heap up to the marks: eight cells, the marks, their cells, their kinds -/
abbrev MkH (g0 g1 g2 g3 g4 g5 g6 g7 : ac_C) (cn : Nat) (mc mk : Nat → Int32) (rest : ac_H) : ac_H := g0 :: g1 :: g2 :: g3 :: g4 :: g5 :: g6 :: g7 :: .inr (3, [.ref 9, .ref 10, .int (nI cn)]) :: Ar 4 mc :: Ar 4 mk :: rest
/-- the marks before i, each by a rule of its own -/
def pre (i : Nat) (F f : Nat → Int32) : Nat → Int32 := fun j => if j < i then F j else f j
theorem pre_0 (F f : Nat → Int32) : pre 0 F f = f := by funext j; simp [pre]
theorem pre_at (i : Nat) (F f : Nat → Int32) : pre i F f i = f i := by simp [pre]
theorem pre_put (i : Nat) (F f : Nat → Int32) : upd (pre i F f) i (F i) = pre (i + 1) F f := by
  funext j
  by_cases h : j = i
  · subst h; simp [pre, upd]
  · by_cases h2 : j < i
    · simp [pre, upd, h, h2, Nat.lt_succ_of_lt h2]
    · simp [pre, upd, h, h2, show ¬ j < i + 1 by omega]
theorem pre_same (i : Nat) (F f : Nat → Int32) (h : F i = f i) : pre i F f = pre (i + 1) F f := by
  rw [← pre_put, h]
  funext j
  by_cases e : j = i
  · subst e; simp [pre, upd]
  · simp [pre, upd, e]
def loF (c : Int32) (f : Nat → Int32) : Nat → Int32 := fun j => if f j = c then -1 else f j
theorem loseAt_it {L : Nat} {xs : Nat → Int32} {g0 g1 g2 g3 g4 g5 g6 g7 : ac_C} {cn : Nat} {mc mk : Nat → Int32} {rest : ac_H} {c : Int32} (hcn : cn ≤ 4) : ∀ (n i : Nat), i + n = cn → Ev L xs 18 (2, [.ref 8, .int c, .int (nI i)], [], MkH g0 g1 g2 g3 g4 g5 g6 g7 cn (pre i (loF c mc) mc) mk rest, 0, 0) (.inl none, MkH g0 g1 g2 g3 g4 g5 g6 g7 cn (pre cn (loF c mc) mc) mk rest, 0, 0) := by
  intro n
  induction n with
  | zero =>
    intro i hi
    have e : i = cn := by omega
    subst e
    iterate 4 (refine ev_step rfl rfl ?_)
    refine ev_t (nI_le (Nat.le_refl i) (by omega)) ?_
    exact ev_r0 rfl
  | succ n ih =>
    intro i hi
    iterate 4 (refine ev_step rfl rfl ?_)
    refine ev_f (nI_ge (a := i) (b := cn) (by omega) (by omega)) ?_
    (repeat refine ev_step rfl rfl ?_)
    refine ev_ia rfl rfl (i) (rfl) (by omega) (by decide) ?_
    rw [pre_at]
    (repeat refine ev_step rfl rfl ?_)
    refine ev_br (fun q => ?_) (fun q => ?_)
    · (repeat refine ev_step rfl rfl ?_)
      refine ev_is rfl rfl (i) (rfl) (by omega) (by decide) rfl ?_
      iterate 2 (refine ev_step rfl rfl ?_)
      rw [nI_1, show upd (pre i (loF c mc) mc) i (-1) = pre (i + 1) (loF c mc) mc by rw [← pre_put]; simp [loF, q]]
      exact ih (i + 1) (by omega)
    · iterate 2 (refine ev_step rfl rfl ?_)
      rw [nI_1, pre_same i (loF c mc) mc (by simp [loF, q])]
      exact ih (i + 1) (by omega)
theorem mt_loseAt {L : Nat} {xs : Nat → Int32} {g0 g1 g2 g3 g4 g5 g6 g7 : ac_C} {cn : Nat} {mc mk : Nat → Int32} {rest : ac_H} {c : Int32} (hcn : cn ≤ 4) : Mt L xs 18 [.ref 8, .int c] (MkH g0 g1 g2 g3 g4 g5 g6 g7 cn mc mk rest) none (MkH g0 g1 g2 g3 g4 g5 g6 g7 cn (pre cn (loF c mc) mc) mk rest) 0 0 := by
  show Ev L xs 18 (0, [.ref 8, .int c, ac_un], [], _, 0, 0) _
  iterate 2 (refine ev_step rfl rfl ?_)
  have h := loseAt_it (L := L) (xs := xs) (g0 := g0) (g1 := g1) (g2 := g2) (g3 := g3) (g4 := g4) (g5 := g5) (g6 := g6) (g7 := g7) (mc := mc) (mk := mk) (rest := rest) (c := c) hcn cn 0 (Nat.zero_add _)
  rw [pre_0] at h
  exact h
def onF (mc mk : Nat → Int32) (c k : Int32) : Nat → Nat → Int32
  | 0, _ => 0
  | n + 1, i => if mc i = c ∧ mk i = k then 1 else onF mc mk c k n (i + 1)
theorem isOn_it {L : Nat} {xs : Nat → Int32} {g0 g1 g2 g3 g4 g5 g6 g7 : ac_C} {cn : Nat} {mc mk : Nat → Int32} {rest : ac_H} {c k : Int32} (hcn : cn ≤ 4) : ∀ (n i : Nat), i + n = cn → Ev L xs 16 (2, [.ref 8, .int c, .int k, .int (nI i)], [], MkH g0 g1 g2 g3 g4 g5 g6 g7 cn mc mk rest, 0, 0) (.inl (some (.int (onF mc mk c k n i))), MkH g0 g1 g2 g3 g4 g5 g6 g7 cn mc mk rest, 0, 0) := by
  intro n
  induction n with
  | zero =>
    intro i hi
    have e : i = cn := by omega
    subst e
    iterate 4 (refine ev_step rfl rfl ?_)
    refine ev_t (nI_le (Nat.le_refl i) (by omega)) ?_
    (repeat refine ev_step rfl rfl ?_)
    exact ev_r2 rfl (Or.inl rfl)
  | succ n ih =>
    intro i hi
    rw [onF]
    iterate 4 (refine ev_step rfl rfl ?_)
    refine ev_f (nI_ge (a := i) (b := cn) (by omega) (by omega)) ?_
    (repeat refine ev_step rfl rfl ?_)
    refine ev_ia rfl rfl (i) (rfl) (by omega) (by decide) ?_
    (repeat refine ev_step rfl rfl ?_)
    refine ev_br (fun q => ?_) (fun q => ?_)
    · (repeat refine ev_step rfl rfl ?_)
      refine ev_ia rfl rfl (i) (rfl) (by omega) (by decide) ?_
      (repeat refine ev_step rfl rfl ?_)
      refine ev_br (fun q2 => ?_) (fun q2 => ?_)
      · rw [if_pos ⟨q, q2⟩]
        (repeat refine ev_step rfl rfl ?_)
        exact ev_r2 rfl (Or.inr rfl)
      · rw [if_neg (fun z => q2 z.2)]
        iterate 2 (refine ev_step rfl rfl ?_)
        rw [nI_1]
        exact ih (i + 1) (by omega)
    · rw [if_neg (fun z => q z.1)]
      iterate 2 (refine ev_step rfl rfl ?_)
      rw [nI_1]
      exact ih (i + 1) (by omega)
theorem mt_isOn {L : Nat} {xs : Nat → Int32} {g0 g1 g2 g3 g4 g5 g6 g7 : ac_C} {cn : Nat} {mc mk : Nat → Int32} {rest : ac_H} {c k : Int32} (hcn : cn ≤ 4) : Mt L xs 16 [.ref 8, .int c, .int k] (MkH g0 g1 g2 g3 g4 g5 g6 g7 cn mc mk rest) (some (.int (onF mc mk c k cn 0))) (MkH g0 g1 g2 g3 g4 g5 g6 g7 cn mc mk rest) 0 0 := by
  show Ev L xs 16 (0, [.ref 8, .int c, .int k, ac_un], [], _, 0, 0) _
  iterate 2 (refine ev_step rfl rfl ?_)
  exact isOn_it hcn cn 0 (Nat.zero_add _)
theorem mt_put {L : Nat} {xs : Nat → Int32} {g0 g1 g2 g3 g4 g5 g6 g7 : ac_C} {cn : Nat} {mc mk : Nat → Int32} {rest : ac_H} {c k : Int32} (hcn : cn < 4) : Mt L xs 17 [.ref 8, .int c, .int k] (MkH g0 g1 g2 g3 g4 g5 g6 g7 cn mc mk rest) (some (.int (nI cn))) (MkH g0 g1 g2 g3 g4 g5 g6 g7 (cn + 1) (upd mc cn c) (upd mk cn k) rest) 0 0 := by
  show Ev L xs 17 (0, [.ref 8, .int c, .int k], [], _, 0, 0) _
  (repeat refine ev_step rfl rfl ?_)
  refine ev_is rfl rfl (cn) (rfl) (hcn) (by decide) rfl ?_
  (repeat refine ev_step rfl rfl ?_)
  refine ev_is rfl rfl (cn) (rfl) (hcn) (by decide) rfl ?_
  (repeat refine ev_step rfl rfl ?_)
  rw [nI_1]
  exact ev_r1 rfl
def exF (a b : Int32) (f : Nat → Int32) : Nat → Int32 := fun j => if f j = a then b else if f j = b then a else f j
theorem mexch_it {L : Nat} {xs : Nat → Int32} {g0 g1 g2 g3 g4 g5 g6 g7 : ac_C} {cn : Nat} {mc mk : Nat → Int32} {rest : ac_H} {a b : Int32} (hcn : cn ≤ 4) : ∀ (n i : Nat), i + n = cn → Ev L xs 22 (2, [.ref 8, .int a, .int b, .int (nI i)], [], MkH g0 g1 g2 g3 g4 g5 g6 g7 cn (pre i (exF a b mc) mc) mk rest, 0, 0) (.inl none, MkH g0 g1 g2 g3 g4 g5 g6 g7 cn (pre cn (exF a b mc) mc) mk rest, 0, 0) := by
  intro n
  induction n with
  | zero =>
    intro i hi
    have e : i = cn := by omega
    subst e
    iterate 4 (refine ev_step rfl rfl ?_)
    refine ev_t (nI_le (Nat.le_refl i) (by omega)) ?_
    exact ev_r0 rfl
  | succ n ih =>
    intro i hi
    iterate 4 (refine ev_step rfl rfl ?_)
    refine ev_f (nI_ge (a := i) (b := cn) (by omega) (by omega)) ?_
    (repeat refine ev_step rfl rfl ?_)
    refine ev_ia rfl rfl (i) (rfl) (by omega) (by decide) ?_
    rw [pre_at]
    (repeat refine ev_step rfl rfl ?_)
    refine ev_br (fun q => ?_) (fun q => ?_)
    · (repeat refine ev_step rfl rfl ?_)
      refine ev_is rfl rfl (i) (rfl) (by omega) (by decide) rfl ?_
      iterate 3 (refine ev_step rfl rfl ?_)
      rw [nI_1, show upd (pre i (exF a b mc) mc) i b = pre (i + 1) (exF a b mc) mc by rw [← pre_put]; simp [exF, q]]
      exact ih (i + 1) (by omega)
    · (repeat refine ev_step rfl rfl ?_)
      refine ev_ia rfl rfl (i) (rfl) (by omega) (by decide) ?_
      rw [pre_at]
      (repeat refine ev_step rfl rfl ?_)
      refine ev_br (fun q2 => ?_) (fun q2 => ?_)
      · (repeat refine ev_step rfl rfl ?_)
        refine ev_is rfl rfl (i) (rfl) (by omega) (by decide) rfl ?_
        iterate 2 (refine ev_step rfl rfl ?_)
        have e1 : exF a b mc i = a := by unfold exF; rw [if_neg q, if_pos q2]
        rw [nI_1, show upd (pre i (exF a b mc) mc) i a = pre (i + 1) (exF a b mc) mc by rw [← pre_put, e1]]
        exact ih (i + 1) (by omega)
      · iterate 2 (refine ev_step rfl rfl ?_)
        rw [nI_1, pre_same i (exF a b mc) mc (by simp [exF, q, q2])]
        exact ih (i + 1) (by omega)
theorem mt_mexch {L : Nat} {xs : Nat → Int32} {g0 g1 g2 g3 g4 g5 g6 g7 : ac_C} {cn : Nat} {mc mk : Nat → Int32} {rest : ac_H} {a b : Int32} (hcn : cn ≤ 4) : Mt L xs 22 [.ref 8, .int a, .int b] (MkH g0 g1 g2 g3 g4 g5 g6 g7 cn mc mk rest) none (MkH g0 g1 g2 g3 g4 g5 g6 g7 cn (pre cn (exF a b mc) mc) mk rest) 0 0 := by
  show Ev L xs 22 (0, [.ref 8, .int a, .int b, ac_un], [], _, 0, 0) _
  iterate 2 (refine ev_step rfl rfl ?_)
  have h := mexch_it (L := L) (xs := xs) (g0 := g0) (g1 := g1) (g2 := g2) (g3 := g3) (g4 := g4) (g5 := g5) (g6 := g6) (g7 := g7) (mc := mc) (mk := mk) (rest := rest) (a := a) (b := b) hcn cn 0 (Nat.zero_add _)
  rw [pre_0] at h
  exact h
/-- where a mark is: lost, or in a cell below n; its kind -/
def mkOk (n cn : Nat) (mc mk : Nat → Int32) : Prop := ∀ j, j < cn → (mc j = -1 ∨ ∃ c, c < n ∧ mc j = nI c) ∧ ∃ k, k < 7 ∧ mk j = nI k
def fyF (nb : Nat → Int32) (t : Nat) (mc mk : Nat → Int32) : Nat → Int32 := fun j => if mc j = -1 then mc j else if 6 ≤ mk j then mc j else nb ((mc j).toNatClampNeg * 6 + ((mk j).toNatClampNeg + t) % 6)
theorem nI_m1 {c : Nat} (h : c < 2 ^ 31) : ¬ nI c = -1 := fun q => by
  have h1 := nI_toInt h
  rw [q] at h1
  have h2 : (-1 : Int32).toInt = -1 := by decide
  omega
theorem mfly_it {L : Nat} {xs : Nat → Int32} {n t : Nat} {nb : Nat → Int32} {g0 g3 g4 g5 g6 g7 : ac_C} {f0 f1 f2 : Value} {cn : Nat} {mc mk : Nat → Int32} {rest : ac_H} (hn : n ≤ 256) (ht : t < 7) (hcn : cn ≤ 4) (hok : mkOk n cn mc mk) : ∀ (m i : Nat), i + m = cn → Ev L xs 20 (2, [.ref 8, .ref 1, .int (nI t), .int (nI i)], [], MkH g0 (.inr (2, [f0, f1, f2, .ref 2])) (Ar (n * 6) nb) g3 g4 g5 g6 g7 cn (pre i (fyF nb t mc mk) mc) mk rest, 0, 0) (.inl none, MkH g0 (.inr (2, [f0, f1, f2, .ref 2])) (Ar (n * 6) nb) g3 g4 g5 g6 g7 cn (pre cn (fyF nb t mc mk) mc) mk rest, 0, 0) := by
  intro m
  induction m with
  | zero =>
    intro i hi
    have e : i = cn := by omega
    subst e
    iterate 4 (refine ev_step rfl rfl ?_)
    refine ev_t (nI_le (Nat.le_refl i) (by omega)) ?_
    exact ev_r0 rfl
  | succ m ih =>
    intro i hi
    obtain ⟨hc, κ, hκ, hk⟩ := hok i (by omega)
    iterate 4 (refine ev_step rfl rfl ?_)
    refine ev_f (nI_ge (a := i) (b := cn) (by omega) (by omega)) ?_
    (repeat refine ev_step rfl rfl ?_)
    refine ev_ia rfl rfl (i) (rfl) (by omega) (by decide) ?_
    rw [pre_at]
    (repeat refine ev_step rfl rfl ?_)
    refine ev_br (fun q => ?_) (fun q => ?_)
    · iterate 2 (refine ev_step rfl rfl ?_)
      rw [nI_1, pre_same i (fyF nb t mc mk) mc (by simp [fyF, q])]
      exact ih (i + 1) (by omega)
    · obtain ⟨c, hc1, hc2⟩ := hc.resolve_left q
      (repeat refine ev_step rfl rfl ?_)
      refine ev_ia rfl rfl (i) (rfl) (by omega) (by decide) ?_
      (repeat refine ev_step rfl rfl ?_)
      refine ev_br (fun q2 => ?_) (fun q2 => ?_)
      · iterate 2 (refine ev_step rfl rfl ?_)
        rw [nI_1, pre_same i (fyF nb t mc mk) mc (by simp [fyF, q2])]
        exact ih (i + 1) (by omega)
      · (repeat refine ev_step rfl rfl ?_)
        refine ev_ia rfl rfl (i) (rfl) (by omega) (by decide) ?_
        rw [pre_at]
        (repeat refine ev_step rfl rfl ?_)
        refine ev_ia rfl rfl (i) (rfl) (by omega) (by decide) ?_
        (repeat refine ev_step rfl rfl ?_)
        rw [hk, nI_add, hc2]
        refine ev_i3 rfl rfl (Nat.le_of_ble_eq_true rfl) (Nat.le_of_ble_eq_true rfl) rfl (mt_neighbour hn hc1 (d := κ + t) (by omega)) ?_
        refine ev_is rfl rfl (i) (rfl) (by omega) (by decide) rfl ?_
        iterate 2 (refine ev_step rfl rfl ?_)
        rw [nI_1, show upd (pre i (fyF nb t mc mk) mc) i (nb (c * 6 + (κ + t) % 6)) = pre (i + 1) (fyF nb t mc mk) mc by
          rw [← pre_put]
          have e1 : fyF nb t mc mk i = nb (c * 6 + (κ + t) % 6) := by
            unfold fyF
            rw [if_neg q, if_neg q2, hc2, hk, nI_clamp (by omega), nI_clamp (by omega)]
          rw [e1]]
        exact ih (i + 1) (by omega)
theorem mt_mfly {L : Nat} {xs : Nat → Int32} {n t : Nat} {nb : Nat → Int32} {g0 g3 g4 g5 g6 g7 : ac_C} {f0 f1 f2 : Value} {cn : Nat} {mc mk : Nat → Int32} {rest : ac_H} (hn : n ≤ 256) (ht : t < 7) (hcn : cn ≤ 4) (hok : mkOk n cn mc mk) : Mt L xs 20 [.ref 8, .ref 1, .int (nI t)] (MkH g0 (.inr (2, [f0, f1, f2, .ref 2])) (Ar (n * 6) nb) g3 g4 g5 g6 g7 cn mc mk rest) none (MkH g0 (.inr (2, [f0, f1, f2, .ref 2])) (Ar (n * 6) nb) g3 g4 g5 g6 g7 cn (pre cn (fyF nb t mc mk) mc) mk rest) 0 0 := by
  show Ev L xs 20 (0, [.ref 8, .ref 1, .int (nI t), ac_un], [], _, 0, 0) _
  iterate 2 (refine ev_step rfl rfl ?_)
  have h := mfly_it (L := L) (xs := xs) (g0 := g0) (g3 := g3) (g4 := g4) (g5 := g5) (g6 := g6) (g7 := g7) (f0 := f0) (f1 := f1) (f2 := f2) (nb := nb) (rest := rest) hn ht hcn hok cn 0 (Nat.zero_add _)
  rw [pre_0] at h
  exact h
