/-! ===== the plain form: its making ===== -/
theorem ev_nz {L : Nat} {xs : Nat → Int32} {y pc nx : Nat} {ls st : List Value} {h : ac_H} {c k : Nat} {r : ac_R} {i : Int32} (hT : ac_Tf L xs y pc = .inl (o_nz nx)) (n : Nat) (hi : i = nI n) (hn : n ≤ 4096) (kk : Ev L xs y (nx, ls, .ref h.length :: st, h ++ [Az n (fun _ => 0)], c + 1, k + n) r) : Ev L xs y (pc, ls, .int i :: st, h, c, k) r := by
  subst hi
  refine ev_step hT ?_ kk
  have hc := nI_clamp (n := n) (by omega)
  simp only [o_nz, hc]
  rw [if_pos ⟨nI_pos (by omega), hn⟩]
theorem ct_w {L : Nat} {xs : Nat → Int32} {g0 g1 g2 g3 g4 g5 g6 g7 g8 g9 g10 g11 g12 g13 g14 : ac_C} {th : Int32} {w q : Nat} {tm sd : Int32} {bi ed ra fr ah bk : Nat → Int32} {wt gp gq mv : Int32} {cn : Nat} {mc mk : Nat → Int32} {rest : ac_H} {a : Int32} {u2 : Value} {c k : Nat} {R : ac_R} (ea : sdV a = w) (kk : Ev L xs 66 (111, [.ref 15, .int a, u2], [], (MH g0 g1 g2 g3 g4 g5 g6 g7 g8 g9 g10 g11 g12 g13 g14 th w q tm sd bi ed ra fr ah bk wt gp gq mv cn mc mk rest), c, k) R) : Ev L xs 66 (84, [.ref 15, .int a, u2], [], (MH g0 g1 g2 g3 g4 g5 g6 g7 g8 g9 g10 g11 g12 g13 g14 th (0) q tm sd bi ed ra fr ah bk wt gp gq mv cn mc mk rest), c, k) R := by
  unfold sdV at ea
  (repeat refine ev_step rfl rfl ?_)
  refine ev_br (fun z => ?_) (fun z => ?_)
  · rw [if_pos (Or.inl z)] at ea
    subst ea
    iterate 3 (refine ev_step rfl rfl ?_)
    exact kk
  · (repeat refine ev_step rfl rfl ?_)
    refine ev_br (fun z2 => ?_) (fun z2 => ?_)
    · rw [if_pos (Or.inr z2)] at ea
      subst ea
      iterate 3 (refine ev_step rfl rfl ?_)
      exact kk
    · obtain ⟨j, hj, h4, rfl⟩ := sdV_or a z z2
      rw [if_neg (fun q => q.elim z z2), nI_clamp (by omega)] at ea
      (repeat refine ev_step rfl rfl ?_)
      rw [rm_2 j hj]
      refine ev_br (fun z3 => ?_) (fun z3 => ?_)
      · rw [if_pos ((nI_eq (a := j % 2) (b := 0) (by omega) (by decide)).mp z3)] at ea
        subst ea
        iterate 2 (refine ev_step rfl rfl ?_)
        exact kk
      · rw [if_neg (fun g => z3 (by rw [g]; rfl))] at ea
        subst ea
        iterate 3 (refine ev_step rfl rfl ?_)
        exact kk
theorem ct_q {L : Nat} {xs : Nat → Int32} {g0 g1 g2 g3 g4 g5 g6 g7 g8 g9 g10 g11 g12 g13 g14 : ac_C} {th : Int32} {w q : Nat} {tm sd : Int32} {bi ed ra fr ah bk : Nat → Int32} {wt gp gq mv : Int32} {cn : Nat} {mc mk : Nat → Int32} {rest : ac_H} {b : Int32} {u1 : Value} {c k : Nat} (eb : sdV b = q) : Ev L xs 66 (111, [.ref 15, u1, .int b], [], (MH g0 g1 g2 g3 g4 g5 g6 g7 g8 g9 g10 g11 g12 g13 g14 th w (0) tm sd bi ed ra fr ah bk wt gp gq mv cn mc mk rest), c, k) (.inl none, (MH g0 g1 g2 g3 g4 g5 g6 g7 g8 g9 g10 g11 g12 g13 g14 th w q tm sd bi ed ra fr ah bk wt gp gq mv cn mc mk rest), c, k) := by
  unfold sdV at eb
  (repeat refine ev_step rfl rfl ?_)
  refine ev_br (fun z => ?_) (fun z => ?_)
  · rw [if_pos (Or.inl z)] at eb
    subst eb
    (repeat refine ev_step rfl rfl ?_)
    exact ev_r0 rfl
  · (repeat refine ev_step rfl rfl ?_)
    refine ev_br (fun z2 => ?_) (fun z2 => ?_)
    · rw [if_pos (Or.inr z2)] at eb
      subst eb
      (repeat refine ev_step rfl rfl ?_)
      exact ev_r0 rfl
    · obtain ⟨j, hj, h4, rfl⟩ := sdV_or b z z2
      rw [if_neg (fun q => q.elim z z2), nI_clamp (by omega)] at eb
      (repeat refine ev_step rfl rfl ?_)
      rw [rm_2 j hj]
      refine ev_br (fun z3 => ?_) (fun z3 => ?_)
      · rw [if_pos ((nI_eq (a := j % 2) (b := 0) (by omega) (by decide)).mp z3)] at eb
        subst eb
        (repeat refine ev_step rfl rfl ?_)
        exact ev_r0 rfl
      · rw [if_neg (fun g => z3 (by rw [g]; rfl))] at eb
        subst eb
        (repeat refine ev_step rfl rfl ?_)
        exact ev_r0 rfl
theorem acA_00 : acA 0 0 = fun _ => 0 := by
  funext j
  unfold acA
  split
  · rfl
  · split <;> rfl
theorem mm_ctor {L : Nat} {xs : Nat → Int32} {g0 g1 g2 g3 g4 g5 g6 g7 g8 g9 g10 g11 g12 g13 g14 : ac_C} {a b : Int32} {w q : Nat} (ea : sdV a = w) (eb : sdV b = q) : Mt L xs 66 [.ref 15, .int a, .int b] [g0, g1, g2, g3, g4, g5, g6, g7, g8, g9, g10, g11, g12, g13, g14, .inr (5, [.int 0, .int 0, .int 0, .int 0, .int 0, .null, .null, .null, .null, .null, .null, .int 0, .null, .int 0, .int 0, .null, .null])] none (MH g0 g1 g2 g3 g4 g5 g6 g7 g8 g9 g10 g11 g12 g13 g14 0 w q 0 0 (fun _ => 0) (fun _ => 0) (fun _ => 0) (fun _ => 0) (fun _ => 0) (fun _ => 0) 100 0 0 0 0 (fun _ => 0) (fun _ => 0) []) 9 1302 := by
  have h := ct_w (L := L) (xs := xs) (g0 := g0) (g1 := g1) (g2 := g2) (g3 := g3) (g4 := g4) (g5 := g5) (g6 := g6) (g7 := g7) (g8 := g8) (g9 := g9) (g10 := g10) (g11 := g11) (g12 := g12) (g13 := g13) (g14 := g14) (th := 0) (q := 0) (tm := 0) (sd := 0) (bi := fun _ => 0) (ed := fun _ => 0) (ra := fun _ => 0) (fr := fun _ => 0) (ah := fun _ => 0) (bk := fun _ => 0) (wt := 100) (gp := 0) (gq := 0) (mv := 0) (cn := 0) (mc := fun _ => 0) (mk := fun _ => 0) (rest := []) (c := 9) (k := 1302) (u2 := .int b) ea (ct_q eb)
  dsimp only [MH] at h
  rw [acA_00] at h
  show Ev L xs 66 (0, [.ref 15, .int a, .int b], [], _, 0, 0) (_, MH g0 g1 g2 g3 g4 g5 g6 g7 g8 g9 g10 g11 g12 g13 g14 0 w q 0 0 (fun _ => 0) (fun _ => 0) (fun _ => 0) (fun _ => 0) (fun _ => 0) (fun _ => 0) 100 0 0 0 0 (fun _ => 0) (fun _ => 0) [], _, _)
  dsimp only [MH]
  rw [acA_00]
  iterate 4 (refine ev_step rfl rfl ?_)
  refine ev_ni rfl 256 rfl (by decide) ?_
  iterate 3 (refine ev_step rfl rfl ?_)
  refine ev_ni rfl 256 rfl (by decide) ?_
  iterate 3 (refine ev_step rfl rfl ?_)
  refine ev_ni rfl 256 rfl (by decide) ?_
  iterate 3 (refine ev_step rfl rfl ?_)
  refine ev_ni rfl 256 rfl (by decide) ?_
  iterate 3 (refine ev_step rfl rfl ?_)
  refine ev_nz rfl 256 rfl (by decide) ?_
  iterate 3 (refine ev_step rfl rfl ?_)
  refine ev_ni rfl 12 rfl (by decide) ?_
  iterate 6 (refine ev_step rfl rfl ?_)
  refine ev_ni rfl 2 rfl (by decide) ?_
  iterate 3 (refine ev_step rfl rfl ?_)
  refine ev_ni rfl 4 rfl (by decide) ?_
  iterate 3 (refine ev_step rfl rfl ?_)
  refine ev_ni rfl 4 rfl (by decide) ?_
  iterate 1 (refine ev_step rfl rfl ?_)
  exact h
