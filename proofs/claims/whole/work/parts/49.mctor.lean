/-! ===== the plain form: its making ===== -/
theorem ev_nz {L : Nat} {xs : Nat → Int32} {y pc nx : Nat} {ls st : List Value} {h : ac_H} {c k : Nat} {r : ac_R} {i : Int32} (hT : ac_Tf L xs y pc = .inl (o_nz nx)) (n : Nat) (hi : i = nI n) (hn : n ≤ 4096) (kk : Ev L xs y (nx, ls, .ref h.length :: st, h ++ [Az n (fun _ => 0)], c + 1, k + n) r) : Ev L xs y (pc, ls, .int i :: st, h, c, k) r := by
  subst hi
  refine ev_step hT ?_ kk
  have hc := nI_clamp (n := n) (by omega)
  simp only [o_nz, hc]
  rw [if_pos ⟨nI_pos (by omega), hn⟩]
theorem sd_br {L : Nat} {xs : Nat → Int32} {y t e : Nat} {ls st : List Value} {h : ac_H} {c k : Nat} {r : ac_R} {v : Int32} (h1 : sdV v = 8 → Ev L xs y (t, ls, st, h, c, k) r) (h2 : ¬ v < 4 → Ev L xs y (e, ls, st, h, c, k) r) : Ev L xs y ((if v < 4 then t else e), ls, st, h, c, k) r := ev_br (fun z => h1 (if_pos (Or.inl z))) h2
theorem mm_ctor {L : Nat} {xs : Nat → Int32} {g0 g1 g2 g3 g4 g5 g6 g7 g8 g9 g10 g11 g12 g13 g14 : ac_C} {a b : Int32} {w q : Nat} (ea : sdV a = w) (eb : sdV b = q) : Mt L xs 66 [.ref 15, .int a, .int b] [g0, g1, g2, g3, g4, g5, g6, g7, g8, g9, g10, g11, g12, g13, g14, .inr (5, [.int 0, .int 0, .int 0, .int 0, .int 0, .null, .null, .null, .null, .null, .null, .int 0, .null, .int 0, .int 0, .null, .null])] none (MH g0 g1 g2 g3 g4 g5 g6 g7 g8 g9 g10 g11 g12 g13 g14 0 w q 0 0 (fun _ => 0) (fun _ => 0) (fun _ => 0) (fun _ => 0) (fun _ => 0) (fun _ => 0) 100 0 0 0 0 (fun _ => 0) (fun _ => 0) []) 9 1302 := by
  have eac : acA 0 0 = fun _ => 0 := by
    funext j
    unfold acA
    split
    · rfl
    · split <;> rfl
  show Ev L xs 66 (0, [.ref 15, .int a, .int b], [], _, 0, 0) _
  iterate 4 (refine ev_step rfl rfl ?_)
  refine ev_ni rfl 256 rfl (by decide) ?_
  iterate 3 (refine ev_step rfl rfl ?_)
  refine ev_ni rfl 256 rfl (by decide) ?_
  iterate 3 (refine ev_step rfl rfl ?_)
  refine ev_ni rfl 256 rfl (by decide) ?_
  iterate 3 (refine ev_step rfl rfl ?_)
  refine ev_ni rfl 256 rfl (by decide) ?_
  iterate 3 (refine ev_step rfl rfl ?_)
  refine ev_nz rfl 256 rfl (by decide) ?_
  iterate 3 (refine ev_step rfl rfl ?_)
  refine ev_ni rfl 12 rfl (by decide) ?_
  iterate 6 (refine ev_step rfl rfl ?_)
  refine ev_ni rfl 2 rfl (by decide) ?_
  rw [← eac]
  iterate 3 (refine ev_step rfl rfl ?_)
  refine ev_ni rfl 4 rfl (by decide) ?_
  iterate 3 (refine ev_step rfl rfl ?_)
  refine ev_ni rfl 4 rfl (by decide) ?_
  have part2 : ∀ (f1 : Value) (H : ac_H), True := fun _ _ => trivial
  sorry
