/-! ===== the law: its wrappers ===== -/
abbrev AL (lo : Nat → Int64) : ac_C := .inl (.long, 1, .inr (.inl lo))
theorem rv_ok4 {as : List Value} {H : ac_H} {f : List Value} (h : H[0]? = some (.inr (4, f))) : ac_rv 6 (.ref 0 :: as) H = true := by
  simp only [ac_rv, h]
  rfl
theorem ev_ls {L : Nat} {xs : Nat → Int32} {y pc nx : Nat} {ls st : List Value} {h h' : ac_H} {c k : Nat} {r : ac_R} {a : Nat} {lo : Nat → Int64} {x : Int64} (hT : ac_Tf L xs y pc = .inl (o_ls nx)) (hh : h[a]? = some (AL lo)) (hs : ac_set h a (AL (vp_updL lo 0 x)) some = some h') (kk : Ev L xs y (nx, ls, st, h', c, k) r) : Ev L xs y (pc, ls, .long x :: .int 0 :: .ref a :: st, h, c, k) r := by
  refine ev_step hT ?_ kk
  obtain ⟨h1, h2⟩ := ac_set_some hs
  cases h2
  have e : ac_in 0 1 = true := by decide
  have e0 : (0 : Int32).toNatClampNeg = 0 := by decide
  simp only [o_ls, hh, e, if_true, e0]
  rw [ac_set_eq, if_pos h1]

theorem wo_set {L : Nat} {xs : Nat → Int32} {H H1 : ac_H} {f : List Value} {a1 a2 a3 : Int32} (hr : H[0]? = some (.inr (4, f))) (m : Mt L xs 24 [.ref 0, .int a1, .int a2, .int a3] H none H1 0 0) : Mt L xs 113 [.ref 0, .int a1, .int a2, .int a3] H (some (.int 0)) H1 0 0 := by
  show Ev L xs 113 (0, [.ref 0, .int a1, .int a2, .int a3, ac_un], [], _, 0, 0) _
  (repeat refine ev_step rfl rfl ?_)
  refine ev_v4 rfl rfl (Nat.le_of_ble_eq_true rfl) (Nat.le_of_ble_eq_true rfl) (rv_ok4 hr) m ?_
  (repeat refine ev_step rfl rfl ?_)
  exact ev_r1 rfl
theorem wx_set1 {L : Nat} {xs : Nat → Int32} {H H1 : ac_H} {f : List Value} {a1 a2 a3 : Int32} (hr : H[0]? = some (.inr (4, f))) (m : Mx L xs 24 [.ref 0, .int a1, .int a2, .int a3] H 0 H1 1 6) : Mt L xs 113 [.ref 0, .int a1, .int a2, .int a3] H (some (.int 1)) H1 1 6 := by
  show Ev L xs 113 (0, [.ref 0, .int a1, .int a2, .int a3, ac_un], [], _, 0, 0) _
  (repeat refine ev_step rfl rfl ?_)
  refine ev_k4 rfl rfl (Nat.le_of_ble_eq_true rfl) (Nat.le_of_ble_eq_true rfl) (rv_ok4 hr) m rfl rfl ?_
  (repeat refine ev_step rfl rfl ?_)
  exact ev_r1 rfl
theorem wx_set2 {L : Nat} {xs : Nat → Int32} {H H1 : ac_H} {f : List Value} {a1 a2 a3 : Int32} (hr : H[0]? = some (.inr (4, f))) (m : Mx L xs 24 [.ref 0, .int a1, .int a2, .int a3] H 1 H1 1 6) : Mt L xs 113 [.ref 0, .int a1, .int a2, .int a3] H (some (.int 2)) H1 1 6 := by
  show Ev L xs 113 (0, [.ref 0, .int a1, .int a2, .int a3, ac_un], [], _, 0, 0) _
  (repeat refine ev_step rfl rfl ?_)
  refine ev_k4 rfl rfl (Nat.le_of_ble_eq_true rfl) (Nat.le_of_ble_eq_true rfl) (rv_ok4 hr) m rfl rfl ?_
  (repeat refine ev_step rfl rfl ?_)
  exact ev_r1 rfl
theorem wo_get {L : Nat} {xs : Nat → Int32} {H H1 H2 : ac_H} {f : List Value} {v : Int32} {lo : Nat → Int64} {a1 a2 : Int32} (hr : H[0]? = some (.inr (4, f))) (m : Mt L xs 25 [.ref 0, .int a1, .int a2] H (some (.int v)) H1 0 0) (hl : H1[25]? = some (AL lo)) (hs : ac_set H1 25 (AL (vp_updL lo 0 v.toInt64)) some = some H2) : Mt L xs 114 [.ref 0, .int a1, .int a2, .ref 25] H (some (.int 0)) H2 0 0 := by
  show Ev L xs 114 (0, [.ref 0, .int a1, .int a2, .ref 25, ac_un], [], _, 0, 0) _
  (repeat refine ev_step rfl rfl ?_)
  refine ev_i3 rfl rfl (Nat.le_of_ble_eq_true rfl) (Nat.le_of_ble_eq_true rfl) (rv_ok4 hr) m ?_
  iterate 1 (refine ev_step rfl rfl ?_)
  refine ev_ls rfl hl hs ?_
  (repeat refine ev_step rfl rfl ?_)
  exact ev_r1 rfl
theorem wx_get1 {L : Nat} {xs : Nat → Int32} {H H1 : ac_H} {f : List Value} {a1 a2 : Int32} (hr : H[0]? = some (.inr (4, f))) (m : Mx L xs 25 [.ref 0, .int a1, .int a2] H 0 H1 1 6) : Mt L xs 114 [.ref 0, .int a1, .int a2, .ref 25] H (some (.int 1)) H1 1 6 := by
  show Ev L xs 114 (0, [.ref 0, .int a1, .int a2, .ref 25, ac_un], [], _, 0, 0) _
  (repeat refine ev_step rfl rfl ?_)
  refine ev_k3 rfl rfl (Nat.le_of_ble_eq_true rfl) (Nat.le_of_ble_eq_true rfl) (rv_ok4 hr) m rfl rfl ?_
  (repeat refine ev_step rfl rfl ?_)
  exact ev_r1 rfl
theorem wo_rule {L : Nat} {xs : Nat → Int32} {H H1 H2 : ac_H} {f : List Value} {v : Int32} {lo : Nat → Int64} {a1 a2 : Int32} (hr : H[0]? = some (.inr (4, f))) (m : Mt L xs 26 [.ref 0, .int a1, .int a2] H (some (.int v)) H1 0 0) (hl : H1[25]? = some (AL lo)) (hs : ac_set H1 25 (AL (vp_updL lo 0 v.toInt64)) some = some H2) : Mt L xs 115 [.ref 0, .int a1, .int a2, .ref 25] H (some (.int 0)) H2 0 0 := by
  show Ev L xs 115 (0, [.ref 0, .int a1, .int a2, .ref 25, ac_un], [], _, 0, 0) _
  (repeat refine ev_step rfl rfl ?_)
  refine ev_i3 rfl rfl (Nat.le_of_ble_eq_true rfl) (Nat.le_of_ble_eq_true rfl) (rv_ok4 hr) m ?_
  iterate 1 (refine ev_step rfl rfl ?_)
  refine ev_ls rfl hl hs ?_
  (repeat refine ev_step rfl rfl ?_)
  exact ev_r1 rfl
theorem wx_rule1 {L : Nat} {xs : Nat → Int32} {H H1 : ac_H} {f : List Value} {a1 a2 : Int32} (hr : H[0]? = some (.inr (4, f))) (m : Mx L xs 26 [.ref 0, .int a1, .int a2] H 1 H1 1 6) : Mt L xs 115 [.ref 0, .int a1, .int a2, .ref 25] H (some (.int 1)) H1 1 6 := by
  show Ev L xs 115 (0, [.ref 0, .int a1, .int a2, .ref 25, ac_un], [], _, 0, 0) _
  (repeat refine ev_step rfl rfl ?_)
  refine ev_k3 rfl rfl (Nat.le_of_ble_eq_true rfl) (Nat.le_of_ble_eq_true rfl) (rv_ok4 hr) m rfl rfl ?_
  (repeat refine ev_step rfl rfl ?_)
  exact ev_r1 rfl
theorem wo_wall {L : Nat} {xs : Nat → Int32} {H H1 H2 : ac_H} {f : List Value} {v : Int32} {lo : Nat → Int64} {a1 a2 a3 : Int32} (hr : H[0]? = some (.inr (4, f))) (m : Mt L xs 27 [.ref 0, .int a1, .int a2, .int a3] H (some (.int v)) H1 0 0) (hl : H1[25]? = some (AL lo)) (hs : ac_set H1 25 (AL (vp_updL lo 0 (if v = 0 then 0 else 1))) some = some H2) : Mt L xs 116 [.ref 0, .int a1, .int a2, .int a3, .ref 25] H (some (.int 0)) H2 0 0 := by
  show Ev L xs 116 (0, [.ref 0, .int a1, .int a2, .int a3, .ref 25, ac_un], [], _, 0, 0) _
  (repeat refine ev_step rfl rfl ?_)
  refine ev_i4 rfl rfl (Nat.le_of_ble_eq_true rfl) (Nat.le_of_ble_eq_true rfl) (rv_ok4 hr) m ?_
  iterate 1 (refine ev_step rfl rfl ?_)
  refine ev_br (fun z => ?_) (fun z => ?_)
  · rw [if_pos z] at hs
    iterate 1 (refine ev_step rfl rfl ?_)
    refine ev_ls rfl hl hs ?_
    (repeat refine ev_step rfl rfl ?_)
    exact ev_r1 rfl
  · rw [if_neg z] at hs
    iterate 2 (refine ev_step rfl rfl ?_)
    refine ev_ls rfl hl hs ?_
    (repeat refine ev_step rfl rfl ?_)
    exact ev_r1 rfl
theorem wx_wall1 {L : Nat} {xs : Nat → Int32} {H H1 : ac_H} {f : List Value} {a1 a2 a3 : Int32} (hr : H[0]? = some (.inr (4, f))) (m : Mx L xs 27 [.ref 0, .int a1, .int a2, .int a3] H 0 H1 1 6) : Mt L xs 116 [.ref 0, .int a1, .int a2, .int a3, .ref 25] H (some (.int 1)) H1 1 6 := by
  show Ev L xs 116 (0, [.ref 0, .int a1, .int a2, .int a3, .ref 25, ac_un], [], _, 0, 0) _
  (repeat refine ev_step rfl rfl ?_)
  refine ev_k4 rfl rfl (Nat.le_of_ble_eq_true rfl) (Nat.le_of_ble_eq_true rfl) (rv_ok4 hr) m rfl rfl ?_
  (repeat refine ev_step rfl rfl ?_)
  exact ev_r1 rfl
theorem wx_wall2 {L : Nat} {xs : Nat → Int32} {H H1 : ac_H} {f : List Value} {a1 a2 a3 : Int32} (hr : H[0]? = some (.inr (4, f))) (m : Mx L xs 27 [.ref 0, .int a1, .int a2, .int a3] H 2 H1 1 6) : Mt L xs 116 [.ref 0, .int a1, .int a2, .int a3, .ref 25] H (some (.int 2)) H1 1 6 := by
  show Ev L xs 116 (0, [.ref 0, .int a1, .int a2, .int a3, .ref 25, ac_un], [], _, 0, 0) _
  (repeat refine ev_step rfl rfl ?_)
  refine ev_k4 rfl rfl (Nat.le_of_ble_eq_true rfl) (Nat.le_of_ble_eq_true rfl) (rv_ok4 hr) m rfl rfl ?_
  (repeat refine ev_step rfl rfl ?_)
  exact ev_r1 rfl
theorem wo_source {L : Nat} {xs : Nat → Int32} {H H1 : ac_H} {f : List Value} {a1 a2 a3 : Int32} (hr : H[0]? = some (.inr (4, f))) (m : Mt L xs 28 [.ref 0, .int a1, .int a2, .int a3] H none H1 0 0) : Mt L xs 117 [.ref 0, .int a1, .int a2, .int a3] H (some (.int 0)) H1 0 0 := by
  show Ev L xs 117 (0, [.ref 0, .int a1, .int a2, .int a3, ac_un], [], _, 0, 0) _
  (repeat refine ev_step rfl rfl ?_)
  refine ev_v4 rfl rfl (Nat.le_of_ble_eq_true rfl) (Nat.le_of_ble_eq_true rfl) (rv_ok4 hr) m ?_
  (repeat refine ev_step rfl rfl ?_)
  exact ev_r1 rfl
theorem wx_source1 {L : Nat} {xs : Nat → Int32} {H H1 : ac_H} {f : List Value} {a1 a2 a3 : Int32} (hr : H[0]? = some (.inr (4, f))) (m : Mx L xs 28 [.ref 0, .int a1, .int a2, .int a3] H 0 H1 1 6) : Mt L xs 117 [.ref 0, .int a1, .int a2, .int a3] H (some (.int 1)) H1 1 6 := by
  show Ev L xs 117 (0, [.ref 0, .int a1, .int a2, .int a3, ac_un], [], _, 0, 0) _
  (repeat refine ev_step rfl rfl ?_)
  refine ev_k4 rfl rfl (Nat.le_of_ble_eq_true rfl) (Nat.le_of_ble_eq_true rfl) (rv_ok4 hr) m rfl rfl ?_
  (repeat refine ev_step rfl rfl ?_)
  exact ev_r1 rfl
theorem wx_source2 {L : Nat} {xs : Nat → Int32} {H H1 : ac_H} {f : List Value} {a1 a2 a3 : Int32} (hr : H[0]? = some (.inr (4, f))) (m : Mx L xs 28 [.ref 0, .int a1, .int a2, .int a3] H 1 H1 1 6) : Mt L xs 117 [.ref 0, .int a1, .int a2, .int a3] H (some (.int 2)) H1 1 6 := by
  show Ev L xs 117 (0, [.ref 0, .int a1, .int a2, .int a3, ac_un], [], _, 0, 0) _
  (repeat refine ev_step rfl rfl ?_)
  refine ev_k4 rfl rfl (Nat.le_of_ble_eq_true rfl) (Nat.le_of_ble_eq_true rfl) (rv_ok4 hr) m rfl rfl ?_
  (repeat refine ev_step rfl rfl ?_)
  exact ev_r1 rfl
theorem wx_source3 {L : Nat} {xs : Nat → Int32} {H H1 : ac_H} {f : List Value} {a1 a2 a3 : Int32} (hr : H[0]? = some (.inr (4, f))) (m : Mx L xs 28 [.ref 0, .int a1, .int a2, .int a3] H 2 H1 1 6) : Mt L xs 117 [.ref 0, .int a1, .int a2, .int a3] H (some (.int 3)) H1 1 6 := by
  show Ev L xs 117 (0, [.ref 0, .int a1, .int a2, .int a3, ac_un], [], _, 0, 0) _
  (repeat refine ev_step rfl rfl ?_)
  refine ev_k4 rfl rfl (Nat.le_of_ble_eq_true rfl) (Nat.le_of_ble_eq_true rfl) (rv_ok4 hr) m rfl rfl ?_
  (repeat refine ev_step rfl rfl ?_)
  exact ev_r1 rfl
theorem wo_sink {L : Nat} {xs : Nat → Int32} {H H1 H2 : ac_H} {f : List Value} {v : Int32} {lo : Nat → Int64} {a1 a2 a3 : Int32} (hr : H[0]? = some (.inr (4, f))) (m : Mt L xs 29 [.ref 0, .int a1, .int a2, .int a3] H (some (.int v)) H1 0 0) (hl : H1[25]? = some (AL lo)) (hs : ac_set H1 25 (AL (vp_updL lo 0 (if v = 0 then 0 else 1))) some = some H2) : Mt L xs 118 [.ref 0, .int a1, .int a2, .int a3, .ref 25] H (some (.int 0)) H2 0 0 := by
  show Ev L xs 118 (0, [.ref 0, .int a1, .int a2, .int a3, .ref 25, ac_un], [], _, 0, 0) _
  (repeat refine ev_step rfl rfl ?_)
  refine ev_i4 rfl rfl (Nat.le_of_ble_eq_true rfl) (Nat.le_of_ble_eq_true rfl) (rv_ok4 hr) m ?_
  iterate 1 (refine ev_step rfl rfl ?_)
  refine ev_br (fun z => ?_) (fun z => ?_)
  · rw [if_pos z] at hs
    iterate 1 (refine ev_step rfl rfl ?_)
    refine ev_ls rfl hl hs ?_
    (repeat refine ev_step rfl rfl ?_)
    exact ev_r1 rfl
  · rw [if_neg z] at hs
    iterate 2 (refine ev_step rfl rfl ?_)
    refine ev_ls rfl hl hs ?_
    (repeat refine ev_step rfl rfl ?_)
    exact ev_r1 rfl
theorem wx_sink1 {L : Nat} {xs : Nat → Int32} {H H1 : ac_H} {f : List Value} {a1 a2 a3 : Int32} (hr : H[0]? = some (.inr (4, f))) (m : Mx L xs 29 [.ref 0, .int a1, .int a2, .int a3] H 0 H1 1 6) : Mt L xs 118 [.ref 0, .int a1, .int a2, .int a3, .ref 25] H (some (.int 1)) H1 1 6 := by
  show Ev L xs 118 (0, [.ref 0, .int a1, .int a2, .int a3, .ref 25, ac_un], [], _, 0, 0) _
  (repeat refine ev_step rfl rfl ?_)
  refine ev_k4 rfl rfl (Nat.le_of_ble_eq_true rfl) (Nat.le_of_ble_eq_true rfl) (rv_ok4 hr) m rfl rfl ?_
  (repeat refine ev_step rfl rfl ?_)
  exact ev_r1 rfl
theorem wx_sink2 {L : Nat} {xs : Nat → Int32} {H H1 : ac_H} {f : List Value} {a1 a2 a3 : Int32} (hr : H[0]? = some (.inr (4, f))) (m : Mx L xs 29 [.ref 0, .int a1, .int a2, .int a3] H 2 H1 1 6) : Mt L xs 118 [.ref 0, .int a1, .int a2, .int a3, .ref 25] H (some (.int 2)) H1 1 6 := by
  show Ev L xs 118 (0, [.ref 0, .int a1, .int a2, .int a3, .ref 25, ac_un], [], _, 0, 0) _
  (repeat refine ev_step rfl rfl ?_)
  refine ev_k4 rfl rfl (Nat.le_of_ble_eq_true rfl) (Nat.le_of_ble_eq_true rfl) (rv_ok4 hr) m rfl rfl ?_
  (repeat refine ev_step rfl rfl ?_)
  exact ev_r1 rfl
theorem wo_body {L : Nat} {xs : Nat → Int32} {H H1 H2 : ac_H} {f : List Value} {v : Int32} {lo : Nat → Int64} {a1 a2 a3 : Int32} (hr : H[0]? = some (.inr (4, f))) (m : Mt L xs 30 [.ref 0, .int a1, .int a2, .int a3] H (some (.int v)) H1 0 0) (hl : H1[25]? = some (AL lo)) (hs : ac_set H1 25 (AL (vp_updL lo 0 (if v = 0 then 0 else 1))) some = some H2) : Mt L xs 119 [.ref 0, .int a1, .int a2, .int a3, .ref 25] H (some (.int 0)) H2 0 0 := by
  show Ev L xs 119 (0, [.ref 0, .int a1, .int a2, .int a3, .ref 25, ac_un], [], _, 0, 0) _
  (repeat refine ev_step rfl rfl ?_)
  refine ev_i4 rfl rfl (Nat.le_of_ble_eq_true rfl) (Nat.le_of_ble_eq_true rfl) (rv_ok4 hr) m ?_
  iterate 1 (refine ev_step rfl rfl ?_)
  refine ev_br (fun z => ?_) (fun z => ?_)
  · rw [if_pos z] at hs
    iterate 1 (refine ev_step rfl rfl ?_)
    refine ev_ls rfl hl hs ?_
    (repeat refine ev_step rfl rfl ?_)
    exact ev_r1 rfl
  · rw [if_neg z] at hs
    iterate 2 (refine ev_step rfl rfl ?_)
    refine ev_ls rfl hl hs ?_
    (repeat refine ev_step rfl rfl ?_)
    exact ev_r1 rfl
theorem wx_body1 {L : Nat} {xs : Nat → Int32} {H H1 : ac_H} {f : List Value} {a1 a2 a3 : Int32} (hr : H[0]? = some (.inr (4, f))) (m : Mx L xs 30 [.ref 0, .int a1, .int a2, .int a3] H 0 H1 1 6) : Mt L xs 119 [.ref 0, .int a1, .int a2, .int a3, .ref 25] H (some (.int 1)) H1 1 6 := by
  show Ev L xs 119 (0, [.ref 0, .int a1, .int a2, .int a3, .ref 25, ac_un], [], _, 0, 0) _
  (repeat refine ev_step rfl rfl ?_)
  refine ev_k4 rfl rfl (Nat.le_of_ble_eq_true rfl) (Nat.le_of_ble_eq_true rfl) (rv_ok4 hr) m rfl rfl ?_
  (repeat refine ev_step rfl rfl ?_)
  exact ev_r1 rfl
theorem wx_body2 {L : Nat} {xs : Nat → Int32} {H H1 : ac_H} {f : List Value} {a1 a2 a3 : Int32} (hr : H[0]? = some (.inr (4, f))) (m : Mx L xs 30 [.ref 0, .int a1, .int a2, .int a3] H 2 H1 1 6) : Mt L xs 119 [.ref 0, .int a1, .int a2, .int a3, .ref 25] H (some (.int 2)) H1 1 6 := by
  show Ev L xs 119 (0, [.ref 0, .int a1, .int a2, .int a3, .ref 25, ac_un], [], _, 0, 0) _
  (repeat refine ev_step rfl rfl ?_)
  refine ev_k4 rfl rfl (Nat.le_of_ble_eq_true rfl) (Nat.le_of_ble_eq_true rfl) (rv_ok4 hr) m rfl rfl ?_
  (repeat refine ev_step rfl rfl ?_)
  exact ev_r1 rfl
theorem wo_edge {L : Nat} {xs : Nat → Int32} {H H1 H2 : ac_H} {f : List Value} {v : Int32} {lo : Nat → Int64} {a1 a2 : Int32} (hr : H[0]? = some (.inr (4, f))) (m : Mt L xs 31 [.ref 0, .int a1, .int a2] H (some (.int v)) H1 0 0) (hl : H1[25]? = some (AL lo)) (hs : ac_set H1 25 (AL (vp_updL lo 0 v.toInt64)) some = some H2) : Mt L xs 120 [.ref 0, .int a1, .int a2, .ref 25] H (some (.int 0)) H2 0 0 := by
  show Ev L xs 120 (0, [.ref 0, .int a1, .int a2, .ref 25, ac_un], [], _, 0, 0) _
  (repeat refine ev_step rfl rfl ?_)
  refine ev_i3 rfl rfl (Nat.le_of_ble_eq_true rfl) (Nat.le_of_ble_eq_true rfl) (rv_ok4 hr) m ?_
  iterate 1 (refine ev_step rfl rfl ?_)
  refine ev_ls rfl hl hs ?_
  (repeat refine ev_step rfl rfl ?_)
  exact ev_r1 rfl
theorem wx_edge1 {L : Nat} {xs : Nat → Int32} {H H1 : ac_H} {f : List Value} {a1 a2 : Int32} (hr : H[0]? = some (.inr (4, f))) (m : Mx L xs 31 [.ref 0, .int a1, .int a2] H 0 H1 1 6) : Mt L xs 120 [.ref 0, .int a1, .int a2, .ref 25] H (some (.int 1)) H1 1 6 := by
  show Ev L xs 120 (0, [.ref 0, .int a1, .int a2, .ref 25, ac_un], [], _, 0, 0) _
  (repeat refine ev_step rfl rfl ?_)
  refine ev_k3 rfl rfl (Nat.le_of_ble_eq_true rfl) (Nat.le_of_ble_eq_true rfl) (rv_ok4 hr) m rfl rfl ?_
  (repeat refine ev_step rfl rfl ?_)
  exact ev_r1 rfl
theorem wo_mass {L : Nat} {xs : Nat → Int32} {H H1 : ac_H} {f : List Value} {a1 : Int32} (hr : H[0]? = some (.inr (4, f))) (m : Mt L xs 32 [.ref 0, .int a1] H none H1 0 0) : Mt L xs 121 [.ref 0, .int a1] H (some (.int 0)) H1 0 0 := by
  show Ev L xs 121 (0, [.ref 0, .int a1, ac_un], [], _, 0, 0) _
  (repeat refine ev_step rfl rfl ?_)
  refine ev_v2 rfl rfl (Nat.le_of_ble_eq_true rfl) (Nat.le_of_ble_eq_true rfl) (rv_ok4 hr) m ?_
  (repeat refine ev_step rfl rfl ?_)
  exact ev_r1 rfl
theorem wx_mass1 {L : Nat} {xs : Nat → Int32} {H H1 : ac_H} {f : List Value} {a1 : Int32} (hr : H[0]? = some (.inr (4, f))) (m : Mx L xs 32 [.ref 0, .int a1] H 1 H1 1 6) : Mt L xs 121 [.ref 0, .int a1] H (some (.int 1)) H1 1 6 := by
  show Ev L xs 121 (0, [.ref 0, .int a1, ac_un], [], _, 0, 0) _
  (repeat refine ev_step rfl rfl ?_)
  refine ev_k2 rfl rfl (Nat.le_of_ble_eq_true rfl) (Nat.le_of_ble_eq_true rfl) (rv_ok4 hr) m rfl rfl ?_
  (repeat refine ev_step rfl rfl ?_)
  exact ev_r1 rfl
theorem wo_account {L : Nat} {xs : Nat → Int32} {H H1 H2 : ac_H} {f : List Value} {v : Int32} {lo : Nat → Int64} {a1 : Int32} (hr : H[0]? = some (.inr (4, f))) (m : Mt L xs 33 [.ref 0, .int a1] H (some (.int v)) H1 0 0) (hl : H1[25]? = some (AL lo)) (hs : ac_set H1 25 (AL (vp_updL lo 0 v.toInt64)) some = some H2) : Mt L xs 122 [.ref 0, .int a1, .ref 25] H (some (.int 0)) H2 0 0 := by
  show Ev L xs 122 (0, [.ref 0, .int a1, .ref 25, ac_un], [], _, 0, 0) _
  (repeat refine ev_step rfl rfl ?_)
  refine ev_i2 rfl rfl (Nat.le_of_ble_eq_true rfl) (Nat.le_of_ble_eq_true rfl) (rv_ok4 hr) m ?_
  iterate 1 (refine ev_step rfl rfl ?_)
  refine ev_ls rfl hl hs ?_
  (repeat refine ev_step rfl rfl ?_)
  exact ev_r1 rfl
theorem wx_account1 {L : Nat} {xs : Nat → Int32} {H H1 : ac_H} {f : List Value} {a1 : Int32} (hr : H[0]? = some (.inr (4, f))) (m : Mx L xs 33 [.ref 0, .int a1] H 1 H1 1 6) : Mt L xs 122 [.ref 0, .int a1, .ref 25] H (some (.int 1)) H1 1 6 := by
  show Ev L xs 122 (0, [.ref 0, .int a1, .ref 25, ac_un], [], _, 0, 0) _
  (repeat refine ev_step rfl rfl ?_)
  refine ev_k2 rfl rfl (Nat.le_of_ble_eq_true rfl) (Nat.le_of_ble_eq_true rfl) (rv_ok4 hr) m rfl rfl ?_
  (repeat refine ev_step rfl rfl ?_)
  exact ev_r1 rfl
theorem wo_step {L : Nat} {xs : Nat → Int32} {H H1 H2 : ac_H} {f : List Value} {v : Int32} {lo : Nat → Int64} {a1 : Int32} (hr : H[0]? = some (.inr (4, f))) (m : Mt L xs 35 [.ref 0, .int a1] H (some (.int v)) H1 0 0) (hl : H1[25]? = some (AL lo)) (hs : ac_set H1 25 (AL (vp_updL lo 0 v.toInt64)) some = some H2) : Mt L xs 123 [.ref 0, .int a1, .ref 25] H (some (.int 0)) H2 0 0 := by
  show Ev L xs 123 (0, [.ref 0, .int a1, .ref 25, ac_un], [], _, 0, 0) _
  (repeat refine ev_step rfl rfl ?_)
  refine ev_i2 rfl rfl (Nat.le_of_ble_eq_true rfl) (Nat.le_of_ble_eq_true rfl) (rv_ok4 hr) m ?_
  iterate 1 (refine ev_step rfl rfl ?_)
  refine ev_ls rfl hl hs ?_
  (repeat refine ev_step rfl rfl ?_)
  exact ev_r1 rfl
theorem wx_step1 {L : Nat} {xs : Nat → Int32} {H H1 : ac_H} {f : List Value} {a1 : Int32} (hr : H[0]? = some (.inr (4, f))) (m : Mx L xs 35 [.ref 0, .int a1] H 1 H1 1 6) : Mt L xs 123 [.ref 0, .int a1, .ref 25] H (some (.int 1)) H1 1 6 := by
  show Ev L xs 123 (0, [.ref 0, .int a1, .ref 25, ac_un], [], _, 0, 0) _
  (repeat refine ev_step rfl rfl ?_)
  refine ev_k2 rfl rfl (Nat.le_of_ble_eq_true rfl) (Nat.le_of_ble_eq_true rfl) (rv_ok4 hr) m rfl rfl ?_
  (repeat refine ev_step rfl rfl ?_)
  exact ev_r1 rfl
theorem wo_back {L : Nat} {xs : Nat → Int32} {H H1 H2 : ac_H} {f : List Value} {v : Int32} {lo : Nat → Int64} {a1 : Int32} (hr : H[0]? = some (.inr (4, f))) (m : Mt L xs 36 [.ref 0, .int a1] H (some (.int v)) H1 0 0) (hl : H1[25]? = some (AL lo)) (hs : ac_set H1 25 (AL (vp_updL lo 0 v.toInt64)) some = some H2) : Mt L xs 124 [.ref 0, .int a1, .ref 25] H (some (.int 0)) H2 0 0 := by
  show Ev L xs 124 (0, [.ref 0, .int a1, .ref 25, ac_un], [], _, 0, 0) _
  (repeat refine ev_step rfl rfl ?_)
  refine ev_i2 rfl rfl (Nat.le_of_ble_eq_true rfl) (Nat.le_of_ble_eq_true rfl) (rv_ok4 hr) m ?_
  iterate 1 (refine ev_step rfl rfl ?_)
  refine ev_ls rfl hl hs ?_
  (repeat refine ev_step rfl rfl ?_)
  exact ev_r1 rfl
theorem wx_back1 {L : Nat} {xs : Nat → Int32} {H H1 : ac_H} {f : List Value} {a1 : Int32} (hr : H[0]? = some (.inr (4, f))) (m : Mx L xs 36 [.ref 0, .int a1] H 1 H1 1 6) : Mt L xs 124 [.ref 0, .int a1, .ref 25] H (some (.int 1)) H1 1 6 := by
  show Ev L xs 124 (0, [.ref 0, .int a1, .ref 25, ac_un], [], _, 0, 0) _
  (repeat refine ev_step rfl rfl ?_)
  refine ev_k2 rfl rfl (Nat.le_of_ble_eq_true rfl) (Nat.le_of_ble_eq_true rfl) (rv_ok4 hr) m rfl rfl ?_
  (repeat refine ev_step rfl rfl ?_)
  exact ev_r1 rfl
theorem wx_back2 {L : Nat} {xs : Nat → Int32} {H H1 : ac_H} {f : List Value} {a1 : Int32} (hr : H[0]? = some (.inr (4, f))) (m : Mx L xs 36 [.ref 0, .int a1] H 3 H1 1 6) : Mt L xs 124 [.ref 0, .int a1, .ref 25] H (some (.int 2)) H1 1 6 := by
  show Ev L xs 124 (0, [.ref 0, .int a1, .ref 25, ac_un], [], _, 0, 0) _
  (repeat refine ev_step rfl rfl ?_)
  refine ev_k2 rfl rfl (Nat.le_of_ble_eq_true rfl) (Nat.le_of_ble_eq_true rfl) (rv_ok4 hr) m rfl rfl ?_
  (repeat refine ev_step rfl rfl ?_)
  exact ev_r1 rfl
theorem wo_sum {L : Nat} {xs : Nat → Int32} {H H1 H2 : ac_H} {f : List Value} {v : Int32} {lo : Nat → Int64} {a1 a2 a3 a4 a5 : Int32} (hr : H[0]? = some (.inr (4, f))) (m : Mt L xs 37 [.ref 0, .int a1, .int a2, .int a3, .int a4, .int a5] H (some (.int v)) H1 0 0) (hl : H1[25]? = some (AL lo)) (hs : ac_set H1 25 (AL (vp_updL lo 0 v.toInt64)) some = some H2) : Mt L xs 125 [.ref 0, .int a1, .int a2, .int a3, .int a4, .int a5, .ref 25] H (some (.int 0)) H2 0 0 := by
  show Ev L xs 125 (0, [.ref 0, .int a1, .int a2, .int a3, .int a4, .int a5, .ref 25, ac_un], [], _, 0, 0) _
  (repeat refine ev_step rfl rfl ?_)
  refine ev_i6 rfl rfl (Nat.le_of_ble_eq_true rfl) (Nat.le_of_ble_eq_true rfl) (rv_ok4 hr) m ?_
  iterate 1 (refine ev_step rfl rfl ?_)
  refine ev_ls rfl hl hs ?_
  (repeat refine ev_step rfl rfl ?_)
  exact ev_r1 rfl
theorem wx_sum1 {L : Nat} {xs : Nat → Int32} {H H1 : ac_H} {f : List Value} {a1 a2 a3 a4 a5 : Int32} (hr : H[0]? = some (.inr (4, f))) (m : Mx L xs 37 [.ref 0, .int a1, .int a2, .int a3, .int a4, .int a5] H 0 H1 1 6) : Mt L xs 125 [.ref 0, .int a1, .int a2, .int a3, .int a4, .int a5, .ref 25] H (some (.int 1)) H1 1 6 := by
  show Ev L xs 125 (0, [.ref 0, .int a1, .int a2, .int a3, .int a4, .int a5, .ref 25, ac_un], [], _, 0, 0) _
  (repeat refine ev_step rfl rfl ?_)
  refine ev_k6 rfl rfl (Nat.le_of_ble_eq_true rfl) (Nat.le_of_ble_eq_true rfl) (rv_ok4 hr) m rfl rfl ?_
  (repeat refine ev_step rfl rfl ?_)
  exact ev_r1 rfl
theorem wx_sum2 {L : Nat} {xs : Nat → Int32} {H H1 : ac_H} {f : List Value} {a1 a2 a3 a4 a5 : Int32} (hr : H[0]? = some (.inr (4, f))) (m : Mx L xs 37 [.ref 0, .int a1, .int a2, .int a3, .int a4, .int a5] H 1 H1 1 6) : Mt L xs 125 [.ref 0, .int a1, .int a2, .int a3, .int a4, .int a5, .ref 25] H (some (.int 2)) H1 1 6 := by
  show Ev L xs 125 (0, [.ref 0, .int a1, .int a2, .int a3, .int a4, .int a5, .ref 25, ac_un], [], _, 0, 0) _
  (repeat refine ev_step rfl rfl ?_)
  refine ev_k6 rfl rfl (Nat.le_of_ble_eq_true rfl) (Nat.le_of_ble_eq_true rfl) (rv_ok4 hr) m rfl rfl ?_
  (repeat refine ev_step rfl rfl ?_)
  exact ev_r1 rfl
theorem wo_book {L : Nat} {xs : Nat → Int32} {H H1 H2 : ac_H} {f : List Value} {v : Int32} {lo : Nat → Int64} {a1 a2 : Int32} (hr : H[0]? = some (.inr (4, f))) (m : Mt L xs 38 [.ref 0, .int a1, .int a2] H (some (.int v)) H1 0 0) (hl : H1[25]? = some (AL lo)) (hs : ac_set H1 25 (AL (vp_updL lo 0 v.toInt64)) some = some H2) : Mt L xs 126 [.ref 0, .int a1, .int a2, .ref 25] H (some (.int 0)) H2 0 0 := by
  show Ev L xs 126 (0, [.ref 0, .int a1, .int a2, .ref 25, ac_un], [], _, 0, 0) _
  (repeat refine ev_step rfl rfl ?_)
  refine ev_i3 rfl rfl (Nat.le_of_ble_eq_true rfl) (Nat.le_of_ble_eq_true rfl) (rv_ok4 hr) m ?_
  iterate 1 (refine ev_step rfl rfl ?_)
  refine ev_ls rfl hl hs ?_
  (repeat refine ev_step rfl rfl ?_)
  exact ev_r1 rfl
theorem wx_book1 {L : Nat} {xs : Nat → Int32} {H H1 : ac_H} {f : List Value} {a1 a2 : Int32} (hr : H[0]? = some (.inr (4, f))) (m : Mx L xs 38 [.ref 0, .int a1, .int a2] H 1 H1 1 6) : Mt L xs 126 [.ref 0, .int a1, .int a2, .ref 25] H (some (.int 1)) H1 1 6 := by
  show Ev L xs 126 (0, [.ref 0, .int a1, .int a2, .ref 25, ac_un], [], _, 0, 0) _
  (repeat refine ev_step rfl rfl ?_)
  refine ev_k3 rfl rfl (Nat.le_of_ble_eq_true rfl) (Nat.le_of_ble_eq_true rfl) (rv_ok4 hr) m rfl rfl ?_
  (repeat refine ev_step rfl rfl ?_)
  exact ev_r1 rfl
theorem wo_mark {L : Nat} {xs : Nat → Int32} {H H1 H2 : ac_H} {f : List Value} {v : Int32} {lo : Nat → Int64} {a1 a2 a3 : Int32} (hr : H[0]? = some (.inr (4, f))) (m : Mt L xs 40 [.ref 0, .int a1, .int a2, .int a3] H (some (.int v)) H1 0 0) (hl : H1[25]? = some (AL lo)) (hs : ac_set H1 25 (AL (vp_updL lo 0 v.toInt64)) some = some H2) : Mt L xs 127 [.ref 0, .int a1, .int a2, .int a3, .ref 25] H (some (.int 0)) H2 0 0 := by
  show Ev L xs 127 (0, [.ref 0, .int a1, .int a2, .int a3, .ref 25, ac_un], [], _, 0, 0) _
  (repeat refine ev_step rfl rfl ?_)
  refine ev_i4 rfl rfl (Nat.le_of_ble_eq_true rfl) (Nat.le_of_ble_eq_true rfl) (rv_ok4 hr) m ?_
  iterate 1 (refine ev_step rfl rfl ?_)
  refine ev_ls rfl hl hs ?_
  (repeat refine ev_step rfl rfl ?_)
  exact ev_r1 rfl
theorem wx_mark1 {L : Nat} {xs : Nat → Int32} {H H1 : ac_H} {f : List Value} {a1 a2 a3 : Int32} (hr : H[0]? = some (.inr (4, f))) (m : Mx L xs 40 [.ref 0, .int a1, .int a2, .int a3] H 0 H1 1 6) : Mt L xs 127 [.ref 0, .int a1, .int a2, .int a3, .ref 25] H (some (.int 1)) H1 1 6 := by
  show Ev L xs 127 (0, [.ref 0, .int a1, .int a2, .int a3, .ref 25, ac_un], [], _, 0, 0) _
  (repeat refine ev_step rfl rfl ?_)
  refine ev_k4 rfl rfl (Nat.le_of_ble_eq_true rfl) (Nat.le_of_ble_eq_true rfl) (rv_ok4 hr) m rfl rfl ?_
  (repeat refine ev_step rfl rfl ?_)
  exact ev_r1 rfl
theorem wx_mark2 {L : Nat} {xs : Nat → Int32} {H H1 : ac_H} {f : List Value} {a1 a2 a3 : Int32} (hr : H[0]? = some (.inr (4, f))) (m : Mx L xs 40 [.ref 0, .int a1, .int a2, .int a3] H 1 H1 1 6) : Mt L xs 127 [.ref 0, .int a1, .int a2, .int a3, .ref 25] H (some (.int 2)) H1 1 6 := by
  show Ev L xs 127 (0, [.ref 0, .int a1, .int a2, .int a3, .ref 25, ac_un], [], _, 0, 0) _
  (repeat refine ev_step rfl rfl ?_)
  refine ev_k4 rfl rfl (Nat.le_of_ble_eq_true rfl) (Nat.le_of_ble_eq_true rfl) (rv_ok4 hr) m rfl rfl ?_
  (repeat refine ev_step rfl rfl ?_)
  exact ev_r1 rfl
theorem wx_mark3 {L : Nat} {xs : Nat → Int32} {H H1 : ac_H} {f : List Value} {a1 a2 a3 : Int32} (hr : H[0]? = some (.inr (4, f))) (m : Mx L xs 40 [.ref 0, .int a1, .int a2, .int a3] H 4 H1 1 6) : Mt L xs 127 [.ref 0, .int a1, .int a2, .int a3, .ref 25] H (some (.int 3)) H1 1 6 := by
  show Ev L xs 127 (0, [.ref 0, .int a1, .int a2, .int a3, .ref 25, ac_un], [], _, 0, 0) _
  (repeat refine ev_step rfl rfl ?_)
  refine ev_k4 rfl rfl (Nat.le_of_ble_eq_true rfl) (Nat.le_of_ble_eq_true rfl) (rv_ok4 hr) m rfl rfl ?_
  (repeat refine ev_step rfl rfl ?_)
  exact ev_r1 rfl
theorem wx_mark4 {L : Nat} {xs : Nat → Int32} {H H1 : ac_H} {f : List Value} {a1 a2 a3 : Int32} (hr : H[0]? = some (.inr (4, f))) (m : Mx L xs 40 [.ref 0, .int a1, .int a2, .int a3] H 2 H1 1 6) : Mt L xs 127 [.ref 0, .int a1, .int a2, .int a3, .ref 25] H (some (.int 4)) H1 1 6 := by
  show Ev L xs 127 (0, [.ref 0, .int a1, .int a2, .int a3, .ref 25, ac_un], [], _, 0, 0) _
  (repeat refine ev_step rfl rfl ?_)
  refine ev_k4 rfl rfl (Nat.le_of_ble_eq_true rfl) (Nat.le_of_ble_eq_true rfl) (rv_ok4 hr) m rfl rfl ?_
  (repeat refine ev_step rfl rfl ?_)
  exact ev_r1 rfl
theorem wx_mark5 {L : Nat} {xs : Nat → Int32} {H H1 : ac_H} {f : List Value} {a1 a2 a3 : Int32} (hr : H[0]? = some (.inr (4, f))) (m : Mx L xs 40 [.ref 0, .int a1, .int a2, .int a3] H 3 H1 1 6) : Mt L xs 127 [.ref 0, .int a1, .int a2, .int a3, .ref 25] H (some (.int 5)) H1 1 6 := by
  show Ev L xs 127 (0, [.ref 0, .int a1, .int a2, .int a3, .ref 25, ac_un], [], _, 0, 0) _
  (repeat refine ev_step rfl rfl ?_)
  refine ev_k4 rfl rfl (Nat.le_of_ble_eq_true rfl) (Nat.le_of_ble_eq_true rfl) (rv_ok4 hr) m rfl rfl ?_
  (repeat refine ev_step rfl rfl ?_)
  exact ev_r1 rfl
theorem wo_marked {L : Nat} {xs : Nat → Int32} {H H1 H2 : ac_H} {f : List Value} {v : Int32} {lo : Nat → Int64} {a1 : Int32} (hr : H[0]? = some (.inr (4, f))) (m : Mt L xs 41 [.ref 0, .int a1] H (some (.int v)) H1 0 0) (hl : H1[25]? = some (AL lo)) (hs : ac_set H1 25 (AL (vp_updL lo 0 v.toInt64)) some = some H2) : Mt L xs 128 [.ref 0, .int a1, .ref 25] H (some (.int 0)) H2 0 0 := by
  show Ev L xs 128 (0, [.ref 0, .int a1, .ref 25, ac_un], [], _, 0, 0) _
  (repeat refine ev_step rfl rfl ?_)
  refine ev_i2 rfl rfl (Nat.le_of_ble_eq_true rfl) (Nat.le_of_ble_eq_true rfl) (rv_ok4 hr) m ?_
  iterate 1 (refine ev_step rfl rfl ?_)
  refine ev_ls rfl hl hs ?_
  (repeat refine ev_step rfl rfl ?_)
  exact ev_r1 rfl
theorem wx_marked1 {L : Nat} {xs : Nat → Int32} {H H1 : ac_H} {f : List Value} {a1 : Int32} (hr : H[0]? = some (.inr (4, f))) (m : Mx L xs 41 [.ref 0, .int a1] H 0 H1 1 6) : Mt L xs 128 [.ref 0, .int a1, .ref 25] H (some (.int 1)) H1 1 6 := by
  show Ev L xs 128 (0, [.ref 0, .int a1, .ref 25, ac_un], [], _, 0, 0) _
  (repeat refine ev_step rfl rfl ?_)
  refine ev_k2 rfl rfl (Nat.le_of_ble_eq_true rfl) (Nat.le_of_ble_eq_true rfl) (rv_ok4 hr) m rfl rfl ?_
  (repeat refine ev_step rfl rfl ?_)
  exact ev_r1 rfl
