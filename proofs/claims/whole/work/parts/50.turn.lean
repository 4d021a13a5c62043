/-! ===== the law: one turn, at the machine's level ===== -/
theorem rv_ok {as : List Value} {H : ac_H} {f : List Value} (h : H[15]? = some (.inr (5, f))) : ac_rv 7 (.ref 15 :: as) H = true := by
  simp only [ac_rv, h]
  rfl
theorem ev_xa {L : Nat} {xs : Nat → Int32} {y pc nx : Nat} {ls st : List Value} {h : ac_H} {c k : Nat} {r : ac_R} {i : Int32} (hT : ac_Tf L xs y pc = .inl (o_xa L xs nx)) (j : Nat) (hi : i = nI j) (hj : j < L) (hL : L < 2 ^ 31) (kk : Ev L xs y (nx, ls, .int (xs j) :: st, h, c, k) r) : Ev L xs y (pc, ls, .int i :: .float 9 :: st, h, c, k) r := by
  subst hi
  refine ev_step hT ?_ kk
  have hc := nI_clamp (n := j) (by omega)
  have hin : ac_in (nI j) L = true := by simp only [ac_in, hc, Bool.and_eq_true, decide_eq_true_eq]; exact ⟨nI_pos (by omega), hj⟩
  simp only [o_xa, hc]
  rw [if_pos ⟨hin, trivial⟩]
theorem ev_la {L : Nat} {xs : Nat → Int32} {y pc nx : Nat} {ls st : List Value} {h : ac_H} {c k : Nat} {r : ac_R} {a : Nat} {lo : Nat → Int64} (hT : ac_Tf L xs y pc = .inl (o_la nx)) (hh : h[a]? = some (.inl (.long, 1, .inr (.inl lo)))) (kk : Ev L xs y (nx, ls, .long (lo 0) :: st, h, c, k) r) : Ev L xs y (pc, ls, .int 0 :: .ref a :: st, h, c, k) r := by
  refine ev_step hT ?_ kk
  simp only [o_la, hh]
  rfl
theorem lg_same (x : Int64) : lg_cmp x x = 0 := by
  unfold lg_cmp
  simp [Int64.lt_irrefl]
def bO (x : Int32) : Int32 := if x = 0 then 0 else 1

theorem ev_bo {L : Nat} {xs : Nat → Int32} {y p0 p1 p2 p3 p4 : Nat} {ls st : List Value} {h : ac_H} {c k : Nat} {r : ac_R} {x : Int32} (h0 : ac_Tf L xs y p0 = .inl (o_eq0 p3 p1)) (h1 : ac_Tf L xs y p1 = .inl (o_con (.int 1) p2)) (h2 : ac_Tf L xs y p2 = .inl (o_go p4)) (h3 : ac_Tf L xs y p3 = .inl (o_con (.int 0) p4)) (e1 : (0 : Nat) = 0) (e2 : (0 : Nat) = 0) (kk : Ev L xs y (p4, ls, .int (bO x) :: st, h, c, k) r) : Ev L xs y (p0, ls, .int x :: st, h, c, k) r := by
  refine ev_step h0 rfl ?_
  unfold bO at kk
  refine ev_br (fun z => ?_) (fun z => ?_)
  · rw [if_pos z] at kk
    exact ev_step h3 rfl kk
  · rw [if_neg z] at kk
    exact ev_step h1 rfl (ev_step h2 rfl kk)
theorem tn_set {L : Nat} {xs : Nat → Int32} {R : ac_R} {i c0 k0 c k : Nat} {u5 u6 : Value} {H0 H1 H2 : ac_H} {κ : Int32} {f1 f2 : List Value} (hi : i + 5 < L) (hL : L < 2 ^ 31) (mw : Mt L xs 113 [.ref 0, .int (xs (i + 1)), .int (xs (i + 2)), .int (xs (i + 3))] H0 (some (.int κ)) H1 c k) (r1 : H1[15]? = some (.inr (5, f1))) (mm : Mt L xs 76 [.ref 15, .int (xs (i + 1)), .int (xs (i + 2)), .int (xs (i + 3))] H1 none H2 0 0) (r2 : H2[15]? = some (.inr (5, f2))) (mt : Mt L xs 67 [.ref 15] H2 (some (.int κ)) H2 0 0) (kk : ∀ u5 u6, Ev L xs 129 (1329, [.float 9, .ref 0, .ref 15, .ref 25, .int (nI i), u5, u6], [], H2, c0 + c, k0 + k) R) : Ev L xs 129 (148, [.float 9, .ref 0, .ref 15, .ref 25, .int (nI i), u5, u6], [], H0, c0, k0) R := by
  (repeat refine ev_step rfl rfl ?_)
  refine ev_xa rfl (i + 1) (nI_add i 1) (by omega) hL ?_
  (repeat refine ev_step rfl rfl ?_)
  refine ev_xa rfl (i + 2) (nI_add i 2) (by omega) hL ?_
  (repeat refine ev_step rfl rfl ?_)
  refine ev_xa rfl (i + 3) (nI_add i 3) (by omega) hL ?_
  (repeat refine ev_step rfl rfl ?_)
  refine ev_i4 rfl rfl (Nat.le_of_ble_eq_true rfl) (Nat.le_of_ble_eq_true rfl) rfl mw ?_
  (repeat refine ev_step rfl rfl ?_)
  refine ev_xa rfl (i + 1) (nI_add i 1) (by omega) hL ?_
  (repeat refine ev_step rfl rfl ?_)
  refine ev_xa rfl (i + 2) (nI_add i 2) (by omega) hL ?_
  (repeat refine ev_step rfl rfl ?_)
  refine ev_xa rfl (i + 3) (nI_add i 3) (by omega) hL ?_
  (repeat refine ev_step rfl rfl ?_)
  refine ev_v4 rfl rfl (Nat.le_of_ble_eq_true rfl) (Nat.le_of_ble_eq_true rfl) (rv_ok r1) mm ?_
  (repeat refine ev_step rfl rfl ?_)
  refine ev_i1 rfl rfl (Nat.le_of_ble_eq_true rfl) (Nat.le_of_ble_eq_true rfl) (rv_ok r2) mt ?_
  iterate 2 (refine ev_step rfl rfl ?_)
  refine ev_t rfl ?_
  iterate 1 (refine ev_step rfl rfl ?_)
  exact kk _ _
theorem tn_get {L : Nat} {xs : Nat → Int32} {R : ac_R} {i c0 k0 c k : Nat} {u5 u6 : Value} {H0 H1 H2 : ac_H} {κ v : Int32} {f1 f2 : List Value} (hi : i + 5 < L) (hL : L < 2 ^ 31) (mw : Mt L xs 114 [.ref 0, .int (xs (i + 1)), .int (xs (i + 2)), .ref 25] H0 (some (.int κ)) H1 c k) (r1 : H1[15]? = some (.inr (5, f1))) (mm : Mt L xs 77 [.ref 15, .int (xs (i + 1)), .int (xs (i + 2))] H1 (some (.int v)) H2 0 0) (r2 : H2[15]? = some (.inr (5, f2))) (mt : Mt L xs 67 [.ref 15] H2 (some (.int κ)) H2 0 0) {lo : Nat → Int64} (hl : H2[25]? = some (.inl (.long, 1, .inr (.inl lo)))) (hz : κ = 0 → lo 0 = v.toInt64) (kk : ∀ u5 u6, Ev L xs 129 (1329, [.float 9, .ref 0, .ref 15, .ref 25, .int (nI i), u5, u6], [], H2, c0 + c, k0 + k) R) : Ev L xs 129 (208, [.float 9, .ref 0, .ref 15, .ref 25, .int (nI i), u5, u6], [], H0, c0, k0) R := by
  (repeat refine ev_step rfl rfl ?_)
  refine ev_xa rfl (i + 1) (nI_add i 1) (by omega) hL ?_
  (repeat refine ev_step rfl rfl ?_)
  refine ev_xa rfl (i + 2) (nI_add i 2) (by omega) hL ?_
  (repeat refine ev_step rfl rfl ?_)
  refine ev_i4 rfl rfl (Nat.le_of_ble_eq_true rfl) (Nat.le_of_ble_eq_true rfl) rfl mw ?_
  (repeat refine ev_step rfl rfl ?_)
  refine ev_xa rfl (i + 1) (nI_add i 1) (by omega) hL ?_
  (repeat refine ev_step rfl rfl ?_)
  refine ev_xa rfl (i + 2) (nI_add i 2) (by omega) hL ?_
  (repeat refine ev_step rfl rfl ?_)
  refine ev_i3 rfl rfl (Nat.le_of_ble_eq_true rfl) (Nat.le_of_ble_eq_true rfl) (rv_ok r1) mm ?_
  (repeat refine ev_step rfl rfl ?_)
  refine ev_i1 rfl rfl (Nat.le_of_ble_eq_true rfl) (Nat.le_of_ble_eq_true rfl) (rv_ok r2) mt ?_
  iterate 2 (refine ev_step rfl rfl ?_)
  refine ev_t rfl ?_
  iterate 2 (refine ev_step rfl rfl ?_)
  refine ev_br (fun z => ?_) (fun z => ?_)
  · iterate 2 (refine ev_step rfl rfl ?_)
    refine ev_la rfl hl ?_
    rw [hz z]
    iterate 3 (refine ev_step rfl rfl ?_)
    rw [lg_same]
    iterate 2 (refine ev_step rfl rfl ?_)
    exact kk _ _
  · iterate 1 (refine ev_step rfl rfl ?_)
    exact kk _ _
theorem tn_rule {L : Nat} {xs : Nat → Int32} {R : ac_R} {i c0 k0 c k : Nat} {u5 u6 : Value} {H0 H1 H2 : ac_H} {κ v : Int32} {f1 f2 : List Value} (hi : i + 5 < L) (hL : L < 2 ^ 31) (mw : Mt L xs 115 [.ref 0, .int (xs (i + 1)), .int (xs (i + 2)), .ref 25] H0 (some (.int κ)) H1 c k) (r1 : H1[15]? = some (.inr (5, f1))) (mm : Mt L xs 75 [.ref 15, .int (xs (i + 1)), .int (xs (i + 2))] H1 (some (.int v)) H2 0 0) (r2 : H2[15]? = some (.inr (5, f2))) (mt : Mt L xs 67 [.ref 15] H2 (some (.int κ)) H2 0 0) {lo : Nat → Int64} (hl : H2[25]? = some (.inl (.long, 1, .inr (.inl lo)))) (hz : κ = 0 → lo 0 = v.toInt64) (kk : ∀ u5 u6, Ev L xs 129 (1329, [.float 9, .ref 0, .ref 15, .ref 25, .int (nI i), u5, u6], [], H2, c0 + c, k0 + k) R) : Ev L xs 129 (276, [.float 9, .ref 0, .ref 15, .ref 25, .int (nI i), u5, u6], [], H0, c0, k0) R := by
  (repeat refine ev_step rfl rfl ?_)
  refine ev_xa rfl (i + 1) (nI_add i 1) (by omega) hL ?_
  (repeat refine ev_step rfl rfl ?_)
  refine ev_xa rfl (i + 2) (nI_add i 2) (by omega) hL ?_
  (repeat refine ev_step rfl rfl ?_)
  refine ev_i4 rfl rfl (Nat.le_of_ble_eq_true rfl) (Nat.le_of_ble_eq_true rfl) rfl mw ?_
  (repeat refine ev_step rfl rfl ?_)
  refine ev_xa rfl (i + 1) (nI_add i 1) (by omega) hL ?_
  (repeat refine ev_step rfl rfl ?_)
  refine ev_xa rfl (i + 2) (nI_add i 2) (by omega) hL ?_
  (repeat refine ev_step rfl rfl ?_)
  refine ev_i3 rfl rfl (Nat.le_of_ble_eq_true rfl) (Nat.le_of_ble_eq_true rfl) (rv_ok r1) mm ?_
  (repeat refine ev_step rfl rfl ?_)
  refine ev_i1 rfl rfl (Nat.le_of_ble_eq_true rfl) (Nat.le_of_ble_eq_true rfl) (rv_ok r2) mt ?_
  iterate 2 (refine ev_step rfl rfl ?_)
  refine ev_t rfl ?_
  iterate 2 (refine ev_step rfl rfl ?_)
  refine ev_br (fun z => ?_) (fun z => ?_)
  · iterate 2 (refine ev_step rfl rfl ?_)
    refine ev_la rfl hl ?_
    rw [hz z]
    iterate 3 (refine ev_step rfl rfl ?_)
    rw [lg_same]
    iterate 2 (refine ev_step rfl rfl ?_)
    exact kk _ _
  · iterate 1 (refine ev_step rfl rfl ?_)
    exact kk _ _
theorem tn_wall {L : Nat} {xs : Nat → Int32} {R : ac_R} {i c0 k0 c k : Nat} {u5 u6 : Value} {H0 H1 H2 : ac_H} {κ v : Int32} {f1 f2 : List Value} (hi : i + 5 < L) (hL : L < 2 ^ 31) (mw : Mt L xs 116 [.ref 0, .int (xs (i + 1)), .int (xs (i + 2)), .int (bO (xs (i + 3))), .ref 25] H0 (some (.int κ)) H1 c k) (r1 : H1[15]? = some (.inr (5, f1))) (mm : Mt L xs 81 [.ref 15, .int (xs (i + 1)), .int (xs (i + 2)), .int (bO (xs (i + 3)))] H1 (some (.int v)) H2 0 0) (r2 : H2[15]? = some (.inr (5, f2))) (mt : Mt L xs 67 [.ref 15] H2 (some (.int κ)) H2 0 0) {lo : Nat → Int64} (hl : H2[25]? = some (.inl (.long, 1, .inr (.inl lo)))) (hz : κ = 0 → lo 0 = (if v = 0 then 0 else 1)) (kk : ∀ u5 u6, Ev L xs 129 (1329, [.float 9, .ref 0, .ref 15, .ref 25, .int (nI i), u5, u6], [], H2, c0 + c, k0 + k) R) : Ev L xs 129 (344, [.float 9, .ref 0, .ref 15, .ref 25, .int (nI i), u5, u6], [], H0, c0, k0) R := by
  (repeat refine ev_step rfl rfl ?_)
  refine ev_xa rfl (i + 1) (nI_add i 1) (by omega) hL ?_
  (repeat refine ev_step rfl rfl ?_)
  refine ev_xa rfl (i + 2) (nI_add i 2) (by omega) hL ?_
  (repeat refine ev_step rfl rfl ?_)
  refine ev_xa rfl (i + 3) (nI_add i 3) (by omega) hL ?_
  refine ev_bo rfl rfl rfl rfl rfl rfl ?_
  (repeat refine ev_step rfl rfl ?_)
  refine ev_i5 rfl rfl (Nat.le_of_ble_eq_true rfl) (Nat.le_of_ble_eq_true rfl) rfl mw ?_
  (repeat refine ev_step rfl rfl ?_)
  refine ev_xa rfl (i + 1) (nI_add i 1) (by omega) hL ?_
  (repeat refine ev_step rfl rfl ?_)
  refine ev_xa rfl (i + 2) (nI_add i 2) (by omega) hL ?_
  (repeat refine ev_step rfl rfl ?_)
  refine ev_xa rfl (i + 3) (nI_add i 3) (by omega) hL ?_
  refine ev_bo rfl rfl rfl rfl rfl rfl ?_
  (repeat refine ev_step rfl rfl ?_)
  refine ev_i4 rfl rfl (Nat.le_of_ble_eq_true rfl) (Nat.le_of_ble_eq_true rfl) (rv_ok r1) mm ?_
  (repeat refine ev_step rfl rfl ?_)
  refine ev_i1 rfl rfl (Nat.le_of_ble_eq_true rfl) (Nat.le_of_ble_eq_true rfl) (rv_ok r2) mt ?_
  iterate 2 (refine ev_step rfl rfl ?_)
  refine ev_t rfl ?_
  iterate 2 (refine ev_step rfl rfl ?_)
  refine ev_br (fun z => ?_) (fun z => ?_)
  · iterate 2 (refine ev_step rfl rfl ?_)
    refine ev_la rfl hl ?_
    rw [hz z]
    iterate 2 (refine ev_step rfl rfl ?_)
    refine ev_br (fun z2 => ?_) (fun z2 => ?_)
    · rw [if_pos z2]
      iterate 2 (refine ev_step rfl rfl ?_)
      rw [lg_same]
      iterate 2 (refine ev_step rfl rfl ?_)
      exact kk _ _
    · rw [if_neg z2]
      iterate 3 (refine ev_step rfl rfl ?_)
      rw [lg_same]
      iterate 2 (refine ev_step rfl rfl ?_)
      exact kk _ _
  · iterate 1 (refine ev_step rfl rfl ?_)
    exact kk _ _
theorem tn_source {L : Nat} {xs : Nat → Int32} {R : ac_R} {i c0 k0 c k : Nat} {u5 u6 : Value} {H0 H1 H2 : ac_H} {κ : Int32} {f1 f2 : List Value} (hi : i + 5 < L) (hL : L < 2 ^ 31) (mw : Mt L xs 117 [.ref 0, .int (xs (i + 1)), .int (xs (i + 2)), .int (xs (i + 3))] H0 (some (.int κ)) H1 c k) (r1 : H1[15]? = some (.inr (5, f1))) (mm : Mt L xs 82 [.ref 15, .int (xs (i + 1)), .int (xs (i + 2)), .int (xs (i + 3))] H1 none H2 0 0) (r2 : H2[15]? = some (.inr (5, f2))) (mt : Mt L xs 67 [.ref 15] H2 (some (.int κ)) H2 0 0) (kk : ∀ u5 u6, Ev L xs 129 (1329, [.float 9, .ref 0, .ref 15, .ref 25, .int (nI i), u5, u6], [], H2, c0 + c, k0 + k) R) : Ev L xs 129 (447, [.float 9, .ref 0, .ref 15, .ref 25, .int (nI i), u5, u6], [], H0, c0, k0) R := by
  (repeat refine ev_step rfl rfl ?_)
  refine ev_xa rfl (i + 1) (nI_add i 1) (by omega) hL ?_
  (repeat refine ev_step rfl rfl ?_)
  refine ev_xa rfl (i + 2) (nI_add i 2) (by omega) hL ?_
  (repeat refine ev_step rfl rfl ?_)
  refine ev_xa rfl (i + 3) (nI_add i 3) (by omega) hL ?_
  (repeat refine ev_step rfl rfl ?_)
  refine ev_i4 rfl rfl (Nat.le_of_ble_eq_true rfl) (Nat.le_of_ble_eq_true rfl) rfl mw ?_
  (repeat refine ev_step rfl rfl ?_)
  refine ev_xa rfl (i + 1) (nI_add i 1) (by omega) hL ?_
  (repeat refine ev_step rfl rfl ?_)
  refine ev_xa rfl (i + 2) (nI_add i 2) (by omega) hL ?_
  (repeat refine ev_step rfl rfl ?_)
  refine ev_xa rfl (i + 3) (nI_add i 3) (by omega) hL ?_
  (repeat refine ev_step rfl rfl ?_)
  refine ev_v4 rfl rfl (Nat.le_of_ble_eq_true rfl) (Nat.le_of_ble_eq_true rfl) (rv_ok r1) mm ?_
  (repeat refine ev_step rfl rfl ?_)
  refine ev_i1 rfl rfl (Nat.le_of_ble_eq_true rfl) (Nat.le_of_ble_eq_true rfl) (rv_ok r2) mt ?_
  iterate 2 (refine ev_step rfl rfl ?_)
  refine ev_t rfl ?_
  iterate 1 (refine ev_step rfl rfl ?_)
  exact kk _ _
theorem tn_sink {L : Nat} {xs : Nat → Int32} {R : ac_R} {i c0 k0 c k : Nat} {u5 u6 : Value} {H0 H1 H2 : ac_H} {κ v : Int32} {f1 f2 : List Value} (hi : i + 5 < L) (hL : L < 2 ^ 31) (mw : Mt L xs 118 [.ref 0, .int (xs (i + 1)), .int (xs (i + 2)), .int (bO (xs (i + 3))), .ref 25] H0 (some (.int κ)) H1 c k) (r1 : H1[15]? = some (.inr (5, f1))) (mm : Mt L xs 83 [.ref 15, .int (xs (i + 1)), .int (xs (i + 2)), .int (bO (xs (i + 3)))] H1 (some (.int v)) H2 0 0) (r2 : H2[15]? = some (.inr (5, f2))) (mt : Mt L xs 67 [.ref 15] H2 (some (.int κ)) H2 0 0) {lo : Nat → Int64} (hl : H2[25]? = some (.inl (.long, 1, .inr (.inl lo)))) (hz : κ = 0 → lo 0 = (if v = 0 then 0 else 1)) (kk : ∀ u5 u6, Ev L xs 129 (1329, [.float 9, .ref 0, .ref 15, .ref 25, .int (nI i), u5, u6], [], H2, c0 + c, k0 + k) R) : Ev L xs 129 (507, [.float 9, .ref 0, .ref 15, .ref 25, .int (nI i), u5, u6], [], H0, c0, k0) R := by
  (repeat refine ev_step rfl rfl ?_)
  refine ev_xa rfl (i + 1) (nI_add i 1) (by omega) hL ?_
  (repeat refine ev_step rfl rfl ?_)
  refine ev_xa rfl (i + 2) (nI_add i 2) (by omega) hL ?_
  (repeat refine ev_step rfl rfl ?_)
  refine ev_xa rfl (i + 3) (nI_add i 3) (by omega) hL ?_
  refine ev_bo rfl rfl rfl rfl rfl rfl ?_
  (repeat refine ev_step rfl rfl ?_)
  refine ev_i5 rfl rfl (Nat.le_of_ble_eq_true rfl) (Nat.le_of_ble_eq_true rfl) rfl mw ?_
  (repeat refine ev_step rfl rfl ?_)
  refine ev_xa rfl (i + 1) (nI_add i 1) (by omega) hL ?_
  (repeat refine ev_step rfl rfl ?_)
  refine ev_xa rfl (i + 2) (nI_add i 2) (by omega) hL ?_
  (repeat refine ev_step rfl rfl ?_)
  refine ev_xa rfl (i + 3) (nI_add i 3) (by omega) hL ?_
  refine ev_bo rfl rfl rfl rfl rfl rfl ?_
  (repeat refine ev_step rfl rfl ?_)
  refine ev_i4 rfl rfl (Nat.le_of_ble_eq_true rfl) (Nat.le_of_ble_eq_true rfl) (rv_ok r1) mm ?_
  (repeat refine ev_step rfl rfl ?_)
  refine ev_i1 rfl rfl (Nat.le_of_ble_eq_true rfl) (Nat.le_of_ble_eq_true rfl) (rv_ok r2) mt ?_
  iterate 2 (refine ev_step rfl rfl ?_)
  refine ev_t rfl ?_
  iterate 2 (refine ev_step rfl rfl ?_)
  refine ev_br (fun z => ?_) (fun z => ?_)
  · iterate 2 (refine ev_step rfl rfl ?_)
    refine ev_la rfl hl ?_
    rw [hz z]
    iterate 2 (refine ev_step rfl rfl ?_)
    refine ev_br (fun z2 => ?_) (fun z2 => ?_)
    · rw [if_pos z2]
      iterate 2 (refine ev_step rfl rfl ?_)
      rw [lg_same]
      iterate 2 (refine ev_step rfl rfl ?_)
      exact kk _ _
    · rw [if_neg z2]
      iterate 3 (refine ev_step rfl rfl ?_)
      rw [lg_same]
      iterate 2 (refine ev_step rfl rfl ?_)
      exact kk _ _
  · iterate 1 (refine ev_step rfl rfl ?_)
    exact kk _ _
theorem tn_body {L : Nat} {xs : Nat → Int32} {R : ac_R} {i c0 k0 c k : Nat} {u5 u6 : Value} {H0 H1 H2 : ac_H} {κ v : Int32} {f1 f2 : List Value} (hi : i + 5 < L) (hL : L < 2 ^ 31) (mw : Mt L xs 119 [.ref 0, .int (xs (i + 1)), .int (xs (i + 2)), .int (bO (xs (i + 3))), .ref 25] H0 (some (.int κ)) H1 c k) (r1 : H1[15]? = some (.inr (5, f1))) (mm : Mt L xs 84 [.ref 15, .int (xs (i + 1)), .int (xs (i + 2)), .int (bO (xs (i + 3)))] H1 (some (.int v)) H2 0 0) (r2 : H2[15]? = some (.inr (5, f2))) (mt : Mt L xs 67 [.ref 15] H2 (some (.int κ)) H2 0 0) {lo : Nat → Int64} (hl : H2[25]? = some (.inl (.long, 1, .inr (.inl lo)))) (hz : κ = 0 → lo 0 = (if v = 0 then 0 else 1)) (kk : ∀ u5 u6, Ev L xs 129 (1329, [.float 9, .ref 0, .ref 15, .ref 25, .int (nI i), u5, u6], [], H2, c0 + c, k0 + k) R) : Ev L xs 129 (610, [.float 9, .ref 0, .ref 15, .ref 25, .int (nI i), u5, u6], [], H0, c0, k0) R := by
  (repeat refine ev_step rfl rfl ?_)
  refine ev_xa rfl (i + 1) (nI_add i 1) (by omega) hL ?_
  (repeat refine ev_step rfl rfl ?_)
  refine ev_xa rfl (i + 2) (nI_add i 2) (by omega) hL ?_
  (repeat refine ev_step rfl rfl ?_)
  refine ev_xa rfl (i + 3) (nI_add i 3) (by omega) hL ?_
  refine ev_bo rfl rfl rfl rfl rfl rfl ?_
  (repeat refine ev_step rfl rfl ?_)
  refine ev_i5 rfl rfl (Nat.le_of_ble_eq_true rfl) (Nat.le_of_ble_eq_true rfl) rfl mw ?_
  (repeat refine ev_step rfl rfl ?_)
  refine ev_xa rfl (i + 1) (nI_add i 1) (by omega) hL ?_
  (repeat refine ev_step rfl rfl ?_)
  refine ev_xa rfl (i + 2) (nI_add i 2) (by omega) hL ?_
  (repeat refine ev_step rfl rfl ?_)
  refine ev_xa rfl (i + 3) (nI_add i 3) (by omega) hL ?_
  refine ev_bo rfl rfl rfl rfl rfl rfl ?_
  (repeat refine ev_step rfl rfl ?_)
  refine ev_i4 rfl rfl (Nat.le_of_ble_eq_true rfl) (Nat.le_of_ble_eq_true rfl) (rv_ok r1) mm ?_
  (repeat refine ev_step rfl rfl ?_)
  refine ev_i1 rfl rfl (Nat.le_of_ble_eq_true rfl) (Nat.le_of_ble_eq_true rfl) (rv_ok r2) mt ?_
  iterate 2 (refine ev_step rfl rfl ?_)
  refine ev_t rfl ?_
  iterate 2 (refine ev_step rfl rfl ?_)
  refine ev_br (fun z => ?_) (fun z => ?_)
  · iterate 2 (refine ev_step rfl rfl ?_)
    refine ev_la rfl hl ?_
    rw [hz z]
    iterate 2 (refine ev_step rfl rfl ?_)
    refine ev_br (fun z2 => ?_) (fun z2 => ?_)
    · rw [if_pos z2]
      iterate 2 (refine ev_step rfl rfl ?_)
      rw [lg_same]
      iterate 2 (refine ev_step rfl rfl ?_)
      exact kk _ _
    · rw [if_neg z2]
      iterate 3 (refine ev_step rfl rfl ?_)
      rw [lg_same]
      iterate 2 (refine ev_step rfl rfl ?_)
      exact kk _ _
  · iterate 1 (refine ev_step rfl rfl ?_)
    exact kk _ _
theorem tn_edge {L : Nat} {xs : Nat → Int32} {R : ac_R} {i c0 k0 c k : Nat} {u5 u6 : Value} {H0 H1 H2 : ac_H} {κ v : Int32} {f1 f2 : List Value} (hi : i + 5 < L) (hL : L < 2 ^ 31) (mw : Mt L xs 120 [.ref 0, .int (xs (i + 1)), .int (xs (i + 2)), .ref 25] H0 (some (.int κ)) H1 c k) (r1 : H1[15]? = some (.inr (5, f1))) (mm : Mt L xs 85 [.ref 15, .int (xs (i + 1)), .int (xs (i + 2))] H1 (some (.int v)) H2 0 0) (r2 : H2[15]? = some (.inr (5, f2))) (mt : Mt L xs 67 [.ref 15] H2 (some (.int κ)) H2 0 0) {lo : Nat → Int64} (hl : H2[25]? = some (.inl (.long, 1, .inr (.inl lo)))) (hz : κ = 0 → lo 0 = v.toInt64) (kk : ∀ u5 u6, Ev L xs 129 (1329, [.float 9, .ref 0, .ref 15, .ref 25, .int (nI i), u5, u6], [], H2, c0 + c, k0 + k) R) : Ev L xs 129 (713, [.float 9, .ref 0, .ref 15, .ref 25, .int (nI i), u5, u6], [], H0, c0, k0) R := by
  (repeat refine ev_step rfl rfl ?_)
  refine ev_xa rfl (i + 1) (nI_add i 1) (by omega) hL ?_
  (repeat refine ev_step rfl rfl ?_)
  refine ev_xa rfl (i + 2) (nI_add i 2) (by omega) hL ?_
  (repeat refine ev_step rfl rfl ?_)
  refine ev_i4 rfl rfl (Nat.le_of_ble_eq_true rfl) (Nat.le_of_ble_eq_true rfl) rfl mw ?_
  (repeat refine ev_step rfl rfl ?_)
  refine ev_xa rfl (i + 1) (nI_add i 1) (by omega) hL ?_
  (repeat refine ev_step rfl rfl ?_)
  refine ev_xa rfl (i + 2) (nI_add i 2) (by omega) hL ?_
  (repeat refine ev_step rfl rfl ?_)
  refine ev_i3 rfl rfl (Nat.le_of_ble_eq_true rfl) (Nat.le_of_ble_eq_true rfl) (rv_ok r1) mm ?_
  (repeat refine ev_step rfl rfl ?_)
  refine ev_i1 rfl rfl (Nat.le_of_ble_eq_true rfl) (Nat.le_of_ble_eq_true rfl) (rv_ok r2) mt ?_
  iterate 2 (refine ev_step rfl rfl ?_)
  refine ev_t rfl ?_
  iterate 2 (refine ev_step rfl rfl ?_)
  refine ev_br (fun z => ?_) (fun z => ?_)
  · iterate 2 (refine ev_step rfl rfl ?_)
    refine ev_la rfl hl ?_
    rw [hz z]
    iterate 3 (refine ev_step rfl rfl ?_)
    rw [lg_same]
    iterate 2 (refine ev_step rfl rfl ?_)
    exact kk _ _
  · iterate 1 (refine ev_step rfl rfl ?_)
    exact kk _ _
theorem tn_mass {L : Nat} {xs : Nat → Int32} {R : ac_R} {i c0 k0 c k : Nat} {u5 u6 : Value} {H0 H1 H2 : ac_H} {κ : Int32} {f1 f2 : List Value} (hi : i + 5 < L) (hL : L < 2 ^ 31) (mw : Mt L xs 121 [.ref 0, .int (xs (i + 1))] H0 (some (.int κ)) H1 c k) (r1 : H1[15]? = some (.inr (5, f1))) (mm : Mt L xs 86 [.ref 15, .int (xs (i + 1))] H1 none H2 0 0) (r2 : H2[15]? = some (.inr (5, f2))) (mt : Mt L xs 67 [.ref 15] H2 (some (.int κ)) H2 0 0) (kk : ∀ u5 u6, Ev L xs 129 (1329, [.float 9, .ref 0, .ref 15, .ref 25, .int (nI i), u5, u6], [], H2, c0 + c, k0 + k) R) : Ev L xs 129 (781, [.float 9, .ref 0, .ref 15, .ref 25, .int (nI i), u5, u6], [], H0, c0, k0) R := by
  (repeat refine ev_step rfl rfl ?_)
  refine ev_xa rfl (i + 1) (nI_add i 1) (by omega) hL ?_
  (repeat refine ev_step rfl rfl ?_)
  refine ev_i2 rfl rfl (Nat.le_of_ble_eq_true rfl) (Nat.le_of_ble_eq_true rfl) rfl mw ?_
  (repeat refine ev_step rfl rfl ?_)
  refine ev_xa rfl (i + 1) (nI_add i 1) (by omega) hL ?_
  (repeat refine ev_step rfl rfl ?_)
  refine ev_v2 rfl rfl (Nat.le_of_ble_eq_true rfl) (Nat.le_of_ble_eq_true rfl) (rv_ok r1) mm ?_
  (repeat refine ev_step rfl rfl ?_)
  refine ev_i1 rfl rfl (Nat.le_of_ble_eq_true rfl) (Nat.le_of_ble_eq_true rfl) (rv_ok r2) mt ?_
  iterate 2 (refine ev_step rfl rfl ?_)
  refine ev_t rfl ?_
  iterate 1 (refine ev_step rfl rfl ?_)
  exact kk _ _
theorem tn_account {L : Nat} {xs : Nat → Int32} {R : ac_R} {i c0 k0 c k : Nat} {u5 u6 : Value} {H0 H1 H2 : ac_H} {κ v : Int32} {f1 f2 : List Value} (hi : i + 5 < L) (hL : L < 2 ^ 31) (mw : Mt L xs 122 [.ref 0, .int (xs (i + 1)), .ref 25] H0 (some (.int κ)) H1 c k) (r1 : H1[15]? = some (.inr (5, f1))) (mm : Mt L xs 87 [.ref 15, .int (xs (i + 1))] H1 (some (.int v)) H2 0 0) (r2 : H2[15]? = some (.inr (5, f2))) (mt : Mt L xs 67 [.ref 15] H2 (some (.int κ)) H2 0 0) {lo : Nat → Int64} (hl : H2[25]? = some (.inl (.long, 1, .inr (.inl lo)))) (hz : κ = 0 → lo 0 = v.toInt64) (kk : ∀ u5 u6, Ev L xs 129 (1329, [.float 9, .ref 0, .ref 15, .ref 25, .int (nI i), u5, u6], [], H2, c0 + c, k0 + k) R) : Ev L xs 129 (817, [.float 9, .ref 0, .ref 15, .ref 25, .int (nI i), u5, u6], [], H0, c0, k0) R := by
  (repeat refine ev_step rfl rfl ?_)
  refine ev_xa rfl (i + 1) (nI_add i 1) (by omega) hL ?_
  (repeat refine ev_step rfl rfl ?_)
  refine ev_i3 rfl rfl (Nat.le_of_ble_eq_true rfl) (Nat.le_of_ble_eq_true rfl) rfl mw ?_
  (repeat refine ev_step rfl rfl ?_)
  refine ev_xa rfl (i + 1) (nI_add i 1) (by omega) hL ?_
  (repeat refine ev_step rfl rfl ?_)
  refine ev_i2 rfl rfl (Nat.le_of_ble_eq_true rfl) (Nat.le_of_ble_eq_true rfl) (rv_ok r1) mm ?_
  (repeat refine ev_step rfl rfl ?_)
  refine ev_i1 rfl rfl (Nat.le_of_ble_eq_true rfl) (Nat.le_of_ble_eq_true rfl) (rv_ok r2) mt ?_
  iterate 2 (refine ev_step rfl rfl ?_)
  refine ev_t rfl ?_
  iterate 2 (refine ev_step rfl rfl ?_)
  refine ev_br (fun z => ?_) (fun z => ?_)
  · iterate 2 (refine ev_step rfl rfl ?_)
    refine ev_la rfl hl ?_
    rw [hz z]
    iterate 3 (refine ev_step rfl rfl ?_)
    rw [lg_same]
    iterate 2 (refine ev_step rfl rfl ?_)
    exact kk _ _
  · iterate 1 (refine ev_step rfl rfl ?_)
    exact kk _ _
theorem tn_step {L : Nat} {xs : Nat → Int32} {R : ac_R} {i c0 k0 c k : Nat} {u5 u6 : Value} {H0 H1 H2 : ac_H} {κ v : Int32} {f1 f2 : List Value} (hi : i + 5 < L) (hL : L < 2 ^ 31) (mw : Mt L xs 123 [.ref 0, .int (xs (i + 1)), .ref 25] H0 (some (.int κ)) H1 c k) (r1 : H1[15]? = some (.inr (5, f1))) (mm : Mt L xs 104 [.ref 15, .int (xs (i + 1))] H1 (some (.int v)) H2 0 0) (r2 : H2[15]? = some (.inr (5, f2))) (mt : Mt L xs 67 [.ref 15] H2 (some (.int κ)) H2 0 0) {lo : Nat → Int64} (hl : H2[25]? = some (.inl (.long, 1, .inr (.inl lo)))) (hz : κ = 0 → lo 0 = v.toInt64) (kk : ∀ u5 u6, Ev L xs 129 (1329, [.float 9, .ref 0, .ref 15, .ref 25, .int (nI i), u5, u6], [], H2, c0 + c, k0 + k) R) : Ev L xs 129 (896, [.float 9, .ref 0, .ref 15, .ref 25, .int (nI i), u5, u6], [], H0, c0, k0) R := by
  (repeat refine ev_step rfl rfl ?_)
  refine ev_xa rfl (i + 1) (nI_add i 1) (by omega) hL ?_
  (repeat refine ev_step rfl rfl ?_)
  refine ev_i3 rfl rfl (Nat.le_of_ble_eq_true rfl) (Nat.le_of_ble_eq_true rfl) rfl mw ?_
  (repeat refine ev_step rfl rfl ?_)
  refine ev_xa rfl (i + 1) (nI_add i 1) (by omega) hL ?_
  (repeat refine ev_step rfl rfl ?_)
  refine ev_i2 rfl rfl (Nat.le_of_ble_eq_true rfl) (Nat.le_of_ble_eq_true rfl) (rv_ok r1) mm ?_
  (repeat refine ev_step rfl rfl ?_)
  refine ev_i1 rfl rfl (Nat.le_of_ble_eq_true rfl) (Nat.le_of_ble_eq_true rfl) (rv_ok r2) mt ?_
  iterate 2 (refine ev_step rfl rfl ?_)
  refine ev_t rfl ?_
  iterate 2 (refine ev_step rfl rfl ?_)
  refine ev_br (fun z => ?_) (fun z => ?_)
  · iterate 2 (refine ev_step rfl rfl ?_)
    refine ev_la rfl hl ?_
    rw [hz z]
    iterate 3 (refine ev_step rfl rfl ?_)
    rw [lg_same]
    iterate 2 (refine ev_step rfl rfl ?_)
    exact kk _ _
  · iterate 1 (refine ev_step rfl rfl ?_)
    exact kk _ _
theorem tn_back {L : Nat} {xs : Nat → Int32} {R : ac_R} {i c0 k0 c k : Nat} {u5 u6 : Value} {H0 H1 H2 : ac_H} {κ v : Int32} {f1 f2 : List Value} (hi : i + 5 < L) (hL : L < 2 ^ 31) (mw : Mt L xs 124 [.ref 0, .int (xs (i + 1)), .ref 25] H0 (some (.int κ)) H1 c k) (r1 : H1[15]? = some (.inr (5, f1))) (mm : Mt L xs 105 [.ref 15, .int (xs (i + 1))] H1 (some (.int v)) H2 0 0) (r2 : H2[15]? = some (.inr (5, f2))) (mt : Mt L xs 67 [.ref 15] H2 (some (.int κ)) H2 0 0) {lo : Nat → Int64} (hl : H2[25]? = some (.inl (.long, 1, .inr (.inl lo)))) (hz : κ = 0 → lo 0 = v.toInt64) (kk : ∀ u5 u6, Ev L xs 129 (1329, [.float 9, .ref 0, .ref 15, .ref 25, .int (nI i), u5, u6], [], H2, c0 + c, k0 + k) R) : Ev L xs 129 (952, [.float 9, .ref 0, .ref 15, .ref 25, .int (nI i), u5, u6], [], H0, c0, k0) R := by
  (repeat refine ev_step rfl rfl ?_)
  refine ev_xa rfl (i + 1) (nI_add i 1) (by omega) hL ?_
  (repeat refine ev_step rfl rfl ?_)
  refine ev_i3 rfl rfl (Nat.le_of_ble_eq_true rfl) (Nat.le_of_ble_eq_true rfl) rfl mw ?_
  (repeat refine ev_step rfl rfl ?_)
  refine ev_xa rfl (i + 1) (nI_add i 1) (by omega) hL ?_
  (repeat refine ev_step rfl rfl ?_)
  refine ev_i2 rfl rfl (Nat.le_of_ble_eq_true rfl) (Nat.le_of_ble_eq_true rfl) (rv_ok r1) mm ?_
  (repeat refine ev_step rfl rfl ?_)
  refine ev_i1 rfl rfl (Nat.le_of_ble_eq_true rfl) (Nat.le_of_ble_eq_true rfl) (rv_ok r2) mt ?_
  iterate 2 (refine ev_step rfl rfl ?_)
  refine ev_t rfl ?_
  iterate 2 (refine ev_step rfl rfl ?_)
  refine ev_br (fun z => ?_) (fun z => ?_)
  · iterate 2 (refine ev_step rfl rfl ?_)
    refine ev_la rfl hl ?_
    rw [hz z]
    iterate 3 (refine ev_step rfl rfl ?_)
    rw [lg_same]
    iterate 2 (refine ev_step rfl rfl ?_)
    exact kk _ _
  · iterate 1 (refine ev_step rfl rfl ?_)
    exact kk _ _
theorem tn_sum {L : Nat} {xs : Nat → Int32} {R : ac_R} {i c0 k0 c k : Nat} {u5 u6 : Value} {H0 H1 H2 : ac_H} {κ v : Int32} {f1 f2 : List Value} (hi : i + 5 < L) (hL : L < 2 ^ 31) (mw : Mt L xs 125 [.ref 0, .int (xs (i + 1)), .int (xs (i + 2)), .int (xs (i + 3)), .int (xs (i + 4)), .int (xs (i + 5)), .ref 25] H0 (some (.int κ)) H1 c k) (r1 : H1[15]? = some (.inr (5, f1))) (mm : Mt L xs 107 [.ref 15, .int (xs (i + 1)), .int (xs (i + 2)), .int (xs (i + 3)), .int (xs (i + 4)), .int (xs (i + 5))] H1 (some (.int v)) H2 0 0) (r2 : H2[15]? = some (.inr (5, f2))) (mt : Mt L xs 67 [.ref 15] H2 (some (.int κ)) H2 0 0) {lo : Nat → Int64} (hl : H2[25]? = some (.inl (.long, 1, .inr (.inl lo)))) (hz : κ = 0 → lo 0 = v.toInt64) (kk : ∀ u5 u6, Ev L xs 129 (1329, [.float 9, .ref 0, .ref 15, .ref 25, .int (nI i), u5, u6], [], H2, c0 + c, k0 + k) R) : Ev L xs 129 (1008, [.float 9, .ref 0, .ref 15, .ref 25, .int (nI i), u5, u6], [], H0, c0, k0) R := by
  (repeat refine ev_step rfl rfl ?_)
  refine ev_xa rfl (i + 1) (nI_add i 1) (by omega) hL ?_
  (repeat refine ev_step rfl rfl ?_)
  refine ev_xa rfl (i + 2) (nI_add i 2) (by omega) hL ?_
  (repeat refine ev_step rfl rfl ?_)
  refine ev_xa rfl (i + 3) (nI_add i 3) (by omega) hL ?_
  (repeat refine ev_step rfl rfl ?_)
  refine ev_xa rfl (i + 4) (nI_add i 4) (by omega) hL ?_
  (repeat refine ev_step rfl rfl ?_)
  refine ev_xa rfl (i + 5) (nI_add i 5) (by omega) hL ?_
  (repeat refine ev_step rfl rfl ?_)
  refine ev_i7 rfl rfl (Nat.le_of_ble_eq_true rfl) (Nat.le_of_ble_eq_true rfl) rfl mw ?_
  (repeat refine ev_step rfl rfl ?_)
  refine ev_xa rfl (i + 1) (nI_add i 1) (by omega) hL ?_
  (repeat refine ev_step rfl rfl ?_)
  refine ev_xa rfl (i + 2) (nI_add i 2) (by omega) hL ?_
  (repeat refine ev_step rfl rfl ?_)
  refine ev_xa rfl (i + 3) (nI_add i 3) (by omega) hL ?_
  (repeat refine ev_step rfl rfl ?_)
  refine ev_xa rfl (i + 4) (nI_add i 4) (by omega) hL ?_
  (repeat refine ev_step rfl rfl ?_)
  refine ev_xa rfl (i + 5) (nI_add i 5) (by omega) hL ?_
  (repeat refine ev_step rfl rfl ?_)
  refine ev_i6 rfl rfl (Nat.le_of_ble_eq_true rfl) (Nat.le_of_ble_eq_true rfl) (rv_ok r1) mm ?_
  (repeat refine ev_step rfl rfl ?_)
  refine ev_i1 rfl rfl (Nat.le_of_ble_eq_true rfl) (Nat.le_of_ble_eq_true rfl) (rv_ok r2) mt ?_
  iterate 2 (refine ev_step rfl rfl ?_)
  refine ev_t rfl ?_
  iterate 2 (refine ev_step rfl rfl ?_)
  refine ev_br (fun z => ?_) (fun z => ?_)
  · iterate 2 (refine ev_step rfl rfl ?_)
    refine ev_la rfl hl ?_
    rw [hz z]
    iterate 3 (refine ev_step rfl rfl ?_)
    rw [lg_same]
    iterate 2 (refine ev_step rfl rfl ?_)
    exact kk _ _
  · iterate 1 (refine ev_step rfl rfl ?_)
    exact kk _ _
theorem tn_book {L : Nat} {xs : Nat → Int32} {R : ac_R} {i c0 k0 c k : Nat} {u5 u6 : Value} {H0 H1 H2 : ac_H} {κ v : Int32} {f1 f2 : List Value} (hi : i + 5 < L) (hL : L < 2 ^ 31) (mw : Mt L xs 126 [.ref 0, .int (xs (i + 1)), .int (xs (i + 2)), .ref 25] H0 (some (.int κ)) H1 c k) (r1 : H1[15]? = some (.inr (5, f1))) (mm : Mt L xs 108 [.ref 15, .int (xs (i + 1)), .int (xs (i + 2))] H1 (some (.int v)) H2 0 0) (r2 : H2[15]? = some (.inr (5, f2))) (mt : Mt L xs 67 [.ref 15] H2 (some (.int κ)) H2 0 0) {lo : Nat → Int64} (hl : H2[25]? = some (.inl (.long, 1, .inr (.inl lo)))) (hz : κ = 0 → lo 0 = v.toInt64) (kk : ∀ u5 u6, Ev L xs 129 (1329, [.float 9, .ref 0, .ref 15, .ref 25, .int (nI i), u5, u6], [], H2, c0 + c, k0 + k) R) : Ev L xs 129 (1112, [.float 9, .ref 0, .ref 15, .ref 25, .int (nI i), u5, u6], [], H0, c0, k0) R := by
  (repeat refine ev_step rfl rfl ?_)
  refine ev_xa rfl (i + 1) (nI_add i 1) (by omega) hL ?_
  (repeat refine ev_step rfl rfl ?_)
  refine ev_xa rfl (i + 2) (nI_add i 2) (by omega) hL ?_
  (repeat refine ev_step rfl rfl ?_)
  refine ev_i4 rfl rfl (Nat.le_of_ble_eq_true rfl) (Nat.le_of_ble_eq_true rfl) rfl mw ?_
  (repeat refine ev_step rfl rfl ?_)
  refine ev_xa rfl (i + 1) (nI_add i 1) (by omega) hL ?_
  (repeat refine ev_step rfl rfl ?_)
  refine ev_xa rfl (i + 2) (nI_add i 2) (by omega) hL ?_
  (repeat refine ev_step rfl rfl ?_)
  refine ev_i3 rfl rfl (Nat.le_of_ble_eq_true rfl) (Nat.le_of_ble_eq_true rfl) (rv_ok r1) mm ?_
  (repeat refine ev_step rfl rfl ?_)
  refine ev_i1 rfl rfl (Nat.le_of_ble_eq_true rfl) (Nat.le_of_ble_eq_true rfl) (rv_ok r2) mt ?_
  iterate 2 (refine ev_step rfl rfl ?_)
  refine ev_t rfl ?_
  iterate 2 (refine ev_step rfl rfl ?_)
  refine ev_br (fun z => ?_) (fun z => ?_)
  · iterate 2 (refine ev_step rfl rfl ?_)
    refine ev_la rfl hl ?_
    rw [hz z]
    iterate 3 (refine ev_step rfl rfl ?_)
    rw [lg_same]
    iterate 2 (refine ev_step rfl rfl ?_)
    exact kk _ _
  · iterate 1 (refine ev_step rfl rfl ?_)
    exact kk _ _
theorem tn_mark {L : Nat} {xs : Nat → Int32} {R : ac_R} {i c0 k0 c k : Nat} {u5 u6 : Value} {H0 H1 H2 : ac_H} {κ v : Int32} {f1 f2 : List Value} (hi : i + 5 < L) (hL : L < 2 ^ 31) (mw : Mt L xs 127 [.ref 0, .int (xs (i + 1)), .int (xs (i + 2)), .int (xs (i + 3)), .ref 25] H0 (some (.int κ)) H1 c k) (r1 : H1[15]? = some (.inr (5, f1))) (mm : Mt L xs 110 [.ref 15, .int (xs (i + 1)), .int (xs (i + 2)), .int (xs (i + 3))] H1 (some (.int v)) H2 0 0) (r2 : H2[15]? = some (.inr (5, f2))) (mt : Mt L xs 67 [.ref 15] H2 (some (.int κ)) H2 0 0) {lo : Nat → Int64} (hl : H2[25]? = some (.inl (.long, 1, .inr (.inl lo)))) (hz : κ = 0 → lo 0 = v.toInt64) (kk : ∀ u5 u6, Ev L xs 129 (1329, [.float 9, .ref 0, .ref 15, .ref 25, .int (nI i), u5, u6], [], H2, c0 + c, k0 + k) R) : Ev L xs 129 (1193, [.float 9, .ref 0, .ref 15, .ref 25, .int (nI i), u5, u6], [], H0, c0, k0) R := by
  (repeat refine ev_step rfl rfl ?_)
  refine ev_xa rfl (i + 1) (nI_add i 1) (by omega) hL ?_
  (repeat refine ev_step rfl rfl ?_)
  refine ev_xa rfl (i + 2) (nI_add i 2) (by omega) hL ?_
  (repeat refine ev_step rfl rfl ?_)
  refine ev_xa rfl (i + 3) (nI_add i 3) (by omega) hL ?_
  (repeat refine ev_step rfl rfl ?_)
  refine ev_i5 rfl rfl (Nat.le_of_ble_eq_true rfl) (Nat.le_of_ble_eq_true rfl) rfl mw ?_
  (repeat refine ev_step rfl rfl ?_)
  refine ev_xa rfl (i + 1) (nI_add i 1) (by omega) hL ?_
  (repeat refine ev_step rfl rfl ?_)
  refine ev_xa rfl (i + 2) (nI_add i 2) (by omega) hL ?_
  (repeat refine ev_step rfl rfl ?_)
  refine ev_xa rfl (i + 3) (nI_add i 3) (by omega) hL ?_
  (repeat refine ev_step rfl rfl ?_)
  refine ev_i4 rfl rfl (Nat.le_of_ble_eq_true rfl) (Nat.le_of_ble_eq_true rfl) (rv_ok r1) mm ?_
  (repeat refine ev_step rfl rfl ?_)
  refine ev_i1 rfl rfl (Nat.le_of_ble_eq_true rfl) (Nat.le_of_ble_eq_true rfl) (rv_ok r2) mt ?_
  iterate 2 (refine ev_step rfl rfl ?_)
  refine ev_t rfl ?_
  iterate 2 (refine ev_step rfl rfl ?_)
  refine ev_br (fun z => ?_) (fun z => ?_)
  · iterate 2 (refine ev_step rfl rfl ?_)
    refine ev_la rfl hl ?_
    rw [hz z]
    iterate 3 (refine ev_step rfl rfl ?_)
    rw [lg_same]
    iterate 2 (refine ev_step rfl rfl ?_)
    exact kk _ _
  · iterate 1 (refine ev_step rfl rfl ?_)
    exact kk _ _
theorem tn_marked {L : Nat} {xs : Nat → Int32} {R : ac_R} {i c0 k0 c k : Nat} {u5 u6 : Value} {H0 H1 H2 : ac_H} {κ v : Int32} {f1 f2 : List Value} (hi : i + 5 < L) (hL : L < 2 ^ 31) (mw : Mt L xs 128 [.ref 0, .int (xs (i + 1)), .ref 25] H0 (some (.int κ)) H1 c k) (r1 : H1[15]? = some (.inr (5, f1))) (mm : Mt L xs 111 [.ref 15, .int (xs (i + 1))] H1 (some (.int v)) H2 0 0) (r2 : H2[15]? = some (.inr (5, f2))) (mt : Mt L xs 67 [.ref 15] H2 (some (.int κ)) H2 0 0) {lo : Nat → Int64} (hl : H2[25]? = some (.inl (.long, 1, .inr (.inl lo)))) (hz : κ = 0 → lo 0 = v.toInt64) (kk : ∀ u5 u6, Ev L xs 129 (1329, [.float 9, .ref 0, .ref 15, .ref 25, .int (nI i), u5, u6], [], H2, c0 + c, k0 + k) R) : Ev L xs 129 (1273, [.float 9, .ref 0, .ref 15, .ref 25, .int (nI i), u5, u6], [], H0, c0, k0) R := by
  (repeat refine ev_step rfl rfl ?_)
  refine ev_xa rfl (i + 1) (nI_add i 1) (by omega) hL ?_
  (repeat refine ev_step rfl rfl ?_)
  refine ev_i3 rfl rfl (Nat.le_of_ble_eq_true rfl) (Nat.le_of_ble_eq_true rfl) rfl mw ?_
  (repeat refine ev_step rfl rfl ?_)
  refine ev_xa rfl (i + 1) (nI_add i 1) (by omega) hL ?_
  (repeat refine ev_step rfl rfl ?_)
  refine ev_i2 rfl rfl (Nat.le_of_ble_eq_true rfl) (Nat.le_of_ble_eq_true rfl) (rv_ok r1) mm ?_
  (repeat refine ev_step rfl rfl ?_)
  refine ev_i1 rfl rfl (Nat.le_of_ble_eq_true rfl) (Nat.le_of_ble_eq_true rfl) (rv_ok r2) mt ?_
  iterate 2 (refine ev_step rfl rfl ?_)
  refine ev_t rfl ?_
  iterate 2 (refine ev_step rfl rfl ?_)
  refine ev_br (fun z => ?_) (fun z => ?_)
  · iterate 2 (refine ev_step rfl rfl ?_)
    refine ev_la rfl hl ?_
    rw [hz z]
    iterate 3 (refine ev_step rfl rfl ?_)
    rw [lg_same]
    iterate 2 (refine ev_step rfl rfl ?_)
    exact kk _ _
  · iterate 1 (refine ev_step rfl rfl ?_)
    exact kk _ _
