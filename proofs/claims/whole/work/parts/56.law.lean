/-! ===== the law: its loop ===== -/
theorem tn_seed {L : Nat} {xs : Nat → Int32} {i c0 k0 : Nat} {S : GS} {H rest : ac_H} (hi : i + 5 < L) (hL : L < 2 ^ 31) (h : Inv S) (hH : LHs S H rest) : ∃ Z H2, Inv Z ∧ LHs Z H2 rest ∧ ∀ R u5 u6, (∀ u5 u6, Ev L xs 129 (1329, [.float 9, .ref 0, .ref 15, .ref 25, .int (nI i), u5, u6], [], H2, c0, k0) R) → Ev L xs 129 (873, [.float 9, .ref 0, .ref 15, .ref 25, .int (nI i), u5, u6], [], H, c0, k0) R := by
  obtain ⟨ga, le, sw, ar, th, fr, ah, lo, ha, hf, rfl⟩ := hH
  refine ⟨(S.w, S.q, S.ed, S.ra, S.bk, S.wt, S.gp, S.gq, S.mv, S.cn, S.mc, S.mk, S.bi, S.tm, (xs (i + 1))), _, h, ⟨ga, le, sw, ar, 0, fr, ah, lo, ha, hf, rfl⟩, fun R u5 u6 kk => ?_⟩
  (repeat refine ev_step rfl rfl ?_)
  refine ev_xa rfl (i + 1) (nI_add i 1) (by omega) hL ?_
  refine ev_v2 rfl rfl (Nat.le_of_ble_eq_true rfl) (Nat.le_of_ble_eq_true rfl) rfl (mt_seed) ?_
  (repeat refine ev_step rfl rfl ?_)
  refine ev_xa rfl (i + 1) (nI_add i 1) (by omega) hL ?_
  refine ev_v2 rfl rfl (Nat.le_of_ble_eq_true rfl) (Nat.le_of_ble_eq_true rfl) rfl (mm_seed) ?_
  iterate 1 (refine ev_step rfl rfl ?_)
  exact kk _ _
theorem tn_check {L : Nat} {xs : Nat → Int32} {i c0 k0 : Nat} {S : GS} {H rest : ac_H} (h : Inv S) (hH : LHs S H rest) : ∃ Z H2, Inv Z ∧ LHs Z H2 rest ∧ ∀ R u5 u6, (∀ u5 u6, Ev L xs 129 (1329, [.float 9, .ref 0, .ref 15, .ref 25, .int (nI i), u5, u6], [], H2, c0, k0) R) → Ev L xs 129 (1180, [.float 9, .ref 0, .ref 15, .ref 25, .int (nI i), u5, u6], [], H, c0, k0) R := by
  obtain ⟨ga, le, sw, ar, th, fr, ah, lo, ha, hf, rfl⟩ := hH
  refine ⟨S, _, h, ⟨ga, le, sw, ar, 0, fr, ah, lo, ha, hf, rfl⟩, fun R u5 u6 kk => ?_⟩
  (repeat refine ev_step rfl rfl ?_)
  refine ev_i1 rfl rfl (Nat.le_of_ble_eq_true rfl) (Nat.le_of_ble_eq_true rfl) rfl (mt_check h.hw h.hq) ?_
  (repeat refine ev_step rfl rfl ?_)
  refine ev_i1 rfl rfl (Nat.le_of_ble_eq_true rfl) (Nat.le_of_ble_eq_true rfl) rfl (mm_check h.hw h.hq) ?_
  iterate 1 (refine ev_step rfl rfl ?_)
  refine ev_t rfl ?_
  exact kk _ _
