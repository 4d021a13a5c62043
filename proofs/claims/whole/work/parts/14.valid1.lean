/-! ===== each row of the tables is what the code has ===== -/
theorem ac_node {P : ac_O → Prop} {c : Bool} {a b : ac_O} (ha : P a) (hb : P b) : P (bif c then a else b) := by cases c <;> assumption
theorem ac_leaf {E : ac_E} {MD : Nat → ac_M} {HD : ac_HD} {y pc : Nat} {o : ac_O} (k : Nat) (h : ac_V E MD HD y k o) : ac_V E MD HD y pc (bif Nat.beq pc k then o else .inl (fun _ => none)) := by
  cases hc : Nat.beq pc k with
  | true =>
    have e := Nat.eq_of_beq_eq_true hc
    subst e
    exact h
  | false => exact ac_V_none
theorem ac_Vc0 {E : ac_E} {MD : Nat → ac_M} {HD : ac_HD} {y pc z na nx rv : Nat} (hr : ac_okr E (MD y) (MD z) pc na nx rv) (hn : ∀ x, HD y pc x = none) : ac_V E MD HD y pc (.inr (.inl (z, na, nx, rv))) := ⟨hr, fun x => ⟨fun h => (by rw [hn x] at h; cases h), fun i j h => (by rw [hn x] at h; cases h)⟩⟩
theorem ac_Vcp {E : ac_E} {MD : Nat → ac_M} {HD : ac_HD} {y pc z na nx rv : Nat} (hr : ac_okr E (MD y) (MD z) pc na nx rv ∧ ac_okt E (MD y) (MD z) pc na rv) (ht : (MD y).2.2.2.2.2.2.2 = false) (hn : ∀ x, HD y pc x = some none) : ac_V E MD HD y pc (.inr (.inl (z, na, nx, rv))) := ⟨hr.1, fun x => ⟨fun _ => ⟨ht, hr.2⟩, fun i j h => (by rw [hn x] at h; cases h)⟩⟩
theorem ac_Vcc {E : ac_E} {MD : Nat → ac_M} {HD : ac_HD} {y pc z na nx rv : Nat} (hr : ac_okr E (MD y) (MD z) pc na nx rv ∧ ac_okt E (MD y) (MD z) pc na rv) (hn : ∀ x, HD y pc x ≠ some none) (hk : ∀ x i j, HD y pc x = some (some (i, j)) → ac_okh E (MD y) pc x i j) : ac_V E MD HD y pc (.inr (.inl (z, na, nx, rv))) := ⟨hr.1, fun x => ⟨fun h => (hn x h).elim, fun i j h => ⟨hr.2, hk x i j h⟩⟩⟩
theorem vd_0_0 (E : ac_E) : ac_V E ac_MDf ac_HDf 0 0 (.inl (o_ild 0 1)) := ⟨ok_iload_n dd_0_0, mn_ild _ _⟩
theorem vd_0_1 (E : ac_E) : ac_V E ac_MDf ac_HDf 0 1 (.inl (o_ild 0 2)) := ⟨ok_iload_n dd_0_1, mn_ild _ _⟩
theorem vd_0_2 (E : ac_E) : ac_V E ac_MDf ac_HDf 0 2 (.inl (o_con (.int 1) 3)) := ⟨ok_iconst dd_0_2 (by decide), mn_con _ _⟩
theorem vd_0_3 (E : ac_E) : ac_V E ac_MDf ac_HDf 0 3 (.inl (o_ush 4)) := ⟨ok_iushr dd_0_3, mn_ush _⟩
theorem vd_0_4 (E : ac_E) : ac_V E ac_MDf ac_HDf 0 4 (.inl (o_con (.int 1431655765) 7)) := ⟨ok_ldc_w dd_0_4 wm_351, mn_con _ _⟩
theorem vd_0_7 (E : ac_E) : ac_V E ac_MDf ac_HDf 0 7 (.inl (o_and 8)) := ⟨ok_iand dd_0_7, mn_and _⟩
theorem vd_0_8 (E : ac_E) : ac_V E ac_MDf ac_HDf 0 8 (.inl (o_sub 9)) := ⟨ok_isub dd_0_8, mn_sub _⟩
theorem vd_0_9 (E : ac_E) : ac_V E ac_MDf ac_HDf 0 9 (.inl (o_ist 0 10)) := ⟨ok_istore_n dd_0_9, mn_ist _ _⟩
theorem vd_0_10 (E : ac_E) : ac_V E ac_MDf ac_HDf 0 10 (.inl (o_ild 0 11)) := ⟨ok_iload_n dd_0_10, mn_ild _ _⟩
theorem vd_0_11 (E : ac_E) : ac_V E ac_MDf ac_HDf 0 11 (.inl (o_con (.int 858993459) 14)) := ⟨ok_ldc_w dd_0_11 wm_352, mn_con _ _⟩
theorem vd_0_14 (E : ac_E) : ac_V E ac_MDf ac_HDf 0 14 (.inl (o_and 15)) := ⟨ok_iand dd_0_14, mn_and _⟩
theorem vd_0_15 (E : ac_E) : ac_V E ac_MDf ac_HDf 0 15 (.inl (o_ild 0 16)) := ⟨ok_iload_n dd_0_15, mn_ild _ _⟩
theorem vd_0_16 (E : ac_E) : ac_V E ac_MDf ac_HDf 0 16 (.inl (o_con (.int 2) 17)) := ⟨ok_iconst dd_0_16 (by decide), mn_con _ _⟩
theorem vd_0_17 (E : ac_E) : ac_V E ac_MDf ac_HDf 0 17 (.inl (o_ush 18)) := ⟨ok_iushr dd_0_17, mn_ush _⟩
theorem vd_0_18 (E : ac_E) : ac_V E ac_MDf ac_HDf 0 18 (.inl (o_con (.int 858993459) 21)) := ⟨ok_ldc_w dd_0_18 wm_352, mn_con _ _⟩
theorem vd_0_21 (E : ac_E) : ac_V E ac_MDf ac_HDf 0 21 (.inl (o_and 22)) := ⟨ok_iand dd_0_21, mn_and _⟩
theorem vd_0_22 (E : ac_E) : ac_V E ac_MDf ac_HDf 0 22 (.inl (o_add 23)) := ⟨ok_iadd dd_0_22, mn_add _⟩
theorem vd_0_23 (E : ac_E) : ac_V E ac_MDf ac_HDf 0 23 (.inl (o_ist 0 24)) := ⟨ok_istore_n dd_0_23, mn_ist _ _⟩
theorem vd_0_24 (E : ac_E) : ac_V E ac_MDf ac_HDf 0 24 (.inl (o_ild 0 25)) := ⟨ok_iload_n dd_0_24, mn_ild _ _⟩
theorem vd_0_25 (E : ac_E) : ac_V E ac_MDf ac_HDf 0 25 (.inl (o_ild 0 26)) := ⟨ok_iload_n dd_0_25, mn_ild _ _⟩
theorem vd_0_26 (E : ac_E) : ac_V E ac_MDf ac_HDf 0 26 (.inl (o_con (.int 4) 27)) := ⟨ok_iconst dd_0_26 (by decide), mn_con _ _⟩
theorem vd_0_27 (E : ac_E) : ac_V E ac_MDf ac_HDf 0 27 (.inl (o_ush 28)) := ⟨ok_iushr dd_0_27, mn_ush _⟩
theorem vd_0_28 (E : ac_E) : ac_V E ac_MDf ac_HDf 0 28 (.inl (o_add 29)) := ⟨ok_iadd dd_0_28, mn_add _⟩
theorem vd_0_29 (E : ac_E) : ac_V E ac_MDf ac_HDf 0 29 (.inl (o_con (.int 252645135) 32)) := ⟨ok_ldc_w dd_0_29 wm_353, mn_con _ _⟩
theorem vd_0_32 (E : ac_E) : ac_V E ac_MDf ac_HDf 0 32 (.inl (o_and 33)) := ⟨ok_iand dd_0_32, mn_and _⟩
theorem vd_0_33 (E : ac_E) : ac_V E ac_MDf ac_HDf 0 33 (.inl (o_ist 0 34)) := ⟨ok_istore_n dd_0_33, mn_ist _ _⟩
theorem vd_0_34 (E : ac_E) : ac_V E ac_MDf ac_HDf 0 34 (.inl (o_ild 0 35)) := ⟨ok_iload_n dd_0_34, mn_ild _ _⟩
theorem vd_0_35 (E : ac_E) : ac_V E ac_MDf ac_HDf 0 35 (.inl (o_ild 0 36)) := ⟨ok_iload_n dd_0_35, mn_ild _ _⟩
theorem vd_0_36 (E : ac_E) : ac_V E ac_MDf ac_HDf 0 36 (.inl (o_con (.int 8) 38)) := ⟨ok_bipush dd_0_36 (by decide), mn_con _ _⟩
theorem vd_0_38 (E : ac_E) : ac_V E ac_MDf ac_HDf 0 38 (.inl (o_ush 39)) := ⟨ok_iushr dd_0_38, mn_ush _⟩
theorem vd_0_39 (E : ac_E) : ac_V E ac_MDf ac_HDf 0 39 (.inl (o_add 40)) := ⟨ok_iadd dd_0_39, mn_add _⟩
theorem vd_0_40 (E : ac_E) : ac_V E ac_MDf ac_HDf 0 40 (.inl (o_ist 0 41)) := ⟨ok_istore_n dd_0_40, mn_ist _ _⟩
theorem vd_0_41 (E : ac_E) : ac_V E ac_MDf ac_HDf 0 41 (.inl (o_ild 0 42)) := ⟨ok_iload_n dd_0_41, mn_ild _ _⟩
theorem vd_0_42 (E : ac_E) : ac_V E ac_MDf ac_HDf 0 42 (.inl (o_ild 0 43)) := ⟨ok_iload_n dd_0_42, mn_ild _ _⟩
theorem vd_0_43 (E : ac_E) : ac_V E ac_MDf ac_HDf 0 43 (.inl (o_con (.int 16) 45)) := ⟨ok_bipush dd_0_43 (by decide), mn_con _ _⟩
theorem vd_0_45 (E : ac_E) : ac_V E ac_MDf ac_HDf 0 45 (.inl (o_ush 46)) := ⟨ok_iushr dd_0_45, mn_ush _⟩
theorem vd_0_46 (E : ac_E) : ac_V E ac_MDf ac_HDf 0 46 (.inl (o_add 47)) := ⟨ok_iadd dd_0_46, mn_add _⟩
theorem vd_0_47 (E : ac_E) : ac_V E ac_MDf ac_HDf 0 47 (.inl (o_ist 0 48)) := ⟨ok_istore_n dd_0_47, mn_ist _ _⟩
theorem vd_0_48 (E : ac_E) : ac_V E ac_MDf ac_HDf 0 48 (.inl (o_ild 0 49)) := ⟨ok_iload_n dd_0_48, mn_ild _ _⟩
theorem vd_0_49 (E : ac_E) : ac_V E ac_MDf ac_HDf 0 49 (.inl (o_con (.int 63) 51)) := ⟨ok_bipush dd_0_49 (by decide), mn_con _ _⟩
theorem vd_0_51 (E : ac_E) : ac_V E ac_MDf ac_HDf 0 51 (.inl (o_and 52)) := ⟨ok_iand dd_0_51, mn_and _⟩
theorem vd_0_52 (E : ac_E) : ac_V E ac_MDf ac_HDf 0 52 (.inr (.inr (.inl 1))) := ⟨fun q => nomatch q, fun _ => ⟨dd_0_52, rfl⟩, fun q => nomatch q⟩
theorem va_0 (E : ac_E) (pc : Nat) : ac_V E ac_MDf ac_HDf 0 pc (tb_0 (ac_len E) (ac_xs E) pc) := (ac_node (ac_node (ac_node (ac_node (ac_node (ac_leaf 0 (vd_0_0 E)) (ac_leaf 1 (vd_0_1 E))) (ac_node (ac_leaf 2 (vd_0_2 E)) (ac_node (ac_leaf 3 (vd_0_3 E)) (ac_leaf 4 (vd_0_4 E))))) (ac_node (ac_node (ac_leaf 7 (vd_0_7 E)) (ac_leaf 8 (vd_0_8 E))) (ac_node (ac_leaf 9 (vd_0_9 E)) (ac_node (ac_leaf 10 (vd_0_10 E)) (ac_leaf 11 (vd_0_11 E)))))) (ac_node (ac_node (ac_node (ac_leaf 14 (vd_0_14 E)) (ac_leaf 15 (vd_0_15 E))) (ac_node (ac_leaf 16 (vd_0_16 E)) (ac_node (ac_leaf 17 (vd_0_17 E)) (ac_leaf 18 (vd_0_18 E))))) (ac_node (ac_node (ac_leaf 21 (vd_0_21 E)) (ac_node (ac_leaf 22 (vd_0_22 E)) (ac_leaf 23 (vd_0_23 E)))) (ac_node (ac_leaf 24 (vd_0_24 E)) (ac_node (ac_leaf 25 (vd_0_25 E)) (ac_leaf 26 (vd_0_26 E))))))) (ac_node (ac_node (ac_node (ac_node (ac_leaf 27 (vd_0_27 E)) (ac_leaf 28 (vd_0_28 E))) (ac_node (ac_leaf 29 (vd_0_29 E)) (ac_node (ac_leaf 32 (vd_0_32 E)) (ac_leaf 33 (vd_0_33 E))))) (ac_node (ac_node (ac_leaf 34 (vd_0_34 E)) (ac_leaf 35 (vd_0_35 E))) (ac_node (ac_leaf 36 (vd_0_36 E)) (ac_node (ac_leaf 38 (vd_0_38 E)) (ac_leaf 39 (vd_0_39 E)))))) (ac_node (ac_node (ac_node (ac_leaf 40 (vd_0_40 E)) (ac_leaf 41 (vd_0_41 E))) (ac_node (ac_leaf 42 (vd_0_42 E)) (ac_node (ac_leaf 43 (vd_0_43 E)) (ac_leaf 45 (vd_0_45 E))))) (ac_node (ac_node (ac_leaf 46 (vd_0_46 E)) (ac_node (ac_leaf 47 (vd_0_47 E)) (ac_leaf 48 (vd_0_48 E)))) (ac_node (ac_leaf 49 (vd_0_49 E)) (ac_node (ac_leaf 51 (vd_0_51 E)) (ac_leaf 52 (vd_0_52 E))))))))
theorem vd_1_0 (E : ac_E) : ac_V E ac_MDf ac_HDf 1 0 (.inl (o_ild 0 1)) := ⟨ok_iload_n dd_1_0, mn_ild _ _⟩
theorem vd_1_1 (E : ac_E) : ac_V E ac_MDf ac_HDf 1 1 (.inl (o_ild 1 2)) := ⟨ok_iload_n dd_1_1, mn_ild _ _⟩
theorem vd_1_2 (E : ac_E) : ac_V E ac_MDf ac_HDf 1 2 (.inl (o_rem 3)) := ⟨ok_irem dd_1_2, mn_rem _⟩
theorem vd_1_3 (E : ac_E) : ac_V E ac_MDf ac_HDf 1 3 (.inl (o_ist 2 4)) := ⟨ok_istore_n dd_1_3, mn_ist _ _⟩
theorem vd_1_4 (E : ac_E) : ac_V E ac_MDf ac_HDf 1 4 (.inl (o_ild 0 5)) := ⟨ok_iload_n dd_1_4, mn_ild _ _⟩
theorem vd_1_5 (E : ac_E) : ac_V E ac_MDf ac_HDf 1 5 (.inl (o_ild 1 6)) := ⟨ok_iload_n dd_1_5, mn_ild _ _⟩
theorem vd_1_6 (E : ac_E) : ac_V E ac_MDf ac_HDf 1 6 (.inl (o_xor 7)) := ⟨ok_ixor dd_1_6, mn_xor _⟩
theorem vd_1_7 (E : ac_E) : ac_V E ac_MDf ac_HDf 1 7 (.inl (o_ge0 18 10)) := ⟨ok_ifge dd_1_7 (by decide), mn_ge0 _ _⟩
theorem vd_1_10 (E : ac_E) : ac_V E ac_MDf ac_HDf 1 10 (.inl (o_ild 2 11)) := ⟨ok_iload_n dd_1_10, mn_ild _ _⟩
theorem vd_1_11 (E : ac_E) : ac_V E ac_MDf ac_HDf 1 11 (.inl (o_eq0 18 14)) := ⟨ok_ifeq dd_1_11 (by decide), mn_eq0 _ _⟩
theorem vd_1_14 (E : ac_E) : ac_V E ac_MDf ac_HDf 1 14 (.inl (o_ild 2 15)) := ⟨ok_iload_n dd_1_14, mn_ild _ _⟩
theorem vd_1_15 (E : ac_E) : ac_V E ac_MDf ac_HDf 1 15 (.inl (o_ild 1 16)) := ⟨ok_iload_n dd_1_15, mn_ild _ _⟩
theorem vd_1_16 (E : ac_E) : ac_V E ac_MDf ac_HDf 1 16 (.inl (o_add 17)) := ⟨ok_iadd dd_1_16, mn_add _⟩
theorem vd_1_17 (E : ac_E) : ac_V E ac_MDf ac_HDf 1 17 (.inr (.inr (.inl 1))) := ⟨fun q => nomatch q, fun _ => ⟨dd_1_17, rfl⟩, fun q => nomatch q⟩
theorem vd_1_18 (E : ac_E) : ac_V E ac_MDf ac_HDf 1 18 (.inl (o_ild 2 19)) := ⟨ok_iload_n dd_1_18, mn_ild _ _⟩
theorem vd_1_19 (E : ac_E) : ac_V E ac_MDf ac_HDf 1 19 (.inr (.inr (.inl 1))) := ⟨fun q => nomatch q, fun _ => ⟨dd_1_19, rfl⟩, fun q => nomatch q⟩
theorem va_1 (E : ac_E) (pc : Nat) : ac_V E ac_MDf ac_HDf 1 pc (tb_1 (ac_len E) (ac_xs E) pc) := (ac_node (ac_node (ac_node (ac_node (ac_leaf 0 (vd_1_0 E)) (ac_leaf 1 (vd_1_1 E))) (ac_node (ac_leaf 2 (vd_1_2 E)) (ac_leaf 3 (vd_1_3 E)))) (ac_node (ac_node (ac_leaf 4 (vd_1_4 E)) (ac_leaf 5 (vd_1_5 E))) (ac_node (ac_leaf 6 (vd_1_6 E)) (ac_leaf 7 (vd_1_7 E))))) (ac_node (ac_node (ac_node (ac_leaf 10 (vd_1_10 E)) (ac_leaf 11 (vd_1_11 E))) (ac_node (ac_leaf 14 (vd_1_14 E)) (ac_leaf 15 (vd_1_15 E)))) (ac_node (ac_node (ac_leaf 16 (vd_1_16 E)) (ac_leaf 17 (vd_1_17 E))) (ac_node (ac_leaf 18 (vd_1_18 E)) (ac_leaf 19 (vd_1_19 E))))))
theorem vd_2_0 (E : ac_E) : ac_V E ac_MDf ac_HDf 2 0 (.inl (o_con (.int 0) 1)) := ⟨ok_iconst dd_2_0 (by decide), mn_con _ _⟩
theorem vd_2_1 (E : ac_E) : ac_V E ac_MDf ac_HDf 2 1 (.inl (o_ist 2 2)) := ⟨ok_istore_n dd_2_1, mn_ist _ _⟩
theorem vd_2_2 (E : ac_E) : ac_V E ac_MDf ac_HDf 2 2 (.inl (o_ald 0 3)) := ⟨ok_aload_n dd_2_2, mn_ald _ _⟩
theorem vd_2_3 (E : ac_E) : ac_V E ac_MDf ac_HDf 2 3 (.inl (o_len 4)) := ⟨ok_len dd_2_3, mn_len _⟩
theorem vd_2_4 (E : ac_E) : ac_V E ac_MDf ac_HDf 2 4 (.inl (o_ist 3 5)) := ⟨ok_istore_n dd_2_4, mn_ist _ _⟩
theorem vd_2_5 (E : ac_E) : ac_V E ac_MDf ac_HDf 2 5 (.inl (o_ild 2 6)) := ⟨ok_iload_n dd_2_5, mn_ild _ _⟩
theorem vd_2_6 (E : ac_E) : ac_V E ac_MDf ac_HDf 2 6 (.inl (o_ild 3 7)) := ⟨ok_iload_n dd_2_6, mn_ild _ _⟩
theorem vd_2_7 (E : ac_E) : ac_V E ac_MDf ac_HDf 2 7 (.inl (o_ge 20 10)) := ⟨ok_icmpge dd_2_7 (by decide), mn_ge _ _⟩
theorem vd_2_10 (E : ac_E) : ac_V E ac_MDf ac_HDf 2 10 (.inl (o_ald 0 11)) := ⟨ok_aload_n dd_2_10, mn_ald _ _⟩
theorem vd_2_11 (E : ac_E) : ac_V E ac_MDf ac_HDf 2 11 (.inl (o_ild 2 12)) := ⟨ok_iload_n dd_2_11, mn_ild _ _⟩
theorem vd_2_12 (E : ac_E) : ac_V E ac_MDf ac_HDf 2 12 (.inl (o_ild 1 13)) := ⟨ok_iload_n dd_2_12, mn_ild _ _⟩
theorem vd_2_13 (E : ac_E) : ac_V E ac_MDf ac_HDf 2 13 (.inl (o_is 14)) := ⟨ok_iastore dd_2_13, mn_is _⟩
theorem vd_2_14 (E : ac_E) : ac_V E ac_MDf ac_HDf 2 14 (.inl (o_inc 2 1 17)) := ⟨ok_iinc dd_2_14 (by decide), mn_inc _ _ _⟩
theorem vd_2_17 (E : ac_E) : ac_V E ac_MDf ac_HDf 2 17 (.inl (o_go 5)) := ⟨ok_goto dd_2_17 (by decide), mn_go _⟩
theorem vd_2_20 (E : ac_E) : ac_V E ac_MDf ac_HDf 2 20 (.inr (.inr (.inl 0))) := ⟨fun _ => ⟨dd_2_20, rfl⟩, fun q => nomatch q, fun q => nomatch q⟩
theorem va_2 (E : ac_E) (pc : Nat) : ac_V E ac_MDf ac_HDf 2 pc (tb_2 (ac_len E) (ac_xs E) pc) := (ac_node (ac_node (ac_node (ac_leaf 0 (vd_2_0 E)) (ac_node (ac_leaf 1 (vd_2_1 E)) (ac_leaf 2 (vd_2_2 E)))) (ac_node (ac_node (ac_leaf 3 (vd_2_3 E)) (ac_leaf 4 (vd_2_4 E))) (ac_node (ac_leaf 5 (vd_2_5 E)) (ac_leaf 6 (vd_2_6 E))))) (ac_node (ac_node (ac_node (ac_leaf 7 (vd_2_7 E)) (ac_leaf 10 (vd_2_10 E))) (ac_node (ac_leaf 11 (vd_2_11 E)) (ac_leaf 12 (vd_2_12 E)))) (ac_node (ac_node (ac_leaf 13 (vd_2_13 E)) (ac_leaf 14 (vd_2_14 E))) (ac_node (ac_leaf 17 (vd_2_17 E)) (ac_leaf 20 (vd_2_20 E))))))
theorem vd_3_0 (E : ac_E) : ac_V E ac_MDf ac_HDf 3 0 (.inl (o_ald 0 1)) := ⟨ok_aload_n dd_3_0, mn_ald _ _⟩
theorem vd_3_1 (E : ac_E) : ac_V E ac_MDf ac_HDf 3 1 (.inl (o_obj1 4)) := ⟨ok_obj wm_126 wm_73 wm_74 (by decide) (by decide) dd_3_1, mn_obj1 _⟩
theorem vd_3_4 (E : ac_E) : ac_V E ac_MDf ac_HDf 3 4 (.inl (o_ald 0 5)) := ⟨ok_aload_n dd_3_4, mn_ald _ _⟩
theorem vd_3_5 (E : ac_E) : ac_V E ac_MDf ac_HDf 3 5 (.inl (o_con (.int 100) 7)) := ⟨ok_bipush dd_3_5 (by decide), mn_con _ _⟩
theorem vd_3_7 (E : ac_E) : ac_V E ac_MDf ac_HDf 3 7 (.inl (o_put 0 0 10)) := ⟨ok_putf (ci := 0) (f := 0) (C := RX0) (T := TX0) (N := 4) (ref := RX0) rfl win_0 (by decide) rfl tyX0 tyX0_ok nmX0 (by decide +kernel) rfl wm_127 dd_3_7, mn_put _ _ _⟩
theorem vd_3_10 (E : ac_E) : ac_V E ac_MDf ac_HDf 3 10 (.inl (o_ald 0 11)) := ⟨ok_aload_n dd_3_10, mn_ald _ _⟩
theorem vd_3_11 (E : ac_E) : ac_V E ac_MDf ac_HDf 3 11 (.inl (o_con (.int 0) 12)) := ⟨ok_iconst dd_3_11 (by decide), mn_con _ _⟩
theorem vd_3_12 (E : ac_E) : ac_V E ac_MDf ac_HDf 3 12 (.inl (o_put 0 1 15)) := ⟨ok_putf (ci := 0) (f := 1) (C := RX0) (T := TX0) (N := 4) (ref := RX0) rfl win_0 (by decide) rfl tyX0 tyX0_ok nmX0 (by decide +kernel) rfl wm_129 dd_3_12, mn_put _ _ _⟩
theorem vd_3_15 (E : ac_E) : ac_V E ac_MDf ac_HDf 3 15 (.inl (o_ald 0 16)) := ⟨ok_aload_n dd_3_15, mn_ald _ _⟩
theorem vd_3_16 (E : ac_E) : ac_V E ac_MDf ac_HDf 3 16 (.inl (o_con (.int 0) 17)) := ⟨ok_iconst dd_3_16 (by decide), mn_con _ _⟩
theorem vd_3_17 (E : ac_E) : ac_V E ac_MDf ac_HDf 3 17 (.inl (o_put 0 2 20)) := ⟨ok_putf (ci := 0) (f := 2) (C := RX0) (T := TX0) (N := 4) (ref := RX0) rfl win_0 (by decide) rfl tyX0 tyX0_ok nmX0 (by decide +kernel) rfl wm_131 dd_3_17, mn_put _ _ _⟩
theorem vd_3_20 (E : ac_E) : ac_V E ac_MDf ac_HDf 3 20 (.inl (o_ald 0 21)) := ⟨ok_aload_n dd_3_20, mn_ald _ _⟩
theorem vd_3_21 (E : ac_E) : ac_V E ac_MDf ac_HDf 3 21 (.inl (o_con (.int 0) 22)) := ⟨ok_iconst dd_3_21 (by decide), mn_con _ _⟩
theorem vd_3_22 (E : ac_E) : ac_V E ac_MDf ac_HDf 3 22 (.inl (o_put 0 3 25)) := ⟨ok_putf (ci := 0) (f := 3) (C := RX0) (T := TX0) (N := 4) (ref := RX0) rfl win_0 (by decide) rfl tyX0 tyX0_ok nmX0 (by decide +kernel) rfl wm_133 dd_3_22, mn_put _ _ _⟩
theorem vd_3_25 (E : ac_E) : ac_V E ac_MDf ac_HDf 3 25 (.inr (.inr (.inl 0))) := ⟨fun _ => ⟨dd_3_25, rfl⟩, fun q => nomatch q, fun q => nomatch q⟩
theorem va_3 (E : ac_E) (pc : Nat) : ac_V E ac_MDf ac_HDf 3 pc (tb_3 (ac_len E) (ac_xs E) pc) := (ac_node (ac_node (ac_node (ac_leaf 0 (vd_3_0 E)) (ac_node (ac_leaf 1 (vd_3_1 E)) (ac_leaf 4 (vd_3_4 E)))) (ac_node (ac_node (ac_leaf 5 (vd_3_5 E)) (ac_leaf 7 (vd_3_7 E))) (ac_node (ac_leaf 10 (vd_3_10 E)) (ac_leaf 11 (vd_3_11 E))))) (ac_node (ac_node (ac_node (ac_leaf 12 (vd_3_12 E)) (ac_leaf 15 (vd_3_15 E))) (ac_node (ac_leaf 16 (vd_3_16 E)) (ac_leaf 17 (vd_3_17 E)))) (ac_node (ac_node (ac_leaf 20 (vd_3_20 E)) (ac_leaf 21 (vd_3_21 E))) (ac_node (ac_leaf 22 (vd_3_22 E)) (ac_leaf 25 (vd_3_25 E))))))
theorem vd_4_0 (E : ac_E) : ac_V E ac_MDf ac_HDf 4 0 (.inl (o_ald 0 1)) := ⟨ok_aload_n dd_4_0, mn_ald _ _⟩
theorem vd_4_1 (E : ac_E) : ac_V E ac_MDf ac_HDf 4 1 (.inl (o_dup 2)) := ⟨ok_dup dd_4_1, mn_dup _⟩
theorem vd_4_2 (E : ac_E) : ac_V E ac_MDf ac_HDf 4 2 (.inl (o_get 0 1 5)) := ⟨ok_getf (ci := 0) (f := 1) (C := RX0) (T := TX0) (N := 4) (ref := RX0) rfl win_0 (by decide) rfl wm_129 dd_4_2, mn_get _ _ _⟩
theorem vd_4_5 (E : ac_E) : ac_V E ac_MDf ac_HDf 4 5 (.inl (o_ild 2 6)) := ⟨ok_iload_n dd_4_5, mn_ild _ _⟩
theorem vd_4_6 (E : ac_E) : ac_V E ac_MDf ac_HDf 4 6 (.inl (o_con (.int 1) 7)) := ⟨ok_iconst dd_4_6 (by decide), mn_con _ _⟩
theorem vd_4_7 (E : ac_E) : ac_V E ac_MDf ac_HDf 4 7 (.inr (.inl (48,2,10,0))) := ac_Vc0 (ok_callSN rfl (by decide) (by decide +kernel) wm_494 wm_50 wm_503 wm_493 dd_4_7) (fun _ => rfl)
theorem vd_4_10 (E : ac_E) : ac_V E ac_MDf ac_HDf 4 10 (.inl (o_ild 1 11)) := ⟨ok_iload_n dd_4_10, mn_ild _ _⟩
theorem vd_4_11 (E : ac_E) : ac_V E ac_MDf ac_HDf 4 11 (.inl (o_con (.int 1) 12)) := ⟨ok_iconst dd_4_11 (by decide), mn_con _ _⟩
theorem vd_4_12 (E : ac_E) : ac_V E ac_MDf ac_HDf 4 12 (.inr (.inl (48,2,15,0))) := ac_Vc0 (ok_callSN rfl (by decide) (by decide +kernel) wm_494 wm_50 wm_503 wm_493 dd_4_12) (fun _ => rfl)
theorem vd_4_15 (E : ac_E) : ac_V E ac_MDf ac_HDf 4 15 (.inl (o_sub 16)) := ⟨ok_isub dd_4_15, mn_sub _⟩
theorem vd_4_16 (E : ac_E) : ac_V E ac_MDf ac_HDf 4 16 (.inl (o_sub 17)) := ⟨ok_isub dd_4_16, mn_sub _⟩
theorem vd_4_17 (E : ac_E) : ac_V E ac_MDf ac_HDf 4 17 (.inl (o_put 0 1 20)) := ⟨ok_putf (ci := 0) (f := 1) (C := RX0) (T := TX0) (N := 4) (ref := RX0) rfl win_0 (by decide) rfl tyX0 tyX0_ok nmX0 (by decide +kernel) rfl wm_129 dd_4_17, mn_put _ _ _⟩
theorem vd_4_20 (E : ac_E) : ac_V E ac_MDf ac_HDf 4 20 (.inl (o_ald 0 21)) := ⟨ok_aload_n dd_4_20, mn_ald _ _⟩
theorem vd_4_21 (E : ac_E) : ac_V E ac_MDf ac_HDf 4 21 (.inl (o_dup 22)) := ⟨ok_dup dd_4_21, mn_dup _⟩
theorem vd_4_22 (E : ac_E) : ac_V E ac_MDf ac_HDf 4 22 (.inl (o_get 0 2 25)) := ⟨ok_getf (ci := 0) (f := 2) (C := RX0) (T := TX0) (N := 4) (ref := RX0) rfl win_0 (by decide) rfl wm_131 dd_4_22, mn_get _ _ _⟩
theorem vd_4_25 (E : ac_E) : ac_V E ac_MDf ac_HDf 4 25 (.inl (o_ild 2 26)) := ⟨ok_iload_n dd_4_25, mn_ild _ _⟩
theorem vd_4_26 (E : ac_E) : ac_V E ac_MDf ac_HDf 4 26 (.inl (o_con (.int 2) 27)) := ⟨ok_iconst dd_4_26 (by decide), mn_con _ _⟩
theorem vd_4_27 (E : ac_E) : ac_V E ac_MDf ac_HDf 4 27 (.inr (.inl (48,2,30,0))) := ac_Vc0 (ok_callSN rfl (by decide) (by decide +kernel) wm_494 wm_50 wm_503 wm_493 dd_4_27) (fun _ => rfl)
theorem vd_4_30 (E : ac_E) : ac_V E ac_MDf ac_HDf 4 30 (.inl (o_ild 1 31)) := ⟨ok_iload_n dd_4_30, mn_ild _ _⟩
theorem vd_4_31 (E : ac_E) : ac_V E ac_MDf ac_HDf 4 31 (.inl (o_con (.int 2) 32)) := ⟨ok_iconst dd_4_31 (by decide), mn_con _ _⟩
theorem vd_4_32 (E : ac_E) : ac_V E ac_MDf ac_HDf 4 32 (.inr (.inl (48,2,35,0))) := ac_Vc0 (ok_callSN rfl (by decide) (by decide +kernel) wm_494 wm_50 wm_503 wm_493 dd_4_32) (fun _ => rfl)
theorem vd_4_35 (E : ac_E) : ac_V E ac_MDf ac_HDf 4 35 (.inl (o_sub 36)) := ⟨ok_isub dd_4_35, mn_sub _⟩
theorem vd_4_36 (E : ac_E) : ac_V E ac_MDf ac_HDf 4 36 (.inl (o_sub 37)) := ⟨ok_isub dd_4_36, mn_sub _⟩
theorem vd_4_37 (E : ac_E) : ac_V E ac_MDf ac_HDf 4 37 (.inl (o_put 0 2 40)) := ⟨ok_putf (ci := 0) (f := 2) (C := RX0) (T := TX0) (N := 4) (ref := RX0) rfl win_0 (by decide) rfl tyX0 tyX0_ok nmX0 (by decide +kernel) rfl wm_131 dd_4_37, mn_put _ _ _⟩
theorem vd_4_40 (E : ac_E) : ac_V E ac_MDf ac_HDf 4 40 (.inr (.inr (.inl 0))) := ⟨fun _ => ⟨dd_4_40, rfl⟩, fun q => nomatch q, fun q => nomatch q⟩
theorem va_4 (E : ac_E) (pc : Nat) : ac_V E ac_MDf ac_HDf 4 pc (tb_4 (ac_len E) (ac_xs E) pc) := (ac_node (ac_node (ac_node (ac_node (ac_leaf 0 (vd_4_0 E)) (ac_node (ac_leaf 1 (vd_4_1 E)) (ac_leaf 2 (vd_4_2 E)))) (ac_node (ac_leaf 5 (vd_4_5 E)) (ac_node (ac_leaf 6 (vd_4_6 E)) (ac_leaf 7 (vd_4_7 E))))) (ac_node (ac_node (ac_leaf 10 (vd_4_10 E)) (ac_node (ac_leaf 11 (vd_4_11 E)) (ac_leaf 12 (vd_4_12 E)))) (ac_node (ac_leaf 15 (vd_4_15 E)) (ac_node (ac_leaf 16 (vd_4_16 E)) (ac_leaf 17 (vd_4_17 E)))))) (ac_node (ac_node (ac_node (ac_leaf 20 (vd_4_20 E)) (ac_node (ac_leaf 21 (vd_4_21 E)) (ac_leaf 22 (vd_4_22 E)))) (ac_node (ac_leaf 25 (vd_4_25 E)) (ac_node (ac_leaf 26 (vd_4_26 E)) (ac_leaf 27 (vd_4_27 E))))) (ac_node (ac_node (ac_leaf 30 (vd_4_30 E)) (ac_node (ac_leaf 31 (vd_4_31 E)) (ac_leaf 32 (vd_4_32 E)))) (ac_node (ac_node (ac_leaf 35 (vd_4_35 E)) (ac_leaf 36 (vd_4_36 E))) (ac_node (ac_leaf 37 (vd_4_37 E)) (ac_leaf 40 (vd_4_40 E)))))))
theorem vd_5_0 (E : ac_E) : ac_V E ac_MDf ac_HDf 5 0 (.inl (o_con (.int 0) 1)) := ⟨ok_iconst dd_5_0 (by decide), mn_con _ _⟩
theorem vd_5_1 (E : ac_E) : ac_V E ac_MDf ac_HDf 5 1 (.inl (o_ist 1 2)) := ⟨ok_istore_n dd_5_1, mn_ist _ _⟩
theorem vd_5_2 (E : ac_E) : ac_V E ac_MDf ac_HDf 5 2 (.inl (o_ild 1 3)) := ⟨ok_iload_n dd_5_2, mn_ild _ _⟩
theorem vd_5_3 (E : ac_E) : ac_V E ac_MDf ac_HDf 5 3 (.inl (o_con (.int 6) 5)) := ⟨ok_bipush dd_5_3 (by decide), mn_con _ _⟩
theorem vd_5_5 (E : ac_E) : ac_V E ac_MDf ac_HDf 5 5 (.inl (o_ge 46 8)) := ⟨ok_icmpge dd_5_5 (by decide), mn_ge _ _⟩
theorem vd_5_8 (E : ac_E) : ac_V E ac_MDf ac_HDf 5 8 (.inl (o_sta 2 11)) := ⟨ok_staN (n := "ALONG_P") rfl wm_516 dd_5_8, mn_sta _ _⟩
theorem vd_5_11 (E : ac_E) : ac_V E ac_MDf ac_HDf 5 11 (.inl (o_ild 1 12)) := ⟨ok_iload_n dd_5_11, mn_ild _ _⟩
theorem vd_5_12 (E : ac_E) : ac_V E ac_MDf ac_HDf 5 12 (.inl (o_ta ac_tab 13)) := ⟨ok_ta dd_5_12, mn_ta _ _⟩
theorem vd_5_13 (E : ac_E) : ac_V E ac_MDf ac_HDf 5 13 (.inl (o_ald 0 14)) := ⟨ok_aload_n dd_5_13, mn_ald _ _⟩
theorem vd_5_14 (E : ac_E) : ac_V E ac_MDf ac_HDf 5 14 (.inl (o_get 0 1 17)) := ⟨ok_getf (ci := 0) (f := 1) (C := RX0) (T := TX0) (N := 4) (ref := RX0) rfl win_0 (by decide) rfl wm_129 dd_5_14, mn_get _ _ _⟩
theorem vd_5_17 (E : ac_E) : ac_V E ac_MDf ac_HDf 5 17 (.inl (o_mul 18)) := ⟨ok_imul dd_5_17, mn_mul _⟩
theorem vd_5_18 (E : ac_E) : ac_V E ac_MDf ac_HDf 5 18 (.inl (o_sta 3 21)) := ⟨ok_staN (n := "ALONG_Q") rfl wm_518 dd_5_18, mn_sta _ _⟩
theorem vd_5_21 (E : ac_E) : ac_V E ac_MDf ac_HDf 5 21 (.inl (o_ild 1 22)) := ⟨ok_iload_n dd_5_21, mn_ild _ _⟩
theorem vd_5_22 (E : ac_E) : ac_V E ac_MDf ac_HDf 5 22 (.inl (o_ta ac_tab 23)) := ⟨ok_ta dd_5_22, mn_ta _ _⟩
theorem vd_5_23 (E : ac_E) : ac_V E ac_MDf ac_HDf 5 23 (.inl (o_ald 0 24)) := ⟨ok_aload_n dd_5_23, mn_ald _ _⟩
theorem vd_5_24 (E : ac_E) : ac_V E ac_MDf ac_HDf 5 24 (.inl (o_get 0 2 27)) := ⟨ok_getf (ci := 0) (f := 2) (C := RX0) (T := TX0) (N := 4) (ref := RX0) rfl win_0 (by decide) rfl wm_131 dd_5_24, mn_get _ _ _⟩
theorem vd_5_27 (E : ac_E) : ac_V E ac_MDf ac_HDf 5 27 (.inl (o_mul 28)) := ⟨ok_imul dd_5_27, mn_mul _⟩
theorem vd_5_28 (E : ac_E) : ac_V E ac_MDf ac_HDf 5 28 (.inl (o_add 29)) := ⟨ok_iadd dd_5_28, mn_add _⟩
theorem vd_5_29 (E : ac_E) : ac_V E ac_MDf ac_HDf 5 29 (.inl (o_con (.int 2) 30)) := ⟨ok_iconst dd_5_29 (by decide), mn_con _ _⟩
theorem vd_5_30 (E : ac_E) : ac_V E ac_MDf ac_HDf 5 30 (.inl (o_ald 0 31)) := ⟨ok_aload_n dd_5_30, mn_ald _ _⟩
theorem vd_5_31 (E : ac_E) : ac_V E ac_MDf ac_HDf 5 31 (.inl (o_get 0 0 34)) := ⟨ok_getf (ci := 0) (f := 0) (C := RX0) (T := TX0) (N := 4) (ref := RX0) rfl win_0 (by decide) rfl wm_127 dd_5_31, mn_get _ _ _⟩
theorem vd_5_34 (E : ac_E) : ac_V E ac_MDf ac_HDf 5 34 (.inl (o_mul 35)) := ⟨ok_imul dd_5_34, mn_mul _⟩
theorem vd_5_35 (E : ac_E) : ac_V E ac_MDf ac_HDf 5 35 (.inl (o_lt 40 38)) := ⟨ok_icmplt dd_5_35 (by decide), mn_lt _ _⟩
theorem vd_5_38 (E : ac_E) : ac_V E ac_MDf ac_HDf 5 38 (.inl (o_ild 1 39)) := ⟨ok_iload_n dd_5_38, mn_ild _ _⟩
theorem vd_5_39 (E : ac_E) : ac_V E ac_MDf ac_HDf 5 39 (.inr (.inr (.inl 1))) := ⟨fun q => nomatch q, fun _ => ⟨dd_5_39, rfl⟩, fun q => nomatch q⟩
theorem vd_5_40 (E : ac_E) : ac_V E ac_MDf ac_HDf 5 40 (.inl (o_inc 1 1 43)) := ⟨ok_iinc dd_5_40 (by decide), mn_inc _ _ _⟩
theorem vd_5_43 (E : ac_E) : ac_V E ac_MDf ac_HDf 5 43 (.inl (o_go 2)) := ⟨ok_goto dd_5_43 (by decide), mn_go _⟩
theorem vd_5_46 (E : ac_E) : ac_V E ac_MDf ac_HDf 5 46 (.inl (o_con (.int (-1)) 47)) := ⟨ok_iconst dd_5_46 (by decide), mn_con _ _⟩
theorem vd_5_47 (E : ac_E) : ac_V E ac_MDf ac_HDf 5 47 (.inr (.inr (.inl 1))) := ⟨fun q => nomatch q, fun _ => ⟨dd_5_47, rfl⟩, fun q => nomatch q⟩
theorem va_5 (E : ac_E) (pc : Nat) : ac_V E ac_MDf ac_HDf 5 pc (tb_5 (ac_len E) (ac_xs E) pc) := (ac_node (ac_node (ac_node (ac_node (ac_leaf 0 (vd_5_0 E)) (ac_node (ac_leaf 1 (vd_5_1 E)) (ac_leaf 2 (vd_5_2 E)))) (ac_node (ac_node (ac_leaf 3 (vd_5_3 E)) (ac_leaf 5 (vd_5_5 E))) (ac_node (ac_leaf 8 (vd_5_8 E)) (ac_leaf 11 (vd_5_11 E))))) (ac_node (ac_node (ac_leaf 12 (vd_5_12 E)) (ac_node (ac_leaf 13 (vd_5_13 E)) (ac_leaf 14 (vd_5_14 E)))) (ac_node (ac_node (ac_leaf 17 (vd_5_17 E)) (ac_leaf 18 (vd_5_18 E))) (ac_node (ac_leaf 21 (vd_5_21 E)) (ac_leaf 22 (vd_5_22 E)))))) (ac_node (ac_node (ac_node (ac_leaf 23 (vd_5_23 E)) (ac_node (ac_leaf 24 (vd_5_24 E)) (ac_leaf 27 (vd_5_27 E)))) (ac_node (ac_node (ac_leaf 28 (vd_5_28 E)) (ac_leaf 29 (vd_5_29 E))) (ac_node (ac_leaf 30 (vd_5_30 E)) (ac_leaf 31 (vd_5_31 E))))) (ac_node (ac_node (ac_node (ac_leaf 34 (vd_5_34 E)) (ac_leaf 35 (vd_5_35 E))) (ac_node (ac_leaf 38 (vd_5_38 E)) (ac_leaf 39 (vd_5_39 E)))) (ac_node (ac_node (ac_leaf 40 (vd_5_40 E)) (ac_leaf 43 (vd_5_43 E))) (ac_node (ac_leaf 46 (vd_5_46 E)) (ac_leaf 47 (vd_5_47 E)))))))
theorem vd_6_0 (E : ac_E) : ac_V E ac_MDf ac_HDf 6 0 (.inl (o_ald 0 1)) := ⟨ok_aload_n dd_6_0, mn_ald _ _⟩
theorem vd_6_1 (E : ac_E) : ac_V E ac_MDf ac_HDf 6 1 (.inl (o_dup 2)) := ⟨ok_dup dd_6_1, mn_dup _⟩
theorem vd_6_2 (E : ac_E) : ac_V E ac_MDf ac_HDf 6 2 (.inl (o_get 0 1 5)) := ⟨ok_getf (ci := 0) (f := 1) (C := RX0) (T := TX0) (N := 4) (ref := RX0) rfl win_0 (by decide) rfl wm_129 dd_6_2, mn_get _ _ _⟩
theorem vd_6_5 (E : ac_E) : ac_V E ac_MDf ac_HDf 6 5 (.inl (o_ald 0 6)) := ⟨ok_aload_n dd_6_5, mn_ald _ _⟩
theorem vd_6_6 (E : ac_E) : ac_V E ac_MDf ac_HDf 6 6 (.inl (o_get 0 0 9)) := ⟨ok_getf (ci := 0) (f := 0) (C := RX0) (T := TX0) (N := 4) (ref := RX0) rfl win_0 (by decide) rfl wm_127 dd_6_6, mn_get _ _ _⟩
theorem vd_6_9 (E : ac_E) : ac_V E ac_MDf ac_HDf 6 9 (.inl (o_sta 0 12)) := ⟨ok_staN (n := "MOMENTUM_P") rfl wm_540 dd_6_9, mn_sta _ _⟩
theorem vd_6_12 (E : ac_E) : ac_V E ac_MDf ac_HDf 6 12 (.inl (o_ild 1 13)) := ⟨ok_iload_n dd_6_12, mn_ild _ _⟩
theorem vd_6_13 (E : ac_E) : ac_V E ac_MDf ac_HDf 6 13 (.inl (o_ta ac_tab 14)) := ⟨ok_ta dd_6_13, mn_ta _ _⟩
theorem vd_6_14 (E : ac_E) : ac_V E ac_MDf ac_HDf 6 14 (.inl (o_mul 15)) := ⟨ok_imul dd_6_14, mn_mul _⟩
theorem vd_6_15 (E : ac_E) : ac_V E ac_MDf ac_HDf 6 15 (.inl (o_sub 16)) := ⟨ok_isub dd_6_15, mn_sub _⟩
theorem vd_6_16 (E : ac_E) : ac_V E ac_MDf ac_HDf 6 16 (.inl (o_put 0 1 19)) := ⟨ok_putf (ci := 0) (f := 1) (C := RX0) (T := TX0) (N := 4) (ref := RX0) rfl win_0 (by decide) rfl tyX0 tyX0_ok nmX0 (by decide +kernel) rfl wm_129 dd_6_16, mn_put _ _ _⟩
theorem vd_6_19 (E : ac_E) : ac_V E ac_MDf ac_HDf 6 19 (.inl (o_ald 0 20)) := ⟨ok_aload_n dd_6_19, mn_ald _ _⟩
theorem vd_6_20 (E : ac_E) : ac_V E ac_MDf ac_HDf 6 20 (.inl (o_dup 21)) := ⟨ok_dup dd_6_20, mn_dup _⟩
theorem vd_6_21 (E : ac_E) : ac_V E ac_MDf ac_HDf 6 21 (.inl (o_get 0 2 24)) := ⟨ok_getf (ci := 0) (f := 2) (C := RX0) (T := TX0) (N := 4) (ref := RX0) rfl win_0 (by decide) rfl wm_131 dd_6_21, mn_get _ _ _⟩
theorem vd_6_24 (E : ac_E) : ac_V E ac_MDf ac_HDf 6 24 (.inl (o_ald 0 25)) := ⟨ok_aload_n dd_6_24, mn_ald _ _⟩
theorem vd_6_25 (E : ac_E) : ac_V E ac_MDf ac_HDf 6 25 (.inl (o_get 0 0 28)) := ⟨ok_getf (ci := 0) (f := 0) (C := RX0) (T := TX0) (N := 4) (ref := RX0) rfl win_0 (by decide) rfl wm_127 dd_6_25, mn_get _ _ _⟩
theorem vd_6_28 (E : ac_E) : ac_V E ac_MDf ac_HDf 6 28 (.inl (o_sta 1 31)) := ⟨ok_staN (n := "MOMENTUM_Q") rfl wm_541 dd_6_28, mn_sta _ _⟩
theorem vd_6_31 (E : ac_E) : ac_V E ac_MDf ac_HDf 6 31 (.inl (o_ild 1 32)) := ⟨ok_iload_n dd_6_31, mn_ild _ _⟩
theorem vd_6_32 (E : ac_E) : ac_V E ac_MDf ac_HDf 6 32 (.inl (o_ta ac_tab 33)) := ⟨ok_ta dd_6_32, mn_ta _ _⟩
theorem vd_6_33 (E : ac_E) : ac_V E ac_MDf ac_HDf 6 33 (.inl (o_mul 34)) := ⟨ok_imul dd_6_33, mn_mul _⟩
theorem vd_6_34 (E : ac_E) : ac_V E ac_MDf ac_HDf 6 34 (.inl (o_sub 35)) := ⟨ok_isub dd_6_34, mn_sub _⟩
theorem vd_6_35 (E : ac_E) : ac_V E ac_MDf ac_HDf 6 35 (.inl (o_put 0 2 38)) := ⟨ok_putf (ci := 0) (f := 2) (C := RX0) (T := TX0) (N := 4) (ref := RX0) rfl win_0 (by decide) rfl tyX0 tyX0_ok nmX0 (by decide +kernel) rfl wm_131 dd_6_35, mn_put _ _ _⟩
theorem vd_6_38 (E : ac_E) : ac_V E ac_MDf ac_HDf 6 38 (.inl (o_ald 0 39)) := ⟨ok_aload_n dd_6_38, mn_ald _ _⟩
theorem vd_6_39 (E : ac_E) : ac_V E ac_MDf ac_HDf 6 39 (.inl (o_dup 40)) := ⟨ok_dup dd_6_39, mn_dup _⟩
theorem vd_6_40 (E : ac_E) : ac_V E ac_MDf ac_HDf 6 40 (.inl (o_get 0 3 43)) := ⟨ok_getf (ci := 0) (f := 3) (C := RX0) (T := TX0) (N := 4) (ref := RX0) rfl win_0 (by decide) rfl wm_133 dd_6_40, mn_get _ _ _⟩
theorem vd_6_43 (E : ac_E) : ac_V E ac_MDf ac_HDf 6 43 (.inl (o_con (.int 1) 44)) := ⟨ok_iconst dd_6_43 (by decide), mn_con _ _⟩
theorem vd_6_44 (E : ac_E) : ac_V E ac_MDf ac_HDf 6 44 (.inl (o_add 45)) := ⟨ok_iadd dd_6_44, mn_add _⟩
theorem vd_6_45 (E : ac_E) : ac_V E ac_MDf ac_HDf 6 45 (.inl (o_put 0 3 48)) := ⟨ok_putf (ci := 0) (f := 3) (C := RX0) (T := TX0) (N := 4) (ref := RX0) rfl win_0 (by decide) rfl tyX0 tyX0_ok nmX0 (by decide +kernel) rfl wm_133 dd_6_45, mn_put _ _ _⟩
theorem vd_6_48 (E : ac_E) : ac_V E ac_MDf ac_HDf 6 48 (.inr (.inr (.inl 0))) := ⟨fun _ => ⟨dd_6_48, rfl⟩, fun q => nomatch q, fun q => nomatch q⟩
theorem va_6 (E : ac_E) (pc : Nat) : ac_V E ac_MDf ac_HDf 6 pc (tb_6 (ac_len E) (ac_xs E) pc) := (ac_node (ac_node (ac_node (ac_node (ac_leaf 0 (vd_6_0 E)) (ac_node (ac_leaf 1 (vd_6_1 E)) (ac_leaf 2 (vd_6_2 E)))) (ac_node (ac_node (ac_leaf 5 (vd_6_5 E)) (ac_leaf 6 (vd_6_6 E))) (ac_node (ac_leaf 9 (vd_6_9 E)) (ac_leaf 12 (vd_6_12 E))))) (ac_node (ac_node (ac_leaf 13 (vd_6_13 E)) (ac_node (ac_leaf 14 (vd_6_14 E)) (ac_leaf 15 (vd_6_15 E)))) (ac_node (ac_node (ac_leaf 16 (vd_6_16 E)) (ac_leaf 19 (vd_6_19 E))) (ac_node (ac_leaf 20 (vd_6_20 E)) (ac_leaf 21 (vd_6_21 E)))))) (ac_node (ac_node (ac_node (ac_leaf 24 (vd_6_24 E)) (ac_node (ac_leaf 25 (vd_6_25 E)) (ac_leaf 28 (vd_6_28 E)))) (ac_node (ac_node (ac_leaf 31 (vd_6_31 E)) (ac_leaf 32 (vd_6_32 E))) (ac_node (ac_leaf 33 (vd_6_33 E)) (ac_leaf 34 (vd_6_34 E))))) (ac_node (ac_node (ac_node (ac_leaf 35 (vd_6_35 E)) (ac_leaf 38 (vd_6_38 E))) (ac_node (ac_leaf 39 (vd_6_39 E)) (ac_leaf 40 (vd_6_40 E)))) (ac_node (ac_node (ac_leaf 43 (vd_6_43 E)) (ac_leaf 44 (vd_6_44 E))) (ac_node (ac_leaf 45 (vd_6_45 E)) (ac_leaf 48 (vd_6_48 E)))))))
theorem vd_7_0 (E : ac_E) : ac_V E ac_MDf ac_HDf 7 0 (.inl (o_ald 0 1)) := ⟨ok_aload_n dd_7_0, mn_ald _ _⟩
theorem vd_7_1 (E : ac_E) : ac_V E ac_MDf ac_HDf 7 1 (.inl (o_obj1 4)) := ⟨ok_obj wm_115 wm_73 wm_74 (by decide) (by decide) dd_7_1, mn_obj1 _⟩
theorem vd_7_4 (E : ac_E) : ac_V E ac_MDf ac_HDf 7 4 (.inl (o_ald 0 5)) := ⟨ok_aload_n dd_7_4, mn_ald _ _⟩
theorem vd_7_5 (E : ac_E) : ac_V E ac_MDf ac_HDf 7 5 (.inl (o_con (.int 12) 7)) := ⟨ok_bipush dd_7_5 (by decide), mn_con _ _⟩
theorem vd_7_7 (E : ac_E) : ac_V E ac_MDf ac_HDf 7 7 (.inl (o_ni 9)) := ⟨ok_ni dd_7_7 wm_109, mn_ni _⟩
theorem vd_7_9 (E : ac_E) : ac_V E ac_MDf ac_HDf 7 9 (.inl (o_pur 1 0 12)) := ⟨ok_purF (ci := 1) (f := 0) (C := RX1) (T := TX1) (N := 1) (ref := RX1) rfl win_1 (by decide) rfl tyX1 tyX1_ok nmX1 (by decide +kernel : _ = some (.array .int)) (Or.inr ⟨_, rfl⟩) rfl rfl rfl wm_116 dd_7_9, mn_pur _ _ _⟩
theorem vd_7_12 (E : ac_E) : ac_V E ac_MDf ac_HDf 7 12 (.inr (.inr (.inl 0))) := ⟨fun _ => ⟨dd_7_12, rfl⟩, fun q => nomatch q, fun q => nomatch q⟩
theorem va_7 (E : ac_E) (pc : Nat) : ac_V E ac_MDf ac_HDf 7 pc (tb_7 (ac_len E) (ac_xs E) pc) := (ac_node (ac_node (ac_leaf 0 (vd_7_0 E)) (ac_node (ac_leaf 1 (vd_7_1 E)) (ac_leaf 4 (vd_7_4 E)))) (ac_node (ac_node (ac_leaf 5 (vd_7_5 E)) (ac_leaf 7 (vd_7_7 E))) (ac_node (ac_leaf 9 (vd_7_9 E)) (ac_leaf 12 (vd_7_12 E)))))
theorem vd_8_0 (E : ac_E) : ac_V E ac_MDf ac_HDf 8 0 (.inl (o_con (.int 0) 1)) := ⟨ok_iconst dd_8_0 (by decide), mn_con _ _⟩
theorem vd_8_1 (E : ac_E) : ac_V E ac_MDf ac_HDf 8 1 (.inl (o_ist 4 3)) := ⟨ok_istore dd_8_1, mn_ist _ _⟩
theorem vd_8_3 (E : ac_E) : ac_V E ac_MDf ac_HDf 8 3 (.inl (o_ild 4 5)) := ⟨ok_iload dd_8_3, mn_ild _ _⟩
theorem vd_8_5 (E : ac_E) : ac_V E ac_MDf ac_HDf 8 5 (.inl (o_con (.int 3) 6)) := ⟨ok_iconst dd_8_5 (by decide), mn_con _ _⟩
theorem vd_8_6 (E : ac_E) : ac_V E ac_MDf ac_HDf 8 6 (.inl (o_ge 42 9)) := ⟨ok_icmpge dd_8_6 (by decide), mn_ge _ _⟩
theorem vd_8_9 (E : ac_E) : ac_V E ac_MDf ac_HDf 8 9 (.inl (o_ald 0 10)) := ⟨ok_aload_n dd_8_9, mn_ald _ _⟩
theorem vd_8_10 (E : ac_E) : ac_V E ac_MDf ac_HDf 8 10 (.inl (o_get 1 0 13)) := ⟨ok_getf (ci := 1) (f := 0) (C := RX1) (T := TX1) (N := 1) (ref := RX1) rfl win_1 (by decide) rfl wm_116 dd_8_10, mn_get _ _ _⟩
theorem vd_8_13 (E : ac_E) : ac_V E ac_MDf ac_HDf 8 13 (.inl (o_ild 1 14)) := ⟨ok_iload_n dd_8_13, mn_ild _ _⟩
theorem vd_8_14 (E : ac_E) : ac_V E ac_MDf ac_HDf 8 14 (.inl (o_con (.int 3) 15)) := ⟨ok_iconst dd_8_14 (by decide), mn_con _ _⟩
theorem vd_8_15 (E : ac_E) : ac_V E ac_MDf ac_HDf 8 15 (.inl (o_mul 16)) := ⟨ok_imul dd_8_15, mn_mul _⟩
theorem vd_8_16 (E : ac_E) : ac_V E ac_MDf ac_HDf 8 16 (.inl (o_ild 4 18)) := ⟨ok_iload dd_8_16, mn_ild _ _⟩
theorem vd_8_18 (E : ac_E) : ac_V E ac_MDf ac_HDf 8 18 (.inl (o_add 19)) := ⟨ok_iadd dd_8_18, mn_add _⟩
theorem vd_8_19 (E : ac_E) : ac_V E ac_MDf ac_HDf 8 19 (.inl (o_dp2 20)) := ⟨ok_dup2 dd_8_19, mn_dp2 _⟩
theorem vd_8_20 (E : ac_E) : ac_V E ac_MDf ac_HDf 8 20 (.inl (o_ia 21)) := ⟨ok_iaload dd_8_20, mn_ia _⟩
theorem vd_8_21 (E : ac_E) : ac_V E ac_MDf ac_HDf 8 21 (.inl (o_ild 3 22)) := ⟨ok_iload_n dd_8_21, mn_ild _ _⟩
theorem vd_8_22 (E : ac_E) : ac_V E ac_MDf ac_HDf 8 22 (.inl (o_ild 4 24)) := ⟨ok_iload dd_8_22, mn_ild _ _⟩
theorem vd_8_24 (E : ac_E) : ac_V E ac_MDf ac_HDf 8 24 (.inr (.inl (48,2,27,0))) := ac_Vc0 (ok_callSN rfl (by decide) (by decide +kernel) wm_494 wm_50 wm_492 wm_493 dd_8_24) (fun _ => rfl)
theorem vd_8_27 (E : ac_E) : ac_V E ac_MDf ac_HDf 8 27 (.inl (o_ild 2 28)) := ⟨ok_iload_n dd_8_27, mn_ild _ _⟩
theorem vd_8_28 (E : ac_E) : ac_V E ac_MDf ac_HDf 8 28 (.inl (o_ild 4 30)) := ⟨ok_iload dd_8_28, mn_ild _ _⟩
theorem vd_8_30 (E : ac_E) : ac_V E ac_MDf ac_HDf 8 30 (.inr (.inl (48,2,33,0))) := ac_Vc0 (ok_callSN rfl (by decide) (by decide +kernel) wm_494 wm_50 wm_492 wm_493 dd_8_30) (fun _ => rfl)
theorem vd_8_33 (E : ac_E) : ac_V E ac_MDf ac_HDf 8 33 (.inl (o_sub 34)) := ⟨ok_isub dd_8_33, mn_sub _⟩
theorem vd_8_34 (E : ac_E) : ac_V E ac_MDf ac_HDf 8 34 (.inl (o_add 35)) := ⟨ok_iadd dd_8_34, mn_add _⟩
theorem vd_8_35 (E : ac_E) : ac_V E ac_MDf ac_HDf 8 35 (.inl (o_is 36)) := ⟨ok_iastore dd_8_35, mn_is _⟩
theorem vd_8_36 (E : ac_E) : ac_V E ac_MDf ac_HDf 8 36 (.inl (o_inc 4 1 39)) := ⟨ok_iinc dd_8_36 (by decide), mn_inc _ _ _⟩
theorem vd_8_39 (E : ac_E) : ac_V E ac_MDf ac_HDf 8 39 (.inl (o_go 3)) := ⟨ok_goto dd_8_39 (by decide), mn_go _⟩
theorem vd_8_42 (E : ac_E) : ac_V E ac_MDf ac_HDf 8 42 (.inr (.inr (.inl 0))) := ⟨fun _ => ⟨dd_8_42, rfl⟩, fun q => nomatch q, fun q => nomatch q⟩
theorem va_8 (E : ac_E) (pc : Nat) : ac_V E ac_MDf ac_HDf 8 pc (tb_8 (ac_len E) (ac_xs E) pc) := (ac_node (ac_node (ac_node (ac_node (ac_leaf 0 (vd_8_0 E)) (ac_node (ac_leaf 1 (vd_8_1 E)) (ac_leaf 3 (vd_8_3 E)))) (ac_node (ac_leaf 5 (vd_8_5 E)) (ac_node (ac_leaf 6 (vd_8_6 E)) (ac_leaf 9 (vd_8_9 E))))) (ac_node (ac_node (ac_leaf 10 (vd_8_10 E)) (ac_node (ac_leaf 13 (vd_8_13 E)) (ac_leaf 14 (vd_8_14 E)))) (ac_node (ac_node (ac_leaf 15 (vd_8_15 E)) (ac_leaf 16 (vd_8_16 E))) (ac_node (ac_leaf 18 (vd_8_18 E)) (ac_leaf 19 (vd_8_19 E)))))) (ac_node (ac_node (ac_node (ac_leaf 20 (vd_8_20 E)) (ac_node (ac_leaf 21 (vd_8_21 E)) (ac_leaf 22 (vd_8_22 E)))) (ac_node (ac_leaf 24 (vd_8_24 E)) (ac_node (ac_leaf 27 (vd_8_27 E)) (ac_leaf 28 (vd_8_28 E))))) (ac_node (ac_node (ac_leaf 30 (vd_8_30 E)) (ac_node (ac_leaf 33 (vd_8_33 E)) (ac_leaf 34 (vd_8_34 E)))) (ac_node (ac_node (ac_leaf 35 (vd_8_35 E)) (ac_leaf 36 (vd_8_36 E))) (ac_node (ac_leaf 39 (vd_8_39 E)) (ac_leaf 42 (vd_8_42 E)))))))
theorem vd_9_0 (E : ac_E) : ac_V E ac_MDf ac_HDf 9 0 (.inl (o_ald 0 1)) := ⟨ok_aload_n dd_9_0, mn_ald _ _⟩
theorem vd_9_1 (E : ac_E) : ac_V E ac_MDf ac_HDf 9 1 (.inl (o_obj1 4)) := ⟨ok_obj wm_83 wm_73 wm_74 (by decide) (by decide) dd_9_1, mn_obj1 _⟩
theorem vd_9_4 (E : ac_E) : ac_V E ac_MDf ac_HDf 9 4 (.inl (o_ald 0 5)) := ⟨ok_aload_n dd_9_4, mn_ald _ _⟩
theorem vd_9_5 (E : ac_E) : ac_V E ac_MDf ac_HDf 9 5 (.inl (o_ild 1 6)) := ⟨ok_iload_n dd_9_5, mn_ild _ _⟩
theorem vd_9_6 (E : ac_E) : ac_V E ac_MDf ac_HDf 9 6 (.inl (o_put 2 0 9)) := ⟨ok_putF (ci := 2) (f := 0) (C := RX2) (T := TX2) (N := 4) (ref := RX2) rfl win_2 (by decide) rfl tyX2 tyX2_ok nmX2 (by decide +kernel) rfl rfl rfl wm_93 dd_9_6, mn_put _ _ _⟩
theorem vd_9_9 (E : ac_E) : ac_V E ac_MDf ac_HDf 9 9 (.inl (o_ald 0 10)) := ⟨ok_aload_n dd_9_9, mn_ald _ _⟩
theorem vd_9_10 (E : ac_E) : ac_V E ac_MDf ac_HDf 9 10 (.inl (o_ild 2 11)) := ⟨ok_iload_n dd_9_10, mn_ild _ _⟩
theorem vd_9_11 (E : ac_E) : ac_V E ac_MDf ac_HDf 9 11 (.inl (o_put 2 1 14)) := ⟨ok_putF (ci := 2) (f := 1) (C := RX2) (T := TX2) (N := 4) (ref := RX2) rfl win_2 (by decide) rfl tyX2 tyX2_ok nmX2 (by decide +kernel) rfl rfl rfl wm_95 dd_9_11, mn_put _ _ _⟩
theorem vd_9_14 (E : ac_E) : ac_V E ac_MDf ac_HDf 9 14 (.inl (o_ald 0 15)) := ⟨ok_aload_n dd_9_14, mn_ald _ _⟩
theorem vd_9_15 (E : ac_E) : ac_V E ac_MDf ac_HDf 9 15 (.inl (o_ild 1 16)) := ⟨ok_iload_n dd_9_15, mn_ild _ _⟩
theorem vd_9_16 (E : ac_E) : ac_V E ac_MDf ac_HDf 9 16 (.inl (o_ild 2 17)) := ⟨ok_iload_n dd_9_16, mn_ild _ _⟩
theorem vd_9_17 (E : ac_E) : ac_V E ac_MDf ac_HDf 9 17 (.inl (o_mul 18)) := ⟨ok_imul dd_9_17, mn_mul _⟩
theorem vd_9_18 (E : ac_E) : ac_V E ac_MDf ac_HDf 9 18 (.inl (o_put 2 2 21)) := ⟨ok_putF (ci := 2) (f := 2) (C := RX2) (T := TX2) (N := 4) (ref := RX2) rfl win_2 (by decide) rfl tyX2 tyX2_ok nmX2 (by decide +kernel) rfl rfl rfl wm_97 dd_9_18, mn_put _ _ _⟩
theorem vd_9_21 (E : ac_E) : ac_V E ac_MDf ac_HDf 9 21 (.inl (o_ald 0 22)) := ⟨ok_aload_n dd_9_21, mn_ald _ _⟩
theorem vd_9_22 (E : ac_E) : ac_V E ac_MDf ac_HDf 9 22 (.inl (o_ald 0 23)) := ⟨ok_aload_n dd_9_22, mn_ald _ _⟩
theorem vd_9_23 (E : ac_E) : ac_V E ac_MDf ac_HDf 9 23 (.inl (o_get 2 2 26)) := ⟨ok_getf (ci := 2) (f := 2) (C := RX2) (T := TX2) (N := 4) (ref := RX2) rfl win_2 (by decide) rfl wm_97 dd_9_23, mn_get _ _ _⟩
theorem vd_9_26 (E : ac_E) : ac_V E ac_MDf ac_HDf 9 26 (.inl (o_con (.int 6) 28)) := ⟨ok_bipush dd_9_26 (by decide), mn_con _ _⟩
theorem vd_9_28 (E : ac_E) : ac_V E ac_MDf ac_HDf 9 28 (.inl (o_mul 29)) := ⟨ok_imul dd_9_28, mn_mul _⟩
theorem vd_9_29 (E : ac_E) : ac_V E ac_MDf ac_HDf 9 29 (.inl (o_ni 31)) := ⟨ok_ni dd_9_29 wm_109, mn_ni _⟩
theorem vd_9_31 (E : ac_E) : ac_V E ac_MDf ac_HDf 9 31 (.inl (o_pur 2 3 34)) := ⟨ok_purF (ci := 2) (f := 3) (C := RX2) (T := TX2) (N := 4) (ref := RX2) rfl win_2 (by decide) rfl tyX2 tyX2_ok nmX2 (by decide +kernel : _ = some (.array .int)) (Or.inr ⟨_, rfl⟩) rfl rfl rfl wm_99 dd_9_31, mn_pur _ _ _⟩
theorem vd_9_34 (E : ac_E) : ac_V E ac_MDf ac_HDf 9 34 (.inl (o_con (.int 0) 35)) := ⟨ok_iconst dd_9_34 (by decide), mn_con _ _⟩
theorem vd_9_35 (E : ac_E) : ac_V E ac_MDf ac_HDf 9 35 (.inl (o_ist 3 36)) := ⟨ok_istore_n dd_9_35, mn_ist _ _⟩
theorem vd_9_36 (E : ac_E) : ac_V E ac_MDf ac_HDf 9 36 (.inl (o_ild 3 37)) := ⟨ok_iload_n dd_9_36, mn_ild _ _⟩
theorem vd_9_37 (E : ac_E) : ac_V E ac_MDf ac_HDf 9 37 (.inl (o_ild 2 38)) := ⟨ok_iload_n dd_9_37, mn_ild _ _⟩
theorem vd_9_38 (E : ac_E) : ac_V E ac_MDf ac_HDf 9 38 (.inl (o_ge 130 41)) := ⟨ok_icmpge dd_9_38 (by decide), mn_ge _ _⟩
theorem vd_9_41 (E : ac_E) : ac_V E ac_MDf ac_HDf 9 41 (.inl (o_con (.int 0) 42)) := ⟨ok_iconst dd_9_41 (by decide), mn_con _ _⟩
theorem vd_9_42 (E : ac_E) : ac_V E ac_MDf ac_HDf 9 42 (.inl (o_ist 4 44)) := ⟨ok_istore dd_9_42, mn_ist _ _⟩
theorem vd_9_44 (E : ac_E) : ac_V E ac_MDf ac_HDf 9 44 (.inl (o_ild 4 46)) := ⟨ok_iload dd_9_44, mn_ild _ _⟩
theorem vd_9_46 (E : ac_E) : ac_V E ac_MDf ac_HDf 9 46 (.inl (o_ild 1 47)) := ⟨ok_iload_n dd_9_46, mn_ild _ _⟩
theorem vd_9_47 (E : ac_E) : ac_V E ac_MDf ac_HDf 9 47 (.inl (o_ge 124 50)) := ⟨ok_icmpge dd_9_47 (by decide), mn_ge _ _⟩
theorem vd_9_50 (E : ac_E) : ac_V E ac_MDf ac_HDf 9 50 (.inl (o_con (.int 0) 51)) := ⟨ok_iconst dd_9_50 (by decide), mn_con _ _⟩
theorem vd_9_51 (E : ac_E) : ac_V E ac_MDf ac_HDf 9 51 (.inl (o_ist 5 53)) := ⟨ok_istore dd_9_51, mn_ist _ _⟩
theorem vd_9_53 (E : ac_E) : ac_V E ac_MDf ac_HDf 9 53 (.inl (o_ild 5 55)) := ⟨ok_iload dd_9_53, mn_ild _ _⟩
theorem vd_9_55 (E : ac_E) : ac_V E ac_MDf ac_HDf 9 55 (.inl (o_con (.int 6) 57)) := ⟨ok_bipush dd_9_55 (by decide), mn_con _ _⟩
theorem vd_9_57 (E : ac_E) : ac_V E ac_MDf ac_HDf 9 57 (.inl (o_ge 118 60)) := ⟨ok_icmpge dd_9_57 (by decide), mn_ge _ _⟩
theorem vd_9_60 (E : ac_E) : ac_V E ac_MDf ac_HDf 9 60 (.inl (o_ild 4 62)) := ⟨ok_iload dd_9_60, mn_ild _ _⟩
theorem vd_9_62 (E : ac_E) : ac_V E ac_MDf ac_HDf 9 62 (.inl (o_ild 3 63)) := ⟨ok_iload_n dd_9_62, mn_ild _ _⟩
theorem vd_9_63 (E : ac_E) : ac_V E ac_MDf ac_HDf 9 63 (.inl (o_ild 5 65)) := ⟨ok_iload dd_9_63, mn_ild _ _⟩
theorem vd_9_65 (E : ac_E) : ac_V E ac_MDf ac_HDf 9 65 (.inr (.inl (11,2,68,0))) := ac_Vc0 ((ok_callS rfl (by decide) (by decide +kernel) wm_86 wm_51 wm_84 wm_85 dd_9_65).1) (fun _ => rfl)
theorem vd_9_68 (E : ac_E) : ac_V E ac_MDf ac_HDf 9 68 (.inl (o_add 69)) := ⟨ok_iadd dd_9_68, mn_add _⟩
theorem vd_9_69 (E : ac_E) : ac_V E ac_MDf ac_HDf 9 69 (.inl (o_ild 1 70)) := ⟨ok_iload_n dd_9_69, mn_ild _ _⟩
theorem vd_9_70 (E : ac_E) : ac_V E ac_MDf ac_HDf 9 70 (.inr (.inl (1,2,73,0))) := ac_Vc0 ((ok_callS rfl (by decide) (by decide +kernel) wm_89 wm_52 wm_87 wm_88 dd_9_70).1) (fun _ => rfl)
theorem vd_9_73 (E : ac_E) : ac_V E ac_MDf ac_HDf 9 73 (.inl (o_ist 6 75)) := ⟨ok_istore dd_9_73, mn_ist _ _⟩
theorem vd_9_75 (E : ac_E) : ac_V E ac_MDf ac_HDf 9 75 (.inl (o_ild 3 76)) := ⟨ok_iload_n dd_9_75, mn_ild _ _⟩
theorem vd_9_76 (E : ac_E) : ac_V E ac_MDf ac_HDf 9 76 (.inl (o_ild 5 78)) := ⟨ok_iload dd_9_76, mn_ild _ _⟩
theorem vd_9_78 (E : ac_E) : ac_V E ac_MDf ac_HDf 9 78 (.inr (.inl (10,1,81,0))) := ac_Vc0 ((ok_callS rfl (by decide) (by decide +kernel) wm_92 wm_51 wm_90 wm_91 dd_9_78).1) (fun _ => rfl)
theorem vd_9_81 (E : ac_E) : ac_V E ac_MDf ac_HDf 9 81 (.inl (o_add 82)) := ⟨ok_iadd dd_9_81, mn_add _⟩
theorem vd_9_82 (E : ac_E) : ac_V E ac_MDf ac_HDf 9 82 (.inl (o_ild 2 83)) := ⟨ok_iload_n dd_9_82, mn_ild _ _⟩
theorem vd_9_83 (E : ac_E) : ac_V E ac_MDf ac_HDf 9 83 (.inr (.inl (1,2,86,0))) := ac_Vc0 ((ok_callS rfl (by decide) (by decide +kernel) wm_89 wm_52 wm_87 wm_88 dd_9_83).1) (fun _ => rfl)
theorem vd_9_86 (E : ac_E) : ac_V E ac_MDf ac_HDf 9 86 (.inl (o_ist 7 88)) := ⟨ok_istore dd_9_86, mn_ist _ _⟩
theorem vd_9_88 (E : ac_E) : ac_V E ac_MDf ac_HDf 9 88 (.inl (o_ald 0 89)) := ⟨ok_aload_n dd_9_88, mn_ald _ _⟩
theorem vd_9_89 (E : ac_E) : ac_V E ac_MDf ac_HDf 9 89 (.inl (o_get 2 3 92)) := ⟨ok_getf (ci := 2) (f := 3) (C := RX2) (T := TX2) (N := 4) (ref := RX2) rfl win_2 (by decide) rfl wm_99 dd_9_89, mn_get _ _ _⟩
theorem vd_9_92 (E : ac_E) : ac_V E ac_MDf ac_HDf 9 92 (.inl (o_ild 3 93)) := ⟨ok_iload_n dd_9_92, mn_ild _ _⟩
theorem vd_9_93 (E : ac_E) : ac_V E ac_MDf ac_HDf 9 93 (.inl (o_ild 1 94)) := ⟨ok_iload_n dd_9_93, mn_ild _ _⟩
theorem vd_9_94 (E : ac_E) : ac_V E ac_MDf ac_HDf 9 94 (.inl (o_mul 95)) := ⟨ok_imul dd_9_94, mn_mul _⟩
theorem vd_9_95 (E : ac_E) : ac_V E ac_MDf ac_HDf 9 95 (.inl (o_ild 4 97)) := ⟨ok_iload dd_9_95, mn_ild _ _⟩
theorem vd_9_97 (E : ac_E) : ac_V E ac_MDf ac_HDf 9 97 (.inl (o_add 98)) := ⟨ok_iadd dd_9_97, mn_add _⟩
theorem vd_9_98 (E : ac_E) : ac_V E ac_MDf ac_HDf 9 98 (.inl (o_con (.int 6) 100)) := ⟨ok_bipush dd_9_98 (by decide), mn_con _ _⟩
theorem vd_9_100 (E : ac_E) : ac_V E ac_MDf ac_HDf 9 100 (.inl (o_mul 101)) := ⟨ok_imul dd_9_100, mn_mul _⟩
theorem vd_9_101 (E : ac_E) : ac_V E ac_MDf ac_HDf 9 101 (.inl (o_ild 5 103)) := ⟨ok_iload dd_9_101, mn_ild _ _⟩
theorem vd_9_103 (E : ac_E) : ac_V E ac_MDf ac_HDf 9 103 (.inl (o_add 104)) := ⟨ok_iadd dd_9_103, mn_add _⟩
theorem vd_9_104 (E : ac_E) : ac_V E ac_MDf ac_HDf 9 104 (.inl (o_ild 7 106)) := ⟨ok_iload dd_9_104, mn_ild _ _⟩
theorem vd_9_106 (E : ac_E) : ac_V E ac_MDf ac_HDf 9 106 (.inl (o_ild 1 107)) := ⟨ok_iload_n dd_9_106, mn_ild _ _⟩
theorem vd_9_107 (E : ac_E) : ac_V E ac_MDf ac_HDf 9 107 (.inl (o_mul 108)) := ⟨ok_imul dd_9_107, mn_mul _⟩
theorem vd_9_108 (E : ac_E) : ac_V E ac_MDf ac_HDf 9 108 (.inl (o_ild 6 110)) := ⟨ok_iload dd_9_108, mn_ild _ _⟩
theorem vd_9_110 (E : ac_E) : ac_V E ac_MDf ac_HDf 9 110 (.inl (o_add 111)) := ⟨ok_iadd dd_9_110, mn_add _⟩
theorem vd_9_111 (E : ac_E) : ac_V E ac_MDf ac_HDf 9 111 (.inl (o_is 112)) := ⟨ok_iastore dd_9_111, mn_is _⟩
theorem vd_9_112 (E : ac_E) : ac_V E ac_MDf ac_HDf 9 112 (.inl (o_inc 5 1 115)) := ⟨ok_iinc dd_9_112 (by decide), mn_inc _ _ _⟩
theorem vd_9_115 (E : ac_E) : ac_V E ac_MDf ac_HDf 9 115 (.inl (o_go 53)) := ⟨ok_goto dd_9_115 (by decide), mn_go _⟩
theorem vd_9_118 (E : ac_E) : ac_V E ac_MDf ac_HDf 9 118 (.inl (o_inc 4 1 121)) := ⟨ok_iinc dd_9_118 (by decide), mn_inc _ _ _⟩
theorem vd_9_121 (E : ac_E) : ac_V E ac_MDf ac_HDf 9 121 (.inl (o_go 44)) := ⟨ok_goto dd_9_121 (by decide), mn_go _⟩
theorem vd_9_124 (E : ac_E) : ac_V E ac_MDf ac_HDf 9 124 (.inl (o_inc 3 1 127)) := ⟨ok_iinc dd_9_124 (by decide), mn_inc _ _ _⟩
theorem vd_9_127 (E : ac_E) : ac_V E ac_MDf ac_HDf 9 127 (.inl (o_go 36)) := ⟨ok_goto dd_9_127 (by decide), mn_go _⟩
theorem vd_9_130 (E : ac_E) : ac_V E ac_MDf ac_HDf 9 130 (.inr (.inr (.inl 0))) := ⟨fun _ => ⟨dd_9_130, rfl⟩, fun q => nomatch q, fun q => nomatch q⟩
theorem va_9 (E : ac_E) (pc : Nat) : ac_V E ac_MDf ac_HDf 9 pc (tb_9 (ac_len E) (ac_xs E) pc) := (ac_node (ac_node (ac_node (ac_node (ac_node (ac_node (ac_leaf 0 (vd_9_0 E)) (ac_leaf 1 (vd_9_1 E))) (ac_node (ac_leaf 4 (vd_9_4 E)) (ac_leaf 5 (vd_9_5 E)))) (ac_node (ac_node (ac_leaf 6 (vd_9_6 E)) (ac_leaf 9 (vd_9_9 E))) (ac_node (ac_leaf 10 (vd_9_10 E)) (ac_node (ac_leaf 11 (vd_9_11 E)) (ac_leaf 14 (vd_9_14 E)))))) (ac_node (ac_node (ac_node (ac_leaf 15 (vd_9_15 E)) (ac_leaf 16 (vd_9_16 E))) (ac_node (ac_leaf 17 (vd_9_17 E)) (ac_leaf 18 (vd_9_18 E)))) (ac_node (ac_node (ac_leaf 21 (vd_9_21 E)) (ac_leaf 22 (vd_9_22 E))) (ac_node (ac_leaf 23 (vd_9_23 E)) (ac_node (ac_leaf 26 (vd_9_26 E)) (ac_leaf 28 (vd_9_28 E))))))) (ac_node (ac_node (ac_node (ac_node (ac_leaf 29 (vd_9_29 E)) (ac_leaf 31 (vd_9_31 E))) (ac_node (ac_leaf 34 (vd_9_34 E)) (ac_leaf 35 (vd_9_35 E)))) (ac_node (ac_node (ac_leaf 36 (vd_9_36 E)) (ac_leaf 37 (vd_9_37 E))) (ac_node (ac_leaf 38 (vd_9_38 E)) (ac_node (ac_leaf 41 (vd_9_41 E)) (ac_leaf 42 (vd_9_42 E)))))) (ac_node (ac_node (ac_node (ac_leaf 44 (vd_9_44 E)) (ac_leaf 46 (vd_9_46 E))) (ac_node (ac_leaf 47 (vd_9_47 E)) (ac_node (ac_leaf 50 (vd_9_50 E)) (ac_leaf 51 (vd_9_51 E))))) (ac_node (ac_node (ac_leaf 53 (vd_9_53 E)) (ac_leaf 55 (vd_9_55 E))) (ac_node (ac_leaf 57 (vd_9_57 E)) (ac_node (ac_leaf 60 (vd_9_60 E)) (ac_leaf 62 (vd_9_62 E)))))))) (ac_node (ac_node (ac_node (ac_node (ac_node (ac_leaf 63 (vd_9_63 E)) (ac_leaf 65 (vd_9_65 E))) (ac_node (ac_leaf 68 (vd_9_68 E)) (ac_leaf 69 (vd_9_69 E)))) (ac_node (ac_node (ac_leaf 70 (vd_9_70 E)) (ac_leaf 73 (vd_9_73 E))) (ac_node (ac_leaf 75 (vd_9_75 E)) (ac_node (ac_leaf 76 (vd_9_76 E)) (ac_leaf 78 (vd_9_78 E)))))) (ac_node (ac_node (ac_node (ac_leaf 81 (vd_9_81 E)) (ac_leaf 82 (vd_9_82 E))) (ac_node (ac_leaf 83 (vd_9_83 E)) (ac_leaf 86 (vd_9_86 E)))) (ac_node (ac_node (ac_leaf 88 (vd_9_88 E)) (ac_leaf 89 (vd_9_89 E))) (ac_node (ac_leaf 92 (vd_9_92 E)) (ac_node (ac_leaf 93 (vd_9_93 E)) (ac_leaf 94 (vd_9_94 E))))))) (ac_node (ac_node (ac_node (ac_node (ac_leaf 95 (vd_9_95 E)) (ac_leaf 97 (vd_9_97 E))) (ac_node (ac_leaf 98 (vd_9_98 E)) (ac_leaf 100 (vd_9_100 E)))) (ac_node (ac_node (ac_leaf 101 (vd_9_101 E)) (ac_leaf 103 (vd_9_103 E))) (ac_node (ac_leaf 104 (vd_9_104 E)) (ac_node (ac_leaf 106 (vd_9_106 E)) (ac_leaf 107 (vd_9_107 E)))))) (ac_node (ac_node (ac_node (ac_leaf 108 (vd_9_108 E)) (ac_leaf 110 (vd_9_110 E))) (ac_node (ac_leaf 111 (vd_9_111 E)) (ac_node (ac_leaf 112 (vd_9_112 E)) (ac_leaf 115 (vd_9_115 E))))) (ac_node (ac_node (ac_leaf 118 (vd_9_118 E)) (ac_leaf 121 (vd_9_121 E))) (ac_node (ac_leaf 124 (vd_9_124 E)) (ac_node (ac_leaf 127 (vd_9_127 E)) (ac_leaf 130 (vd_9_130 E)))))))))
theorem vd_10_0 (E : ac_E) : ac_V E ac_MDf ac_HDf 10 0 (.inl (o_ild 0 1)) := ⟨ok_iload_n dd_10_0, mn_ild _ _⟩
theorem vd_10_1 (E : ac_E) : ac_V E ac_MDf ac_HDf 10 1 (.inl (o_eq0 9 4)) := ⟨ok_ifeq dd_10_1 (by decide), mn_eq0 _ _⟩
theorem vd_10_4 (E : ac_E) : ac_V E ac_MDf ac_HDf 10 4 (.inl (o_ild 0 5)) := ⟨ok_iload_n dd_10_4, mn_ild _ _⟩
theorem vd_10_5 (E : ac_E) : ac_V E ac_MDf ac_HDf 10 5 (.inl (o_con (.int 3) 6)) := ⟨ok_iconst dd_10_5 (by decide), mn_con _ _⟩
theorem vd_10_6 (E : ac_E) : ac_V E ac_MDf ac_HDf 10 6 (.inl (o_ne 11 9)) := ⟨ok_icmpne dd_10_6 (by decide), mn_ne _ _⟩
theorem vd_10_9 (E : ac_E) : ac_V E ac_MDf ac_HDf 10 9 (.inl (o_con (.int 0) 10)) := ⟨ok_iconst dd_10_9 (by decide), mn_con _ _⟩
theorem vd_10_10 (E : ac_E) : ac_V E ac_MDf ac_HDf 10 10 (.inr (.inr (.inl 1))) := ⟨fun q => nomatch q, fun _ => ⟨dd_10_10, rfl⟩, fun q => nomatch q⟩
theorem vd_10_11 (E : ac_E) : ac_V E ac_MDf ac_HDf 10 11 (.inl (o_ild 0 12)) := ⟨ok_iload_n dd_10_11, mn_ild _ _⟩
theorem vd_10_12 (E : ac_E) : ac_V E ac_MDf ac_HDf 10 12 (.inl (o_con (.int 3) 13)) := ⟨ok_iconst dd_10_12 (by decide), mn_con _ _⟩
theorem vd_10_13 (E : ac_E) : ac_V E ac_MDf ac_HDf 10 13 (.inl (o_ge 20 16)) := ⟨ok_icmpge dd_10_13 (by decide), mn_ge _ _⟩
theorem vd_10_16 (E : ac_E) : ac_V E ac_MDf ac_HDf 10 16 (.inl (o_con (.int (-1)) 17)) := ⟨ok_iconst dd_10_16 (by decide), mn_con _ _⟩
theorem vd_10_17 (E : ac_E) : ac_V E ac_MDf ac_HDf 10 17 (.inl (o_go 21)) := ⟨ok_goto dd_10_17 (by decide), mn_go _⟩
theorem vd_10_20 (E : ac_E) : ac_V E ac_MDf ac_HDf 10 20 (.inl (o_con (.int 1) 21)) := ⟨ok_iconst dd_10_20 (by decide), mn_con _ _⟩
theorem vd_10_21 (E : ac_E) : ac_V E ac_MDf ac_HDf 10 21 (.inr (.inr (.inl 1))) := ⟨fun q => nomatch q, fun _ => ⟨dd_10_21, rfl⟩, fun q => nomatch q⟩
theorem va_10 (E : ac_E) (pc : Nat) : ac_V E ac_MDf ac_HDf 10 pc (tb_10 (ac_len E) (ac_xs E) pc) := (ac_node (ac_node (ac_node (ac_leaf 0 (vd_10_0 E)) (ac_node (ac_leaf 1 (vd_10_1 E)) (ac_leaf 4 (vd_10_4 E)))) (ac_node (ac_node (ac_leaf 5 (vd_10_5 E)) (ac_leaf 6 (vd_10_6 E))) (ac_node (ac_leaf 9 (vd_10_9 E)) (ac_leaf 10 (vd_10_10 E))))) (ac_node (ac_node (ac_leaf 11 (vd_10_11 E)) (ac_node (ac_leaf 12 (vd_10_12 E)) (ac_leaf 13 (vd_10_13 E)))) (ac_node (ac_node (ac_leaf 16 (vd_10_16 E)) (ac_leaf 17 (vd_10_17 E))) (ac_node (ac_leaf 20 (vd_10_20 E)) (ac_leaf 21 (vd_10_21 E))))))
theorem vd_11_0 (E : ac_E) : ac_V E ac_MDf ac_HDf 11 0 (.inl (o_ild 1 1)) := ⟨ok_iload_n dd_11_0, mn_ild _ _⟩
theorem vd_11_1 (E : ac_E) : ac_V E ac_MDf ac_HDf 11 1 (.inl (o_ne0 6 4)) := ⟨ok_ifne dd_11_1 (by decide), mn_ne0 _ _⟩
theorem vd_11_4 (E : ac_E) : ac_V E ac_MDf ac_HDf 11 4 (.inl (o_con (.int 1) 5)) := ⟨ok_iconst dd_11_4 (by decide), mn_con _ _⟩
theorem vd_11_5 (E : ac_E) : ac_V E ac_MDf ac_HDf 11 5 (.inr (.inr (.inl 1))) := ⟨fun q => nomatch q, fun _ => ⟨dd_11_5, rfl⟩, fun q => nomatch q⟩
theorem vd_11_6 (E : ac_E) : ac_V E ac_MDf ac_HDf 11 6 (.inl (o_ild 1 7)) := ⟨ok_iload_n dd_11_6, mn_ild _ _⟩
theorem vd_11_7 (E : ac_E) : ac_V E ac_MDf ac_HDf 11 7 (.inl (o_con (.int 3) 8)) := ⟨ok_iconst dd_11_7 (by decide), mn_con _ _⟩
theorem vd_11_8 (E : ac_E) : ac_V E ac_MDf ac_HDf 11 8 (.inl (o_ne 13 11)) := ⟨ok_icmpne dd_11_8 (by decide), mn_ne _ _⟩
theorem vd_11_11 (E : ac_E) : ac_V E ac_MDf ac_HDf 11 11 (.inl (o_con (.int (-1)) 12)) := ⟨ok_iconst dd_11_11 (by decide), mn_con _ _⟩
theorem vd_11_12 (E : ac_E) : ac_V E ac_MDf ac_HDf 11 12 (.inr (.inr (.inl 1))) := ⟨fun q => nomatch q, fun _ => ⟨dd_11_12, rfl⟩, fun q => nomatch q⟩
theorem vd_11_13 (E : ac_E) : ac_V E ac_MDf ac_HDf 11 13 (.inl (o_ild 1 14)) := ⟨ok_iload_n dd_11_13, mn_ild _ _⟩
theorem vd_11_14 (E : ac_E) : ac_V E ac_MDf ac_HDf 11 14 (.inl (o_con (.int 1) 15)) := ⟨ok_iconst dd_11_14 (by decide), mn_con _ _⟩
theorem vd_11_15 (E : ac_E) : ac_V E ac_MDf ac_HDf 11 15 (.inl (o_eq 23 18)) := ⟨ok_icmpeq dd_11_15 (by decide), mn_eq _ _⟩
theorem vd_11_18 (E : ac_E) : ac_V E ac_MDf ac_HDf 11 18 (.inl (o_ild 1 19)) := ⟨ok_iload_n dd_11_18, mn_ild _ _⟩
theorem vd_11_19 (E : ac_E) : ac_V E ac_MDf ac_HDf 11 19 (.inl (o_con (.int 5) 20)) := ⟨ok_iconst dd_11_19 (by decide), mn_con _ _⟩
theorem vd_11_20 (E : ac_E) : ac_V E ac_MDf ac_HDf 11 20 (.inl (o_ne 27 23)) := ⟨ok_icmpne dd_11_20 (by decide), mn_ne _ _⟩
theorem vd_11_23 (E : ac_E) : ac_V E ac_MDf ac_HDf 11 23 (.inl (o_con (.int 1) 24)) := ⟨ok_iconst dd_11_23 (by decide), mn_con _ _⟩
theorem vd_11_24 (E : ac_E) : ac_V E ac_MDf ac_HDf 11 24 (.inl (o_go 28)) := ⟨ok_goto dd_11_24 (by decide), mn_go _⟩
theorem vd_11_27 (E : ac_E) : ac_V E ac_MDf ac_HDf 11 27 (.inl (o_con (.int 0) 28)) := ⟨ok_iconst dd_11_27 (by decide), mn_con _ _⟩
theorem vd_11_28 (E : ac_E) : ac_V E ac_MDf ac_HDf 11 28 (.inl (o_ist 2 29)) := ⟨ok_istore_n dd_11_28, mn_ist _ _⟩
theorem vd_11_29 (E : ac_E) : ac_V E ac_MDf ac_HDf 11 29 (.inl (o_ild 2 30)) := ⟨ok_iload_n dd_11_29, mn_ild _ _⟩
theorem vd_11_30 (E : ac_E) : ac_V E ac_MDf ac_HDf 11 30 (.inl (o_eq0 37 33)) := ⟨ok_ifeq dd_11_30 (by decide), mn_eq0 _ _⟩
theorem vd_11_33 (E : ac_E) : ac_V E ac_MDf ac_HDf 11 33 (.inl (o_con (.int 0) 34)) := ⟨ok_iconst dd_11_33 (by decide), mn_con _ _⟩
theorem vd_11_34 (E : ac_E) : ac_V E ac_MDf ac_HDf 11 34 (.inl (o_go 38)) := ⟨ok_goto dd_11_34 (by decide), mn_go _⟩
theorem vd_11_37 (E : ac_E) : ac_V E ac_MDf ac_HDf 11 37 (.inl (o_con (.int (-1)) 38)) := ⟨ok_iconst dd_11_37 (by decide), mn_con _ _⟩
theorem vd_11_38 (E : ac_E) : ac_V E ac_MDf ac_HDf 11 38 (.inl (o_ild 0 39)) := ⟨ok_iload_n dd_11_38, mn_ild _ _⟩
theorem vd_11_39 (E : ac_E) : ac_V E ac_MDf ac_HDf 11 39 (.inl (o_con (.int 2) 40)) := ⟨ok_iconst dd_11_39 (by decide), mn_con _ _⟩
theorem vd_11_40 (E : ac_E) : ac_V E ac_MDf ac_HDf 11 40 (.inl (o_rem 41)) := ⟨ok_irem dd_11_40, mn_rem _⟩
theorem vd_11_41 (E : ac_E) : ac_V E ac_MDf ac_HDf 11 41 (.inl (o_add 42)) := ⟨ok_iadd dd_11_41, mn_add _⟩
theorem vd_11_42 (E : ac_E) : ac_V E ac_MDf ac_HDf 11 42 (.inr (.inr (.inl 1))) := ⟨fun q => nomatch q, fun _ => ⟨dd_11_42, rfl⟩, fun q => nomatch q⟩
theorem va_11 (E : ac_E) (pc : Nat) : ac_V E ac_MDf ac_HDf 11 pc (tb_11 (ac_len E) (ac_xs E) pc) := (ac_node (ac_node (ac_node (ac_node (ac_leaf 0 (vd_11_0 E)) (ac_node (ac_leaf 1 (vd_11_1 E)) (ac_leaf 4 (vd_11_4 E)))) (ac_node (ac_node (ac_leaf 5 (vd_11_5 E)) (ac_leaf 6 (vd_11_6 E))) (ac_node (ac_leaf 7 (vd_11_7 E)) (ac_leaf 8 (vd_11_8 E))))) (ac_node (ac_node (ac_leaf 11 (vd_11_11 E)) (ac_node (ac_leaf 12 (vd_11_12 E)) (ac_leaf 13 (vd_11_13 E)))) (ac_node (ac_node (ac_leaf 14 (vd_11_14 E)) (ac_leaf 15 (vd_11_15 E))) (ac_node (ac_leaf 18 (vd_11_18 E)) (ac_leaf 19 (vd_11_19 E)))))) (ac_node (ac_node (ac_node (ac_leaf 20 (vd_11_20 E)) (ac_node (ac_leaf 23 (vd_11_23 E)) (ac_leaf 24 (vd_11_24 E)))) (ac_node (ac_node (ac_leaf 27 (vd_11_27 E)) (ac_leaf 28 (vd_11_28 E))) (ac_node (ac_leaf 29 (vd_11_29 E)) (ac_leaf 30 (vd_11_30 E))))) (ac_node (ac_node (ac_node (ac_leaf 33 (vd_11_33 E)) (ac_leaf 34 (vd_11_34 E))) (ac_node (ac_leaf 37 (vd_11_37 E)) (ac_leaf 38 (vd_11_38 E)))) (ac_node (ac_node (ac_leaf 39 (vd_11_39 E)) (ac_leaf 40 (vd_11_40 E))) (ac_node (ac_leaf 41 (vd_11_41 E)) (ac_leaf 42 (vd_11_42 E)))))))
theorem vd_12_0 (E : ac_E) : ac_V E ac_MDf ac_HDf 12 0 (.inl (o_ild 1 1)) := ⟨ok_iload_n dd_12_0, mn_ild _ _⟩
theorem vd_12_1 (E : ac_E) : ac_V E ac_MDf ac_HDf 12 1 (.inl (o_ald 0 2)) := ⟨ok_aload_n dd_12_1, mn_ald _ _⟩
theorem vd_12_2 (E : ac_E) : ac_V E ac_MDf ac_HDf 12 2 (.inl (o_get 2 0 5)) := ⟨ok_getf (ci := 2) (f := 0) (C := RX2) (T := TX2) (N := 4) (ref := RX2) rfl win_2 (by decide) rfl wm_93 dd_12_2, mn_get _ _ _⟩
theorem vd_12_5 (E : ac_E) : ac_V E ac_MDf ac_HDf 12 5 (.inl (o_rem 6)) := ⟨ok_irem dd_12_5, mn_rem _⟩
theorem vd_12_6 (E : ac_E) : ac_V E ac_MDf ac_HDf 12 6 (.inr (.inr (.inl 1))) := ⟨fun q => nomatch q, fun _ => ⟨dd_12_6, rfl⟩, fun q => nomatch q⟩
theorem va_12 (E : ac_E) (pc : Nat) : ac_V E ac_MDf ac_HDf 12 pc (tb_12 (ac_len E) (ac_xs E) pc) := (ac_node (ac_node (ac_leaf 0 (vd_12_0 E)) (ac_leaf 1 (vd_12_1 E))) (ac_node (ac_leaf 2 (vd_12_2 E)) (ac_node (ac_leaf 5 (vd_12_5 E)) (ac_leaf 6 (vd_12_6 E)))))
theorem vd_13_0 (E : ac_E) : ac_V E ac_MDf ac_HDf 13 0 (.inl (o_ild 1 1)) := ⟨ok_iload_n dd_13_0, mn_ild _ _⟩
theorem vd_13_1 (E : ac_E) : ac_V E ac_MDf ac_HDf 13 1 (.inl (o_ald 0 2)) := ⟨ok_aload_n dd_13_1, mn_ald _ _⟩
theorem vd_13_2 (E : ac_E) : ac_V E ac_MDf ac_HDf 13 2 (.inl (o_get 2 0 5)) := ⟨ok_getf (ci := 2) (f := 0) (C := RX2) (T := TX2) (N := 4) (ref := RX2) rfl win_2 (by decide) rfl wm_93 dd_13_2, mn_get _ _ _⟩
theorem vd_13_5 (E : ac_E) : ac_V E ac_MDf ac_HDf 13 5 (.inl (o_div 6)) := ⟨ok_idiv dd_13_5, mn_div _⟩
theorem vd_13_6 (E : ac_E) : ac_V E ac_MDf ac_HDf 13 6 (.inr (.inr (.inl 1))) := ⟨fun q => nomatch q, fun _ => ⟨dd_13_6, rfl⟩, fun q => nomatch q⟩
theorem va_13 (E : ac_E) (pc : Nat) : ac_V E ac_MDf ac_HDf 13 pc (tb_13 (ac_len E) (ac_xs E) pc) := (ac_node (ac_node (ac_leaf 0 (vd_13_0 E)) (ac_leaf 1 (vd_13_1 E))) (ac_node (ac_leaf 2 (vd_13_2 E)) (ac_node (ac_leaf 5 (vd_13_5 E)) (ac_leaf 6 (vd_13_6 E)))))
theorem vd_14_0 (E : ac_E) : ac_V E ac_MDf ac_HDf 14 0 (.inl (o_ald 0 1)) := ⟨ok_aload_n dd_14_0, mn_ald _ _⟩
theorem vd_14_1 (E : ac_E) : ac_V E ac_MDf ac_HDf 14 1 (.inl (o_get 2 3 4)) := ⟨ok_getf (ci := 2) (f := 3) (C := RX2) (T := TX2) (N := 4) (ref := RX2) rfl win_2 (by decide) rfl wm_99 dd_14_1, mn_get _ _ _⟩
theorem vd_14_4 (E : ac_E) : ac_V E ac_MDf ac_HDf 14 4 (.inl (o_ild 1 5)) := ⟨ok_iload_n dd_14_4, mn_ild _ _⟩
theorem vd_14_5 (E : ac_E) : ac_V E ac_MDf ac_HDf 14 5 (.inl (o_con (.int 6) 7)) := ⟨ok_bipush dd_14_5 (by decide), mn_con _ _⟩
theorem vd_14_7 (E : ac_E) : ac_V E ac_MDf ac_HDf 14 7 (.inl (o_mul 8)) := ⟨ok_imul dd_14_7, mn_mul _⟩
theorem vd_14_8 (E : ac_E) : ac_V E ac_MDf ac_HDf 14 8 (.inl (o_ild 2 9)) := ⟨ok_iload_n dd_14_8, mn_ild _ _⟩
theorem vd_14_9 (E : ac_E) : ac_V E ac_MDf ac_HDf 14 9 (.inl (o_con (.int 6) 11)) := ⟨ok_bipush dd_14_9 (by decide), mn_con _ _⟩
theorem vd_14_11 (E : ac_E) : ac_V E ac_MDf ac_HDf 14 11 (.inl (o_rem 12)) := ⟨ok_irem dd_14_11, mn_rem _⟩
theorem vd_14_12 (E : ac_E) : ac_V E ac_MDf ac_HDf 14 12 (.inl (o_add 13)) := ⟨ok_iadd dd_14_12, mn_add _⟩
theorem vd_14_13 (E : ac_E) : ac_V E ac_MDf ac_HDf 14 13 (.inl (o_ia 14)) := ⟨ok_iaload dd_14_13, mn_ia _⟩
theorem vd_14_14 (E : ac_E) : ac_V E ac_MDf ac_HDf 14 14 (.inr (.inr (.inl 1))) := ⟨fun q => nomatch q, fun _ => ⟨dd_14_14, rfl⟩, fun q => nomatch q⟩
theorem va_14 (E : ac_E) (pc : Nat) : ac_V E ac_MDf ac_HDf 14 pc (tb_14 (ac_len E) (ac_xs E) pc) := (ac_node (ac_node (ac_node (ac_leaf 0 (vd_14_0 E)) (ac_leaf 1 (vd_14_1 E))) (ac_node (ac_leaf 4 (vd_14_4 E)) (ac_node (ac_leaf 5 (vd_14_5 E)) (ac_leaf 7 (vd_14_7 E))))) (ac_node (ac_node (ac_leaf 8 (vd_14_8 E)) (ac_node (ac_leaf 9 (vd_14_9 E)) (ac_leaf 11 (vd_14_11 E)))) (ac_node (ac_leaf 12 (vd_14_12 E)) (ac_node (ac_leaf 13 (vd_14_13 E)) (ac_leaf 14 (vd_14_14 E))))))
theorem vd_15_0 (E : ac_E) : ac_V E ac_MDf ac_HDf 15 0 (.inl (o_ald 0 1)) := ⟨ok_aload_n dd_15_0, mn_ald _ _⟩
theorem vd_15_1 (E : ac_E) : ac_V E ac_MDf ac_HDf 15 1 (.inl (o_obj1 4)) := ⟨ok_obj wm_149 wm_73 wm_74 (by decide) (by decide) dd_15_1, mn_obj1 _⟩
theorem vd_15_4 (E : ac_E) : ac_V E ac_MDf ac_HDf 15 4 (.inl (o_ald 0 5)) := ⟨ok_aload_n dd_15_4, mn_ald _ _⟩
theorem vd_15_5 (E : ac_E) : ac_V E ac_MDf ac_HDf 15 5 (.inl (o_con (.int 4) 6)) := ⟨ok_iconst dd_15_5 (by decide), mn_con _ _⟩
theorem vd_15_6 (E : ac_E) : ac_V E ac_MDf ac_HDf 15 6 (.inl (o_ni 8)) := ⟨ok_ni dd_15_6 wm_109, mn_ni _⟩
theorem vd_15_8 (E : ac_E) : ac_V E ac_MDf ac_HDf 15 8 (.inl (o_pur 3 0 11)) := ⟨ok_purF (ci := 3) (f := 0) (C := RX3) (T := TX3) (N := 3) (ref := RX3) rfl win_3 (by decide) rfl tyX3 tyX3_ok nmX3 (by decide +kernel : _ = some (.array .int)) (Or.inr ⟨_, rfl⟩) rfl rfl rfl wm_150 dd_15_8, mn_pur _ _ _⟩
theorem vd_15_11 (E : ac_E) : ac_V E ac_MDf ac_HDf 15 11 (.inl (o_ald 0 12)) := ⟨ok_aload_n dd_15_11, mn_ald _ _⟩
theorem vd_15_12 (E : ac_E) : ac_V E ac_MDf ac_HDf 15 12 (.inl (o_con (.int 4) 13)) := ⟨ok_iconst dd_15_12 (by decide), mn_con _ _⟩
theorem vd_15_13 (E : ac_E) : ac_V E ac_MDf ac_HDf 15 13 (.inl (o_ni 15)) := ⟨ok_ni dd_15_13 wm_109, mn_ni _⟩
theorem vd_15_15 (E : ac_E) : ac_V E ac_MDf ac_HDf 15 15 (.inl (o_pur 3 1 18)) := ⟨ok_purF (ci := 3) (f := 1) (C := RX3) (T := TX3) (N := 3) (ref := RX3) rfl win_3 (by decide) rfl tyX3 tyX3_ok nmX3 (by decide +kernel : _ = some (.array .int)) (Or.inr ⟨_, rfl⟩) rfl rfl rfl wm_152 dd_15_15, mn_pur _ _ _⟩
theorem vd_15_18 (E : ac_E) : ac_V E ac_MDf ac_HDf 15 18 (.inl (o_ald 0 19)) := ⟨ok_aload_n dd_15_18, mn_ald _ _⟩
theorem vd_15_19 (E : ac_E) : ac_V E ac_MDf ac_HDf 15 19 (.inl (o_con (.int 0) 20)) := ⟨ok_iconst dd_15_19 (by decide), mn_con _ _⟩
theorem vd_15_20 (E : ac_E) : ac_V E ac_MDf ac_HDf 15 20 (.inl (o_put 3 2 23)) := ⟨ok_putf (ci := 3) (f := 2) (C := RX3) (T := TX3) (N := 3) (ref := RX3) rfl win_3 (by decide) rfl tyX3 tyX3_ok nmX3 (by decide +kernel) rfl wm_154 dd_15_20, mn_put _ _ _⟩
theorem vd_15_23 (E : ac_E) : ac_V E ac_MDf ac_HDf 15 23 (.inr (.inr (.inl 0))) := ⟨fun _ => ⟨dd_15_23, rfl⟩, fun q => nomatch q, fun q => nomatch q⟩
theorem va_15 (E : ac_E) (pc : Nat) : ac_V E ac_MDf ac_HDf 15 pc (tb_15 (ac_len E) (ac_xs E) pc) := (ac_node (ac_node (ac_node (ac_leaf 0 (vd_15_0 E)) (ac_node (ac_leaf 1 (vd_15_1 E)) (ac_leaf 4 (vd_15_4 E)))) (ac_node (ac_node (ac_leaf 5 (vd_15_5 E)) (ac_leaf 6 (vd_15_6 E))) (ac_node (ac_leaf 8 (vd_15_8 E)) (ac_leaf 11 (vd_15_11 E))))) (ac_node (ac_node (ac_leaf 12 (vd_15_12 E)) (ac_node (ac_leaf 13 (vd_15_13 E)) (ac_leaf 15 (vd_15_15 E)))) (ac_node (ac_node (ac_leaf 18 (vd_15_18 E)) (ac_leaf 19 (vd_15_19 E))) (ac_node (ac_leaf 20 (vd_15_20 E)) (ac_leaf 23 (vd_15_23 E))))))
theorem vd_16_0 (E : ac_E) : ac_V E ac_MDf ac_HDf 16 0 (.inl (o_con (.int 0) 1)) := ⟨ok_iconst dd_16_0 (by decide), mn_con _ _⟩
theorem vd_16_1 (E : ac_E) : ac_V E ac_MDf ac_HDf 16 1 (.inl (o_ist 3 2)) := ⟨ok_istore_n dd_16_1, mn_ist _ _⟩
theorem vd_16_2 (E : ac_E) : ac_V E ac_MDf ac_HDf 16 2 (.inl (o_ild 3 3)) := ⟨ok_iload_n dd_16_2, mn_ild _ _⟩
theorem vd_16_3 (E : ac_E) : ac_V E ac_MDf ac_HDf 16 3 (.inl (o_ald 0 4)) := ⟨ok_aload_n dd_16_3, mn_ald _ _⟩
theorem vd_16_4 (E : ac_E) : ac_V E ac_MDf ac_HDf 16 4 (.inl (o_get 3 2 7)) := ⟨ok_getf (ci := 3) (f := 2) (C := RX3) (T := TX3) (N := 3) (ref := RX3) rfl win_3 (by decide) rfl wm_154 dd_16_4, mn_get _ _ _⟩
theorem vd_16_7 (E : ac_E) : ac_V E ac_MDf ac_HDf 16 7 (.inl (o_ge 38 10)) := ⟨ok_icmpge dd_16_7 (by decide), mn_ge _ _⟩
theorem vd_16_10 (E : ac_E) : ac_V E ac_MDf ac_HDf 16 10 (.inl (o_ald 0 11)) := ⟨ok_aload_n dd_16_10, mn_ald _ _⟩
theorem vd_16_11 (E : ac_E) : ac_V E ac_MDf ac_HDf 16 11 (.inl (o_get 3 0 14)) := ⟨ok_getf (ci := 3) (f := 0) (C := RX3) (T := TX3) (N := 3) (ref := RX3) rfl win_3 (by decide) rfl wm_150 dd_16_11, mn_get _ _ _⟩
theorem vd_16_14 (E : ac_E) : ac_V E ac_MDf ac_HDf 16 14 (.inl (o_ild 3 15)) := ⟨ok_iload_n dd_16_14, mn_ild _ _⟩
theorem vd_16_15 (E : ac_E) : ac_V E ac_MDf ac_HDf 16 15 (.inl (o_ia 16)) := ⟨ok_iaload dd_16_15, mn_ia _⟩
theorem vd_16_16 (E : ac_E) : ac_V E ac_MDf ac_HDf 16 16 (.inl (o_ild 1 17)) := ⟨ok_iload_n dd_16_16, mn_ild _ _⟩
theorem vd_16_17 (E : ac_E) : ac_V E ac_MDf ac_HDf 16 17 (.inl (o_ne 32 20)) := ⟨ok_icmpne dd_16_17 (by decide), mn_ne _ _⟩
theorem vd_16_20 (E : ac_E) : ac_V E ac_MDf ac_HDf 16 20 (.inl (o_ald 0 21)) := ⟨ok_aload_n dd_16_20, mn_ald _ _⟩
theorem vd_16_21 (E : ac_E) : ac_V E ac_MDf ac_HDf 16 21 (.inl (o_get 3 1 24)) := ⟨ok_getf (ci := 3) (f := 1) (C := RX3) (T := TX3) (N := 3) (ref := RX3) rfl win_3 (by decide) rfl wm_152 dd_16_21, mn_get _ _ _⟩
theorem vd_16_24 (E : ac_E) : ac_V E ac_MDf ac_HDf 16 24 (.inl (o_ild 3 25)) := ⟨ok_iload_n dd_16_24, mn_ild _ _⟩
theorem vd_16_25 (E : ac_E) : ac_V E ac_MDf ac_HDf 16 25 (.inl (o_ia 26)) := ⟨ok_iaload dd_16_25, mn_ia _⟩
theorem vd_16_26 (E : ac_E) : ac_V E ac_MDf ac_HDf 16 26 (.inl (o_ild 2 27)) := ⟨ok_iload_n dd_16_26, mn_ild _ _⟩
theorem vd_16_27 (E : ac_E) : ac_V E ac_MDf ac_HDf 16 27 (.inl (o_ne 32 30)) := ⟨ok_icmpne dd_16_27 (by decide), mn_ne _ _⟩
theorem vd_16_30 (E : ac_E) : ac_V E ac_MDf ac_HDf 16 30 (.inl (o_con (.int 1) 31)) := ⟨ok_iconst dd_16_30 (by decide), mn_con _ _⟩
theorem vd_16_31 (E : ac_E) : ac_V E ac_MDf ac_HDf 16 31 (.inr (.inr (.inl 2))) := ⟨fun q => nomatch q, fun q => nomatch q, fun _ => ⟨dd_16_31, rfl⟩⟩
theorem vd_16_32 (E : ac_E) : ac_V E ac_MDf ac_HDf 16 32 (.inl (o_inc 3 1 35)) := ⟨ok_iinc dd_16_32 (by decide), mn_inc _ _ _⟩
theorem vd_16_35 (E : ac_E) : ac_V E ac_MDf ac_HDf 16 35 (.inl (o_go 2)) := ⟨ok_goto dd_16_35 (by decide), mn_go _⟩
theorem vd_16_38 (E : ac_E) : ac_V E ac_MDf ac_HDf 16 38 (.inl (o_con (.int 0) 39)) := ⟨ok_iconst dd_16_38 (by decide), mn_con _ _⟩
theorem vd_16_39 (E : ac_E) : ac_V E ac_MDf ac_HDf 16 39 (.inr (.inr (.inl 2))) := ⟨fun q => nomatch q, fun q => nomatch q, fun _ => ⟨dd_16_39, rfl⟩⟩
theorem va_16 (E : ac_E) (pc : Nat) : ac_V E ac_MDf ac_HDf 16 pc (tb_16 (ac_len E) (ac_xs E) pc) := (ac_node (ac_node (ac_node (ac_node (ac_leaf 0 (vd_16_0 E)) (ac_node (ac_leaf 1 (vd_16_1 E)) (ac_leaf 2 (vd_16_2 E)))) (ac_node (ac_leaf 3 (vd_16_3 E)) (ac_node (ac_leaf 4 (vd_16_4 E)) (ac_leaf 7 (vd_16_7 E))))) (ac_node (ac_node (ac_leaf 10 (vd_16_10 E)) (ac_node (ac_leaf 11 (vd_16_11 E)) (ac_leaf 14 (vd_16_14 E)))) (ac_node (ac_leaf 15 (vd_16_15 E)) (ac_node (ac_leaf 16 (vd_16_16 E)) (ac_leaf 17 (vd_16_17 E)))))) (ac_node (ac_node (ac_node (ac_leaf 20 (vd_16_20 E)) (ac_node (ac_leaf 21 (vd_16_21 E)) (ac_leaf 24 (vd_16_24 E)))) (ac_node (ac_leaf 25 (vd_16_25 E)) (ac_node (ac_leaf 26 (vd_16_26 E)) (ac_leaf 27 (vd_16_27 E))))) (ac_node (ac_node (ac_leaf 30 (vd_16_30 E)) (ac_node (ac_leaf 31 (vd_16_31 E)) (ac_leaf 32 (vd_16_32 E)))) (ac_node (ac_leaf 35 (vd_16_35 E)) (ac_node (ac_leaf 38 (vd_16_38 E)) (ac_leaf 39 (vd_16_39 E)))))))
theorem vd_17_0 (E : ac_E) : ac_V E ac_MDf ac_HDf 17 0 (.inl (o_ald 0 1)) := ⟨ok_aload_n dd_17_0, mn_ald _ _⟩
theorem vd_17_1 (E : ac_E) : ac_V E ac_MDf ac_HDf 17 1 (.inl (o_get 3 0 4)) := ⟨ok_getf (ci := 3) (f := 0) (C := RX3) (T := TX3) (N := 3) (ref := RX3) rfl win_3 (by decide) rfl wm_150 dd_17_1, mn_get _ _ _⟩
theorem vd_17_4 (E : ac_E) : ac_V E ac_MDf ac_HDf 17 4 (.inl (o_ald 0 5)) := ⟨ok_aload_n dd_17_4, mn_ald _ _⟩
theorem vd_17_5 (E : ac_E) : ac_V E ac_MDf ac_HDf 17 5 (.inl (o_get 3 2 8)) := ⟨ok_getf (ci := 3) (f := 2) (C := RX3) (T := TX3) (N := 3) (ref := RX3) rfl win_3 (by decide) rfl wm_154 dd_17_5, mn_get _ _ _⟩
theorem vd_17_8 (E : ac_E) : ac_V E ac_MDf ac_HDf 17 8 (.inl (o_ild 1 9)) := ⟨ok_iload_n dd_17_8, mn_ild _ _⟩
theorem vd_17_9 (E : ac_E) : ac_V E ac_MDf ac_HDf 17 9 (.inl (o_is 10)) := ⟨ok_iastore dd_17_9, mn_is _⟩
theorem vd_17_10 (E : ac_E) : ac_V E ac_MDf ac_HDf 17 10 (.inl (o_ald 0 11)) := ⟨ok_aload_n dd_17_10, mn_ald _ _⟩
theorem vd_17_11 (E : ac_E) : ac_V E ac_MDf ac_HDf 17 11 (.inl (o_get 3 1 14)) := ⟨ok_getf (ci := 3) (f := 1) (C := RX3) (T := TX3) (N := 3) (ref := RX3) rfl win_3 (by decide) rfl wm_152 dd_17_11, mn_get _ _ _⟩
theorem vd_17_14 (E : ac_E) : ac_V E ac_MDf ac_HDf 17 14 (.inl (o_ald 0 15)) := ⟨ok_aload_n dd_17_14, mn_ald _ _⟩
theorem vd_17_15 (E : ac_E) : ac_V E ac_MDf ac_HDf 17 15 (.inl (o_get 3 2 18)) := ⟨ok_getf (ci := 3) (f := 2) (C := RX3) (T := TX3) (N := 3) (ref := RX3) rfl win_3 (by decide) rfl wm_154 dd_17_15, mn_get _ _ _⟩
theorem vd_17_18 (E : ac_E) : ac_V E ac_MDf ac_HDf 17 18 (.inl (o_ild 2 19)) := ⟨ok_iload_n dd_17_18, mn_ild _ _⟩
theorem vd_17_19 (E : ac_E) : ac_V E ac_MDf ac_HDf 17 19 (.inl (o_is 20)) := ⟨ok_iastore dd_17_19, mn_is _⟩
theorem vd_17_20 (E : ac_E) : ac_V E ac_MDf ac_HDf 17 20 (.inl (o_ald 0 21)) := ⟨ok_aload_n dd_17_20, mn_ald _ _⟩
theorem vd_17_21 (E : ac_E) : ac_V E ac_MDf ac_HDf 17 21 (.inl (o_dup 22)) := ⟨ok_dup dd_17_21, mn_dup _⟩
theorem vd_17_22 (E : ac_E) : ac_V E ac_MDf ac_HDf 17 22 (.inl (o_get 3 2 25)) := ⟨ok_getf (ci := 3) (f := 2) (C := RX3) (T := TX3) (N := 3) (ref := RX3) rfl win_3 (by decide) rfl wm_154 dd_17_22, mn_get _ _ _⟩
theorem vd_17_25 (E : ac_E) : ac_V E ac_MDf ac_HDf 17 25 (.inl (o_dx1 26)) := ⟨ok_dup_x1 dd_17_25, mn_dx1 _⟩
theorem vd_17_26 (E : ac_E) : ac_V E ac_MDf ac_HDf 17 26 (.inl (o_con (.int 1) 27)) := ⟨ok_iconst dd_17_26 (by decide), mn_con _ _⟩
theorem vd_17_27 (E : ac_E) : ac_V E ac_MDf ac_HDf 17 27 (.inl (o_add 28)) := ⟨ok_iadd dd_17_27, mn_add _⟩
theorem vd_17_28 (E : ac_E) : ac_V E ac_MDf ac_HDf 17 28 (.inl (o_put 3 2 31)) := ⟨ok_putf (ci := 3) (f := 2) (C := RX3) (T := TX3) (N := 3) (ref := RX3) rfl win_3 (by decide) rfl tyX3 tyX3_ok nmX3 (by decide +kernel) rfl wm_154 dd_17_28, mn_put _ _ _⟩
theorem vd_17_31 (E : ac_E) : ac_V E ac_MDf ac_HDf 17 31 (.inr (.inr (.inl 1))) := ⟨fun q => nomatch q, fun _ => ⟨dd_17_31, rfl⟩, fun q => nomatch q⟩
theorem va_17 (E : ac_E) (pc : Nat) : ac_V E ac_MDf ac_HDf 17 pc (tb_17 (ac_len E) (ac_xs E) pc) := (ac_node (ac_node (ac_node (ac_node (ac_leaf 0 (vd_17_0 E)) (ac_leaf 1 (vd_17_1 E))) (ac_node (ac_leaf 4 (vd_17_4 E)) (ac_node (ac_leaf 5 (vd_17_5 E)) (ac_leaf 8 (vd_17_8 E))))) (ac_node (ac_node (ac_leaf 9 (vd_17_9 E)) (ac_leaf 10 (vd_17_10 E))) (ac_node (ac_leaf 11 (vd_17_11 E)) (ac_node (ac_leaf 14 (vd_17_14 E)) (ac_leaf 15 (vd_17_15 E)))))) (ac_node (ac_node (ac_node (ac_leaf 18 (vd_17_18 E)) (ac_leaf 19 (vd_17_19 E))) (ac_node (ac_leaf 20 (vd_17_20 E)) (ac_node (ac_leaf 21 (vd_17_21 E)) (ac_leaf 22 (vd_17_22 E))))) (ac_node (ac_node (ac_leaf 25 (vd_17_25 E)) (ac_leaf 26 (vd_17_26 E))) (ac_node (ac_leaf 27 (vd_17_27 E)) (ac_node (ac_leaf 28 (vd_17_28 E)) (ac_leaf 31 (vd_17_31 E)))))))
theorem vd_18_0 (E : ac_E) : ac_V E ac_MDf ac_HDf 18 0 (.inl (o_con (.int 0) 1)) := ⟨ok_iconst dd_18_0 (by decide), mn_con _ _⟩
theorem vd_18_1 (E : ac_E) : ac_V E ac_MDf ac_HDf 18 1 (.inl (o_ist 2 2)) := ⟨ok_istore_n dd_18_1, mn_ist _ _⟩
theorem vd_18_2 (E : ac_E) : ac_V E ac_MDf ac_HDf 18 2 (.inl (o_ild 2 3)) := ⟨ok_iload_n dd_18_2, mn_ild _ _⟩
theorem vd_18_3 (E : ac_E) : ac_V E ac_MDf ac_HDf 18 3 (.inl (o_ald 0 4)) := ⟨ok_aload_n dd_18_3, mn_ald _ _⟩
theorem vd_18_4 (E : ac_E) : ac_V E ac_MDf ac_HDf 18 4 (.inl (o_get 3 2 7)) := ⟨ok_getf (ci := 3) (f := 2) (C := RX3) (T := TX3) (N := 3) (ref := RX3) rfl win_3 (by decide) rfl wm_154 dd_18_4, mn_get _ _ _⟩
theorem vd_18_7 (E : ac_E) : ac_V E ac_MDf ac_HDf 18 7 (.inl (o_ge 33 10)) := ⟨ok_icmpge dd_18_7 (by decide), mn_ge _ _⟩
theorem vd_18_10 (E : ac_E) : ac_V E ac_MDf ac_HDf 18 10 (.inl (o_ald 0 11)) := ⟨ok_aload_n dd_18_10, mn_ald _ _⟩
theorem vd_18_11 (E : ac_E) : ac_V E ac_MDf ac_HDf 18 11 (.inl (o_get 3 0 14)) := ⟨ok_getf (ci := 3) (f := 0) (C := RX3) (T := TX3) (N := 3) (ref := RX3) rfl win_3 (by decide) rfl wm_150 dd_18_11, mn_get _ _ _⟩
theorem vd_18_14 (E : ac_E) : ac_V E ac_MDf ac_HDf 18 14 (.inl (o_ild 2 15)) := ⟨ok_iload_n dd_18_14, mn_ild _ _⟩
theorem vd_18_15 (E : ac_E) : ac_V E ac_MDf ac_HDf 18 15 (.inl (o_ia 16)) := ⟨ok_iaload dd_18_15, mn_ia _⟩
theorem vd_18_16 (E : ac_E) : ac_V E ac_MDf ac_HDf 18 16 (.inl (o_ild 1 17)) := ⟨ok_iload_n dd_18_16, mn_ild _ _⟩
theorem vd_18_17 (E : ac_E) : ac_V E ac_MDf ac_HDf 18 17 (.inl (o_ne 27 20)) := ⟨ok_icmpne dd_18_17 (by decide), mn_ne _ _⟩
theorem vd_18_20 (E : ac_E) : ac_V E ac_MDf ac_HDf 18 20 (.inl (o_ald 0 21)) := ⟨ok_aload_n dd_18_20, mn_ald _ _⟩
theorem vd_18_21 (E : ac_E) : ac_V E ac_MDf ac_HDf 18 21 (.inl (o_get 3 0 24)) := ⟨ok_getf (ci := 3) (f := 0) (C := RX3) (T := TX3) (N := 3) (ref := RX3) rfl win_3 (by decide) rfl wm_150 dd_18_21, mn_get _ _ _⟩
theorem vd_18_24 (E : ac_E) : ac_V E ac_MDf ac_HDf 18 24 (.inl (o_ild 2 25)) := ⟨ok_iload_n dd_18_24, mn_ild _ _⟩
theorem vd_18_25 (E : ac_E) : ac_V E ac_MDf ac_HDf 18 25 (.inl (o_con (.int (-1)) 26)) := ⟨ok_iconst dd_18_25 (by decide), mn_con _ _⟩
theorem vd_18_26 (E : ac_E) : ac_V E ac_MDf ac_HDf 18 26 (.inl (o_is 27)) := ⟨ok_iastore dd_18_26, mn_is _⟩
theorem vd_18_27 (E : ac_E) : ac_V E ac_MDf ac_HDf 18 27 (.inl (o_inc 2 1 30)) := ⟨ok_iinc dd_18_27 (by decide), mn_inc _ _ _⟩
theorem vd_18_30 (E : ac_E) : ac_V E ac_MDf ac_HDf 18 30 (.inl (o_go 2)) := ⟨ok_goto dd_18_30 (by decide), mn_go _⟩
theorem vd_18_33 (E : ac_E) : ac_V E ac_MDf ac_HDf 18 33 (.inr (.inr (.inl 0))) := ⟨fun _ => ⟨dd_18_33, rfl⟩, fun q => nomatch q, fun q => nomatch q⟩
theorem va_18 (E : ac_E) (pc : Nat) : ac_V E ac_MDf ac_HDf 18 pc (tb_18 (ac_len E) (ac_xs E) pc) := (ac_node (ac_node (ac_node (ac_node (ac_leaf 0 (vd_18_0 E)) (ac_leaf 1 (vd_18_1 E))) (ac_node (ac_leaf 2 (vd_18_2 E)) (ac_node (ac_leaf 3 (vd_18_3 E)) (ac_leaf 4 (vd_18_4 E))))) (ac_node (ac_node (ac_leaf 7 (vd_18_7 E)) (ac_leaf 10 (vd_18_10 E))) (ac_node (ac_leaf 11 (vd_18_11 E)) (ac_node (ac_leaf 14 (vd_18_14 E)) (ac_leaf 15 (vd_18_15 E)))))) (ac_node (ac_node (ac_node (ac_leaf 16 (vd_18_16 E)) (ac_leaf 17 (vd_18_17 E))) (ac_node (ac_leaf 20 (vd_18_20 E)) (ac_node (ac_leaf 21 (vd_18_21 E)) (ac_leaf 24 (vd_18_24 E))))) (ac_node (ac_node (ac_leaf 25 (vd_18_25 E)) (ac_leaf 26 (vd_18_26 E))) (ac_node (ac_leaf 27 (vd_18_27 E)) (ac_node (ac_leaf 30 (vd_18_30 E)) (ac_leaf 33 (vd_18_33 E)))))))
theorem vd_19_0 (E : ac_E) : ac_V E ac_MDf ac_HDf 19 0 (.inl (o_ild 2 1)) := ⟨ok_iload_n dd_19_0, mn_ild _ _⟩
theorem vd_19_1 (E : ac_E) : ac_V E ac_MDf ac_HDf 19 1 (.inl (o_ild 3 2)) := ⟨ok_iload_n dd_19_1, mn_ild _ _⟩
theorem vd_19_2 (E : ac_E) : ac_V E ac_MDf ac_HDf 19 2 (.inl (o_ne 6 5)) := ⟨ok_icmpne dd_19_2 (by decide), mn_ne _ _⟩
theorem vd_19_5 (E : ac_E) : ac_V E ac_MDf ac_HDf 19 5 (.inr (.inr (.inl 0))) := ⟨fun _ => ⟨dd_19_5, rfl⟩, fun q => nomatch q, fun q => nomatch q⟩
theorem vd_19_6 (E : ac_E) : ac_V E ac_MDf ac_HDf 19 6 (.inl (o_ild 2 7)) := ⟨ok_iload_n dd_19_6, mn_ild _ _⟩
theorem vd_19_7 (E : ac_E) : ac_V E ac_MDf ac_HDf 19 7 (.inl (o_con (.int 1) 8)) := ⟨ok_iconst dd_19_7 (by decide), mn_con _ _⟩
theorem vd_19_8 (E : ac_E) : ac_V E ac_MDf ac_HDf 19 8 (.inl (o_ald 0 9)) := ⟨ok_aload_n dd_19_8, mn_ald _ _⟩
theorem vd_19_9 (E : ac_E) : ac_V E ac_MDf ac_HDf 19 9 (.inl (o_get 3 1 12)) := ⟨ok_getf (ci := 3) (f := 1) (C := RX3) (T := TX3) (N := 3) (ref := RX3) rfl win_3 (by decide) rfl wm_152 dd_19_9, mn_get _ _ _⟩
theorem vd_19_12 (E : ac_E) : ac_V E ac_MDf ac_HDf 19 12 (.inl (o_ild 1 13)) := ⟨ok_iload_n dd_19_12, mn_ild _ _⟩
theorem vd_19_13 (E : ac_E) : ac_V E ac_MDf ac_HDf 19 13 (.inl (o_ia 14)) := ⟨ok_iaload dd_19_13, mn_ia _⟩
theorem vd_19_14 (E : ac_E) : ac_V E ac_MDf ac_HDf 19 14 (.inl (o_shl 15)) := ⟨ok_ishl dd_19_14, mn_shl _⟩
theorem vd_19_15 (E : ac_E) : ac_V E ac_MDf ac_HDf 19 15 (.inl (o_con (.int 1) 16)) := ⟨ok_iconst dd_19_15 (by decide), mn_con _ _⟩
theorem vd_19_16 (E : ac_E) : ac_V E ac_MDf ac_HDf 19 16 (.inl (o_sub 17)) := ⟨ok_isub dd_19_16, mn_sub _⟩
theorem vd_19_17 (E : ac_E) : ac_V E ac_MDf ac_HDf 19 17 (.inl (o_and 18)) := ⟨ok_iand dd_19_17, mn_and _⟩
theorem vd_19_18 (E : ac_E) : ac_V E ac_MDf ac_HDf 19 18 (.inr (.inl (0,1,21,0))) := ac_Vc0 ((ok_callS rfl (by decide) (by decide +kernel) wm_350 wm_62 wm_447 wm_349 dd_19_18).1) (fun _ => rfl)
theorem vd_19_21 (E : ac_E) : ac_V E ac_MDf ac_HDf 19 21 (.inl (o_ist 4 23)) := ⟨ok_istore dd_19_21, mn_ist _ _⟩
theorem vd_19_23 (E : ac_E) : ac_V E ac_MDf ac_HDf 19 23 (.inl (o_con (.int 0) 24)) := ⟨ok_iconst dd_19_23 (by decide), mn_con _ _⟩
theorem vd_19_24 (E : ac_E) : ac_V E ac_MDf ac_HDf 19 24 (.inl (o_ist 5 26)) := ⟨ok_istore dd_19_24, mn_ist _ _⟩
theorem vd_19_26 (E : ac_E) : ac_V E ac_MDf ac_HDf 19 26 (.inl (o_ild 5 28)) := ⟨ok_iload dd_19_26, mn_ild _ _⟩
theorem vd_19_28 (E : ac_E) : ac_V E ac_MDf ac_HDf 19 28 (.inl (o_con (.int 7) 30)) := ⟨ok_bipush dd_19_28 (by decide), mn_con _ _⟩
theorem vd_19_30 (E : ac_E) : ac_V E ac_MDf ac_HDf 19 30 (.inl (o_ge 73 33)) := ⟨ok_icmpge dd_19_30 (by decide), mn_ge _ _⟩
theorem vd_19_33 (E : ac_E) : ac_V E ac_MDf ac_HDf 19 33 (.inl (o_ild 3 34)) := ⟨ok_iload_n dd_19_33, mn_ild _ _⟩
theorem vd_19_34 (E : ac_E) : ac_V E ac_MDf ac_HDf 19 34 (.inl (o_ild 5 36)) := ⟨ok_iload dd_19_34, mn_ild _ _⟩
theorem vd_19_36 (E : ac_E) : ac_V E ac_MDf ac_HDf 19 36 (.inr (.inl (47,2,39,0))) := ac_Vc0 (ok_callSN rfl (by decide) (by decide +kernel) wm_450 wm_50 wm_448 wm_449 dd_19_36) (fun _ => rfl)
theorem vd_19_39 (E : ac_E) : ac_V E ac_MDf ac_HDf 19 39 (.inl (o_eq0 67 42)) := ⟨ok_ifeq dd_19_39 (by decide), mn_eq0 _ _⟩
theorem vd_19_42 (E : ac_E) : ac_V E ac_MDf ac_HDf 19 42 (.inl (o_ild 3 43)) := ⟨ok_iload_n dd_19_42, mn_ild _ _⟩
theorem vd_19_43 (E : ac_E) : ac_V E ac_MDf ac_HDf 19 43 (.inl (o_con (.int 1) 44)) := ⟨ok_iconst dd_19_43 (by decide), mn_con _ _⟩
theorem vd_19_44 (E : ac_E) : ac_V E ac_MDf ac_HDf 19 44 (.inl (o_ild 5 46)) := ⟨ok_iload dd_19_44, mn_ild _ _⟩
theorem vd_19_46 (E : ac_E) : ac_V E ac_MDf ac_HDf 19 46 (.inl (o_shl 47)) := ⟨ok_ishl dd_19_46, mn_shl _⟩
theorem vd_19_47 (E : ac_E) : ac_V E ac_MDf ac_HDf 19 47 (.inl (o_con (.int 1) 48)) := ⟨ok_iconst dd_19_47 (by decide), mn_con _ _⟩
theorem vd_19_48 (E : ac_E) : ac_V E ac_MDf ac_HDf 19 48 (.inl (o_sub 49)) := ⟨ok_isub dd_19_48, mn_sub _⟩
theorem vd_19_49 (E : ac_E) : ac_V E ac_MDf ac_HDf 19 49 (.inl (o_and 50)) := ⟨ok_iand dd_19_49, mn_and _⟩
theorem vd_19_50 (E : ac_E) : ac_V E ac_MDf ac_HDf 19 50 (.inr (.inl (0,1,53,0))) := ac_Vc0 ((ok_callS rfl (by decide) (by decide +kernel) wm_350 wm_62 wm_447 wm_349 dd_19_50).1) (fun _ => rfl)
theorem vd_19_53 (E : ac_E) : ac_V E ac_MDf ac_HDf 19 53 (.inl (o_ild 4 55)) := ⟨ok_iload dd_19_53, mn_ild _ _⟩
theorem vd_19_55 (E : ac_E) : ac_V E ac_MDf ac_HDf 19 55 (.inl (o_ne 67 58)) := ⟨ok_icmpne dd_19_55 (by decide), mn_ne _ _⟩
theorem vd_19_58 (E : ac_E) : ac_V E ac_MDf ac_HDf 19 58 (.inl (o_ald 0 59)) := ⟨ok_aload_n dd_19_58, mn_ald _ _⟩
theorem vd_19_59 (E : ac_E) : ac_V E ac_MDf ac_HDf 19 59 (.inl (o_get 3 1 62)) := ⟨ok_getf (ci := 3) (f := 1) (C := RX3) (T := TX3) (N := 3) (ref := RX3) rfl win_3 (by decide) rfl wm_152 dd_19_59, mn_get _ _ _⟩
theorem vd_19_62 (E : ac_E) : ac_V E ac_MDf ac_HDf 19 62 (.inl (o_ild 1 63)) := ⟨ok_iload_n dd_19_62, mn_ild _ _⟩
theorem vd_19_63 (E : ac_E) : ac_V E ac_MDf ac_HDf 19 63 (.inl (o_ild 5 65)) := ⟨ok_iload dd_19_63, mn_ild _ _⟩
theorem vd_19_65 (E : ac_E) : ac_V E ac_MDf ac_HDf 19 65 (.inl (o_is 66)) := ⟨ok_iastore dd_19_65, mn_is _⟩
theorem vd_19_66 (E : ac_E) : ac_V E ac_MDf ac_HDf 19 66 (.inr (.inr (.inl 0))) := ⟨fun _ => ⟨dd_19_66, rfl⟩, fun q => nomatch q, fun q => nomatch q⟩
theorem vd_19_67 (E : ac_E) : ac_V E ac_MDf ac_HDf 19 67 (.inl (o_inc 5 1 70)) := ⟨ok_iinc dd_19_67 (by decide), mn_inc _ _ _⟩
theorem vd_19_70 (E : ac_E) : ac_V E ac_MDf ac_HDf 19 70 (.inl (o_go 26)) := ⟨ok_goto dd_19_70 (by decide), mn_go _⟩
theorem vd_19_73 (E : ac_E) : ac_V E ac_MDf ac_HDf 19 73 (.inr (.inr (.inl 0))) := ⟨fun _ => ⟨dd_19_73, rfl⟩, fun q => nomatch q, fun q => nomatch q⟩
theorem va_19 (E : ac_E) (pc : Nat) : ac_V E ac_MDf ac_HDf 19 pc (tb_19 (ac_len E) (ac_xs E) pc) := (ac_node (ac_node (ac_node (ac_node (ac_node (ac_leaf 0 (vd_19_0 E)) (ac_leaf 1 (vd_19_1 E))) (ac_node (ac_leaf 2 (vd_19_2 E)) (ac_node (ac_leaf 5 (vd_19_5 E)) (ac_leaf 6 (vd_19_6 E))))) (ac_node (ac_node (ac_leaf 7 (vd_19_7 E)) (ac_node (ac_leaf 8 (vd_19_8 E)) (ac_leaf 9 (vd_19_9 E)))) (ac_node (ac_leaf 12 (vd_19_12 E)) (ac_node (ac_leaf 13 (vd_19_13 E)) (ac_leaf 14 (vd_19_14 E)))))) (ac_node (ac_node (ac_node (ac_leaf 15 (vd_19_15 E)) (ac_leaf 16 (vd_19_16 E))) (ac_node (ac_leaf 17 (vd_19_17 E)) (ac_node (ac_leaf 18 (vd_19_18 E)) (ac_leaf 21 (vd_19_21 E))))) (ac_node (ac_node (ac_leaf 23 (vd_19_23 E)) (ac_node (ac_leaf 24 (vd_19_24 E)) (ac_leaf 26 (vd_19_26 E)))) (ac_node (ac_leaf 28 (vd_19_28 E)) (ac_node (ac_leaf 30 (vd_19_30 E)) (ac_leaf 33 (vd_19_33 E))))))) (ac_node (ac_node (ac_node (ac_node (ac_leaf 34 (vd_19_34 E)) (ac_leaf 36 (vd_19_36 E))) (ac_node (ac_leaf 39 (vd_19_39 E)) (ac_node (ac_leaf 42 (vd_19_42 E)) (ac_leaf 43 (vd_19_43 E))))) (ac_node (ac_node (ac_leaf 44 (vd_19_44 E)) (ac_node (ac_leaf 46 (vd_19_46 E)) (ac_leaf 47 (vd_19_47 E)))) (ac_node (ac_leaf 48 (vd_19_48 E)) (ac_node (ac_leaf 49 (vd_19_49 E)) (ac_leaf 50 (vd_19_50 E)))))) (ac_node (ac_node (ac_node (ac_leaf 53 (vd_19_53 E)) (ac_leaf 55 (vd_19_55 E))) (ac_node (ac_leaf 58 (vd_19_58 E)) (ac_node (ac_leaf 59 (vd_19_59 E)) (ac_leaf 62 (vd_19_62 E))))) (ac_node (ac_node (ac_leaf 63 (vd_19_63 E)) (ac_node (ac_leaf 65 (vd_19_65 E)) (ac_leaf 66 (vd_19_66 E)))) (ac_node (ac_leaf 67 (vd_19_67 E)) (ac_node (ac_leaf 70 (vd_19_70 E)) (ac_leaf 73 (vd_19_73 E))))))))
theorem vd_20_0 (E : ac_E) : ac_V E ac_MDf ac_HDf 20 0 (.inl (o_con (.int 0) 1)) := ⟨ok_iconst dd_20_0 (by decide), mn_con _ _⟩
theorem vd_20_1 (E : ac_E) : ac_V E ac_MDf ac_HDf 20 1 (.inl (o_ist 3 2)) := ⟨ok_istore_n dd_20_1, mn_ist _ _⟩
theorem vd_20_2 (E : ac_E) : ac_V E ac_MDf ac_HDf 20 2 (.inl (o_ild 3 3)) := ⟨ok_iload_n dd_20_2, mn_ild _ _⟩
theorem vd_20_3 (E : ac_E) : ac_V E ac_MDf ac_HDf 20 3 (.inl (o_ald 0 4)) := ⟨ok_aload_n dd_20_3, mn_ald _ _⟩
theorem vd_20_4 (E : ac_E) : ac_V E ac_MDf ac_HDf 20 4 (.inl (o_get 3 2 7)) := ⟨ok_getf (ci := 3) (f := 2) (C := RX3) (T := TX3) (N := 3) (ref := RX3) rfl win_3 (by decide) rfl wm_154 dd_20_4, mn_get _ _ _⟩
theorem vd_20_7 (E : ac_E) : ac_V E ac_MDf ac_HDf 20 7 (.inl (o_ge 61 10)) := ⟨ok_icmpge dd_20_7 (by decide), mn_ge _ _⟩
theorem vd_20_10 (E : ac_E) : ac_V E ac_MDf ac_HDf 20 10 (.inl (o_ald 0 11)) := ⟨ok_aload_n dd_20_10, mn_ald _ _⟩
theorem vd_20_11 (E : ac_E) : ac_V E ac_MDf ac_HDf 20 11 (.inl (o_get 3 0 14)) := ⟨ok_getf (ci := 3) (f := 0) (C := RX3) (T := TX3) (N := 3) (ref := RX3) rfl win_3 (by decide) rfl wm_150 dd_20_11, mn_get _ _ _⟩
theorem vd_20_14 (E : ac_E) : ac_V E ac_MDf ac_HDf 20 14 (.inl (o_ild 3 15)) := ⟨ok_iload_n dd_20_14, mn_ild _ _⟩
theorem vd_20_15 (E : ac_E) : ac_V E ac_MDf ac_HDf 20 15 (.inl (o_ia 16)) := ⟨ok_iaload dd_20_15, mn_ia _⟩
theorem vd_20_16 (E : ac_E) : ac_V E ac_MDf ac_HDf 20 16 (.inl (o_con (.int (-1)) 17)) := ⟨ok_iconst dd_20_16 (by decide), mn_con _ _⟩
theorem vd_20_17 (E : ac_E) : ac_V E ac_MDf ac_HDf 20 17 (.inl (o_eq 55 20)) := ⟨ok_icmpeq dd_20_17 (by decide), mn_eq _ _⟩
theorem vd_20_20 (E : ac_E) : ac_V E ac_MDf ac_HDf 20 20 (.inl (o_ald 0 21)) := ⟨ok_aload_n dd_20_20, mn_ald _ _⟩
theorem vd_20_21 (E : ac_E) : ac_V E ac_MDf ac_HDf 20 21 (.inl (o_get 3 1 24)) := ⟨ok_getf (ci := 3) (f := 1) (C := RX3) (T := TX3) (N := 3) (ref := RX3) rfl win_3 (by decide) rfl wm_152 dd_20_21, mn_get _ _ _⟩
theorem vd_20_24 (E : ac_E) : ac_V E ac_MDf ac_HDf 20 24 (.inl (o_ild 3 25)) := ⟨ok_iload_n dd_20_24, mn_ild _ _⟩
theorem vd_20_25 (E : ac_E) : ac_V E ac_MDf ac_HDf 20 25 (.inl (o_ia 26)) := ⟨ok_iaload dd_20_25, mn_ia _⟩
theorem vd_20_26 (E : ac_E) : ac_V E ac_MDf ac_HDf 20 26 (.inl (o_con (.int 6) 28)) := ⟨ok_bipush dd_20_26 (by decide), mn_con _ _⟩
theorem vd_20_28 (E : ac_E) : ac_V E ac_MDf ac_HDf 20 28 (.inl (o_ge 55 31)) := ⟨ok_icmpge dd_20_28 (by decide), mn_ge _ _⟩
theorem vd_20_31 (E : ac_E) : ac_V E ac_MDf ac_HDf 20 31 (.inl (o_ald 0 32)) := ⟨ok_aload_n dd_20_31, mn_ald _ _⟩
theorem vd_20_32 (E : ac_E) : ac_V E ac_MDf ac_HDf 20 32 (.inl (o_get 3 0 35)) := ⟨ok_getf (ci := 3) (f := 0) (C := RX3) (T := TX3) (N := 3) (ref := RX3) rfl win_3 (by decide) rfl wm_150 dd_20_32, mn_get _ _ _⟩
theorem vd_20_35 (E : ac_E) : ac_V E ac_MDf ac_HDf 20 35 (.inl (o_ild 3 36)) := ⟨ok_iload_n dd_20_35, mn_ild _ _⟩
theorem vd_20_36 (E : ac_E) : ac_V E ac_MDf ac_HDf 20 36 (.inl (o_ald 1 37)) := ⟨ok_aload_n dd_20_36, mn_ald _ _⟩
theorem vd_20_37 (E : ac_E) : ac_V E ac_MDf ac_HDf 20 37 (.inl (o_ald 0 38)) := ⟨ok_aload_n dd_20_37, mn_ald _ _⟩
theorem vd_20_38 (E : ac_E) : ac_V E ac_MDf ac_HDf 20 38 (.inl (o_get 3 0 41)) := ⟨ok_getf (ci := 3) (f := 0) (C := RX3) (T := TX3) (N := 3) (ref := RX3) rfl win_3 (by decide) rfl wm_150 dd_20_38, mn_get _ _ _⟩
theorem vd_20_41 (E : ac_E) : ac_V E ac_MDf ac_HDf 20 41 (.inl (o_ild 3 42)) := ⟨ok_iload_n dd_20_41, mn_ild _ _⟩
theorem vd_20_42 (E : ac_E) : ac_V E ac_MDf ac_HDf 20 42 (.inl (o_ia 43)) := ⟨ok_iaload dd_20_42, mn_ia _⟩
theorem vd_20_43 (E : ac_E) : ac_V E ac_MDf ac_HDf 20 43 (.inl (o_ald 0 44)) := ⟨ok_aload_n dd_20_43, mn_ald _ _⟩
theorem vd_20_44 (E : ac_E) : ac_V E ac_MDf ac_HDf 20 44 (.inl (o_get 3 1 47)) := ⟨ok_getf (ci := 3) (f := 1) (C := RX3) (T := TX3) (N := 3) (ref := RX3) rfl win_3 (by decide) rfl wm_152 dd_20_44, mn_get _ _ _⟩
theorem vd_20_47 (E : ac_E) : ac_V E ac_MDf ac_HDf 20 47 (.inl (o_ild 3 48)) := ⟨ok_iload_n dd_20_47, mn_ild _ _⟩
theorem vd_20_48 (E : ac_E) : ac_V E ac_MDf ac_HDf 20 48 (.inl (o_ia 49)) := ⟨ok_iaload dd_20_48, mn_ia _⟩
theorem vd_20_49 (E : ac_E) : ac_V E ac_MDf ac_HDf 20 49 (.inl (o_ild 2 50)) := ⟨ok_iload_n dd_20_49, mn_ild _ _⟩
theorem vd_20_50 (E : ac_E) : ac_V E ac_MDf ac_HDf 20 50 (.inl (o_add 51)) := ⟨ok_iadd dd_20_50, mn_add _⟩
theorem vd_20_51 (E : ac_E) : ac_V E ac_MDf ac_HDf 20 51 (.inr (.inl (14,3,54,4))) := ac_Vc0 (ok_callVN (T := TX2) (N := 4) rfl rfl (by decide) (by decide +kernel) wm_466 wm_51 wm_471 wm_465 wm_12 dd_20_51) (fun _ => rfl)
theorem vd_20_54 (E : ac_E) : ac_V E ac_MDf ac_HDf 20 54 (.inl (o_is 55)) := ⟨ok_iastore dd_20_54, mn_is _⟩
theorem vd_20_55 (E : ac_E) : ac_V E ac_MDf ac_HDf 20 55 (.inl (o_inc 3 1 58)) := ⟨ok_iinc dd_20_55 (by decide), mn_inc _ _ _⟩
theorem vd_20_58 (E : ac_E) : ac_V E ac_MDf ac_HDf 20 58 (.inl (o_go 2)) := ⟨ok_goto dd_20_58 (by decide), mn_go _⟩
theorem vd_20_61 (E : ac_E) : ac_V E ac_MDf ac_HDf 20 61 (.inr (.inr (.inl 0))) := ⟨fun _ => ⟨dd_20_61, rfl⟩, fun q => nomatch q, fun q => nomatch q⟩
theorem va_20 (E : ac_E) (pc : Nat) : ac_V E ac_MDf ac_HDf 20 pc (tb_20 (ac_len E) (ac_xs E) pc) := (ac_node (ac_node (ac_node (ac_node (ac_node (ac_leaf 0 (vd_20_0 E)) (ac_leaf 1 (vd_20_1 E))) (ac_node (ac_leaf 2 (vd_20_2 E)) (ac_leaf 3 (vd_20_3 E)))) (ac_node (ac_node (ac_leaf 4 (vd_20_4 E)) (ac_leaf 7 (vd_20_7 E))) (ac_node (ac_leaf 10 (vd_20_10 E)) (ac_node (ac_leaf 11 (vd_20_11 E)) (ac_leaf 14 (vd_20_14 E)))))) (ac_node (ac_node (ac_node (ac_leaf 15 (vd_20_15 E)) (ac_leaf 16 (vd_20_16 E))) (ac_node (ac_leaf 17 (vd_20_17 E)) (ac_leaf 20 (vd_20_20 E)))) (ac_node (ac_node (ac_leaf 21 (vd_20_21 E)) (ac_leaf 24 (vd_20_24 E))) (ac_node (ac_leaf 25 (vd_20_25 E)) (ac_node (ac_leaf 26 (vd_20_26 E)) (ac_leaf 28 (vd_20_28 E))))))) (ac_node (ac_node (ac_node (ac_node (ac_leaf 31 (vd_20_31 E)) (ac_leaf 32 (vd_20_32 E))) (ac_node (ac_leaf 35 (vd_20_35 E)) (ac_leaf 36 (vd_20_36 E)))) (ac_node (ac_node (ac_leaf 37 (vd_20_37 E)) (ac_leaf 38 (vd_20_38 E))) (ac_node (ac_leaf 41 (vd_20_41 E)) (ac_node (ac_leaf 42 (vd_20_42 E)) (ac_leaf 43 (vd_20_43 E)))))) (ac_node (ac_node (ac_node (ac_leaf 44 (vd_20_44 E)) (ac_leaf 47 (vd_20_47 E))) (ac_node (ac_leaf 48 (vd_20_48 E)) (ac_node (ac_leaf 49 (vd_20_49 E)) (ac_leaf 50 (vd_20_50 E))))) (ac_node (ac_node (ac_leaf 51 (vd_20_51 E)) (ac_leaf 54 (vd_20_54 E))) (ac_node (ac_leaf 55 (vd_20_55 E)) (ac_node (ac_leaf 58 (vd_20_58 E)) (ac_leaf 61 (vd_20_61 E))))))))
theorem vd_21_0 (E : ac_E) : ac_V E ac_MDf ac_HDf 21 0 (.inl (o_con (.int 0) 1)) := ⟨ok_iconst dd_21_0 (by decide), mn_con _ _⟩
theorem vd_21_1 (E : ac_E) : ac_V E ac_MDf ac_HDf 21 1 (.inl (o_ist 2 2)) := ⟨ok_istore_n dd_21_1, mn_ist _ _⟩
theorem vd_21_2 (E : ac_E) : ac_V E ac_MDf ac_HDf 21 2 (.inl (o_ild 2 3)) := ⟨ok_iload_n dd_21_2, mn_ild _ _⟩
theorem vd_21_3 (E : ac_E) : ac_V E ac_MDf ac_HDf 21 3 (.inl (o_ald 0 4)) := ⟨ok_aload_n dd_21_3, mn_ald _ _⟩
theorem vd_21_4 (E : ac_E) : ac_V E ac_MDf ac_HDf 21 4 (.inl (o_get 3 2 7)) := ⟨ok_getf (ci := 3) (f := 2) (C := RX3) (T := TX3) (N := 3) (ref := RX3) rfl win_3 (by decide) rfl wm_154 dd_21_4, mn_get _ _ _⟩
theorem vd_21_7 (E : ac_E) : ac_V E ac_MDf ac_HDf 21 7 (.inl (o_ge 92 10)) := ⟨ok_icmpge dd_21_7 (by decide), mn_ge _ _⟩
theorem vd_21_10 (E : ac_E) : ac_V E ac_MDf ac_HDf 21 10 (.inl (o_ald 0 11)) := ⟨ok_aload_n dd_21_10, mn_ald _ _⟩
theorem vd_21_11 (E : ac_E) : ac_V E ac_MDf ac_HDf 21 11 (.inl (o_get 3 0 14)) := ⟨ok_getf (ci := 3) (f := 0) (C := RX3) (T := TX3) (N := 3) (ref := RX3) rfl win_3 (by decide) rfl wm_150 dd_21_11, mn_get _ _ _⟩
theorem vd_21_14 (E : ac_E) : ac_V E ac_MDf ac_HDf 21 14 (.inl (o_ild 2 15)) := ⟨ok_iload_n dd_21_14, mn_ild _ _⟩
theorem vd_21_15 (E : ac_E) : ac_V E ac_MDf ac_HDf 21 15 (.inl (o_ia 16)) := ⟨ok_iaload dd_21_15, mn_ia _⟩
theorem vd_21_16 (E : ac_E) : ac_V E ac_MDf ac_HDf 21 16 (.inl (o_con (.int (-1)) 17)) := ⟨ok_iconst dd_21_16 (by decide), mn_con _ _⟩
theorem vd_21_17 (E : ac_E) : ac_V E ac_MDf ac_HDf 21 17 (.inl (o_ne 24 20)) := ⟨ok_icmpne dd_21_17 (by decide), mn_ne _ _⟩
theorem vd_21_20 (E : ac_E) : ac_V E ac_MDf ac_HDf 21 20 (.inl (o_con (.int 0) 21)) := ⟨ok_iconst dd_21_20 (by decide), mn_con _ _⟩
theorem vd_21_21 (E : ac_E) : ac_V E ac_MDf ac_HDf 21 21 (.inl (o_go 32)) := ⟨ok_goto dd_21_21 (by decide), mn_go _⟩
theorem vd_21_24 (E : ac_E) : ac_V E ac_MDf ac_HDf 21 24 (.inl (o_ald 1 25)) := ⟨ok_aload_n dd_21_24, mn_ald _ _⟩
theorem vd_21_25 (E : ac_E) : ac_V E ac_MDf ac_HDf 21 25 (.inl (o_ald 0 26)) := ⟨ok_aload_n dd_21_25, mn_ald _ _⟩
theorem vd_21_26 (E : ac_E) : ac_V E ac_MDf ac_HDf 21 26 (.inl (o_get 3 0 29)) := ⟨ok_getf (ci := 3) (f := 0) (C := RX3) (T := TX3) (N := 3) (ref := RX3) rfl win_3 (by decide) rfl wm_150 dd_21_26, mn_get _ _ _⟩
theorem vd_21_29 (E : ac_E) : ac_V E ac_MDf ac_HDf 21 29 (.inl (o_ild 2 30)) := ⟨ok_iload_n dd_21_29, mn_ild _ _⟩
theorem vd_21_30 (E : ac_E) : ac_V E ac_MDf ac_HDf 21 30 (.inl (o_ia 31)) := ⟨ok_iaload dd_21_30, mn_ia _⟩
theorem vd_21_31 (E : ac_E) : ac_V E ac_MDf ac_HDf 21 31 (.inl (o_ia 32)) := ⟨ok_iaload dd_21_31, mn_ia _⟩
theorem vd_21_32 (E : ac_E) : ac_V E ac_MDf ac_HDf 21 32 (.inl (o_ist 3 33)) := ⟨ok_istore_n dd_21_32, mn_ist _ _⟩
theorem vd_21_33 (E : ac_E) : ac_V E ac_MDf ac_HDf 21 33 (.inl (o_ild 3 34)) := ⟨ok_iload_n dd_21_33, mn_ild _ _⟩
theorem vd_21_34 (E : ac_E) : ac_V E ac_MDf ac_HDf 21 34 (.inl (o_con (.int 3) 35)) := ⟨ok_iconst dd_21_34 (by decide), mn_con _ _⟩
theorem vd_21_35 (E : ac_E) : ac_V E ac_MDf ac_HDf 21 35 (.inl (o_ne 48 38)) := ⟨ok_icmpne dd_21_35 (by decide), mn_ne _ _⟩
theorem vd_21_38 (E : ac_E) : ac_V E ac_MDf ac_HDf 21 38 (.inl (o_ald 0 39)) := ⟨ok_aload_n dd_21_38, mn_ald _ _⟩
theorem vd_21_39 (E : ac_E) : ac_V E ac_MDf ac_HDf 21 39 (.inl (o_get 3 0 42)) := ⟨ok_getf (ci := 3) (f := 0) (C := RX3) (T := TX3) (N := 3) (ref := RX3) rfl win_3 (by decide) rfl wm_150 dd_21_39, mn_get _ _ _⟩
theorem vd_21_42 (E : ac_E) : ac_V E ac_MDf ac_HDf 21 42 (.inl (o_ild 2 43)) := ⟨ok_iload_n dd_21_42, mn_ild _ _⟩
theorem vd_21_43 (E : ac_E) : ac_V E ac_MDf ac_HDf 21 43 (.inl (o_con (.int (-1)) 44)) := ⟨ok_iconst dd_21_43 (by decide), mn_con _ _⟩
theorem vd_21_44 (E : ac_E) : ac_V E ac_MDf ac_HDf 21 44 (.inl (o_is 45)) := ⟨ok_iastore dd_21_44, mn_is _⟩
theorem vd_21_45 (E : ac_E) : ac_V E ac_MDf ac_HDf 21 45 (.inl (o_go 86)) := ⟨ok_goto dd_21_45 (by decide), mn_go _⟩
theorem vd_21_48 (E : ac_E) : ac_V E ac_MDf ac_HDf 21 48 (.inl (o_ild 3 49)) := ⟨ok_iload_n dd_21_48, mn_ild _ _⟩
theorem vd_21_49 (E : ac_E) : ac_V E ac_MDf ac_HDf 21 49 (.inl (o_con (.int 1) 50)) := ⟨ok_iconst dd_21_49 (by decide), mn_con _ _⟩
theorem vd_21_50 (E : ac_E) : ac_V E ac_MDf ac_HDf 21 50 (.inl (o_eq 58 53)) := ⟨ok_icmpeq dd_21_50 (by decide), mn_eq _ _⟩
theorem vd_21_53 (E : ac_E) : ac_V E ac_MDf ac_HDf 21 53 (.inl (o_ild 3 54)) := ⟨ok_iload_n dd_21_53, mn_ild _ _⟩
theorem vd_21_54 (E : ac_E) : ac_V E ac_MDf ac_HDf 21 54 (.inl (o_con (.int 4) 55)) := ⟨ok_iconst dd_21_54 (by decide), mn_con _ _⟩
theorem vd_21_55 (E : ac_E) : ac_V E ac_MDf ac_HDf 21 55 (.inl (o_ne 86 58)) := ⟨ok_icmpne dd_21_55 (by decide), mn_ne _ _⟩
theorem vd_21_58 (E : ac_E) : ac_V E ac_MDf ac_HDf 21 58 (.inl (o_ald 0 59)) := ⟨ok_aload_n dd_21_58, mn_ald _ _⟩
theorem vd_21_59 (E : ac_E) : ac_V E ac_MDf ac_HDf 21 59 (.inl (o_get 3 1 62)) := ⟨ok_getf (ci := 3) (f := 1) (C := RX3) (T := TX3) (N := 3) (ref := RX3) rfl win_3 (by decide) rfl wm_152 dd_21_59, mn_get _ _ _⟩
theorem vd_21_62 (E : ac_E) : ac_V E ac_MDf ac_HDf 21 62 (.inl (o_ild 2 63)) := ⟨ok_iload_n dd_21_62, mn_ild _ _⟩
theorem vd_21_63 (E : ac_E) : ac_V E ac_MDf ac_HDf 21 63 (.inl (o_ia 64)) := ⟨ok_iaload dd_21_63, mn_ia _⟩
theorem vd_21_64 (E : ac_E) : ac_V E ac_MDf ac_HDf 21 64 (.inl (o_con (.int 6) 66)) := ⟨ok_bipush dd_21_64 (by decide), mn_con _ _⟩
theorem vd_21_66 (E : ac_E) : ac_V E ac_MDf ac_HDf 21 66 (.inl (o_ge 86 69)) := ⟨ok_icmpge dd_21_66 (by decide), mn_ge _ _⟩
theorem vd_21_69 (E : ac_E) : ac_V E ac_MDf ac_HDf 21 69 (.inl (o_ald 0 70)) := ⟨ok_aload_n dd_21_69, mn_ald _ _⟩
theorem vd_21_70 (E : ac_E) : ac_V E ac_MDf ac_HDf 21 70 (.inl (o_get 3 1 73)) := ⟨ok_getf (ci := 3) (f := 1) (C := RX3) (T := TX3) (N := 3) (ref := RX3) rfl win_3 (by decide) rfl wm_152 dd_21_70, mn_get _ _ _⟩
theorem vd_21_73 (E : ac_E) : ac_V E ac_MDf ac_HDf 21 73 (.inl (o_ild 2 74)) := ⟨ok_iload_n dd_21_73, mn_ild _ _⟩
theorem vd_21_74 (E : ac_E) : ac_V E ac_MDf ac_HDf 21 74 (.inl (o_ald 0 75)) := ⟨ok_aload_n dd_21_74, mn_ald _ _⟩
theorem vd_21_75 (E : ac_E) : ac_V E ac_MDf ac_HDf 21 75 (.inl (o_get 3 1 78)) := ⟨ok_getf (ci := 3) (f := 1) (C := RX3) (T := TX3) (N := 3) (ref := RX3) rfl win_3 (by decide) rfl wm_152 dd_21_75, mn_get _ _ _⟩
theorem vd_21_78 (E : ac_E) : ac_V E ac_MDf ac_HDf 21 78 (.inl (o_ild 2 79)) := ⟨ok_iload_n dd_21_78, mn_ild _ _⟩
theorem vd_21_79 (E : ac_E) : ac_V E ac_MDf ac_HDf 21 79 (.inl (o_ia 80)) := ⟨ok_iaload dd_21_79, mn_ia _⟩
theorem vd_21_80 (E : ac_E) : ac_V E ac_MDf ac_HDf 21 80 (.inl (o_con (.int 3) 81)) := ⟨ok_iconst dd_21_80 (by decide), mn_con _ _⟩
theorem vd_21_81 (E : ac_E) : ac_V E ac_MDf ac_HDf 21 81 (.inl (o_add 82)) := ⟨ok_iadd dd_21_81, mn_add _⟩
theorem vd_21_82 (E : ac_E) : ac_V E ac_MDf ac_HDf 21 82 (.inl (o_con (.int 6) 84)) := ⟨ok_bipush dd_21_82 (by decide), mn_con _ _⟩
theorem vd_21_84 (E : ac_E) : ac_V E ac_MDf ac_HDf 21 84 (.inl (o_rem 85)) := ⟨ok_irem dd_21_84, mn_rem _⟩
theorem vd_21_85 (E : ac_E) : ac_V E ac_MDf ac_HDf 21 85 (.inl (o_is 86)) := ⟨ok_iastore dd_21_85, mn_is _⟩
theorem vd_21_86 (E : ac_E) : ac_V E ac_MDf ac_HDf 21 86 (.inl (o_inc 2 1 89)) := ⟨ok_iinc dd_21_86 (by decide), mn_inc _ _ _⟩
theorem vd_21_89 (E : ac_E) : ac_V E ac_MDf ac_HDf 21 89 (.inl (o_go 2)) := ⟨ok_goto dd_21_89 (by decide), mn_go _⟩
theorem vd_21_92 (E : ac_E) : ac_V E ac_MDf ac_HDf 21 92 (.inr (.inr (.inl 0))) := ⟨fun _ => ⟨dd_21_92, rfl⟩, fun q => nomatch q, fun q => nomatch q⟩
theorem va_21 (E : ac_E) (pc : Nat) : ac_V E ac_MDf ac_HDf 21 pc (tb_21 (ac_len E) (ac_xs E) pc) := (ac_node (ac_node (ac_node (ac_node (ac_node (ac_leaf 0 (vd_21_0 E)) (ac_node (ac_leaf 1 (vd_21_1 E)) (ac_leaf 2 (vd_21_2 E)))) (ac_node (ac_node (ac_leaf 3 (vd_21_3 E)) (ac_leaf 4 (vd_21_4 E))) (ac_node (ac_leaf 7 (vd_21_7 E)) (ac_leaf 10 (vd_21_10 E))))) (ac_node (ac_node (ac_leaf 11 (vd_21_11 E)) (ac_node (ac_leaf 14 (vd_21_14 E)) (ac_leaf 15 (vd_21_15 E)))) (ac_node (ac_node (ac_leaf 16 (vd_21_16 E)) (ac_leaf 17 (vd_21_17 E))) (ac_node (ac_leaf 20 (vd_21_20 E)) (ac_leaf 21 (vd_21_21 E)))))) (ac_node (ac_node (ac_node (ac_leaf 24 (vd_21_24 E)) (ac_node (ac_leaf 25 (vd_21_25 E)) (ac_leaf 26 (vd_21_26 E)))) (ac_node (ac_node (ac_leaf 29 (vd_21_29 E)) (ac_leaf 30 (vd_21_30 E))) (ac_node (ac_leaf 31 (vd_21_31 E)) (ac_leaf 32 (vd_21_32 E))))) (ac_node (ac_node (ac_leaf 33 (vd_21_33 E)) (ac_node (ac_leaf 34 (vd_21_34 E)) (ac_leaf 35 (vd_21_35 E)))) (ac_node (ac_node (ac_leaf 38 (vd_21_38 E)) (ac_leaf 39 (vd_21_39 E))) (ac_node (ac_leaf 42 (vd_21_42 E)) (ac_leaf 43 (vd_21_43 E))))))) (ac_node (ac_node (ac_node (ac_node (ac_leaf 44 (vd_21_44 E)) (ac_node (ac_leaf 45 (vd_21_45 E)) (ac_leaf 48 (vd_21_48 E)))) (ac_node (ac_node (ac_leaf 49 (vd_21_49 E)) (ac_leaf 50 (vd_21_50 E))) (ac_node (ac_leaf 53 (vd_21_53 E)) (ac_leaf 54 (vd_21_54 E))))) (ac_node (ac_node (ac_leaf 55 (vd_21_55 E)) (ac_node (ac_leaf 58 (vd_21_58 E)) (ac_leaf 59 (vd_21_59 E)))) (ac_node (ac_node (ac_leaf 62 (vd_21_62 E)) (ac_leaf 63 (vd_21_63 E))) (ac_node (ac_leaf 64 (vd_21_64 E)) (ac_leaf 66 (vd_21_66 E)))))) (ac_node (ac_node (ac_node (ac_leaf 69 (vd_21_69 E)) (ac_node (ac_leaf 70 (vd_21_70 E)) (ac_leaf 73 (vd_21_73 E)))) (ac_node (ac_node (ac_leaf 74 (vd_21_74 E)) (ac_leaf 75 (vd_21_75 E))) (ac_node (ac_leaf 78 (vd_21_78 E)) (ac_leaf 79 (vd_21_79 E))))) (ac_node (ac_node (ac_node (ac_leaf 80 (vd_21_80 E)) (ac_leaf 81 (vd_21_81 E))) (ac_node (ac_leaf 82 (vd_21_82 E)) (ac_leaf 84 (vd_21_84 E)))) (ac_node (ac_node (ac_leaf 85 (vd_21_85 E)) (ac_leaf 86 (vd_21_86 E))) (ac_node (ac_leaf 89 (vd_21_89 E)) (ac_leaf 92 (vd_21_92 E))))))))
theorem vd_22_0 (E : ac_E) : ac_V E ac_MDf ac_HDf 22 0 (.inl (o_con (.int 0) 1)) := ⟨ok_iconst dd_22_0 (by decide), mn_con _ _⟩
theorem vd_22_1 (E : ac_E) : ac_V E ac_MDf ac_HDf 22 1 (.inl (o_ist 3 2)) := ⟨ok_istore_n dd_22_1, mn_ist _ _⟩
theorem vd_22_2 (E : ac_E) : ac_V E ac_MDf ac_HDf 22 2 (.inl (o_ild 3 3)) := ⟨ok_iload_n dd_22_2, mn_ild _ _⟩
theorem vd_22_3 (E : ac_E) : ac_V E ac_MDf ac_HDf 22 3 (.inl (o_ald 0 4)) := ⟨ok_aload_n dd_22_3, mn_ald _ _⟩
theorem vd_22_4 (E : ac_E) : ac_V E ac_MDf ac_HDf 22 4 (.inl (o_get 3 2 7)) := ⟨ok_getf (ci := 3) (f := 2) (C := RX3) (T := TX3) (N := 3) (ref := RX3) rfl win_3 (by decide) rfl wm_154 dd_22_4, mn_get _ _ _⟩
theorem vd_22_7 (E : ac_E) : ac_V E ac_MDf ac_HDf 22 7 (.inl (o_ge 53 10)) := ⟨ok_icmpge dd_22_7 (by decide), mn_ge _ _⟩
theorem vd_22_10 (E : ac_E) : ac_V E ac_MDf ac_HDf 22 10 (.inl (o_ald 0 11)) := ⟨ok_aload_n dd_22_10, mn_ald _ _⟩
theorem vd_22_11 (E : ac_E) : ac_V E ac_MDf ac_HDf 22 11 (.inl (o_get 3 0 14)) := ⟨ok_getf (ci := 3) (f := 0) (C := RX3) (T := TX3) (N := 3) (ref := RX3) rfl win_3 (by decide) rfl wm_150 dd_22_11, mn_get _ _ _⟩
theorem vd_22_14 (E : ac_E) : ac_V E ac_MDf ac_HDf 22 14 (.inl (o_ild 3 15)) := ⟨ok_iload_n dd_22_14, mn_ild _ _⟩
theorem vd_22_15 (E : ac_E) : ac_V E ac_MDf ac_HDf 22 15 (.inl (o_ia 16)) := ⟨ok_iaload dd_22_15, mn_ia _⟩
theorem vd_22_16 (E : ac_E) : ac_V E ac_MDf ac_HDf 22 16 (.inl (o_ild 1 17)) := ⟨ok_iload_n dd_22_16, mn_ild _ _⟩
theorem vd_22_17 (E : ac_E) : ac_V E ac_MDf ac_HDf 22 17 (.inl (o_ne 30 20)) := ⟨ok_icmpne dd_22_17 (by decide), mn_ne _ _⟩
theorem vd_22_20 (E : ac_E) : ac_V E ac_MDf ac_HDf 22 20 (.inl (o_ald 0 21)) := ⟨ok_aload_n dd_22_20, mn_ald _ _⟩
theorem vd_22_21 (E : ac_E) : ac_V E ac_MDf ac_HDf 22 21 (.inl (o_get 3 0 24)) := ⟨ok_getf (ci := 3) (f := 0) (C := RX3) (T := TX3) (N := 3) (ref := RX3) rfl win_3 (by decide) rfl wm_150 dd_22_21, mn_get _ _ _⟩
theorem vd_22_24 (E : ac_E) : ac_V E ac_MDf ac_HDf 22 24 (.inl (o_ild 3 25)) := ⟨ok_iload_n dd_22_24, mn_ild _ _⟩
theorem vd_22_25 (E : ac_E) : ac_V E ac_MDf ac_HDf 22 25 (.inl (o_ild 2 26)) := ⟨ok_iload_n dd_22_25, mn_ild _ _⟩
theorem vd_22_26 (E : ac_E) : ac_V E ac_MDf ac_HDf 22 26 (.inl (o_is 27)) := ⟨ok_iastore dd_22_26, mn_is _⟩
theorem vd_22_27 (E : ac_E) : ac_V E ac_MDf ac_HDf 22 27 (.inl (o_go 47)) := ⟨ok_goto dd_22_27 (by decide), mn_go _⟩
theorem vd_22_30 (E : ac_E) : ac_V E ac_MDf ac_HDf 22 30 (.inl (o_ald 0 31)) := ⟨ok_aload_n dd_22_30, mn_ald _ _⟩
theorem vd_22_31 (E : ac_E) : ac_V E ac_MDf ac_HDf 22 31 (.inl (o_get 3 0 34)) := ⟨ok_getf (ci := 3) (f := 0) (C := RX3) (T := TX3) (N := 3) (ref := RX3) rfl win_3 (by decide) rfl wm_150 dd_22_31, mn_get _ _ _⟩
theorem vd_22_34 (E : ac_E) : ac_V E ac_MDf ac_HDf 22 34 (.inl (o_ild 3 35)) := ⟨ok_iload_n dd_22_34, mn_ild _ _⟩
theorem vd_22_35 (E : ac_E) : ac_V E ac_MDf ac_HDf 22 35 (.inl (o_ia 36)) := ⟨ok_iaload dd_22_35, mn_ia _⟩
theorem vd_22_36 (E : ac_E) : ac_V E ac_MDf ac_HDf 22 36 (.inl (o_ild 2 37)) := ⟨ok_iload_n dd_22_36, mn_ild _ _⟩
theorem vd_22_37 (E : ac_E) : ac_V E ac_MDf ac_HDf 22 37 (.inl (o_ne 47 40)) := ⟨ok_icmpne dd_22_37 (by decide), mn_ne _ _⟩
theorem vd_22_40 (E : ac_E) : ac_V E ac_MDf ac_HDf 22 40 (.inl (o_ald 0 41)) := ⟨ok_aload_n dd_22_40, mn_ald _ _⟩
theorem vd_22_41 (E : ac_E) : ac_V E ac_MDf ac_HDf 22 41 (.inl (o_get 3 0 44)) := ⟨ok_getf (ci := 3) (f := 0) (C := RX3) (T := TX3) (N := 3) (ref := RX3) rfl win_3 (by decide) rfl wm_150 dd_22_41, mn_get _ _ _⟩
theorem vd_22_44 (E : ac_E) : ac_V E ac_MDf ac_HDf 22 44 (.inl (o_ild 3 45)) := ⟨ok_iload_n dd_22_44, mn_ild _ _⟩
theorem vd_22_45 (E : ac_E) : ac_V E ac_MDf ac_HDf 22 45 (.inl (o_ild 1 46)) := ⟨ok_iload_n dd_22_45, mn_ild _ _⟩
theorem vd_22_46 (E : ac_E) : ac_V E ac_MDf ac_HDf 22 46 (.inl (o_is 47)) := ⟨ok_iastore dd_22_46, mn_is _⟩
theorem vd_22_47 (E : ac_E) : ac_V E ac_MDf ac_HDf 22 47 (.inl (o_inc 3 1 50)) := ⟨ok_iinc dd_22_47 (by decide), mn_inc _ _ _⟩
theorem vd_22_50 (E : ac_E) : ac_V E ac_MDf ac_HDf 22 50 (.inl (o_go 2)) := ⟨ok_goto dd_22_50 (by decide), mn_go _⟩
theorem vd_22_53 (E : ac_E) : ac_V E ac_MDf ac_HDf 22 53 (.inr (.inr (.inl 0))) := ⟨fun _ => ⟨dd_22_53, rfl⟩, fun q => nomatch q, fun q => nomatch q⟩
theorem va_22 (E : ac_E) (pc : Nat) : ac_V E ac_MDf ac_HDf 22 pc (tb_22 (ac_len E) (ac_xs E) pc) := (ac_node (ac_node (ac_node (ac_node (ac_node (ac_leaf 0 (vd_22_0 E)) (ac_leaf 1 (vd_22_1 E))) (ac_node (ac_leaf 2 (vd_22_2 E)) (ac_leaf 3 (vd_22_3 E)))) (ac_node (ac_node (ac_leaf 4 (vd_22_4 E)) (ac_leaf 7 (vd_22_7 E))) (ac_node (ac_leaf 10 (vd_22_10 E)) (ac_leaf 11 (vd_22_11 E))))) (ac_node (ac_node (ac_node (ac_leaf 14 (vd_22_14 E)) (ac_leaf 15 (vd_22_15 E))) (ac_node (ac_leaf 16 (vd_22_16 E)) (ac_leaf 17 (vd_22_17 E)))) (ac_node (ac_node (ac_leaf 20 (vd_22_20 E)) (ac_leaf 21 (vd_22_21 E))) (ac_node (ac_leaf 24 (vd_22_24 E)) (ac_leaf 25 (vd_22_25 E)))))) (ac_node (ac_node (ac_node (ac_node (ac_leaf 26 (vd_22_26 E)) (ac_leaf 27 (vd_22_27 E))) (ac_node (ac_leaf 30 (vd_22_30 E)) (ac_leaf 31 (vd_22_31 E)))) (ac_node (ac_node (ac_leaf 34 (vd_22_34 E)) (ac_leaf 35 (vd_22_35 E))) (ac_node (ac_leaf 36 (vd_22_36 E)) (ac_leaf 37 (vd_22_37 E))))) (ac_node (ac_node (ac_node (ac_leaf 40 (vd_22_40 E)) (ac_leaf 41 (vd_22_41 E))) (ac_node (ac_leaf 44 (vd_22_44 E)) (ac_leaf 45 (vd_22_45 E)))) (ac_node (ac_node (ac_leaf 46 (vd_22_46 E)) (ac_leaf 47 (vd_22_47 E))) (ac_node (ac_leaf 50 (vd_22_50 E)) (ac_leaf 53 (vd_22_53 E)))))))
theorem vd_23_0 (E : ac_E) : ac_V E ac_MDf ac_HDf 23 0 (.inl (o_ald 0 1)) := ⟨ok_aload_n dd_23_0, mn_ald _ _⟩
theorem vd_23_1 (E : ac_E) : ac_V E ac_MDf ac_HDf 23 1 (.inl (o_obj1 4)) := ⟨ok_obj wm_72 wm_73 wm_74 (by decide) (by decide) dd_23_1, mn_obj1 _⟩
theorem vd_23_4 (E : ac_E) : ac_V E ac_MDf ac_HDf 23 4 (.inl (o_ald 0 5)) := ⟨ok_aload_n dd_23_4, mn_ald _ _⟩
theorem vd_23_5 (E : ac_E) : ac_V E ac_MDf ac_HDf 23 5 (.inl (o_new 2 [.int 0, .int 0, .int 0, .null] 8)) := ⟨ok_new (C := RX2) (T := TX2) (N := 4) rfl win_2 tyX2 tyX2_ok (nfs_2 E) rfl wm_75 wm_76 wm_51 dd_23_5, mn_new _ _ _⟩
theorem vd_23_8 (E : ac_E) : ac_V E ac_MDf ac_HDf 23 8 (.inl (o_dup 9)) := ⟨ok_dup dd_23_8, mn_dup _⟩
theorem vd_23_9 (E : ac_E) : ac_V E ac_MDf ac_HDf 23 9 (.inl (o_ild 1 10)) := ⟨ok_iload_n dd_23_9, mn_ild _ _⟩
theorem vd_23_10 (E : ac_E) : ac_V E ac_MDf ac_HDf 23 10 (.inr (.inl (42,1,13,0))) := ac_Vc0 ((ok_callS rfl (by decide) (by decide +kernel) wm_79 wm_50 wm_77 wm_78 dd_23_10).1) (fun _ => rfl)
theorem vd_23_13 (E : ac_E) : ac_V E ac_MDf ac_HDf 23 13 (.inl (o_ild 2 14)) := ⟨ok_iload_n dd_23_13, mn_ild _ _⟩
theorem vd_23_14 (E : ac_E) : ac_V E ac_MDf ac_HDf 23 14 (.inr (.inl (42,1,17,0))) := ac_Vc0 ((ok_callS rfl (by decide) (by decide +kernel) wm_79 wm_50 wm_77 wm_78 dd_23_14).1) (fun _ => rfl)
theorem vd_23_17 (E : ac_E) : ac_V E ac_MDf ac_HDf 23 17 (.inr (.inl (9,3,20,1))) := ac_Vc0 (ok_callIN rfl rfl rfl (by decide) (by decide +kernel) wm_82 wm_51 wm_80 wm_81 dd_23_17) (fun _ => rfl)
theorem vd_23_20 (E : ac_E) : ac_V E ac_MDf ac_HDf 23 20 (.inl (o_pur 4 0 23)) := ⟨ok_purF (ci := 4) (f := 0) (C := RX4) (T := TX4) (N := 12) (ref := RX4) rfl win_4 (by decide) rfl tyX4 tyX4_ok nmX4 (by decide +kernel : _ = some (.object "SixWayGas$Grid")) (Or.inl ⟨_, rfl⟩) rfl rfl rfl wm_163 dd_23_20, mn_pur _ _ _⟩
theorem vd_23_23 (E : ac_E) : ac_V E ac_MDf ac_HDf 23 23 (.inl (o_ald 0 24)) := ⟨ok_aload_n dd_23_23, mn_ald _ _⟩
theorem vd_23_24 (E : ac_E) : ac_V E ac_MDf ac_HDf 23 24 (.inl (o_ald 0 25)) := ⟨ok_aload_n dd_23_24, mn_ald _ _⟩
theorem vd_23_25 (E : ac_E) : ac_V E ac_MDf ac_HDf 23 25 (.inl (o_get 4 0 28)) := ⟨ok_getf (ci := 4) (f := 0) (C := RX4) (T := TX4) (N := 12) (ref := RX4) rfl win_4 (by decide) rfl wm_163 dd_23_25, mn_get _ _ _⟩
theorem vd_23_28 (E : ac_E) : ac_V E ac_MDf ac_HDf 23 28 (.inl (o_get 2 2 31)) := ⟨ok_getN (ci := 2) (f := 2) (C := RX2) (T := TX2) (N := 4) (ref := RX2) rfl win_2 (by decide) rfl wm_98 dd_23_28, mn_get _ _ _⟩
theorem vd_23_31 (E : ac_E) : ac_V E ac_MDf ac_HDf 23 31 (.inl (o_ni 33)) := ⟨ok_ni dd_23_31 wm_109, mn_ni _⟩
theorem vd_23_33 (E : ac_E) : ac_V E ac_MDf ac_HDf 23 33 (.inl (o_pur 4 1 36)) := ⟨ok_purF (ci := 4) (f := 1) (C := RX4) (T := TX4) (N := 12) (ref := RX4) rfl win_4 (by decide) rfl tyX4 tyX4_ok nmX4 (by decide +kernel : _ = some (.array .int)) (Or.inr ⟨_, rfl⟩) rfl rfl rfl wm_164 dd_23_33, mn_pur _ _ _⟩
theorem vd_23_36 (E : ac_E) : ac_V E ac_MDf ac_HDf 23 36 (.inl (o_ald 0 37)) := ⟨ok_aload_n dd_23_36, mn_ald _ _⟩
theorem vd_23_37 (E : ac_E) : ac_V E ac_MDf ac_HDf 23 37 (.inl (o_ald 0 38)) := ⟨ok_aload_n dd_23_37, mn_ald _ _⟩
theorem vd_23_38 (E : ac_E) : ac_V E ac_MDf ac_HDf 23 38 (.inl (o_get 4 0 41)) := ⟨ok_getf (ci := 4) (f := 0) (C := RX4) (T := TX4) (N := 12) (ref := RX4) rfl win_4 (by decide) rfl wm_163 dd_23_38, mn_get _ _ _⟩
theorem vd_23_41 (E : ac_E) : ac_V E ac_MDf ac_HDf 23 41 (.inl (o_get 2 2 44)) := ⟨ok_getN (ci := 2) (f := 2) (C := RX2) (T := TX2) (N := 4) (ref := RX2) rfl win_2 (by decide) rfl wm_98 dd_23_41, mn_get _ _ _⟩
theorem vd_23_44 (E : ac_E) : ac_V E ac_MDf ac_HDf 23 44 (.inl (o_ni 46)) := ⟨ok_ni dd_23_44 wm_109, mn_ni _⟩
theorem vd_23_46 (E : ac_E) : ac_V E ac_MDf ac_HDf 23 46 (.inl (o_pur 4 2 49)) := ⟨ok_purF (ci := 4) (f := 2) (C := RX4) (T := TX4) (N := 12) (ref := RX4) rfl win_4 (by decide) rfl tyX4 tyX4_ok nmX4 (by decide +kernel : _ = some (.array .int)) (Or.inr ⟨_, rfl⟩) rfl rfl rfl wm_165 dd_23_46, mn_pur _ _ _⟩
theorem vd_23_49 (E : ac_E) : ac_V E ac_MDf ac_HDf 23 49 (.inl (o_ald 0 50)) := ⟨ok_aload_n dd_23_49, mn_ald _ _⟩
theorem vd_23_50 (E : ac_E) : ac_V E ac_MDf ac_HDf 23 50 (.inl (o_new 1 [.null] 53)) := ⟨ok_new (C := RX1) (T := TX1) (N := 1) rfl win_1 tyX1 tyX1_ok (nfs_1 E) rfl wm_110 wm_111 wm_53 dd_23_50, mn_new _ _ _⟩
theorem vd_23_53 (E : ac_E) : ac_V E ac_MDf ac_HDf 23 53 (.inl (o_dup 54)) := ⟨ok_dup dd_23_53, mn_dup _⟩
theorem vd_23_54 (E : ac_E) : ac_V E ac_MDf ac_HDf 23 54 (.inr (.inl (7,1,57,1))) := ac_Vc0 (ok_callIN rfl rfl rfl (by decide) (by decide +kernel) wm_114 wm_53 wm_112 wm_113 dd_23_54) (fun _ => rfl)
theorem vd_23_57 (E : ac_E) : ac_V E ac_MDf ac_HDf 23 57 (.inl (o_pur 4 3 60)) := ⟨ok_purF (ci := 4) (f := 3) (C := RX4) (T := TX4) (N := 12) (ref := RX4) rfl win_4 (by decide) rfl tyX4 tyX4_ok nmX4 (by decide +kernel : _ = some (.object "SixWayGas$Books")) (Or.inl ⟨_, rfl⟩) rfl rfl rfl wm_166 dd_23_57, mn_pur _ _ _⟩
theorem vd_23_60 (E : ac_E) : ac_V E ac_MDf ac_HDf 23 60 (.inl (o_ald 0 61)) := ⟨ok_aload_n dd_23_60, mn_ald _ _⟩
theorem vd_23_61 (E : ac_E) : ac_V E ac_MDf ac_HDf 23 61 (.inl (o_new 0 [.int 0, .int 0, .int 0, .int 0] 64)) := ⟨ok_new (C := RX0) (T := TX0) (N := 4) rfl win_0 tyX0 tyX0_ok (nfs_0 E) rfl wm_121 wm_122 wm_54 dd_23_61, mn_new _ _ _⟩
theorem vd_23_64 (E : ac_E) : ac_V E ac_MDf ac_HDf 23 64 (.inl (o_dup 65)) := ⟨ok_dup dd_23_64, mn_dup _⟩
theorem vd_23_65 (E : ac_E) : ac_V E ac_MDf ac_HDf 23 65 (.inr (.inl (3,1,68,1))) := ac_Vc0 (ok_callIN rfl rfl rfl (by decide) (by decide +kernel) wm_125 wm_54 wm_123 wm_124 dd_23_65) (fun _ => rfl)
theorem vd_23_68 (E : ac_E) : ac_V E ac_MDf ac_HDf 23 68 (.inl (o_pur 4 4 71)) := ⟨ok_purF (ci := 4) (f := 4) (C := RX4) (T := TX4) (N := 12) (ref := RX4) rfl win_4 (by decide) rfl tyX4 tyX4_ok nmX4 (by decide +kernel : _ = some (.object "SixWayGas$BodyAccount")) (Or.inl ⟨_, rfl⟩) rfl rfl rfl wm_167 dd_23_68, mn_pur _ _ _⟩
theorem vd_23_71 (E : ac_E) : ac_V E ac_MDf ac_HDf 23 71 (.inl (o_ald 0 72)) := ⟨ok_aload_n dd_23_71, mn_ald _ _⟩
theorem vd_23_72 (E : ac_E) : ac_V E ac_MDf ac_HDf 23 72 (.inl (o_new 3 [.null, .null, .int 0] 75)) := ⟨ok_new (C := RX3) (T := TX3) (N := 3) rfl win_3 tyX3 tyX3_ok (nfs_3 E) rfl wm_144 wm_145 wm_55 dd_23_72, mn_new _ _ _⟩
theorem vd_23_75 (E : ac_E) : ac_V E ac_MDf ac_HDf 23 75 (.inl (o_dup 76)) := ⟨ok_dup dd_23_75, mn_dup _⟩
theorem vd_23_76 (E : ac_E) : ac_V E ac_MDf ac_HDf 23 76 (.inr (.inl (15,1,79,1))) := ac_Vc0 (ok_callIN rfl rfl rfl (by decide) (by decide +kernel) wm_148 wm_55 wm_146 wm_147 dd_23_76) (fun _ => rfl)
theorem vd_23_79 (E : ac_E) : ac_V E ac_MDf ac_HDf 23 79 (.inl (o_pur 4 5 82)) := ⟨ok_purF (ci := 4) (f := 5) (C := RX4) (T := TX4) (N := 12) (ref := RX4) rfl win_4 (by decide) rfl tyX4 tyX4_ok nmX4 (by decide +kernel : _ = some (.object "SixWayGas$Marks")) (Or.inl ⟨_, rfl⟩) rfl rfl rfl wm_168 dd_23_79, mn_pur _ _ _⟩
theorem vd_23_82 (E : ac_E) : ac_V E ac_MDf ac_HDf 23 82 (.inl (o_ald 0 83)) := ⟨ok_aload_n dd_23_82, mn_ald _ _⟩
theorem vd_23_83 (E : ac_E) : ac_V E ac_MDf ac_HDf 23 83 (.inl (o_ald 0 84)) := ⟨ok_aload_n dd_23_83, mn_ald _ _⟩
theorem vd_23_84 (E : ac_E) : ac_V E ac_MDf ac_HDf 23 84 (.inl (o_get 4 0 87)) := ⟨ok_getf (ci := 4) (f := 0) (C := RX4) (T := TX4) (N := 12) (ref := RX4) rfl win_4 (by decide) rfl wm_163 dd_23_84, mn_get _ _ _⟩
theorem vd_23_87 (E : ac_E) : ac_V E ac_MDf ac_HDf 23 87 (.inl (o_get 2 2 90)) := ⟨ok_getN (ci := 2) (f := 2) (C := RX2) (T := TX2) (N := 4) (ref := RX2) rfl win_2 (by decide) rfl wm_98 dd_23_87, mn_get _ _ _⟩
theorem vd_23_90 (E : ac_E) : ac_V E ac_MDf ac_HDf 23 90 (.inl (o_ni 92)) := ⟨ok_ni dd_23_90 wm_109, mn_ni _⟩
theorem vd_23_92 (E : ac_E) : ac_V E ac_MDf ac_HDf 23 92 (.inl (o_pur 4 6 95)) := ⟨ok_purF (ci := 4) (f := 6) (C := RX4) (T := TX4) (N := 12) (ref := RX4) rfl win_4 (by decide) rfl tyX4 tyX4_ok nmX4 (by decide +kernel : _ = some (.array .int)) (Or.inr ⟨_, rfl⟩) rfl rfl rfl wm_169 dd_23_92, mn_pur _ _ _⟩
theorem vd_23_95 (E : ac_E) : ac_V E ac_MDf ac_HDf 23 95 (.inl (o_ald 0 96)) := ⟨ok_aload_n dd_23_95, mn_ald _ _⟩
theorem vd_23_96 (E : ac_E) : ac_V E ac_MDf ac_HDf 23 96 (.inl (o_ald 0 97)) := ⟨ok_aload_n dd_23_96, mn_ald _ _⟩
theorem vd_23_97 (E : ac_E) : ac_V E ac_MDf ac_HDf 23 97 (.inl (o_get 4 0 100)) := ⟨ok_getf (ci := 4) (f := 0) (C := RX4) (T := TX4) (N := 12) (ref := RX4) rfl win_4 (by decide) rfl wm_163 dd_23_97, mn_get _ _ _⟩
theorem vd_23_100 (E : ac_E) : ac_V E ac_MDf ac_HDf 23 100 (.inl (o_get 2 2 103)) := ⟨ok_getN (ci := 2) (f := 2) (C := RX2) (T := TX2) (N := 4) (ref := RX2) rfl win_2 (by decide) rfl wm_98 dd_23_100, mn_get _ _ _⟩
theorem vd_23_103 (E : ac_E) : ac_V E ac_MDf ac_HDf 23 103 (.inl (o_ni 105)) := ⟨ok_ni dd_23_103 wm_109, mn_ni _⟩
theorem vd_23_105 (E : ac_E) : ac_V E ac_MDf ac_HDf 23 105 (.inl (o_pur 4 7 108)) := ⟨ok_purF (ci := 4) (f := 7) (C := RX4) (T := TX4) (N := 12) (ref := RX4) rfl win_4 (by decide) rfl tyX4 tyX4_ok nmX4 (by decide +kernel : _ = some (.array .int)) (Or.inr ⟨_, rfl⟩) rfl rfl rfl wm_170 dd_23_105, mn_pur _ _ _⟩
theorem vd_23_108 (E : ac_E) : ac_V E ac_MDf ac_HDf 23 108 (.inl (o_ald 0 109)) := ⟨ok_aload_n dd_23_108, mn_ald _ _⟩
theorem vd_23_109 (E : ac_E) : ac_V E ac_MDf ac_HDf 23 109 (.inl (o_ald 0 110)) := ⟨ok_aload_n dd_23_109, mn_ald _ _⟩
theorem vd_23_110 (E : ac_E) : ac_V E ac_MDf ac_HDf 23 110 (.inl (o_get 4 0 113)) := ⟨ok_getf (ci := 4) (f := 0) (C := RX4) (T := TX4) (N := 12) (ref := RX4) rfl win_4 (by decide) rfl wm_163 dd_23_110, mn_get _ _ _⟩
theorem vd_23_113 (E : ac_E) : ac_V E ac_MDf ac_HDf 23 113 (.inl (o_get 2 2 116)) := ⟨ok_getN (ci := 2) (f := 2) (C := RX2) (T := TX2) (N := 4) (ref := RX2) rfl win_2 (by decide) rfl wm_98 dd_23_113, mn_get _ _ _⟩
theorem vd_23_116 (E : ac_E) : ac_V E ac_MDf ac_HDf 23 116 (.inl (o_ni 118)) := ⟨ok_ni dd_23_116 wm_109, mn_ni _⟩
theorem vd_23_118 (E : ac_E) : ac_V E ac_MDf ac_HDf 23 118 (.inl (o_pur 4 8 121)) := ⟨ok_purf (ci := 4) (f := 8) (C := RX4) (T := TX4) (N := 12) (ref := RX4) rfl win_4 (by decide) rfl tyX4 tyX4_ok nmX4 (by decide +kernel : _ = some (.array .int)) (Or.inr ⟨_, rfl⟩) rfl wm_171 dd_23_118, mn_pur _ _ _⟩
theorem vd_23_121 (E : ac_E) : ac_V E ac_MDf ac_HDf 23 121 (.inl (o_ald 0 122)) := ⟨ok_aload_n dd_23_121, mn_ald _ _⟩
theorem vd_23_122 (E : ac_E) : ac_V E ac_MDf ac_HDf 23 122 (.inl (o_ald 0 123)) := ⟨ok_aload_n dd_23_122, mn_ald _ _⟩
theorem vd_23_123 (E : ac_E) : ac_V E ac_MDf ac_HDf 23 123 (.inl (o_get 4 0 126)) := ⟨ok_getf (ci := 4) (f := 0) (C := RX4) (T := TX4) (N := 12) (ref := RX4) rfl win_4 (by decide) rfl wm_163 dd_23_123, mn_get _ _ _⟩
theorem vd_23_126 (E : ac_E) : ac_V E ac_MDf ac_HDf 23 126 (.inl (o_get 2 2 129)) := ⟨ok_getN (ci := 2) (f := 2) (C := RX2) (T := TX2) (N := 4) (ref := RX2) rfl win_2 (by decide) rfl wm_98 dd_23_126, mn_get _ _ _⟩
theorem vd_23_129 (E : ac_E) : ac_V E ac_MDf ac_HDf 23 129 (.inl (o_ni 131)) := ⟨ok_ni dd_23_129 wm_109, mn_ni _⟩
theorem vd_23_131 (E : ac_E) : ac_V E ac_MDf ac_HDf 23 131 (.inl (o_pur 4 9 134)) := ⟨ok_purf (ci := 4) (f := 9) (C := RX4) (T := TX4) (N := 12) (ref := RX4) rfl win_4 (by decide) rfl tyX4 tyX4_ok nmX4 (by decide +kernel : _ = some (.array .int)) (Or.inr ⟨_, rfl⟩) rfl wm_172 dd_23_131, mn_pur _ _ _⟩
theorem vd_23_134 (E : ac_E) : ac_V E ac_MDf ac_HDf 23 134 (.inl (o_ald 0 135)) := ⟨ok_aload_n dd_23_134, mn_ald _ _⟩
theorem vd_23_135 (E : ac_E) : ac_V E ac_MDf ac_HDf 23 135 (.inl (o_con (.int 0) 136)) := ⟨ok_iconst dd_23_135 (by decide), mn_con _ _⟩
theorem vd_23_136 (E : ac_E) : ac_V E ac_MDf ac_HDf 23 136 (.inl (o_put 4 10 139)) := ⟨ok_putf (ci := 4) (f := 10) (C := RX4) (T := TX4) (N := 12) (ref := RX4) rfl win_4 (by decide) rfl tyX4 tyX4_ok nmX4 (by decide +kernel) rfl wm_173 dd_23_136, mn_put _ _ _⟩
theorem vd_23_139 (E : ac_E) : ac_V E ac_MDf ac_HDf 23 139 (.inl (o_ald 0 140)) := ⟨ok_aload_n dd_23_139, mn_ald _ _⟩
theorem vd_23_140 (E : ac_E) : ac_V E ac_MDf ac_HDf 23 140 (.inl (o_con (.int 0) 141)) := ⟨ok_iconst dd_23_140 (by decide), mn_con _ _⟩
theorem vd_23_141 (E : ac_E) : ac_V E ac_MDf ac_HDf 23 141 (.inl (o_put 4 11 144)) := ⟨ok_putf (ci := 4) (f := 11) (C := RX4) (T := TX4) (N := 12) (ref := RX4) rfl win_4 (by decide) rfl tyX4 tyX4_ok nmX4 (by decide +kernel) rfl wm_174 dd_23_141, mn_put _ _ _⟩
theorem vd_23_144 (E : ac_E) : ac_V E ac_MDf ac_HDf 23 144 (.inr (.inr (.inl 0))) := ⟨fun _ => ⟨dd_23_144, rfl⟩, fun q => nomatch q, fun q => nomatch q⟩
theorem va_23 (E : ac_E) (pc : Nat) : ac_V E ac_MDf ac_HDf 23 pc (tb_23 (ac_len E) (ac_xs E) pc) := (ac_node (ac_node (ac_node (ac_node (ac_node (ac_node (ac_leaf 0 (vd_23_0 E)) (ac_leaf 1 (vd_23_1 E))) (ac_node (ac_leaf 4 (vd_23_4 E)) (ac_leaf 5 (vd_23_5 E)))) (ac_node (ac_node (ac_leaf 8 (vd_23_8 E)) (ac_leaf 9 (vd_23_9 E))) (ac_node (ac_leaf 10 (vd_23_10 E)) (ac_leaf 13 (vd_23_13 E))))) (ac_node (ac_node (ac_node (ac_leaf 14 (vd_23_14 E)) (ac_leaf 17 (vd_23_17 E))) (ac_node (ac_leaf 20 (vd_23_20 E)) (ac_leaf 23 (vd_23_23 E)))) (ac_node (ac_node (ac_leaf 24 (vd_23_24 E)) (ac_leaf 25 (vd_23_25 E))) (ac_node (ac_leaf 28 (vd_23_28 E)) (ac_node (ac_leaf 31 (vd_23_31 E)) (ac_leaf 33 (vd_23_33 E))))))) (ac_node (ac_node (ac_node (ac_node (ac_leaf 36 (vd_23_36 E)) (ac_leaf 37 (vd_23_37 E))) (ac_node (ac_leaf 38 (vd_23_38 E)) (ac_leaf 41 (vd_23_41 E)))) (ac_node (ac_node (ac_leaf 44 (vd_23_44 E)) (ac_leaf 46 (vd_23_46 E))) (ac_node (ac_leaf 49 (vd_23_49 E)) (ac_leaf 50 (vd_23_50 E))))) (ac_node (ac_node (ac_node (ac_leaf 53 (vd_23_53 E)) (ac_leaf 54 (vd_23_54 E))) (ac_node (ac_leaf 57 (vd_23_57 E)) (ac_leaf 60 (vd_23_60 E)))) (ac_node (ac_node (ac_leaf 61 (vd_23_61 E)) (ac_leaf 64 (vd_23_64 E))) (ac_node (ac_leaf 65 (vd_23_65 E)) (ac_node (ac_leaf 68 (vd_23_68 E)) (ac_leaf 71 (vd_23_71 E)))))))) (ac_node (ac_node (ac_node (ac_node (ac_node (ac_leaf 72 (vd_23_72 E)) (ac_leaf 75 (vd_23_75 E))) (ac_node (ac_leaf 76 (vd_23_76 E)) (ac_leaf 79 (vd_23_79 E)))) (ac_node (ac_node (ac_leaf 82 (vd_23_82 E)) (ac_leaf 83 (vd_23_83 E))) (ac_node (ac_leaf 84 (vd_23_84 E)) (ac_leaf 87 (vd_23_87 E))))) (ac_node (ac_node (ac_node (ac_leaf 90 (vd_23_90 E)) (ac_leaf 92 (vd_23_92 E))) (ac_node (ac_leaf 95 (vd_23_95 E)) (ac_leaf 96 (vd_23_96 E)))) (ac_node (ac_node (ac_leaf 97 (vd_23_97 E)) (ac_leaf 100 (vd_23_100 E))) (ac_node (ac_leaf 103 (vd_23_103 E)) (ac_node (ac_leaf 105 (vd_23_105 E)) (ac_leaf 108 (vd_23_108 E))))))) (ac_node (ac_node (ac_node (ac_node (ac_leaf 109 (vd_23_109 E)) (ac_leaf 110 (vd_23_110 E))) (ac_node (ac_leaf 113 (vd_23_113 E)) (ac_leaf 116 (vd_23_116 E)))) (ac_node (ac_node (ac_leaf 118 (vd_23_118 E)) (ac_leaf 121 (vd_23_121 E))) (ac_node (ac_leaf 122 (vd_23_122 E)) (ac_node (ac_leaf 123 (vd_23_123 E)) (ac_leaf 126 (vd_23_126 E)))))) (ac_node (ac_node (ac_node (ac_leaf 129 (vd_23_129 E)) (ac_leaf 131 (vd_23_131 E))) (ac_node (ac_leaf 134 (vd_23_134 E)) (ac_leaf 135 (vd_23_135 E)))) (ac_node (ac_node (ac_leaf 136 (vd_23_136 E)) (ac_leaf 139 (vd_23_139 E))) (ac_node (ac_leaf 140 (vd_23_140 E)) (ac_node (ac_leaf 141 (vd_23_141 E)) (ac_leaf 144 (vd_23_144 E)))))))))
theorem vd_24_0 (E : ac_E) : ac_V E ac_MDf ac_HDf 24 0 (.inl (o_ald 0 1)) := ⟨ok_aload_n dd_24_0, mn_ald _ _⟩
theorem vd_24_1 (E : ac_E) : ac_V E ac_MDf ac_HDf 24 1 (.inl (o_ild 1 2)) := ⟨ok_iload_n dd_24_1, mn_ild _ _⟩
theorem vd_24_2 (E : ac_E) : ac_V E ac_MDf ac_HDf 24 2 (.inl (o_ild 2 3)) := ⟨ok_iload_n dd_24_2, mn_ild _ _⟩
theorem vd_24_3 (E : ac_E) : ac_V E ac_MDf ac_HDf 24 3 (.inr (.inl (43,3,6,6))) := ac_Vcp (ok_callV (T := TX4) (N := 12) rfl rfl (by decide) (by decide +kernel) wm_231 wm_50 wm_228 wm_230 wm_2 dd_24_3) rfl (fun _ => rfl)
theorem vd_24_6 (E : ac_E) : ac_V E ac_MDf ac_HDf 24 6 (.inl (o_ist 4 8)) := ⟨ok_istore dd_24_6, mn_ist _ _⟩
theorem vd_24_8 (E : ac_E) : ac_V E ac_MDf ac_HDf 24 8 (.inl (o_ild 3 9)) := ⟨ok_iload_n dd_24_8, mn_ild _ _⟩
theorem vd_24_9 (E : ac_E) : ac_V E ac_MDf ac_HDf 24 9 (.inr (.inl (44,1,12,0))) := ac_Vcp (ok_callS rfl (by decide) (by decide +kernel) wm_304 wm_50 wm_302 wm_303 dd_24_9) rfl (fun _ => rfl)
theorem vd_24_12 (E : ac_E) : ac_V E ac_MDf ac_HDf 24 12 (.inl (o_ald 0 13)) := ⟨ok_aload_n dd_24_12, mn_ald _ _⟩
theorem vd_24_13 (E : ac_E) : ac_V E ac_MDf ac_HDf 24 13 (.inl (o_get 4 8 16)) := ⟨ok_getf (ci := 4) (f := 8) (C := RX4) (T := TX4) (N := 12) (ref := RX4) rfl win_4 (by decide) rfl wm_171 dd_24_13, mn_get _ _ _⟩
theorem vd_24_16 (E : ac_E) : ac_V E ac_MDf ac_HDf 24 16 (.inl (o_ild 4 18)) := ⟨ok_iload dd_24_16, mn_ild _ _⟩
theorem vd_24_18 (E : ac_E) : ac_V E ac_MDf ac_HDf 24 18 (.inl (o_ild 3 19)) := ⟨ok_iload_n dd_24_18, mn_ild _ _⟩
theorem vd_24_19 (E : ac_E) : ac_V E ac_MDf ac_HDf 24 19 (.inl (o_is 20)) := ⟨ok_iastore dd_24_19, mn_is _⟩
theorem vd_24_20 (E : ac_E) : ac_V E ac_MDf ac_HDf 24 20 (.inl (o_ald 0 21)) := ⟨ok_aload_n dd_24_20, mn_ald _ _⟩
theorem vd_24_21 (E : ac_E) : ac_V E ac_MDf ac_HDf 24 21 (.inl (o_get 4 5 24)) := ⟨ok_getf (ci := 4) (f := 5) (C := RX4) (T := TX4) (N := 12) (ref := RX4) rfl win_4 (by decide) rfl wm_168 dd_24_21, mn_get _ _ _⟩
theorem vd_24_24 (E : ac_E) : ac_V E ac_MDf ac_HDf 24 24 (.inl (o_ild 4 26)) := ⟨ok_iload dd_24_24, mn_ild _ _⟩
theorem vd_24_26 (E : ac_E) : ac_V E ac_MDf ac_HDf 24 26 (.inr (.inl (18,2,29,5))) := ac_Vc0 (ok_callVN (T := TX3) (N := 3) rfl rfl (by decide) (by decide +kernel) wm_327 wm_55 wm_324 wm_326 wm_4 dd_24_26) (fun _ => rfl)
theorem vd_24_29 (E : ac_E) : ac_V E ac_MDf ac_HDf 24 29 (.inr (.inr (.inl 0))) := ⟨fun _ => ⟨dd_24_29, rfl⟩, fun q => nomatch q, fun q => nomatch q⟩
theorem va_24 (E : ac_E) (pc : Nat) : ac_V E ac_MDf ac_HDf 24 pc (tb_24 (ac_len E) (ac_xs E) pc) := (ac_node (ac_node (ac_node (ac_node (ac_leaf 0 (vd_24_0 E)) (ac_leaf 1 (vd_24_1 E))) (ac_node (ac_leaf 2 (vd_24_2 E)) (ac_leaf 3 (vd_24_3 E)))) (ac_node (ac_node (ac_leaf 6 (vd_24_6 E)) (ac_leaf 8 (vd_24_8 E))) (ac_node (ac_leaf 9 (vd_24_9 E)) (ac_leaf 12 (vd_24_12 E))))) (ac_node (ac_node (ac_node (ac_leaf 13 (vd_24_13 E)) (ac_leaf 16 (vd_24_16 E))) (ac_node (ac_leaf 18 (vd_24_18 E)) (ac_leaf 19 (vd_24_19 E)))) (ac_node (ac_node (ac_leaf 20 (vd_24_20 E)) (ac_leaf 21 (vd_24_21 E))) (ac_node (ac_leaf 24 (vd_24_24 E)) (ac_node (ac_leaf 26 (vd_24_26 E)) (ac_leaf 29 (vd_24_29 E)))))))
theorem vd_25_0 (E : ac_E) : ac_V E ac_MDf ac_HDf 25 0 (.inl (o_ald 0 1)) := ⟨ok_aload_n dd_25_0, mn_ald _ _⟩
theorem vd_25_1 (E : ac_E) : ac_V E ac_MDf ac_HDf 25 1 (.inl (o_get 4 8 4)) := ⟨ok_getf (ci := 4) (f := 8) (C := RX4) (T := TX4) (N := 12) (ref := RX4) rfl win_4 (by decide) rfl wm_171 dd_25_1, mn_get _ _ _⟩
theorem vd_25_4 (E : ac_E) : ac_V E ac_MDf ac_HDf 25 4 (.inl (o_ald 0 5)) := ⟨ok_aload_n dd_25_4, mn_ald _ _⟩
theorem vd_25_5 (E : ac_E) : ac_V E ac_MDf ac_HDf 25 5 (.inl (o_ild 1 6)) := ⟨ok_iload_n dd_25_5, mn_ild _ _⟩
theorem vd_25_6 (E : ac_E) : ac_V E ac_MDf ac_HDf 25 6 (.inl (o_ild 2 7)) := ⟨ok_iload_n dd_25_6, mn_ild _ _⟩
theorem vd_25_7 (E : ac_E) : ac_V E ac_MDf ac_HDf 25 7 (.inr (.inl (43,3,10,6))) := ac_Vcp (ok_callV (T := TX4) (N := 12) rfl rfl (by decide) (by decide +kernel) wm_231 wm_50 wm_228 wm_230 wm_2 dd_25_7) rfl (fun _ => rfl)
theorem vd_25_10 (E : ac_E) : ac_V E ac_MDf ac_HDf 25 10 (.inl (o_ia 11)) := ⟨ok_iaload dd_25_10, mn_ia _⟩
theorem vd_25_11 (E : ac_E) : ac_V E ac_MDf ac_HDf 25 11 (.inr (.inr (.inl 1))) := ⟨fun q => nomatch q, fun _ => ⟨dd_25_11, rfl⟩, fun q => nomatch q⟩
theorem va_25 (E : ac_E) (pc : Nat) : ac_V E ac_MDf ac_HDf 25 pc (tb_25 (ac_len E) (ac_xs E) pc) := (ac_node (ac_node (ac_node (ac_leaf 0 (vd_25_0 E)) (ac_leaf 1 (vd_25_1 E))) (ac_node (ac_leaf 4 (vd_25_4 E)) (ac_leaf 5 (vd_25_5 E)))) (ac_node (ac_node (ac_leaf 6 (vd_25_6 E)) (ac_leaf 7 (vd_25_7 E))) (ac_node (ac_leaf 10 (vd_25_10 E)) (ac_leaf 11 (vd_25_11 E)))))
theorem vd_26_0 (E : ac_E) : ac_V E ac_MDf ac_HDf 26 0 (.inl (o_ild 1 1)) := ⟨ok_iload_n dd_26_0, mn_ild _ _⟩
theorem vd_26_1 (E : ac_E) : ac_V E ac_MDf ac_HDf 26 1 (.inr (.inl (44,1,4,0))) := ac_Vcp (ok_callS rfl (by decide) (by decide +kernel) wm_304 wm_50 wm_302 wm_303 dd_26_1) rfl (fun _ => rfl)
theorem vd_26_4 (E : ac_E) : ac_V E ac_MDf ac_HDf 26 4 (.inl (o_ild 2 5)) := ⟨ok_iload_n dd_26_4, mn_ild _ _⟩
theorem vd_26_5 (E : ac_E) : ac_V E ac_MDf ac_HDf 26 5 (.inl (o_con (.int 0) 6)) := ⟨ok_iconst dd_26_5 (by decide), mn_con _ _⟩
theorem vd_26_6 (E : ac_E) : ac_V E ac_MDf ac_HDf 26 6 (.inl (o_con (.int 1) 7)) := ⟨ok_iconst dd_26_6 (by decide), mn_con _ _⟩
theorem vd_26_7 (E : ac_E) : ac_V E ac_MDf ac_HDf 26 7 (.inr (.inl (45,3,10,0))) := ac_Vcp (ok_callS rfl (by decide) (by decide +kernel) wm_307 wm_50 wm_305 wm_306 dd_26_7) rfl (fun _ => rfl)
theorem vd_26_10 (E : ac_E) : ac_V E ac_MDf ac_HDf 26 10 (.inl (o_ild 1 11)) := ⟨ok_iload_n dd_26_10, mn_ild _ _⟩
theorem vd_26_11 (E : ac_E) : ac_V E ac_MDf ac_HDf 26 11 (.inl (o_ild 2 12)) := ⟨ok_iload_n dd_26_11, mn_ild _ _⟩
theorem vd_26_12 (E : ac_E) : ac_V E ac_MDf ac_HDf 26 12 (.inr (.inl (51,2,15,0))) := ac_Vc0 ((ok_callS rfl (by decide) (by decide +kernel) wm_344 wm_50 wm_342 wm_343 dd_26_12).1) (fun _ => rfl)
theorem vd_26_15 (E : ac_E) : ac_V E ac_MDf ac_HDf 26 15 (.inr (.inr (.inl 1))) := ⟨fun q => nomatch q, fun _ => ⟨dd_26_15, rfl⟩, fun q => nomatch q⟩
theorem va_26 (E : ac_E) (pc : Nat) : ac_V E ac_MDf ac_HDf 26 pc (tb_26 (ac_len E) (ac_xs E) pc) := (ac_node (ac_node (ac_node (ac_leaf 0 (vd_26_0 E)) (ac_leaf 1 (vd_26_1 E))) (ac_node (ac_leaf 4 (vd_26_4 E)) (ac_node (ac_leaf 5 (vd_26_5 E)) (ac_leaf 6 (vd_26_6 E))))) (ac_node (ac_node (ac_leaf 7 (vd_26_7 E)) (ac_leaf 10 (vd_26_10 E))) (ac_node (ac_leaf 11 (vd_26_11 E)) (ac_node (ac_leaf 12 (vd_26_12 E)) (ac_leaf 15 (vd_26_15 E))))))
theorem vd_27_0 (E : ac_E) : ac_V E ac_MDf ac_HDf 27 0 (.inl (o_ald 0 1)) := ⟨ok_aload_n dd_27_0, mn_ald _ _⟩
theorem vd_27_1 (E : ac_E) : ac_V E ac_MDf ac_HDf 27 1 (.inl (o_ald 0 2)) := ⟨ok_aload_n dd_27_1, mn_ald _ _⟩
theorem vd_27_2 (E : ac_E) : ac_V E ac_MDf ac_HDf 27 2 (.inl (o_ild 1 3)) := ⟨ok_iload_n dd_27_2, mn_ild _ _⟩
theorem vd_27_3 (E : ac_E) : ac_V E ac_MDf ac_HDf 27 3 (.inl (o_ild 2 4)) := ⟨ok_iload_n dd_27_3, mn_ild _ _⟩
theorem vd_27_4 (E : ac_E) : ac_V E ac_MDf ac_HDf 27 4 (.inr (.inl (43,3,7,6))) := ac_Vcp (ok_callV (T := TX4) (N := 12) rfl rfl (by decide) (by decide +kernel) wm_231 wm_50 wm_228 wm_230 wm_2 dd_27_4) rfl (fun _ => rfl)
theorem vd_27_7 (E : ac_E) : ac_V E ac_MDf ac_HDf 27 7 (.inl (o_con (.int 1) 8)) := ⟨ok_iconst dd_27_7 (by decide), mn_con _ _⟩
theorem vd_27_8 (E : ac_E) : ac_V E ac_MDf ac_HDf 27 8 (.inl (o_ild 3 9)) := ⟨ok_iload_n dd_27_8, mn_ild _ _⟩
theorem vd_27_9 (E : ac_E) : ac_V E ac_MDf ac_HDf 27 9 (.inr (.inl (46,4,12,6))) := ac_Vcp (ok_callV (T := TX4) (N := 12) rfl rfl (by decide) (by decide +kernel) wm_365 wm_50 wm_362 wm_364 wm_5 dd_27_9) rfl (fun _ => rfl)
theorem vd_27_12 (E : ac_E) : ac_V E ac_MDf ac_HDf 27 12 (.inr (.inr (.inl 2))) := ⟨fun q => nomatch q, fun q => nomatch q, fun _ => ⟨dd_27_12, rfl⟩⟩
theorem va_27 (E : ac_E) (pc : Nat) : ac_V E ac_MDf ac_HDf 27 pc (tb_27 (ac_len E) (ac_xs E) pc) := (ac_node (ac_node (ac_node (ac_leaf 0 (vd_27_0 E)) (ac_leaf 1 (vd_27_1 E))) (ac_node (ac_leaf 2 (vd_27_2 E)) (ac_leaf 3 (vd_27_3 E)))) (ac_node (ac_node (ac_leaf 4 (vd_27_4 E)) (ac_leaf 7 (vd_27_7 E))) (ac_node (ac_leaf 8 (vd_27_8 E)) (ac_node (ac_leaf 9 (vd_27_9 E)) (ac_leaf 12 (vd_27_12 E))))))
theorem vd_28_0 (E : ac_E) : ac_V E ac_MDf ac_HDf 28 0 (.inl (o_ald 0 1)) := ⟨ok_aload_n dd_28_0, mn_ald _ _⟩
theorem vd_28_1 (E : ac_E) : ac_V E ac_MDf ac_HDf 28 1 (.inl (o_ild 1 2)) := ⟨ok_iload_n dd_28_1, mn_ild _ _⟩
theorem vd_28_2 (E : ac_E) : ac_V E ac_MDf ac_HDf 28 2 (.inl (o_ild 2 3)) := ⟨ok_iload_n dd_28_2, mn_ild _ _⟩
theorem vd_28_3 (E : ac_E) : ac_V E ac_MDf ac_HDf 28 3 (.inr (.inl (43,3,6,6))) := ac_Vcp (ok_callV (T := TX4) (N := 12) rfl rfl (by decide) (by decide +kernel) wm_231 wm_50 wm_228 wm_230 wm_2 dd_28_3) rfl (fun _ => rfl)
theorem vd_28_6 (E : ac_E) : ac_V E ac_MDf ac_HDf 28 6 (.inl (o_ist 4 8)) := ⟨ok_istore dd_28_6, mn_ist _ _⟩
theorem vd_28_8 (E : ac_E) : ac_V E ac_MDf ac_HDf 28 8 (.inl (o_ild 3 9)) := ⟨ok_iload_n dd_28_8, mn_ild _ _⟩
theorem vd_28_9 (E : ac_E) : ac_V E ac_MDf ac_HDf 28 9 (.inl (o_con (.int 0) 10)) := ⟨ok_iconst dd_28_9 (by decide), mn_con _ _⟩
theorem vd_28_10 (E : ac_E) : ac_V E ac_MDf ac_HDf 28 10 (.inl (o_con (.int 256) 13)) := ⟨ok_sipush dd_28_10 (by decide), mn_con _ _⟩
theorem vd_28_13 (E : ac_E) : ac_V E ac_MDf ac_HDf 28 13 (.inr (.inl (45,3,16,0))) := ac_Vcp (ok_callS rfl (by decide) (by decide +kernel) wm_307 wm_50 wm_305 wm_306 dd_28_13) rfl (fun _ => rfl)
theorem vd_28_16 (E : ac_E) : ac_V E ac_MDf ac_HDf 28 16 (.inl (o_ald 0 17)) := ⟨ok_aload_n dd_28_16, mn_ald _ _⟩
theorem vd_28_17 (E : ac_E) : ac_V E ac_MDf ac_HDf 28 17 (.inl (o_ild 4 19)) := ⟨ok_iload dd_28_17, mn_ild _ _⟩
theorem vd_28_19 (E : ac_E) : ac_V E ac_MDf ac_HDf 28 19 (.inl (o_con (.int 2) 20)) := ⟨ok_iconst dd_28_19 (by decide), mn_con _ _⟩
theorem vd_28_20 (E : ac_E) : ac_V E ac_MDf ac_HDf 28 20 (.inl (o_ild 3 21)) := ⟨ok_iload_n dd_28_20, mn_ild _ _⟩
theorem vd_28_21 (E : ac_E) : ac_V E ac_MDf ac_HDf 28 21 (.inl (o_le0 28 24)) := ⟨ok_ifle dd_28_21 (by decide), mn_le0 _ _⟩
theorem vd_28_24 (E : ac_E) : ac_V E ac_MDf ac_HDf 28 24 (.inl (o_con (.int 1) 25)) := ⟨ok_iconst dd_28_24 (by decide), mn_con _ _⟩
theorem vd_28_25 (E : ac_E) : ac_V E ac_MDf ac_HDf 28 25 (.inl (o_go 29)) := ⟨ok_goto dd_28_25 (by decide), mn_go _⟩
theorem vd_28_28 (E : ac_E) : ac_V E ac_MDf ac_HDf 28 28 (.inl (o_con (.int 0) 29)) := ⟨ok_iconst dd_28_28 (by decide), mn_con _ _⟩
theorem vd_28_29 (E : ac_E) : ac_V E ac_MDf ac_HDf 28 29 (.inr (.inl (46,4,32,6))) := ac_Vcp (ok_callV (T := TX4) (N := 12) rfl rfl (by decide) (by decide +kernel) wm_365 wm_50 wm_362 wm_364 wm_5 dd_28_29) rfl (fun _ => rfl)
theorem vd_28_32 (E : ac_E) : ac_V E ac_MDf ac_HDf 28 32 (.inl (o_pop 33)) := ⟨ok_pop dd_28_32, mn_pop _⟩
theorem vd_28_33 (E : ac_E) : ac_V E ac_MDf ac_HDf 28 33 (.inl (o_ald 0 34)) := ⟨ok_aload_n dd_28_33, mn_ald _ _⟩
theorem vd_28_34 (E : ac_E) : ac_V E ac_MDf ac_HDf 28 34 (.inl (o_get 4 2 37)) := ⟨ok_getf (ci := 4) (f := 2) (C := RX4) (T := TX4) (N := 12) (ref := RX4) rfl win_4 (by decide) rfl wm_165 dd_28_34, mn_get _ _ _⟩
theorem vd_28_37 (E : ac_E) : ac_V E ac_MDf ac_HDf 28 37 (.inl (o_ild 4 39)) := ⟨ok_iload dd_28_37, mn_ild _ _⟩
theorem vd_28_39 (E : ac_E) : ac_V E ac_MDf ac_HDf 28 39 (.inl (o_ild 3 40)) := ⟨ok_iload_n dd_28_39, mn_ild _ _⟩
theorem vd_28_40 (E : ac_E) : ac_V E ac_MDf ac_HDf 28 40 (.inl (o_is 41)) := ⟨ok_iastore dd_28_40, mn_is _⟩
theorem vd_28_41 (E : ac_E) : ac_V E ac_MDf ac_HDf 28 41 (.inr (.inr (.inl 0))) := ⟨fun _ => ⟨dd_28_41, rfl⟩, fun q => nomatch q, fun q => nomatch q⟩
theorem va_28 (E : ac_E) (pc : Nat) : ac_V E ac_MDf ac_HDf 28 pc (tb_28 (ac_len E) (ac_xs E) pc) := (ac_node (ac_node (ac_node (ac_node (ac_leaf 0 (vd_28_0 E)) (ac_node (ac_leaf 1 (vd_28_1 E)) (ac_leaf 2 (vd_28_2 E)))) (ac_node (ac_leaf 3 (vd_28_3 E)) (ac_node (ac_leaf 6 (vd_28_6 E)) (ac_leaf 8 (vd_28_8 E))))) (ac_node (ac_node (ac_leaf 9 (vd_28_9 E)) (ac_node (ac_leaf 10 (vd_28_10 E)) (ac_leaf 13 (vd_28_13 E)))) (ac_node (ac_leaf 16 (vd_28_16 E)) (ac_node (ac_leaf 17 (vd_28_17 E)) (ac_leaf 19 (vd_28_19 E)))))) (ac_node (ac_node (ac_node (ac_leaf 20 (vd_28_20 E)) (ac_node (ac_leaf 21 (vd_28_21 E)) (ac_leaf 24 (vd_28_24 E)))) (ac_node (ac_leaf 25 (vd_28_25 E)) (ac_node (ac_leaf 28 (vd_28_28 E)) (ac_leaf 29 (vd_28_29 E))))) (ac_node (ac_node (ac_leaf 32 (vd_28_32 E)) (ac_node (ac_leaf 33 (vd_28_33 E)) (ac_leaf 34 (vd_28_34 E)))) (ac_node (ac_node (ac_leaf 37 (vd_28_37 E)) (ac_leaf 39 (vd_28_39 E))) (ac_node (ac_leaf 40 (vd_28_40 E)) (ac_leaf 41 (vd_28_41 E)))))))
theorem vd_29_0 (E : ac_E) : ac_V E ac_MDf ac_HDf 29 0 (.inl (o_ald 0 1)) := ⟨ok_aload_n dd_29_0, mn_ald _ _⟩
theorem vd_29_1 (E : ac_E) : ac_V E ac_MDf ac_HDf 29 1 (.inl (o_ald 0 2)) := ⟨ok_aload_n dd_29_1, mn_ald _ _⟩
theorem vd_29_2 (E : ac_E) : ac_V E ac_MDf ac_HDf 29 2 (.inl (o_ild 1 3)) := ⟨ok_iload_n dd_29_2, mn_ild _ _⟩
theorem vd_29_3 (E : ac_E) : ac_V E ac_MDf ac_HDf 29 3 (.inl (o_ild 2 4)) := ⟨ok_iload_n dd_29_3, mn_ild _ _⟩
theorem vd_29_4 (E : ac_E) : ac_V E ac_MDf ac_HDf 29 4 (.inr (.inl (43,3,7,6))) := ac_Vcp (ok_callV (T := TX4) (N := 12) rfl rfl (by decide) (by decide +kernel) wm_231 wm_50 wm_228 wm_230 wm_2 dd_29_4) rfl (fun _ => rfl)
theorem vd_29_7 (E : ac_E) : ac_V E ac_MDf ac_HDf 29 7 (.inl (o_con (.int 3) 8)) := ⟨ok_iconst dd_29_7 (by decide), mn_con _ _⟩
theorem vd_29_8 (E : ac_E) : ac_V E ac_MDf ac_HDf 29 8 (.inl (o_ild 3 9)) := ⟨ok_iload_n dd_29_8, mn_ild _ _⟩
theorem vd_29_9 (E : ac_E) : ac_V E ac_MDf ac_HDf 29 9 (.inr (.inl (46,4,12,6))) := ac_Vcp (ok_callV (T := TX4) (N := 12) rfl rfl (by decide) (by decide +kernel) wm_365 wm_50 wm_362 wm_364 wm_5 dd_29_9) rfl (fun _ => rfl)
theorem vd_29_12 (E : ac_E) : ac_V E ac_MDf ac_HDf 29 12 (.inr (.inr (.inl 2))) := ⟨fun q => nomatch q, fun q => nomatch q, fun _ => ⟨dd_29_12, rfl⟩⟩
theorem va_29 (E : ac_E) (pc : Nat) : ac_V E ac_MDf ac_HDf 29 pc (tb_29 (ac_len E) (ac_xs E) pc) := (ac_node (ac_node (ac_node (ac_leaf 0 (vd_29_0 E)) (ac_leaf 1 (vd_29_1 E))) (ac_node (ac_leaf 2 (vd_29_2 E)) (ac_leaf 3 (vd_29_3 E)))) (ac_node (ac_node (ac_leaf 4 (vd_29_4 E)) (ac_leaf 7 (vd_29_7 E))) (ac_node (ac_leaf 8 (vd_29_8 E)) (ac_node (ac_leaf 9 (vd_29_9 E)) (ac_leaf 12 (vd_29_12 E))))))
theorem vd_30_0 (E : ac_E) : ac_V E ac_MDf ac_HDf 30 0 (.inl (o_ald 0 1)) := ⟨ok_aload_n dd_30_0, mn_ald _ _⟩
theorem vd_30_1 (E : ac_E) : ac_V E ac_MDf ac_HDf 30 1 (.inl (o_ald 0 2)) := ⟨ok_aload_n dd_30_1, mn_ald _ _⟩
theorem vd_30_2 (E : ac_E) : ac_V E ac_MDf ac_HDf 30 2 (.inl (o_ild 1 3)) := ⟨ok_iload_n dd_30_2, mn_ild _ _⟩
theorem vd_30_3 (E : ac_E) : ac_V E ac_MDf ac_HDf 30 3 (.inl (o_ild 2 4)) := ⟨ok_iload_n dd_30_3, mn_ild _ _⟩
theorem vd_30_4 (E : ac_E) : ac_V E ac_MDf ac_HDf 30 4 (.inr (.inl (43,3,7,6))) := ac_Vcp (ok_callV (T := TX4) (N := 12) rfl rfl (by decide) (by decide +kernel) wm_231 wm_50 wm_228 wm_230 wm_2 dd_30_4) rfl (fun _ => rfl)
theorem vd_30_7 (E : ac_E) : ac_V E ac_MDf ac_HDf 30 7 (.inl (o_con (.int 4) 8)) := ⟨ok_iconst dd_30_7 (by decide), mn_con _ _⟩
theorem vd_30_8 (E : ac_E) : ac_V E ac_MDf ac_HDf 30 8 (.inl (o_ild 3 9)) := ⟨ok_iload_n dd_30_8, mn_ild _ _⟩
theorem vd_30_9 (E : ac_E) : ac_V E ac_MDf ac_HDf 30 9 (.inr (.inl (46,4,12,6))) := ac_Vcp (ok_callV (T := TX4) (N := 12) rfl rfl (by decide) (by decide +kernel) wm_365 wm_50 wm_362 wm_364 wm_5 dd_30_9) rfl (fun _ => rfl)
theorem vd_30_12 (E : ac_E) : ac_V E ac_MDf ac_HDf 30 12 (.inr (.inr (.inl 2))) := ⟨fun q => nomatch q, fun q => nomatch q, fun _ => ⟨dd_30_12, rfl⟩⟩
theorem va_30 (E : ac_E) (pc : Nat) : ac_V E ac_MDf ac_HDf 30 pc (tb_30 (ac_len E) (ac_xs E) pc) := (ac_node (ac_node (ac_node (ac_leaf 0 (vd_30_0 E)) (ac_leaf 1 (vd_30_1 E))) (ac_node (ac_leaf 2 (vd_30_2 E)) (ac_leaf 3 (vd_30_3 E)))) (ac_node (ac_node (ac_leaf 4 (vd_30_4 E)) (ac_leaf 7 (vd_30_7 E))) (ac_node (ac_leaf 8 (vd_30_8 E)) (ac_node (ac_leaf 9 (vd_30_9 E)) (ac_leaf 12 (vd_30_12 E))))))
theorem vd_31_0 (E : ac_E) : ac_V E ac_MDf ac_HDf 31 0 (.inl (o_ald 0 1)) := ⟨ok_aload_n dd_31_0, mn_ald _ _⟩
theorem vd_31_1 (E : ac_E) : ac_V E ac_MDf ac_HDf 31 1 (.inl (o_get 4 1 4)) := ⟨ok_getf (ci := 4) (f := 1) (C := RX4) (T := TX4) (N := 12) (ref := RX4) rfl win_4 (by decide) rfl wm_164 dd_31_1, mn_get _ _ _⟩
theorem vd_31_4 (E : ac_E) : ac_V E ac_MDf ac_HDf 31 4 (.inl (o_ald 0 5)) := ⟨ok_aload_n dd_31_4, mn_ald _ _⟩
theorem vd_31_5 (E : ac_E) : ac_V E ac_MDf ac_HDf 31 5 (.inl (o_ild 1 6)) := ⟨ok_iload_n dd_31_5, mn_ild _ _⟩
theorem vd_31_6 (E : ac_E) : ac_V E ac_MDf ac_HDf 31 6 (.inl (o_ild 2 7)) := ⟨ok_iload_n dd_31_6, mn_ild _ _⟩
theorem vd_31_7 (E : ac_E) : ac_V E ac_MDf ac_HDf 31 7 (.inr (.inl (43,3,10,6))) := ac_Vcp (ok_callV (T := TX4) (N := 12) rfl rfl (by decide) (by decide +kernel) wm_231 wm_50 wm_228 wm_230 wm_2 dd_31_7) rfl (fun _ => rfl)
theorem vd_31_10 (E : ac_E) : ac_V E ac_MDf ac_HDf 31 10 (.inl (o_ia 11)) := ⟨ok_iaload dd_31_10, mn_ia _⟩
theorem vd_31_11 (E : ac_E) : ac_V E ac_MDf ac_HDf 31 11 (.inr (.inr (.inl 1))) := ⟨fun q => nomatch q, fun _ => ⟨dd_31_11, rfl⟩, fun q => nomatch q⟩
theorem va_31 (E : ac_E) (pc : Nat) : ac_V E ac_MDf ac_HDf 31 pc (tb_31 (ac_len E) (ac_xs E) pc) := (ac_node (ac_node (ac_node (ac_leaf 0 (vd_31_0 E)) (ac_leaf 1 (vd_31_1 E))) (ac_node (ac_leaf 4 (vd_31_4 E)) (ac_leaf 5 (vd_31_5 E)))) (ac_node (ac_node (ac_leaf 6 (vd_31_6 E)) (ac_leaf 7 (vd_31_7 E))) (ac_node (ac_leaf 10 (vd_31_10 E)) (ac_leaf 11 (vd_31_11 E)))))
theorem vd_32_0 (E : ac_E) : ac_V E ac_MDf ac_HDf 32 0 (.inl (o_ild 1 1)) := ⟨ok_iload_n dd_32_0, mn_ild _ _⟩
theorem vd_32_1 (E : ac_E) : ac_V E ac_MDf ac_HDf 32 1 (.inl (o_con (.int 1) 2)) := ⟨ok_iconst dd_32_1 (by decide), mn_con _ _⟩
theorem vd_32_2 (E : ac_E) : ac_V E ac_MDf ac_HDf 32 2 (.inl (o_con (.int 10000) 5)) := ⟨ok_sipush dd_32_2 (by decide), mn_con _ _⟩
theorem vd_32_5 (E : ac_E) : ac_V E ac_MDf ac_HDf 32 5 (.inr (.inl (45,3,8,0))) := ac_Vcp (ok_callS rfl (by decide) (by decide +kernel) wm_307 wm_50 wm_305 wm_306 dd_32_5) rfl (fun _ => rfl)
theorem vd_32_8 (E : ac_E) : ac_V E ac_MDf ac_HDf 32 8 (.inl (o_ald 0 9)) := ⟨ok_aload_n dd_32_8, mn_ald _ _⟩
theorem vd_32_9 (E : ac_E) : ac_V E ac_MDf ac_HDf 32 9 (.inl (o_get 4 4 12)) := ⟨ok_getf (ci := 4) (f := 4) (C := RX4) (T := TX4) (N := 12) (ref := RX4) rfl win_4 (by decide) rfl wm_167 dd_32_9, mn_get _ _ _⟩
theorem vd_32_12 (E : ac_E) : ac_V E ac_MDf ac_HDf 32 12 (.inl (o_ild 1 13)) := ⟨ok_iload_n dd_32_12, mn_ild _ _⟩
theorem vd_32_13 (E : ac_E) : ac_V E ac_MDf ac_HDf 32 13 (.inl (o_put 0 0 16)) := ⟨ok_putN (ci := 0) (f := 0) (C := RX0) (T := TX0) (N := 4) (ref := RX0) rfl win_0 (by decide) rfl tyX0 tyX0_ok nmX0 (by decide +kernel) rfl wm_128 dd_32_13, mn_put _ _ _⟩
theorem vd_32_16 (E : ac_E) : ac_V E ac_MDf ac_HDf 32 16 (.inr (.inr (.inl 0))) := ⟨fun _ => ⟨dd_32_16, rfl⟩, fun q => nomatch q, fun q => nomatch q⟩
theorem va_32 (E : ac_E) (pc : Nat) : ac_V E ac_MDf ac_HDf 32 pc (tb_32 (ac_len E) (ac_xs E) pc) := (ac_node (ac_node (ac_node (ac_leaf 0 (vd_32_0 E)) (ac_leaf 1 (vd_32_1 E))) (ac_node (ac_leaf 2 (vd_32_2 E)) (ac_leaf 5 (vd_32_5 E)))) (ac_node (ac_node (ac_leaf 8 (vd_32_8 E)) (ac_leaf 9 (vd_32_9 E))) (ac_node (ac_leaf 12 (vd_32_12 E)) (ac_node (ac_leaf 13 (vd_32_13 E)) (ac_leaf 16 (vd_32_16 E))))))
theorem vd_33_0 (E : ac_E) : ac_V E ac_MDf ac_HDf 33 0 (.inl (o_ild 1 1)) := ⟨ok_iload_n dd_33_0, mn_ild _ _⟩
theorem vd_33_1 (E : ac_E) : ac_V E ac_MDf ac_HDf 33 1 (.inl (o_con (.int 0) 2)) := ⟨ok_iconst dd_33_1 (by decide), mn_con _ _⟩
theorem vd_33_2 (E : ac_E) : ac_V E ac_MDf ac_HDf 33 2 (.inl (o_con (.int 2) 3)) := ⟨ok_iconst dd_33_2 (by decide), mn_con _ _⟩
theorem vd_33_3 (E : ac_E) : ac_V E ac_MDf ac_HDf 33 3 (.inr (.inl (45,3,6,0))) := ac_Vcp (ok_callS rfl (by decide) (by decide +kernel) wm_307 wm_50 wm_305 wm_306 dd_33_3) rfl (fun _ => rfl)
theorem vd_33_6 (E : ac_E) : ac_V E ac_MDf ac_HDf 33 6 (.inl (o_ild 1 7)) := ⟨ok_iload_n dd_33_6, mn_ild _ _⟩
theorem vd_33_7 (E : ac_E) : ac_V E ac_MDf ac_HDf 33 7 (.inl (o_ne0 18 10)) := ⟨ok_ifne dd_33_7 (by decide), mn_ne0 _ _⟩
theorem vd_33_10 (E : ac_E) : ac_V E ac_MDf ac_HDf 33 10 (.inl (o_ald 0 11)) := ⟨ok_aload_n dd_33_10, mn_ald _ _⟩
theorem vd_33_11 (E : ac_E) : ac_V E ac_MDf ac_HDf 33 11 (.inl (o_get 4 4 14)) := ⟨ok_getf (ci := 4) (f := 4) (C := RX4) (T := TX4) (N := 12) (ref := RX4) rfl win_4 (by decide) rfl wm_167 dd_33_11, mn_get _ _ _⟩
theorem vd_33_14 (E : ac_E) : ac_V E ac_MDf ac_HDf 33 14 (.inl (o_get 0 1 17)) := ⟨ok_getN (ci := 0) (f := 1) (C := RX0) (T := TX0) (N := 4) (ref := RX0) rfl win_0 (by decide) rfl wm_130 dd_33_14, mn_get _ _ _⟩
theorem vd_33_17 (E : ac_E) : ac_V E ac_MDf ac_HDf 33 17 (.inr (.inr (.inl 1))) := ⟨fun q => nomatch q, fun _ => ⟨dd_33_17, rfl⟩, fun q => nomatch q⟩
theorem vd_33_18 (E : ac_E) : ac_V E ac_MDf ac_HDf 33 18 (.inl (o_ild 1 19)) := ⟨ok_iload_n dd_33_18, mn_ild _ _⟩
theorem vd_33_19 (E : ac_E) : ac_V E ac_MDf ac_HDf 33 19 (.inl (o_con (.int 1) 20)) := ⟨ok_iconst dd_33_19 (by decide), mn_con _ _⟩
theorem vd_33_20 (E : ac_E) : ac_V E ac_MDf ac_HDf 33 20 (.inl (o_ne 33 23)) := ⟨ok_icmpne dd_33_20 (by decide), mn_ne _ _⟩
theorem vd_33_23 (E : ac_E) : ac_V E ac_MDf ac_HDf 33 23 (.inl (o_ald 0 24)) := ⟨ok_aload_n dd_33_23, mn_ald _ _⟩
theorem vd_33_24 (E : ac_E) : ac_V E ac_MDf ac_HDf 33 24 (.inl (o_get 4 4 27)) := ⟨ok_getf (ci := 4) (f := 4) (C := RX4) (T := TX4) (N := 12) (ref := RX4) rfl win_4 (by decide) rfl wm_167 dd_33_24, mn_get _ _ _⟩
theorem vd_33_27 (E : ac_E) : ac_V E ac_MDf ac_HDf 33 27 (.inl (o_get 0 2 30)) := ⟨ok_getN (ci := 0) (f := 2) (C := RX0) (T := TX0) (N := 4) (ref := RX0) rfl win_0 (by decide) rfl wm_132 dd_33_27, mn_get _ _ _⟩
theorem vd_33_30 (E : ac_E) : ac_V E ac_MDf ac_HDf 33 30 (.inl (o_go 40)) := ⟨ok_goto dd_33_30 (by decide), mn_go _⟩
theorem vd_33_33 (E : ac_E) : ac_V E ac_MDf ac_HDf 33 33 (.inl (o_ald 0 34)) := ⟨ok_aload_n dd_33_33, mn_ald _ _⟩
theorem vd_33_34 (E : ac_E) : ac_V E ac_MDf ac_HDf 33 34 (.inl (o_get 4 4 37)) := ⟨ok_getf (ci := 4) (f := 4) (C := RX4) (T := TX4) (N := 12) (ref := RX4) rfl win_4 (by decide) rfl wm_167 dd_33_34, mn_get _ _ _⟩
theorem vd_33_37 (E : ac_E) : ac_V E ac_MDf ac_HDf 33 37 (.inl (o_get 0 3 40)) := ⟨ok_getN (ci := 0) (f := 3) (C := RX0) (T := TX0) (N := 4) (ref := RX0) rfl win_0 (by decide) rfl wm_134 dd_33_37, mn_get _ _ _⟩
theorem vd_33_40 (E : ac_E) : ac_V E ac_MDf ac_HDf 33 40 (.inr (.inr (.inl 1))) := ⟨fun q => nomatch q, fun _ => ⟨dd_33_40, rfl⟩, fun q => nomatch q⟩
theorem va_33 (E : ac_E) (pc : Nat) : ac_V E ac_MDf ac_HDf 33 pc (tb_33 (ac_len E) (ac_xs E) pc) := (ac_node (ac_node (ac_node (ac_node (ac_leaf 0 (vd_33_0 E)) (ac_leaf 1 (vd_33_1 E))) (ac_node (ac_leaf 2 (vd_33_2 E)) (ac_node (ac_leaf 3 (vd_33_3 E)) (ac_leaf 6 (vd_33_6 E))))) (ac_node (ac_node (ac_leaf 7 (vd_33_7 E)) (ac_leaf 10 (vd_33_10 E))) (ac_node (ac_leaf 11 (vd_33_11 E)) (ac_node (ac_leaf 14 (vd_33_14 E)) (ac_leaf 17 (vd_33_17 E)))))) (ac_node (ac_node (ac_node (ac_leaf 18 (vd_33_18 E)) (ac_leaf 19 (vd_33_19 E))) (ac_node (ac_leaf 20 (vd_33_20 E)) (ac_node (ac_leaf 23 (vd_33_23 E)) (ac_leaf 24 (vd_33_24 E))))) (ac_node (ac_node (ac_leaf 27 (vd_33_27 E)) (ac_node (ac_leaf 30 (vd_33_30 E)) (ac_leaf 33 (vd_33_33 E)))) (ac_node (ac_leaf 34 (vd_33_34 E)) (ac_node (ac_leaf 37 (vd_33_37 E)) (ac_leaf 40 (vd_33_40 E)))))))
theorem vd_34_0 (E : ac_E) : ac_V E ac_MDf ac_HDf 34 0 (.inl (o_ald 0 1)) := ⟨ok_aload_n dd_34_0, mn_ald _ _⟩
theorem vd_34_1 (E : ac_E) : ac_V E ac_MDf ac_HDf 34 1 (.inl (o_ild 1 2)) := ⟨ok_iload_n dd_34_1, mn_ild _ _⟩
theorem vd_34_2 (E : ac_E) : ac_V E ac_MDf ac_HDf 34 2 (.inl (o_put 4 11 5)) := ⟨ok_putf (ci := 4) (f := 11) (C := RX4) (T := TX4) (N := 12) (ref := RX4) rfl win_4 (by decide) rfl tyX4 tyX4_ok nmX4 (by decide +kernel) rfl wm_174 dd_34_2, mn_put _ _ _⟩
theorem vd_34_5 (E : ac_E) : ac_V E ac_MDf ac_HDf 34 5 (.inr (.inr (.inl 0))) := ⟨fun _ => ⟨dd_34_5, rfl⟩, fun q => nomatch q, fun q => nomatch q⟩
theorem va_34 (E : ac_E) (pc : Nat) : ac_V E ac_MDf ac_HDf 34 pc (tb_34 (ac_len E) (ac_xs E) pc) := (ac_node (ac_node (ac_leaf 0 (vd_34_0 E)) (ac_leaf 1 (vd_34_1 E))) (ac_node (ac_leaf 2 (vd_34_2 E)) (ac_leaf 5 (vd_34_5 E))))
theorem vd_35_0 (E : ac_E) : ac_V E ac_MDf ac_HDf 35 0 (.inl (o_ild 1 1)) := ⟨ok_iload_n dd_35_0, mn_ild _ _⟩
theorem vd_35_1 (E : ac_E) : ac_V E ac_MDf ac_HDf 35 1 (.inl (o_con (.int 0) 2)) := ⟨ok_iconst dd_35_1 (by decide), mn_con _ _⟩
theorem vd_35_2 (E : ac_E) : ac_V E ac_MDf ac_HDf 35 2 (.inl (o_con (.int 64) 4)) := ⟨ok_bipush dd_35_2 (by decide), mn_con _ _⟩
theorem vd_35_4 (E : ac_E) : ac_V E ac_MDf ac_HDf 35 4 (.inr (.inl (45,3,7,0))) := ac_Vcp (ok_callS rfl (by decide) (by decide +kernel) wm_307 wm_50 wm_305 wm_306 dd_35_4) rfl (fun _ => rfl)
theorem vd_35_7 (E : ac_E) : ac_V E ac_MDf ac_HDf 35 7 (.inl (o_con (.int 0) 8)) := ⟨ok_iconst dd_35_7 (by decide), mn_con _ _⟩
theorem vd_35_8 (E : ac_E) : ac_V E ac_MDf ac_HDf 35 8 (.inl (o_ist 2 9)) := ⟨ok_istore_n dd_35_8, mn_ist _ _⟩
theorem vd_35_9 (E : ac_E) : ac_V E ac_MDf ac_HDf 35 9 (.inl (o_ild 2 10)) := ⟨ok_iload_n dd_35_9, mn_ild _ _⟩
theorem vd_35_10 (E : ac_E) : ac_V E ac_MDf ac_HDf 35 10 (.inl (o_ild 1 11)) := ⟨ok_iload_n dd_35_10, mn_ild _ _⟩
theorem vd_35_11 (E : ac_E) : ac_V E ac_MDf ac_HDf 35 11 (.inl (o_ge 24 14)) := ⟨ok_icmpge dd_35_11 (by decide), mn_ge _ _⟩
theorem vd_35_14 (E : ac_E) : ac_V E ac_MDf ac_HDf 35 14 (.inl (o_ald 0 15)) := ⟨ok_aload_n dd_35_14, mn_ald _ _⟩
theorem vd_35_15 (E : ac_E) : ac_V E ac_MDf ac_HDf 35 15 (.inr (.inl (52,1,18,6))) := ac_Vc0 ((ok_callV (T := TX4) (N := 12) rfl rfl (by decide) (by decide +kernel) wm_434 wm_50 wm_431 wm_433 wm_6 dd_35_15).1) (fun _ => rfl)
theorem vd_35_18 (E : ac_E) : ac_V E ac_MDf ac_HDf 35 18 (.inl (o_inc 2 1 21)) := ⟨ok_iinc dd_35_18 (by decide), mn_inc _ _ _⟩
theorem vd_35_21 (E : ac_E) : ac_V E ac_MDf ac_HDf 35 21 (.inl (o_go 9)) := ⟨ok_goto dd_35_21 (by decide), mn_go _⟩
theorem vd_35_24 (E : ac_E) : ac_V E ac_MDf ac_HDf 35 24 (.inl (o_ald 0 25)) := ⟨ok_aload_n dd_35_24, mn_ald _ _⟩
theorem vd_35_25 (E : ac_E) : ac_V E ac_MDf ac_HDf 35 25 (.inl (o_get 4 10 28)) := ⟨ok_getf (ci := 4) (f := 10) (C := RX4) (T := TX4) (N := 12) (ref := RX4) rfl win_4 (by decide) rfl wm_173 dd_35_25, mn_get _ _ _⟩
theorem vd_35_28 (E : ac_E) : ac_V E ac_MDf ac_HDf 35 28 (.inr (.inr (.inl 1))) := ⟨fun q => nomatch q, fun _ => ⟨dd_35_28, rfl⟩, fun q => nomatch q⟩
theorem va_35 (E : ac_E) (pc : Nat) : ac_V E ac_MDf ac_HDf 35 pc (tb_35 (ac_len E) (ac_xs E) pc) := (ac_node (ac_node (ac_node (ac_node (ac_leaf 0 (vd_35_0 E)) (ac_leaf 1 (vd_35_1 E))) (ac_node (ac_leaf 2 (vd_35_2 E)) (ac_leaf 4 (vd_35_4 E)))) (ac_node (ac_node (ac_leaf 7 (vd_35_7 E)) (ac_leaf 8 (vd_35_8 E))) (ac_node (ac_leaf 9 (vd_35_9 E)) (ac_leaf 10 (vd_35_10 E))))) (ac_node (ac_node (ac_node (ac_leaf 11 (vd_35_11 E)) (ac_leaf 14 (vd_35_14 E))) (ac_node (ac_leaf 15 (vd_35_15 E)) (ac_leaf 18 (vd_35_18 E)))) (ac_node (ac_node (ac_leaf 21 (vd_35_21 E)) (ac_leaf 24 (vd_35_24 E))) (ac_node (ac_leaf 25 (vd_35_25 E)) (ac_leaf 28 (vd_35_28 E))))))
theorem vd_36_0 (E : ac_E) : ac_V E ac_MDf ac_HDf 36 0 (.inl (o_ild 1 1)) := ⟨ok_iload_n dd_36_0, mn_ild _ _⟩
theorem vd_36_1 (E : ac_E) : ac_V E ac_MDf ac_HDf 36 1 (.inl (o_con (.int 0) 2)) := ⟨ok_iconst dd_36_1 (by decide), mn_con _ _⟩
theorem vd_36_2 (E : ac_E) : ac_V E ac_MDf ac_HDf 36 2 (.inl (o_con (.int 64) 4)) := ⟨ok_bipush dd_36_2 (by decide), mn_con _ _⟩
theorem vd_36_4 (E : ac_E) : ac_V E ac_MDf ac_HDf 36 4 (.inr (.inl (45,3,7,0))) := ac_Vcp (ok_callS rfl (by decide) (by decide +kernel) wm_307 wm_50 wm_305 wm_306 dd_36_4) rfl (fun _ => rfl)
theorem vd_36_7 (E : ac_E) : ac_V E ac_MDf ac_HDf 36 7 (.inl (o_ald 0 8)) := ⟨ok_aload_n dd_36_7, mn_ald _ _⟩
theorem vd_36_8 (E : ac_E) : ac_V E ac_MDf ac_HDf 36 8 (.inr (.inl (54,1,11,6))) := ac_Vc0 ((ok_callV (T := TX4) (N := 12) rfl rfl (by decide) (by decide +kernel) wm_553 wm_50 wm_550 wm_552 wm_27 dd_36_8).1) (fun _ => rfl)
theorem vd_36_11 (E : ac_E) : ac_V E ac_MDf ac_HDf 36 11 (.inl (o_ne0 24 14)) := ⟨ok_ifne dd_36_11 (by decide), mn_ne0 _ _⟩
theorem vd_36_14 (E : ac_E) : ac_V E ac_MDf ac_HDf 36 14 (.inr (.inr (.inr 3))) := ok_throw (i := 3) (text := "a source, a sink or the body is there") rfl (by decide +kernel) rfl wm_554 wm_65 (hat_117_3) (by decide +kernel) (by decide) (by decide) dd_36_14 dd_36_17 dd_36_18 dd_36_20 dd_36_23
theorem vd_36_24 (E : ac_E) : ac_V E ac_MDf ac_HDf 36 24 (.inl (o_con (.int 0) 25)) := ⟨ok_iconst dd_36_24 (by decide), mn_con _ _⟩
theorem vd_36_25 (E : ac_E) : ac_V E ac_MDf ac_HDf 36 25 (.inl (o_ist 2 26)) := ⟨ok_istore_n dd_36_25, mn_ist _ _⟩
theorem vd_36_26 (E : ac_E) : ac_V E ac_MDf ac_HDf 36 26 (.inl (o_ild 2 27)) := ⟨ok_iload_n dd_36_26, mn_ild _ _⟩
theorem vd_36_27 (E : ac_E) : ac_V E ac_MDf ac_HDf 36 27 (.inl (o_ild 1 28)) := ⟨ok_iload_n dd_36_27, mn_ild _ _⟩
theorem vd_36_28 (E : ac_E) : ac_V E ac_MDf ac_HDf 36 28 (.inl (o_ge 41 31)) := ⟨ok_icmpge dd_36_28 (by decide), mn_ge _ _⟩
theorem vd_36_31 (E : ac_E) : ac_V E ac_MDf ac_HDf 36 31 (.inl (o_ald 0 32)) := ⟨ok_aload_n dd_36_31, mn_ald _ _⟩
theorem vd_36_32 (E : ac_E) : ac_V E ac_MDf ac_HDf 36 32 (.inr (.inl (53,1,35,6))) := ac_Vc0 ((ok_callV (T := TX4) (N := 12) rfl rfl (by decide) (by decide +kernel) wm_573 wm_50 wm_570 wm_572 wm_28 dd_36_32).1) (fun _ => rfl)
theorem vd_36_35 (E : ac_E) : ac_V E ac_MDf ac_HDf 36 35 (.inl (o_inc 2 1 38)) := ⟨ok_iinc dd_36_35 (by decide), mn_inc _ _ _⟩
theorem vd_36_38 (E : ac_E) : ac_V E ac_MDf ac_HDf 36 38 (.inl (o_go 26)) := ⟨ok_goto dd_36_38 (by decide), mn_go _⟩
theorem vd_36_41 (E : ac_E) : ac_V E ac_MDf ac_HDf 36 41 (.inl (o_ald 0 42)) := ⟨ok_aload_n dd_36_41, mn_ald _ _⟩
theorem vd_36_42 (E : ac_E) : ac_V E ac_MDf ac_HDf 36 42 (.inl (o_get 4 10 45)) := ⟨ok_getf (ci := 4) (f := 10) (C := RX4) (T := TX4) (N := 12) (ref := RX4) rfl win_4 (by decide) rfl wm_173 dd_36_42, mn_get _ _ _⟩
theorem vd_36_45 (E : ac_E) : ac_V E ac_MDf ac_HDf 36 45 (.inr (.inr (.inl 1))) := ⟨fun q => nomatch q, fun _ => ⟨dd_36_45, rfl⟩, fun q => nomatch q⟩
theorem va_36 (E : ac_E) (pc : Nat) : ac_V E ac_MDf ac_HDf 36 pc (tb_36 (ac_len E) (ac_xs E) pc) := (ac_node (ac_node (ac_node (ac_node (ac_leaf 0 (vd_36_0 E)) (ac_leaf 1 (vd_36_1 E))) (ac_node (ac_leaf 2 (vd_36_2 E)) (ac_node (ac_leaf 4 (vd_36_4 E)) (ac_leaf 7 (vd_36_7 E))))) (ac_node (ac_node (ac_leaf 8 (vd_36_8 E)) (ac_leaf 11 (vd_36_11 E))) (ac_node (ac_leaf 14 (vd_36_14 E)) (ac_node (ac_leaf 24 (vd_36_24 E)) (ac_leaf 25 (vd_36_25 E)))))) (ac_node (ac_node (ac_node (ac_leaf 26 (vd_36_26 E)) (ac_leaf 27 (vd_36_27 E))) (ac_node (ac_leaf 28 (vd_36_28 E)) (ac_node (ac_leaf 31 (vd_36_31 E)) (ac_leaf 32 (vd_36_32 E))))) (ac_node (ac_node (ac_leaf 35 (vd_36_35 E)) (ac_leaf 38 (vd_36_38 E))) (ac_node (ac_leaf 41 (vd_36_41 E)) (ac_node (ac_leaf 42 (vd_36_42 E)) (ac_leaf 45 (vd_36_45 E)))))))
theorem vd_37_0 (E : ac_E) : ac_V E ac_MDf ac_HDf 37 0 (.inl (o_ald 0 1)) := ⟨ok_aload_n dd_37_0, mn_ald _ _⟩
theorem vd_37_1 (E : ac_E) : ac_V E ac_MDf ac_HDf 37 1 (.inl (o_ild 1 2)) := ⟨ok_iload_n dd_37_1, mn_ild _ _⟩
theorem vd_37_2 (E : ac_E) : ac_V E ac_MDf ac_HDf 37 2 (.inl (o_ild 2 3)) := ⟨ok_iload_n dd_37_2, mn_ild _ _⟩
theorem vd_37_3 (E : ac_E) : ac_V E ac_MDf ac_HDf 37 3 (.inr (.inl (43,3,6,6))) := ac_Vcp (ok_callV (T := TX4) (N := 12) rfl rfl (by decide) (by decide +kernel) wm_231 wm_50 wm_228 wm_230 wm_2 dd_37_3) rfl (fun _ => rfl)
theorem vd_37_6 (E : ac_E) : ac_V E ac_MDf ac_HDf 37 6 (.inl (o_ist 6 8)) := ⟨ok_istore dd_37_6, mn_ist _ _⟩
theorem vd_37_8 (E : ac_E) : ac_V E ac_MDf ac_HDf 37 8 (.inl (o_ild 3 9)) := ⟨ok_iload_n dd_37_8, mn_ild _ _⟩
theorem vd_37_9 (E : ac_E) : ac_V E ac_MDf ac_HDf 37 9 (.inl (o_con (.int 1) 10)) := ⟨ok_iconst dd_37_9 (by decide), mn_con _ _⟩
theorem vd_37_10 (E : ac_E) : ac_V E ac_MDf ac_HDf 37 10 (.inl (o_lt 46 13)) := ⟨ok_icmplt dd_37_10 (by decide), mn_lt _ _⟩
theorem vd_37_13 (E : ac_E) : ac_V E ac_MDf ac_HDf 37 13 (.inl (o_ild 3 14)) := ⟨ok_iload_n dd_37_13, mn_ild _ _⟩
theorem vd_37_14 (E : ac_E) : ac_V E ac_MDf ac_HDf 37 14 (.inl (o_ald 0 15)) := ⟨ok_aload_n dd_37_14, mn_ald _ _⟩
theorem vd_37_15 (E : ac_E) : ac_V E ac_MDf ac_HDf 37 15 (.inl (o_get 4 0 18)) := ⟨ok_getf (ci := 4) (f := 0) (C := RX4) (T := TX4) (N := 12) (ref := RX4) rfl win_4 (by decide) rfl wm_163 dd_37_15, mn_get _ _ _⟩
theorem vd_37_18 (E : ac_E) : ac_V E ac_MDf ac_HDf 37 18 (.inl (o_get 2 0 21)) := ⟨ok_getN (ci := 2) (f := 0) (C := RX2) (T := TX2) (N := 4) (ref := RX2) rfl win_2 (by decide) rfl wm_94 dd_37_18, mn_get _ _ _⟩
theorem vd_37_21 (E : ac_E) : ac_V E ac_MDf ac_HDf 37 21 (.inl (o_ild 1 22)) := ⟨ok_iload_n dd_37_21, mn_ild _ _⟩
theorem vd_37_22 (E : ac_E) : ac_V E ac_MDf ac_HDf 37 22 (.inl (o_sub 23)) := ⟨ok_isub dd_37_22, mn_sub _⟩
theorem vd_37_23 (E : ac_E) : ac_V E ac_MDf ac_HDf 37 23 (.inl (o_gt 46 26)) := ⟨ok_icmpgt dd_37_23 (by decide), mn_gt _ _⟩
theorem vd_37_26 (E : ac_E) : ac_V E ac_MDf ac_HDf 37 26 (.inl (o_ild 4 28)) := ⟨ok_iload dd_37_26, mn_ild _ _⟩
theorem vd_37_28 (E : ac_E) : ac_V E ac_MDf ac_HDf 37 28 (.inl (o_con (.int 1) 29)) := ⟨ok_iconst dd_37_28 (by decide), mn_con _ _⟩
theorem vd_37_29 (E : ac_E) : ac_V E ac_MDf ac_HDf 37 29 (.inl (o_lt 46 32)) := ⟨ok_icmplt dd_37_29 (by decide), mn_lt _ _⟩
theorem vd_37_32 (E : ac_E) : ac_V E ac_MDf ac_HDf 37 32 (.inl (o_ild 4 34)) := ⟨ok_iload dd_37_32, mn_ild _ _⟩
theorem vd_37_34 (E : ac_E) : ac_V E ac_MDf ac_HDf 37 34 (.inl (o_ald 0 35)) := ⟨ok_aload_n dd_37_34, mn_ald _ _⟩
theorem vd_37_35 (E : ac_E) : ac_V E ac_MDf ac_HDf 37 35 (.inl (o_get 4 0 38)) := ⟨ok_getf (ci := 4) (f := 0) (C := RX4) (T := TX4) (N := 12) (ref := RX4) rfl win_4 (by decide) rfl wm_163 dd_37_35, mn_get _ _ _⟩
theorem vd_37_38 (E : ac_E) : ac_V E ac_MDf ac_HDf 37 38 (.inl (o_get 2 1 41)) := ⟨ok_getN (ci := 2) (f := 1) (C := RX2) (T := TX2) (N := 4) (ref := RX2) rfl win_2 (by decide) rfl wm_96 dd_37_38, mn_get _ _ _⟩
theorem vd_37_41 (E : ac_E) : ac_V E ac_MDf ac_HDf 37 41 (.inl (o_ild 2 42)) := ⟨ok_iload_n dd_37_41, mn_ild _ _⟩
theorem vd_37_42 (E : ac_E) : ac_V E ac_MDf ac_HDf 37 42 (.inl (o_sub 43)) := ⟨ok_isub dd_37_42, mn_sub _⟩
theorem vd_37_43 (E : ac_E) : ac_V E ac_MDf ac_HDf 37 43 (.inl (o_le 56 46)) := ⟨ok_icmple dd_37_43 (by decide), mn_le _ _⟩
theorem vd_37_46 (E : ac_E) : ac_V E ac_MDf ac_HDf 37 46 (.inr (.inr (.inr 0))) := ok_throw (i := 4) (text := "no such rectangle") rfl (by decide +kernel) rfl wm_232 wm_60 (hat_133_0) (by decide +kernel) (by decide) (by decide) dd_37_46 dd_37_49 dd_37_50 dd_37_52 dd_37_55
theorem vd_37_56 (E : ac_E) : ac_V E ac_MDf ac_HDf 37 56 (.inl (o_ild 5 58)) := ⟨ok_iload dd_37_56, mn_ild _ _⟩
theorem vd_37_58 (E : ac_E) : ac_V E ac_MDf ac_HDf 37 58 (.inl (o_con (.int 0) 59)) := ⟨ok_iconst dd_37_58 (by decide), mn_con _ _⟩
theorem vd_37_59 (E : ac_E) : ac_V E ac_MDf ac_HDf 37 59 (.inl (o_con (.int 2) 60)) := ⟨ok_iconst dd_37_59 (by decide), mn_con _ _⟩
theorem vd_37_60 (E : ac_E) : ac_V E ac_MDf ac_HDf 37 60 (.inr (.inl (45,3,63,0))) := ac_Vcp (ok_callS rfl (by decide) (by decide +kernel) wm_307 wm_50 wm_305 wm_306 dd_37_60) rfl (fun _ => rfl)
theorem vd_37_63 (E : ac_E) : ac_V E ac_MDf ac_HDf 37 63 (.inl (o_con (.int 0) 64)) := ⟨ok_iconst dd_37_63 (by decide), mn_con _ _⟩
theorem vd_37_64 (E : ac_E) : ac_V E ac_MDf ac_HDf 37 64 (.inl (o_ist 7 66)) := ⟨ok_istore dd_37_64, mn_ist _ _⟩
theorem vd_37_66 (E : ac_E) : ac_V E ac_MDf ac_HDf 37 66 (.inl (o_con (.int 0) 67)) := ⟨ok_iconst dd_37_66 (by decide), mn_con _ _⟩
theorem vd_37_67 (E : ac_E) : ac_V E ac_MDf ac_HDf 37 67 (.inl (o_ist 8 69)) := ⟨ok_istore dd_37_67, mn_ist _ _⟩
theorem vd_37_69 (E : ac_E) : ac_V E ac_MDf ac_HDf 37 69 (.inl (o_ild 8 71)) := ⟨ok_iload dd_37_69, mn_ild _ _⟩
theorem vd_37_71 (E : ac_E) : ac_V E ac_MDf ac_HDf 37 71 (.inl (o_ild 4 73)) := ⟨ok_iload dd_37_71, mn_ild _ _⟩
theorem vd_37_73 (E : ac_E) : ac_V E ac_MDf ac_HDf 37 73 (.inl (o_ge 128 76)) := ⟨ok_icmpge dd_37_73 (by decide), mn_ge _ _⟩
theorem vd_37_76 (E : ac_E) : ac_V E ac_MDf ac_HDf 37 76 (.inl (o_con (.int 0) 77)) := ⟨ok_iconst dd_37_76 (by decide), mn_con _ _⟩
theorem vd_37_77 (E : ac_E) : ac_V E ac_MDf ac_HDf 37 77 (.inl (o_ist 9 79)) := ⟨ok_istore dd_37_77, mn_ist _ _⟩
theorem vd_37_79 (E : ac_E) : ac_V E ac_MDf ac_HDf 37 79 (.inl (o_ild 9 81)) := ⟨ok_iload dd_37_79, mn_ild _ _⟩
theorem vd_37_81 (E : ac_E) : ac_V E ac_MDf ac_HDf 37 81 (.inl (o_ild 3 82)) := ⟨ok_iload_n dd_37_81, mn_ild _ _⟩
theorem vd_37_82 (E : ac_E) : ac_V E ac_MDf ac_HDf 37 82 (.inl (o_ge 122 85)) := ⟨ok_icmpge dd_37_82 (by decide), mn_ge _ _⟩
theorem vd_37_85 (E : ac_E) : ac_V E ac_MDf ac_HDf 37 85 (.inl (o_ild 7 87)) := ⟨ok_iload dd_37_85, mn_ild _ _⟩
theorem vd_37_87 (E : ac_E) : ac_V E ac_MDf ac_HDf 37 87 (.inl (o_ald 0 88)) := ⟨ok_aload_n dd_37_87, mn_ald _ _⟩
theorem vd_37_88 (E : ac_E) : ac_V E ac_MDf ac_HDf 37 88 (.inl (o_get 4 8 91)) := ⟨ok_getf (ci := 4) (f := 8) (C := RX4) (T := TX4) (N := 12) (ref := RX4) rfl win_4 (by decide) rfl wm_171 dd_37_88, mn_get _ _ _⟩
theorem vd_37_91 (E : ac_E) : ac_V E ac_MDf ac_HDf 37 91 (.inl (o_ild 6 93)) := ⟨ok_iload dd_37_91, mn_ild _ _⟩
theorem vd_37_93 (E : ac_E) : ac_V E ac_MDf ac_HDf 37 93 (.inl (o_ild 8 95)) := ⟨ok_iload dd_37_93, mn_ild _ _⟩
theorem vd_37_95 (E : ac_E) : ac_V E ac_MDf ac_HDf 37 95 (.inl (o_ald 0 96)) := ⟨ok_aload_n dd_37_95, mn_ald _ _⟩
theorem vd_37_96 (E : ac_E) : ac_V E ac_MDf ac_HDf 37 96 (.inl (o_get 4 0 99)) := ⟨ok_getf (ci := 4) (f := 0) (C := RX4) (T := TX4) (N := 12) (ref := RX4) rfl win_4 (by decide) rfl wm_163 dd_37_96, mn_get _ _ _⟩
theorem vd_37_99 (E : ac_E) : ac_V E ac_MDf ac_HDf 37 99 (.inl (o_get 2 0 102)) := ⟨ok_getN (ci := 2) (f := 0) (C := RX2) (T := TX2) (N := 4) (ref := RX2) rfl win_2 (by decide) rfl wm_94 dd_37_99, mn_get _ _ _⟩
theorem vd_37_102 (E : ac_E) : ac_V E ac_MDf ac_HDf 37 102 (.inl (o_mul 103)) := ⟨ok_imul dd_37_102, mn_mul _⟩
theorem vd_37_103 (E : ac_E) : ac_V E ac_MDf ac_HDf 37 103 (.inl (o_add 104)) := ⟨ok_iadd dd_37_103, mn_add _⟩
theorem vd_37_104 (E : ac_E) : ac_V E ac_MDf ac_HDf 37 104 (.inl (o_ild 9 106)) := ⟨ok_iload dd_37_104, mn_ild _ _⟩
theorem vd_37_106 (E : ac_E) : ac_V E ac_MDf ac_HDf 37 106 (.inl (o_add 107)) := ⟨ok_iadd dd_37_106, mn_add _⟩
theorem vd_37_107 (E : ac_E) : ac_V E ac_MDf ac_HDf 37 107 (.inl (o_ia 108)) := ⟨ok_iaload dd_37_107, mn_ia _⟩
theorem vd_37_108 (E : ac_E) : ac_V E ac_MDf ac_HDf 37 108 (.inl (o_ild 5 110)) := ⟨ok_iload dd_37_108, mn_ild _ _⟩
theorem vd_37_110 (E : ac_E) : ac_V E ac_MDf ac_HDf 37 110 (.inr (.inl (48,2,113,0))) := ac_Vc0 ((ok_callS rfl (by decide) (by decide +kernel) wm_494 wm_50 wm_582 wm_493 dd_37_110).1) (fun _ => rfl)
theorem vd_37_113 (E : ac_E) : ac_V E ac_MDf ac_HDf 37 113 (.inl (o_add 114)) := ⟨ok_iadd dd_37_113, mn_add _⟩
theorem vd_37_114 (E : ac_E) : ac_V E ac_MDf ac_HDf 37 114 (.inl (o_ist 7 116)) := ⟨ok_istore dd_37_114, mn_ist _ _⟩
theorem vd_37_116 (E : ac_E) : ac_V E ac_MDf ac_HDf 37 116 (.inl (o_inc 9 1 119)) := ⟨ok_iinc dd_37_116 (by decide), mn_inc _ _ _⟩
theorem vd_37_119 (E : ac_E) : ac_V E ac_MDf ac_HDf 37 119 (.inl (o_go 79)) := ⟨ok_goto dd_37_119 (by decide), mn_go _⟩
theorem vd_37_122 (E : ac_E) : ac_V E ac_MDf ac_HDf 37 122 (.inl (o_inc 8 1 125)) := ⟨ok_iinc dd_37_122 (by decide), mn_inc _ _ _⟩
theorem vd_37_125 (E : ac_E) : ac_V E ac_MDf ac_HDf 37 125 (.inl (o_go 69)) := ⟨ok_goto dd_37_125 (by decide), mn_go _⟩
theorem vd_37_128 (E : ac_E) : ac_V E ac_MDf ac_HDf 37 128 (.inl (o_ild 7 130)) := ⟨ok_iload dd_37_128, mn_ild _ _⟩
theorem vd_37_130 (E : ac_E) : ac_V E ac_MDf ac_HDf 37 130 (.inr (.inr (.inl 1))) := ⟨fun q => nomatch q, fun _ => ⟨dd_37_130, rfl⟩, fun q => nomatch q⟩
theorem va_37 (E : ac_E) (pc : Nat) : ac_V E ac_MDf ac_HDf 37 pc (tb_37 (ac_len E) (ac_xs E) pc) := (ac_node (ac_node (ac_node (ac_node (ac_node (ac_node (ac_leaf 0 (vd_37_0 E)) (ac_leaf 1 (vd_37_1 E))) (ac_node (ac_leaf 2 (vd_37_2 E)) (ac_leaf 3 (vd_37_3 E)))) (ac_node (ac_node (ac_leaf 6 (vd_37_6 E)) (ac_leaf 8 (vd_37_8 E))) (ac_node (ac_leaf 9 (vd_37_9 E)) (ac_leaf 10 (vd_37_10 E))))) (ac_node (ac_node (ac_node (ac_leaf 13 (vd_37_13 E)) (ac_leaf 14 (vd_37_14 E))) (ac_node (ac_leaf 15 (vd_37_15 E)) (ac_leaf 18 (vd_37_18 E)))) (ac_node (ac_node (ac_leaf 21 (vd_37_21 E)) (ac_leaf 22 (vd_37_22 E))) (ac_node (ac_leaf 23 (vd_37_23 E)) (ac_leaf 26 (vd_37_26 E)))))) (ac_node (ac_node (ac_node (ac_node (ac_leaf 28 (vd_37_28 E)) (ac_leaf 29 (vd_37_29 E))) (ac_node (ac_leaf 32 (vd_37_32 E)) (ac_leaf 34 (vd_37_34 E)))) (ac_node (ac_node (ac_leaf 35 (vd_37_35 E)) (ac_leaf 38 (vd_37_38 E))) (ac_node (ac_leaf 41 (vd_37_41 E)) (ac_leaf 42 (vd_37_42 E))))) (ac_node (ac_node (ac_node (ac_leaf 43 (vd_37_43 E)) (ac_leaf 46 (vd_37_46 E))) (ac_node (ac_leaf 56 (vd_37_56 E)) (ac_leaf 58 (vd_37_58 E)))) (ac_node (ac_node (ac_leaf 59 (vd_37_59 E)) (ac_leaf 60 (vd_37_60 E))) (ac_node (ac_leaf 63 (vd_37_63 E)) (ac_leaf 64 (vd_37_64 E))))))) (ac_node (ac_node (ac_node (ac_node (ac_node (ac_leaf 66 (vd_37_66 E)) (ac_leaf 67 (vd_37_67 E))) (ac_node (ac_leaf 69 (vd_37_69 E)) (ac_leaf 71 (vd_37_71 E)))) (ac_node (ac_node (ac_leaf 73 (vd_37_73 E)) (ac_leaf 76 (vd_37_76 E))) (ac_node (ac_leaf 77 (vd_37_77 E)) (ac_leaf 79 (vd_37_79 E))))) (ac_node (ac_node (ac_node (ac_leaf 81 (vd_37_81 E)) (ac_leaf 82 (vd_37_82 E))) (ac_node (ac_leaf 85 (vd_37_85 E)) (ac_leaf 87 (vd_37_87 E)))) (ac_node (ac_node (ac_leaf 88 (vd_37_88 E)) (ac_leaf 91 (vd_37_91 E))) (ac_node (ac_leaf 93 (vd_37_93 E)) (ac_leaf 95 (vd_37_95 E)))))) (ac_node (ac_node (ac_node (ac_node (ac_leaf 96 (vd_37_96 E)) (ac_leaf 99 (vd_37_99 E))) (ac_node (ac_leaf 102 (vd_37_102 E)) (ac_leaf 103 (vd_37_103 E)))) (ac_node (ac_node (ac_leaf 104 (vd_37_104 E)) (ac_leaf 106 (vd_37_106 E))) (ac_node (ac_leaf 107 (vd_37_107 E)) (ac_leaf 108 (vd_37_108 E))))) (ac_node (ac_node (ac_node (ac_leaf 110 (vd_37_110 E)) (ac_leaf 113 (vd_37_113 E))) (ac_node (ac_leaf 114 (vd_37_114 E)) (ac_leaf 116 (vd_37_116 E)))) (ac_node (ac_node (ac_leaf 119 (vd_37_119 E)) (ac_leaf 122 (vd_37_122 E))) (ac_node (ac_leaf 125 (vd_37_125 E)) (ac_node (ac_leaf 128 (vd_37_128 E)) (ac_leaf 130 (vd_37_130 E)))))))))
theorem vd_38_0 (E : ac_E) : ac_V E ac_MDf ac_HDf 38 0 (.inl (o_ild 1 1)) := ⟨ok_iload_n dd_38_0, mn_ild _ _⟩
theorem vd_38_1 (E : ac_E) : ac_V E ac_MDf ac_HDf 38 1 (.inl (o_con (.int 0) 2)) := ⟨ok_iconst dd_38_1 (by decide), mn_con _ _⟩
theorem vd_38_2 (E : ac_E) : ac_V E ac_MDf ac_HDf 38 2 (.inl (o_con (.int 3) 3)) := ⟨ok_iconst dd_38_2 (by decide), mn_con _ _⟩
theorem vd_38_3 (E : ac_E) : ac_V E ac_MDf ac_HDf 38 3 (.inr (.inl (45,3,6,0))) := ac_Vcp (ok_callS rfl (by decide) (by decide +kernel) wm_307 wm_50 wm_305 wm_306 dd_38_3) rfl (fun _ => rfl)
theorem vd_38_6 (E : ac_E) : ac_V E ac_MDf ac_HDf 38 6 (.inl (o_ild 2 7)) := ⟨ok_iload_n dd_38_6, mn_ild _ _⟩
theorem vd_38_7 (E : ac_E) : ac_V E ac_MDf ac_HDf 38 7 (.inl (o_con (.int 0) 8)) := ⟨ok_iconst dd_38_7 (by decide), mn_con _ _⟩
theorem vd_38_8 (E : ac_E) : ac_V E ac_MDf ac_HDf 38 8 (.inl (o_con (.int 2) 9)) := ⟨ok_iconst dd_38_8 (by decide), mn_con _ _⟩
theorem vd_38_9 (E : ac_E) : ac_V E ac_MDf ac_HDf 38 9 (.inr (.inl (45,3,12,0))) := ac_Vcp (ok_callS rfl (by decide) (by decide +kernel) wm_307 wm_50 wm_305 wm_306 dd_38_9) rfl (fun _ => rfl)
theorem vd_38_12 (E : ac_E) : ac_V E ac_MDf ac_HDf 38 12 (.inl (o_ald 0 13)) := ⟨ok_aload_n dd_38_12, mn_ald _ _⟩
theorem vd_38_13 (E : ac_E) : ac_V E ac_MDf ac_HDf 38 13 (.inl (o_get 4 3 16)) := ⟨ok_getf (ci := 4) (f := 3) (C := RX4) (T := TX4) (N := 12) (ref := RX4) rfl win_4 (by decide) rfl wm_166 dd_38_13, mn_get _ _ _⟩
theorem vd_38_16 (E : ac_E) : ac_V E ac_MDf ac_HDf 38 16 (.inl (o_get 1 0 19)) := ⟨ok_getN (ci := 1) (f := 0) (C := RX1) (T := TX1) (N := 1) (ref := RX1) rfl win_1 (by decide) rfl wm_117 dd_38_16, mn_get _ _ _⟩
theorem vd_38_19 (E : ac_E) : ac_V E ac_MDf ac_HDf 38 19 (.inl (o_ild 1 20)) := ⟨ok_iload_n dd_38_19, mn_ild _ _⟩
theorem vd_38_20 (E : ac_E) : ac_V E ac_MDf ac_HDf 38 20 (.inl (o_con (.int 3) 21)) := ⟨ok_iconst dd_38_20 (by decide), mn_con _ _⟩
theorem vd_38_21 (E : ac_E) : ac_V E ac_MDf ac_HDf 38 21 (.inl (o_mul 22)) := ⟨ok_imul dd_38_21, mn_mul _⟩
theorem vd_38_22 (E : ac_E) : ac_V E ac_MDf ac_HDf 38 22 (.inl (o_ild 2 23)) := ⟨ok_iload_n dd_38_22, mn_ild _ _⟩
theorem vd_38_23 (E : ac_E) : ac_V E ac_MDf ac_HDf 38 23 (.inl (o_add 24)) := ⟨ok_iadd dd_38_23, mn_add _⟩
theorem vd_38_24 (E : ac_E) : ac_V E ac_MDf ac_HDf 38 24 (.inl (o_ia 25)) := ⟨ok_iaload dd_38_24, mn_ia _⟩
theorem vd_38_25 (E : ac_E) : ac_V E ac_MDf ac_HDf 38 25 (.inr (.inr (.inl 1))) := ⟨fun q => nomatch q, fun _ => ⟨dd_38_25, rfl⟩, fun q => nomatch q⟩
theorem va_38 (E : ac_E) (pc : Nat) : ac_V E ac_MDf ac_HDf 38 pc (tb_38 (ac_len E) (ac_xs E) pc) := (ac_node (ac_node (ac_node (ac_node (ac_leaf 0 (vd_38_0 E)) (ac_leaf 1 (vd_38_1 E))) (ac_node (ac_leaf 2 (vd_38_2 E)) (ac_leaf 3 (vd_38_3 E)))) (ac_node (ac_node (ac_leaf 6 (vd_38_6 E)) (ac_leaf 7 (vd_38_7 E))) (ac_node (ac_leaf 8 (vd_38_8 E)) (ac_node (ac_leaf 9 (vd_38_9 E)) (ac_leaf 12 (vd_38_12 E)))))) (ac_node (ac_node (ac_node (ac_leaf 13 (vd_38_13 E)) (ac_leaf 16 (vd_38_16 E))) (ac_node (ac_leaf 19 (vd_38_19 E)) (ac_leaf 20 (vd_38_20 E)))) (ac_node (ac_node (ac_leaf 21 (vd_38_21 E)) (ac_leaf 22 (vd_38_22 E))) (ac_node (ac_leaf 23 (vd_38_23 E)) (ac_node (ac_leaf 24 (vd_38_24 E)) (ac_leaf 25 (vd_38_25 E)))))))
theorem vd_39_0 (E : ac_E) : ac_V E ac_MDf ac_HDf 39 0 (.inl (o_con (.int 0) 1)) := ⟨ok_iconst dd_39_0 (by decide), mn_con _ _⟩
theorem vd_39_1 (E : ac_E) : ac_V E ac_MDf ac_HDf 39 1 (.inl (o_ist 1 2)) := ⟨ok_istore_n dd_39_1, mn_ist _ _⟩
theorem vd_39_2 (E : ac_E) : ac_V E ac_MDf ac_HDf 39 2 (.inl (o_con (.int 0) 3)) := ⟨ok_iconst dd_39_2 (by decide), mn_con _ _⟩
theorem vd_39_3 (E : ac_E) : ac_V E ac_MDf ac_HDf 39 3 (.inl (o_ist 2 4)) := ⟨ok_istore_n dd_39_3, mn_ist _ _⟩
theorem vd_39_4 (E : ac_E) : ac_V E ac_MDf ac_HDf 39 4 (.inl (o_ild 2 5)) := ⟨ok_iload_n dd_39_4, mn_ild _ _⟩
theorem vd_39_5 (E : ac_E) : ac_V E ac_MDf ac_HDf 39 5 (.inl (o_ald 0 6)) := ⟨ok_aload_n dd_39_5, mn_ald _ _⟩
theorem vd_39_6 (E : ac_E) : ac_V E ac_MDf ac_HDf 39 6 (.inl (o_get 4 0 9)) := ⟨ok_getf (ci := 4) (f := 0) (C := RX4) (T := TX4) (N := 12) (ref := RX4) rfl win_4 (by decide) rfl wm_163 dd_39_6, mn_get _ _ _⟩
theorem vd_39_9 (E : ac_E) : ac_V E ac_MDf ac_HDf 39 9 (.inl (o_get 2 2 12)) := ⟨ok_getN (ci := 2) (f := 2) (C := RX2) (T := TX2) (N := 4) (ref := RX2) rfl win_2 (by decide) rfl wm_98 dd_39_9, mn_get _ _ _⟩
theorem vd_39_12 (E : ac_E) : ac_V E ac_MDf ac_HDf 39 12 (.inl (o_ge 53 15)) := ⟨ok_icmpge dd_39_12 (by decide), mn_ge _ _⟩
theorem vd_39_15 (E : ac_E) : ac_V E ac_MDf ac_HDf 39 15 (.inl (o_ild 1 16)) := ⟨ok_iload_n dd_39_15, mn_ild _ _⟩
theorem vd_39_16 (E : ac_E) : ac_V E ac_MDf ac_HDf 39 16 (.inl (o_ald 0 17)) := ⟨ok_aload_n dd_39_16, mn_ald _ _⟩
theorem vd_39_17 (E : ac_E) : ac_V E ac_MDf ac_HDf 39 17 (.inl (o_get 4 8 20)) := ⟨ok_getf (ci := 4) (f := 8) (C := RX4) (T := TX4) (N := 12) (ref := RX4) rfl win_4 (by decide) rfl wm_171 dd_39_17, mn_get _ _ _⟩
theorem vd_39_20 (E : ac_E) : ac_V E ac_MDf ac_HDf 39 20 (.inl (o_ild 2 21)) := ⟨ok_iload_n dd_39_20, mn_ild _ _⟩
theorem vd_39_21 (E : ac_E) : ac_V E ac_MDf ac_HDf 39 21 (.inl (o_ia 22)) := ⟨ok_iaload dd_39_21, mn_ia _⟩
theorem vd_39_22 (E : ac_E) : ac_V E ac_MDf ac_HDf 39 22 (.inl (o_ald 0 23)) := ⟨ok_aload_n dd_39_22, mn_ald _ _⟩
theorem vd_39_23 (E : ac_E) : ac_V E ac_MDf ac_HDf 39 23 (.inl (o_get 4 0 26)) := ⟨ok_getf (ci := 4) (f := 0) (C := RX4) (T := TX4) (N := 12) (ref := RX4) rfl win_4 (by decide) rfl wm_163 dd_39_23, mn_get _ _ _⟩
theorem vd_39_26 (E : ac_E) : ac_V E ac_MDf ac_HDf 39 26 (.inl (o_ild 2 27)) := ⟨ok_iload_n dd_39_26, mn_ild _ _⟩
theorem vd_39_27 (E : ac_E) : ac_V E ac_MDf ac_HDf 39 27 (.inr (.inl (13,2,30,4))) := ac_Vc0 (ok_callVN (T := TX2) (N := 4) rfl rfl (by decide) (by decide +kernel) wm_211 wm_51 wm_208 wm_210 wm_0 dd_39_27) (fun _ => rfl)
theorem vd_39_30 (E : ac_E) : ac_V E ac_MDf ac_HDf 39 30 (.inl (o_con (.int 16) 32)) := ⟨ok_bipush dd_39_30 (by decide), mn_con _ _⟩
theorem vd_39_32 (E : ac_E) : ac_V E ac_MDf ac_HDf 39 32 (.inl (o_mul 33)) := ⟨ok_imul dd_39_32, mn_mul _⟩
theorem vd_39_33 (E : ac_E) : ac_V E ac_MDf ac_HDf 39 33 (.inl (o_ald 0 34)) := ⟨ok_aload_n dd_39_33, mn_ald _ _⟩
theorem vd_39_34 (E : ac_E) : ac_V E ac_MDf ac_HDf 39 34 (.inl (o_get 4 0 37)) := ⟨ok_getf (ci := 4) (f := 0) (C := RX4) (T := TX4) (N := 12) (ref := RX4) rfl win_4 (by decide) rfl wm_163 dd_39_34, mn_get _ _ _⟩
theorem vd_39_37 (E : ac_E) : ac_V E ac_MDf ac_HDf 39 37 (.inl (o_ild 2 38)) := ⟨ok_iload_n dd_39_37, mn_ild _ _⟩
theorem vd_39_38 (E : ac_E) : ac_V E ac_MDf ac_HDf 39 38 (.inr (.inl (12,2,41,4))) := ac_Vc0 (ok_callVN (T := TX2) (N := 4) rfl rfl (by decide) (by decide +kernel) wm_215 wm_51 wm_212 wm_214 wm_1 dd_39_38) (fun _ => rfl)
theorem vd_39_41 (E : ac_E) : ac_V E ac_MDf ac_HDf 39 41 (.inl (o_add 42)) := ⟨ok_iadd dd_39_41, mn_add _⟩
theorem vd_39_42 (E : ac_E) : ac_V E ac_MDf ac_HDf 39 42 (.inl (o_con (.int 1) 43)) := ⟨ok_iconst dd_39_42 (by decide), mn_con _ _⟩
theorem vd_39_43 (E : ac_E) : ac_V E ac_MDf ac_HDf 39 43 (.inl (o_add 44)) := ⟨ok_iadd dd_39_43, mn_add _⟩
theorem vd_39_44 (E : ac_E) : ac_V E ac_MDf ac_HDf 39 44 (.inl (o_mul 45)) := ⟨ok_imul dd_39_44, mn_mul _⟩
theorem vd_39_45 (E : ac_E) : ac_V E ac_MDf ac_HDf 39 45 (.inl (o_add 46)) := ⟨ok_iadd dd_39_45, mn_add _⟩
theorem vd_39_46 (E : ac_E) : ac_V E ac_MDf ac_HDf 39 46 (.inl (o_ist 1 47)) := ⟨ok_istore_n dd_39_46, mn_ist _ _⟩
theorem vd_39_47 (E : ac_E) : ac_V E ac_MDf ac_HDf 39 47 (.inl (o_inc 2 1 50)) := ⟨ok_iinc dd_39_47 (by decide), mn_inc _ _ _⟩
theorem vd_39_50 (E : ac_E) : ac_V E ac_MDf ac_HDf 39 50 (.inl (o_go 4)) := ⟨ok_goto dd_39_50 (by decide), mn_go _⟩
theorem vd_39_53 (E : ac_E) : ac_V E ac_MDf ac_HDf 39 53 (.inl (o_ild 1 54)) := ⟨ok_iload_n dd_39_53, mn_ild _ _⟩
theorem vd_39_54 (E : ac_E) : ac_V E ac_MDf ac_HDf 39 54 (.inr (.inr (.inl 1))) := ⟨fun q => nomatch q, fun _ => ⟨dd_39_54, rfl⟩, fun q => nomatch q⟩
theorem va_39 (E : ac_E) (pc : Nat) : ac_V E ac_MDf ac_HDf 39 pc (tb_39 (ac_len E) (ac_xs E) pc) := (ac_node (ac_node (ac_node (ac_node (ac_node (ac_leaf 0 (vd_39_0 E)) (ac_leaf 1 (vd_39_1 E))) (ac_node (ac_leaf 2 (vd_39_2 E)) (ac_leaf 3 (vd_39_3 E)))) (ac_node (ac_node (ac_leaf 4 (vd_39_4 E)) (ac_leaf 5 (vd_39_5 E))) (ac_node (ac_leaf 6 (vd_39_6 E)) (ac_leaf 9 (vd_39_9 E))))) (ac_node (ac_node (ac_node (ac_leaf 12 (vd_39_12 E)) (ac_leaf 15 (vd_39_15 E))) (ac_node (ac_leaf 16 (vd_39_16 E)) (ac_leaf 17 (vd_39_17 E)))) (ac_node (ac_node (ac_leaf 20 (vd_39_20 E)) (ac_leaf 21 (vd_39_21 E))) (ac_node (ac_leaf 22 (vd_39_22 E)) (ac_node (ac_leaf 23 (vd_39_23 E)) (ac_leaf 26 (vd_39_26 E))))))) (ac_node (ac_node (ac_node (ac_node (ac_leaf 27 (vd_39_27 E)) (ac_leaf 30 (vd_39_30 E))) (ac_node (ac_leaf 32 (vd_39_32 E)) (ac_leaf 33 (vd_39_33 E)))) (ac_node (ac_node (ac_leaf 34 (vd_39_34 E)) (ac_leaf 37 (vd_39_37 E))) (ac_node (ac_leaf 38 (vd_39_38 E)) (ac_leaf 41 (vd_39_41 E))))) (ac_node (ac_node (ac_node (ac_leaf 42 (vd_39_42 E)) (ac_leaf 43 (vd_39_43 E))) (ac_node (ac_leaf 44 (vd_39_44 E)) (ac_leaf 45 (vd_39_45 E)))) (ac_node (ac_node (ac_leaf 46 (vd_39_46 E)) (ac_leaf 47 (vd_39_47 E))) (ac_node (ac_leaf 50 (vd_39_50 E)) (ac_node (ac_leaf 53 (vd_39_53 E)) (ac_leaf 54 (vd_39_54 E))))))))
theorem vd_40_0 (E : ac_E) : ac_V E ac_MDf ac_HDf 40 0 (.inl (o_ald 0 1)) := ⟨ok_aload_n dd_40_0, mn_ald _ _⟩
theorem vd_40_1 (E : ac_E) : ac_V E ac_MDf ac_HDf 40 1 (.inl (o_ild 1 2)) := ⟨ok_iload_n dd_40_1, mn_ild _ _⟩
theorem vd_40_2 (E : ac_E) : ac_V E ac_MDf ac_HDf 40 2 (.inl (o_ild 2 3)) := ⟨ok_iload_n dd_40_2, mn_ild _ _⟩
theorem vd_40_3 (E : ac_E) : ac_V E ac_MDf ac_HDf 40 3 (.inr (.inl (43,3,6,6))) := ac_Vcp (ok_callV (T := TX4) (N := 12) rfl rfl (by decide) (by decide +kernel) wm_231 wm_50 wm_228 wm_230 wm_2 dd_40_3) rfl (fun _ => rfl)
theorem vd_40_6 (E : ac_E) : ac_V E ac_MDf ac_HDf 40 6 (.inl (o_ist 4 8)) := ⟨ok_istore dd_40_6, mn_ist _ _⟩
theorem vd_40_8 (E : ac_E) : ac_V E ac_MDf ac_HDf 40 8 (.inl (o_ild 3 9)) := ⟨ok_iload_n dd_40_8, mn_ild _ _⟩
theorem vd_40_9 (E : ac_E) : ac_V E ac_MDf ac_HDf 40 9 (.inl (o_con (.int 0) 10)) := ⟨ok_iconst dd_40_9 (by decide), mn_con _ _⟩
theorem vd_40_10 (E : ac_E) : ac_V E ac_MDf ac_HDf 40 10 (.inl (o_con (.int 6) 12)) := ⟨ok_bipush dd_40_10 (by decide), mn_con _ _⟩
theorem vd_40_12 (E : ac_E) : ac_V E ac_MDf ac_HDf 40 12 (.inr (.inl (45,3,15,0))) := ac_Vcp (ok_callS rfl (by decide) (by decide +kernel) wm_307 wm_50 wm_305 wm_306 dd_40_12) rfl (fun _ => rfl)
theorem vd_40_15 (E : ac_E) : ac_V E ac_MDf ac_HDf 40 15 (.inl (o_ald 0 16)) := ⟨ok_aload_n dd_40_15, mn_ald _ _⟩
theorem vd_40_16 (E : ac_E) : ac_V E ac_MDf ac_HDf 40 16 (.inl (o_get 4 8 19)) := ⟨ok_getf (ci := 4) (f := 8) (C := RX4) (T := TX4) (N := 12) (ref := RX4) rfl win_4 (by decide) rfl wm_171 dd_40_16, mn_get _ _ _⟩
theorem vd_40_19 (E : ac_E) : ac_V E ac_MDf ac_HDf 40 19 (.inl (o_ild 4 21)) := ⟨ok_iload dd_40_19, mn_ild _ _⟩
theorem vd_40_21 (E : ac_E) : ac_V E ac_MDf ac_HDf 40 21 (.inl (o_ia 22)) := ⟨ok_iaload dd_40_21, mn_ia _⟩
theorem vd_40_22 (E : ac_E) : ac_V E ac_MDf ac_HDf 40 22 (.inl (o_ild 3 23)) := ⟨ok_iload_n dd_40_22, mn_ild _ _⟩
theorem vd_40_23 (E : ac_E) : ac_V E ac_MDf ac_HDf 40 23 (.inr (.inl (47,2,26,0))) := ac_Vc0 ((ok_callS rfl (by decide) (by decide +kernel) wm_450 wm_50 wm_462 wm_449 dd_40_23).1) (fun _ => rfl)
theorem vd_40_26 (E : ac_E) : ac_V E ac_MDf ac_HDf 40 26 (.inl (o_ne0 39 29)) := ⟨ok_ifne dd_40_26 (by decide), mn_ne0 _ _⟩
theorem vd_40_29 (E : ac_E) : ac_V E ac_MDf ac_HDf 40 29 (.inr (.inr (.inr 4))) := ok_throwN (ix := 13) (bytes := prog_20_method_4_code) (i := 5) (text := "no such particle") rfl (by decide +kernel) (by decide +kernel) (by decide +kernel) (by decide +kernel) (by decide +kernel) rfl wm_598 wm_66 (hat_154_4) (by decide +kernel) (by decide) (by decide) dd_40_29 dd_40_32 dd_40_33 dd_40_35 dd_40_38
theorem vd_40_39 (E : ac_E) : ac_V E ac_MDf ac_HDf 40 39 (.inl (o_ald 0 40)) := ⟨ok_aload_n dd_40_39, mn_ald _ _⟩
theorem vd_40_40 (E : ac_E) : ac_V E ac_MDf ac_HDf 40 40 (.inl (o_get 4 5 43)) := ⟨ok_getf (ci := 4) (f := 5) (C := RX4) (T := TX4) (N := 12) (ref := RX4) rfl win_4 (by decide) rfl wm_168 dd_40_40, mn_get _ _ _⟩
theorem vd_40_43 (E : ac_E) : ac_V E ac_MDf ac_HDf 40 43 (.inl (o_ild 4 45)) := ⟨ok_iload dd_40_43, mn_ild _ _⟩
theorem vd_40_45 (E : ac_E) : ac_V E ac_MDf ac_HDf 40 45 (.inl (o_ild 3 46)) := ⟨ok_iload_n dd_40_45, mn_ild _ _⟩
theorem vd_40_46 (E : ac_E) : ac_V E ac_MDf ac_HDf 40 46 (.inr (.inl (16,3,49,5))) := ac_Vc0 (ok_callVN (T := TX3) (N := 3) rfl rfl (by decide) (by decide +kernel) wm_617 wm_55 wm_614 wm_616 wm_29 dd_40_46) (fun _ => rfl)
theorem vd_40_49 (E : ac_E) : ac_V E ac_MDf ac_HDf 40 49 (.inl (o_eq0 62 52)) := ⟨ok_ifeq dd_40_49 (by decide), mn_eq0 _ _⟩
theorem vd_40_52 (E : ac_E) : ac_V E ac_MDf ac_HDf 40 52 (.inr (.inr (.inr 2))) := ok_throw (i := 6) (text := "it has a mark already") rfl (by decide +kernel) rfl wm_366 wm_63 (hat_162_2) (by decide +kernel) (by decide) (by decide) dd_40_52 dd_40_55 dd_40_56 dd_40_58 dd_40_61
theorem vd_40_62 (E : ac_E) : ac_V E ac_MDf ac_HDf 40 62 (.inl (o_ald 0 63)) := ⟨ok_aload_n dd_40_62, mn_ald _ _⟩
theorem vd_40_63 (E : ac_E) : ac_V E ac_MDf ac_HDf 40 63 (.inl (o_get 4 5 66)) := ⟨ok_getf (ci := 4) (f := 5) (C := RX4) (T := TX4) (N := 12) (ref := RX4) rfl win_4 (by decide) rfl wm_168 dd_40_63, mn_get _ _ _⟩
theorem vd_40_66 (E : ac_E) : ac_V E ac_MDf ac_HDf 40 66 (.inl (o_get 3 2 69)) := ⟨ok_getN (ci := 3) (f := 2) (C := RX3) (T := TX3) (N := 3) (ref := RX3) rfl win_3 (by decide) rfl wm_155 dd_40_66, mn_get _ _ _⟩
theorem vd_40_69 (E : ac_E) : ac_V E ac_MDf ac_HDf 40 69 (.inl (o_con (.int 4) 70)) := ⟨ok_iconst dd_40_69 (by decide), mn_con _ _⟩
theorem vd_40_70 (E : ac_E) : ac_V E ac_MDf ac_HDf 40 70 (.inl (o_lt 83 73)) := ⟨ok_icmplt dd_40_70 (by decide), mn_lt _ _⟩
theorem vd_40_73 (E : ac_E) : ac_V E ac_MDf ac_HDf 40 73 (.inr (.inr (.inr 3))) := ok_throw (i := 7) (text := "all marks are given") rfl (by decide +kernel) rfl wm_554 wm_65 (hat_117_3) (by decide +kernel) (by decide) (by decide) dd_40_73 dd_40_76 dd_40_77 dd_40_79 dd_40_82
theorem vd_40_83 (E : ac_E) : ac_V E ac_MDf ac_HDf 40 83 (.inl (o_ald 0 84)) := ⟨ok_aload_n dd_40_83, mn_ald _ _⟩
theorem vd_40_84 (E : ac_E) : ac_V E ac_MDf ac_HDf 40 84 (.inl (o_get 4 5 87)) := ⟨ok_getf (ci := 4) (f := 5) (C := RX4) (T := TX4) (N := 12) (ref := RX4) rfl win_4 (by decide) rfl wm_168 dd_40_84, mn_get _ _ _⟩
theorem vd_40_87 (E : ac_E) : ac_V E ac_MDf ac_HDf 40 87 (.inl (o_ild 4 89)) := ⟨ok_iload dd_40_87, mn_ild _ _⟩
theorem vd_40_89 (E : ac_E) : ac_V E ac_MDf ac_HDf 40 89 (.inl (o_ild 3 90)) := ⟨ok_iload_n dd_40_89, mn_ild _ _⟩
theorem vd_40_90 (E : ac_E) : ac_V E ac_MDf ac_HDf 40 90 (.inr (.inl (17,3,93,5))) := ac_Vc0 (ok_callVN (T := TX3) (N := 3) rfl rfl (by decide) (by decide +kernel) wm_623 wm_55 wm_620 wm_622 wm_30 dd_40_90) (fun _ => rfl)
theorem vd_40_93 (E : ac_E) : ac_V E ac_MDf ac_HDf 40 93 (.inr (.inr (.inl 1))) := ⟨fun q => nomatch q, fun _ => ⟨dd_40_93, rfl⟩, fun q => nomatch q⟩
theorem va_40 (E : ac_E) (pc : Nat) : ac_V E ac_MDf ac_HDf 40 pc (tb_40 (ac_len E) (ac_xs E) pc) := (ac_node (ac_node (ac_node (ac_node (ac_node (ac_leaf 0 (vd_40_0 E)) (ac_leaf 1 (vd_40_1 E))) (ac_node (ac_leaf 2 (vd_40_2 E)) (ac_leaf 3 (vd_40_3 E)))) (ac_node (ac_node (ac_leaf 6 (vd_40_6 E)) (ac_leaf 8 (vd_40_8 E))) (ac_node (ac_leaf 9 (vd_40_9 E)) (ac_node (ac_leaf 10 (vd_40_10 E)) (ac_leaf 12 (vd_40_12 E)))))) (ac_node (ac_node (ac_node (ac_leaf 15 (vd_40_15 E)) (ac_leaf 16 (vd_40_16 E))) (ac_node (ac_leaf 19 (vd_40_19 E)) (ac_leaf 21 (vd_40_21 E)))) (ac_node (ac_node (ac_leaf 22 (vd_40_22 E)) (ac_leaf 23 (vd_40_23 E))) (ac_node (ac_leaf 26 (vd_40_26 E)) (ac_node (ac_leaf 29 (vd_40_29 E)) (ac_leaf 39 (vd_40_39 E))))))) (ac_node (ac_node (ac_node (ac_node (ac_leaf 40 (vd_40_40 E)) (ac_leaf 43 (vd_40_43 E))) (ac_node (ac_leaf 45 (vd_40_45 E)) (ac_leaf 46 (vd_40_46 E)))) (ac_node (ac_node (ac_leaf 49 (vd_40_49 E)) (ac_leaf 52 (vd_40_52 E))) (ac_node (ac_leaf 62 (vd_40_62 E)) (ac_node (ac_leaf 63 (vd_40_63 E)) (ac_leaf 66 (vd_40_66 E)))))) (ac_node (ac_node (ac_node (ac_leaf 69 (vd_40_69 E)) (ac_leaf 70 (vd_40_70 E))) (ac_node (ac_leaf 73 (vd_40_73 E)) (ac_leaf 83 (vd_40_83 E)))) (ac_node (ac_node (ac_leaf 84 (vd_40_84 E)) (ac_leaf 87 (vd_40_87 E))) (ac_node (ac_leaf 89 (vd_40_89 E)) (ac_node (ac_leaf 90 (vd_40_90 E)) (ac_leaf 93 (vd_40_93 E))))))))
theorem vd_41_0 (E : ac_E) : ac_V E ac_MDf ac_HDf 41 0 (.inl (o_ild 1 1)) := ⟨ok_iload_n dd_41_0, mn_ild _ _⟩
theorem vd_41_1 (E : ac_E) : ac_V E ac_MDf ac_HDf 41 1 (.inl (o_lt0 15 4)) := ⟨ok_iflt dd_41_1 (by decide), mn_lt0 _ _⟩
theorem vd_41_4 (E : ac_E) : ac_V E ac_MDf ac_HDf 41 4 (.inl (o_ild 1 5)) := ⟨ok_iload_n dd_41_4, mn_ild _ _⟩
theorem vd_41_5 (E : ac_E) : ac_V E ac_MDf ac_HDf 41 5 (.inl (o_ald 0 6)) := ⟨ok_aload_n dd_41_5, mn_ald _ _⟩
theorem vd_41_6 (E : ac_E) : ac_V E ac_MDf ac_HDf 41 6 (.inl (o_get 4 5 9)) := ⟨ok_getf (ci := 4) (f := 5) (C := RX4) (T := TX4) (N := 12) (ref := RX4) rfl win_4 (by decide) rfl wm_168 dd_41_6, mn_get _ _ _⟩
theorem vd_41_9 (E : ac_E) : ac_V E ac_MDf ac_HDf 41 9 (.inl (o_get 3 2 12)) := ⟨ok_getN (ci := 3) (f := 2) (C := RX3) (T := TX3) (N := 3) (ref := RX3) rfl win_3 (by decide) rfl wm_155 dd_41_9, mn_get _ _ _⟩
theorem vd_41_12 (E : ac_E) : ac_V E ac_MDf ac_HDf 41 12 (.inl (o_lt 25 15)) := ⟨ok_icmplt dd_41_12 (by decide), mn_lt _ _⟩
theorem vd_41_15 (E : ac_E) : ac_V E ac_MDf ac_HDf 41 15 (.inr (.inr (.inr 0))) := ok_throw (i := 8) (text := "no such mark") rfl (by decide +kernel) rfl wm_232 wm_60 (hat_133_0) (by decide +kernel) (by decide) (by decide) dd_41_15 dd_41_18 dd_41_19 dd_41_21 dd_41_24
theorem vd_41_25 (E : ac_E) : ac_V E ac_MDf ac_HDf 41 25 (.inl (o_ald 0 26)) := ⟨ok_aload_n dd_41_25, mn_ald _ _⟩
theorem vd_41_26 (E : ac_E) : ac_V E ac_MDf ac_HDf 41 26 (.inl (o_get 4 5 29)) := ⟨ok_getf (ci := 4) (f := 5) (C := RX4) (T := TX4) (N := 12) (ref := RX4) rfl win_4 (by decide) rfl wm_168 dd_41_26, mn_get _ _ _⟩
theorem vd_41_29 (E : ac_E) : ac_V E ac_MDf ac_HDf 41 29 (.inl (o_get 3 0 32)) := ⟨ok_getN (ci := 3) (f := 0) (C := RX3) (T := TX3) (N := 3) (ref := RX3) rfl win_3 (by decide) rfl wm_151 dd_41_29, mn_get _ _ _⟩
theorem vd_41_32 (E : ac_E) : ac_V E ac_MDf ac_HDf 41 32 (.inl (o_ild 1 33)) := ⟨ok_iload_n dd_41_32, mn_ild _ _⟩
theorem vd_41_33 (E : ac_E) : ac_V E ac_MDf ac_HDf 41 33 (.inl (o_ia 34)) := ⟨ok_iaload dd_41_33, mn_ia _⟩
theorem vd_41_34 (E : ac_E) : ac_V E ac_MDf ac_HDf 41 34 (.inl (o_ist 2 35)) := ⟨ok_istore_n dd_41_34, mn_ist _ _⟩
theorem vd_41_35 (E : ac_E) : ac_V E ac_MDf ac_HDf 41 35 (.inl (o_ild 2 36)) := ⟨ok_iload_n dd_41_35, mn_ild _ _⟩
theorem vd_41_36 (E : ac_E) : ac_V E ac_MDf ac_HDf 41 36 (.inl (o_con (.int (-1)) 37)) := ⟨ok_iconst dd_41_36 (by decide), mn_con _ _⟩
theorem vd_41_37 (E : ac_E) : ac_V E ac_MDf ac_HDf 41 37 (.inl (o_ne 42 40)) := ⟨ok_icmpne dd_41_37 (by decide), mn_ne _ _⟩
theorem vd_41_40 (E : ac_E) : ac_V E ac_MDf ac_HDf 41 40 (.inl (o_con (.int (-1)) 41)) := ⟨ok_iconst dd_41_40 (by decide), mn_con _ _⟩
theorem vd_41_41 (E : ac_E) : ac_V E ac_MDf ac_HDf 41 41 (.inr (.inr (.inl 1))) := ⟨fun q => nomatch q, fun _ => ⟨dd_41_41, rfl⟩, fun q => nomatch q⟩
theorem vd_41_42 (E : ac_E) : ac_V E ac_MDf ac_HDf 41 42 (.inl (o_con (.int 128) 45)) := ⟨ok_sipush dd_41_42 (by decide), mn_con _ _⟩
theorem vd_41_45 (E : ac_E) : ac_V E ac_MDf ac_HDf 41 45 (.inl (o_ald 0 46)) := ⟨ok_aload_n dd_41_45, mn_ald _ _⟩
theorem vd_41_46 (E : ac_E) : ac_V E ac_MDf ac_HDf 41 46 (.inl (o_get 4 0 49)) := ⟨ok_getf (ci := 4) (f := 0) (C := RX4) (T := TX4) (N := 12) (ref := RX4) rfl win_4 (by decide) rfl wm_163 dd_41_46, mn_get _ _ _⟩
theorem vd_41_49 (E : ac_E) : ac_V E ac_MDf ac_HDf 41 49 (.inl (o_ild 2 50)) := ⟨ok_iload_n dd_41_49, mn_ild _ _⟩
theorem vd_41_50 (E : ac_E) : ac_V E ac_MDf ac_HDf 41 50 (.inr (.inl (13,2,53,4))) := ac_Vc0 (ok_callVN (T := TX2) (N := 4) rfl rfl (by decide) (by decide +kernel) wm_211 wm_51 wm_208 wm_210 wm_0 dd_41_50) (fun _ => rfl)
theorem vd_41_53 (E : ac_E) : ac_V E ac_MDf ac_HDf 41 53 (.inl (o_mul 54)) := ⟨ok_imul dd_41_53, mn_mul _⟩
theorem vd_41_54 (E : ac_E) : ac_V E ac_MDf ac_HDf 41 54 (.inl (o_con (.int 8) 56)) := ⟨ok_bipush dd_41_54 (by decide), mn_con _ _⟩
theorem vd_41_56 (E : ac_E) : ac_V E ac_MDf ac_HDf 41 56 (.inl (o_ald 0 57)) := ⟨ok_aload_n dd_41_56, mn_ald _ _⟩
theorem vd_41_57 (E : ac_E) : ac_V E ac_MDf ac_HDf 41 57 (.inl (o_get 4 0 60)) := ⟨ok_getf (ci := 4) (f := 0) (C := RX4) (T := TX4) (N := 12) (ref := RX4) rfl win_4 (by decide) rfl wm_163 dd_41_57, mn_get _ _ _⟩
theorem vd_41_60 (E : ac_E) : ac_V E ac_MDf ac_HDf 41 60 (.inl (o_ild 2 61)) := ⟨ok_iload_n dd_41_60, mn_ild _ _⟩
theorem vd_41_61 (E : ac_E) : ac_V E ac_MDf ac_HDf 41 61 (.inr (.inl (12,2,64,4))) := ac_Vc0 (ok_callVN (T := TX2) (N := 4) rfl rfl (by decide) (by decide +kernel) wm_215 wm_51 wm_212 wm_214 wm_1 dd_41_61) (fun _ => rfl)
theorem vd_41_64 (E : ac_E) : ac_V E ac_MDf ac_HDf 41 64 (.inl (o_mul 65)) := ⟨ok_imul dd_41_64, mn_mul _⟩
theorem vd_41_65 (E : ac_E) : ac_V E ac_MDf ac_HDf 41 65 (.inl (o_add 66)) := ⟨ok_iadd dd_41_65, mn_add _⟩
theorem vd_41_66 (E : ac_E) : ac_V E ac_MDf ac_HDf 41 66 (.inl (o_ald 0 67)) := ⟨ok_aload_n dd_41_66, mn_ald _ _⟩
theorem vd_41_67 (E : ac_E) : ac_V E ac_MDf ac_HDf 41 67 (.inl (o_get 4 5 70)) := ⟨ok_getf (ci := 4) (f := 5) (C := RX4) (T := TX4) (N := 12) (ref := RX4) rfl win_4 (by decide) rfl wm_168 dd_41_67, mn_get _ _ _⟩
theorem vd_41_70 (E : ac_E) : ac_V E ac_MDf ac_HDf 41 70 (.inl (o_get 3 1 73)) := ⟨ok_getN (ci := 3) (f := 1) (C := RX3) (T := TX3) (N := 3) (ref := RX3) rfl win_3 (by decide) rfl wm_153 dd_41_70, mn_get _ _ _⟩
theorem vd_41_73 (E : ac_E) : ac_V E ac_MDf ac_HDf 41 73 (.inl (o_ild 1 74)) := ⟨ok_iload_n dd_41_73, mn_ild _ _⟩
theorem vd_41_74 (E : ac_E) : ac_V E ac_MDf ac_HDf 41 74 (.inl (o_ia 75)) := ⟨ok_iaload dd_41_74, mn_ia _⟩
theorem vd_41_75 (E : ac_E) : ac_V E ac_MDf ac_HDf 41 75 (.inl (o_add 76)) := ⟨ok_iadd dd_41_75, mn_add _⟩
theorem vd_41_76 (E : ac_E) : ac_V E ac_MDf ac_HDf 41 76 (.inr (.inr (.inl 1))) := ⟨fun q => nomatch q, fun _ => ⟨dd_41_76, rfl⟩, fun q => nomatch q⟩
theorem va_41 (E : ac_E) (pc : Nat) : ac_V E ac_MDf ac_HDf 41 pc (tb_41 (ac_len E) (ac_xs E) pc) := (ac_node (ac_node (ac_node (ac_node (ac_node (ac_leaf 0 (vd_41_0 E)) (ac_leaf 1 (vd_41_1 E))) (ac_node (ac_leaf 4 (vd_41_4 E)) (ac_leaf 5 (vd_41_5 E)))) (ac_node (ac_node (ac_leaf 6 (vd_41_6 E)) (ac_leaf 9 (vd_41_9 E))) (ac_node (ac_leaf 12 (vd_41_12 E)) (ac_node (ac_leaf 15 (vd_41_15 E)) (ac_leaf 25 (vd_41_25 E)))))) (ac_node (ac_node (ac_node (ac_leaf 26 (vd_41_26 E)) (ac_leaf 29 (vd_41_29 E))) (ac_node (ac_leaf 32 (vd_41_32 E)) (ac_node (ac_leaf 33 (vd_41_33 E)) (ac_leaf 34 (vd_41_34 E))))) (ac_node (ac_node (ac_leaf 35 (vd_41_35 E)) (ac_leaf 36 (vd_41_36 E))) (ac_node (ac_leaf 37 (vd_41_37 E)) (ac_node (ac_leaf 40 (vd_41_40 E)) (ac_leaf 41 (vd_41_41 E))))))) (ac_node (ac_node (ac_node (ac_node (ac_leaf 42 (vd_41_42 E)) (ac_leaf 45 (vd_41_45 E))) (ac_node (ac_leaf 46 (vd_41_46 E)) (ac_node (ac_leaf 49 (vd_41_49 E)) (ac_leaf 50 (vd_41_50 E))))) (ac_node (ac_node (ac_leaf 53 (vd_41_53 E)) (ac_leaf 54 (vd_41_54 E))) (ac_node (ac_leaf 56 (vd_41_56 E)) (ac_node (ac_leaf 57 (vd_41_57 E)) (ac_leaf 60 (vd_41_60 E)))))) (ac_node (ac_node (ac_node (ac_leaf 61 (vd_41_61 E)) (ac_leaf 64 (vd_41_64 E))) (ac_node (ac_leaf 65 (vd_41_65 E)) (ac_node (ac_leaf 66 (vd_41_66 E)) (ac_leaf 67 (vd_41_67 E))))) (ac_node (ac_node (ac_leaf 70 (vd_41_70 E)) (ac_leaf 73 (vd_41_73 E))) (ac_node (ac_leaf 74 (vd_41_74 E)) (ac_node (ac_leaf 75 (vd_41_75 E)) (ac_leaf 76 (vd_41_76 E))))))))
theorem vd_42_0 (E : ac_E) : ac_V E ac_MDf ac_HDf 42 0 (.inl (o_ild 0 1)) := ⟨ok_iload_n dd_42_0, mn_ild _ _⟩
theorem vd_42_1 (E : ac_E) : ac_V E ac_MDf ac_HDf 42 1 (.inl (o_con (.int 4) 2)) := ⟨ok_iconst dd_42_1 (by decide), mn_con _ _⟩
theorem vd_42_2 (E : ac_E) : ac_V E ac_MDf ac_HDf 42 2 (.inl (o_lt 21 5)) := ⟨ok_icmplt dd_42_2 (by decide), mn_lt _ _⟩
theorem vd_42_5 (E : ac_E) : ac_V E ac_MDf ac_HDf 42 5 (.inl (o_ild 0 6)) := ⟨ok_iload_n dd_42_5, mn_ild _ _⟩
theorem vd_42_6 (E : ac_E) : ac_V E ac_MDf ac_HDf 42 6 (.inl (o_con (.int 16) 8)) := ⟨ok_bipush dd_42_6 (by decide), mn_con _ _⟩
theorem vd_42_8 (E : ac_E) : ac_V E ac_MDf ac_HDf 42 8 (.inl (o_gt 21 11)) := ⟨ok_icmpgt dd_42_8 (by decide), mn_gt _ _⟩
theorem vd_42_11 (E : ac_E) : ac_V E ac_MDf ac_HDf 42 11 (.inl (o_ild 0 12)) := ⟨ok_iload_n dd_42_11, mn_ild _ _⟩
theorem vd_42_12 (E : ac_E) : ac_V E ac_MDf ac_HDf 42 12 (.inl (o_con (.int 2) 13)) := ⟨ok_iconst dd_42_12 (by decide), mn_con _ _⟩
theorem vd_42_13 (E : ac_E) : ac_V E ac_MDf ac_HDf 42 13 (.inl (o_rem 14)) := ⟨ok_irem dd_42_13, mn_rem _⟩
theorem vd_42_14 (E : ac_E) : ac_V E ac_MDf ac_HDf 42 14 (.inl (o_ne0 21 17)) := ⟨ok_ifne dd_42_14 (by decide), mn_ne0 _ _⟩
theorem vd_42_17 (E : ac_E) : ac_V E ac_MDf ac_HDf 42 17 (.inl (o_con (.int 1) 18)) := ⟨ok_iconst dd_42_17 (by decide), mn_con _ _⟩
theorem vd_42_18 (E : ac_E) : ac_V E ac_MDf ac_HDf 42 18 (.inl (o_go 22)) := ⟨ok_goto dd_42_18 (by decide), mn_go _⟩
theorem vd_42_21 (E : ac_E) : ac_V E ac_MDf ac_HDf 42 21 (.inl (o_con (.int 0) 22)) := ⟨ok_iconst dd_42_21 (by decide), mn_con _ _⟩
theorem vd_42_22 (E : ac_E) : ac_V E ac_MDf ac_HDf 42 22 (.inl (o_ist 1 23)) := ⟨ok_istore_n dd_42_22, mn_ist _ _⟩
theorem vd_42_23 (E : ac_E) : ac_V E ac_MDf ac_HDf 42 23 (.inl (o_ild 1 24)) := ⟨ok_iload_n dd_42_23, mn_ild _ _⟩
theorem vd_42_24 (E : ac_E) : ac_V E ac_MDf ac_HDf 42 24 (.inl (o_eq0 31 27)) := ⟨ok_ifeq dd_42_24 (by decide), mn_eq0 _ _⟩
theorem vd_42_27 (E : ac_E) : ac_V E ac_MDf ac_HDf 42 27 (.inl (o_ild 0 28)) := ⟨ok_iload_n dd_42_27, mn_ild _ _⟩
theorem vd_42_28 (E : ac_E) : ac_V E ac_MDf ac_HDf 42 28 (.inl (o_go 33)) := ⟨ok_goto dd_42_28 (by decide), mn_go _⟩
theorem vd_42_31 (E : ac_E) : ac_V E ac_MDf ac_HDf 42 31 (.inl (o_con (.int 8) 33)) := ⟨ok_bipush dd_42_31 (by decide), mn_con _ _⟩
theorem vd_42_33 (E : ac_E) : ac_V E ac_MDf ac_HDf 42 33 (.inr (.inr (.inl 1))) := ⟨fun q => nomatch q, fun _ => ⟨dd_42_33, rfl⟩, fun q => nomatch q⟩
theorem va_42 (E : ac_E) (pc : Nat) : ac_V E ac_MDf ac_HDf 42 pc (tb_42 (ac_len E) (ac_xs E) pc) := (ac_node (ac_node (ac_node (ac_node (ac_leaf 0 (vd_42_0 E)) (ac_leaf 1 (vd_42_1 E))) (ac_node (ac_leaf 2 (vd_42_2 E)) (ac_node (ac_leaf 5 (vd_42_5 E)) (ac_leaf 6 (vd_42_6 E))))) (ac_node (ac_node (ac_leaf 8 (vd_42_8 E)) (ac_leaf 11 (vd_42_11 E))) (ac_node (ac_leaf 12 (vd_42_12 E)) (ac_node (ac_leaf 13 (vd_42_13 E)) (ac_leaf 14 (vd_42_14 E)))))) (ac_node (ac_node (ac_node (ac_leaf 17 (vd_42_17 E)) (ac_leaf 18 (vd_42_18 E))) (ac_node (ac_leaf 21 (vd_42_21 E)) (ac_node (ac_leaf 22 (vd_42_22 E)) (ac_leaf 23 (vd_42_23 E))))) (ac_node (ac_node (ac_leaf 24 (vd_42_24 E)) (ac_leaf 27 (vd_42_27 E))) (ac_node (ac_leaf 28 (vd_42_28 E)) (ac_node (ac_leaf 31 (vd_42_31 E)) (ac_leaf 33 (vd_42_33 E)))))))
theorem vd_43_0 (E : ac_E) : ac_V E ac_MDf ac_HDf 43 0 (.inl (o_ild 1 1)) := ⟨ok_iload_n dd_43_0, mn_ild _ _⟩
theorem vd_43_1 (E : ac_E) : ac_V E ac_MDf ac_HDf 43 1 (.inl (o_lt0 30 4)) := ⟨ok_iflt dd_43_1 (by decide), mn_lt0 _ _⟩
theorem vd_43_4 (E : ac_E) : ac_V E ac_MDf ac_HDf 43 4 (.inl (o_ild 1 5)) := ⟨ok_iload_n dd_43_4, mn_ild _ _⟩
theorem vd_43_5 (E : ac_E) : ac_V E ac_MDf ac_HDf 43 5 (.inl (o_ald 0 6)) := ⟨ok_aload_n dd_43_5, mn_ald _ _⟩
theorem vd_43_6 (E : ac_E) : ac_V E ac_MDf ac_HDf 43 6 (.inl (o_get 4 0 9)) := ⟨ok_getf (ci := 4) (f := 0) (C := RX4) (T := TX4) (N := 12) (ref := RX4) rfl win_4 (by decide) rfl wm_163 dd_43_6, mn_get _ _ _⟩
theorem vd_43_9 (E : ac_E) : ac_V E ac_MDf ac_HDf 43 9 (.inl (o_get 2 0 12)) := ⟨ok_getN (ci := 2) (f := 0) (C := RX2) (T := TX2) (N := 4) (ref := RX2) rfl win_2 (by decide) rfl wm_94 dd_43_9, mn_get _ _ _⟩
theorem vd_43_12 (E : ac_E) : ac_V E ac_MDf ac_HDf 43 12 (.inl (o_ge 30 15)) := ⟨ok_icmpge dd_43_12 (by decide), mn_ge _ _⟩
theorem vd_43_15 (E : ac_E) : ac_V E ac_MDf ac_HDf 43 15 (.inl (o_ild 2 16)) := ⟨ok_iload_n dd_43_15, mn_ild _ _⟩
theorem vd_43_16 (E : ac_E) : ac_V E ac_MDf ac_HDf 43 16 (.inl (o_lt0 30 19)) := ⟨ok_iflt dd_43_16 (by decide), mn_lt0 _ _⟩
theorem vd_43_19 (E : ac_E) : ac_V E ac_MDf ac_HDf 43 19 (.inl (o_ild 2 20)) := ⟨ok_iload_n dd_43_19, mn_ild _ _⟩
theorem vd_43_20 (E : ac_E) : ac_V E ac_MDf ac_HDf 43 20 (.inl (o_ald 0 21)) := ⟨ok_aload_n dd_43_20, mn_ald _ _⟩
theorem vd_43_21 (E : ac_E) : ac_V E ac_MDf ac_HDf 43 21 (.inl (o_get 4 0 24)) := ⟨ok_getf (ci := 4) (f := 0) (C := RX4) (T := TX4) (N := 12) (ref := RX4) rfl win_4 (by decide) rfl wm_163 dd_43_21, mn_get _ _ _⟩
theorem vd_43_24 (E : ac_E) : ac_V E ac_MDf ac_HDf 43 24 (.inl (o_get 2 1 27)) := ⟨ok_getN (ci := 2) (f := 1) (C := RX2) (T := TX2) (N := 4) (ref := RX2) rfl win_2 (by decide) rfl wm_96 dd_43_24, mn_get _ _ _⟩
theorem vd_43_27 (E : ac_E) : ac_V E ac_MDf ac_HDf 43 27 (.inl (o_lt 40 30)) := ⟨ok_icmplt dd_43_27 (by decide), mn_lt _ _⟩
theorem vd_43_30 (E : ac_E) : ac_V E ac_MDf ac_HDf 43 30 (.inr (.inr (.inr 0))) := ok_throw (i := 0) (text := "no such cell") rfl (by decide +kernel) rfl wm_232 wm_60 (hat_133_0) (by decide +kernel) (by decide) (by decide) dd_43_30 dd_43_33 dd_43_34 dd_43_36 dd_43_39
theorem vd_43_40 (E : ac_E) : ac_V E ac_MDf ac_HDf 43 40 (.inl (o_ild 2 41)) := ⟨ok_iload_n dd_43_40, mn_ild _ _⟩
theorem vd_43_41 (E : ac_E) : ac_V E ac_MDf ac_HDf 43 41 (.inl (o_ald 0 42)) := ⟨ok_aload_n dd_43_41, mn_ald _ _⟩
theorem vd_43_42 (E : ac_E) : ac_V E ac_MDf ac_HDf 43 42 (.inl (o_get 4 0 45)) := ⟨ok_getf (ci := 4) (f := 0) (C := RX4) (T := TX4) (N := 12) (ref := RX4) rfl win_4 (by decide) rfl wm_163 dd_43_42, mn_get _ _ _⟩
theorem vd_43_45 (E : ac_E) : ac_V E ac_MDf ac_HDf 43 45 (.inl (o_get 2 0 48)) := ⟨ok_getN (ci := 2) (f := 0) (C := RX2) (T := TX2) (N := 4) (ref := RX2) rfl win_2 (by decide) rfl wm_94 dd_43_45, mn_get _ _ _⟩
theorem vd_43_48 (E : ac_E) : ac_V E ac_MDf ac_HDf 43 48 (.inl (o_mul 49)) := ⟨ok_imul dd_43_48, mn_mul _⟩
theorem vd_43_49 (E : ac_E) : ac_V E ac_MDf ac_HDf 43 49 (.inl (o_ild 1 50)) := ⟨ok_iload_n dd_43_49, mn_ild _ _⟩
theorem vd_43_50 (E : ac_E) : ac_V E ac_MDf ac_HDf 43 50 (.inl (o_add 51)) := ⟨ok_iadd dd_43_50, mn_add _⟩
theorem vd_43_51 (E : ac_E) : ac_V E ac_MDf ac_HDf 43 51 (.inr (.inr (.inl 1))) := ⟨fun q => nomatch q, fun _ => ⟨dd_43_51, rfl⟩, fun q => nomatch q⟩
theorem va_43 (E : ac_E) (pc : Nat) : ac_V E ac_MDf ac_HDf 43 pc (tb_43 (ac_len E) (ac_xs E) pc) := (ac_node (ac_node (ac_node (ac_node (ac_leaf 0 (vd_43_0 E)) (ac_leaf 1 (vd_43_1 E))) (ac_node (ac_leaf 4 (vd_43_4 E)) (ac_node (ac_leaf 5 (vd_43_5 E)) (ac_leaf 6 (vd_43_6 E))))) (ac_node (ac_node (ac_leaf 9 (vd_43_9 E)) (ac_node (ac_leaf 12 (vd_43_12 E)) (ac_leaf 15 (vd_43_15 E)))) (ac_node (ac_leaf 16 (vd_43_16 E)) (ac_node (ac_leaf 19 (vd_43_19 E)) (ac_leaf 20 (vd_43_20 E)))))) (ac_node (ac_node (ac_node (ac_leaf 21 (vd_43_21 E)) (ac_node (ac_leaf 24 (vd_43_24 E)) (ac_leaf 27 (vd_43_27 E)))) (ac_node (ac_leaf 30 (vd_43_30 E)) (ac_node (ac_leaf 40 (vd_43_40 E)) (ac_leaf 41 (vd_43_41 E))))) (ac_node (ac_node (ac_leaf 42 (vd_43_42 E)) (ac_node (ac_leaf 45 (vd_43_45 E)) (ac_leaf 48 (vd_43_48 E)))) (ac_node (ac_leaf 49 (vd_43_49 E)) (ac_node (ac_leaf 50 (vd_43_50 E)) (ac_leaf 51 (vd_43_51 E)))))))
theorem vd_44_0 (E : ac_E) : ac_V E ac_MDf ac_HDf 44 0 (.inl (o_ild 0 1)) := ⟨ok_iload_n dd_44_0, mn_ild _ _⟩
theorem vd_44_1 (E : ac_E) : ac_V E ac_MDf ac_HDf 44 1 (.inl (o_con (.int 0) 2)) := ⟨ok_iconst dd_44_1 (by decide), mn_con _ _⟩
theorem vd_44_2 (E : ac_E) : ac_V E ac_MDf ac_HDf 44 2 (.inl (o_con (.int 127) 4)) := ⟨ok_bipush dd_44_2 (by decide), mn_con _ _⟩
theorem vd_44_4 (E : ac_E) : ac_V E ac_MDf ac_HDf 44 4 (.inr (.inl (45,3,7,0))) := ac_Vcp (ok_callS rfl (by decide) (by decide +kernel) wm_307 wm_50 wm_305 wm_306 dd_44_4) rfl (fun _ => rfl)
theorem vd_44_7 (E : ac_E) : ac_V E ac_MDf ac_HDf 44 7 (.inr (.inr (.inl 0))) := ⟨fun _ => ⟨dd_44_7, rfl⟩, fun q => nomatch q, fun q => nomatch q⟩
theorem va_44 (E : ac_E) (pc : Nat) : ac_V E ac_MDf ac_HDf 44 pc (tb_44 (ac_len E) (ac_xs E) pc) := (ac_node (ac_node (ac_leaf 0 (vd_44_0 E)) (ac_leaf 1 (vd_44_1 E))) (ac_node (ac_leaf 2 (vd_44_2 E)) (ac_node (ac_leaf 4 (vd_44_4 E)) (ac_leaf 7 (vd_44_7 E)))))
theorem vd_45_0 (E : ac_E) : ac_V E ac_MDf ac_HDf 45 0 (.inl (o_ild 0 1)) := ⟨ok_iload_n dd_45_0, mn_ild _ _⟩
theorem vd_45_1 (E : ac_E) : ac_V E ac_MDf ac_HDf 45 1 (.inl (o_ild 1 2)) := ⟨ok_iload_n dd_45_1, mn_ild _ _⟩
theorem vd_45_2 (E : ac_E) : ac_V E ac_MDf ac_HDf 45 2 (.inl (o_lt 10 5)) := ⟨ok_icmplt dd_45_2 (by decide), mn_lt _ _⟩
theorem vd_45_5 (E : ac_E) : ac_V E ac_MDf ac_HDf 45 5 (.inl (o_ild 0 6)) := ⟨ok_iload_n dd_45_5, mn_ild _ _⟩
theorem vd_45_6 (E : ac_E) : ac_V E ac_MDf ac_HDf 45 6 (.inl (o_ild 2 7)) := ⟨ok_iload_n dd_45_6, mn_ild _ _⟩
theorem vd_45_7 (E : ac_E) : ac_V E ac_MDf ac_HDf 45 7 (.inl (o_le 20 10)) := ⟨ok_icmple dd_45_7 (by decide), mn_le _ _⟩
theorem vd_45_10 (E : ac_E) : ac_V E ac_MDf ac_HDf 45 10 (.inr (.inr (.inr 1))) := ok_throw (i := 1) (text := "out of range") rfl (by decide +kernel) rfl wm_308 wm_61 (hat_184_1) (by decide +kernel) (by decide) (by decide) dd_45_10 dd_45_13 dd_45_14 dd_45_16 dd_45_19
theorem vd_45_20 (E : ac_E) : ac_V E ac_MDf ac_HDf 45 20 (.inr (.inr (.inl 0))) := ⟨fun _ => ⟨dd_45_20, rfl⟩, fun q => nomatch q, fun q => nomatch q⟩
theorem va_45 (E : ac_E) (pc : Nat) : ac_V E ac_MDf ac_HDf 45 pc (tb_45 (ac_len E) (ac_xs E) pc) := (ac_node (ac_node (ac_node (ac_leaf 0 (vd_45_0 E)) (ac_leaf 1 (vd_45_1 E))) (ac_node (ac_leaf 2 (vd_45_2 E)) (ac_leaf 5 (vd_45_5 E)))) (ac_node (ac_node (ac_leaf 6 (vd_45_6 E)) (ac_leaf 7 (vd_45_7 E))) (ac_node (ac_leaf 10 (vd_45_10 E)) (ac_leaf 20 (vd_45_20 E)))))
theorem vd_46_0 (E : ac_E) : ac_V E ac_MDf ac_HDf 46 0 (.inl (o_ald 0 1)) := ⟨ok_aload_n dd_46_0, mn_ald _ _⟩
theorem vd_46_1 (E : ac_E) : ac_V E ac_MDf ac_HDf 46 1 (.inl (o_get 4 1 4)) := ⟨ok_getf (ci := 4) (f := 1) (C := RX4) (T := TX4) (N := 12) (ref := RX4) rfl win_4 (by decide) rfl wm_164 dd_46_1, mn_get _ _ _⟩
theorem vd_46_4 (E : ac_E) : ac_V E ac_MDf ac_HDf 46 4 (.inl (o_ild 1 5)) := ⟨ok_iload_n dd_46_4, mn_ild _ _⟩
theorem vd_46_5 (E : ac_E) : ac_V E ac_MDf ac_HDf 46 5 (.inl (o_ia 6)) := ⟨ok_iaload dd_46_5, mn_ia _⟩
theorem vd_46_6 (E : ac_E) : ac_V E ac_MDf ac_HDf 46 6 (.inl (o_ist 4 8)) := ⟨ok_istore dd_46_6, mn_ist _ _⟩
theorem vd_46_8 (E : ac_E) : ac_V E ac_MDf ac_HDf 46 8 (.inl (o_ild 4 10)) := ⟨ok_iload dd_46_8, mn_ild _ _⟩
theorem vd_46_10 (E : ac_E) : ac_V E ac_MDf ac_HDf 46 10 (.inl (o_eq0 29 13)) := ⟨ok_ifeq dd_46_10 (by decide), mn_eq0 _ _⟩
theorem vd_46_13 (E : ac_E) : ac_V E ac_MDf ac_HDf 46 13 (.inl (o_ild 4 15)) := ⟨ok_iload dd_46_13, mn_ild _ _⟩
theorem vd_46_15 (E : ac_E) : ac_V E ac_MDf ac_HDf 46 15 (.inl (o_ild 2 16)) := ⟨ok_iload_n dd_46_15, mn_ild _ _⟩
theorem vd_46_16 (E : ac_E) : ac_V E ac_MDf ac_HDf 46 16 (.inl (o_eq 29 19)) := ⟨ok_icmpeq dd_46_16 (by decide), mn_eq _ _⟩
theorem vd_46_19 (E : ac_E) : ac_V E ac_MDf ac_HDf 46 19 (.inr (.inr (.inr 2))) := ok_throw (i := 2) (text := "the cell is another edge") rfl (by decide +kernel) rfl wm_366 wm_63 (hat_162_2) (by decide +kernel) (by decide) (by decide) dd_46_19 dd_46_22 dd_46_23 dd_46_25 dd_46_28
theorem vd_46_29 (E : ac_E) : ac_V E ac_MDf ac_HDf 46 29 (.inl (o_ild 3 30)) := ⟨ok_iload_n dd_46_29, mn_ild _ _⟩
theorem vd_46_30 (E : ac_E) : ac_V E ac_MDf ac_HDf 46 30 (.inl (o_eq0 37 33)) := ⟨ok_ifeq dd_46_30 (by decide), mn_eq0 _ _⟩
theorem vd_46_33 (E : ac_E) : ac_V E ac_MDf ac_HDf 46 33 (.inl (o_ild 2 34)) := ⟨ok_iload_n dd_46_33, mn_ild _ _⟩
theorem vd_46_34 (E : ac_E) : ac_V E ac_MDf ac_HDf 46 34 (.inl (o_go 38)) := ⟨ok_goto dd_46_34 (by decide), mn_go _⟩
theorem vd_46_37 (E : ac_E) : ac_V E ac_MDf ac_HDf 46 37 (.inl (o_con (.int 0) 38)) := ⟨ok_iconst dd_46_37 (by decide), mn_con _ _⟩
theorem vd_46_38 (E : ac_E) : ac_V E ac_MDf ac_HDf 46 38 (.inl (o_ist 5 40)) := ⟨ok_istore dd_46_38, mn_ist _ _⟩
theorem vd_46_40 (E : ac_E) : ac_V E ac_MDf ac_HDf 46 40 (.inl (o_ald 0 41)) := ⟨ok_aload_n dd_46_40, mn_ald _ _⟩
theorem vd_46_41 (E : ac_E) : ac_V E ac_MDf ac_HDf 46 41 (.inl (o_get 4 1 44)) := ⟨ok_getf (ci := 4) (f := 1) (C := RX4) (T := TX4) (N := 12) (ref := RX4) rfl win_4 (by decide) rfl wm_164 dd_46_41, mn_get _ _ _⟩
theorem vd_46_44 (E : ac_E) : ac_V E ac_MDf ac_HDf 46 44 (.inl (o_ild 1 45)) := ⟨ok_iload_n dd_46_44, mn_ild _ _⟩
theorem vd_46_45 (E : ac_E) : ac_V E ac_MDf ac_HDf 46 45 (.inl (o_ild 5 47)) := ⟨ok_iload dd_46_45, mn_ild _ _⟩
theorem vd_46_47 (E : ac_E) : ac_V E ac_MDf ac_HDf 46 47 (.inl (o_is 48)) := ⟨ok_iastore dd_46_47, mn_is _⟩
theorem vd_46_48 (E : ac_E) : ac_V E ac_MDf ac_HDf 46 48 (.inl (o_ild 5 50)) := ⟨ok_iload dd_46_48, mn_ild _ _⟩
theorem vd_46_50 (E : ac_E) : ac_V E ac_MDf ac_HDf 46 50 (.inl (o_ild 4 52)) := ⟨ok_iload dd_46_50, mn_ild _ _⟩
theorem vd_46_52 (E : ac_E) : ac_V E ac_MDf ac_HDf 46 52 (.inl (o_eq 59 55)) := ⟨ok_icmpeq dd_46_52 (by decide), mn_eq _ _⟩
theorem vd_46_55 (E : ac_E) : ac_V E ac_MDf ac_HDf 46 55 (.inl (o_con (.int 1) 56)) := ⟨ok_iconst dd_46_55 (by decide), mn_con _ _⟩
theorem vd_46_56 (E : ac_E) : ac_V E ac_MDf ac_HDf 46 56 (.inl (o_go 60)) := ⟨ok_goto dd_46_56 (by decide), mn_go _⟩
theorem vd_46_59 (E : ac_E) : ac_V E ac_MDf ac_HDf 46 59 (.inl (o_con (.int 0) 60)) := ⟨ok_iconst dd_46_59 (by decide), mn_con _ _⟩
theorem vd_46_60 (E : ac_E) : ac_V E ac_MDf ac_HDf 46 60 (.inr (.inr (.inl 2))) := ⟨fun q => nomatch q, fun q => nomatch q, fun _ => ⟨dd_46_60, rfl⟩⟩
theorem va_46 (E : ac_E) (pc : Nat) : ac_V E ac_MDf ac_HDf 46 pc (tb_46 (ac_len E) (ac_xs E) pc) := (ac_node (ac_node (ac_node (ac_node (ac_leaf 0 (vd_46_0 E)) (ac_node (ac_leaf 1 (vd_46_1 E)) (ac_leaf 4 (vd_46_4 E)))) (ac_node (ac_node (ac_leaf 5 (vd_46_5 E)) (ac_leaf 6 (vd_46_6 E))) (ac_node (ac_leaf 8 (vd_46_8 E)) (ac_leaf 10 (vd_46_10 E))))) (ac_node (ac_node (ac_leaf 13 (vd_46_13 E)) (ac_node (ac_leaf 15 (vd_46_15 E)) (ac_leaf 16 (vd_46_16 E)))) (ac_node (ac_node (ac_leaf 19 (vd_46_19 E)) (ac_leaf 29 (vd_46_29 E))) (ac_node (ac_leaf 30 (vd_46_30 E)) (ac_leaf 33 (vd_46_33 E)))))) (ac_node (ac_node (ac_node (ac_leaf 34 (vd_46_34 E)) (ac_node (ac_leaf 37 (vd_46_37 E)) (ac_leaf 38 (vd_46_38 E)))) (ac_node (ac_node (ac_leaf 40 (vd_46_40 E)) (ac_leaf 41 (vd_46_41 E))) (ac_node (ac_leaf 44 (vd_46_44 E)) (ac_leaf 45 (vd_46_45 E))))) (ac_node (ac_node (ac_node (ac_leaf 47 (vd_46_47 E)) (ac_leaf 48 (vd_46_48 E))) (ac_node (ac_leaf 50 (vd_46_50 E)) (ac_leaf 52 (vd_46_52 E)))) (ac_node (ac_node (ac_leaf 55 (vd_46_55 E)) (ac_leaf 56 (vd_46_56 E))) (ac_node (ac_leaf 59 (vd_46_59 E)) (ac_leaf 60 (vd_46_60 E)))))))
theorem vd_47_0 (E : ac_E) : ac_V E ac_MDf ac_HDf 47 0 (.inl (o_ild 0 1)) := ⟨ok_iload_n dd_47_0, mn_ild _ _⟩
theorem vd_47_1 (E : ac_E) : ac_V E ac_MDf ac_HDf 47 1 (.inl (o_ild 1 2)) := ⟨ok_iload_n dd_47_1, mn_ild _ _⟩
theorem vd_47_2 (E : ac_E) : ac_V E ac_MDf ac_HDf 47 2 (.inl (o_shr 3)) := ⟨ok_ishr dd_47_2, mn_shr _⟩
theorem vd_47_3 (E : ac_E) : ac_V E ac_MDf ac_HDf 47 3 (.inl (o_con (.int 1) 4)) := ⟨ok_iconst dd_47_3 (by decide), mn_con _ _⟩
theorem vd_47_4 (E : ac_E) : ac_V E ac_MDf ac_HDf 47 4 (.inl (o_and 5)) := ⟨ok_iand dd_47_4, mn_and _⟩
theorem vd_47_5 (E : ac_E) : ac_V E ac_MDf ac_HDf 47 5 (.inl (o_eq0 12 8)) := ⟨ok_ifeq dd_47_5 (by decide), mn_eq0 _ _⟩
theorem vd_47_8 (E : ac_E) : ac_V E ac_MDf ac_HDf 47 8 (.inl (o_con (.int 1) 9)) := ⟨ok_iconst dd_47_8 (by decide), mn_con _ _⟩
theorem vd_47_9 (E : ac_E) : ac_V E ac_MDf ac_HDf 47 9 (.inl (o_go 13)) := ⟨ok_goto dd_47_9 (by decide), mn_go _⟩
theorem vd_47_12 (E : ac_E) : ac_V E ac_MDf ac_HDf 47 12 (.inl (o_con (.int 0) 13)) := ⟨ok_iconst dd_47_12 (by decide), mn_con _ _⟩
theorem vd_47_13 (E : ac_E) : ac_V E ac_MDf ac_HDf 47 13 (.inr (.inr (.inl 2))) := ⟨fun q => nomatch q, fun q => nomatch q, fun _ => ⟨dd_47_13, rfl⟩⟩
theorem va_47 (E : ac_E) (pc : Nat) : ac_V E ac_MDf ac_HDf 47 pc (tb_47 (ac_len E) (ac_xs E) pc) := (ac_node (ac_node (ac_node (ac_leaf 0 (vd_47_0 E)) (ac_leaf 1 (vd_47_1 E))) (ac_node (ac_leaf 2 (vd_47_2 E)) (ac_node (ac_leaf 3 (vd_47_3 E)) (ac_leaf 4 (vd_47_4 E))))) (ac_node (ac_node (ac_leaf 5 (vd_47_5 E)) (ac_leaf 8 (vd_47_8 E))) (ac_node (ac_leaf 9 (vd_47_9 E)) (ac_node (ac_leaf 12 (vd_47_12 E)) (ac_leaf 13 (vd_47_13 E))))))
theorem vd_48_0 (E : ac_E) : ac_V E ac_MDf ac_HDf 48 0 (.inl (o_ild 1 1)) := ⟨ok_iload_n dd_48_0, mn_ild _ _⟩
theorem vd_48_1 (E : ac_E) : ac_V E ac_MDf ac_HDf 48 1 (.inl (o_ne0 9 4)) := ⟨ok_ifne dd_48_1 (by decide), mn_ne0 _ _⟩
theorem vd_48_4 (E : ac_E) : ac_V E ac_MDf ac_HDf 48 4 (.inl (o_ild 0 5)) := ⟨ok_iload_n dd_48_4, mn_ild _ _⟩
theorem vd_48_5 (E : ac_E) : ac_V E ac_MDf ac_HDf 48 5 (.inr (.inl (0,1,8,0))) := ac_Vc0 ((ok_callS rfl (by decide) (by decide +kernel) wm_350 wm_62 wm_348 wm_349 dd_48_5).1) (fun _ => rfl)
theorem vd_48_8 (E : ac_E) : ac_V E ac_MDf ac_HDf 48 8 (.inr (.inr (.inl 1))) := ⟨fun q => nomatch q, fun _ => ⟨dd_48_8, rfl⟩, fun q => nomatch q⟩
theorem vd_48_9 (E : ac_E) : ac_V E ac_MDf ac_HDf 48 9 (.inl (o_con (.int 0) 10)) := ⟨ok_iconst dd_48_9 (by decide), mn_con _ _⟩
theorem vd_48_10 (E : ac_E) : ac_V E ac_MDf ac_HDf 48 10 (.inl (o_ist 2 11)) := ⟨ok_istore_n dd_48_10, mn_ist _ _⟩
theorem vd_48_11 (E : ac_E) : ac_V E ac_MDf ac_HDf 48 11 (.inl (o_con (.int 0) 12)) := ⟨ok_iconst dd_48_11 (by decide), mn_con _ _⟩
theorem vd_48_12 (E : ac_E) : ac_V E ac_MDf ac_HDf 48 12 (.inl (o_ist 3 13)) := ⟨ok_istore_n dd_48_12, mn_ist _ _⟩
theorem vd_48_13 (E : ac_E) : ac_V E ac_MDf ac_HDf 48 13 (.inl (o_ild 3 14)) := ⟨ok_iload_n dd_48_13, mn_ild _ _⟩
theorem vd_48_14 (E : ac_E) : ac_V E ac_MDf ac_HDf 48 14 (.inl (o_con (.int 6) 16)) := ⟨ok_bipush dd_48_14 (by decide), mn_con _ _⟩
theorem vd_48_16 (E : ac_E) : ac_V E ac_MDf ac_HDf 48 16 (.inl (o_ge 54 19)) := ⟨ok_icmpge dd_48_16 (by decide), mn_ge _ _⟩
theorem vd_48_19 (E : ac_E) : ac_V E ac_MDf ac_HDf 48 19 (.inl (o_ild 0 20)) := ⟨ok_iload_n dd_48_19, mn_ild _ _⟩
theorem vd_48_20 (E : ac_E) : ac_V E ac_MDf ac_HDf 48 20 (.inl (o_ild 3 21)) := ⟨ok_iload_n dd_48_20, mn_ild _ _⟩
theorem vd_48_21 (E : ac_E) : ac_V E ac_MDf ac_HDf 48 21 (.inr (.inl (47,2,24,0))) := ac_Vc0 ((ok_callS rfl (by decide) (by decide +kernel) wm_450 wm_50 wm_462 wm_449 dd_48_21).1) (fun _ => rfl)
theorem vd_48_24 (E : ac_E) : ac_V E ac_MDf ac_HDf 48 24 (.inl (o_eq0 48 27)) := ⟨ok_ifeq dd_48_24 (by decide), mn_eq0 _ _⟩
theorem vd_48_27 (E : ac_E) : ac_V E ac_MDf ac_HDf 48 27 (.inl (o_ild 2 28)) := ⟨ok_iload_n dd_48_27, mn_ild _ _⟩
theorem vd_48_28 (E : ac_E) : ac_V E ac_MDf ac_HDf 48 28 (.inl (o_ild 1 29)) := ⟨ok_iload_n dd_48_28, mn_ild _ _⟩
theorem vd_48_29 (E : ac_E) : ac_V E ac_MDf ac_HDf 48 29 (.inl (o_con (.int 1) 30)) := ⟨ok_iconst dd_48_29 (by decide), mn_con _ _⟩
theorem vd_48_30 (E : ac_E) : ac_V E ac_MDf ac_HDf 48 30 (.inl (o_ne 41 33)) := ⟨ok_icmpne dd_48_30 (by decide), mn_ne _ _⟩
theorem vd_48_33 (E : ac_E) : ac_V E ac_MDf ac_HDf 48 33 (.inl (o_sta 0 36)) := ⟨ok_sta (n := "MOMENTUM_P") rfl wm_495 dd_48_33, mn_sta _ _⟩
theorem vd_48_36 (E : ac_E) : ac_V E ac_MDf ac_HDf 48 36 (.inl (o_ild 3 37)) := ⟨ok_iload_n dd_48_36, mn_ild _ _⟩
theorem vd_48_37 (E : ac_E) : ac_V E ac_MDf ac_HDf 48 37 (.inl (o_ta ac_tab 38)) := ⟨ok_ta dd_48_37, mn_ta _ _⟩
theorem vd_48_38 (E : ac_E) : ac_V E ac_MDf ac_HDf 48 38 (.inl (o_go 46)) := ⟨ok_goto dd_48_38 (by decide), mn_go _⟩
theorem vd_48_41 (E : ac_E) : ac_V E ac_MDf ac_HDf 48 41 (.inl (o_sta 1 44)) := ⟨ok_sta (n := "MOMENTUM_Q") rfl wm_497 dd_48_41, mn_sta _ _⟩
theorem vd_48_44 (E : ac_E) : ac_V E ac_MDf ac_HDf 48 44 (.inl (o_ild 3 45)) := ⟨ok_iload_n dd_48_44, mn_ild _ _⟩
theorem vd_48_45 (E : ac_E) : ac_V E ac_MDf ac_HDf 48 45 (.inl (o_ta ac_tab 46)) := ⟨ok_ta dd_48_45, mn_ta _ _⟩
theorem vd_48_46 (E : ac_E) : ac_V E ac_MDf ac_HDf 48 46 (.inl (o_add 47)) := ⟨ok_iadd dd_48_46, mn_add _⟩
theorem vd_48_47 (E : ac_E) : ac_V E ac_MDf ac_HDf 48 47 (.inl (o_ist 2 48)) := ⟨ok_istore_n dd_48_47, mn_ist _ _⟩
theorem vd_48_48 (E : ac_E) : ac_V E ac_MDf ac_HDf 48 48 (.inl (o_inc 3 1 51)) := ⟨ok_iinc dd_48_48 (by decide), mn_inc _ _ _⟩
theorem vd_48_51 (E : ac_E) : ac_V E ac_MDf ac_HDf 48 51 (.inl (o_go 13)) := ⟨ok_goto dd_48_51 (by decide), mn_go _⟩
theorem vd_48_54 (E : ac_E) : ac_V E ac_MDf ac_HDf 48 54 (.inl (o_ild 2 55)) := ⟨ok_iload_n dd_48_54, mn_ild _ _⟩
theorem vd_48_55 (E : ac_E) : ac_V E ac_MDf ac_HDf 48 55 (.inr (.inr (.inl 1))) := ⟨fun q => nomatch q, fun _ => ⟨dd_48_55, rfl⟩, fun q => nomatch q⟩
theorem va_48 (E : ac_E) (pc : Nat) : ac_V E ac_MDf ac_HDf 48 pc (tb_48 (ac_len E) (ac_xs E) pc) := (ac_node (ac_node (ac_node (ac_node (ac_node (ac_leaf 0 (vd_48_0 E)) (ac_leaf 1 (vd_48_1 E))) (ac_node (ac_leaf 4 (vd_48_4 E)) (ac_leaf 5 (vd_48_5 E)))) (ac_node (ac_node (ac_leaf 8 (vd_48_8 E)) (ac_leaf 9 (vd_48_9 E))) (ac_node (ac_leaf 10 (vd_48_10 E)) (ac_leaf 11 (vd_48_11 E))))) (ac_node (ac_node (ac_node (ac_leaf 12 (vd_48_12 E)) (ac_leaf 13 (vd_48_13 E))) (ac_node (ac_leaf 14 (vd_48_14 E)) (ac_leaf 16 (vd_48_16 E)))) (ac_node (ac_node (ac_leaf 19 (vd_48_19 E)) (ac_leaf 20 (vd_48_20 E))) (ac_node (ac_leaf 21 (vd_48_21 E)) (ac_leaf 24 (vd_48_24 E)))))) (ac_node (ac_node (ac_node (ac_node (ac_leaf 27 (vd_48_27 E)) (ac_leaf 28 (vd_48_28 E))) (ac_node (ac_leaf 29 (vd_48_29 E)) (ac_leaf 30 (vd_48_30 E)))) (ac_node (ac_node (ac_leaf 33 (vd_48_33 E)) (ac_leaf 36 (vd_48_36 E))) (ac_node (ac_leaf 37 (vd_48_37 E)) (ac_leaf 38 (vd_48_38 E))))) (ac_node (ac_node (ac_node (ac_leaf 41 (vd_48_41 E)) (ac_leaf 44 (vd_48_44 E))) (ac_node (ac_leaf 45 (vd_48_45 E)) (ac_leaf 46 (vd_48_46 E)))) (ac_node (ac_node (ac_leaf 47 (vd_48_47 E)) (ac_leaf 48 (vd_48_48 E))) (ac_node (ac_leaf 51 (vd_48_51 E)) (ac_node (ac_leaf 54 (vd_48_54 E)) (ac_leaf 55 (vd_48_55 E))))))))
theorem vd_49_0 (E : ac_E) : ac_V E ac_MDf ac_HDf 49 0 (.inl (o_ild 0 1)) := ⟨ok_iload_n dd_49_0, mn_ild _ _⟩
theorem vd_49_1 (E : ac_E) : ac_V E ac_MDf ac_HDf 49 1 (.inl (o_ild 1 2)) := ⟨ok_iload_n dd_49_1, mn_ild _ _⟩
theorem vd_49_2 (E : ac_E) : ac_V E ac_MDf ac_HDf 49 2 (.inl (o_shl 3)) := ⟨ok_ishl dd_49_2, mn_shl _⟩
theorem vd_49_3 (E : ac_E) : ac_V E ac_MDf ac_HDf 49 3 (.inl (o_ild 0 4)) := ⟨ok_iload_n dd_49_3, mn_ild _ _⟩
theorem vd_49_4 (E : ac_E) : ac_V E ac_MDf ac_HDf 49 4 (.inl (o_con (.int 6) 6)) := ⟨ok_bipush dd_49_4 (by decide), mn_con _ _⟩
theorem vd_49_6 (E : ac_E) : ac_V E ac_MDf ac_HDf 49 6 (.inl (o_ild 1 7)) := ⟨ok_iload_n dd_49_6, mn_ild _ _⟩
theorem vd_49_7 (E : ac_E) : ac_V E ac_MDf ac_HDf 49 7 (.inl (o_sub 8)) := ⟨ok_isub dd_49_7, mn_sub _⟩
theorem vd_49_8 (E : ac_E) : ac_V E ac_MDf ac_HDf 49 8 (.inl (o_shr 9)) := ⟨ok_ishr dd_49_8, mn_shr _⟩
theorem vd_49_9 (E : ac_E) : ac_V E ac_MDf ac_HDf 49 9 (.inl (o_or 10)) := ⟨ok_ior dd_49_9, mn_or _⟩
theorem vd_49_10 (E : ac_E) : ac_V E ac_MDf ac_HDf 49 10 (.inl (o_con (.int 63) 12)) := ⟨ok_bipush dd_49_10 (by decide), mn_con _ _⟩
theorem vd_49_12 (E : ac_E) : ac_V E ac_MDf ac_HDf 49 12 (.inl (o_and 13)) := ⟨ok_iand dd_49_12, mn_and _⟩
theorem vd_49_13 (E : ac_E) : ac_V E ac_MDf ac_HDf 49 13 (.inr (.inr (.inl 1))) := ⟨fun q => nomatch q, fun _ => ⟨dd_49_13, rfl⟩, fun q => nomatch q⟩
theorem va_49 (E : ac_E) (pc : Nat) : ac_V E ac_MDf ac_HDf 49 pc (tb_49 (ac_len E) (ac_xs E) pc) := (ac_node (ac_node (ac_node (ac_leaf 0 (vd_49_0 E)) (ac_node (ac_leaf 1 (vd_49_1 E)) (ac_leaf 2 (vd_49_2 E)))) (ac_node (ac_leaf 3 (vd_49_3 E)) (ac_node (ac_leaf 4 (vd_49_4 E)) (ac_leaf 6 (vd_49_6 E))))) (ac_node (ac_node (ac_leaf 7 (vd_49_7 E)) (ac_node (ac_leaf 8 (vd_49_8 E)) (ac_leaf 9 (vd_49_9 E)))) (ac_node (ac_leaf 10 (vd_49_10 E)) (ac_node (ac_leaf 12 (vd_49_12 E)) (ac_leaf 13 (vd_49_13 E))))))
theorem vd_50_0 (E : ac_E) : ac_V E ac_MDf ac_HDf 50 0 (.inl (o_ild 0 1)) := ⟨ok_iload_n dd_50_0, mn_ild _ _⟩
theorem vd_50_1 (E : ac_E) : ac_V E ac_MDf ac_HDf 50 1 (.inl (o_con (.int 63) 3)) := ⟨ok_bipush dd_50_1 (by decide), mn_con _ _⟩
theorem vd_50_3 (E : ac_E) : ac_V E ac_MDf ac_HDf 50 3 (.inl (o_and 4)) := ⟨ok_iand dd_50_3, mn_and _⟩
theorem vd_50_4 (E : ac_E) : ac_V E ac_MDf ac_HDf 50 4 (.inl (o_con (.int 3) 5)) := ⟨ok_iconst dd_50_4 (by decide), mn_con _ _⟩
theorem vd_50_5 (E : ac_E) : ac_V E ac_MDf ac_HDf 50 5 (.inr (.inl (49,2,8,0))) := ac_Vc0 ((ok_callS rfl (by decide) (by decide +kernel) wm_347 wm_50 wm_345 wm_346 dd_50_5).1) (fun _ => rfl)
theorem vd_50_8 (E : ac_E) : ac_V E ac_MDf ac_HDf 50 8 (.inl (o_ild 0 9)) := ⟨ok_iload_n dd_50_8, mn_ild _ _⟩
theorem vd_50_9 (E : ac_E) : ac_V E ac_MDf ac_HDf 50 9 (.inl (o_con (.int 64) 11)) := ⟨ok_bipush dd_50_9 (by decide), mn_con _ _⟩
theorem vd_50_11 (E : ac_E) : ac_V E ac_MDf ac_HDf 50 11 (.inl (o_and 12)) := ⟨ok_iand dd_50_11, mn_and _⟩
theorem vd_50_12 (E : ac_E) : ac_V E ac_MDf ac_HDf 50 12 (.inl (o_or 13)) := ⟨ok_ior dd_50_12, mn_or _⟩
theorem vd_50_13 (E : ac_E) : ac_V E ac_MDf ac_HDf 50 13 (.inr (.inr (.inl 1))) := ⟨fun q => nomatch q, fun _ => ⟨dd_50_13, rfl⟩, fun q => nomatch q⟩
theorem va_50 (E : ac_E) (pc : Nat) : ac_V E ac_MDf ac_HDf 50 pc (tb_50 (ac_len E) (ac_xs E) pc) := (ac_node (ac_node (ac_node (ac_leaf 0 (vd_50_0 E)) (ac_leaf 1 (vd_50_1 E))) (ac_node (ac_leaf 3 (vd_50_3 E)) (ac_node (ac_leaf 4 (vd_50_4 E)) (ac_leaf 5 (vd_50_5 E))))) (ac_node (ac_node (ac_leaf 8 (vd_50_8 E)) (ac_leaf 9 (vd_50_9 E))) (ac_node (ac_leaf 11 (vd_50_11 E)) (ac_node (ac_leaf 12 (vd_50_12 E)) (ac_leaf 13 (vd_50_13 E))))))
theorem vd_51_0 (E : ac_E) : ac_V E ac_MDf ac_HDf 51 0 (.inl (o_ild 0 1)) := ⟨ok_iload_n dd_51_0, mn_ild _ _⟩
theorem vd_51_1 (E : ac_E) : ac_V E ac_MDf ac_HDf 51 1 (.inl (o_con (.int 63) 3)) := ⟨ok_bipush dd_51_1 (by decide), mn_con _ _⟩
theorem vd_51_3 (E : ac_E) : ac_V E ac_MDf ac_HDf 51 3 (.inl (o_and 4)) := ⟨ok_iand dd_51_3, mn_and _⟩
theorem vd_51_4 (E : ac_E) : ac_V E ac_MDf ac_HDf 51 4 (.inl (o_ist 2 5)) := ⟨ok_istore_n dd_51_4, mn_ist _ _⟩
theorem vd_51_5 (E : ac_E) : ac_V E ac_MDf ac_HDf 51 5 (.inl (o_ild 0 6)) := ⟨ok_iload_n dd_51_5, mn_ild _ _⟩
theorem vd_51_6 (E : ac_E) : ac_V E ac_MDf ac_HDf 51 6 (.inl (o_con (.int 64) 8)) := ⟨ok_bipush dd_51_6 (by decide), mn_con _ _⟩
theorem vd_51_8 (E : ac_E) : ac_V E ac_MDf ac_HDf 51 8 (.inl (o_and 9)) := ⟨ok_iand dd_51_8, mn_and _⟩
theorem vd_51_9 (E : ac_E) : ac_V E ac_MDf ac_HDf 51 9 (.inl (o_ist 3 10)) := ⟨ok_istore_n dd_51_9, mn_ist _ _⟩
theorem vd_51_10 (E : ac_E) : ac_V E ac_MDf ac_HDf 51 10 (.inl (o_ild 2 11)) := ⟨ok_iload_n dd_51_10, mn_ild _ _⟩
theorem vd_51_11 (E : ac_E) : ac_V E ac_MDf ac_HDf 51 11 (.inl (o_eq0 45 14)) := ⟨ok_ifeq dd_51_11 (by decide), mn_eq0 _ _⟩
theorem vd_51_14 (E : ac_E) : ac_V E ac_MDf ac_HDf 51 14 (.inl (o_ild 2 15)) := ⟨ok_iload_n dd_51_14, mn_ild _ _⟩
theorem vd_51_15 (E : ac_E) : ac_V E ac_MDf ac_HDf 51 15 (.inl (o_con (.int 63) 17)) := ⟨ok_bipush dd_51_15 (by decide), mn_con _ _⟩
theorem vd_51_17 (E : ac_E) : ac_V E ac_MDf ac_HDf 51 17 (.inl (o_eq 45 20)) := ⟨ok_icmpeq dd_51_17 (by decide), mn_eq _ _⟩
theorem vd_51_20 (E : ac_E) : ac_V E ac_MDf ac_HDf 51 20 (.inl (o_ild 2 21)) := ⟨ok_iload_n dd_51_20, mn_ild _ _⟩
theorem vd_51_21 (E : ac_E) : ac_V E ac_MDf ac_HDf 51 21 (.inl (o_con (.int 3) 22)) := ⟨ok_iconst dd_51_21 (by decide), mn_con _ _⟩
theorem vd_51_22 (E : ac_E) : ac_V E ac_MDf ac_HDf 51 22 (.inr (.inl (49,2,25,0))) := ac_Vc0 ((ok_callS rfl (by decide) (by decide +kernel) wm_347 wm_50 wm_345 wm_346 dd_51_22).1) (fun _ => rfl)
theorem vd_51_25 (E : ac_E) : ac_V E ac_MDf ac_HDf 51 25 (.inl (o_ild 2 26)) := ⟨ok_iload_n dd_51_25, mn_ild _ _⟩
theorem vd_51_26 (E : ac_E) : ac_V E ac_MDf ac_HDf 51 26 (.inl (o_ne 45 29)) := ⟨ok_icmpne dd_51_26 (by decide), mn_ne _ _⟩
theorem vd_51_29 (E : ac_E) : ac_V E ac_MDf ac_HDf 51 29 (.inl (o_ild 2 30)) := ⟨ok_iload_n dd_51_29, mn_ild _ _⟩
theorem vd_51_30 (E : ac_E) : ac_V E ac_MDf ac_HDf 51 30 (.inl (o_ild 1 31)) := ⟨ok_iload_n dd_51_30, mn_ild _ _⟩
theorem vd_51_31 (E : ac_E) : ac_V E ac_MDf ac_HDf 51 31 (.inl (o_ne0 38 34)) := ⟨ok_ifne dd_51_31 (by decide), mn_ne0 _ _⟩
theorem vd_51_34 (E : ac_E) : ac_V E ac_MDf ac_HDf 51 34 (.inl (o_con (.int 1) 35)) := ⟨ok_iconst dd_51_34 (by decide), mn_con _ _⟩
theorem vd_51_35 (E : ac_E) : ac_V E ac_MDf ac_HDf 51 35 (.inl (o_go 39)) := ⟨ok_goto dd_51_35 (by decide), mn_go _⟩
theorem vd_51_38 (E : ac_E) : ac_V E ac_MDf ac_HDf 51 38 (.inl (o_con (.int 5) 39)) := ⟨ok_iconst dd_51_38 (by decide), mn_con _ _⟩
theorem vd_51_39 (E : ac_E) : ac_V E ac_MDf ac_HDf 51 39 (.inr (.inl (49,2,42,0))) := ac_Vc0 ((ok_callS rfl (by decide) (by decide +kernel) wm_347 wm_50 wm_345 wm_346 dd_51_39).1) (fun _ => rfl)
theorem vd_51_42 (E : ac_E) : ac_V E ac_MDf ac_HDf 51 42 (.inl (o_ild 3 43)) := ⟨ok_iload_n dd_51_42, mn_ild _ _⟩
theorem vd_51_43 (E : ac_E) : ac_V E ac_MDf ac_HDf 51 43 (.inl (o_or 44)) := ⟨ok_ior dd_51_43, mn_or _⟩
theorem vd_51_44 (E : ac_E) : ac_V E ac_MDf ac_HDf 51 44 (.inr (.inr (.inl 1))) := ⟨fun q => nomatch q, fun _ => ⟨dd_51_44, rfl⟩, fun q => nomatch q⟩
theorem vd_51_45 (E : ac_E) : ac_V E ac_MDf ac_HDf 51 45 (.inl (o_ild 2 46)) := ⟨ok_iload_n dd_51_45, mn_ild _ _⟩
theorem vd_51_46 (E : ac_E) : ac_V E ac_MDf ac_HDf 51 46 (.inl (o_con (.int 21) 48)) := ⟨ok_bipush dd_51_46 (by decide), mn_con _ _⟩
theorem vd_51_48 (E : ac_E) : ac_V E ac_MDf ac_HDf 51 48 (.inl (o_eq 57 51)) := ⟨ok_icmpeq dd_51_48 (by decide), mn_eq _ _⟩
theorem vd_51_51 (E : ac_E) : ac_V E ac_MDf ac_HDf 51 51 (.inl (o_ild 2 52)) := ⟨ok_iload_n dd_51_51, mn_ild _ _⟩
theorem vd_51_52 (E : ac_E) : ac_V E ac_MDf ac_HDf 51 52 (.inl (o_con (.int 42) 54)) := ⟨ok_bipush dd_51_52 (by decide), mn_con _ _⟩
theorem vd_51_54 (E : ac_E) : ac_V E ac_MDf ac_HDf 51 54 (.inl (o_ne 64 57)) := ⟨ok_icmpne dd_51_54 (by decide), mn_ne _ _⟩
theorem vd_51_57 (E : ac_E) : ac_V E ac_MDf ac_HDf 51 57 (.inl (o_ild 2 58)) := ⟨ok_iload_n dd_51_57, mn_ild _ _⟩
theorem vd_51_58 (E : ac_E) : ac_V E ac_MDf ac_HDf 51 58 (.inl (o_con (.int 63) 60)) := ⟨ok_bipush dd_51_58 (by decide), mn_con _ _⟩
theorem vd_51_60 (E : ac_E) : ac_V E ac_MDf ac_HDf 51 60 (.inl (o_xor 61)) := ⟨ok_ixor dd_51_60, mn_xor _⟩
theorem vd_51_61 (E : ac_E) : ac_V E ac_MDf ac_HDf 51 61 (.inl (o_ild 3 62)) := ⟨ok_iload_n dd_51_61, mn_ild _ _⟩
theorem vd_51_62 (E : ac_E) : ac_V E ac_MDf ac_HDf 51 62 (.inl (o_or 63)) := ⟨ok_ior dd_51_62, mn_or _⟩
theorem vd_51_63 (E : ac_E) : ac_V E ac_MDf ac_HDf 51 63 (.inr (.inr (.inl 1))) := ⟨fun q => nomatch q, fun _ => ⟨dd_51_63, rfl⟩, fun q => nomatch q⟩
theorem vd_51_64 (E : ac_E) : ac_V E ac_MDf ac_HDf 51 64 (.inl (o_ild 2 65)) := ⟨ok_iload_n dd_51_64, mn_ild _ _⟩
theorem vd_51_65 (E : ac_E) : ac_V E ac_MDf ac_HDf 51 65 (.inl (o_con (.int 1) 66)) := ⟨ok_iconst dd_51_65 (by decide), mn_con _ _⟩
theorem vd_51_66 (E : ac_E) : ac_V E ac_MDf ac_HDf 51 66 (.inr (.inl (49,2,69,0))) := ac_Vc0 ((ok_callS rfl (by decide) (by decide +kernel) wm_347 wm_50 wm_345 wm_346 dd_51_66).1) (fun _ => rfl)
theorem vd_51_69 (E : ac_E) : ac_V E ac_MDf ac_HDf 51 69 (.inl (o_ist 4 71)) := ⟨ok_istore dd_51_69, mn_ist _ _⟩
theorem vd_51_71 (E : ac_E) : ac_V E ac_MDf ac_HDf 51 71 (.inl (o_ild 2 72)) := ⟨ok_iload_n dd_51_71, mn_ild _ _⟩
theorem vd_51_72 (E : ac_E) : ac_V E ac_MDf ac_HDf 51 72 (.inl (o_con (.int 5) 73)) := ⟨ok_iconst dd_51_72 (by decide), mn_con _ _⟩
theorem vd_51_73 (E : ac_E) : ac_V E ac_MDf ac_HDf 51 73 (.inr (.inl (49,2,76,0))) := ac_Vc0 ((ok_callS rfl (by decide) (by decide +kernel) wm_347 wm_50 wm_345 wm_346 dd_51_73).1) (fun _ => rfl)
theorem vd_51_76 (E : ac_E) : ac_V E ac_MDf ac_HDf 51 76 (.inl (o_ist 5 78)) := ⟨ok_istore dd_51_76, mn_ist _ _⟩
theorem vd_51_78 (E : ac_E) : ac_V E ac_MDf ac_HDf 51 78 (.inl (o_ild 3 79)) := ⟨ok_iload_n dd_51_78, mn_ild _ _⟩
theorem vd_51_79 (E : ac_E) : ac_V E ac_MDf ac_HDf 51 79 (.inl (o_eq0 96 82)) := ⟨ok_ifeq dd_51_79 (by decide), mn_eq0 _ _⟩
theorem vd_51_82 (E : ac_E) : ac_V E ac_MDf ac_HDf 51 82 (.inl (o_ild 2 83)) := ⟨ok_iload_n dd_51_82, mn_ild _ _⟩
theorem vd_51_83 (E : ac_E) : ac_V E ac_MDf ac_HDf 51 83 (.inr (.inl (0,1,86,0))) := ac_Vc0 ((ok_callS rfl (by decide) (by decide +kernel) wm_350 wm_62 wm_348 wm_349 dd_51_83).1) (fun _ => rfl)
theorem vd_51_86 (E : ac_E) : ac_V E ac_MDf ac_HDf 51 86 (.inl (o_con (.int 1) 87)) := ⟨ok_iconst dd_51_86 (by decide), mn_con _ _⟩
theorem vd_51_87 (E : ac_E) : ac_V E ac_MDf ac_HDf 51 87 (.inl (o_ne 96 90)) := ⟨ok_icmpne dd_51_87 (by decide), mn_ne _ _⟩
theorem vd_51_90 (E : ac_E) : ac_V E ac_MDf ac_HDf 51 90 (.inl (o_ild 4 92)) := ⟨ok_iload dd_51_90, mn_ild _ _⟩
theorem vd_51_92 (E : ac_E) : ac_V E ac_MDf ac_HDf 51 92 (.inl (o_ild 5 94)) := ⟨ok_iload dd_51_92, mn_ild _ _⟩
theorem vd_51_94 (E : ac_E) : ac_V E ac_MDf ac_HDf 51 94 (.inl (o_or 95)) := ⟨ok_ior dd_51_94, mn_or _⟩
theorem vd_51_95 (E : ac_E) : ac_V E ac_MDf ac_HDf 51 95 (.inr (.inr (.inl 1))) := ⟨fun q => nomatch q, fun _ => ⟨dd_51_95, rfl⟩, fun q => nomatch q⟩
theorem vd_51_96 (E : ac_E) : ac_V E ac_MDf ac_HDf 51 96 (.inl (o_ild 4 98)) := ⟨ok_iload dd_51_96, mn_ild _ _⟩
theorem vd_51_98 (E : ac_E) : ac_V E ac_MDf ac_HDf 51 98 (.inl (o_ild 5 100)) := ⟨ok_iload dd_51_98, mn_ild _ _⟩
theorem vd_51_100 (E : ac_E) : ac_V E ac_MDf ac_HDf 51 100 (.inl (o_and 101)) := ⟨ok_iand dd_51_100, mn_and _⟩
theorem vd_51_101 (E : ac_E) : ac_V E ac_MDf ac_HDf 51 101 (.inl (o_ist 6 103)) := ⟨ok_istore dd_51_101, mn_ist _ _⟩
theorem vd_51_103 (E : ac_E) : ac_V E ac_MDf ac_HDf 51 103 (.inl (o_ild 3 104)) := ⟨ok_iload_n dd_51_103, mn_ild _ _⟩
theorem vd_51_104 (E : ac_E) : ac_V E ac_MDf ac_HDf 51 104 (.inl (o_ne0 126 107)) := ⟨ok_ifne dd_51_104 (by decide), mn_ne0 _ _⟩
theorem vd_51_107 (E : ac_E) : ac_V E ac_MDf ac_HDf 51 107 (.inl (o_ild 2 108)) := ⟨ok_iload_n dd_51_107, mn_ild _ _⟩
theorem vd_51_108 (E : ac_E) : ac_V E ac_MDf ac_HDf 51 108 (.inr (.inl (0,1,111,0))) := ac_Vc0 ((ok_callS rfl (by decide) (by decide +kernel) wm_350 wm_62 wm_348 wm_349 dd_51_108).1) (fun _ => rfl)
theorem vd_51_111 (E : ac_E) : ac_V E ac_MDf ac_HDf 51 111 (.inl (o_con (.int 2) 112)) := ⟨ok_iconst dd_51_111 (by decide), mn_con _ _⟩
theorem vd_51_112 (E : ac_E) : ac_V E ac_MDf ac_HDf 51 112 (.inl (o_ne 126 115)) := ⟨ok_icmpne dd_51_112 (by decide), mn_ne _ _⟩
theorem vd_51_115 (E : ac_E) : ac_V E ac_MDf ac_HDf 51 115 (.inl (o_ild 6 117)) := ⟨ok_iload dd_51_115, mn_ild _ _⟩
theorem vd_51_117 (E : ac_E) : ac_V E ac_MDf ac_HDf 51 117 (.inl (o_eq0 126 120)) := ⟨ok_ifeq dd_51_117 (by decide), mn_eq0 _ _⟩
theorem vd_51_120 (E : ac_E) : ac_V E ac_MDf ac_HDf 51 120 (.inl (o_ild 6 122)) := ⟨ok_iload dd_51_120, mn_ild _ _⟩
theorem vd_51_122 (E : ac_E) : ac_V E ac_MDf ac_HDf 51 122 (.inl (o_con (.int 64) 124)) := ⟨ok_bipush dd_51_122 (by decide), mn_con _ _⟩
theorem vd_51_124 (E : ac_E) : ac_V E ac_MDf ac_HDf 51 124 (.inl (o_or 125)) := ⟨ok_ior dd_51_124, mn_or _⟩
theorem vd_51_125 (E : ac_E) : ac_V E ac_MDf ac_HDf 51 125 (.inr (.inr (.inl 1))) := ⟨fun q => nomatch q, fun _ => ⟨dd_51_125, rfl⟩, fun q => nomatch q⟩
theorem vd_51_126 (E : ac_E) : ac_V E ac_MDf ac_HDf 51 126 (.inl (o_ild 0 127)) := ⟨ok_iload_n dd_51_126, mn_ild _ _⟩
theorem vd_51_127 (E : ac_E) : ac_V E ac_MDf ac_HDf 51 127 (.inr (.inr (.inl 1))) := ⟨fun q => nomatch q, fun _ => ⟨dd_51_127, rfl⟩, fun q => nomatch q⟩
theorem va_51 (E : ac_E) (pc : Nat) : ac_V E ac_MDf ac_HDf 51 pc (tb_51 (ac_len E) (ac_xs E) pc) := (ac_node (ac_node (ac_node (ac_node (ac_node (ac_node (ac_leaf 0 (vd_51_0 E)) (ac_leaf 1 (vd_51_1 E))) (ac_node (ac_leaf 3 (vd_51_3 E)) (ac_leaf 4 (vd_51_4 E)))) (ac_node (ac_node (ac_leaf 5 (vd_51_5 E)) (ac_leaf 6 (vd_51_6 E))) (ac_node (ac_leaf 8 (vd_51_8 E)) (ac_node (ac_leaf 9 (vd_51_9 E)) (ac_leaf 10 (vd_51_10 E)))))) (ac_node (ac_node (ac_node (ac_leaf 11 (vd_51_11 E)) (ac_leaf 14 (vd_51_14 E))) (ac_node (ac_leaf 15 (vd_51_15 E)) (ac_node (ac_leaf 17 (vd_51_17 E)) (ac_leaf 20 (vd_51_20 E))))) (ac_node (ac_node (ac_leaf 21 (vd_51_21 E)) (ac_leaf 22 (vd_51_22 E))) (ac_node (ac_leaf 25 (vd_51_25 E)) (ac_node (ac_leaf 26 (vd_51_26 E)) (ac_leaf 29 (vd_51_29 E))))))) (ac_node (ac_node (ac_node (ac_node (ac_leaf 30 (vd_51_30 E)) (ac_leaf 31 (vd_51_31 E))) (ac_node (ac_leaf 34 (vd_51_34 E)) (ac_leaf 35 (vd_51_35 E)))) (ac_node (ac_node (ac_leaf 38 (vd_51_38 E)) (ac_leaf 39 (vd_51_39 E))) (ac_node (ac_leaf 42 (vd_51_42 E)) (ac_node (ac_leaf 43 (vd_51_43 E)) (ac_leaf 44 (vd_51_44 E)))))) (ac_node (ac_node (ac_node (ac_leaf 45 (vd_51_45 E)) (ac_leaf 46 (vd_51_46 E))) (ac_node (ac_leaf 48 (vd_51_48 E)) (ac_node (ac_leaf 51 (vd_51_51 E)) (ac_leaf 52 (vd_51_52 E))))) (ac_node (ac_node (ac_leaf 54 (vd_51_54 E)) (ac_leaf 57 (vd_51_57 E))) (ac_node (ac_leaf 58 (vd_51_58 E)) (ac_node (ac_leaf 60 (vd_51_60 E)) (ac_leaf 61 (vd_51_61 E)))))))) (ac_node (ac_node (ac_node (ac_node (ac_node (ac_leaf 62 (vd_51_62 E)) (ac_leaf 63 (vd_51_63 E))) (ac_node (ac_leaf 64 (vd_51_64 E)) (ac_leaf 65 (vd_51_65 E)))) (ac_node (ac_node (ac_leaf 66 (vd_51_66 E)) (ac_leaf 69 (vd_51_69 E))) (ac_node (ac_leaf 71 (vd_51_71 E)) (ac_node (ac_leaf 72 (vd_51_72 E)) (ac_leaf 73 (vd_51_73 E)))))) (ac_node (ac_node (ac_node (ac_leaf 76 (vd_51_76 E)) (ac_leaf 78 (vd_51_78 E))) (ac_node (ac_leaf 79 (vd_51_79 E)) (ac_node (ac_leaf 82 (vd_51_82 E)) (ac_leaf 83 (vd_51_83 E))))) (ac_node (ac_node (ac_leaf 86 (vd_51_86 E)) (ac_leaf 87 (vd_51_87 E))) (ac_node (ac_leaf 90 (vd_51_90 E)) (ac_node (ac_leaf 92 (vd_51_92 E)) (ac_leaf 94 (vd_51_94 E))))))) (ac_node (ac_node (ac_node (ac_node (ac_leaf 95 (vd_51_95 E)) (ac_leaf 96 (vd_51_96 E))) (ac_node (ac_leaf 98 (vd_51_98 E)) (ac_leaf 100 (vd_51_100 E)))) (ac_node (ac_node (ac_leaf 101 (vd_51_101 E)) (ac_leaf 103 (vd_51_103 E))) (ac_node (ac_leaf 104 (vd_51_104 E)) (ac_node (ac_leaf 107 (vd_51_107 E)) (ac_leaf 108 (vd_51_108 E)))))) (ac_node (ac_node (ac_node (ac_leaf 111 (vd_51_111 E)) (ac_leaf 112 (vd_51_112 E))) (ac_node (ac_leaf 115 (vd_51_115 E)) (ac_node (ac_leaf 117 (vd_51_117 E)) (ac_leaf 120 (vd_51_120 E))))) (ac_node (ac_node (ac_leaf 122 (vd_51_122 E)) (ac_leaf 124 (vd_51_124 E))) (ac_node (ac_leaf 125 (vd_51_125 E)) (ac_node (ac_leaf 126 (vd_51_126 E)) (ac_leaf 127 (vd_51_127 E)))))))))
theorem vd_52_0 (E : ac_E) : ac_V E ac_MDf ac_HDf 52 0 (.inl (o_ald 0 1)) := ⟨ok_aload_n dd_52_0, mn_ald _ _⟩
theorem vd_52_1 (E : ac_E) : ac_V E ac_MDf ac_HDf 52 1 (.inl (o_con (.int 0) 2)) := ⟨ok_iconst dd_52_1 (by decide), mn_con _ _⟩
theorem vd_52_2 (E : ac_E) : ac_V E ac_MDf ac_HDf 52 2 (.inr (.inl (55,2,5,6))) := ac_Vc0 ((ok_callV (T := TX4) (N := 12) rfl rfl (by decide) (by decide +kernel) wm_438 wm_50 wm_435 wm_437 wm_7 dd_52_2).1) (fun _ => rfl)
theorem vd_52_5 (E : ac_E) : ac_V E ac_MDf ac_HDf 52 5 (.inl (o_ald 0 6)) := ⟨ok_aload_n dd_52_5, mn_ald _ _⟩
theorem vd_52_6 (E : ac_E) : ac_V E ac_MDf ac_HDf 52 6 (.inl (o_con (.int 0) 7)) := ⟨ok_iconst dd_52_6 (by decide), mn_con _ _⟩
theorem vd_52_7 (E : ac_E) : ac_V E ac_MDf ac_HDf 52 7 (.inr (.inl (57,2,10,6))) := ac_Vc0 ((ok_callV (T := TX4) (N := 12) rfl rfl (by decide) (by decide +kernel) wm_454 wm_50 wm_451 wm_453 wm_10 dd_52_7).1) (fun _ => rfl)
theorem vd_52_10 (E : ac_E) : ac_V E ac_MDf ac_HDf 52 10 (.inl (o_ald 0 11)) := ⟨ok_aload_n dd_52_10, mn_ald _ _⟩
theorem vd_52_11 (E : ac_E) : ac_V E ac_MDf ac_HDf 52 11 (.inr (.inl (59,1,14,6))) := ac_Vc0 ((ok_callV (T := TX4) (N := 12) rfl rfl (by decide) (by decide +kernel) wm_475 wm_50 wm_472 wm_474 wm_14 dd_52_11).1) (fun _ => rfl)
theorem vd_52_14 (E : ac_E) : ac_V E ac_MDf ac_HDf 52 14 (.inl (o_ald 0 15)) := ⟨ok_aload_n dd_52_14, mn_ald _ _⟩
theorem vd_52_15 (E : ac_E) : ac_V E ac_MDf ac_HDf 52 15 (.inr (.inl (62,1,18,6))) := ac_Vc0 ((ok_callV (T := TX4) (N := 12) rfl rfl (by decide) (by decide +kernel) wm_511 wm_50 wm_508 wm_510 wm_20 dd_52_15).1) (fun _ => rfl)
theorem vd_52_18 (E : ac_E) : ac_V E ac_MDf ac_HDf 52 18 (.inl (o_ald 0 19)) := ⟨ok_aload_n dd_52_18, mn_ald _ _⟩
theorem vd_52_19 (E : ac_E) : ac_V E ac_MDf ac_HDf 52 19 (.inl (o_dup 20)) := ⟨ok_dup dd_52_19, mn_dup _⟩
theorem vd_52_20 (E : ac_E) : ac_V E ac_MDf ac_HDf 52 20 (.inl (o_get 4 10 23)) := ⟨ok_getf (ci := 4) (f := 10) (C := RX4) (T := TX4) (N := 12) (ref := RX4) rfl win_4 (by decide) rfl wm_173 dd_52_20, mn_get _ _ _⟩
theorem vd_52_23 (E : ac_E) : ac_V E ac_MDf ac_HDf 52 23 (.inl (o_con (.int 1) 24)) := ⟨ok_iconst dd_52_23 (by decide), mn_con _ _⟩
theorem vd_52_24 (E : ac_E) : ac_V E ac_MDf ac_HDf 52 24 (.inl (o_add 25)) := ⟨ok_iadd dd_52_24, mn_add _⟩
theorem vd_52_25 (E : ac_E) : ac_V E ac_MDf ac_HDf 52 25 (.inl (o_put 4 10 28)) := ⟨ok_putf (ci := 4) (f := 10) (C := RX4) (T := TX4) (N := 12) (ref := RX4) rfl win_4 (by decide) rfl tyX4 tyX4_ok nmX4 (by decide +kernel) rfl wm_173 dd_52_25, mn_put _ _ _⟩
theorem vd_52_28 (E : ac_E) : ac_V E ac_MDf ac_HDf 52 28 (.inr (.inr (.inl 0))) := ⟨fun _ => ⟨dd_52_28, rfl⟩, fun q => nomatch q, fun q => nomatch q⟩
theorem va_52 (E : ac_E) (pc : Nat) : ac_V E ac_MDf ac_HDf 52 pc (tb_52 (ac_len E) (ac_xs E) pc) := (ac_node (ac_node (ac_node (ac_node (ac_leaf 0 (vd_52_0 E)) (ac_leaf 1 (vd_52_1 E))) (ac_node (ac_leaf 2 (vd_52_2 E)) (ac_leaf 5 (vd_52_5 E)))) (ac_node (ac_node (ac_leaf 6 (vd_52_6 E)) (ac_leaf 7 (vd_52_7 E))) (ac_node (ac_leaf 10 (vd_52_10 E)) (ac_leaf 11 (vd_52_11 E))))) (ac_node (ac_node (ac_node (ac_leaf 14 (vd_52_14 E)) (ac_leaf 15 (vd_52_15 E))) (ac_node (ac_leaf 18 (vd_52_18 E)) (ac_leaf 19 (vd_52_19 E)))) (ac_node (ac_node (ac_leaf 20 (vd_52_20 E)) (ac_leaf 23 (vd_52_23 E))) (ac_node (ac_leaf 24 (vd_52_24 E)) (ac_node (ac_leaf 25 (vd_52_25 E)) (ac_leaf 28 (vd_52_28 E)))))))
theorem vd_53_0 (E : ac_E) : ac_V E ac_MDf ac_HDf 53 0 (.inl (o_ald 0 1)) := ⟨ok_aload_n dd_53_0, mn_ald _ _⟩
theorem vd_53_1 (E : ac_E) : ac_V E ac_MDf ac_HDf 53 1 (.inl (o_dup 2)) := ⟨ok_dup dd_53_1, mn_dup _⟩
theorem vd_53_2 (E : ac_E) : ac_V E ac_MDf ac_HDf 53 2 (.inl (o_get 4 10 5)) := ⟨ok_getf (ci := 4) (f := 10) (C := RX4) (T := TX4) (N := 12) (ref := RX4) rfl win_4 (by decide) rfl wm_173 dd_53_2, mn_get _ _ _⟩
theorem vd_53_5 (E : ac_E) : ac_V E ac_MDf ac_HDf 53 5 (.inl (o_con (.int 1) 6)) := ⟨ok_iconst dd_53_5 (by decide), mn_con _ _⟩
theorem vd_53_6 (E : ac_E) : ac_V E ac_MDf ac_HDf 53 6 (.inl (o_sub 7)) := ⟨ok_isub dd_53_6, mn_sub _⟩
theorem vd_53_7 (E : ac_E) : ac_V E ac_MDf ac_HDf 53 7 (.inl (o_put 4 10 10)) := ⟨ok_putf (ci := 4) (f := 10) (C := RX4) (T := TX4) (N := 12) (ref := RX4) rfl win_4 (by decide) rfl tyX4 tyX4_ok nmX4 (by decide +kernel) rfl wm_173 dd_53_7, mn_put _ _ _⟩
theorem vd_53_10 (E : ac_E) : ac_V E ac_MDf ac_HDf 53 10 (.inl (o_ald 0 11)) := ⟨ok_aload_n dd_53_10, mn_ald _ _⟩
theorem vd_53_11 (E : ac_E) : ac_V E ac_MDf ac_HDf 53 11 (.inr (.inl (59,1,14,6))) := ac_Vc0 ((ok_callV (T := TX4) (N := 12) rfl rfl (by decide) (by decide +kernel) wm_475 wm_50 wm_472 wm_474 wm_14 dd_53_11).1) (fun _ => rfl)
theorem vd_53_14 (E : ac_E) : ac_V E ac_MDf ac_HDf 53 14 (.inl (o_ald 0 15)) := ⟨ok_aload_n dd_53_14, mn_ald _ _⟩
theorem vd_53_15 (E : ac_E) : ac_V E ac_MDf ac_HDf 53 15 (.inl (o_con (.int 3) 16)) := ⟨ok_iconst dd_53_15 (by decide), mn_con _ _⟩
theorem vd_53_16 (E : ac_E) : ac_V E ac_MDf ac_HDf 53 16 (.inr (.inl (57,2,19,6))) := ac_Vc0 ((ok_callV (T := TX4) (N := 12) rfl rfl (by decide) (by decide +kernel) wm_454 wm_50 wm_451 wm_453 wm_10 dd_53_16).1) (fun _ => rfl)
theorem vd_53_19 (E : ac_E) : ac_V E ac_MDf ac_HDf 53 19 (.inl (o_ald 0 20)) := ⟨ok_aload_n dd_53_19, mn_ald _ _⟩
theorem vd_53_20 (E : ac_E) : ac_V E ac_MDf ac_HDf 53 20 (.inl (o_con (.int 1) 21)) := ⟨ok_iconst dd_53_20 (by decide), mn_con _ _⟩
theorem vd_53_21 (E : ac_E) : ac_V E ac_MDf ac_HDf 53 21 (.inr (.inl (55,2,24,6))) := ac_Vc0 ((ok_callV (T := TX4) (N := 12) rfl rfl (by decide) (by decide +kernel) wm_438 wm_50 wm_435 wm_437 wm_7 dd_53_21).1) (fun _ => rfl)
theorem vd_53_24 (E : ac_E) : ac_V E ac_MDf ac_HDf 53 24 (.inr (.inr (.inl 0))) := ⟨fun _ => ⟨dd_53_24, rfl⟩, fun q => nomatch q, fun q => nomatch q⟩
theorem va_53 (E : ac_E) (pc : Nat) : ac_V E ac_MDf ac_HDf 53 pc (tb_53 (ac_len E) (ac_xs E) pc) := (ac_node (ac_node (ac_node (ac_leaf 0 (vd_53_0 E)) (ac_node (ac_leaf 1 (vd_53_1 E)) (ac_leaf 2 (vd_53_2 E)))) (ac_node (ac_node (ac_leaf 5 (vd_53_5 E)) (ac_leaf 6 (vd_53_6 E))) (ac_node (ac_leaf 7 (vd_53_7 E)) (ac_leaf 10 (vd_53_10 E))))) (ac_node (ac_node (ac_node (ac_leaf 11 (vd_53_11 E)) (ac_leaf 14 (vd_53_14 E))) (ac_node (ac_leaf 15 (vd_53_15 E)) (ac_leaf 16 (vd_53_16 E)))) (ac_node (ac_node (ac_leaf 19 (vd_53_19 E)) (ac_leaf 20 (vd_53_20 E))) (ac_node (ac_leaf 21 (vd_53_21 E)) (ac_leaf 24 (vd_53_24 E))))))
theorem vd_54_0 (E : ac_E) : ac_V E ac_MDf ac_HDf 54 0 (.inl (o_con (.int 0) 1)) := ⟨ok_iconst dd_54_0 (by decide), mn_con _ _⟩
theorem vd_54_1 (E : ac_E) : ac_V E ac_MDf ac_HDf 54 1 (.inl (o_ist 1 2)) := ⟨ok_istore_n dd_54_1, mn_ist _ _⟩
theorem vd_54_2 (E : ac_E) : ac_V E ac_MDf ac_HDf 54 2 (.inl (o_ild 1 3)) := ⟨ok_iload_n dd_54_2, mn_ild _ _⟩
theorem vd_54_3 (E : ac_E) : ac_V E ac_MDf ac_HDf 54 3 (.inl (o_ald 0 4)) := ⟨ok_aload_n dd_54_3, mn_ald _ _⟩
theorem vd_54_4 (E : ac_E) : ac_V E ac_MDf ac_HDf 54 4 (.inl (o_get 4 0 7)) := ⟨ok_getf (ci := 4) (f := 0) (C := RX4) (T := TX4) (N := 12) (ref := RX4) rfl win_4 (by decide) rfl wm_163 dd_54_4, mn_get _ _ _⟩
theorem vd_54_7 (E : ac_E) : ac_V E ac_MDf ac_HDf 54 7 (.inl (o_get 2 2 10)) := ⟨ok_getN (ci := 2) (f := 2) (C := RX2) (T := TX2) (N := 4) (ref := RX2) rfl win_2 (by decide) rfl wm_98 dd_54_7, mn_get _ _ _⟩
theorem vd_54_10 (E : ac_E) : ac_V E ac_MDf ac_HDf 54 10 (.inl (o_ge 40 13)) := ⟨ok_icmpge dd_54_10 (by decide), mn_ge _ _⟩
theorem vd_54_13 (E : ac_E) : ac_V E ac_MDf ac_HDf 54 13 (.inl (o_ald 0 14)) := ⟨ok_aload_n dd_54_13, mn_ald _ _⟩
theorem vd_54_14 (E : ac_E) : ac_V E ac_MDf ac_HDf 54 14 (.inl (o_get 4 1 17)) := ⟨ok_getf (ci := 4) (f := 1) (C := RX4) (T := TX4) (N := 12) (ref := RX4) rfl win_4 (by decide) rfl wm_164 dd_54_14, mn_get _ _ _⟩
theorem vd_54_17 (E : ac_E) : ac_V E ac_MDf ac_HDf 54 17 (.inl (o_ild 1 18)) := ⟨ok_iload_n dd_54_17, mn_ild _ _⟩
theorem vd_54_18 (E : ac_E) : ac_V E ac_MDf ac_HDf 54 18 (.inl (o_ia 19)) := ⟨ok_iaload dd_54_18, mn_ia _⟩
theorem vd_54_19 (E : ac_E) : ac_V E ac_MDf ac_HDf 54 19 (.inl (o_eq0 34 22)) := ⟨ok_ifeq dd_54_19 (by decide), mn_eq0 _ _⟩
theorem vd_54_22 (E : ac_E) : ac_V E ac_MDf ac_HDf 54 22 (.inl (o_ald 0 23)) := ⟨ok_aload_n dd_54_22, mn_ald _ _⟩
theorem vd_54_23 (E : ac_E) : ac_V E ac_MDf ac_HDf 54 23 (.inl (o_get 4 1 26)) := ⟨ok_getf (ci := 4) (f := 1) (C := RX4) (T := TX4) (N := 12) (ref := RX4) rfl win_4 (by decide) rfl wm_164 dd_54_23, mn_get _ _ _⟩
theorem vd_54_26 (E : ac_E) : ac_V E ac_MDf ac_HDf 54 26 (.inl (o_ild 1 27)) := ⟨ok_iload_n dd_54_26, mn_ild _ _⟩
theorem vd_54_27 (E : ac_E) : ac_V E ac_MDf ac_HDf 54 27 (.inl (o_ia 28)) := ⟨ok_iaload dd_54_27, mn_ia _⟩
theorem vd_54_28 (E : ac_E) : ac_V E ac_MDf ac_HDf 54 28 (.inl (o_con (.int 1) 29)) := ⟨ok_iconst dd_54_28 (by decide), mn_con _ _⟩
theorem vd_54_29 (E : ac_E) : ac_V E ac_MDf ac_HDf 54 29 (.inl (o_eq 34 32)) := ⟨ok_icmpeq dd_54_29 (by decide), mn_eq _ _⟩
theorem vd_54_32 (E : ac_E) : ac_V E ac_MDf ac_HDf 54 32 (.inl (o_con (.int 0) 33)) := ⟨ok_iconst dd_54_32 (by decide), mn_con _ _⟩
theorem vd_54_33 (E : ac_E) : ac_V E ac_MDf ac_HDf 54 33 (.inr (.inr (.inl 2))) := ⟨fun q => nomatch q, fun q => nomatch q, fun _ => ⟨dd_54_33, rfl⟩⟩
theorem vd_54_34 (E : ac_E) : ac_V E ac_MDf ac_HDf 54 34 (.inl (o_inc 1 1 37)) := ⟨ok_iinc dd_54_34 (by decide), mn_inc _ _ _⟩
theorem vd_54_37 (E : ac_E) : ac_V E ac_MDf ac_HDf 54 37 (.inl (o_go 2)) := ⟨ok_goto dd_54_37 (by decide), mn_go _⟩
theorem vd_54_40 (E : ac_E) : ac_V E ac_MDf ac_HDf 54 40 (.inl (o_con (.int 1) 41)) := ⟨ok_iconst dd_54_40 (by decide), mn_con _ _⟩
theorem vd_54_41 (E : ac_E) : ac_V E ac_MDf ac_HDf 54 41 (.inr (.inr (.inl 2))) := ⟨fun q => nomatch q, fun q => nomatch q, fun _ => ⟨dd_54_41, rfl⟩⟩
theorem va_54 (E : ac_E) (pc : Nat) : ac_V E ac_MDf ac_HDf 54 pc (tb_54 (ac_len E) (ac_xs E) pc) := (ac_node (ac_node (ac_node (ac_node (ac_leaf 0 (vd_54_0 E)) (ac_node (ac_leaf 1 (vd_54_1 E)) (ac_leaf 2 (vd_54_2 E)))) (ac_node (ac_leaf 3 (vd_54_3 E)) (ac_node (ac_leaf 4 (vd_54_4 E)) (ac_leaf 7 (vd_54_7 E))))) (ac_node (ac_node (ac_leaf 10 (vd_54_10 E)) (ac_node (ac_leaf 13 (vd_54_13 E)) (ac_leaf 14 (vd_54_14 E)))) (ac_node (ac_leaf 17 (vd_54_17 E)) (ac_node (ac_leaf 18 (vd_54_18 E)) (ac_leaf 19 (vd_54_19 E)))))) (ac_node (ac_node (ac_node (ac_leaf 22 (vd_54_22 E)) (ac_node (ac_leaf 23 (vd_54_23 E)) (ac_leaf 26 (vd_54_26 E)))) (ac_node (ac_leaf 27 (vd_54_27 E)) (ac_node (ac_leaf 28 (vd_54_28 E)) (ac_leaf 29 (vd_54_29 E))))) (ac_node (ac_node (ac_leaf 32 (vd_54_32 E)) (ac_node (ac_leaf 33 (vd_54_33 E)) (ac_leaf 34 (vd_54_34 E)))) (ac_node (ac_leaf 37 (vd_54_37 E)) (ac_node (ac_leaf 40 (vd_54_40 E)) (ac_leaf 41 (vd_54_41 E)))))))
theorem vd_55_0 (E : ac_E) : ac_V E ac_MDf ac_HDf 55 0 (.inl (o_con (.int 0) 1)) := ⟨ok_iconst dd_55_0 (by decide), mn_con _ _⟩
theorem vd_55_1 (E : ac_E) : ac_V E ac_MDf ac_HDf 55 1 (.inl (o_ist 2 2)) := ⟨ok_istore_n dd_55_1, mn_ist _ _⟩
theorem vd_55_2 (E : ac_E) : ac_V E ac_MDf ac_HDf 55 2 (.inl (o_ild 2 3)) := ⟨ok_iload_n dd_55_2, mn_ild _ _⟩
theorem vd_55_3 (E : ac_E) : ac_V E ac_MDf ac_HDf 55 3 (.inl (o_ald 0 4)) := ⟨ok_aload_n dd_55_3, mn_ald _ _⟩
theorem vd_55_4 (E : ac_E) : ac_V E ac_MDf ac_HDf 55 4 (.inl (o_get 4 5 7)) := ⟨ok_getf (ci := 4) (f := 5) (C := RX4) (T := TX4) (N := 12) (ref := RX4) rfl win_4 (by decide) rfl wm_168 dd_55_4, mn_get _ _ _⟩
theorem vd_55_7 (E : ac_E) : ac_V E ac_MDf ac_HDf 55 7 (.inl (o_get 3 2 10)) := ⟨ok_getN (ci := 3) (f := 2) (C := RX3) (T := TX3) (N := 3) (ref := RX3) rfl win_3 (by decide) rfl wm_155 dd_55_7, mn_get _ _ _⟩
theorem vd_55_10 (E : ac_E) : ac_V E ac_MDf ac_HDf 55 10 (.inl (o_ge 54 13)) := ⟨ok_icmpge dd_55_10 (by decide), mn_ge _ _⟩
theorem vd_55_13 (E : ac_E) : ac_V E ac_MDf ac_HDf 55 13 (.inl (o_ald 0 14)) := ⟨ok_aload_n dd_55_13, mn_ald _ _⟩
theorem vd_55_14 (E : ac_E) : ac_V E ac_MDf ac_HDf 55 14 (.inl (o_get 4 5 17)) := ⟨ok_getf (ci := 4) (f := 5) (C := RX4) (T := TX4) (N := 12) (ref := RX4) rfl win_4 (by decide) rfl wm_168 dd_55_14, mn_get _ _ _⟩
theorem vd_55_17 (E : ac_E) : ac_V E ac_MDf ac_HDf 55 17 (.inl (o_get 3 0 20)) := ⟨ok_getN (ci := 3) (f := 0) (C := RX3) (T := TX3) (N := 3) (ref := RX3) rfl win_3 (by decide) rfl wm_151 dd_55_17, mn_get _ _ _⟩
theorem vd_55_20 (E : ac_E) : ac_V E ac_MDf ac_HDf 55 20 (.inl (o_ild 2 21)) := ⟨ok_iload_n dd_55_20, mn_ild _ _⟩
theorem vd_55_21 (E : ac_E) : ac_V E ac_MDf ac_HDf 55 21 (.inl (o_ia 22)) := ⟨ok_iaload dd_55_21, mn_ia _⟩
theorem vd_55_22 (E : ac_E) : ac_V E ac_MDf ac_HDf 55 22 (.inl (o_ist 3 23)) := ⟨ok_istore_n dd_55_22, mn_ist _ _⟩
theorem vd_55_23 (E : ac_E) : ac_V E ac_MDf ac_HDf 55 23 (.inl (o_ild 3 24)) := ⟨ok_iload_n dd_55_23, mn_ild _ _⟩
theorem vd_55_24 (E : ac_E) : ac_V E ac_MDf ac_HDf 55 24 (.inl (o_con (.int (-1)) 25)) := ⟨ok_iconst dd_55_24 (by decide), mn_con _ _⟩
theorem vd_55_25 (E : ac_E) : ac_V E ac_MDf ac_HDf 55 25 (.inl (o_eq 48 28)) := ⟨ok_icmpeq dd_55_25 (by decide), mn_eq _ _⟩
theorem vd_55_28 (E : ac_E) : ac_V E ac_MDf ac_HDf 55 28 (.inl (o_ald 0 29)) := ⟨ok_aload_n dd_55_28, mn_ald _ _⟩
theorem vd_55_29 (E : ac_E) : ac_V E ac_MDf ac_HDf 55 29 (.inl (o_get 4 5 32)) := ⟨ok_getf (ci := 4) (f := 5) (C := RX4) (T := TX4) (N := 12) (ref := RX4) rfl win_4 (by decide) rfl wm_168 dd_55_29, mn_get _ _ _⟩
theorem vd_55_32 (E : ac_E) : ac_V E ac_MDf ac_HDf 55 32 (.inl (o_ild 2 33)) := ⟨ok_iload_n dd_55_32, mn_ild _ _⟩
theorem vd_55_33 (E : ac_E) : ac_V E ac_MDf ac_HDf 55 33 (.inl (o_ald 0 34)) := ⟨ok_aload_n dd_55_33, mn_ald _ _⟩
theorem vd_55_34 (E : ac_E) : ac_V E ac_MDf ac_HDf 55 34 (.inl (o_get 4 8 37)) := ⟨ok_getf (ci := 4) (f := 8) (C := RX4) (T := TX4) (N := 12) (ref := RX4) rfl win_4 (by decide) rfl wm_171 dd_55_34, mn_get _ _ _⟩
theorem vd_55_37 (E : ac_E) : ac_V E ac_MDf ac_HDf 55 37 (.inl (o_ild 3 38)) := ⟨ok_iload_n dd_55_37, mn_ild _ _⟩
theorem vd_55_38 (E : ac_E) : ac_V E ac_MDf ac_HDf 55 38 (.inl (o_ia 39)) := ⟨ok_iaload dd_55_38, mn_ia _⟩
theorem vd_55_39 (E : ac_E) : ac_V E ac_MDf ac_HDf 55 39 (.inl (o_ald 0 40)) := ⟨ok_aload_n dd_55_39, mn_ald _ _⟩
theorem vd_55_40 (E : ac_E) : ac_V E ac_MDf ac_HDf 55 40 (.inl (o_ild 3 41)) := ⟨ok_iload_n dd_55_40, mn_ild _ _⟩
theorem vd_55_41 (E : ac_E) : ac_V E ac_MDf ac_HDf 55 41 (.inl (o_ild 1 42)) := ⟨ok_iload_n dd_55_41, mn_ild _ _⟩
theorem vd_55_42 (E : ac_E) : ac_V E ac_MDf ac_HDf 55 42 (.inr (.inl (56,3,45,6))) := ac_Vc0 ((ok_callV (T := TX4) (N := 12) rfl rfl (by decide) (by decide +kernel) wm_442 wm_50 wm_439 wm_441 wm_8 dd_55_42).1) (fun _ => rfl)
theorem vd_55_45 (E : ac_E) : ac_V E ac_MDf ac_HDf 55 45 (.inr (.inl (19,4,48,5))) := ac_Vc0 (ok_callVN (T := TX3) (N := 3) rfl rfl (by decide) (by decide +kernel) wm_446 wm_55 wm_443 wm_445 wm_9 dd_55_45) (fun _ => rfl)
theorem vd_55_48 (E : ac_E) : ac_V E ac_MDf ac_HDf 55 48 (.inl (o_inc 2 1 51)) := ⟨ok_iinc dd_55_48 (by decide), mn_inc _ _ _⟩
theorem vd_55_51 (E : ac_E) : ac_V E ac_MDf ac_HDf 55 51 (.inl (o_go 2)) := ⟨ok_goto dd_55_51 (by decide), mn_go _⟩
theorem vd_55_54 (E : ac_E) : ac_V E ac_MDf ac_HDf 55 54 (.inl (o_con (.int 0) 55)) := ⟨ok_iconst dd_55_54 (by decide), mn_con _ _⟩
theorem vd_55_55 (E : ac_E) : ac_V E ac_MDf ac_HDf 55 55 (.inl (o_ist 2 56)) := ⟨ok_istore_n dd_55_55, mn_ist _ _⟩
theorem vd_55_56 (E : ac_E) : ac_V E ac_MDf ac_HDf 55 56 (.inl (o_ild 2 57)) := ⟨ok_iload_n dd_55_56, mn_ild _ _⟩
theorem vd_55_57 (E : ac_E) : ac_V E ac_MDf ac_HDf 55 57 (.inl (o_ald 0 58)) := ⟨ok_aload_n dd_55_57, mn_ald _ _⟩
theorem vd_55_58 (E : ac_E) : ac_V E ac_MDf ac_HDf 55 58 (.inl (o_get 4 0 61)) := ⟨ok_getf (ci := 4) (f := 0) (C := RX4) (T := TX4) (N := 12) (ref := RX4) rfl win_4 (by decide) rfl wm_163 dd_55_58, mn_get _ _ _⟩
theorem vd_55_61 (E : ac_E) : ac_V E ac_MDf ac_HDf 55 61 (.inl (o_get 2 2 64)) := ⟨ok_getN (ci := 2) (f := 2) (C := RX2) (T := TX2) (N := 4) (ref := RX2) rfl win_2 (by decide) rfl wm_98 dd_55_61, mn_get _ _ _⟩
theorem vd_55_64 (E : ac_E) : ac_V E ac_MDf ac_HDf 55 64 (.inl (o_ge 85 67)) := ⟨ok_icmpge dd_55_64 (by decide), mn_ge _ _⟩
theorem vd_55_67 (E : ac_E) : ac_V E ac_MDf ac_HDf 55 67 (.inl (o_ald 0 68)) := ⟨ok_aload_n dd_55_67, mn_ald _ _⟩
theorem vd_55_68 (E : ac_E) : ac_V E ac_MDf ac_HDf 55 68 (.inl (o_get 4 8 71)) := ⟨ok_getf (ci := 4) (f := 8) (C := RX4) (T := TX4) (N := 12) (ref := RX4) rfl win_4 (by decide) rfl wm_171 dd_55_68, mn_get _ _ _⟩
theorem vd_55_71 (E : ac_E) : ac_V E ac_MDf ac_HDf 55 71 (.inl (o_ild 2 72)) := ⟨ok_iload_n dd_55_71, mn_ild _ _⟩
theorem vd_55_72 (E : ac_E) : ac_V E ac_MDf ac_HDf 55 72 (.inl (o_ald 0 73)) := ⟨ok_aload_n dd_55_72, mn_ald _ _⟩
theorem vd_55_73 (E : ac_E) : ac_V E ac_MDf ac_HDf 55 73 (.inl (o_ild 2 74)) := ⟨ok_iload_n dd_55_73, mn_ild _ _⟩
theorem vd_55_74 (E : ac_E) : ac_V E ac_MDf ac_HDf 55 74 (.inl (o_ild 1 75)) := ⟨ok_iload_n dd_55_74, mn_ild _ _⟩
theorem vd_55_75 (E : ac_E) : ac_V E ac_MDf ac_HDf 55 75 (.inr (.inl (56,3,78,6))) := ac_Vc0 ((ok_callV (T := TX4) (N := 12) rfl rfl (by decide) (by decide +kernel) wm_442 wm_50 wm_439 wm_441 wm_8 dd_55_75).1) (fun _ => rfl)
theorem vd_55_78 (E : ac_E) : ac_V E ac_MDf ac_HDf 55 78 (.inl (o_is 79)) := ⟨ok_iastore dd_55_78, mn_is _⟩
theorem vd_55_79 (E : ac_E) : ac_V E ac_MDf ac_HDf 55 79 (.inl (o_inc 2 1 82)) := ⟨ok_iinc dd_55_79 (by decide), mn_inc _ _ _⟩
theorem vd_55_82 (E : ac_E) : ac_V E ac_MDf ac_HDf 55 82 (.inl (o_go 56)) := ⟨ok_goto dd_55_82 (by decide), mn_go _⟩
