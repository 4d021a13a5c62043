/-! ===== each row of the tables is what the code has ===== -/
theorem ac_node {P : ac_O → Prop} {c : Bool} {a b : ac_O} (ha : P a) (hb : P b) : P (bif c then a else b) := by cases c <;> assumption
theorem ac_leaf {E : ac_E} {MD : Nat → ac_M} {HD : ac_HD} {y pc : Nat} {o : ac_O} (k : Nat) (h : ac_V E MD HD y k o) : ac_V E MD HD y pc (bif Nat.beq pc k then o else .inl (fun _ => none)) := by
  cases hc : Nat.beq pc k with
  | true =>
    have e := Nat.eq_of_beq_eq_true hc
    subst e
    exact h
  | false => exact ac_V_none
theorem ac_Vr0 {E : ac_E} {MD : Nat → ac_M} {HD : ac_HD} {y pc : Nat} (hd : decode (MD y).2.1 pc = .ok (.return_, 1)) (hr : (MD y).2.2.2.1 = none) : ac_V E MD HD y pc (.inr (.inr (.inl 0))) := ⟨fun _ => ⟨hd, hr⟩, fun q => (nomatch q), fun q => (nomatch q)⟩
theorem ac_Vr1 {E : ac_E} {MD : Nat → ac_M} {HD : ac_HD} {y pc : Nat} (hd : decode (MD y).2.1 pc = .ok (.ireturn, 1)) (hr : (MD y).2.2.2.1 = some .int) : ac_V E MD HD y pc (.inr (.inr (.inl 1))) := ⟨fun q => (nomatch q), fun _ => ⟨hd, hr⟩, fun q => (nomatch q)⟩
theorem ac_Vr2 {E : ac_E} {MD : Nat → ac_M} {HD : ac_HD} {y pc : Nat} (hd : decode (MD y).2.1 pc = .ok (.ireturn, 1)) (hr : (MD y).2.2.2.1 = some .boolean) : ac_V E MD HD y pc (.inr (.inr (.inl 2))) := ⟨fun q => (nomatch q), fun q => (nomatch q), fun _ => ⟨hd, hr⟩⟩
theorem ac_Vc0 {E : ac_E} {MD : Nat → ac_M} {HD : ac_HD} {y pc z na nx rv : Nat} (hr : ac_okr E (MD y) (MD z) pc na nx rv) (hn : ∀ x, HD y pc x = none) : ac_V E MD HD y pc (.inr (.inl (z, na, nx, rv))) := ⟨hr, fun x => ⟨fun h => (by rw [hn x] at h; cases h), fun i j h => (by rw [hn x] at h; cases h)⟩⟩
theorem ac_Vcp {E : ac_E} {MD : Nat → ac_M} {HD : ac_HD} {y pc z na nx rv : Nat} (hr : ac_okr E (MD y) (MD z) pc na nx rv ∧ ac_okt E (MD y) (MD z) pc na rv) (ht : (MD y).2.2.2.2.2.2.2 = false) (hn : ∀ x, HD y pc x = some none) : ac_V E MD HD y pc (.inr (.inl (z, na, nx, rv))) := ⟨hr.1, fun x => ⟨fun _ => ⟨ht, hr.2⟩, fun i j h => (by rw [hn x] at h; cases h)⟩⟩
theorem ac_Vcc {E : ac_E} {MD : Nat → ac_M} {HD : ac_HD} {y pc z na nx rv : Nat} (hr : ac_okr E (MD y) (MD z) pc na nx rv ∧ ac_okt E (MD y) (MD z) pc na rv) (hn : ∀ x, HD y pc x ≠ some none) (hk : ∀ x i j, HD y pc x = some (some (i, j)) → ac_okh E (MD y) pc x i j) : ac_V E MD HD y pc (.inr (.inl (z, na, nx, rv))) := ⟨hr.1, fun x => ⟨fun h => (hn x h).elim, fun i j h => ⟨hr.2, hk x i j h⟩⟩⟩
theorem vd_0_0 (E : ac_E) : ac_ok E md_0 0 (o_ild 0 1) := ok_iload_n (E := E) (d := md_0) (pc := 0) (j := 0) dd_0_0
theorem vd_0_1 (E : ac_E) : ac_ok E md_0 1 (o_ild 0 2) := ok_iload_n (E := E) (d := md_0) (pc := 1) (j := 0) dd_0_1
theorem vd_0_2 (E : ac_E) : ac_ok E md_0 2 (o_con (.int 1) 3) := ok_iconst (E := E) (d := md_0) (pc := 2) dd_0_2 (by decide)
theorem vd_0_3 (E : ac_E) : ac_ok E md_0 3 (o_ush 4) := ok_iushr (E := E) (d := md_0) (pc := 3) dd_0_3
theorem vd_0_4 (E : ac_E) : ac_ok E md_0 4 (o_con (.int 1431655765) 7) := ok_ldc_w (E := E) (d := md_0) (pc := 4) dd_0_4 wm_351
theorem vd_0_7 (E : ac_E) : ac_ok E md_0 7 (o_and 8) := ok_iand (E := E) (d := md_0) (pc := 7) dd_0_7
theorem vd_0_8 (E : ac_E) : ac_ok E md_0 8 (o_sub 9) := ok_isub (E := E) (d := md_0) (pc := 8) dd_0_8
theorem vd_0_9 (E : ac_E) : ac_ok E md_0 9 (o_ist 0 10) := ok_istore_n (E := E) (d := md_0) (pc := 9) (j := 0) dd_0_9
theorem vd_0_10 (E : ac_E) : ac_ok E md_0 10 (o_ild 0 11) := ok_iload_n (E := E) (d := md_0) (pc := 10) (j := 0) dd_0_10
theorem vd_0_11 (E : ac_E) : ac_ok E md_0 11 (o_con (.int 858993459) 14) := ok_ldc_w (E := E) (d := md_0) (pc := 11) dd_0_11 wm_352
theorem vd_0_14 (E : ac_E) : ac_ok E md_0 14 (o_and 15) := ok_iand (E := E) (d := md_0) (pc := 14) dd_0_14
theorem vd_0_15 (E : ac_E) : ac_ok E md_0 15 (o_ild 0 16) := ok_iload_n (E := E) (d := md_0) (pc := 15) (j := 0) dd_0_15
theorem vd_0_16 (E : ac_E) : ac_ok E md_0 16 (o_con (.int 2) 17) := ok_iconst (E := E) (d := md_0) (pc := 16) dd_0_16 (by decide)
theorem vd_0_17 (E : ac_E) : ac_ok E md_0 17 (o_ush 18) := ok_iushr (E := E) (d := md_0) (pc := 17) dd_0_17
theorem vd_0_18 (E : ac_E) : ac_ok E md_0 18 (o_con (.int 858993459) 21) := ok_ldc_w (E := E) (d := md_0) (pc := 18) dd_0_18 wm_352
theorem vd_0_21 (E : ac_E) : ac_ok E md_0 21 (o_and 22) := ok_iand (E := E) (d := md_0) (pc := 21) dd_0_21
theorem vd_0_22 (E : ac_E) : ac_ok E md_0 22 (o_add 23) := ok_iadd (E := E) (d := md_0) (pc := 22) dd_0_22
theorem vd_0_23 (E : ac_E) : ac_ok E md_0 23 (o_ist 0 24) := ok_istore_n (E := E) (d := md_0) (pc := 23) (j := 0) dd_0_23
theorem vd_0_24 (E : ac_E) : ac_ok E md_0 24 (o_ild 0 25) := ok_iload_n (E := E) (d := md_0) (pc := 24) (j := 0) dd_0_24
theorem vd_0_25 (E : ac_E) : ac_ok E md_0 25 (o_ild 0 26) := ok_iload_n (E := E) (d := md_0) (pc := 25) (j := 0) dd_0_25
theorem vd_0_26 (E : ac_E) : ac_ok E md_0 26 (o_con (.int 4) 27) := ok_iconst (E := E) (d := md_0) (pc := 26) dd_0_26 (by decide)
theorem vd_0_27 (E : ac_E) : ac_ok E md_0 27 (o_ush 28) := ok_iushr (E := E) (d := md_0) (pc := 27) dd_0_27
theorem vd_0_28 (E : ac_E) : ac_ok E md_0 28 (o_add 29) := ok_iadd (E := E) (d := md_0) (pc := 28) dd_0_28
theorem vd_0_29 (E : ac_E) : ac_ok E md_0 29 (o_con (.int 252645135) 32) := ok_ldc_w (E := E) (d := md_0) (pc := 29) dd_0_29 wm_353
theorem vd_0_32 (E : ac_E) : ac_ok E md_0 32 (o_and 33) := ok_iand (E := E) (d := md_0) (pc := 32) dd_0_32
theorem vd_0_33 (E : ac_E) : ac_ok E md_0 33 (o_ist 0 34) := ok_istore_n (E := E) (d := md_0) (pc := 33) (j := 0) dd_0_33
theorem vd_0_34 (E : ac_E) : ac_ok E md_0 34 (o_ild 0 35) := ok_iload_n (E := E) (d := md_0) (pc := 34) (j := 0) dd_0_34
theorem vd_0_35 (E : ac_E) : ac_ok E md_0 35 (o_ild 0 36) := ok_iload_n (E := E) (d := md_0) (pc := 35) (j := 0) dd_0_35
theorem vd_0_36 (E : ac_E) : ac_ok E md_0 36 (o_con (.int 8) 38) := ok_bipush (E := E) (d := md_0) (pc := 36) dd_0_36 (by decide)
theorem vd_0_38 (E : ac_E) : ac_ok E md_0 38 (o_ush 39) := ok_iushr (E := E) (d := md_0) (pc := 38) dd_0_38
theorem vd_0_39 (E : ac_E) : ac_ok E md_0 39 (o_add 40) := ok_iadd (E := E) (d := md_0) (pc := 39) dd_0_39
theorem vd_0_40 (E : ac_E) : ac_ok E md_0 40 (o_ist 0 41) := ok_istore_n (E := E) (d := md_0) (pc := 40) (j := 0) dd_0_40
theorem vd_0_41 (E : ac_E) : ac_ok E md_0 41 (o_ild 0 42) := ok_iload_n (E := E) (d := md_0) (pc := 41) (j := 0) dd_0_41
theorem vd_0_42 (E : ac_E) : ac_ok E md_0 42 (o_ild 0 43) := ok_iload_n (E := E) (d := md_0) (pc := 42) (j := 0) dd_0_42
theorem vd_0_43 (E : ac_E) : ac_ok E md_0 43 (o_con (.int 16) 45) := ok_bipush (E := E) (d := md_0) (pc := 43) dd_0_43 (by decide)
theorem vd_0_45 (E : ac_E) : ac_ok E md_0 45 (o_ush 46) := ok_iushr (E := E) (d := md_0) (pc := 45) dd_0_45
theorem vd_0_46 (E : ac_E) : ac_ok E md_0 46 (o_add 47) := ok_iadd (E := E) (d := md_0) (pc := 46) dd_0_46
theorem vd_0_47 (E : ac_E) : ac_ok E md_0 47 (o_ist 0 48) := ok_istore_n (E := E) (d := md_0) (pc := 47) (j := 0) dd_0_47
theorem vd_0_48 (E : ac_E) : ac_ok E md_0 48 (o_ild 0 49) := ok_iload_n (E := E) (d := md_0) (pc := 48) (j := 0) dd_0_48
theorem vd_0_49 (E : ac_E) : ac_ok E md_0 49 (o_con (.int 63) 51) := ok_bipush (E := E) (d := md_0) (pc := 49) dd_0_49 (by decide)
theorem vd_0_51 (E : ac_E) : ac_ok E md_0 51 (o_and 52) := ok_iand (E := E) (d := md_0) (pc := 51) dd_0_51
theorem va_0 (E : ac_E) (pc : Nat) : ac_V E ac_MDf ac_HDf 0 pc (tb_0 (ac_len E) (ac_xs E) pc) := (ac_node (ac_node (ac_node (ac_node (ac_node (ac_leaf 0 (⟨vd_0_0 E, mn_ild _ _⟩)) (ac_leaf 1 (⟨vd_0_1 E, mn_ild _ _⟩))) (ac_node (ac_leaf 2 (⟨vd_0_2 E, mn_con _ _⟩)) (ac_node (ac_leaf 3 (⟨vd_0_3 E, mn_ush _⟩)) (ac_leaf 4 (⟨vd_0_4 E, mn_con _ _⟩))))) (ac_node (ac_node (ac_leaf 7 (⟨vd_0_7 E, mn_and _⟩)) (ac_leaf 8 (⟨vd_0_8 E, mn_sub _⟩))) (ac_node (ac_leaf 9 (⟨vd_0_9 E, mn_ist _ _⟩)) (ac_node (ac_leaf 10 (⟨vd_0_10 E, mn_ild _ _⟩)) (ac_leaf 11 (⟨vd_0_11 E, mn_con _ _⟩)))))) (ac_node (ac_node (ac_node (ac_leaf 14 (⟨vd_0_14 E, mn_and _⟩)) (ac_leaf 15 (⟨vd_0_15 E, mn_ild _ _⟩))) (ac_node (ac_leaf 16 (⟨vd_0_16 E, mn_con _ _⟩)) (ac_node (ac_leaf 17 (⟨vd_0_17 E, mn_ush _⟩)) (ac_leaf 18 (⟨vd_0_18 E, mn_con _ _⟩))))) (ac_node (ac_node (ac_leaf 21 (⟨vd_0_21 E, mn_and _⟩)) (ac_node (ac_leaf 22 (⟨vd_0_22 E, mn_add _⟩)) (ac_leaf 23 (⟨vd_0_23 E, mn_ist _ _⟩)))) (ac_node (ac_leaf 24 (⟨vd_0_24 E, mn_ild _ _⟩)) (ac_node (ac_leaf 25 (⟨vd_0_25 E, mn_ild _ _⟩)) (ac_leaf 26 (⟨vd_0_26 E, mn_con _ _⟩))))))) (ac_node (ac_node (ac_node (ac_node (ac_leaf 27 (⟨vd_0_27 E, mn_ush _⟩)) (ac_leaf 28 (⟨vd_0_28 E, mn_add _⟩))) (ac_node (ac_leaf 29 (⟨vd_0_29 E, mn_con _ _⟩)) (ac_node (ac_leaf 32 (⟨vd_0_32 E, mn_and _⟩)) (ac_leaf 33 (⟨vd_0_33 E, mn_ist _ _⟩))))) (ac_node (ac_node (ac_leaf 34 (⟨vd_0_34 E, mn_ild _ _⟩)) (ac_leaf 35 (⟨vd_0_35 E, mn_ild _ _⟩))) (ac_node (ac_leaf 36 (⟨vd_0_36 E, mn_con _ _⟩)) (ac_node (ac_leaf 38 (⟨vd_0_38 E, mn_ush _⟩)) (ac_leaf 39 (⟨vd_0_39 E, mn_add _⟩)))))) (ac_node (ac_node (ac_node (ac_leaf 40 (⟨vd_0_40 E, mn_ist _ _⟩)) (ac_leaf 41 (⟨vd_0_41 E, mn_ild _ _⟩))) (ac_node (ac_leaf 42 (⟨vd_0_42 E, mn_ild _ _⟩)) (ac_node (ac_leaf 43 (⟨vd_0_43 E, mn_con _ _⟩)) (ac_leaf 45 (⟨vd_0_45 E, mn_ush _⟩))))) (ac_node (ac_node (ac_leaf 46 (⟨vd_0_46 E, mn_add _⟩)) (ac_node (ac_leaf 47 (⟨vd_0_47 E, mn_ist _ _⟩)) (ac_leaf 48 (⟨vd_0_48 E, mn_ild _ _⟩)))) (ac_node (ac_leaf 49 (⟨vd_0_49 E, mn_con _ _⟩)) (ac_node (ac_leaf 51 (⟨vd_0_51 E, mn_and _⟩)) (ac_leaf 52 (ac_Vr1 dd_0_52 rfl))))))))
theorem vd_1_0 (E : ac_E) : ac_ok E md_1 0 (o_ild 0 1) := ok_iload_n (E := E) (d := md_1) (pc := 0) (j := 0) dd_1_0
theorem vd_1_1 (E : ac_E) : ac_ok E md_1 1 (o_ild 1 2) := ok_iload_n (E := E) (d := md_1) (pc := 1) (j := 1) dd_1_1
theorem vd_1_2 (E : ac_E) : ac_ok E md_1 2 (o_rem 3) := ok_irem (E := E) (d := md_1) (pc := 2) dd_1_2
theorem vd_1_3 (E : ac_E) : ac_ok E md_1 3 (o_ist 2 4) := ok_istore_n (E := E) (d := md_1) (pc := 3) (j := 2) dd_1_3
theorem vd_1_4 (E : ac_E) : ac_ok E md_1 4 (o_ild 0 5) := ok_iload_n (E := E) (d := md_1) (pc := 4) (j := 0) dd_1_4
theorem vd_1_5 (E : ac_E) : ac_ok E md_1 5 (o_ild 1 6) := ok_iload_n (E := E) (d := md_1) (pc := 5) (j := 1) dd_1_5
theorem vd_1_6 (E : ac_E) : ac_ok E md_1 6 (o_xor 7) := ok_ixor (E := E) (d := md_1) (pc := 6) dd_1_6
theorem vd_1_7 (E : ac_E) : ac_ok E md_1 7 (o_ge0 18 10) := ok_ifge (E := E) (d := md_1) (pc := 7) dd_1_7 (by decide)
theorem vd_1_10 (E : ac_E) : ac_ok E md_1 10 (o_ild 2 11) := ok_iload_n (E := E) (d := md_1) (pc := 10) (j := 2) dd_1_10
theorem vd_1_11 (E : ac_E) : ac_ok E md_1 11 (o_eq0 18 14) := ok_ifeq (E := E) (d := md_1) (pc := 11) dd_1_11 (by decide)
theorem vd_1_14 (E : ac_E) : ac_ok E md_1 14 (o_ild 2 15) := ok_iload_n (E := E) (d := md_1) (pc := 14) (j := 2) dd_1_14
theorem vd_1_15 (E : ac_E) : ac_ok E md_1 15 (o_ild 1 16) := ok_iload_n (E := E) (d := md_1) (pc := 15) (j := 1) dd_1_15
theorem vd_1_16 (E : ac_E) : ac_ok E md_1 16 (o_add 17) := ok_iadd (E := E) (d := md_1) (pc := 16) dd_1_16
theorem vd_1_18 (E : ac_E) : ac_ok E md_1 18 (o_ild 2 19) := ok_iload_n (E := E) (d := md_1) (pc := 18) (j := 2) dd_1_18
theorem va_1 (E : ac_E) (pc : Nat) : ac_V E ac_MDf ac_HDf 1 pc (tb_1 (ac_len E) (ac_xs E) pc) := (ac_node (ac_node (ac_node (ac_node (ac_leaf 0 (⟨vd_1_0 E, mn_ild _ _⟩)) (ac_leaf 1 (⟨vd_1_1 E, mn_ild _ _⟩))) (ac_node (ac_leaf 2 (⟨vd_1_2 E, mn_rem _⟩)) (ac_leaf 3 (⟨vd_1_3 E, mn_ist _ _⟩)))) (ac_node (ac_node (ac_leaf 4 (⟨vd_1_4 E, mn_ild _ _⟩)) (ac_leaf 5 (⟨vd_1_5 E, mn_ild _ _⟩))) (ac_node (ac_leaf 6 (⟨vd_1_6 E, mn_xor _⟩)) (ac_leaf 7 (⟨vd_1_7 E, mn_ge0 _ _⟩))))) (ac_node (ac_node (ac_node (ac_leaf 10 (⟨vd_1_10 E, mn_ild _ _⟩)) (ac_leaf 11 (⟨vd_1_11 E, mn_eq0 _ _⟩))) (ac_node (ac_leaf 14 (⟨vd_1_14 E, mn_ild _ _⟩)) (ac_leaf 15 (⟨vd_1_15 E, mn_ild _ _⟩)))) (ac_node (ac_node (ac_leaf 16 (⟨vd_1_16 E, mn_add _⟩)) (ac_leaf 17 (ac_Vr1 dd_1_17 rfl))) (ac_node (ac_leaf 18 (⟨vd_1_18 E, mn_ild _ _⟩)) (ac_leaf 19 (ac_Vr1 dd_1_19 rfl))))))
theorem vd_2_0 (E : ac_E) : ac_ok E md_2 0 (o_con (.int 0) 1) := ok_iconst (E := E) (d := md_2) (pc := 0) dd_2_0 (by decide)
theorem vd_2_1 (E : ac_E) : ac_ok E md_2 1 (o_ist 2 2) := ok_istore_n (E := E) (d := md_2) (pc := 1) (j := 2) dd_2_1
theorem vd_2_2 (E : ac_E) : ac_ok E md_2 2 (o_ald 0 3) := ok_aload_n (E := E) (d := md_2) (pc := 2) (j := 0) dd_2_2
theorem vd_2_3 (E : ac_E) : ac_ok E md_2 3 (o_len 4) := ok_len (E := E) (d := md_2) (pc := 3) dd_2_3
theorem vd_2_4 (E : ac_E) : ac_ok E md_2 4 (o_ist 3 5) := ok_istore_n (E := E) (d := md_2) (pc := 4) (j := 3) dd_2_4
theorem vd_2_5 (E : ac_E) : ac_ok E md_2 5 (o_ild 2 6) := ok_iload_n (E := E) (d := md_2) (pc := 5) (j := 2) dd_2_5
theorem vd_2_6 (E : ac_E) : ac_ok E md_2 6 (o_ild 3 7) := ok_iload_n (E := E) (d := md_2) (pc := 6) (j := 3) dd_2_6
theorem vd_2_7 (E : ac_E) : ac_ok E md_2 7 (o_ge 20 10) := ok_icmpge (E := E) (d := md_2) (pc := 7) dd_2_7 (by decide)
theorem vd_2_10 (E : ac_E) : ac_ok E md_2 10 (o_ald 0 11) := ok_aload_n (E := E) (d := md_2) (pc := 10) (j := 0) dd_2_10
theorem vd_2_11 (E : ac_E) : ac_ok E md_2 11 (o_ild 2 12) := ok_iload_n (E := E) (d := md_2) (pc := 11) (j := 2) dd_2_11
theorem vd_2_12 (E : ac_E) : ac_ok E md_2 12 (o_ild 1 13) := ok_iload_n (E := E) (d := md_2) (pc := 12) (j := 1) dd_2_12
theorem vd_2_13 (E : ac_E) : ac_ok E md_2 13 (o_is 14) := ok_iastore (E := E) (d := md_2) (pc := 13) dd_2_13
theorem vd_2_14 (E : ac_E) : ac_ok E md_2 14 (o_inc 2 1 17) := ok_iinc (E := E) (d := md_2) (pc := 14) dd_2_14 (by decide)
theorem vd_2_17 (E : ac_E) : ac_ok E md_2 17 (o_go 5) := ok_goto (E := E) (d := md_2) (pc := 17) dd_2_17 (by decide)
theorem va_2 (E : ac_E) (pc : Nat) : ac_V E ac_MDf ac_HDf 2 pc (tb_2 (ac_len E) (ac_xs E) pc) := (ac_node (ac_node (ac_node (ac_leaf 0 (⟨vd_2_0 E, mn_con _ _⟩)) (ac_node (ac_leaf 1 (⟨vd_2_1 E, mn_ist _ _⟩)) (ac_leaf 2 (⟨vd_2_2 E, mn_ald _ _⟩)))) (ac_node (ac_node (ac_leaf 3 (⟨vd_2_3 E, mn_len _⟩)) (ac_leaf 4 (⟨vd_2_4 E, mn_ist _ _⟩))) (ac_node (ac_leaf 5 (⟨vd_2_5 E, mn_ild _ _⟩)) (ac_leaf 6 (⟨vd_2_6 E, mn_ild _ _⟩))))) (ac_node (ac_node (ac_node (ac_leaf 7 (⟨vd_2_7 E, mn_ge _ _⟩)) (ac_leaf 10 (⟨vd_2_10 E, mn_ald _ _⟩))) (ac_node (ac_leaf 11 (⟨vd_2_11 E, mn_ild _ _⟩)) (ac_leaf 12 (⟨vd_2_12 E, mn_ild _ _⟩)))) (ac_node (ac_node (ac_leaf 13 (⟨vd_2_13 E, mn_is _⟩)) (ac_leaf 14 (⟨vd_2_14 E, mn_inc _ _ _⟩))) (ac_node (ac_leaf 17 (⟨vd_2_17 E, mn_go _⟩)) (ac_leaf 20 (ac_Vr0 dd_2_20 rfl))))))
theorem vd_3_0 (E : ac_E) : ac_ok E md_3 0 (o_ald 0 1) := ok_aload_n (E := E) (d := md_3) (pc := 0) (j := 0) dd_3_0
theorem vd_3_1 (E : ac_E) : ac_ok E md_3 1 (o_obj1 4) := ok_obj (E := E) (d := md_3) (pc := 1) wm_126 wm_73 wm_74 (by decide) (by decide) dd_3_1
theorem vd_3_4 (E : ac_E) : ac_ok E md_3 4 (o_ald 0 5) := ok_aload_n (E := E) (d := md_3) (pc := 4) (j := 0) dd_3_4
theorem vd_3_5 (E : ac_E) : ac_ok E md_3 5 (o_con (.int 100) 7) := ok_bipush (E := E) (d := md_3) (pc := 5) dd_3_5 (by decide)
theorem vd_3_7 (E : ac_E) : ac_ok E md_3 7 (o_put 0 0 10) := ok_putf (E := E) (d := md_3) (pc := 7) (ci := 0) (f := 0) (C := RX0) (T := TX0) (N := 4) (ref := RX0) rfl win_0 (by decide) rfl tyX0 tyX0_ok nmX0 (by decide +kernel) rfl wm_127 dd_3_7
theorem vd_3_10 (E : ac_E) : ac_ok E md_3 10 (o_ald 0 11) := ok_aload_n (E := E) (d := md_3) (pc := 10) (j := 0) dd_3_10
theorem vd_3_11 (E : ac_E) : ac_ok E md_3 11 (o_con (.int 0) 12) := ok_iconst (E := E) (d := md_3) (pc := 11) dd_3_11 (by decide)
theorem vd_3_12 (E : ac_E) : ac_ok E md_3 12 (o_put 0 1 15) := ok_putf (E := E) (d := md_3) (pc := 12) (ci := 0) (f := 1) (C := RX0) (T := TX0) (N := 4) (ref := RX0) rfl win_0 (by decide) rfl tyX0 tyX0_ok nmX0 (by decide +kernel) rfl wm_129 dd_3_12
theorem vd_3_15 (E : ac_E) : ac_ok E md_3 15 (o_ald 0 16) := ok_aload_n (E := E) (d := md_3) (pc := 15) (j := 0) dd_3_15
theorem vd_3_16 (E : ac_E) : ac_ok E md_3 16 (o_con (.int 0) 17) := ok_iconst (E := E) (d := md_3) (pc := 16) dd_3_16 (by decide)
theorem vd_3_17 (E : ac_E) : ac_ok E md_3 17 (o_put 0 2 20) := ok_putf (E := E) (d := md_3) (pc := 17) (ci := 0) (f := 2) (C := RX0) (T := TX0) (N := 4) (ref := RX0) rfl win_0 (by decide) rfl tyX0 tyX0_ok nmX0 (by decide +kernel) rfl wm_131 dd_3_17
theorem vd_3_20 (E : ac_E) : ac_ok E md_3 20 (o_ald 0 21) := ok_aload_n (E := E) (d := md_3) (pc := 20) (j := 0) dd_3_20
theorem vd_3_21 (E : ac_E) : ac_ok E md_3 21 (o_con (.int 0) 22) := ok_iconst (E := E) (d := md_3) (pc := 21) dd_3_21 (by decide)
theorem vd_3_22 (E : ac_E) : ac_ok E md_3 22 (o_put 0 3 25) := ok_putf (E := E) (d := md_3) (pc := 22) (ci := 0) (f := 3) (C := RX0) (T := TX0) (N := 4) (ref := RX0) rfl win_0 (by decide) rfl tyX0 tyX0_ok nmX0 (by decide +kernel) rfl wm_133 dd_3_22
theorem va_3 (E : ac_E) (pc : Nat) : ac_V E ac_MDf ac_HDf 3 pc (tb_3 (ac_len E) (ac_xs E) pc) := (ac_node (ac_node (ac_node (ac_leaf 0 (⟨vd_3_0 E, mn_ald _ _⟩)) (ac_node (ac_leaf 1 (⟨vd_3_1 E, mn_obj1 _⟩)) (ac_leaf 4 (⟨vd_3_4 E, mn_ald _ _⟩)))) (ac_node (ac_node (ac_leaf 5 (⟨vd_3_5 E, mn_con _ _⟩)) (ac_leaf 7 (⟨vd_3_7 E, mn_put _ _ _⟩))) (ac_node (ac_leaf 10 (⟨vd_3_10 E, mn_ald _ _⟩)) (ac_leaf 11 (⟨vd_3_11 E, mn_con _ _⟩))))) (ac_node (ac_node (ac_node (ac_leaf 12 (⟨vd_3_12 E, mn_put _ _ _⟩)) (ac_leaf 15 (⟨vd_3_15 E, mn_ald _ _⟩))) (ac_node (ac_leaf 16 (⟨vd_3_16 E, mn_con _ _⟩)) (ac_leaf 17 (⟨vd_3_17 E, mn_put _ _ _⟩)))) (ac_node (ac_node (ac_leaf 20 (⟨vd_3_20 E, mn_ald _ _⟩)) (ac_leaf 21 (⟨vd_3_21 E, mn_con _ _⟩))) (ac_node (ac_leaf 22 (⟨vd_3_22 E, mn_put _ _ _⟩)) (ac_leaf 25 (ac_Vr0 dd_3_25 rfl))))))
theorem vd_4_0 (E : ac_E) : ac_ok E md_4 0 (o_ald 0 1) := ok_aload_n (E := E) (d := md_4) (pc := 0) (j := 0) dd_4_0
theorem vd_4_1 (E : ac_E) : ac_ok E md_4 1 (o_dup 2) := ok_dup (E := E) (d := md_4) (pc := 1) dd_4_1
theorem vd_4_2 (E : ac_E) : ac_ok E md_4 2 (o_get 0 1 5) := ok_getf (E := E) (d := md_4) (pc := 2) (ci := 0) (f := 1) (C := RX0) (T := TX0) (N := 4) (ref := RX0) rfl win_0 (by decide) rfl wm_129 dd_4_2
theorem vd_4_5 (E : ac_E) : ac_ok E md_4 5 (o_ild 2 6) := ok_iload_n (E := E) (d := md_4) (pc := 5) (j := 2) dd_4_5
theorem vd_4_6 (E : ac_E) : ac_ok E md_4 6 (o_con (.int 1) 7) := ok_iconst (E := E) (d := md_4) (pc := 6) dd_4_6 (by decide)
theorem vd_4_7 (E : ac_E) : ac_okr E md_4 md_48 7 2 10 0 := ok_callSN (E := E) (d := md_4) (dz := md_48) (pc := 7) rfl (by decide) (by decide +kernel) wm_494 wm_50 wm_503 wm_493 dd_4_7
theorem vd_4_10 (E : ac_E) : ac_ok E md_4 10 (o_ild 1 11) := ok_iload_n (E := E) (d := md_4) (pc := 10) (j := 1) dd_4_10
theorem vd_4_11 (E : ac_E) : ac_ok E md_4 11 (o_con (.int 1) 12) := ok_iconst (E := E) (d := md_4) (pc := 11) dd_4_11 (by decide)
theorem vd_4_12 (E : ac_E) : ac_okr E md_4 md_48 12 2 15 0 := ok_callSN (E := E) (d := md_4) (dz := md_48) (pc := 12) rfl (by decide) (by decide +kernel) wm_494 wm_50 wm_503 wm_493 dd_4_12
theorem vd_4_15 (E : ac_E) : ac_ok E md_4 15 (o_sub 16) := ok_isub (E := E) (d := md_4) (pc := 15) dd_4_15
theorem vd_4_16 (E : ac_E) : ac_ok E md_4 16 (o_sub 17) := ok_isub (E := E) (d := md_4) (pc := 16) dd_4_16
theorem vd_4_17 (E : ac_E) : ac_ok E md_4 17 (o_put 0 1 20) := ok_putf (E := E) (d := md_4) (pc := 17) (ci := 0) (f := 1) (C := RX0) (T := TX0) (N := 4) (ref := RX0) rfl win_0 (by decide) rfl tyX0 tyX0_ok nmX0 (by decide +kernel) rfl wm_129 dd_4_17
theorem vd_4_20 (E : ac_E) : ac_ok E md_4 20 (o_ald 0 21) := ok_aload_n (E := E) (d := md_4) (pc := 20) (j := 0) dd_4_20
theorem vd_4_21 (E : ac_E) : ac_ok E md_4 21 (o_dup 22) := ok_dup (E := E) (d := md_4) (pc := 21) dd_4_21
theorem vd_4_22 (E : ac_E) : ac_ok E md_4 22 (o_get 0 2 25) := ok_getf (E := E) (d := md_4) (pc := 22) (ci := 0) (f := 2) (C := RX0) (T := TX0) (N := 4) (ref := RX0) rfl win_0 (by decide) rfl wm_131 dd_4_22
theorem vd_4_25 (E : ac_E) : ac_ok E md_4 25 (o_ild 2 26) := ok_iload_n (E := E) (d := md_4) (pc := 25) (j := 2) dd_4_25
theorem vd_4_26 (E : ac_E) : ac_ok E md_4 26 (o_con (.int 2) 27) := ok_iconst (E := E) (d := md_4) (pc := 26) dd_4_26 (by decide)
theorem vd_4_27 (E : ac_E) : ac_okr E md_4 md_48 27 2 30 0 := ok_callSN (E := E) (d := md_4) (dz := md_48) (pc := 27) rfl (by decide) (by decide +kernel) wm_494 wm_50 wm_503 wm_493 dd_4_27
theorem vd_4_30 (E : ac_E) : ac_ok E md_4 30 (o_ild 1 31) := ok_iload_n (E := E) (d := md_4) (pc := 30) (j := 1) dd_4_30
theorem vd_4_31 (E : ac_E) : ac_ok E md_4 31 (o_con (.int 2) 32) := ok_iconst (E := E) (d := md_4) (pc := 31) dd_4_31 (by decide)
theorem vd_4_32 (E : ac_E) : ac_okr E md_4 md_48 32 2 35 0 := ok_callSN (E := E) (d := md_4) (dz := md_48) (pc := 32) rfl (by decide) (by decide +kernel) wm_494 wm_50 wm_503 wm_493 dd_4_32
theorem vd_4_35 (E : ac_E) : ac_ok E md_4 35 (o_sub 36) := ok_isub (E := E) (d := md_4) (pc := 35) dd_4_35
theorem vd_4_36 (E : ac_E) : ac_ok E md_4 36 (o_sub 37) := ok_isub (E := E) (d := md_4) (pc := 36) dd_4_36
theorem vd_4_37 (E : ac_E) : ac_ok E md_4 37 (o_put 0 2 40) := ok_putf (E := E) (d := md_4) (pc := 37) (ci := 0) (f := 2) (C := RX0) (T := TX0) (N := 4) (ref := RX0) rfl win_0 (by decide) rfl tyX0 tyX0_ok nmX0 (by decide +kernel) rfl wm_131 dd_4_37
theorem va_4 (E : ac_E) (pc : Nat) : ac_V E ac_MDf ac_HDf 4 pc (tb_4 (ac_len E) (ac_xs E) pc) := (ac_node (ac_node (ac_node (ac_node (ac_leaf 0 (⟨vd_4_0 E, mn_ald _ _⟩)) (ac_node (ac_leaf 1 (⟨vd_4_1 E, mn_dup _⟩)) (ac_leaf 2 (⟨vd_4_2 E, mn_get _ _ _⟩)))) (ac_node (ac_leaf 5 (⟨vd_4_5 E, mn_ild _ _⟩)) (ac_node (ac_leaf 6 (⟨vd_4_6 E, mn_con _ _⟩)) (ac_leaf 7 (ac_Vc0 (vd_4_7 E) (fun _ => rfl)))))) (ac_node (ac_node (ac_leaf 10 (⟨vd_4_10 E, mn_ild _ _⟩)) (ac_node (ac_leaf 11 (⟨vd_4_11 E, mn_con _ _⟩)) (ac_leaf 12 (ac_Vc0 (vd_4_12 E) (fun _ => rfl))))) (ac_node (ac_leaf 15 (⟨vd_4_15 E, mn_sub _⟩)) (ac_node (ac_leaf 16 (⟨vd_4_16 E, mn_sub _⟩)) (ac_leaf 17 (⟨vd_4_17 E, mn_put _ _ _⟩)))))) (ac_node (ac_node (ac_node (ac_leaf 20 (⟨vd_4_20 E, mn_ald _ _⟩)) (ac_node (ac_leaf 21 (⟨vd_4_21 E, mn_dup _⟩)) (ac_leaf 22 (⟨vd_4_22 E, mn_get _ _ _⟩)))) (ac_node (ac_leaf 25 (⟨vd_4_25 E, mn_ild _ _⟩)) (ac_node (ac_leaf 26 (⟨vd_4_26 E, mn_con _ _⟩)) (ac_leaf 27 (ac_Vc0 (vd_4_27 E) (fun _ => rfl)))))) (ac_node (ac_node (ac_leaf 30 (⟨vd_4_30 E, mn_ild _ _⟩)) (ac_node (ac_leaf 31 (⟨vd_4_31 E, mn_con _ _⟩)) (ac_leaf 32 (ac_Vc0 (vd_4_32 E) (fun _ => rfl))))) (ac_node (ac_node (ac_leaf 35 (⟨vd_4_35 E, mn_sub _⟩)) (ac_leaf 36 (⟨vd_4_36 E, mn_sub _⟩))) (ac_node (ac_leaf 37 (⟨vd_4_37 E, mn_put _ _ _⟩)) (ac_leaf 40 (ac_Vr0 dd_4_40 rfl)))))))
theorem vd_5_0 (E : ac_E) : ac_ok E md_5 0 (o_con (.int 0) 1) := ok_iconst (E := E) (d := md_5) (pc := 0) dd_5_0 (by decide)
theorem vd_5_1 (E : ac_E) : ac_ok E md_5 1 (o_ist 1 2) := ok_istore_n (E := E) (d := md_5) (pc := 1) (j := 1) dd_5_1
theorem vd_5_2 (E : ac_E) : ac_ok E md_5 2 (o_ild 1 3) := ok_iload_n (E := E) (d := md_5) (pc := 2) (j := 1) dd_5_2
theorem vd_5_3 (E : ac_E) : ac_ok E md_5 3 (o_con (.int 6) 5) := ok_bipush (E := E) (d := md_5) (pc := 3) dd_5_3 (by decide)
theorem vd_5_5 (E : ac_E) : ac_ok E md_5 5 (o_ge 46 8) := ok_icmpge (E := E) (d := md_5) (pc := 5) dd_5_5 (by decide)
theorem vd_5_8 (E : ac_E) : ac_ok E md_5 8 (o_sta 2 11) := ok_staN (E := E) (d := md_5) (pc := 8) (n := "ALONG_P") rfl wm_516 dd_5_8
theorem vd_5_11 (E : ac_E) : ac_ok E md_5 11 (o_ild 1 12) := ok_iload_n (E := E) (d := md_5) (pc := 11) (j := 1) dd_5_11
theorem vd_5_12 (E : ac_E) : ac_ok E md_5 12 (o_ta ac_tab 13) := ok_ta (E := E) (d := md_5) (pc := 12) dd_5_12
theorem vd_5_13 (E : ac_E) : ac_ok E md_5 13 (o_ald 0 14) := ok_aload_n (E := E) (d := md_5) (pc := 13) (j := 0) dd_5_13
theorem vd_5_14 (E : ac_E) : ac_ok E md_5 14 (o_get 0 1 17) := ok_getf (E := E) (d := md_5) (pc := 14) (ci := 0) (f := 1) (C := RX0) (T := TX0) (N := 4) (ref := RX0) rfl win_0 (by decide) rfl wm_129 dd_5_14
theorem vd_5_17 (E : ac_E) : ac_ok E md_5 17 (o_mul 18) := ok_imul (E := E) (d := md_5) (pc := 17) dd_5_17
theorem vd_5_18 (E : ac_E) : ac_ok E md_5 18 (o_sta 3 21) := ok_staN (E := E) (d := md_5) (pc := 18) (n := "ALONG_Q") rfl wm_518 dd_5_18
theorem vd_5_21 (E : ac_E) : ac_ok E md_5 21 (o_ild 1 22) := ok_iload_n (E := E) (d := md_5) (pc := 21) (j := 1) dd_5_21
theorem vd_5_22 (E : ac_E) : ac_ok E md_5 22 (o_ta ac_tab 23) := ok_ta (E := E) (d := md_5) (pc := 22) dd_5_22
theorem vd_5_23 (E : ac_E) : ac_ok E md_5 23 (o_ald 0 24) := ok_aload_n (E := E) (d := md_5) (pc := 23) (j := 0) dd_5_23
theorem vd_5_24 (E : ac_E) : ac_ok E md_5 24 (o_get 0 2 27) := ok_getf (E := E) (d := md_5) (pc := 24) (ci := 0) (f := 2) (C := RX0) (T := TX0) (N := 4) (ref := RX0) rfl win_0 (by decide) rfl wm_131 dd_5_24
theorem vd_5_27 (E : ac_E) : ac_ok E md_5 27 (o_mul 28) := ok_imul (E := E) (d := md_5) (pc := 27) dd_5_27
theorem vd_5_28 (E : ac_E) : ac_ok E md_5 28 (o_add 29) := ok_iadd (E := E) (d := md_5) (pc := 28) dd_5_28
theorem vd_5_29 (E : ac_E) : ac_ok E md_5 29 (o_con (.int 2) 30) := ok_iconst (E := E) (d := md_5) (pc := 29) dd_5_29 (by decide)
theorem vd_5_30 (E : ac_E) : ac_ok E md_5 30 (o_ald 0 31) := ok_aload_n (E := E) (d := md_5) (pc := 30) (j := 0) dd_5_30
theorem vd_5_31 (E : ac_E) : ac_ok E md_5 31 (o_get 0 0 34) := ok_getf (E := E) (d := md_5) (pc := 31) (ci := 0) (f := 0) (C := RX0) (T := TX0) (N := 4) (ref := RX0) rfl win_0 (by decide) rfl wm_127 dd_5_31
theorem vd_5_34 (E : ac_E) : ac_ok E md_5 34 (o_mul 35) := ok_imul (E := E) (d := md_5) (pc := 34) dd_5_34
theorem vd_5_35 (E : ac_E) : ac_ok E md_5 35 (o_lt 40 38) := ok_icmplt (E := E) (d := md_5) (pc := 35) dd_5_35 (by decide)
theorem vd_5_38 (E : ac_E) : ac_ok E md_5 38 (o_ild 1 39) := ok_iload_n (E := E) (d := md_5) (pc := 38) (j := 1) dd_5_38
theorem vd_5_40 (E : ac_E) : ac_ok E md_5 40 (o_inc 1 1 43) := ok_iinc (E := E) (d := md_5) (pc := 40) dd_5_40 (by decide)
theorem vd_5_43 (E : ac_E) : ac_ok E md_5 43 (o_go 2) := ok_goto (E := E) (d := md_5) (pc := 43) dd_5_43 (by decide)
theorem vd_5_46 (E : ac_E) : ac_ok E md_5 46 (o_con (.int (-1)) 47) := ok_iconst (E := E) (d := md_5) (pc := 46) dd_5_46 (by decide)
theorem va_5 (E : ac_E) (pc : Nat) : ac_V E ac_MDf ac_HDf 5 pc (tb_5 (ac_len E) (ac_xs E) pc) := (ac_node (ac_node (ac_node (ac_node (ac_leaf 0 (⟨vd_5_0 E, mn_con _ _⟩)) (ac_node (ac_leaf 1 (⟨vd_5_1 E, mn_ist _ _⟩)) (ac_leaf 2 (⟨vd_5_2 E, mn_ild _ _⟩)))) (ac_node (ac_node (ac_leaf 3 (⟨vd_5_3 E, mn_con _ _⟩)) (ac_leaf 5 (⟨vd_5_5 E, mn_ge _ _⟩))) (ac_node (ac_leaf 8 (⟨vd_5_8 E, mn_sta _ _⟩)) (ac_leaf 11 (⟨vd_5_11 E, mn_ild _ _⟩))))) (ac_node (ac_node (ac_leaf 12 (⟨vd_5_12 E, mn_ta _ _⟩)) (ac_node (ac_leaf 13 (⟨vd_5_13 E, mn_ald _ _⟩)) (ac_leaf 14 (⟨vd_5_14 E, mn_get _ _ _⟩)))) (ac_node (ac_node (ac_leaf 17 (⟨vd_5_17 E, mn_mul _⟩)) (ac_leaf 18 (⟨vd_5_18 E, mn_sta _ _⟩))) (ac_node (ac_leaf 21 (⟨vd_5_21 E, mn_ild _ _⟩)) (ac_leaf 22 (⟨vd_5_22 E, mn_ta _ _⟩)))))) (ac_node (ac_node (ac_node (ac_leaf 23 (⟨vd_5_23 E, mn_ald _ _⟩)) (ac_node (ac_leaf 24 (⟨vd_5_24 E, mn_get _ _ _⟩)) (ac_leaf 27 (⟨vd_5_27 E, mn_mul _⟩)))) (ac_node (ac_node (ac_leaf 28 (⟨vd_5_28 E, mn_add _⟩)) (ac_leaf 29 (⟨vd_5_29 E, mn_con _ _⟩))) (ac_node (ac_leaf 30 (⟨vd_5_30 E, mn_ald _ _⟩)) (ac_leaf 31 (⟨vd_5_31 E, mn_get _ _ _⟩))))) (ac_node (ac_node (ac_node (ac_leaf 34 (⟨vd_5_34 E, mn_mul _⟩)) (ac_leaf 35 (⟨vd_5_35 E, mn_lt _ _⟩))) (ac_node (ac_leaf 38 (⟨vd_5_38 E, mn_ild _ _⟩)) (ac_leaf 39 (ac_Vr1 dd_5_39 rfl)))) (ac_node (ac_node (ac_leaf 40 (⟨vd_5_40 E, mn_inc _ _ _⟩)) (ac_leaf 43 (⟨vd_5_43 E, mn_go _⟩))) (ac_node (ac_leaf 46 (⟨vd_5_46 E, mn_con _ _⟩)) (ac_leaf 47 (ac_Vr1 dd_5_47 rfl)))))))
theorem vd_6_0 (E : ac_E) : ac_ok E md_6 0 (o_ald 0 1) := ok_aload_n (E := E) (d := md_6) (pc := 0) (j := 0) dd_6_0
theorem vd_6_1 (E : ac_E) : ac_ok E md_6 1 (o_dup 2) := ok_dup (E := E) (d := md_6) (pc := 1) dd_6_1
theorem vd_6_2 (E : ac_E) : ac_ok E md_6 2 (o_get 0 1 5) := ok_getf (E := E) (d := md_6) (pc := 2) (ci := 0) (f := 1) (C := RX0) (T := TX0) (N := 4) (ref := RX0) rfl win_0 (by decide) rfl wm_129 dd_6_2
theorem vd_6_5 (E : ac_E) : ac_ok E md_6 5 (o_ald 0 6) := ok_aload_n (E := E) (d := md_6) (pc := 5) (j := 0) dd_6_5
theorem vd_6_6 (E : ac_E) : ac_ok E md_6 6 (o_get 0 0 9) := ok_getf (E := E) (d := md_6) (pc := 6) (ci := 0) (f := 0) (C := RX0) (T := TX0) (N := 4) (ref := RX0) rfl win_0 (by decide) rfl wm_127 dd_6_6
theorem vd_6_9 (E : ac_E) : ac_ok E md_6 9 (o_sta 0 12) := ok_staN (E := E) (d := md_6) (pc := 9) (n := "MOMENTUM_P") rfl wm_540 dd_6_9
theorem vd_6_12 (E : ac_E) : ac_ok E md_6 12 (o_ild 1 13) := ok_iload_n (E := E) (d := md_6) (pc := 12) (j := 1) dd_6_12
theorem vd_6_13 (E : ac_E) : ac_ok E md_6 13 (o_ta ac_tab 14) := ok_ta (E := E) (d := md_6) (pc := 13) dd_6_13
theorem vd_6_14 (E : ac_E) : ac_ok E md_6 14 (o_mul 15) := ok_imul (E := E) (d := md_6) (pc := 14) dd_6_14
theorem vd_6_15 (E : ac_E) : ac_ok E md_6 15 (o_sub 16) := ok_isub (E := E) (d := md_6) (pc := 15) dd_6_15
theorem vd_6_16 (E : ac_E) : ac_ok E md_6 16 (o_put 0 1 19) := ok_putf (E := E) (d := md_6) (pc := 16) (ci := 0) (f := 1) (C := RX0) (T := TX0) (N := 4) (ref := RX0) rfl win_0 (by decide) rfl tyX0 tyX0_ok nmX0 (by decide +kernel) rfl wm_129 dd_6_16
theorem vd_6_19 (E : ac_E) : ac_ok E md_6 19 (o_ald 0 20) := ok_aload_n (E := E) (d := md_6) (pc := 19) (j := 0) dd_6_19
theorem vd_6_20 (E : ac_E) : ac_ok E md_6 20 (o_dup 21) := ok_dup (E := E) (d := md_6) (pc := 20) dd_6_20
theorem vd_6_21 (E : ac_E) : ac_ok E md_6 21 (o_get 0 2 24) := ok_getf (E := E) (d := md_6) (pc := 21) (ci := 0) (f := 2) (C := RX0) (T := TX0) (N := 4) (ref := RX0) rfl win_0 (by decide) rfl wm_131 dd_6_21
theorem vd_6_24 (E : ac_E) : ac_ok E md_6 24 (o_ald 0 25) := ok_aload_n (E := E) (d := md_6) (pc := 24) (j := 0) dd_6_24
theorem vd_6_25 (E : ac_E) : ac_ok E md_6 25 (o_get 0 0 28) := ok_getf (E := E) (d := md_6) (pc := 25) (ci := 0) (f := 0) (C := RX0) (T := TX0) (N := 4) (ref := RX0) rfl win_0 (by decide) rfl wm_127 dd_6_25
theorem vd_6_28 (E : ac_E) : ac_ok E md_6 28 (o_sta 1 31) := ok_staN (E := E) (d := md_6) (pc := 28) (n := "MOMENTUM_Q") rfl wm_541 dd_6_28
theorem vd_6_31 (E : ac_E) : ac_ok E md_6 31 (o_ild 1 32) := ok_iload_n (E := E) (d := md_6) (pc := 31) (j := 1) dd_6_31
theorem vd_6_32 (E : ac_E) : ac_ok E md_6 32 (o_ta ac_tab 33) := ok_ta (E := E) (d := md_6) (pc := 32) dd_6_32
theorem vd_6_33 (E : ac_E) : ac_ok E md_6 33 (o_mul 34) := ok_imul (E := E) (d := md_6) (pc := 33) dd_6_33
theorem vd_6_34 (E : ac_E) : ac_ok E md_6 34 (o_sub 35) := ok_isub (E := E) (d := md_6) (pc := 34) dd_6_34
theorem vd_6_35 (E : ac_E) : ac_ok E md_6 35 (o_put 0 2 38) := ok_putf (E := E) (d := md_6) (pc := 35) (ci := 0) (f := 2) (C := RX0) (T := TX0) (N := 4) (ref := RX0) rfl win_0 (by decide) rfl tyX0 tyX0_ok nmX0 (by decide +kernel) rfl wm_131 dd_6_35
theorem vd_6_38 (E : ac_E) : ac_ok E md_6 38 (o_ald 0 39) := ok_aload_n (E := E) (d := md_6) (pc := 38) (j := 0) dd_6_38
theorem vd_6_39 (E : ac_E) : ac_ok E md_6 39 (o_dup 40) := ok_dup (E := E) (d := md_6) (pc := 39) dd_6_39
theorem vd_6_40 (E : ac_E) : ac_ok E md_6 40 (o_get 0 3 43) := ok_getf (E := E) (d := md_6) (pc := 40) (ci := 0) (f := 3) (C := RX0) (T := TX0) (N := 4) (ref := RX0) rfl win_0 (by decide) rfl wm_133 dd_6_40
theorem vd_6_43 (E : ac_E) : ac_ok E md_6 43 (o_con (.int 1) 44) := ok_iconst (E := E) (d := md_6) (pc := 43) dd_6_43 (by decide)
theorem vd_6_44 (E : ac_E) : ac_ok E md_6 44 (o_add 45) := ok_iadd (E := E) (d := md_6) (pc := 44) dd_6_44
theorem vd_6_45 (E : ac_E) : ac_ok E md_6 45 (o_put 0 3 48) := ok_putf (E := E) (d := md_6) (pc := 45) (ci := 0) (f := 3) (C := RX0) (T := TX0) (N := 4) (ref := RX0) rfl win_0 (by decide) rfl tyX0 tyX0_ok nmX0 (by decide +kernel) rfl wm_133 dd_6_45
theorem va_6 (E : ac_E) (pc : Nat) : ac_V E ac_MDf ac_HDf 6 pc (tb_6 (ac_len E) (ac_xs E) pc) := (ac_node (ac_node (ac_node (ac_node (ac_leaf 0 (⟨vd_6_0 E, mn_ald _ _⟩)) (ac_node (ac_leaf 1 (⟨vd_6_1 E, mn_dup _⟩)) (ac_leaf 2 (⟨vd_6_2 E, mn_get _ _ _⟩)))) (ac_node (ac_node (ac_leaf 5 (⟨vd_6_5 E, mn_ald _ _⟩)) (ac_leaf 6 (⟨vd_6_6 E, mn_get _ _ _⟩))) (ac_node (ac_leaf 9 (⟨vd_6_9 E, mn_sta _ _⟩)) (ac_leaf 12 (⟨vd_6_12 E, mn_ild _ _⟩))))) (ac_node (ac_node (ac_leaf 13 (⟨vd_6_13 E, mn_ta _ _⟩)) (ac_node (ac_leaf 14 (⟨vd_6_14 E, mn_mul _⟩)) (ac_leaf 15 (⟨vd_6_15 E, mn_sub _⟩)))) (ac_node (ac_node (ac_leaf 16 (⟨vd_6_16 E, mn_put _ _ _⟩)) (ac_leaf 19 (⟨vd_6_19 E, mn_ald _ _⟩))) (ac_node (ac_leaf 20 (⟨vd_6_20 E, mn_dup _⟩)) (ac_leaf 21 (⟨vd_6_21 E, mn_get _ _ _⟩)))))) (ac_node (ac_node (ac_node (ac_leaf 24 (⟨vd_6_24 E, mn_ald _ _⟩)) (ac_node (ac_leaf 25 (⟨vd_6_25 E, mn_get _ _ _⟩)) (ac_leaf 28 (⟨vd_6_28 E, mn_sta _ _⟩)))) (ac_node (ac_node (ac_leaf 31 (⟨vd_6_31 E, mn_ild _ _⟩)) (ac_leaf 32 (⟨vd_6_32 E, mn_ta _ _⟩))) (ac_node (ac_leaf 33 (⟨vd_6_33 E, mn_mul _⟩)) (ac_leaf 34 (⟨vd_6_34 E, mn_sub _⟩))))) (ac_node (ac_node (ac_node (ac_leaf 35 (⟨vd_6_35 E, mn_put _ _ _⟩)) (ac_leaf 38 (⟨vd_6_38 E, mn_ald _ _⟩))) (ac_node (ac_leaf 39 (⟨vd_6_39 E, mn_dup _⟩)) (ac_leaf 40 (⟨vd_6_40 E, mn_get _ _ _⟩)))) (ac_node (ac_node (ac_leaf 43 (⟨vd_6_43 E, mn_con _ _⟩)) (ac_leaf 44 (⟨vd_6_44 E, mn_add _⟩))) (ac_node (ac_leaf 45 (⟨vd_6_45 E, mn_put _ _ _⟩)) (ac_leaf 48 (ac_Vr0 dd_6_48 rfl)))))))
theorem vd_7_0 (E : ac_E) : ac_ok E md_7 0 (o_ald 0 1) := ok_aload_n (E := E) (d := md_7) (pc := 0) (j := 0) dd_7_0
theorem vd_7_1 (E : ac_E) : ac_ok E md_7 1 (o_obj1 4) := ok_obj (E := E) (d := md_7) (pc := 1) wm_115 wm_73 wm_74 (by decide) (by decide) dd_7_1
theorem vd_7_4 (E : ac_E) : ac_ok E md_7 4 (o_ald 0 5) := ok_aload_n (E := E) (d := md_7) (pc := 4) (j := 0) dd_7_4
theorem vd_7_5 (E : ac_E) : ac_ok E md_7 5 (o_con (.int 12) 7) := ok_bipush (E := E) (d := md_7) (pc := 5) dd_7_5 (by decide)
theorem vd_7_7 (E : ac_E) : ac_ok E md_7 7 (o_ni 9) := ok_ni (E := E) (d := md_7) (pc := 7) dd_7_7 wm_109
theorem vd_7_9 (E : ac_E) : ac_ok E md_7 9 (o_pur 1 0 12) := ok_purF (E := E) (d := md_7) (pc := 9) (ci := 1) (f := 0) (C := RX1) (T := TX1) (N := 1) (ref := RX1) rfl win_1 (by decide) rfl tyX1 tyX1_ok nmX1 (by decide +kernel : _ = some (.array .int)) (Or.inr ⟨_, rfl⟩) rfl rfl rfl wm_116 dd_7_9
theorem va_7 (E : ac_E) (pc : Nat) : ac_V E ac_MDf ac_HDf 7 pc (tb_7 (ac_len E) (ac_xs E) pc) := (ac_node (ac_node (ac_leaf 0 (⟨vd_7_0 E, mn_ald _ _⟩)) (ac_node (ac_leaf 1 (⟨vd_7_1 E, mn_obj1 _⟩)) (ac_leaf 4 (⟨vd_7_4 E, mn_ald _ _⟩)))) (ac_node (ac_node (ac_leaf 5 (⟨vd_7_5 E, mn_con _ _⟩)) (ac_leaf 7 (⟨vd_7_7 E, mn_ni _⟩))) (ac_node (ac_leaf 9 (⟨vd_7_9 E, mn_pur _ _ _⟩)) (ac_leaf 12 (ac_Vr0 dd_7_12 rfl)))))
theorem vd_8_0 (E : ac_E) : ac_ok E md_8 0 (o_con (.int 0) 1) := ok_iconst (E := E) (d := md_8) (pc := 0) dd_8_0 (by decide)
theorem vd_8_1 (E : ac_E) : ac_ok E md_8 1 (o_ist 4 3) := ok_istore (E := E) (d := md_8) (pc := 1) dd_8_1
theorem vd_8_3 (E : ac_E) : ac_ok E md_8 3 (o_ild 4 5) := ok_iload (E := E) (d := md_8) (pc := 3) dd_8_3
theorem vd_8_5 (E : ac_E) : ac_ok E md_8 5 (o_con (.int 3) 6) := ok_iconst (E := E) (d := md_8) (pc := 5) dd_8_5 (by decide)
theorem vd_8_6 (E : ac_E) : ac_ok E md_8 6 (o_ge 42 9) := ok_icmpge (E := E) (d := md_8) (pc := 6) dd_8_6 (by decide)
theorem vd_8_9 (E : ac_E) : ac_ok E md_8 9 (o_ald 0 10) := ok_aload_n (E := E) (d := md_8) (pc := 9) (j := 0) dd_8_9
theorem vd_8_10 (E : ac_E) : ac_ok E md_8 10 (o_get 1 0 13) := ok_getf (E := E) (d := md_8) (pc := 10) (ci := 1) (f := 0) (C := RX1) (T := TX1) (N := 1) (ref := RX1) rfl win_1 (by decide) rfl wm_116 dd_8_10
theorem vd_8_13 (E : ac_E) : ac_ok E md_8 13 (o_ild 1 14) := ok_iload_n (E := E) (d := md_8) (pc := 13) (j := 1) dd_8_13
theorem vd_8_14 (E : ac_E) : ac_ok E md_8 14 (o_con (.int 3) 15) := ok_iconst (E := E) (d := md_8) (pc := 14) dd_8_14 (by decide)
theorem vd_8_15 (E : ac_E) : ac_ok E md_8 15 (o_mul 16) := ok_imul (E := E) (d := md_8) (pc := 15) dd_8_15
theorem vd_8_16 (E : ac_E) : ac_ok E md_8 16 (o_ild 4 18) := ok_iload (E := E) (d := md_8) (pc := 16) dd_8_16
theorem vd_8_18 (E : ac_E) : ac_ok E md_8 18 (o_add 19) := ok_iadd (E := E) (d := md_8) (pc := 18) dd_8_18
theorem vd_8_19 (E : ac_E) : ac_ok E md_8 19 (o_dp2 20) := ok_dup2 (E := E) (d := md_8) (pc := 19) dd_8_19
theorem vd_8_20 (E : ac_E) : ac_ok E md_8 20 (o_ia 21) := ok_iaload (E := E) (d := md_8) (pc := 20) dd_8_20
theorem vd_8_21 (E : ac_E) : ac_ok E md_8 21 (o_ild 3 22) := ok_iload_n (E := E) (d := md_8) (pc := 21) (j := 3) dd_8_21
theorem vd_8_22 (E : ac_E) : ac_ok E md_8 22 (o_ild 4 24) := ok_iload (E := E) (d := md_8) (pc := 22) dd_8_22
theorem vd_8_24 (E : ac_E) : ac_okr E md_8 md_48 24 2 27 0 := ok_callSN (E := E) (d := md_8) (dz := md_48) (pc := 24) rfl (by decide) (by decide +kernel) wm_494 wm_50 wm_492 wm_493 dd_8_24
theorem vd_8_27 (E : ac_E) : ac_ok E md_8 27 (o_ild 2 28) := ok_iload_n (E := E) (d := md_8) (pc := 27) (j := 2) dd_8_27
theorem vd_8_28 (E : ac_E) : ac_ok E md_8 28 (o_ild 4 30) := ok_iload (E := E) (d := md_8) (pc := 28) dd_8_28
theorem vd_8_30 (E : ac_E) : ac_okr E md_8 md_48 30 2 33 0 := ok_callSN (E := E) (d := md_8) (dz := md_48) (pc := 30) rfl (by decide) (by decide +kernel) wm_494 wm_50 wm_492 wm_493 dd_8_30
theorem vd_8_33 (E : ac_E) : ac_ok E md_8 33 (o_sub 34) := ok_isub (E := E) (d := md_8) (pc := 33) dd_8_33
theorem vd_8_34 (E : ac_E) : ac_ok E md_8 34 (o_add 35) := ok_iadd (E := E) (d := md_8) (pc := 34) dd_8_34
theorem vd_8_35 (E : ac_E) : ac_ok E md_8 35 (o_is 36) := ok_iastore (E := E) (d := md_8) (pc := 35) dd_8_35
theorem vd_8_36 (E : ac_E) : ac_ok E md_8 36 (o_inc 4 1 39) := ok_iinc (E := E) (d := md_8) (pc := 36) dd_8_36 (by decide)
theorem vd_8_39 (E : ac_E) : ac_ok E md_8 39 (o_go 3) := ok_goto (E := E) (d := md_8) (pc := 39) dd_8_39 (by decide)
theorem va_8 (E : ac_E) (pc : Nat) : ac_V E ac_MDf ac_HDf 8 pc (tb_8 (ac_len E) (ac_xs E) pc) := (ac_node (ac_node (ac_node (ac_node (ac_leaf 0 (⟨vd_8_0 E, mn_con _ _⟩)) (ac_node (ac_leaf 1 (⟨vd_8_1 E, mn_ist _ _⟩)) (ac_leaf 3 (⟨vd_8_3 E, mn_ild _ _⟩)))) (ac_node (ac_leaf 5 (⟨vd_8_5 E, mn_con _ _⟩)) (ac_node (ac_leaf 6 (⟨vd_8_6 E, mn_ge _ _⟩)) (ac_leaf 9 (⟨vd_8_9 E, mn_ald _ _⟩))))) (ac_node (ac_node (ac_leaf 10 (⟨vd_8_10 E, mn_get _ _ _⟩)) (ac_node (ac_leaf 13 (⟨vd_8_13 E, mn_ild _ _⟩)) (ac_leaf 14 (⟨vd_8_14 E, mn_con _ _⟩)))) (ac_node (ac_node (ac_leaf 15 (⟨vd_8_15 E, mn_mul _⟩)) (ac_leaf 16 (⟨vd_8_16 E, mn_ild _ _⟩))) (ac_node (ac_leaf 18 (⟨vd_8_18 E, mn_add _⟩)) (ac_leaf 19 (⟨vd_8_19 E, mn_dp2 _⟩)))))) (ac_node (ac_node (ac_node (ac_leaf 20 (⟨vd_8_20 E, mn_ia _⟩)) (ac_node (ac_leaf 21 (⟨vd_8_21 E, mn_ild _ _⟩)) (ac_leaf 22 (⟨vd_8_22 E, mn_ild _ _⟩)))) (ac_node (ac_leaf 24 (ac_Vc0 (vd_8_24 E) (fun _ => rfl))) (ac_node (ac_leaf 27 (⟨vd_8_27 E, mn_ild _ _⟩)) (ac_leaf 28 (⟨vd_8_28 E, mn_ild _ _⟩))))) (ac_node (ac_node (ac_leaf 30 (ac_Vc0 (vd_8_30 E) (fun _ => rfl))) (ac_node (ac_leaf 33 (⟨vd_8_33 E, mn_sub _⟩)) (ac_leaf 34 (⟨vd_8_34 E, mn_add _⟩)))) (ac_node (ac_node (ac_leaf 35 (⟨vd_8_35 E, mn_is _⟩)) (ac_leaf 36 (⟨vd_8_36 E, mn_inc _ _ _⟩))) (ac_node (ac_leaf 39 (⟨vd_8_39 E, mn_go _⟩)) (ac_leaf 42 (ac_Vr0 dd_8_42 rfl)))))))
theorem vd_9_0 (E : ac_E) : ac_ok E md_9 0 (o_ald 0 1) := ok_aload_n (E := E) (d := md_9) (pc := 0) (j := 0) dd_9_0
theorem vd_9_1 (E : ac_E) : ac_ok E md_9 1 (o_obj1 4) := ok_obj (E := E) (d := md_9) (pc := 1) wm_83 wm_73 wm_74 (by decide) (by decide) dd_9_1
theorem vd_9_4 (E : ac_E) : ac_ok E md_9 4 (o_ald 0 5) := ok_aload_n (E := E) (d := md_9) (pc := 4) (j := 0) dd_9_4
theorem vd_9_5 (E : ac_E) : ac_ok E md_9 5 (o_ild 1 6) := ok_iload_n (E := E) (d := md_9) (pc := 5) (j := 1) dd_9_5
theorem vd_9_6 (E : ac_E) : ac_ok E md_9 6 (o_put 2 0 9) := ok_putF (E := E) (d := md_9) (pc := 6) (ci := 2) (f := 0) (C := RX2) (T := TX2) (N := 4) (ref := RX2) rfl win_2 (by decide) rfl tyX2 tyX2_ok nmX2 (by decide +kernel) rfl rfl rfl wm_93 dd_9_6
theorem vd_9_9 (E : ac_E) : ac_ok E md_9 9 (o_ald 0 10) := ok_aload_n (E := E) (d := md_9) (pc := 9) (j := 0) dd_9_9
theorem vd_9_10 (E : ac_E) : ac_ok E md_9 10 (o_ild 2 11) := ok_iload_n (E := E) (d := md_9) (pc := 10) (j := 2) dd_9_10
theorem vd_9_11 (E : ac_E) : ac_ok E md_9 11 (o_put 2 1 14) := ok_putF (E := E) (d := md_9) (pc := 11) (ci := 2) (f := 1) (C := RX2) (T := TX2) (N := 4) (ref := RX2) rfl win_2 (by decide) rfl tyX2 tyX2_ok nmX2 (by decide +kernel) rfl rfl rfl wm_95 dd_9_11
theorem vd_9_14 (E : ac_E) : ac_ok E md_9 14 (o_ald 0 15) := ok_aload_n (E := E) (d := md_9) (pc := 14) (j := 0) dd_9_14
theorem vd_9_15 (E : ac_E) : ac_ok E md_9 15 (o_ild 1 16) := ok_iload_n (E := E) (d := md_9) (pc := 15) (j := 1) dd_9_15
theorem vd_9_16 (E : ac_E) : ac_ok E md_9 16 (o_ild 2 17) := ok_iload_n (E := E) (d := md_9) (pc := 16) (j := 2) dd_9_16
theorem vd_9_17 (E : ac_E) : ac_ok E md_9 17 (o_mul 18) := ok_imul (E := E) (d := md_9) (pc := 17) dd_9_17
theorem vd_9_18 (E : ac_E) : ac_ok E md_9 18 (o_put 2 2 21) := ok_putF (E := E) (d := md_9) (pc := 18) (ci := 2) (f := 2) (C := RX2) (T := TX2) (N := 4) (ref := RX2) rfl win_2 (by decide) rfl tyX2 tyX2_ok nmX2 (by decide +kernel) rfl rfl rfl wm_97 dd_9_18
theorem vd_9_21 (E : ac_E) : ac_ok E md_9 21 (o_ald 0 22) := ok_aload_n (E := E) (d := md_9) (pc := 21) (j := 0) dd_9_21
theorem vd_9_22 (E : ac_E) : ac_ok E md_9 22 (o_ald 0 23) := ok_aload_n (E := E) (d := md_9) (pc := 22) (j := 0) dd_9_22
theorem vd_9_23 (E : ac_E) : ac_ok E md_9 23 (o_get 2 2 26) := ok_getf (E := E) (d := md_9) (pc := 23) (ci := 2) (f := 2) (C := RX2) (T := TX2) (N := 4) (ref := RX2) rfl win_2 (by decide) rfl wm_97 dd_9_23
theorem vd_9_26 (E : ac_E) : ac_ok E md_9 26 (o_con (.int 6) 28) := ok_bipush (E := E) (d := md_9) (pc := 26) dd_9_26 (by decide)
theorem vd_9_28 (E : ac_E) : ac_ok E md_9 28 (o_mul 29) := ok_imul (E := E) (d := md_9) (pc := 28) dd_9_28
theorem vd_9_29 (E : ac_E) : ac_ok E md_9 29 (o_ni 31) := ok_ni (E := E) (d := md_9) (pc := 29) dd_9_29 wm_109
theorem vd_9_31 (E : ac_E) : ac_ok E md_9 31 (o_pur 2 3 34) := ok_purF (E := E) (d := md_9) (pc := 31) (ci := 2) (f := 3) (C := RX2) (T := TX2) (N := 4) (ref := RX2) rfl win_2 (by decide) rfl tyX2 tyX2_ok nmX2 (by decide +kernel : _ = some (.array .int)) (Or.inr ⟨_, rfl⟩) rfl rfl rfl wm_99 dd_9_31
theorem vd_9_34 (E : ac_E) : ac_ok E md_9 34 (o_con (.int 0) 35) := ok_iconst (E := E) (d := md_9) (pc := 34) dd_9_34 (by decide)
theorem vd_9_35 (E : ac_E) : ac_ok E md_9 35 (o_ist 3 36) := ok_istore_n (E := E) (d := md_9) (pc := 35) (j := 3) dd_9_35
theorem vd_9_36 (E : ac_E) : ac_ok E md_9 36 (o_ild 3 37) := ok_iload_n (E := E) (d := md_9) (pc := 36) (j := 3) dd_9_36
theorem vd_9_37 (E : ac_E) : ac_ok E md_9 37 (o_ild 2 38) := ok_iload_n (E := E) (d := md_9) (pc := 37) (j := 2) dd_9_37
theorem vd_9_38 (E : ac_E) : ac_ok E md_9 38 (o_ge 130 41) := ok_icmpge (E := E) (d := md_9) (pc := 38) dd_9_38 (by decide)
theorem vd_9_41 (E : ac_E) : ac_ok E md_9 41 (o_con (.int 0) 42) := ok_iconst (E := E) (d := md_9) (pc := 41) dd_9_41 (by decide)
theorem vd_9_42 (E : ac_E) : ac_ok E md_9 42 (o_ist 4 44) := ok_istore (E := E) (d := md_9) (pc := 42) dd_9_42
theorem vd_9_44 (E : ac_E) : ac_ok E md_9 44 (o_ild 4 46) := ok_iload (E := E) (d := md_9) (pc := 44) dd_9_44
theorem vd_9_46 (E : ac_E) : ac_ok E md_9 46 (o_ild 1 47) := ok_iload_n (E := E) (d := md_9) (pc := 46) (j := 1) dd_9_46
theorem vd_9_47 (E : ac_E) : ac_ok E md_9 47 (o_ge 124 50) := ok_icmpge (E := E) (d := md_9) (pc := 47) dd_9_47 (by decide)
theorem vd_9_50 (E : ac_E) : ac_ok E md_9 50 (o_con (.int 0) 51) := ok_iconst (E := E) (d := md_9) (pc := 50) dd_9_50 (by decide)
theorem vd_9_51 (E : ac_E) : ac_ok E md_9 51 (o_ist 5 53) := ok_istore (E := E) (d := md_9) (pc := 51) dd_9_51
theorem vd_9_53 (E : ac_E) : ac_ok E md_9 53 (o_ild 5 55) := ok_iload (E := E) (d := md_9) (pc := 53) dd_9_53
theorem vd_9_55 (E : ac_E) : ac_ok E md_9 55 (o_con (.int 6) 57) := ok_bipush (E := E) (d := md_9) (pc := 55) dd_9_55 (by decide)
theorem vd_9_57 (E : ac_E) : ac_ok E md_9 57 (o_ge 118 60) := ok_icmpge (E := E) (d := md_9) (pc := 57) dd_9_57 (by decide)
theorem vd_9_60 (E : ac_E) : ac_ok E md_9 60 (o_ild 4 62) := ok_iload (E := E) (d := md_9) (pc := 60) dd_9_60
theorem vd_9_62 (E : ac_E) : ac_ok E md_9 62 (o_ild 3 63) := ok_iload_n (E := E) (d := md_9) (pc := 62) (j := 3) dd_9_62
theorem vd_9_63 (E : ac_E) : ac_ok E md_9 63 (o_ild 5 65) := ok_iload (E := E) (d := md_9) (pc := 63) dd_9_63
theorem vd_9_65 (E : ac_E) : ac_okr E md_9 md_11 65 2 68 0 ∧ ac_okt E md_9 md_11 65 2 0 := ok_callS (E := E) (d := md_9) (dz := md_11) (pc := 65) rfl (by decide) (by decide +kernel) wm_86 wm_51 wm_84 wm_85 dd_9_65
theorem vd_9_68 (E : ac_E) : ac_ok E md_9 68 (o_add 69) := ok_iadd (E := E) (d := md_9) (pc := 68) dd_9_68
theorem vd_9_69 (E : ac_E) : ac_ok E md_9 69 (o_ild 1 70) := ok_iload_n (E := E) (d := md_9) (pc := 69) (j := 1) dd_9_69
theorem vd_9_70 (E : ac_E) : ac_okr E md_9 md_1 70 2 73 0 ∧ ac_okt E md_9 md_1 70 2 0 := ok_callS (E := E) (d := md_9) (dz := md_1) (pc := 70) rfl (by decide) (by decide +kernel) wm_89 wm_52 wm_87 wm_88 dd_9_70
theorem vd_9_73 (E : ac_E) : ac_ok E md_9 73 (o_ist 6 75) := ok_istore (E := E) (d := md_9) (pc := 73) dd_9_73
theorem vd_9_75 (E : ac_E) : ac_ok E md_9 75 (o_ild 3 76) := ok_iload_n (E := E) (d := md_9) (pc := 75) (j := 3) dd_9_75
theorem vd_9_76 (E : ac_E) : ac_ok E md_9 76 (o_ild 5 78) := ok_iload (E := E) (d := md_9) (pc := 76) dd_9_76
theorem vd_9_78 (E : ac_E) : ac_okr E md_9 md_10 78 1 81 0 ∧ ac_okt E md_9 md_10 78 1 0 := ok_callS (E := E) (d := md_9) (dz := md_10) (pc := 78) rfl (by decide) (by decide +kernel) wm_92 wm_51 wm_90 wm_91 dd_9_78
theorem vd_9_81 (E : ac_E) : ac_ok E md_9 81 (o_add 82) := ok_iadd (E := E) (d := md_9) (pc := 81) dd_9_81
theorem vd_9_82 (E : ac_E) : ac_ok E md_9 82 (o_ild 2 83) := ok_iload_n (E := E) (d := md_9) (pc := 82) (j := 2) dd_9_82
theorem vd_9_83 (E : ac_E) : ac_okr E md_9 md_1 83 2 86 0 ∧ ac_okt E md_9 md_1 83 2 0 := ok_callS (E := E) (d := md_9) (dz := md_1) (pc := 83) rfl (by decide) (by decide +kernel) wm_89 wm_52 wm_87 wm_88 dd_9_83
theorem vd_9_86 (E : ac_E) : ac_ok E md_9 86 (o_ist 7 88) := ok_istore (E := E) (d := md_9) (pc := 86) dd_9_86
theorem vd_9_88 (E : ac_E) : ac_ok E md_9 88 (o_ald 0 89) := ok_aload_n (E := E) (d := md_9) (pc := 88) (j := 0) dd_9_88
theorem vd_9_89 (E : ac_E) : ac_ok E md_9 89 (o_get 2 3 92) := ok_getf (E := E) (d := md_9) (pc := 89) (ci := 2) (f := 3) (C := RX2) (T := TX2) (N := 4) (ref := RX2) rfl win_2 (by decide) rfl wm_99 dd_9_89
theorem vd_9_92 (E : ac_E) : ac_ok E md_9 92 (o_ild 3 93) := ok_iload_n (E := E) (d := md_9) (pc := 92) (j := 3) dd_9_92
theorem vd_9_93 (E : ac_E) : ac_ok E md_9 93 (o_ild 1 94) := ok_iload_n (E := E) (d := md_9) (pc := 93) (j := 1) dd_9_93
theorem vd_9_94 (E : ac_E) : ac_ok E md_9 94 (o_mul 95) := ok_imul (E := E) (d := md_9) (pc := 94) dd_9_94
theorem vd_9_95 (E : ac_E) : ac_ok E md_9 95 (o_ild 4 97) := ok_iload (E := E) (d := md_9) (pc := 95) dd_9_95
theorem vd_9_97 (E : ac_E) : ac_ok E md_9 97 (o_add 98) := ok_iadd (E := E) (d := md_9) (pc := 97) dd_9_97
theorem vd_9_98 (E : ac_E) : ac_ok E md_9 98 (o_con (.int 6) 100) := ok_bipush (E := E) (d := md_9) (pc := 98) dd_9_98 (by decide)
theorem vd_9_100 (E : ac_E) : ac_ok E md_9 100 (o_mul 101) := ok_imul (E := E) (d := md_9) (pc := 100) dd_9_100
theorem vd_9_101 (E : ac_E) : ac_ok E md_9 101 (o_ild 5 103) := ok_iload (E := E) (d := md_9) (pc := 101) dd_9_101
theorem vd_9_103 (E : ac_E) : ac_ok E md_9 103 (o_add 104) := ok_iadd (E := E) (d := md_9) (pc := 103) dd_9_103
theorem vd_9_104 (E : ac_E) : ac_ok E md_9 104 (o_ild 7 106) := ok_iload (E := E) (d := md_9) (pc := 104) dd_9_104
theorem vd_9_106 (E : ac_E) : ac_ok E md_9 106 (o_ild 1 107) := ok_iload_n (E := E) (d := md_9) (pc := 106) (j := 1) dd_9_106
theorem vd_9_107 (E : ac_E) : ac_ok E md_9 107 (o_mul 108) := ok_imul (E := E) (d := md_9) (pc := 107) dd_9_107
theorem vd_9_108 (E : ac_E) : ac_ok E md_9 108 (o_ild 6 110) := ok_iload (E := E) (d := md_9) (pc := 108) dd_9_108
theorem vd_9_110 (E : ac_E) : ac_ok E md_9 110 (o_add 111) := ok_iadd (E := E) (d := md_9) (pc := 110) dd_9_110
theorem vd_9_111 (E : ac_E) : ac_ok E md_9 111 (o_is 112) := ok_iastore (E := E) (d := md_9) (pc := 111) dd_9_111
theorem vd_9_112 (E : ac_E) : ac_ok E md_9 112 (o_inc 5 1 115) := ok_iinc (E := E) (d := md_9) (pc := 112) dd_9_112 (by decide)
theorem vd_9_115 (E : ac_E) : ac_ok E md_9 115 (o_go 53) := ok_goto (E := E) (d := md_9) (pc := 115) dd_9_115 (by decide)
theorem vd_9_118 (E : ac_E) : ac_ok E md_9 118 (o_inc 4 1 121) := ok_iinc (E := E) (d := md_9) (pc := 118) dd_9_118 (by decide)
theorem vd_9_121 (E : ac_E) : ac_ok E md_9 121 (o_go 44) := ok_goto (E := E) (d := md_9) (pc := 121) dd_9_121 (by decide)
theorem vd_9_124 (E : ac_E) : ac_ok E md_9 124 (o_inc 3 1 127) := ok_iinc (E := E) (d := md_9) (pc := 124) dd_9_124 (by decide)
theorem vd_9_127 (E : ac_E) : ac_ok E md_9 127 (o_go 36) := ok_goto (E := E) (d := md_9) (pc := 127) dd_9_127 (by decide)
theorem va_9 (E : ac_E) (pc : Nat) : ac_V E ac_MDf ac_HDf 9 pc (tb_9 (ac_len E) (ac_xs E) pc) := (ac_node (ac_node (ac_node (ac_node (ac_node (ac_node (ac_leaf 0 (⟨vd_9_0 E, mn_ald _ _⟩)) (ac_leaf 1 (⟨vd_9_1 E, mn_obj1 _⟩))) (ac_node (ac_leaf 4 (⟨vd_9_4 E, mn_ald _ _⟩)) (ac_leaf 5 (⟨vd_9_5 E, mn_ild _ _⟩)))) (ac_node (ac_node (ac_leaf 6 (⟨vd_9_6 E, mn_put _ _ _⟩)) (ac_leaf 9 (⟨vd_9_9 E, mn_ald _ _⟩))) (ac_node (ac_leaf 10 (⟨vd_9_10 E, mn_ild _ _⟩)) (ac_node (ac_leaf 11 (⟨vd_9_11 E, mn_put _ _ _⟩)) (ac_leaf 14 (⟨vd_9_14 E, mn_ald _ _⟩)))))) (ac_node (ac_node (ac_node (ac_leaf 15 (⟨vd_9_15 E, mn_ild _ _⟩)) (ac_leaf 16 (⟨vd_9_16 E, mn_ild _ _⟩))) (ac_node (ac_leaf 17 (⟨vd_9_17 E, mn_mul _⟩)) (ac_leaf 18 (⟨vd_9_18 E, mn_put _ _ _⟩)))) (ac_node (ac_node (ac_leaf 21 (⟨vd_9_21 E, mn_ald _ _⟩)) (ac_leaf 22 (⟨vd_9_22 E, mn_ald _ _⟩))) (ac_node (ac_leaf 23 (⟨vd_9_23 E, mn_get _ _ _⟩)) (ac_node (ac_leaf 26 (⟨vd_9_26 E, mn_con _ _⟩)) (ac_leaf 28 (⟨vd_9_28 E, mn_mul _⟩))))))) (ac_node (ac_node (ac_node (ac_node (ac_leaf 29 (⟨vd_9_29 E, mn_ni _⟩)) (ac_leaf 31 (⟨vd_9_31 E, mn_pur _ _ _⟩))) (ac_node (ac_leaf 34 (⟨vd_9_34 E, mn_con _ _⟩)) (ac_leaf 35 (⟨vd_9_35 E, mn_ist _ _⟩)))) (ac_node (ac_node (ac_leaf 36 (⟨vd_9_36 E, mn_ild _ _⟩)) (ac_leaf 37 (⟨vd_9_37 E, mn_ild _ _⟩))) (ac_node (ac_leaf 38 (⟨vd_9_38 E, mn_ge _ _⟩)) (ac_node (ac_leaf 41 (⟨vd_9_41 E, mn_con _ _⟩)) (ac_leaf 42 (⟨vd_9_42 E, mn_ist _ _⟩)))))) (ac_node (ac_node (ac_node (ac_leaf 44 (⟨vd_9_44 E, mn_ild _ _⟩)) (ac_leaf 46 (⟨vd_9_46 E, mn_ild _ _⟩))) (ac_node (ac_leaf 47 (⟨vd_9_47 E, mn_ge _ _⟩)) (ac_node (ac_leaf 50 (⟨vd_9_50 E, mn_con _ _⟩)) (ac_leaf 51 (⟨vd_9_51 E, mn_ist _ _⟩))))) (ac_node (ac_node (ac_leaf 53 (⟨vd_9_53 E, mn_ild _ _⟩)) (ac_leaf 55 (⟨vd_9_55 E, mn_con _ _⟩))) (ac_node (ac_leaf 57 (⟨vd_9_57 E, mn_ge _ _⟩)) (ac_node (ac_leaf 60 (⟨vd_9_60 E, mn_ild _ _⟩)) (ac_leaf 62 (⟨vd_9_62 E, mn_ild _ _⟩)))))))) (ac_node (ac_node (ac_node (ac_node (ac_node (ac_leaf 63 (⟨vd_9_63 E, mn_ild _ _⟩)) (ac_leaf 65 (ac_Vc0 ((vd_9_65 E).1) (fun _ => rfl)))) (ac_node (ac_leaf 68 (⟨vd_9_68 E, mn_add _⟩)) (ac_leaf 69 (⟨vd_9_69 E, mn_ild _ _⟩)))) (ac_node (ac_node (ac_leaf 70 (ac_Vc0 ((vd_9_70 E).1) (fun _ => rfl))) (ac_leaf 73 (⟨vd_9_73 E, mn_ist _ _⟩))) (ac_node (ac_leaf 75 (⟨vd_9_75 E, mn_ild _ _⟩)) (ac_node (ac_leaf 76 (⟨vd_9_76 E, mn_ild _ _⟩)) (ac_leaf 78 (ac_Vc0 ((vd_9_78 E).1) (fun _ => rfl))))))) (ac_node (ac_node (ac_node (ac_leaf 81 (⟨vd_9_81 E, mn_add _⟩)) (ac_leaf 82 (⟨vd_9_82 E, mn_ild _ _⟩))) (ac_node (ac_leaf 83 (ac_Vc0 ((vd_9_83 E).1) (fun _ => rfl))) (ac_leaf 86 (⟨vd_9_86 E, mn_ist _ _⟩)))) (ac_node (ac_node (ac_leaf 88 (⟨vd_9_88 E, mn_ald _ _⟩)) (ac_leaf 89 (⟨vd_9_89 E, mn_get _ _ _⟩))) (ac_node (ac_leaf 92 (⟨vd_9_92 E, mn_ild _ _⟩)) (ac_node (ac_leaf 93 (⟨vd_9_93 E, mn_ild _ _⟩)) (ac_leaf 94 (⟨vd_9_94 E, mn_mul _⟩))))))) (ac_node (ac_node (ac_node (ac_node (ac_leaf 95 (⟨vd_9_95 E, mn_ild _ _⟩)) (ac_leaf 97 (⟨vd_9_97 E, mn_add _⟩))) (ac_node (ac_leaf 98 (⟨vd_9_98 E, mn_con _ _⟩)) (ac_leaf 100 (⟨vd_9_100 E, mn_mul _⟩)))) (ac_node (ac_node (ac_leaf 101 (⟨vd_9_101 E, mn_ild _ _⟩)) (ac_leaf 103 (⟨vd_9_103 E, mn_add _⟩))) (ac_node (ac_leaf 104 (⟨vd_9_104 E, mn_ild _ _⟩)) (ac_node (ac_leaf 106 (⟨vd_9_106 E, mn_ild _ _⟩)) (ac_leaf 107 (⟨vd_9_107 E, mn_mul _⟩)))))) (ac_node (ac_node (ac_node (ac_leaf 108 (⟨vd_9_108 E, mn_ild _ _⟩)) (ac_leaf 110 (⟨vd_9_110 E, mn_add _⟩))) (ac_node (ac_leaf 111 (⟨vd_9_111 E, mn_is _⟩)) (ac_node (ac_leaf 112 (⟨vd_9_112 E, mn_inc _ _ _⟩)) (ac_leaf 115 (⟨vd_9_115 E, mn_go _⟩))))) (ac_node (ac_node (ac_leaf 118 (⟨vd_9_118 E, mn_inc _ _ _⟩)) (ac_leaf 121 (⟨vd_9_121 E, mn_go _⟩))) (ac_node (ac_leaf 124 (⟨vd_9_124 E, mn_inc _ _ _⟩)) (ac_node (ac_leaf 127 (⟨vd_9_127 E, mn_go _⟩)) (ac_leaf 130 (ac_Vr0 dd_9_130 rfl)))))))))
theorem vd_10_0 (E : ac_E) : ac_ok E md_10 0 (o_ild 0 1) := ok_iload_n (E := E) (d := md_10) (pc := 0) (j := 0) dd_10_0
theorem vd_10_1 (E : ac_E) : ac_ok E md_10 1 (o_eq0 9 4) := ok_ifeq (E := E) (d := md_10) (pc := 1) dd_10_1 (by decide)
theorem vd_10_4 (E : ac_E) : ac_ok E md_10 4 (o_ild 0 5) := ok_iload_n (E := E) (d := md_10) (pc := 4) (j := 0) dd_10_4
theorem vd_10_5 (E : ac_E) : ac_ok E md_10 5 (o_con (.int 3) 6) := ok_iconst (E := E) (d := md_10) (pc := 5) dd_10_5 (by decide)
theorem vd_10_6 (E : ac_E) : ac_ok E md_10 6 (o_ne 11 9) := ok_icmpne (E := E) (d := md_10) (pc := 6) dd_10_6 (by decide)
theorem vd_10_9 (E : ac_E) : ac_ok E md_10 9 (o_con (.int 0) 10) := ok_iconst (E := E) (d := md_10) (pc := 9) dd_10_9 (by decide)
theorem vd_10_11 (E : ac_E) : ac_ok E md_10 11 (o_ild 0 12) := ok_iload_n (E := E) (d := md_10) (pc := 11) (j := 0) dd_10_11
theorem vd_10_12 (E : ac_E) : ac_ok E md_10 12 (o_con (.int 3) 13) := ok_iconst (E := E) (d := md_10) (pc := 12) dd_10_12 (by decide)
theorem vd_10_13 (E : ac_E) : ac_ok E md_10 13 (o_ge 20 16) := ok_icmpge (E := E) (d := md_10) (pc := 13) dd_10_13 (by decide)
theorem vd_10_16 (E : ac_E) : ac_ok E md_10 16 (o_con (.int (-1)) 17) := ok_iconst (E := E) (d := md_10) (pc := 16) dd_10_16 (by decide)
theorem vd_10_17 (E : ac_E) : ac_ok E md_10 17 (o_go 21) := ok_goto (E := E) (d := md_10) (pc := 17) dd_10_17 (by decide)
theorem vd_10_20 (E : ac_E) : ac_ok E md_10 20 (o_con (.int 1) 21) := ok_iconst (E := E) (d := md_10) (pc := 20) dd_10_20 (by decide)
theorem va_10 (E : ac_E) (pc : Nat) : ac_V E ac_MDf ac_HDf 10 pc (tb_10 (ac_len E) (ac_xs E) pc) := (ac_node (ac_node (ac_node (ac_leaf 0 (⟨vd_10_0 E, mn_ild _ _⟩)) (ac_node (ac_leaf 1 (⟨vd_10_1 E, mn_eq0 _ _⟩)) (ac_leaf 4 (⟨vd_10_4 E, mn_ild _ _⟩)))) (ac_node (ac_node (ac_leaf 5 (⟨vd_10_5 E, mn_con _ _⟩)) (ac_leaf 6 (⟨vd_10_6 E, mn_ne _ _⟩))) (ac_node (ac_leaf 9 (⟨vd_10_9 E, mn_con _ _⟩)) (ac_leaf 10 (ac_Vr1 dd_10_10 rfl))))) (ac_node (ac_node (ac_leaf 11 (⟨vd_10_11 E, mn_ild _ _⟩)) (ac_node (ac_leaf 12 (⟨vd_10_12 E, mn_con _ _⟩)) (ac_leaf 13 (⟨vd_10_13 E, mn_ge _ _⟩)))) (ac_node (ac_node (ac_leaf 16 (⟨vd_10_16 E, mn_con _ _⟩)) (ac_leaf 17 (⟨vd_10_17 E, mn_go _⟩))) (ac_node (ac_leaf 20 (⟨vd_10_20 E, mn_con _ _⟩)) (ac_leaf 21 (ac_Vr1 dd_10_21 rfl))))))
theorem vd_11_0 (E : ac_E) : ac_ok E md_11 0 (o_ild 1 1) := ok_iload_n (E := E) (d := md_11) (pc := 0) (j := 1) dd_11_0
theorem vd_11_1 (E : ac_E) : ac_ok E md_11 1 (o_ne0 6 4) := ok_ifne (E := E) (d := md_11) (pc := 1) dd_11_1 (by decide)
theorem vd_11_4 (E : ac_E) : ac_ok E md_11 4 (o_con (.int 1) 5) := ok_iconst (E := E) (d := md_11) (pc := 4) dd_11_4 (by decide)
theorem vd_11_6 (E : ac_E) : ac_ok E md_11 6 (o_ild 1 7) := ok_iload_n (E := E) (d := md_11) (pc := 6) (j := 1) dd_11_6
theorem vd_11_7 (E : ac_E) : ac_ok E md_11 7 (o_con (.int 3) 8) := ok_iconst (E := E) (d := md_11) (pc := 7) dd_11_7 (by decide)
theorem vd_11_8 (E : ac_E) : ac_ok E md_11 8 (o_ne 13 11) := ok_icmpne (E := E) (d := md_11) (pc := 8) dd_11_8 (by decide)
theorem vd_11_11 (E : ac_E) : ac_ok E md_11 11 (o_con (.int (-1)) 12) := ok_iconst (E := E) (d := md_11) (pc := 11) dd_11_11 (by decide)
theorem vd_11_13 (E : ac_E) : ac_ok E md_11 13 (o_ild 1 14) := ok_iload_n (E := E) (d := md_11) (pc := 13) (j := 1) dd_11_13
theorem vd_11_14 (E : ac_E) : ac_ok E md_11 14 (o_con (.int 1) 15) := ok_iconst (E := E) (d := md_11) (pc := 14) dd_11_14 (by decide)
theorem vd_11_15 (E : ac_E) : ac_ok E md_11 15 (o_eq 23 18) := ok_icmpeq (E := E) (d := md_11) (pc := 15) dd_11_15 (by decide)
theorem vd_11_18 (E : ac_E) : ac_ok E md_11 18 (o_ild 1 19) := ok_iload_n (E := E) (d := md_11) (pc := 18) (j := 1) dd_11_18
theorem vd_11_19 (E : ac_E) : ac_ok E md_11 19 (o_con (.int 5) 20) := ok_iconst (E := E) (d := md_11) (pc := 19) dd_11_19 (by decide)
theorem vd_11_20 (E : ac_E) : ac_ok E md_11 20 (o_ne 27 23) := ok_icmpne (E := E) (d := md_11) (pc := 20) dd_11_20 (by decide)
theorem vd_11_23 (E : ac_E) : ac_ok E md_11 23 (o_con (.int 1) 24) := ok_iconst (E := E) (d := md_11) (pc := 23) dd_11_23 (by decide)
theorem vd_11_24 (E : ac_E) : ac_ok E md_11 24 (o_go 28) := ok_goto (E := E) (d := md_11) (pc := 24) dd_11_24 (by decide)
theorem vd_11_27 (E : ac_E) : ac_ok E md_11 27 (o_con (.int 0) 28) := ok_iconst (E := E) (d := md_11) (pc := 27) dd_11_27 (by decide)
theorem vd_11_28 (E : ac_E) : ac_ok E md_11 28 (o_ist 2 29) := ok_istore_n (E := E) (d := md_11) (pc := 28) (j := 2) dd_11_28
theorem vd_11_29 (E : ac_E) : ac_ok E md_11 29 (o_ild 2 30) := ok_iload_n (E := E) (d := md_11) (pc := 29) (j := 2) dd_11_29
theorem vd_11_30 (E : ac_E) : ac_ok E md_11 30 (o_eq0 37 33) := ok_ifeq (E := E) (d := md_11) (pc := 30) dd_11_30 (by decide)
theorem vd_11_33 (E : ac_E) : ac_ok E md_11 33 (o_con (.int 0) 34) := ok_iconst (E := E) (d := md_11) (pc := 33) dd_11_33 (by decide)
theorem vd_11_34 (E : ac_E) : ac_ok E md_11 34 (o_go 38) := ok_goto (E := E) (d := md_11) (pc := 34) dd_11_34 (by decide)
theorem vd_11_37 (E : ac_E) : ac_ok E md_11 37 (o_con (.int (-1)) 38) := ok_iconst (E := E) (d := md_11) (pc := 37) dd_11_37 (by decide)
theorem vd_11_38 (E : ac_E) : ac_ok E md_11 38 (o_ild 0 39) := ok_iload_n (E := E) (d := md_11) (pc := 38) (j := 0) dd_11_38
theorem vd_11_39 (E : ac_E) : ac_ok E md_11 39 (o_con (.int 2) 40) := ok_iconst (E := E) (d := md_11) (pc := 39) dd_11_39 (by decide)
theorem vd_11_40 (E : ac_E) : ac_ok E md_11 40 (o_rem 41) := ok_irem (E := E) (d := md_11) (pc := 40) dd_11_40
theorem vd_11_41 (E : ac_E) : ac_ok E md_11 41 (o_add 42) := ok_iadd (E := E) (d := md_11) (pc := 41) dd_11_41
theorem va_11 (E : ac_E) (pc : Nat) : ac_V E ac_MDf ac_HDf 11 pc (tb_11 (ac_len E) (ac_xs E) pc) := (ac_node (ac_node (ac_node (ac_node (ac_leaf 0 (⟨vd_11_0 E, mn_ild _ _⟩)) (ac_node (ac_leaf 1 (⟨vd_11_1 E, mn_ne0 _ _⟩)) (ac_leaf 4 (⟨vd_11_4 E, mn_con _ _⟩)))) (ac_node (ac_node (ac_leaf 5 (ac_Vr1 dd_11_5 rfl)) (ac_leaf 6 (⟨vd_11_6 E, mn_ild _ _⟩))) (ac_node (ac_leaf 7 (⟨vd_11_7 E, mn_con _ _⟩)) (ac_leaf 8 (⟨vd_11_8 E, mn_ne _ _⟩))))) (ac_node (ac_node (ac_leaf 11 (⟨vd_11_11 E, mn_con _ _⟩)) (ac_node (ac_leaf 12 (ac_Vr1 dd_11_12 rfl)) (ac_leaf 13 (⟨vd_11_13 E, mn_ild _ _⟩)))) (ac_node (ac_node (ac_leaf 14 (⟨vd_11_14 E, mn_con _ _⟩)) (ac_leaf 15 (⟨vd_11_15 E, mn_eq _ _⟩))) (ac_node (ac_leaf 18 (⟨vd_11_18 E, mn_ild _ _⟩)) (ac_leaf 19 (⟨vd_11_19 E, mn_con _ _⟩)))))) (ac_node (ac_node (ac_node (ac_leaf 20 (⟨vd_11_20 E, mn_ne _ _⟩)) (ac_node (ac_leaf 23 (⟨vd_11_23 E, mn_con _ _⟩)) (ac_leaf 24 (⟨vd_11_24 E, mn_go _⟩)))) (ac_node (ac_node (ac_leaf 27 (⟨vd_11_27 E, mn_con _ _⟩)) (ac_leaf 28 (⟨vd_11_28 E, mn_ist _ _⟩))) (ac_node (ac_leaf 29 (⟨vd_11_29 E, mn_ild _ _⟩)) (ac_leaf 30 (⟨vd_11_30 E, mn_eq0 _ _⟩))))) (ac_node (ac_node (ac_node (ac_leaf 33 (⟨vd_11_33 E, mn_con _ _⟩)) (ac_leaf 34 (⟨vd_11_34 E, mn_go _⟩))) (ac_node (ac_leaf 37 (⟨vd_11_37 E, mn_con _ _⟩)) (ac_leaf 38 (⟨vd_11_38 E, mn_ild _ _⟩)))) (ac_node (ac_node (ac_leaf 39 (⟨vd_11_39 E, mn_con _ _⟩)) (ac_leaf 40 (⟨vd_11_40 E, mn_rem _⟩))) (ac_node (ac_leaf 41 (⟨vd_11_41 E, mn_add _⟩)) (ac_leaf 42 (ac_Vr1 dd_11_42 rfl)))))))
theorem vd_12_0 (E : ac_E) : ac_ok E md_12 0 (o_ild 1 1) := ok_iload_n (E := E) (d := md_12) (pc := 0) (j := 1) dd_12_0
theorem vd_12_1 (E : ac_E) : ac_ok E md_12 1 (o_ald 0 2) := ok_aload_n (E := E) (d := md_12) (pc := 1) (j := 0) dd_12_1
theorem vd_12_2 (E : ac_E) : ac_ok E md_12 2 (o_get 2 0 5) := ok_getf (E := E) (d := md_12) (pc := 2) (ci := 2) (f := 0) (C := RX2) (T := TX2) (N := 4) (ref := RX2) rfl win_2 (by decide) rfl wm_93 dd_12_2
theorem vd_12_5 (E : ac_E) : ac_ok E md_12 5 (o_rem 6) := ok_irem (E := E) (d := md_12) (pc := 5) dd_12_5
theorem va_12 (E : ac_E) (pc : Nat) : ac_V E ac_MDf ac_HDf 12 pc (tb_12 (ac_len E) (ac_xs E) pc) := (ac_node (ac_node (ac_leaf 0 (⟨vd_12_0 E, mn_ild _ _⟩)) (ac_leaf 1 (⟨vd_12_1 E, mn_ald _ _⟩))) (ac_node (ac_leaf 2 (⟨vd_12_2 E, mn_get _ _ _⟩)) (ac_node (ac_leaf 5 (⟨vd_12_5 E, mn_rem _⟩)) (ac_leaf 6 (ac_Vr1 dd_12_6 rfl)))))
theorem vd_13_0 (E : ac_E) : ac_ok E md_13 0 (o_ild 1 1) := ok_iload_n (E := E) (d := md_13) (pc := 0) (j := 1) dd_13_0
theorem vd_13_1 (E : ac_E) : ac_ok E md_13 1 (o_ald 0 2) := ok_aload_n (E := E) (d := md_13) (pc := 1) (j := 0) dd_13_1
theorem vd_13_2 (E : ac_E) : ac_ok E md_13 2 (o_get 2 0 5) := ok_getf (E := E) (d := md_13) (pc := 2) (ci := 2) (f := 0) (C := RX2) (T := TX2) (N := 4) (ref := RX2) rfl win_2 (by decide) rfl wm_93 dd_13_2
theorem vd_13_5 (E : ac_E) : ac_ok E md_13 5 (o_div 6) := ok_idiv (E := E) (d := md_13) (pc := 5) dd_13_5
theorem va_13 (E : ac_E) (pc : Nat) : ac_V E ac_MDf ac_HDf 13 pc (tb_13 (ac_len E) (ac_xs E) pc) := (ac_node (ac_node (ac_leaf 0 (⟨vd_13_0 E, mn_ild _ _⟩)) (ac_leaf 1 (⟨vd_13_1 E, mn_ald _ _⟩))) (ac_node (ac_leaf 2 (⟨vd_13_2 E, mn_get _ _ _⟩)) (ac_node (ac_leaf 5 (⟨vd_13_5 E, mn_div _⟩)) (ac_leaf 6 (ac_Vr1 dd_13_6 rfl)))))
theorem vd_14_0 (E : ac_E) : ac_ok E md_14 0 (o_ald 0 1) := ok_aload_n (E := E) (d := md_14) (pc := 0) (j := 0) dd_14_0
theorem vd_14_1 (E : ac_E) : ac_ok E md_14 1 (o_get 2 3 4) := ok_getf (E := E) (d := md_14) (pc := 1) (ci := 2) (f := 3) (C := RX2) (T := TX2) (N := 4) (ref := RX2) rfl win_2 (by decide) rfl wm_99 dd_14_1
theorem vd_14_4 (E : ac_E) : ac_ok E md_14 4 (o_ild 1 5) := ok_iload_n (E := E) (d := md_14) (pc := 4) (j := 1) dd_14_4
theorem vd_14_5 (E : ac_E) : ac_ok E md_14 5 (o_con (.int 6) 7) := ok_bipush (E := E) (d := md_14) (pc := 5) dd_14_5 (by decide)
theorem vd_14_7 (E : ac_E) : ac_ok E md_14 7 (o_mul 8) := ok_imul (E := E) (d := md_14) (pc := 7) dd_14_7
theorem vd_14_8 (E : ac_E) : ac_ok E md_14 8 (o_ild 2 9) := ok_iload_n (E := E) (d := md_14) (pc := 8) (j := 2) dd_14_8
theorem vd_14_9 (E : ac_E) : ac_ok E md_14 9 (o_con (.int 6) 11) := ok_bipush (E := E) (d := md_14) (pc := 9) dd_14_9 (by decide)
theorem vd_14_11 (E : ac_E) : ac_ok E md_14 11 (o_rem 12) := ok_irem (E := E) (d := md_14) (pc := 11) dd_14_11
theorem vd_14_12 (E : ac_E) : ac_ok E md_14 12 (o_add 13) := ok_iadd (E := E) (d := md_14) (pc := 12) dd_14_12
theorem vd_14_13 (E : ac_E) : ac_ok E md_14 13 (o_ia 14) := ok_iaload (E := E) (d := md_14) (pc := 13) dd_14_13
theorem va_14 (E : ac_E) (pc : Nat) : ac_V E ac_MDf ac_HDf 14 pc (tb_14 (ac_len E) (ac_xs E) pc) := (ac_node (ac_node (ac_node (ac_leaf 0 (⟨vd_14_0 E, mn_ald _ _⟩)) (ac_leaf 1 (⟨vd_14_1 E, mn_get _ _ _⟩))) (ac_node (ac_leaf 4 (⟨vd_14_4 E, mn_ild _ _⟩)) (ac_node (ac_leaf 5 (⟨vd_14_5 E, mn_con _ _⟩)) (ac_leaf 7 (⟨vd_14_7 E, mn_mul _⟩))))) (ac_node (ac_node (ac_leaf 8 (⟨vd_14_8 E, mn_ild _ _⟩)) (ac_node (ac_leaf 9 (⟨vd_14_9 E, mn_con _ _⟩)) (ac_leaf 11 (⟨vd_14_11 E, mn_rem _⟩)))) (ac_node (ac_leaf 12 (⟨vd_14_12 E, mn_add _⟩)) (ac_node (ac_leaf 13 (⟨vd_14_13 E, mn_ia _⟩)) (ac_leaf 14 (ac_Vr1 dd_14_14 rfl))))))
theorem vd_15_0 (E : ac_E) : ac_ok E md_15 0 (o_ald 0 1) := ok_aload_n (E := E) (d := md_15) (pc := 0) (j := 0) dd_15_0
theorem vd_15_1 (E : ac_E) : ac_ok E md_15 1 (o_obj1 4) := ok_obj (E := E) (d := md_15) (pc := 1) wm_149 wm_73 wm_74 (by decide) (by decide) dd_15_1
theorem vd_15_4 (E : ac_E) : ac_ok E md_15 4 (o_ald 0 5) := ok_aload_n (E := E) (d := md_15) (pc := 4) (j := 0) dd_15_4
theorem vd_15_5 (E : ac_E) : ac_ok E md_15 5 (o_con (.int 4) 6) := ok_iconst (E := E) (d := md_15) (pc := 5) dd_15_5 (by decide)
theorem vd_15_6 (E : ac_E) : ac_ok E md_15 6 (o_ni 8) := ok_ni (E := E) (d := md_15) (pc := 6) dd_15_6 wm_109
theorem vd_15_8 (E : ac_E) : ac_ok E md_15 8 (o_pur 3 0 11) := ok_purF (E := E) (d := md_15) (pc := 8) (ci := 3) (f := 0) (C := RX3) (T := TX3) (N := 3) (ref := RX3) rfl win_3 (by decide) rfl tyX3 tyX3_ok nmX3 (by decide +kernel : _ = some (.array .int)) (Or.inr ⟨_, rfl⟩) rfl rfl rfl wm_150 dd_15_8
theorem vd_15_11 (E : ac_E) : ac_ok E md_15 11 (o_ald 0 12) := ok_aload_n (E := E) (d := md_15) (pc := 11) (j := 0) dd_15_11
theorem vd_15_12 (E : ac_E) : ac_ok E md_15 12 (o_con (.int 4) 13) := ok_iconst (E := E) (d := md_15) (pc := 12) dd_15_12 (by decide)
theorem vd_15_13 (E : ac_E) : ac_ok E md_15 13 (o_ni 15) := ok_ni (E := E) (d := md_15) (pc := 13) dd_15_13 wm_109
theorem vd_15_15 (E : ac_E) : ac_ok E md_15 15 (o_pur 3 1 18) := ok_purF (E := E) (d := md_15) (pc := 15) (ci := 3) (f := 1) (C := RX3) (T := TX3) (N := 3) (ref := RX3) rfl win_3 (by decide) rfl tyX3 tyX3_ok nmX3 (by decide +kernel : _ = some (.array .int)) (Or.inr ⟨_, rfl⟩) rfl rfl rfl wm_152 dd_15_15
theorem vd_15_18 (E : ac_E) : ac_ok E md_15 18 (o_ald 0 19) := ok_aload_n (E := E) (d := md_15) (pc := 18) (j := 0) dd_15_18
theorem vd_15_19 (E : ac_E) : ac_ok E md_15 19 (o_con (.int 0) 20) := ok_iconst (E := E) (d := md_15) (pc := 19) dd_15_19 (by decide)
theorem vd_15_20 (E : ac_E) : ac_ok E md_15 20 (o_put 3 2 23) := ok_putf (E := E) (d := md_15) (pc := 20) (ci := 3) (f := 2) (C := RX3) (T := TX3) (N := 3) (ref := RX3) rfl win_3 (by decide) rfl tyX3 tyX3_ok nmX3 (by decide +kernel) rfl wm_154 dd_15_20
theorem va_15 (E : ac_E) (pc : Nat) : ac_V E ac_MDf ac_HDf 15 pc (tb_15 (ac_len E) (ac_xs E) pc) := (ac_node (ac_node (ac_node (ac_leaf 0 (⟨vd_15_0 E, mn_ald _ _⟩)) (ac_node (ac_leaf 1 (⟨vd_15_1 E, mn_obj1 _⟩)) (ac_leaf 4 (⟨vd_15_4 E, mn_ald _ _⟩)))) (ac_node (ac_node (ac_leaf 5 (⟨vd_15_5 E, mn_con _ _⟩)) (ac_leaf 6 (⟨vd_15_6 E, mn_ni _⟩))) (ac_node (ac_leaf 8 (⟨vd_15_8 E, mn_pur _ _ _⟩)) (ac_leaf 11 (⟨vd_15_11 E, mn_ald _ _⟩))))) (ac_node (ac_node (ac_leaf 12 (⟨vd_15_12 E, mn_con _ _⟩)) (ac_node (ac_leaf 13 (⟨vd_15_13 E, mn_ni _⟩)) (ac_leaf 15 (⟨vd_15_15 E, mn_pur _ _ _⟩)))) (ac_node (ac_node (ac_leaf 18 (⟨vd_15_18 E, mn_ald _ _⟩)) (ac_leaf 19 (⟨vd_15_19 E, mn_con _ _⟩))) (ac_node (ac_leaf 20 (⟨vd_15_20 E, mn_put _ _ _⟩)) (ac_leaf 23 (ac_Vr0 dd_15_23 rfl))))))
theorem vd_16_0 (E : ac_E) : ac_ok E md_16 0 (o_con (.int 0) 1) := ok_iconst (E := E) (d := md_16) (pc := 0) dd_16_0 (by decide)
theorem vd_16_1 (E : ac_E) : ac_ok E md_16 1 (o_ist 3 2) := ok_istore_n (E := E) (d := md_16) (pc := 1) (j := 3) dd_16_1
theorem vd_16_2 (E : ac_E) : ac_ok E md_16 2 (o_ild 3 3) := ok_iload_n (E := E) (d := md_16) (pc := 2) (j := 3) dd_16_2
theorem vd_16_3 (E : ac_E) : ac_ok E md_16 3 (o_ald 0 4) := ok_aload_n (E := E) (d := md_16) (pc := 3) (j := 0) dd_16_3
theorem vd_16_4 (E : ac_E) : ac_ok E md_16 4 (o_get 3 2 7) := ok_getf (E := E) (d := md_16) (pc := 4) (ci := 3) (f := 2) (C := RX3) (T := TX3) (N := 3) (ref := RX3) rfl win_3 (by decide) rfl wm_154 dd_16_4
theorem vd_16_7 (E : ac_E) : ac_ok E md_16 7 (o_ge 38 10) := ok_icmpge (E := E) (d := md_16) (pc := 7) dd_16_7 (by decide)
theorem vd_16_10 (E : ac_E) : ac_ok E md_16 10 (o_ald 0 11) := ok_aload_n (E := E) (d := md_16) (pc := 10) (j := 0) dd_16_10
theorem vd_16_11 (E : ac_E) : ac_ok E md_16 11 (o_get 3 0 14) := ok_getf (E := E) (d := md_16) (pc := 11) (ci := 3) (f := 0) (C := RX3) (T := TX3) (N := 3) (ref := RX3) rfl win_3 (by decide) rfl wm_150 dd_16_11
theorem vd_16_14 (E : ac_E) : ac_ok E md_16 14 (o_ild 3 15) := ok_iload_n (E := E) (d := md_16) (pc := 14) (j := 3) dd_16_14
theorem vd_16_15 (E : ac_E) : ac_ok E md_16 15 (o_ia 16) := ok_iaload (E := E) (d := md_16) (pc := 15) dd_16_15
theorem vd_16_16 (E : ac_E) : ac_ok E md_16 16 (o_ild 1 17) := ok_iload_n (E := E) (d := md_16) (pc := 16) (j := 1) dd_16_16
theorem vd_16_17 (E : ac_E) : ac_ok E md_16 17 (o_ne 32 20) := ok_icmpne (E := E) (d := md_16) (pc := 17) dd_16_17 (by decide)
theorem vd_16_20 (E : ac_E) : ac_ok E md_16 20 (o_ald 0 21) := ok_aload_n (E := E) (d := md_16) (pc := 20) (j := 0) dd_16_20
theorem vd_16_21 (E : ac_E) : ac_ok E md_16 21 (o_get 3 1 24) := ok_getf (E := E) (d := md_16) (pc := 21) (ci := 3) (f := 1) (C := RX3) (T := TX3) (N := 3) (ref := RX3) rfl win_3 (by decide) rfl wm_152 dd_16_21
theorem vd_16_24 (E : ac_E) : ac_ok E md_16 24 (o_ild 3 25) := ok_iload_n (E := E) (d := md_16) (pc := 24) (j := 3) dd_16_24
theorem vd_16_25 (E : ac_E) : ac_ok E md_16 25 (o_ia 26) := ok_iaload (E := E) (d := md_16) (pc := 25) dd_16_25
theorem vd_16_26 (E : ac_E) : ac_ok E md_16 26 (o_ild 2 27) := ok_iload_n (E := E) (d := md_16) (pc := 26) (j := 2) dd_16_26
theorem vd_16_27 (E : ac_E) : ac_ok E md_16 27 (o_ne 32 30) := ok_icmpne (E := E) (d := md_16) (pc := 27) dd_16_27 (by decide)
theorem vd_16_30 (E : ac_E) : ac_ok E md_16 30 (o_con (.int 1) 31) := ok_iconst (E := E) (d := md_16) (pc := 30) dd_16_30 (by decide)
theorem vd_16_32 (E : ac_E) : ac_ok E md_16 32 (o_inc 3 1 35) := ok_iinc (E := E) (d := md_16) (pc := 32) dd_16_32 (by decide)
theorem vd_16_35 (E : ac_E) : ac_ok E md_16 35 (o_go 2) := ok_goto (E := E) (d := md_16) (pc := 35) dd_16_35 (by decide)
theorem vd_16_38 (E : ac_E) : ac_ok E md_16 38 (o_con (.int 0) 39) := ok_iconst (E := E) (d := md_16) (pc := 38) dd_16_38 (by decide)
theorem va_16 (E : ac_E) (pc : Nat) : ac_V E ac_MDf ac_HDf 16 pc (tb_16 (ac_len E) (ac_xs E) pc) := (ac_node (ac_node (ac_node (ac_node (ac_leaf 0 (⟨vd_16_0 E, mn_con _ _⟩)) (ac_node (ac_leaf 1 (⟨vd_16_1 E, mn_ist _ _⟩)) (ac_leaf 2 (⟨vd_16_2 E, mn_ild _ _⟩)))) (ac_node (ac_leaf 3 (⟨vd_16_3 E, mn_ald _ _⟩)) (ac_node (ac_leaf 4 (⟨vd_16_4 E, mn_get _ _ _⟩)) (ac_leaf 7 (⟨vd_16_7 E, mn_ge _ _⟩))))) (ac_node (ac_node (ac_leaf 10 (⟨vd_16_10 E, mn_ald _ _⟩)) (ac_node (ac_leaf 11 (⟨vd_16_11 E, mn_get _ _ _⟩)) (ac_leaf 14 (⟨vd_16_14 E, mn_ild _ _⟩)))) (ac_node (ac_leaf 15 (⟨vd_16_15 E, mn_ia _⟩)) (ac_node (ac_leaf 16 (⟨vd_16_16 E, mn_ild _ _⟩)) (ac_leaf 17 (⟨vd_16_17 E, mn_ne _ _⟩)))))) (ac_node (ac_node (ac_node (ac_leaf 20 (⟨vd_16_20 E, mn_ald _ _⟩)) (ac_node (ac_leaf 21 (⟨vd_16_21 E, mn_get _ _ _⟩)) (ac_leaf 24 (⟨vd_16_24 E, mn_ild _ _⟩)))) (ac_node (ac_leaf 25 (⟨vd_16_25 E, mn_ia _⟩)) (ac_node (ac_leaf 26 (⟨vd_16_26 E, mn_ild _ _⟩)) (ac_leaf 27 (⟨vd_16_27 E, mn_ne _ _⟩))))) (ac_node (ac_node (ac_leaf 30 (⟨vd_16_30 E, mn_con _ _⟩)) (ac_node (ac_leaf 31 (ac_Vr2 dd_16_31 rfl)) (ac_leaf 32 (⟨vd_16_32 E, mn_inc _ _ _⟩)))) (ac_node (ac_leaf 35 (⟨vd_16_35 E, mn_go _⟩)) (ac_node (ac_leaf 38 (⟨vd_16_38 E, mn_con _ _⟩)) (ac_leaf 39 (ac_Vr2 dd_16_39 rfl)))))))
theorem vd_17_0 (E : ac_E) : ac_ok E md_17 0 (o_ald 0 1) := ok_aload_n (E := E) (d := md_17) (pc := 0) (j := 0) dd_17_0
theorem vd_17_1 (E : ac_E) : ac_ok E md_17 1 (o_get 3 0 4) := ok_getf (E := E) (d := md_17) (pc := 1) (ci := 3) (f := 0) (C := RX3) (T := TX3) (N := 3) (ref := RX3) rfl win_3 (by decide) rfl wm_150 dd_17_1
theorem vd_17_4 (E : ac_E) : ac_ok E md_17 4 (o_ald 0 5) := ok_aload_n (E := E) (d := md_17) (pc := 4) (j := 0) dd_17_4
theorem vd_17_5 (E : ac_E) : ac_ok E md_17 5 (o_get 3 2 8) := ok_getf (E := E) (d := md_17) (pc := 5) (ci := 3) (f := 2) (C := RX3) (T := TX3) (N := 3) (ref := RX3) rfl win_3 (by decide) rfl wm_154 dd_17_5
theorem vd_17_8 (E : ac_E) : ac_ok E md_17 8 (o_ild 1 9) := ok_iload_n (E := E) (d := md_17) (pc := 8) (j := 1) dd_17_8
theorem vd_17_9 (E : ac_E) : ac_ok E md_17 9 (o_is 10) := ok_iastore (E := E) (d := md_17) (pc := 9) dd_17_9
theorem vd_17_10 (E : ac_E) : ac_ok E md_17 10 (o_ald 0 11) := ok_aload_n (E := E) (d := md_17) (pc := 10) (j := 0) dd_17_10
theorem vd_17_11 (E : ac_E) : ac_ok E md_17 11 (o_get 3 1 14) := ok_getf (E := E) (d := md_17) (pc := 11) (ci := 3) (f := 1) (C := RX3) (T := TX3) (N := 3) (ref := RX3) rfl win_3 (by decide) rfl wm_152 dd_17_11
theorem vd_17_14 (E : ac_E) : ac_ok E md_17 14 (o_ald 0 15) := ok_aload_n (E := E) (d := md_17) (pc := 14) (j := 0) dd_17_14
theorem vd_17_15 (E : ac_E) : ac_ok E md_17 15 (o_get 3 2 18) := ok_getf (E := E) (d := md_17) (pc := 15) (ci := 3) (f := 2) (C := RX3) (T := TX3) (N := 3) (ref := RX3) rfl win_3 (by decide) rfl wm_154 dd_17_15
theorem vd_17_18 (E : ac_E) : ac_ok E md_17 18 (o_ild 2 19) := ok_iload_n (E := E) (d := md_17) (pc := 18) (j := 2) dd_17_18
theorem vd_17_19 (E : ac_E) : ac_ok E md_17 19 (o_is 20) := ok_iastore (E := E) (d := md_17) (pc := 19) dd_17_19
theorem vd_17_20 (E : ac_E) : ac_ok E md_17 20 (o_ald 0 21) := ok_aload_n (E := E) (d := md_17) (pc := 20) (j := 0) dd_17_20
theorem vd_17_21 (E : ac_E) : ac_ok E md_17 21 (o_dup 22) := ok_dup (E := E) (d := md_17) (pc := 21) dd_17_21
theorem vd_17_22 (E : ac_E) : ac_ok E md_17 22 (o_get 3 2 25) := ok_getf (E := E) (d := md_17) (pc := 22) (ci := 3) (f := 2) (C := RX3) (T := TX3) (N := 3) (ref := RX3) rfl win_3 (by decide) rfl wm_154 dd_17_22
theorem vd_17_25 (E : ac_E) : ac_ok E md_17 25 (o_dx1 26) := ok_dup_x1 (E := E) (d := md_17) (pc := 25) dd_17_25
theorem vd_17_26 (E : ac_E) : ac_ok E md_17 26 (o_con (.int 1) 27) := ok_iconst (E := E) (d := md_17) (pc := 26) dd_17_26 (by decide)
theorem vd_17_27 (E : ac_E) : ac_ok E md_17 27 (o_add 28) := ok_iadd (E := E) (d := md_17) (pc := 27) dd_17_27
theorem vd_17_28 (E : ac_E) : ac_ok E md_17 28 (o_put 3 2 31) := ok_putf (E := E) (d := md_17) (pc := 28) (ci := 3) (f := 2) (C := RX3) (T := TX3) (N := 3) (ref := RX3) rfl win_3 (by decide) rfl tyX3 tyX3_ok nmX3 (by decide +kernel) rfl wm_154 dd_17_28
theorem va_17 (E : ac_E) (pc : Nat) : ac_V E ac_MDf ac_HDf 17 pc (tb_17 (ac_len E) (ac_xs E) pc) := (ac_node (ac_node (ac_node (ac_node (ac_leaf 0 (⟨vd_17_0 E, mn_ald _ _⟩)) (ac_leaf 1 (⟨vd_17_1 E, mn_get _ _ _⟩))) (ac_node (ac_leaf 4 (⟨vd_17_4 E, mn_ald _ _⟩)) (ac_node (ac_leaf 5 (⟨vd_17_5 E, mn_get _ _ _⟩)) (ac_leaf 8 (⟨vd_17_8 E, mn_ild _ _⟩))))) (ac_node (ac_node (ac_leaf 9 (⟨vd_17_9 E, mn_is _⟩)) (ac_leaf 10 (⟨vd_17_10 E, mn_ald _ _⟩))) (ac_node (ac_leaf 11 (⟨vd_17_11 E, mn_get _ _ _⟩)) (ac_node (ac_leaf 14 (⟨vd_17_14 E, mn_ald _ _⟩)) (ac_leaf 15 (⟨vd_17_15 E, mn_get _ _ _⟩)))))) (ac_node (ac_node (ac_node (ac_leaf 18 (⟨vd_17_18 E, mn_ild _ _⟩)) (ac_leaf 19 (⟨vd_17_19 E, mn_is _⟩))) (ac_node (ac_leaf 20 (⟨vd_17_20 E, mn_ald _ _⟩)) (ac_node (ac_leaf 21 (⟨vd_17_21 E, mn_dup _⟩)) (ac_leaf 22 (⟨vd_17_22 E, mn_get _ _ _⟩))))) (ac_node (ac_node (ac_leaf 25 (⟨vd_17_25 E, mn_dx1 _⟩)) (ac_leaf 26 (⟨vd_17_26 E, mn_con _ _⟩))) (ac_node (ac_leaf 27 (⟨vd_17_27 E, mn_add _⟩)) (ac_node (ac_leaf 28 (⟨vd_17_28 E, mn_put _ _ _⟩)) (ac_leaf 31 (ac_Vr1 dd_17_31 rfl)))))))
theorem vd_18_0 (E : ac_E) : ac_ok E md_18 0 (o_con (.int 0) 1) := ok_iconst (E := E) (d := md_18) (pc := 0) dd_18_0 (by decide)
theorem vd_18_1 (E : ac_E) : ac_ok E md_18 1 (o_ist 2 2) := ok_istore_n (E := E) (d := md_18) (pc := 1) (j := 2) dd_18_1
theorem vd_18_2 (E : ac_E) : ac_ok E md_18 2 (o_ild 2 3) := ok_iload_n (E := E) (d := md_18) (pc := 2) (j := 2) dd_18_2
theorem vd_18_3 (E : ac_E) : ac_ok E md_18 3 (o_ald 0 4) := ok_aload_n (E := E) (d := md_18) (pc := 3) (j := 0) dd_18_3
theorem vd_18_4 (E : ac_E) : ac_ok E md_18 4 (o_get 3 2 7) := ok_getf (E := E) (d := md_18) (pc := 4) (ci := 3) (f := 2) (C := RX3) (T := TX3) (N := 3) (ref := RX3) rfl win_3 (by decide) rfl wm_154 dd_18_4
theorem vd_18_7 (E : ac_E) : ac_ok E md_18 7 (o_ge 33 10) := ok_icmpge (E := E) (d := md_18) (pc := 7) dd_18_7 (by decide)
theorem vd_18_10 (E : ac_E) : ac_ok E md_18 10 (o_ald 0 11) := ok_aload_n (E := E) (d := md_18) (pc := 10) (j := 0) dd_18_10
theorem vd_18_11 (E : ac_E) : ac_ok E md_18 11 (o_get 3 0 14) := ok_getf (E := E) (d := md_18) (pc := 11) (ci := 3) (f := 0) (C := RX3) (T := TX3) (N := 3) (ref := RX3) rfl win_3 (by decide) rfl wm_150 dd_18_11
theorem vd_18_14 (E : ac_E) : ac_ok E md_18 14 (o_ild 2 15) := ok_iload_n (E := E) (d := md_18) (pc := 14) (j := 2) dd_18_14
theorem vd_18_15 (E : ac_E) : ac_ok E md_18 15 (o_ia 16) := ok_iaload (E := E) (d := md_18) (pc := 15) dd_18_15
theorem vd_18_16 (E : ac_E) : ac_ok E md_18 16 (o_ild 1 17) := ok_iload_n (E := E) (d := md_18) (pc := 16) (j := 1) dd_18_16
theorem vd_18_17 (E : ac_E) : ac_ok E md_18 17 (o_ne 27 20) := ok_icmpne (E := E) (d := md_18) (pc := 17) dd_18_17 (by decide)
theorem vd_18_20 (E : ac_E) : ac_ok E md_18 20 (o_ald 0 21) := ok_aload_n (E := E) (d := md_18) (pc := 20) (j := 0) dd_18_20
theorem vd_18_21 (E : ac_E) : ac_ok E md_18 21 (o_get 3 0 24) := ok_getf (E := E) (d := md_18) (pc := 21) (ci := 3) (f := 0) (C := RX3) (T := TX3) (N := 3) (ref := RX3) rfl win_3 (by decide) rfl wm_150 dd_18_21
theorem vd_18_24 (E : ac_E) : ac_ok E md_18 24 (o_ild 2 25) := ok_iload_n (E := E) (d := md_18) (pc := 24) (j := 2) dd_18_24
theorem vd_18_25 (E : ac_E) : ac_ok E md_18 25 (o_con (.int (-1)) 26) := ok_iconst (E := E) (d := md_18) (pc := 25) dd_18_25 (by decide)
theorem vd_18_26 (E : ac_E) : ac_ok E md_18 26 (o_is 27) := ok_iastore (E := E) (d := md_18) (pc := 26) dd_18_26
theorem vd_18_27 (E : ac_E) : ac_ok E md_18 27 (o_inc 2 1 30) := ok_iinc (E := E) (d := md_18) (pc := 27) dd_18_27 (by decide)
theorem vd_18_30 (E : ac_E) : ac_ok E md_18 30 (o_go 2) := ok_goto (E := E) (d := md_18) (pc := 30) dd_18_30 (by decide)
theorem va_18 (E : ac_E) (pc : Nat) : ac_V E ac_MDf ac_HDf 18 pc (tb_18 (ac_len E) (ac_xs E) pc) := (ac_node (ac_node (ac_node (ac_node (ac_leaf 0 (⟨vd_18_0 E, mn_con _ _⟩)) (ac_leaf 1 (⟨vd_18_1 E, mn_ist _ _⟩))) (ac_node (ac_leaf 2 (⟨vd_18_2 E, mn_ild _ _⟩)) (ac_node (ac_leaf 3 (⟨vd_18_3 E, mn_ald _ _⟩)) (ac_leaf 4 (⟨vd_18_4 E, mn_get _ _ _⟩))))) (ac_node (ac_node (ac_leaf 7 (⟨vd_18_7 E, mn_ge _ _⟩)) (ac_leaf 10 (⟨vd_18_10 E, mn_ald _ _⟩))) (ac_node (ac_leaf 11 (⟨vd_18_11 E, mn_get _ _ _⟩)) (ac_node (ac_leaf 14 (⟨vd_18_14 E, mn_ild _ _⟩)) (ac_leaf 15 (⟨vd_18_15 E, mn_ia _⟩)))))) (ac_node (ac_node (ac_node (ac_leaf 16 (⟨vd_18_16 E, mn_ild _ _⟩)) (ac_leaf 17 (⟨vd_18_17 E, mn_ne _ _⟩))) (ac_node (ac_leaf 20 (⟨vd_18_20 E, mn_ald _ _⟩)) (ac_node (ac_leaf 21 (⟨vd_18_21 E, mn_get _ _ _⟩)) (ac_leaf 24 (⟨vd_18_24 E, mn_ild _ _⟩))))) (ac_node (ac_node (ac_leaf 25 (⟨vd_18_25 E, mn_con _ _⟩)) (ac_leaf 26 (⟨vd_18_26 E, mn_is _⟩))) (ac_node (ac_leaf 27 (⟨vd_18_27 E, mn_inc _ _ _⟩)) (ac_node (ac_leaf 30 (⟨vd_18_30 E, mn_go _⟩)) (ac_leaf 33 (ac_Vr0 dd_18_33 rfl)))))))
theorem vd_19_0 (E : ac_E) : ac_ok E md_19 0 (o_ild 2 1) := ok_iload_n (E := E) (d := md_19) (pc := 0) (j := 2) dd_19_0
theorem vd_19_1 (E : ac_E) : ac_ok E md_19 1 (o_ild 3 2) := ok_iload_n (E := E) (d := md_19) (pc := 1) (j := 3) dd_19_1
theorem vd_19_2 (E : ac_E) : ac_ok E md_19 2 (o_ne 6 5) := ok_icmpne (E := E) (d := md_19) (pc := 2) dd_19_2 (by decide)
theorem vd_19_6 (E : ac_E) : ac_ok E md_19 6 (o_ild 2 7) := ok_iload_n (E := E) (d := md_19) (pc := 6) (j := 2) dd_19_6
theorem vd_19_7 (E : ac_E) : ac_ok E md_19 7 (o_con (.int 1) 8) := ok_iconst (E := E) (d := md_19) (pc := 7) dd_19_7 (by decide)
theorem vd_19_8 (E : ac_E) : ac_ok E md_19 8 (o_ald 0 9) := ok_aload_n (E := E) (d := md_19) (pc := 8) (j := 0) dd_19_8
theorem vd_19_9 (E : ac_E) : ac_ok E md_19 9 (o_get 3 1 12) := ok_getf (E := E) (d := md_19) (pc := 9) (ci := 3) (f := 1) (C := RX3) (T := TX3) (N := 3) (ref := RX3) rfl win_3 (by decide) rfl wm_152 dd_19_9
theorem vd_19_12 (E : ac_E) : ac_ok E md_19 12 (o_ild 1 13) := ok_iload_n (E := E) (d := md_19) (pc := 12) (j := 1) dd_19_12
theorem vd_19_13 (E : ac_E) : ac_ok E md_19 13 (o_ia 14) := ok_iaload (E := E) (d := md_19) (pc := 13) dd_19_13
theorem vd_19_14 (E : ac_E) : ac_ok E md_19 14 (o_shl 15) := ok_ishl (E := E) (d := md_19) (pc := 14) dd_19_14
theorem vd_19_15 (E : ac_E) : ac_ok E md_19 15 (o_con (.int 1) 16) := ok_iconst (E := E) (d := md_19) (pc := 15) dd_19_15 (by decide)
theorem vd_19_16 (E : ac_E) : ac_ok E md_19 16 (o_sub 17) := ok_isub (E := E) (d := md_19) (pc := 16) dd_19_16
theorem vd_19_17 (E : ac_E) : ac_ok E md_19 17 (o_and 18) := ok_iand (E := E) (d := md_19) (pc := 17) dd_19_17
theorem vd_19_18 (E : ac_E) : ac_okr E md_19 md_0 18 1 21 0 ∧ ac_okt E md_19 md_0 18 1 0 := ok_callS (E := E) (d := md_19) (dz := md_0) (pc := 18) rfl (by decide) (by decide +kernel) wm_350 wm_62 wm_447 wm_349 dd_19_18
theorem vd_19_21 (E : ac_E) : ac_ok E md_19 21 (o_ist 4 23) := ok_istore (E := E) (d := md_19) (pc := 21) dd_19_21
theorem vd_19_23 (E : ac_E) : ac_ok E md_19 23 (o_con (.int 0) 24) := ok_iconst (E := E) (d := md_19) (pc := 23) dd_19_23 (by decide)
theorem vd_19_24 (E : ac_E) : ac_ok E md_19 24 (o_ist 5 26) := ok_istore (E := E) (d := md_19) (pc := 24) dd_19_24
theorem vd_19_26 (E : ac_E) : ac_ok E md_19 26 (o_ild 5 28) := ok_iload (E := E) (d := md_19) (pc := 26) dd_19_26
theorem vd_19_28 (E : ac_E) : ac_ok E md_19 28 (o_con (.int 7) 30) := ok_bipush (E := E) (d := md_19) (pc := 28) dd_19_28 (by decide)
theorem vd_19_30 (E : ac_E) : ac_ok E md_19 30 (o_ge 73 33) := ok_icmpge (E := E) (d := md_19) (pc := 30) dd_19_30 (by decide)
theorem vd_19_33 (E : ac_E) : ac_ok E md_19 33 (o_ild 3 34) := ok_iload_n (E := E) (d := md_19) (pc := 33) (j := 3) dd_19_33
theorem vd_19_34 (E : ac_E) : ac_ok E md_19 34 (o_ild 5 36) := ok_iload (E := E) (d := md_19) (pc := 34) dd_19_34
theorem vd_19_36 (E : ac_E) : ac_okr E md_19 md_47 36 2 39 0 := ok_callSN (E := E) (d := md_19) (dz := md_47) (pc := 36) rfl (by decide) (by decide +kernel) wm_450 wm_50 wm_448 wm_449 dd_19_36
theorem vd_19_39 (E : ac_E) : ac_ok E md_19 39 (o_eq0 67 42) := ok_ifeq (E := E) (d := md_19) (pc := 39) dd_19_39 (by decide)
theorem vd_19_42 (E : ac_E) : ac_ok E md_19 42 (o_ild 3 43) := ok_iload_n (E := E) (d := md_19) (pc := 42) (j := 3) dd_19_42
theorem vd_19_43 (E : ac_E) : ac_ok E md_19 43 (o_con (.int 1) 44) := ok_iconst (E := E) (d := md_19) (pc := 43) dd_19_43 (by decide)
theorem vd_19_44 (E : ac_E) : ac_ok E md_19 44 (o_ild 5 46) := ok_iload (E := E) (d := md_19) (pc := 44) dd_19_44
theorem vd_19_46 (E : ac_E) : ac_ok E md_19 46 (o_shl 47) := ok_ishl (E := E) (d := md_19) (pc := 46) dd_19_46
theorem vd_19_47 (E : ac_E) : ac_ok E md_19 47 (o_con (.int 1) 48) := ok_iconst (E := E) (d := md_19) (pc := 47) dd_19_47 (by decide)
theorem vd_19_48 (E : ac_E) : ac_ok E md_19 48 (o_sub 49) := ok_isub (E := E) (d := md_19) (pc := 48) dd_19_48
theorem vd_19_49 (E : ac_E) : ac_ok E md_19 49 (o_and 50) := ok_iand (E := E) (d := md_19) (pc := 49) dd_19_49
theorem vd_19_50 (E : ac_E) : ac_okr E md_19 md_0 50 1 53 0 ∧ ac_okt E md_19 md_0 50 1 0 := ok_callS (E := E) (d := md_19) (dz := md_0) (pc := 50) rfl (by decide) (by decide +kernel) wm_350 wm_62 wm_447 wm_349 dd_19_50
theorem vd_19_53 (E : ac_E) : ac_ok E md_19 53 (o_ild 4 55) := ok_iload (E := E) (d := md_19) (pc := 53) dd_19_53
theorem vd_19_55 (E : ac_E) : ac_ok E md_19 55 (o_ne 67 58) := ok_icmpne (E := E) (d := md_19) (pc := 55) dd_19_55 (by decide)
theorem vd_19_58 (E : ac_E) : ac_ok E md_19 58 (o_ald 0 59) := ok_aload_n (E := E) (d := md_19) (pc := 58) (j := 0) dd_19_58
theorem vd_19_59 (E : ac_E) : ac_ok E md_19 59 (o_get 3 1 62) := ok_getf (E := E) (d := md_19) (pc := 59) (ci := 3) (f := 1) (C := RX3) (T := TX3) (N := 3) (ref := RX3) rfl win_3 (by decide) rfl wm_152 dd_19_59
theorem vd_19_62 (E : ac_E) : ac_ok E md_19 62 (o_ild 1 63) := ok_iload_n (E := E) (d := md_19) (pc := 62) (j := 1) dd_19_62
theorem vd_19_63 (E : ac_E) : ac_ok E md_19 63 (o_ild 5 65) := ok_iload (E := E) (d := md_19) (pc := 63) dd_19_63
theorem vd_19_65 (E : ac_E) : ac_ok E md_19 65 (o_is 66) := ok_iastore (E := E) (d := md_19) (pc := 65) dd_19_65
theorem vd_19_67 (E : ac_E) : ac_ok E md_19 67 (o_inc 5 1 70) := ok_iinc (E := E) (d := md_19) (pc := 67) dd_19_67 (by decide)
theorem vd_19_70 (E : ac_E) : ac_ok E md_19 70 (o_go 26) := ok_goto (E := E) (d := md_19) (pc := 70) dd_19_70 (by decide)
theorem va_19 (E : ac_E) (pc : Nat) : ac_V E ac_MDf ac_HDf 19 pc (tb_19 (ac_len E) (ac_xs E) pc) := (ac_node (ac_node (ac_node (ac_node (ac_node (ac_leaf 0 (⟨vd_19_0 E, mn_ild _ _⟩)) (ac_leaf 1 (⟨vd_19_1 E, mn_ild _ _⟩))) (ac_node (ac_leaf 2 (⟨vd_19_2 E, mn_ne _ _⟩)) (ac_node (ac_leaf 5 (ac_Vr0 dd_19_5 rfl)) (ac_leaf 6 (⟨vd_19_6 E, mn_ild _ _⟩))))) (ac_node (ac_node (ac_leaf 7 (⟨vd_19_7 E, mn_con _ _⟩)) (ac_node (ac_leaf 8 (⟨vd_19_8 E, mn_ald _ _⟩)) (ac_leaf 9 (⟨vd_19_9 E, mn_get _ _ _⟩)))) (ac_node (ac_leaf 12 (⟨vd_19_12 E, mn_ild _ _⟩)) (ac_node (ac_leaf 13 (⟨vd_19_13 E, mn_ia _⟩)) (ac_leaf 14 (⟨vd_19_14 E, mn_shl _⟩)))))) (ac_node (ac_node (ac_node (ac_leaf 15 (⟨vd_19_15 E, mn_con _ _⟩)) (ac_leaf 16 (⟨vd_19_16 E, mn_sub _⟩))) (ac_node (ac_leaf 17 (⟨vd_19_17 E, mn_and _⟩)) (ac_node (ac_leaf 18 (ac_Vc0 ((vd_19_18 E).1) (fun _ => rfl))) (ac_leaf 21 (⟨vd_19_21 E, mn_ist _ _⟩))))) (ac_node (ac_node (ac_leaf 23 (⟨vd_19_23 E, mn_con _ _⟩)) (ac_node (ac_leaf 24 (⟨vd_19_24 E, mn_ist _ _⟩)) (ac_leaf 26 (⟨vd_19_26 E, mn_ild _ _⟩)))) (ac_node (ac_leaf 28 (⟨vd_19_28 E, mn_con _ _⟩)) (ac_node (ac_leaf 30 (⟨vd_19_30 E, mn_ge _ _⟩)) (ac_leaf 33 (⟨vd_19_33 E, mn_ild _ _⟩))))))) (ac_node (ac_node (ac_node (ac_node (ac_leaf 34 (⟨vd_19_34 E, mn_ild _ _⟩)) (ac_leaf 36 (ac_Vc0 (vd_19_36 E) (fun _ => rfl)))) (ac_node (ac_leaf 39 (⟨vd_19_39 E, mn_eq0 _ _⟩)) (ac_node (ac_leaf 42 (⟨vd_19_42 E, mn_ild _ _⟩)) (ac_leaf 43 (⟨vd_19_43 E, mn_con _ _⟩))))) (ac_node (ac_node (ac_leaf 44 (⟨vd_19_44 E, mn_ild _ _⟩)) (ac_node (ac_leaf 46 (⟨vd_19_46 E, mn_shl _⟩)) (ac_leaf 47 (⟨vd_19_47 E, mn_con _ _⟩)))) (ac_node (ac_leaf 48 (⟨vd_19_48 E, mn_sub _⟩)) (ac_node (ac_leaf 49 (⟨vd_19_49 E, mn_and _⟩)) (ac_leaf 50 (ac_Vc0 ((vd_19_50 E).1) (fun _ => rfl))))))) (ac_node (ac_node (ac_node (ac_leaf 53 (⟨vd_19_53 E, mn_ild _ _⟩)) (ac_leaf 55 (⟨vd_19_55 E, mn_ne _ _⟩))) (ac_node (ac_leaf 58 (⟨vd_19_58 E, mn_ald _ _⟩)) (ac_node (ac_leaf 59 (⟨vd_19_59 E, mn_get _ _ _⟩)) (ac_leaf 62 (⟨vd_19_62 E, mn_ild _ _⟩))))) (ac_node (ac_node (ac_leaf 63 (⟨vd_19_63 E, mn_ild _ _⟩)) (ac_node (ac_leaf 65 (⟨vd_19_65 E, mn_is _⟩)) (ac_leaf 66 (ac_Vr0 dd_19_66 rfl)))) (ac_node (ac_leaf 67 (⟨vd_19_67 E, mn_inc _ _ _⟩)) (ac_node (ac_leaf 70 (⟨vd_19_70 E, mn_go _⟩)) (ac_leaf 73 (ac_Vr0 dd_19_73 rfl))))))))
theorem vd_20_0 (E : ac_E) : ac_ok E md_20 0 (o_con (.int 0) 1) := ok_iconst (E := E) (d := md_20) (pc := 0) dd_20_0 (by decide)
theorem vd_20_1 (E : ac_E) : ac_ok E md_20 1 (o_ist 3 2) := ok_istore_n (E := E) (d := md_20) (pc := 1) (j := 3) dd_20_1
theorem vd_20_2 (E : ac_E) : ac_ok E md_20 2 (o_ild 3 3) := ok_iload_n (E := E) (d := md_20) (pc := 2) (j := 3) dd_20_2
theorem vd_20_3 (E : ac_E) : ac_ok E md_20 3 (o_ald 0 4) := ok_aload_n (E := E) (d := md_20) (pc := 3) (j := 0) dd_20_3
theorem vd_20_4 (E : ac_E) : ac_ok E md_20 4 (o_get 3 2 7) := ok_getf (E := E) (d := md_20) (pc := 4) (ci := 3) (f := 2) (C := RX3) (T := TX3) (N := 3) (ref := RX3) rfl win_3 (by decide) rfl wm_154 dd_20_4
theorem vd_20_7 (E : ac_E) : ac_ok E md_20 7 (o_ge 61 10) := ok_icmpge (E := E) (d := md_20) (pc := 7) dd_20_7 (by decide)
theorem vd_20_10 (E : ac_E) : ac_ok E md_20 10 (o_ald 0 11) := ok_aload_n (E := E) (d := md_20) (pc := 10) (j := 0) dd_20_10
theorem vd_20_11 (E : ac_E) : ac_ok E md_20 11 (o_get 3 0 14) := ok_getf (E := E) (d := md_20) (pc := 11) (ci := 3) (f := 0) (C := RX3) (T := TX3) (N := 3) (ref := RX3) rfl win_3 (by decide) rfl wm_150 dd_20_11
theorem vd_20_14 (E : ac_E) : ac_ok E md_20 14 (o_ild 3 15) := ok_iload_n (E := E) (d := md_20) (pc := 14) (j := 3) dd_20_14
theorem vd_20_15 (E : ac_E) : ac_ok E md_20 15 (o_ia 16) := ok_iaload (E := E) (d := md_20) (pc := 15) dd_20_15
theorem vd_20_16 (E : ac_E) : ac_ok E md_20 16 (o_con (.int (-1)) 17) := ok_iconst (E := E) (d := md_20) (pc := 16) dd_20_16 (by decide)
theorem vd_20_17 (E : ac_E) : ac_ok E md_20 17 (o_eq 55 20) := ok_icmpeq (E := E) (d := md_20) (pc := 17) dd_20_17 (by decide)
theorem vd_20_20 (E : ac_E) : ac_ok E md_20 20 (o_ald 0 21) := ok_aload_n (E := E) (d := md_20) (pc := 20) (j := 0) dd_20_20
theorem vd_20_21 (E : ac_E) : ac_ok E md_20 21 (o_get 3 1 24) := ok_getf (E := E) (d := md_20) (pc := 21) (ci := 3) (f := 1) (C := RX3) (T := TX3) (N := 3) (ref := RX3) rfl win_3 (by decide) rfl wm_152 dd_20_21
theorem vd_20_24 (E : ac_E) : ac_ok E md_20 24 (o_ild 3 25) := ok_iload_n (E := E) (d := md_20) (pc := 24) (j := 3) dd_20_24
theorem vd_20_25 (E : ac_E) : ac_ok E md_20 25 (o_ia 26) := ok_iaload (E := E) (d := md_20) (pc := 25) dd_20_25
theorem vd_20_26 (E : ac_E) : ac_ok E md_20 26 (o_con (.int 6) 28) := ok_bipush (E := E) (d := md_20) (pc := 26) dd_20_26 (by decide)
theorem vd_20_28 (E : ac_E) : ac_ok E md_20 28 (o_ge 55 31) := ok_icmpge (E := E) (d := md_20) (pc := 28) dd_20_28 (by decide)
theorem vd_20_31 (E : ac_E) : ac_ok E md_20 31 (o_ald 0 32) := ok_aload_n (E := E) (d := md_20) (pc := 31) (j := 0) dd_20_31
theorem vd_20_32 (E : ac_E) : ac_ok E md_20 32 (o_get 3 0 35) := ok_getf (E := E) (d := md_20) (pc := 32) (ci := 3) (f := 0) (C := RX3) (T := TX3) (N := 3) (ref := RX3) rfl win_3 (by decide) rfl wm_150 dd_20_32
theorem vd_20_35 (E : ac_E) : ac_ok E md_20 35 (o_ild 3 36) := ok_iload_n (E := E) (d := md_20) (pc := 35) (j := 3) dd_20_35
theorem vd_20_36 (E : ac_E) : ac_ok E md_20 36 (o_ald 1 37) := ok_aload_n (E := E) (d := md_20) (pc := 36) (j := 1) dd_20_36
theorem vd_20_37 (E : ac_E) : ac_ok E md_20 37 (o_ald 0 38) := ok_aload_n (E := E) (d := md_20) (pc := 37) (j := 0) dd_20_37
theorem vd_20_38 (E : ac_E) : ac_ok E md_20 38 (o_get 3 0 41) := ok_getf (E := E) (d := md_20) (pc := 38) (ci := 3) (f := 0) (C := RX3) (T := TX3) (N := 3) (ref := RX3) rfl win_3 (by decide) rfl wm_150 dd_20_38
theorem vd_20_41 (E : ac_E) : ac_ok E md_20 41 (o_ild 3 42) := ok_iload_n (E := E) (d := md_20) (pc := 41) (j := 3) dd_20_41
theorem vd_20_42 (E : ac_E) : ac_ok E md_20 42 (o_ia 43) := ok_iaload (E := E) (d := md_20) (pc := 42) dd_20_42
theorem vd_20_43 (E : ac_E) : ac_ok E md_20 43 (o_ald 0 44) := ok_aload_n (E := E) (d := md_20) (pc := 43) (j := 0) dd_20_43
theorem vd_20_44 (E : ac_E) : ac_ok E md_20 44 (o_get 3 1 47) := ok_getf (E := E) (d := md_20) (pc := 44) (ci := 3) (f := 1) (C := RX3) (T := TX3) (N := 3) (ref := RX3) rfl win_3 (by decide) rfl wm_152 dd_20_44
theorem vd_20_47 (E : ac_E) : ac_ok E md_20 47 (o_ild 3 48) := ok_iload_n (E := E) (d := md_20) (pc := 47) (j := 3) dd_20_47
theorem vd_20_48 (E : ac_E) : ac_ok E md_20 48 (o_ia 49) := ok_iaload (E := E) (d := md_20) (pc := 48) dd_20_48
theorem vd_20_49 (E : ac_E) : ac_ok E md_20 49 (o_ild 2 50) := ok_iload_n (E := E) (d := md_20) (pc := 49) (j := 2) dd_20_49
theorem vd_20_50 (E : ac_E) : ac_ok E md_20 50 (o_add 51) := ok_iadd (E := E) (d := md_20) (pc := 50) dd_20_50
theorem vd_20_51 (E : ac_E) : ac_okr E md_20 md_14 51 3 54 4 := ok_callVN (E := E) (d := md_20) (dz := md_14) (pc := 51) (T := TX2) (N := 4) rfl rfl (by decide) (by decide +kernel) wm_466 wm_51 wm_471 wm_465 wm_12 dd_20_51
theorem vd_20_54 (E : ac_E) : ac_ok E md_20 54 (o_is 55) := ok_iastore (E := E) (d := md_20) (pc := 54) dd_20_54
theorem vd_20_55 (E : ac_E) : ac_ok E md_20 55 (o_inc 3 1 58) := ok_iinc (E := E) (d := md_20) (pc := 55) dd_20_55 (by decide)
theorem vd_20_58 (E : ac_E) : ac_ok E md_20 58 (o_go 2) := ok_goto (E := E) (d := md_20) (pc := 58) dd_20_58 (by decide)
theorem va_20 (E : ac_E) (pc : Nat) : ac_V E ac_MDf ac_HDf 20 pc (tb_20 (ac_len E) (ac_xs E) pc) := (ac_node (ac_node (ac_node (ac_node (ac_node (ac_leaf 0 (⟨vd_20_0 E, mn_con _ _⟩)) (ac_leaf 1 (⟨vd_20_1 E, mn_ist _ _⟩))) (ac_node (ac_leaf 2 (⟨vd_20_2 E, mn_ild _ _⟩)) (ac_leaf 3 (⟨vd_20_3 E, mn_ald _ _⟩)))) (ac_node (ac_node (ac_leaf 4 (⟨vd_20_4 E, mn_get _ _ _⟩)) (ac_leaf 7 (⟨vd_20_7 E, mn_ge _ _⟩))) (ac_node (ac_leaf 10 (⟨vd_20_10 E, mn_ald _ _⟩)) (ac_node (ac_leaf 11 (⟨vd_20_11 E, mn_get _ _ _⟩)) (ac_leaf 14 (⟨vd_20_14 E, mn_ild _ _⟩)))))) (ac_node (ac_node (ac_node (ac_leaf 15 (⟨vd_20_15 E, mn_ia _⟩)) (ac_leaf 16 (⟨vd_20_16 E, mn_con _ _⟩))) (ac_node (ac_leaf 17 (⟨vd_20_17 E, mn_eq _ _⟩)) (ac_leaf 20 (⟨vd_20_20 E, mn_ald _ _⟩)))) (ac_node (ac_node (ac_leaf 21 (⟨vd_20_21 E, mn_get _ _ _⟩)) (ac_leaf 24 (⟨vd_20_24 E, mn_ild _ _⟩))) (ac_node (ac_leaf 25 (⟨vd_20_25 E, mn_ia _⟩)) (ac_node (ac_leaf 26 (⟨vd_20_26 E, mn_con _ _⟩)) (ac_leaf 28 (⟨vd_20_28 E, mn_ge _ _⟩))))))) (ac_node (ac_node (ac_node (ac_node (ac_leaf 31 (⟨vd_20_31 E, mn_ald _ _⟩)) (ac_leaf 32 (⟨vd_20_32 E, mn_get _ _ _⟩))) (ac_node (ac_leaf 35 (⟨vd_20_35 E, mn_ild _ _⟩)) (ac_leaf 36 (⟨vd_20_36 E, mn_ald _ _⟩)))) (ac_node (ac_node (ac_leaf 37 (⟨vd_20_37 E, mn_ald _ _⟩)) (ac_leaf 38 (⟨vd_20_38 E, mn_get _ _ _⟩))) (ac_node (ac_leaf 41 (⟨vd_20_41 E, mn_ild _ _⟩)) (ac_node (ac_leaf 42 (⟨vd_20_42 E, mn_ia _⟩)) (ac_leaf 43 (⟨vd_20_43 E, mn_ald _ _⟩)))))) (ac_node (ac_node (ac_node (ac_leaf 44 (⟨vd_20_44 E, mn_get _ _ _⟩)) (ac_leaf 47 (⟨vd_20_47 E, mn_ild _ _⟩))) (ac_node (ac_leaf 48 (⟨vd_20_48 E, mn_ia _⟩)) (ac_node (ac_leaf 49 (⟨vd_20_49 E, mn_ild _ _⟩)) (ac_leaf 50 (⟨vd_20_50 E, mn_add _⟩))))) (ac_node (ac_node (ac_leaf 51 (ac_Vc0 (vd_20_51 E) (fun _ => rfl))) (ac_leaf 54 (⟨vd_20_54 E, mn_is _⟩))) (ac_node (ac_leaf 55 (⟨vd_20_55 E, mn_inc _ _ _⟩)) (ac_node (ac_leaf 58 (⟨vd_20_58 E, mn_go _⟩)) (ac_leaf 61 (ac_Vr0 dd_20_61 rfl))))))))
theorem vd_21_0 (E : ac_E) : ac_ok E md_21 0 (o_con (.int 0) 1) := ok_iconst (E := E) (d := md_21) (pc := 0) dd_21_0 (by decide)
theorem vd_21_1 (E : ac_E) : ac_ok E md_21 1 (o_ist 2 2) := ok_istore_n (E := E) (d := md_21) (pc := 1) (j := 2) dd_21_1
theorem vd_21_2 (E : ac_E) : ac_ok E md_21 2 (o_ild 2 3) := ok_iload_n (E := E) (d := md_21) (pc := 2) (j := 2) dd_21_2
theorem vd_21_3 (E : ac_E) : ac_ok E md_21 3 (o_ald 0 4) := ok_aload_n (E := E) (d := md_21) (pc := 3) (j := 0) dd_21_3
theorem vd_21_4 (E : ac_E) : ac_ok E md_21 4 (o_get 3 2 7) := ok_getf (E := E) (d := md_21) (pc := 4) (ci := 3) (f := 2) (C := RX3) (T := TX3) (N := 3) (ref := RX3) rfl win_3 (by decide) rfl wm_154 dd_21_4
theorem vd_21_7 (E : ac_E) : ac_ok E md_21 7 (o_ge 92 10) := ok_icmpge (E := E) (d := md_21) (pc := 7) dd_21_7 (by decide)
theorem vd_21_10 (E : ac_E) : ac_ok E md_21 10 (o_ald 0 11) := ok_aload_n (E := E) (d := md_21) (pc := 10) (j := 0) dd_21_10
theorem vd_21_11 (E : ac_E) : ac_ok E md_21 11 (o_get 3 0 14) := ok_getf (E := E) (d := md_21) (pc := 11) (ci := 3) (f := 0) (C := RX3) (T := TX3) (N := 3) (ref := RX3) rfl win_3 (by decide) rfl wm_150 dd_21_11
theorem vd_21_14 (E : ac_E) : ac_ok E md_21 14 (o_ild 2 15) := ok_iload_n (E := E) (d := md_21) (pc := 14) (j := 2) dd_21_14
theorem vd_21_15 (E : ac_E) : ac_ok E md_21 15 (o_ia 16) := ok_iaload (E := E) (d := md_21) (pc := 15) dd_21_15
theorem vd_21_16 (E : ac_E) : ac_ok E md_21 16 (o_con (.int (-1)) 17) := ok_iconst (E := E) (d := md_21) (pc := 16) dd_21_16 (by decide)
theorem vd_21_17 (E : ac_E) : ac_ok E md_21 17 (o_ne 24 20) := ok_icmpne (E := E) (d := md_21) (pc := 17) dd_21_17 (by decide)
theorem vd_21_20 (E : ac_E) : ac_ok E md_21 20 (o_con (.int 0) 21) := ok_iconst (E := E) (d := md_21) (pc := 20) dd_21_20 (by decide)
theorem vd_21_21 (E : ac_E) : ac_ok E md_21 21 (o_go 32) := ok_goto (E := E) (d := md_21) (pc := 21) dd_21_21 (by decide)
theorem vd_21_24 (E : ac_E) : ac_ok E md_21 24 (o_ald 1 25) := ok_aload_n (E := E) (d := md_21) (pc := 24) (j := 1) dd_21_24
theorem vd_21_25 (E : ac_E) : ac_ok E md_21 25 (o_ald 0 26) := ok_aload_n (E := E) (d := md_21) (pc := 25) (j := 0) dd_21_25
theorem vd_21_26 (E : ac_E) : ac_ok E md_21 26 (o_get 3 0 29) := ok_getf (E := E) (d := md_21) (pc := 26) (ci := 3) (f := 0) (C := RX3) (T := TX3) (N := 3) (ref := RX3) rfl win_3 (by decide) rfl wm_150 dd_21_26
theorem vd_21_29 (E : ac_E) : ac_ok E md_21 29 (o_ild 2 30) := ok_iload_n (E := E) (d := md_21) (pc := 29) (j := 2) dd_21_29
theorem vd_21_30 (E : ac_E) : ac_ok E md_21 30 (o_ia 31) := ok_iaload (E := E) (d := md_21) (pc := 30) dd_21_30
theorem vd_21_31 (E : ac_E) : ac_ok E md_21 31 (o_ia 32) := ok_iaload (E := E) (d := md_21) (pc := 31) dd_21_31
theorem vd_21_32 (E : ac_E) : ac_ok E md_21 32 (o_ist 3 33) := ok_istore_n (E := E) (d := md_21) (pc := 32) (j := 3) dd_21_32
theorem vd_21_33 (E : ac_E) : ac_ok E md_21 33 (o_ild 3 34) := ok_iload_n (E := E) (d := md_21) (pc := 33) (j := 3) dd_21_33
theorem vd_21_34 (E : ac_E) : ac_ok E md_21 34 (o_con (.int 3) 35) := ok_iconst (E := E) (d := md_21) (pc := 34) dd_21_34 (by decide)
theorem vd_21_35 (E : ac_E) : ac_ok E md_21 35 (o_ne 48 38) := ok_icmpne (E := E) (d := md_21) (pc := 35) dd_21_35 (by decide)
theorem vd_21_38 (E : ac_E) : ac_ok E md_21 38 (o_ald 0 39) := ok_aload_n (E := E) (d := md_21) (pc := 38) (j := 0) dd_21_38
theorem vd_21_39 (E : ac_E) : ac_ok E md_21 39 (o_get 3 0 42) := ok_getf (E := E) (d := md_21) (pc := 39) (ci := 3) (f := 0) (C := RX3) (T := TX3) (N := 3) (ref := RX3) rfl win_3 (by decide) rfl wm_150 dd_21_39
theorem vd_21_42 (E : ac_E) : ac_ok E md_21 42 (o_ild 2 43) := ok_iload_n (E := E) (d := md_21) (pc := 42) (j := 2) dd_21_42
theorem vd_21_43 (E : ac_E) : ac_ok E md_21 43 (o_con (.int (-1)) 44) := ok_iconst (E := E) (d := md_21) (pc := 43) dd_21_43 (by decide)
theorem vd_21_44 (E : ac_E) : ac_ok E md_21 44 (o_is 45) := ok_iastore (E := E) (d := md_21) (pc := 44) dd_21_44
theorem vd_21_45 (E : ac_E) : ac_ok E md_21 45 (o_go 86) := ok_goto (E := E) (d := md_21) (pc := 45) dd_21_45 (by decide)
theorem vd_21_48 (E : ac_E) : ac_ok E md_21 48 (o_ild 3 49) := ok_iload_n (E := E) (d := md_21) (pc := 48) (j := 3) dd_21_48
theorem vd_21_49 (E : ac_E) : ac_ok E md_21 49 (o_con (.int 1) 50) := ok_iconst (E := E) (d := md_21) (pc := 49) dd_21_49 (by decide)
theorem vd_21_50 (E : ac_E) : ac_ok E md_21 50 (o_eq 58 53) := ok_icmpeq (E := E) (d := md_21) (pc := 50) dd_21_50 (by decide)
theorem vd_21_53 (E : ac_E) : ac_ok E md_21 53 (o_ild 3 54) := ok_iload_n (E := E) (d := md_21) (pc := 53) (j := 3) dd_21_53
theorem vd_21_54 (E : ac_E) : ac_ok E md_21 54 (o_con (.int 4) 55) := ok_iconst (E := E) (d := md_21) (pc := 54) dd_21_54 (by decide)
theorem vd_21_55 (E : ac_E) : ac_ok E md_21 55 (o_ne 86 58) := ok_icmpne (E := E) (d := md_21) (pc := 55) dd_21_55 (by decide)
theorem vd_21_58 (E : ac_E) : ac_ok E md_21 58 (o_ald 0 59) := ok_aload_n (E := E) (d := md_21) (pc := 58) (j := 0) dd_21_58
theorem vd_21_59 (E : ac_E) : ac_ok E md_21 59 (o_get 3 1 62) := ok_getf (E := E) (d := md_21) (pc := 59) (ci := 3) (f := 1) (C := RX3) (T := TX3) (N := 3) (ref := RX3) rfl win_3 (by decide) rfl wm_152 dd_21_59
theorem vd_21_62 (E : ac_E) : ac_ok E md_21 62 (o_ild 2 63) := ok_iload_n (E := E) (d := md_21) (pc := 62) (j := 2) dd_21_62
theorem vd_21_63 (E : ac_E) : ac_ok E md_21 63 (o_ia 64) := ok_iaload (E := E) (d := md_21) (pc := 63) dd_21_63
theorem vd_21_64 (E : ac_E) : ac_ok E md_21 64 (o_con (.int 6) 66) := ok_bipush (E := E) (d := md_21) (pc := 64) dd_21_64 (by decide)
theorem vd_21_66 (E : ac_E) : ac_ok E md_21 66 (o_ge 86 69) := ok_icmpge (E := E) (d := md_21) (pc := 66) dd_21_66 (by decide)
theorem vd_21_69 (E : ac_E) : ac_ok E md_21 69 (o_ald 0 70) := ok_aload_n (E := E) (d := md_21) (pc := 69) (j := 0) dd_21_69
theorem vd_21_70 (E : ac_E) : ac_ok E md_21 70 (o_get 3 1 73) := ok_getf (E := E) (d := md_21) (pc := 70) (ci := 3) (f := 1) (C := RX3) (T := TX3) (N := 3) (ref := RX3) rfl win_3 (by decide) rfl wm_152 dd_21_70
theorem vd_21_73 (E : ac_E) : ac_ok E md_21 73 (o_ild 2 74) := ok_iload_n (E := E) (d := md_21) (pc := 73) (j := 2) dd_21_73
theorem vd_21_74 (E : ac_E) : ac_ok E md_21 74 (o_ald 0 75) := ok_aload_n (E := E) (d := md_21) (pc := 74) (j := 0) dd_21_74
theorem vd_21_75 (E : ac_E) : ac_ok E md_21 75 (o_get 3 1 78) := ok_getf (E := E) (d := md_21) (pc := 75) (ci := 3) (f := 1) (C := RX3) (T := TX3) (N := 3) (ref := RX3) rfl win_3 (by decide) rfl wm_152 dd_21_75
theorem vd_21_78 (E : ac_E) : ac_ok E md_21 78 (o_ild 2 79) := ok_iload_n (E := E) (d := md_21) (pc := 78) (j := 2) dd_21_78
theorem vd_21_79 (E : ac_E) : ac_ok E md_21 79 (o_ia 80) := ok_iaload (E := E) (d := md_21) (pc := 79) dd_21_79
theorem vd_21_80 (E : ac_E) : ac_ok E md_21 80 (o_con (.int 3) 81) := ok_iconst (E := E) (d := md_21) (pc := 80) dd_21_80 (by decide)
theorem vd_21_81 (E : ac_E) : ac_ok E md_21 81 (o_add 82) := ok_iadd (E := E) (d := md_21) (pc := 81) dd_21_81
theorem vd_21_82 (E : ac_E) : ac_ok E md_21 82 (o_con (.int 6) 84) := ok_bipush (E := E) (d := md_21) (pc := 82) dd_21_82 (by decide)
theorem vd_21_84 (E : ac_E) : ac_ok E md_21 84 (o_rem 85) := ok_irem (E := E) (d := md_21) (pc := 84) dd_21_84
theorem vd_21_85 (E : ac_E) : ac_ok E md_21 85 (o_is 86) := ok_iastore (E := E) (d := md_21) (pc := 85) dd_21_85
theorem vd_21_86 (E : ac_E) : ac_ok E md_21 86 (o_inc 2 1 89) := ok_iinc (E := E) (d := md_21) (pc := 86) dd_21_86 (by decide)
theorem vd_21_89 (E : ac_E) : ac_ok E md_21 89 (o_go 2) := ok_goto (E := E) (d := md_21) (pc := 89) dd_21_89 (by decide)
theorem va_21 (E : ac_E) (pc : Nat) : ac_V E ac_MDf ac_HDf 21 pc (tb_21 (ac_len E) (ac_xs E) pc) := (ac_node (ac_node (ac_node (ac_node (ac_node (ac_leaf 0 (⟨vd_21_0 E, mn_con _ _⟩)) (ac_node (ac_leaf 1 (⟨vd_21_1 E, mn_ist _ _⟩)) (ac_leaf 2 (⟨vd_21_2 E, mn_ild _ _⟩)))) (ac_node (ac_node (ac_leaf 3 (⟨vd_21_3 E, mn_ald _ _⟩)) (ac_leaf 4 (⟨vd_21_4 E, mn_get _ _ _⟩))) (ac_node (ac_leaf 7 (⟨vd_21_7 E, mn_ge _ _⟩)) (ac_leaf 10 (⟨vd_21_10 E, mn_ald _ _⟩))))) (ac_node (ac_node (ac_leaf 11 (⟨vd_21_11 E, mn_get _ _ _⟩)) (ac_node (ac_leaf 14 (⟨vd_21_14 E, mn_ild _ _⟩)) (ac_leaf 15 (⟨vd_21_15 E, mn_ia _⟩)))) (ac_node (ac_node (ac_leaf 16 (⟨vd_21_16 E, mn_con _ _⟩)) (ac_leaf 17 (⟨vd_21_17 E, mn_ne _ _⟩))) (ac_node (ac_leaf 20 (⟨vd_21_20 E, mn_con _ _⟩)) (ac_leaf 21 (⟨vd_21_21 E, mn_go _⟩)))))) (ac_node (ac_node (ac_node (ac_leaf 24 (⟨vd_21_24 E, mn_ald _ _⟩)) (ac_node (ac_leaf 25 (⟨vd_21_25 E, mn_ald _ _⟩)) (ac_leaf 26 (⟨vd_21_26 E, mn_get _ _ _⟩)))) (ac_node (ac_node (ac_leaf 29 (⟨vd_21_29 E, mn_ild _ _⟩)) (ac_leaf 30 (⟨vd_21_30 E, mn_ia _⟩))) (ac_node (ac_leaf 31 (⟨vd_21_31 E, mn_ia _⟩)) (ac_leaf 32 (⟨vd_21_32 E, mn_ist _ _⟩))))) (ac_node (ac_node (ac_leaf 33 (⟨vd_21_33 E, mn_ild _ _⟩)) (ac_node (ac_leaf 34 (⟨vd_21_34 E, mn_con _ _⟩)) (ac_leaf 35 (⟨vd_21_35 E, mn_ne _ _⟩)))) (ac_node (ac_node (ac_leaf 38 (⟨vd_21_38 E, mn_ald _ _⟩)) (ac_leaf 39 (⟨vd_21_39 E, mn_get _ _ _⟩))) (ac_node (ac_leaf 42 (⟨vd_21_42 E, mn_ild _ _⟩)) (ac_leaf 43 (⟨vd_21_43 E, mn_con _ _⟩))))))) (ac_node (ac_node (ac_node (ac_node (ac_leaf 44 (⟨vd_21_44 E, mn_is _⟩)) (ac_node (ac_leaf 45 (⟨vd_21_45 E, mn_go _⟩)) (ac_leaf 48 (⟨vd_21_48 E, mn_ild _ _⟩)))) (ac_node (ac_node (ac_leaf 49 (⟨vd_21_49 E, mn_con _ _⟩)) (ac_leaf 50 (⟨vd_21_50 E, mn_eq _ _⟩))) (ac_node (ac_leaf 53 (⟨vd_21_53 E, mn_ild _ _⟩)) (ac_leaf 54 (⟨vd_21_54 E, mn_con _ _⟩))))) (ac_node (ac_node (ac_leaf 55 (⟨vd_21_55 E, mn_ne _ _⟩)) (ac_node (ac_leaf 58 (⟨vd_21_58 E, mn_ald _ _⟩)) (ac_leaf 59 (⟨vd_21_59 E, mn_get _ _ _⟩)))) (ac_node (ac_node (ac_leaf 62 (⟨vd_21_62 E, mn_ild _ _⟩)) (ac_leaf 63 (⟨vd_21_63 E, mn_ia _⟩))) (ac_node (ac_leaf 64 (⟨vd_21_64 E, mn_con _ _⟩)) (ac_leaf 66 (⟨vd_21_66 E, mn_ge _ _⟩)))))) (ac_node (ac_node (ac_node (ac_leaf 69 (⟨vd_21_69 E, mn_ald _ _⟩)) (ac_node (ac_leaf 70 (⟨vd_21_70 E, mn_get _ _ _⟩)) (ac_leaf 73 (⟨vd_21_73 E, mn_ild _ _⟩)))) (ac_node (ac_node (ac_leaf 74 (⟨vd_21_74 E, mn_ald _ _⟩)) (ac_leaf 75 (⟨vd_21_75 E, mn_get _ _ _⟩))) (ac_node (ac_leaf 78 (⟨vd_21_78 E, mn_ild _ _⟩)) (ac_leaf 79 (⟨vd_21_79 E, mn_ia _⟩))))) (ac_node (ac_node (ac_node (ac_leaf 80 (⟨vd_21_80 E, mn_con _ _⟩)) (ac_leaf 81 (⟨vd_21_81 E, mn_add _⟩))) (ac_node (ac_leaf 82 (⟨vd_21_82 E, mn_con _ _⟩)) (ac_leaf 84 (⟨vd_21_84 E, mn_rem _⟩)))) (ac_node (ac_node (ac_leaf 85 (⟨vd_21_85 E, mn_is _⟩)) (ac_leaf 86 (⟨vd_21_86 E, mn_inc _ _ _⟩))) (ac_node (ac_leaf 89 (⟨vd_21_89 E, mn_go _⟩)) (ac_leaf 92 (ac_Vr0 dd_21_92 rfl))))))))
theorem vd_22_0 (E : ac_E) : ac_ok E md_22 0 (o_con (.int 0) 1) := ok_iconst (E := E) (d := md_22) (pc := 0) dd_22_0 (by decide)
theorem vd_22_1 (E : ac_E) : ac_ok E md_22 1 (o_ist 3 2) := ok_istore_n (E := E) (d := md_22) (pc := 1) (j := 3) dd_22_1
theorem vd_22_2 (E : ac_E) : ac_ok E md_22 2 (o_ild 3 3) := ok_iload_n (E := E) (d := md_22) (pc := 2) (j := 3) dd_22_2
theorem vd_22_3 (E : ac_E) : ac_ok E md_22 3 (o_ald 0 4) := ok_aload_n (E := E) (d := md_22) (pc := 3) (j := 0) dd_22_3
theorem vd_22_4 (E : ac_E) : ac_ok E md_22 4 (o_get 3 2 7) := ok_getf (E := E) (d := md_22) (pc := 4) (ci := 3) (f := 2) (C := RX3) (T := TX3) (N := 3) (ref := RX3) rfl win_3 (by decide) rfl wm_154 dd_22_4
theorem vd_22_7 (E : ac_E) : ac_ok E md_22 7 (o_ge 53 10) := ok_icmpge (E := E) (d := md_22) (pc := 7) dd_22_7 (by decide)
theorem vd_22_10 (E : ac_E) : ac_ok E md_22 10 (o_ald 0 11) := ok_aload_n (E := E) (d := md_22) (pc := 10) (j := 0) dd_22_10
theorem vd_22_11 (E : ac_E) : ac_ok E md_22 11 (o_get 3 0 14) := ok_getf (E := E) (d := md_22) (pc := 11) (ci := 3) (f := 0) (C := RX3) (T := TX3) (N := 3) (ref := RX3) rfl win_3 (by decide) rfl wm_150 dd_22_11
theorem vd_22_14 (E : ac_E) : ac_ok E md_22 14 (o_ild 3 15) := ok_iload_n (E := E) (d := md_22) (pc := 14) (j := 3) dd_22_14
theorem vd_22_15 (E : ac_E) : ac_ok E md_22 15 (o_ia 16) := ok_iaload (E := E) (d := md_22) (pc := 15) dd_22_15
theorem vd_22_16 (E : ac_E) : ac_ok E md_22 16 (o_ild 1 17) := ok_iload_n (E := E) (d := md_22) (pc := 16) (j := 1) dd_22_16
theorem vd_22_17 (E : ac_E) : ac_ok E md_22 17 (o_ne 30 20) := ok_icmpne (E := E) (d := md_22) (pc := 17) dd_22_17 (by decide)
theorem vd_22_20 (E : ac_E) : ac_ok E md_22 20 (o_ald 0 21) := ok_aload_n (E := E) (d := md_22) (pc := 20) (j := 0) dd_22_20
theorem vd_22_21 (E : ac_E) : ac_ok E md_22 21 (o_get 3 0 24) := ok_getf (E := E) (d := md_22) (pc := 21) (ci := 3) (f := 0) (C := RX3) (T := TX3) (N := 3) (ref := RX3) rfl win_3 (by decide) rfl wm_150 dd_22_21
theorem vd_22_24 (E : ac_E) : ac_ok E md_22 24 (o_ild 3 25) := ok_iload_n (E := E) (d := md_22) (pc := 24) (j := 3) dd_22_24
theorem vd_22_25 (E : ac_E) : ac_ok E md_22 25 (o_ild 2 26) := ok_iload_n (E := E) (d := md_22) (pc := 25) (j := 2) dd_22_25
theorem vd_22_26 (E : ac_E) : ac_ok E md_22 26 (o_is 27) := ok_iastore (E := E) (d := md_22) (pc := 26) dd_22_26
theorem vd_22_27 (E : ac_E) : ac_ok E md_22 27 (o_go 47) := ok_goto (E := E) (d := md_22) (pc := 27) dd_22_27 (by decide)
theorem vd_22_30 (E : ac_E) : ac_ok E md_22 30 (o_ald 0 31) := ok_aload_n (E := E) (d := md_22) (pc := 30) (j := 0) dd_22_30
theorem vd_22_31 (E : ac_E) : ac_ok E md_22 31 (o_get 3 0 34) := ok_getf (E := E) (d := md_22) (pc := 31) (ci := 3) (f := 0) (C := RX3) (T := TX3) (N := 3) (ref := RX3) rfl win_3 (by decide) rfl wm_150 dd_22_31
theorem vd_22_34 (E : ac_E) : ac_ok E md_22 34 (o_ild 3 35) := ok_iload_n (E := E) (d := md_22) (pc := 34) (j := 3) dd_22_34
theorem vd_22_35 (E : ac_E) : ac_ok E md_22 35 (o_ia 36) := ok_iaload (E := E) (d := md_22) (pc := 35) dd_22_35
theorem vd_22_36 (E : ac_E) : ac_ok E md_22 36 (o_ild 2 37) := ok_iload_n (E := E) (d := md_22) (pc := 36) (j := 2) dd_22_36
theorem vd_22_37 (E : ac_E) : ac_ok E md_22 37 (o_ne 47 40) := ok_icmpne (E := E) (d := md_22) (pc := 37) dd_22_37 (by decide)
theorem vd_22_40 (E : ac_E) : ac_ok E md_22 40 (o_ald 0 41) := ok_aload_n (E := E) (d := md_22) (pc := 40) (j := 0) dd_22_40
theorem vd_22_41 (E : ac_E) : ac_ok E md_22 41 (o_get 3 0 44) := ok_getf (E := E) (d := md_22) (pc := 41) (ci := 3) (f := 0) (C := RX3) (T := TX3) (N := 3) (ref := RX3) rfl win_3 (by decide) rfl wm_150 dd_22_41
theorem vd_22_44 (E : ac_E) : ac_ok E md_22 44 (o_ild 3 45) := ok_iload_n (E := E) (d := md_22) (pc := 44) (j := 3) dd_22_44
theorem vd_22_45 (E : ac_E) : ac_ok E md_22 45 (o_ild 1 46) := ok_iload_n (E := E) (d := md_22) (pc := 45) (j := 1) dd_22_45
theorem vd_22_46 (E : ac_E) : ac_ok E md_22 46 (o_is 47) := ok_iastore (E := E) (d := md_22) (pc := 46) dd_22_46
theorem vd_22_47 (E : ac_E) : ac_ok E md_22 47 (o_inc 3 1 50) := ok_iinc (E := E) (d := md_22) (pc := 47) dd_22_47 (by decide)
theorem vd_22_50 (E : ac_E) : ac_ok E md_22 50 (o_go 2) := ok_goto (E := E) (d := md_22) (pc := 50) dd_22_50 (by decide)
theorem va_22 (E : ac_E) (pc : Nat) : ac_V E ac_MDf ac_HDf 22 pc (tb_22 (ac_len E) (ac_xs E) pc) := (ac_node (ac_node (ac_node (ac_node (ac_node (ac_leaf 0 (⟨vd_22_0 E, mn_con _ _⟩)) (ac_leaf 1 (⟨vd_22_1 E, mn_ist _ _⟩))) (ac_node (ac_leaf 2 (⟨vd_22_2 E, mn_ild _ _⟩)) (ac_leaf 3 (⟨vd_22_3 E, mn_ald _ _⟩)))) (ac_node (ac_node (ac_leaf 4 (⟨vd_22_4 E, mn_get _ _ _⟩)) (ac_leaf 7 (⟨vd_22_7 E, mn_ge _ _⟩))) (ac_node (ac_leaf 10 (⟨vd_22_10 E, mn_ald _ _⟩)) (ac_leaf 11 (⟨vd_22_11 E, mn_get _ _ _⟩))))) (ac_node (ac_node (ac_node (ac_leaf 14 (⟨vd_22_14 E, mn_ild _ _⟩)) (ac_leaf 15 (⟨vd_22_15 E, mn_ia _⟩))) (ac_node (ac_leaf 16 (⟨vd_22_16 E, mn_ild _ _⟩)) (ac_leaf 17 (⟨vd_22_17 E, mn_ne _ _⟩)))) (ac_node (ac_node (ac_leaf 20 (⟨vd_22_20 E, mn_ald _ _⟩)) (ac_leaf 21 (⟨vd_22_21 E, mn_get _ _ _⟩))) (ac_node (ac_leaf 24 (⟨vd_22_24 E, mn_ild _ _⟩)) (ac_leaf 25 (⟨vd_22_25 E, mn_ild _ _⟩)))))) (ac_node (ac_node (ac_node (ac_node (ac_leaf 26 (⟨vd_22_26 E, mn_is _⟩)) (ac_leaf 27 (⟨vd_22_27 E, mn_go _⟩))) (ac_node (ac_leaf 30 (⟨vd_22_30 E, mn_ald _ _⟩)) (ac_leaf 31 (⟨vd_22_31 E, mn_get _ _ _⟩)))) (ac_node (ac_node (ac_leaf 34 (⟨vd_22_34 E, mn_ild _ _⟩)) (ac_leaf 35 (⟨vd_22_35 E, mn_ia _⟩))) (ac_node (ac_leaf 36 (⟨vd_22_36 E, mn_ild _ _⟩)) (ac_leaf 37 (⟨vd_22_37 E, mn_ne _ _⟩))))) (ac_node (ac_node (ac_node (ac_leaf 40 (⟨vd_22_40 E, mn_ald _ _⟩)) (ac_leaf 41 (⟨vd_22_41 E, mn_get _ _ _⟩))) (ac_node (ac_leaf 44 (⟨vd_22_44 E, mn_ild _ _⟩)) (ac_leaf 45 (⟨vd_22_45 E, mn_ild _ _⟩)))) (ac_node (ac_node (ac_leaf 46 (⟨vd_22_46 E, mn_is _⟩)) (ac_leaf 47 (⟨vd_22_47 E, mn_inc _ _ _⟩))) (ac_node (ac_leaf 50 (⟨vd_22_50 E, mn_go _⟩)) (ac_leaf 53 (ac_Vr0 dd_22_53 rfl)))))))
theorem vd_23_0 (E : ac_E) : ac_ok E md_23 0 (o_ald 0 1) := ok_aload_n (E := E) (d := md_23) (pc := 0) (j := 0) dd_23_0
theorem vd_23_1 (E : ac_E) : ac_ok E md_23 1 (o_obj1 4) := ok_obj (E := E) (d := md_23) (pc := 1) wm_72 wm_73 wm_74 (by decide) (by decide) dd_23_1
theorem vd_23_4 (E : ac_E) : ac_ok E md_23 4 (o_ald 0 5) := ok_aload_n (E := E) (d := md_23) (pc := 4) (j := 0) dd_23_4
theorem vd_23_5 (E : ac_E) : ac_ok E md_23 5 (o_new 2 [.int 0, .int 0, .int 0, .null] 8) := ok_new (E := E) (d := md_23) (pc := 5) (C := RX2) (T := TX2) (N := 4) rfl win_2 tyX2 tyX2_ok (nfs_2 E) rfl wm_75 wm_76 wm_51 dd_23_5
theorem vd_23_8 (E : ac_E) : ac_ok E md_23 8 (o_dup 9) := ok_dup (E := E) (d := md_23) (pc := 8) dd_23_8
theorem vd_23_9 (E : ac_E) : ac_ok E md_23 9 (o_ild 1 10) := ok_iload_n (E := E) (d := md_23) (pc := 9) (j := 1) dd_23_9
theorem vd_23_10 (E : ac_E) : ac_okr E md_23 md_42 10 1 13 0 ∧ ac_okt E md_23 md_42 10 1 0 := ok_callS (E := E) (d := md_23) (dz := md_42) (pc := 10) rfl (by decide) (by decide +kernel) wm_79 wm_50 wm_77 wm_78 dd_23_10
theorem vd_23_13 (E : ac_E) : ac_ok E md_23 13 (o_ild 2 14) := ok_iload_n (E := E) (d := md_23) (pc := 13) (j := 2) dd_23_13
theorem vd_23_14 (E : ac_E) : ac_okr E md_23 md_42 14 1 17 0 ∧ ac_okt E md_23 md_42 14 1 0 := ok_callS (E := E) (d := md_23) (dz := md_42) (pc := 14) rfl (by decide) (by decide +kernel) wm_79 wm_50 wm_77 wm_78 dd_23_14
theorem vd_23_17 (E : ac_E) : ac_okr E md_23 md_9 17 3 20 1 := ok_callIN (E := E) (d := md_23) (dz := md_9) (pc := 17) rfl rfl rfl (by decide) (by decide +kernel) wm_82 wm_51 wm_80 wm_81 dd_23_17
theorem vd_23_20 (E : ac_E) : ac_ok E md_23 20 (o_pur 4 0 23) := ok_purF (E := E) (d := md_23) (pc := 20) (ci := 4) (f := 0) (C := RX4) (T := TX4) (N := 12) (ref := RX4) rfl win_4 (by decide) rfl tyX4 tyX4_ok nmX4 (by decide +kernel : _ = some (.object "SixWayGas$Grid")) (Or.inl ⟨_, rfl⟩) rfl rfl rfl wm_163 dd_23_20
theorem vd_23_23 (E : ac_E) : ac_ok E md_23 23 (o_ald 0 24) := ok_aload_n (E := E) (d := md_23) (pc := 23) (j := 0) dd_23_23
theorem vd_23_24 (E : ac_E) : ac_ok E md_23 24 (o_ald 0 25) := ok_aload_n (E := E) (d := md_23) (pc := 24) (j := 0) dd_23_24
theorem vd_23_25 (E : ac_E) : ac_ok E md_23 25 (o_get 4 0 28) := ok_getf (E := E) (d := md_23) (pc := 25) (ci := 4) (f := 0) (C := RX4) (T := TX4) (N := 12) (ref := RX4) rfl win_4 (by decide) rfl wm_163 dd_23_25
theorem vd_23_28 (E : ac_E) : ac_ok E md_23 28 (o_get 2 2 31) := ok_getN (E := E) (d := md_23) (pc := 28) (ci := 2) (f := 2) (C := RX2) (T := TX2) (N := 4) (ref := RX2) rfl win_2 (by decide) rfl wm_98 dd_23_28
theorem vd_23_31 (E : ac_E) : ac_ok E md_23 31 (o_ni 33) := ok_ni (E := E) (d := md_23) (pc := 31) dd_23_31 wm_109
theorem vd_23_33 (E : ac_E) : ac_ok E md_23 33 (o_pur 4 1 36) := ok_purF (E := E) (d := md_23) (pc := 33) (ci := 4) (f := 1) (C := RX4) (T := TX4) (N := 12) (ref := RX4) rfl win_4 (by decide) rfl tyX4 tyX4_ok nmX4 (by decide +kernel : _ = some (.array .int)) (Or.inr ⟨_, rfl⟩) rfl rfl rfl wm_164 dd_23_33
theorem vd_23_36 (E : ac_E) : ac_ok E md_23 36 (o_ald 0 37) := ok_aload_n (E := E) (d := md_23) (pc := 36) (j := 0) dd_23_36
theorem vd_23_37 (E : ac_E) : ac_ok E md_23 37 (o_ald 0 38) := ok_aload_n (E := E) (d := md_23) (pc := 37) (j := 0) dd_23_37
theorem vd_23_38 (E : ac_E) : ac_ok E md_23 38 (o_get 4 0 41) := ok_getf (E := E) (d := md_23) (pc := 38) (ci := 4) (f := 0) (C := RX4) (T := TX4) (N := 12) (ref := RX4) rfl win_4 (by decide) rfl wm_163 dd_23_38
theorem vd_23_41 (E : ac_E) : ac_ok E md_23 41 (o_get 2 2 44) := ok_getN (E := E) (d := md_23) (pc := 41) (ci := 2) (f := 2) (C := RX2) (T := TX2) (N := 4) (ref := RX2) rfl win_2 (by decide) rfl wm_98 dd_23_41
theorem vd_23_44 (E : ac_E) : ac_ok E md_23 44 (o_ni 46) := ok_ni (E := E) (d := md_23) (pc := 44) dd_23_44 wm_109
theorem vd_23_46 (E : ac_E) : ac_ok E md_23 46 (o_pur 4 2 49) := ok_purF (E := E) (d := md_23) (pc := 46) (ci := 4) (f := 2) (C := RX4) (T := TX4) (N := 12) (ref := RX4) rfl win_4 (by decide) rfl tyX4 tyX4_ok nmX4 (by decide +kernel : _ = some (.array .int)) (Or.inr ⟨_, rfl⟩) rfl rfl rfl wm_165 dd_23_46
theorem vd_23_49 (E : ac_E) : ac_ok E md_23 49 (o_ald 0 50) := ok_aload_n (E := E) (d := md_23) (pc := 49) (j := 0) dd_23_49
theorem vd_23_50 (E : ac_E) : ac_ok E md_23 50 (o_new 1 [.null] 53) := ok_new (E := E) (d := md_23) (pc := 50) (C := RX1) (T := TX1) (N := 1) rfl win_1 tyX1 tyX1_ok (nfs_1 E) rfl wm_110 wm_111 wm_53 dd_23_50
theorem vd_23_53 (E : ac_E) : ac_ok E md_23 53 (o_dup 54) := ok_dup (E := E) (d := md_23) (pc := 53) dd_23_53
theorem vd_23_54 (E : ac_E) : ac_okr E md_23 md_7 54 1 57 1 := ok_callIN (E := E) (d := md_23) (dz := md_7) (pc := 54) rfl rfl rfl (by decide) (by decide +kernel) wm_114 wm_53 wm_112 wm_113 dd_23_54
theorem vd_23_57 (E : ac_E) : ac_ok E md_23 57 (o_pur 4 3 60) := ok_purF (E := E) (d := md_23) (pc := 57) (ci := 4) (f := 3) (C := RX4) (T := TX4) (N := 12) (ref := RX4) rfl win_4 (by decide) rfl tyX4 tyX4_ok nmX4 (by decide +kernel : _ = some (.object "SixWayGas$Books")) (Or.inl ⟨_, rfl⟩) rfl rfl rfl wm_166 dd_23_57
theorem vd_23_60 (E : ac_E) : ac_ok E md_23 60 (o_ald 0 61) := ok_aload_n (E := E) (d := md_23) (pc := 60) (j := 0) dd_23_60
theorem vd_23_61 (E : ac_E) : ac_ok E md_23 61 (o_new 0 [.int 0, .int 0, .int 0, .int 0] 64) := ok_new (E := E) (d := md_23) (pc := 61) (C := RX0) (T := TX0) (N := 4) rfl win_0 tyX0 tyX0_ok (nfs_0 E) rfl wm_121 wm_122 wm_54 dd_23_61
theorem vd_23_64 (E : ac_E) : ac_ok E md_23 64 (o_dup 65) := ok_dup (E := E) (d := md_23) (pc := 64) dd_23_64
theorem vd_23_65 (E : ac_E) : ac_okr E md_23 md_3 65 1 68 1 := ok_callIN (E := E) (d := md_23) (dz := md_3) (pc := 65) rfl rfl rfl (by decide) (by decide +kernel) wm_125 wm_54 wm_123 wm_124 dd_23_65
theorem vd_23_68 (E : ac_E) : ac_ok E md_23 68 (o_pur 4 4 71) := ok_purF (E := E) (d := md_23) (pc := 68) (ci := 4) (f := 4) (C := RX4) (T := TX4) (N := 12) (ref := RX4) rfl win_4 (by decide) rfl tyX4 tyX4_ok nmX4 (by decide +kernel : _ = some (.object "SixWayGas$BodyAccount")) (Or.inl ⟨_, rfl⟩) rfl rfl rfl wm_167 dd_23_68
theorem vd_23_71 (E : ac_E) : ac_ok E md_23 71 (o_ald 0 72) := ok_aload_n (E := E) (d := md_23) (pc := 71) (j := 0) dd_23_71
theorem vd_23_72 (E : ac_E) : ac_ok E md_23 72 (o_new 3 [.null, .null, .int 0] 75) := ok_new (E := E) (d := md_23) (pc := 72) (C := RX3) (T := TX3) (N := 3) rfl win_3 tyX3 tyX3_ok (nfs_3 E) rfl wm_144 wm_145 wm_55 dd_23_72
theorem vd_23_75 (E : ac_E) : ac_ok E md_23 75 (o_dup 76) := ok_dup (E := E) (d := md_23) (pc := 75) dd_23_75
theorem vd_23_76 (E : ac_E) : ac_okr E md_23 md_15 76 1 79 1 := ok_callIN (E := E) (d := md_23) (dz := md_15) (pc := 76) rfl rfl rfl (by decide) (by decide +kernel) wm_148 wm_55 wm_146 wm_147 dd_23_76
theorem vd_23_79 (E : ac_E) : ac_ok E md_23 79 (o_pur 4 5 82) := ok_purF (E := E) (d := md_23) (pc := 79) (ci := 4) (f := 5) (C := RX4) (T := TX4) (N := 12) (ref := RX4) rfl win_4 (by decide) rfl tyX4 tyX4_ok nmX4 (by decide +kernel : _ = some (.object "SixWayGas$Marks")) (Or.inl ⟨_, rfl⟩) rfl rfl rfl wm_168 dd_23_79
theorem vd_23_82 (E : ac_E) : ac_ok E md_23 82 (o_ald 0 83) := ok_aload_n (E := E) (d := md_23) (pc := 82) (j := 0) dd_23_82
theorem vd_23_83 (E : ac_E) : ac_ok E md_23 83 (o_ald 0 84) := ok_aload_n (E := E) (d := md_23) (pc := 83) (j := 0) dd_23_83
theorem vd_23_84 (E : ac_E) : ac_ok E md_23 84 (o_get 4 0 87) := ok_getf (E := E) (d := md_23) (pc := 84) (ci := 4) (f := 0) (C := RX4) (T := TX4) (N := 12) (ref := RX4) rfl win_4 (by decide) rfl wm_163 dd_23_84
theorem vd_23_87 (E : ac_E) : ac_ok E md_23 87 (o_get 2 2 90) := ok_getN (E := E) (d := md_23) (pc := 87) (ci := 2) (f := 2) (C := RX2) (T := TX2) (N := 4) (ref := RX2) rfl win_2 (by decide) rfl wm_98 dd_23_87
theorem vd_23_90 (E : ac_E) : ac_ok E md_23 90 (o_ni 92) := ok_ni (E := E) (d := md_23) (pc := 90) dd_23_90 wm_109
theorem vd_23_92 (E : ac_E) : ac_ok E md_23 92 (o_pur 4 6 95) := ok_purF (E := E) (d := md_23) (pc := 92) (ci := 4) (f := 6) (C := RX4) (T := TX4) (N := 12) (ref := RX4) rfl win_4 (by decide) rfl tyX4 tyX4_ok nmX4 (by decide +kernel : _ = some (.array .int)) (Or.inr ⟨_, rfl⟩) rfl rfl rfl wm_169 dd_23_92
theorem vd_23_95 (E : ac_E) : ac_ok E md_23 95 (o_ald 0 96) := ok_aload_n (E := E) (d := md_23) (pc := 95) (j := 0) dd_23_95
theorem vd_23_96 (E : ac_E) : ac_ok E md_23 96 (o_ald 0 97) := ok_aload_n (E := E) (d := md_23) (pc := 96) (j := 0) dd_23_96
theorem vd_23_97 (E : ac_E) : ac_ok E md_23 97 (o_get 4 0 100) := ok_getf (E := E) (d := md_23) (pc := 97) (ci := 4) (f := 0) (C := RX4) (T := TX4) (N := 12) (ref := RX4) rfl win_4 (by decide) rfl wm_163 dd_23_97
theorem vd_23_100 (E : ac_E) : ac_ok E md_23 100 (o_get 2 2 103) := ok_getN (E := E) (d := md_23) (pc := 100) (ci := 2) (f := 2) (C := RX2) (T := TX2) (N := 4) (ref := RX2) rfl win_2 (by decide) rfl wm_98 dd_23_100
theorem vd_23_103 (E : ac_E) : ac_ok E md_23 103 (o_ni 105) := ok_ni (E := E) (d := md_23) (pc := 103) dd_23_103 wm_109
theorem vd_23_105 (E : ac_E) : ac_ok E md_23 105 (o_pur 4 7 108) := ok_purF (E := E) (d := md_23) (pc := 105) (ci := 4) (f := 7) (C := RX4) (T := TX4) (N := 12) (ref := RX4) rfl win_4 (by decide) rfl tyX4 tyX4_ok nmX4 (by decide +kernel : _ = some (.array .int)) (Or.inr ⟨_, rfl⟩) rfl rfl rfl wm_170 dd_23_105
theorem vd_23_108 (E : ac_E) : ac_ok E md_23 108 (o_ald 0 109) := ok_aload_n (E := E) (d := md_23) (pc := 108) (j := 0) dd_23_108
theorem vd_23_109 (E : ac_E) : ac_ok E md_23 109 (o_ald 0 110) := ok_aload_n (E := E) (d := md_23) (pc := 109) (j := 0) dd_23_109
theorem vd_23_110 (E : ac_E) : ac_ok E md_23 110 (o_get 4 0 113) := ok_getf (E := E) (d := md_23) (pc := 110) (ci := 4) (f := 0) (C := RX4) (T := TX4) (N := 12) (ref := RX4) rfl win_4 (by decide) rfl wm_163 dd_23_110
theorem vd_23_113 (E : ac_E) : ac_ok E md_23 113 (o_get 2 2 116) := ok_getN (E := E) (d := md_23) (pc := 113) (ci := 2) (f := 2) (C := RX2) (T := TX2) (N := 4) (ref := RX2) rfl win_2 (by decide) rfl wm_98 dd_23_113
theorem vd_23_116 (E : ac_E) : ac_ok E md_23 116 (o_ni 118) := ok_ni (E := E) (d := md_23) (pc := 116) dd_23_116 wm_109
theorem vd_23_118 (E : ac_E) : ac_ok E md_23 118 (o_pur 4 8 121) := ok_purf (E := E) (d := md_23) (pc := 118) (ci := 4) (f := 8) (C := RX4) (T := TX4) (N := 12) (ref := RX4) rfl win_4 (by decide) rfl tyX4 tyX4_ok nmX4 (by decide +kernel : _ = some (.array .int)) (Or.inr ⟨_, rfl⟩) rfl wm_171 dd_23_118
theorem vd_23_121 (E : ac_E) : ac_ok E md_23 121 (o_ald 0 122) := ok_aload_n (E := E) (d := md_23) (pc := 121) (j := 0) dd_23_121
theorem vd_23_122 (E : ac_E) : ac_ok E md_23 122 (o_ald 0 123) := ok_aload_n (E := E) (d := md_23) (pc := 122) (j := 0) dd_23_122
theorem vd_23_123 (E : ac_E) : ac_ok E md_23 123 (o_get 4 0 126) := ok_getf (E := E) (d := md_23) (pc := 123) (ci := 4) (f := 0) (C := RX4) (T := TX4) (N := 12) (ref := RX4) rfl win_4 (by decide) rfl wm_163 dd_23_123
theorem vd_23_126 (E : ac_E) : ac_ok E md_23 126 (o_get 2 2 129) := ok_getN (E := E) (d := md_23) (pc := 126) (ci := 2) (f := 2) (C := RX2) (T := TX2) (N := 4) (ref := RX2) rfl win_2 (by decide) rfl wm_98 dd_23_126
theorem vd_23_129 (E : ac_E) : ac_ok E md_23 129 (o_ni 131) := ok_ni (E := E) (d := md_23) (pc := 129) dd_23_129 wm_109
theorem vd_23_131 (E : ac_E) : ac_ok E md_23 131 (o_pur 4 9 134) := ok_purf (E := E) (d := md_23) (pc := 131) (ci := 4) (f := 9) (C := RX4) (T := TX4) (N := 12) (ref := RX4) rfl win_4 (by decide) rfl tyX4 tyX4_ok nmX4 (by decide +kernel : _ = some (.array .int)) (Or.inr ⟨_, rfl⟩) rfl wm_172 dd_23_131
theorem vd_23_134 (E : ac_E) : ac_ok E md_23 134 (o_ald 0 135) := ok_aload_n (E := E) (d := md_23) (pc := 134) (j := 0) dd_23_134
theorem vd_23_135 (E : ac_E) : ac_ok E md_23 135 (o_con (.int 0) 136) := ok_iconst (E := E) (d := md_23) (pc := 135) dd_23_135 (by decide)
theorem vd_23_136 (E : ac_E) : ac_ok E md_23 136 (o_put 4 10 139) := ok_putf (E := E) (d := md_23) (pc := 136) (ci := 4) (f := 10) (C := RX4) (T := TX4) (N := 12) (ref := RX4) rfl win_4 (by decide) rfl tyX4 tyX4_ok nmX4 (by decide +kernel) rfl wm_173 dd_23_136
theorem vd_23_139 (E : ac_E) : ac_ok E md_23 139 (o_ald 0 140) := ok_aload_n (E := E) (d := md_23) (pc := 139) (j := 0) dd_23_139
theorem vd_23_140 (E : ac_E) : ac_ok E md_23 140 (o_con (.int 0) 141) := ok_iconst (E := E) (d := md_23) (pc := 140) dd_23_140 (by decide)
theorem vd_23_141 (E : ac_E) : ac_ok E md_23 141 (o_put 4 11 144) := ok_putf (E := E) (d := md_23) (pc := 141) (ci := 4) (f := 11) (C := RX4) (T := TX4) (N := 12) (ref := RX4) rfl win_4 (by decide) rfl tyX4 tyX4_ok nmX4 (by decide +kernel) rfl wm_174 dd_23_141
theorem va_23 (E : ac_E) (pc : Nat) : ac_V E ac_MDf ac_HDf 23 pc (tb_23 (ac_len E) (ac_xs E) pc) := (ac_node (ac_node (ac_node (ac_node (ac_node (ac_node (ac_leaf 0 (⟨vd_23_0 E, mn_ald _ _⟩)) (ac_leaf 1 (⟨vd_23_1 E, mn_obj1 _⟩))) (ac_node (ac_leaf 4 (⟨vd_23_4 E, mn_ald _ _⟩)) (ac_leaf 5 (⟨vd_23_5 E, mn_new _ _ _⟩)))) (ac_node (ac_node (ac_leaf 8 (⟨vd_23_8 E, mn_dup _⟩)) (ac_leaf 9 (⟨vd_23_9 E, mn_ild _ _⟩))) (ac_node (ac_leaf 10 (ac_Vc0 ((vd_23_10 E).1) (fun _ => rfl))) (ac_leaf 13 (⟨vd_23_13 E, mn_ild _ _⟩))))) (ac_node (ac_node (ac_node (ac_leaf 14 (ac_Vc0 ((vd_23_14 E).1) (fun _ => rfl))) (ac_leaf 17 (ac_Vc0 (vd_23_17 E) (fun _ => rfl)))) (ac_node (ac_leaf 20 (⟨vd_23_20 E, mn_pur _ _ _⟩)) (ac_leaf 23 (⟨vd_23_23 E, mn_ald _ _⟩)))) (ac_node (ac_node (ac_leaf 24 (⟨vd_23_24 E, mn_ald _ _⟩)) (ac_leaf 25 (⟨vd_23_25 E, mn_get _ _ _⟩))) (ac_node (ac_leaf 28 (⟨vd_23_28 E, mn_get _ _ _⟩)) (ac_node (ac_leaf 31 (⟨vd_23_31 E, mn_ni _⟩)) (ac_leaf 33 (⟨vd_23_33 E, mn_pur _ _ _⟩))))))) (ac_node (ac_node (ac_node (ac_node (ac_leaf 36 (⟨vd_23_36 E, mn_ald _ _⟩)) (ac_leaf 37 (⟨vd_23_37 E, mn_ald _ _⟩))) (ac_node (ac_leaf 38 (⟨vd_23_38 E, mn_get _ _ _⟩)) (ac_leaf 41 (⟨vd_23_41 E, mn_get _ _ _⟩)))) (ac_node (ac_node (ac_leaf 44 (⟨vd_23_44 E, mn_ni _⟩)) (ac_leaf 46 (⟨vd_23_46 E, mn_pur _ _ _⟩))) (ac_node (ac_leaf 49 (⟨vd_23_49 E, mn_ald _ _⟩)) (ac_leaf 50 (⟨vd_23_50 E, mn_new _ _ _⟩))))) (ac_node (ac_node (ac_node (ac_leaf 53 (⟨vd_23_53 E, mn_dup _⟩)) (ac_leaf 54 (ac_Vc0 (vd_23_54 E) (fun _ => rfl)))) (ac_node (ac_leaf 57 (⟨vd_23_57 E, mn_pur _ _ _⟩)) (ac_leaf 60 (⟨vd_23_60 E, mn_ald _ _⟩)))) (ac_node (ac_node (ac_leaf 61 (⟨vd_23_61 E, mn_new _ _ _⟩)) (ac_leaf 64 (⟨vd_23_64 E, mn_dup _⟩))) (ac_node (ac_leaf 65 (ac_Vc0 (vd_23_65 E) (fun _ => rfl))) (ac_node (ac_leaf 68 (⟨vd_23_68 E, mn_pur _ _ _⟩)) (ac_leaf 71 (⟨vd_23_71 E, mn_ald _ _⟩)))))))) (ac_node (ac_node (ac_node (ac_node (ac_node (ac_leaf 72 (⟨vd_23_72 E, mn_new _ _ _⟩)) (ac_leaf 75 (⟨vd_23_75 E, mn_dup _⟩))) (ac_node (ac_leaf 76 (ac_Vc0 (vd_23_76 E) (fun _ => rfl))) (ac_leaf 79 (⟨vd_23_79 E, mn_pur _ _ _⟩)))) (ac_node (ac_node (ac_leaf 82 (⟨vd_23_82 E, mn_ald _ _⟩)) (ac_leaf 83 (⟨vd_23_83 E, mn_ald _ _⟩))) (ac_node (ac_leaf 84 (⟨vd_23_84 E, mn_get _ _ _⟩)) (ac_leaf 87 (⟨vd_23_87 E, mn_get _ _ _⟩))))) (ac_node (ac_node (ac_node (ac_leaf 90 (⟨vd_23_90 E, mn_ni _⟩)) (ac_leaf 92 (⟨vd_23_92 E, mn_pur _ _ _⟩))) (ac_node (ac_leaf 95 (⟨vd_23_95 E, mn_ald _ _⟩)) (ac_leaf 96 (⟨vd_23_96 E, mn_ald _ _⟩)))) (ac_node (ac_node (ac_leaf 97 (⟨vd_23_97 E, mn_get _ _ _⟩)) (ac_leaf 100 (⟨vd_23_100 E, mn_get _ _ _⟩))) (ac_node (ac_leaf 103 (⟨vd_23_103 E, mn_ni _⟩)) (ac_node (ac_leaf 105 (⟨vd_23_105 E, mn_pur _ _ _⟩)) (ac_leaf 108 (⟨vd_23_108 E, mn_ald _ _⟩))))))) (ac_node (ac_node (ac_node (ac_node (ac_leaf 109 (⟨vd_23_109 E, mn_ald _ _⟩)) (ac_leaf 110 (⟨vd_23_110 E, mn_get _ _ _⟩))) (ac_node (ac_leaf 113 (⟨vd_23_113 E, mn_get _ _ _⟩)) (ac_leaf 116 (⟨vd_23_116 E, mn_ni _⟩)))) (ac_node (ac_node (ac_leaf 118 (⟨vd_23_118 E, mn_pur _ _ _⟩)) (ac_leaf 121 (⟨vd_23_121 E, mn_ald _ _⟩))) (ac_node (ac_leaf 122 (⟨vd_23_122 E, mn_ald _ _⟩)) (ac_node (ac_leaf 123 (⟨vd_23_123 E, mn_get _ _ _⟩)) (ac_leaf 126 (⟨vd_23_126 E, mn_get _ _ _⟩)))))) (ac_node (ac_node (ac_node (ac_leaf 129 (⟨vd_23_129 E, mn_ni _⟩)) (ac_leaf 131 (⟨vd_23_131 E, mn_pur _ _ _⟩))) (ac_node (ac_leaf 134 (⟨vd_23_134 E, mn_ald _ _⟩)) (ac_leaf 135 (⟨vd_23_135 E, mn_con _ _⟩)))) (ac_node (ac_node (ac_leaf 136 (⟨vd_23_136 E, mn_put _ _ _⟩)) (ac_leaf 139 (⟨vd_23_139 E, mn_ald _ _⟩))) (ac_node (ac_leaf 140 (⟨vd_23_140 E, mn_con _ _⟩)) (ac_node (ac_leaf 141 (⟨vd_23_141 E, mn_put _ _ _⟩)) (ac_leaf 144 (ac_Vr0 dd_23_144 rfl)))))))))
theorem vd_24_0 (E : ac_E) : ac_ok E md_24 0 (o_ald 0 1) := ok_aload_n (E := E) (d := md_24) (pc := 0) (j := 0) dd_24_0
theorem vd_24_1 (E : ac_E) : ac_ok E md_24 1 (o_ild 1 2) := ok_iload_n (E := E) (d := md_24) (pc := 1) (j := 1) dd_24_1
theorem vd_24_2 (E : ac_E) : ac_ok E md_24 2 (o_ild 2 3) := ok_iload_n (E := E) (d := md_24) (pc := 2) (j := 2) dd_24_2
theorem vd_24_3 (E : ac_E) : ac_okr E md_24 md_43 3 3 6 6 ∧ ac_okt E md_24 md_43 3 3 6 := ok_callV (E := E) (d := md_24) (dz := md_43) (pc := 3) (T := TX4) (N := 12) rfl rfl (by decide) (by decide +kernel) wm_231 wm_50 wm_228 wm_230 wm_2 dd_24_3
theorem vd_24_6 (E : ac_E) : ac_ok E md_24 6 (o_ist 4 8) := ok_istore (E := E) (d := md_24) (pc := 6) dd_24_6
theorem vd_24_8 (E : ac_E) : ac_ok E md_24 8 (o_ild 3 9) := ok_iload_n (E := E) (d := md_24) (pc := 8) (j := 3) dd_24_8
theorem vd_24_9 (E : ac_E) : ac_okr E md_24 md_44 9 1 12 0 ∧ ac_okt E md_24 md_44 9 1 0 := ok_callS (E := E) (d := md_24) (dz := md_44) (pc := 9) rfl (by decide) (by decide +kernel) wm_304 wm_50 wm_302 wm_303 dd_24_9
theorem vd_24_12 (E : ac_E) : ac_ok E md_24 12 (o_ald 0 13) := ok_aload_n (E := E) (d := md_24) (pc := 12) (j := 0) dd_24_12
theorem vd_24_13 (E : ac_E) : ac_ok E md_24 13 (o_get 4 8 16) := ok_getf (E := E) (d := md_24) (pc := 13) (ci := 4) (f := 8) (C := RX4) (T := TX4) (N := 12) (ref := RX4) rfl win_4 (by decide) rfl wm_171 dd_24_13
theorem vd_24_16 (E : ac_E) : ac_ok E md_24 16 (o_ild 4 18) := ok_iload (E := E) (d := md_24) (pc := 16) dd_24_16
theorem vd_24_18 (E : ac_E) : ac_ok E md_24 18 (o_ild 3 19) := ok_iload_n (E := E) (d := md_24) (pc := 18) (j := 3) dd_24_18
theorem vd_24_19 (E : ac_E) : ac_ok E md_24 19 (o_is 20) := ok_iastore (E := E) (d := md_24) (pc := 19) dd_24_19
theorem vd_24_20 (E : ac_E) : ac_ok E md_24 20 (o_ald 0 21) := ok_aload_n (E := E) (d := md_24) (pc := 20) (j := 0) dd_24_20
theorem vd_24_21 (E : ac_E) : ac_ok E md_24 21 (o_get 4 5 24) := ok_getf (E := E) (d := md_24) (pc := 21) (ci := 4) (f := 5) (C := RX4) (T := TX4) (N := 12) (ref := RX4) rfl win_4 (by decide) rfl wm_168 dd_24_21
theorem vd_24_24 (E : ac_E) : ac_ok E md_24 24 (o_ild 4 26) := ok_iload (E := E) (d := md_24) (pc := 24) dd_24_24
theorem vd_24_26 (E : ac_E) : ac_okr E md_24 md_18 26 2 29 5 := ok_callVN (E := E) (d := md_24) (dz := md_18) (pc := 26) (T := TX3) (N := 3) rfl rfl (by decide) (by decide +kernel) wm_327 wm_55 wm_324 wm_326 wm_4 dd_24_26
theorem va_24 (E : ac_E) (pc : Nat) : ac_V E ac_MDf ac_HDf 24 pc (tb_24 (ac_len E) (ac_xs E) pc) := (ac_node (ac_node (ac_node (ac_node (ac_leaf 0 (⟨vd_24_0 E, mn_ald _ _⟩)) (ac_leaf 1 (⟨vd_24_1 E, mn_ild _ _⟩))) (ac_node (ac_leaf 2 (⟨vd_24_2 E, mn_ild _ _⟩)) (ac_leaf 3 (ac_Vcp (vd_24_3 E) rfl (fun _ => rfl))))) (ac_node (ac_node (ac_leaf 6 (⟨vd_24_6 E, mn_ist _ _⟩)) (ac_leaf 8 (⟨vd_24_8 E, mn_ild _ _⟩))) (ac_node (ac_leaf 9 (ac_Vcp (vd_24_9 E) rfl (fun _ => rfl))) (ac_leaf 12 (⟨vd_24_12 E, mn_ald _ _⟩))))) (ac_node (ac_node (ac_node (ac_leaf 13 (⟨vd_24_13 E, mn_get _ _ _⟩)) (ac_leaf 16 (⟨vd_24_16 E, mn_ild _ _⟩))) (ac_node (ac_leaf 18 (⟨vd_24_18 E, mn_ild _ _⟩)) (ac_leaf 19 (⟨vd_24_19 E, mn_is _⟩)))) (ac_node (ac_node (ac_leaf 20 (⟨vd_24_20 E, mn_ald _ _⟩)) (ac_leaf 21 (⟨vd_24_21 E, mn_get _ _ _⟩))) (ac_node (ac_leaf 24 (⟨vd_24_24 E, mn_ild _ _⟩)) (ac_node (ac_leaf 26 (ac_Vc0 (vd_24_26 E) (fun _ => rfl))) (ac_leaf 29 (ac_Vr0 dd_24_29 rfl)))))))
theorem vd_25_0 (E : ac_E) : ac_ok E md_25 0 (o_ald 0 1) := ok_aload_n (E := E) (d := md_25) (pc := 0) (j := 0) dd_25_0
theorem vd_25_1 (E : ac_E) : ac_ok E md_25 1 (o_get 4 8 4) := ok_getf (E := E) (d := md_25) (pc := 1) (ci := 4) (f := 8) (C := RX4) (T := TX4) (N := 12) (ref := RX4) rfl win_4 (by decide) rfl wm_171 dd_25_1
theorem vd_25_4 (E : ac_E) : ac_ok E md_25 4 (o_ald 0 5) := ok_aload_n (E := E) (d := md_25) (pc := 4) (j := 0) dd_25_4
theorem vd_25_5 (E : ac_E) : ac_ok E md_25 5 (o_ild 1 6) := ok_iload_n (E := E) (d := md_25) (pc := 5) (j := 1) dd_25_5
theorem vd_25_6 (E : ac_E) : ac_ok E md_25 6 (o_ild 2 7) := ok_iload_n (E := E) (d := md_25) (pc := 6) (j := 2) dd_25_6
theorem vd_25_7 (E : ac_E) : ac_okr E md_25 md_43 7 3 10 6 ∧ ac_okt E md_25 md_43 7 3 6 := ok_callV (E := E) (d := md_25) (dz := md_43) (pc := 7) (T := TX4) (N := 12) rfl rfl (by decide) (by decide +kernel) wm_231 wm_50 wm_228 wm_230 wm_2 dd_25_7
theorem vd_25_10 (E : ac_E) : ac_ok E md_25 10 (o_ia 11) := ok_iaload (E := E) (d := md_25) (pc := 10) dd_25_10
theorem va_25 (E : ac_E) (pc : Nat) : ac_V E ac_MDf ac_HDf 25 pc (tb_25 (ac_len E) (ac_xs E) pc) := (ac_node (ac_node (ac_node (ac_leaf 0 (⟨vd_25_0 E, mn_ald _ _⟩)) (ac_leaf 1 (⟨vd_25_1 E, mn_get _ _ _⟩))) (ac_node (ac_leaf 4 (⟨vd_25_4 E, mn_ald _ _⟩)) (ac_leaf 5 (⟨vd_25_5 E, mn_ild _ _⟩)))) (ac_node (ac_node (ac_leaf 6 (⟨vd_25_6 E, mn_ild _ _⟩)) (ac_leaf 7 (ac_Vcp (vd_25_7 E) rfl (fun _ => rfl)))) (ac_node (ac_leaf 10 (⟨vd_25_10 E, mn_ia _⟩)) (ac_leaf 11 (ac_Vr1 dd_25_11 rfl)))))
theorem vd_26_0 (E : ac_E) : ac_ok E md_26 0 (o_ild 1 1) := ok_iload_n (E := E) (d := md_26) (pc := 0) (j := 1) dd_26_0
theorem vd_26_1 (E : ac_E) : ac_okr E md_26 md_44 1 1 4 0 ∧ ac_okt E md_26 md_44 1 1 0 := ok_callS (E := E) (d := md_26) (dz := md_44) (pc := 1) rfl (by decide) (by decide +kernel) wm_304 wm_50 wm_302 wm_303 dd_26_1
theorem vd_26_4 (E : ac_E) : ac_ok E md_26 4 (o_ild 2 5) := ok_iload_n (E := E) (d := md_26) (pc := 4) (j := 2) dd_26_4
theorem vd_26_5 (E : ac_E) : ac_ok E md_26 5 (o_con (.int 0) 6) := ok_iconst (E := E) (d := md_26) (pc := 5) dd_26_5 (by decide)
theorem vd_26_6 (E : ac_E) : ac_ok E md_26 6 (o_con (.int 1) 7) := ok_iconst (E := E) (d := md_26) (pc := 6) dd_26_6 (by decide)
theorem vd_26_7 (E : ac_E) : ac_okr E md_26 md_45 7 3 10 0 ∧ ac_okt E md_26 md_45 7 3 0 := ok_callS (E := E) (d := md_26) (dz := md_45) (pc := 7) rfl (by decide) (by decide +kernel) wm_307 wm_50 wm_305 wm_306 dd_26_7
theorem vd_26_10 (E : ac_E) : ac_ok E md_26 10 (o_ild 1 11) := ok_iload_n (E := E) (d := md_26) (pc := 10) (j := 1) dd_26_10
theorem vd_26_11 (E : ac_E) : ac_ok E md_26 11 (o_ild 2 12) := ok_iload_n (E := E) (d := md_26) (pc := 11) (j := 2) dd_26_11
theorem vd_26_12 (E : ac_E) : ac_okr E md_26 md_51 12 2 15 0 ∧ ac_okt E md_26 md_51 12 2 0 := ok_callS (E := E) (d := md_26) (dz := md_51) (pc := 12) rfl (by decide) (by decide +kernel) wm_344 wm_50 wm_342 wm_343 dd_26_12
theorem va_26 (E : ac_E) (pc : Nat) : ac_V E ac_MDf ac_HDf 26 pc (tb_26 (ac_len E) (ac_xs E) pc) := (ac_node (ac_node (ac_node (ac_leaf 0 (⟨vd_26_0 E, mn_ild _ _⟩)) (ac_leaf 1 (ac_Vcp (vd_26_1 E) rfl (fun _ => rfl)))) (ac_node (ac_leaf 4 (⟨vd_26_4 E, mn_ild _ _⟩)) (ac_node (ac_leaf 5 (⟨vd_26_5 E, mn_con _ _⟩)) (ac_leaf 6 (⟨vd_26_6 E, mn_con _ _⟩))))) (ac_node (ac_node (ac_leaf 7 (ac_Vcp (vd_26_7 E) rfl (fun _ => rfl))) (ac_leaf 10 (⟨vd_26_10 E, mn_ild _ _⟩))) (ac_node (ac_leaf 11 (⟨vd_26_11 E, mn_ild _ _⟩)) (ac_node (ac_leaf 12 (ac_Vc0 ((vd_26_12 E).1) (fun _ => rfl))) (ac_leaf 15 (ac_Vr1 dd_26_15 rfl))))))
theorem vd_27_0 (E : ac_E) : ac_ok E md_27 0 (o_ald 0 1) := ok_aload_n (E := E) (d := md_27) (pc := 0) (j := 0) dd_27_0
theorem vd_27_1 (E : ac_E) : ac_ok E md_27 1 (o_ald 0 2) := ok_aload_n (E := E) (d := md_27) (pc := 1) (j := 0) dd_27_1
theorem vd_27_2 (E : ac_E) : ac_ok E md_27 2 (o_ild 1 3) := ok_iload_n (E := E) (d := md_27) (pc := 2) (j := 1) dd_27_2
theorem vd_27_3 (E : ac_E) : ac_ok E md_27 3 (o_ild 2 4) := ok_iload_n (E := E) (d := md_27) (pc := 3) (j := 2) dd_27_3
theorem vd_27_4 (E : ac_E) : ac_okr E md_27 md_43 4 3 7 6 ∧ ac_okt E md_27 md_43 4 3 6 := ok_callV (E := E) (d := md_27) (dz := md_43) (pc := 4) (T := TX4) (N := 12) rfl rfl (by decide) (by decide +kernel) wm_231 wm_50 wm_228 wm_230 wm_2 dd_27_4
theorem vd_27_7 (E : ac_E) : ac_ok E md_27 7 (o_con (.int 1) 8) := ok_iconst (E := E) (d := md_27) (pc := 7) dd_27_7 (by decide)
theorem vd_27_8 (E : ac_E) : ac_ok E md_27 8 (o_ild 3 9) := ok_iload_n (E := E) (d := md_27) (pc := 8) (j := 3) dd_27_8
theorem vd_27_9 (E : ac_E) : ac_okr E md_27 md_46 9 4 12 6 ∧ ac_okt E md_27 md_46 9 4 6 := ok_callV (E := E) (d := md_27) (dz := md_46) (pc := 9) (T := TX4) (N := 12) rfl rfl (by decide) (by decide +kernel) wm_365 wm_50 wm_362 wm_364 wm_5 dd_27_9
theorem va_27 (E : ac_E) (pc : Nat) : ac_V E ac_MDf ac_HDf 27 pc (tb_27 (ac_len E) (ac_xs E) pc) := (ac_node (ac_node (ac_node (ac_leaf 0 (⟨vd_27_0 E, mn_ald _ _⟩)) (ac_leaf 1 (⟨vd_27_1 E, mn_ald _ _⟩))) (ac_node (ac_leaf 2 (⟨vd_27_2 E, mn_ild _ _⟩)) (ac_leaf 3 (⟨vd_27_3 E, mn_ild _ _⟩)))) (ac_node (ac_node (ac_leaf 4 (ac_Vcp (vd_27_4 E) rfl (fun _ => rfl))) (ac_leaf 7 (⟨vd_27_7 E, mn_con _ _⟩))) (ac_node (ac_leaf 8 (⟨vd_27_8 E, mn_ild _ _⟩)) (ac_node (ac_leaf 9 (ac_Vcp (vd_27_9 E) rfl (fun _ => rfl))) (ac_leaf 12 (ac_Vr2 dd_27_12 rfl))))))
theorem vd_28_0 (E : ac_E) : ac_ok E md_28 0 (o_ald 0 1) := ok_aload_n (E := E) (d := md_28) (pc := 0) (j := 0) dd_28_0
theorem vd_28_1 (E : ac_E) : ac_ok E md_28 1 (o_ild 1 2) := ok_iload_n (E := E) (d := md_28) (pc := 1) (j := 1) dd_28_1
theorem vd_28_2 (E : ac_E) : ac_ok E md_28 2 (o_ild 2 3) := ok_iload_n (E := E) (d := md_28) (pc := 2) (j := 2) dd_28_2
theorem vd_28_3 (E : ac_E) : ac_okr E md_28 md_43 3 3 6 6 ∧ ac_okt E md_28 md_43 3 3 6 := ok_callV (E := E) (d := md_28) (dz := md_43) (pc := 3) (T := TX4) (N := 12) rfl rfl (by decide) (by decide +kernel) wm_231 wm_50 wm_228 wm_230 wm_2 dd_28_3
theorem vd_28_6 (E : ac_E) : ac_ok E md_28 6 (o_ist 4 8) := ok_istore (E := E) (d := md_28) (pc := 6) dd_28_6
theorem vd_28_8 (E : ac_E) : ac_ok E md_28 8 (o_ild 3 9) := ok_iload_n (E := E) (d := md_28) (pc := 8) (j := 3) dd_28_8
theorem vd_28_9 (E : ac_E) : ac_ok E md_28 9 (o_con (.int 0) 10) := ok_iconst (E := E) (d := md_28) (pc := 9) dd_28_9 (by decide)
theorem vd_28_10 (E : ac_E) : ac_ok E md_28 10 (o_con (.int 256) 13) := ok_sipush (E := E) (d := md_28) (pc := 10) dd_28_10 (by decide)
theorem vd_28_13 (E : ac_E) : ac_okr E md_28 md_45 13 3 16 0 ∧ ac_okt E md_28 md_45 13 3 0 := ok_callS (E := E) (d := md_28) (dz := md_45) (pc := 13) rfl (by decide) (by decide +kernel) wm_307 wm_50 wm_305 wm_306 dd_28_13
theorem vd_28_16 (E : ac_E) : ac_ok E md_28 16 (o_ald 0 17) := ok_aload_n (E := E) (d := md_28) (pc := 16) (j := 0) dd_28_16
theorem vd_28_17 (E : ac_E) : ac_ok E md_28 17 (o_ild 4 19) := ok_iload (E := E) (d := md_28) (pc := 17) dd_28_17
theorem vd_28_19 (E : ac_E) : ac_ok E md_28 19 (o_con (.int 2) 20) := ok_iconst (E := E) (d := md_28) (pc := 19) dd_28_19 (by decide)
theorem vd_28_20 (E : ac_E) : ac_ok E md_28 20 (o_ild 3 21) := ok_iload_n (E := E) (d := md_28) (pc := 20) (j := 3) dd_28_20
theorem vd_28_21 (E : ac_E) : ac_ok E md_28 21 (o_le0 28 24) := ok_ifle (E := E) (d := md_28) (pc := 21) dd_28_21 (by decide)
theorem vd_28_24 (E : ac_E) : ac_ok E md_28 24 (o_con (.int 1) 25) := ok_iconst (E := E) (d := md_28) (pc := 24) dd_28_24 (by decide)
theorem vd_28_25 (E : ac_E) : ac_ok E md_28 25 (o_go 29) := ok_goto (E := E) (d := md_28) (pc := 25) dd_28_25 (by decide)
theorem vd_28_28 (E : ac_E) : ac_ok E md_28 28 (o_con (.int 0) 29) := ok_iconst (E := E) (d := md_28) (pc := 28) dd_28_28 (by decide)
theorem vd_28_29 (E : ac_E) : ac_okr E md_28 md_46 29 4 32 6 ∧ ac_okt E md_28 md_46 29 4 6 := ok_callV (E := E) (d := md_28) (dz := md_46) (pc := 29) (T := TX4) (N := 12) rfl rfl (by decide) (by decide +kernel) wm_365 wm_50 wm_362 wm_364 wm_5 dd_28_29
theorem vd_28_32 (E : ac_E) : ac_ok E md_28 32 (o_pop 33) := ok_pop (E := E) (d := md_28) (pc := 32) dd_28_32
theorem vd_28_33 (E : ac_E) : ac_ok E md_28 33 (o_ald 0 34) := ok_aload_n (E := E) (d := md_28) (pc := 33) (j := 0) dd_28_33
theorem vd_28_34 (E : ac_E) : ac_ok E md_28 34 (o_get 4 2 37) := ok_getf (E := E) (d := md_28) (pc := 34) (ci := 4) (f := 2) (C := RX4) (T := TX4) (N := 12) (ref := RX4) rfl win_4 (by decide) rfl wm_165 dd_28_34
theorem vd_28_37 (E : ac_E) : ac_ok E md_28 37 (o_ild 4 39) := ok_iload (E := E) (d := md_28) (pc := 37) dd_28_37
theorem vd_28_39 (E : ac_E) : ac_ok E md_28 39 (o_ild 3 40) := ok_iload_n (E := E) (d := md_28) (pc := 39) (j := 3) dd_28_39
theorem vd_28_40 (E : ac_E) : ac_ok E md_28 40 (o_is 41) := ok_iastore (E := E) (d := md_28) (pc := 40) dd_28_40
theorem va_28 (E : ac_E) (pc : Nat) : ac_V E ac_MDf ac_HDf 28 pc (tb_28 (ac_len E) (ac_xs E) pc) := (ac_node (ac_node (ac_node (ac_node (ac_leaf 0 (⟨vd_28_0 E, mn_ald _ _⟩)) (ac_node (ac_leaf 1 (⟨vd_28_1 E, mn_ild _ _⟩)) (ac_leaf 2 (⟨vd_28_2 E, mn_ild _ _⟩)))) (ac_node (ac_leaf 3 (ac_Vcp (vd_28_3 E) rfl (fun _ => rfl))) (ac_node (ac_leaf 6 (⟨vd_28_6 E, mn_ist _ _⟩)) (ac_leaf 8 (⟨vd_28_8 E, mn_ild _ _⟩))))) (ac_node (ac_node (ac_leaf 9 (⟨vd_28_9 E, mn_con _ _⟩)) (ac_node (ac_leaf 10 (⟨vd_28_10 E, mn_con _ _⟩)) (ac_leaf 13 (ac_Vcp (vd_28_13 E) rfl (fun _ => rfl))))) (ac_node (ac_leaf 16 (⟨vd_28_16 E, mn_ald _ _⟩)) (ac_node (ac_leaf 17 (⟨vd_28_17 E, mn_ild _ _⟩)) (ac_leaf 19 (⟨vd_28_19 E, mn_con _ _⟩)))))) (ac_node (ac_node (ac_node (ac_leaf 20 (⟨vd_28_20 E, mn_ild _ _⟩)) (ac_node (ac_leaf 21 (⟨vd_28_21 E, mn_le0 _ _⟩)) (ac_leaf 24 (⟨vd_28_24 E, mn_con _ _⟩)))) (ac_node (ac_leaf 25 (⟨vd_28_25 E, mn_go _⟩)) (ac_node (ac_leaf 28 (⟨vd_28_28 E, mn_con _ _⟩)) (ac_leaf 29 (ac_Vcp (vd_28_29 E) rfl (fun _ => rfl)))))) (ac_node (ac_node (ac_leaf 32 (⟨vd_28_32 E, mn_pop _⟩)) (ac_node (ac_leaf 33 (⟨vd_28_33 E, mn_ald _ _⟩)) (ac_leaf 34 (⟨vd_28_34 E, mn_get _ _ _⟩)))) (ac_node (ac_node (ac_leaf 37 (⟨vd_28_37 E, mn_ild _ _⟩)) (ac_leaf 39 (⟨vd_28_39 E, mn_ild _ _⟩))) (ac_node (ac_leaf 40 (⟨vd_28_40 E, mn_is _⟩)) (ac_leaf 41 (ac_Vr0 dd_28_41 rfl)))))))
theorem vd_29_0 (E : ac_E) : ac_ok E md_29 0 (o_ald 0 1) := ok_aload_n (E := E) (d := md_29) (pc := 0) (j := 0) dd_29_0
theorem vd_29_1 (E : ac_E) : ac_ok E md_29 1 (o_ald 0 2) := ok_aload_n (E := E) (d := md_29) (pc := 1) (j := 0) dd_29_1
theorem vd_29_2 (E : ac_E) : ac_ok E md_29 2 (o_ild 1 3) := ok_iload_n (E := E) (d := md_29) (pc := 2) (j := 1) dd_29_2
theorem vd_29_3 (E : ac_E) : ac_ok E md_29 3 (o_ild 2 4) := ok_iload_n (E := E) (d := md_29) (pc := 3) (j := 2) dd_29_3
theorem vd_29_4 (E : ac_E) : ac_okr E md_29 md_43 4 3 7 6 ∧ ac_okt E md_29 md_43 4 3 6 := ok_callV (E := E) (d := md_29) (dz := md_43) (pc := 4) (T := TX4) (N := 12) rfl rfl (by decide) (by decide +kernel) wm_231 wm_50 wm_228 wm_230 wm_2 dd_29_4
theorem vd_29_7 (E : ac_E) : ac_ok E md_29 7 (o_con (.int 3) 8) := ok_iconst (E := E) (d := md_29) (pc := 7) dd_29_7 (by decide)
theorem vd_29_8 (E : ac_E) : ac_ok E md_29 8 (o_ild 3 9) := ok_iload_n (E := E) (d := md_29) (pc := 8) (j := 3) dd_29_8
theorem vd_29_9 (E : ac_E) : ac_okr E md_29 md_46 9 4 12 6 ∧ ac_okt E md_29 md_46 9 4 6 := ok_callV (E := E) (d := md_29) (dz := md_46) (pc := 9) (T := TX4) (N := 12) rfl rfl (by decide) (by decide +kernel) wm_365 wm_50 wm_362 wm_364 wm_5 dd_29_9
theorem va_29 (E : ac_E) (pc : Nat) : ac_V E ac_MDf ac_HDf 29 pc (tb_29 (ac_len E) (ac_xs E) pc) := (ac_node (ac_node (ac_node (ac_leaf 0 (⟨vd_29_0 E, mn_ald _ _⟩)) (ac_leaf 1 (⟨vd_29_1 E, mn_ald _ _⟩))) (ac_node (ac_leaf 2 (⟨vd_29_2 E, mn_ild _ _⟩)) (ac_leaf 3 (⟨vd_29_3 E, mn_ild _ _⟩)))) (ac_node (ac_node (ac_leaf 4 (ac_Vcp (vd_29_4 E) rfl (fun _ => rfl))) (ac_leaf 7 (⟨vd_29_7 E, mn_con _ _⟩))) (ac_node (ac_leaf 8 (⟨vd_29_8 E, mn_ild _ _⟩)) (ac_node (ac_leaf 9 (ac_Vcp (vd_29_9 E) rfl (fun _ => rfl))) (ac_leaf 12 (ac_Vr2 dd_29_12 rfl))))))
theorem vd_30_0 (E : ac_E) : ac_ok E md_30 0 (o_ald 0 1) := ok_aload_n (E := E) (d := md_30) (pc := 0) (j := 0) dd_30_0
theorem vd_30_1 (E : ac_E) : ac_ok E md_30 1 (o_ald 0 2) := ok_aload_n (E := E) (d := md_30) (pc := 1) (j := 0) dd_30_1
theorem vd_30_2 (E : ac_E) : ac_ok E md_30 2 (o_ild 1 3) := ok_iload_n (E := E) (d := md_30) (pc := 2) (j := 1) dd_30_2
theorem vd_30_3 (E : ac_E) : ac_ok E md_30 3 (o_ild 2 4) := ok_iload_n (E := E) (d := md_30) (pc := 3) (j := 2) dd_30_3
theorem vd_30_4 (E : ac_E) : ac_okr E md_30 md_43 4 3 7 6 ∧ ac_okt E md_30 md_43 4 3 6 := ok_callV (E := E) (d := md_30) (dz := md_43) (pc := 4) (T := TX4) (N := 12) rfl rfl (by decide) (by decide +kernel) wm_231 wm_50 wm_228 wm_230 wm_2 dd_30_4
theorem vd_30_7 (E : ac_E) : ac_ok E md_30 7 (o_con (.int 4) 8) := ok_iconst (E := E) (d := md_30) (pc := 7) dd_30_7 (by decide)
theorem vd_30_8 (E : ac_E) : ac_ok E md_30 8 (o_ild 3 9) := ok_iload_n (E := E) (d := md_30) (pc := 8) (j := 3) dd_30_8
theorem vd_30_9 (E : ac_E) : ac_okr E md_30 md_46 9 4 12 6 ∧ ac_okt E md_30 md_46 9 4 6 := ok_callV (E := E) (d := md_30) (dz := md_46) (pc := 9) (T := TX4) (N := 12) rfl rfl (by decide) (by decide +kernel) wm_365 wm_50 wm_362 wm_364 wm_5 dd_30_9
theorem va_30 (E : ac_E) (pc : Nat) : ac_V E ac_MDf ac_HDf 30 pc (tb_30 (ac_len E) (ac_xs E) pc) := (ac_node (ac_node (ac_node (ac_leaf 0 (⟨vd_30_0 E, mn_ald _ _⟩)) (ac_leaf 1 (⟨vd_30_1 E, mn_ald _ _⟩))) (ac_node (ac_leaf 2 (⟨vd_30_2 E, mn_ild _ _⟩)) (ac_leaf 3 (⟨vd_30_3 E, mn_ild _ _⟩)))) (ac_node (ac_node (ac_leaf 4 (ac_Vcp (vd_30_4 E) rfl (fun _ => rfl))) (ac_leaf 7 (⟨vd_30_7 E, mn_con _ _⟩))) (ac_node (ac_leaf 8 (⟨vd_30_8 E, mn_ild _ _⟩)) (ac_node (ac_leaf 9 (ac_Vcp (vd_30_9 E) rfl (fun _ => rfl))) (ac_leaf 12 (ac_Vr2 dd_30_12 rfl))))))
theorem vd_31_0 (E : ac_E) : ac_ok E md_31 0 (o_ald 0 1) := ok_aload_n (E := E) (d := md_31) (pc := 0) (j := 0) dd_31_0
theorem vd_31_1 (E : ac_E) : ac_ok E md_31 1 (o_get 4 1 4) := ok_getf (E := E) (d := md_31) (pc := 1) (ci := 4) (f := 1) (C := RX4) (T := TX4) (N := 12) (ref := RX4) rfl win_4 (by decide) rfl wm_164 dd_31_1
theorem vd_31_4 (E : ac_E) : ac_ok E md_31 4 (o_ald 0 5) := ok_aload_n (E := E) (d := md_31) (pc := 4) (j := 0) dd_31_4
theorem vd_31_5 (E : ac_E) : ac_ok E md_31 5 (o_ild 1 6) := ok_iload_n (E := E) (d := md_31) (pc := 5) (j := 1) dd_31_5
theorem vd_31_6 (E : ac_E) : ac_ok E md_31 6 (o_ild 2 7) := ok_iload_n (E := E) (d := md_31) (pc := 6) (j := 2) dd_31_6
theorem vd_31_7 (E : ac_E) : ac_okr E md_31 md_43 7 3 10 6 ∧ ac_okt E md_31 md_43 7 3 6 := ok_callV (E := E) (d := md_31) (dz := md_43) (pc := 7) (T := TX4) (N := 12) rfl rfl (by decide) (by decide +kernel) wm_231 wm_50 wm_228 wm_230 wm_2 dd_31_7
theorem vd_31_10 (E : ac_E) : ac_ok E md_31 10 (o_ia 11) := ok_iaload (E := E) (d := md_31) (pc := 10) dd_31_10
theorem va_31 (E : ac_E) (pc : Nat) : ac_V E ac_MDf ac_HDf 31 pc (tb_31 (ac_len E) (ac_xs E) pc) := (ac_node (ac_node (ac_node (ac_leaf 0 (⟨vd_31_0 E, mn_ald _ _⟩)) (ac_leaf 1 (⟨vd_31_1 E, mn_get _ _ _⟩))) (ac_node (ac_leaf 4 (⟨vd_31_4 E, mn_ald _ _⟩)) (ac_leaf 5 (⟨vd_31_5 E, mn_ild _ _⟩)))) (ac_node (ac_node (ac_leaf 6 (⟨vd_31_6 E, mn_ild _ _⟩)) (ac_leaf 7 (ac_Vcp (vd_31_7 E) rfl (fun _ => rfl)))) (ac_node (ac_leaf 10 (⟨vd_31_10 E, mn_ia _⟩)) (ac_leaf 11 (ac_Vr1 dd_31_11 rfl)))))
theorem vd_32_0 (E : ac_E) : ac_ok E md_32 0 (o_ild 1 1) := ok_iload_n (E := E) (d := md_32) (pc := 0) (j := 1) dd_32_0
theorem vd_32_1 (E : ac_E) : ac_ok E md_32 1 (o_con (.int 1) 2) := ok_iconst (E := E) (d := md_32) (pc := 1) dd_32_1 (by decide)
theorem vd_32_2 (E : ac_E) : ac_ok E md_32 2 (o_con (.int 10000) 5) := ok_sipush (E := E) (d := md_32) (pc := 2) dd_32_2 (by decide)
theorem vd_32_5 (E : ac_E) : ac_okr E md_32 md_45 5 3 8 0 ∧ ac_okt E md_32 md_45 5 3 0 := ok_callS (E := E) (d := md_32) (dz := md_45) (pc := 5) rfl (by decide) (by decide +kernel) wm_307 wm_50 wm_305 wm_306 dd_32_5
theorem vd_32_8 (E : ac_E) : ac_ok E md_32 8 (o_ald 0 9) := ok_aload_n (E := E) (d := md_32) (pc := 8) (j := 0) dd_32_8
theorem vd_32_9 (E : ac_E) : ac_ok E md_32 9 (o_get 4 4 12) := ok_getf (E := E) (d := md_32) (pc := 9) (ci := 4) (f := 4) (C := RX4) (T := TX4) (N := 12) (ref := RX4) rfl win_4 (by decide) rfl wm_167 dd_32_9
theorem vd_32_12 (E : ac_E) : ac_ok E md_32 12 (o_ild 1 13) := ok_iload_n (E := E) (d := md_32) (pc := 12) (j := 1) dd_32_12
theorem vd_32_13 (E : ac_E) : ac_ok E md_32 13 (o_put 0 0 16) := ok_putN (E := E) (d := md_32) (pc := 13) (ci := 0) (f := 0) (C := RX0) (T := TX0) (N := 4) (ref := RX0) rfl win_0 (by decide) rfl tyX0 tyX0_ok nmX0 (by decide +kernel) rfl wm_128 dd_32_13
theorem va_32 (E : ac_E) (pc : Nat) : ac_V E ac_MDf ac_HDf 32 pc (tb_32 (ac_len E) (ac_xs E) pc) := (ac_node (ac_node (ac_node (ac_leaf 0 (⟨vd_32_0 E, mn_ild _ _⟩)) (ac_leaf 1 (⟨vd_32_1 E, mn_con _ _⟩))) (ac_node (ac_leaf 2 (⟨vd_32_2 E, mn_con _ _⟩)) (ac_leaf 5 (ac_Vcp (vd_32_5 E) rfl (fun _ => rfl))))) (ac_node (ac_node (ac_leaf 8 (⟨vd_32_8 E, mn_ald _ _⟩)) (ac_leaf 9 (⟨vd_32_9 E, mn_get _ _ _⟩))) (ac_node (ac_leaf 12 (⟨vd_32_12 E, mn_ild _ _⟩)) (ac_node (ac_leaf 13 (⟨vd_32_13 E, mn_put _ _ _⟩)) (ac_leaf 16 (ac_Vr0 dd_32_16 rfl))))))
theorem vd_33_0 (E : ac_E) : ac_ok E md_33 0 (o_ild 1 1) := ok_iload_n (E := E) (d := md_33) (pc := 0) (j := 1) dd_33_0
theorem vd_33_1 (E : ac_E) : ac_ok E md_33 1 (o_con (.int 0) 2) := ok_iconst (E := E) (d := md_33) (pc := 1) dd_33_1 (by decide)
theorem vd_33_2 (E : ac_E) : ac_ok E md_33 2 (o_con (.int 2) 3) := ok_iconst (E := E) (d := md_33) (pc := 2) dd_33_2 (by decide)
theorem vd_33_3 (E : ac_E) : ac_okr E md_33 md_45 3 3 6 0 ∧ ac_okt E md_33 md_45 3 3 0 := ok_callS (E := E) (d := md_33) (dz := md_45) (pc := 3) rfl (by decide) (by decide +kernel) wm_307 wm_50 wm_305 wm_306 dd_33_3
theorem vd_33_6 (E : ac_E) : ac_ok E md_33 6 (o_ild 1 7) := ok_iload_n (E := E) (d := md_33) (pc := 6) (j := 1) dd_33_6
theorem vd_33_7 (E : ac_E) : ac_ok E md_33 7 (o_ne0 18 10) := ok_ifne (E := E) (d := md_33) (pc := 7) dd_33_7 (by decide)
theorem vd_33_10 (E : ac_E) : ac_ok E md_33 10 (o_ald 0 11) := ok_aload_n (E := E) (d := md_33) (pc := 10) (j := 0) dd_33_10
theorem vd_33_11 (E : ac_E) : ac_ok E md_33 11 (o_get 4 4 14) := ok_getf (E := E) (d := md_33) (pc := 11) (ci := 4) (f := 4) (C := RX4) (T := TX4) (N := 12) (ref := RX4) rfl win_4 (by decide) rfl wm_167 dd_33_11
theorem vd_33_14 (E : ac_E) : ac_ok E md_33 14 (o_get 0 1 17) := ok_getN (E := E) (d := md_33) (pc := 14) (ci := 0) (f := 1) (C := RX0) (T := TX0) (N := 4) (ref := RX0) rfl win_0 (by decide) rfl wm_130 dd_33_14
theorem vd_33_18 (E : ac_E) : ac_ok E md_33 18 (o_ild 1 19) := ok_iload_n (E := E) (d := md_33) (pc := 18) (j := 1) dd_33_18
theorem vd_33_19 (E : ac_E) : ac_ok E md_33 19 (o_con (.int 1) 20) := ok_iconst (E := E) (d := md_33) (pc := 19) dd_33_19 (by decide)
theorem vd_33_20 (E : ac_E) : ac_ok E md_33 20 (o_ne 33 23) := ok_icmpne (E := E) (d := md_33) (pc := 20) dd_33_20 (by decide)
theorem vd_33_23 (E : ac_E) : ac_ok E md_33 23 (o_ald 0 24) := ok_aload_n (E := E) (d := md_33) (pc := 23) (j := 0) dd_33_23
theorem vd_33_24 (E : ac_E) : ac_ok E md_33 24 (o_get 4 4 27) := ok_getf (E := E) (d := md_33) (pc := 24) (ci := 4) (f := 4) (C := RX4) (T := TX4) (N := 12) (ref := RX4) rfl win_4 (by decide) rfl wm_167 dd_33_24
theorem vd_33_27 (E : ac_E) : ac_ok E md_33 27 (o_get 0 2 30) := ok_getN (E := E) (d := md_33) (pc := 27) (ci := 0) (f := 2) (C := RX0) (T := TX0) (N := 4) (ref := RX0) rfl win_0 (by decide) rfl wm_132 dd_33_27
theorem vd_33_30 (E : ac_E) : ac_ok E md_33 30 (o_go 40) := ok_goto (E := E) (d := md_33) (pc := 30) dd_33_30 (by decide)
theorem vd_33_33 (E : ac_E) : ac_ok E md_33 33 (o_ald 0 34) := ok_aload_n (E := E) (d := md_33) (pc := 33) (j := 0) dd_33_33
theorem vd_33_34 (E : ac_E) : ac_ok E md_33 34 (o_get 4 4 37) := ok_getf (E := E) (d := md_33) (pc := 34) (ci := 4) (f := 4) (C := RX4) (T := TX4) (N := 12) (ref := RX4) rfl win_4 (by decide) rfl wm_167 dd_33_34
theorem vd_33_37 (E : ac_E) : ac_ok E md_33 37 (o_get 0 3 40) := ok_getN (E := E) (d := md_33) (pc := 37) (ci := 0) (f := 3) (C := RX0) (T := TX0) (N := 4) (ref := RX0) rfl win_0 (by decide) rfl wm_134 dd_33_37
theorem va_33 (E : ac_E) (pc : Nat) : ac_V E ac_MDf ac_HDf 33 pc (tb_33 (ac_len E) (ac_xs E) pc) := (ac_node (ac_node (ac_node (ac_node (ac_leaf 0 (⟨vd_33_0 E, mn_ild _ _⟩)) (ac_leaf 1 (⟨vd_33_1 E, mn_con _ _⟩))) (ac_node (ac_leaf 2 (⟨vd_33_2 E, mn_con _ _⟩)) (ac_node (ac_leaf 3 (ac_Vcp (vd_33_3 E) rfl (fun _ => rfl))) (ac_leaf 6 (⟨vd_33_6 E, mn_ild _ _⟩))))) (ac_node (ac_node (ac_leaf 7 (⟨vd_33_7 E, mn_ne0 _ _⟩)) (ac_leaf 10 (⟨vd_33_10 E, mn_ald _ _⟩))) (ac_node (ac_leaf 11 (⟨vd_33_11 E, mn_get _ _ _⟩)) (ac_node (ac_leaf 14 (⟨vd_33_14 E, mn_get _ _ _⟩)) (ac_leaf 17 (ac_Vr1 dd_33_17 rfl)))))) (ac_node (ac_node (ac_node (ac_leaf 18 (⟨vd_33_18 E, mn_ild _ _⟩)) (ac_leaf 19 (⟨vd_33_19 E, mn_con _ _⟩))) (ac_node (ac_leaf 20 (⟨vd_33_20 E, mn_ne _ _⟩)) (ac_node (ac_leaf 23 (⟨vd_33_23 E, mn_ald _ _⟩)) (ac_leaf 24 (⟨vd_33_24 E, mn_get _ _ _⟩))))) (ac_node (ac_node (ac_leaf 27 (⟨vd_33_27 E, mn_get _ _ _⟩)) (ac_node (ac_leaf 30 (⟨vd_33_30 E, mn_go _⟩)) (ac_leaf 33 (⟨vd_33_33 E, mn_ald _ _⟩)))) (ac_node (ac_leaf 34 (⟨vd_33_34 E, mn_get _ _ _⟩)) (ac_node (ac_leaf 37 (⟨vd_33_37 E, mn_get _ _ _⟩)) (ac_leaf 40 (ac_Vr1 dd_33_40 rfl)))))))
theorem vd_34_0 (E : ac_E) : ac_ok E md_34 0 (o_ald 0 1) := ok_aload_n (E := E) (d := md_34) (pc := 0) (j := 0) dd_34_0
theorem vd_34_1 (E : ac_E) : ac_ok E md_34 1 (o_ild 1 2) := ok_iload_n (E := E) (d := md_34) (pc := 1) (j := 1) dd_34_1
theorem vd_34_2 (E : ac_E) : ac_ok E md_34 2 (o_put 4 11 5) := ok_putf (E := E) (d := md_34) (pc := 2) (ci := 4) (f := 11) (C := RX4) (T := TX4) (N := 12) (ref := RX4) rfl win_4 (by decide) rfl tyX4 tyX4_ok nmX4 (by decide +kernel) rfl wm_174 dd_34_2
theorem va_34 (E : ac_E) (pc : Nat) : ac_V E ac_MDf ac_HDf 34 pc (tb_34 (ac_len E) (ac_xs E) pc) := (ac_node (ac_node (ac_leaf 0 (⟨vd_34_0 E, mn_ald _ _⟩)) (ac_leaf 1 (⟨vd_34_1 E, mn_ild _ _⟩))) (ac_node (ac_leaf 2 (⟨vd_34_2 E, mn_put _ _ _⟩)) (ac_leaf 5 (ac_Vr0 dd_34_5 rfl))))
theorem vd_35_0 (E : ac_E) : ac_ok E md_35 0 (o_ild 1 1) := ok_iload_n (E := E) (d := md_35) (pc := 0) (j := 1) dd_35_0
theorem vd_35_1 (E : ac_E) : ac_ok E md_35 1 (o_con (.int 0) 2) := ok_iconst (E := E) (d := md_35) (pc := 1) dd_35_1 (by decide)
theorem vd_35_2 (E : ac_E) : ac_ok E md_35 2 (o_con (.int 64) 4) := ok_bipush (E := E) (d := md_35) (pc := 2) dd_35_2 (by decide)
theorem vd_35_4 (E : ac_E) : ac_okr E md_35 md_45 4 3 7 0 ∧ ac_okt E md_35 md_45 4 3 0 := ok_callS (E := E) (d := md_35) (dz := md_45) (pc := 4) rfl (by decide) (by decide +kernel) wm_307 wm_50 wm_305 wm_306 dd_35_4
theorem vd_35_7 (E : ac_E) : ac_ok E md_35 7 (o_con (.int 0) 8) := ok_iconst (E := E) (d := md_35) (pc := 7) dd_35_7 (by decide)
theorem vd_35_8 (E : ac_E) : ac_ok E md_35 8 (o_ist 2 9) := ok_istore_n (E := E) (d := md_35) (pc := 8) (j := 2) dd_35_8
theorem vd_35_9 (E : ac_E) : ac_ok E md_35 9 (o_ild 2 10) := ok_iload_n (E := E) (d := md_35) (pc := 9) (j := 2) dd_35_9
theorem vd_35_10 (E : ac_E) : ac_ok E md_35 10 (o_ild 1 11) := ok_iload_n (E := E) (d := md_35) (pc := 10) (j := 1) dd_35_10
theorem vd_35_11 (E : ac_E) : ac_ok E md_35 11 (o_ge 24 14) := ok_icmpge (E := E) (d := md_35) (pc := 11) dd_35_11 (by decide)
theorem vd_35_14 (E : ac_E) : ac_ok E md_35 14 (o_ald 0 15) := ok_aload_n (E := E) (d := md_35) (pc := 14) (j := 0) dd_35_14
theorem vd_35_15 (E : ac_E) : ac_okr E md_35 md_52 15 1 18 6 ∧ ac_okt E md_35 md_52 15 1 6 := ok_callV (E := E) (d := md_35) (dz := md_52) (pc := 15) (T := TX4) (N := 12) rfl rfl (by decide) (by decide +kernel) wm_434 wm_50 wm_431 wm_433 wm_6 dd_35_15
theorem vd_35_18 (E : ac_E) : ac_ok E md_35 18 (o_inc 2 1 21) := ok_iinc (E := E) (d := md_35) (pc := 18) dd_35_18 (by decide)
theorem vd_35_21 (E : ac_E) : ac_ok E md_35 21 (o_go 9) := ok_goto (E := E) (d := md_35) (pc := 21) dd_35_21 (by decide)
theorem vd_35_24 (E : ac_E) : ac_ok E md_35 24 (o_ald 0 25) := ok_aload_n (E := E) (d := md_35) (pc := 24) (j := 0) dd_35_24
theorem vd_35_25 (E : ac_E) : ac_ok E md_35 25 (o_get 4 10 28) := ok_getf (E := E) (d := md_35) (pc := 25) (ci := 4) (f := 10) (C := RX4) (T := TX4) (N := 12) (ref := RX4) rfl win_4 (by decide) rfl wm_173 dd_35_25
theorem va_35 (E : ac_E) (pc : Nat) : ac_V E ac_MDf ac_HDf 35 pc (tb_35 (ac_len E) (ac_xs E) pc) := (ac_node (ac_node (ac_node (ac_node (ac_leaf 0 (⟨vd_35_0 E, mn_ild _ _⟩)) (ac_leaf 1 (⟨vd_35_1 E, mn_con _ _⟩))) (ac_node (ac_leaf 2 (⟨vd_35_2 E, mn_con _ _⟩)) (ac_leaf 4 (ac_Vcp (vd_35_4 E) rfl (fun _ => rfl))))) (ac_node (ac_node (ac_leaf 7 (⟨vd_35_7 E, mn_con _ _⟩)) (ac_leaf 8 (⟨vd_35_8 E, mn_ist _ _⟩))) (ac_node (ac_leaf 9 (⟨vd_35_9 E, mn_ild _ _⟩)) (ac_leaf 10 (⟨vd_35_10 E, mn_ild _ _⟩))))) (ac_node (ac_node (ac_node (ac_leaf 11 (⟨vd_35_11 E, mn_ge _ _⟩)) (ac_leaf 14 (⟨vd_35_14 E, mn_ald _ _⟩))) (ac_node (ac_leaf 15 (ac_Vc0 ((vd_35_15 E).1) (fun _ => rfl))) (ac_leaf 18 (⟨vd_35_18 E, mn_inc _ _ _⟩)))) (ac_node (ac_node (ac_leaf 21 (⟨vd_35_21 E, mn_go _⟩)) (ac_leaf 24 (⟨vd_35_24 E, mn_ald _ _⟩))) (ac_node (ac_leaf 25 (⟨vd_35_25 E, mn_get _ _ _⟩)) (ac_leaf 28 (ac_Vr1 dd_35_28 rfl))))))
theorem vd_36_0 (E : ac_E) : ac_ok E md_36 0 (o_ild 1 1) := ok_iload_n (E := E) (d := md_36) (pc := 0) (j := 1) dd_36_0
theorem vd_36_1 (E : ac_E) : ac_ok E md_36 1 (o_con (.int 0) 2) := ok_iconst (E := E) (d := md_36) (pc := 1) dd_36_1 (by decide)
theorem vd_36_2 (E : ac_E) : ac_ok E md_36 2 (o_con (.int 64) 4) := ok_bipush (E := E) (d := md_36) (pc := 2) dd_36_2 (by decide)
theorem vd_36_4 (E : ac_E) : ac_okr E md_36 md_45 4 3 7 0 ∧ ac_okt E md_36 md_45 4 3 0 := ok_callS (E := E) (d := md_36) (dz := md_45) (pc := 4) rfl (by decide) (by decide +kernel) wm_307 wm_50 wm_305 wm_306 dd_36_4
theorem vd_36_7 (E : ac_E) : ac_ok E md_36 7 (o_ald 0 8) := ok_aload_n (E := E) (d := md_36) (pc := 7) (j := 0) dd_36_7
theorem vd_36_8 (E : ac_E) : ac_okr E md_36 md_54 8 1 11 6 ∧ ac_okt E md_36 md_54 8 1 6 := ok_callV (E := E) (d := md_36) (dz := md_54) (pc := 8) (T := TX4) (N := 12) rfl rfl (by decide) (by decide +kernel) wm_553 wm_50 wm_550 wm_552 wm_27 dd_36_8
theorem vd_36_11 (E : ac_E) : ac_ok E md_36 11 (o_ne0 24 14) := ok_ifne (E := E) (d := md_36) (pc := 11) dd_36_11 (by decide)
theorem vd_36_14 (E : ac_E) : ac_okx E md_36 14 3 := ok_throw (E := E) (d := md_36) (pc := 14) (i := 3) (text := "a source, a sink or the body is there") rfl (by decide +kernel) rfl wm_554 wm_65 (hat_117_3) (by decide +kernel) (by decide) (by decide) dd_36_14 dd_36_17 dd_36_18 dd_36_20 dd_36_23
theorem vd_36_24 (E : ac_E) : ac_ok E md_36 24 (o_con (.int 0) 25) := ok_iconst (E := E) (d := md_36) (pc := 24) dd_36_24 (by decide)
theorem vd_36_25 (E : ac_E) : ac_ok E md_36 25 (o_ist 2 26) := ok_istore_n (E := E) (d := md_36) (pc := 25) (j := 2) dd_36_25
theorem vd_36_26 (E : ac_E) : ac_ok E md_36 26 (o_ild 2 27) := ok_iload_n (E := E) (d := md_36) (pc := 26) (j := 2) dd_36_26
theorem vd_36_27 (E : ac_E) : ac_ok E md_36 27 (o_ild 1 28) := ok_iload_n (E := E) (d := md_36) (pc := 27) (j := 1) dd_36_27
theorem vd_36_28 (E : ac_E) : ac_ok E md_36 28 (o_ge 41 31) := ok_icmpge (E := E) (d := md_36) (pc := 28) dd_36_28 (by decide)
theorem vd_36_31 (E : ac_E) : ac_ok E md_36 31 (o_ald 0 32) := ok_aload_n (E := E) (d := md_36) (pc := 31) (j := 0) dd_36_31
theorem vd_36_32 (E : ac_E) : ac_okr E md_36 md_53 32 1 35 6 ∧ ac_okt E md_36 md_53 32 1 6 := ok_callV (E := E) (d := md_36) (dz := md_53) (pc := 32) (T := TX4) (N := 12) rfl rfl (by decide) (by decide +kernel) wm_573 wm_50 wm_570 wm_572 wm_28 dd_36_32
theorem vd_36_35 (E : ac_E) : ac_ok E md_36 35 (o_inc 2 1 38) := ok_iinc (E := E) (d := md_36) (pc := 35) dd_36_35 (by decide)
theorem vd_36_38 (E : ac_E) : ac_ok E md_36 38 (o_go 26) := ok_goto (E := E) (d := md_36) (pc := 38) dd_36_38 (by decide)
theorem vd_36_41 (E : ac_E) : ac_ok E md_36 41 (o_ald 0 42) := ok_aload_n (E := E) (d := md_36) (pc := 41) (j := 0) dd_36_41
theorem vd_36_42 (E : ac_E) : ac_ok E md_36 42 (o_get 4 10 45) := ok_getf (E := E) (d := md_36) (pc := 42) (ci := 4) (f := 10) (C := RX4) (T := TX4) (N := 12) (ref := RX4) rfl win_4 (by decide) rfl wm_173 dd_36_42
theorem va_36 (E : ac_E) (pc : Nat) : ac_V E ac_MDf ac_HDf 36 pc (tb_36 (ac_len E) (ac_xs E) pc) := (ac_node (ac_node (ac_node (ac_node (ac_leaf 0 (⟨vd_36_0 E, mn_ild _ _⟩)) (ac_leaf 1 (⟨vd_36_1 E, mn_con _ _⟩))) (ac_node (ac_leaf 2 (⟨vd_36_2 E, mn_con _ _⟩)) (ac_node (ac_leaf 4 (ac_Vcp (vd_36_4 E) rfl (fun _ => rfl))) (ac_leaf 7 (⟨vd_36_7 E, mn_ald _ _⟩))))) (ac_node (ac_node (ac_leaf 8 (ac_Vc0 ((vd_36_8 E).1) (fun _ => rfl))) (ac_leaf 11 (⟨vd_36_11 E, mn_ne0 _ _⟩))) (ac_node (ac_leaf 14 (vd_36_14 E)) (ac_node (ac_leaf 24 (⟨vd_36_24 E, mn_con _ _⟩)) (ac_leaf 25 (⟨vd_36_25 E, mn_ist _ _⟩)))))) (ac_node (ac_node (ac_node (ac_leaf 26 (⟨vd_36_26 E, mn_ild _ _⟩)) (ac_leaf 27 (⟨vd_36_27 E, mn_ild _ _⟩))) (ac_node (ac_leaf 28 (⟨vd_36_28 E, mn_ge _ _⟩)) (ac_node (ac_leaf 31 (⟨vd_36_31 E, mn_ald _ _⟩)) (ac_leaf 32 (ac_Vc0 ((vd_36_32 E).1) (fun _ => rfl)))))) (ac_node (ac_node (ac_leaf 35 (⟨vd_36_35 E, mn_inc _ _ _⟩)) (ac_leaf 38 (⟨vd_36_38 E, mn_go _⟩))) (ac_node (ac_leaf 41 (⟨vd_36_41 E, mn_ald _ _⟩)) (ac_node (ac_leaf 42 (⟨vd_36_42 E, mn_get _ _ _⟩)) (ac_leaf 45 (ac_Vr1 dd_36_45 rfl)))))))
theorem vd_37_0 (E : ac_E) : ac_ok E md_37 0 (o_ald 0 1) := ok_aload_n (E := E) (d := md_37) (pc := 0) (j := 0) dd_37_0
theorem vd_37_1 (E : ac_E) : ac_ok E md_37 1 (o_ild 1 2) := ok_iload_n (E := E) (d := md_37) (pc := 1) (j := 1) dd_37_1
theorem vd_37_2 (E : ac_E) : ac_ok E md_37 2 (o_ild 2 3) := ok_iload_n (E := E) (d := md_37) (pc := 2) (j := 2) dd_37_2
theorem vd_37_3 (E : ac_E) : ac_okr E md_37 md_43 3 3 6 6 ∧ ac_okt E md_37 md_43 3 3 6 := ok_callV (E := E) (d := md_37) (dz := md_43) (pc := 3) (T := TX4) (N := 12) rfl rfl (by decide) (by decide +kernel) wm_231 wm_50 wm_228 wm_230 wm_2 dd_37_3
theorem vd_37_6 (E : ac_E) : ac_ok E md_37 6 (o_ist 6 8) := ok_istore (E := E) (d := md_37) (pc := 6) dd_37_6
theorem vd_37_8 (E : ac_E) : ac_ok E md_37 8 (o_ild 3 9) := ok_iload_n (E := E) (d := md_37) (pc := 8) (j := 3) dd_37_8
theorem vd_37_9 (E : ac_E) : ac_ok E md_37 9 (o_con (.int 1) 10) := ok_iconst (E := E) (d := md_37) (pc := 9) dd_37_9 (by decide)
theorem vd_37_10 (E : ac_E) : ac_ok E md_37 10 (o_lt 46 13) := ok_icmplt (E := E) (d := md_37) (pc := 10) dd_37_10 (by decide)
theorem vd_37_13 (E : ac_E) : ac_ok E md_37 13 (o_ild 3 14) := ok_iload_n (E := E) (d := md_37) (pc := 13) (j := 3) dd_37_13
theorem vd_37_14 (E : ac_E) : ac_ok E md_37 14 (o_ald 0 15) := ok_aload_n (E := E) (d := md_37) (pc := 14) (j := 0) dd_37_14
theorem vd_37_15 (E : ac_E) : ac_ok E md_37 15 (o_get 4 0 18) := ok_getf (E := E) (d := md_37) (pc := 15) (ci := 4) (f := 0) (C := RX4) (T := TX4) (N := 12) (ref := RX4) rfl win_4 (by decide) rfl wm_163 dd_37_15
theorem vd_37_18 (E : ac_E) : ac_ok E md_37 18 (o_get 2 0 21) := ok_getN (E := E) (d := md_37) (pc := 18) (ci := 2) (f := 0) (C := RX2) (T := TX2) (N := 4) (ref := RX2) rfl win_2 (by decide) rfl wm_94 dd_37_18
theorem vd_37_21 (E : ac_E) : ac_ok E md_37 21 (o_ild 1 22) := ok_iload_n (E := E) (d := md_37) (pc := 21) (j := 1) dd_37_21
theorem vd_37_22 (E : ac_E) : ac_ok E md_37 22 (o_sub 23) := ok_isub (E := E) (d := md_37) (pc := 22) dd_37_22
theorem vd_37_23 (E : ac_E) : ac_ok E md_37 23 (o_gt 46 26) := ok_icmpgt (E := E) (d := md_37) (pc := 23) dd_37_23 (by decide)
theorem vd_37_26 (E : ac_E) : ac_ok E md_37 26 (o_ild 4 28) := ok_iload (E := E) (d := md_37) (pc := 26) dd_37_26
theorem vd_37_28 (E : ac_E) : ac_ok E md_37 28 (o_con (.int 1) 29) := ok_iconst (E := E) (d := md_37) (pc := 28) dd_37_28 (by decide)
theorem vd_37_29 (E : ac_E) : ac_ok E md_37 29 (o_lt 46 32) := ok_icmplt (E := E) (d := md_37) (pc := 29) dd_37_29 (by decide)
theorem vd_37_32 (E : ac_E) : ac_ok E md_37 32 (o_ild 4 34) := ok_iload (E := E) (d := md_37) (pc := 32) dd_37_32
theorem vd_37_34 (E : ac_E) : ac_ok E md_37 34 (o_ald 0 35) := ok_aload_n (E := E) (d := md_37) (pc := 34) (j := 0) dd_37_34
theorem vd_37_35 (E : ac_E) : ac_ok E md_37 35 (o_get 4 0 38) := ok_getf (E := E) (d := md_37) (pc := 35) (ci := 4) (f := 0) (C := RX4) (T := TX4) (N := 12) (ref := RX4) rfl win_4 (by decide) rfl wm_163 dd_37_35
theorem vd_37_38 (E : ac_E) : ac_ok E md_37 38 (o_get 2 1 41) := ok_getN (E := E) (d := md_37) (pc := 38) (ci := 2) (f := 1) (C := RX2) (T := TX2) (N := 4) (ref := RX2) rfl win_2 (by decide) rfl wm_96 dd_37_38
theorem vd_37_41 (E : ac_E) : ac_ok E md_37 41 (o_ild 2 42) := ok_iload_n (E := E) (d := md_37) (pc := 41) (j := 2) dd_37_41
theorem vd_37_42 (E : ac_E) : ac_ok E md_37 42 (o_sub 43) := ok_isub (E := E) (d := md_37) (pc := 42) dd_37_42
theorem vd_37_43 (E : ac_E) : ac_ok E md_37 43 (o_le 56 46) := ok_icmple (E := E) (d := md_37) (pc := 43) dd_37_43 (by decide)
theorem vd_37_46 (E : ac_E) : ac_okx E md_37 46 0 := ok_throw (E := E) (d := md_37) (pc := 46) (i := 4) (text := "no such rectangle") rfl (by decide +kernel) rfl wm_232 wm_60 (hat_133_0) (by decide +kernel) (by decide) (by decide) dd_37_46 dd_37_49 dd_37_50 dd_37_52 dd_37_55
theorem vd_37_56 (E : ac_E) : ac_ok E md_37 56 (o_ild 5 58) := ok_iload (E := E) (d := md_37) (pc := 56) dd_37_56
theorem vd_37_58 (E : ac_E) : ac_ok E md_37 58 (o_con (.int 0) 59) := ok_iconst (E := E) (d := md_37) (pc := 58) dd_37_58 (by decide)
theorem vd_37_59 (E : ac_E) : ac_ok E md_37 59 (o_con (.int 2) 60) := ok_iconst (E := E) (d := md_37) (pc := 59) dd_37_59 (by decide)
theorem vd_37_60 (E : ac_E) : ac_okr E md_37 md_45 60 3 63 0 ∧ ac_okt E md_37 md_45 60 3 0 := ok_callS (E := E) (d := md_37) (dz := md_45) (pc := 60) rfl (by decide) (by decide +kernel) wm_307 wm_50 wm_305 wm_306 dd_37_60
theorem vd_37_63 (E : ac_E) : ac_ok E md_37 63 (o_con (.int 0) 64) := ok_iconst (E := E) (d := md_37) (pc := 63) dd_37_63 (by decide)
theorem vd_37_64 (E : ac_E) : ac_ok E md_37 64 (o_ist 7 66) := ok_istore (E := E) (d := md_37) (pc := 64) dd_37_64
theorem vd_37_66 (E : ac_E) : ac_ok E md_37 66 (o_con (.int 0) 67) := ok_iconst (E := E) (d := md_37) (pc := 66) dd_37_66 (by decide)
theorem vd_37_67 (E : ac_E) : ac_ok E md_37 67 (o_ist 8 69) := ok_istore (E := E) (d := md_37) (pc := 67) dd_37_67
theorem vd_37_69 (E : ac_E) : ac_ok E md_37 69 (o_ild 8 71) := ok_iload (E := E) (d := md_37) (pc := 69) dd_37_69
theorem vd_37_71 (E : ac_E) : ac_ok E md_37 71 (o_ild 4 73) := ok_iload (E := E) (d := md_37) (pc := 71) dd_37_71
theorem vd_37_73 (E : ac_E) : ac_ok E md_37 73 (o_ge 128 76) := ok_icmpge (E := E) (d := md_37) (pc := 73) dd_37_73 (by decide)
theorem vd_37_76 (E : ac_E) : ac_ok E md_37 76 (o_con (.int 0) 77) := ok_iconst (E := E) (d := md_37) (pc := 76) dd_37_76 (by decide)
theorem vd_37_77 (E : ac_E) : ac_ok E md_37 77 (o_ist 9 79) := ok_istore (E := E) (d := md_37) (pc := 77) dd_37_77
theorem vd_37_79 (E : ac_E) : ac_ok E md_37 79 (o_ild 9 81) := ok_iload (E := E) (d := md_37) (pc := 79) dd_37_79
theorem vd_37_81 (E : ac_E) : ac_ok E md_37 81 (o_ild 3 82) := ok_iload_n (E := E) (d := md_37) (pc := 81) (j := 3) dd_37_81
theorem vd_37_82 (E : ac_E) : ac_ok E md_37 82 (o_ge 122 85) := ok_icmpge (E := E) (d := md_37) (pc := 82) dd_37_82 (by decide)
theorem vd_37_85 (E : ac_E) : ac_ok E md_37 85 (o_ild 7 87) := ok_iload (E := E) (d := md_37) (pc := 85) dd_37_85
theorem vd_37_87 (E : ac_E) : ac_ok E md_37 87 (o_ald 0 88) := ok_aload_n (E := E) (d := md_37) (pc := 87) (j := 0) dd_37_87
theorem vd_37_88 (E : ac_E) : ac_ok E md_37 88 (o_get 4 8 91) := ok_getf (E := E) (d := md_37) (pc := 88) (ci := 4) (f := 8) (C := RX4) (T := TX4) (N := 12) (ref := RX4) rfl win_4 (by decide) rfl wm_171 dd_37_88
theorem vd_37_91 (E : ac_E) : ac_ok E md_37 91 (o_ild 6 93) := ok_iload (E := E) (d := md_37) (pc := 91) dd_37_91
theorem vd_37_93 (E : ac_E) : ac_ok E md_37 93 (o_ild 8 95) := ok_iload (E := E) (d := md_37) (pc := 93) dd_37_93
theorem vd_37_95 (E : ac_E) : ac_ok E md_37 95 (o_ald 0 96) := ok_aload_n (E := E) (d := md_37) (pc := 95) (j := 0) dd_37_95
theorem vd_37_96 (E : ac_E) : ac_ok E md_37 96 (o_get 4 0 99) := ok_getf (E := E) (d := md_37) (pc := 96) (ci := 4) (f := 0) (C := RX4) (T := TX4) (N := 12) (ref := RX4) rfl win_4 (by decide) rfl wm_163 dd_37_96
theorem vd_37_99 (E : ac_E) : ac_ok E md_37 99 (o_get 2 0 102) := ok_getN (E := E) (d := md_37) (pc := 99) (ci := 2) (f := 0) (C := RX2) (T := TX2) (N := 4) (ref := RX2) rfl win_2 (by decide) rfl wm_94 dd_37_99
theorem vd_37_102 (E : ac_E) : ac_ok E md_37 102 (o_mul 103) := ok_imul (E := E) (d := md_37) (pc := 102) dd_37_102
theorem vd_37_103 (E : ac_E) : ac_ok E md_37 103 (o_add 104) := ok_iadd (E := E) (d := md_37) (pc := 103) dd_37_103
theorem vd_37_104 (E : ac_E) : ac_ok E md_37 104 (o_ild 9 106) := ok_iload (E := E) (d := md_37) (pc := 104) dd_37_104
theorem vd_37_106 (E : ac_E) : ac_ok E md_37 106 (o_add 107) := ok_iadd (E := E) (d := md_37) (pc := 106) dd_37_106
theorem vd_37_107 (E : ac_E) : ac_ok E md_37 107 (o_ia 108) := ok_iaload (E := E) (d := md_37) (pc := 107) dd_37_107
theorem vd_37_108 (E : ac_E) : ac_ok E md_37 108 (o_ild 5 110) := ok_iload (E := E) (d := md_37) (pc := 108) dd_37_108
theorem vd_37_110 (E : ac_E) : ac_okr E md_37 md_48 110 2 113 0 ∧ ac_okt E md_37 md_48 110 2 0 := ok_callS (E := E) (d := md_37) (dz := md_48) (pc := 110) rfl (by decide) (by decide +kernel) wm_494 wm_50 wm_582 wm_493 dd_37_110
theorem vd_37_113 (E : ac_E) : ac_ok E md_37 113 (o_add 114) := ok_iadd (E := E) (d := md_37) (pc := 113) dd_37_113
theorem vd_37_114 (E : ac_E) : ac_ok E md_37 114 (o_ist 7 116) := ok_istore (E := E) (d := md_37) (pc := 114) dd_37_114
theorem vd_37_116 (E : ac_E) : ac_ok E md_37 116 (o_inc 9 1 119) := ok_iinc (E := E) (d := md_37) (pc := 116) dd_37_116 (by decide)
theorem vd_37_119 (E : ac_E) : ac_ok E md_37 119 (o_go 79) := ok_goto (E := E) (d := md_37) (pc := 119) dd_37_119 (by decide)
theorem vd_37_122 (E : ac_E) : ac_ok E md_37 122 (o_inc 8 1 125) := ok_iinc (E := E) (d := md_37) (pc := 122) dd_37_122 (by decide)
theorem vd_37_125 (E : ac_E) : ac_ok E md_37 125 (o_go 69) := ok_goto (E := E) (d := md_37) (pc := 125) dd_37_125 (by decide)
theorem vd_37_128 (E : ac_E) : ac_ok E md_37 128 (o_ild 7 130) := ok_iload (E := E) (d := md_37) (pc := 128) dd_37_128
theorem va_37 (E : ac_E) (pc : Nat) : ac_V E ac_MDf ac_HDf 37 pc (tb_37 (ac_len E) (ac_xs E) pc) := (ac_node (ac_node (ac_node (ac_node (ac_node (ac_node (ac_leaf 0 (⟨vd_37_0 E, mn_ald _ _⟩)) (ac_leaf 1 (⟨vd_37_1 E, mn_ild _ _⟩))) (ac_node (ac_leaf 2 (⟨vd_37_2 E, mn_ild _ _⟩)) (ac_leaf 3 (ac_Vcp (vd_37_3 E) rfl (fun _ => rfl))))) (ac_node (ac_node (ac_leaf 6 (⟨vd_37_6 E, mn_ist _ _⟩)) (ac_leaf 8 (⟨vd_37_8 E, mn_ild _ _⟩))) (ac_node (ac_leaf 9 (⟨vd_37_9 E, mn_con _ _⟩)) (ac_leaf 10 (⟨vd_37_10 E, mn_lt _ _⟩))))) (ac_node (ac_node (ac_node (ac_leaf 13 (⟨vd_37_13 E, mn_ild _ _⟩)) (ac_leaf 14 (⟨vd_37_14 E, mn_ald _ _⟩))) (ac_node (ac_leaf 15 (⟨vd_37_15 E, mn_get _ _ _⟩)) (ac_leaf 18 (⟨vd_37_18 E, mn_get _ _ _⟩)))) (ac_node (ac_node (ac_leaf 21 (⟨vd_37_21 E, mn_ild _ _⟩)) (ac_leaf 22 (⟨vd_37_22 E, mn_sub _⟩))) (ac_node (ac_leaf 23 (⟨vd_37_23 E, mn_gt _ _⟩)) (ac_leaf 26 (⟨vd_37_26 E, mn_ild _ _⟩)))))) (ac_node (ac_node (ac_node (ac_node (ac_leaf 28 (⟨vd_37_28 E, mn_con _ _⟩)) (ac_leaf 29 (⟨vd_37_29 E, mn_lt _ _⟩))) (ac_node (ac_leaf 32 (⟨vd_37_32 E, mn_ild _ _⟩)) (ac_leaf 34 (⟨vd_37_34 E, mn_ald _ _⟩)))) (ac_node (ac_node (ac_leaf 35 (⟨vd_37_35 E, mn_get _ _ _⟩)) (ac_leaf 38 (⟨vd_37_38 E, mn_get _ _ _⟩))) (ac_node (ac_leaf 41 (⟨vd_37_41 E, mn_ild _ _⟩)) (ac_leaf 42 (⟨vd_37_42 E, mn_sub _⟩))))) (ac_node (ac_node (ac_node (ac_leaf 43 (⟨vd_37_43 E, mn_le _ _⟩)) (ac_leaf 46 (vd_37_46 E))) (ac_node (ac_leaf 56 (⟨vd_37_56 E, mn_ild _ _⟩)) (ac_leaf 58 (⟨vd_37_58 E, mn_con _ _⟩)))) (ac_node (ac_node (ac_leaf 59 (⟨vd_37_59 E, mn_con _ _⟩)) (ac_leaf 60 (ac_Vcp (vd_37_60 E) rfl (fun _ => rfl)))) (ac_node (ac_leaf 63 (⟨vd_37_63 E, mn_con _ _⟩)) (ac_leaf 64 (⟨vd_37_64 E, mn_ist _ _⟩))))))) (ac_node (ac_node (ac_node (ac_node (ac_node (ac_leaf 66 (⟨vd_37_66 E, mn_con _ _⟩)) (ac_leaf 67 (⟨vd_37_67 E, mn_ist _ _⟩))) (ac_node (ac_leaf 69 (⟨vd_37_69 E, mn_ild _ _⟩)) (ac_leaf 71 (⟨vd_37_71 E, mn_ild _ _⟩)))) (ac_node (ac_node (ac_leaf 73 (⟨vd_37_73 E, mn_ge _ _⟩)) (ac_leaf 76 (⟨vd_37_76 E, mn_con _ _⟩))) (ac_node (ac_leaf 77 (⟨vd_37_77 E, mn_ist _ _⟩)) (ac_leaf 79 (⟨vd_37_79 E, mn_ild _ _⟩))))) (ac_node (ac_node (ac_node (ac_leaf 81 (⟨vd_37_81 E, mn_ild _ _⟩)) (ac_leaf 82 (⟨vd_37_82 E, mn_ge _ _⟩))) (ac_node (ac_leaf 85 (⟨vd_37_85 E, mn_ild _ _⟩)) (ac_leaf 87 (⟨vd_37_87 E, mn_ald _ _⟩)))) (ac_node (ac_node (ac_leaf 88 (⟨vd_37_88 E, mn_get _ _ _⟩)) (ac_leaf 91 (⟨vd_37_91 E, mn_ild _ _⟩))) (ac_node (ac_leaf 93 (⟨vd_37_93 E, mn_ild _ _⟩)) (ac_leaf 95 (⟨vd_37_95 E, mn_ald _ _⟩)))))) (ac_node (ac_node (ac_node (ac_node (ac_leaf 96 (⟨vd_37_96 E, mn_get _ _ _⟩)) (ac_leaf 99 (⟨vd_37_99 E, mn_get _ _ _⟩))) (ac_node (ac_leaf 102 (⟨vd_37_102 E, mn_mul _⟩)) (ac_leaf 103 (⟨vd_37_103 E, mn_add _⟩)))) (ac_node (ac_node (ac_leaf 104 (⟨vd_37_104 E, mn_ild _ _⟩)) (ac_leaf 106 (⟨vd_37_106 E, mn_add _⟩))) (ac_node (ac_leaf 107 (⟨vd_37_107 E, mn_ia _⟩)) (ac_leaf 108 (⟨vd_37_108 E, mn_ild _ _⟩))))) (ac_node (ac_node (ac_node (ac_leaf 110 (ac_Vc0 ((vd_37_110 E).1) (fun _ => rfl))) (ac_leaf 113 (⟨vd_37_113 E, mn_add _⟩))) (ac_node (ac_leaf 114 (⟨vd_37_114 E, mn_ist _ _⟩)) (ac_leaf 116 (⟨vd_37_116 E, mn_inc _ _ _⟩)))) (ac_node (ac_node (ac_leaf 119 (⟨vd_37_119 E, mn_go _⟩)) (ac_leaf 122 (⟨vd_37_122 E, mn_inc _ _ _⟩))) (ac_node (ac_leaf 125 (⟨vd_37_125 E, mn_go _⟩)) (ac_node (ac_leaf 128 (⟨vd_37_128 E, mn_ild _ _⟩)) (ac_leaf 130 (ac_Vr1 dd_37_130 rfl)))))))))
theorem vd_38_0 (E : ac_E) : ac_ok E md_38 0 (o_ild 1 1) := ok_iload_n (E := E) (d := md_38) (pc := 0) (j := 1) dd_38_0
theorem vd_38_1 (E : ac_E) : ac_ok E md_38 1 (o_con (.int 0) 2) := ok_iconst (E := E) (d := md_38) (pc := 1) dd_38_1 (by decide)
theorem vd_38_2 (E : ac_E) : ac_ok E md_38 2 (o_con (.int 3) 3) := ok_iconst (E := E) (d := md_38) (pc := 2) dd_38_2 (by decide)
theorem vd_38_3 (E : ac_E) : ac_okr E md_38 md_45 3 3 6 0 ∧ ac_okt E md_38 md_45 3 3 0 := ok_callS (E := E) (d := md_38) (dz := md_45) (pc := 3) rfl (by decide) (by decide +kernel) wm_307 wm_50 wm_305 wm_306 dd_38_3
theorem vd_38_6 (E : ac_E) : ac_ok E md_38 6 (o_ild 2 7) := ok_iload_n (E := E) (d := md_38) (pc := 6) (j := 2) dd_38_6
theorem vd_38_7 (E : ac_E) : ac_ok E md_38 7 (o_con (.int 0) 8) := ok_iconst (E := E) (d := md_38) (pc := 7) dd_38_7 (by decide)
theorem vd_38_8 (E : ac_E) : ac_ok E md_38 8 (o_con (.int 2) 9) := ok_iconst (E := E) (d := md_38) (pc := 8) dd_38_8 (by decide)
theorem vd_38_9 (E : ac_E) : ac_okr E md_38 md_45 9 3 12 0 ∧ ac_okt E md_38 md_45 9 3 0 := ok_callS (E := E) (d := md_38) (dz := md_45) (pc := 9) rfl (by decide) (by decide +kernel) wm_307 wm_50 wm_305 wm_306 dd_38_9
theorem vd_38_12 (E : ac_E) : ac_ok E md_38 12 (o_ald 0 13) := ok_aload_n (E := E) (d := md_38) (pc := 12) (j := 0) dd_38_12
theorem vd_38_13 (E : ac_E) : ac_ok E md_38 13 (o_get 4 3 16) := ok_getf (E := E) (d := md_38) (pc := 13) (ci := 4) (f := 3) (C := RX4) (T := TX4) (N := 12) (ref := RX4) rfl win_4 (by decide) rfl wm_166 dd_38_13
theorem vd_38_16 (E : ac_E) : ac_ok E md_38 16 (o_get 1 0 19) := ok_getN (E := E) (d := md_38) (pc := 16) (ci := 1) (f := 0) (C := RX1) (T := TX1) (N := 1) (ref := RX1) rfl win_1 (by decide) rfl wm_117 dd_38_16
theorem vd_38_19 (E : ac_E) : ac_ok E md_38 19 (o_ild 1 20) := ok_iload_n (E := E) (d := md_38) (pc := 19) (j := 1) dd_38_19
theorem vd_38_20 (E : ac_E) : ac_ok E md_38 20 (o_con (.int 3) 21) := ok_iconst (E := E) (d := md_38) (pc := 20) dd_38_20 (by decide)
theorem vd_38_21 (E : ac_E) : ac_ok E md_38 21 (o_mul 22) := ok_imul (E := E) (d := md_38) (pc := 21) dd_38_21
theorem vd_38_22 (E : ac_E) : ac_ok E md_38 22 (o_ild 2 23) := ok_iload_n (E := E) (d := md_38) (pc := 22) (j := 2) dd_38_22
theorem vd_38_23 (E : ac_E) : ac_ok E md_38 23 (o_add 24) := ok_iadd (E := E) (d := md_38) (pc := 23) dd_38_23
theorem vd_38_24 (E : ac_E) : ac_ok E md_38 24 (o_ia 25) := ok_iaload (E := E) (d := md_38) (pc := 24) dd_38_24
theorem va_38 (E : ac_E) (pc : Nat) : ac_V E ac_MDf ac_HDf 38 pc (tb_38 (ac_len E) (ac_xs E) pc) := (ac_node (ac_node (ac_node (ac_node (ac_leaf 0 (⟨vd_38_0 E, mn_ild _ _⟩)) (ac_leaf 1 (⟨vd_38_1 E, mn_con _ _⟩))) (ac_node (ac_leaf 2 (⟨vd_38_2 E, mn_con _ _⟩)) (ac_leaf 3 (ac_Vcp (vd_38_3 E) rfl (fun _ => rfl))))) (ac_node (ac_node (ac_leaf 6 (⟨vd_38_6 E, mn_ild _ _⟩)) (ac_leaf 7 (⟨vd_38_7 E, mn_con _ _⟩))) (ac_node (ac_leaf 8 (⟨vd_38_8 E, mn_con _ _⟩)) (ac_node (ac_leaf 9 (ac_Vcp (vd_38_9 E) rfl (fun _ => rfl))) (ac_leaf 12 (⟨vd_38_12 E, mn_ald _ _⟩)))))) (ac_node (ac_node (ac_node (ac_leaf 13 (⟨vd_38_13 E, mn_get _ _ _⟩)) (ac_leaf 16 (⟨vd_38_16 E, mn_get _ _ _⟩))) (ac_node (ac_leaf 19 (⟨vd_38_19 E, mn_ild _ _⟩)) (ac_leaf 20 (⟨vd_38_20 E, mn_con _ _⟩)))) (ac_node (ac_node (ac_leaf 21 (⟨vd_38_21 E, mn_mul _⟩)) (ac_leaf 22 (⟨vd_38_22 E, mn_ild _ _⟩))) (ac_node (ac_leaf 23 (⟨vd_38_23 E, mn_add _⟩)) (ac_node (ac_leaf 24 (⟨vd_38_24 E, mn_ia _⟩)) (ac_leaf 25 (ac_Vr1 dd_38_25 rfl)))))))
theorem vd_39_0 (E : ac_E) : ac_ok E md_39 0 (o_con (.int 0) 1) := ok_iconst (E := E) (d := md_39) (pc := 0) dd_39_0 (by decide)
theorem vd_39_1 (E : ac_E) : ac_ok E md_39 1 (o_ist 1 2) := ok_istore_n (E := E) (d := md_39) (pc := 1) (j := 1) dd_39_1
theorem vd_39_2 (E : ac_E) : ac_ok E md_39 2 (o_con (.int 0) 3) := ok_iconst (E := E) (d := md_39) (pc := 2) dd_39_2 (by decide)
theorem vd_39_3 (E : ac_E) : ac_ok E md_39 3 (o_ist 2 4) := ok_istore_n (E := E) (d := md_39) (pc := 3) (j := 2) dd_39_3
theorem vd_39_4 (E : ac_E) : ac_ok E md_39 4 (o_ild 2 5) := ok_iload_n (E := E) (d := md_39) (pc := 4) (j := 2) dd_39_4
theorem vd_39_5 (E : ac_E) : ac_ok E md_39 5 (o_ald 0 6) := ok_aload_n (E := E) (d := md_39) (pc := 5) (j := 0) dd_39_5
theorem vd_39_6 (E : ac_E) : ac_ok E md_39 6 (o_get 4 0 9) := ok_getf (E := E) (d := md_39) (pc := 6) (ci := 4) (f := 0) (C := RX4) (T := TX4) (N := 12) (ref := RX4) rfl win_4 (by decide) rfl wm_163 dd_39_6
theorem vd_39_9 (E : ac_E) : ac_ok E md_39 9 (o_get 2 2 12) := ok_getN (E := E) (d := md_39) (pc := 9) (ci := 2) (f := 2) (C := RX2) (T := TX2) (N := 4) (ref := RX2) rfl win_2 (by decide) rfl wm_98 dd_39_9
theorem vd_39_12 (E : ac_E) : ac_ok E md_39 12 (o_ge 53 15) := ok_icmpge (E := E) (d := md_39) (pc := 12) dd_39_12 (by decide)
theorem vd_39_15 (E : ac_E) : ac_ok E md_39 15 (o_ild 1 16) := ok_iload_n (E := E) (d := md_39) (pc := 15) (j := 1) dd_39_15
theorem vd_39_16 (E : ac_E) : ac_ok E md_39 16 (o_ald 0 17) := ok_aload_n (E := E) (d := md_39) (pc := 16) (j := 0) dd_39_16
theorem vd_39_17 (E : ac_E) : ac_ok E md_39 17 (o_get 4 8 20) := ok_getf (E := E) (d := md_39) (pc := 17) (ci := 4) (f := 8) (C := RX4) (T := TX4) (N := 12) (ref := RX4) rfl win_4 (by decide) rfl wm_171 dd_39_17
theorem vd_39_20 (E : ac_E) : ac_ok E md_39 20 (o_ild 2 21) := ok_iload_n (E := E) (d := md_39) (pc := 20) (j := 2) dd_39_20
theorem vd_39_21 (E : ac_E) : ac_ok E md_39 21 (o_ia 22) := ok_iaload (E := E) (d := md_39) (pc := 21) dd_39_21
theorem vd_39_22 (E : ac_E) : ac_ok E md_39 22 (o_ald 0 23) := ok_aload_n (E := E) (d := md_39) (pc := 22) (j := 0) dd_39_22
theorem vd_39_23 (E : ac_E) : ac_ok E md_39 23 (o_get 4 0 26) := ok_getf (E := E) (d := md_39) (pc := 23) (ci := 4) (f := 0) (C := RX4) (T := TX4) (N := 12) (ref := RX4) rfl win_4 (by decide) rfl wm_163 dd_39_23
theorem vd_39_26 (E : ac_E) : ac_ok E md_39 26 (o_ild 2 27) := ok_iload_n (E := E) (d := md_39) (pc := 26) (j := 2) dd_39_26
theorem vd_39_27 (E : ac_E) : ac_okr E md_39 md_13 27 2 30 4 := ok_callVN (E := E) (d := md_39) (dz := md_13) (pc := 27) (T := TX2) (N := 4) rfl rfl (by decide) (by decide +kernel) wm_211 wm_51 wm_208 wm_210 wm_0 dd_39_27
theorem vd_39_30 (E : ac_E) : ac_ok E md_39 30 (o_con (.int 16) 32) := ok_bipush (E := E) (d := md_39) (pc := 30) dd_39_30 (by decide)
theorem vd_39_32 (E : ac_E) : ac_ok E md_39 32 (o_mul 33) := ok_imul (E := E) (d := md_39) (pc := 32) dd_39_32
theorem vd_39_33 (E : ac_E) : ac_ok E md_39 33 (o_ald 0 34) := ok_aload_n (E := E) (d := md_39) (pc := 33) (j := 0) dd_39_33
theorem vd_39_34 (E : ac_E) : ac_ok E md_39 34 (o_get 4 0 37) := ok_getf (E := E) (d := md_39) (pc := 34) (ci := 4) (f := 0) (C := RX4) (T := TX4) (N := 12) (ref := RX4) rfl win_4 (by decide) rfl wm_163 dd_39_34
theorem vd_39_37 (E : ac_E) : ac_ok E md_39 37 (o_ild 2 38) := ok_iload_n (E := E) (d := md_39) (pc := 37) (j := 2) dd_39_37
theorem vd_39_38 (E : ac_E) : ac_okr E md_39 md_12 38 2 41 4 := ok_callVN (E := E) (d := md_39) (dz := md_12) (pc := 38) (T := TX2) (N := 4) rfl rfl (by decide) (by decide +kernel) wm_215 wm_51 wm_212 wm_214 wm_1 dd_39_38
theorem vd_39_41 (E : ac_E) : ac_ok E md_39 41 (o_add 42) := ok_iadd (E := E) (d := md_39) (pc := 41) dd_39_41
theorem vd_39_42 (E : ac_E) : ac_ok E md_39 42 (o_con (.int 1) 43) := ok_iconst (E := E) (d := md_39) (pc := 42) dd_39_42 (by decide)
theorem vd_39_43 (E : ac_E) : ac_ok E md_39 43 (o_add 44) := ok_iadd (E := E) (d := md_39) (pc := 43) dd_39_43
theorem vd_39_44 (E : ac_E) : ac_ok E md_39 44 (o_mul 45) := ok_imul (E := E) (d := md_39) (pc := 44) dd_39_44
theorem vd_39_45 (E : ac_E) : ac_ok E md_39 45 (o_add 46) := ok_iadd (E := E) (d := md_39) (pc := 45) dd_39_45
theorem vd_39_46 (E : ac_E) : ac_ok E md_39 46 (o_ist 1 47) := ok_istore_n (E := E) (d := md_39) (pc := 46) (j := 1) dd_39_46
theorem vd_39_47 (E : ac_E) : ac_ok E md_39 47 (o_inc 2 1 50) := ok_iinc (E := E) (d := md_39) (pc := 47) dd_39_47 (by decide)
theorem vd_39_50 (E : ac_E) : ac_ok E md_39 50 (o_go 4) := ok_goto (E := E) (d := md_39) (pc := 50) dd_39_50 (by decide)
theorem vd_39_53 (E : ac_E) : ac_ok E md_39 53 (o_ild 1 54) := ok_iload_n (E := E) (d := md_39) (pc := 53) (j := 1) dd_39_53
theorem va_39 (E : ac_E) (pc : Nat) : ac_V E ac_MDf ac_HDf 39 pc (tb_39 (ac_len E) (ac_xs E) pc) := (ac_node (ac_node (ac_node (ac_node (ac_node (ac_leaf 0 (⟨vd_39_0 E, mn_con _ _⟩)) (ac_leaf 1 (⟨vd_39_1 E, mn_ist _ _⟩))) (ac_node (ac_leaf 2 (⟨vd_39_2 E, mn_con _ _⟩)) (ac_leaf 3 (⟨vd_39_3 E, mn_ist _ _⟩)))) (ac_node (ac_node (ac_leaf 4 (⟨vd_39_4 E, mn_ild _ _⟩)) (ac_leaf 5 (⟨vd_39_5 E, mn_ald _ _⟩))) (ac_node (ac_leaf 6 (⟨vd_39_6 E, mn_get _ _ _⟩)) (ac_leaf 9 (⟨vd_39_9 E, mn_get _ _ _⟩))))) (ac_node (ac_node (ac_node (ac_leaf 12 (⟨vd_39_12 E, mn_ge _ _⟩)) (ac_leaf 15 (⟨vd_39_15 E, mn_ild _ _⟩))) (ac_node (ac_leaf 16 (⟨vd_39_16 E, mn_ald _ _⟩)) (ac_leaf 17 (⟨vd_39_17 E, mn_get _ _ _⟩)))) (ac_node (ac_node (ac_leaf 20 (⟨vd_39_20 E, mn_ild _ _⟩)) (ac_leaf 21 (⟨vd_39_21 E, mn_ia _⟩))) (ac_node (ac_leaf 22 (⟨vd_39_22 E, mn_ald _ _⟩)) (ac_node (ac_leaf 23 (⟨vd_39_23 E, mn_get _ _ _⟩)) (ac_leaf 26 (⟨vd_39_26 E, mn_ild _ _⟩))))))) (ac_node (ac_node (ac_node (ac_node (ac_leaf 27 (ac_Vc0 (vd_39_27 E) (fun _ => rfl))) (ac_leaf 30 (⟨vd_39_30 E, mn_con _ _⟩))) (ac_node (ac_leaf 32 (⟨vd_39_32 E, mn_mul _⟩)) (ac_leaf 33 (⟨vd_39_33 E, mn_ald _ _⟩)))) (ac_node (ac_node (ac_leaf 34 (⟨vd_39_34 E, mn_get _ _ _⟩)) (ac_leaf 37 (⟨vd_39_37 E, mn_ild _ _⟩))) (ac_node (ac_leaf 38 (ac_Vc0 (vd_39_38 E) (fun _ => rfl))) (ac_leaf 41 (⟨vd_39_41 E, mn_add _⟩))))) (ac_node (ac_node (ac_node (ac_leaf 42 (⟨vd_39_42 E, mn_con _ _⟩)) (ac_leaf 43 (⟨vd_39_43 E, mn_add _⟩))) (ac_node (ac_leaf 44 (⟨vd_39_44 E, mn_mul _⟩)) (ac_leaf 45 (⟨vd_39_45 E, mn_add _⟩)))) (ac_node (ac_node (ac_leaf 46 (⟨vd_39_46 E, mn_ist _ _⟩)) (ac_leaf 47 (⟨vd_39_47 E, mn_inc _ _ _⟩))) (ac_node (ac_leaf 50 (⟨vd_39_50 E, mn_go _⟩)) (ac_node (ac_leaf 53 (⟨vd_39_53 E, mn_ild _ _⟩)) (ac_leaf 54 (ac_Vr1 dd_39_54 rfl))))))))
theorem vd_40_0 (E : ac_E) : ac_ok E md_40 0 (o_ald 0 1) := ok_aload_n (E := E) (d := md_40) (pc := 0) (j := 0) dd_40_0
theorem vd_40_1 (E : ac_E) : ac_ok E md_40 1 (o_ild 1 2) := ok_iload_n (E := E) (d := md_40) (pc := 1) (j := 1) dd_40_1
theorem vd_40_2 (E : ac_E) : ac_ok E md_40 2 (o_ild 2 3) := ok_iload_n (E := E) (d := md_40) (pc := 2) (j := 2) dd_40_2
theorem vd_40_3 (E : ac_E) : ac_okr E md_40 md_43 3 3 6 6 ∧ ac_okt E md_40 md_43 3 3 6 := ok_callV (E := E) (d := md_40) (dz := md_43) (pc := 3) (T := TX4) (N := 12) rfl rfl (by decide) (by decide +kernel) wm_231 wm_50 wm_228 wm_230 wm_2 dd_40_3
theorem vd_40_6 (E : ac_E) : ac_ok E md_40 6 (o_ist 4 8) := ok_istore (E := E) (d := md_40) (pc := 6) dd_40_6
theorem vd_40_8 (E : ac_E) : ac_ok E md_40 8 (o_ild 3 9) := ok_iload_n (E := E) (d := md_40) (pc := 8) (j := 3) dd_40_8
theorem vd_40_9 (E : ac_E) : ac_ok E md_40 9 (o_con (.int 0) 10) := ok_iconst (E := E) (d := md_40) (pc := 9) dd_40_9 (by decide)
theorem vd_40_10 (E : ac_E) : ac_ok E md_40 10 (o_con (.int 6) 12) := ok_bipush (E := E) (d := md_40) (pc := 10) dd_40_10 (by decide)
theorem vd_40_12 (E : ac_E) : ac_okr E md_40 md_45 12 3 15 0 ∧ ac_okt E md_40 md_45 12 3 0 := ok_callS (E := E) (d := md_40) (dz := md_45) (pc := 12) rfl (by decide) (by decide +kernel) wm_307 wm_50 wm_305 wm_306 dd_40_12
theorem vd_40_15 (E : ac_E) : ac_ok E md_40 15 (o_ald 0 16) := ok_aload_n (E := E) (d := md_40) (pc := 15) (j := 0) dd_40_15
theorem vd_40_16 (E : ac_E) : ac_ok E md_40 16 (o_get 4 8 19) := ok_getf (E := E) (d := md_40) (pc := 16) (ci := 4) (f := 8) (C := RX4) (T := TX4) (N := 12) (ref := RX4) rfl win_4 (by decide) rfl wm_171 dd_40_16
theorem vd_40_19 (E : ac_E) : ac_ok E md_40 19 (o_ild 4 21) := ok_iload (E := E) (d := md_40) (pc := 19) dd_40_19
theorem vd_40_21 (E : ac_E) : ac_ok E md_40 21 (o_ia 22) := ok_iaload (E := E) (d := md_40) (pc := 21) dd_40_21
theorem vd_40_22 (E : ac_E) : ac_ok E md_40 22 (o_ild 3 23) := ok_iload_n (E := E) (d := md_40) (pc := 22) (j := 3) dd_40_22
theorem vd_40_23 (E : ac_E) : ac_okr E md_40 md_47 23 2 26 0 ∧ ac_okt E md_40 md_47 23 2 0 := ok_callS (E := E) (d := md_40) (dz := md_47) (pc := 23) rfl (by decide) (by decide +kernel) wm_450 wm_50 wm_462 wm_449 dd_40_23
theorem vd_40_26 (E : ac_E) : ac_ok E md_40 26 (o_ne0 39 29) := ok_ifne (E := E) (d := md_40) (pc := 26) dd_40_26 (by decide)
theorem vd_40_29 (E : ac_E) : ac_okx E md_40 29 4 := ok_throwN (E := E) (d := md_40) (pc := 29) (ix := 13) (bytes := prog_20_method_4_code) (i := 5) (text := "no such particle") rfl (by decide +kernel) (by decide +kernel) (by decide +kernel) (by decide +kernel) (by decide +kernel) rfl wm_598 wm_66 (hat_154_4) (by decide +kernel) (by decide) (by decide) dd_40_29 dd_40_32 dd_40_33 dd_40_35 dd_40_38
theorem vd_40_39 (E : ac_E) : ac_ok E md_40 39 (o_ald 0 40) := ok_aload_n (E := E) (d := md_40) (pc := 39) (j := 0) dd_40_39
theorem vd_40_40 (E : ac_E) : ac_ok E md_40 40 (o_get 4 5 43) := ok_getf (E := E) (d := md_40) (pc := 40) (ci := 4) (f := 5) (C := RX4) (T := TX4) (N := 12) (ref := RX4) rfl win_4 (by decide) rfl wm_168 dd_40_40
theorem vd_40_43 (E : ac_E) : ac_ok E md_40 43 (o_ild 4 45) := ok_iload (E := E) (d := md_40) (pc := 43) dd_40_43
theorem vd_40_45 (E : ac_E) : ac_ok E md_40 45 (o_ild 3 46) := ok_iload_n (E := E) (d := md_40) (pc := 45) (j := 3) dd_40_45
theorem vd_40_46 (E : ac_E) : ac_okr E md_40 md_16 46 3 49 5 := ok_callVN (E := E) (d := md_40) (dz := md_16) (pc := 46) (T := TX3) (N := 3) rfl rfl (by decide) (by decide +kernel) wm_617 wm_55 wm_614 wm_616 wm_29 dd_40_46
theorem vd_40_49 (E : ac_E) : ac_ok E md_40 49 (o_eq0 62 52) := ok_ifeq (E := E) (d := md_40) (pc := 49) dd_40_49 (by decide)
theorem vd_40_52 (E : ac_E) : ac_okx E md_40 52 2 := ok_throw (E := E) (d := md_40) (pc := 52) (i := 6) (text := "it has a mark already") rfl (by decide +kernel) rfl wm_366 wm_63 (hat_162_2) (by decide +kernel) (by decide) (by decide) dd_40_52 dd_40_55 dd_40_56 dd_40_58 dd_40_61
theorem vd_40_62 (E : ac_E) : ac_ok E md_40 62 (o_ald 0 63) := ok_aload_n (E := E) (d := md_40) (pc := 62) (j := 0) dd_40_62
theorem vd_40_63 (E : ac_E) : ac_ok E md_40 63 (o_get 4 5 66) := ok_getf (E := E) (d := md_40) (pc := 63) (ci := 4) (f := 5) (C := RX4) (T := TX4) (N := 12) (ref := RX4) rfl win_4 (by decide) rfl wm_168 dd_40_63
theorem vd_40_66 (E : ac_E) : ac_ok E md_40 66 (o_get 3 2 69) := ok_getN (E := E) (d := md_40) (pc := 66) (ci := 3) (f := 2) (C := RX3) (T := TX3) (N := 3) (ref := RX3) rfl win_3 (by decide) rfl wm_155 dd_40_66
theorem vd_40_69 (E : ac_E) : ac_ok E md_40 69 (o_con (.int 4) 70) := ok_iconst (E := E) (d := md_40) (pc := 69) dd_40_69 (by decide)
theorem vd_40_70 (E : ac_E) : ac_ok E md_40 70 (o_lt 83 73) := ok_icmplt (E := E) (d := md_40) (pc := 70) dd_40_70 (by decide)
theorem vd_40_73 (E : ac_E) : ac_okx E md_40 73 3 := ok_throw (E := E) (d := md_40) (pc := 73) (i := 7) (text := "all marks are given") rfl (by decide +kernel) rfl wm_554 wm_65 (hat_117_3) (by decide +kernel) (by decide) (by decide) dd_40_73 dd_40_76 dd_40_77 dd_40_79 dd_40_82
theorem vd_40_83 (E : ac_E) : ac_ok E md_40 83 (o_ald 0 84) := ok_aload_n (E := E) (d := md_40) (pc := 83) (j := 0) dd_40_83
theorem vd_40_84 (E : ac_E) : ac_ok E md_40 84 (o_get 4 5 87) := ok_getf (E := E) (d := md_40) (pc := 84) (ci := 4) (f := 5) (C := RX4) (T := TX4) (N := 12) (ref := RX4) rfl win_4 (by decide) rfl wm_168 dd_40_84
theorem vd_40_87 (E : ac_E) : ac_ok E md_40 87 (o_ild 4 89) := ok_iload (E := E) (d := md_40) (pc := 87) dd_40_87
theorem vd_40_89 (E : ac_E) : ac_ok E md_40 89 (o_ild 3 90) := ok_iload_n (E := E) (d := md_40) (pc := 89) (j := 3) dd_40_89
theorem vd_40_90 (E : ac_E) : ac_okr E md_40 md_17 90 3 93 5 := ok_callVN (E := E) (d := md_40) (dz := md_17) (pc := 90) (T := TX3) (N := 3) rfl rfl (by decide) (by decide +kernel) wm_623 wm_55 wm_620 wm_622 wm_30 dd_40_90
theorem va_40 (E : ac_E) (pc : Nat) : ac_V E ac_MDf ac_HDf 40 pc (tb_40 (ac_len E) (ac_xs E) pc) := (ac_node (ac_node (ac_node (ac_node (ac_node (ac_leaf 0 (⟨vd_40_0 E, mn_ald _ _⟩)) (ac_leaf 1 (⟨vd_40_1 E, mn_ild _ _⟩))) (ac_node (ac_leaf 2 (⟨vd_40_2 E, mn_ild _ _⟩)) (ac_leaf 3 (ac_Vcp (vd_40_3 E) rfl (fun _ => rfl))))) (ac_node (ac_node (ac_leaf 6 (⟨vd_40_6 E, mn_ist _ _⟩)) (ac_leaf 8 (⟨vd_40_8 E, mn_ild _ _⟩))) (ac_node (ac_leaf 9 (⟨vd_40_9 E, mn_con _ _⟩)) (ac_node (ac_leaf 10 (⟨vd_40_10 E, mn_con _ _⟩)) (ac_leaf 12 (ac_Vcp (vd_40_12 E) rfl (fun _ => rfl))))))) (ac_node (ac_node (ac_node (ac_leaf 15 (⟨vd_40_15 E, mn_ald _ _⟩)) (ac_leaf 16 (⟨vd_40_16 E, mn_get _ _ _⟩))) (ac_node (ac_leaf 19 (⟨vd_40_19 E, mn_ild _ _⟩)) (ac_leaf 21 (⟨vd_40_21 E, mn_ia _⟩)))) (ac_node (ac_node (ac_leaf 22 (⟨vd_40_22 E, mn_ild _ _⟩)) (ac_leaf 23 (ac_Vc0 ((vd_40_23 E).1) (fun _ => rfl)))) (ac_node (ac_leaf 26 (⟨vd_40_26 E, mn_ne0 _ _⟩)) (ac_node (ac_leaf 29 (vd_40_29 E)) (ac_leaf 39 (⟨vd_40_39 E, mn_ald _ _⟩))))))) (ac_node (ac_node (ac_node (ac_node (ac_leaf 40 (⟨vd_40_40 E, mn_get _ _ _⟩)) (ac_leaf 43 (⟨vd_40_43 E, mn_ild _ _⟩))) (ac_node (ac_leaf 45 (⟨vd_40_45 E, mn_ild _ _⟩)) (ac_leaf 46 (ac_Vc0 (vd_40_46 E) (fun _ => rfl))))) (ac_node (ac_node (ac_leaf 49 (⟨vd_40_49 E, mn_eq0 _ _⟩)) (ac_leaf 52 (vd_40_52 E))) (ac_node (ac_leaf 62 (⟨vd_40_62 E, mn_ald _ _⟩)) (ac_node (ac_leaf 63 (⟨vd_40_63 E, mn_get _ _ _⟩)) (ac_leaf 66 (⟨vd_40_66 E, mn_get _ _ _⟩)))))) (ac_node (ac_node (ac_node (ac_leaf 69 (⟨vd_40_69 E, mn_con _ _⟩)) (ac_leaf 70 (⟨vd_40_70 E, mn_lt _ _⟩))) (ac_node (ac_leaf 73 (vd_40_73 E)) (ac_leaf 83 (⟨vd_40_83 E, mn_ald _ _⟩)))) (ac_node (ac_node (ac_leaf 84 (⟨vd_40_84 E, mn_get _ _ _⟩)) (ac_leaf 87 (⟨vd_40_87 E, mn_ild _ _⟩))) (ac_node (ac_leaf 89 (⟨vd_40_89 E, mn_ild _ _⟩)) (ac_node (ac_leaf 90 (ac_Vc0 (vd_40_90 E) (fun _ => rfl))) (ac_leaf 93 (ac_Vr1 dd_40_93 rfl))))))))
theorem vd_41_0 (E : ac_E) : ac_ok E md_41 0 (o_ild 1 1) := ok_iload_n (E := E) (d := md_41) (pc := 0) (j := 1) dd_41_0
theorem vd_41_1 (E : ac_E) : ac_ok E md_41 1 (o_lt0 15 4) := ok_iflt (E := E) (d := md_41) (pc := 1) dd_41_1 (by decide)
theorem vd_41_4 (E : ac_E) : ac_ok E md_41 4 (o_ild 1 5) := ok_iload_n (E := E) (d := md_41) (pc := 4) (j := 1) dd_41_4
theorem vd_41_5 (E : ac_E) : ac_ok E md_41 5 (o_ald 0 6) := ok_aload_n (E := E) (d := md_41) (pc := 5) (j := 0) dd_41_5
theorem vd_41_6 (E : ac_E) : ac_ok E md_41 6 (o_get 4 5 9) := ok_getf (E := E) (d := md_41) (pc := 6) (ci := 4) (f := 5) (C := RX4) (T := TX4) (N := 12) (ref := RX4) rfl win_4 (by decide) rfl wm_168 dd_41_6
theorem vd_41_9 (E : ac_E) : ac_ok E md_41 9 (o_get 3 2 12) := ok_getN (E := E) (d := md_41) (pc := 9) (ci := 3) (f := 2) (C := RX3) (T := TX3) (N := 3) (ref := RX3) rfl win_3 (by decide) rfl wm_155 dd_41_9
theorem vd_41_12 (E : ac_E) : ac_ok E md_41 12 (o_lt 25 15) := ok_icmplt (E := E) (d := md_41) (pc := 12) dd_41_12 (by decide)
theorem vd_41_15 (E : ac_E) : ac_okx E md_41 15 0 := ok_throw (E := E) (d := md_41) (pc := 15) (i := 8) (text := "no such mark") rfl (by decide +kernel) rfl wm_232 wm_60 (hat_133_0) (by decide +kernel) (by decide) (by decide) dd_41_15 dd_41_18 dd_41_19 dd_41_21 dd_41_24
theorem vd_41_25 (E : ac_E) : ac_ok E md_41 25 (o_ald 0 26) := ok_aload_n (E := E) (d := md_41) (pc := 25) (j := 0) dd_41_25
theorem vd_41_26 (E : ac_E) : ac_ok E md_41 26 (o_get 4 5 29) := ok_getf (E := E) (d := md_41) (pc := 26) (ci := 4) (f := 5) (C := RX4) (T := TX4) (N := 12) (ref := RX4) rfl win_4 (by decide) rfl wm_168 dd_41_26
theorem vd_41_29 (E : ac_E) : ac_ok E md_41 29 (o_get 3 0 32) := ok_getN (E := E) (d := md_41) (pc := 29) (ci := 3) (f := 0) (C := RX3) (T := TX3) (N := 3) (ref := RX3) rfl win_3 (by decide) rfl wm_151 dd_41_29
theorem vd_41_32 (E : ac_E) : ac_ok E md_41 32 (o_ild 1 33) := ok_iload_n (E := E) (d := md_41) (pc := 32) (j := 1) dd_41_32
theorem vd_41_33 (E : ac_E) : ac_ok E md_41 33 (o_ia 34) := ok_iaload (E := E) (d := md_41) (pc := 33) dd_41_33
theorem vd_41_34 (E : ac_E) : ac_ok E md_41 34 (o_ist 2 35) := ok_istore_n (E := E) (d := md_41) (pc := 34) (j := 2) dd_41_34
theorem vd_41_35 (E : ac_E) : ac_ok E md_41 35 (o_ild 2 36) := ok_iload_n (E := E) (d := md_41) (pc := 35) (j := 2) dd_41_35
theorem vd_41_36 (E : ac_E) : ac_ok E md_41 36 (o_con (.int (-1)) 37) := ok_iconst (E := E) (d := md_41) (pc := 36) dd_41_36 (by decide)
theorem vd_41_37 (E : ac_E) : ac_ok E md_41 37 (o_ne 42 40) := ok_icmpne (E := E) (d := md_41) (pc := 37) dd_41_37 (by decide)
theorem vd_41_40 (E : ac_E) : ac_ok E md_41 40 (o_con (.int (-1)) 41) := ok_iconst (E := E) (d := md_41) (pc := 40) dd_41_40 (by decide)
theorem vd_41_42 (E : ac_E) : ac_ok E md_41 42 (o_con (.int 128) 45) := ok_sipush (E := E) (d := md_41) (pc := 42) dd_41_42 (by decide)
theorem vd_41_45 (E : ac_E) : ac_ok E md_41 45 (o_ald 0 46) := ok_aload_n (E := E) (d := md_41) (pc := 45) (j := 0) dd_41_45
theorem vd_41_46 (E : ac_E) : ac_ok E md_41 46 (o_get 4 0 49) := ok_getf (E := E) (d := md_41) (pc := 46) (ci := 4) (f := 0) (C := RX4) (T := TX4) (N := 12) (ref := RX4) rfl win_4 (by decide) rfl wm_163 dd_41_46
theorem vd_41_49 (E : ac_E) : ac_ok E md_41 49 (o_ild 2 50) := ok_iload_n (E := E) (d := md_41) (pc := 49) (j := 2) dd_41_49
theorem vd_41_50 (E : ac_E) : ac_okr E md_41 md_13 50 2 53 4 := ok_callVN (E := E) (d := md_41) (dz := md_13) (pc := 50) (T := TX2) (N := 4) rfl rfl (by decide) (by decide +kernel) wm_211 wm_51 wm_208 wm_210 wm_0 dd_41_50
theorem vd_41_53 (E : ac_E) : ac_ok E md_41 53 (o_mul 54) := ok_imul (E := E) (d := md_41) (pc := 53) dd_41_53
theorem vd_41_54 (E : ac_E) : ac_ok E md_41 54 (o_con (.int 8) 56) := ok_bipush (E := E) (d := md_41) (pc := 54) dd_41_54 (by decide)
theorem vd_41_56 (E : ac_E) : ac_ok E md_41 56 (o_ald 0 57) := ok_aload_n (E := E) (d := md_41) (pc := 56) (j := 0) dd_41_56
theorem vd_41_57 (E : ac_E) : ac_ok E md_41 57 (o_get 4 0 60) := ok_getf (E := E) (d := md_41) (pc := 57) (ci := 4) (f := 0) (C := RX4) (T := TX4) (N := 12) (ref := RX4) rfl win_4 (by decide) rfl wm_163 dd_41_57
theorem vd_41_60 (E : ac_E) : ac_ok E md_41 60 (o_ild 2 61) := ok_iload_n (E := E) (d := md_41) (pc := 60) (j := 2) dd_41_60
theorem vd_41_61 (E : ac_E) : ac_okr E md_41 md_12 61 2 64 4 := ok_callVN (E := E) (d := md_41) (dz := md_12) (pc := 61) (T := TX2) (N := 4) rfl rfl (by decide) (by decide +kernel) wm_215 wm_51 wm_212 wm_214 wm_1 dd_41_61
theorem vd_41_64 (E : ac_E) : ac_ok E md_41 64 (o_mul 65) := ok_imul (E := E) (d := md_41) (pc := 64) dd_41_64
theorem vd_41_65 (E : ac_E) : ac_ok E md_41 65 (o_add 66) := ok_iadd (E := E) (d := md_41) (pc := 65) dd_41_65
theorem vd_41_66 (E : ac_E) : ac_ok E md_41 66 (o_ald 0 67) := ok_aload_n (E := E) (d := md_41) (pc := 66) (j := 0) dd_41_66
theorem vd_41_67 (E : ac_E) : ac_ok E md_41 67 (o_get 4 5 70) := ok_getf (E := E) (d := md_41) (pc := 67) (ci := 4) (f := 5) (C := RX4) (T := TX4) (N := 12) (ref := RX4) rfl win_4 (by decide) rfl wm_168 dd_41_67
theorem vd_41_70 (E : ac_E) : ac_ok E md_41 70 (o_get 3 1 73) := ok_getN (E := E) (d := md_41) (pc := 70) (ci := 3) (f := 1) (C := RX3) (T := TX3) (N := 3) (ref := RX3) rfl win_3 (by decide) rfl wm_153 dd_41_70
theorem vd_41_73 (E : ac_E) : ac_ok E md_41 73 (o_ild 1 74) := ok_iload_n (E := E) (d := md_41) (pc := 73) (j := 1) dd_41_73
theorem vd_41_74 (E : ac_E) : ac_ok E md_41 74 (o_ia 75) := ok_iaload (E := E) (d := md_41) (pc := 74) dd_41_74
theorem vd_41_75 (E : ac_E) : ac_ok E md_41 75 (o_add 76) := ok_iadd (E := E) (d := md_41) (pc := 75) dd_41_75
theorem va_41 (E : ac_E) (pc : Nat) : ac_V E ac_MDf ac_HDf 41 pc (tb_41 (ac_len E) (ac_xs E) pc) := (ac_node (ac_node (ac_node (ac_node (ac_node (ac_leaf 0 (⟨vd_41_0 E, mn_ild _ _⟩)) (ac_leaf 1 (⟨vd_41_1 E, mn_lt0 _ _⟩))) (ac_node (ac_leaf 4 (⟨vd_41_4 E, mn_ild _ _⟩)) (ac_leaf 5 (⟨vd_41_5 E, mn_ald _ _⟩)))) (ac_node (ac_node (ac_leaf 6 (⟨vd_41_6 E, mn_get _ _ _⟩)) (ac_leaf 9 (⟨vd_41_9 E, mn_get _ _ _⟩))) (ac_node (ac_leaf 12 (⟨vd_41_12 E, mn_lt _ _⟩)) (ac_node (ac_leaf 15 (vd_41_15 E)) (ac_leaf 25 (⟨vd_41_25 E, mn_ald _ _⟩)))))) (ac_node (ac_node (ac_node (ac_leaf 26 (⟨vd_41_26 E, mn_get _ _ _⟩)) (ac_leaf 29 (⟨vd_41_29 E, mn_get _ _ _⟩))) (ac_node (ac_leaf 32 (⟨vd_41_32 E, mn_ild _ _⟩)) (ac_node (ac_leaf 33 (⟨vd_41_33 E, mn_ia _⟩)) (ac_leaf 34 (⟨vd_41_34 E, mn_ist _ _⟩))))) (ac_node (ac_node (ac_leaf 35 (⟨vd_41_35 E, mn_ild _ _⟩)) (ac_leaf 36 (⟨vd_41_36 E, mn_con _ _⟩))) (ac_node (ac_leaf 37 (⟨vd_41_37 E, mn_ne _ _⟩)) (ac_node (ac_leaf 40 (⟨vd_41_40 E, mn_con _ _⟩)) (ac_leaf 41 (ac_Vr1 dd_41_41 rfl))))))) (ac_node (ac_node (ac_node (ac_node (ac_leaf 42 (⟨vd_41_42 E, mn_con _ _⟩)) (ac_leaf 45 (⟨vd_41_45 E, mn_ald _ _⟩))) (ac_node (ac_leaf 46 (⟨vd_41_46 E, mn_get _ _ _⟩)) (ac_node (ac_leaf 49 (⟨vd_41_49 E, mn_ild _ _⟩)) (ac_leaf 50 (ac_Vc0 (vd_41_50 E) (fun _ => rfl)))))) (ac_node (ac_node (ac_leaf 53 (⟨vd_41_53 E, mn_mul _⟩)) (ac_leaf 54 (⟨vd_41_54 E, mn_con _ _⟩))) (ac_node (ac_leaf 56 (⟨vd_41_56 E, mn_ald _ _⟩)) (ac_node (ac_leaf 57 (⟨vd_41_57 E, mn_get _ _ _⟩)) (ac_leaf 60 (⟨vd_41_60 E, mn_ild _ _⟩)))))) (ac_node (ac_node (ac_node (ac_leaf 61 (ac_Vc0 (vd_41_61 E) (fun _ => rfl))) (ac_leaf 64 (⟨vd_41_64 E, mn_mul _⟩))) (ac_node (ac_leaf 65 (⟨vd_41_65 E, mn_add _⟩)) (ac_node (ac_leaf 66 (⟨vd_41_66 E, mn_ald _ _⟩)) (ac_leaf 67 (⟨vd_41_67 E, mn_get _ _ _⟩))))) (ac_node (ac_node (ac_leaf 70 (⟨vd_41_70 E, mn_get _ _ _⟩)) (ac_leaf 73 (⟨vd_41_73 E, mn_ild _ _⟩))) (ac_node (ac_leaf 74 (⟨vd_41_74 E, mn_ia _⟩)) (ac_node (ac_leaf 75 (⟨vd_41_75 E, mn_add _⟩)) (ac_leaf 76 (ac_Vr1 dd_41_76 rfl))))))))
theorem vd_42_0 (E : ac_E) : ac_ok E md_42 0 (o_ild 0 1) := ok_iload_n (E := E) (d := md_42) (pc := 0) (j := 0) dd_42_0
theorem vd_42_1 (E : ac_E) : ac_ok E md_42 1 (o_con (.int 4) 2) := ok_iconst (E := E) (d := md_42) (pc := 1) dd_42_1 (by decide)
theorem vd_42_2 (E : ac_E) : ac_ok E md_42 2 (o_lt 21 5) := ok_icmplt (E := E) (d := md_42) (pc := 2) dd_42_2 (by decide)
theorem vd_42_5 (E : ac_E) : ac_ok E md_42 5 (o_ild 0 6) := ok_iload_n (E := E) (d := md_42) (pc := 5) (j := 0) dd_42_5
theorem vd_42_6 (E : ac_E) : ac_ok E md_42 6 (o_con (.int 16) 8) := ok_bipush (E := E) (d := md_42) (pc := 6) dd_42_6 (by decide)
theorem vd_42_8 (E : ac_E) : ac_ok E md_42 8 (o_gt 21 11) := ok_icmpgt (E := E) (d := md_42) (pc := 8) dd_42_8 (by decide)
theorem vd_42_11 (E : ac_E) : ac_ok E md_42 11 (o_ild 0 12) := ok_iload_n (E := E) (d := md_42) (pc := 11) (j := 0) dd_42_11
theorem vd_42_12 (E : ac_E) : ac_ok E md_42 12 (o_con (.int 2) 13) := ok_iconst (E := E) (d := md_42) (pc := 12) dd_42_12 (by decide)
theorem vd_42_13 (E : ac_E) : ac_ok E md_42 13 (o_rem 14) := ok_irem (E := E) (d := md_42) (pc := 13) dd_42_13
theorem vd_42_14 (E : ac_E) : ac_ok E md_42 14 (o_ne0 21 17) := ok_ifne (E := E) (d := md_42) (pc := 14) dd_42_14 (by decide)
theorem vd_42_17 (E : ac_E) : ac_ok E md_42 17 (o_con (.int 1) 18) := ok_iconst (E := E) (d := md_42) (pc := 17) dd_42_17 (by decide)
theorem vd_42_18 (E : ac_E) : ac_ok E md_42 18 (o_go 22) := ok_goto (E := E) (d := md_42) (pc := 18) dd_42_18 (by decide)
theorem vd_42_21 (E : ac_E) : ac_ok E md_42 21 (o_con (.int 0) 22) := ok_iconst (E := E) (d := md_42) (pc := 21) dd_42_21 (by decide)
theorem vd_42_22 (E : ac_E) : ac_ok E md_42 22 (o_ist 1 23) := ok_istore_n (E := E) (d := md_42) (pc := 22) (j := 1) dd_42_22
theorem vd_42_23 (E : ac_E) : ac_ok E md_42 23 (o_ild 1 24) := ok_iload_n (E := E) (d := md_42) (pc := 23) (j := 1) dd_42_23
theorem vd_42_24 (E : ac_E) : ac_ok E md_42 24 (o_eq0 31 27) := ok_ifeq (E := E) (d := md_42) (pc := 24) dd_42_24 (by decide)
theorem vd_42_27 (E : ac_E) : ac_ok E md_42 27 (o_ild 0 28) := ok_iload_n (E := E) (d := md_42) (pc := 27) (j := 0) dd_42_27
theorem vd_42_28 (E : ac_E) : ac_ok E md_42 28 (o_go 33) := ok_goto (E := E) (d := md_42) (pc := 28) dd_42_28 (by decide)
theorem vd_42_31 (E : ac_E) : ac_ok E md_42 31 (o_con (.int 8) 33) := ok_bipush (E := E) (d := md_42) (pc := 31) dd_42_31 (by decide)
theorem va_42 (E : ac_E) (pc : Nat) : ac_V E ac_MDf ac_HDf 42 pc (tb_42 (ac_len E) (ac_xs E) pc) := (ac_node (ac_node (ac_node (ac_node (ac_leaf 0 (⟨vd_42_0 E, mn_ild _ _⟩)) (ac_leaf 1 (⟨vd_42_1 E, mn_con _ _⟩))) (ac_node (ac_leaf 2 (⟨vd_42_2 E, mn_lt _ _⟩)) (ac_node (ac_leaf 5 (⟨vd_42_5 E, mn_ild _ _⟩)) (ac_leaf 6 (⟨vd_42_6 E, mn_con _ _⟩))))) (ac_node (ac_node (ac_leaf 8 (⟨vd_42_8 E, mn_gt _ _⟩)) (ac_leaf 11 (⟨vd_42_11 E, mn_ild _ _⟩))) (ac_node (ac_leaf 12 (⟨vd_42_12 E, mn_con _ _⟩)) (ac_node (ac_leaf 13 (⟨vd_42_13 E, mn_rem _⟩)) (ac_leaf 14 (⟨vd_42_14 E, mn_ne0 _ _⟩)))))) (ac_node (ac_node (ac_node (ac_leaf 17 (⟨vd_42_17 E, mn_con _ _⟩)) (ac_leaf 18 (⟨vd_42_18 E, mn_go _⟩))) (ac_node (ac_leaf 21 (⟨vd_42_21 E, mn_con _ _⟩)) (ac_node (ac_leaf 22 (⟨vd_42_22 E, mn_ist _ _⟩)) (ac_leaf 23 (⟨vd_42_23 E, mn_ild _ _⟩))))) (ac_node (ac_node (ac_leaf 24 (⟨vd_42_24 E, mn_eq0 _ _⟩)) (ac_leaf 27 (⟨vd_42_27 E, mn_ild _ _⟩))) (ac_node (ac_leaf 28 (⟨vd_42_28 E, mn_go _⟩)) (ac_node (ac_leaf 31 (⟨vd_42_31 E, mn_con _ _⟩)) (ac_leaf 33 (ac_Vr1 dd_42_33 rfl)))))))
theorem vd_43_0 (E : ac_E) : ac_ok E md_43 0 (o_ild 1 1) := ok_iload_n (E := E) (d := md_43) (pc := 0) (j := 1) dd_43_0
theorem vd_43_1 (E : ac_E) : ac_ok E md_43 1 (o_lt0 30 4) := ok_iflt (E := E) (d := md_43) (pc := 1) dd_43_1 (by decide)
theorem vd_43_4 (E : ac_E) : ac_ok E md_43 4 (o_ild 1 5) := ok_iload_n (E := E) (d := md_43) (pc := 4) (j := 1) dd_43_4
theorem vd_43_5 (E : ac_E) : ac_ok E md_43 5 (o_ald 0 6) := ok_aload_n (E := E) (d := md_43) (pc := 5) (j := 0) dd_43_5
theorem vd_43_6 (E : ac_E) : ac_ok E md_43 6 (o_get 4 0 9) := ok_getf (E := E) (d := md_43) (pc := 6) (ci := 4) (f := 0) (C := RX4) (T := TX4) (N := 12) (ref := RX4) rfl win_4 (by decide) rfl wm_163 dd_43_6
theorem vd_43_9 (E : ac_E) : ac_ok E md_43 9 (o_get 2 0 12) := ok_getN (E := E) (d := md_43) (pc := 9) (ci := 2) (f := 0) (C := RX2) (T := TX2) (N := 4) (ref := RX2) rfl win_2 (by decide) rfl wm_94 dd_43_9
theorem vd_43_12 (E : ac_E) : ac_ok E md_43 12 (o_ge 30 15) := ok_icmpge (E := E) (d := md_43) (pc := 12) dd_43_12 (by decide)
theorem vd_43_15 (E : ac_E) : ac_ok E md_43 15 (o_ild 2 16) := ok_iload_n (E := E) (d := md_43) (pc := 15) (j := 2) dd_43_15
theorem vd_43_16 (E : ac_E) : ac_ok E md_43 16 (o_lt0 30 19) := ok_iflt (E := E) (d := md_43) (pc := 16) dd_43_16 (by decide)
theorem vd_43_19 (E : ac_E) : ac_ok E md_43 19 (o_ild 2 20) := ok_iload_n (E := E) (d := md_43) (pc := 19) (j := 2) dd_43_19
theorem vd_43_20 (E : ac_E) : ac_ok E md_43 20 (o_ald 0 21) := ok_aload_n (E := E) (d := md_43) (pc := 20) (j := 0) dd_43_20
theorem vd_43_21 (E : ac_E) : ac_ok E md_43 21 (o_get 4 0 24) := ok_getf (E := E) (d := md_43) (pc := 21) (ci := 4) (f := 0) (C := RX4) (T := TX4) (N := 12) (ref := RX4) rfl win_4 (by decide) rfl wm_163 dd_43_21
theorem vd_43_24 (E : ac_E) : ac_ok E md_43 24 (o_get 2 1 27) := ok_getN (E := E) (d := md_43) (pc := 24) (ci := 2) (f := 1) (C := RX2) (T := TX2) (N := 4) (ref := RX2) rfl win_2 (by decide) rfl wm_96 dd_43_24
theorem vd_43_27 (E : ac_E) : ac_ok E md_43 27 (o_lt 40 30) := ok_icmplt (E := E) (d := md_43) (pc := 27) dd_43_27 (by decide)
theorem vd_43_30 (E : ac_E) : ac_okx E md_43 30 0 := ok_throw (E := E) (d := md_43) (pc := 30) (i := 0) (text := "no such cell") rfl (by decide +kernel) rfl wm_232 wm_60 (hat_133_0) (by decide +kernel) (by decide) (by decide) dd_43_30 dd_43_33 dd_43_34 dd_43_36 dd_43_39
theorem vd_43_40 (E : ac_E) : ac_ok E md_43 40 (o_ild 2 41) := ok_iload_n (E := E) (d := md_43) (pc := 40) (j := 2) dd_43_40
theorem vd_43_41 (E : ac_E) : ac_ok E md_43 41 (o_ald 0 42) := ok_aload_n (E := E) (d := md_43) (pc := 41) (j := 0) dd_43_41
theorem vd_43_42 (E : ac_E) : ac_ok E md_43 42 (o_get 4 0 45) := ok_getf (E := E) (d := md_43) (pc := 42) (ci := 4) (f := 0) (C := RX4) (T := TX4) (N := 12) (ref := RX4) rfl win_4 (by decide) rfl wm_163 dd_43_42
theorem vd_43_45 (E : ac_E) : ac_ok E md_43 45 (o_get 2 0 48) := ok_getN (E := E) (d := md_43) (pc := 45) (ci := 2) (f := 0) (C := RX2) (T := TX2) (N := 4) (ref := RX2) rfl win_2 (by decide) rfl wm_94 dd_43_45
theorem vd_43_48 (E : ac_E) : ac_ok E md_43 48 (o_mul 49) := ok_imul (E := E) (d := md_43) (pc := 48) dd_43_48
theorem vd_43_49 (E : ac_E) : ac_ok E md_43 49 (o_ild 1 50) := ok_iload_n (E := E) (d := md_43) (pc := 49) (j := 1) dd_43_49
theorem vd_43_50 (E : ac_E) : ac_ok E md_43 50 (o_add 51) := ok_iadd (E := E) (d := md_43) (pc := 50) dd_43_50
theorem va_43 (E : ac_E) (pc : Nat) : ac_V E ac_MDf ac_HDf 43 pc (tb_43 (ac_len E) (ac_xs E) pc) := (ac_node (ac_node (ac_node (ac_node (ac_leaf 0 (⟨vd_43_0 E, mn_ild _ _⟩)) (ac_leaf 1 (⟨vd_43_1 E, mn_lt0 _ _⟩))) (ac_node (ac_leaf 4 (⟨vd_43_4 E, mn_ild _ _⟩)) (ac_node (ac_leaf 5 (⟨vd_43_5 E, mn_ald _ _⟩)) (ac_leaf 6 (⟨vd_43_6 E, mn_get _ _ _⟩))))) (ac_node (ac_node (ac_leaf 9 (⟨vd_43_9 E, mn_get _ _ _⟩)) (ac_node (ac_leaf 12 (⟨vd_43_12 E, mn_ge _ _⟩)) (ac_leaf 15 (⟨vd_43_15 E, mn_ild _ _⟩)))) (ac_node (ac_leaf 16 (⟨vd_43_16 E, mn_lt0 _ _⟩)) (ac_node (ac_leaf 19 (⟨vd_43_19 E, mn_ild _ _⟩)) (ac_leaf 20 (⟨vd_43_20 E, mn_ald _ _⟩)))))) (ac_node (ac_node (ac_node (ac_leaf 21 (⟨vd_43_21 E, mn_get _ _ _⟩)) (ac_node (ac_leaf 24 (⟨vd_43_24 E, mn_get _ _ _⟩)) (ac_leaf 27 (⟨vd_43_27 E, mn_lt _ _⟩)))) (ac_node (ac_leaf 30 (vd_43_30 E)) (ac_node (ac_leaf 40 (⟨vd_43_40 E, mn_ild _ _⟩)) (ac_leaf 41 (⟨vd_43_41 E, mn_ald _ _⟩))))) (ac_node (ac_node (ac_leaf 42 (⟨vd_43_42 E, mn_get _ _ _⟩)) (ac_node (ac_leaf 45 (⟨vd_43_45 E, mn_get _ _ _⟩)) (ac_leaf 48 (⟨vd_43_48 E, mn_mul _⟩)))) (ac_node (ac_leaf 49 (⟨vd_43_49 E, mn_ild _ _⟩)) (ac_node (ac_leaf 50 (⟨vd_43_50 E, mn_add _⟩)) (ac_leaf 51 (ac_Vr1 dd_43_51 rfl)))))))
theorem vd_44_0 (E : ac_E) : ac_ok E md_44 0 (o_ild 0 1) := ok_iload_n (E := E) (d := md_44) (pc := 0) (j := 0) dd_44_0
theorem vd_44_1 (E : ac_E) : ac_ok E md_44 1 (o_con (.int 0) 2) := ok_iconst (E := E) (d := md_44) (pc := 1) dd_44_1 (by decide)
theorem vd_44_2 (E : ac_E) : ac_ok E md_44 2 (o_con (.int 127) 4) := ok_bipush (E := E) (d := md_44) (pc := 2) dd_44_2 (by decide)
theorem vd_44_4 (E : ac_E) : ac_okr E md_44 md_45 4 3 7 0 ∧ ac_okt E md_44 md_45 4 3 0 := ok_callS (E := E) (d := md_44) (dz := md_45) (pc := 4) rfl (by decide) (by decide +kernel) wm_307 wm_50 wm_305 wm_306 dd_44_4
theorem va_44 (E : ac_E) (pc : Nat) : ac_V E ac_MDf ac_HDf 44 pc (tb_44 (ac_len E) (ac_xs E) pc) := (ac_node (ac_node (ac_leaf 0 (⟨vd_44_0 E, mn_ild _ _⟩)) (ac_leaf 1 (⟨vd_44_1 E, mn_con _ _⟩))) (ac_node (ac_leaf 2 (⟨vd_44_2 E, mn_con _ _⟩)) (ac_node (ac_leaf 4 (ac_Vcp (vd_44_4 E) rfl (fun _ => rfl))) (ac_leaf 7 (ac_Vr0 dd_44_7 rfl)))))
theorem vd_45_0 (E : ac_E) : ac_ok E md_45 0 (o_ild 0 1) := ok_iload_n (E := E) (d := md_45) (pc := 0) (j := 0) dd_45_0
theorem vd_45_1 (E : ac_E) : ac_ok E md_45 1 (o_ild 1 2) := ok_iload_n (E := E) (d := md_45) (pc := 1) (j := 1) dd_45_1
theorem vd_45_2 (E : ac_E) : ac_ok E md_45 2 (o_lt 10 5) := ok_icmplt (E := E) (d := md_45) (pc := 2) dd_45_2 (by decide)
theorem vd_45_5 (E : ac_E) : ac_ok E md_45 5 (o_ild 0 6) := ok_iload_n (E := E) (d := md_45) (pc := 5) (j := 0) dd_45_5
theorem vd_45_6 (E : ac_E) : ac_ok E md_45 6 (o_ild 2 7) := ok_iload_n (E := E) (d := md_45) (pc := 6) (j := 2) dd_45_6
theorem vd_45_7 (E : ac_E) : ac_ok E md_45 7 (o_le 20 10) := ok_icmple (E := E) (d := md_45) (pc := 7) dd_45_7 (by decide)
theorem vd_45_10 (E : ac_E) : ac_okx E md_45 10 1 := ok_throw (E := E) (d := md_45) (pc := 10) (i := 1) (text := "out of range") rfl (by decide +kernel) rfl wm_308 wm_61 (hat_184_1) (by decide +kernel) (by decide) (by decide) dd_45_10 dd_45_13 dd_45_14 dd_45_16 dd_45_19
theorem va_45 (E : ac_E) (pc : Nat) : ac_V E ac_MDf ac_HDf 45 pc (tb_45 (ac_len E) (ac_xs E) pc) := (ac_node (ac_node (ac_node (ac_leaf 0 (⟨vd_45_0 E, mn_ild _ _⟩)) (ac_leaf 1 (⟨vd_45_1 E, mn_ild _ _⟩))) (ac_node (ac_leaf 2 (⟨vd_45_2 E, mn_lt _ _⟩)) (ac_leaf 5 (⟨vd_45_5 E, mn_ild _ _⟩)))) (ac_node (ac_node (ac_leaf 6 (⟨vd_45_6 E, mn_ild _ _⟩)) (ac_leaf 7 (⟨vd_45_7 E, mn_le _ _⟩))) (ac_node (ac_leaf 10 (vd_45_10 E)) (ac_leaf 20 (ac_Vr0 dd_45_20 rfl)))))
theorem vd_46_0 (E : ac_E) : ac_ok E md_46 0 (o_ald 0 1) := ok_aload_n (E := E) (d := md_46) (pc := 0) (j := 0) dd_46_0
theorem vd_46_1 (E : ac_E) : ac_ok E md_46 1 (o_get 4 1 4) := ok_getf (E := E) (d := md_46) (pc := 1) (ci := 4) (f := 1) (C := RX4) (T := TX4) (N := 12) (ref := RX4) rfl win_4 (by decide) rfl wm_164 dd_46_1
theorem vd_46_4 (E : ac_E) : ac_ok E md_46 4 (o_ild 1 5) := ok_iload_n (E := E) (d := md_46) (pc := 4) (j := 1) dd_46_4
theorem vd_46_5 (E : ac_E) : ac_ok E md_46 5 (o_ia 6) := ok_iaload (E := E) (d := md_46) (pc := 5) dd_46_5
theorem vd_46_6 (E : ac_E) : ac_ok E md_46 6 (o_ist 4 8) := ok_istore (E := E) (d := md_46) (pc := 6) dd_46_6
theorem vd_46_8 (E : ac_E) : ac_ok E md_46 8 (o_ild 4 10) := ok_iload (E := E) (d := md_46) (pc := 8) dd_46_8
theorem vd_46_10 (E : ac_E) : ac_ok E md_46 10 (o_eq0 29 13) := ok_ifeq (E := E) (d := md_46) (pc := 10) dd_46_10 (by decide)
theorem vd_46_13 (E : ac_E) : ac_ok E md_46 13 (o_ild 4 15) := ok_iload (E := E) (d := md_46) (pc := 13) dd_46_13
theorem vd_46_15 (E : ac_E) : ac_ok E md_46 15 (o_ild 2 16) := ok_iload_n (E := E) (d := md_46) (pc := 15) (j := 2) dd_46_15
theorem vd_46_16 (E : ac_E) : ac_ok E md_46 16 (o_eq 29 19) := ok_icmpeq (E := E) (d := md_46) (pc := 16) dd_46_16 (by decide)
theorem vd_46_19 (E : ac_E) : ac_okx E md_46 19 2 := ok_throw (E := E) (d := md_46) (pc := 19) (i := 2) (text := "the cell is another edge") rfl (by decide +kernel) rfl wm_366 wm_63 (hat_162_2) (by decide +kernel) (by decide) (by decide) dd_46_19 dd_46_22 dd_46_23 dd_46_25 dd_46_28
theorem vd_46_29 (E : ac_E) : ac_ok E md_46 29 (o_ild 3 30) := ok_iload_n (E := E) (d := md_46) (pc := 29) (j := 3) dd_46_29
theorem vd_46_30 (E : ac_E) : ac_ok E md_46 30 (o_eq0 37 33) := ok_ifeq (E := E) (d := md_46) (pc := 30) dd_46_30 (by decide)
theorem vd_46_33 (E : ac_E) : ac_ok E md_46 33 (o_ild 2 34) := ok_iload_n (E := E) (d := md_46) (pc := 33) (j := 2) dd_46_33
theorem vd_46_34 (E : ac_E) : ac_ok E md_46 34 (o_go 38) := ok_goto (E := E) (d := md_46) (pc := 34) dd_46_34 (by decide)
theorem vd_46_37 (E : ac_E) : ac_ok E md_46 37 (o_con (.int 0) 38) := ok_iconst (E := E) (d := md_46) (pc := 37) dd_46_37 (by decide)
theorem vd_46_38 (E : ac_E) : ac_ok E md_46 38 (o_ist 5 40) := ok_istore (E := E) (d := md_46) (pc := 38) dd_46_38
theorem vd_46_40 (E : ac_E) : ac_ok E md_46 40 (o_ald 0 41) := ok_aload_n (E := E) (d := md_46) (pc := 40) (j := 0) dd_46_40
theorem vd_46_41 (E : ac_E) : ac_ok E md_46 41 (o_get 4 1 44) := ok_getf (E := E) (d := md_46) (pc := 41) (ci := 4) (f := 1) (C := RX4) (T := TX4) (N := 12) (ref := RX4) rfl win_4 (by decide) rfl wm_164 dd_46_41
theorem vd_46_44 (E : ac_E) : ac_ok E md_46 44 (o_ild 1 45) := ok_iload_n (E := E) (d := md_46) (pc := 44) (j := 1) dd_46_44
theorem vd_46_45 (E : ac_E) : ac_ok E md_46 45 (o_ild 5 47) := ok_iload (E := E) (d := md_46) (pc := 45) dd_46_45
theorem vd_46_47 (E : ac_E) : ac_ok E md_46 47 (o_is 48) := ok_iastore (E := E) (d := md_46) (pc := 47) dd_46_47
theorem vd_46_48 (E : ac_E) : ac_ok E md_46 48 (o_ild 5 50) := ok_iload (E := E) (d := md_46) (pc := 48) dd_46_48
theorem vd_46_50 (E : ac_E) : ac_ok E md_46 50 (o_ild 4 52) := ok_iload (E := E) (d := md_46) (pc := 50) dd_46_50
theorem vd_46_52 (E : ac_E) : ac_ok E md_46 52 (o_eq 59 55) := ok_icmpeq (E := E) (d := md_46) (pc := 52) dd_46_52 (by decide)
theorem vd_46_55 (E : ac_E) : ac_ok E md_46 55 (o_con (.int 1) 56) := ok_iconst (E := E) (d := md_46) (pc := 55) dd_46_55 (by decide)
theorem vd_46_56 (E : ac_E) : ac_ok E md_46 56 (o_go 60) := ok_goto (E := E) (d := md_46) (pc := 56) dd_46_56 (by decide)
theorem vd_46_59 (E : ac_E) : ac_ok E md_46 59 (o_con (.int 0) 60) := ok_iconst (E := E) (d := md_46) (pc := 59) dd_46_59 (by decide)
theorem va_46 (E : ac_E) (pc : Nat) : ac_V E ac_MDf ac_HDf 46 pc (tb_46 (ac_len E) (ac_xs E) pc) := (ac_node (ac_node (ac_node (ac_node (ac_leaf 0 (⟨vd_46_0 E, mn_ald _ _⟩)) (ac_node (ac_leaf 1 (⟨vd_46_1 E, mn_get _ _ _⟩)) (ac_leaf 4 (⟨vd_46_4 E, mn_ild _ _⟩)))) (ac_node (ac_node (ac_leaf 5 (⟨vd_46_5 E, mn_ia _⟩)) (ac_leaf 6 (⟨vd_46_6 E, mn_ist _ _⟩))) (ac_node (ac_leaf 8 (⟨vd_46_8 E, mn_ild _ _⟩)) (ac_leaf 10 (⟨vd_46_10 E, mn_eq0 _ _⟩))))) (ac_node (ac_node (ac_leaf 13 (⟨vd_46_13 E, mn_ild _ _⟩)) (ac_node (ac_leaf 15 (⟨vd_46_15 E, mn_ild _ _⟩)) (ac_leaf 16 (⟨vd_46_16 E, mn_eq _ _⟩)))) (ac_node (ac_node (ac_leaf 19 (vd_46_19 E)) (ac_leaf 29 (⟨vd_46_29 E, mn_ild _ _⟩))) (ac_node (ac_leaf 30 (⟨vd_46_30 E, mn_eq0 _ _⟩)) (ac_leaf 33 (⟨vd_46_33 E, mn_ild _ _⟩)))))) (ac_node (ac_node (ac_node (ac_leaf 34 (⟨vd_46_34 E, mn_go _⟩)) (ac_node (ac_leaf 37 (⟨vd_46_37 E, mn_con _ _⟩)) (ac_leaf 38 (⟨vd_46_38 E, mn_ist _ _⟩)))) (ac_node (ac_node (ac_leaf 40 (⟨vd_46_40 E, mn_ald _ _⟩)) (ac_leaf 41 (⟨vd_46_41 E, mn_get _ _ _⟩))) (ac_node (ac_leaf 44 (⟨vd_46_44 E, mn_ild _ _⟩)) (ac_leaf 45 (⟨vd_46_45 E, mn_ild _ _⟩))))) (ac_node (ac_node (ac_node (ac_leaf 47 (⟨vd_46_47 E, mn_is _⟩)) (ac_leaf 48 (⟨vd_46_48 E, mn_ild _ _⟩))) (ac_node (ac_leaf 50 (⟨vd_46_50 E, mn_ild _ _⟩)) (ac_leaf 52 (⟨vd_46_52 E, mn_eq _ _⟩)))) (ac_node (ac_node (ac_leaf 55 (⟨vd_46_55 E, mn_con _ _⟩)) (ac_leaf 56 (⟨vd_46_56 E, mn_go _⟩))) (ac_node (ac_leaf 59 (⟨vd_46_59 E, mn_con _ _⟩)) (ac_leaf 60 (ac_Vr2 dd_46_60 rfl)))))))
theorem vd_47_0 (E : ac_E) : ac_ok E md_47 0 (o_ild 0 1) := ok_iload_n (E := E) (d := md_47) (pc := 0) (j := 0) dd_47_0
theorem vd_47_1 (E : ac_E) : ac_ok E md_47 1 (o_ild 1 2) := ok_iload_n (E := E) (d := md_47) (pc := 1) (j := 1) dd_47_1
theorem vd_47_2 (E : ac_E) : ac_ok E md_47 2 (o_shr 3) := ok_ishr (E := E) (d := md_47) (pc := 2) dd_47_2
theorem vd_47_3 (E : ac_E) : ac_ok E md_47 3 (o_con (.int 1) 4) := ok_iconst (E := E) (d := md_47) (pc := 3) dd_47_3 (by decide)
theorem vd_47_4 (E : ac_E) : ac_ok E md_47 4 (o_and 5) := ok_iand (E := E) (d := md_47) (pc := 4) dd_47_4
theorem vd_47_5 (E : ac_E) : ac_ok E md_47 5 (o_eq0 12 8) := ok_ifeq (E := E) (d := md_47) (pc := 5) dd_47_5 (by decide)
theorem vd_47_8 (E : ac_E) : ac_ok E md_47 8 (o_con (.int 1) 9) := ok_iconst (E := E) (d := md_47) (pc := 8) dd_47_8 (by decide)
theorem vd_47_9 (E : ac_E) : ac_ok E md_47 9 (o_go 13) := ok_goto (E := E) (d := md_47) (pc := 9) dd_47_9 (by decide)
theorem vd_47_12 (E : ac_E) : ac_ok E md_47 12 (o_con (.int 0) 13) := ok_iconst (E := E) (d := md_47) (pc := 12) dd_47_12 (by decide)
theorem va_47 (E : ac_E) (pc : Nat) : ac_V E ac_MDf ac_HDf 47 pc (tb_47 (ac_len E) (ac_xs E) pc) := (ac_node (ac_node (ac_node (ac_leaf 0 (⟨vd_47_0 E, mn_ild _ _⟩)) (ac_leaf 1 (⟨vd_47_1 E, mn_ild _ _⟩))) (ac_node (ac_leaf 2 (⟨vd_47_2 E, mn_shr _⟩)) (ac_node (ac_leaf 3 (⟨vd_47_3 E, mn_con _ _⟩)) (ac_leaf 4 (⟨vd_47_4 E, mn_and _⟩))))) (ac_node (ac_node (ac_leaf 5 (⟨vd_47_5 E, mn_eq0 _ _⟩)) (ac_leaf 8 (⟨vd_47_8 E, mn_con _ _⟩))) (ac_node (ac_leaf 9 (⟨vd_47_9 E, mn_go _⟩)) (ac_node (ac_leaf 12 (⟨vd_47_12 E, mn_con _ _⟩)) (ac_leaf 13 (ac_Vr2 dd_47_13 rfl))))))
theorem vd_48_0 (E : ac_E) : ac_ok E md_48 0 (o_ild 1 1) := ok_iload_n (E := E) (d := md_48) (pc := 0) (j := 1) dd_48_0
theorem vd_48_1 (E : ac_E) : ac_ok E md_48 1 (o_ne0 9 4) := ok_ifne (E := E) (d := md_48) (pc := 1) dd_48_1 (by decide)
theorem vd_48_4 (E : ac_E) : ac_ok E md_48 4 (o_ild 0 5) := ok_iload_n (E := E) (d := md_48) (pc := 4) (j := 0) dd_48_4
theorem vd_48_5 (E : ac_E) : ac_okr E md_48 md_0 5 1 8 0 ∧ ac_okt E md_48 md_0 5 1 0 := ok_callS (E := E) (d := md_48) (dz := md_0) (pc := 5) rfl (by decide) (by decide +kernel) wm_350 wm_62 wm_348 wm_349 dd_48_5
theorem vd_48_9 (E : ac_E) : ac_ok E md_48 9 (o_con (.int 0) 10) := ok_iconst (E := E) (d := md_48) (pc := 9) dd_48_9 (by decide)
theorem vd_48_10 (E : ac_E) : ac_ok E md_48 10 (o_ist 2 11) := ok_istore_n (E := E) (d := md_48) (pc := 10) (j := 2) dd_48_10
theorem vd_48_11 (E : ac_E) : ac_ok E md_48 11 (o_con (.int 0) 12) := ok_iconst (E := E) (d := md_48) (pc := 11) dd_48_11 (by decide)
theorem vd_48_12 (E : ac_E) : ac_ok E md_48 12 (o_ist 3 13) := ok_istore_n (E := E) (d := md_48) (pc := 12) (j := 3) dd_48_12
theorem vd_48_13 (E : ac_E) : ac_ok E md_48 13 (o_ild 3 14) := ok_iload_n (E := E) (d := md_48) (pc := 13) (j := 3) dd_48_13
theorem vd_48_14 (E : ac_E) : ac_ok E md_48 14 (o_con (.int 6) 16) := ok_bipush (E := E) (d := md_48) (pc := 14) dd_48_14 (by decide)
theorem vd_48_16 (E : ac_E) : ac_ok E md_48 16 (o_ge 54 19) := ok_icmpge (E := E) (d := md_48) (pc := 16) dd_48_16 (by decide)
theorem vd_48_19 (E : ac_E) : ac_ok E md_48 19 (o_ild 0 20) := ok_iload_n (E := E) (d := md_48) (pc := 19) (j := 0) dd_48_19
theorem vd_48_20 (E : ac_E) : ac_ok E md_48 20 (o_ild 3 21) := ok_iload_n (E := E) (d := md_48) (pc := 20) (j := 3) dd_48_20
theorem vd_48_21 (E : ac_E) : ac_okr E md_48 md_47 21 2 24 0 ∧ ac_okt E md_48 md_47 21 2 0 := ok_callS (E := E) (d := md_48) (dz := md_47) (pc := 21) rfl (by decide) (by decide +kernel) wm_450 wm_50 wm_462 wm_449 dd_48_21
theorem vd_48_24 (E : ac_E) : ac_ok E md_48 24 (o_eq0 48 27) := ok_ifeq (E := E) (d := md_48) (pc := 24) dd_48_24 (by decide)
theorem vd_48_27 (E : ac_E) : ac_ok E md_48 27 (o_ild 2 28) := ok_iload_n (E := E) (d := md_48) (pc := 27) (j := 2) dd_48_27
theorem vd_48_28 (E : ac_E) : ac_ok E md_48 28 (o_ild 1 29) := ok_iload_n (E := E) (d := md_48) (pc := 28) (j := 1) dd_48_28
theorem vd_48_29 (E : ac_E) : ac_ok E md_48 29 (o_con (.int 1) 30) := ok_iconst (E := E) (d := md_48) (pc := 29) dd_48_29 (by decide)
theorem vd_48_30 (E : ac_E) : ac_ok E md_48 30 (o_ne 41 33) := ok_icmpne (E := E) (d := md_48) (pc := 30) dd_48_30 (by decide)
theorem vd_48_33 (E : ac_E) : ac_ok E md_48 33 (o_sta 0 36) := ok_sta (E := E) (d := md_48) (pc := 33) (n := "MOMENTUM_P") rfl wm_495 dd_48_33
theorem vd_48_36 (E : ac_E) : ac_ok E md_48 36 (o_ild 3 37) := ok_iload_n (E := E) (d := md_48) (pc := 36) (j := 3) dd_48_36
theorem vd_48_37 (E : ac_E) : ac_ok E md_48 37 (o_ta ac_tab 38) := ok_ta (E := E) (d := md_48) (pc := 37) dd_48_37
theorem vd_48_38 (E : ac_E) : ac_ok E md_48 38 (o_go 46) := ok_goto (E := E) (d := md_48) (pc := 38) dd_48_38 (by decide)
theorem vd_48_41 (E : ac_E) : ac_ok E md_48 41 (o_sta 1 44) := ok_sta (E := E) (d := md_48) (pc := 41) (n := "MOMENTUM_Q") rfl wm_497 dd_48_41
theorem vd_48_44 (E : ac_E) : ac_ok E md_48 44 (o_ild 3 45) := ok_iload_n (E := E) (d := md_48) (pc := 44) (j := 3) dd_48_44
theorem vd_48_45 (E : ac_E) : ac_ok E md_48 45 (o_ta ac_tab 46) := ok_ta (E := E) (d := md_48) (pc := 45) dd_48_45
theorem vd_48_46 (E : ac_E) : ac_ok E md_48 46 (o_add 47) := ok_iadd (E := E) (d := md_48) (pc := 46) dd_48_46
theorem vd_48_47 (E : ac_E) : ac_ok E md_48 47 (o_ist 2 48) := ok_istore_n (E := E) (d := md_48) (pc := 47) (j := 2) dd_48_47
theorem vd_48_48 (E : ac_E) : ac_ok E md_48 48 (o_inc 3 1 51) := ok_iinc (E := E) (d := md_48) (pc := 48) dd_48_48 (by decide)
theorem vd_48_51 (E : ac_E) : ac_ok E md_48 51 (o_go 13) := ok_goto (E := E) (d := md_48) (pc := 51) dd_48_51 (by decide)
theorem vd_48_54 (E : ac_E) : ac_ok E md_48 54 (o_ild 2 55) := ok_iload_n (E := E) (d := md_48) (pc := 54) (j := 2) dd_48_54
theorem va_48 (E : ac_E) (pc : Nat) : ac_V E ac_MDf ac_HDf 48 pc (tb_48 (ac_len E) (ac_xs E) pc) := (ac_node (ac_node (ac_node (ac_node (ac_node (ac_leaf 0 (⟨vd_48_0 E, mn_ild _ _⟩)) (ac_leaf 1 (⟨vd_48_1 E, mn_ne0 _ _⟩))) (ac_node (ac_leaf 4 (⟨vd_48_4 E, mn_ild _ _⟩)) (ac_leaf 5 (ac_Vc0 ((vd_48_5 E).1) (fun _ => rfl))))) (ac_node (ac_node (ac_leaf 8 (ac_Vr1 dd_48_8 rfl)) (ac_leaf 9 (⟨vd_48_9 E, mn_con _ _⟩))) (ac_node (ac_leaf 10 (⟨vd_48_10 E, mn_ist _ _⟩)) (ac_leaf 11 (⟨vd_48_11 E, mn_con _ _⟩))))) (ac_node (ac_node (ac_node (ac_leaf 12 (⟨vd_48_12 E, mn_ist _ _⟩)) (ac_leaf 13 (⟨vd_48_13 E, mn_ild _ _⟩))) (ac_node (ac_leaf 14 (⟨vd_48_14 E, mn_con _ _⟩)) (ac_leaf 16 (⟨vd_48_16 E, mn_ge _ _⟩)))) (ac_node (ac_node (ac_leaf 19 (⟨vd_48_19 E, mn_ild _ _⟩)) (ac_leaf 20 (⟨vd_48_20 E, mn_ild _ _⟩))) (ac_node (ac_leaf 21 (ac_Vc0 ((vd_48_21 E).1) (fun _ => rfl))) (ac_leaf 24 (⟨vd_48_24 E, mn_eq0 _ _⟩)))))) (ac_node (ac_node (ac_node (ac_node (ac_leaf 27 (⟨vd_48_27 E, mn_ild _ _⟩)) (ac_leaf 28 (⟨vd_48_28 E, mn_ild _ _⟩))) (ac_node (ac_leaf 29 (⟨vd_48_29 E, mn_con _ _⟩)) (ac_leaf 30 (⟨vd_48_30 E, mn_ne _ _⟩)))) (ac_node (ac_node (ac_leaf 33 (⟨vd_48_33 E, mn_sta _ _⟩)) (ac_leaf 36 (⟨vd_48_36 E, mn_ild _ _⟩))) (ac_node (ac_leaf 37 (⟨vd_48_37 E, mn_ta _ _⟩)) (ac_leaf 38 (⟨vd_48_38 E, mn_go _⟩))))) (ac_node (ac_node (ac_node (ac_leaf 41 (⟨vd_48_41 E, mn_sta _ _⟩)) (ac_leaf 44 (⟨vd_48_44 E, mn_ild _ _⟩))) (ac_node (ac_leaf 45 (⟨vd_48_45 E, mn_ta _ _⟩)) (ac_leaf 46 (⟨vd_48_46 E, mn_add _⟩)))) (ac_node (ac_node (ac_leaf 47 (⟨vd_48_47 E, mn_ist _ _⟩)) (ac_leaf 48 (⟨vd_48_48 E, mn_inc _ _ _⟩))) (ac_node (ac_leaf 51 (⟨vd_48_51 E, mn_go _⟩)) (ac_node (ac_leaf 54 (⟨vd_48_54 E, mn_ild _ _⟩)) (ac_leaf 55 (ac_Vr1 dd_48_55 rfl))))))))
theorem vd_49_0 (E : ac_E) : ac_ok E md_49 0 (o_ild 0 1) := ok_iload_n (E := E) (d := md_49) (pc := 0) (j := 0) dd_49_0
theorem vd_49_1 (E : ac_E) : ac_ok E md_49 1 (o_ild 1 2) := ok_iload_n (E := E) (d := md_49) (pc := 1) (j := 1) dd_49_1
theorem vd_49_2 (E : ac_E) : ac_ok E md_49 2 (o_shl 3) := ok_ishl (E := E) (d := md_49) (pc := 2) dd_49_2
theorem vd_49_3 (E : ac_E) : ac_ok E md_49 3 (o_ild 0 4) := ok_iload_n (E := E) (d := md_49) (pc := 3) (j := 0) dd_49_3
theorem vd_49_4 (E : ac_E) : ac_ok E md_49 4 (o_con (.int 6) 6) := ok_bipush (E := E) (d := md_49) (pc := 4) dd_49_4 (by decide)
theorem vd_49_6 (E : ac_E) : ac_ok E md_49 6 (o_ild 1 7) := ok_iload_n (E := E) (d := md_49) (pc := 6) (j := 1) dd_49_6
theorem vd_49_7 (E : ac_E) : ac_ok E md_49 7 (o_sub 8) := ok_isub (E := E) (d := md_49) (pc := 7) dd_49_7
theorem vd_49_8 (E : ac_E) : ac_ok E md_49 8 (o_shr 9) := ok_ishr (E := E) (d := md_49) (pc := 8) dd_49_8
theorem vd_49_9 (E : ac_E) : ac_ok E md_49 9 (o_or 10) := ok_ior (E := E) (d := md_49) (pc := 9) dd_49_9
theorem vd_49_10 (E : ac_E) : ac_ok E md_49 10 (o_con (.int 63) 12) := ok_bipush (E := E) (d := md_49) (pc := 10) dd_49_10 (by decide)
theorem vd_49_12 (E : ac_E) : ac_ok E md_49 12 (o_and 13) := ok_iand (E := E) (d := md_49) (pc := 12) dd_49_12
theorem va_49 (E : ac_E) (pc : Nat) : ac_V E ac_MDf ac_HDf 49 pc (tb_49 (ac_len E) (ac_xs E) pc) := (ac_node (ac_node (ac_node (ac_leaf 0 (⟨vd_49_0 E, mn_ild _ _⟩)) (ac_node (ac_leaf 1 (⟨vd_49_1 E, mn_ild _ _⟩)) (ac_leaf 2 (⟨vd_49_2 E, mn_shl _⟩)))) (ac_node (ac_leaf 3 (⟨vd_49_3 E, mn_ild _ _⟩)) (ac_node (ac_leaf 4 (⟨vd_49_4 E, mn_con _ _⟩)) (ac_leaf 6 (⟨vd_49_6 E, mn_ild _ _⟩))))) (ac_node (ac_node (ac_leaf 7 (⟨vd_49_7 E, mn_sub _⟩)) (ac_node (ac_leaf 8 (⟨vd_49_8 E, mn_shr _⟩)) (ac_leaf 9 (⟨vd_49_9 E, mn_or _⟩)))) (ac_node (ac_leaf 10 (⟨vd_49_10 E, mn_con _ _⟩)) (ac_node (ac_leaf 12 (⟨vd_49_12 E, mn_and _⟩)) (ac_leaf 13 (ac_Vr1 dd_49_13 rfl))))))
theorem vd_50_0 (E : ac_E) : ac_ok E md_50 0 (o_ild 0 1) := ok_iload_n (E := E) (d := md_50) (pc := 0) (j := 0) dd_50_0
theorem vd_50_1 (E : ac_E) : ac_ok E md_50 1 (o_con (.int 63) 3) := ok_bipush (E := E) (d := md_50) (pc := 1) dd_50_1 (by decide)
theorem vd_50_3 (E : ac_E) : ac_ok E md_50 3 (o_and 4) := ok_iand (E := E) (d := md_50) (pc := 3) dd_50_3
theorem vd_50_4 (E : ac_E) : ac_ok E md_50 4 (o_con (.int 3) 5) := ok_iconst (E := E) (d := md_50) (pc := 4) dd_50_4 (by decide)
theorem vd_50_5 (E : ac_E) : ac_okr E md_50 md_49 5 2 8 0 ∧ ac_okt E md_50 md_49 5 2 0 := ok_callS (E := E) (d := md_50) (dz := md_49) (pc := 5) rfl (by decide) (by decide +kernel) wm_347 wm_50 wm_345 wm_346 dd_50_5
theorem vd_50_8 (E : ac_E) : ac_ok E md_50 8 (o_ild 0 9) := ok_iload_n (E := E) (d := md_50) (pc := 8) (j := 0) dd_50_8
theorem vd_50_9 (E : ac_E) : ac_ok E md_50 9 (o_con (.int 64) 11) := ok_bipush (E := E) (d := md_50) (pc := 9) dd_50_9 (by decide)
theorem vd_50_11 (E : ac_E) : ac_ok E md_50 11 (o_and 12) := ok_iand (E := E) (d := md_50) (pc := 11) dd_50_11
theorem vd_50_12 (E : ac_E) : ac_ok E md_50 12 (o_or 13) := ok_ior (E := E) (d := md_50) (pc := 12) dd_50_12
theorem va_50 (E : ac_E) (pc : Nat) : ac_V E ac_MDf ac_HDf 50 pc (tb_50 (ac_len E) (ac_xs E) pc) := (ac_node (ac_node (ac_node (ac_leaf 0 (⟨vd_50_0 E, mn_ild _ _⟩)) (ac_leaf 1 (⟨vd_50_1 E, mn_con _ _⟩))) (ac_node (ac_leaf 3 (⟨vd_50_3 E, mn_and _⟩)) (ac_node (ac_leaf 4 (⟨vd_50_4 E, mn_con _ _⟩)) (ac_leaf 5 (ac_Vc0 ((vd_50_5 E).1) (fun _ => rfl)))))) (ac_node (ac_node (ac_leaf 8 (⟨vd_50_8 E, mn_ild _ _⟩)) (ac_leaf 9 (⟨vd_50_9 E, mn_con _ _⟩))) (ac_node (ac_leaf 11 (⟨vd_50_11 E, mn_and _⟩)) (ac_node (ac_leaf 12 (⟨vd_50_12 E, mn_or _⟩)) (ac_leaf 13 (ac_Vr1 dd_50_13 rfl))))))
theorem vd_51_0 (E : ac_E) : ac_ok E md_51 0 (o_ild 0 1) := ok_iload_n (E := E) (d := md_51) (pc := 0) (j := 0) dd_51_0
theorem vd_51_1 (E : ac_E) : ac_ok E md_51 1 (o_con (.int 63) 3) := ok_bipush (E := E) (d := md_51) (pc := 1) dd_51_1 (by decide)
theorem vd_51_3 (E : ac_E) : ac_ok E md_51 3 (o_and 4) := ok_iand (E := E) (d := md_51) (pc := 3) dd_51_3
theorem vd_51_4 (E : ac_E) : ac_ok E md_51 4 (o_ist 2 5) := ok_istore_n (E := E) (d := md_51) (pc := 4) (j := 2) dd_51_4
theorem vd_51_5 (E : ac_E) : ac_ok E md_51 5 (o_ild 0 6) := ok_iload_n (E := E) (d := md_51) (pc := 5) (j := 0) dd_51_5
theorem vd_51_6 (E : ac_E) : ac_ok E md_51 6 (o_con (.int 64) 8) := ok_bipush (E := E) (d := md_51) (pc := 6) dd_51_6 (by decide)
theorem vd_51_8 (E : ac_E) : ac_ok E md_51 8 (o_and 9) := ok_iand (E := E) (d := md_51) (pc := 8) dd_51_8
theorem vd_51_9 (E : ac_E) : ac_ok E md_51 9 (o_ist 3 10) := ok_istore_n (E := E) (d := md_51) (pc := 9) (j := 3) dd_51_9
theorem vd_51_10 (E : ac_E) : ac_ok E md_51 10 (o_ild 2 11) := ok_iload_n (E := E) (d := md_51) (pc := 10) (j := 2) dd_51_10
theorem vd_51_11 (E : ac_E) : ac_ok E md_51 11 (o_eq0 45 14) := ok_ifeq (E := E) (d := md_51) (pc := 11) dd_51_11 (by decide)
theorem vd_51_14 (E : ac_E) : ac_ok E md_51 14 (o_ild 2 15) := ok_iload_n (E := E) (d := md_51) (pc := 14) (j := 2) dd_51_14
theorem vd_51_15 (E : ac_E) : ac_ok E md_51 15 (o_con (.int 63) 17) := ok_bipush (E := E) (d := md_51) (pc := 15) dd_51_15 (by decide)
theorem vd_51_17 (E : ac_E) : ac_ok E md_51 17 (o_eq 45 20) := ok_icmpeq (E := E) (d := md_51) (pc := 17) dd_51_17 (by decide)
theorem vd_51_20 (E : ac_E) : ac_ok E md_51 20 (o_ild 2 21) := ok_iload_n (E := E) (d := md_51) (pc := 20) (j := 2) dd_51_20
theorem vd_51_21 (E : ac_E) : ac_ok E md_51 21 (o_con (.int 3) 22) := ok_iconst (E := E) (d := md_51) (pc := 21) dd_51_21 (by decide)
theorem vd_51_22 (E : ac_E) : ac_okr E md_51 md_49 22 2 25 0 ∧ ac_okt E md_51 md_49 22 2 0 := ok_callS (E := E) (d := md_51) (dz := md_49) (pc := 22) rfl (by decide) (by decide +kernel) wm_347 wm_50 wm_345 wm_346 dd_51_22
theorem vd_51_25 (E : ac_E) : ac_ok E md_51 25 (o_ild 2 26) := ok_iload_n (E := E) (d := md_51) (pc := 25) (j := 2) dd_51_25
theorem vd_51_26 (E : ac_E) : ac_ok E md_51 26 (o_ne 45 29) := ok_icmpne (E := E) (d := md_51) (pc := 26) dd_51_26 (by decide)
theorem vd_51_29 (E : ac_E) : ac_ok E md_51 29 (o_ild 2 30) := ok_iload_n (E := E) (d := md_51) (pc := 29) (j := 2) dd_51_29
theorem vd_51_30 (E : ac_E) : ac_ok E md_51 30 (o_ild 1 31) := ok_iload_n (E := E) (d := md_51) (pc := 30) (j := 1) dd_51_30
theorem vd_51_31 (E : ac_E) : ac_ok E md_51 31 (o_ne0 38 34) := ok_ifne (E := E) (d := md_51) (pc := 31) dd_51_31 (by decide)
theorem vd_51_34 (E : ac_E) : ac_ok E md_51 34 (o_con (.int 1) 35) := ok_iconst (E := E) (d := md_51) (pc := 34) dd_51_34 (by decide)
theorem vd_51_35 (E : ac_E) : ac_ok E md_51 35 (o_go 39) := ok_goto (E := E) (d := md_51) (pc := 35) dd_51_35 (by decide)
theorem vd_51_38 (E : ac_E) : ac_ok E md_51 38 (o_con (.int 5) 39) := ok_iconst (E := E) (d := md_51) (pc := 38) dd_51_38 (by decide)
theorem vd_51_39 (E : ac_E) : ac_okr E md_51 md_49 39 2 42 0 ∧ ac_okt E md_51 md_49 39 2 0 := ok_callS (E := E) (d := md_51) (dz := md_49) (pc := 39) rfl (by decide) (by decide +kernel) wm_347 wm_50 wm_345 wm_346 dd_51_39
theorem vd_51_42 (E : ac_E) : ac_ok E md_51 42 (o_ild 3 43) := ok_iload_n (E := E) (d := md_51) (pc := 42) (j := 3) dd_51_42
theorem vd_51_43 (E : ac_E) : ac_ok E md_51 43 (o_or 44) := ok_ior (E := E) (d := md_51) (pc := 43) dd_51_43
theorem vd_51_45 (E : ac_E) : ac_ok E md_51 45 (o_ild 2 46) := ok_iload_n (E := E) (d := md_51) (pc := 45) (j := 2) dd_51_45
theorem vd_51_46 (E : ac_E) : ac_ok E md_51 46 (o_con (.int 21) 48) := ok_bipush (E := E) (d := md_51) (pc := 46) dd_51_46 (by decide)
theorem vd_51_48 (E : ac_E) : ac_ok E md_51 48 (o_eq 57 51) := ok_icmpeq (E := E) (d := md_51) (pc := 48) dd_51_48 (by decide)
theorem vd_51_51 (E : ac_E) : ac_ok E md_51 51 (o_ild 2 52) := ok_iload_n (E := E) (d := md_51) (pc := 51) (j := 2) dd_51_51
theorem vd_51_52 (E : ac_E) : ac_ok E md_51 52 (o_con (.int 42) 54) := ok_bipush (E := E) (d := md_51) (pc := 52) dd_51_52 (by decide)
theorem vd_51_54 (E : ac_E) : ac_ok E md_51 54 (o_ne 64 57) := ok_icmpne (E := E) (d := md_51) (pc := 54) dd_51_54 (by decide)
theorem vd_51_57 (E : ac_E) : ac_ok E md_51 57 (o_ild 2 58) := ok_iload_n (E := E) (d := md_51) (pc := 57) (j := 2) dd_51_57
theorem vd_51_58 (E : ac_E) : ac_ok E md_51 58 (o_con (.int 63) 60) := ok_bipush (E := E) (d := md_51) (pc := 58) dd_51_58 (by decide)
theorem vd_51_60 (E : ac_E) : ac_ok E md_51 60 (o_xor 61) := ok_ixor (E := E) (d := md_51) (pc := 60) dd_51_60
theorem vd_51_61 (E : ac_E) : ac_ok E md_51 61 (o_ild 3 62) := ok_iload_n (E := E) (d := md_51) (pc := 61) (j := 3) dd_51_61
theorem vd_51_62 (E : ac_E) : ac_ok E md_51 62 (o_or 63) := ok_ior (E := E) (d := md_51) (pc := 62) dd_51_62
theorem vd_51_64 (E : ac_E) : ac_ok E md_51 64 (o_ild 2 65) := ok_iload_n (E := E) (d := md_51) (pc := 64) (j := 2) dd_51_64
theorem vd_51_65 (E : ac_E) : ac_ok E md_51 65 (o_con (.int 1) 66) := ok_iconst (E := E) (d := md_51) (pc := 65) dd_51_65 (by decide)
theorem vd_51_66 (E : ac_E) : ac_okr E md_51 md_49 66 2 69 0 ∧ ac_okt E md_51 md_49 66 2 0 := ok_callS (E := E) (d := md_51) (dz := md_49) (pc := 66) rfl (by decide) (by decide +kernel) wm_347 wm_50 wm_345 wm_346 dd_51_66
theorem vd_51_69 (E : ac_E) : ac_ok E md_51 69 (o_ist 4 71) := ok_istore (E := E) (d := md_51) (pc := 69) dd_51_69
theorem vd_51_71 (E : ac_E) : ac_ok E md_51 71 (o_ild 2 72) := ok_iload_n (E := E) (d := md_51) (pc := 71) (j := 2) dd_51_71
theorem vd_51_72 (E : ac_E) : ac_ok E md_51 72 (o_con (.int 5) 73) := ok_iconst (E := E) (d := md_51) (pc := 72) dd_51_72 (by decide)
theorem vd_51_73 (E : ac_E) : ac_okr E md_51 md_49 73 2 76 0 ∧ ac_okt E md_51 md_49 73 2 0 := ok_callS (E := E) (d := md_51) (dz := md_49) (pc := 73) rfl (by decide) (by decide +kernel) wm_347 wm_50 wm_345 wm_346 dd_51_73
theorem vd_51_76 (E : ac_E) : ac_ok E md_51 76 (o_ist 5 78) := ok_istore (E := E) (d := md_51) (pc := 76) dd_51_76
theorem vd_51_78 (E : ac_E) : ac_ok E md_51 78 (o_ild 3 79) := ok_iload_n (E := E) (d := md_51) (pc := 78) (j := 3) dd_51_78
theorem vd_51_79 (E : ac_E) : ac_ok E md_51 79 (o_eq0 96 82) := ok_ifeq (E := E) (d := md_51) (pc := 79) dd_51_79 (by decide)
theorem vd_51_82 (E : ac_E) : ac_ok E md_51 82 (o_ild 2 83) := ok_iload_n (E := E) (d := md_51) (pc := 82) (j := 2) dd_51_82
theorem vd_51_83 (E : ac_E) : ac_okr E md_51 md_0 83 1 86 0 ∧ ac_okt E md_51 md_0 83 1 0 := ok_callS (E := E) (d := md_51) (dz := md_0) (pc := 83) rfl (by decide) (by decide +kernel) wm_350 wm_62 wm_348 wm_349 dd_51_83
theorem vd_51_86 (E : ac_E) : ac_ok E md_51 86 (o_con (.int 1) 87) := ok_iconst (E := E) (d := md_51) (pc := 86) dd_51_86 (by decide)
theorem vd_51_87 (E : ac_E) : ac_ok E md_51 87 (o_ne 96 90) := ok_icmpne (E := E) (d := md_51) (pc := 87) dd_51_87 (by decide)
theorem vd_51_90 (E : ac_E) : ac_ok E md_51 90 (o_ild 4 92) := ok_iload (E := E) (d := md_51) (pc := 90) dd_51_90
theorem vd_51_92 (E : ac_E) : ac_ok E md_51 92 (o_ild 5 94) := ok_iload (E := E) (d := md_51) (pc := 92) dd_51_92
theorem vd_51_94 (E : ac_E) : ac_ok E md_51 94 (o_or 95) := ok_ior (E := E) (d := md_51) (pc := 94) dd_51_94
theorem vd_51_96 (E : ac_E) : ac_ok E md_51 96 (o_ild 4 98) := ok_iload (E := E) (d := md_51) (pc := 96) dd_51_96
theorem vd_51_98 (E : ac_E) : ac_ok E md_51 98 (o_ild 5 100) := ok_iload (E := E) (d := md_51) (pc := 98) dd_51_98
theorem vd_51_100 (E : ac_E) : ac_ok E md_51 100 (o_and 101) := ok_iand (E := E) (d := md_51) (pc := 100) dd_51_100
theorem vd_51_101 (E : ac_E) : ac_ok E md_51 101 (o_ist 6 103) := ok_istore (E := E) (d := md_51) (pc := 101) dd_51_101
theorem vd_51_103 (E : ac_E) : ac_ok E md_51 103 (o_ild 3 104) := ok_iload_n (E := E) (d := md_51) (pc := 103) (j := 3) dd_51_103
theorem vd_51_104 (E : ac_E) : ac_ok E md_51 104 (o_ne0 126 107) := ok_ifne (E := E) (d := md_51) (pc := 104) dd_51_104 (by decide)
theorem vd_51_107 (E : ac_E) : ac_ok E md_51 107 (o_ild 2 108) := ok_iload_n (E := E) (d := md_51) (pc := 107) (j := 2) dd_51_107
theorem vd_51_108 (E : ac_E) : ac_okr E md_51 md_0 108 1 111 0 ∧ ac_okt E md_51 md_0 108 1 0 := ok_callS (E := E) (d := md_51) (dz := md_0) (pc := 108) rfl (by decide) (by decide +kernel) wm_350 wm_62 wm_348 wm_349 dd_51_108
theorem vd_51_111 (E : ac_E) : ac_ok E md_51 111 (o_con (.int 2) 112) := ok_iconst (E := E) (d := md_51) (pc := 111) dd_51_111 (by decide)
theorem vd_51_112 (E : ac_E) : ac_ok E md_51 112 (o_ne 126 115) := ok_icmpne (E := E) (d := md_51) (pc := 112) dd_51_112 (by decide)
theorem vd_51_115 (E : ac_E) : ac_ok E md_51 115 (o_ild 6 117) := ok_iload (E := E) (d := md_51) (pc := 115) dd_51_115
theorem vd_51_117 (E : ac_E) : ac_ok E md_51 117 (o_eq0 126 120) := ok_ifeq (E := E) (d := md_51) (pc := 117) dd_51_117 (by decide)
theorem vd_51_120 (E : ac_E) : ac_ok E md_51 120 (o_ild 6 122) := ok_iload (E := E) (d := md_51) (pc := 120) dd_51_120
theorem vd_51_122 (E : ac_E) : ac_ok E md_51 122 (o_con (.int 64) 124) := ok_bipush (E := E) (d := md_51) (pc := 122) dd_51_122 (by decide)
theorem vd_51_124 (E : ac_E) : ac_ok E md_51 124 (o_or 125) := ok_ior (E := E) (d := md_51) (pc := 124) dd_51_124
theorem vd_51_126 (E : ac_E) : ac_ok E md_51 126 (o_ild 0 127) := ok_iload_n (E := E) (d := md_51) (pc := 126) (j := 0) dd_51_126
theorem va_51 (E : ac_E) (pc : Nat) : ac_V E ac_MDf ac_HDf 51 pc (tb_51 (ac_len E) (ac_xs E) pc) := (ac_node (ac_node (ac_node (ac_node (ac_node (ac_node (ac_leaf 0 (⟨vd_51_0 E, mn_ild _ _⟩)) (ac_leaf 1 (⟨vd_51_1 E, mn_con _ _⟩))) (ac_node (ac_leaf 3 (⟨vd_51_3 E, mn_and _⟩)) (ac_leaf 4 (⟨vd_51_4 E, mn_ist _ _⟩)))) (ac_node (ac_node (ac_leaf 5 (⟨vd_51_5 E, mn_ild _ _⟩)) (ac_leaf 6 (⟨vd_51_6 E, mn_con _ _⟩))) (ac_node (ac_leaf 8 (⟨vd_51_8 E, mn_and _⟩)) (ac_node (ac_leaf 9 (⟨vd_51_9 E, mn_ist _ _⟩)) (ac_leaf 10 (⟨vd_51_10 E, mn_ild _ _⟩)))))) (ac_node (ac_node (ac_node (ac_leaf 11 (⟨vd_51_11 E, mn_eq0 _ _⟩)) (ac_leaf 14 (⟨vd_51_14 E, mn_ild _ _⟩))) (ac_node (ac_leaf 15 (⟨vd_51_15 E, mn_con _ _⟩)) (ac_node (ac_leaf 17 (⟨vd_51_17 E, mn_eq _ _⟩)) (ac_leaf 20 (⟨vd_51_20 E, mn_ild _ _⟩))))) (ac_node (ac_node (ac_leaf 21 (⟨vd_51_21 E, mn_con _ _⟩)) (ac_leaf 22 (ac_Vc0 ((vd_51_22 E).1) (fun _ => rfl)))) (ac_node (ac_leaf 25 (⟨vd_51_25 E, mn_ild _ _⟩)) (ac_node (ac_leaf 26 (⟨vd_51_26 E, mn_ne _ _⟩)) (ac_leaf 29 (⟨vd_51_29 E, mn_ild _ _⟩))))))) (ac_node (ac_node (ac_node (ac_node (ac_leaf 30 (⟨vd_51_30 E, mn_ild _ _⟩)) (ac_leaf 31 (⟨vd_51_31 E, mn_ne0 _ _⟩))) (ac_node (ac_leaf 34 (⟨vd_51_34 E, mn_con _ _⟩)) (ac_leaf 35 (⟨vd_51_35 E, mn_go _⟩)))) (ac_node (ac_node (ac_leaf 38 (⟨vd_51_38 E, mn_con _ _⟩)) (ac_leaf 39 (ac_Vc0 ((vd_51_39 E).1) (fun _ => rfl)))) (ac_node (ac_leaf 42 (⟨vd_51_42 E, mn_ild _ _⟩)) (ac_node (ac_leaf 43 (⟨vd_51_43 E, mn_or _⟩)) (ac_leaf 44 (ac_Vr1 dd_51_44 rfl)))))) (ac_node (ac_node (ac_node (ac_leaf 45 (⟨vd_51_45 E, mn_ild _ _⟩)) (ac_leaf 46 (⟨vd_51_46 E, mn_con _ _⟩))) (ac_node (ac_leaf 48 (⟨vd_51_48 E, mn_eq _ _⟩)) (ac_node (ac_leaf 51 (⟨vd_51_51 E, mn_ild _ _⟩)) (ac_leaf 52 (⟨vd_51_52 E, mn_con _ _⟩))))) (ac_node (ac_node (ac_leaf 54 (⟨vd_51_54 E, mn_ne _ _⟩)) (ac_leaf 57 (⟨vd_51_57 E, mn_ild _ _⟩))) (ac_node (ac_leaf 58 (⟨vd_51_58 E, mn_con _ _⟩)) (ac_node (ac_leaf 60 (⟨vd_51_60 E, mn_xor _⟩)) (ac_leaf 61 (⟨vd_51_61 E, mn_ild _ _⟩)))))))) (ac_node (ac_node (ac_node (ac_node (ac_node (ac_leaf 62 (⟨vd_51_62 E, mn_or _⟩)) (ac_leaf 63 (ac_Vr1 dd_51_63 rfl))) (ac_node (ac_leaf 64 (⟨vd_51_64 E, mn_ild _ _⟩)) (ac_leaf 65 (⟨vd_51_65 E, mn_con _ _⟩)))) (ac_node (ac_node (ac_leaf 66 (ac_Vc0 ((vd_51_66 E).1) (fun _ => rfl))) (ac_leaf 69 (⟨vd_51_69 E, mn_ist _ _⟩))) (ac_node (ac_leaf 71 (⟨vd_51_71 E, mn_ild _ _⟩)) (ac_node (ac_leaf 72 (⟨vd_51_72 E, mn_con _ _⟩)) (ac_leaf 73 (ac_Vc0 ((vd_51_73 E).1) (fun _ => rfl))))))) (ac_node (ac_node (ac_node (ac_leaf 76 (⟨vd_51_76 E, mn_ist _ _⟩)) (ac_leaf 78 (⟨vd_51_78 E, mn_ild _ _⟩))) (ac_node (ac_leaf 79 (⟨vd_51_79 E, mn_eq0 _ _⟩)) (ac_node (ac_leaf 82 (⟨vd_51_82 E, mn_ild _ _⟩)) (ac_leaf 83 (ac_Vc0 ((vd_51_83 E).1) (fun _ => rfl)))))) (ac_node (ac_node (ac_leaf 86 (⟨vd_51_86 E, mn_con _ _⟩)) (ac_leaf 87 (⟨vd_51_87 E, mn_ne _ _⟩))) (ac_node (ac_leaf 90 (⟨vd_51_90 E, mn_ild _ _⟩)) (ac_node (ac_leaf 92 (⟨vd_51_92 E, mn_ild _ _⟩)) (ac_leaf 94 (⟨vd_51_94 E, mn_or _⟩))))))) (ac_node (ac_node (ac_node (ac_node (ac_leaf 95 (ac_Vr1 dd_51_95 rfl)) (ac_leaf 96 (⟨vd_51_96 E, mn_ild _ _⟩))) (ac_node (ac_leaf 98 (⟨vd_51_98 E, mn_ild _ _⟩)) (ac_leaf 100 (⟨vd_51_100 E, mn_and _⟩)))) (ac_node (ac_node (ac_leaf 101 (⟨vd_51_101 E, mn_ist _ _⟩)) (ac_leaf 103 (⟨vd_51_103 E, mn_ild _ _⟩))) (ac_node (ac_leaf 104 (⟨vd_51_104 E, mn_ne0 _ _⟩)) (ac_node (ac_leaf 107 (⟨vd_51_107 E, mn_ild _ _⟩)) (ac_leaf 108 (ac_Vc0 ((vd_51_108 E).1) (fun _ => rfl))))))) (ac_node (ac_node (ac_node (ac_leaf 111 (⟨vd_51_111 E, mn_con _ _⟩)) (ac_leaf 112 (⟨vd_51_112 E, mn_ne _ _⟩))) (ac_node (ac_leaf 115 (⟨vd_51_115 E, mn_ild _ _⟩)) (ac_node (ac_leaf 117 (⟨vd_51_117 E, mn_eq0 _ _⟩)) (ac_leaf 120 (⟨vd_51_120 E, mn_ild _ _⟩))))) (ac_node (ac_node (ac_leaf 122 (⟨vd_51_122 E, mn_con _ _⟩)) (ac_leaf 124 (⟨vd_51_124 E, mn_or _⟩))) (ac_node (ac_leaf 125 (ac_Vr1 dd_51_125 rfl)) (ac_node (ac_leaf 126 (⟨vd_51_126 E, mn_ild _ _⟩)) (ac_leaf 127 (ac_Vr1 dd_51_127 rfl)))))))))
theorem vd_52_0 (E : ac_E) : ac_ok E md_52 0 (o_ald 0 1) := ok_aload_n (E := E) (d := md_52) (pc := 0) (j := 0) dd_52_0
theorem vd_52_1 (E : ac_E) : ac_ok E md_52 1 (o_con (.int 0) 2) := ok_iconst (E := E) (d := md_52) (pc := 1) dd_52_1 (by decide)
theorem vd_52_2 (E : ac_E) : ac_okr E md_52 md_55 2 2 5 6 ∧ ac_okt E md_52 md_55 2 2 6 := ok_callV (E := E) (d := md_52) (dz := md_55) (pc := 2) (T := TX4) (N := 12) rfl rfl (by decide) (by decide +kernel) wm_438 wm_50 wm_435 wm_437 wm_7 dd_52_2
theorem vd_52_5 (E : ac_E) : ac_ok E md_52 5 (o_ald 0 6) := ok_aload_n (E := E) (d := md_52) (pc := 5) (j := 0) dd_52_5
theorem vd_52_6 (E : ac_E) : ac_ok E md_52 6 (o_con (.int 0) 7) := ok_iconst (E := E) (d := md_52) (pc := 6) dd_52_6 (by decide)
theorem vd_52_7 (E : ac_E) : ac_okr E md_52 md_57 7 2 10 6 ∧ ac_okt E md_52 md_57 7 2 6 := ok_callV (E := E) (d := md_52) (dz := md_57) (pc := 7) (T := TX4) (N := 12) rfl rfl (by decide) (by decide +kernel) wm_454 wm_50 wm_451 wm_453 wm_10 dd_52_7
theorem vd_52_10 (E : ac_E) : ac_ok E md_52 10 (o_ald 0 11) := ok_aload_n (E := E) (d := md_52) (pc := 10) (j := 0) dd_52_10
theorem vd_52_11 (E : ac_E) : ac_okr E md_52 md_59 11 1 14 6 ∧ ac_okt E md_52 md_59 11 1 6 := ok_callV (E := E) (d := md_52) (dz := md_59) (pc := 11) (T := TX4) (N := 12) rfl rfl (by decide) (by decide +kernel) wm_475 wm_50 wm_472 wm_474 wm_14 dd_52_11
theorem vd_52_14 (E : ac_E) : ac_ok E md_52 14 (o_ald 0 15) := ok_aload_n (E := E) (d := md_52) (pc := 14) (j := 0) dd_52_14
theorem vd_52_15 (E : ac_E) : ac_okr E md_52 md_62 15 1 18 6 ∧ ac_okt E md_52 md_62 15 1 6 := ok_callV (E := E) (d := md_52) (dz := md_62) (pc := 15) (T := TX4) (N := 12) rfl rfl (by decide) (by decide +kernel) wm_511 wm_50 wm_508 wm_510 wm_20 dd_52_15
theorem vd_52_18 (E : ac_E) : ac_ok E md_52 18 (o_ald 0 19) := ok_aload_n (E := E) (d := md_52) (pc := 18) (j := 0) dd_52_18
theorem vd_52_19 (E : ac_E) : ac_ok E md_52 19 (o_dup 20) := ok_dup (E := E) (d := md_52) (pc := 19) dd_52_19
theorem vd_52_20 (E : ac_E) : ac_ok E md_52 20 (o_get 4 10 23) := ok_getf (E := E) (d := md_52) (pc := 20) (ci := 4) (f := 10) (C := RX4) (T := TX4) (N := 12) (ref := RX4) rfl win_4 (by decide) rfl wm_173 dd_52_20
theorem vd_52_23 (E : ac_E) : ac_ok E md_52 23 (o_con (.int 1) 24) := ok_iconst (E := E) (d := md_52) (pc := 23) dd_52_23 (by decide)
theorem vd_52_24 (E : ac_E) : ac_ok E md_52 24 (o_add 25) := ok_iadd (E := E) (d := md_52) (pc := 24) dd_52_24
theorem vd_52_25 (E : ac_E) : ac_ok E md_52 25 (o_put 4 10 28) := ok_putf (E := E) (d := md_52) (pc := 25) (ci := 4) (f := 10) (C := RX4) (T := TX4) (N := 12) (ref := RX4) rfl win_4 (by decide) rfl tyX4 tyX4_ok nmX4 (by decide +kernel) rfl wm_173 dd_52_25
theorem va_52 (E : ac_E) (pc : Nat) : ac_V E ac_MDf ac_HDf 52 pc (tb_52 (ac_len E) (ac_xs E) pc) := (ac_node (ac_node (ac_node (ac_node (ac_leaf 0 (⟨vd_52_0 E, mn_ald _ _⟩)) (ac_leaf 1 (⟨vd_52_1 E, mn_con _ _⟩))) (ac_node (ac_leaf 2 (ac_Vc0 ((vd_52_2 E).1) (fun _ => rfl))) (ac_leaf 5 (⟨vd_52_5 E, mn_ald _ _⟩)))) (ac_node (ac_node (ac_leaf 6 (⟨vd_52_6 E, mn_con _ _⟩)) (ac_leaf 7 (ac_Vc0 ((vd_52_7 E).1) (fun _ => rfl)))) (ac_node (ac_leaf 10 (⟨vd_52_10 E, mn_ald _ _⟩)) (ac_leaf 11 (ac_Vc0 ((vd_52_11 E).1) (fun _ => rfl)))))) (ac_node (ac_node (ac_node (ac_leaf 14 (⟨vd_52_14 E, mn_ald _ _⟩)) (ac_leaf 15 (ac_Vc0 ((vd_52_15 E).1) (fun _ => rfl)))) (ac_node (ac_leaf 18 (⟨vd_52_18 E, mn_ald _ _⟩)) (ac_leaf 19 (⟨vd_52_19 E, mn_dup _⟩)))) (ac_node (ac_node (ac_leaf 20 (⟨vd_52_20 E, mn_get _ _ _⟩)) (ac_leaf 23 (⟨vd_52_23 E, mn_con _ _⟩))) (ac_node (ac_leaf 24 (⟨vd_52_24 E, mn_add _⟩)) (ac_node (ac_leaf 25 (⟨vd_52_25 E, mn_put _ _ _⟩)) (ac_leaf 28 (ac_Vr0 dd_52_28 rfl)))))))
theorem vd_53_0 (E : ac_E) : ac_ok E md_53 0 (o_ald 0 1) := ok_aload_n (E := E) (d := md_53) (pc := 0) (j := 0) dd_53_0
theorem vd_53_1 (E : ac_E) : ac_ok E md_53 1 (o_dup 2) := ok_dup (E := E) (d := md_53) (pc := 1) dd_53_1
theorem vd_53_2 (E : ac_E) : ac_ok E md_53 2 (o_get 4 10 5) := ok_getf (E := E) (d := md_53) (pc := 2) (ci := 4) (f := 10) (C := RX4) (T := TX4) (N := 12) (ref := RX4) rfl win_4 (by decide) rfl wm_173 dd_53_2
theorem vd_53_5 (E : ac_E) : ac_ok E md_53 5 (o_con (.int 1) 6) := ok_iconst (E := E) (d := md_53) (pc := 5) dd_53_5 (by decide)
theorem vd_53_6 (E : ac_E) : ac_ok E md_53 6 (o_sub 7) := ok_isub (E := E) (d := md_53) (pc := 6) dd_53_6
theorem vd_53_7 (E : ac_E) : ac_ok E md_53 7 (o_put 4 10 10) := ok_putf (E := E) (d := md_53) (pc := 7) (ci := 4) (f := 10) (C := RX4) (T := TX4) (N := 12) (ref := RX4) rfl win_4 (by decide) rfl tyX4 tyX4_ok nmX4 (by decide +kernel) rfl wm_173 dd_53_7
theorem vd_53_10 (E : ac_E) : ac_ok E md_53 10 (o_ald 0 11) := ok_aload_n (E := E) (d := md_53) (pc := 10) (j := 0) dd_53_10
theorem vd_53_11 (E : ac_E) : ac_okr E md_53 md_59 11 1 14 6 ∧ ac_okt E md_53 md_59 11 1 6 := ok_callV (E := E) (d := md_53) (dz := md_59) (pc := 11) (T := TX4) (N := 12) rfl rfl (by decide) (by decide +kernel) wm_475 wm_50 wm_472 wm_474 wm_14 dd_53_11
theorem vd_53_14 (E : ac_E) : ac_ok E md_53 14 (o_ald 0 15) := ok_aload_n (E := E) (d := md_53) (pc := 14) (j := 0) dd_53_14
theorem vd_53_15 (E : ac_E) : ac_ok E md_53 15 (o_con (.int 3) 16) := ok_iconst (E := E) (d := md_53) (pc := 15) dd_53_15 (by decide)
theorem vd_53_16 (E : ac_E) : ac_okr E md_53 md_57 16 2 19 6 ∧ ac_okt E md_53 md_57 16 2 6 := ok_callV (E := E) (d := md_53) (dz := md_57) (pc := 16) (T := TX4) (N := 12) rfl rfl (by decide) (by decide +kernel) wm_454 wm_50 wm_451 wm_453 wm_10 dd_53_16
theorem vd_53_19 (E : ac_E) : ac_ok E md_53 19 (o_ald 0 20) := ok_aload_n (E := E) (d := md_53) (pc := 19) (j := 0) dd_53_19
theorem vd_53_20 (E : ac_E) : ac_ok E md_53 20 (o_con (.int 1) 21) := ok_iconst (E := E) (d := md_53) (pc := 20) dd_53_20 (by decide)
theorem vd_53_21 (E : ac_E) : ac_okr E md_53 md_55 21 2 24 6 ∧ ac_okt E md_53 md_55 21 2 6 := ok_callV (E := E) (d := md_53) (dz := md_55) (pc := 21) (T := TX4) (N := 12) rfl rfl (by decide) (by decide +kernel) wm_438 wm_50 wm_435 wm_437 wm_7 dd_53_21
theorem va_53 (E : ac_E) (pc : Nat) : ac_V E ac_MDf ac_HDf 53 pc (tb_53 (ac_len E) (ac_xs E) pc) := (ac_node (ac_node (ac_node (ac_leaf 0 (⟨vd_53_0 E, mn_ald _ _⟩)) (ac_node (ac_leaf 1 (⟨vd_53_1 E, mn_dup _⟩)) (ac_leaf 2 (⟨vd_53_2 E, mn_get _ _ _⟩)))) (ac_node (ac_node (ac_leaf 5 (⟨vd_53_5 E, mn_con _ _⟩)) (ac_leaf 6 (⟨vd_53_6 E, mn_sub _⟩))) (ac_node (ac_leaf 7 (⟨vd_53_7 E, mn_put _ _ _⟩)) (ac_leaf 10 (⟨vd_53_10 E, mn_ald _ _⟩))))) (ac_node (ac_node (ac_node (ac_leaf 11 (ac_Vc0 ((vd_53_11 E).1) (fun _ => rfl))) (ac_leaf 14 (⟨vd_53_14 E, mn_ald _ _⟩))) (ac_node (ac_leaf 15 (⟨vd_53_15 E, mn_con _ _⟩)) (ac_leaf 16 (ac_Vc0 ((vd_53_16 E).1) (fun _ => rfl))))) (ac_node (ac_node (ac_leaf 19 (⟨vd_53_19 E, mn_ald _ _⟩)) (ac_leaf 20 (⟨vd_53_20 E, mn_con _ _⟩))) (ac_node (ac_leaf 21 (ac_Vc0 ((vd_53_21 E).1) (fun _ => rfl))) (ac_leaf 24 (ac_Vr0 dd_53_24 rfl))))))
theorem vd_54_0 (E : ac_E) : ac_ok E md_54 0 (o_con (.int 0) 1) := ok_iconst (E := E) (d := md_54) (pc := 0) dd_54_0 (by decide)
theorem vd_54_1 (E : ac_E) : ac_ok E md_54 1 (o_ist 1 2) := ok_istore_n (E := E) (d := md_54) (pc := 1) (j := 1) dd_54_1
theorem vd_54_2 (E : ac_E) : ac_ok E md_54 2 (o_ild 1 3) := ok_iload_n (E := E) (d := md_54) (pc := 2) (j := 1) dd_54_2
theorem vd_54_3 (E : ac_E) : ac_ok E md_54 3 (o_ald 0 4) := ok_aload_n (E := E) (d := md_54) (pc := 3) (j := 0) dd_54_3
theorem vd_54_4 (E : ac_E) : ac_ok E md_54 4 (o_get 4 0 7) := ok_getf (E := E) (d := md_54) (pc := 4) (ci := 4) (f := 0) (C := RX4) (T := TX4) (N := 12) (ref := RX4) rfl win_4 (by decide) rfl wm_163 dd_54_4
theorem vd_54_7 (E : ac_E) : ac_ok E md_54 7 (o_get 2 2 10) := ok_getN (E := E) (d := md_54) (pc := 7) (ci := 2) (f := 2) (C := RX2) (T := TX2) (N := 4) (ref := RX2) rfl win_2 (by decide) rfl wm_98 dd_54_7
theorem vd_54_10 (E : ac_E) : ac_ok E md_54 10 (o_ge 40 13) := ok_icmpge (E := E) (d := md_54) (pc := 10) dd_54_10 (by decide)
theorem vd_54_13 (E : ac_E) : ac_ok E md_54 13 (o_ald 0 14) := ok_aload_n (E := E) (d := md_54) (pc := 13) (j := 0) dd_54_13
theorem vd_54_14 (E : ac_E) : ac_ok E md_54 14 (o_get 4 1 17) := ok_getf (E := E) (d := md_54) (pc := 14) (ci := 4) (f := 1) (C := RX4) (T := TX4) (N := 12) (ref := RX4) rfl win_4 (by decide) rfl wm_164 dd_54_14
theorem vd_54_17 (E : ac_E) : ac_ok E md_54 17 (o_ild 1 18) := ok_iload_n (E := E) (d := md_54) (pc := 17) (j := 1) dd_54_17
theorem vd_54_18 (E : ac_E) : ac_ok E md_54 18 (o_ia 19) := ok_iaload (E := E) (d := md_54) (pc := 18) dd_54_18
theorem vd_54_19 (E : ac_E) : ac_ok E md_54 19 (o_eq0 34 22) := ok_ifeq (E := E) (d := md_54) (pc := 19) dd_54_19 (by decide)
theorem vd_54_22 (E : ac_E) : ac_ok E md_54 22 (o_ald 0 23) := ok_aload_n (E := E) (d := md_54) (pc := 22) (j := 0) dd_54_22
theorem vd_54_23 (E : ac_E) : ac_ok E md_54 23 (o_get 4 1 26) := ok_getf (E := E) (d := md_54) (pc := 23) (ci := 4) (f := 1) (C := RX4) (T := TX4) (N := 12) (ref := RX4) rfl win_4 (by decide) rfl wm_164 dd_54_23
theorem vd_54_26 (E : ac_E) : ac_ok E md_54 26 (o_ild 1 27) := ok_iload_n (E := E) (d := md_54) (pc := 26) (j := 1) dd_54_26
theorem vd_54_27 (E : ac_E) : ac_ok E md_54 27 (o_ia 28) := ok_iaload (E := E) (d := md_54) (pc := 27) dd_54_27
theorem vd_54_28 (E : ac_E) : ac_ok E md_54 28 (o_con (.int 1) 29) := ok_iconst (E := E) (d := md_54) (pc := 28) dd_54_28 (by decide)
theorem vd_54_29 (E : ac_E) : ac_ok E md_54 29 (o_eq 34 32) := ok_icmpeq (E := E) (d := md_54) (pc := 29) dd_54_29 (by decide)
theorem vd_54_32 (E : ac_E) : ac_ok E md_54 32 (o_con (.int 0) 33) := ok_iconst (E := E) (d := md_54) (pc := 32) dd_54_32 (by decide)
theorem vd_54_34 (E : ac_E) : ac_ok E md_54 34 (o_inc 1 1 37) := ok_iinc (E := E) (d := md_54) (pc := 34) dd_54_34 (by decide)
theorem vd_54_37 (E : ac_E) : ac_ok E md_54 37 (o_go 2) := ok_goto (E := E) (d := md_54) (pc := 37) dd_54_37 (by decide)
theorem vd_54_40 (E : ac_E) : ac_ok E md_54 40 (o_con (.int 1) 41) := ok_iconst (E := E) (d := md_54) (pc := 40) dd_54_40 (by decide)
theorem va_54 (E : ac_E) (pc : Nat) : ac_V E ac_MDf ac_HDf 54 pc (tb_54 (ac_len E) (ac_xs E) pc) := (ac_node (ac_node (ac_node (ac_node (ac_leaf 0 (⟨vd_54_0 E, mn_con _ _⟩)) (ac_node (ac_leaf 1 (⟨vd_54_1 E, mn_ist _ _⟩)) (ac_leaf 2 (⟨vd_54_2 E, mn_ild _ _⟩)))) (ac_node (ac_leaf 3 (⟨vd_54_3 E, mn_ald _ _⟩)) (ac_node (ac_leaf 4 (⟨vd_54_4 E, mn_get _ _ _⟩)) (ac_leaf 7 (⟨vd_54_7 E, mn_get _ _ _⟩))))) (ac_node (ac_node (ac_leaf 10 (⟨vd_54_10 E, mn_ge _ _⟩)) (ac_node (ac_leaf 13 (⟨vd_54_13 E, mn_ald _ _⟩)) (ac_leaf 14 (⟨vd_54_14 E, mn_get _ _ _⟩)))) (ac_node (ac_leaf 17 (⟨vd_54_17 E, mn_ild _ _⟩)) (ac_node (ac_leaf 18 (⟨vd_54_18 E, mn_ia _⟩)) (ac_leaf 19 (⟨vd_54_19 E, mn_eq0 _ _⟩)))))) (ac_node (ac_node (ac_node (ac_leaf 22 (⟨vd_54_22 E, mn_ald _ _⟩)) (ac_node (ac_leaf 23 (⟨vd_54_23 E, mn_get _ _ _⟩)) (ac_leaf 26 (⟨vd_54_26 E, mn_ild _ _⟩)))) (ac_node (ac_leaf 27 (⟨vd_54_27 E, mn_ia _⟩)) (ac_node (ac_leaf 28 (⟨vd_54_28 E, mn_con _ _⟩)) (ac_leaf 29 (⟨vd_54_29 E, mn_eq _ _⟩))))) (ac_node (ac_node (ac_leaf 32 (⟨vd_54_32 E, mn_con _ _⟩)) (ac_node (ac_leaf 33 (ac_Vr2 dd_54_33 rfl)) (ac_leaf 34 (⟨vd_54_34 E, mn_inc _ _ _⟩)))) (ac_node (ac_leaf 37 (⟨vd_54_37 E, mn_go _⟩)) (ac_node (ac_leaf 40 (⟨vd_54_40 E, mn_con _ _⟩)) (ac_leaf 41 (ac_Vr2 dd_54_41 rfl)))))))
theorem vd_55_0 (E : ac_E) : ac_ok E md_55 0 (o_con (.int 0) 1) := ok_iconst (E := E) (d := md_55) (pc := 0) dd_55_0 (by decide)
theorem vd_55_1 (E : ac_E) : ac_ok E md_55 1 (o_ist 2 2) := ok_istore_n (E := E) (d := md_55) (pc := 1) (j := 2) dd_55_1
theorem vd_55_2 (E : ac_E) : ac_ok E md_55 2 (o_ild 2 3) := ok_iload_n (E := E) (d := md_55) (pc := 2) (j := 2) dd_55_2
theorem vd_55_3 (E : ac_E) : ac_ok E md_55 3 (o_ald 0 4) := ok_aload_n (E := E) (d := md_55) (pc := 3) (j := 0) dd_55_3
theorem vd_55_4 (E : ac_E) : ac_ok E md_55 4 (o_get 4 5 7) := ok_getf (E := E) (d := md_55) (pc := 4) (ci := 4) (f := 5) (C := RX4) (T := TX4) (N := 12) (ref := RX4) rfl win_4 (by decide) rfl wm_168 dd_55_4
theorem vd_55_7 (E : ac_E) : ac_ok E md_55 7 (o_get 3 2 10) := ok_getN (E := E) (d := md_55) (pc := 7) (ci := 3) (f := 2) (C := RX3) (T := TX3) (N := 3) (ref := RX3) rfl win_3 (by decide) rfl wm_155 dd_55_7
theorem vd_55_10 (E : ac_E) : ac_ok E md_55 10 (o_ge 54 13) := ok_icmpge (E := E) (d := md_55) (pc := 10) dd_55_10 (by decide)
theorem vd_55_13 (E : ac_E) : ac_ok E md_55 13 (o_ald 0 14) := ok_aload_n (E := E) (d := md_55) (pc := 13) (j := 0) dd_55_13
theorem vd_55_14 (E : ac_E) : ac_ok E md_55 14 (o_get 4 5 17) := ok_getf (E := E) (d := md_55) (pc := 14) (ci := 4) (f := 5) (C := RX4) (T := TX4) (N := 12) (ref := RX4) rfl win_4 (by decide) rfl wm_168 dd_55_14
theorem vd_55_17 (E : ac_E) : ac_ok E md_55 17 (o_get 3 0 20) := ok_getN (E := E) (d := md_55) (pc := 17) (ci := 3) (f := 0) (C := RX3) (T := TX3) (N := 3) (ref := RX3) rfl win_3 (by decide) rfl wm_151 dd_55_17
theorem vd_55_20 (E : ac_E) : ac_ok E md_55 20 (o_ild 2 21) := ok_iload_n (E := E) (d := md_55) (pc := 20) (j := 2) dd_55_20
theorem vd_55_21 (E : ac_E) : ac_ok E md_55 21 (o_ia 22) := ok_iaload (E := E) (d := md_55) (pc := 21) dd_55_21
theorem vd_55_22 (E : ac_E) : ac_ok E md_55 22 (o_ist 3 23) := ok_istore_n (E := E) (d := md_55) (pc := 22) (j := 3) dd_55_22
theorem vd_55_23 (E : ac_E) : ac_ok E md_55 23 (o_ild 3 24) := ok_iload_n (E := E) (d := md_55) (pc := 23) (j := 3) dd_55_23
theorem vd_55_24 (E : ac_E) : ac_ok E md_55 24 (o_con (.int (-1)) 25) := ok_iconst (E := E) (d := md_55) (pc := 24) dd_55_24 (by decide)
theorem vd_55_25 (E : ac_E) : ac_ok E md_55 25 (o_eq 48 28) := ok_icmpeq (E := E) (d := md_55) (pc := 25) dd_55_25 (by decide)
theorem vd_55_28 (E : ac_E) : ac_ok E md_55 28 (o_ald 0 29) := ok_aload_n (E := E) (d := md_55) (pc := 28) (j := 0) dd_55_28
theorem vd_55_29 (E : ac_E) : ac_ok E md_55 29 (o_get 4 5 32) := ok_getf (E := E) (d := md_55) (pc := 29) (ci := 4) (f := 5) (C := RX4) (T := TX4) (N := 12) (ref := RX4) rfl win_4 (by decide) rfl wm_168 dd_55_29
theorem vd_55_32 (E : ac_E) : ac_ok E md_55 32 (o_ild 2 33) := ok_iload_n (E := E) (d := md_55) (pc := 32) (j := 2) dd_55_32
theorem vd_55_33 (E : ac_E) : ac_ok E md_55 33 (o_ald 0 34) := ok_aload_n (E := E) (d := md_55) (pc := 33) (j := 0) dd_55_33
theorem vd_55_34 (E : ac_E) : ac_ok E md_55 34 (o_get 4 8 37) := ok_getf (E := E) (d := md_55) (pc := 34) (ci := 4) (f := 8) (C := RX4) (T := TX4) (N := 12) (ref := RX4) rfl win_4 (by decide) rfl wm_171 dd_55_34
theorem vd_55_37 (E : ac_E) : ac_ok E md_55 37 (o_ild 3 38) := ok_iload_n (E := E) (d := md_55) (pc := 37) (j := 3) dd_55_37
theorem vd_55_38 (E : ac_E) : ac_ok E md_55 38 (o_ia 39) := ok_iaload (E := E) (d := md_55) (pc := 38) dd_55_38
theorem vd_55_39 (E : ac_E) : ac_ok E md_55 39 (o_ald 0 40) := ok_aload_n (E := E) (d := md_55) (pc := 39) (j := 0) dd_55_39
theorem vd_55_40 (E : ac_E) : ac_ok E md_55 40 (o_ild 3 41) := ok_iload_n (E := E) (d := md_55) (pc := 40) (j := 3) dd_55_40
theorem vd_55_41 (E : ac_E) : ac_ok E md_55 41 (o_ild 1 42) := ok_iload_n (E := E) (d := md_55) (pc := 41) (j := 1) dd_55_41
theorem vd_55_42 (E : ac_E) : ac_okr E md_55 md_56 42 3 45 6 ∧ ac_okt E md_55 md_56 42 3 6 := ok_callV (E := E) (d := md_55) (dz := md_56) (pc := 42) (T := TX4) (N := 12) rfl rfl (by decide) (by decide +kernel) wm_442 wm_50 wm_439 wm_441 wm_8 dd_55_42
theorem vd_55_45 (E : ac_E) : ac_okr E md_55 md_19 45 4 48 5 := ok_callVN (E := E) (d := md_55) (dz := md_19) (pc := 45) (T := TX3) (N := 3) rfl rfl (by decide) (by decide +kernel) wm_446 wm_55 wm_443 wm_445 wm_9 dd_55_45
theorem vd_55_48 (E : ac_E) : ac_ok E md_55 48 (o_inc 2 1 51) := ok_iinc (E := E) (d := md_55) (pc := 48) dd_55_48 (by decide)
theorem vd_55_51 (E : ac_E) : ac_ok E md_55 51 (o_go 2) := ok_goto (E := E) (d := md_55) (pc := 51) dd_55_51 (by decide)
theorem vd_55_54 (E : ac_E) : ac_ok E md_55 54 (o_con (.int 0) 55) := ok_iconst (E := E) (d := md_55) (pc := 54) dd_55_54 (by decide)
theorem vd_55_55 (E : ac_E) : ac_ok E md_55 55 (o_ist 2 56) := ok_istore_n (E := E) (d := md_55) (pc := 55) (j := 2) dd_55_55
theorem vd_55_56 (E : ac_E) : ac_ok E md_55 56 (o_ild 2 57) := ok_iload_n (E := E) (d := md_55) (pc := 56) (j := 2) dd_55_56
theorem vd_55_57 (E : ac_E) : ac_ok E md_55 57 (o_ald 0 58) := ok_aload_n (E := E) (d := md_55) (pc := 57) (j := 0) dd_55_57
theorem vd_55_58 (E : ac_E) : ac_ok E md_55 58 (o_get 4 0 61) := ok_getf (E := E) (d := md_55) (pc := 58) (ci := 4) (f := 0) (C := RX4) (T := TX4) (N := 12) (ref := RX4) rfl win_4 (by decide) rfl wm_163 dd_55_58
theorem vd_55_61 (E : ac_E) : ac_ok E md_55 61 (o_get 2 2 64) := ok_getN (E := E) (d := md_55) (pc := 61) (ci := 2) (f := 2) (C := RX2) (T := TX2) (N := 4) (ref := RX2) rfl win_2 (by decide) rfl wm_98 dd_55_61
theorem vd_55_64 (E : ac_E) : ac_ok E md_55 64 (o_ge 85 67) := ok_icmpge (E := E) (d := md_55) (pc := 64) dd_55_64 (by decide)
theorem vd_55_67 (E : ac_E) : ac_ok E md_55 67 (o_ald 0 68) := ok_aload_n (E := E) (d := md_55) (pc := 67) (j := 0) dd_55_67
theorem vd_55_68 (E : ac_E) : ac_ok E md_55 68 (o_get 4 8 71) := ok_getf (E := E) (d := md_55) (pc := 68) (ci := 4) (f := 8) (C := RX4) (T := TX4) (N := 12) (ref := RX4) rfl win_4 (by decide) rfl wm_171 dd_55_68
theorem vd_55_71 (E : ac_E) : ac_ok E md_55 71 (o_ild 2 72) := ok_iload_n (E := E) (d := md_55) (pc := 71) (j := 2) dd_55_71
theorem vd_55_72 (E : ac_E) : ac_ok E md_55 72 (o_ald 0 73) := ok_aload_n (E := E) (d := md_55) (pc := 72) (j := 0) dd_55_72
theorem vd_55_73 (E : ac_E) : ac_ok E md_55 73 (o_ild 2 74) := ok_iload_n (E := E) (d := md_55) (pc := 73) (j := 2) dd_55_73
theorem vd_55_74 (E : ac_E) : ac_ok E md_55 74 (o_ild 1 75) := ok_iload_n (E := E) (d := md_55) (pc := 74) (j := 1) dd_55_74
theorem vd_55_75 (E : ac_E) : ac_okr E md_55 md_56 75 3 78 6 ∧ ac_okt E md_55 md_56 75 3 6 := ok_callV (E := E) (d := md_55) (dz := md_56) (pc := 75) (T := TX4) (N := 12) rfl rfl (by decide) (by decide +kernel) wm_442 wm_50 wm_439 wm_441 wm_8 dd_55_75
theorem vd_55_78 (E : ac_E) : ac_ok E md_55 78 (o_is 79) := ok_iastore (E := E) (d := md_55) (pc := 78) dd_55_78
theorem vd_55_79 (E : ac_E) : ac_ok E md_55 79 (o_inc 2 1 82) := ok_iinc (E := E) (d := md_55) (pc := 79) dd_55_79 (by decide)
theorem vd_55_82 (E : ac_E) : ac_ok E md_55 82 (o_go 56) := ok_goto (E := E) (d := md_55) (pc := 82) dd_55_82 (by decide)
theorem va_55 (E : ac_E) (pc : Nat) : ac_V E ac_MDf ac_HDf 55 pc (tb_55 (ac_len E) (ac_xs E) pc) := (ac_node (ac_node (ac_node (ac_node (ac_node (ac_leaf 0 (⟨vd_55_0 E, mn_con _ _⟩)) (ac_node (ac_leaf 1 (⟨vd_55_1 E, mn_ist _ _⟩)) (ac_leaf 2 (⟨vd_55_2 E, mn_ild _ _⟩)))) (ac_node (ac_leaf 3 (⟨vd_55_3 E, mn_ald _ _⟩)) (ac_node (ac_leaf 4 (⟨vd_55_4 E, mn_get _ _ _⟩)) (ac_leaf 7 (⟨vd_55_7 E, mn_get _ _ _⟩))))) (ac_node (ac_node (ac_leaf 10 (⟨vd_55_10 E, mn_ge _ _⟩)) (ac_node (ac_leaf 13 (⟨vd_55_13 E, mn_ald _ _⟩)) (ac_leaf 14 (⟨vd_55_14 E, mn_get _ _ _⟩)))) (ac_node (ac_leaf 17 (⟨vd_55_17 E, mn_get _ _ _⟩)) (ac_node (ac_leaf 20 (⟨vd_55_20 E, mn_ild _ _⟩)) (ac_leaf 21 (⟨vd_55_21 E, mn_ia _⟩)))))) (ac_node (ac_node (ac_node (ac_leaf 22 (⟨vd_55_22 E, mn_ist _ _⟩)) (ac_node (ac_leaf 23 (⟨vd_55_23 E, mn_ild _ _⟩)) (ac_leaf 24 (⟨vd_55_24 E, mn_con _ _⟩)))) (ac_node (ac_leaf 25 (⟨vd_55_25 E, mn_eq _ _⟩)) (ac_node (ac_leaf 28 (⟨vd_55_28 E, mn_ald _ _⟩)) (ac_leaf 29 (⟨vd_55_29 E, mn_get _ _ _⟩))))) (ac_node (ac_node (ac_leaf 32 (⟨vd_55_32 E, mn_ild _ _⟩)) (ac_node (ac_leaf 33 (⟨vd_55_33 E, mn_ald _ _⟩)) (ac_leaf 34 (⟨vd_55_34 E, mn_get _ _ _⟩)))) (ac_node (ac_leaf 37 (⟨vd_55_37 E, mn_ild _ _⟩)) (ac_node (ac_leaf 38 (⟨vd_55_38 E, mn_ia _⟩)) (ac_leaf 39 (⟨vd_55_39 E, mn_ald _ _⟩))))))) (ac_node (ac_node (ac_node (ac_node (ac_leaf 40 (⟨vd_55_40 E, mn_ild _ _⟩)) (ac_node (ac_leaf 41 (⟨vd_55_41 E, mn_ild _ _⟩)) (ac_leaf 42 (ac_Vc0 ((vd_55_42 E).1) (fun _ => rfl))))) (ac_node (ac_leaf 45 (ac_Vc0 (vd_55_45 E) (fun _ => rfl))) (ac_node (ac_leaf 48 (⟨vd_55_48 E, mn_inc _ _ _⟩)) (ac_leaf 51 (⟨vd_55_51 E, mn_go _⟩))))) (ac_node (ac_node (ac_leaf 54 (⟨vd_55_54 E, mn_con _ _⟩)) (ac_node (ac_leaf 55 (⟨vd_55_55 E, mn_ist _ _⟩)) (ac_leaf 56 (⟨vd_55_56 E, mn_ild _ _⟩)))) (ac_node (ac_leaf 57 (⟨vd_55_57 E, mn_ald _ _⟩)) (ac_node (ac_leaf 58 (⟨vd_55_58 E, mn_get _ _ _⟩)) (ac_leaf 61 (⟨vd_55_61 E, mn_get _ _ _⟩)))))) (ac_node (ac_node (ac_node (ac_leaf 64 (⟨vd_55_64 E, mn_ge _ _⟩)) (ac_node (ac_leaf 67 (⟨vd_55_67 E, mn_ald _ _⟩)) (ac_leaf 68 (⟨vd_55_68 E, mn_get _ _ _⟩)))) (ac_node (ac_leaf 71 (⟨vd_55_71 E, mn_ild _ _⟩)) (ac_node (ac_leaf 72 (⟨vd_55_72 E, mn_ald _ _⟩)) (ac_leaf 73 (⟨vd_55_73 E, mn_ild _ _⟩))))) (ac_node (ac_node (ac_leaf 74 (⟨vd_55_74 E, mn_ild _ _⟩)) (ac_node (ac_leaf 75 (ac_Vc0 ((vd_55_75 E).1) (fun _ => rfl))) (ac_leaf 78 (⟨vd_55_78 E, mn_is _⟩)))) (ac_node (ac_leaf 79 (⟨vd_55_79 E, mn_inc _ _ _⟩)) (ac_node (ac_leaf 82 (⟨vd_55_82 E, mn_go _⟩)) (ac_leaf 85 (ac_Vr0 dd_55_85 rfl))))))))
theorem vd_56_0 (E : ac_E) : ac_ok E md_56 0 (o_ald 0 1) := ok_aload_n (E := E) (d := md_56) (pc := 0) (j := 0) dd_56_0
theorem vd_56_1 (E : ac_E) : ac_ok E md_56 1 (o_get 4 8 4) := ok_getf (E := E) (d := md_56) (pc := 1) (ci := 4) (f := 8) (C := RX4) (T := TX4) (N := 12) (ref := RX4) rfl win_4 (by decide) rfl wm_171 dd_56_1
theorem vd_56_4 (E : ac_E) : ac_ok E md_56 4 (o_ild 1 5) := ok_iload_n (E := E) (d := md_56) (pc := 4) (j := 1) dd_56_4
theorem vd_56_5 (E : ac_E) : ac_ok E md_56 5 (o_ia 6) := ok_iaload (E := E) (d := md_56) (pc := 5) dd_56_5
theorem vd_56_6 (E : ac_E) : ac_ok E md_56 6 (o_ist 3 7) := ok_istore_n (E := E) (d := md_56) (pc := 6) (j := 3) dd_56_6
theorem vd_56_7 (E : ac_E) : ac_ok E md_56 7 (o_ild 3 8) := ok_iload_n (E := E) (d := md_56) (pc := 7) (j := 3) dd_56_7
theorem vd_56_8 (E : ac_E) : ac_ok E md_56 8 (o_eq0 31 11) := ok_ifeq (E := E) (d := md_56) (pc := 8) dd_56_8 (by decide)
theorem vd_56_11 (E : ac_E) : ac_ok E md_56 11 (o_ald 0 12) := ok_aload_n (E := E) (d := md_56) (pc := 11) (j := 0) dd_56_11
theorem vd_56_12 (E : ac_E) : ac_ok E md_56 12 (o_get 4 1 15) := ok_getf (E := E) (d := md_56) (pc := 12) (ci := 4) (f := 1) (C := RX4) (T := TX4) (N := 12) (ref := RX4) rfl win_4 (by decide) rfl wm_164 dd_56_12
theorem vd_56_15 (E : ac_E) : ac_ok E md_56 15 (o_ild 1 16) := ok_iload_n (E := E) (d := md_56) (pc := 15) (j := 1) dd_56_15
theorem vd_56_16 (E : ac_E) : ac_ok E md_56 16 (o_ia 17) := ok_iaload (E := E) (d := md_56) (pc := 16) dd_56_16
theorem vd_56_17 (E : ac_E) : ac_ok E md_56 17 (o_con (.int 1) 18) := ok_iconst (E := E) (d := md_56) (pc := 17) dd_56_17 (by decide)
theorem vd_56_18 (E : ac_E) : ac_ok E md_56 18 (o_eq 31 21) := ok_icmpeq (E := E) (d := md_56) (pc := 18) dd_56_18 (by decide)
theorem vd_56_21 (E : ac_E) : ac_ok E md_56 21 (o_ald 0 22) := ok_aload_n (E := E) (d := md_56) (pc := 21) (j := 0) dd_56_21
theorem vd_56_22 (E : ac_E) : ac_ok E md_56 22 (o_get 4 1 25) := ok_getf (E := E) (d := md_56) (pc := 22) (ci := 4) (f := 1) (C := RX4) (T := TX4) (N := 12) (ref := RX4) rfl win_4 (by decide) rfl wm_164 dd_56_22
theorem vd_56_25 (E : ac_E) : ac_ok E md_56 25 (o_ild 1 26) := ok_iload_n (E := E) (d := md_56) (pc := 25) (j := 1) dd_56_25
theorem vd_56_26 (E : ac_E) : ac_ok E md_56 26 (o_ia 27) := ok_iaload (E := E) (d := md_56) (pc := 26) dd_56_26
theorem vd_56_27 (E : ac_E) : ac_ok E md_56 27 (o_con (.int 4) 28) := ok_iconst (E := E) (d := md_56) (pc := 27) dd_56_27 (by decide)
theorem vd_56_28 (E : ac_E) : ac_ok E md_56 28 (o_ne 33 31) := ok_icmpne (E := E) (d := md_56) (pc := 28) dd_56_28 (by decide)
theorem vd_56_31 (E : ac_E) : ac_ok E md_56 31 (o_ild 3 32) := ok_iload_n (E := E) (d := md_56) (pc := 31) (j := 3) dd_56_31
theorem vd_56_33 (E : ac_E) : ac_ok E md_56 33 (o_ald 0 34) := ok_aload_n (E := E) (d := md_56) (pc := 33) (j := 0) dd_56_33
theorem vd_56_34 (E : ac_E) : ac_ok E md_56 34 (o_get 4 0 37) := ok_getf (E := E) (d := md_56) (pc := 34) (ci := 4) (f := 0) (C := RX4) (T := TX4) (N := 12) (ref := RX4) rfl win_4 (by decide) rfl wm_163 dd_56_34
theorem vd_56_37 (E : ac_E) : ac_ok E md_56 37 (o_ild 1 38) := ok_iload_n (E := E) (d := md_56) (pc := 37) (j := 1) dd_56_37
theorem vd_56_38 (E : ac_E) : ac_okr E md_56 md_12 38 2 41 4 := ok_callVN (E := E) (d := md_56) (dz := md_12) (pc := 38) (T := TX2) (N := 4) rfl rfl (by decide) (by decide +kernel) wm_215 wm_51 wm_212 wm_214 wm_1 dd_56_38
theorem vd_56_41 (E : ac_E) : ac_ok E md_56 41 (o_ald 0 42) := ok_aload_n (E := E) (d := md_56) (pc := 41) (j := 0) dd_56_41
theorem vd_56_42 (E : ac_E) : ac_ok E md_56 42 (o_get 4 0 45) := ok_getf (E := E) (d := md_56) (pc := 42) (ci := 4) (f := 0) (C := RX4) (T := TX4) (N := 12) (ref := RX4) rfl win_4 (by decide) rfl wm_163 dd_56_42
theorem vd_56_45 (E : ac_E) : ac_ok E md_56 45 (o_ild 1 46) := ok_iload_n (E := E) (d := md_56) (pc := 45) (j := 1) dd_56_45
theorem vd_56_46 (E : ac_E) : ac_okr E md_56 md_13 46 2 49 4 := ok_callVN (E := E) (d := md_56) (dz := md_13) (pc := 46) (T := TX2) (N := 4) rfl rfl (by decide) (by decide +kernel) wm_211 wm_51 wm_208 wm_210 wm_0 dd_56_46
theorem vd_56_49 (E : ac_E) : ac_ok E md_56 49 (o_add 50) := ok_iadd (E := E) (d := md_56) (pc := 49) dd_56_49
theorem vd_56_50 (E : ac_E) : ac_ok E md_56 50 (o_ald 0 51) := ok_aload_n (E := E) (d := md_56) (pc := 50) (j := 0) dd_56_50
theorem vd_56_51 (E : ac_E) : ac_ok E md_56 51 (o_get 4 10 54) := ok_getf (E := E) (d := md_56) (pc := 51) (ci := 4) (f := 10) (C := RX4) (T := TX4) (N := 12) (ref := RX4) rfl win_4 (by decide) rfl wm_173 dd_56_51
theorem vd_56_54 (E : ac_E) : ac_ok E md_56 54 (o_add 55) := ok_iadd (E := E) (d := md_56) (pc := 54) dd_56_54
theorem vd_56_55 (E : ac_E) : ac_ok E md_56 55 (o_ild 2 56) := ok_iload_n (E := E) (d := md_56) (pc := 55) (j := 2) dd_56_55
theorem vd_56_56 (E : ac_E) : ac_ok E md_56 56 (o_add 57) := ok_iadd (E := E) (d := md_56) (pc := 56) dd_56_56
theorem vd_56_57 (E : ac_E) : ac_ok E md_56 57 (o_con (.int 1) 58) := ok_iconst (E := E) (d := md_56) (pc := 57) dd_56_57 (by decide)
theorem vd_56_58 (E : ac_E) : ac_ok E md_56 58 (o_and 59) := ok_iand (E := E) (d := md_56) (pc := 58) dd_56_58
theorem vd_56_59 (E : ac_E) : ac_ok E md_56 59 (o_ist 4 61) := ok_istore (E := E) (d := md_56) (pc := 59) dd_56_59
theorem vd_56_61 (E : ac_E) : ac_ok E md_56 61 (o_ild 3 62) := ok_iload_n (E := E) (d := md_56) (pc := 61) (j := 3) dd_56_61
theorem vd_56_62 (E : ac_E) : ac_ok E md_56 62 (o_ild 4 64) := ok_iload (E := E) (d := md_56) (pc := 62) dd_56_62
theorem vd_56_64 (E : ac_E) : ac_okr E md_56 md_51 64 2 67 0 ∧ ac_okt E md_56 md_51 64 2 0 := ok_callS (E := E) (d := md_56) (dz := md_51) (pc := 64) rfl (by decide) (by decide +kernel) wm_344 wm_50 wm_342 wm_343 dd_56_64
theorem va_56 (E : ac_E) (pc : Nat) : ac_V E ac_MDf ac_HDf 56 pc (tb_56 (ac_len E) (ac_xs E) pc) := (ac_node (ac_node (ac_node (ac_node (ac_node (ac_leaf 0 (⟨vd_56_0 E, mn_ald _ _⟩)) (ac_leaf 1 (⟨vd_56_1 E, mn_get _ _ _⟩))) (ac_node (ac_leaf 4 (⟨vd_56_4 E, mn_ild _ _⟩)) (ac_node (ac_leaf 5 (⟨vd_56_5 E, mn_ia _⟩)) (ac_leaf 6 (⟨vd_56_6 E, mn_ist _ _⟩))))) (ac_node (ac_node (ac_leaf 7 (⟨vd_56_7 E, mn_ild _ _⟩)) (ac_leaf 8 (⟨vd_56_8 E, mn_eq0 _ _⟩))) (ac_node (ac_leaf 11 (⟨vd_56_11 E, mn_ald _ _⟩)) (ac_node (ac_leaf 12 (⟨vd_56_12 E, mn_get _ _ _⟩)) (ac_leaf 15 (⟨vd_56_15 E, mn_ild _ _⟩)))))) (ac_node (ac_node (ac_node (ac_leaf 16 (⟨vd_56_16 E, mn_ia _⟩)) (ac_leaf 17 (⟨vd_56_17 E, mn_con _ _⟩))) (ac_node (ac_leaf 18 (⟨vd_56_18 E, mn_eq _ _⟩)) (ac_node (ac_leaf 21 (⟨vd_56_21 E, mn_ald _ _⟩)) (ac_leaf 22 (⟨vd_56_22 E, mn_get _ _ _⟩))))) (ac_node (ac_node (ac_leaf 25 (⟨vd_56_25 E, mn_ild _ _⟩)) (ac_node (ac_leaf 26 (⟨vd_56_26 E, mn_ia _⟩)) (ac_leaf 27 (⟨vd_56_27 E, mn_con _ _⟩)))) (ac_node (ac_leaf 28 (⟨vd_56_28 E, mn_ne _ _⟩)) (ac_node (ac_leaf 31 (⟨vd_56_31 E, mn_ild _ _⟩)) (ac_leaf 32 (ac_Vr1 dd_56_32 rfl))))))) (ac_node (ac_node (ac_node (ac_node (ac_leaf 33 (⟨vd_56_33 E, mn_ald _ _⟩)) (ac_leaf 34 (⟨vd_56_34 E, mn_get _ _ _⟩))) (ac_node (ac_leaf 37 (⟨vd_56_37 E, mn_ild _ _⟩)) (ac_node (ac_leaf 38 (ac_Vc0 (vd_56_38 E) (fun _ => rfl))) (ac_leaf 41 (⟨vd_56_41 E, mn_ald _ _⟩))))) (ac_node (ac_node (ac_leaf 42 (⟨vd_56_42 E, mn_get _ _ _⟩)) (ac_leaf 45 (⟨vd_56_45 E, mn_ild _ _⟩))) (ac_node (ac_leaf 46 (ac_Vc0 (vd_56_46 E) (fun _ => rfl))) (ac_node (ac_leaf 49 (⟨vd_56_49 E, mn_add _⟩)) (ac_leaf 50 (⟨vd_56_50 E, mn_ald _ _⟩)))))) (ac_node (ac_node (ac_node (ac_leaf 51 (⟨vd_56_51 E, mn_get _ _ _⟩)) (ac_leaf 54 (⟨vd_56_54 E, mn_add _⟩))) (ac_node (ac_leaf 55 (⟨vd_56_55 E, mn_ild _ _⟩)) (ac_node (ac_leaf 56 (⟨vd_56_56 E, mn_add _⟩)) (ac_leaf 57 (⟨vd_56_57 E, mn_con _ _⟩))))) (ac_node (ac_node (ac_leaf 58 (⟨vd_56_58 E, mn_and _⟩)) (ac_node (ac_leaf 59 (⟨vd_56_59 E, mn_ist _ _⟩)) (ac_leaf 61 (⟨vd_56_61 E, mn_ild _ _⟩)))) (ac_node (ac_leaf 62 (⟨vd_56_62 E, mn_ild _ _⟩)) (ac_node (ac_leaf 64 (ac_Vc0 ((vd_56_64 E).1) (fun _ => rfl))) (ac_leaf 67 (ac_Vr1 dd_56_67 rfl))))))))
theorem vd_57_0 (E : ac_E) : ac_ok E md_57 0 (o_ald 0 1) := ok_aload_n (E := E) (d := md_57) (pc := 0) (j := 0) dd_57_0
theorem vd_57_1 (E : ac_E) : ac_ok E md_57 1 (o_get 4 9 4) := ok_getf (E := E) (d := md_57) (pc := 1) (ci := 4) (f := 9) (C := RX4) (T := TX4) (N := 12) (ref := RX4) rfl win_4 (by decide) rfl wm_172 dd_57_1
theorem vd_57_4 (E : ac_E) : ac_ok E md_57 4 (o_con (.int 0) 5) := ok_iconst (E := E) (d := md_57) (pc := 4) dd_57_4 (by decide)
theorem vd_57_5 (E : ac_E) : ac_okr E md_57 md_2 5 2 8 0 ∧ ac_okt E md_57 md_2 5 2 0 := ok_callS (E := E) (d := md_57) (dz := md_2) (pc := 5) rfl (by decide) (by decide +kernel) wm_457 wm_64 wm_455 wm_456 dd_57_5
theorem vd_57_8 (E : ac_E) : ac_ok E md_57 8 (o_con (.int 0) 9) := ok_iconst (E := E) (d := md_57) (pc := 8) dd_57_8 (by decide)
theorem vd_57_9 (E : ac_E) : ac_ok E md_57 9 (o_ist 2 10) := ok_istore_n (E := E) (d := md_57) (pc := 9) (j := 2) dd_57_9
theorem vd_57_10 (E : ac_E) : ac_ok E md_57 10 (o_ild 2 11) := ok_iload_n (E := E) (d := md_57) (pc := 10) (j := 2) dd_57_10
theorem vd_57_11 (E : ac_E) : ac_ok E md_57 11 (o_ald 0 12) := ok_aload_n (E := E) (d := md_57) (pc := 11) (j := 0) dd_57_11
theorem vd_57_12 (E : ac_E) : ac_ok E md_57 12 (o_get 4 0 15) := ok_getf (E := E) (d := md_57) (pc := 12) (ci := 4) (f := 0) (C := RX4) (T := TX4) (N := 12) (ref := RX4) rfl win_4 (by decide) rfl wm_163 dd_57_12
theorem vd_57_15 (E : ac_E) : ac_ok E md_57 15 (o_get 2 2 18) := ok_getN (E := E) (d := md_57) (pc := 15) (ci := 2) (f := 2) (C := RX2) (T := TX2) (N := 4) (ref := RX2) rfl win_2 (by decide) rfl wm_98 dd_57_15
theorem vd_57_18 (E : ac_E) : ac_ok E md_57 18 (o_ge 48 21) := ok_icmpge (E := E) (d := md_57) (pc := 18) dd_57_18 (by decide)
theorem vd_57_21 (E : ac_E) : ac_ok E md_57 21 (o_ald 0 22) := ok_aload_n (E := E) (d := md_57) (pc := 21) (j := 0) dd_57_21
theorem vd_57_22 (E : ac_E) : ac_ok E md_57 22 (o_get 4 8 25) := ok_getf (E := E) (d := md_57) (pc := 22) (ci := 4) (f := 8) (C := RX4) (T := TX4) (N := 12) (ref := RX4) rfl win_4 (by decide) rfl wm_171 dd_57_22
theorem vd_57_25 (E : ac_E) : ac_ok E md_57 25 (o_ild 2 26) := ok_iload_n (E := E) (d := md_57) (pc := 25) (j := 2) dd_57_25
theorem vd_57_26 (E : ac_E) : ac_ok E md_57 26 (o_ia 27) := ok_iaload (E := E) (d := md_57) (pc := 26) dd_57_26
theorem vd_57_27 (E : ac_E) : ac_ok E md_57 27 (o_eq0 42 30) := ok_ifeq (E := E) (d := md_57) (pc := 27) dd_57_27 (by decide)
theorem vd_57_30 (E : ac_E) : ac_ok E md_57 30 (o_ald 0 31) := ok_aload_n (E := E) (d := md_57) (pc := 30) (j := 0) dd_57_30
theorem vd_57_31 (E : ac_E) : ac_ok E md_57 31 (o_ild 2 32) := ok_iload_n (E := E) (d := md_57) (pc := 31) (j := 2) dd_57_31
theorem vd_57_32 (E : ac_E) : ac_ok E md_57 32 (o_ald 0 33) := ok_aload_n (E := E) (d := md_57) (pc := 32) (j := 0) dd_57_32
theorem vd_57_33 (E : ac_E) : ac_ok E md_57 33 (o_get 4 8 36) := ok_getf (E := E) (d := md_57) (pc := 33) (ci := 4) (f := 8) (C := RX4) (T := TX4) (N := 12) (ref := RX4) rfl win_4 (by decide) rfl wm_171 dd_57_33
theorem vd_57_36 (E : ac_E) : ac_ok E md_57 36 (o_ild 2 37) := ok_iload_n (E := E) (d := md_57) (pc := 36) (j := 2) dd_57_36
theorem vd_57_37 (E : ac_E) : ac_ok E md_57 37 (o_ia 38) := ok_iaload (E := E) (d := md_57) (pc := 37) dd_57_37
theorem vd_57_38 (E : ac_E) : ac_ok E md_57 38 (o_ild 1 39) := ok_iload_n (E := E) (d := md_57) (pc := 38) (j := 1) dd_57_38
theorem vd_57_39 (E : ac_E) : ac_okr E md_57 md_58 39 4 42 6 ∧ ac_okt E md_57 md_58 39 4 6 := ok_callV (E := E) (d := md_57) (dz := md_58) (pc := 39) (T := TX4) (N := 12) rfl rfl (by decide) (by decide +kernel) wm_461 wm_50 wm_458 wm_460 wm_11 dd_57_39
theorem vd_57_42 (E : ac_E) : ac_ok E md_57 42 (o_inc 2 1 45) := ok_iinc (E := E) (d := md_57) (pc := 42) dd_57_42 (by decide)
theorem vd_57_45 (E : ac_E) : ac_ok E md_57 45 (o_go 10) := ok_goto (E := E) (d := md_57) (pc := 45) dd_57_45 (by decide)
theorem vd_57_48 (E : ac_E) : ac_ok E md_57 48 (o_ald 0 49) := ok_aload_n (E := E) (d := md_57) (pc := 48) (j := 0) dd_57_48
theorem vd_57_49 (E : ac_E) : ac_ok E md_57 49 (o_get 4 8 52) := ok_getf (E := E) (d := md_57) (pc := 49) (ci := 4) (f := 8) (C := RX4) (T := TX4) (N := 12) (ref := RX4) rfl win_4 (by decide) rfl wm_171 dd_57_49
theorem vd_57_52 (E : ac_E) : ac_ok E md_57 52 (o_ast 2 53) := ok_astore_n (E := E) (d := md_57) (pc := 52) (j := 2) dd_57_52
