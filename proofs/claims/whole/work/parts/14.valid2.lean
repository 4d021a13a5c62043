theorem vd_57_53 (E : ac_E) : ac_ok E md_57 53 (o_ald 0 54) := ok_aload_n (E := E) (d := md_57) (pc := 53) (j := 0) dd_57_53
theorem vd_57_54 (E : ac_E) : ac_ok E md_57 54 (o_ald 0 55) := ok_aload_n (E := E) (d := md_57) (pc := 54) (j := 0) dd_57_54
theorem vd_57_55 (E : ac_E) : ac_ok E md_57 55 (o_get 4 9 58) := ok_getf (E := E) (d := md_57) (pc := 55) (ci := 4) (f := 9) (C := RX4) (T := TX4) (N := 12) (ref := RX4) rfl win_4 (by decide) rfl wm_172 dd_57_55
theorem vd_57_58 (E : ac_E) : ac_ok E md_57 58 (o_pur 4 8 61) := ok_purf (E := E) (d := md_57) (pc := 58) (ci := 4) (f := 8) (C := RX4) (T := TX4) (N := 12) (ref := RX4) rfl win_4 (by decide) rfl tyX4 tyX4_ok nmX4 (by decide +kernel : _ = some (.array .int)) (Or.inr ⟨_, rfl⟩) rfl wm_171 dd_57_58
theorem vd_57_61 (E : ac_E) : ac_ok E md_57 61 (o_ald 0 62) := ok_aload_n (E := E) (d := md_57) (pc := 61) (j := 0) dd_57_61
theorem vd_57_62 (E : ac_E) : ac_ok E md_57 62 (o_ald 2 63) := ok_aload_n (E := E) (d := md_57) (pc := 62) (j := 2) dd_57_62
theorem vd_57_63 (E : ac_E) : ac_ok E md_57 63 (o_pur 4 9 66) := ok_purf (E := E) (d := md_57) (pc := 63) (ci := 4) (f := 9) (C := RX4) (T := TX4) (N := 12) (ref := RX4) rfl win_4 (by decide) rfl tyX4 tyX4_ok nmX4 (by decide +kernel : _ = some (.array .int)) (Or.inr ⟨_, rfl⟩) rfl wm_172 dd_57_63
theorem vd_57_66 (E : ac_E) : ac_ok E md_57 66 (o_ald 0 67) := ok_aload_n (E := E) (d := md_57) (pc := 66) (j := 0) dd_57_66
theorem vd_57_67 (E : ac_E) : ac_ok E md_57 67 (o_get 4 5 70) := ok_getf (E := E) (d := md_57) (pc := 67) (ci := 4) (f := 5) (C := RX4) (T := TX4) (N := 12) (ref := RX4) rfl win_4 (by decide) rfl wm_168 dd_57_67
theorem vd_57_70 (E : ac_E) : ac_ok E md_57 70 (o_ald 0 71) := ok_aload_n (E := E) (d := md_57) (pc := 70) (j := 0) dd_57_70
theorem vd_57_71 (E : ac_E) : ac_ok E md_57 71 (o_get 4 0 74) := ok_getf (E := E) (d := md_57) (pc := 71) (ci := 4) (f := 0) (C := RX4) (T := TX4) (N := 12) (ref := RX4) rfl win_4 (by decide) rfl wm_163 dd_57_71
theorem vd_57_74 (E : ac_E) : ac_ok E md_57 74 (o_ild 1 75) := ok_iload_n (E := E) (d := md_57) (pc := 74) (j := 1) dd_57_74
theorem vd_57_75 (E : ac_E) : ac_okr E md_57 md_20 75 3 78 5 := ok_callVN (E := E) (d := md_57) (dz := md_20) (pc := 75) (T := TX3) (N := 3) rfl rfl (by decide) (by decide +kernel) wm_470 wm_55 wm_467 wm_469 wm_13 dd_57_75
theorem va_57 (E : ac_E) (pc : Nat) : ac_V E ac_MDf ac_HDf 57 pc (tb_57 (ac_len E) (ac_xs E) pc) := (ac_node (ac_node (ac_node (ac_node (ac_node (ac_leaf 0 (⟨vd_57_0 E, mn_ald _ _⟩)) (ac_leaf 1 (⟨vd_57_1 E, mn_get _ _ _⟩))) (ac_node (ac_leaf 4 (⟨vd_57_4 E, mn_con _ _⟩)) (ac_node (ac_leaf 5 (ac_Vc0 ((vd_57_5 E).1) (fun _ => rfl))) (ac_leaf 8 (⟨vd_57_8 E, mn_con _ _⟩))))) (ac_node (ac_node (ac_leaf 9 (⟨vd_57_9 E, mn_ist _ _⟩)) (ac_leaf 10 (⟨vd_57_10 E, mn_ild _ _⟩))) (ac_node (ac_leaf 11 (⟨vd_57_11 E, mn_ald _ _⟩)) (ac_node (ac_leaf 12 (⟨vd_57_12 E, mn_get _ _ _⟩)) (ac_leaf 15 (⟨vd_57_15 E, mn_get _ _ _⟩)))))) (ac_node (ac_node (ac_node (ac_leaf 18 (⟨vd_57_18 E, mn_ge _ _⟩)) (ac_leaf 21 (⟨vd_57_21 E, mn_ald _ _⟩))) (ac_node (ac_leaf 22 (⟨vd_57_22 E, mn_get _ _ _⟩)) (ac_node (ac_leaf 25 (⟨vd_57_25 E, mn_ild _ _⟩)) (ac_leaf 26 (⟨vd_57_26 E, mn_ia _⟩))))) (ac_node (ac_node (ac_leaf 27 (⟨vd_57_27 E, mn_eq0 _ _⟩)) (ac_node (ac_leaf 30 (⟨vd_57_30 E, mn_ald _ _⟩)) (ac_leaf 31 (⟨vd_57_31 E, mn_ild _ _⟩)))) (ac_node (ac_leaf 32 (⟨vd_57_32 E, mn_ald _ _⟩)) (ac_node (ac_leaf 33 (⟨vd_57_33 E, mn_get _ _ _⟩)) (ac_leaf 36 (⟨vd_57_36 E, mn_ild _ _⟩))))))) (ac_node (ac_node (ac_node (ac_node (ac_leaf 37 (⟨vd_57_37 E, mn_ia _⟩)) (ac_leaf 38 (⟨vd_57_38 E, mn_ild _ _⟩))) (ac_node (ac_leaf 39 (ac_Vc0 ((vd_57_39 E).1) (fun _ => rfl))) (ac_node (ac_leaf 42 (⟨vd_57_42 E, mn_inc _ _ _⟩)) (ac_leaf 45 (⟨vd_57_45 E, mn_go _⟩))))) (ac_node (ac_node (ac_leaf 48 (⟨vd_57_48 E, mn_ald _ _⟩)) (ac_node (ac_leaf 49 (⟨vd_57_49 E, mn_get _ _ _⟩)) (ac_leaf 52 (⟨vd_57_52 E, mn_ast _ _⟩)))) (ac_node (ac_leaf 53 (⟨vd_57_53 E, mn_ald _ _⟩)) (ac_node (ac_leaf 54 (⟨vd_57_54 E, mn_ald _ _⟩)) (ac_leaf 55 (⟨vd_57_55 E, mn_get _ _ _⟩)))))) (ac_node (ac_node (ac_node (ac_leaf 58 (⟨vd_57_58 E, mn_pur _ _ _⟩)) (ac_leaf 61 (⟨vd_57_61 E, mn_ald _ _⟩))) (ac_node (ac_leaf 62 (⟨vd_57_62 E, mn_ald _ _⟩)) (ac_node (ac_leaf 63 (⟨vd_57_63 E, mn_pur _ _ _⟩)) (ac_leaf 66 (⟨vd_57_66 E, mn_ald _ _⟩))))) (ac_node (ac_node (ac_leaf 67 (⟨vd_57_67 E, mn_get _ _ _⟩)) (ac_node (ac_leaf 70 (⟨vd_57_70 E, mn_ald _ _⟩)) (ac_leaf 71 (⟨vd_57_71 E, mn_get _ _ _⟩)))) (ac_node (ac_leaf 74 (⟨vd_57_74 E, mn_ild _ _⟩)) (ac_node (ac_leaf 75 (ac_Vc0 (vd_57_75 E) (fun _ => rfl))) (ac_leaf 78 (ac_Vr0 dd_57_78 rfl))))))))
theorem vd_58_0 (E : ac_E) : ac_ok E md_58 0 (o_ald 0 1) := ok_aload_n (E := E) (d := md_58) (pc := 0) (j := 0) dd_58_0
theorem vd_58_1 (E : ac_E) : ac_ok E md_58 1 (o_get 4 9 4) := ok_getf (E := E) (d := md_58) (pc := 1) (ci := 4) (f := 9) (C := RX4) (T := TX4) (N := 12) (ref := RX4) rfl win_4 (by decide) rfl wm_172 dd_58_1
theorem vd_58_4 (E : ac_E) : ac_ok E md_58 4 (o_ild 1 5) := ok_iload_n (E := E) (d := md_58) (pc := 4) (j := 1) dd_58_4
theorem vd_58_5 (E : ac_E) : ac_ok E md_58 5 (o_dp2 6) := ok_dup2 (E := E) (d := md_58) (pc := 5) dd_58_5
theorem vd_58_6 (E : ac_E) : ac_ok E md_58 6 (o_ia 7) := ok_iaload (E := E) (d := md_58) (pc := 6) dd_58_6
theorem vd_58_7 (E : ac_E) : ac_ok E md_58 7 (o_ild 2 8) := ok_iload_n (E := E) (d := md_58) (pc := 7) (j := 2) dd_58_7
theorem vd_58_8 (E : ac_E) : ac_ok E md_58 8 (o_con (.int 64) 10) := ok_bipush (E := E) (d := md_58) (pc := 8) dd_58_8 (by decide)
theorem vd_58_10 (E : ac_E) : ac_ok E md_58 10 (o_and 11) := ok_iand (E := E) (d := md_58) (pc := 10) dd_58_10
theorem vd_58_11 (E : ac_E) : ac_ok E md_58 11 (o_or 12) := ok_ior (E := E) (d := md_58) (pc := 11) dd_58_11
theorem vd_58_12 (E : ac_E) : ac_ok E md_58 12 (o_is 13) := ok_iastore (E := E) (d := md_58) (pc := 12) dd_58_12
theorem vd_58_13 (E : ac_E) : ac_ok E md_58 13 (o_con (.int 0) 14) := ok_iconst (E := E) (d := md_58) (pc := 13) dd_58_13 (by decide)
theorem vd_58_14 (E : ac_E) : ac_ok E md_58 14 (o_ist 4 16) := ok_istore (E := E) (d := md_58) (pc := 14) dd_58_14
theorem vd_58_16 (E : ac_E) : ac_ok E md_58 16 (o_ild 4 18) := ok_iload (E := E) (d := md_58) (pc := 16) dd_58_16
theorem vd_58_18 (E : ac_E) : ac_ok E md_58 18 (o_con (.int 6) 20) := ok_bipush (E := E) (d := md_58) (pc := 18) dd_58_18 (by decide)
theorem vd_58_20 (E : ac_E) : ac_ok E md_58 20 (o_ge 62 23) := ok_icmpge (E := E) (d := md_58) (pc := 20) dd_58_20 (by decide)
theorem vd_58_23 (E : ac_E) : ac_ok E md_58 23 (o_ild 2 24) := ok_iload_n (E := E) (d := md_58) (pc := 23) (j := 2) dd_58_23
theorem vd_58_24 (E : ac_E) : ac_ok E md_58 24 (o_ild 4 26) := ok_iload (E := E) (d := md_58) (pc := 24) dd_58_24
theorem vd_58_26 (E : ac_E) : ac_okr E md_58 md_47 26 2 29 0 ∧ ac_okt E md_58 md_47 26 2 0 := ok_callS (E := E) (d := md_58) (dz := md_47) (pc := 26) rfl (by decide) (by decide +kernel) wm_450 wm_50 wm_462 wm_449 dd_58_26
theorem vd_58_29 (E : ac_E) : ac_ok E md_58 29 (o_eq0 56 32) := ok_ifeq (E := E) (d := md_58) (pc := 29) dd_58_29 (by decide)
theorem vd_58_32 (E : ac_E) : ac_ok E md_58 32 (o_ald 0 33) := ok_aload_n (E := E) (d := md_58) (pc := 32) (j := 0) dd_58_32
theorem vd_58_33 (E : ac_E) : ac_ok E md_58 33 (o_get 4 9 36) := ok_getf (E := E) (d := md_58) (pc := 33) (ci := 4) (f := 9) (C := RX4) (T := TX4) (N := 12) (ref := RX4) rfl win_4 (by decide) rfl wm_172 dd_58_33
theorem vd_58_36 (E : ac_E) : ac_ok E md_58 36 (o_ald 0 37) := ok_aload_n (E := E) (d := md_58) (pc := 36) (j := 0) dd_58_36
theorem vd_58_37 (E : ac_E) : ac_ok E md_58 37 (o_get 4 0 40) := ok_getf (E := E) (d := md_58) (pc := 37) (ci := 4) (f := 0) (C := RX4) (T := TX4) (N := 12) (ref := RX4) rfl win_4 (by decide) rfl wm_163 dd_58_37
theorem vd_58_40 (E : ac_E) : ac_ok E md_58 40 (o_ild 1 41) := ok_iload_n (E := E) (d := md_58) (pc := 40) (j := 1) dd_58_40
theorem vd_58_41 (E : ac_E) : ac_ok E md_58 41 (o_ild 4 43) := ok_iload (E := E) (d := md_58) (pc := 41) dd_58_41
theorem vd_58_43 (E : ac_E) : ac_ok E md_58 43 (o_ild 3 44) := ok_iload_n (E := E) (d := md_58) (pc := 43) (j := 3) dd_58_43
theorem vd_58_44 (E : ac_E) : ac_ok E md_58 44 (o_add 45) := ok_iadd (E := E) (d := md_58) (pc := 44) dd_58_44
theorem vd_58_45 (E : ac_E) : ac_okr E md_58 md_14 45 3 48 4 := ok_callVN (E := E) (d := md_58) (dz := md_14) (pc := 45) (T := TX2) (N := 4) rfl rfl (by decide) (by decide +kernel) wm_466 wm_51 wm_463 wm_465 wm_12 dd_58_45
theorem vd_58_48 (E : ac_E) : ac_ok E md_58 48 (o_dp2 49) := ok_dup2 (E := E) (d := md_58) (pc := 48) dd_58_48
theorem vd_58_49 (E : ac_E) : ac_ok E md_58 49 (o_ia 50) := ok_iaload (E := E) (d := md_58) (pc := 49) dd_58_49
theorem vd_58_50 (E : ac_E) : ac_ok E md_58 50 (o_con (.int 1) 51) := ok_iconst (E := E) (d := md_58) (pc := 50) dd_58_50 (by decide)
theorem vd_58_51 (E : ac_E) : ac_ok E md_58 51 (o_ild 4 53) := ok_iload (E := E) (d := md_58) (pc := 51) dd_58_51
theorem vd_58_53 (E : ac_E) : ac_ok E md_58 53 (o_shl 54) := ok_ishl (E := E) (d := md_58) (pc := 53) dd_58_53
theorem vd_58_54 (E : ac_E) : ac_ok E md_58 54 (o_or 55) := ok_ior (E := E) (d := md_58) (pc := 54) dd_58_54
theorem vd_58_55 (E : ac_E) : ac_ok E md_58 55 (o_is 56) := ok_iastore (E := E) (d := md_58) (pc := 55) dd_58_55
theorem vd_58_56 (E : ac_E) : ac_ok E md_58 56 (o_inc 4 1 59) := ok_iinc (E := E) (d := md_58) (pc := 56) dd_58_56 (by decide)
theorem vd_58_59 (E : ac_E) : ac_ok E md_58 59 (o_go 16) := ok_goto (E := E) (d := md_58) (pc := 59) dd_58_59 (by decide)
theorem va_58 (E : ac_E) (pc : Nat) : ac_V E ac_MDf ac_HDf 58 pc (tb_58 (ac_len E) (ac_xs E) pc) := (ac_node (ac_node (ac_node (ac_node (ac_node (ac_leaf 0 (⟨vd_58_0 E, mn_ald _ _⟩)) (ac_leaf 1 (⟨vd_58_1 E, mn_get _ _ _⟩))) (ac_node (ac_leaf 4 (⟨vd_58_4 E, mn_ild _ _⟩)) (ac_leaf 5 (⟨vd_58_5 E, mn_dp2 _⟩)))) (ac_node (ac_node (ac_leaf 6 (⟨vd_58_6 E, mn_ia _⟩)) (ac_leaf 7 (⟨vd_58_7 E, mn_ild _ _⟩))) (ac_node (ac_leaf 8 (⟨vd_58_8 E, mn_con _ _⟩)) (ac_node (ac_leaf 10 (⟨vd_58_10 E, mn_and _⟩)) (ac_leaf 11 (⟨vd_58_11 E, mn_or _⟩)))))) (ac_node (ac_node (ac_node (ac_leaf 12 (⟨vd_58_12 E, mn_is _⟩)) (ac_leaf 13 (⟨vd_58_13 E, mn_con _ _⟩))) (ac_node (ac_leaf 14 (⟨vd_58_14 E, mn_ist _ _⟩)) (ac_node (ac_leaf 16 (⟨vd_58_16 E, mn_ild _ _⟩)) (ac_leaf 18 (⟨vd_58_18 E, mn_con _ _⟩))))) (ac_node (ac_node (ac_leaf 20 (⟨vd_58_20 E, mn_ge _ _⟩)) (ac_leaf 23 (⟨vd_58_23 E, mn_ild _ _⟩))) (ac_node (ac_leaf 24 (⟨vd_58_24 E, mn_ild _ _⟩)) (ac_node (ac_leaf 26 (ac_Vc0 ((vd_58_26 E).1) (fun _ => rfl))) (ac_leaf 29 (⟨vd_58_29 E, mn_eq0 _ _⟩))))))) (ac_node (ac_node (ac_node (ac_node (ac_leaf 32 (⟨vd_58_32 E, mn_ald _ _⟩)) (ac_leaf 33 (⟨vd_58_33 E, mn_get _ _ _⟩))) (ac_node (ac_leaf 36 (⟨vd_58_36 E, mn_ald _ _⟩)) (ac_leaf 37 (⟨vd_58_37 E, mn_get _ _ _⟩)))) (ac_node (ac_node (ac_leaf 40 (⟨vd_58_40 E, mn_ild _ _⟩)) (ac_leaf 41 (⟨vd_58_41 E, mn_ild _ _⟩))) (ac_node (ac_leaf 43 (⟨vd_58_43 E, mn_ild _ _⟩)) (ac_node (ac_leaf 44 (⟨vd_58_44 E, mn_add _⟩)) (ac_leaf 45 (ac_Vc0 (vd_58_45 E) (fun _ => rfl))))))) (ac_node (ac_node (ac_node (ac_leaf 48 (⟨vd_58_48 E, mn_dp2 _⟩)) (ac_leaf 49 (⟨vd_58_49 E, mn_ia _⟩))) (ac_node (ac_leaf 50 (⟨vd_58_50 E, mn_con _ _⟩)) (ac_node (ac_leaf 51 (⟨vd_58_51 E, mn_ild _ _⟩)) (ac_leaf 53 (⟨vd_58_53 E, mn_shl _⟩))))) (ac_node (ac_node (ac_leaf 54 (⟨vd_58_54 E, mn_or _⟩)) (ac_leaf 55 (⟨vd_58_55 E, mn_is _⟩))) (ac_node (ac_leaf 56 (⟨vd_58_56 E, mn_inc _ _ _⟩)) (ac_node (ac_leaf 59 (⟨vd_58_59 E, mn_go _⟩)) (ac_leaf 62 (ac_Vr0 dd_58_62 rfl))))))))
theorem vd_59_0 (E : ac_E) : ac_ok E md_59 0 (o_con (.int 0) 1) := ok_iconst (E := E) (d := md_59) (pc := 0) dd_59_0 (by decide)
theorem vd_59_1 (E : ac_E) : ac_ok E md_59 1 (o_ist 1 2) := ok_istore_n (E := E) (d := md_59) (pc := 1) (j := 1) dd_59_1
theorem vd_59_2 (E : ac_E) : ac_ok E md_59 2 (o_ild 1 3) := ok_iload_n (E := E) (d := md_59) (pc := 2) (j := 1) dd_59_2
theorem vd_59_3 (E : ac_E) : ac_ok E md_59 3 (o_ald 0 4) := ok_aload_n (E := E) (d := md_59) (pc := 3) (j := 0) dd_59_3
theorem vd_59_4 (E : ac_E) : ac_ok E md_59 4 (o_get 4 0 7) := ok_getf (E := E) (d := md_59) (pc := 4) (ci := 4) (f := 0) (C := RX4) (T := TX4) (N := 12) (ref := RX4) rfl win_4 (by decide) rfl wm_163 dd_59_4
theorem vd_59_7 (E : ac_E) : ac_ok E md_59 7 (o_get 2 2 10) := ok_getN (E := E) (d := md_59) (pc := 7) (ci := 2) (f := 2) (C := RX2) (T := TX2) (N := 4) (ref := RX2) rfl win_2 (by decide) rfl wm_98 dd_59_7
theorem vd_59_10 (E : ac_E) : ac_ok E md_59 10 (o_ge 87 13) := ok_icmpge (E := E) (d := md_59) (pc := 10) dd_59_10 (by decide)
theorem vd_59_13 (E : ac_E) : ac_ok E md_59 13 (o_ald 0 14) := ok_aload_n (E := E) (d := md_59) (pc := 13) (j := 0) dd_59_13
theorem vd_59_14 (E : ac_E) : ac_ok E md_59 14 (o_get 4 1 17) := ok_getf (E := E) (d := md_59) (pc := 14) (ci := 4) (f := 1) (C := RX4) (T := TX4) (N := 12) (ref := RX4) rfl win_4 (by decide) rfl wm_164 dd_59_14
theorem vd_59_17 (E : ac_E) : ac_ok E md_59 17 (o_ild 1 18) := ok_iload_n (E := E) (d := md_59) (pc := 17) (j := 1) dd_59_17
theorem vd_59_18 (E : ac_E) : ac_ok E md_59 18 (o_ia 19) := ok_iaload (E := E) (d := md_59) (pc := 18) dd_59_18
theorem vd_59_19 (E : ac_E) : ac_ok E md_59 19 (o_ist 2 20) := ok_istore_n (E := E) (d := md_59) (pc := 19) (j := 2) dd_59_19
theorem vd_59_20 (E : ac_E) : ac_ok E md_59 20 (o_ild 2 21) := ok_iload_n (E := E) (d := md_59) (pc := 20) (j := 2) dd_59_20
theorem vd_59_21 (E : ac_E) : ac_ok E md_59 21 (o_eq0 81 24) := ok_ifeq (E := E) (d := md_59) (pc := 21) dd_59_21 (by decide)
theorem vd_59_24 (E : ac_E) : ac_ok E md_59 24 (o_ald 0 25) := ok_aload_n (E := E) (d := md_59) (pc := 24) (j := 0) dd_59_24
theorem vd_59_25 (E : ac_E) : ac_ok E md_59 25 (o_get 4 8 28) := ok_getf (E := E) (d := md_59) (pc := 25) (ci := 4) (f := 8) (C := RX4) (T := TX4) (N := 12) (ref := RX4) rfl win_4 (by decide) rfl wm_171 dd_59_25
theorem vd_59_28 (E : ac_E) : ac_ok E md_59 28 (o_ild 1 29) := ok_iload_n (E := E) (d := md_59) (pc := 28) (j := 1) dd_59_28
theorem vd_59_29 (E : ac_E) : ac_ok E md_59 29 (o_ia 30) := ok_iaload (E := E) (d := md_59) (pc := 29) dd_59_29
theorem vd_59_30 (E : ac_E) : ac_ok E md_59 30 (o_ist 3 31) := ok_istore_n (E := E) (d := md_59) (pc := 30) (j := 3) dd_59_30
theorem vd_59_31 (E : ac_E) : ac_ok E md_59 31 (o_ald 0 32) := ok_aload_n (E := E) (d := md_59) (pc := 31) (j := 0) dd_59_31
theorem vd_59_32 (E : ac_E) : ac_ok E md_59 32 (o_ild 2 33) := ok_iload_n (E := E) (d := md_59) (pc := 32) (j := 2) dd_59_32
theorem vd_59_33 (E : ac_E) : ac_ok E md_59 33 (o_ild 3 34) := ok_iload_n (E := E) (d := md_59) (pc := 33) (j := 3) dd_59_33
theorem vd_59_34 (E : ac_E) : ac_ok E md_59 34 (o_ald 0 35) := ok_aload_n (E := E) (d := md_59) (pc := 34) (j := 0) dd_59_34
theorem vd_59_35 (E : ac_E) : ac_ok E md_59 35 (o_get 4 2 38) := ok_getf (E := E) (d := md_59) (pc := 35) (ci := 4) (f := 2) (C := RX4) (T := TX4) (N := 12) (ref := RX4) rfl win_4 (by decide) rfl wm_165 dd_59_35
theorem vd_59_38 (E : ac_E) : ac_ok E md_59 38 (o_ild 1 39) := ok_iload_n (E := E) (d := md_59) (pc := 38) (j := 1) dd_59_38
theorem vd_59_39 (E : ac_E) : ac_ok E md_59 39 (o_ia 40) := ok_iaload (E := E) (d := md_59) (pc := 39) dd_59_39
theorem vd_59_40 (E : ac_E) : ac_okr E md_59 md_60 40 4 43 6 ∧ ac_okt E md_59 md_60 40 4 6 := ok_callV (E := E) (d := md_59) (dz := md_60) (pc := 40) (T := TX4) (N := 12) rfl rfl (by decide) (by decide +kernel) wm_479 wm_50 wm_476 wm_478 wm_15 dd_59_40
theorem vd_59_43 (E : ac_E) : ac_ok E md_59 43 (o_ist 4 45) := ok_istore (E := E) (d := md_59) (pc := 43) dd_59_43
theorem vd_59_45 (E : ac_E) : ac_ok E md_59 45 (o_ald 0 46) := ok_aload_n (E := E) (d := md_59) (pc := 45) (j := 0) dd_59_45
theorem vd_59_46 (E : ac_E) : ac_ok E md_59 46 (o_get 4 8 49) := ok_getf (E := E) (d := md_59) (pc := 46) (ci := 4) (f := 8) (C := RX4) (T := TX4) (N := 12) (ref := RX4) rfl win_4 (by decide) rfl wm_171 dd_59_46
theorem vd_59_49 (E : ac_E) : ac_ok E md_59 49 (o_ild 1 50) := ok_iload_n (E := E) (d := md_59) (pc := 49) (j := 1) dd_59_49
theorem vd_59_50 (E : ac_E) : ac_ok E md_59 50 (o_ild 4 52) := ok_iload (E := E) (d := md_59) (pc := 50) dd_59_50
theorem vd_59_52 (E : ac_E) : ac_ok E md_59 52 (o_is 53) := ok_iastore (E := E) (d := md_59) (pc := 52) dd_59_52
theorem vd_59_53 (E : ac_E) : ac_ok E md_59 53 (o_ald 0 54) := ok_aload_n (E := E) (d := md_59) (pc := 53) (j := 0) dd_59_53
theorem vd_59_54 (E : ac_E) : ac_ok E md_59 54 (o_get 4 3 57) := ok_getf (E := E) (d := md_59) (pc := 54) (ci := 4) (f := 3) (C := RX4) (T := TX4) (N := 12) (ref := RX4) rfl win_4 (by decide) rfl wm_166 dd_59_54
theorem vd_59_57 (E : ac_E) : ac_ok E md_59 57 (o_ild 2 58) := ok_iload_n (E := E) (d := md_59) (pc := 57) (j := 2) dd_59_57
theorem vd_59_58 (E : ac_E) : ac_ok E md_59 58 (o_con (.int 1) 59) := ok_iconst (E := E) (d := md_59) (pc := 58) dd_59_58 (by decide)
theorem vd_59_59 (E : ac_E) : ac_ok E md_59 59 (o_sub 60) := ok_isub (E := E) (d := md_59) (pc := 59) dd_59_59
theorem vd_59_60 (E : ac_E) : ac_ok E md_59 60 (o_ild 3 61) := ok_iload_n (E := E) (d := md_59) (pc := 60) (j := 3) dd_59_60
theorem vd_59_61 (E : ac_E) : ac_ok E md_59 61 (o_ild 4 63) := ok_iload (E := E) (d := md_59) (pc := 61) dd_59_61
theorem vd_59_63 (E : ac_E) : ac_okr E md_59 md_8 63 4 66 3 := ok_callVN (E := E) (d := md_59) (dz := md_8) (pc := 63) (T := TX1) (N := 1) rfl rfl (by decide) (by decide +kernel) wm_491 wm_53 wm_488 wm_490 wm_17 dd_59_63
theorem vd_59_66 (E : ac_E) : ac_ok E md_59 66 (o_ild 2 67) := ok_iload_n (E := E) (d := md_59) (pc := 66) (j := 2) dd_59_66
theorem vd_59_67 (E : ac_E) : ac_ok E md_59 67 (o_con (.int 4) 68) := ok_iconst (E := E) (d := md_59) (pc := 67) dd_59_67 (by decide)
theorem vd_59_68 (E : ac_E) : ac_ok E md_59 68 (o_ne 81 71) := ok_icmpne (E := E) (d := md_59) (pc := 68) dd_59_68 (by decide)
theorem vd_59_71 (E : ac_E) : ac_ok E md_59 71 (o_ald 0 72) := ok_aload_n (E := E) (d := md_59) (pc := 71) (j := 0) dd_59_71
theorem vd_59_72 (E : ac_E) : ac_ok E md_59 72 (o_get 4 4 75) := ok_getf (E := E) (d := md_59) (pc := 72) (ci := 4) (f := 4) (C := RX4) (T := TX4) (N := 12) (ref := RX4) rfl win_4 (by decide) rfl wm_167 dd_59_72
theorem vd_59_75 (E : ac_E) : ac_ok E md_59 75 (o_ild 3 76) := ok_iload_n (E := E) (d := md_59) (pc := 75) (j := 3) dd_59_75
theorem vd_59_76 (E : ac_E) : ac_ok E md_59 76 (o_ild 4 78) := ok_iload (E := E) (d := md_59) (pc := 76) dd_59_76
theorem vd_59_78 (E : ac_E) : ac_okr E md_59 md_4 78 3 81 2 := ok_callVN (E := E) (d := md_59) (dz := md_4) (pc := 78) (T := TX0) (N := 4) rfl rfl (by decide) (by decide +kernel) wm_502 wm_54 wm_499 wm_501 wm_18 dd_59_78
theorem vd_59_81 (E : ac_E) : ac_ok E md_59 81 (o_inc 1 1 84) := ok_iinc (E := E) (d := md_59) (pc := 81) dd_59_81 (by decide)
theorem vd_59_84 (E : ac_E) : ac_ok E md_59 84 (o_go 2) := ok_goto (E := E) (d := md_59) (pc := 84) dd_59_84 (by decide)
theorem vd_59_87 (E : ac_E) : ac_ok E md_59 87 (o_ald 0 88) := ok_aload_n (E := E) (d := md_59) (pc := 87) (j := 0) dd_59_87
theorem vd_59_88 (E : ac_E) : ac_ok E md_59 88 (o_get 4 5 91) := ok_getf (E := E) (d := md_59) (pc := 88) (ci := 4) (f := 5) (C := RX4) (T := TX4) (N := 12) (ref := RX4) rfl win_4 (by decide) rfl wm_168 dd_59_88
theorem vd_59_91 (E : ac_E) : ac_ok E md_59 91 (o_ald 0 92) := ok_aload_n (E := E) (d := md_59) (pc := 91) (j := 0) dd_59_91
theorem vd_59_92 (E : ac_E) : ac_ok E md_59 92 (o_get 4 1 95) := ok_getf (E := E) (d := md_59) (pc := 92) (ci := 4) (f := 1) (C := RX4) (T := TX4) (N := 12) (ref := RX4) rfl win_4 (by decide) rfl wm_164 dd_59_92
theorem vd_59_95 (E : ac_E) : ac_okr E md_59 md_21 95 2 98 5 := ok_callVN (E := E) (d := md_59) (dz := md_21) (pc := 95) (T := TX3) (N := 3) rfl rfl (by decide) (by decide +kernel) wm_507 wm_55 wm_504 wm_506 wm_19 dd_59_95
theorem va_59 (E : ac_E) (pc : Nat) : ac_V E ac_MDf ac_HDf 59 pc (tb_59 (ac_len E) (ac_xs E) pc) := (ac_node (ac_node (ac_node (ac_node (ac_node (ac_leaf 0 (⟨vd_59_0 E, mn_con _ _⟩)) (ac_node (ac_leaf 1 (⟨vd_59_1 E, mn_ist _ _⟩)) (ac_leaf 2 (⟨vd_59_2 E, mn_ild _ _⟩)))) (ac_node (ac_node (ac_leaf 3 (⟨vd_59_3 E, mn_ald _ _⟩)) (ac_leaf 4 (⟨vd_59_4 E, mn_get _ _ _⟩))) (ac_node (ac_leaf 7 (⟨vd_59_7 E, mn_get _ _ _⟩)) (ac_leaf 10 (⟨vd_59_10 E, mn_ge _ _⟩))))) (ac_node (ac_node (ac_leaf 13 (⟨vd_59_13 E, mn_ald _ _⟩)) (ac_node (ac_leaf 14 (⟨vd_59_14 E, mn_get _ _ _⟩)) (ac_leaf 17 (⟨vd_59_17 E, mn_ild _ _⟩)))) (ac_node (ac_node (ac_leaf 18 (⟨vd_59_18 E, mn_ia _⟩)) (ac_leaf 19 (⟨vd_59_19 E, mn_ist _ _⟩))) (ac_node (ac_leaf 20 (⟨vd_59_20 E, mn_ild _ _⟩)) (ac_leaf 21 (⟨vd_59_21 E, mn_eq0 _ _⟩)))))) (ac_node (ac_node (ac_node (ac_leaf 24 (⟨vd_59_24 E, mn_ald _ _⟩)) (ac_node (ac_leaf 25 (⟨vd_59_25 E, mn_get _ _ _⟩)) (ac_leaf 28 (⟨vd_59_28 E, mn_ild _ _⟩)))) (ac_node (ac_node (ac_leaf 29 (⟨vd_59_29 E, mn_ia _⟩)) (ac_leaf 30 (⟨vd_59_30 E, mn_ist _ _⟩))) (ac_node (ac_leaf 31 (⟨vd_59_31 E, mn_ald _ _⟩)) (ac_leaf 32 (⟨vd_59_32 E, mn_ild _ _⟩))))) (ac_node (ac_node (ac_leaf 33 (⟨vd_59_33 E, mn_ild _ _⟩)) (ac_node (ac_leaf 34 (⟨vd_59_34 E, mn_ald _ _⟩)) (ac_leaf 35 (⟨vd_59_35 E, mn_get _ _ _⟩)))) (ac_node (ac_node (ac_leaf 38 (⟨vd_59_38 E, mn_ild _ _⟩)) (ac_leaf 39 (⟨vd_59_39 E, mn_ia _⟩))) (ac_node (ac_leaf 40 (ac_Vc0 ((vd_59_40 E).1) (fun _ => rfl))) (ac_leaf 43 (⟨vd_59_43 E, mn_ist _ _⟩))))))) (ac_node (ac_node (ac_node (ac_node (ac_leaf 45 (⟨vd_59_45 E, mn_ald _ _⟩)) (ac_node (ac_leaf 46 (⟨vd_59_46 E, mn_get _ _ _⟩)) (ac_leaf 49 (⟨vd_59_49 E, mn_ild _ _⟩)))) (ac_node (ac_node (ac_leaf 50 (⟨vd_59_50 E, mn_ild _ _⟩)) (ac_leaf 52 (⟨vd_59_52 E, mn_is _⟩))) (ac_node (ac_leaf 53 (⟨vd_59_53 E, mn_ald _ _⟩)) (ac_leaf 54 (⟨vd_59_54 E, mn_get _ _ _⟩))))) (ac_node (ac_node (ac_leaf 57 (⟨vd_59_57 E, mn_ild _ _⟩)) (ac_node (ac_leaf 58 (⟨vd_59_58 E, mn_con _ _⟩)) (ac_leaf 59 (⟨vd_59_59 E, mn_sub _⟩)))) (ac_node (ac_node (ac_leaf 60 (⟨vd_59_60 E, mn_ild _ _⟩)) (ac_leaf 61 (⟨vd_59_61 E, mn_ild _ _⟩))) (ac_node (ac_leaf 63 (ac_Vc0 (vd_59_63 E) (fun _ => rfl))) (ac_leaf 66 (⟨vd_59_66 E, mn_ild _ _⟩)))))) (ac_node (ac_node (ac_node (ac_leaf 67 (⟨vd_59_67 E, mn_con _ _⟩)) (ac_node (ac_leaf 68 (⟨vd_59_68 E, mn_ne _ _⟩)) (ac_leaf 71 (⟨vd_59_71 E, mn_ald _ _⟩)))) (ac_node (ac_node (ac_leaf 72 (⟨vd_59_72 E, mn_get _ _ _⟩)) (ac_leaf 75 (⟨vd_59_75 E, mn_ild _ _⟩))) (ac_node (ac_leaf 76 (⟨vd_59_76 E, mn_ild _ _⟩)) (ac_leaf 78 (ac_Vc0 (vd_59_78 E) (fun _ => rfl)))))) (ac_node (ac_node (ac_node (ac_leaf 81 (⟨vd_59_81 E, mn_inc _ _ _⟩)) (ac_leaf 84 (⟨vd_59_84 E, mn_go _⟩))) (ac_node (ac_leaf 87 (⟨vd_59_87 E, mn_ald _ _⟩)) (ac_leaf 88 (⟨vd_59_88 E, mn_get _ _ _⟩)))) (ac_node (ac_node (ac_leaf 91 (⟨vd_59_91 E, mn_ald _ _⟩)) (ac_leaf 92 (⟨vd_59_92 E, mn_get _ _ _⟩))) (ac_node (ac_leaf 95 (ac_Vc0 (vd_59_95 E) (fun _ => rfl))) (ac_leaf 98 (ac_Vr0 dd_59_98 rfl))))))))
theorem vd_60_0 (E : ac_E) : ac_ok E md_60 0 (o_ild 1 1) := ok_iload_n (E := E) (d := md_60) (pc := 0) (j := 1) dd_60_0
theorem vd_60_1 (E : ac_E) : ac_ok E md_60 1 (o_con (.int 3) 2) := ok_iconst (E := E) (d := md_60) (pc := 1) dd_60_1 (by decide)
theorem vd_60_2 (E : ac_E) : ac_ok E md_60 2 (o_ne 7 5) := ok_icmpne (E := E) (d := md_60) (pc := 2) dd_60_2 (by decide)
theorem vd_60_5 (E : ac_E) : ac_ok E md_60 5 (o_con (.int 0) 6) := ok_iconst (E := E) (d := md_60) (pc := 5) dd_60_5 (by decide)
theorem vd_60_7 (E : ac_E) : ac_ok E md_60 7 (o_ild 1 8) := ok_iload_n (E := E) (d := md_60) (pc := 7) (j := 1) dd_60_7
theorem vd_60_8 (E : ac_E) : ac_ok E md_60 8 (o_con (.int 2) 9) := ok_iconst (E := E) (d := md_60) (pc := 8) dd_60_8 (by decide)
theorem vd_60_9 (E : ac_E) : ac_ok E md_60 9 (o_ne 21 12) := ok_icmpne (E := E) (d := md_60) (pc := 9) dd_60_9 (by decide)
theorem vd_60_12 (E : ac_E) : ac_ok E md_60 12 (o_ald 0 13) := ok_aload_n (E := E) (d := md_60) (pc := 12) (j := 0) dd_60_12
theorem vd_60_13 (E : ac_E) : ac_ok E md_60 13 (o_ild 2 14) := ok_iload_n (E := E) (d := md_60) (pc := 13) (j := 2) dd_60_13
theorem vd_60_14 (E : ac_E) : ac_ok E md_60 14 (o_ild 3 15) := ok_iload_n (E := E) (d := md_60) (pc := 14) (j := 3) dd_60_14
theorem vd_60_15 (E : ac_E) : ac_okr E md_60 md_61 15 3 18 6 ∧ ac_okt E md_60 md_61 15 3 6 := ok_callV (E := E) (d := md_60) (dz := md_61) (pc := 15) (T := TX4) (N := 12) rfl rfl (by decide) (by decide +kernel) wm_483 wm_50 wm_480 wm_482 wm_16 dd_60_15
theorem vd_60_18 (E : ac_E) : ac_ok E md_60 18 (o_go 25) := ok_goto (E := E) (d := md_60) (pc := 18) dd_60_18 (by decide)
theorem vd_60_21 (E : ac_E) : ac_ok E md_60 21 (o_ild 2 22) := ok_iload_n (E := E) (d := md_60) (pc := 21) (j := 2) dd_60_21
theorem vd_60_22 (E : ac_E) : ac_okr E md_60 md_50 22 1 25 0 ∧ ac_okt E md_60 md_50 22 1 0 := ok_callS (E := E) (d := md_60) (dz := md_50) (pc := 22) rfl (by decide) (by decide +kernel) wm_487 wm_50 wm_485 wm_486 dd_60_22
theorem va_60 (E : ac_E) (pc : Nat) : ac_V E ac_MDf ac_HDf 60 pc (tb_60 (ac_len E) (ac_xs E) pc) := (ac_node (ac_node (ac_node (ac_node (ac_leaf 0 (⟨vd_60_0 E, mn_ild _ _⟩)) (ac_leaf 1 (⟨vd_60_1 E, mn_con _ _⟩))) (ac_node (ac_leaf 2 (⟨vd_60_2 E, mn_ne _ _⟩)) (ac_leaf 5 (⟨vd_60_5 E, mn_con _ _⟩)))) (ac_node (ac_node (ac_leaf 6 (ac_Vr1 dd_60_6 rfl)) (ac_leaf 7 (⟨vd_60_7 E, mn_ild _ _⟩))) (ac_node (ac_leaf 8 (⟨vd_60_8 E, mn_con _ _⟩)) (ac_leaf 9 (⟨vd_60_9 E, mn_ne _ _⟩))))) (ac_node (ac_node (ac_node (ac_leaf 12 (⟨vd_60_12 E, mn_ald _ _⟩)) (ac_leaf 13 (⟨vd_60_13 E, mn_ild _ _⟩))) (ac_node (ac_leaf 14 (⟨vd_60_14 E, mn_ild _ _⟩)) (ac_leaf 15 (ac_Vc0 ((vd_60_15 E).1) (fun _ => rfl))))) (ac_node (ac_node (ac_leaf 18 (⟨vd_60_18 E, mn_go _⟩)) (ac_leaf 21 (⟨vd_60_21 E, mn_ild _ _⟩))) (ac_node (ac_leaf 22 (ac_Vc0 ((vd_60_22 E).1) (fun _ => rfl))) (ac_leaf 25 (ac_Vr1 dd_60_25 rfl))))))
theorem vd_61_0 (E : ac_E) : ac_ok E md_61 0 (o_ild 1 1) := ok_iload_n (E := E) (d := md_61) (pc := 0) (j := 1) dd_61_0
theorem vd_61_1 (E : ac_E) : ac_ok E md_61 1 (o_ist 3 2) := ok_istore_n (E := E) (d := md_61) (pc := 1) (j := 3) dd_61_1
theorem vd_61_2 (E : ac_E) : ac_ok E md_61 2 (o_con (.int 0) 3) := ok_iconst (E := E) (d := md_61) (pc := 2) dd_61_2 (by decide)
theorem vd_61_3 (E : ac_E) : ac_ok E md_61 3 (o_ist 4 5) := ok_istore (E := E) (d := md_61) (pc := 3) dd_61_3
theorem vd_61_5 (E : ac_E) : ac_ok E md_61 5 (o_ild 4 7) := ok_iload (E := E) (d := md_61) (pc := 5) dd_61_5
theorem vd_61_7 (E : ac_E) : ac_ok E md_61 7 (o_con (.int 7) 9) := ok_bipush (E := E) (d := md_61) (pc := 7) dd_61_7 (by decide)
theorem vd_61_9 (E : ac_E) : ac_ok E md_61 9 (o_ge 55 12) := ok_icmpge (E := E) (d := md_61) (pc := 9) dd_61_9 (by decide)
theorem vd_61_12 (E : ac_E) : ac_ok E md_61 12 (o_ald 0 13) := ok_aload_n (E := E) (d := md_61) (pc := 12) (j := 0) dd_61_12
theorem vd_61_13 (E : ac_E) : ac_ok E md_61 13 (o_ald 0 14) := ok_aload_n (E := E) (d := md_61) (pc := 13) (j := 0) dd_61_13
theorem vd_61_14 (E : ac_E) : ac_ok E md_61 14 (o_get 4 11 17) := ok_getf (E := E) (d := md_61) (pc := 14) (ci := 4) (f := 11) (C := RX4) (T := TX4) (N := 12) (ref := RX4) rfl win_4 (by decide) rfl wm_174 dd_61_14
theorem vd_61_17 (E : ac_E) : ac_ok E md_61 17 (o_con (.int 1103515245) 19) := ok_ldc (E := E) (d := md_61) (pc := 17) dd_61_17 wm_484
theorem vd_61_19 (E : ac_E) : ac_ok E md_61 19 (o_mul 20) := ok_imul (E := E) (d := md_61) (pc := 19) dd_61_19
theorem vd_61_20 (E : ac_E) : ac_ok E md_61 20 (o_con (.int 12345) 23) := ok_sipush (E := E) (d := md_61) (pc := 20) dd_61_20 (by decide)
theorem vd_61_23 (E : ac_E) : ac_ok E md_61 23 (o_add 24) := ok_iadd (E := E) (d := md_61) (pc := 23) dd_61_23
theorem vd_61_24 (E : ac_E) : ac_ok E md_61 24 (o_put 4 11 27) := ok_putf (E := E) (d := md_61) (pc := 24) (ci := 4) (f := 11) (C := RX4) (T := TX4) (N := 12) (ref := RX4) rfl win_4 (by decide) rfl tyX4 tyX4_ok nmX4 (by decide +kernel) rfl wm_174 dd_61_24
theorem vd_61_27 (E : ac_E) : ac_ok E md_61 27 (o_ald 0 28) := ok_aload_n (E := E) (d := md_61) (pc := 27) (j := 0) dd_61_27
theorem vd_61_28 (E : ac_E) : ac_ok E md_61 28 (o_get 4 11 31) := ok_getf (E := E) (d := md_61) (pc := 28) (ci := 4) (f := 11) (C := RX4) (T := TX4) (N := 12) (ref := RX4) rfl win_4 (by decide) rfl wm_174 dd_61_28
theorem vd_61_31 (E : ac_E) : ac_ok E md_61 31 (o_con (.int 16) 33) := ok_bipush (E := E) (d := md_61) (pc := 31) dd_61_31 (by decide)
theorem vd_61_33 (E : ac_E) : ac_ok E md_61 33 (o_ush 34) := ok_iushr (E := E) (d := md_61) (pc := 33) dd_61_33
theorem vd_61_34 (E : ac_E) : ac_ok E md_61 34 (o_con (.int 255) 37) := ok_sipush (E := E) (d := md_61) (pc := 34) dd_61_34 (by decide)
theorem vd_61_37 (E : ac_E) : ac_ok E md_61 37 (o_and 38) := ok_iand (E := E) (d := md_61) (pc := 37) dd_61_37
theorem vd_61_38 (E : ac_E) : ac_ok E md_61 38 (o_ild 2 39) := ok_iload_n (E := E) (d := md_61) (pc := 38) (j := 2) dd_61_38
theorem vd_61_39 (E : ac_E) : ac_ok E md_61 39 (o_ge 49 42) := ok_icmpge (E := E) (d := md_61) (pc := 39) dd_61_39 (by decide)
theorem vd_61_42 (E : ac_E) : ac_ok E md_61 42 (o_ild 3 43) := ok_iload_n (E := E) (d := md_61) (pc := 42) (j := 3) dd_61_42
theorem vd_61_43 (E : ac_E) : ac_ok E md_61 43 (o_con (.int 1) 44) := ok_iconst (E := E) (d := md_61) (pc := 43) dd_61_43 (by decide)
theorem vd_61_44 (E : ac_E) : ac_ok E md_61 44 (o_ild 4 46) := ok_iload (E := E) (d := md_61) (pc := 44) dd_61_44
theorem vd_61_46 (E : ac_E) : ac_ok E md_61 46 (o_shl 47) := ok_ishl (E := E) (d := md_61) (pc := 46) dd_61_46
theorem vd_61_47 (E : ac_E) : ac_ok E md_61 47 (o_or 48) := ok_ior (E := E) (d := md_61) (pc := 47) dd_61_47
theorem vd_61_48 (E : ac_E) : ac_ok E md_61 48 (o_ist 3 49) := ok_istore_n (E := E) (d := md_61) (pc := 48) (j := 3) dd_61_48
theorem vd_61_49 (E : ac_E) : ac_ok E md_61 49 (o_inc 4 1 52) := ok_iinc (E := E) (d := md_61) (pc := 49) dd_61_49 (by decide)
theorem vd_61_52 (E : ac_E) : ac_ok E md_61 52 (o_go 5) := ok_goto (E := E) (d := md_61) (pc := 52) dd_61_52 (by decide)
theorem vd_61_55 (E : ac_E) : ac_ok E md_61 55 (o_ild 3 56) := ok_iload_n (E := E) (d := md_61) (pc := 55) (j := 3) dd_61_55
theorem va_61 (E : ac_E) (pc : Nat) : ac_V E ac_MDf ac_HDf 61 pc (tb_61 (ac_len E) (ac_xs E) pc) := (ac_node (ac_node (ac_node (ac_node (ac_node (ac_leaf 0 (⟨vd_61_0 E, mn_ild _ _⟩)) (ac_leaf 1 (⟨vd_61_1 E, mn_ist _ _⟩))) (ac_node (ac_leaf 2 (⟨vd_61_2 E, mn_con _ _⟩)) (ac_leaf 3 (⟨vd_61_3 E, mn_ist _ _⟩)))) (ac_node (ac_node (ac_leaf 5 (⟨vd_61_5 E, mn_ild _ _⟩)) (ac_leaf 7 (⟨vd_61_7 E, mn_con _ _⟩))) (ac_node (ac_leaf 9 (⟨vd_61_9 E, mn_ge _ _⟩)) (ac_leaf 12 (⟨vd_61_12 E, mn_ald _ _⟩))))) (ac_node (ac_node (ac_node (ac_leaf 13 (⟨vd_61_13 E, mn_ald _ _⟩)) (ac_leaf 14 (⟨vd_61_14 E, mn_get _ _ _⟩))) (ac_node (ac_leaf 17 (⟨vd_61_17 E, mn_con _ _⟩)) (ac_leaf 19 (⟨vd_61_19 E, mn_mul _⟩)))) (ac_node (ac_node (ac_leaf 20 (⟨vd_61_20 E, mn_con _ _⟩)) (ac_leaf 23 (⟨vd_61_23 E, mn_add _⟩))) (ac_node (ac_leaf 24 (⟨vd_61_24 E, mn_put _ _ _⟩)) (ac_leaf 27 (⟨vd_61_27 E, mn_ald _ _⟩)))))) (ac_node (ac_node (ac_node (ac_node (ac_leaf 28 (⟨vd_61_28 E, mn_get _ _ _⟩)) (ac_leaf 31 (⟨vd_61_31 E, mn_con _ _⟩))) (ac_node (ac_leaf 33 (⟨vd_61_33 E, mn_ush _⟩)) (ac_leaf 34 (⟨vd_61_34 E, mn_con _ _⟩)))) (ac_node (ac_node (ac_leaf 37 (⟨vd_61_37 E, mn_and _⟩)) (ac_leaf 38 (⟨vd_61_38 E, mn_ild _ _⟩))) (ac_node (ac_leaf 39 (⟨vd_61_39 E, mn_ge _ _⟩)) (ac_leaf 42 (⟨vd_61_42 E, mn_ild _ _⟩))))) (ac_node (ac_node (ac_node (ac_leaf 43 (⟨vd_61_43 E, mn_con _ _⟩)) (ac_leaf 44 (⟨vd_61_44 E, mn_ild _ _⟩))) (ac_node (ac_leaf 46 (⟨vd_61_46 E, mn_shl _⟩)) (ac_leaf 47 (⟨vd_61_47 E, mn_or _⟩)))) (ac_node (ac_node (ac_leaf 48 (⟨vd_61_48 E, mn_ist _ _⟩)) (ac_leaf 49 (⟨vd_61_49 E, mn_inc _ _ _⟩))) (ac_node (ac_leaf 52 (⟨vd_61_52 E, mn_go _⟩)) (ac_node (ac_leaf 55 (⟨vd_61_55 E, mn_ild _ _⟩)) (ac_leaf 56 (ac_Vr1 dd_61_56 rfl))))))))
theorem vd_62_0 (E : ac_E) : ac_ok E md_62 0 (o_ald 0 1) := ok_aload_n (E := E) (d := md_62) (pc := 0) (j := 0) dd_62_0
theorem vd_62_1 (E : ac_E) : ac_ok E md_62 1 (o_get 4 4 4) := ok_getf (E := E) (d := md_62) (pc := 1) (ci := 4) (f := 4) (C := RX4) (T := TX4) (N := 12) (ref := RX4) rfl win_4 (by decide) rfl wm_167 dd_62_1
theorem vd_62_4 (E : ac_E) : ac_okr E md_62 md_5 4 1 7 2 := ok_callVN (E := E) (d := md_62) (dz := md_5) (pc := 4) (T := TX0) (N := 4) rfl rfl (by decide) (by decide +kernel) wm_515 wm_54 wm_512 wm_514 wm_21 dd_62_4
theorem vd_62_7 (E : ac_E) : ac_ok E md_62 7 (o_ist 1 8) := ok_istore_n (E := E) (d := md_62) (pc := 7) (j := 1) dd_62_7
theorem vd_62_8 (E : ac_E) : ac_ok E md_62 8 (o_ild 1 9) := ok_iload_n (E := E) (d := md_62) (pc := 8) (j := 1) dd_62_8
theorem vd_62_9 (E : ac_E) : ac_ok E md_62 9 (o_con (.int (-1)) 10) := ok_iconst (E := E) (d := md_62) (pc := 9) dd_62_9 (by decide)
theorem vd_62_10 (E : ac_E) : ac_ok E md_62 10 (o_eq 34 13) := ok_icmpeq (E := E) (d := md_62) (pc := 10) dd_62_10 (by decide)
theorem vd_62_13 (E : ac_E) : ac_ok E md_62 13 (o_ald 0 14) := ok_aload_n (E := E) (d := md_62) (pc := 13) (j := 0) dd_62_13
theorem vd_62_14 (E : ac_E) : ac_ok E md_62 14 (o_ild 1 15) := ok_iload_n (E := E) (d := md_62) (pc := 14) (j := 1) dd_62_14
theorem vd_62_15 (E : ac_E) : ac_okr E md_62 md_63 15 2 18 6 ∧ ac_okt E md_62 md_63 15 2 6 := ok_callV (E := E) (d := md_62) (dz := md_63) (pc := 15) (T := TX4) (N := 12) rfl rfl (by decide) (by decide +kernel) wm_523 wm_50 wm_520 wm_522 wm_22 dd_62_15
theorem vd_62_18 (E : ac_E) : ac_ok E md_62 18 (o_eq0 34 21) := ok_ifeq (E := E) (d := md_62) (pc := 18) dd_62_18 (by decide)
theorem vd_62_21 (E : ac_E) : ac_ok E md_62 21 (o_ald 0 22) := ok_aload_n (E := E) (d := md_62) (pc := 21) (j := 0) dd_62_21
theorem vd_62_22 (E : ac_E) : ac_ok E md_62 22 (o_ild 1 23) := ok_iload_n (E := E) (d := md_62) (pc := 22) (j := 1) dd_62_22
theorem vd_62_23 (E : ac_E) : ac_okr E md_62 md_64 23 2 26 6 ∧ ac_okt E md_62 md_64 23 2 6 := ok_callV (E := E) (d := md_62) (dz := md_64) (pc := 23) (T := TX4) (N := 12) rfl rfl (by decide) (by decide +kernel) wm_527 wm_50 wm_524 wm_526 wm_23 dd_62_23
theorem vd_62_26 (E : ac_E) : ac_ok E md_62 26 (o_ald 0 27) := ok_aload_n (E := E) (d := md_62) (pc := 26) (j := 0) dd_62_26
theorem vd_62_27 (E : ac_E) : ac_ok E md_62 27 (o_get 4 4 30) := ok_getf (E := E) (d := md_62) (pc := 27) (ci := 4) (f := 4) (C := RX4) (T := TX4) (N := 12) (ref := RX4) rfl win_4 (by decide) rfl wm_167 dd_62_27
theorem vd_62_30 (E : ac_E) : ac_ok E md_62 30 (o_ild 1 31) := ok_iload_n (E := E) (d := md_62) (pc := 30) (j := 1) dd_62_30
theorem vd_62_31 (E : ac_E) : ac_okr E md_62 md_6 31 2 34 2 := ok_callVN (E := E) (d := md_62) (dz := md_6) (pc := 31) (T := TX0) (N := 4) rfl rfl (by decide) (by decide +kernel) wm_539 wm_54 wm_536 wm_538 wm_26 dd_62_31
theorem va_62 (E : ac_E) (pc : Nat) : ac_V E ac_MDf ac_HDf 62 pc (tb_62 (ac_len E) (ac_xs E) pc) := (ac_node (ac_node (ac_node (ac_node (ac_leaf 0 (⟨vd_62_0 E, mn_ald _ _⟩)) (ac_leaf 1 (⟨vd_62_1 E, mn_get _ _ _⟩))) (ac_node (ac_leaf 4 (ac_Vc0 (vd_62_4 E) (fun _ => rfl))) (ac_leaf 7 (⟨vd_62_7 E, mn_ist _ _⟩)))) (ac_node (ac_node (ac_leaf 8 (⟨vd_62_8 E, mn_ild _ _⟩)) (ac_leaf 9 (⟨vd_62_9 E, mn_con _ _⟩))) (ac_node (ac_leaf 10 (⟨vd_62_10 E, mn_eq _ _⟩)) (ac_node (ac_leaf 13 (⟨vd_62_13 E, mn_ald _ _⟩)) (ac_leaf 14 (⟨vd_62_14 E, mn_ild _ _⟩)))))) (ac_node (ac_node (ac_node (ac_leaf 15 (ac_Vc0 ((vd_62_15 E).1) (fun _ => rfl))) (ac_leaf 18 (⟨vd_62_18 E, mn_eq0 _ _⟩))) (ac_node (ac_leaf 21 (⟨vd_62_21 E, mn_ald _ _⟩)) (ac_node (ac_leaf 22 (⟨vd_62_22 E, mn_ild _ _⟩)) (ac_leaf 23 (ac_Vc0 ((vd_62_23 E).1) (fun _ => rfl)))))) (ac_node (ac_node (ac_leaf 26 (⟨vd_62_26 E, mn_ald _ _⟩)) (ac_leaf 27 (⟨vd_62_27 E, mn_get _ _ _⟩))) (ac_node (ac_leaf 30 (⟨vd_62_30 E, mn_ild _ _⟩)) (ac_node (ac_leaf 31 (ac_Vc0 (vd_62_31 E) (fun _ => rfl))) (ac_leaf 34 (ac_Vr0 dd_62_34 rfl)))))))
theorem vd_63_0 (E : ac_E) : ac_ok E md_63 0 (o_con (.int 0) 1) := ok_iconst (E := E) (d := md_63) (pc := 0) dd_63_0 (by decide)
theorem vd_63_1 (E : ac_E) : ac_ok E md_63 1 (o_ist 2 2) := ok_istore_n (E := E) (d := md_63) (pc := 1) (j := 2) dd_63_1
theorem vd_63_2 (E : ac_E) : ac_ok E md_63 2 (o_con (.int 0) 3) := ok_iconst (E := E) (d := md_63) (pc := 2) dd_63_2 (by decide)
theorem vd_63_3 (E : ac_E) : ac_ok E md_63 3 (o_ist 3 4) := ok_istore_n (E := E) (d := md_63) (pc := 3) (j := 3) dd_63_3
theorem vd_63_4 (E : ac_E) : ac_ok E md_63 4 (o_ild 3 5) := ok_iload_n (E := E) (d := md_63) (pc := 4) (j := 3) dd_63_4
theorem vd_63_5 (E : ac_E) : ac_ok E md_63 5 (o_ald 0 6) := ok_aload_n (E := E) (d := md_63) (pc := 5) (j := 0) dd_63_5
theorem vd_63_6 (E : ac_E) : ac_ok E md_63 6 (o_get 4 0 9) := ok_getf (E := E) (d := md_63) (pc := 6) (ci := 4) (f := 0) (C := RX4) (T := TX4) (N := 12) (ref := RX4) rfl win_4 (by decide) rfl wm_163 dd_63_6
theorem vd_63_9 (E : ac_E) : ac_ok E md_63 9 (o_get 2 2 12) := ok_getN (E := E) (d := md_63) (pc := 9) (ci := 2) (f := 2) (C := RX2) (T := TX2) (N := 4) (ref := RX2) rfl win_2 (by decide) rfl wm_98 dd_63_9
theorem vd_63_12 (E : ac_E) : ac_ok E md_63 12 (o_ge 62 15) := ok_icmpge (E := E) (d := md_63) (pc := 12) dd_63_12 (by decide)
theorem vd_63_15 (E : ac_E) : ac_ok E md_63 15 (o_ald 0 16) := ok_aload_n (E := E) (d := md_63) (pc := 15) (j := 0) dd_63_15
theorem vd_63_16 (E : ac_E) : ac_ok E md_63 16 (o_get 4 1 19) := ok_getf (E := E) (d := md_63) (pc := 16) (ci := 4) (f := 1) (C := RX4) (T := TX4) (N := 12) (ref := RX4) rfl win_4 (by decide) rfl wm_164 dd_63_16
theorem vd_63_19 (E : ac_E) : ac_ok E md_63 19 (o_ild 3 20) := ok_iload_n (E := E) (d := md_63) (pc := 19) (j := 3) dd_63_19
theorem vd_63_20 (E : ac_E) : ac_ok E md_63 20 (o_ia 21) := ok_iaload (E := E) (d := md_63) (pc := 20) dd_63_20
theorem vd_63_21 (E : ac_E) : ac_ok E md_63 21 (o_con (.int 4) 22) := ok_iconst (E := E) (d := md_63) (pc := 21) dd_63_21 (by decide)
theorem vd_63_22 (E : ac_E) : ac_ok E md_63 22 (o_ne 56 25) := ok_icmpne (E := E) (d := md_63) (pc := 22) dd_63_22 (by decide)
theorem vd_63_25 (E : ac_E) : ac_ok E md_63 25 (o_con (.int 1) 26) := ok_iconst (E := E) (d := md_63) (pc := 25) dd_63_25 (by decide)
theorem vd_63_26 (E : ac_E) : ac_ok E md_63 26 (o_ist 2 27) := ok_istore_n (E := E) (d := md_63) (pc := 26) (j := 2) dd_63_26
theorem vd_63_27 (E : ac_E) : ac_ok E md_63 27 (o_ald 0 28) := ok_aload_n (E := E) (d := md_63) (pc := 27) (j := 0) dd_63_27
theorem vd_63_28 (E : ac_E) : ac_ok E md_63 28 (o_get 4 1 31) := ok_getf (E := E) (d := md_63) (pc := 28) (ci := 4) (f := 1) (C := RX4) (T := TX4) (N := 12) (ref := RX4) rfl win_4 (by decide) rfl wm_164 dd_63_28
theorem vd_63_31 (E : ac_E) : ac_ok E md_63 31 (o_ald 0 32) := ok_aload_n (E := E) (d := md_63) (pc := 31) (j := 0) dd_63_31
theorem vd_63_32 (E : ac_E) : ac_ok E md_63 32 (o_get 4 0 35) := ok_getf (E := E) (d := md_63) (pc := 32) (ci := 4) (f := 0) (C := RX4) (T := TX4) (N := 12) (ref := RX4) rfl win_4 (by decide) rfl wm_163 dd_63_32
theorem vd_63_35 (E : ac_E) : ac_ok E md_63 35 (o_ild 3 36) := ok_iload_n (E := E) (d := md_63) (pc := 35) (j := 3) dd_63_35
theorem vd_63_36 (E : ac_E) : ac_ok E md_63 36 (o_ild 1 37) := ok_iload_n (E := E) (d := md_63) (pc := 36) (j := 1) dd_63_36
theorem vd_63_37 (E : ac_E) : ac_okr E md_63 md_14 37 3 40 4 := ok_callVN (E := E) (d := md_63) (dz := md_14) (pc := 37) (T := TX2) (N := 4) rfl rfl (by decide) (by decide +kernel) wm_466 wm_51 wm_463 wm_465 wm_12 dd_63_37
theorem vd_63_40 (E : ac_E) : ac_ok E md_63 40 (o_ia 41) := ok_iaload (E := E) (d := md_63) (pc := 40) dd_63_40
theorem vd_63_41 (E : ac_E) : ac_ok E md_63 41 (o_ist 4 43) := ok_istore (E := E) (d := md_63) (pc := 41) dd_63_41
theorem vd_63_43 (E : ac_E) : ac_ok E md_63 43 (o_ild 4 45) := ok_iload (E := E) (d := md_63) (pc := 43) dd_63_43
theorem vd_63_45 (E : ac_E) : ac_ok E md_63 45 (o_eq0 56 48) := ok_ifeq (E := E) (d := md_63) (pc := 45) dd_63_45 (by decide)
theorem vd_63_48 (E : ac_E) : ac_ok E md_63 48 (o_ild 4 50) := ok_iload (E := E) (d := md_63) (pc := 48) dd_63_48
theorem vd_63_50 (E : ac_E) : ac_ok E md_63 50 (o_con (.int 4) 51) := ok_iconst (E := E) (d := md_63) (pc := 50) dd_63_50 (by decide)
theorem vd_63_51 (E : ac_E) : ac_ok E md_63 51 (o_eq 56 54) := ok_icmpeq (E := E) (d := md_63) (pc := 51) dd_63_51 (by decide)
theorem vd_63_54 (E : ac_E) : ac_ok E md_63 54 (o_con (.int 0) 55) := ok_iconst (E := E) (d := md_63) (pc := 54) dd_63_54 (by decide)
theorem vd_63_56 (E : ac_E) : ac_ok E md_63 56 (o_inc 3 1 59) := ok_iinc (E := E) (d := md_63) (pc := 56) dd_63_56 (by decide)
theorem vd_63_59 (E : ac_E) : ac_ok E md_63 59 (o_go 4) := ok_goto (E := E) (d := md_63) (pc := 59) dd_63_59 (by decide)
theorem vd_63_62 (E : ac_E) : ac_ok E md_63 62 (o_ild 2 63) := ok_iload_n (E := E) (d := md_63) (pc := 62) (j := 2) dd_63_62
theorem va_63 (E : ac_E) (pc : Nat) : ac_V E ac_MDf ac_HDf 63 pc (tb_63 (ac_len E) (ac_xs E) pc) := (ac_node (ac_node (ac_node (ac_node (ac_node (ac_leaf 0 (⟨vd_63_0 E, mn_con _ _⟩)) (ac_leaf 1 (⟨vd_63_1 E, mn_ist _ _⟩))) (ac_node (ac_leaf 2 (⟨vd_63_2 E, mn_con _ _⟩)) (ac_leaf 3 (⟨vd_63_3 E, mn_ist _ _⟩)))) (ac_node (ac_node (ac_leaf 4 (⟨vd_63_4 E, mn_ild _ _⟩)) (ac_leaf 5 (⟨vd_63_5 E, mn_ald _ _⟩))) (ac_node (ac_leaf 6 (⟨vd_63_6 E, mn_get _ _ _⟩)) (ac_node (ac_leaf 9 (⟨vd_63_9 E, mn_get _ _ _⟩)) (ac_leaf 12 (⟨vd_63_12 E, mn_ge _ _⟩)))))) (ac_node (ac_node (ac_node (ac_leaf 15 (⟨vd_63_15 E, mn_ald _ _⟩)) (ac_leaf 16 (⟨vd_63_16 E, mn_get _ _ _⟩))) (ac_node (ac_leaf 19 (⟨vd_63_19 E, mn_ild _ _⟩)) (ac_leaf 20 (⟨vd_63_20 E, mn_ia _⟩)))) (ac_node (ac_node (ac_leaf 21 (⟨vd_63_21 E, mn_con _ _⟩)) (ac_leaf 22 (⟨vd_63_22 E, mn_ne _ _⟩))) (ac_node (ac_leaf 25 (⟨vd_63_25 E, mn_con _ _⟩)) (ac_node (ac_leaf 26 (⟨vd_63_26 E, mn_ist _ _⟩)) (ac_leaf 27 (⟨vd_63_27 E, mn_ald _ _⟩))))))) (ac_node (ac_node (ac_node (ac_node (ac_leaf 28 (⟨vd_63_28 E, mn_get _ _ _⟩)) (ac_leaf 31 (⟨vd_63_31 E, mn_ald _ _⟩))) (ac_node (ac_leaf 32 (⟨vd_63_32 E, mn_get _ _ _⟩)) (ac_leaf 35 (⟨vd_63_35 E, mn_ild _ _⟩)))) (ac_node (ac_node (ac_leaf 36 (⟨vd_63_36 E, mn_ild _ _⟩)) (ac_leaf 37 (ac_Vc0 (vd_63_37 E) (fun _ => rfl)))) (ac_node (ac_leaf 40 (⟨vd_63_40 E, mn_ia _⟩)) (ac_node (ac_leaf 41 (⟨vd_63_41 E, mn_ist _ _⟩)) (ac_leaf 43 (⟨vd_63_43 E, mn_ild _ _⟩)))))) (ac_node (ac_node (ac_node (ac_leaf 45 (⟨vd_63_45 E, mn_eq0 _ _⟩)) (ac_leaf 48 (⟨vd_63_48 E, mn_ild _ _⟩))) (ac_node (ac_leaf 50 (⟨vd_63_50 E, mn_con _ _⟩)) (ac_node (ac_leaf 51 (⟨vd_63_51 E, mn_eq _ _⟩)) (ac_leaf 54 (⟨vd_63_54 E, mn_con _ _⟩))))) (ac_node (ac_node (ac_leaf 55 (ac_Vr2 dd_63_55 rfl)) (ac_leaf 56 (⟨vd_63_56 E, mn_inc _ _ _⟩))) (ac_node (ac_leaf 59 (⟨vd_63_59 E, mn_go _⟩)) (ac_node (ac_leaf 62 (⟨vd_63_62 E, mn_ild _ _⟩)) (ac_leaf 63 (ac_Vr2 dd_63_63 rfl))))))))
theorem vd_64_0 (E : ac_E) : ac_ok E md_64 0 (o_con (.int 0) 1) := ok_iconst (E := E) (d := md_64) (pc := 0) dd_64_0 (by decide)
theorem vd_64_1 (E : ac_E) : ac_ok E md_64 1 (o_ist 2 2) := ok_istore_n (E := E) (d := md_64) (pc := 1) (j := 2) dd_64_1
theorem vd_64_2 (E : ac_E) : ac_ok E md_64 2 (o_con (.int 0) 3) := ok_iconst (E := E) (d := md_64) (pc := 2) dd_64_2 (by decide)
theorem vd_64_3 (E : ac_E) : ac_ok E md_64 3 (o_ist 3 4) := ok_istore_n (E := E) (d := md_64) (pc := 3) (j := 3) dd_64_3
theorem vd_64_4 (E : ac_E) : ac_ok E md_64 4 (o_con (.int 0) 5) := ok_iconst (E := E) (d := md_64) (pc := 4) dd_64_4 (by decide)
theorem vd_64_5 (E : ac_E) : ac_ok E md_64 5 (o_ist 4 7) := ok_istore (E := E) (d := md_64) (pc := 5) dd_64_5
theorem vd_64_7 (E : ac_E) : ac_ok E md_64 7 (o_ild 4 9) := ok_iload (E := E) (d := md_64) (pc := 7) dd_64_7
theorem vd_64_9 (E : ac_E) : ac_ok E md_64 9 (o_ald 0 10) := ok_aload_n (E := E) (d := md_64) (pc := 9) (j := 0) dd_64_9
theorem vd_64_10 (E : ac_E) : ac_ok E md_64 10 (o_get 4 0 13) := ok_getf (E := E) (d := md_64) (pc := 10) (ci := 4) (f := 0) (C := RX4) (T := TX4) (N := 12) (ref := RX4) rfl win_4 (by decide) rfl wm_163 dd_64_10
theorem vd_64_13 (E : ac_E) : ac_ok E md_64 13 (o_get 2 2 16) := ok_getN (E := E) (d := md_64) (pc := 13) (ci := 2) (f := 2) (C := RX2) (T := TX2) (N := 4) (ref := RX2) rfl win_2 (by decide) rfl wm_98 dd_64_13
theorem vd_64_16 (E : ac_E) : ac_ok E md_64 16 (o_ge 113 19) := ok_icmpge (E := E) (d := md_64) (pc := 16) dd_64_16 (by decide)
theorem vd_64_19 (E : ac_E) : ac_ok E md_64 19 (o_ald 0 20) := ok_aload_n (E := E) (d := md_64) (pc := 19) (j := 0) dd_64_19
theorem vd_64_20 (E : ac_E) : ac_ok E md_64 20 (o_get 4 1 23) := ok_getf (E := E) (d := md_64) (pc := 20) (ci := 4) (f := 1) (C := RX4) (T := TX4) (N := 12) (ref := RX4) rfl win_4 (by decide) rfl wm_164 dd_64_20
theorem vd_64_23 (E : ac_E) : ac_ok E md_64 23 (o_ild 4 25) := ok_iload (E := E) (d := md_64) (pc := 23) dd_64_23
theorem vd_64_25 (E : ac_E) : ac_ok E md_64 25 (o_ia 26) := ok_iaload (E := E) (d := md_64) (pc := 25) dd_64_25
theorem vd_64_26 (E : ac_E) : ac_ok E md_64 26 (o_con (.int 4) 27) := ok_iconst (E := E) (d := md_64) (pc := 26) dd_64_26 (by decide)
theorem vd_64_27 (E : ac_E) : ac_ok E md_64 27 (o_ne 34 30) := ok_icmpne (E := E) (d := md_64) (pc := 27) dd_64_27 (by decide)
theorem vd_64_30 (E : ac_E) : ac_ok E md_64 30 (o_con (.int 1) 31) := ok_iconst (E := E) (d := md_64) (pc := 30) dd_64_30 (by decide)
theorem vd_64_31 (E : ac_E) : ac_ok E md_64 31 (o_go 35) := ok_goto (E := E) (d := md_64) (pc := 31) dd_64_31 (by decide)
theorem vd_64_34 (E : ac_E) : ac_ok E md_64 34 (o_con (.int 0) 35) := ok_iconst (E := E) (d := md_64) (pc := 34) dd_64_34 (by decide)
theorem vd_64_35 (E : ac_E) : ac_ok E md_64 35 (o_ist 5 37) := ok_istore (E := E) (d := md_64) (pc := 35) dd_64_35
theorem vd_64_37 (E : ac_E) : ac_ok E md_64 37 (o_ald 0 38) := ok_aload_n (E := E) (d := md_64) (pc := 37) (j := 0) dd_64_37
theorem vd_64_38 (E : ac_E) : ac_ok E md_64 38 (o_get 4 1 41) := ok_getf (E := E) (d := md_64) (pc := 38) (ci := 4) (f := 1) (C := RX4) (T := TX4) (N := 12) (ref := RX4) rfl win_4 (by decide) rfl wm_164 dd_64_38
theorem vd_64_41 (E : ac_E) : ac_ok E md_64 41 (o_ald 0 42) := ok_aload_n (E := E) (d := md_64) (pc := 41) (j := 0) dd_64_41
theorem vd_64_42 (E : ac_E) : ac_ok E md_64 42 (o_get 4 0 45) := ok_getf (E := E) (d := md_64) (pc := 42) (ci := 4) (f := 0) (C := RX4) (T := TX4) (N := 12) (ref := RX4) rfl win_4 (by decide) rfl wm_163 dd_64_42
theorem vd_64_45 (E : ac_E) : ac_ok E md_64 45 (o_ild 4 47) := ok_iload (E := E) (d := md_64) (pc := 45) dd_64_45
theorem vd_64_47 (E : ac_E) : ac_ok E md_64 47 (o_ild 1 48) := ok_iload_n (E := E) (d := md_64) (pc := 47) (j := 1) dd_64_47
theorem vd_64_48 (E : ac_E) : ac_ok E md_64 48 (o_con (.int 3) 49) := ok_iconst (E := E) (d := md_64) (pc := 48) dd_64_48 (by decide)
theorem vd_64_49 (E : ac_E) : ac_ok E md_64 49 (o_add 50) := ok_iadd (E := E) (d := md_64) (pc := 49) dd_64_49
theorem vd_64_50 (E : ac_E) : ac_okr E md_64 md_14 50 3 53 4 := ok_callVN (E := E) (d := md_64) (dz := md_14) (pc := 50) (T := TX2) (N := 4) rfl rfl (by decide) (by decide +kernel) wm_466 wm_51 wm_463 wm_465 wm_12 dd_64_50
theorem vd_64_53 (E : ac_E) : ac_ok E md_64 53 (o_ia 54) := ok_iaload (E := E) (d := md_64) (pc := 53) dd_64_53
theorem vd_64_54 (E : ac_E) : ac_ok E md_64 54 (o_con (.int 4) 55) := ok_iconst (E := E) (d := md_64) (pc := 54) dd_64_54 (by decide)
theorem vd_64_55 (E : ac_E) : ac_ok E md_64 55 (o_ne 62 58) := ok_icmpne (E := E) (d := md_64) (pc := 55) dd_64_55 (by decide)
theorem vd_64_58 (E : ac_E) : ac_ok E md_64 58 (o_con (.int 1) 59) := ok_iconst (E := E) (d := md_64) (pc := 58) dd_64_58 (by decide)
theorem vd_64_59 (E : ac_E) : ac_ok E md_64 59 (o_go 63) := ok_goto (E := E) (d := md_64) (pc := 59) dd_64_59 (by decide)
theorem vd_64_62 (E : ac_E) : ac_ok E md_64 62 (o_con (.int 0) 63) := ok_iconst (E := E) (d := md_64) (pc := 62) dd_64_62 (by decide)
theorem vd_64_63 (E : ac_E) : ac_ok E md_64 63 (o_ist 6 65) := ok_istore (E := E) (d := md_64) (pc := 63) dd_64_63
theorem vd_64_65 (E : ac_E) : ac_ok E md_64 65 (o_ild 6 67) := ok_iload (E := E) (d := md_64) (pc := 65) dd_64_65
theorem vd_64_67 (E : ac_E) : ac_ok E md_64 67 (o_eq0 86 70) := ok_ifeq (E := E) (d := md_64) (pc := 67) dd_64_67 (by decide)
theorem vd_64_70 (E : ac_E) : ac_ok E md_64 70 (o_ild 5 72) := ok_iload (E := E) (d := md_64) (pc := 70) dd_64_70
theorem vd_64_72 (E : ac_E) : ac_ok E md_64 72 (o_ne0 86 75) := ok_ifne (E := E) (d := md_64) (pc := 72) dd_64_72 (by decide)
theorem vd_64_75 (E : ac_E) : ac_ok E md_64 75 (o_ald 0 76) := ok_aload_n (E := E) (d := md_64) (pc := 75) (j := 0) dd_64_75
theorem vd_64_76 (E : ac_E) : ac_ok E md_64 76 (o_get 4 6 79) := ok_getf (E := E) (d := md_64) (pc := 76) (ci := 4) (f := 6) (C := RX4) (T := TX4) (N := 12) (ref := RX4) rfl win_4 (by decide) rfl wm_169 dd_64_76
theorem vd_64_79 (E : ac_E) : ac_ok E md_64 79 (o_ild 2 80) := ok_iload_n (E := E) (d := md_64) (pc := 79) (j := 2) dd_64_79
theorem vd_64_80 (E : ac_E) : ac_ok E md_64 80 (o_inc 2 1 83) := ok_iinc (E := E) (d := md_64) (pc := 80) dd_64_80 (by decide)
theorem vd_64_83 (E : ac_E) : ac_ok E md_64 83 (o_ild 4 85) := ok_iload (E := E) (d := md_64) (pc := 83) dd_64_83
theorem vd_64_85 (E : ac_E) : ac_ok E md_64 85 (o_is 86) := ok_iastore (E := E) (d := md_64) (pc := 85) dd_64_85
theorem vd_64_86 (E : ac_E) : ac_ok E md_64 86 (o_ild 5 88) := ok_iload (E := E) (d := md_64) (pc := 86) dd_64_86
theorem vd_64_88 (E : ac_E) : ac_ok E md_64 88 (o_eq0 107 91) := ok_ifeq (E := E) (d := md_64) (pc := 88) dd_64_88 (by decide)
theorem vd_64_91 (E : ac_E) : ac_ok E md_64 91 (o_ild 6 93) := ok_iload (E := E) (d := md_64) (pc := 91) dd_64_91
theorem vd_64_93 (E : ac_E) : ac_ok E md_64 93 (o_ne0 107 96) := ok_ifne (E := E) (d := md_64) (pc := 93) dd_64_93 (by decide)
theorem vd_64_96 (E : ac_E) : ac_ok E md_64 96 (o_ald 0 97) := ok_aload_n (E := E) (d := md_64) (pc := 96) (j := 0) dd_64_96
theorem vd_64_97 (E : ac_E) : ac_ok E md_64 97 (o_get 4 7 100) := ok_getf (E := E) (d := md_64) (pc := 97) (ci := 4) (f := 7) (C := RX4) (T := TX4) (N := 12) (ref := RX4) rfl win_4 (by decide) rfl wm_170 dd_64_97
theorem vd_64_100 (E : ac_E) : ac_ok E md_64 100 (o_ild 3 101) := ok_iload_n (E := E) (d := md_64) (pc := 100) (j := 3) dd_64_100
theorem vd_64_101 (E : ac_E) : ac_ok E md_64 101 (o_inc 3 1 104) := ok_iinc (E := E) (d := md_64) (pc := 101) dd_64_101 (by decide)
theorem vd_64_104 (E : ac_E) : ac_ok E md_64 104 (o_ild 4 106) := ok_iload (E := E) (d := md_64) (pc := 104) dd_64_104
theorem vd_64_106 (E : ac_E) : ac_ok E md_64 106 (o_is 107) := ok_iastore (E := E) (d := md_64) (pc := 106) dd_64_106
theorem vd_64_107 (E : ac_E) : ac_ok E md_64 107 (o_inc 4 1 110) := ok_iinc (E := E) (d := md_64) (pc := 107) dd_64_107 (by decide)
theorem vd_64_110 (E : ac_E) : ac_ok E md_64 110 (o_go 7) := ok_goto (E := E) (d := md_64) (pc := 110) dd_64_110 (by decide)
theorem vd_64_113 (E : ac_E) : ac_ok E md_64 113 (o_con (.int 0) 114) := ok_iconst (E := E) (d := md_64) (pc := 113) dd_64_113 (by decide)
theorem vd_64_114 (E : ac_E) : ac_ok E md_64 114 (o_ist 4 116) := ok_istore (E := E) (d := md_64) (pc := 114) dd_64_114
theorem vd_64_116 (E : ac_E) : ac_ok E md_64 116 (o_ild 4 118) := ok_iload (E := E) (d := md_64) (pc := 116) dd_64_116
theorem vd_64_118 (E : ac_E) : ac_ok E md_64 118 (o_ild 2 119) := ok_iload_n (E := E) (d := md_64) (pc := 118) (j := 2) dd_64_118
theorem vd_64_119 (E : ac_E) : ac_ok E md_64 119 (o_ge 172 122) := ok_icmpge (E := E) (d := md_64) (pc := 119) dd_64_119 (by decide)
theorem vd_64_122 (E : ac_E) : ac_ok E md_64 122 (o_ald 0 123) := ok_aload_n (E := E) (d := md_64) (pc := 122) (j := 0) dd_64_122
theorem vd_64_123 (E : ac_E) : ac_ok E md_64 123 (o_get 4 1 126) := ok_getf (E := E) (d := md_64) (pc := 123) (ci := 4) (f := 1) (C := RX4) (T := TX4) (N := 12) (ref := RX4) rfl win_4 (by decide) rfl wm_164 dd_64_123
theorem vd_64_126 (E : ac_E) : ac_ok E md_64 126 (o_ald 0 127) := ok_aload_n (E := E) (d := md_64) (pc := 126) (j := 0) dd_64_126
theorem vd_64_127 (E : ac_E) : ac_ok E md_64 127 (o_get 4 6 130) := ok_getf (E := E) (d := md_64) (pc := 127) (ci := 4) (f := 6) (C := RX4) (T := TX4) (N := 12) (ref := RX4) rfl win_4 (by decide) rfl wm_169 dd_64_127
theorem vd_64_130 (E : ac_E) : ac_ok E md_64 130 (o_ild 4 132) := ok_iload (E := E) (d := md_64) (pc := 130) dd_64_130
theorem vd_64_132 (E : ac_E) : ac_ok E md_64 132 (o_ia 133) := ok_iaload (E := E) (d := md_64) (pc := 132) dd_64_132
theorem vd_64_133 (E : ac_E) : ac_ok E md_64 133 (o_con (.int 4) 134) := ok_iconst (E := E) (d := md_64) (pc := 133) dd_64_133 (by decide)
theorem vd_64_134 (E : ac_E) : ac_ok E md_64 134 (o_is 135) := ok_iastore (E := E) (d := md_64) (pc := 134) dd_64_134
theorem vd_64_135 (E : ac_E) : ac_ok E md_64 135 (o_ald 0 136) := ok_aload_n (E := E) (d := md_64) (pc := 135) (j := 0) dd_64_135
theorem vd_64_136 (E : ac_E) : ac_ok E md_64 136 (o_get 4 1 139) := ok_getf (E := E) (d := md_64) (pc := 136) (ci := 4) (f := 1) (C := RX4) (T := TX4) (N := 12) (ref := RX4) rfl win_4 (by decide) rfl wm_164 dd_64_136
theorem vd_64_139 (E : ac_E) : ac_ok E md_64 139 (o_ald 0 140) := ok_aload_n (E := E) (d := md_64) (pc := 139) (j := 0) dd_64_139
theorem vd_64_140 (E : ac_E) : ac_ok E md_64 140 (o_get 4 7 143) := ok_getf (E := E) (d := md_64) (pc := 140) (ci := 4) (f := 7) (C := RX4) (T := TX4) (N := 12) (ref := RX4) rfl win_4 (by decide) rfl wm_170 dd_64_140
theorem vd_64_143 (E : ac_E) : ac_ok E md_64 143 (o_ild 4 145) := ok_iload (E := E) (d := md_64) (pc := 143) dd_64_143
theorem vd_64_145 (E : ac_E) : ac_ok E md_64 145 (o_ia 146) := ok_iaload (E := E) (d := md_64) (pc := 145) dd_64_145
theorem vd_64_146 (E : ac_E) : ac_ok E md_64 146 (o_con (.int 0) 147) := ok_iconst (E := E) (d := md_64) (pc := 146) dd_64_146 (by decide)
theorem vd_64_147 (E : ac_E) : ac_ok E md_64 147 (o_is 148) := ok_iastore (E := E) (d := md_64) (pc := 147) dd_64_147
theorem vd_64_148 (E : ac_E) : ac_ok E md_64 148 (o_ald 0 149) := ok_aload_n (E := E) (d := md_64) (pc := 148) (j := 0) dd_64_148
theorem vd_64_149 (E : ac_E) : ac_ok E md_64 149 (o_ald 0 150) := ok_aload_n (E := E) (d := md_64) (pc := 149) (j := 0) dd_64_149
theorem vd_64_150 (E : ac_E) : ac_ok E md_64 150 (o_get 4 6 153) := ok_getf (E := E) (d := md_64) (pc := 150) (ci := 4) (f := 6) (C := RX4) (T := TX4) (N := 12) (ref := RX4) rfl win_4 (by decide) rfl wm_169 dd_64_150
theorem vd_64_153 (E : ac_E) : ac_ok E md_64 153 (o_ild 4 155) := ok_iload (E := E) (d := md_64) (pc := 153) dd_64_153
theorem vd_64_155 (E : ac_E) : ac_ok E md_64 155 (o_ia 156) := ok_iaload (E := E) (d := md_64) (pc := 155) dd_64_155
theorem vd_64_156 (E : ac_E) : ac_ok E md_64 156 (o_ald 0 157) := ok_aload_n (E := E) (d := md_64) (pc := 156) (j := 0) dd_64_156
theorem vd_64_157 (E : ac_E) : ac_ok E md_64 157 (o_get 4 7 160) := ok_getf (E := E) (d := md_64) (pc := 157) (ci := 4) (f := 7) (C := RX4) (T := TX4) (N := 12) (ref := RX4) rfl win_4 (by decide) rfl wm_170 dd_64_157
theorem vd_64_160 (E : ac_E) : ac_ok E md_64 160 (o_ild 4 162) := ok_iload (E := E) (d := md_64) (pc := 160) dd_64_160
theorem vd_64_162 (E : ac_E) : ac_ok E md_64 162 (o_ia 163) := ok_iaload (E := E) (d := md_64) (pc := 162) dd_64_162
theorem vd_64_163 (E : ac_E) : ac_okr E md_64 md_65 163 3 166 6 ∧ ac_okt E md_64 md_65 163 3 6 := ok_callV (E := E) (d := md_64) (dz := md_65) (pc := 163) (T := TX4) (N := 12) rfl rfl (by decide) (by decide +kernel) wm_531 wm_50 wm_528 wm_530 wm_24 dd_64_163
theorem vd_64_166 (E : ac_E) : ac_ok E md_64 166 (o_inc 4 1 169) := ok_iinc (E := E) (d := md_64) (pc := 166) dd_64_166 (by decide)
theorem vd_64_169 (E : ac_E) : ac_ok E md_64 169 (o_go 116) := ok_goto (E := E) (d := md_64) (pc := 169) dd_64_169 (by decide)
theorem va_64 (E : ac_E) (pc : Nat) : ac_V E ac_MDf ac_HDf 64 pc (tb_64 (ac_len E) (ac_xs E) pc) := (ac_node (ac_node (ac_node (ac_node (ac_node (ac_node (ac_leaf 0 (⟨vd_64_0 E, mn_con _ _⟩)) (ac_leaf 1 (⟨vd_64_1 E, mn_ist _ _⟩))) (ac_node (ac_leaf 2 (⟨vd_64_2 E, mn_con _ _⟩)) (ac_node (ac_leaf 3 (⟨vd_64_3 E, mn_ist _ _⟩)) (ac_leaf 4 (⟨vd_64_4 E, mn_con _ _⟩))))) (ac_node (ac_node (ac_leaf 5 (⟨vd_64_5 E, mn_ist _ _⟩)) (ac_node (ac_leaf 7 (⟨vd_64_7 E, mn_ild _ _⟩)) (ac_leaf 9 (⟨vd_64_9 E, mn_ald _ _⟩)))) (ac_node (ac_leaf 10 (⟨vd_64_10 E, mn_get _ _ _⟩)) (ac_node (ac_leaf 13 (⟨vd_64_13 E, mn_get _ _ _⟩)) (ac_leaf 16 (⟨vd_64_16 E, mn_ge _ _⟩)))))) (ac_node (ac_node (ac_node (ac_leaf 19 (⟨vd_64_19 E, mn_ald _ _⟩)) (ac_node (ac_leaf 20 (⟨vd_64_20 E, mn_get _ _ _⟩)) (ac_leaf 23 (⟨vd_64_23 E, mn_ild _ _⟩)))) (ac_node (ac_leaf 25 (⟨vd_64_25 E, mn_ia _⟩)) (ac_node (ac_leaf 26 (⟨vd_64_26 E, mn_con _ _⟩)) (ac_leaf 27 (⟨vd_64_27 E, mn_ne _ _⟩))))) (ac_node (ac_node (ac_leaf 30 (⟨vd_64_30 E, mn_con _ _⟩)) (ac_node (ac_leaf 31 (⟨vd_64_31 E, mn_go _⟩)) (ac_leaf 34 (⟨vd_64_34 E, mn_con _ _⟩)))) (ac_node (ac_leaf 35 (⟨vd_64_35 E, mn_ist _ _⟩)) (ac_node (ac_leaf 37 (⟨vd_64_37 E, mn_ald _ _⟩)) (ac_leaf 38 (⟨vd_64_38 E, mn_get _ _ _⟩))))))) (ac_node (ac_node (ac_node (ac_node (ac_leaf 41 (⟨vd_64_41 E, mn_ald _ _⟩)) (ac_leaf 42 (⟨vd_64_42 E, mn_get _ _ _⟩))) (ac_node (ac_leaf 45 (⟨vd_64_45 E, mn_ild _ _⟩)) (ac_node (ac_leaf 47 (⟨vd_64_47 E, mn_ild _ _⟩)) (ac_leaf 48 (⟨vd_64_48 E, mn_con _ _⟩))))) (ac_node (ac_node (ac_leaf 49 (⟨vd_64_49 E, mn_add _⟩)) (ac_node (ac_leaf 50 (ac_Vc0 (vd_64_50 E) (fun _ => rfl))) (ac_leaf 53 (⟨vd_64_53 E, mn_ia _⟩)))) (ac_node (ac_leaf 54 (⟨vd_64_54 E, mn_con _ _⟩)) (ac_node (ac_leaf 55 (⟨vd_64_55 E, mn_ne _ _⟩)) (ac_leaf 58 (⟨vd_64_58 E, mn_con _ _⟩)))))) (ac_node (ac_node (ac_node (ac_leaf 59 (⟨vd_64_59 E, mn_go _⟩)) (ac_node (ac_leaf 62 (⟨vd_64_62 E, mn_con _ _⟩)) (ac_leaf 63 (⟨vd_64_63 E, mn_ist _ _⟩)))) (ac_node (ac_leaf 65 (⟨vd_64_65 E, mn_ild _ _⟩)) (ac_node (ac_leaf 67 (⟨vd_64_67 E, mn_eq0 _ _⟩)) (ac_leaf 70 (⟨vd_64_70 E, mn_ild _ _⟩))))) (ac_node (ac_node (ac_leaf 72 (⟨vd_64_72 E, mn_ne0 _ _⟩)) (ac_node (ac_leaf 75 (⟨vd_64_75 E, mn_ald _ _⟩)) (ac_leaf 76 (⟨vd_64_76 E, mn_get _ _ _⟩)))) (ac_node (ac_leaf 79 (⟨vd_64_79 E, mn_ild _ _⟩)) (ac_node (ac_leaf 80 (⟨vd_64_80 E, mn_inc _ _ _⟩)) (ac_leaf 83 (⟨vd_64_83 E, mn_ild _ _⟩)))))))) (ac_node (ac_node (ac_node (ac_node (ac_node (ac_leaf 85 (⟨vd_64_85 E, mn_is _⟩)) (ac_leaf 86 (⟨vd_64_86 E, mn_ild _ _⟩))) (ac_node (ac_leaf 88 (⟨vd_64_88 E, mn_eq0 _ _⟩)) (ac_node (ac_leaf 91 (⟨vd_64_91 E, mn_ild _ _⟩)) (ac_leaf 93 (⟨vd_64_93 E, mn_ne0 _ _⟩))))) (ac_node (ac_node (ac_leaf 96 (⟨vd_64_96 E, mn_ald _ _⟩)) (ac_node (ac_leaf 97 (⟨vd_64_97 E, mn_get _ _ _⟩)) (ac_leaf 100 (⟨vd_64_100 E, mn_ild _ _⟩)))) (ac_node (ac_leaf 101 (⟨vd_64_101 E, mn_inc _ _ _⟩)) (ac_node (ac_leaf 104 (⟨vd_64_104 E, mn_ild _ _⟩)) (ac_leaf 106 (⟨vd_64_106 E, mn_is _⟩)))))) (ac_node (ac_node (ac_node (ac_leaf 107 (⟨vd_64_107 E, mn_inc _ _ _⟩)) (ac_node (ac_leaf 110 (⟨vd_64_110 E, mn_go _⟩)) (ac_leaf 113 (⟨vd_64_113 E, mn_con _ _⟩)))) (ac_node (ac_leaf 114 (⟨vd_64_114 E, mn_ist _ _⟩)) (ac_node (ac_leaf 116 (⟨vd_64_116 E, mn_ild _ _⟩)) (ac_leaf 118 (⟨vd_64_118 E, mn_ild _ _⟩))))) (ac_node (ac_node (ac_leaf 119 (⟨vd_64_119 E, mn_ge _ _⟩)) (ac_node (ac_leaf 122 (⟨vd_64_122 E, mn_ald _ _⟩)) (ac_leaf 123 (⟨vd_64_123 E, mn_get _ _ _⟩)))) (ac_node (ac_leaf 126 (⟨vd_64_126 E, mn_ald _ _⟩)) (ac_node (ac_leaf 127 (⟨vd_64_127 E, mn_get _ _ _⟩)) (ac_leaf 130 (⟨vd_64_130 E, mn_ild _ _⟩))))))) (ac_node (ac_node (ac_node (ac_node (ac_leaf 132 (⟨vd_64_132 E, mn_ia _⟩)) (ac_node (ac_leaf 133 (⟨vd_64_133 E, mn_con _ _⟩)) (ac_leaf 134 (⟨vd_64_134 E, mn_is _⟩)))) (ac_node (ac_leaf 135 (⟨vd_64_135 E, mn_ald _ _⟩)) (ac_node (ac_leaf 136 (⟨vd_64_136 E, mn_get _ _ _⟩)) (ac_leaf 139 (⟨vd_64_139 E, mn_ald _ _⟩))))) (ac_node (ac_node (ac_leaf 140 (⟨vd_64_140 E, mn_get _ _ _⟩)) (ac_node (ac_leaf 143 (⟨vd_64_143 E, mn_ild _ _⟩)) (ac_leaf 145 (⟨vd_64_145 E, mn_ia _⟩)))) (ac_node (ac_leaf 146 (⟨vd_64_146 E, mn_con _ _⟩)) (ac_node (ac_leaf 147 (⟨vd_64_147 E, mn_is _⟩)) (ac_leaf 148 (⟨vd_64_148 E, mn_ald _ _⟩)))))) (ac_node (ac_node (ac_node (ac_leaf 149 (⟨vd_64_149 E, mn_ald _ _⟩)) (ac_node (ac_leaf 150 (⟨vd_64_150 E, mn_get _ _ _⟩)) (ac_leaf 153 (⟨vd_64_153 E, mn_ild _ _⟩)))) (ac_node (ac_leaf 155 (⟨vd_64_155 E, mn_ia _⟩)) (ac_node (ac_leaf 156 (⟨vd_64_156 E, mn_ald _ _⟩)) (ac_leaf 157 (⟨vd_64_157 E, mn_get _ _ _⟩))))) (ac_node (ac_node (ac_leaf 160 (⟨vd_64_160 E, mn_ild _ _⟩)) (ac_node (ac_leaf 162 (⟨vd_64_162 E, mn_ia _⟩)) (ac_leaf 163 (ac_Vc0 ((vd_64_163 E).1) (fun _ => rfl))))) (ac_node (ac_leaf 166 (⟨vd_64_166 E, mn_inc _ _ _⟩)) (ac_node (ac_leaf 169 (⟨vd_64_169 E, mn_go _⟩)) (ac_leaf 172 (ac_Vr0 dd_64_172 rfl)))))))))
theorem vd_65_0 (E : ac_E) : ac_ok E md_65 0 (o_ald 0 1) := ok_aload_n (E := E) (d := md_65) (pc := 0) (j := 0) dd_65_0
theorem vd_65_1 (E : ac_E) : ac_ok E md_65 1 (o_get 4 8 4) := ok_getf (E := E) (d := md_65) (pc := 1) (ci := 4) (f := 8) (C := RX4) (T := TX4) (N := 12) (ref := RX4) rfl win_4 (by decide) rfl wm_171 dd_65_1
theorem vd_65_4 (E : ac_E) : ac_ok E md_65 4 (o_ild 1 5) := ok_iload_n (E := E) (d := md_65) (pc := 4) (j := 1) dd_65_4
theorem vd_65_5 (E : ac_E) : ac_ok E md_65 5 (o_ia 6) := ok_iaload (E := E) (d := md_65) (pc := 5) dd_65_5
theorem vd_65_6 (E : ac_E) : ac_ok E md_65 6 (o_ist 3 7) := ok_istore_n (E := E) (d := md_65) (pc := 6) (j := 3) dd_65_6
theorem vd_65_7 (E : ac_E) : ac_ok E md_65 7 (o_ald 0 8) := ok_aload_n (E := E) (d := md_65) (pc := 7) (j := 0) dd_65_7
theorem vd_65_8 (E : ac_E) : ac_ok E md_65 8 (o_get 4 8 11) := ok_getf (E := E) (d := md_65) (pc := 8) (ci := 4) (f := 8) (C := RX4) (T := TX4) (N := 12) (ref := RX4) rfl win_4 (by decide) rfl wm_171 dd_65_8
theorem vd_65_11 (E : ac_E) : ac_ok E md_65 11 (o_ild 1 12) := ok_iload_n (E := E) (d := md_65) (pc := 11) (j := 1) dd_65_11
theorem vd_65_12 (E : ac_E) : ac_ok E md_65 12 (o_ald 0 13) := ok_aload_n (E := E) (d := md_65) (pc := 12) (j := 0) dd_65_12
theorem vd_65_13 (E : ac_E) : ac_ok E md_65 13 (o_get 4 8 16) := ok_getf (E := E) (d := md_65) (pc := 13) (ci := 4) (f := 8) (C := RX4) (T := TX4) (N := 12) (ref := RX4) rfl win_4 (by decide) rfl wm_171 dd_65_13
theorem vd_65_16 (E : ac_E) : ac_ok E md_65 16 (o_ild 2 17) := ok_iload_n (E := E) (d := md_65) (pc := 16) (j := 2) dd_65_16
theorem vd_65_17 (E : ac_E) : ac_ok E md_65 17 (o_ia 18) := ok_iaload (E := E) (d := md_65) (pc := 17) dd_65_17
theorem vd_65_18 (E : ac_E) : ac_ok E md_65 18 (o_is 19) := ok_iastore (E := E) (d := md_65) (pc := 18) dd_65_18
theorem vd_65_19 (E : ac_E) : ac_ok E md_65 19 (o_ald 0 20) := ok_aload_n (E := E) (d := md_65) (pc := 19) (j := 0) dd_65_19
theorem vd_65_20 (E : ac_E) : ac_ok E md_65 20 (o_get 4 8 23) := ok_getf (E := E) (d := md_65) (pc := 20) (ci := 4) (f := 8) (C := RX4) (T := TX4) (N := 12) (ref := RX4) rfl win_4 (by decide) rfl wm_171 dd_65_20
theorem vd_65_23 (E : ac_E) : ac_ok E md_65 23 (o_ild 2 24) := ok_iload_n (E := E) (d := md_65) (pc := 23) (j := 2) dd_65_23
theorem vd_65_24 (E : ac_E) : ac_ok E md_65 24 (o_ild 3 25) := ok_iload_n (E := E) (d := md_65) (pc := 24) (j := 3) dd_65_24
theorem vd_65_25 (E : ac_E) : ac_ok E md_65 25 (o_is 26) := ok_iastore (E := E) (d := md_65) (pc := 25) dd_65_25
theorem vd_65_26 (E : ac_E) : ac_ok E md_65 26 (o_ald 0 27) := ok_aload_n (E := E) (d := md_65) (pc := 26) (j := 0) dd_65_26
theorem vd_65_27 (E : ac_E) : ac_ok E md_65 27 (o_get 4 5 30) := ok_getf (E := E) (d := md_65) (pc := 27) (ci := 4) (f := 5) (C := RX4) (T := TX4) (N := 12) (ref := RX4) rfl win_4 (by decide) rfl wm_168 dd_65_27
theorem vd_65_30 (E : ac_E) : ac_ok E md_65 30 (o_ild 1 31) := ok_iload_n (E := E) (d := md_65) (pc := 30) (j := 1) dd_65_30
theorem vd_65_31 (E : ac_E) : ac_ok E md_65 31 (o_ild 2 32) := ok_iload_n (E := E) (d := md_65) (pc := 31) (j := 2) dd_65_31
theorem vd_65_32 (E : ac_E) : ac_okr E md_65 md_22 32 3 35 5 := ok_callVN (E := E) (d := md_65) (dz := md_22) (pc := 32) (T := TX3) (N := 3) rfl rfl (by decide) (by decide +kernel) wm_535 wm_55 wm_532 wm_534 wm_25 dd_65_32
theorem va_65 (E : ac_E) (pc : Nat) : ac_V E ac_MDf ac_HDf 65 pc (tb_65 (ac_len E) (ac_xs E) pc) := (ac_node (ac_node (ac_node (ac_node (ac_leaf 0 (⟨vd_65_0 E, mn_ald _ _⟩)) (ac_node (ac_leaf 1 (⟨vd_65_1 E, mn_get _ _ _⟩)) (ac_leaf 4 (⟨vd_65_4 E, mn_ild _ _⟩)))) (ac_node (ac_leaf 5 (⟨vd_65_5 E, mn_ia _⟩)) (ac_node (ac_leaf 6 (⟨vd_65_6 E, mn_ist _ _⟩)) (ac_leaf 7 (⟨vd_65_7 E, mn_ald _ _⟩))))) (ac_node (ac_node (ac_leaf 8 (⟨vd_65_8 E, mn_get _ _ _⟩)) (ac_node (ac_leaf 11 (⟨vd_65_11 E, mn_ild _ _⟩)) (ac_leaf 12 (⟨vd_65_12 E, mn_ald _ _⟩)))) (ac_node (ac_leaf 13 (⟨vd_65_13 E, mn_get _ _ _⟩)) (ac_node (ac_leaf 16 (⟨vd_65_16 E, mn_ild _ _⟩)) (ac_leaf 17 (⟨vd_65_17 E, mn_ia _⟩)))))) (ac_node (ac_node (ac_node (ac_leaf 18 (⟨vd_65_18 E, mn_is _⟩)) (ac_node (ac_leaf 19 (⟨vd_65_19 E, mn_ald _ _⟩)) (ac_leaf 20 (⟨vd_65_20 E, mn_get _ _ _⟩)))) (ac_node (ac_leaf 23 (⟨vd_65_23 E, mn_ild _ _⟩)) (ac_node (ac_leaf 24 (⟨vd_65_24 E, mn_ild _ _⟩)) (ac_leaf 25 (⟨vd_65_25 E, mn_is _⟩))))) (ac_node (ac_node (ac_leaf 26 (⟨vd_65_26 E, mn_ald _ _⟩)) (ac_node (ac_leaf 27 (⟨vd_65_27 E, mn_get _ _ _⟩)) (ac_leaf 30 (⟨vd_65_30 E, mn_ild _ _⟩)))) (ac_node (ac_leaf 31 (⟨vd_65_31 E, mn_ild _ _⟩)) (ac_node (ac_leaf 32 (ac_Vc0 (vd_65_32 E) (fun _ => rfl))) (ac_leaf 35 (ac_Vr0 dd_65_35 rfl)))))))
theorem vd_66_0 (E : ac_E) : ac_ok E md_66 0 (o_ald 0 1) := ok_aload_n (E := E) (d := md_66) (pc := 0) (j := 0) dd_66_0
theorem vd_66_1 (E : ac_E) : ac_ok E md_66 1 (o_obj1 4) := ok_obj (E := E) (d := md_66) (pc := 1) wm_637 wm_73 wm_74 (by decide) (by decide) dd_66_1
theorem vd_66_4 (E : ac_E) : ac_ok E md_66 4 (o_ald 0 5) := ok_aload_n (E := E) (d := md_66) (pc := 4) (j := 0) dd_66_4
theorem vd_66_5 (E : ac_E) : ac_ok E md_66 5 (o_con (.int 256) 8) := ok_sipush (E := E) (d := md_66) (pc := 5) dd_66_5 (by decide)
theorem vd_66_8 (E : ac_E) : ac_ok E md_66 8 (o_ni 10) := ok_ni (E := E) (d := md_66) (pc := 8) dd_66_8 wm_109
theorem vd_66_10 (E : ac_E) : ac_ok E md_66 10 (o_pur 5 5 13) := ok_purF (E := E) (d := md_66) (pc := 10) (ci := 5) (f := 5) (C := RX5) (T := TX5) (N := 17) (ref := RX5) rfl win_5 (by decide) rfl tyX5 tyX5_ok nmX5 (by decide +kernel : _ = some (.array .int)) (Or.inr ⟨_, rfl⟩) rfl rfl rfl wm_643 dd_66_10
theorem vd_66_13 (E : ac_E) : ac_ok E md_66 13 (o_ald 0 14) := ok_aload_n (E := E) (d := md_66) (pc := 13) (j := 0) dd_66_13
theorem vd_66_14 (E : ac_E) : ac_ok E md_66 14 (o_con (.int 256) 17) := ok_sipush (E := E) (d := md_66) (pc := 14) dd_66_14 (by decide)
theorem vd_66_17 (E : ac_E) : ac_ok E md_66 17 (o_ni 19) := ok_ni (E := E) (d := md_66) (pc := 17) dd_66_17 wm_109
theorem vd_66_19 (E : ac_E) : ac_ok E md_66 19 (o_pur 5 6 22) := ok_purF (E := E) (d := md_66) (pc := 19) (ci := 5) (f := 6) (C := RX5) (T := TX5) (N := 17) (ref := RX5) rfl win_5 (by decide) rfl tyX5 tyX5_ok nmX5 (by decide +kernel : _ = some (.array .int)) (Or.inr ⟨_, rfl⟩) rfl rfl rfl wm_644 dd_66_19
theorem vd_66_22 (E : ac_E) : ac_ok E md_66 22 (o_ald 0 23) := ok_aload_n (E := E) (d := md_66) (pc := 22) (j := 0) dd_66_22
theorem vd_66_23 (E : ac_E) : ac_ok E md_66 23 (o_con (.int 256) 26) := ok_sipush (E := E) (d := md_66) (pc := 23) dd_66_23 (by decide)
theorem vd_66_26 (E : ac_E) : ac_ok E md_66 26 (o_ni 28) := ok_ni (E := E) (d := md_66) (pc := 26) dd_66_26 wm_109
theorem vd_66_28 (E : ac_E) : ac_ok E md_66 28 (o_pur 5 7 31) := ok_purF (E := E) (d := md_66) (pc := 28) (ci := 5) (f := 7) (C := RX5) (T := TX5) (N := 17) (ref := RX5) rfl win_5 (by decide) rfl tyX5 tyX5_ok nmX5 (by decide +kernel : _ = some (.array .int)) (Or.inr ⟨_, rfl⟩) rfl rfl rfl wm_645 dd_66_28
theorem vd_66_31 (E : ac_E) : ac_ok E md_66 31 (o_ald 0 32) := ok_aload_n (E := E) (d := md_66) (pc := 31) (j := 0) dd_66_31
theorem vd_66_32 (E : ac_E) : ac_ok E md_66 32 (o_con (.int 256) 35) := ok_sipush (E := E) (d := md_66) (pc := 32) dd_66_32 (by decide)
theorem vd_66_35 (E : ac_E) : ac_ok E md_66 35 (o_ni 37) := ok_ni (E := E) (d := md_66) (pc := 35) dd_66_35 wm_109
theorem vd_66_37 (E : ac_E) : ac_ok E md_66 37 (o_pur 5 8 40) := ok_purF (E := E) (d := md_66) (pc := 37) (ci := 5) (f := 8) (C := RX5) (T := TX5) (N := 17) (ref := RX5) rfl win_5 (by decide) rfl tyX5 tyX5_ok nmX5 (by decide +kernel : _ = some (.array .int)) (Or.inr ⟨_, rfl⟩) rfl rfl rfl wm_646 dd_66_37
theorem vd_66_40 (E : ac_E) : ac_ok E md_66 40 (o_ald 0 41) := ok_aload_n (E := E) (d := md_66) (pc := 40) (j := 0) dd_66_40
theorem vd_66_41 (E : ac_E) : ac_ok E md_66 41 (o_con (.int 256) 44) := ok_sipush (E := E) (d := md_66) (pc := 41) dd_66_41 (by decide)
theorem vd_66_44 (E : ac_E) : ac_ok E md_66 44 (o_nz 46) := ok_nz (E := E) (d := md_66) (pc := 44) dd_66_44 wm_690
theorem vd_66_46 (E : ac_E) : ac_ok E md_66 46 (o_pur 5 9 49) := ok_purF (E := E) (d := md_66) (pc := 46) (ci := 5) (f := 9) (C := RX5) (T := TX5) (N := 17) (ref := RX5) rfl win_5 (by decide) rfl tyX5 tyX5_ok nmX5 (by decide +kernel : _ = some (.array .boolean)) (Or.inr ⟨_, rfl⟩) rfl rfl rfl wm_647 dd_66_46
theorem vd_66_49 (E : ac_E) : ac_ok E md_66 49 (o_ald 0 50) := ok_aload_n (E := E) (d := md_66) (pc := 49) (j := 0) dd_66_49
theorem vd_66_50 (E : ac_E) : ac_ok E md_66 50 (o_con (.int 12) 52) := ok_bipush (E := E) (d := md_66) (pc := 50) dd_66_50 (by decide)
theorem vd_66_52 (E : ac_E) : ac_ok E md_66 52 (o_ni 54) := ok_ni (E := E) (d := md_66) (pc := 52) dd_66_52 wm_109
theorem vd_66_54 (E : ac_E) : ac_ok E md_66 54 (o_pur 5 10 57) := ok_purF (E := E) (d := md_66) (pc := 54) (ci := 5) (f := 10) (C := RX5) (T := TX5) (N := 17) (ref := RX5) rfl win_5 (by decide) rfl tyX5 tyX5_ok nmX5 (by decide +kernel : _ = some (.array .int)) (Or.inr ⟨_, rfl⟩) rfl rfl rfl wm_648 dd_66_54
theorem vd_66_57 (E : ac_E) : ac_ok E md_66 57 (o_ald 0 58) := ok_aload_n (E := E) (d := md_66) (pc := 57) (j := 0) dd_66_57
theorem vd_66_58 (E : ac_E) : ac_ok E md_66 58 (o_con (.int 100) 60) := ok_bipush (E := E) (d := md_66) (pc := 58) dd_66_58 (by decide)
theorem vd_66_60 (E : ac_E) : ac_ok E md_66 60 (o_put 5 11 63) := ok_putf (E := E) (d := md_66) (pc := 60) (ci := 5) (f := 11) (C := RX5) (T := TX5) (N := 17) (ref := RX5) rfl win_5 (by decide) rfl tyX5 tyX5_ok nmX5 (by decide +kernel) rfl wm_649 dd_66_60
theorem vd_66_63 (E : ac_E) : ac_ok E md_66 63 (o_ald 0 64) := ok_aload_n (E := E) (d := md_66) (pc := 63) (j := 0) dd_66_63
theorem vd_66_64 (E : ac_E) : ac_ok E md_66 64 (o_con (.int 2) 65) := ok_iconst (E := E) (d := md_66) (pc := 64) dd_66_64 (by decide)
theorem vd_66_65 (E : ac_E) : ac_ok E md_66 65 (o_ni 67) := ok_ni (E := E) (d := md_66) (pc := 65) dd_66_65 wm_109
theorem vd_66_67 (E : ac_E) : ac_ok E md_66 67 (o_pur 5 12 70) := ok_purF (E := E) (d := md_66) (pc := 67) (ci := 5) (f := 12) (C := RX5) (T := TX5) (N := 17) (ref := RX5) rfl win_5 (by decide) rfl tyX5 tyX5_ok nmX5 (by decide +kernel : _ = some (.array .int)) (Or.inr ⟨_, rfl⟩) rfl rfl rfl wm_650 dd_66_67
theorem vd_66_70 (E : ac_E) : ac_ok E md_66 70 (o_ald 0 71) := ok_aload_n (E := E) (d := md_66) (pc := 70) (j := 0) dd_66_70
theorem vd_66_71 (E : ac_E) : ac_ok E md_66 71 (o_con (.int 4) 72) := ok_iconst (E := E) (d := md_66) (pc := 71) dd_66_71 (by decide)
theorem vd_66_72 (E : ac_E) : ac_ok E md_66 72 (o_ni 74) := ok_ni (E := E) (d := md_66) (pc := 72) dd_66_72 wm_109
theorem vd_66_74 (E : ac_E) : ac_ok E md_66 74 (o_pur 5 15 77) := ok_purF (E := E) (d := md_66) (pc := 74) (ci := 5) (f := 15) (C := RX5) (T := TX5) (N := 17) (ref := RX5) rfl win_5 (by decide) rfl tyX5 tyX5_ok nmX5 (by decide +kernel : _ = some (.array .int)) (Or.inr ⟨_, rfl⟩) rfl rfl rfl wm_653 dd_66_74
theorem vd_66_77 (E : ac_E) : ac_ok E md_66 77 (o_ald 0 78) := ok_aload_n (E := E) (d := md_66) (pc := 77) (j := 0) dd_66_77
theorem vd_66_78 (E : ac_E) : ac_ok E md_66 78 (o_con (.int 4) 79) := ok_iconst (E := E) (d := md_66) (pc := 78) dd_66_78 (by decide)
theorem vd_66_79 (E : ac_E) : ac_ok E md_66 79 (o_ni 81) := ok_ni (E := E) (d := md_66) (pc := 79) dd_66_79 wm_109
theorem vd_66_81 (E : ac_E) : ac_ok E md_66 81 (o_pur 5 16 84) := ok_purF (E := E) (d := md_66) (pc := 81) (ci := 5) (f := 16) (C := RX5) (T := TX5) (N := 17) (ref := RX5) rfl win_5 (by decide) rfl tyX5 tyX5_ok nmX5 (by decide +kernel : _ = some (.array .int)) (Or.inr ⟨_, rfl⟩) rfl rfl rfl wm_654 dd_66_81
theorem vd_66_84 (E : ac_E) : ac_ok E md_66 84 (o_ald 0 85) := ok_aload_n (E := E) (d := md_66) (pc := 84) (j := 0) dd_66_84
theorem vd_66_85 (E : ac_E) : ac_ok E md_66 85 (o_ild 1 86) := ok_iload_n (E := E) (d := md_66) (pc := 85) (j := 1) dd_66_85
theorem vd_66_86 (E : ac_E) : ac_ok E md_66 86 (o_con (.int 4) 87) := ok_iconst (E := E) (d := md_66) (pc := 86) dd_66_86 (by decide)
theorem vd_66_87 (E : ac_E) : ac_ok E md_66 87 (o_lt 102 90) := ok_icmplt (E := E) (d := md_66) (pc := 87) dd_66_87 (by decide)
theorem vd_66_90 (E : ac_E) : ac_ok E md_66 90 (o_ild 1 91) := ok_iload_n (E := E) (d := md_66) (pc := 90) (j := 1) dd_66_90
theorem vd_66_91 (E : ac_E) : ac_ok E md_66 91 (o_con (.int 16) 93) := ok_bipush (E := E) (d := md_66) (pc := 91) dd_66_91 (by decide)
theorem vd_66_93 (E : ac_E) : ac_ok E md_66 93 (o_gt 102 96) := ok_icmpgt (E := E) (d := md_66) (pc := 93) dd_66_93 (by decide)
theorem vd_66_96 (E : ac_E) : ac_ok E md_66 96 (o_ild 1 97) := ok_iload_n (E := E) (d := md_66) (pc := 96) (j := 1) dd_66_96
theorem vd_66_97 (E : ac_E) : ac_ok E md_66 97 (o_con (.int 2) 98) := ok_iconst (E := E) (d := md_66) (pc := 97) dd_66_97 (by decide)
theorem vd_66_98 (E : ac_E) : ac_ok E md_66 98 (o_rem 99) := ok_irem (E := E) (d := md_66) (pc := 98) dd_66_98
theorem vd_66_99 (E : ac_E) : ac_ok E md_66 99 (o_eq0 107 102) := ok_ifeq (E := E) (d := md_66) (pc := 99) dd_66_99 (by decide)
theorem vd_66_102 (E : ac_E) : ac_ok E md_66 102 (o_con (.int 8) 104) := ok_bipush (E := E) (d := md_66) (pc := 102) dd_66_102 (by decide)
theorem vd_66_104 (E : ac_E) : ac_ok E md_66 104 (o_go 108) := ok_goto (E := E) (d := md_66) (pc := 104) dd_66_104 (by decide)
theorem vd_66_107 (E : ac_E) : ac_ok E md_66 107 (o_ild 1 108) := ok_iload_n (E := E) (d := md_66) (pc := 107) (j := 1) dd_66_107
theorem vd_66_108 (E : ac_E) : ac_ok E md_66 108 (o_put 5 1 111) := ok_putF (E := E) (d := md_66) (pc := 108) (ci := 5) (f := 1) (C := RX5) (T := TX5) (N := 17) (ref := RX5) rfl win_5 (by decide) rfl tyX5 tyX5_ok nmX5 (by decide +kernel) rfl rfl rfl wm_639 dd_66_108
theorem vd_66_111 (E : ac_E) : ac_ok E md_66 111 (o_ald 0 112) := ok_aload_n (E := E) (d := md_66) (pc := 111) (j := 0) dd_66_111
theorem vd_66_112 (E : ac_E) : ac_ok E md_66 112 (o_ild 2 113) := ok_iload_n (E := E) (d := md_66) (pc := 112) (j := 2) dd_66_112
theorem vd_66_113 (E : ac_E) : ac_ok E md_66 113 (o_con (.int 4) 114) := ok_iconst (E := E) (d := md_66) (pc := 113) dd_66_113 (by decide)
theorem vd_66_114 (E : ac_E) : ac_ok E md_66 114 (o_lt 129 117) := ok_icmplt (E := E) (d := md_66) (pc := 114) dd_66_114 (by decide)
theorem vd_66_117 (E : ac_E) : ac_ok E md_66 117 (o_ild 2 118) := ok_iload_n (E := E) (d := md_66) (pc := 117) (j := 2) dd_66_117
theorem vd_66_118 (E : ac_E) : ac_ok E md_66 118 (o_con (.int 16) 120) := ok_bipush (E := E) (d := md_66) (pc := 118) dd_66_118 (by decide)
theorem vd_66_120 (E : ac_E) : ac_ok E md_66 120 (o_gt 129 123) := ok_icmpgt (E := E) (d := md_66) (pc := 120) dd_66_120 (by decide)
theorem vd_66_123 (E : ac_E) : ac_ok E md_66 123 (o_ild 2 124) := ok_iload_n (E := E) (d := md_66) (pc := 123) (j := 2) dd_66_123
theorem vd_66_124 (E : ac_E) : ac_ok E md_66 124 (o_con (.int 2) 125) := ok_iconst (E := E) (d := md_66) (pc := 124) dd_66_124 (by decide)
theorem vd_66_125 (E : ac_E) : ac_ok E md_66 125 (o_rem 126) := ok_irem (E := E) (d := md_66) (pc := 125) dd_66_125
theorem vd_66_126 (E : ac_E) : ac_ok E md_66 126 (o_eq0 134 129) := ok_ifeq (E := E) (d := md_66) (pc := 126) dd_66_126 (by decide)
theorem vd_66_129 (E : ac_E) : ac_ok E md_66 129 (o_con (.int 8) 131) := ok_bipush (E := E) (d := md_66) (pc := 129) dd_66_129 (by decide)
theorem vd_66_131 (E : ac_E) : ac_ok E md_66 131 (o_go 135) := ok_goto (E := E) (d := md_66) (pc := 131) dd_66_131 (by decide)
theorem vd_66_134 (E : ac_E) : ac_ok E md_66 134 (o_ild 2 135) := ok_iload_n (E := E) (d := md_66) (pc := 134) (j := 2) dd_66_134
theorem vd_66_135 (E : ac_E) : ac_ok E md_66 135 (o_put 5 2 138) := ok_putF (E := E) (d := md_66) (pc := 135) (ci := 5) (f := 2) (C := RX5) (T := TX5) (N := 17) (ref := RX5) rfl win_5 (by decide) rfl tyX5 tyX5_ok nmX5 (by decide +kernel) rfl rfl rfl wm_640 dd_66_135
theorem va_66 (E : ac_E) (pc : Nat) : ac_V E ac_MDf ac_HDf 66 pc (tb_66 (ac_len E) (ac_xs E) pc) := (ac_node (ac_node (ac_node (ac_node (ac_node (ac_node (ac_leaf 0 (⟨vd_66_0 E, mn_ald _ _⟩)) (ac_leaf 1 (⟨vd_66_1 E, mn_obj1 _⟩))) (ac_node (ac_leaf 4 (⟨vd_66_4 E, mn_ald _ _⟩)) (ac_leaf 5 (⟨vd_66_5 E, mn_con _ _⟩)))) (ac_node (ac_node (ac_leaf 8 (⟨vd_66_8 E, mn_ni _⟩)) (ac_leaf 10 (⟨vd_66_10 E, mn_pur _ _ _⟩))) (ac_node (ac_leaf 13 (⟨vd_66_13 E, mn_ald _ _⟩)) (ac_node (ac_leaf 14 (⟨vd_66_14 E, mn_con _ _⟩)) (ac_leaf 17 (⟨vd_66_17 E, mn_ni _⟩)))))) (ac_node (ac_node (ac_node (ac_leaf 19 (⟨vd_66_19 E, mn_pur _ _ _⟩)) (ac_leaf 22 (⟨vd_66_22 E, mn_ald _ _⟩))) (ac_node (ac_leaf 23 (⟨vd_66_23 E, mn_con _ _⟩)) (ac_leaf 26 (⟨vd_66_26 E, mn_ni _⟩)))) (ac_node (ac_node (ac_leaf 28 (⟨vd_66_28 E, mn_pur _ _ _⟩)) (ac_leaf 31 (⟨vd_66_31 E, mn_ald _ _⟩))) (ac_node (ac_leaf 32 (⟨vd_66_32 E, mn_con _ _⟩)) (ac_node (ac_leaf 35 (⟨vd_66_35 E, mn_ni _⟩)) (ac_leaf 37 (⟨vd_66_37 E, mn_pur _ _ _⟩))))))) (ac_node (ac_node (ac_node (ac_node (ac_leaf 40 (⟨vd_66_40 E, mn_ald _ _⟩)) (ac_leaf 41 (⟨vd_66_41 E, mn_con _ _⟩))) (ac_node (ac_leaf 44 (⟨vd_66_44 E, mn_nz _⟩)) (ac_leaf 46 (⟨vd_66_46 E, mn_pur _ _ _⟩)))) (ac_node (ac_node (ac_leaf 49 (⟨vd_66_49 E, mn_ald _ _⟩)) (ac_leaf 50 (⟨vd_66_50 E, mn_con _ _⟩))) (ac_node (ac_leaf 52 (⟨vd_66_52 E, mn_ni _⟩)) (ac_node (ac_leaf 54 (⟨vd_66_54 E, mn_pur _ _ _⟩)) (ac_leaf 57 (⟨vd_66_57 E, mn_ald _ _⟩)))))) (ac_node (ac_node (ac_node (ac_leaf 58 (⟨vd_66_58 E, mn_con _ _⟩)) (ac_leaf 60 (⟨vd_66_60 E, mn_put _ _ _⟩))) (ac_node (ac_leaf 63 (⟨vd_66_63 E, mn_ald _ _⟩)) (ac_leaf 64 (⟨vd_66_64 E, mn_con _ _⟩)))) (ac_node (ac_node (ac_leaf 65 (⟨vd_66_65 E, mn_ni _⟩)) (ac_leaf 67 (⟨vd_66_67 E, mn_pur _ _ _⟩))) (ac_node (ac_leaf 70 (⟨vd_66_70 E, mn_ald _ _⟩)) (ac_node (ac_leaf 71 (⟨vd_66_71 E, mn_con _ _⟩)) (ac_leaf 72 (⟨vd_66_72 E, mn_ni _⟩)))))))) (ac_node (ac_node (ac_node (ac_node (ac_node (ac_leaf 74 (⟨vd_66_74 E, mn_pur _ _ _⟩)) (ac_leaf 77 (⟨vd_66_77 E, mn_ald _ _⟩))) (ac_node (ac_leaf 78 (⟨vd_66_78 E, mn_con _ _⟩)) (ac_leaf 79 (⟨vd_66_79 E, mn_ni _⟩)))) (ac_node (ac_node (ac_leaf 81 (⟨vd_66_81 E, mn_pur _ _ _⟩)) (ac_leaf 84 (⟨vd_66_84 E, mn_ald _ _⟩))) (ac_node (ac_leaf 85 (⟨vd_66_85 E, mn_ild _ _⟩)) (ac_node (ac_leaf 86 (⟨vd_66_86 E, mn_con _ _⟩)) (ac_leaf 87 (⟨vd_66_87 E, mn_lt _ _⟩)))))) (ac_node (ac_node (ac_node (ac_leaf 90 (⟨vd_66_90 E, mn_ild _ _⟩)) (ac_leaf 91 (⟨vd_66_91 E, mn_con _ _⟩))) (ac_node (ac_leaf 93 (⟨vd_66_93 E, mn_gt _ _⟩)) (ac_leaf 96 (⟨vd_66_96 E, mn_ild _ _⟩)))) (ac_node (ac_node (ac_leaf 97 (⟨vd_66_97 E, mn_con _ _⟩)) (ac_leaf 98 (⟨vd_66_98 E, mn_rem _⟩))) (ac_node (ac_leaf 99 (⟨vd_66_99 E, mn_eq0 _ _⟩)) (ac_node (ac_leaf 102 (⟨vd_66_102 E, mn_con _ _⟩)) (ac_leaf 104 (⟨vd_66_104 E, mn_go _⟩))))))) (ac_node (ac_node (ac_node (ac_node (ac_leaf 107 (⟨vd_66_107 E, mn_ild _ _⟩)) (ac_leaf 108 (⟨vd_66_108 E, mn_put _ _ _⟩))) (ac_node (ac_leaf 111 (⟨vd_66_111 E, mn_ald _ _⟩)) (ac_leaf 112 (⟨vd_66_112 E, mn_ild _ _⟩)))) (ac_node (ac_node (ac_leaf 113 (⟨vd_66_113 E, mn_con _ _⟩)) (ac_leaf 114 (⟨vd_66_114 E, mn_lt _ _⟩))) (ac_node (ac_leaf 117 (⟨vd_66_117 E, mn_ild _ _⟩)) (ac_node (ac_leaf 118 (⟨vd_66_118 E, mn_con _ _⟩)) (ac_leaf 120 (⟨vd_66_120 E, mn_gt _ _⟩)))))) (ac_node (ac_node (ac_node (ac_leaf 123 (⟨vd_66_123 E, mn_ild _ _⟩)) (ac_leaf 124 (⟨vd_66_124 E, mn_con _ _⟩))) (ac_node (ac_leaf 125 (⟨vd_66_125 E, mn_rem _⟩)) (ac_leaf 126 (⟨vd_66_126 E, mn_eq0 _ _⟩)))) (ac_node (ac_node (ac_leaf 129 (⟨vd_66_129 E, mn_con _ _⟩)) (ac_leaf 131 (⟨vd_66_131 E, mn_go _⟩))) (ac_node (ac_leaf 134 (⟨vd_66_134 E, mn_ild _ _⟩)) (ac_node (ac_leaf 135 (⟨vd_66_135 E, mn_put _ _ _⟩)) (ac_leaf 138 (ac_Vr0 dd_66_138 rfl)))))))))
theorem vd_67_0 (E : ac_E) : ac_ok E md_67 0 (o_ald 0 1) := ok_aload_n (E := E) (d := md_67) (pc := 0) (j := 0) dd_67_0
theorem vd_67_1 (E : ac_E) : ac_ok E md_67 1 (o_get 5 0 4) := ok_getf (E := E) (d := md_67) (pc := 1) (ci := 5) (f := 0) (C := RX5) (T := TX5) (N := 17) (ref := RX5) rfl win_5 (by decide) rfl wm_638 dd_67_1
theorem va_67 (E : ac_E) (pc : Nat) : ac_V E ac_MDf ac_HDf 67 pc (tb_67 (ac_len E) (ac_xs E) pc) := (ac_node (ac_leaf 0 (⟨vd_67_0 E, mn_ald _ _⟩)) (ac_node (ac_leaf 1 (⟨vd_67_1 E, mn_get _ _ _⟩)) (ac_leaf 4 (ac_Vr1 dd_67_4 rfl))))
theorem vd_68_0 (E : ac_E) : ac_ok E md_68 0 (o_ild 1 1) := ok_iload_n (E := E) (d := md_68) (pc := 0) (j := 1) dd_68_0
theorem vd_68_1 (E : ac_E) : ac_ok E md_68 1 (o_lt0 28 4) := ok_iflt (E := E) (d := md_68) (pc := 1) dd_68_1 (by decide)
theorem vd_68_4 (E : ac_E) : ac_ok E md_68 4 (o_ild 1 5) := ok_iload_n (E := E) (d := md_68) (pc := 4) (j := 1) dd_68_4
theorem vd_68_5 (E : ac_E) : ac_ok E md_68 5 (o_ald 0 6) := ok_aload_n (E := E) (d := md_68) (pc := 5) (j := 0) dd_68_5
theorem vd_68_6 (E : ac_E) : ac_ok E md_68 6 (o_get 5 1 9) := ok_getf (E := E) (d := md_68) (pc := 6) (ci := 5) (f := 1) (C := RX5) (T := TX5) (N := 17) (ref := RX5) rfl win_5 (by decide) rfl wm_639 dd_68_6
theorem vd_68_9 (E : ac_E) : ac_ok E md_68 9 (o_ge 28 12) := ok_icmpge (E := E) (d := md_68) (pc := 9) dd_68_9 (by decide)
theorem vd_68_12 (E : ac_E) : ac_ok E md_68 12 (o_ild 2 13) := ok_iload_n (E := E) (d := md_68) (pc := 12) (j := 2) dd_68_12
theorem vd_68_13 (E : ac_E) : ac_ok E md_68 13 (o_lt0 28 16) := ok_iflt (E := E) (d := md_68) (pc := 13) dd_68_13 (by decide)
theorem vd_68_16 (E : ac_E) : ac_ok E md_68 16 (o_ild 2 17) := ok_iload_n (E := E) (d := md_68) (pc := 16) (j := 2) dd_68_16
theorem vd_68_17 (E : ac_E) : ac_ok E md_68 17 (o_ald 0 18) := ok_aload_n (E := E) (d := md_68) (pc := 17) (j := 0) dd_68_17
theorem vd_68_18 (E : ac_E) : ac_ok E md_68 18 (o_get 5 2 21) := ok_getf (E := E) (d := md_68) (pc := 18) (ci := 5) (f := 2) (C := RX5) (T := TX5) (N := 17) (ref := RX5) rfl win_5 (by decide) rfl wm_640 dd_68_18
theorem vd_68_21 (E : ac_E) : ac_ok E md_68 21 (o_ge 28 24) := ok_icmpge (E := E) (d := md_68) (pc := 21) dd_68_21 (by decide)
theorem vd_68_24 (E : ac_E) : ac_ok E md_68 24 (o_con (.int 1) 25) := ok_iconst (E := E) (d := md_68) (pc := 24) dd_68_24 (by decide)
theorem vd_68_25 (E : ac_E) : ac_ok E md_68 25 (o_go 29) := ok_goto (E := E) (d := md_68) (pc := 25) dd_68_25 (by decide)
theorem vd_68_28 (E : ac_E) : ac_ok E md_68 28 (o_con (.int 0) 29) := ok_iconst (E := E) (d := md_68) (pc := 28) dd_68_28 (by decide)
theorem va_68 (E : ac_E) (pc : Nat) : ac_V E ac_MDf ac_HDf 68 pc (tb_68 (ac_len E) (ac_xs E) pc) := (ac_node (ac_node (ac_node (ac_node (ac_leaf 0 (⟨vd_68_0 E, mn_ild _ _⟩)) (ac_leaf 1 (⟨vd_68_1 E, mn_lt0 _ _⟩))) (ac_node (ac_leaf 4 (⟨vd_68_4 E, mn_ild _ _⟩)) (ac_leaf 5 (⟨vd_68_5 E, mn_ald _ _⟩)))) (ac_node (ac_node (ac_leaf 6 (⟨vd_68_6 E, mn_get _ _ _⟩)) (ac_leaf 9 (⟨vd_68_9 E, mn_ge _ _⟩))) (ac_node (ac_leaf 12 (⟨vd_68_12 E, mn_ild _ _⟩)) (ac_leaf 13 (⟨vd_68_13 E, mn_lt0 _ _⟩))))) (ac_node (ac_node (ac_node (ac_leaf 16 (⟨vd_68_16 E, mn_ild _ _⟩)) (ac_leaf 17 (⟨vd_68_17 E, mn_ald _ _⟩))) (ac_node (ac_leaf 18 (⟨vd_68_18 E, mn_get _ _ _⟩)) (ac_leaf 21 (⟨vd_68_21 E, mn_ge _ _⟩)))) (ac_node (ac_node (ac_leaf 24 (⟨vd_68_24 E, mn_con _ _⟩)) (ac_leaf 25 (⟨vd_68_25 E, mn_go _⟩))) (ac_node (ac_leaf 28 (⟨vd_68_28 E, mn_con _ _⟩)) (ac_leaf 29 (ac_Vr2 dd_68_29 rfl))))))
theorem vd_69_0 (E : ac_E) : ac_ok E md_69 0 (o_ild 0 1) := ok_iload_n (E := E) (d := md_69) (pc := 0) (j := 0) dd_69_0
theorem vd_69_1 (E : ac_E) : ac_ok E md_69 1 (o_sw [40, 50, 60, 70, 80, 90] 100) := ok_sw (E := E) (d := md_69) (pc := 1) dd_69_1 rfl (by decide) (by decide) (by decide +kernel)
theorem vd_69_40 (E : ac_E) : ac_ok E md_69 40 (o_ild 1 41) := ok_iload_n (E := E) (d := md_69) (pc := 40) (j := 1) dd_69_40
theorem vd_69_41 (E : ac_E) : ac_ok E md_69 41 (o_ne0 48 44) := ok_ifne (E := E) (d := md_69) (pc := 41) dd_69_41 (by decide)
theorem vd_69_44 (E : ac_E) : ac_ok E md_69 44 (o_con (.int 1) 45) := ok_iconst (E := E) (d := md_69) (pc := 44) dd_69_44 (by decide)
theorem vd_69_45 (E : ac_E) : ac_ok E md_69 45 (o_go 49) := ok_goto (E := E) (d := md_69) (pc := 45) dd_69_45 (by decide)
theorem vd_69_48 (E : ac_E) : ac_ok E md_69 48 (o_con (.int 0) 49) := ok_iconst (E := E) (d := md_69) (pc := 48) dd_69_48 (by decide)
theorem vd_69_50 (E : ac_E) : ac_ok E md_69 50 (o_ild 1 51) := ok_iload_n (E := E) (d := md_69) (pc := 50) (j := 1) dd_69_50
theorem vd_69_51 (E : ac_E) : ac_ok E md_69 51 (o_ne0 58 54) := ok_ifne (E := E) (d := md_69) (pc := 51) dd_69_51 (by decide)
theorem vd_69_54 (E : ac_E) : ac_ok E md_69 54 (o_con (.int 0) 55) := ok_iconst (E := E) (d := md_69) (pc := 54) dd_69_54 (by decide)
theorem vd_69_55 (E : ac_E) : ac_ok E md_69 55 (o_go 59) := ok_goto (E := E) (d := md_69) (pc := 55) dd_69_55 (by decide)
theorem vd_69_58 (E : ac_E) : ac_ok E md_69 58 (o_con (.int 1) 59) := ok_iconst (E := E) (d := md_69) (pc := 58) dd_69_58 (by decide)
theorem vd_69_60 (E : ac_E) : ac_ok E md_69 60 (o_ild 1 61) := ok_iload_n (E := E) (d := md_69) (pc := 60) (j := 1) dd_69_60
theorem vd_69_61 (E : ac_E) : ac_ok E md_69 61 (o_ne0 68 64) := ok_ifne (E := E) (d := md_69) (pc := 61) dd_69_61 (by decide)
theorem vd_69_64 (E : ac_E) : ac_ok E md_69 64 (o_con (.int (-1)) 65) := ok_iconst (E := E) (d := md_69) (pc := 64) dd_69_64 (by decide)
theorem vd_69_65 (E : ac_E) : ac_ok E md_69 65 (o_go 69) := ok_goto (E := E) (d := md_69) (pc := 65) dd_69_65 (by decide)
theorem vd_69_68 (E : ac_E) : ac_ok E md_69 68 (o_con (.int 1) 69) := ok_iconst (E := E) (d := md_69) (pc := 68) dd_69_68 (by decide)
theorem vd_69_70 (E : ac_E) : ac_ok E md_69 70 (o_ild 1 71) := ok_iload_n (E := E) (d := md_69) (pc := 70) (j := 1) dd_69_70
theorem vd_69_71 (E : ac_E) : ac_ok E md_69 71 (o_ne0 78 74) := ok_ifne (E := E) (d := md_69) (pc := 71) dd_69_71 (by decide)
theorem vd_69_74 (E : ac_E) : ac_ok E md_69 74 (o_con (.int (-1)) 75) := ok_iconst (E := E) (d := md_69) (pc := 74) dd_69_74 (by decide)
theorem vd_69_75 (E : ac_E) : ac_ok E md_69 75 (o_go 79) := ok_goto (E := E) (d := md_69) (pc := 75) dd_69_75 (by decide)
theorem vd_69_78 (E : ac_E) : ac_ok E md_69 78 (o_con (.int 0) 79) := ok_iconst (E := E) (d := md_69) (pc := 78) dd_69_78 (by decide)
theorem vd_69_80 (E : ac_E) : ac_ok E md_69 80 (o_ild 1 81) := ok_iload_n (E := E) (d := md_69) (pc := 80) (j := 1) dd_69_80
theorem vd_69_81 (E : ac_E) : ac_ok E md_69 81 (o_ne0 88 84) := ok_ifne (E := E) (d := md_69) (pc := 81) dd_69_81 (by decide)
theorem vd_69_84 (E : ac_E) : ac_ok E md_69 84 (o_con (.int 0) 85) := ok_iconst (E := E) (d := md_69) (pc := 84) dd_69_84 (by decide)
theorem vd_69_85 (E : ac_E) : ac_ok E md_69 85 (o_go 89) := ok_goto (E := E) (d := md_69) (pc := 85) dd_69_85 (by decide)
theorem vd_69_88 (E : ac_E) : ac_ok E md_69 88 (o_con (.int (-1)) 89) := ok_iconst (E := E) (d := md_69) (pc := 88) dd_69_88 (by decide)
theorem vd_69_90 (E : ac_E) : ac_ok E md_69 90 (o_ild 1 91) := ok_iload_n (E := E) (d := md_69) (pc := 90) (j := 1) dd_69_90
theorem vd_69_91 (E : ac_E) : ac_ok E md_69 91 (o_ne0 98 94) := ok_ifne (E := E) (d := md_69) (pc := 91) dd_69_91 (by decide)
theorem vd_69_94 (E : ac_E) : ac_ok E md_69 94 (o_con (.int 1) 95) := ok_iconst (E := E) (d := md_69) (pc := 94) dd_69_94 (by decide)
theorem vd_69_95 (E : ac_E) : ac_ok E md_69 95 (o_go 99) := ok_goto (E := E) (d := md_69) (pc := 95) dd_69_95 (by decide)
theorem vd_69_98 (E : ac_E) : ac_ok E md_69 98 (o_con (.int (-1)) 99) := ok_iconst (E := E) (d := md_69) (pc := 98) dd_69_98 (by decide)
theorem vd_69_100 (E : ac_E) : ac_ok E md_69 100 (o_con (.int 0) 101) := ok_iconst (E := E) (d := md_69) (pc := 100) dd_69_100 (by decide)
theorem va_69 (E : ac_E) (pc : Nat) : ac_V E ac_MDf ac_HDf 69 pc (tb_69 (ac_len E) (ac_xs E) pc) := (ac_node (ac_node (ac_node (ac_node (ac_node (ac_leaf 0 (⟨vd_69_0 E, mn_ild _ _⟩)) (ac_leaf 1 (⟨vd_69_1 E, mn_sw _ _⟩))) (ac_node (ac_leaf 40 (⟨vd_69_40 E, mn_ild _ _⟩)) (ac_node (ac_leaf 41 (⟨vd_69_41 E, mn_ne0 _ _⟩)) (ac_leaf 44 (⟨vd_69_44 E, mn_con _ _⟩))))) (ac_node (ac_node (ac_leaf 45 (⟨vd_69_45 E, mn_go _⟩)) (ac_leaf 48 (⟨vd_69_48 E, mn_con _ _⟩))) (ac_node (ac_leaf 49 (ac_Vr1 dd_69_49 rfl)) (ac_node (ac_leaf 50 (⟨vd_69_50 E, mn_ild _ _⟩)) (ac_leaf 51 (⟨vd_69_51 E, mn_ne0 _ _⟩)))))) (ac_node (ac_node (ac_node (ac_leaf 54 (⟨vd_69_54 E, mn_con _ _⟩)) (ac_leaf 55 (⟨vd_69_55 E, mn_go _⟩))) (ac_node (ac_leaf 58 (⟨vd_69_58 E, mn_con _ _⟩)) (ac_node (ac_leaf 59 (ac_Vr1 dd_69_59 rfl)) (ac_leaf 60 (⟨vd_69_60 E, mn_ild _ _⟩))))) (ac_node (ac_node (ac_leaf 61 (⟨vd_69_61 E, mn_ne0 _ _⟩)) (ac_leaf 64 (⟨vd_69_64 E, mn_con _ _⟩))) (ac_node (ac_leaf 65 (⟨vd_69_65 E, mn_go _⟩)) (ac_node (ac_leaf 68 (⟨vd_69_68 E, mn_con _ _⟩)) (ac_leaf 69 (ac_Vr1 dd_69_69 rfl))))))) (ac_node (ac_node (ac_node (ac_node (ac_leaf 70 (⟨vd_69_70 E, mn_ild _ _⟩)) (ac_leaf 71 (⟨vd_69_71 E, mn_ne0 _ _⟩))) (ac_node (ac_leaf 74 (⟨vd_69_74 E, mn_con _ _⟩)) (ac_node (ac_leaf 75 (⟨vd_69_75 E, mn_go _⟩)) (ac_leaf 78 (⟨vd_69_78 E, mn_con _ _⟩))))) (ac_node (ac_node (ac_leaf 79 (ac_Vr1 dd_69_79 rfl)) (ac_leaf 80 (⟨vd_69_80 E, mn_ild _ _⟩))) (ac_node (ac_leaf 81 (⟨vd_69_81 E, mn_ne0 _ _⟩)) (ac_node (ac_leaf 84 (⟨vd_69_84 E, mn_con _ _⟩)) (ac_leaf 85 (⟨vd_69_85 E, mn_go _⟩)))))) (ac_node (ac_node (ac_node (ac_leaf 88 (⟨vd_69_88 E, mn_con _ _⟩)) (ac_leaf 89 (ac_Vr1 dd_69_89 rfl))) (ac_node (ac_leaf 90 (⟨vd_69_90 E, mn_ild _ _⟩)) (ac_node (ac_leaf 91 (⟨vd_69_91 E, mn_ne0 _ _⟩)) (ac_leaf 94 (⟨vd_69_94 E, mn_con _ _⟩))))) (ac_node (ac_node (ac_leaf 95 (⟨vd_69_95 E, mn_go _⟩)) (ac_leaf 98 (⟨vd_69_98 E, mn_con _ _⟩))) (ac_node (ac_leaf 99 (ac_Vr1 dd_69_99 rfl)) (ac_node (ac_leaf 100 (⟨vd_69_100 E, mn_con _ _⟩)) (ac_leaf 101 (ac_Vr1 dd_69_101 rfl))))))))
theorem vd_70_0 (E : ac_E) : ac_ok E md_70 0 (o_ild 0 1) := ok_iload_n (E := E) (d := md_70) (pc := 0) (j := 0) dd_70_0
theorem vd_70_1 (E : ac_E) : ac_ok E md_70 1 (o_ild 1 2) := ok_iload_n (E := E) (d := md_70) (pc := 1) (j := 1) dd_70_1
theorem vd_70_2 (E : ac_E) : ac_ok E md_70 2 (o_shr 3) := ok_ishr (E := E) (d := md_70) (pc := 2) dd_70_2
theorem vd_70_3 (E : ac_E) : ac_ok E md_70 3 (o_con (.int 1) 4) := ok_iconst (E := E) (d := md_70) (pc := 3) dd_70_3 (by decide)
theorem vd_70_4 (E : ac_E) : ac_ok E md_70 4 (o_and 5) := ok_iand (E := E) (d := md_70) (pc := 4) dd_70_4
theorem vd_70_5 (E : ac_E) : ac_ok E md_70 5 (o_con (.int 1) 6) := ok_iconst (E := E) (d := md_70) (pc := 5) dd_70_5 (by decide)
theorem vd_70_6 (E : ac_E) : ac_ok E md_70 6 (o_ne 13 9) := ok_icmpne (E := E) (d := md_70) (pc := 6) dd_70_6 (by decide)
theorem vd_70_9 (E : ac_E) : ac_ok E md_70 9 (o_con (.int 1) 10) := ok_iconst (E := E) (d := md_70) (pc := 9) dd_70_9 (by decide)
theorem vd_70_10 (E : ac_E) : ac_ok E md_70 10 (o_go 14) := ok_goto (E := E) (d := md_70) (pc := 10) dd_70_10 (by decide)
theorem vd_70_13 (E : ac_E) : ac_ok E md_70 13 (o_con (.int 0) 14) := ok_iconst (E := E) (d := md_70) (pc := 13) dd_70_13 (by decide)
theorem va_70 (E : ac_E) (pc : Nat) : ac_V E ac_MDf ac_HDf 70 pc (tb_70 (ac_len E) (ac_xs E) pc) := (ac_node (ac_node (ac_node (ac_leaf 0 (⟨vd_70_0 E, mn_ild _ _⟩)) (ac_leaf 1 (⟨vd_70_1 E, mn_ild _ _⟩))) (ac_node (ac_leaf 2 (⟨vd_70_2 E, mn_shr _⟩)) (ac_node (ac_leaf 3 (⟨vd_70_3 E, mn_con _ _⟩)) (ac_leaf 4 (⟨vd_70_4 E, mn_and _⟩))))) (ac_node (ac_node (ac_leaf 5 (⟨vd_70_5 E, mn_con _ _⟩)) (ac_node (ac_leaf 6 (⟨vd_70_6 E, mn_ne _ _⟩)) (ac_leaf 9 (⟨vd_70_9 E, mn_con _ _⟩)))) (ac_node (ac_leaf 10 (⟨vd_70_10 E, mn_go _⟩)) (ac_node (ac_leaf 13 (⟨vd_70_13 E, mn_con _ _⟩)) (ac_leaf 14 (ac_Vr2 dd_70_14 rfl))))))
theorem vd_71_0 (E : ac_E) : ac_ok E md_71 0 (o_con (.int 0) 1) := ok_iconst (E := E) (d := md_71) (pc := 0) dd_71_0 (by decide)
theorem vd_71_1 (E : ac_E) : ac_ok E md_71 1 (o_ist 1 2) := ok_istore_n (E := E) (d := md_71) (pc := 1) (j := 1) dd_71_1
theorem vd_71_2 (E : ac_E) : ac_ok E md_71 2 (o_con (.int 0) 3) := ok_iconst (E := E) (d := md_71) (pc := 2) dd_71_2 (by decide)
theorem vd_71_3 (E : ac_E) : ac_ok E md_71 3 (o_ist 2 4) := ok_istore_n (E := E) (d := md_71) (pc := 3) (j := 2) dd_71_3
theorem vd_71_4 (E : ac_E) : ac_ok E md_71 4 (o_ild 2 5) := ok_iload_n (E := E) (d := md_71) (pc := 4) (j := 2) dd_71_4
theorem vd_71_5 (E : ac_E) : ac_ok E md_71 5 (o_con (.int 7) 7) := ok_bipush (E := E) (d := md_71) (pc := 5) dd_71_5 (by decide)
theorem vd_71_7 (E : ac_E) : ac_ok E md_71 7 (o_ge 32 10) := ok_icmpge (E := E) (d := md_71) (pc := 7) dd_71_7 (by decide)
theorem vd_71_10 (E : ac_E) : ac_ok E md_71 10 (o_ild 0 11) := ok_iload_n (E := E) (d := md_71) (pc := 10) (j := 0) dd_71_10
theorem vd_71_11 (E : ac_E) : ac_ok E md_71 11 (o_ild 2 12) := ok_iload_n (E := E) (d := md_71) (pc := 11) (j := 2) dd_71_11
theorem vd_71_12 (E : ac_E) : ac_okr E md_71 md_70 12 2 15 0 ∧ ac_okt E md_71 md_70 12 2 0 := ok_callS (E := E) (d := md_71) (dz := md_70) (pc := 12) rfl (by decide) (by decide +kernel) wm_707 wm_56 wm_705 wm_706 dd_71_12
theorem vd_71_15 (E : ac_E) : ac_ok E md_71 15 (o_eq0 24 18) := ok_ifeq (E := E) (d := md_71) (pc := 15) dd_71_15 (by decide)
theorem vd_71_18 (E : ac_E) : ac_ok E md_71 18 (o_ild 1 19) := ok_iload_n (E := E) (d := md_71) (pc := 18) (j := 1) dd_71_18
theorem vd_71_19 (E : ac_E) : ac_ok E md_71 19 (o_con (.int 1) 20) := ok_iconst (E := E) (d := md_71) (pc := 19) dd_71_19 (by decide)
theorem vd_71_20 (E : ac_E) : ac_ok E md_71 20 (o_add 21) := ok_iadd (E := E) (d := md_71) (pc := 20) dd_71_20
theorem vd_71_21 (E : ac_E) : ac_ok E md_71 21 (o_go 25) := ok_goto (E := E) (d := md_71) (pc := 21) dd_71_21 (by decide)
theorem vd_71_24 (E : ac_E) : ac_ok E md_71 24 (o_ild 1 25) := ok_iload_n (E := E) (d := md_71) (pc := 24) (j := 1) dd_71_24
theorem vd_71_25 (E : ac_E) : ac_ok E md_71 25 (o_ist 1 26) := ok_istore_n (E := E) (d := md_71) (pc := 25) (j := 1) dd_71_25
theorem vd_71_26 (E : ac_E) : ac_ok E md_71 26 (o_inc 2 1 29) := ok_iinc (E := E) (d := md_71) (pc := 26) dd_71_26 (by decide)
theorem vd_71_29 (E : ac_E) : ac_ok E md_71 29 (o_go 4) := ok_goto (E := E) (d := md_71) (pc := 29) dd_71_29 (by decide)
theorem vd_71_32 (E : ac_E) : ac_ok E md_71 32 (o_ild 1 33) := ok_iload_n (E := E) (d := md_71) (pc := 32) (j := 1) dd_71_32
theorem va_71 (E : ac_E) (pc : Nat) : ac_V E ac_MDf ac_HDf 71 pc (tb_71 (ac_len E) (ac_xs E) pc) := (ac_node (ac_node (ac_node (ac_node (ac_leaf 0 (⟨vd_71_0 E, mn_con _ _⟩)) (ac_leaf 1 (⟨vd_71_1 E, mn_ist _ _⟩))) (ac_node (ac_leaf 2 (⟨vd_71_2 E, mn_con _ _⟩)) (ac_node (ac_leaf 3 (⟨vd_71_3 E, mn_ist _ _⟩)) (ac_leaf 4 (⟨vd_71_4 E, mn_ild _ _⟩))))) (ac_node (ac_node (ac_leaf 5 (⟨vd_71_5 E, mn_con _ _⟩)) (ac_leaf 7 (⟨vd_71_7 E, mn_ge _ _⟩))) (ac_node (ac_leaf 10 (⟨vd_71_10 E, mn_ild _ _⟩)) (ac_node (ac_leaf 11 (⟨vd_71_11 E, mn_ild _ _⟩)) (ac_leaf 12 (ac_Vc0 ((vd_71_12 E).1) (fun _ => rfl))))))) (ac_node (ac_node (ac_node (ac_leaf 15 (⟨vd_71_15 E, mn_eq0 _ _⟩)) (ac_leaf 18 (⟨vd_71_18 E, mn_ild _ _⟩))) (ac_node (ac_leaf 19 (⟨vd_71_19 E, mn_con _ _⟩)) (ac_node (ac_leaf 20 (⟨vd_71_20 E, mn_add _⟩)) (ac_leaf 21 (⟨vd_71_21 E, mn_go _⟩))))) (ac_node (ac_node (ac_leaf 24 (⟨vd_71_24 E, mn_ild _ _⟩)) (ac_node (ac_leaf 25 (⟨vd_71_25 E, mn_ist _ _⟩)) (ac_leaf 26 (⟨vd_71_26 E, mn_inc _ _ _⟩)))) (ac_node (ac_leaf 29 (⟨vd_71_29 E, mn_go _⟩)) (ac_node (ac_leaf 32 (⟨vd_71_32 E, mn_ild _ _⟩)) (ac_leaf 33 (ac_Vr1 dd_71_33 rfl)))))))
theorem vd_72_0 (E : ac_E) : ac_ok E md_72 0 (o_ild 0 1) := ok_iload_n (E := E) (d := md_72) (pc := 0) (j := 0) dd_72_0
theorem vd_72_1 (E : ac_E) : ac_ok E md_72 1 (o_con (.int 64) 3) := ok_bipush (E := E) (d := md_72) (pc := 1) dd_72_1 (by decide)
theorem vd_72_3 (E : ac_E) : ac_ok E md_72 3 (o_and 4) := ok_iand (E := E) (d := md_72) (pc := 3) dd_72_3
theorem vd_72_4 (E : ac_E) : ac_ok E md_72 4 (o_ist 2 5) := ok_istore_n (E := E) (d := md_72) (pc := 4) (j := 2) dd_72_4
theorem vd_72_5 (E : ac_E) : ac_ok E md_72 5 (o_con (.int 0) 6) := ok_iconst (E := E) (d := md_72) (pc := 5) dd_72_5 (by decide)
theorem vd_72_6 (E : ac_E) : ac_ok E md_72 6 (o_ist 3 7) := ok_istore_n (E := E) (d := md_72) (pc := 6) (j := 3) dd_72_6
theorem vd_72_7 (E : ac_E) : ac_ok E md_72 7 (o_ild 3 8) := ok_iload_n (E := E) (d := md_72) (pc := 7) (j := 3) dd_72_7
theorem vd_72_8 (E : ac_E) : ac_ok E md_72 8 (o_con (.int 6) 10) := ok_bipush (E := E) (d := md_72) (pc := 8) dd_72_8 (by decide)
theorem vd_72_10 (E : ac_E) : ac_ok E md_72 10 (o_ge 42 13) := ok_icmpge (E := E) (d := md_72) (pc := 10) dd_72_10 (by decide)
theorem vd_72_13 (E : ac_E) : ac_ok E md_72 13 (o_ild 0 14) := ok_iload_n (E := E) (d := md_72) (pc := 13) (j := 0) dd_72_13
theorem vd_72_14 (E : ac_E) : ac_ok E md_72 14 (o_ild 3 15) := ok_iload_n (E := E) (d := md_72) (pc := 14) (j := 3) dd_72_14
theorem vd_72_15 (E : ac_E) : ac_okr E md_72 md_70 15 2 18 0 ∧ ac_okt E md_72 md_70 15 2 0 := ok_callS (E := E) (d := md_72) (dz := md_70) (pc := 15) rfl (by decide) (by decide +kernel) wm_707 wm_56 wm_705 wm_706 dd_72_15
theorem vd_72_18 (E : ac_E) : ac_ok E md_72 18 (o_eq0 34 21) := ok_ifeq (E := E) (d := md_72) (pc := 18) dd_72_18 (by decide)
theorem vd_72_21 (E : ac_E) : ac_ok E md_72 21 (o_ild 2 22) := ok_iload_n (E := E) (d := md_72) (pc := 21) (j := 2) dd_72_21
theorem vd_72_22 (E : ac_E) : ac_ok E md_72 22 (o_con (.int 1) 23) := ok_iconst (E := E) (d := md_72) (pc := 22) dd_72_22 (by decide)
theorem vd_72_23 (E : ac_E) : ac_ok E md_72 23 (o_ild 3 24) := ok_iload_n (E := E) (d := md_72) (pc := 23) (j := 3) dd_72_23
theorem vd_72_24 (E : ac_E) : ac_ok E md_72 24 (o_ild 1 25) := ok_iload_n (E := E) (d := md_72) (pc := 24) (j := 1) dd_72_24
theorem vd_72_25 (E : ac_E) : ac_ok E md_72 25 (o_add 26) := ok_iadd (E := E) (d := md_72) (pc := 25) dd_72_25
theorem vd_72_26 (E : ac_E) : ac_ok E md_72 26 (o_con (.int 6) 28) := ok_bipush (E := E) (d := md_72) (pc := 26) dd_72_26 (by decide)
theorem vd_72_28 (E : ac_E) : ac_ok E md_72 28 (o_rem 29) := ok_irem (E := E) (d := md_72) (pc := 28) dd_72_28
theorem vd_72_29 (E : ac_E) : ac_ok E md_72 29 (o_shl 30) := ok_ishl (E := E) (d := md_72) (pc := 29) dd_72_29
theorem vd_72_30 (E : ac_E) : ac_ok E md_72 30 (o_or 31) := ok_ior (E := E) (d := md_72) (pc := 30) dd_72_30
theorem vd_72_31 (E : ac_E) : ac_ok E md_72 31 (o_go 35) := ok_goto (E := E) (d := md_72) (pc := 31) dd_72_31 (by decide)
theorem vd_72_34 (E : ac_E) : ac_ok E md_72 34 (o_ild 2 35) := ok_iload_n (E := E) (d := md_72) (pc := 34) (j := 2) dd_72_34
theorem vd_72_35 (E : ac_E) : ac_ok E md_72 35 (o_ist 2 36) := ok_istore_n (E := E) (d := md_72) (pc := 35) (j := 2) dd_72_35
theorem vd_72_36 (E : ac_E) : ac_ok E md_72 36 (o_inc 3 1 39) := ok_iinc (E := E) (d := md_72) (pc := 36) dd_72_36 (by decide)
theorem vd_72_39 (E : ac_E) : ac_ok E md_72 39 (o_go 7) := ok_goto (E := E) (d := md_72) (pc := 39) dd_72_39 (by decide)
theorem vd_72_42 (E : ac_E) : ac_ok E md_72 42 (o_ild 2 43) := ok_iload_n (E := E) (d := md_72) (pc := 42) (j := 2) dd_72_42
theorem va_72 (E : ac_E) (pc : Nat) : ac_V E ac_MDf ac_HDf 72 pc (tb_72 (ac_len E) (ac_xs E) pc) := (ac_node (ac_node (ac_node (ac_node (ac_leaf 0 (⟨vd_72_0 E, mn_ild _ _⟩)) (ac_node (ac_leaf 1 (⟨vd_72_1 E, mn_con _ _⟩)) (ac_leaf 3 (⟨vd_72_3 E, mn_and _⟩)))) (ac_node (ac_node (ac_leaf 4 (⟨vd_72_4 E, mn_ist _ _⟩)) (ac_leaf 5 (⟨vd_72_5 E, mn_con _ _⟩))) (ac_node (ac_leaf 6 (⟨vd_72_6 E, mn_ist _ _⟩)) (ac_leaf 7 (⟨vd_72_7 E, mn_ild _ _⟩))))) (ac_node (ac_node (ac_leaf 8 (⟨vd_72_8 E, mn_con _ _⟩)) (ac_node (ac_leaf 10 (⟨vd_72_10 E, mn_ge _ _⟩)) (ac_leaf 13 (⟨vd_72_13 E, mn_ild _ _⟩)))) (ac_node (ac_node (ac_leaf 14 (⟨vd_72_14 E, mn_ild _ _⟩)) (ac_leaf 15 (ac_Vc0 ((vd_72_15 E).1) (fun _ => rfl)))) (ac_node (ac_leaf 18 (⟨vd_72_18 E, mn_eq0 _ _⟩)) (ac_leaf 21 (⟨vd_72_21 E, mn_ild _ _⟩)))))) (ac_node (ac_node (ac_node (ac_leaf 22 (⟨vd_72_22 E, mn_con _ _⟩)) (ac_node (ac_leaf 23 (⟨vd_72_23 E, mn_ild _ _⟩)) (ac_leaf 24 (⟨vd_72_24 E, mn_ild _ _⟩)))) (ac_node (ac_node (ac_leaf 25 (⟨vd_72_25 E, mn_add _⟩)) (ac_leaf 26 (⟨vd_72_26 E, mn_con _ _⟩))) (ac_node (ac_leaf 28 (⟨vd_72_28 E, mn_rem _⟩)) (ac_leaf 29 (⟨vd_72_29 E, mn_shl _⟩))))) (ac_node (ac_node (ac_node (ac_leaf 30 (⟨vd_72_30 E, mn_or _⟩)) (ac_leaf 31 (⟨vd_72_31 E, mn_go _⟩))) (ac_node (ac_leaf 34 (⟨vd_72_34 E, mn_ild _ _⟩)) (ac_leaf 35 (⟨vd_72_35 E, mn_ist _ _⟩)))) (ac_node (ac_node (ac_leaf 36 (⟨vd_72_36 E, mn_inc _ _ _⟩)) (ac_leaf 39 (⟨vd_72_39 E, mn_go _⟩))) (ac_node (ac_leaf 42 (⟨vd_72_42 E, mn_ild _ _⟩)) (ac_leaf 43 (ac_Vr1 dd_72_43 rfl)))))))
theorem vd_73_0 (E : ac_E) : ac_ok E md_73 0 (o_ild 0 1) := ok_iload_n (E := E) (d := md_73) (pc := 0) (j := 0) dd_73_0
theorem vd_73_1 (E : ac_E) : ac_ok E md_73 1 (o_con (.int 63) 3) := ok_bipush (E := E) (d := md_73) (pc := 1) dd_73_1 (by decide)
theorem vd_73_3 (E : ac_E) : ac_ok E md_73 3 (o_and 4) := ok_iand (E := E) (d := md_73) (pc := 3) dd_73_3
theorem vd_73_4 (E : ac_E) : ac_ok E md_73 4 (o_ist 2 5) := ok_istore_n (E := E) (d := md_73) (pc := 4) (j := 2) dd_73_4
theorem vd_73_5 (E : ac_E) : ac_ok E md_73 5 (o_ild 0 6) := ok_iload_n (E := E) (d := md_73) (pc := 5) (j := 0) dd_73_5
theorem vd_73_6 (E : ac_E) : ac_ok E md_73 6 (o_con (.int 63) 8) := ok_bipush (E := E) (d := md_73) (pc := 6) dd_73_6 (by decide)
theorem vd_73_8 (E : ac_E) : ac_ok E md_73 8 (o_le 15 11) := ok_icmple (E := E) (d := md_73) (pc := 8) dd_73_8 (by decide)
theorem vd_73_11 (E : ac_E) : ac_ok E md_73 11 (o_con (.int 1) 12) := ok_iconst (E := E) (d := md_73) (pc := 11) dd_73_11 (by decide)
theorem vd_73_12 (E : ac_E) : ac_ok E md_73 12 (o_go 16) := ok_goto (E := E) (d := md_73) (pc := 12) dd_73_12 (by decide)
theorem vd_73_15 (E : ac_E) : ac_ok E md_73 15 (o_con (.int 0) 16) := ok_iconst (E := E) (d := md_73) (pc := 15) dd_73_15 (by decide)
theorem vd_73_16 (E : ac_E) : ac_ok E md_73 16 (o_ist 3 17) := ok_istore_n (E := E) (d := md_73) (pc := 16) (j := 3) dd_73_16
theorem vd_73_17 (E : ac_E) : ac_ok E md_73 17 (o_ild 2 18) := ok_iload_n (E := E) (d := md_73) (pc := 17) (j := 2) dd_73_17
theorem vd_73_18 (E : ac_E) : ac_ok E md_73 18 (o_con (.int 21) 20) := ok_bipush (E := E) (d := md_73) (pc := 18) dd_73_18 (by decide)
theorem vd_73_20 (E : ac_E) : ac_ok E md_73 20 (o_eq 29 23) := ok_icmpeq (E := E) (d := md_73) (pc := 20) dd_73_20 (by decide)
theorem vd_73_23 (E : ac_E) : ac_ok E md_73 23 (o_ild 2 24) := ok_iload_n (E := E) (d := md_73) (pc := 23) (j := 2) dd_73_23
theorem vd_73_24 (E : ac_E) : ac_ok E md_73 24 (o_con (.int 42) 26) := ok_bipush (E := E) (d := md_73) (pc := 24) dd_73_24 (by decide)
theorem vd_73_26 (E : ac_E) : ac_ok E md_73 26 (o_ne 34 29) := ok_icmpne (E := E) (d := md_73) (pc := 26) dd_73_26 (by decide)
theorem vd_73_29 (E : ac_E) : ac_ok E md_73 29 (o_ild 0 30) := ok_iload_n (E := E) (d := md_73) (pc := 29) (j := 0) dd_73_29
theorem vd_73_30 (E : ac_E) : ac_ok E md_73 30 (o_con (.int 63) 32) := ok_bipush (E := E) (d := md_73) (pc := 30) dd_73_30 (by decide)
theorem vd_73_32 (E : ac_E) : ac_ok E md_73 32 (o_xor 33) := ok_ixor (E := E) (d := md_73) (pc := 32) dd_73_32
theorem vd_73_34 (E : ac_E) : ac_ok E md_73 34 (o_con (.int 0) 35) := ok_iconst (E := E) (d := md_73) (pc := 34) dd_73_34 (by decide)
theorem vd_73_35 (E : ac_E) : ac_ok E md_73 35 (o_ist 4 37) := ok_istore (E := E) (d := md_73) (pc := 35) dd_73_35
theorem vd_73_37 (E : ac_E) : ac_ok E md_73 37 (o_ild 4 39) := ok_iload (E := E) (d := md_73) (pc := 37) dd_73_37
theorem vd_73_39 (E : ac_E) : ac_ok E md_73 39 (o_con (.int 6) 41) := ok_bipush (E := E) (d := md_73) (pc := 39) dd_73_39 (by decide)
theorem vd_73_41 (E : ac_E) : ac_ok E md_73 41 (o_ge 149 44) := ok_icmpge (E := E) (d := md_73) (pc := 41) dd_73_41 (by decide)
theorem vd_73_44 (E : ac_E) : ac_ok E md_73 44 (o_con (.int 1) 45) := ok_iconst (E := E) (d := md_73) (pc := 44) dd_73_44 (by decide)
theorem vd_73_45 (E : ac_E) : ac_ok E md_73 45 (o_ild 4 47) := ok_iload (E := E) (d := md_73) (pc := 45) dd_73_45
theorem vd_73_47 (E : ac_E) : ac_ok E md_73 47 (o_shl 48) := ok_ishl (E := E) (d := md_73) (pc := 47) dd_73_47
theorem vd_73_48 (E : ac_E) : ac_ok E md_73 48 (o_con (.int 1) 49) := ok_iconst (E := E) (d := md_73) (pc := 48) dd_73_48 (by decide)
theorem vd_73_49 (E : ac_E) : ac_ok E md_73 49 (o_ild 4 51) := ok_iload (E := E) (d := md_73) (pc := 49) dd_73_49
theorem vd_73_51 (E : ac_E) : ac_ok E md_73 51 (o_con (.int 3) 52) := ok_iconst (E := E) (d := md_73) (pc := 51) dd_73_51 (by decide)
theorem vd_73_52 (E : ac_E) : ac_ok E md_73 52 (o_add 53) := ok_iadd (E := E) (d := md_73) (pc := 52) dd_73_52
theorem vd_73_53 (E : ac_E) : ac_ok E md_73 53 (o_con (.int 6) 55) := ok_bipush (E := E) (d := md_73) (pc := 53) dd_73_53 (by decide)
theorem vd_73_55 (E : ac_E) : ac_ok E md_73 55 (o_rem 56) := ok_irem (E := E) (d := md_73) (pc := 55) dd_73_55
theorem vd_73_56 (E : ac_E) : ac_ok E md_73 56 (o_shl 57) := ok_ishl (E := E) (d := md_73) (pc := 56) dd_73_56
theorem vd_73_57 (E : ac_E) : ac_ok E md_73 57 (o_or 58) := ok_ior (E := E) (d := md_73) (pc := 57) dd_73_57
theorem vd_73_58 (E : ac_E) : ac_ok E md_73 58 (o_ist 5 60) := ok_istore (E := E) (d := md_73) (pc := 58) dd_73_58
theorem vd_73_60 (E : ac_E) : ac_ok E md_73 60 (o_con (.int 1) 61) := ok_iconst (E := E) (d := md_73) (pc := 60) dd_73_60 (by decide)
theorem vd_73_61 (E : ac_E) : ac_ok E md_73 61 (o_ild 4 63) := ok_iload (E := E) (d := md_73) (pc := 61) dd_73_61
theorem vd_73_63 (E : ac_E) : ac_ok E md_73 63 (o_con (.int 5) 64) := ok_iconst (E := E) (d := md_73) (pc := 63) dd_73_63 (by decide)
theorem vd_73_64 (E : ac_E) : ac_ok E md_73 64 (o_add 65) := ok_iadd (E := E) (d := md_73) (pc := 64) dd_73_64
theorem vd_73_65 (E : ac_E) : ac_ok E md_73 65 (o_con (.int 6) 67) := ok_bipush (E := E) (d := md_73) (pc := 65) dd_73_65 (by decide)
theorem vd_73_67 (E : ac_E) : ac_ok E md_73 67 (o_rem 68) := ok_irem (E := E) (d := md_73) (pc := 67) dd_73_67
theorem vd_73_68 (E : ac_E) : ac_ok E md_73 68 (o_shl 69) := ok_ishl (E := E) (d := md_73) (pc := 68) dd_73_68
theorem vd_73_69 (E : ac_E) : ac_ok E md_73 69 (o_con (.int 1) 70) := ok_iconst (E := E) (d := md_73) (pc := 69) dd_73_69 (by decide)
theorem vd_73_70 (E : ac_E) : ac_ok E md_73 70 (o_ild 4 72) := ok_iload (E := E) (d := md_73) (pc := 70) dd_73_70
theorem vd_73_72 (E : ac_E) : ac_ok E md_73 72 (o_con (.int 1) 73) := ok_iconst (E := E) (d := md_73) (pc := 72) dd_73_72 (by decide)
theorem vd_73_73 (E : ac_E) : ac_ok E md_73 73 (o_add 74) := ok_iadd (E := E) (d := md_73) (pc := 73) dd_73_73
theorem vd_73_74 (E : ac_E) : ac_ok E md_73 74 (o_con (.int 6) 76) := ok_bipush (E := E) (d := md_73) (pc := 74) dd_73_74 (by decide)
theorem vd_73_76 (E : ac_E) : ac_ok E md_73 76 (o_rem 77) := ok_irem (E := E) (d := md_73) (pc := 76) dd_73_76
theorem vd_73_77 (E : ac_E) : ac_ok E md_73 77 (o_shl 78) := ok_ishl (E := E) (d := md_73) (pc := 77) dd_73_77
theorem vd_73_78 (E : ac_E) : ac_ok E md_73 78 (o_or 79) := ok_ior (E := E) (d := md_73) (pc := 78) dd_73_78
theorem vd_73_79 (E : ac_E) : ac_ok E md_73 79 (o_ist 6 81) := ok_istore (E := E) (d := md_73) (pc := 79) dd_73_79
theorem vd_73_81 (E : ac_E) : ac_ok E md_73 81 (o_ild 2 82) := ok_iload_n (E := E) (d := md_73) (pc := 81) (j := 2) dd_73_81
theorem vd_73_82 (E : ac_E) : ac_ok E md_73 82 (o_ild 5 84) := ok_iload (E := E) (d := md_73) (pc := 82) dd_73_82
theorem vd_73_84 (E : ac_E) : ac_ok E md_73 84 (o_eq 96 87) := ok_icmpeq (E := E) (d := md_73) (pc := 84) dd_73_84 (by decide)
theorem vd_73_87 (E : ac_E) : ac_ok E md_73 87 (o_ild 2 88) := ok_iload_n (E := E) (d := md_73) (pc := 87) (j := 2) dd_73_87
theorem vd_73_88 (E : ac_E) : ac_ok E md_73 88 (o_con (.int 63) 90) := ok_bipush (E := E) (d := md_73) (pc := 88) dd_73_88 (by decide)
theorem vd_73_90 (E : ac_E) : ac_ok E md_73 90 (o_ild 5 92) := ok_iload (E := E) (d := md_73) (pc := 90) dd_73_90
theorem vd_73_92 (E : ac_E) : ac_ok E md_73 92 (o_sub 93) := ok_isub (E := E) (d := md_73) (pc := 92) dd_73_92
theorem vd_73_93 (E : ac_E) : ac_ok E md_73 93 (o_ne 110 96) := ok_icmpne (E := E) (d := md_73) (pc := 93) dd_73_93 (by decide)
theorem vd_73_96 (E : ac_E) : ac_ok E md_73 96 (o_ild 0 97) := ok_iload_n (E := E) (d := md_73) (pc := 96) (j := 0) dd_73_96
theorem vd_73_97 (E : ac_E) : ac_ok E md_73 97 (o_ild 1 98) := ok_iload_n (E := E) (d := md_73) (pc := 97) (j := 1) dd_73_97
theorem vd_73_98 (E : ac_E) : ac_ok E md_73 98 (o_ne0 105 101) := ok_ifne (E := E) (d := md_73) (pc := 98) dd_73_98 (by decide)
theorem vd_73_101 (E : ac_E) : ac_ok E md_73 101 (o_con (.int 1) 102) := ok_iconst (E := E) (d := md_73) (pc := 101) dd_73_101 (by decide)
theorem vd_73_102 (E : ac_E) : ac_ok E md_73 102 (o_go 106) := ok_goto (E := E) (d := md_73) (pc := 102) dd_73_102 (by decide)
theorem vd_73_105 (E : ac_E) : ac_ok E md_73 105 (o_con (.int 5) 106) := ok_iconst (E := E) (d := md_73) (pc := 105) dd_73_105 (by decide)
theorem vd_73_106 (E : ac_E) : ac_okr E md_73 md_72 106 2 109 0 ∧ ac_okt E md_73 md_72 106 2 0 := ok_callS (E := E) (d := md_73) (dz := md_72) (pc := 106) rfl (by decide) (by decide +kernel) wm_704 wm_56 wm_702 wm_703 dd_73_106
theorem vd_73_110 (E : ac_E) : ac_ok E md_73 110 (o_ild 2 111) := ok_iload_n (E := E) (d := md_73) (pc := 110) (j := 2) dd_73_110
theorem vd_73_111 (E : ac_E) : ac_ok E md_73 111 (o_con (.int 1) 112) := ok_iconst (E := E) (d := md_73) (pc := 111) dd_73_111 (by decide)
theorem vd_73_112 (E : ac_E) : ac_ok E md_73 112 (o_ild 4 114) := ok_iload (E := E) (d := md_73) (pc := 112) dd_73_112
theorem vd_73_114 (E : ac_E) : ac_ok E md_73 114 (o_shl 115) := ok_ishl (E := E) (d := md_73) (pc := 114) dd_73_114
theorem vd_73_115 (E : ac_E) : ac_ok E md_73 115 (o_ne 125 118) := ok_icmpne (E := E) (d := md_73) (pc := 115) dd_73_115 (by decide)
theorem vd_73_118 (E : ac_E) : ac_ok E md_73 118 (o_ild 3 119) := ok_iload_n (E := E) (d := md_73) (pc := 118) (j := 3) dd_73_118
theorem vd_73_119 (E : ac_E) : ac_ok E md_73 119 (o_eq0 125 122) := ok_ifeq (E := E) (d := md_73) (pc := 119) dd_73_119 (by decide)
theorem vd_73_122 (E : ac_E) : ac_ok E md_73 122 (o_ild 6 124) := ok_iload (E := E) (d := md_73) (pc := 122) dd_73_122
theorem vd_73_125 (E : ac_E) : ac_ok E md_73 125 (o_ild 2 126) := ok_iload_n (E := E) (d := md_73) (pc := 125) (j := 2) dd_73_125
theorem vd_73_126 (E : ac_E) : ac_ok E md_73 126 (o_ild 6 128) := ok_iload (E := E) (d := md_73) (pc := 126) dd_73_126
theorem vd_73_128 (E : ac_E) : ac_ok E md_73 128 (o_ne 143 131) := ok_icmpne (E := E) (d := md_73) (pc := 128) dd_73_128 (by decide)
theorem vd_73_131 (E : ac_E) : ac_ok E md_73 131 (o_ild 3 132) := ok_iload_n (E := E) (d := md_73) (pc := 131) (j := 3) dd_73_131
theorem vd_73_132 (E : ac_E) : ac_ok E md_73 132 (o_ne0 143 135) := ok_ifne (E := E) (d := md_73) (pc := 132) dd_73_132 (by decide)
theorem vd_73_135 (E : ac_E) : ac_ok E md_73 135 (o_con (.int 64) 137) := ok_bipush (E := E) (d := md_73) (pc := 135) dd_73_135 (by decide)
theorem vd_73_137 (E : ac_E) : ac_ok E md_73 137 (o_con (.int 1) 138) := ok_iconst (E := E) (d := md_73) (pc := 137) dd_73_137 (by decide)
theorem vd_73_138 (E : ac_E) : ac_ok E md_73 138 (o_ild 4 140) := ok_iload (E := E) (d := md_73) (pc := 138) dd_73_138
theorem vd_73_140 (E : ac_E) : ac_ok E md_73 140 (o_shl 141) := ok_ishl (E := E) (d := md_73) (pc := 140) dd_73_140
theorem vd_73_141 (E : ac_E) : ac_ok E md_73 141 (o_or 142) := ok_ior (E := E) (d := md_73) (pc := 141) dd_73_141
theorem vd_73_143 (E : ac_E) : ac_ok E md_73 143 (o_inc 4 1 146) := ok_iinc (E := E) (d := md_73) (pc := 143) dd_73_143 (by decide)
theorem vd_73_146 (E : ac_E) : ac_ok E md_73 146 (o_go 37) := ok_goto (E := E) (d := md_73) (pc := 146) dd_73_146 (by decide)
theorem vd_73_149 (E : ac_E) : ac_ok E md_73 149 (o_ild 0 150) := ok_iload_n (E := E) (d := md_73) (pc := 149) (j := 0) dd_73_149
theorem va_73 (E : ac_E) (pc : Nat) : ac_V E ac_MDf ac_HDf 73 pc (tb_73 (ac_len E) (ac_xs E) pc) := (ac_node (ac_node (ac_node (ac_node (ac_node (ac_node (ac_leaf 0 (⟨vd_73_0 E, mn_ild _ _⟩)) (ac_leaf 1 (⟨vd_73_1 E, mn_con _ _⟩))) (ac_node (ac_leaf 3 (⟨vd_73_3 E, mn_and _⟩)) (ac_node (ac_leaf 4 (⟨vd_73_4 E, mn_ist _ _⟩)) (ac_leaf 5 (⟨vd_73_5 E, mn_ild _ _⟩))))) (ac_node (ac_node (ac_leaf 6 (⟨vd_73_6 E, mn_con _ _⟩)) (ac_node (ac_leaf 8 (⟨vd_73_8 E, mn_le _ _⟩)) (ac_leaf 11 (⟨vd_73_11 E, mn_con _ _⟩)))) (ac_node (ac_leaf 12 (⟨vd_73_12 E, mn_go _⟩)) (ac_node (ac_leaf 15 (⟨vd_73_15 E, mn_con _ _⟩)) (ac_leaf 16 (⟨vd_73_16 E, mn_ist _ _⟩)))))) (ac_node (ac_node (ac_node (ac_leaf 17 (⟨vd_73_17 E, mn_ild _ _⟩)) (ac_node (ac_leaf 18 (⟨vd_73_18 E, mn_con _ _⟩)) (ac_leaf 20 (⟨vd_73_20 E, mn_eq _ _⟩)))) (ac_node (ac_leaf 23 (⟨vd_73_23 E, mn_ild _ _⟩)) (ac_node (ac_leaf 24 (⟨vd_73_24 E, mn_con _ _⟩)) (ac_leaf 26 (⟨vd_73_26 E, mn_ne _ _⟩))))) (ac_node (ac_node (ac_leaf 29 (⟨vd_73_29 E, mn_ild _ _⟩)) (ac_node (ac_leaf 30 (⟨vd_73_30 E, mn_con _ _⟩)) (ac_leaf 32 (⟨vd_73_32 E, mn_xor _⟩)))) (ac_node (ac_leaf 33 (ac_Vr1 dd_73_33 rfl)) (ac_node (ac_leaf 34 (⟨vd_73_34 E, mn_con _ _⟩)) (ac_leaf 35 (⟨vd_73_35 E, mn_ist _ _⟩))))))) (ac_node (ac_node (ac_node (ac_node (ac_leaf 37 (⟨vd_73_37 E, mn_ild _ _⟩)) (ac_node (ac_leaf 39 (⟨vd_73_39 E, mn_con _ _⟩)) (ac_leaf 41 (⟨vd_73_41 E, mn_ge _ _⟩)))) (ac_node (ac_leaf 44 (⟨vd_73_44 E, mn_con _ _⟩)) (ac_node (ac_leaf 45 (⟨vd_73_45 E, mn_ild _ _⟩)) (ac_leaf 47 (⟨vd_73_47 E, mn_shl _⟩))))) (ac_node (ac_node (ac_leaf 48 (⟨vd_73_48 E, mn_con _ _⟩)) (ac_node (ac_leaf 49 (⟨vd_73_49 E, mn_ild _ _⟩)) (ac_leaf 51 (⟨vd_73_51 E, mn_con _ _⟩)))) (ac_node (ac_leaf 52 (⟨vd_73_52 E, mn_add _⟩)) (ac_node (ac_leaf 53 (⟨vd_73_53 E, mn_con _ _⟩)) (ac_leaf 55 (⟨vd_73_55 E, mn_rem _⟩)))))) (ac_node (ac_node (ac_node (ac_leaf 56 (⟨vd_73_56 E, mn_shl _⟩)) (ac_node (ac_leaf 57 (⟨vd_73_57 E, mn_or _⟩)) (ac_leaf 58 (⟨vd_73_58 E, mn_ist _ _⟩)))) (ac_node (ac_leaf 60 (⟨vd_73_60 E, mn_con _ _⟩)) (ac_node (ac_leaf 61 (⟨vd_73_61 E, mn_ild _ _⟩)) (ac_leaf 63 (⟨vd_73_63 E, mn_con _ _⟩))))) (ac_node (ac_node (ac_leaf 64 (⟨vd_73_64 E, mn_add _⟩)) (ac_node (ac_leaf 65 (⟨vd_73_65 E, mn_con _ _⟩)) (ac_leaf 67 (⟨vd_73_67 E, mn_rem _⟩)))) (ac_node (ac_leaf 68 (⟨vd_73_68 E, mn_shl _⟩)) (ac_node (ac_leaf 69 (⟨vd_73_69 E, mn_con _ _⟩)) (ac_leaf 70 (⟨vd_73_70 E, mn_ild _ _⟩)))))))) (ac_node (ac_node (ac_node (ac_node (ac_node (ac_leaf 72 (⟨vd_73_72 E, mn_con _ _⟩)) (ac_leaf 73 (⟨vd_73_73 E, mn_add _⟩))) (ac_node (ac_leaf 74 (⟨vd_73_74 E, mn_con _ _⟩)) (ac_node (ac_leaf 76 (⟨vd_73_76 E, mn_rem _⟩)) (ac_leaf 77 (⟨vd_73_77 E, mn_shl _⟩))))) (ac_node (ac_node (ac_leaf 78 (⟨vd_73_78 E, mn_or _⟩)) (ac_node (ac_leaf 79 (⟨vd_73_79 E, mn_ist _ _⟩)) (ac_leaf 81 (⟨vd_73_81 E, mn_ild _ _⟩)))) (ac_node (ac_leaf 82 (⟨vd_73_82 E, mn_ild _ _⟩)) (ac_node (ac_leaf 84 (⟨vd_73_84 E, mn_eq _ _⟩)) (ac_leaf 87 (⟨vd_73_87 E, mn_ild _ _⟩)))))) (ac_node (ac_node (ac_node (ac_leaf 88 (⟨vd_73_88 E, mn_con _ _⟩)) (ac_node (ac_leaf 90 (⟨vd_73_90 E, mn_ild _ _⟩)) (ac_leaf 92 (⟨vd_73_92 E, mn_sub _⟩)))) (ac_node (ac_leaf 93 (⟨vd_73_93 E, mn_ne _ _⟩)) (ac_node (ac_leaf 96 (⟨vd_73_96 E, mn_ild _ _⟩)) (ac_leaf 97 (⟨vd_73_97 E, mn_ild _ _⟩))))) (ac_node (ac_node (ac_leaf 98 (⟨vd_73_98 E, mn_ne0 _ _⟩)) (ac_node (ac_leaf 101 (⟨vd_73_101 E, mn_con _ _⟩)) (ac_leaf 102 (⟨vd_73_102 E, mn_go _⟩)))) (ac_node (ac_leaf 105 (⟨vd_73_105 E, mn_con _ _⟩)) (ac_node (ac_leaf 106 (ac_Vc0 ((vd_73_106 E).1) (fun _ => rfl))) (ac_leaf 109 (ac_Vr1 dd_73_109 rfl))))))) (ac_node (ac_node (ac_node (ac_node (ac_leaf 110 (⟨vd_73_110 E, mn_ild _ _⟩)) (ac_node (ac_leaf 111 (⟨vd_73_111 E, mn_con _ _⟩)) (ac_leaf 112 (⟨vd_73_112 E, mn_ild _ _⟩)))) (ac_node (ac_leaf 114 (⟨vd_73_114 E, mn_shl _⟩)) (ac_node (ac_leaf 115 (⟨vd_73_115 E, mn_ne _ _⟩)) (ac_leaf 118 (⟨vd_73_118 E, mn_ild _ _⟩))))) (ac_node (ac_node (ac_leaf 119 (⟨vd_73_119 E, mn_eq0 _ _⟩)) (ac_node (ac_leaf 122 (⟨vd_73_122 E, mn_ild _ _⟩)) (ac_leaf 124 (ac_Vr1 dd_73_124 rfl)))) (ac_node (ac_leaf 125 (⟨vd_73_125 E, mn_ild _ _⟩)) (ac_node (ac_leaf 126 (⟨vd_73_126 E, mn_ild _ _⟩)) (ac_leaf 128 (⟨vd_73_128 E, mn_ne _ _⟩)))))) (ac_node (ac_node (ac_node (ac_leaf 131 (⟨vd_73_131 E, mn_ild _ _⟩)) (ac_node (ac_leaf 132 (⟨vd_73_132 E, mn_ne0 _ _⟩)) (ac_leaf 135 (⟨vd_73_135 E, mn_con _ _⟩)))) (ac_node (ac_leaf 137 (⟨vd_73_137 E, mn_con _ _⟩)) (ac_node (ac_leaf 138 (⟨vd_73_138 E, mn_ild _ _⟩)) (ac_leaf 140 (⟨vd_73_140 E, mn_shl _⟩))))) (ac_node (ac_node (ac_leaf 141 (⟨vd_73_141 E, mn_or _⟩)) (ac_node (ac_leaf 142 (ac_Vr1 dd_73_142 rfl)) (ac_leaf 143 (⟨vd_73_143 E, mn_inc _ _ _⟩)))) (ac_node (ac_leaf 146 (⟨vd_73_146 E, mn_go _⟩)) (ac_node (ac_leaf 149 (⟨vd_73_149 E, mn_ild _ _⟩)) (ac_leaf 150 (ac_Vr1 dd_73_150 rfl)))))))))
theorem vd_74_0 (E : ac_E) : ac_ok E md_74 0 (o_ild 0 1) := ok_iload_n (E := E) (d := md_74) (pc := 0) (j := 0) dd_74_0
theorem vd_74_1 (E : ac_E) : ac_ok E md_74 1 (o_ist 2 2) := ok_istore_n (E := E) (d := md_74) (pc := 1) (j := 2) dd_74_1
theorem vd_74_2 (E : ac_E) : ac_ok E md_74 2 (o_con (.int 0) 3) := ok_iconst (E := E) (d := md_74) (pc := 2) dd_74_2 (by decide)
theorem vd_74_3 (E : ac_E) : ac_ok E md_74 3 (o_ist 3 4) := ok_istore_n (E := E) (d := md_74) (pc := 3) (j := 3) dd_74_3
theorem vd_74_4 (E : ac_E) : ac_ok E md_74 4 (o_ild 3 5) := ok_iload_n (E := E) (d := md_74) (pc := 4) (j := 3) dd_74_4
theorem vd_74_5 (E : ac_E) : ac_ok E md_74 5 (o_con (.int 128) 8) := ok_sipush (E := E) (d := md_74) (pc := 5) dd_74_5 (by decide)
theorem vd_74_8 (E : ac_E) : ac_ok E md_74 8 (o_ge 32 11) := ok_icmpge (E := E) (d := md_74) (pc := 8) dd_74_8 (by decide)
theorem vd_74_11 (E : ac_E) : ac_ok E md_74 11 (o_ild 3 12) := ok_iload_n (E := E) (d := md_74) (pc := 11) (j := 3) dd_74_11
theorem vd_74_12 (E : ac_E) : ac_ok E md_74 12 (o_ild 1 13) := ok_iload_n (E := E) (d := md_74) (pc := 12) (j := 1) dd_74_12
theorem vd_74_13 (E : ac_E) : ac_okr E md_74 md_73 13 2 16 0 ∧ ac_okt E md_74 md_73 13 2 0 := ok_callS (E := E) (d := md_74) (dz := md_73) (pc := 13) rfl (by decide) (by decide +kernel) wm_701 wm_56 wm_699 wm_700 dd_74_13
theorem vd_74_16 (E : ac_E) : ac_ok E md_74 16 (o_ild 0 17) := ok_iload_n (E := E) (d := md_74) (pc := 16) (j := 0) dd_74_16
theorem vd_74_17 (E : ac_E) : ac_ok E md_74 17 (o_ne 24 20) := ok_icmpne (E := E) (d := md_74) (pc := 17) dd_74_17 (by decide)
theorem vd_74_20 (E : ac_E) : ac_ok E md_74 20 (o_ild 3 21) := ok_iload_n (E := E) (d := md_74) (pc := 20) (j := 3) dd_74_20
theorem vd_74_21 (E : ac_E) : ac_ok E md_74 21 (o_go 25) := ok_goto (E := E) (d := md_74) (pc := 21) dd_74_21 (by decide)
theorem vd_74_24 (E : ac_E) : ac_ok E md_74 24 (o_ild 2 25) := ok_iload_n (E := E) (d := md_74) (pc := 24) (j := 2) dd_74_24
theorem vd_74_25 (E : ac_E) : ac_ok E md_74 25 (o_ist 2 26) := ok_istore_n (E := E) (d := md_74) (pc := 25) (j := 2) dd_74_25
theorem vd_74_26 (E : ac_E) : ac_ok E md_74 26 (o_inc 3 1 29) := ok_iinc (E := E) (d := md_74) (pc := 26) dd_74_26 (by decide)
theorem vd_74_29 (E : ac_E) : ac_ok E md_74 29 (o_go 4) := ok_goto (E := E) (d := md_74) (pc := 29) dd_74_29 (by decide)
theorem vd_74_32 (E : ac_E) : ac_ok E md_74 32 (o_ild 2 33) := ok_iload_n (E := E) (d := md_74) (pc := 32) (j := 2) dd_74_32
theorem va_74 (E : ac_E) (pc : Nat) : ac_V E ac_MDf ac_HDf 74 pc (tb_74 (ac_len E) (ac_xs E) pc) := (ac_node (ac_node (ac_node (ac_node (ac_leaf 0 (⟨vd_74_0 E, mn_ild _ _⟩)) (ac_leaf 1 (⟨vd_74_1 E, mn_ist _ _⟩))) (ac_node (ac_leaf 2 (⟨vd_74_2 E, mn_con _ _⟩)) (ac_node (ac_leaf 3 (⟨vd_74_3 E, mn_ist _ _⟩)) (ac_leaf 4 (⟨vd_74_4 E, mn_ild _ _⟩))))) (ac_node (ac_node (ac_leaf 5 (⟨vd_74_5 E, mn_con _ _⟩)) (ac_leaf 8 (⟨vd_74_8 E, mn_ge _ _⟩))) (ac_node (ac_leaf 11 (⟨vd_74_11 E, mn_ild _ _⟩)) (ac_node (ac_leaf 12 (⟨vd_74_12 E, mn_ild _ _⟩)) (ac_leaf 13 (ac_Vc0 ((vd_74_13 E).1) (fun _ => rfl))))))) (ac_node (ac_node (ac_node (ac_leaf 16 (⟨vd_74_16 E, mn_ild _ _⟩)) (ac_leaf 17 (⟨vd_74_17 E, mn_ne _ _⟩))) (ac_node (ac_leaf 20 (⟨vd_74_20 E, mn_ild _ _⟩)) (ac_node (ac_leaf 21 (⟨vd_74_21 E, mn_go _⟩)) (ac_leaf 24 (⟨vd_74_24 E, mn_ild _ _⟩))))) (ac_node (ac_node (ac_leaf 25 (⟨vd_74_25 E, mn_ist _ _⟩)) (ac_leaf 26 (⟨vd_74_26 E, mn_inc _ _ _⟩))) (ac_node (ac_leaf 29 (⟨vd_74_29 E, mn_go _⟩)) (ac_node (ac_leaf 32 (⟨vd_74_32 E, mn_ild _ _⟩)) (ac_leaf 33 (ac_Vr1 dd_74_33 rfl)))))))
theorem vd_75_0 (E : ac_E) : ac_ok E md_75 0 (o_ald 0 1) := ok_aload_n (E := E) (d := md_75) (pc := 0) (j := 0) dd_75_0
theorem vd_75_1 (E : ac_E) : ac_ok E md_75 1 (o_ild 1 2) := ok_iload_n (E := E) (d := md_75) (pc := 1) (j := 1) dd_75_1
theorem vd_75_2 (E : ac_E) : ac_ok E md_75 2 (o_lt0 20 5) := ok_iflt (E := E) (d := md_75) (pc := 2) dd_75_2 (by decide)
theorem vd_75_5 (E : ac_E) : ac_ok E md_75 5 (o_ild 1 6) := ok_iload_n (E := E) (d := md_75) (pc := 5) (j := 1) dd_75_5
theorem vd_75_6 (E : ac_E) : ac_ok E md_75 6 (o_con (.int 127) 8) := ok_bipush (E := E) (d := md_75) (pc := 6) dd_75_6 (by decide)
theorem vd_75_8 (E : ac_E) : ac_ok E md_75 8 (o_gt 20 11) := ok_icmpgt (E := E) (d := md_75) (pc := 8) dd_75_8 (by decide)
theorem vd_75_11 (E : ac_E) : ac_ok E md_75 11 (o_ild 2 12) := ok_iload_n (E := E) (d := md_75) (pc := 11) (j := 2) dd_75_11
theorem vd_75_12 (E : ac_E) : ac_ok E md_75 12 (o_lt0 20 15) := ok_iflt (E := E) (d := md_75) (pc := 12) dd_75_12 (by decide)
theorem vd_75_15 (E : ac_E) : ac_ok E md_75 15 (o_ild 2 16) := ok_iload_n (E := E) (d := md_75) (pc := 15) (j := 2) dd_75_15
theorem vd_75_16 (E : ac_E) : ac_ok E md_75 16 (o_con (.int 1) 17) := ok_iconst (E := E) (d := md_75) (pc := 16) dd_75_16 (by decide)
theorem vd_75_17 (E : ac_E) : ac_ok E md_75 17 (o_le 24 20) := ok_icmple (E := E) (d := md_75) (pc := 17) dd_75_17 (by decide)
theorem vd_75_20 (E : ac_E) : ac_ok E md_75 20 (o_con (.int 1) 21) := ok_iconst (E := E) (d := md_75) (pc := 20) dd_75_20 (by decide)
theorem vd_75_21 (E : ac_E) : ac_ok E md_75 21 (o_go 25) := ok_goto (E := E) (d := md_75) (pc := 21) dd_75_21 (by decide)
theorem vd_75_24 (E : ac_E) : ac_ok E md_75 24 (o_con (.int 0) 25) := ok_iconst (E := E) (d := md_75) (pc := 24) dd_75_24 (by decide)
theorem vd_75_25 (E : ac_E) : ac_ok E md_75 25 (o_put 5 0 28) := ok_putf (E := E) (d := md_75) (pc := 25) (ci := 5) (f := 0) (C := RX5) (T := TX5) (N := 17) (ref := RX5) rfl win_5 (by decide) rfl tyX5 tyX5_ok nmX5 (by decide +kernel) rfl wm_638 dd_75_25
theorem vd_75_28 (E : ac_E) : ac_ok E md_75 28 (o_ald 0 29) := ok_aload_n (E := E) (d := md_75) (pc := 28) (j := 0) dd_75_28
theorem vd_75_29 (E : ac_E) : ac_ok E md_75 29 (o_get 5 0 32) := ok_getf (E := E) (d := md_75) (pc := 29) (ci := 5) (f := 0) (C := RX5) (T := TX5) (N := 17) (ref := RX5) rfl win_5 (by decide) rfl wm_638 dd_75_29
theorem vd_75_32 (E : ac_E) : ac_ok E md_75 32 (o_le0 39 35) := ok_ifle (E := E) (d := md_75) (pc := 32) dd_75_32 (by decide)
theorem vd_75_35 (E : ac_E) : ac_ok E md_75 35 (o_con (.int 0) 36) := ok_iconst (E := E) (d := md_75) (pc := 35) dd_75_35 (by decide)
theorem vd_75_36 (E : ac_E) : ac_ok E md_75 36 (o_go 44) := ok_goto (E := E) (d := md_75) (pc := 36) dd_75_36 (by decide)
theorem vd_75_39 (E : ac_E) : ac_ok E md_75 39 (o_ild 1 40) := ok_iload_n (E := E) (d := md_75) (pc := 39) (j := 1) dd_75_39
theorem vd_75_40 (E : ac_E) : ac_ok E md_75 40 (o_ild 2 41) := ok_iload_n (E := E) (d := md_75) (pc := 40) (j := 2) dd_75_40
theorem vd_75_41 (E : ac_E) : ac_okr E md_75 md_73 41 2 44 0 ∧ ac_okt E md_75 md_73 41 2 0 := ok_callS (E := E) (d := md_75) (dz := md_73) (pc := 41) rfl (by decide) (by decide +kernel) wm_701 wm_56 wm_699 wm_700 dd_75_41
theorem va_75 (E : ac_E) (pc : Nat) : ac_V E ac_MDf ac_HDf 75 pc (tb_75 (ac_len E) (ac_xs E) pc) := (ac_node (ac_node (ac_node (ac_node (ac_leaf 0 (⟨vd_75_0 E, mn_ald _ _⟩)) (ac_node (ac_leaf 1 (⟨vd_75_1 E, mn_ild _ _⟩)) (ac_leaf 2 (⟨vd_75_2 E, mn_lt0 _ _⟩)))) (ac_node (ac_leaf 5 (⟨vd_75_5 E, mn_ild _ _⟩)) (ac_node (ac_leaf 6 (⟨vd_75_6 E, mn_con _ _⟩)) (ac_leaf 8 (⟨vd_75_8 E, mn_gt _ _⟩))))) (ac_node (ac_node (ac_leaf 11 (⟨vd_75_11 E, mn_ild _ _⟩)) (ac_node (ac_leaf 12 (⟨vd_75_12 E, mn_lt0 _ _⟩)) (ac_leaf 15 (⟨vd_75_15 E, mn_ild _ _⟩)))) (ac_node (ac_leaf 16 (⟨vd_75_16 E, mn_con _ _⟩)) (ac_node (ac_leaf 17 (⟨vd_75_17 E, mn_le _ _⟩)) (ac_leaf 20 (⟨vd_75_20 E, mn_con _ _⟩)))))) (ac_node (ac_node (ac_node (ac_leaf 21 (⟨vd_75_21 E, mn_go _⟩)) (ac_node (ac_leaf 24 (⟨vd_75_24 E, mn_con _ _⟩)) (ac_leaf 25 (⟨vd_75_25 E, mn_put _ _ _⟩)))) (ac_node (ac_leaf 28 (⟨vd_75_28 E, mn_ald _ _⟩)) (ac_node (ac_leaf 29 (⟨vd_75_29 E, mn_get _ _ _⟩)) (ac_leaf 32 (⟨vd_75_32 E, mn_le0 _ _⟩))))) (ac_node (ac_node (ac_leaf 35 (⟨vd_75_35 E, mn_con _ _⟩)) (ac_node (ac_leaf 36 (⟨vd_75_36 E, mn_go _⟩)) (ac_leaf 39 (⟨vd_75_39 E, mn_ild _ _⟩)))) (ac_node (ac_leaf 40 (⟨vd_75_40 E, mn_ild _ _⟩)) (ac_node (ac_leaf 41 (ac_Vc0 ((vd_75_41 E).1) (fun _ => rfl))) (ac_leaf 44 (ac_Vr1 dd_75_44 rfl)))))))
theorem vd_76_0 (E : ac_E) : ac_ok E md_76 0 (o_ald 0 1) := ok_aload_n (E := E) (d := md_76) (pc := 0) (j := 0) dd_76_0
theorem vd_76_1 (E : ac_E) : ac_ok E md_76 1 (o_ald 0 2) := ok_aload_n (E := E) (d := md_76) (pc := 1) (j := 0) dd_76_1
theorem vd_76_2 (E : ac_E) : ac_ok E md_76 2 (o_ild 1 3) := ok_iload_n (E := E) (d := md_76) (pc := 2) (j := 1) dd_76_2
theorem vd_76_3 (E : ac_E) : ac_ok E md_76 3 (o_ild 2 4) := ok_iload_n (E := E) (d := md_76) (pc := 3) (j := 2) dd_76_3
theorem vd_76_4 (E : ac_E) : ac_okr E md_76 md_68 4 3 7 7 ∧ ac_okt E md_76 md_68 4 3 7 := ok_callV (E := E) (d := md_76) (dz := md_68) (pc := 4) (T := TX5) (N := 17) rfl rfl (by decide) (by decide +kernel) wm_715 wm_56 wm_712 wm_714 wm_31 dd_76_4
theorem vd_76_7 (E : ac_E) : ac_ok E md_76 7 (o_ne0 14 10) := ok_ifne (E := E) (d := md_76) (pc := 7) dd_76_7 (by decide)
theorem vd_76_10 (E : ac_E) : ac_ok E md_76 10 (o_con (.int 1) 11) := ok_iconst (E := E) (d := md_76) (pc := 10) dd_76_10 (by decide)
theorem vd_76_11 (E : ac_E) : ac_ok E md_76 11 (o_go 29) := ok_goto (E := E) (d := md_76) (pc := 11) dd_76_11 (by decide)
theorem vd_76_14 (E : ac_E) : ac_ok E md_76 14 (o_ild 3 15) := ok_iload_n (E := E) (d := md_76) (pc := 14) (j := 3) dd_76_14
theorem vd_76_15 (E : ac_E) : ac_ok E md_76 15 (o_lt0 24 18) := ok_iflt (E := E) (d := md_76) (pc := 15) dd_76_15 (by decide)
theorem vd_76_18 (E : ac_E) : ac_ok E md_76 18 (o_ild 3 19) := ok_iload_n (E := E) (d := md_76) (pc := 18) (j := 3) dd_76_18
theorem vd_76_19 (E : ac_E) : ac_ok E md_76 19 (o_con (.int 127) 21) := ok_bipush (E := E) (d := md_76) (pc := 19) dd_76_19 (by decide)
theorem vd_76_21 (E : ac_E) : ac_ok E md_76 21 (o_le 28 24) := ok_icmple (E := E) (d := md_76) (pc := 21) dd_76_21 (by decide)
theorem vd_76_24 (E : ac_E) : ac_ok E md_76 24 (o_con (.int 2) 25) := ok_iconst (E := E) (d := md_76) (pc := 24) dd_76_24 (by decide)
theorem vd_76_25 (E : ac_E) : ac_ok E md_76 25 (o_go 29) := ok_goto (E := E) (d := md_76) (pc := 25) dd_76_25 (by decide)
theorem vd_76_28 (E : ac_E) : ac_ok E md_76 28 (o_con (.int 0) 29) := ok_iconst (E := E) (d := md_76) (pc := 28) dd_76_28 (by decide)
theorem vd_76_29 (E : ac_E) : ac_ok E md_76 29 (o_put 5 0 32) := ok_putf (E := E) (d := md_76) (pc := 29) (ci := 5) (f := 0) (C := RX5) (T := TX5) (N := 17) (ref := RX5) rfl win_5 (by decide) rfl tyX5 tyX5_ok nmX5 (by decide +kernel) rfl wm_638 dd_76_29
theorem vd_76_32 (E : ac_E) : ac_ok E md_76 32 (o_ald 0 33) := ok_aload_n (E := E) (d := md_76) (pc := 32) (j := 0) dd_76_32
theorem vd_76_33 (E : ac_E) : ac_ok E md_76 33 (o_get 5 0 36) := ok_getf (E := E) (d := md_76) (pc := 33) (ci := 5) (f := 0) (C := RX5) (T := TX5) (N := 17) (ref := RX5) rfl win_5 (by decide) rfl wm_638 dd_76_33
theorem vd_76_36 (E : ac_E) : ac_ok E md_76 36 (o_le0 40 39) := ok_ifle (E := E) (d := md_76) (pc := 36) dd_76_36 (by decide)
theorem vd_76_40 (E : ac_E) : ac_ok E md_76 40 (o_ald 0 41) := ok_aload_n (E := E) (d := md_76) (pc := 40) (j := 0) dd_76_40
theorem vd_76_41 (E : ac_E) : ac_ok E md_76 41 (o_get 5 5 44) := ok_getf (E := E) (d := md_76) (pc := 41) (ci := 5) (f := 5) (C := RX5) (T := TX5) (N := 17) (ref := RX5) rfl win_5 (by decide) rfl wm_643 dd_76_41
theorem vd_76_44 (E : ac_E) : ac_ok E md_76 44 (o_ald 0 45) := ok_aload_n (E := E) (d := md_76) (pc := 44) (j := 0) dd_76_44
theorem vd_76_45 (E : ac_E) : ac_ok E md_76 45 (o_get 5 1 48) := ok_getf (E := E) (d := md_76) (pc := 45) (ci := 5) (f := 1) (C := RX5) (T := TX5) (N := 17) (ref := RX5) rfl win_5 (by decide) rfl wm_639 dd_76_45
theorem vd_76_48 (E : ac_E) : ac_ok E md_76 48 (o_ild 2 49) := ok_iload_n (E := E) (d := md_76) (pc := 48) (j := 2) dd_76_48
theorem vd_76_49 (E : ac_E) : ac_ok E md_76 49 (o_mul 50) := ok_imul (E := E) (d := md_76) (pc := 49) dd_76_49
theorem vd_76_50 (E : ac_E) : ac_ok E md_76 50 (o_ild 1 51) := ok_iload_n (E := E) (d := md_76) (pc := 50) (j := 1) dd_76_50
theorem vd_76_51 (E : ac_E) : ac_ok E md_76 51 (o_add 52) := ok_iadd (E := E) (d := md_76) (pc := 51) dd_76_51
theorem vd_76_52 (E : ac_E) : ac_ok E md_76 52 (o_ild 3 53) := ok_iload_n (E := E) (d := md_76) (pc := 52) (j := 3) dd_76_52
theorem vd_76_53 (E : ac_E) : ac_ok E md_76 53 (o_is 54) := ok_iastore (E := E) (d := md_76) (pc := 53) dd_76_53
theorem vd_76_54 (E : ac_E) : ac_ok E md_76 54 (o_con (.int 0) 55) := ok_iconst (E := E) (d := md_76) (pc := 54) dd_76_54 (by decide)
theorem vd_76_55 (E : ac_E) : ac_ok E md_76 55 (o_ist 4 57) := ok_istore (E := E) (d := md_76) (pc := 55) dd_76_55
theorem vd_76_57 (E : ac_E) : ac_ok E md_76 57 (o_ild 4 59) := ok_iload (E := E) (d := md_76) (pc := 57) dd_76_57
theorem vd_76_59 (E : ac_E) : ac_ok E md_76 59 (o_ald 0 60) := ok_aload_n (E := E) (d := md_76) (pc := 59) (j := 0) dd_76_59
theorem vd_76_60 (E : ac_E) : ac_ok E md_76 60 (o_get 5 14 63) := ok_getf (E := E) (d := md_76) (pc := 60) (ci := 5) (f := 14) (C := RX5) (T := TX5) (N := 17) (ref := RX5) rfl win_5 (by decide) rfl wm_652 dd_76_60
theorem vd_76_63 (E : ac_E) : ac_ok E md_76 63 (o_ge 108 66) := ok_icmpge (E := E) (d := md_76) (pc := 63) dd_76_63 (by decide)
theorem vd_76_66 (E : ac_E) : ac_ok E md_76 66 (o_ald 0 67) := ok_aload_n (E := E) (d := md_76) (pc := 66) (j := 0) dd_76_66
theorem vd_76_67 (E : ac_E) : ac_ok E md_76 67 (o_get 5 15 70) := ok_getf (E := E) (d := md_76) (pc := 67) (ci := 5) (f := 15) (C := RX5) (T := TX5) (N := 17) (ref := RX5) rfl win_5 (by decide) rfl wm_653 dd_76_67
theorem vd_76_70 (E : ac_E) : ac_ok E md_76 70 (o_ild 4 72) := ok_iload (E := E) (d := md_76) (pc := 70) dd_76_70
theorem vd_76_72 (E : ac_E) : ac_ok E md_76 72 (o_ald 0 73) := ok_aload_n (E := E) (d := md_76) (pc := 72) (j := 0) dd_76_72
theorem vd_76_73 (E : ac_E) : ac_ok E md_76 73 (o_get 5 15 76) := ok_getf (E := E) (d := md_76) (pc := 73) (ci := 5) (f := 15) (C := RX5) (T := TX5) (N := 17) (ref := RX5) rfl win_5 (by decide) rfl wm_653 dd_76_73
theorem vd_76_76 (E : ac_E) : ac_ok E md_76 76 (o_ild 4 78) := ok_iload (E := E) (d := md_76) (pc := 76) dd_76_76
theorem vd_76_78 (E : ac_E) : ac_ok E md_76 78 (o_ia 79) := ok_iaload (E := E) (d := md_76) (pc := 78) dd_76_78
theorem vd_76_79 (E : ac_E) : ac_ok E md_76 79 (o_ald 0 80) := ok_aload_n (E := E) (d := md_76) (pc := 79) (j := 0) dd_76_79
theorem vd_76_80 (E : ac_E) : ac_ok E md_76 80 (o_get 5 1 83) := ok_getf (E := E) (d := md_76) (pc := 80) (ci := 5) (f := 1) (C := RX5) (T := TX5) (N := 17) (ref := RX5) rfl win_5 (by decide) rfl wm_639 dd_76_80
theorem vd_76_83 (E : ac_E) : ac_ok E md_76 83 (o_ild 2 84) := ok_iload_n (E := E) (d := md_76) (pc := 83) (j := 2) dd_76_83
theorem vd_76_84 (E : ac_E) : ac_ok E md_76 84 (o_mul 85) := ok_imul (E := E) (d := md_76) (pc := 84) dd_76_84
theorem vd_76_85 (E : ac_E) : ac_ok E md_76 85 (o_ild 1 86) := ok_iload_n (E := E) (d := md_76) (pc := 85) (j := 1) dd_76_85
theorem vd_76_86 (E : ac_E) : ac_ok E md_76 86 (o_add 87) := ok_iadd (E := E) (d := md_76) (pc := 86) dd_76_86
theorem vd_76_87 (E : ac_E) : ac_ok E md_76 87 (o_ne 94 90) := ok_icmpne (E := E) (d := md_76) (pc := 87) dd_76_87 (by decide)
theorem vd_76_90 (E : ac_E) : ac_ok E md_76 90 (o_con (.int (-1)) 91) := ok_iconst (E := E) (d := md_76) (pc := 90) dd_76_90 (by decide)
theorem vd_76_91 (E : ac_E) : ac_ok E md_76 91 (o_go 101) := ok_goto (E := E) (d := md_76) (pc := 91) dd_76_91 (by decide)
theorem vd_76_94 (E : ac_E) : ac_ok E md_76 94 (o_ald 0 95) := ok_aload_n (E := E) (d := md_76) (pc := 94) (j := 0) dd_76_94
theorem vd_76_95 (E : ac_E) : ac_ok E md_76 95 (o_get 5 15 98) := ok_getf (E := E) (d := md_76) (pc := 95) (ci := 5) (f := 15) (C := RX5) (T := TX5) (N := 17) (ref := RX5) rfl win_5 (by decide) rfl wm_653 dd_76_95
theorem vd_76_98 (E : ac_E) : ac_ok E md_76 98 (o_ild 4 100) := ok_iload (E := E) (d := md_76) (pc := 98) dd_76_98
theorem vd_76_100 (E : ac_E) : ac_ok E md_76 100 (o_ia 101) := ok_iaload (E := E) (d := md_76) (pc := 100) dd_76_100
theorem vd_76_101 (E : ac_E) : ac_ok E md_76 101 (o_is 102) := ok_iastore (E := E) (d := md_76) (pc := 101) dd_76_101
theorem vd_76_102 (E : ac_E) : ac_ok E md_76 102 (o_inc 4 1 105) := ok_iinc (E := E) (d := md_76) (pc := 102) dd_76_102 (by decide)
theorem vd_76_105 (E : ac_E) : ac_ok E md_76 105 (o_go 57) := ok_goto (E := E) (d := md_76) (pc := 105) dd_76_105 (by decide)
theorem va_76 (E : ac_E) (pc : Nat) : ac_V E ac_MDf ac_HDf 76 pc (tb_76 (ac_len E) (ac_xs E) pc) := (ac_node (ac_node (ac_node (ac_node (ac_node (ac_leaf 0 (⟨vd_76_0 E, mn_ald _ _⟩)) (ac_node (ac_leaf 1 (⟨vd_76_1 E, mn_ald _ _⟩)) (ac_leaf 2 (⟨vd_76_2 E, mn_ild _ _⟩)))) (ac_node (ac_node (ac_leaf 3 (⟨vd_76_3 E, mn_ild _ _⟩)) (ac_leaf 4 (ac_Vc0 ((vd_76_4 E).1) (fun _ => rfl)))) (ac_node (ac_leaf 7 (⟨vd_76_7 E, mn_ne0 _ _⟩)) (ac_leaf 10 (⟨vd_76_10 E, mn_con _ _⟩))))) (ac_node (ac_node (ac_node (ac_leaf 11 (⟨vd_76_11 E, mn_go _⟩)) (ac_leaf 14 (⟨vd_76_14 E, mn_ild _ _⟩))) (ac_node (ac_leaf 15 (⟨vd_76_15 E, mn_lt0 _ _⟩)) (ac_leaf 18 (⟨vd_76_18 E, mn_ild _ _⟩)))) (ac_node (ac_node (ac_leaf 19 (⟨vd_76_19 E, mn_con _ _⟩)) (ac_leaf 21 (⟨vd_76_21 E, mn_le _ _⟩))) (ac_node (ac_leaf 24 (⟨vd_76_24 E, mn_con _ _⟩)) (ac_leaf 25 (⟨vd_76_25 E, mn_go _⟩)))))) (ac_node (ac_node (ac_node (ac_leaf 28 (⟨vd_76_28 E, mn_con _ _⟩)) (ac_node (ac_leaf 29 (⟨vd_76_29 E, mn_put _ _ _⟩)) (ac_leaf 32 (⟨vd_76_32 E, mn_ald _ _⟩)))) (ac_node (ac_node (ac_leaf 33 (⟨vd_76_33 E, mn_get _ _ _⟩)) (ac_leaf 36 (⟨vd_76_36 E, mn_le0 _ _⟩))) (ac_node (ac_leaf 39 (ac_Vr0 dd_76_39 rfl)) (ac_leaf 40 (⟨vd_76_40 E, mn_ald _ _⟩))))) (ac_node (ac_node (ac_node (ac_leaf 41 (⟨vd_76_41 E, mn_get _ _ _⟩)) (ac_leaf 44 (⟨vd_76_44 E, mn_ald _ _⟩))) (ac_node (ac_leaf 45 (⟨vd_76_45 E, mn_get _ _ _⟩)) (ac_leaf 48 (⟨vd_76_48 E, mn_ild _ _⟩)))) (ac_node (ac_node (ac_leaf 49 (⟨vd_76_49 E, mn_mul _⟩)) (ac_leaf 50 (⟨vd_76_50 E, mn_ild _ _⟩))) (ac_node (ac_leaf 51 (⟨vd_76_51 E, mn_add _⟩)) (ac_leaf 52 (⟨vd_76_52 E, mn_ild _ _⟩))))))) (ac_node (ac_node (ac_node (ac_node (ac_leaf 53 (⟨vd_76_53 E, mn_is _⟩)) (ac_node (ac_leaf 54 (⟨vd_76_54 E, mn_con _ _⟩)) (ac_leaf 55 (⟨vd_76_55 E, mn_ist _ _⟩)))) (ac_node (ac_node (ac_leaf 57 (⟨vd_76_57 E, mn_ild _ _⟩)) (ac_leaf 59 (⟨vd_76_59 E, mn_ald _ _⟩))) (ac_node (ac_leaf 60 (⟨vd_76_60 E, mn_get _ _ _⟩)) (ac_leaf 63 (⟨vd_76_63 E, mn_ge _ _⟩))))) (ac_node (ac_node (ac_node (ac_leaf 66 (⟨vd_76_66 E, mn_ald _ _⟩)) (ac_leaf 67 (⟨vd_76_67 E, mn_get _ _ _⟩))) (ac_node (ac_leaf 70 (⟨vd_76_70 E, mn_ild _ _⟩)) (ac_leaf 72 (⟨vd_76_72 E, mn_ald _ _⟩)))) (ac_node (ac_node (ac_leaf 73 (⟨vd_76_73 E, mn_get _ _ _⟩)) (ac_leaf 76 (⟨vd_76_76 E, mn_ild _ _⟩))) (ac_node (ac_leaf 78 (⟨vd_76_78 E, mn_ia _⟩)) (ac_leaf 79 (⟨vd_76_79 E, mn_ald _ _⟩)))))) (ac_node (ac_node (ac_node (ac_node (ac_leaf 80 (⟨vd_76_80 E, mn_get _ _ _⟩)) (ac_leaf 83 (⟨vd_76_83 E, mn_ild _ _⟩))) (ac_node (ac_leaf 84 (⟨vd_76_84 E, mn_mul _⟩)) (ac_leaf 85 (⟨vd_76_85 E, mn_ild _ _⟩)))) (ac_node (ac_node (ac_leaf 86 (⟨vd_76_86 E, mn_add _⟩)) (ac_leaf 87 (⟨vd_76_87 E, mn_ne _ _⟩))) (ac_node (ac_leaf 90 (⟨vd_76_90 E, mn_con _ _⟩)) (ac_leaf 91 (⟨vd_76_91 E, mn_go _⟩))))) (ac_node (ac_node (ac_node (ac_leaf 94 (⟨vd_76_94 E, mn_ald _ _⟩)) (ac_leaf 95 (⟨vd_76_95 E, mn_get _ _ _⟩))) (ac_node (ac_leaf 98 (⟨vd_76_98 E, mn_ild _ _⟩)) (ac_leaf 100 (⟨vd_76_100 E, mn_ia _⟩)))) (ac_node (ac_node (ac_leaf 101 (⟨vd_76_101 E, mn_is _⟩)) (ac_leaf 102 (⟨vd_76_102 E, mn_inc _ _ _⟩))) (ac_node (ac_leaf 105 (⟨vd_76_105 E, mn_go _⟩)) (ac_leaf 108 (ac_Vr0 dd_76_108 rfl))))))))
theorem vd_77_0 (E : ac_E) : ac_ok E md_77 0 (o_ald 0 1) := ok_aload_n (E := E) (d := md_77) (pc := 0) (j := 0) dd_77_0
theorem vd_77_1 (E : ac_E) : ac_ok E md_77 1 (o_ald 0 2) := ok_aload_n (E := E) (d := md_77) (pc := 1) (j := 0) dd_77_1
theorem vd_77_2 (E : ac_E) : ac_ok E md_77 2 (o_ild 1 3) := ok_iload_n (E := E) (d := md_77) (pc := 2) (j := 1) dd_77_2
theorem vd_77_3 (E : ac_E) : ac_ok E md_77 3 (o_ild 2 4) := ok_iload_n (E := E) (d := md_77) (pc := 3) (j := 2) dd_77_3
theorem vd_77_4 (E : ac_E) : ac_okr E md_77 md_68 4 3 7 7 ∧ ac_okt E md_77 md_68 4 3 7 := ok_callV (E := E) (d := md_77) (dz := md_68) (pc := 4) (T := TX5) (N := 17) rfl rfl (by decide) (by decide +kernel) wm_715 wm_56 wm_712 wm_714 wm_31 dd_77_4
theorem vd_77_7 (E : ac_E) : ac_ok E md_77 7 (o_eq0 14 10) := ok_ifeq (E := E) (d := md_77) (pc := 7) dd_77_7 (by decide)
theorem vd_77_10 (E : ac_E) : ac_ok E md_77 10 (o_con (.int 0) 11) := ok_iconst (E := E) (d := md_77) (pc := 10) dd_77_10 (by decide)
theorem vd_77_11 (E : ac_E) : ac_ok E md_77 11 (o_go 15) := ok_goto (E := E) (d := md_77) (pc := 11) dd_77_11 (by decide)
theorem vd_77_14 (E : ac_E) : ac_ok E md_77 14 (o_con (.int 1) 15) := ok_iconst (E := E) (d := md_77) (pc := 14) dd_77_14 (by decide)
theorem vd_77_15 (E : ac_E) : ac_ok E md_77 15 (o_put 5 0 18) := ok_putf (E := E) (d := md_77) (pc := 15) (ci := 5) (f := 0) (C := RX5) (T := TX5) (N := 17) (ref := RX5) rfl win_5 (by decide) rfl tyX5 tyX5_ok nmX5 (by decide +kernel) rfl wm_638 dd_77_15
theorem vd_77_18 (E : ac_E) : ac_ok E md_77 18 (o_ald 0 19) := ok_aload_n (E := E) (d := md_77) (pc := 18) (j := 0) dd_77_18
theorem vd_77_19 (E : ac_E) : ac_ok E md_77 19 (o_get 5 0 22) := ok_getf (E := E) (d := md_77) (pc := 19) (ci := 5) (f := 0) (C := RX5) (T := TX5) (N := 17) (ref := RX5) rfl win_5 (by decide) rfl wm_638 dd_77_19
theorem vd_77_22 (E : ac_E) : ac_ok E md_77 22 (o_le0 29 25) := ok_ifle (E := E) (d := md_77) (pc := 22) dd_77_22 (by decide)
theorem vd_77_25 (E : ac_E) : ac_ok E md_77 25 (o_con (.int 0) 26) := ok_iconst (E := E) (d := md_77) (pc := 25) dd_77_25 (by decide)
theorem vd_77_26 (E : ac_E) : ac_ok E md_77 26 (o_go 42) := ok_goto (E := E) (d := md_77) (pc := 26) dd_77_26 (by decide)
theorem vd_77_29 (E : ac_E) : ac_ok E md_77 29 (o_ald 0 30) := ok_aload_n (E := E) (d := md_77) (pc := 29) (j := 0) dd_77_29
theorem vd_77_30 (E : ac_E) : ac_ok E md_77 30 (o_get 5 5 33) := ok_getf (E := E) (d := md_77) (pc := 30) (ci := 5) (f := 5) (C := RX5) (T := TX5) (N := 17) (ref := RX5) rfl win_5 (by decide) rfl wm_643 dd_77_30
theorem vd_77_33 (E : ac_E) : ac_ok E md_77 33 (o_ald 0 34) := ok_aload_n (E := E) (d := md_77) (pc := 33) (j := 0) dd_77_33
theorem vd_77_34 (E : ac_E) : ac_ok E md_77 34 (o_get 5 1 37) := ok_getf (E := E) (d := md_77) (pc := 34) (ci := 5) (f := 1) (C := RX5) (T := TX5) (N := 17) (ref := RX5) rfl win_5 (by decide) rfl wm_639 dd_77_34
theorem vd_77_37 (E : ac_E) : ac_ok E md_77 37 (o_ild 2 38) := ok_iload_n (E := E) (d := md_77) (pc := 37) (j := 2) dd_77_37
theorem vd_77_38 (E : ac_E) : ac_ok E md_77 38 (o_mul 39) := ok_imul (E := E) (d := md_77) (pc := 38) dd_77_38
theorem vd_77_39 (E : ac_E) : ac_ok E md_77 39 (o_ild 1 40) := ok_iload_n (E := E) (d := md_77) (pc := 39) (j := 1) dd_77_39
theorem vd_77_40 (E : ac_E) : ac_ok E md_77 40 (o_add 41) := ok_iadd (E := E) (d := md_77) (pc := 40) dd_77_40
theorem vd_77_41 (E : ac_E) : ac_ok E md_77 41 (o_ia 42) := ok_iaload (E := E) (d := md_77) (pc := 41) dd_77_41
theorem va_77 (E : ac_E) (pc : Nat) : ac_V E ac_MDf ac_HDf 77 pc (tb_77 (ac_len E) (ac_xs E) pc) := (ac_node (ac_node (ac_node (ac_node (ac_leaf 0 (⟨vd_77_0 E, mn_ald _ _⟩)) (ac_node (ac_leaf 1 (⟨vd_77_1 E, mn_ald _ _⟩)) (ac_leaf 2 (⟨vd_77_2 E, mn_ild _ _⟩)))) (ac_node (ac_leaf 3 (⟨vd_77_3 E, mn_ild _ _⟩)) (ac_node (ac_leaf 4 (ac_Vc0 ((vd_77_4 E).1) (fun _ => rfl))) (ac_leaf 7 (⟨vd_77_7 E, mn_eq0 _ _⟩))))) (ac_node (ac_node (ac_leaf 10 (⟨vd_77_10 E, mn_con _ _⟩)) (ac_node (ac_leaf 11 (⟨vd_77_11 E, mn_go _⟩)) (ac_leaf 14 (⟨vd_77_14 E, mn_con _ _⟩)))) (ac_node (ac_leaf 15 (⟨vd_77_15 E, mn_put _ _ _⟩)) (ac_node (ac_leaf 18 (⟨vd_77_18 E, mn_ald _ _⟩)) (ac_leaf 19 (⟨vd_77_19 E, mn_get _ _ _⟩)))))) (ac_node (ac_node (ac_node (ac_leaf 22 (⟨vd_77_22 E, mn_le0 _ _⟩)) (ac_node (ac_leaf 25 (⟨vd_77_25 E, mn_con _ _⟩)) (ac_leaf 26 (⟨vd_77_26 E, mn_go _⟩)))) (ac_node (ac_leaf 29 (⟨vd_77_29 E, mn_ald _ _⟩)) (ac_node (ac_leaf 30 (⟨vd_77_30 E, mn_get _ _ _⟩)) (ac_leaf 33 (⟨vd_77_33 E, mn_ald _ _⟩))))) (ac_node (ac_node (ac_leaf 34 (⟨vd_77_34 E, mn_get _ _ _⟩)) (ac_node (ac_leaf 37 (⟨vd_77_37 E, mn_ild _ _⟩)) (ac_leaf 38 (⟨vd_77_38 E, mn_mul _⟩)))) (ac_node (ac_node (ac_leaf 39 (⟨vd_77_39 E, mn_ild _ _⟩)) (ac_leaf 40 (⟨vd_77_40 E, mn_add _⟩))) (ac_node (ac_leaf 41 (⟨vd_77_41 E, mn_ia _⟩)) (ac_leaf 42 (ac_Vr1 dd_77_42 rfl)))))))
theorem vd_78_0 (E : ac_E) : ac_ok E md_78 0 (o_ild 3 1) := ok_iload_n (E := E) (d := md_78) (pc := 0) (j := 3) dd_78_0
theorem vd_78_1 (E : ac_E) : ac_ok E md_78 1 (o_ald 0 2) := ok_aload_n (E := E) (d := md_78) (pc := 1) (j := 0) dd_78_1
theorem vd_78_2 (E : ac_E) : ac_ok E md_78 2 (o_get 5 6 5) := ok_getf (E := E) (d := md_78) (pc := 2) (ci := 5) (f := 6) (C := RX5) (T := TX5) (N := 17) (ref := RX5) rfl win_5 (by decide) rfl wm_644 dd_78_2
theorem vd_78_5 (E : ac_E) : ac_ok E md_78 5 (o_ild 1 6) := ok_iload_n (E := E) (d := md_78) (pc := 5) (j := 1) dd_78_5
theorem vd_78_6 (E : ac_E) : ac_ok E md_78 6 (o_ia 7) := ok_iaload (E := E) (d := md_78) (pc := 6) dd_78_6
theorem vd_78_7 (E : ac_E) : ac_ok E md_78 7 (o_ild 2 8) := ok_iload_n (E := E) (d := md_78) (pc := 7) (j := 2) dd_78_7
theorem vd_78_8 (E : ac_E) : ac_ok E md_78 8 (o_ne 15 11) := ok_icmpne (E := E) (d := md_78) (pc := 8) dd_78_8 (by decide)
theorem vd_78_11 (E : ac_E) : ac_ok E md_78 11 (o_con (.int 1) 12) := ok_iconst (E := E) (d := md_78) (pc := 11) dd_78_11 (by decide)
theorem vd_78_12 (E : ac_E) : ac_ok E md_78 12 (o_go 16) := ok_goto (E := E) (d := md_78) (pc := 12) dd_78_12 (by decide)
theorem vd_78_15 (E : ac_E) : ac_ok E md_78 15 (o_con (.int 0) 16) := ok_iconst (E := E) (d := md_78) (pc := 15) dd_78_15 (by decide)
theorem vd_78_16 (E : ac_E) : ac_ok E md_78 16 (o_eq 23 19) := ok_icmpeq (E := E) (d := md_78) (pc := 16) dd_78_16 (by decide)
theorem vd_78_19 (E : ac_E) : ac_ok E md_78 19 (o_con (.int 1) 20) := ok_iconst (E := E) (d := md_78) (pc := 19) dd_78_19 (by decide)
theorem vd_78_20 (E : ac_E) : ac_ok E md_78 20 (o_go 24) := ok_goto (E := E) (d := md_78) (pc := 20) dd_78_20 (by decide)
theorem vd_78_23 (E : ac_E) : ac_ok E md_78 23 (o_con (.int 0) 24) := ok_iconst (E := E) (d := md_78) (pc := 23) dd_78_23 (by decide)
theorem vd_78_24 (E : ac_E) : ac_ok E md_78 24 (o_ist 4 26) := ok_istore (E := E) (d := md_78) (pc := 24) dd_78_24
theorem vd_78_26 (E : ac_E) : ac_ok E md_78 26 (o_ald 0 27) := ok_aload_n (E := E) (d := md_78) (pc := 26) (j := 0) dd_78_26
theorem vd_78_27 (E : ac_E) : ac_ok E md_78 27 (o_get 5 6 30) := ok_getf (E := E) (d := md_78) (pc := 27) (ci := 5) (f := 6) (C := RX5) (T := TX5) (N := 17) (ref := RX5) rfl win_5 (by decide) rfl wm_644 dd_78_27
theorem vd_78_30 (E : ac_E) : ac_ok E md_78 30 (o_ild 1 31) := ok_iload_n (E := E) (d := md_78) (pc := 30) (j := 1) dd_78_30
theorem vd_78_31 (E : ac_E) : ac_ok E md_78 31 (o_ild 3 32) := ok_iload_n (E := E) (d := md_78) (pc := 31) (j := 3) dd_78_31
theorem vd_78_32 (E : ac_E) : ac_ok E md_78 32 (o_eq0 39 35) := ok_ifeq (E := E) (d := md_78) (pc := 32) dd_78_32 (by decide)
theorem vd_78_35 (E : ac_E) : ac_ok E md_78 35 (o_ild 2 36) := ok_iload_n (E := E) (d := md_78) (pc := 35) (j := 2) dd_78_35
theorem vd_78_36 (E : ac_E) : ac_ok E md_78 36 (o_go 40) := ok_goto (E := E) (d := md_78) (pc := 36) dd_78_36 (by decide)
theorem vd_78_39 (E : ac_E) : ac_ok E md_78 39 (o_con (.int 0) 40) := ok_iconst (E := E) (d := md_78) (pc := 39) dd_78_39 (by decide)
theorem vd_78_40 (E : ac_E) : ac_ok E md_78 40 (o_is 41) := ok_iastore (E := E) (d := md_78) (pc := 40) dd_78_40
theorem vd_78_41 (E : ac_E) : ac_ok E md_78 41 (o_ild 4 43) := ok_iload (E := E) (d := md_78) (pc := 41) dd_78_41
theorem va_78 (E : ac_E) (pc : Nat) : ac_V E ac_MDf ac_HDf 78 pc (tb_78 (ac_len E) (ac_xs E) pc) := (ac_node (ac_node (ac_node (ac_node (ac_leaf 0 (⟨vd_78_0 E, mn_ild _ _⟩)) (ac_node (ac_leaf 1 (⟨vd_78_1 E, mn_ald _ _⟩)) (ac_leaf 2 (⟨vd_78_2 E, mn_get _ _ _⟩)))) (ac_node (ac_leaf 5 (⟨vd_78_5 E, mn_ild _ _⟩)) (ac_node (ac_leaf 6 (⟨vd_78_6 E, mn_ia _⟩)) (ac_leaf 7 (⟨vd_78_7 E, mn_ild _ _⟩))))) (ac_node (ac_node (ac_leaf 8 (⟨vd_78_8 E, mn_ne _ _⟩)) (ac_node (ac_leaf 11 (⟨vd_78_11 E, mn_con _ _⟩)) (ac_leaf 12 (⟨vd_78_12 E, mn_go _⟩)))) (ac_node (ac_node (ac_leaf 15 (⟨vd_78_15 E, mn_con _ _⟩)) (ac_leaf 16 (⟨vd_78_16 E, mn_eq _ _⟩))) (ac_node (ac_leaf 19 (⟨vd_78_19 E, mn_con _ _⟩)) (ac_leaf 20 (⟨vd_78_20 E, mn_go _⟩)))))) (ac_node (ac_node (ac_node (ac_leaf 23 (⟨vd_78_23 E, mn_con _ _⟩)) (ac_node (ac_leaf 24 (⟨vd_78_24 E, mn_ist _ _⟩)) (ac_leaf 26 (⟨vd_78_26 E, mn_ald _ _⟩)))) (ac_node (ac_leaf 27 (⟨vd_78_27 E, mn_get _ _ _⟩)) (ac_node (ac_leaf 30 (⟨vd_78_30 E, mn_ild _ _⟩)) (ac_leaf 31 (⟨vd_78_31 E, mn_ild _ _⟩))))) (ac_node (ac_node (ac_leaf 32 (⟨vd_78_32 E, mn_eq0 _ _⟩)) (ac_node (ac_leaf 35 (⟨vd_78_35 E, mn_ild _ _⟩)) (ac_leaf 36 (⟨vd_78_36 E, mn_go _⟩)))) (ac_node (ac_node (ac_leaf 39 (⟨vd_78_39 E, mn_con _ _⟩)) (ac_leaf 40 (⟨vd_78_40 E, mn_is _⟩))) (ac_node (ac_leaf 41 (⟨vd_78_41 E, mn_ild _ _⟩)) (ac_leaf 43 (ac_Vr2 dd_78_43 rfl)))))))
theorem vd_79_0 (E : ac_E) : ac_ok E md_79 0 (o_ald 0 1) := ok_aload_n (E := E) (d := md_79) (pc := 0) (j := 0) dd_79_0
theorem vd_79_1 (E : ac_E) : ac_ok E md_79 1 (o_get 5 6 4) := ok_getf (E := E) (d := md_79) (pc := 1) (ci := 5) (f := 6) (C := RX5) (T := TX5) (N := 17) (ref := RX5) rfl win_5 (by decide) rfl wm_644 dd_79_1
theorem vd_79_4 (E : ac_E) : ac_ok E md_79 4 (o_ild 1 5) := ok_iload_n (E := E) (d := md_79) (pc := 4) (j := 1) dd_79_4
theorem vd_79_5 (E : ac_E) : ac_ok E md_79 5 (o_ia 6) := ok_iaload (E := E) (d := md_79) (pc := 5) dd_79_5
theorem vd_79_6 (E : ac_E) : ac_ok E md_79 6 (o_eq0 23 9) := ok_ifeq (E := E) (d := md_79) (pc := 6) dd_79_6 (by decide)
theorem vd_79_9 (E : ac_E) : ac_ok E md_79 9 (o_ald 0 10) := ok_aload_n (E := E) (d := md_79) (pc := 9) (j := 0) dd_79_9
theorem vd_79_10 (E : ac_E) : ac_ok E md_79 10 (o_get 5 6 13) := ok_getf (E := E) (d := md_79) (pc := 10) (ci := 5) (f := 6) (C := RX5) (T := TX5) (N := 17) (ref := RX5) rfl win_5 (by decide) rfl wm_644 dd_79_10
theorem vd_79_13 (E : ac_E) : ac_ok E md_79 13 (o_ild 1 14) := ok_iload_n (E := E) (d := md_79) (pc := 13) (j := 1) dd_79_13
theorem vd_79_14 (E : ac_E) : ac_ok E md_79 14 (o_ia 15) := ok_iaload (E := E) (d := md_79) (pc := 14) dd_79_14
theorem vd_79_15 (E : ac_E) : ac_ok E md_79 15 (o_ild 2 16) := ok_iload_n (E := E) (d := md_79) (pc := 15) (j := 2) dd_79_15
theorem vd_79_16 (E : ac_E) : ac_ok E md_79 16 (o_eq 23 19) := ok_icmpeq (E := E) (d := md_79) (pc := 16) dd_79_16 (by decide)
theorem vd_79_19 (E : ac_E) : ac_ok E md_79 19 (o_con (.int 1) 20) := ok_iconst (E := E) (d := md_79) (pc := 19) dd_79_19 (by decide)
theorem vd_79_20 (E : ac_E) : ac_ok E md_79 20 (o_go 24) := ok_goto (E := E) (d := md_79) (pc := 20) dd_79_20 (by decide)
theorem vd_79_23 (E : ac_E) : ac_ok E md_79 23 (o_con (.int 0) 24) := ok_iconst (E := E) (d := md_79) (pc := 23) dd_79_23 (by decide)
theorem va_79 (E : ac_E) (pc : Nat) : ac_V E ac_MDf ac_HDf 79 pc (tb_79 (ac_len E) (ac_xs E) pc) := (ac_node (ac_node (ac_node (ac_leaf 0 (⟨vd_79_0 E, mn_ald _ _⟩)) (ac_node (ac_leaf 1 (⟨vd_79_1 E, mn_get _ _ _⟩)) (ac_leaf 4 (⟨vd_79_4 E, mn_ild _ _⟩)))) (ac_node (ac_node (ac_leaf 5 (⟨vd_79_5 E, mn_ia _⟩)) (ac_leaf 6 (⟨vd_79_6 E, mn_eq0 _ _⟩))) (ac_node (ac_leaf 9 (⟨vd_79_9 E, mn_ald _ _⟩)) (ac_leaf 10 (⟨vd_79_10 E, mn_get _ _ _⟩))))) (ac_node (ac_node (ac_node (ac_leaf 13 (⟨vd_79_13 E, mn_ild _ _⟩)) (ac_leaf 14 (⟨vd_79_14 E, mn_ia _⟩))) (ac_node (ac_leaf 15 (⟨vd_79_15 E, mn_ild _ _⟩)) (ac_leaf 16 (⟨vd_79_16 E, mn_eq _ _⟩)))) (ac_node (ac_node (ac_leaf 19 (⟨vd_79_19 E, mn_con _ _⟩)) (ac_leaf 20 (⟨vd_79_20 E, mn_go _⟩))) (ac_node (ac_leaf 23 (⟨vd_79_23 E, mn_con _ _⟩)) (ac_leaf 24 (ac_Vr2 dd_79_24 rfl))))))
theorem vd_80_0 (E : ac_E) : ac_ok E md_80 0 (o_ald 0 1) := ok_aload_n (E := E) (d := md_80) (pc := 0) (j := 0) dd_80_0
theorem vd_80_1 (E : ac_E) : ac_ok E md_80 1 (o_ald 0 2) := ok_aload_n (E := E) (d := md_80) (pc := 1) (j := 0) dd_80_1
theorem vd_80_2 (E : ac_E) : ac_ok E md_80 2 (o_ild 1 3) := ok_iload_n (E := E) (d := md_80) (pc := 2) (j := 1) dd_80_2
theorem vd_80_3 (E : ac_E) : ac_ok E md_80 3 (o_ild 2 4) := ok_iload_n (E := E) (d := md_80) (pc := 3) (j := 2) dd_80_3
theorem vd_80_4 (E : ac_E) : ac_okr E md_80 md_68 4 3 7 7 ∧ ac_okt E md_80 md_68 4 3 7 := ok_callV (E := E) (d := md_80) (dz := md_68) (pc := 4) (T := TX5) (N := 17) rfl rfl (by decide) (by decide +kernel) wm_715 wm_56 wm_712 wm_714 wm_31 dd_80_4
theorem vd_80_7 (E : ac_E) : ac_ok E md_80 7 (o_ne0 14 10) := ok_ifne (E := E) (d := md_80) (pc := 7) dd_80_7 (by decide)
theorem vd_80_10 (E : ac_E) : ac_ok E md_80 10 (o_con (.int 1) 11) := ok_iconst (E := E) (d := md_80) (pc := 10) dd_80_10 (by decide)
theorem vd_80_11 (E : ac_E) : ac_ok E md_80 11 (o_go 35) := ok_goto (E := E) (d := md_80) (pc := 11) dd_80_11 (by decide)
theorem vd_80_14 (E : ac_E) : ac_ok E md_80 14 (o_ald 0 15) := ok_aload_n (E := E) (d := md_80) (pc := 14) (j := 0) dd_80_14
theorem vd_80_15 (E : ac_E) : ac_ok E md_80 15 (o_ald 0 16) := ok_aload_n (E := E) (d := md_80) (pc := 15) (j := 0) dd_80_15
theorem vd_80_16 (E : ac_E) : ac_ok E md_80 16 (o_get 5 1 19) := ok_getf (E := E) (d := md_80) (pc := 16) (ci := 5) (f := 1) (C := RX5) (T := TX5) (N := 17) (ref := RX5) rfl win_5 (by decide) rfl wm_639 dd_80_16
theorem vd_80_19 (E : ac_E) : ac_ok E md_80 19 (o_ild 2 20) := ok_iload_n (E := E) (d := md_80) (pc := 19) (j := 2) dd_80_19
theorem vd_80_20 (E : ac_E) : ac_ok E md_80 20 (o_mul 21) := ok_imul (E := E) (d := md_80) (pc := 20) dd_80_20
theorem vd_80_21 (E : ac_E) : ac_ok E md_80 21 (o_ild 1 22) := ok_iload_n (E := E) (d := md_80) (pc := 21) (j := 1) dd_80_21
theorem vd_80_22 (E : ac_E) : ac_ok E md_80 22 (o_add 23) := ok_iadd (E := E) (d := md_80) (pc := 22) dd_80_22
theorem vd_80_23 (E : ac_E) : ac_ok E md_80 23 (o_ild 3 24) := ok_iload_n (E := E) (d := md_80) (pc := 23) (j := 3) dd_80_23
theorem vd_80_24 (E : ac_E) : ac_okr E md_80 md_79 24 3 27 7 ∧ ac_okt E md_80 md_79 24 3 7 := ok_callV (E := E) (d := md_80) (dz := md_79) (pc := 24) (T := TX5) (N := 17) rfl rfl (by decide) (by decide +kernel) wm_731 wm_56 wm_728 wm_730 wm_33 dd_80_24
theorem vd_80_27 (E : ac_E) : ac_ok E md_80 27 (o_eq0 34 30) := ok_ifeq (E := E) (d := md_80) (pc := 27) dd_80_27 (by decide)
theorem vd_80_30 (E : ac_E) : ac_ok E md_80 30 (o_con (.int 2) 31) := ok_iconst (E := E) (d := md_80) (pc := 30) dd_80_30 (by decide)
theorem vd_80_31 (E : ac_E) : ac_ok E md_80 31 (o_go 35) := ok_goto (E := E) (d := md_80) (pc := 31) dd_80_31 (by decide)
theorem vd_80_34 (E : ac_E) : ac_ok E md_80 34 (o_con (.int 0) 35) := ok_iconst (E := E) (d := md_80) (pc := 34) dd_80_34 (by decide)
theorem vd_80_35 (E : ac_E) : ac_ok E md_80 35 (o_put 5 0 38) := ok_putf (E := E) (d := md_80) (pc := 35) (ci := 5) (f := 0) (C := RX5) (T := TX5) (N := 17) (ref := RX5) rfl win_5 (by decide) rfl tyX5 tyX5_ok nmX5 (by decide +kernel) rfl wm_638 dd_80_35
theorem vd_80_38 (E : ac_E) : ac_ok E md_80 38 (o_ald 0 39) := ok_aload_n (E := E) (d := md_80) (pc := 38) (j := 0) dd_80_38
theorem vd_80_39 (E : ac_E) : ac_ok E md_80 39 (o_get 5 0 42) := ok_getf (E := E) (d := md_80) (pc := 39) (ci := 5) (f := 0) (C := RX5) (T := TX5) (N := 17) (ref := RX5) rfl win_5 (by decide) rfl wm_638 dd_80_39
theorem vd_80_42 (E : ac_E) : ac_ok E md_80 42 (o_ne0 67 45) := ok_ifne (E := E) (d := md_80) (pc := 42) dd_80_42 (by decide)
theorem vd_80_45 (E : ac_E) : ac_ok E md_80 45 (o_ald 0 46) := ok_aload_n (E := E) (d := md_80) (pc := 45) (j := 0) dd_80_45
theorem vd_80_46 (E : ac_E) : ac_ok E md_80 46 (o_ald 0 47) := ok_aload_n (E := E) (d := md_80) (pc := 46) (j := 0) dd_80_46
theorem vd_80_47 (E : ac_E) : ac_ok E md_80 47 (o_get 5 1 50) := ok_getf (E := E) (d := md_80) (pc := 47) (ci := 5) (f := 1) (C := RX5) (T := TX5) (N := 17) (ref := RX5) rfl win_5 (by decide) rfl wm_639 dd_80_47
theorem vd_80_50 (E : ac_E) : ac_ok E md_80 50 (o_ild 2 51) := ok_iload_n (E := E) (d := md_80) (pc := 50) (j := 2) dd_80_50
theorem vd_80_51 (E : ac_E) : ac_ok E md_80 51 (o_mul 52) := ok_imul (E := E) (d := md_80) (pc := 51) dd_80_51
theorem vd_80_52 (E : ac_E) : ac_ok E md_80 52 (o_ild 1 53) := ok_iload_n (E := E) (d := md_80) (pc := 52) (j := 1) dd_80_52
theorem vd_80_53 (E : ac_E) : ac_ok E md_80 53 (o_add 54) := ok_iadd (E := E) (d := md_80) (pc := 53) dd_80_53
theorem vd_80_54 (E : ac_E) : ac_ok E md_80 54 (o_ild 3 55) := ok_iload_n (E := E) (d := md_80) (pc := 54) (j := 3) dd_80_54
theorem vd_80_55 (E : ac_E) : ac_ok E md_80 55 (o_ild 4 57) := ok_iload (E := E) (d := md_80) (pc := 55) dd_80_55
theorem vd_80_57 (E : ac_E) : ac_okr E md_80 md_78 57 4 60 7 ∧ ac_okt E md_80 md_78 57 4 7 := ok_callV (E := E) (d := md_80) (dz := md_78) (pc := 57) (T := TX5) (N := 17) rfl rfl (by decide) (by decide +kernel) wm_735 wm_56 wm_732 wm_734 wm_34 dd_80_57
theorem vd_80_60 (E : ac_E) : ac_ok E md_80 60 (o_eq0 67 63) := ok_ifeq (E := E) (d := md_80) (pc := 60) dd_80_60 (by decide)
theorem vd_80_63 (E : ac_E) : ac_ok E md_80 63 (o_con (.int 1) 64) := ok_iconst (E := E) (d := md_80) (pc := 63) dd_80_63 (by decide)
theorem vd_80_64 (E : ac_E) : ac_ok E md_80 64 (o_go 68) := ok_goto (E := E) (d := md_80) (pc := 64) dd_80_64 (by decide)
theorem vd_80_67 (E : ac_E) : ac_ok E md_80 67 (o_con (.int 0) 68) := ok_iconst (E := E) (d := md_80) (pc := 67) dd_80_67 (by decide)
theorem va_80 (E : ac_E) (pc : Nat) : ac_V E ac_MDf ac_HDf 80 pc (tb_80 (ac_len E) (ac_xs E) pc) := (ac_node (ac_node (ac_node (ac_node (ac_node (ac_leaf 0 (⟨vd_80_0 E, mn_ald _ _⟩)) (ac_leaf 1 (⟨vd_80_1 E, mn_ald _ _⟩))) (ac_node (ac_leaf 2 (⟨vd_80_2 E, mn_ild _ _⟩)) (ac_node (ac_leaf 3 (⟨vd_80_3 E, mn_ild _ _⟩)) (ac_leaf 4 (ac_Vc0 ((vd_80_4 E).1) (fun _ => rfl)))))) (ac_node (ac_node (ac_leaf 7 (⟨vd_80_7 E, mn_ne0 _ _⟩)) (ac_leaf 10 (⟨vd_80_10 E, mn_con _ _⟩))) (ac_node (ac_leaf 11 (⟨vd_80_11 E, mn_go _⟩)) (ac_node (ac_leaf 14 (⟨vd_80_14 E, mn_ald _ _⟩)) (ac_leaf 15 (⟨vd_80_15 E, mn_ald _ _⟩)))))) (ac_node (ac_node (ac_node (ac_leaf 16 (⟨vd_80_16 E, mn_get _ _ _⟩)) (ac_leaf 19 (⟨vd_80_19 E, mn_ild _ _⟩))) (ac_node (ac_leaf 20 (⟨vd_80_20 E, mn_mul _⟩)) (ac_node (ac_leaf 21 (⟨vd_80_21 E, mn_ild _ _⟩)) (ac_leaf 22 (⟨vd_80_22 E, mn_add _⟩))))) (ac_node (ac_node (ac_leaf 23 (⟨vd_80_23 E, mn_ild _ _⟩)) (ac_leaf 24 (ac_Vc0 ((vd_80_24 E).1) (fun _ => rfl)))) (ac_node (ac_leaf 27 (⟨vd_80_27 E, mn_eq0 _ _⟩)) (ac_node (ac_leaf 30 (⟨vd_80_30 E, mn_con _ _⟩)) (ac_leaf 31 (⟨vd_80_31 E, mn_go _⟩))))))) (ac_node (ac_node (ac_node (ac_node (ac_leaf 34 (⟨vd_80_34 E, mn_con _ _⟩)) (ac_leaf 35 (⟨vd_80_35 E, mn_put _ _ _⟩))) (ac_node (ac_leaf 38 (⟨vd_80_38 E, mn_ald _ _⟩)) (ac_node (ac_leaf 39 (⟨vd_80_39 E, mn_get _ _ _⟩)) (ac_leaf 42 (⟨vd_80_42 E, mn_ne0 _ _⟩))))) (ac_node (ac_node (ac_leaf 45 (⟨vd_80_45 E, mn_ald _ _⟩)) (ac_leaf 46 (⟨vd_80_46 E, mn_ald _ _⟩))) (ac_node (ac_leaf 47 (⟨vd_80_47 E, mn_get _ _ _⟩)) (ac_node (ac_leaf 50 (⟨vd_80_50 E, mn_ild _ _⟩)) (ac_leaf 51 (⟨vd_80_51 E, mn_mul _⟩)))))) (ac_node (ac_node (ac_node (ac_leaf 52 (⟨vd_80_52 E, mn_ild _ _⟩)) (ac_leaf 53 (⟨vd_80_53 E, mn_add _⟩))) (ac_node (ac_leaf 54 (⟨vd_80_54 E, mn_ild _ _⟩)) (ac_node (ac_leaf 55 (⟨vd_80_55 E, mn_ild _ _⟩)) (ac_leaf 57 (ac_Vc0 ((vd_80_57 E).1) (fun _ => rfl)))))) (ac_node (ac_node (ac_leaf 60 (⟨vd_80_60 E, mn_eq0 _ _⟩)) (ac_leaf 63 (⟨vd_80_63 E, mn_con _ _⟩))) (ac_node (ac_leaf 64 (⟨vd_80_64 E, mn_go _⟩)) (ac_node (ac_leaf 67 (⟨vd_80_67 E, mn_con _ _⟩)) (ac_leaf 68 (ac_Vr2 dd_80_68 rfl))))))))
theorem vd_81_0 (E : ac_E) : ac_ok E md_81 0 (o_ald 0 1) := ok_aload_n (E := E) (d := md_81) (pc := 0) (j := 0) dd_81_0
theorem vd_81_1 (E : ac_E) : ac_ok E md_81 1 (o_ild 1 2) := ok_iload_n (E := E) (d := md_81) (pc := 1) (j := 1) dd_81_1
theorem vd_81_2 (E : ac_E) : ac_ok E md_81 2 (o_ild 2 3) := ok_iload_n (E := E) (d := md_81) (pc := 2) (j := 2) dd_81_2
theorem vd_81_3 (E : ac_E) : ac_ok E md_81 3 (o_con (.int 1) 4) := ok_iconst (E := E) (d := md_81) (pc := 3) dd_81_3 (by decide)
theorem vd_81_4 (E : ac_E) : ac_ok E md_81 4 (o_ild 3 5) := ok_iload_n (E := E) (d := md_81) (pc := 4) (j := 3) dd_81_4
theorem vd_81_5 (E : ac_E) : ac_okr E md_81 md_80 5 5 8 7 ∧ ac_okt E md_81 md_80 5 5 7 := ok_callV (E := E) (d := md_81) (dz := md_80) (pc := 5) (T := TX5) (N := 17) rfl rfl (by decide) (by decide +kernel) wm_727 wm_56 wm_724 wm_726 wm_32 dd_81_5
theorem va_81 (E : ac_E) (pc : Nat) : ac_V E ac_MDf ac_HDf 81 pc (tb_81 (ac_len E) (ac_xs E) pc) := (ac_node (ac_node (ac_leaf 0 (⟨vd_81_0 E, mn_ald _ _⟩)) (ac_node (ac_leaf 1 (⟨vd_81_1 E, mn_ild _ _⟩)) (ac_leaf 2 (⟨vd_81_2 E, mn_ild _ _⟩)))) (ac_node (ac_node (ac_leaf 3 (⟨vd_81_3 E, mn_con _ _⟩)) (ac_leaf 4 (⟨vd_81_4 E, mn_ild _ _⟩))) (ac_node (ac_leaf 5 (ac_Vc0 ((vd_81_5 E).1) (fun _ => rfl))) (ac_leaf 8 (ac_Vr2 dd_81_8 rfl)))))
theorem vd_82_0 (E : ac_E) : ac_ok E md_82 0 (o_ald 0 1) := ok_aload_n (E := E) (d := md_82) (pc := 0) (j := 0) dd_82_0
theorem vd_82_1 (E : ac_E) : ac_ok E md_82 1 (o_ald 0 2) := ok_aload_n (E := E) (d := md_82) (pc := 1) (j := 0) dd_82_1
theorem vd_82_2 (E : ac_E) : ac_ok E md_82 2 (o_ild 1 3) := ok_iload_n (E := E) (d := md_82) (pc := 2) (j := 1) dd_82_2
theorem vd_82_3 (E : ac_E) : ac_ok E md_82 3 (o_ild 2 4) := ok_iload_n (E := E) (d := md_82) (pc := 3) (j := 2) dd_82_3
theorem vd_82_4 (E : ac_E) : ac_okr E md_82 md_68 4 3 7 7 ∧ ac_okt E md_82 md_68 4 3 7 := ok_callV (E := E) (d := md_82) (dz := md_68) (pc := 4) (T := TX5) (N := 17) rfl rfl (by decide) (by decide +kernel) wm_715 wm_56 wm_712 wm_714 wm_31 dd_82_4
theorem vd_82_7 (E : ac_E) : ac_ok E md_82 7 (o_ne0 14 10) := ok_ifne (E := E) (d := md_82) (pc := 7) dd_82_7 (by decide)
theorem vd_82_10 (E : ac_E) : ac_ok E md_82 10 (o_con (.int 1) 11) := ok_iconst (E := E) (d := md_82) (pc := 10) dd_82_10 (by decide)
theorem vd_82_11 (E : ac_E) : ac_ok E md_82 11 (o_go 50) := ok_goto (E := E) (d := md_82) (pc := 11) dd_82_11 (by decide)
theorem vd_82_14 (E : ac_E) : ac_ok E md_82 14 (o_ild 3 15) := ok_iload_n (E := E) (d := md_82) (pc := 14) (j := 3) dd_82_14
theorem vd_82_15 (E : ac_E) : ac_ok E md_82 15 (o_lt0 25 18) := ok_iflt (E := E) (d := md_82) (pc := 15) dd_82_15 (by decide)
theorem vd_82_18 (E : ac_E) : ac_ok E md_82 18 (o_ild 3 19) := ok_iload_n (E := E) (d := md_82) (pc := 18) (j := 3) dd_82_18
theorem vd_82_19 (E : ac_E) : ac_ok E md_82 19 (o_con (.int 256) 22) := ok_sipush (E := E) (d := md_82) (pc := 19) dd_82_19 (by decide)
theorem vd_82_22 (E : ac_E) : ac_ok E md_82 22 (o_le 29 25) := ok_icmple (E := E) (d := md_82) (pc := 22) dd_82_22 (by decide)
theorem vd_82_25 (E : ac_E) : ac_ok E md_82 25 (o_con (.int 2) 26) := ok_iconst (E := E) (d := md_82) (pc := 25) dd_82_25 (by decide)
theorem vd_82_26 (E : ac_E) : ac_ok E md_82 26 (o_go 50) := ok_goto (E := E) (d := md_82) (pc := 26) dd_82_26 (by decide)
theorem vd_82_29 (E : ac_E) : ac_ok E md_82 29 (o_ald 0 30) := ok_aload_n (E := E) (d := md_82) (pc := 29) (j := 0) dd_82_29
theorem vd_82_30 (E : ac_E) : ac_ok E md_82 30 (o_ald 0 31) := ok_aload_n (E := E) (d := md_82) (pc := 30) (j := 0) dd_82_30
theorem vd_82_31 (E : ac_E) : ac_ok E md_82 31 (o_get 5 1 34) := ok_getf (E := E) (d := md_82) (pc := 31) (ci := 5) (f := 1) (C := RX5) (T := TX5) (N := 17) (ref := RX5) rfl win_5 (by decide) rfl wm_639 dd_82_31
theorem vd_82_34 (E : ac_E) : ac_ok E md_82 34 (o_ild 2 35) := ok_iload_n (E := E) (d := md_82) (pc := 34) (j := 2) dd_82_34
theorem vd_82_35 (E : ac_E) : ac_ok E md_82 35 (o_mul 36) := ok_imul (E := E) (d := md_82) (pc := 35) dd_82_35
theorem vd_82_36 (E : ac_E) : ac_ok E md_82 36 (o_ild 1 37) := ok_iload_n (E := E) (d := md_82) (pc := 36) (j := 1) dd_82_36
theorem vd_82_37 (E : ac_E) : ac_ok E md_82 37 (o_add 38) := ok_iadd (E := E) (d := md_82) (pc := 37) dd_82_37
theorem vd_82_38 (E : ac_E) : ac_ok E md_82 38 (o_con (.int 2) 39) := ok_iconst (E := E) (d := md_82) (pc := 38) dd_82_38 (by decide)
theorem vd_82_39 (E : ac_E) : ac_okr E md_82 md_79 39 3 42 7 ∧ ac_okt E md_82 md_79 39 3 7 := ok_callV (E := E) (d := md_82) (dz := md_79) (pc := 39) (T := TX5) (N := 17) rfl rfl (by decide) (by decide +kernel) wm_731 wm_56 wm_728 wm_730 wm_33 dd_82_39
theorem vd_82_42 (E : ac_E) : ac_ok E md_82 42 (o_eq0 49 45) := ok_ifeq (E := E) (d := md_82) (pc := 42) dd_82_42 (by decide)
theorem vd_82_45 (E : ac_E) : ac_ok E md_82 45 (o_con (.int 3) 46) := ok_iconst (E := E) (d := md_82) (pc := 45) dd_82_45 (by decide)
theorem vd_82_46 (E : ac_E) : ac_ok E md_82 46 (o_go 50) := ok_goto (E := E) (d := md_82) (pc := 46) dd_82_46 (by decide)
theorem vd_82_49 (E : ac_E) : ac_ok E md_82 49 (o_con (.int 0) 50) := ok_iconst (E := E) (d := md_82) (pc := 49) dd_82_49 (by decide)
theorem vd_82_50 (E : ac_E) : ac_ok E md_82 50 (o_put 5 0 53) := ok_putf (E := E) (d := md_82) (pc := 50) (ci := 5) (f := 0) (C := RX5) (T := TX5) (N := 17) (ref := RX5) rfl win_5 (by decide) rfl tyX5 tyX5_ok nmX5 (by decide +kernel) rfl wm_638 dd_82_50
theorem vd_82_53 (E : ac_E) : ac_ok E md_82 53 (o_ald 0 54) := ok_aload_n (E := E) (d := md_82) (pc := 53) (j := 0) dd_82_53
theorem vd_82_54 (E : ac_E) : ac_ok E md_82 54 (o_get 5 0 57) := ok_getf (E := E) (d := md_82) (pc := 54) (ci := 5) (f := 0) (C := RX5) (T := TX5) (N := 17) (ref := RX5) rfl win_5 (by decide) rfl wm_638 dd_82_54
theorem vd_82_57 (E : ac_E) : ac_ok E md_82 57 (o_ne0 98 60) := ok_ifne (E := E) (d := md_82) (pc := 57) dd_82_57 (by decide)
theorem vd_82_60 (E : ac_E) : ac_ok E md_82 60 (o_ald 0 61) := ok_aload_n (E := E) (d := md_82) (pc := 60) (j := 0) dd_82_60
theorem vd_82_61 (E : ac_E) : ac_ok E md_82 61 (o_ald 0 62) := ok_aload_n (E := E) (d := md_82) (pc := 61) (j := 0) dd_82_61
theorem vd_82_62 (E : ac_E) : ac_ok E md_82 62 (o_get 5 1 65) := ok_getf (E := E) (d := md_82) (pc := 62) (ci := 5) (f := 1) (C := RX5) (T := TX5) (N := 17) (ref := RX5) rfl win_5 (by decide) rfl wm_639 dd_82_62
theorem vd_82_65 (E : ac_E) : ac_ok E md_82 65 (o_ild 2 66) := ok_iload_n (E := E) (d := md_82) (pc := 65) (j := 2) dd_82_65
theorem vd_82_66 (E : ac_E) : ac_ok E md_82 66 (o_mul 67) := ok_imul (E := E) (d := md_82) (pc := 66) dd_82_66
theorem vd_82_67 (E : ac_E) : ac_ok E md_82 67 (o_ild 1 68) := ok_iload_n (E := E) (d := md_82) (pc := 67) (j := 1) dd_82_67
theorem vd_82_68 (E : ac_E) : ac_ok E md_82 68 (o_add 69) := ok_iadd (E := E) (d := md_82) (pc := 68) dd_82_68
theorem vd_82_69 (E : ac_E) : ac_ok E md_82 69 (o_con (.int 2) 70) := ok_iconst (E := E) (d := md_82) (pc := 69) dd_82_69 (by decide)
theorem vd_82_70 (E : ac_E) : ac_ok E md_82 70 (o_ild 3 71) := ok_iload_n (E := E) (d := md_82) (pc := 70) (j := 3) dd_82_70
theorem vd_82_71 (E : ac_E) : ac_ok E md_82 71 (o_le0 78 74) := ok_ifle (E := E) (d := md_82) (pc := 71) dd_82_71 (by decide)
theorem vd_82_74 (E : ac_E) : ac_ok E md_82 74 (o_con (.int 1) 75) := ok_iconst (E := E) (d := md_82) (pc := 74) dd_82_74 (by decide)
theorem vd_82_75 (E : ac_E) : ac_ok E md_82 75 (o_go 79) := ok_goto (E := E) (d := md_82) (pc := 75) dd_82_75 (by decide)
theorem vd_82_78 (E : ac_E) : ac_ok E md_82 78 (o_con (.int 0) 79) := ok_iconst (E := E) (d := md_82) (pc := 78) dd_82_78 (by decide)
theorem vd_82_79 (E : ac_E) : ac_okr E md_82 md_78 79 4 82 7 ∧ ac_okt E md_82 md_78 79 4 7 := ok_callV (E := E) (d := md_82) (dz := md_78) (pc := 79) (T := TX5) (N := 17) rfl rfl (by decide) (by decide +kernel) wm_735 wm_56 wm_732 wm_734 wm_34 dd_82_79
theorem vd_82_82 (E : ac_E) : ac_ok E md_82 82 (o_ist 4 84) := ok_istore (E := E) (d := md_82) (pc := 82) dd_82_82
theorem vd_82_84 (E : ac_E) : ac_ok E md_82 84 (o_ald 0 85) := ok_aload_n (E := E) (d := md_82) (pc := 84) (j := 0) dd_82_84
theorem vd_82_85 (E : ac_E) : ac_ok E md_82 85 (o_get 5 7 88) := ok_getf (E := E) (d := md_82) (pc := 85) (ci := 5) (f := 7) (C := RX5) (T := TX5) (N := 17) (ref := RX5) rfl win_5 (by decide) rfl wm_645 dd_82_85
theorem vd_82_88 (E : ac_E) : ac_ok E md_82 88 (o_ald 0 89) := ok_aload_n (E := E) (d := md_82) (pc := 88) (j := 0) dd_82_88
theorem vd_82_89 (E : ac_E) : ac_ok E md_82 89 (o_get 5 1 92) := ok_getf (E := E) (d := md_82) (pc := 89) (ci := 5) (f := 1) (C := RX5) (T := TX5) (N := 17) (ref := RX5) rfl win_5 (by decide) rfl wm_639 dd_82_89
theorem vd_82_92 (E : ac_E) : ac_ok E md_82 92 (o_ild 2 93) := ok_iload_n (E := E) (d := md_82) (pc := 92) (j := 2) dd_82_92
theorem vd_82_93 (E : ac_E) : ac_ok E md_82 93 (o_mul 94) := ok_imul (E := E) (d := md_82) (pc := 93) dd_82_93
theorem vd_82_94 (E : ac_E) : ac_ok E md_82 94 (o_ild 1 95) := ok_iload_n (E := E) (d := md_82) (pc := 94) (j := 1) dd_82_94
theorem vd_82_95 (E : ac_E) : ac_ok E md_82 95 (o_add 96) := ok_iadd (E := E) (d := md_82) (pc := 95) dd_82_95
theorem vd_82_96 (E : ac_E) : ac_ok E md_82 96 (o_ild 3 97) := ok_iload_n (E := E) (d := md_82) (pc := 96) (j := 3) dd_82_96
theorem vd_82_97 (E : ac_E) : ac_ok E md_82 97 (o_is 98) := ok_iastore (E := E) (d := md_82) (pc := 97) dd_82_97
theorem va_82 (E : ac_E) (pc : Nat) : ac_V E ac_MDf ac_HDf 82 pc (tb_82 (ac_len E) (ac_xs E) pc) := (ac_node (ac_node (ac_node (ac_node (ac_node (ac_leaf 0 (⟨vd_82_0 E, mn_ald _ _⟩)) (ac_node (ac_leaf 1 (⟨vd_82_1 E, mn_ald _ _⟩)) (ac_leaf 2 (⟨vd_82_2 E, mn_ild _ _⟩)))) (ac_node (ac_node (ac_leaf 3 (⟨vd_82_3 E, mn_ild _ _⟩)) (ac_leaf 4 (ac_Vc0 ((vd_82_4 E).1) (fun _ => rfl)))) (ac_node (ac_leaf 7 (⟨vd_82_7 E, mn_ne0 _ _⟩)) (ac_leaf 10 (⟨vd_82_10 E, mn_con _ _⟩))))) (ac_node (ac_node (ac_leaf 11 (⟨vd_82_11 E, mn_go _⟩)) (ac_node (ac_leaf 14 (⟨vd_82_14 E, mn_ild _ _⟩)) (ac_leaf 15 (⟨vd_82_15 E, mn_lt0 _ _⟩)))) (ac_node (ac_node (ac_leaf 18 (⟨vd_82_18 E, mn_ild _ _⟩)) (ac_leaf 19 (⟨vd_82_19 E, mn_con _ _⟩))) (ac_node (ac_leaf 22 (⟨vd_82_22 E, mn_le _ _⟩)) (ac_leaf 25 (⟨vd_82_25 E, mn_con _ _⟩)))))) (ac_node (ac_node (ac_node (ac_leaf 26 (⟨vd_82_26 E, mn_go _⟩)) (ac_node (ac_leaf 29 (⟨vd_82_29 E, mn_ald _ _⟩)) (ac_leaf 30 (⟨vd_82_30 E, mn_ald _ _⟩)))) (ac_node (ac_node (ac_leaf 31 (⟨vd_82_31 E, mn_get _ _ _⟩)) (ac_leaf 34 (⟨vd_82_34 E, mn_ild _ _⟩))) (ac_node (ac_leaf 35 (⟨vd_82_35 E, mn_mul _⟩)) (ac_leaf 36 (⟨vd_82_36 E, mn_ild _ _⟩))))) (ac_node (ac_node (ac_node (ac_leaf 37 (⟨vd_82_37 E, mn_add _⟩)) (ac_leaf 38 (⟨vd_82_38 E, mn_con _ _⟩))) (ac_node (ac_leaf 39 (ac_Vc0 ((vd_82_39 E).1) (fun _ => rfl))) (ac_leaf 42 (⟨vd_82_42 E, mn_eq0 _ _⟩)))) (ac_node (ac_node (ac_leaf 45 (⟨vd_82_45 E, mn_con _ _⟩)) (ac_leaf 46 (⟨vd_82_46 E, mn_go _⟩))) (ac_node (ac_leaf 49 (⟨vd_82_49 E, mn_con _ _⟩)) (ac_leaf 50 (⟨vd_82_50 E, mn_put _ _ _⟩))))))) (ac_node (ac_node (ac_node (ac_node (ac_leaf 53 (⟨vd_82_53 E, mn_ald _ _⟩)) (ac_node (ac_leaf 54 (⟨vd_82_54 E, mn_get _ _ _⟩)) (ac_leaf 57 (⟨vd_82_57 E, mn_ne0 _ _⟩)))) (ac_node (ac_node (ac_leaf 60 (⟨vd_82_60 E, mn_ald _ _⟩)) (ac_leaf 61 (⟨vd_82_61 E, mn_ald _ _⟩))) (ac_node (ac_leaf 62 (⟨vd_82_62 E, mn_get _ _ _⟩)) (ac_leaf 65 (⟨vd_82_65 E, mn_ild _ _⟩))))) (ac_node (ac_node (ac_leaf 66 (⟨vd_82_66 E, mn_mul _⟩)) (ac_node (ac_leaf 67 (⟨vd_82_67 E, mn_ild _ _⟩)) (ac_leaf 68 (⟨vd_82_68 E, mn_add _⟩)))) (ac_node (ac_node (ac_leaf 69 (⟨vd_82_69 E, mn_con _ _⟩)) (ac_leaf 70 (⟨vd_82_70 E, mn_ild _ _⟩))) (ac_node (ac_leaf 71 (⟨vd_82_71 E, mn_le0 _ _⟩)) (ac_leaf 74 (⟨vd_82_74 E, mn_con _ _⟩)))))) (ac_node (ac_node (ac_node (ac_leaf 75 (⟨vd_82_75 E, mn_go _⟩)) (ac_node (ac_leaf 78 (⟨vd_82_78 E, mn_con _ _⟩)) (ac_leaf 79 (ac_Vc0 ((vd_82_79 E).1) (fun _ => rfl))))) (ac_node (ac_node (ac_leaf 82 (⟨vd_82_82 E, mn_ist _ _⟩)) (ac_leaf 84 (⟨vd_82_84 E, mn_ald _ _⟩))) (ac_node (ac_leaf 85 (⟨vd_82_85 E, mn_get _ _ _⟩)) (ac_leaf 88 (⟨vd_82_88 E, mn_ald _ _⟩))))) (ac_node (ac_node (ac_node (ac_leaf 89 (⟨vd_82_89 E, mn_get _ _ _⟩)) (ac_leaf 92 (⟨vd_82_92 E, mn_ild _ _⟩))) (ac_node (ac_leaf 93 (⟨vd_82_93 E, mn_mul _⟩)) (ac_leaf 94 (⟨vd_82_94 E, mn_ild _ _⟩)))) (ac_node (ac_node (ac_leaf 95 (⟨vd_82_95 E, mn_add _⟩)) (ac_leaf 96 (⟨vd_82_96 E, mn_ild _ _⟩))) (ac_node (ac_leaf 97 (⟨vd_82_97 E, mn_is _⟩)) (ac_leaf 98 (ac_Vr0 dd_82_98 rfl))))))))
theorem vd_83_0 (E : ac_E) : ac_ok E md_83 0 (o_ald 0 1) := ok_aload_n (E := E) (d := md_83) (pc := 0) (j := 0) dd_83_0
theorem vd_83_1 (E : ac_E) : ac_ok E md_83 1 (o_ild 1 2) := ok_iload_n (E := E) (d := md_83) (pc := 1) (j := 1) dd_83_1
theorem vd_83_2 (E : ac_E) : ac_ok E md_83 2 (o_ild 2 3) := ok_iload_n (E := E) (d := md_83) (pc := 2) (j := 2) dd_83_2
theorem vd_83_3 (E : ac_E) : ac_ok E md_83 3 (o_con (.int 3) 4) := ok_iconst (E := E) (d := md_83) (pc := 3) dd_83_3 (by decide)
theorem vd_83_4 (E : ac_E) : ac_ok E md_83 4 (o_ild 3 5) := ok_iload_n (E := E) (d := md_83) (pc := 4) (j := 3) dd_83_4
theorem vd_83_5 (E : ac_E) : ac_okr E md_83 md_80 5 5 8 7 ∧ ac_okt E md_83 md_80 5 5 7 := ok_callV (E := E) (d := md_83) (dz := md_80) (pc := 5) (T := TX5) (N := 17) rfl rfl (by decide) (by decide +kernel) wm_727 wm_56 wm_724 wm_726 wm_32 dd_83_5
theorem va_83 (E : ac_E) (pc : Nat) : ac_V E ac_MDf ac_HDf 83 pc (tb_83 (ac_len E) (ac_xs E) pc) := (ac_node (ac_node (ac_leaf 0 (⟨vd_83_0 E, mn_ald _ _⟩)) (ac_node (ac_leaf 1 (⟨vd_83_1 E, mn_ild _ _⟩)) (ac_leaf 2 (⟨vd_83_2 E, mn_ild _ _⟩)))) (ac_node (ac_node (ac_leaf 3 (⟨vd_83_3 E, mn_con _ _⟩)) (ac_leaf 4 (⟨vd_83_4 E, mn_ild _ _⟩))) (ac_node (ac_leaf 5 (ac_Vc0 ((vd_83_5 E).1) (fun _ => rfl))) (ac_leaf 8 (ac_Vr2 dd_83_8 rfl)))))
theorem vd_84_0 (E : ac_E) : ac_ok E md_84 0 (o_ald 0 1) := ok_aload_n (E := E) (d := md_84) (pc := 0) (j := 0) dd_84_0
theorem vd_84_1 (E : ac_E) : ac_ok E md_84 1 (o_ild 1 2) := ok_iload_n (E := E) (d := md_84) (pc := 1) (j := 1) dd_84_1
theorem vd_84_2 (E : ac_E) : ac_ok E md_84 2 (o_ild 2 3) := ok_iload_n (E := E) (d := md_84) (pc := 2) (j := 2) dd_84_2
theorem vd_84_3 (E : ac_E) : ac_ok E md_84 3 (o_con (.int 4) 4) := ok_iconst (E := E) (d := md_84) (pc := 3) dd_84_3 (by decide)
theorem vd_84_4 (E : ac_E) : ac_ok E md_84 4 (o_ild 3 5) := ok_iload_n (E := E) (d := md_84) (pc := 4) (j := 3) dd_84_4
theorem vd_84_5 (E : ac_E) : ac_okr E md_84 md_80 5 5 8 7 ∧ ac_okt E md_84 md_80 5 5 7 := ok_callV (E := E) (d := md_84) (dz := md_80) (pc := 5) (T := TX5) (N := 17) rfl rfl (by decide) (by decide +kernel) wm_727 wm_56 wm_724 wm_726 wm_32 dd_84_5
theorem va_84 (E : ac_E) (pc : Nat) : ac_V E ac_MDf ac_HDf 84 pc (tb_84 (ac_len E) (ac_xs E) pc) := (ac_node (ac_node (ac_leaf 0 (⟨vd_84_0 E, mn_ald _ _⟩)) (ac_node (ac_leaf 1 (⟨vd_84_1 E, mn_ild _ _⟩)) (ac_leaf 2 (⟨vd_84_2 E, mn_ild _ _⟩)))) (ac_node (ac_node (ac_leaf 3 (⟨vd_84_3 E, mn_con _ _⟩)) (ac_leaf 4 (⟨vd_84_4 E, mn_ild _ _⟩))) (ac_node (ac_leaf 5 (ac_Vc0 ((vd_84_5 E).1) (fun _ => rfl))) (ac_leaf 8 (ac_Vr2 dd_84_8 rfl)))))
theorem vd_85_0 (E : ac_E) : ac_ok E md_85 0 (o_ald 0 1) := ok_aload_n (E := E) (d := md_85) (pc := 0) (j := 0) dd_85_0
theorem vd_85_1 (E : ac_E) : ac_ok E md_85 1 (o_ald 0 2) := ok_aload_n (E := E) (d := md_85) (pc := 1) (j := 0) dd_85_1
theorem vd_85_2 (E : ac_E) : ac_ok E md_85 2 (o_ild 1 3) := ok_iload_n (E := E) (d := md_85) (pc := 2) (j := 1) dd_85_2
theorem vd_85_3 (E : ac_E) : ac_ok E md_85 3 (o_ild 2 4) := ok_iload_n (E := E) (d := md_85) (pc := 3) (j := 2) dd_85_3
theorem vd_85_4 (E : ac_E) : ac_okr E md_85 md_68 4 3 7 7 ∧ ac_okt E md_85 md_68 4 3 7 := ok_callV (E := E) (d := md_85) (dz := md_68) (pc := 4) (T := TX5) (N := 17) rfl rfl (by decide) (by decide +kernel) wm_715 wm_56 wm_712 wm_714 wm_31 dd_85_4
theorem vd_85_7 (E : ac_E) : ac_ok E md_85 7 (o_eq0 14 10) := ok_ifeq (E := E) (d := md_85) (pc := 7) dd_85_7 (by decide)
theorem vd_85_10 (E : ac_E) : ac_ok E md_85 10 (o_con (.int 0) 11) := ok_iconst (E := E) (d := md_85) (pc := 10) dd_85_10 (by decide)
theorem vd_85_11 (E : ac_E) : ac_ok E md_85 11 (o_go 15) := ok_goto (E := E) (d := md_85) (pc := 11) dd_85_11 (by decide)
theorem vd_85_14 (E : ac_E) : ac_ok E md_85 14 (o_con (.int 1) 15) := ok_iconst (E := E) (d := md_85) (pc := 14) dd_85_14 (by decide)
theorem vd_85_15 (E : ac_E) : ac_ok E md_85 15 (o_put 5 0 18) := ok_putf (E := E) (d := md_85) (pc := 15) (ci := 5) (f := 0) (C := RX5) (T := TX5) (N := 17) (ref := RX5) rfl win_5 (by decide) rfl tyX5 tyX5_ok nmX5 (by decide +kernel) rfl wm_638 dd_85_15
theorem vd_85_18 (E : ac_E) : ac_ok E md_85 18 (o_ald 0 19) := ok_aload_n (E := E) (d := md_85) (pc := 18) (j := 0) dd_85_18
theorem vd_85_19 (E : ac_E) : ac_ok E md_85 19 (o_get 5 0 22) := ok_getf (E := E) (d := md_85) (pc := 19) (ci := 5) (f := 0) (C := RX5) (T := TX5) (N := 17) (ref := RX5) rfl win_5 (by decide) rfl wm_638 dd_85_19
theorem vd_85_22 (E : ac_E) : ac_ok E md_85 22 (o_le0 29 25) := ok_ifle (E := E) (d := md_85) (pc := 22) dd_85_22 (by decide)
theorem vd_85_25 (E : ac_E) : ac_ok E md_85 25 (o_con (.int 0) 26) := ok_iconst (E := E) (d := md_85) (pc := 25) dd_85_25 (by decide)
theorem vd_85_26 (E : ac_E) : ac_ok E md_85 26 (o_go 42) := ok_goto (E := E) (d := md_85) (pc := 26) dd_85_26 (by decide)
theorem vd_85_29 (E : ac_E) : ac_ok E md_85 29 (o_ald 0 30) := ok_aload_n (E := E) (d := md_85) (pc := 29) (j := 0) dd_85_29
theorem vd_85_30 (E : ac_E) : ac_ok E md_85 30 (o_get 5 6 33) := ok_getf (E := E) (d := md_85) (pc := 30) (ci := 5) (f := 6) (C := RX5) (T := TX5) (N := 17) (ref := RX5) rfl win_5 (by decide) rfl wm_644 dd_85_30
theorem vd_85_33 (E : ac_E) : ac_ok E md_85 33 (o_ald 0 34) := ok_aload_n (E := E) (d := md_85) (pc := 33) (j := 0) dd_85_33
theorem vd_85_34 (E : ac_E) : ac_ok E md_85 34 (o_get 5 1 37) := ok_getf (E := E) (d := md_85) (pc := 34) (ci := 5) (f := 1) (C := RX5) (T := TX5) (N := 17) (ref := RX5) rfl win_5 (by decide) rfl wm_639 dd_85_34
theorem vd_85_37 (E : ac_E) : ac_ok E md_85 37 (o_ild 2 38) := ok_iload_n (E := E) (d := md_85) (pc := 37) (j := 2) dd_85_37
theorem vd_85_38 (E : ac_E) : ac_ok E md_85 38 (o_mul 39) := ok_imul (E := E) (d := md_85) (pc := 38) dd_85_38
theorem vd_85_39 (E : ac_E) : ac_ok E md_85 39 (o_ild 1 40) := ok_iload_n (E := E) (d := md_85) (pc := 39) (j := 1) dd_85_39
theorem vd_85_40 (E : ac_E) : ac_ok E md_85 40 (o_add 41) := ok_iadd (E := E) (d := md_85) (pc := 40) dd_85_40
theorem vd_85_41 (E : ac_E) : ac_ok E md_85 41 (o_ia 42) := ok_iaload (E := E) (d := md_85) (pc := 41) dd_85_41
theorem va_85 (E : ac_E) (pc : Nat) : ac_V E ac_MDf ac_HDf 85 pc (tb_85 (ac_len E) (ac_xs E) pc) := (ac_node (ac_node (ac_node (ac_node (ac_leaf 0 (⟨vd_85_0 E, mn_ald _ _⟩)) (ac_node (ac_leaf 1 (⟨vd_85_1 E, mn_ald _ _⟩)) (ac_leaf 2 (⟨vd_85_2 E, mn_ild _ _⟩)))) (ac_node (ac_leaf 3 (⟨vd_85_3 E, mn_ild _ _⟩)) (ac_node (ac_leaf 4 (ac_Vc0 ((vd_85_4 E).1) (fun _ => rfl))) (ac_leaf 7 (⟨vd_85_7 E, mn_eq0 _ _⟩))))) (ac_node (ac_node (ac_leaf 10 (⟨vd_85_10 E, mn_con _ _⟩)) (ac_node (ac_leaf 11 (⟨vd_85_11 E, mn_go _⟩)) (ac_leaf 14 (⟨vd_85_14 E, mn_con _ _⟩)))) (ac_node (ac_leaf 15 (⟨vd_85_15 E, mn_put _ _ _⟩)) (ac_node (ac_leaf 18 (⟨vd_85_18 E, mn_ald _ _⟩)) (ac_leaf 19 (⟨vd_85_19 E, mn_get _ _ _⟩)))))) (ac_node (ac_node (ac_node (ac_leaf 22 (⟨vd_85_22 E, mn_le0 _ _⟩)) (ac_node (ac_leaf 25 (⟨vd_85_25 E, mn_con _ _⟩)) (ac_leaf 26 (⟨vd_85_26 E, mn_go _⟩)))) (ac_node (ac_leaf 29 (⟨vd_85_29 E, mn_ald _ _⟩)) (ac_node (ac_leaf 30 (⟨vd_85_30 E, mn_get _ _ _⟩)) (ac_leaf 33 (⟨vd_85_33 E, mn_ald _ _⟩))))) (ac_node (ac_node (ac_leaf 34 (⟨vd_85_34 E, mn_get _ _ _⟩)) (ac_node (ac_leaf 37 (⟨vd_85_37 E, mn_ild _ _⟩)) (ac_leaf 38 (⟨vd_85_38 E, mn_mul _⟩)))) (ac_node (ac_node (ac_leaf 39 (⟨vd_85_39 E, mn_ild _ _⟩)) (ac_leaf 40 (⟨vd_85_40 E, mn_add _⟩))) (ac_node (ac_leaf 41 (⟨vd_85_41 E, mn_ia _⟩)) (ac_leaf 42 (ac_Vr1 dd_85_42 rfl)))))))
theorem vd_86_0 (E : ac_E) : ac_ok E md_86 0 (o_ald 0 1) := ok_aload_n (E := E) (d := md_86) (pc := 0) (j := 0) dd_86_0
theorem vd_86_1 (E : ac_E) : ac_ok E md_86 1 (o_ild 1 2) := ok_iload_n (E := E) (d := md_86) (pc := 1) (j := 1) dd_86_1
theorem vd_86_2 (E : ac_E) : ac_ok E md_86 2 (o_con (.int 1) 3) := ok_iconst (E := E) (d := md_86) (pc := 2) dd_86_2 (by decide)
theorem vd_86_3 (E : ac_E) : ac_ok E md_86 3 (o_lt 13 6) := ok_icmplt (E := E) (d := md_86) (pc := 3) dd_86_3 (by decide)
theorem vd_86_6 (E : ac_E) : ac_ok E md_86 6 (o_ild 1 7) := ok_iload_n (E := E) (d := md_86) (pc := 6) (j := 1) dd_86_6
theorem vd_86_7 (E : ac_E) : ac_ok E md_86 7 (o_con (.int 10000) 10) := ok_sipush (E := E) (d := md_86) (pc := 7) dd_86_7 (by decide)
theorem vd_86_10 (E : ac_E) : ac_ok E md_86 10 (o_le 17 13) := ok_icmple (E := E) (d := md_86) (pc := 10) dd_86_10 (by decide)
theorem vd_86_13 (E : ac_E) : ac_ok E md_86 13 (o_con (.int 1) 14) := ok_iconst (E := E) (d := md_86) (pc := 13) dd_86_13 (by decide)
theorem vd_86_14 (E : ac_E) : ac_ok E md_86 14 (o_go 18) := ok_goto (E := E) (d := md_86) (pc := 14) dd_86_14 (by decide)
theorem vd_86_17 (E : ac_E) : ac_ok E md_86 17 (o_con (.int 0) 18) := ok_iconst (E := E) (d := md_86) (pc := 17) dd_86_17 (by decide)
theorem vd_86_18 (E : ac_E) : ac_ok E md_86 18 (o_put 5 0 21) := ok_putf (E := E) (d := md_86) (pc := 18) (ci := 5) (f := 0) (C := RX5) (T := TX5) (N := 17) (ref := RX5) rfl win_5 (by decide) rfl tyX5 tyX5_ok nmX5 (by decide +kernel) rfl wm_638 dd_86_18
theorem vd_86_21 (E : ac_E) : ac_ok E md_86 21 (o_ald 0 22) := ok_aload_n (E := E) (d := md_86) (pc := 21) (j := 0) dd_86_21
theorem vd_86_22 (E : ac_E) : ac_ok E md_86 22 (o_ald 0 23) := ok_aload_n (E := E) (d := md_86) (pc := 22) (j := 0) dd_86_22
theorem vd_86_23 (E : ac_E) : ac_ok E md_86 23 (o_get 5 0 26) := ok_getf (E := E) (d := md_86) (pc := 23) (ci := 5) (f := 0) (C := RX5) (T := TX5) (N := 17) (ref := RX5) rfl win_5 (by decide) rfl wm_638 dd_86_23
theorem vd_86_26 (E : ac_E) : ac_ok E md_86 26 (o_le0 36 29) := ok_ifle (E := E) (d := md_86) (pc := 26) dd_86_26 (by decide)
theorem vd_86_29 (E : ac_E) : ac_ok E md_86 29 (o_ald 0 30) := ok_aload_n (E := E) (d := md_86) (pc := 29) (j := 0) dd_86_29
theorem vd_86_30 (E : ac_E) : ac_ok E md_86 30 (o_get 5 11 33) := ok_getf (E := E) (d := md_86) (pc := 30) (ci := 5) (f := 11) (C := RX5) (T := TX5) (N := 17) (ref := RX5) rfl win_5 (by decide) rfl wm_649 dd_86_30
theorem vd_86_33 (E : ac_E) : ac_ok E md_86 33 (o_go 37) := ok_goto (E := E) (d := md_86) (pc := 33) dd_86_33 (by decide)
theorem vd_86_36 (E : ac_E) : ac_ok E md_86 36 (o_ild 1 37) := ok_iload_n (E := E) (d := md_86) (pc := 36) (j := 1) dd_86_36
theorem vd_86_37 (E : ac_E) : ac_ok E md_86 37 (o_put 5 11 40) := ok_putf (E := E) (d := md_86) (pc := 37) (ci := 5) (f := 11) (C := RX5) (T := TX5) (N := 17) (ref := RX5) rfl win_5 (by decide) rfl tyX5 tyX5_ok nmX5 (by decide +kernel) rfl wm_649 dd_86_37
theorem va_86 (E : ac_E) (pc : Nat) : ac_V E ac_MDf ac_HDf 86 pc (tb_86 (ac_len E) (ac_xs E) pc) := (ac_node (ac_node (ac_node (ac_node (ac_leaf 0 (⟨vd_86_0 E, mn_ald _ _⟩)) (ac_leaf 1 (⟨vd_86_1 E, mn_ild _ _⟩))) (ac_node (ac_leaf 2 (⟨vd_86_2 E, mn_con _ _⟩)) (ac_node (ac_leaf 3 (⟨vd_86_3 E, mn_lt _ _⟩)) (ac_leaf 6 (⟨vd_86_6 E, mn_ild _ _⟩))))) (ac_node (ac_node (ac_leaf 7 (⟨vd_86_7 E, mn_con _ _⟩)) (ac_leaf 10 (⟨vd_86_10 E, mn_le _ _⟩))) (ac_node (ac_leaf 13 (⟨vd_86_13 E, mn_con _ _⟩)) (ac_node (ac_leaf 14 (⟨vd_86_14 E, mn_go _⟩)) (ac_leaf 17 (⟨vd_86_17 E, mn_con _ _⟩)))))) (ac_node (ac_node (ac_node (ac_leaf 18 (⟨vd_86_18 E, mn_put _ _ _⟩)) (ac_leaf 21 (⟨vd_86_21 E, mn_ald _ _⟩))) (ac_node (ac_leaf 22 (⟨vd_86_22 E, mn_ald _ _⟩)) (ac_node (ac_leaf 23 (⟨vd_86_23 E, mn_get _ _ _⟩)) (ac_leaf 26 (⟨vd_86_26 E, mn_le0 _ _⟩))))) (ac_node (ac_node (ac_leaf 29 (⟨vd_86_29 E, mn_ald _ _⟩)) (ac_node (ac_leaf 30 (⟨vd_86_30 E, mn_get _ _ _⟩)) (ac_leaf 33 (⟨vd_86_33 E, mn_go _⟩)))) (ac_node (ac_leaf 36 (⟨vd_86_36 E, mn_ild _ _⟩)) (ac_node (ac_leaf 37 (⟨vd_86_37 E, mn_put _ _ _⟩)) (ac_leaf 40 (ac_Vr0 dd_86_40 rfl)))))))
theorem vd_87_0 (E : ac_E) : ac_ok E md_87 0 (o_ald 0 1) := ok_aload_n (E := E) (d := md_87) (pc := 0) (j := 0) dd_87_0
theorem vd_87_1 (E : ac_E) : ac_ok E md_87 1 (o_ild 1 2) := ok_iload_n (E := E) (d := md_87) (pc := 1) (j := 1) dd_87_1
theorem vd_87_2 (E : ac_E) : ac_ok E md_87 2 (o_lt0 10 5) := ok_iflt (E := E) (d := md_87) (pc := 2) dd_87_2 (by decide)
theorem vd_87_5 (E : ac_E) : ac_ok E md_87 5 (o_ild 1 6) := ok_iload_n (E := E) (d := md_87) (pc := 5) (j := 1) dd_87_5
theorem vd_87_6 (E : ac_E) : ac_ok E md_87 6 (o_con (.int 2) 7) := ok_iconst (E := E) (d := md_87) (pc := 6) dd_87_6 (by decide)
theorem vd_87_7 (E : ac_E) : ac_ok E md_87 7 (o_le 14 10) := ok_icmple (E := E) (d := md_87) (pc := 7) dd_87_7 (by decide)
theorem vd_87_10 (E : ac_E) : ac_ok E md_87 10 (o_con (.int 1) 11) := ok_iconst (E := E) (d := md_87) (pc := 10) dd_87_10 (by decide)
theorem vd_87_11 (E : ac_E) : ac_ok E md_87 11 (o_go 15) := ok_goto (E := E) (d := md_87) (pc := 11) dd_87_11 (by decide)
theorem vd_87_14 (E : ac_E) : ac_ok E md_87 14 (o_con (.int 0) 15) := ok_iconst (E := E) (d := md_87) (pc := 14) dd_87_14 (by decide)
theorem vd_87_15 (E : ac_E) : ac_ok E md_87 15 (o_put 5 0 18) := ok_putf (E := E) (d := md_87) (pc := 15) (ci := 5) (f := 0) (C := RX5) (T := TX5) (N := 17) (ref := RX5) rfl win_5 (by decide) rfl tyX5 tyX5_ok nmX5 (by decide +kernel) rfl wm_638 dd_87_15
theorem vd_87_18 (E : ac_E) : ac_ok E md_87 18 (o_ald 0 19) := ok_aload_n (E := E) (d := md_87) (pc := 18) (j := 0) dd_87_18
theorem vd_87_19 (E : ac_E) : ac_ok E md_87 19 (o_get 5 0 22) := ok_getf (E := E) (d := md_87) (pc := 19) (ci := 5) (f := 0) (C := RX5) (T := TX5) (N := 17) (ref := RX5) rfl win_5 (by decide) rfl wm_638 dd_87_19
theorem vd_87_22 (E : ac_E) : ac_ok E md_87 22 (o_le0 29 25) := ok_ifle (E := E) (d := md_87) (pc := 22) dd_87_22 (by decide)
theorem vd_87_25 (E : ac_E) : ac_ok E md_87 25 (o_con (.int 0) 26) := ok_iconst (E := E) (d := md_87) (pc := 25) dd_87_25 (by decide)
theorem vd_87_26 (E : ac_E) : ac_ok E md_87 26 (o_go 47) := ok_goto (E := E) (d := md_87) (pc := 26) dd_87_26 (by decide)
theorem vd_87_29 (E : ac_E) : ac_ok E md_87 29 (o_ild 1 30) := ok_iload_n (E := E) (d := md_87) (pc := 29) (j := 1) dd_87_29
theorem vd_87_30 (E : ac_E) : ac_ok E md_87 30 (o_con (.int 2) 31) := ok_iconst (E := E) (d := md_87) (pc := 30) dd_87_30 (by decide)
theorem vd_87_31 (E : ac_E) : ac_ok E md_87 31 (o_ne 41 34) := ok_icmpne (E := E) (d := md_87) (pc := 31) dd_87_31 (by decide)
theorem vd_87_34 (E : ac_E) : ac_ok E md_87 34 (o_ald 0 35) := ok_aload_n (E := E) (d := md_87) (pc := 34) (j := 0) dd_87_34
theorem vd_87_35 (E : ac_E) : ac_ok E md_87 35 (o_get 5 13 38) := ok_getf (E := E) (d := md_87) (pc := 35) (ci := 5) (f := 13) (C := RX5) (T := TX5) (N := 17) (ref := RX5) rfl win_5 (by decide) rfl wm_651 dd_87_35
theorem vd_87_38 (E : ac_E) : ac_ok E md_87 38 (o_go 47) := ok_goto (E := E) (d := md_87) (pc := 38) dd_87_38 (by decide)
theorem vd_87_41 (E : ac_E) : ac_ok E md_87 41 (o_ald 0 42) := ok_aload_n (E := E) (d := md_87) (pc := 41) (j := 0) dd_87_41
theorem vd_87_42 (E : ac_E) : ac_ok E md_87 42 (o_get 5 12 45) := ok_getf (E := E) (d := md_87) (pc := 42) (ci := 5) (f := 12) (C := RX5) (T := TX5) (N := 17) (ref := RX5) rfl win_5 (by decide) rfl wm_650 dd_87_42
theorem vd_87_45 (E : ac_E) : ac_ok E md_87 45 (o_ild 1 46) := ok_iload_n (E := E) (d := md_87) (pc := 45) (j := 1) dd_87_45
theorem vd_87_46 (E : ac_E) : ac_ok E md_87 46 (o_ia 47) := ok_iaload (E := E) (d := md_87) (pc := 46) dd_87_46
theorem va_87 (E : ac_E) (pc : Nat) : ac_V E ac_MDf ac_HDf 87 pc (tb_87 (ac_len E) (ac_xs E) pc) := (ac_node (ac_node (ac_node (ac_node (ac_leaf 0 (⟨vd_87_0 E, mn_ald _ _⟩)) (ac_node (ac_leaf 1 (⟨vd_87_1 E, mn_ild _ _⟩)) (ac_leaf 2 (⟨vd_87_2 E, mn_lt0 _ _⟩)))) (ac_node (ac_leaf 5 (⟨vd_87_5 E, mn_ild _ _⟩)) (ac_node (ac_leaf 6 (⟨vd_87_6 E, mn_con _ _⟩)) (ac_leaf 7 (⟨vd_87_7 E, mn_le _ _⟩))))) (ac_node (ac_node (ac_leaf 10 (⟨vd_87_10 E, mn_con _ _⟩)) (ac_node (ac_leaf 11 (⟨vd_87_11 E, mn_go _⟩)) (ac_leaf 14 (⟨vd_87_14 E, mn_con _ _⟩)))) (ac_node (ac_node (ac_leaf 15 (⟨vd_87_15 E, mn_put _ _ _⟩)) (ac_leaf 18 (⟨vd_87_18 E, mn_ald _ _⟩))) (ac_node (ac_leaf 19 (⟨vd_87_19 E, mn_get _ _ _⟩)) (ac_leaf 22 (⟨vd_87_22 E, mn_le0 _ _⟩)))))) (ac_node (ac_node (ac_node (ac_leaf 25 (⟨vd_87_25 E, mn_con _ _⟩)) (ac_node (ac_leaf 26 (⟨vd_87_26 E, mn_go _⟩)) (ac_leaf 29 (⟨vd_87_29 E, mn_ild _ _⟩)))) (ac_node (ac_leaf 30 (⟨vd_87_30 E, mn_con _ _⟩)) (ac_node (ac_leaf 31 (⟨vd_87_31 E, mn_ne _ _⟩)) (ac_leaf 34 (⟨vd_87_34 E, mn_ald _ _⟩))))) (ac_node (ac_node (ac_leaf 35 (⟨vd_87_35 E, mn_get _ _ _⟩)) (ac_node (ac_leaf 38 (⟨vd_87_38 E, mn_go _⟩)) (ac_leaf 41 (⟨vd_87_41 E, mn_ald _ _⟩)))) (ac_node (ac_node (ac_leaf 42 (⟨vd_87_42 E, mn_get _ _ _⟩)) (ac_leaf 45 (⟨vd_87_45 E, mn_ild _ _⟩))) (ac_node (ac_leaf 46 (⟨vd_87_46 E, mn_ia _⟩)) (ac_leaf 47 (ac_Vr1 dd_87_47 rfl)))))))
theorem vd_88_0 (E : ac_E) : ac_ok E md_88 0 (o_ald 0 1) := ok_aload_n (E := E) (d := md_88) (pc := 0) (j := 0) dd_88_0
theorem vd_88_1 (E : ac_E) : ac_ok E md_88 1 (o_con (.int 0) 2) := ok_iconst (E := E) (d := md_88) (pc := 1) dd_88_1 (by decide)
theorem vd_88_2 (E : ac_E) : ac_ok E md_88 2 (o_put 5 0 5) := ok_putf (E := E) (d := md_88) (pc := 2) (ci := 5) (f := 0) (C := RX5) (T := TX5) (N := 17) (ref := RX5) rfl win_5 (by decide) rfl tyX5 tyX5_ok nmX5 (by decide +kernel) rfl wm_638 dd_88_2
theorem vd_88_5 (E : ac_E) : ac_ok E md_88 5 (o_ald 0 6) := ok_aload_n (E := E) (d := md_88) (pc := 5) (j := 0) dd_88_5
theorem vd_88_6 (E : ac_E) : ac_ok E md_88 6 (o_ild 1 7) := ok_iload_n (E := E) (d := md_88) (pc := 6) (j := 1) dd_88_6
theorem vd_88_7 (E : ac_E) : ac_ok E md_88 7 (o_put 5 4 10) := ok_putf (E := E) (d := md_88) (pc := 7) (ci := 5) (f := 4) (C := RX5) (T := TX5) (N := 17) (ref := RX5) rfl win_5 (by decide) rfl tyX5 tyX5_ok nmX5 (by decide +kernel) rfl wm_642 dd_88_7
theorem va_88 (E : ac_E) (pc : Nat) : ac_V E ac_MDf ac_HDf 88 pc (tb_88 (ac_len E) (ac_xs E) pc) := (ac_node (ac_node (ac_leaf 0 (⟨vd_88_0 E, mn_ald _ _⟩)) (ac_node (ac_leaf 1 (⟨vd_88_1 E, mn_con _ _⟩)) (ac_leaf 2 (⟨vd_88_2 E, mn_put _ _ _⟩)))) (ac_node (ac_node (ac_leaf 5 (⟨vd_88_5 E, mn_ald _ _⟩)) (ac_leaf 6 (⟨vd_88_6 E, mn_ild _ _⟩))) (ac_node (ac_leaf 7 (⟨vd_88_7 E, mn_put _ _ _⟩)) (ac_leaf 10 (ac_Vr0 dd_88_10 rfl)))))
theorem vd_89_0 (E : ac_E) : ac_ok E md_89 0 (o_ild 1 1) := ok_iload_n (E := E) (d := md_89) (pc := 0) (j := 1) dd_89_0
theorem vd_89_1 (E : ac_E) : ac_ok E md_89 1 (o_ald 0 2) := ok_aload_n (E := E) (d := md_89) (pc := 1) (j := 0) dd_89_1
theorem vd_89_2 (E : ac_E) : ac_ok E md_89 2 (o_get 5 1 5) := ok_getf (E := E) (d := md_89) (pc := 2) (ci := 5) (f := 1) (C := RX5) (T := TX5) (N := 17) (ref := RX5) rfl win_5 (by decide) rfl wm_639 dd_89_2
theorem vd_89_5 (E : ac_E) : ac_ok E md_89 5 (o_rem 6) := ok_irem (E := E) (d := md_89) (pc := 5) dd_89_5
theorem vd_89_6 (E : ac_E) : ac_ok E md_89 6 (o_ist 3 7) := ok_istore_n (E := E) (d := md_89) (pc := 6) (j := 3) dd_89_6
theorem vd_89_7 (E : ac_E) : ac_ok E md_89 7 (o_ild 1 8) := ok_iload_n (E := E) (d := md_89) (pc := 7) (j := 1) dd_89_7
theorem vd_89_8 (E : ac_E) : ac_ok E md_89 8 (o_ald 0 9) := ok_aload_n (E := E) (d := md_89) (pc := 8) (j := 0) dd_89_8
theorem vd_89_9 (E : ac_E) : ac_ok E md_89 9 (o_get 5 1 12) := ok_getf (E := E) (d := md_89) (pc := 9) (ci := 5) (f := 1) (C := RX5) (T := TX5) (N := 17) (ref := RX5) rfl win_5 (by decide) rfl wm_639 dd_89_9
theorem vd_89_12 (E : ac_E) : ac_ok E md_89 12 (o_div 13) := ok_idiv (E := E) (d := md_89) (pc := 12) dd_89_12
theorem vd_89_13 (E : ac_E) : ac_ok E md_89 13 (o_ist 4 15) := ok_istore (E := E) (d := md_89) (pc := 13) dd_89_13
theorem vd_89_15 (E : ac_E) : ac_ok E md_89 15 (o_ild 4 17) := ok_iload (E := E) (d := md_89) (pc := 15) dd_89_15
theorem vd_89_17 (E : ac_E) : ac_ok E md_89 17 (o_con (.int 2) 18) := ok_iconst (E := E) (d := md_89) (pc := 17) dd_89_17 (by decide)
theorem vd_89_18 (E : ac_E) : ac_ok E md_89 18 (o_rem 19) := ok_irem (E := E) (d := md_89) (pc := 18) dd_89_18
theorem vd_89_19 (E : ac_E) : ac_ok E md_89 19 (o_ist 5 21) := ok_istore (E := E) (d := md_89) (pc := 19) dd_89_19
theorem vd_89_21 (E : ac_E) : ac_ok E md_89 21 (o_ild 2 22) := ok_iload_n (E := E) (d := md_89) (pc := 21) (j := 2) dd_89_21
theorem vd_89_22 (E : ac_E) : ac_ok E md_89 22 (o_ne0 32 25) := ok_ifne (E := E) (d := md_89) (pc := 22) dd_89_22 (by decide)
theorem vd_89_25 (E : ac_E) : ac_ok E md_89 25 (o_ild 3 26) := ok_iload_n (E := E) (d := md_89) (pc := 25) (j := 3) dd_89_25
theorem vd_89_26 (E : ac_E) : ac_ok E md_89 26 (o_con (.int 1) 27) := ok_iconst (E := E) (d := md_89) (pc := 26) dd_89_26 (by decide)
theorem vd_89_27 (E : ac_E) : ac_ok E md_89 27 (o_add 28) := ok_iadd (E := E) (d := md_89) (pc := 27) dd_89_27
theorem vd_89_28 (E : ac_E) : ac_ok E md_89 28 (o_ist 3 29) := ok_istore_n (E := E) (d := md_89) (pc := 28) (j := 3) dd_89_28
theorem vd_89_29 (E : ac_E) : ac_ok E md_89 29 (o_go 75) := ok_goto (E := E) (d := md_89) (pc := 29) dd_89_29 (by decide)
theorem vd_89_32 (E : ac_E) : ac_ok E md_89 32 (o_ild 2 33) := ok_iload_n (E := E) (d := md_89) (pc := 32) (j := 2) dd_89_32
theorem vd_89_33 (E : ac_E) : ac_ok E md_89 33 (o_con (.int 3) 34) := ok_iconst (E := E) (d := md_89) (pc := 33) dd_89_33 (by decide)
theorem vd_89_34 (E : ac_E) : ac_ok E md_89 34 (o_ne 44 37) := ok_icmpne (E := E) (d := md_89) (pc := 34) dd_89_34 (by decide)
theorem vd_89_37 (E : ac_E) : ac_ok E md_89 37 (o_ild 3 38) := ok_iload_n (E := E) (d := md_89) (pc := 37) (j := 3) dd_89_37
theorem vd_89_38 (E : ac_E) : ac_ok E md_89 38 (o_con (.int 1) 39) := ok_iconst (E := E) (d := md_89) (pc := 38) dd_89_38 (by decide)
theorem vd_89_39 (E : ac_E) : ac_ok E md_89 39 (o_sub 40) := ok_isub (E := E) (d := md_89) (pc := 39) dd_89_39
theorem vd_89_40 (E : ac_E) : ac_ok E md_89 40 (o_ist 3 41) := ok_istore_n (E := E) (d := md_89) (pc := 40) (j := 3) dd_89_40
theorem vd_89_41 (E : ac_E) : ac_ok E md_89 41 (o_go 75) := ok_goto (E := E) (d := md_89) (pc := 41) dd_89_41 (by decide)
theorem vd_89_44 (E : ac_E) : ac_ok E md_89 44 (o_ild 2 45) := ok_iload_n (E := E) (d := md_89) (pc := 44) (j := 2) dd_89_44
theorem vd_89_45 (E : ac_E) : ac_ok E md_89 45 (o_con (.int 1) 46) := ok_iconst (E := E) (d := md_89) (pc := 45) dd_89_45 (by decide)
theorem vd_89_46 (E : ac_E) : ac_ok E md_89 46 (o_eq 54 49) := ok_icmpeq (E := E) (d := md_89) (pc := 46) dd_89_46 (by decide)
theorem vd_89_49 (E : ac_E) : ac_ok E md_89 49 (o_ild 2 50) := ok_iload_n (E := E) (d := md_89) (pc := 49) (j := 2) dd_89_49
theorem vd_89_50 (E : ac_E) : ac_ok E md_89 50 (o_con (.int 5) 51) := ok_iconst (E := E) (d := md_89) (pc := 50) dd_89_50 (by decide)
theorem vd_89_51 (E : ac_E) : ac_ok E md_89 51 (o_ne 62 54) := ok_icmpne (E := E) (d := md_89) (pc := 51) dd_89_51 (by decide)
theorem vd_89_54 (E : ac_E) : ac_ok E md_89 54 (o_ild 3 55) := ok_iload_n (E := E) (d := md_89) (pc := 54) (j := 3) dd_89_54
theorem vd_89_55 (E : ac_E) : ac_ok E md_89 55 (o_ild 5 57) := ok_iload (E := E) (d := md_89) (pc := 55) dd_89_55
theorem vd_89_57 (E : ac_E) : ac_ok E md_89 57 (o_add 58) := ok_iadd (E := E) (d := md_89) (pc := 57) dd_89_57
theorem vd_89_58 (E : ac_E) : ac_ok E md_89 58 (o_ist 3 59) := ok_istore_n (E := E) (d := md_89) (pc := 58) (j := 3) dd_89_58
theorem vd_89_59 (E : ac_E) : ac_ok E md_89 59 (o_go 75) := ok_goto (E := E) (d := md_89) (pc := 59) dd_89_59 (by decide)
theorem vd_89_62 (E : ac_E) : ac_ok E md_89 62 (o_ild 2 63) := ok_iload_n (E := E) (d := md_89) (pc := 62) (j := 2) dd_89_62
theorem vd_89_63 (E : ac_E) : ac_ok E md_89 63 (o_con (.int 6) 65) := ok_bipush (E := E) (d := md_89) (pc := 63) dd_89_63 (by decide)
theorem vd_89_65 (E : ac_E) : ac_ok E md_89 65 (o_eq 75 68) := ok_icmpeq (E := E) (d := md_89) (pc := 65) dd_89_65 (by decide)
theorem vd_89_68 (E : ac_E) : ac_ok E md_89 68 (o_ild 3 69) := ok_iload_n (E := E) (d := md_89) (pc := 68) (j := 3) dd_89_68
theorem vd_89_69 (E : ac_E) : ac_ok E md_89 69 (o_ild 5 71) := ok_iload (E := E) (d := md_89) (pc := 69) dd_89_69
theorem vd_89_71 (E : ac_E) : ac_ok E md_89 71 (o_add 72) := ok_iadd (E := E) (d := md_89) (pc := 71) dd_89_71
theorem vd_89_72 (E : ac_E) : ac_ok E md_89 72 (o_con (.int 1) 73) := ok_iconst (E := E) (d := md_89) (pc := 72) dd_89_72 (by decide)
theorem vd_89_73 (E : ac_E) : ac_ok E md_89 73 (o_sub 74) := ok_isub (E := E) (d := md_89) (pc := 73) dd_89_73
theorem vd_89_74 (E : ac_E) : ac_ok E md_89 74 (o_ist 3 75) := ok_istore_n (E := E) (d := md_89) (pc := 74) (j := 3) dd_89_74
theorem vd_89_75 (E : ac_E) : ac_ok E md_89 75 (o_ild 2 76) := ok_iload_n (E := E) (d := md_89) (pc := 75) (j := 2) dd_89_75
theorem vd_89_76 (E : ac_E) : ac_ok E md_89 76 (o_con (.int 1) 77) := ok_iconst (E := E) (d := md_89) (pc := 76) dd_89_76 (by decide)
theorem vd_89_77 (E : ac_E) : ac_ok E md_89 77 (o_eq 85 80) := ok_icmpeq (E := E) (d := md_89) (pc := 77) dd_89_77 (by decide)
theorem vd_89_80 (E : ac_E) : ac_ok E md_89 80 (o_ild 2 81) := ok_iload_n (E := E) (d := md_89) (pc := 80) (j := 2) dd_89_80
theorem vd_89_81 (E : ac_E) : ac_ok E md_89 81 (o_con (.int 2) 82) := ok_iconst (E := E) (d := md_89) (pc := 81) dd_89_81 (by decide)
theorem vd_89_82 (E : ac_E) : ac_ok E md_89 82 (o_ne 94 85) := ok_icmpne (E := E) (d := md_89) (pc := 82) dd_89_82 (by decide)
theorem vd_89_85 (E : ac_E) : ac_ok E md_89 85 (o_ild 4 87) := ok_iload (E := E) (d := md_89) (pc := 85) dd_89_85
theorem vd_89_87 (E : ac_E) : ac_ok E md_89 87 (o_con (.int 1) 88) := ok_iconst (E := E) (d := md_89) (pc := 87) dd_89_87 (by decide)
theorem vd_89_88 (E : ac_E) : ac_ok E md_89 88 (o_sub 89) := ok_isub (E := E) (d := md_89) (pc := 88) dd_89_88
theorem vd_89_89 (E : ac_E) : ac_ok E md_89 89 (o_ist 4 91) := ok_istore (E := E) (d := md_89) (pc := 89) dd_89_89
theorem vd_89_91 (E : ac_E) : ac_ok E md_89 91 (o_go 110) := ok_goto (E := E) (d := md_89) (pc := 91) dd_89_91 (by decide)
theorem vd_89_94 (E : ac_E) : ac_ok E md_89 94 (o_ild 2 95) := ok_iload_n (E := E) (d := md_89) (pc := 94) (j := 2) dd_89_94
theorem vd_89_95 (E : ac_E) : ac_ok E md_89 95 (o_con (.int 4) 96) := ok_iconst (E := E) (d := md_89) (pc := 95) dd_89_95 (by decide)
theorem vd_89_96 (E : ac_E) : ac_ok E md_89 96 (o_eq 104 99) := ok_icmpeq (E := E) (d := md_89) (pc := 96) dd_89_96 (by decide)
theorem vd_89_99 (E : ac_E) : ac_ok E md_89 99 (o_ild 2 100) := ok_iload_n (E := E) (d := md_89) (pc := 99) (j := 2) dd_89_99
theorem vd_89_100 (E : ac_E) : ac_ok E md_89 100 (o_con (.int 5) 101) := ok_iconst (E := E) (d := md_89) (pc := 100) dd_89_100 (by decide)
theorem vd_89_101 (E : ac_E) : ac_ok E md_89 101 (o_ne 110 104) := ok_icmpne (E := E) (d := md_89) (pc := 101) dd_89_101 (by decide)
theorem vd_89_104 (E : ac_E) : ac_ok E md_89 104 (o_ild 4 106) := ok_iload (E := E) (d := md_89) (pc := 104) dd_89_104
theorem vd_89_106 (E : ac_E) : ac_ok E md_89 106 (o_con (.int 1) 107) := ok_iconst (E := E) (d := md_89) (pc := 106) dd_89_106 (by decide)
theorem vd_89_107 (E : ac_E) : ac_ok E md_89 107 (o_add 108) := ok_iadd (E := E) (d := md_89) (pc := 107) dd_89_107
theorem vd_89_108 (E : ac_E) : ac_ok E md_89 108 (o_ist 4 110) := ok_istore (E := E) (d := md_89) (pc := 108) dd_89_108
theorem vd_89_110 (E : ac_E) : ac_ok E md_89 110 (o_ild 4 112) := ok_iload (E := E) (d := md_89) (pc := 110) dd_89_110
theorem vd_89_112 (E : ac_E) : ac_ok E md_89 112 (o_ald 0 113) := ok_aload_n (E := E) (d := md_89) (pc := 112) (j := 0) dd_89_112
theorem vd_89_113 (E : ac_E) : ac_ok E md_89 113 (o_get 5 2 116) := ok_getf (E := E) (d := md_89) (pc := 113) (ci := 5) (f := 2) (C := RX5) (T := TX5) (N := 17) (ref := RX5) rfl win_5 (by decide) rfl wm_640 dd_89_113
theorem vd_89_116 (E : ac_E) : ac_ok E md_89 116 (o_add 117) := ok_iadd (E := E) (d := md_89) (pc := 116) dd_89_116
theorem vd_89_117 (E : ac_E) : ac_ok E md_89 117 (o_ald 0 118) := ok_aload_n (E := E) (d := md_89) (pc := 117) (j := 0) dd_89_117
theorem vd_89_118 (E : ac_E) : ac_ok E md_89 118 (o_get 5 2 121) := ok_getf (E := E) (d := md_89) (pc := 118) (ci := 5) (f := 2) (C := RX5) (T := TX5) (N := 17) (ref := RX5) rfl win_5 (by decide) rfl wm_640 dd_89_118
theorem vd_89_121 (E : ac_E) : ac_ok E md_89 121 (o_rem 122) := ok_irem (E := E) (d := md_89) (pc := 121) dd_89_121
theorem vd_89_122 (E : ac_E) : ac_ok E md_89 122 (o_ald 0 123) := ok_aload_n (E := E) (d := md_89) (pc := 122) (j := 0) dd_89_122
theorem vd_89_123 (E : ac_E) : ac_ok E md_89 123 (o_get 5 1 126) := ok_getf (E := E) (d := md_89) (pc := 123) (ci := 5) (f := 1) (C := RX5) (T := TX5) (N := 17) (ref := RX5) rfl win_5 (by decide) rfl wm_639 dd_89_123
theorem vd_89_126 (E : ac_E) : ac_ok E md_89 126 (o_mul 127) := ok_imul (E := E) (d := md_89) (pc := 126) dd_89_126
theorem vd_89_127 (E : ac_E) : ac_ok E md_89 127 (o_ild 3 128) := ok_iload_n (E := E) (d := md_89) (pc := 127) (j := 3) dd_89_127
theorem vd_89_128 (E : ac_E) : ac_ok E md_89 128 (o_ald 0 129) := ok_aload_n (E := E) (d := md_89) (pc := 128) (j := 0) dd_89_128
theorem vd_89_129 (E : ac_E) : ac_ok E md_89 129 (o_get 5 1 132) := ok_getf (E := E) (d := md_89) (pc := 129) (ci := 5) (f := 1) (C := RX5) (T := TX5) (N := 17) (ref := RX5) rfl win_5 (by decide) rfl wm_639 dd_89_129
theorem vd_89_132 (E : ac_E) : ac_ok E md_89 132 (o_add 133) := ok_iadd (E := E) (d := md_89) (pc := 132) dd_89_132
theorem vd_89_133 (E : ac_E) : ac_ok E md_89 133 (o_ald 0 134) := ok_aload_n (E := E) (d := md_89) (pc := 133) (j := 0) dd_89_133
theorem vd_89_134 (E : ac_E) : ac_ok E md_89 134 (o_get 5 1 137) := ok_getf (E := E) (d := md_89) (pc := 134) (ci := 5) (f := 1) (C := RX5) (T := TX5) (N := 17) (ref := RX5) rfl win_5 (by decide) rfl wm_639 dd_89_134
theorem vd_89_137 (E : ac_E) : ac_ok E md_89 137 (o_rem 138) := ok_irem (E := E) (d := md_89) (pc := 137) dd_89_137
theorem vd_89_138 (E : ac_E) : ac_ok E md_89 138 (o_add 139) := ok_iadd (E := E) (d := md_89) (pc := 138) dd_89_138
theorem va_89 (E : ac_E) (pc : Nat) : ac_V E ac_MDf ac_HDf 89 pc (tb_89 (ac_len E) (ac_xs E) pc) := (ac_node (ac_node (ac_node (ac_node (ac_node (ac_node (ac_leaf 0 (⟨vd_89_0 E, mn_ild _ _⟩)) (ac_leaf 1 (⟨vd_89_1 E, mn_ald _ _⟩))) (ac_node (ac_leaf 2 (⟨vd_89_2 E, mn_get _ _ _⟩)) (ac_node (ac_leaf 5 (⟨vd_89_5 E, mn_rem _⟩)) (ac_leaf 6 (⟨vd_89_6 E, mn_ist _ _⟩))))) (ac_node (ac_node (ac_leaf 7 (⟨vd_89_7 E, mn_ild _ _⟩)) (ac_node (ac_leaf 8 (⟨vd_89_8 E, mn_ald _ _⟩)) (ac_leaf 9 (⟨vd_89_9 E, mn_get _ _ _⟩)))) (ac_node (ac_leaf 12 (⟨vd_89_12 E, mn_div _⟩)) (ac_node (ac_leaf 13 (⟨vd_89_13 E, mn_ist _ _⟩)) (ac_leaf 15 (⟨vd_89_15 E, mn_ild _ _⟩)))))) (ac_node (ac_node (ac_node (ac_leaf 17 (⟨vd_89_17 E, mn_con _ _⟩)) (ac_leaf 18 (⟨vd_89_18 E, mn_rem _⟩))) (ac_node (ac_leaf 19 (⟨vd_89_19 E, mn_ist _ _⟩)) (ac_node (ac_leaf 21 (⟨vd_89_21 E, mn_ild _ _⟩)) (ac_leaf 22 (⟨vd_89_22 E, mn_ne0 _ _⟩))))) (ac_node (ac_node (ac_leaf 25 (⟨vd_89_25 E, mn_ild _ _⟩)) (ac_node (ac_leaf 26 (⟨vd_89_26 E, mn_con _ _⟩)) (ac_leaf 27 (⟨vd_89_27 E, mn_add _⟩)))) (ac_node (ac_leaf 28 (⟨vd_89_28 E, mn_ist _ _⟩)) (ac_node (ac_leaf 29 (⟨vd_89_29 E, mn_go _⟩)) (ac_leaf 32 (⟨vd_89_32 E, mn_ild _ _⟩))))))) (ac_node (ac_node (ac_node (ac_node (ac_leaf 33 (⟨vd_89_33 E, mn_con _ _⟩)) (ac_leaf 34 (⟨vd_89_34 E, mn_ne _ _⟩))) (ac_node (ac_leaf 37 (⟨vd_89_37 E, mn_ild _ _⟩)) (ac_node (ac_leaf 38 (⟨vd_89_38 E, mn_con _ _⟩)) (ac_leaf 39 (⟨vd_89_39 E, mn_sub _⟩))))) (ac_node (ac_node (ac_leaf 40 (⟨vd_89_40 E, mn_ist _ _⟩)) (ac_node (ac_leaf 41 (⟨vd_89_41 E, mn_go _⟩)) (ac_leaf 44 (⟨vd_89_44 E, mn_ild _ _⟩)))) (ac_node (ac_leaf 45 (⟨vd_89_45 E, mn_con _ _⟩)) (ac_node (ac_leaf 46 (⟨vd_89_46 E, mn_eq _ _⟩)) (ac_leaf 49 (⟨vd_89_49 E, mn_ild _ _⟩)))))) (ac_node (ac_node (ac_node (ac_leaf 50 (⟨vd_89_50 E, mn_con _ _⟩)) (ac_leaf 51 (⟨vd_89_51 E, mn_ne _ _⟩))) (ac_node (ac_leaf 54 (⟨vd_89_54 E, mn_ild _ _⟩)) (ac_node (ac_leaf 55 (⟨vd_89_55 E, mn_ild _ _⟩)) (ac_leaf 57 (⟨vd_89_57 E, mn_add _⟩))))) (ac_node (ac_node (ac_leaf 58 (⟨vd_89_58 E, mn_ist _ _⟩)) (ac_node (ac_leaf 59 (⟨vd_89_59 E, mn_go _⟩)) (ac_leaf 62 (⟨vd_89_62 E, mn_ild _ _⟩)))) (ac_node (ac_leaf 63 (⟨vd_89_63 E, mn_con _ _⟩)) (ac_node (ac_leaf 65 (⟨vd_89_65 E, mn_eq _ _⟩)) (ac_leaf 68 (⟨vd_89_68 E, mn_ild _ _⟩)))))))) (ac_node (ac_node (ac_node (ac_node (ac_node (ac_leaf 69 (⟨vd_89_69 E, mn_ild _ _⟩)) (ac_leaf 71 (⟨vd_89_71 E, mn_add _⟩))) (ac_node (ac_leaf 72 (⟨vd_89_72 E, mn_con _ _⟩)) (ac_node (ac_leaf 73 (⟨vd_89_73 E, mn_sub _⟩)) (ac_leaf 74 (⟨vd_89_74 E, mn_ist _ _⟩))))) (ac_node (ac_node (ac_leaf 75 (⟨vd_89_75 E, mn_ild _ _⟩)) (ac_node (ac_leaf 76 (⟨vd_89_76 E, mn_con _ _⟩)) (ac_leaf 77 (⟨vd_89_77 E, mn_eq _ _⟩)))) (ac_node (ac_leaf 80 (⟨vd_89_80 E, mn_ild _ _⟩)) (ac_node (ac_leaf 81 (⟨vd_89_81 E, mn_con _ _⟩)) (ac_leaf 82 (⟨vd_89_82 E, mn_ne _ _⟩)))))) (ac_node (ac_node (ac_node (ac_leaf 85 (⟨vd_89_85 E, mn_ild _ _⟩)) (ac_leaf 87 (⟨vd_89_87 E, mn_con _ _⟩))) (ac_node (ac_leaf 88 (⟨vd_89_88 E, mn_sub _⟩)) (ac_node (ac_leaf 89 (⟨vd_89_89 E, mn_ist _ _⟩)) (ac_leaf 91 (⟨vd_89_91 E, mn_go _⟩))))) (ac_node (ac_node (ac_leaf 94 (⟨vd_89_94 E, mn_ild _ _⟩)) (ac_node (ac_leaf 95 (⟨vd_89_95 E, mn_con _ _⟩)) (ac_leaf 96 (⟨vd_89_96 E, mn_eq _ _⟩)))) (ac_node (ac_leaf 99 (⟨vd_89_99 E, mn_ild _ _⟩)) (ac_node (ac_leaf 100 (⟨vd_89_100 E, mn_con _ _⟩)) (ac_leaf 101 (⟨vd_89_101 E, mn_ne _ _⟩))))))) (ac_node (ac_node (ac_node (ac_node (ac_leaf 104 (⟨vd_89_104 E, mn_ild _ _⟩)) (ac_leaf 106 (⟨vd_89_106 E, mn_con _ _⟩))) (ac_node (ac_leaf 107 (⟨vd_89_107 E, mn_add _⟩)) (ac_node (ac_leaf 108 (⟨vd_89_108 E, mn_ist _ _⟩)) (ac_leaf 110 (⟨vd_89_110 E, mn_ild _ _⟩))))) (ac_node (ac_node (ac_leaf 112 (⟨vd_89_112 E, mn_ald _ _⟩)) (ac_node (ac_leaf 113 (⟨vd_89_113 E, mn_get _ _ _⟩)) (ac_leaf 116 (⟨vd_89_116 E, mn_add _⟩)))) (ac_node (ac_leaf 117 (⟨vd_89_117 E, mn_ald _ _⟩)) (ac_node (ac_leaf 118 (⟨vd_89_118 E, mn_get _ _ _⟩)) (ac_leaf 121 (⟨vd_89_121 E, mn_rem _⟩)))))) (ac_node (ac_node (ac_node (ac_leaf 122 (⟨vd_89_122 E, mn_ald _ _⟩)) (ac_node (ac_leaf 123 (⟨vd_89_123 E, mn_get _ _ _⟩)) (ac_leaf 126 (⟨vd_89_126 E, mn_mul _⟩)))) (ac_node (ac_leaf 127 (⟨vd_89_127 E, mn_ild _ _⟩)) (ac_node (ac_leaf 128 (⟨vd_89_128 E, mn_ald _ _⟩)) (ac_leaf 129 (⟨vd_89_129 E, mn_get _ _ _⟩))))) (ac_node (ac_node (ac_leaf 132 (⟨vd_89_132 E, mn_add _⟩)) (ac_node (ac_leaf 133 (⟨vd_89_133 E, mn_ald _ _⟩)) (ac_leaf 134 (⟨vd_89_134 E, mn_get _ _ _⟩)))) (ac_node (ac_leaf 137 (⟨vd_89_137 E, mn_rem _⟩)) (ac_node (ac_leaf 138 (⟨vd_89_138 E, mn_add _⟩)) (ac_leaf 139 (ac_Vr1 dd_89_139 rfl)))))))))
theorem vd_90_0 (E : ac_E) : ac_ok E md_90 0 (o_ild 1 1) := ok_iload_n (E := E) (d := md_90) (pc := 0) (j := 1) dd_90_0
theorem vd_90_1 (E : ac_E) : ac_ok E md_90 1 (o_ist 2 2) := ok_istore_n (E := E) (d := md_90) (pc := 1) (j := 2) dd_90_1
theorem vd_90_2 (E : ac_E) : ac_ok E md_90 2 (o_con (.int 0) 3) := ok_iconst (E := E) (d := md_90) (pc := 2) dd_90_2 (by decide)
theorem vd_90_3 (E : ac_E) : ac_ok E md_90 3 (o_ist 3 4) := ok_istore_n (E := E) (d := md_90) (pc := 3) (j := 3) dd_90_3
theorem vd_90_4 (E : ac_E) : ac_ok E md_90 4 (o_ild 3 5) := ok_iload_n (E := E) (d := md_90) (pc := 4) (j := 3) dd_90_4
theorem vd_90_5 (E : ac_E) : ac_ok E md_90 5 (o_con (.int 7) 7) := ok_bipush (E := E) (d := md_90) (pc := 5) dd_90_5 (by decide)
theorem vd_90_7 (E : ac_E) : ac_ok E md_90 7 (o_ge 33 10) := ok_icmpge (E := E) (d := md_90) (pc := 7) dd_90_7 (by decide)
theorem vd_90_10 (E : ac_E) : ac_ok E md_90 10 (o_ild 0 11) := ok_iload_n (E := E) (d := md_90) (pc := 10) (j := 0) dd_90_10
theorem vd_90_11 (E : ac_E) : ac_ok E md_90 11 (o_ild 3 12) := ok_iload_n (E := E) (d := md_90) (pc := 11) (j := 3) dd_90_11
theorem vd_90_12 (E : ac_E) : ac_okr E md_90 md_70 12 2 15 0 ∧ ac_okt E md_90 md_70 12 2 0 := ok_callS (E := E) (d := md_90) (dz := md_70) (pc := 12) rfl (by decide) (by decide +kernel) wm_707 wm_56 wm_705 wm_706 dd_90_12
theorem vd_90_15 (E : ac_E) : ac_ok E md_90 15 (o_eq0 27 18) := ok_ifeq (E := E) (d := md_90) (pc := 15) dd_90_15 (by decide)
theorem vd_90_18 (E : ac_E) : ac_ok E md_90 18 (o_ild 2 19) := ok_iload_n (E := E) (d := md_90) (pc := 18) (j := 2) dd_90_18
theorem vd_90_19 (E : ac_E) : ac_ok E md_90 19 (o_ne0 24 22) := ok_ifne (E := E) (d := md_90) (pc := 19) dd_90_19 (by decide)
theorem vd_90_22 (E : ac_E) : ac_ok E md_90 22 (o_ild 3 23) := ok_iload_n (E := E) (d := md_90) (pc := 22) (j := 3) dd_90_22
theorem vd_90_24 (E : ac_E) : ac_ok E md_90 24 (o_inc 2 (-1) 27) := ok_iinc (E := E) (d := md_90) (pc := 24) dd_90_24 (by decide)
theorem vd_90_27 (E : ac_E) : ac_ok E md_90 27 (o_inc 3 1 30) := ok_iinc (E := E) (d := md_90) (pc := 27) dd_90_27 (by decide)
theorem vd_90_30 (E : ac_E) : ac_ok E md_90 30 (o_go 4) := ok_goto (E := E) (d := md_90) (pc := 30) dd_90_30 (by decide)
theorem vd_90_33 (E : ac_E) : ac_ok E md_90 33 (o_con (.int (-1)) 34) := ok_iconst (E := E) (d := md_90) (pc := 33) dd_90_33 (by decide)
theorem va_90 (E : ac_E) (pc : Nat) : ac_V E ac_MDf ac_HDf 90 pc (tb_90 (ac_len E) (ac_xs E) pc) := (ac_node (ac_node (ac_node (ac_node (ac_leaf 0 (⟨vd_90_0 E, mn_ild _ _⟩)) (ac_leaf 1 (⟨vd_90_1 E, mn_ist _ _⟩))) (ac_node (ac_leaf 2 (⟨vd_90_2 E, mn_con _ _⟩)) (ac_node (ac_leaf 3 (⟨vd_90_3 E, mn_ist _ _⟩)) (ac_leaf 4 (⟨vd_90_4 E, mn_ild _ _⟩))))) (ac_node (ac_node (ac_leaf 5 (⟨vd_90_5 E, mn_con _ _⟩)) (ac_leaf 7 (⟨vd_90_7 E, mn_ge _ _⟩))) (ac_node (ac_leaf 10 (⟨vd_90_10 E, mn_ild _ _⟩)) (ac_node (ac_leaf 11 (⟨vd_90_11 E, mn_ild _ _⟩)) (ac_leaf 12 (ac_Vc0 ((vd_90_12 E).1) (fun _ => rfl))))))) (ac_node (ac_node (ac_node (ac_leaf 15 (⟨vd_90_15 E, mn_eq0 _ _⟩)) (ac_leaf 18 (⟨vd_90_18 E, mn_ild _ _⟩))) (ac_node (ac_leaf 19 (⟨vd_90_19 E, mn_ne0 _ _⟩)) (ac_node (ac_leaf 22 (⟨vd_90_22 E, mn_ild _ _⟩)) (ac_leaf 23 (ac_Vr1 dd_90_23 rfl))))) (ac_node (ac_node (ac_leaf 24 (⟨vd_90_24 E, mn_inc _ _ _⟩)) (ac_leaf 27 (⟨vd_90_27 E, mn_inc _ _ _⟩))) (ac_node (ac_leaf 30 (⟨vd_90_30 E, mn_go _⟩)) (ac_node (ac_leaf 33 (⟨vd_90_33 E, mn_con _ _⟩)) (ac_leaf 34 (ac_Vr1 dd_90_34 rfl)))))))
theorem vd_91_0 (E : ac_E) : ac_ok E md_91 0 (o_ild 1 1) := ok_iload_n (E := E) (d := md_91) (pc := 0) (j := 1) dd_91_0
theorem vd_91_1 (E : ac_E) : ac_ok E md_91 1 (o_ald 0 2) := ok_aload_n (E := E) (d := md_91) (pc := 1) (j := 0) dd_91_1
theorem vd_91_2 (E : ac_E) : ac_ok E md_91 2 (o_get 5 1 5) := ok_getf (E := E) (d := md_91) (pc := 2) (ci := 5) (f := 1) (C := RX5) (T := TX5) (N := 17) (ref := RX5) rfl win_5 (by decide) rfl wm_639 dd_91_2
theorem vd_91_5 (E : ac_E) : ac_ok E md_91 5 (o_rem 6) := ok_irem (E := E) (d := md_91) (pc := 5) dd_91_5
theorem vd_91_6 (E : ac_E) : ac_ok E md_91 6 (o_ild 1 7) := ok_iload_n (E := E) (d := md_91) (pc := 6) (j := 1) dd_91_6
theorem vd_91_7 (E : ac_E) : ac_ok E md_91 7 (o_ald 0 8) := ok_aload_n (E := E) (d := md_91) (pc := 7) (j := 0) dd_91_7
theorem vd_91_8 (E : ac_E) : ac_ok E md_91 8 (o_get 5 1 11) := ok_getf (E := E) (d := md_91) (pc := 8) (ci := 5) (f := 1) (C := RX5) (T := TX5) (N := 17) (ref := RX5) rfl win_5 (by decide) rfl wm_639 dd_91_8
theorem vd_91_11 (E : ac_E) : ac_ok E md_91 11 (o_div 12) := ok_idiv (E := E) (d := md_91) (pc := 11) dd_91_11
theorem vd_91_12 (E : ac_E) : ac_ok E md_91 12 (o_add 13) := ok_iadd (E := E) (d := md_91) (pc := 12) dd_91_12
theorem vd_91_13 (E : ac_E) : ac_ok E md_91 13 (o_ald 0 14) := ok_aload_n (E := E) (d := md_91) (pc := 13) (j := 0) dd_91_13
theorem vd_91_14 (E : ac_E) : ac_ok E md_91 14 (o_get 5 3 17) := ok_getf (E := E) (d := md_91) (pc := 14) (ci := 5) (f := 3) (C := RX5) (T := TX5) (N := 17) (ref := RX5) rfl win_5 (by decide) rfl wm_641 dd_91_14
theorem vd_91_17 (E : ac_E) : ac_ok E md_91 17 (o_add 18) := ok_iadd (E := E) (d := md_91) (pc := 17) dd_91_17
theorem vd_91_18 (E : ac_E) : ac_ok E md_91 18 (o_con (.int 1) 19) := ok_iconst (E := E) (d := md_91) (pc := 18) dd_91_18 (by decide)
theorem vd_91_19 (E : ac_E) : ac_ok E md_91 19 (o_and 20) := ok_iand (E := E) (d := md_91) (pc := 19) dd_91_19
theorem vd_91_20 (E : ac_E) : ac_ok E md_91 20 (o_ist 3 21) := ok_istore_n (E := E) (d := md_91) (pc := 20) (j := 3) dd_91_20
theorem vd_91_21 (E : ac_E) : ac_ok E md_91 21 (o_ald 0 22) := ok_aload_n (E := E) (d := md_91) (pc := 21) (j := 0) dd_91_21
theorem vd_91_22 (E : ac_E) : ac_ok E md_91 22 (o_get 5 5 25) := ok_getf (E := E) (d := md_91) (pc := 22) (ci := 5) (f := 5) (C := RX5) (T := TX5) (N := 17) (ref := RX5) rfl win_5 (by decide) rfl wm_643 dd_91_22
theorem vd_91_25 (E : ac_E) : ac_ok E md_91 25 (o_ild 1 26) := ok_iload_n (E := E) (d := md_91) (pc := 25) (j := 1) dd_91_25
theorem vd_91_26 (E : ac_E) : ac_ok E md_91 26 (o_ia 27) := ok_iaload (E := E) (d := md_91) (pc := 26) dd_91_26
theorem vd_91_27 (E : ac_E) : ac_ok E md_91 27 (o_ist 4 29) := ok_istore (E := E) (d := md_91) (pc := 27) dd_91_27
theorem vd_91_29 (E : ac_E) : ac_ok E md_91 29 (o_ild 2 30) := ok_iload_n (E := E) (d := md_91) (pc := 29) (j := 2) dd_91_29
theorem vd_91_30 (E : ac_E) : ac_ok E md_91 30 (o_eq0 42 33) := ok_ifeq (E := E) (d := md_91) (pc := 30) dd_91_30 (by decide)
theorem vd_91_33 (E : ac_E) : ac_ok E md_91 33 (o_ild 4 35) := ok_iload (E := E) (d := md_91) (pc := 33) dd_91_33
theorem vd_91_35 (E : ac_E) : ac_ok E md_91 35 (o_ild 3 36) := ok_iload_n (E := E) (d := md_91) (pc := 35) (j := 3) dd_91_35
theorem vd_91_36 (E : ac_E) : ac_okr E md_91 md_74 36 2 39 0 ∧ ac_okt E md_91 md_74 36 2 0 := ok_callS (E := E) (d := md_91) (dz := md_74) (pc := 36) rfl (by decide) (by decide +kernel) wm_778 wm_56 wm_776 wm_777 dd_91_36
theorem vd_91_39 (E : ac_E) : ac_ok E md_91 39 (o_go 48) := ok_goto (E := E) (d := md_91) (pc := 39) dd_91_39 (by decide)
theorem vd_91_42 (E : ac_E) : ac_ok E md_91 42 (o_ild 4 44) := ok_iload (E := E) (d := md_91) (pc := 42) dd_91_42
theorem vd_91_44 (E : ac_E) : ac_ok E md_91 44 (o_ild 3 45) := ok_iload_n (E := E) (d := md_91) (pc := 44) (j := 3) dd_91_44
theorem vd_91_45 (E : ac_E) : ac_okr E md_91 md_73 45 2 48 0 ∧ ac_okt E md_91 md_73 45 2 0 := ok_callS (E := E) (d := md_91) (dz := md_73) (pc := 45) rfl (by decide) (by decide +kernel) wm_701 wm_56 wm_699 wm_700 dd_91_45
theorem vd_91_48 (E : ac_E) : ac_ok E md_91 48 (o_ist 5 50) := ok_istore (E := E) (d := md_91) (pc := 48) dd_91_48
theorem vd_91_50 (E : ac_E) : ac_ok E md_91 50 (o_ald 0 51) := ok_aload_n (E := E) (d := md_91) (pc := 50) (j := 0) dd_91_50
theorem vd_91_51 (E : ac_E) : ac_ok E md_91 51 (o_get 5 5 54) := ok_getf (E := E) (d := md_91) (pc := 51) (ci := 5) (f := 5) (C := RX5) (T := TX5) (N := 17) (ref := RX5) rfl win_5 (by decide) rfl wm_643 dd_91_51
theorem vd_91_54 (E : ac_E) : ac_ok E md_91 54 (o_ild 1 55) := ok_iload_n (E := E) (d := md_91) (pc := 54) (j := 1) dd_91_54
theorem vd_91_55 (E : ac_E) : ac_ok E md_91 55 (o_ild 5 57) := ok_iload (E := E) (d := md_91) (pc := 55) dd_91_55
theorem vd_91_57 (E : ac_E) : ac_ok E md_91 57 (o_is 58) := ok_iastore (E := E) (d := md_91) (pc := 57) dd_91_57
theorem vd_91_58 (E : ac_E) : ac_ok E md_91 58 (o_con (.int 0) 59) := ok_iconst (E := E) (d := md_91) (pc := 58) dd_91_58 (by decide)
theorem vd_91_59 (E : ac_E) : ac_ok E md_91 59 (o_ist 6 61) := ok_istore (E := E) (d := md_91) (pc := 59) dd_91_59
theorem vd_91_61 (E : ac_E) : ac_ok E md_91 61 (o_ild 6 63) := ok_iload (E := E) (d := md_91) (pc := 61) dd_91_61
theorem vd_91_63 (E : ac_E) : ac_ok E md_91 63 (o_ald 0 64) := ok_aload_n (E := E) (d := md_91) (pc := 63) (j := 0) dd_91_63
theorem vd_91_64 (E : ac_E) : ac_ok E md_91 64 (o_get 5 14 67) := ok_getf (E := E) (d := md_91) (pc := 64) (ci := 5) (f := 14) (C := RX5) (T := TX5) (N := 17) (ref := RX5) rfl win_5 (by decide) rfl wm_652 dd_91_64
theorem vd_91_67 (E : ac_E) : ac_ok E md_91 67 (o_ge 123 70) := ok_icmpge (E := E) (d := md_91) (pc := 67) dd_91_67 (by decide)
theorem vd_91_70 (E : ac_E) : ac_ok E md_91 70 (o_ald 0 71) := ok_aload_n (E := E) (d := md_91) (pc := 70) (j := 0) dd_91_70
theorem vd_91_71 (E : ac_E) : ac_ok E md_91 71 (o_get 5 15 74) := ok_getf (E := E) (d := md_91) (pc := 71) (ci := 5) (f := 15) (C := RX5) (T := TX5) (N := 17) (ref := RX5) rfl win_5 (by decide) rfl wm_653 dd_91_71
theorem vd_91_74 (E : ac_E) : ac_ok E md_91 74 (o_ild 6 76) := ok_iload (E := E) (d := md_91) (pc := 74) dd_91_74
theorem vd_91_76 (E : ac_E) : ac_ok E md_91 76 (o_ia 77) := ok_iaload (E := E) (d := md_91) (pc := 76) dd_91_76
theorem vd_91_77 (E : ac_E) : ac_ok E md_91 77 (o_ild 1 78) := ok_iload_n (E := E) (d := md_91) (pc := 77) (j := 1) dd_91_77
theorem vd_91_78 (E : ac_E) : ac_ok E md_91 78 (o_ne 117 81) := ok_icmpne (E := E) (d := md_91) (pc := 78) dd_91_78 (by decide)
theorem vd_91_81 (E : ac_E) : ac_ok E md_91 81 (o_ild 5 83) := ok_iload (E := E) (d := md_91) (pc := 81) dd_91_81
theorem vd_91_83 (E : ac_E) : ac_ok E md_91 83 (o_ild 4 85) := ok_iload (E := E) (d := md_91) (pc := 83) dd_91_83
theorem vd_91_85 (E : ac_E) : ac_ok E md_91 85 (o_eq 117 88) := ok_icmpeq (E := E) (d := md_91) (pc := 85) dd_91_85 (by decide)
theorem vd_91_88 (E : ac_E) : ac_ok E md_91 88 (o_ald 0 89) := ok_aload_n (E := E) (d := md_91) (pc := 88) (j := 0) dd_91_88
theorem vd_91_89 (E : ac_E) : ac_ok E md_91 89 (o_get 5 16 92) := ok_getf (E := E) (d := md_91) (pc := 89) (ci := 5) (f := 16) (C := RX5) (T := TX5) (N := 17) (ref := RX5) rfl win_5 (by decide) rfl wm_654 dd_91_89
theorem vd_91_92 (E : ac_E) : ac_ok E md_91 92 (o_ild 6 94) := ok_iload (E := E) (d := md_91) (pc := 92) dd_91_92
theorem vd_91_94 (E : ac_E) : ac_ok E md_91 94 (o_ild 5 96) := ok_iload (E := E) (d := md_91) (pc := 94) dd_91_94
theorem vd_91_96 (E : ac_E) : ac_ok E md_91 96 (o_ild 4 98) := ok_iload (E := E) (d := md_91) (pc := 96) dd_91_96
theorem vd_91_98 (E : ac_E) : ac_ok E md_91 98 (o_con (.int 1) 99) := ok_iconst (E := E) (d := md_91) (pc := 98) dd_91_98 (by decide)
theorem vd_91_99 (E : ac_E) : ac_ok E md_91 99 (o_ald 0 100) := ok_aload_n (E := E) (d := md_91) (pc := 99) (j := 0) dd_91_99
theorem vd_91_100 (E : ac_E) : ac_ok E md_91 100 (o_get 5 16 103) := ok_getf (E := E) (d := md_91) (pc := 100) (ci := 5) (f := 16) (C := RX5) (T := TX5) (N := 17) (ref := RX5) rfl win_5 (by decide) rfl wm_654 dd_91_100
theorem vd_91_103 (E : ac_E) : ac_ok E md_91 103 (o_ild 6 105) := ok_iload (E := E) (d := md_91) (pc := 103) dd_91_103
theorem vd_91_105 (E : ac_E) : ac_ok E md_91 105 (o_ia 106) := ok_iaload (E := E) (d := md_91) (pc := 105) dd_91_105
theorem vd_91_106 (E : ac_E) : ac_ok E md_91 106 (o_shl 107) := ok_ishl (E := E) (d := md_91) (pc := 106) dd_91_106
theorem vd_91_107 (E : ac_E) : ac_ok E md_91 107 (o_con (.int 1) 108) := ok_iconst (E := E) (d := md_91) (pc := 107) dd_91_107 (by decide)
theorem vd_91_108 (E : ac_E) : ac_ok E md_91 108 (o_sub 109) := ok_isub (E := E) (d := md_91) (pc := 108) dd_91_108
theorem vd_91_109 (E : ac_E) : ac_ok E md_91 109 (o_and 110) := ok_iand (E := E) (d := md_91) (pc := 109) dd_91_109
theorem vd_91_110 (E : ac_E) : ac_okr E md_91 md_71 110 1 113 0 ∧ ac_okt E md_91 md_71 110 1 0 := ok_callS (E := E) (d := md_91) (dz := md_71) (pc := 110) rfl (by decide) (by decide +kernel) wm_781 wm_56 wm_779 wm_780 dd_91_110
theorem vd_91_113 (E : ac_E) : ac_okr E md_91 md_90 113 2 116 0 ∧ ac_okt E md_91 md_90 113 2 0 := ok_callS (E := E) (d := md_91) (dz := md_90) (pc := 113) rfl (by decide) (by decide +kernel) wm_784 wm_56 wm_782 wm_783 dd_91_113
theorem vd_91_116 (E : ac_E) : ac_ok E md_91 116 (o_is 117) := ok_iastore (E := E) (d := md_91) (pc := 116) dd_91_116
theorem vd_91_117 (E : ac_E) : ac_ok E md_91 117 (o_inc 6 1 120) := ok_iinc (E := E) (d := md_91) (pc := 117) dd_91_117 (by decide)
theorem vd_91_120 (E : ac_E) : ac_ok E md_91 120 (o_go 61) := ok_goto (E := E) (d := md_91) (pc := 120) dd_91_120 (by decide)
theorem va_91 (E : ac_E) (pc : Nat) : ac_V E ac_MDf ac_HDf 91 pc (tb_91 (ac_len E) (ac_xs E) pc) := (ac_node (ac_node (ac_node (ac_node (ac_node (ac_node (ac_leaf 0 (⟨vd_91_0 E, mn_ild _ _⟩)) (ac_leaf 1 (⟨vd_91_1 E, mn_ald _ _⟩))) (ac_node (ac_leaf 2 (⟨vd_91_2 E, mn_get _ _ _⟩)) (ac_leaf 5 (⟨vd_91_5 E, mn_rem _⟩)))) (ac_node (ac_node (ac_leaf 6 (⟨vd_91_6 E, mn_ild _ _⟩)) (ac_leaf 7 (⟨vd_91_7 E, mn_ald _ _⟩))) (ac_node (ac_leaf 8 (⟨vd_91_8 E, mn_get _ _ _⟩)) (ac_leaf 11 (⟨vd_91_11 E, mn_div _⟩))))) (ac_node (ac_node (ac_node (ac_leaf 12 (⟨vd_91_12 E, mn_add _⟩)) (ac_leaf 13 (⟨vd_91_13 E, mn_ald _ _⟩))) (ac_node (ac_leaf 14 (⟨vd_91_14 E, mn_get _ _ _⟩)) (ac_leaf 17 (⟨vd_91_17 E, mn_add _⟩)))) (ac_node (ac_node (ac_leaf 18 (⟨vd_91_18 E, mn_con _ _⟩)) (ac_leaf 19 (⟨vd_91_19 E, mn_and _⟩))) (ac_node (ac_leaf 20 (⟨vd_91_20 E, mn_ist _ _⟩)) (ac_node (ac_leaf 21 (⟨vd_91_21 E, mn_ald _ _⟩)) (ac_leaf 22 (⟨vd_91_22 E, mn_get _ _ _⟩))))))) (ac_node (ac_node (ac_node (ac_node (ac_leaf 25 (⟨vd_91_25 E, mn_ild _ _⟩)) (ac_leaf 26 (⟨vd_91_26 E, mn_ia _⟩))) (ac_node (ac_leaf 27 (⟨vd_91_27 E, mn_ist _ _⟩)) (ac_leaf 29 (⟨vd_91_29 E, mn_ild _ _⟩)))) (ac_node (ac_node (ac_leaf 30 (⟨vd_91_30 E, mn_eq0 _ _⟩)) (ac_leaf 33 (⟨vd_91_33 E, mn_ild _ _⟩))) (ac_node (ac_leaf 35 (⟨vd_91_35 E, mn_ild _ _⟩)) (ac_node (ac_leaf 36 (ac_Vc0 ((vd_91_36 E).1) (fun _ => rfl))) (ac_leaf 39 (⟨vd_91_39 E, mn_go _⟩)))))) (ac_node (ac_node (ac_node (ac_leaf 42 (⟨vd_91_42 E, mn_ild _ _⟩)) (ac_leaf 44 (⟨vd_91_44 E, mn_ild _ _⟩))) (ac_node (ac_leaf 45 (ac_Vc0 ((vd_91_45 E).1) (fun _ => rfl))) (ac_leaf 48 (⟨vd_91_48 E, mn_ist _ _⟩)))) (ac_node (ac_node (ac_leaf 50 (⟨vd_91_50 E, mn_ald _ _⟩)) (ac_leaf 51 (⟨vd_91_51 E, mn_get _ _ _⟩))) (ac_node (ac_leaf 54 (⟨vd_91_54 E, mn_ild _ _⟩)) (ac_node (ac_leaf 55 (⟨vd_91_55 E, mn_ild _ _⟩)) (ac_leaf 57 (⟨vd_91_57 E, mn_is _⟩)))))))) (ac_node (ac_node (ac_node (ac_node (ac_node (ac_leaf 58 (⟨vd_91_58 E, mn_con _ _⟩)) (ac_leaf 59 (⟨vd_91_59 E, mn_ist _ _⟩))) (ac_node (ac_leaf 61 (⟨vd_91_61 E, mn_ild _ _⟩)) (ac_leaf 63 (⟨vd_91_63 E, mn_ald _ _⟩)))) (ac_node (ac_node (ac_leaf 64 (⟨vd_91_64 E, mn_get _ _ _⟩)) (ac_leaf 67 (⟨vd_91_67 E, mn_ge _ _⟩))) (ac_node (ac_leaf 70 (⟨vd_91_70 E, mn_ald _ _⟩)) (ac_leaf 71 (⟨vd_91_71 E, mn_get _ _ _⟩))))) (ac_node (ac_node (ac_node (ac_leaf 74 (⟨vd_91_74 E, mn_ild _ _⟩)) (ac_leaf 76 (⟨vd_91_76 E, mn_ia _⟩))) (ac_node (ac_leaf 77 (⟨vd_91_77 E, mn_ild _ _⟩)) (ac_leaf 78 (⟨vd_91_78 E, mn_ne _ _⟩)))) (ac_node (ac_node (ac_leaf 81 (⟨vd_91_81 E, mn_ild _ _⟩)) (ac_leaf 83 (⟨vd_91_83 E, mn_ild _ _⟩))) (ac_node (ac_leaf 85 (⟨vd_91_85 E, mn_eq _ _⟩)) (ac_node (ac_leaf 88 (⟨vd_91_88 E, mn_ald _ _⟩)) (ac_leaf 89 (⟨vd_91_89 E, mn_get _ _ _⟩))))))) (ac_node (ac_node (ac_node (ac_node (ac_leaf 92 (⟨vd_91_92 E, mn_ild _ _⟩)) (ac_leaf 94 (⟨vd_91_94 E, mn_ild _ _⟩))) (ac_node (ac_leaf 96 (⟨vd_91_96 E, mn_ild _ _⟩)) (ac_leaf 98 (⟨vd_91_98 E, mn_con _ _⟩)))) (ac_node (ac_node (ac_leaf 99 (⟨vd_91_99 E, mn_ald _ _⟩)) (ac_leaf 100 (⟨vd_91_100 E, mn_get _ _ _⟩))) (ac_node (ac_leaf 103 (⟨vd_91_103 E, mn_ild _ _⟩)) (ac_node (ac_leaf 105 (⟨vd_91_105 E, mn_ia _⟩)) (ac_leaf 106 (⟨vd_91_106 E, mn_shl _⟩)))))) (ac_node (ac_node (ac_node (ac_leaf 107 (⟨vd_91_107 E, mn_con _ _⟩)) (ac_leaf 108 (⟨vd_91_108 E, mn_sub _⟩))) (ac_node (ac_leaf 109 (⟨vd_91_109 E, mn_and _⟩)) (ac_leaf 110 (ac_Vc0 ((vd_91_110 E).1) (fun _ => rfl))))) (ac_node (ac_node (ac_leaf 113 (ac_Vc0 ((vd_91_113 E).1) (fun _ => rfl))) (ac_leaf 116 (⟨vd_91_116 E, mn_is _⟩))) (ac_node (ac_leaf 117 (⟨vd_91_117 E, mn_inc _ _ _⟩)) (ac_node (ac_leaf 120 (⟨vd_91_120 E, mn_go _⟩)) (ac_leaf 123 (ac_Vr0 dd_91_123 rfl)))))))))
theorem vd_92_0 (E : ac_E) : ac_ok E md_92 0 (o_con (.int 0) 1) := ok_iconst (E := E) (d := md_92) (pc := 0) dd_92_0 (by decide)
theorem vd_92_1 (E : ac_E) : ac_ok E md_92 1 (o_ist 2 2) := ok_istore_n (E := E) (d := md_92) (pc := 1) (j := 2) dd_92_1
theorem vd_92_2 (E : ac_E) : ac_ok E md_92 2 (o_ild 2 3) := ok_iload_n (E := E) (d := md_92) (pc := 2) (j := 2) dd_92_2
theorem vd_92_3 (E : ac_E) : ac_ok E md_92 3 (o_ald 0 4) := ok_aload_n (E := E) (d := md_92) (pc := 3) (j := 0) dd_92_3
theorem vd_92_4 (E : ac_E) : ac_ok E md_92 4 (o_get 5 1 7) := ok_getf (E := E) (d := md_92) (pc := 4) (ci := 5) (f := 1) (C := RX5) (T := TX5) (N := 17) (ref := RX5) rfl win_5 (by decide) rfl wm_639 dd_92_4
theorem vd_92_7 (E : ac_E) : ac_ok E md_92 7 (o_ald 0 8) := ok_aload_n (E := E) (d := md_92) (pc := 7) (j := 0) dd_92_7
theorem vd_92_8 (E : ac_E) : ac_ok E md_92 8 (o_get 5 2 11) := ok_getf (E := E) (d := md_92) (pc := 8) (ci := 5) (f := 2) (C := RX5) (T := TX5) (N := 17) (ref := RX5) rfl win_5 (by decide) rfl wm_640 dd_92_8
theorem vd_92_11 (E : ac_E) : ac_ok E md_92 11 (o_mul 12) := ok_imul (E := E) (d := md_92) (pc := 11) dd_92_11
theorem vd_92_12 (E : ac_E) : ac_ok E md_92 12 (o_ge 47 15) := ok_icmpge (E := E) (d := md_92) (pc := 12) dd_92_12 (by decide)
theorem vd_92_15 (E : ac_E) : ac_ok E md_92 15 (o_ald 0 16) := ok_aload_n (E := E) (d := md_92) (pc := 15) (j := 0) dd_92_15
theorem vd_92_16 (E : ac_E) : ac_ok E md_92 16 (o_get 5 6 19) := ok_getf (E := E) (d := md_92) (pc := 16) (ci := 5) (f := 6) (C := RX5) (T := TX5) (N := 17) (ref := RX5) rfl win_5 (by decide) rfl wm_644 dd_92_16
theorem vd_92_19 (E : ac_E) : ac_ok E md_92 19 (o_ild 2 20) := ok_iload_n (E := E) (d := md_92) (pc := 19) (j := 2) dd_92_19
theorem vd_92_20 (E : ac_E) : ac_ok E md_92 20 (o_ia 21) := ok_iaload (E := E) (d := md_92) (pc := 20) dd_92_20
theorem vd_92_21 (E : ac_E) : ac_ok E md_92 21 (o_con (.int 1) 22) := ok_iconst (E := E) (d := md_92) (pc := 21) dd_92_21 (by decide)
theorem vd_92_22 (E : ac_E) : ac_ok E md_92 22 (o_eq 41 25) := ok_icmpeq (E := E) (d := md_92) (pc := 22) dd_92_22 (by decide)
theorem vd_92_25 (E : ac_E) : ac_ok E md_92 25 (o_ald 0 26) := ok_aload_n (E := E) (d := md_92) (pc := 25) (j := 0) dd_92_25
theorem vd_92_26 (E : ac_E) : ac_ok E md_92 26 (o_get 5 6 29) := ok_getf (E := E) (d := md_92) (pc := 26) (ci := 5) (f := 6) (C := RX5) (T := TX5) (N := 17) (ref := RX5) rfl win_5 (by decide) rfl wm_644 dd_92_26
theorem vd_92_29 (E : ac_E) : ac_ok E md_92 29 (o_ild 2 30) := ok_iload_n (E := E) (d := md_92) (pc := 29) (j := 2) dd_92_29
theorem vd_92_30 (E : ac_E) : ac_ok E md_92 30 (o_ia 31) := ok_iaload (E := E) (d := md_92) (pc := 30) dd_92_30
theorem vd_92_31 (E : ac_E) : ac_ok E md_92 31 (o_con (.int 4) 32) := ok_iconst (E := E) (d := md_92) (pc := 31) dd_92_31 (by decide)
theorem vd_92_32 (E : ac_E) : ac_ok E md_92 32 (o_eq 41 35) := ok_icmpeq (E := E) (d := md_92) (pc := 32) dd_92_32 (by decide)
theorem vd_92_35 (E : ac_E) : ac_ok E md_92 35 (o_ald 0 36) := ok_aload_n (E := E) (d := md_92) (pc := 35) (j := 0) dd_92_35
theorem vd_92_36 (E : ac_E) : ac_ok E md_92 36 (o_ild 2 37) := ok_iload_n (E := E) (d := md_92) (pc := 36) (j := 2) dd_92_36
theorem vd_92_37 (E : ac_E) : ac_ok E md_92 37 (o_ild 1 38) := ok_iload_n (E := E) (d := md_92) (pc := 37) (j := 1) dd_92_37
theorem vd_92_38 (E : ac_E) : ac_okr E md_92 md_91 38 3 41 7 ∧ ac_okt E md_92 md_91 38 3 7 := ok_callV (E := E) (d := md_92) (dz := md_91) (pc := 38) (T := TX5) (N := 17) rfl rfl (by decide) (by decide +kernel) wm_775 wm_56 wm_772 wm_774 wm_36 dd_92_38
theorem vd_92_41 (E : ac_E) : ac_ok E md_92 41 (o_inc 2 1 44) := ok_iinc (E := E) (d := md_92) (pc := 41) dd_92_41 (by decide)
theorem vd_92_44 (E : ac_E) : ac_ok E md_92 44 (o_go 2) := ok_goto (E := E) (d := md_92) (pc := 44) dd_92_44 (by decide)
theorem va_92 (E : ac_E) (pc : Nat) : ac_V E ac_MDf ac_HDf 92 pc (tb_92 (ac_len E) (ac_xs E) pc) := (ac_node (ac_node (ac_node (ac_node (ac_leaf 0 (⟨vd_92_0 E, mn_con _ _⟩)) (ac_node (ac_leaf 1 (⟨vd_92_1 E, mn_ist _ _⟩)) (ac_leaf 2 (⟨vd_92_2 E, mn_ild _ _⟩)))) (ac_node (ac_node (ac_leaf 3 (⟨vd_92_3 E, mn_ald _ _⟩)) (ac_leaf 4 (⟨vd_92_4 E, mn_get _ _ _⟩))) (ac_node (ac_leaf 7 (⟨vd_92_7 E, mn_ald _ _⟩)) (ac_leaf 8 (⟨vd_92_8 E, mn_get _ _ _⟩))))) (ac_node (ac_node (ac_leaf 11 (⟨vd_92_11 E, mn_mul _⟩)) (ac_node (ac_leaf 12 (⟨vd_92_12 E, mn_ge _ _⟩)) (ac_leaf 15 (⟨vd_92_15 E, mn_ald _ _⟩)))) (ac_node (ac_node (ac_leaf 16 (⟨vd_92_16 E, mn_get _ _ _⟩)) (ac_leaf 19 (⟨vd_92_19 E, mn_ild _ _⟩))) (ac_node (ac_leaf 20 (⟨vd_92_20 E, mn_ia _⟩)) (ac_leaf 21 (⟨vd_92_21 E, mn_con _ _⟩)))))) (ac_node (ac_node (ac_node (ac_leaf 22 (⟨vd_92_22 E, mn_eq _ _⟩)) (ac_node (ac_leaf 25 (⟨vd_92_25 E, mn_ald _ _⟩)) (ac_leaf 26 (⟨vd_92_26 E, mn_get _ _ _⟩)))) (ac_node (ac_node (ac_leaf 29 (⟨vd_92_29 E, mn_ild _ _⟩)) (ac_leaf 30 (⟨vd_92_30 E, mn_ia _⟩))) (ac_node (ac_leaf 31 (⟨vd_92_31 E, mn_con _ _⟩)) (ac_leaf 32 (⟨vd_92_32 E, mn_eq _ _⟩))))) (ac_node (ac_node (ac_leaf 35 (⟨vd_92_35 E, mn_ald _ _⟩)) (ac_node (ac_leaf 36 (⟨vd_92_36 E, mn_ild _ _⟩)) (ac_leaf 37 (⟨vd_92_37 E, mn_ild _ _⟩)))) (ac_node (ac_node (ac_leaf 38 (ac_Vc0 ((vd_92_38 E).1) (fun _ => rfl))) (ac_leaf 41 (⟨vd_92_41 E, mn_inc _ _ _⟩))) (ac_node (ac_leaf 44 (⟨vd_92_44 E, mn_go _⟩)) (ac_leaf 47 (ac_Vr0 dd_92_47 rfl)))))))
theorem vd_93_0 (E : ac_E) : ac_ok E md_93 0 (o_con (.int 0) 1) := ok_iconst (E := E) (d := md_93) (pc := 0) dd_93_0 (by decide)
theorem vd_93_1 (E : ac_E) : ac_ok E md_93 1 (o_ist 2 2) := ok_istore_n (E := E) (d := md_93) (pc := 1) (j := 2) dd_93_1
theorem vd_93_2 (E : ac_E) : ac_ok E md_93 2 (o_ild 2 3) := ok_iload_n (E := E) (d := md_93) (pc := 2) (j := 2) dd_93_2
theorem vd_93_3 (E : ac_E) : ac_ok E md_93 3 (o_ald 0 4) := ok_aload_n (E := E) (d := md_93) (pc := 3) (j := 0) dd_93_3
theorem vd_93_4 (E : ac_E) : ac_ok E md_93 4 (o_get 5 1 7) := ok_getf (E := E) (d := md_93) (pc := 4) (ci := 5) (f := 1) (C := RX5) (T := TX5) (N := 17) (ref := RX5) rfl win_5 (by decide) rfl wm_639 dd_93_4
theorem vd_93_7 (E : ac_E) : ac_ok E md_93 7 (o_ald 0 8) := ok_aload_n (E := E) (d := md_93) (pc := 7) (j := 0) dd_93_7
theorem vd_93_8 (E : ac_E) : ac_ok E md_93 8 (o_get 5 2 11) := ok_getf (E := E) (d := md_93) (pc := 8) (ci := 5) (f := 2) (C := RX5) (T := TX5) (N := 17) (ref := RX5) rfl win_5 (by decide) rfl wm_640 dd_93_8
theorem vd_93_11 (E : ac_E) : ac_ok E md_93 11 (o_mul 12) := ok_imul (E := E) (d := md_93) (pc := 11) dd_93_11
theorem vd_93_12 (E : ac_E) : ac_ok E md_93 12 (o_ge 28 15) := ok_icmpge (E := E) (d := md_93) (pc := 12) dd_93_12 (by decide)
theorem vd_93_15 (E : ac_E) : ac_ok E md_93 15 (o_ald 0 16) := ok_aload_n (E := E) (d := md_93) (pc := 15) (j := 0) dd_93_15
theorem vd_93_16 (E : ac_E) : ac_ok E md_93 16 (o_get 5 8 19) := ok_getf (E := E) (d := md_93) (pc := 16) (ci := 5) (f := 8) (C := RX5) (T := TX5) (N := 17) (ref := RX5) rfl win_5 (by decide) rfl wm_646 dd_93_16
theorem vd_93_19 (E : ac_E) : ac_ok E md_93 19 (o_ild 2 20) := ok_iload_n (E := E) (d := md_93) (pc := 19) (j := 2) dd_93_19
theorem vd_93_20 (E : ac_E) : ac_ok E md_93 20 (o_con (.int 0) 21) := ok_iconst (E := E) (d := md_93) (pc := 20) dd_93_20 (by decide)
theorem vd_93_21 (E : ac_E) : ac_ok E md_93 21 (o_is 22) := ok_iastore (E := E) (d := md_93) (pc := 21) dd_93_21
theorem vd_93_22 (E : ac_E) : ac_ok E md_93 22 (o_inc 2 1 25) := ok_iinc (E := E) (d := md_93) (pc := 22) dd_93_22 (by decide)
theorem vd_93_25 (E : ac_E) : ac_ok E md_93 25 (o_go 2) := ok_goto (E := E) (d := md_93) (pc := 25) dd_93_25 (by decide)
theorem vd_93_28 (E : ac_E) : ac_ok E md_93 28 (o_con (.int 0) 29) := ok_iconst (E := E) (d := md_93) (pc := 28) dd_93_28 (by decide)
theorem vd_93_29 (E : ac_E) : ac_ok E md_93 29 (o_ist 2 30) := ok_istore_n (E := E) (d := md_93) (pc := 29) (j := 2) dd_93_29
theorem vd_93_30 (E : ac_E) : ac_ok E md_93 30 (o_ild 2 31) := ok_iload_n (E := E) (d := md_93) (pc := 30) (j := 2) dd_93_30
theorem vd_93_31 (E : ac_E) : ac_ok E md_93 31 (o_ald 0 32) := ok_aload_n (E := E) (d := md_93) (pc := 31) (j := 0) dd_93_31
theorem vd_93_32 (E : ac_E) : ac_ok E md_93 32 (o_get 5 1 35) := ok_getf (E := E) (d := md_93) (pc := 32) (ci := 5) (f := 1) (C := RX5) (T := TX5) (N := 17) (ref := RX5) rfl win_5 (by decide) rfl wm_639 dd_93_32
theorem vd_93_35 (E : ac_E) : ac_ok E md_93 35 (o_ald 0 36) := ok_aload_n (E := E) (d := md_93) (pc := 35) (j := 0) dd_93_35
theorem vd_93_36 (E : ac_E) : ac_ok E md_93 36 (o_get 5 2 39) := ok_getf (E := E) (d := md_93) (pc := 36) (ci := 5) (f := 2) (C := RX5) (T := TX5) (N := 17) (ref := RX5) rfl win_5 (by decide) rfl wm_640 dd_93_36
theorem vd_93_39 (E : ac_E) : ac_ok E md_93 39 (o_mul 40) := ok_imul (E := E) (d := md_93) (pc := 39) dd_93_39
theorem vd_93_40 (E : ac_E) : ac_ok E md_93 40 (o_ge 140 43) := ok_icmpge (E := E) (d := md_93) (pc := 40) dd_93_40 (by decide)
theorem vd_93_43 (E : ac_E) : ac_ok E md_93 43 (o_con (.int 0) 44) := ok_iconst (E := E) (d := md_93) (pc := 43) dd_93_43 (by decide)
theorem vd_93_44 (E : ac_E) : ac_ok E md_93 44 (o_ist 3 45) := ok_istore_n (E := E) (d := md_93) (pc := 44) (j := 3) dd_93_44
theorem vd_93_45 (E : ac_E) : ac_ok E md_93 45 (o_ild 3 46) := ok_iload_n (E := E) (d := md_93) (pc := 45) (j := 3) dd_93_45
theorem vd_93_46 (E : ac_E) : ac_ok E md_93 46 (o_con (.int 7) 48) := ok_bipush (E := E) (d := md_93) (pc := 46) dd_93_46 (by decide)
theorem vd_93_48 (E : ac_E) : ac_ok E md_93 48 (o_ge 134 51) := ok_icmpge (E := E) (d := md_93) (pc := 48) dd_93_48 (by decide)
theorem vd_93_51 (E : ac_E) : ac_ok E md_93 51 (o_ald 0 52) := ok_aload_n (E := E) (d := md_93) (pc := 51) (j := 0) dd_93_51
theorem vd_93_52 (E : ac_E) : ac_ok E md_93 52 (o_ild 2 53) := ok_iload_n (E := E) (d := md_93) (pc := 52) (j := 2) dd_93_52
theorem vd_93_53 (E : ac_E) : ac_ok E md_93 53 (o_ild 3 54) := ok_iload_n (E := E) (d := md_93) (pc := 53) (j := 3) dd_93_53
theorem vd_93_54 (E : ac_E) : ac_okr E md_93 md_89 54 3 57 7 ∧ ac_okt E md_93 md_89 54 3 7 := ok_callV (E := E) (d := md_93) (dz := md_89) (pc := 54) (T := TX5) (N := 17) rfl rfl (by decide) (by decide +kernel) wm_792 wm_56 wm_789 wm_791 wm_38 dd_93_54
theorem vd_93_57 (E : ac_E) : ac_ok E md_93 57 (o_ist 4 59) := ok_istore (E := E) (d := md_93) (pc := 57) dd_93_57
theorem vd_93_59 (E : ac_E) : ac_ok E md_93 59 (o_ild 1 60) := ok_iload_n (E := E) (d := md_93) (pc := 59) (j := 1) dd_93_59
theorem vd_93_60 (E : ac_E) : ac_ok E md_93 60 (o_eq0 93 63) := ok_ifeq (E := E) (d := md_93) (pc := 60) dd_93_60 (by decide)
theorem vd_93_63 (E : ac_E) : ac_ok E md_93 63 (o_ald 0 64) := ok_aload_n (E := E) (d := md_93) (pc := 63) (j := 0) dd_93_63
theorem vd_93_64 (E : ac_E) : ac_ok E md_93 64 (o_get 5 5 67) := ok_getf (E := E) (d := md_93) (pc := 64) (ci := 5) (f := 5) (C := RX5) (T := TX5) (N := 17) (ref := RX5) rfl win_5 (by decide) rfl wm_643 dd_93_64
theorem vd_93_67 (E : ac_E) : ac_ok E md_93 67 (o_ild 4 69) := ok_iload (E := E) (d := md_93) (pc := 67) dd_93_67
theorem vd_93_69 (E : ac_E) : ac_ok E md_93 69 (o_ia 70) := ok_iaload (E := E) (d := md_93) (pc := 69) dd_93_69
theorem vd_93_70 (E : ac_E) : ac_ok E md_93 70 (o_ild 3 71) := ok_iload_n (E := E) (d := md_93) (pc := 70) (j := 3) dd_93_70
theorem vd_93_71 (E : ac_E) : ac_okr E md_93 md_70 71 2 74 0 ∧ ac_okt E md_93 md_70 71 2 0 := ok_callS (E := E) (d := md_93) (dz := md_70) (pc := 71) rfl (by decide) (by decide +kernel) wm_707 wm_56 wm_705 wm_706 dd_93_71
theorem vd_93_74 (E : ac_E) : ac_ok E md_93 74 (o_eq0 93 77) := ok_ifeq (E := E) (d := md_93) (pc := 74) dd_93_74 (by decide)
theorem vd_93_77 (E : ac_E) : ac_ok E md_93 77 (o_ald 0 78) := ok_aload_n (E := E) (d := md_93) (pc := 77) (j := 0) dd_93_77
theorem vd_93_78 (E : ac_E) : ac_ok E md_93 78 (o_get 5 8 81) := ok_getf (E := E) (d := md_93) (pc := 78) (ci := 5) (f := 8) (C := RX5) (T := TX5) (N := 17) (ref := RX5) rfl win_5 (by decide) rfl wm_646 dd_93_78
theorem vd_93_81 (E : ac_E) : ac_ok E md_93 81 (o_ild 2 82) := ok_iload_n (E := E) (d := md_93) (pc := 81) (j := 2) dd_93_81
theorem vd_93_82 (E : ac_E) : ac_ok E md_93 82 (o_ald 0 83) := ok_aload_n (E := E) (d := md_93) (pc := 82) (j := 0) dd_93_82
theorem vd_93_83 (E : ac_E) : ac_ok E md_93 83 (o_get 5 8 86) := ok_getf (E := E) (d := md_93) (pc := 83) (ci := 5) (f := 8) (C := RX5) (T := TX5) (N := 17) (ref := RX5) rfl win_5 (by decide) rfl wm_646 dd_93_83
theorem vd_93_86 (E : ac_E) : ac_ok E md_93 86 (o_ild 2 87) := ok_iload_n (E := E) (d := md_93) (pc := 86) (j := 2) dd_93_86
theorem vd_93_87 (E : ac_E) : ac_ok E md_93 87 (o_ia 88) := ok_iaload (E := E) (d := md_93) (pc := 87) dd_93_87
theorem vd_93_88 (E : ac_E) : ac_ok E md_93 88 (o_con (.int 1) 89) := ok_iconst (E := E) (d := md_93) (pc := 88) dd_93_88 (by decide)
theorem vd_93_89 (E : ac_E) : ac_ok E md_93 89 (o_ild 3 90) := ok_iload_n (E := E) (d := md_93) (pc := 89) (j := 3) dd_93_89
theorem vd_93_90 (E : ac_E) : ac_ok E md_93 90 (o_shl 91) := ok_ishl (E := E) (d := md_93) (pc := 90) dd_93_90
theorem vd_93_91 (E : ac_E) : ac_ok E md_93 91 (o_or 92) := ok_ior (E := E) (d := md_93) (pc := 91) dd_93_91
theorem vd_93_92 (E : ac_E) : ac_ok E md_93 92 (o_is 93) := ok_iastore (E := E) (d := md_93) (pc := 92) dd_93_92
theorem vd_93_93 (E : ac_E) : ac_ok E md_93 93 (o_ild 1 94) := ok_iload_n (E := E) (d := md_93) (pc := 93) (j := 1) dd_93_93
theorem vd_93_94 (E : ac_E) : ac_ok E md_93 94 (o_ne0 128 97) := ok_ifne (E := E) (d := md_93) (pc := 94) dd_93_94 (by decide)
theorem vd_93_97 (E : ac_E) : ac_ok E md_93 97 (o_ald 0 98) := ok_aload_n (E := E) (d := md_93) (pc := 97) (j := 0) dd_93_97
theorem vd_93_98 (E : ac_E) : ac_ok E md_93 98 (o_get 5 5 101) := ok_getf (E := E) (d := md_93) (pc := 98) (ci := 5) (f := 5) (C := RX5) (T := TX5) (N := 17) (ref := RX5) rfl win_5 (by decide) rfl wm_643 dd_93_98
theorem vd_93_101 (E : ac_E) : ac_ok E md_93 101 (o_ild 2 102) := ok_iload_n (E := E) (d := md_93) (pc := 101) (j := 2) dd_93_101
theorem vd_93_102 (E : ac_E) : ac_ok E md_93 102 (o_ia 103) := ok_iaload (E := E) (d := md_93) (pc := 102) dd_93_102
theorem vd_93_103 (E : ac_E) : ac_ok E md_93 103 (o_ild 3 104) := ok_iload_n (E := E) (d := md_93) (pc := 103) (j := 3) dd_93_103
theorem vd_93_104 (E : ac_E) : ac_okr E md_93 md_70 104 2 107 0 ∧ ac_okt E md_93 md_70 104 2 0 := ok_callS (E := E) (d := md_93) (dz := md_70) (pc := 104) rfl (by decide) (by decide +kernel) wm_707 wm_56 wm_705 wm_706 dd_93_104
theorem vd_93_107 (E : ac_E) : ac_ok E md_93 107 (o_eq0 128 110) := ok_ifeq (E := E) (d := md_93) (pc := 107) dd_93_107 (by decide)
theorem vd_93_110 (E : ac_E) : ac_ok E md_93 110 (o_ald 0 111) := ok_aload_n (E := E) (d := md_93) (pc := 110) (j := 0) dd_93_110
theorem vd_93_111 (E : ac_E) : ac_ok E md_93 111 (o_get 5 8 114) := ok_getf (E := E) (d := md_93) (pc := 111) (ci := 5) (f := 8) (C := RX5) (T := TX5) (N := 17) (ref := RX5) rfl win_5 (by decide) rfl wm_646 dd_93_111
theorem vd_93_114 (E : ac_E) : ac_ok E md_93 114 (o_ild 4 116) := ok_iload (E := E) (d := md_93) (pc := 114) dd_93_114
theorem vd_93_116 (E : ac_E) : ac_ok E md_93 116 (o_ald 0 117) := ok_aload_n (E := E) (d := md_93) (pc := 116) (j := 0) dd_93_116
theorem vd_93_117 (E : ac_E) : ac_ok E md_93 117 (o_get 5 8 120) := ok_getf (E := E) (d := md_93) (pc := 117) (ci := 5) (f := 8) (C := RX5) (T := TX5) (N := 17) (ref := RX5) rfl win_5 (by decide) rfl wm_646 dd_93_117
theorem vd_93_120 (E : ac_E) : ac_ok E md_93 120 (o_ild 4 122) := ok_iload (E := E) (d := md_93) (pc := 120) dd_93_120
theorem vd_93_122 (E : ac_E) : ac_ok E md_93 122 (o_ia 123) := ok_iaload (E := E) (d := md_93) (pc := 122) dd_93_122
theorem vd_93_123 (E : ac_E) : ac_ok E md_93 123 (o_con (.int 1) 124) := ok_iconst (E := E) (d := md_93) (pc := 123) dd_93_123 (by decide)
theorem vd_93_124 (E : ac_E) : ac_ok E md_93 124 (o_ild 3 125) := ok_iload_n (E := E) (d := md_93) (pc := 124) (j := 3) dd_93_124
theorem vd_93_125 (E : ac_E) : ac_ok E md_93 125 (o_shl 126) := ok_ishl (E := E) (d := md_93) (pc := 125) dd_93_125
theorem vd_93_126 (E : ac_E) : ac_ok E md_93 126 (o_or 127) := ok_ior (E := E) (d := md_93) (pc := 126) dd_93_126
theorem vd_93_127 (E : ac_E) : ac_ok E md_93 127 (o_is 128) := ok_iastore (E := E) (d := md_93) (pc := 127) dd_93_127
theorem vd_93_128 (E : ac_E) : ac_ok E md_93 128 (o_inc 3 1 131) := ok_iinc (E := E) (d := md_93) (pc := 128) dd_93_128 (by decide)
theorem vd_93_131 (E : ac_E) : ac_ok E md_93 131 (o_go 45) := ok_goto (E := E) (d := md_93) (pc := 131) dd_93_131 (by decide)
theorem vd_93_134 (E : ac_E) : ac_ok E md_93 134 (o_inc 2 1 137) := ok_iinc (E := E) (d := md_93) (pc := 134) dd_93_134 (by decide)
theorem vd_93_137 (E : ac_E) : ac_ok E md_93 137 (o_go 30) := ok_goto (E := E) (d := md_93) (pc := 137) dd_93_137 (by decide)
theorem vd_93_140 (E : ac_E) : ac_ok E md_93 140 (o_con (.int 0) 141) := ok_iconst (E := E) (d := md_93) (pc := 140) dd_93_140 (by decide)
theorem vd_93_141 (E : ac_E) : ac_ok E md_93 141 (o_ist 2 142) := ok_istore_n (E := E) (d := md_93) (pc := 141) (j := 2) dd_93_141
theorem vd_93_142 (E : ac_E) : ac_ok E md_93 142 (o_ild 2 143) := ok_iload_n (E := E) (d := md_93) (pc := 142) (j := 2) dd_93_142
theorem vd_93_143 (E : ac_E) : ac_ok E md_93 143 (o_ald 0 144) := ok_aload_n (E := E) (d := md_93) (pc := 143) (j := 0) dd_93_143
theorem vd_93_144 (E : ac_E) : ac_ok E md_93 144 (o_get 5 1 147) := ok_getf (E := E) (d := md_93) (pc := 144) (ci := 5) (f := 1) (C := RX5) (T := TX5) (N := 17) (ref := RX5) rfl win_5 (by decide) rfl wm_639 dd_93_144
theorem vd_93_147 (E : ac_E) : ac_ok E md_93 147 (o_ald 0 148) := ok_aload_n (E := E) (d := md_93) (pc := 147) (j := 0) dd_93_147
theorem vd_93_148 (E : ac_E) : ac_ok E md_93 148 (o_get 5 2 151) := ok_getf (E := E) (d := md_93) (pc := 148) (ci := 5) (f := 2) (C := RX5) (T := TX5) (N := 17) (ref := RX5) rfl win_5 (by decide) rfl wm_640 dd_93_148
theorem vd_93_151 (E : ac_E) : ac_ok E md_93 151 (o_mul 152) := ok_imul (E := E) (d := md_93) (pc := 151) dd_93_151
theorem vd_93_152 (E : ac_E) : ac_ok E md_93 152 (o_ge 173 155) := ok_icmpge (E := E) (d := md_93) (pc := 152) dd_93_152 (by decide)
theorem vd_93_155 (E : ac_E) : ac_ok E md_93 155 (o_ald 0 156) := ok_aload_n (E := E) (d := md_93) (pc := 155) (j := 0) dd_93_155
theorem vd_93_156 (E : ac_E) : ac_ok E md_93 156 (o_get 5 5 159) := ok_getf (E := E) (d := md_93) (pc := 156) (ci := 5) (f := 5) (C := RX5) (T := TX5) (N := 17) (ref := RX5) rfl win_5 (by decide) rfl wm_643 dd_93_156
theorem vd_93_159 (E : ac_E) : ac_ok E md_93 159 (o_ild 2 160) := ok_iload_n (E := E) (d := md_93) (pc := 159) (j := 2) dd_93_159
theorem vd_93_160 (E : ac_E) : ac_ok E md_93 160 (o_ald 0 161) := ok_aload_n (E := E) (d := md_93) (pc := 160) (j := 0) dd_93_160
theorem vd_93_161 (E : ac_E) : ac_ok E md_93 161 (o_get 5 8 164) := ok_getf (E := E) (d := md_93) (pc := 161) (ci := 5) (f := 8) (C := RX5) (T := TX5) (N := 17) (ref := RX5) rfl win_5 (by decide) rfl wm_646 dd_93_161
theorem vd_93_164 (E : ac_E) : ac_ok E md_93 164 (o_ild 2 165) := ok_iload_n (E := E) (d := md_93) (pc := 164) (j := 2) dd_93_164
theorem vd_93_165 (E : ac_E) : ac_ok E md_93 165 (o_ia 166) := ok_iaload (E := E) (d := md_93) (pc := 165) dd_93_165
theorem vd_93_166 (E : ac_E) : ac_ok E md_93 166 (o_is 167) := ok_iastore (E := E) (d := md_93) (pc := 166) dd_93_166
theorem vd_93_167 (E : ac_E) : ac_ok E md_93 167 (o_inc 2 1 170) := ok_iinc (E := E) (d := md_93) (pc := 167) dd_93_167 (by decide)
theorem vd_93_170 (E : ac_E) : ac_ok E md_93 170 (o_go 142) := ok_goto (E := E) (d := md_93) (pc := 170) dd_93_170 (by decide)
theorem vd_93_173 (E : ac_E) : ac_ok E md_93 173 (o_con (.int 0) 174) := ok_iconst (E := E) (d := md_93) (pc := 173) dd_93_173 (by decide)
theorem vd_93_174 (E : ac_E) : ac_ok E md_93 174 (o_ist 2 175) := ok_istore_n (E := E) (d := md_93) (pc := 174) (j := 2) dd_93_174
theorem vd_93_175 (E : ac_E) : ac_ok E md_93 175 (o_ild 2 176) := ok_iload_n (E := E) (d := md_93) (pc := 175) (j := 2) dd_93_175
theorem vd_93_176 (E : ac_E) : ac_ok E md_93 176 (o_ald 0 177) := ok_aload_n (E := E) (d := md_93) (pc := 176) (j := 0) dd_93_176
theorem vd_93_177 (E : ac_E) : ac_ok E md_93 177 (o_get 5 14 180) := ok_getf (E := E) (d := md_93) (pc := 177) (ci := 5) (f := 14) (C := RX5) (T := TX5) (N := 17) (ref := RX5) rfl win_5 (by decide) rfl wm_652 dd_93_177
theorem vd_93_180 (E : ac_E) : ac_ok E md_93 180 (o_ge 241 183) := ok_icmpge (E := E) (d := md_93) (pc := 180) dd_93_180 (by decide)
theorem vd_93_183 (E : ac_E) : ac_ok E md_93 183 (o_ald 0 184) := ok_aload_n (E := E) (d := md_93) (pc := 183) (j := 0) dd_93_183
theorem vd_93_184 (E : ac_E) : ac_ok E md_93 184 (o_get 5 16 187) := ok_getf (E := E) (d := md_93) (pc := 184) (ci := 5) (f := 16) (C := RX5) (T := TX5) (N := 17) (ref := RX5) rfl win_5 (by decide) rfl wm_654 dd_93_184
theorem vd_93_187 (E : ac_E) : ac_ok E md_93 187 (o_ild 2 188) := ok_iload_n (E := E) (d := md_93) (pc := 187) (j := 2) dd_93_187
theorem vd_93_188 (E : ac_E) : ac_ok E md_93 188 (o_ia 189) := ok_iaload (E := E) (d := md_93) (pc := 188) dd_93_188
theorem vd_93_189 (E : ac_E) : ac_ok E md_93 189 (o_ist 3 190) := ok_istore_n (E := E) (d := md_93) (pc := 189) (j := 3) dd_93_189
theorem vd_93_190 (E : ac_E) : ac_ok E md_93 190 (o_ald 0 191) := ok_aload_n (E := E) (d := md_93) (pc := 190) (j := 0) dd_93_190
theorem vd_93_191 (E : ac_E) : ac_ok E md_93 191 (o_get 5 15 194) := ok_getf (E := E) (d := md_93) (pc := 191) (ci := 5) (f := 15) (C := RX5) (T := TX5) (N := 17) (ref := RX5) rfl win_5 (by decide) rfl wm_653 dd_93_191
theorem vd_93_194 (E : ac_E) : ac_ok E md_93 194 (o_ild 2 195) := ok_iload_n (E := E) (d := md_93) (pc := 194) (j := 2) dd_93_194
theorem vd_93_195 (E : ac_E) : ac_ok E md_93 195 (o_ia 196) := ok_iaload (E := E) (d := md_93) (pc := 195) dd_93_195
theorem vd_93_196 (E : ac_E) : ac_ok E md_93 196 (o_lt0 235 199) := ok_iflt (E := E) (d := md_93) (pc := 196) dd_93_196 (by decide)
theorem vd_93_199 (E : ac_E) : ac_ok E md_93 199 (o_ald 0 200) := ok_aload_n (E := E) (d := md_93) (pc := 199) (j := 0) dd_93_199
theorem vd_93_200 (E : ac_E) : ac_ok E md_93 200 (o_get 5 15 203) := ok_getf (E := E) (d := md_93) (pc := 200) (ci := 5) (f := 15) (C := RX5) (T := TX5) (N := 17) (ref := RX5) rfl win_5 (by decide) rfl wm_653 dd_93_200
theorem vd_93_203 (E : ac_E) : ac_ok E md_93 203 (o_ild 2 204) := ok_iload_n (E := E) (d := md_93) (pc := 203) (j := 2) dd_93_203
theorem vd_93_204 (E : ac_E) : ac_ok E md_93 204 (o_ald 0 205) := ok_aload_n (E := E) (d := md_93) (pc := 204) (j := 0) dd_93_204
theorem vd_93_205 (E : ac_E) : ac_ok E md_93 205 (o_ald 0 206) := ok_aload_n (E := E) (d := md_93) (pc := 205) (j := 0) dd_93_205
theorem vd_93_206 (E : ac_E) : ac_ok E md_93 206 (o_get 5 15 209) := ok_getf (E := E) (d := md_93) (pc := 206) (ci := 5) (f := 15) (C := RX5) (T := TX5) (N := 17) (ref := RX5) rfl win_5 (by decide) rfl wm_653 dd_93_206
theorem vd_93_209 (E : ac_E) : ac_ok E md_93 209 (o_ild 2 210) := ok_iload_n (E := E) (d := md_93) (pc := 209) (j := 2) dd_93_209
theorem vd_93_210 (E : ac_E) : ac_ok E md_93 210 (o_ia 211) := ok_iaload (E := E) (d := md_93) (pc := 210) dd_93_210
theorem vd_93_211 (E : ac_E) : ac_ok E md_93 211 (o_ild 1 212) := ok_iload_n (E := E) (d := md_93) (pc := 211) (j := 1) dd_93_211
theorem vd_93_212 (E : ac_E) : ac_ok E md_93 212 (o_eq0 230 215) := ok_ifeq (E := E) (d := md_93) (pc := 212) dd_93_212 (by decide)
theorem vd_93_215 (E : ac_E) : ac_ok E md_93 215 (o_ild 3 216) := ok_iload_n (E := E) (d := md_93) (pc := 215) (j := 3) dd_93_215
theorem vd_93_216 (E : ac_E) : ac_ok E md_93 216 (o_con (.int 6) 218) := ok_bipush (E := E) (d := md_93) (pc := 216) dd_93_216 (by decide)
theorem vd_93_218 (E : ac_E) : ac_ok E md_93 218 (o_ge 230 221) := ok_icmpge (E := E) (d := md_93) (pc := 218) dd_93_218 (by decide)
theorem vd_93_221 (E : ac_E) : ac_ok E md_93 221 (o_ild 3 222) := ok_iload_n (E := E) (d := md_93) (pc := 221) (j := 3) dd_93_221
theorem vd_93_222 (E : ac_E) : ac_ok E md_93 222 (o_con (.int 3) 223) := ok_iconst (E := E) (d := md_93) (pc := 222) dd_93_222 (by decide)
theorem vd_93_223 (E : ac_E) : ac_ok E md_93 223 (o_add 224) := ok_iadd (E := E) (d := md_93) (pc := 223) dd_93_223
theorem vd_93_224 (E : ac_E) : ac_ok E md_93 224 (o_con (.int 6) 226) := ok_bipush (E := E) (d := md_93) (pc := 224) dd_93_224 (by decide)
theorem vd_93_226 (E : ac_E) : ac_ok E md_93 226 (o_rem 227) := ok_irem (E := E) (d := md_93) (pc := 226) dd_93_226
theorem vd_93_227 (E : ac_E) : ac_ok E md_93 227 (o_go 231) := ok_goto (E := E) (d := md_93) (pc := 227) dd_93_227 (by decide)
theorem vd_93_230 (E : ac_E) : ac_ok E md_93 230 (o_ild 3 231) := ok_iload_n (E := E) (d := md_93) (pc := 230) (j := 3) dd_93_230
theorem vd_93_231 (E : ac_E) : ac_okr E md_93 md_89 231 3 234 7 ∧ ac_okt E md_93 md_89 231 3 7 := ok_callV (E := E) (d := md_93) (dz := md_89) (pc := 231) (T := TX5) (N := 17) rfl rfl (by decide) (by decide +kernel) wm_792 wm_56 wm_789 wm_791 wm_38 dd_93_231
theorem vd_93_234 (E : ac_E) : ac_ok E md_93 234 (o_is 235) := ok_iastore (E := E) (d := md_93) (pc := 234) dd_93_234
theorem vd_93_235 (E : ac_E) : ac_ok E md_93 235 (o_inc 2 1 238) := ok_iinc (E := E) (d := md_93) (pc := 235) dd_93_235 (by decide)
theorem vd_93_238 (E : ac_E) : ac_ok E md_93 238 (o_go 175) := ok_goto (E := E) (d := md_93) (pc := 238) dd_93_238 (by decide)
theorem va_93 (E : ac_E) (pc : Nat) : ac_V E ac_MDf ac_HDf 93 pc (tb_93 (ac_len E) (ac_xs E) pc) := (ac_node (ac_node (ac_node (ac_node (ac_node (ac_node (ac_node (ac_leaf 0 (⟨vd_93_0 E, mn_con _ _⟩)) (ac_leaf 1 (⟨vd_93_1 E, mn_ist _ _⟩))) (ac_node (ac_leaf 2 (⟨vd_93_2 E, mn_ild _ _⟩)) (ac_leaf 3 (⟨vd_93_3 E, mn_ald _ _⟩)))) (ac_node (ac_node (ac_leaf 4 (⟨vd_93_4 E, mn_get _ _ _⟩)) (ac_leaf 7 (⟨vd_93_7 E, mn_ald _ _⟩))) (ac_node (ac_leaf 8 (⟨vd_93_8 E, mn_get _ _ _⟩)) (ac_leaf 11 (⟨vd_93_11 E, mn_mul _⟩))))) (ac_node (ac_node (ac_node (ac_leaf 12 (⟨vd_93_12 E, mn_ge _ _⟩)) (ac_leaf 15 (⟨vd_93_15 E, mn_ald _ _⟩))) (ac_node (ac_leaf 16 (⟨vd_93_16 E, mn_get _ _ _⟩)) (ac_leaf 19 (⟨vd_93_19 E, mn_ild _ _⟩)))) (ac_node (ac_node (ac_leaf 20 (⟨vd_93_20 E, mn_con _ _⟩)) (ac_leaf 21 (⟨vd_93_21 E, mn_is _⟩))) (ac_node (ac_leaf 22 (⟨vd_93_22 E, mn_inc _ _ _⟩)) (ac_node (ac_leaf 25 (⟨vd_93_25 E, mn_go _⟩)) (ac_leaf 28 (⟨vd_93_28 E, mn_con _ _⟩))))))) (ac_node (ac_node (ac_node (ac_node (ac_leaf 29 (⟨vd_93_29 E, mn_ist _ _⟩)) (ac_leaf 30 (⟨vd_93_30 E, mn_ild _ _⟩))) (ac_node (ac_leaf 31 (⟨vd_93_31 E, mn_ald _ _⟩)) (ac_leaf 32 (⟨vd_93_32 E, mn_get _ _ _⟩)))) (ac_node (ac_node (ac_leaf 35 (⟨vd_93_35 E, mn_ald _ _⟩)) (ac_leaf 36 (⟨vd_93_36 E, mn_get _ _ _⟩))) (ac_node (ac_leaf 39 (⟨vd_93_39 E, mn_mul _⟩)) (ac_node (ac_leaf 40 (⟨vd_93_40 E, mn_ge _ _⟩)) (ac_leaf 43 (⟨vd_93_43 E, mn_con _ _⟩)))))) (ac_node (ac_node (ac_node (ac_leaf 44 (⟨vd_93_44 E, mn_ist _ _⟩)) (ac_leaf 45 (⟨vd_93_45 E, mn_ild _ _⟩))) (ac_node (ac_leaf 46 (⟨vd_93_46 E, mn_con _ _⟩)) (ac_leaf 48 (⟨vd_93_48 E, mn_ge _ _⟩)))) (ac_node (ac_node (ac_leaf 51 (⟨vd_93_51 E, mn_ald _ _⟩)) (ac_leaf 52 (⟨vd_93_52 E, mn_ild _ _⟩))) (ac_node (ac_leaf 53 (⟨vd_93_53 E, mn_ild _ _⟩)) (ac_node (ac_leaf 54 (ac_Vc0 ((vd_93_54 E).1) (fun _ => rfl))) (ac_leaf 57 (⟨vd_93_57 E, mn_ist _ _⟩)))))))) (ac_node (ac_node (ac_node (ac_node (ac_node (ac_leaf 59 (⟨vd_93_59 E, mn_ild _ _⟩)) (ac_leaf 60 (⟨vd_93_60 E, mn_eq0 _ _⟩))) (ac_node (ac_leaf 63 (⟨vd_93_63 E, mn_ald _ _⟩)) (ac_leaf 64 (⟨vd_93_64 E, mn_get _ _ _⟩)))) (ac_node (ac_node (ac_leaf 67 (⟨vd_93_67 E, mn_ild _ _⟩)) (ac_leaf 69 (⟨vd_93_69 E, mn_ia _⟩))) (ac_node (ac_leaf 70 (⟨vd_93_70 E, mn_ild _ _⟩)) (ac_leaf 71 (ac_Vc0 ((vd_93_71 E).1) (fun _ => rfl)))))) (ac_node (ac_node (ac_node (ac_leaf 74 (⟨vd_93_74 E, mn_eq0 _ _⟩)) (ac_leaf 77 (⟨vd_93_77 E, mn_ald _ _⟩))) (ac_node (ac_leaf 78 (⟨vd_93_78 E, mn_get _ _ _⟩)) (ac_leaf 81 (⟨vd_93_81 E, mn_ild _ _⟩)))) (ac_node (ac_node (ac_leaf 82 (⟨vd_93_82 E, mn_ald _ _⟩)) (ac_leaf 83 (⟨vd_93_83 E, mn_get _ _ _⟩))) (ac_node (ac_leaf 86 (⟨vd_93_86 E, mn_ild _ _⟩)) (ac_node (ac_leaf 87 (⟨vd_93_87 E, mn_ia _⟩)) (ac_leaf 88 (⟨vd_93_88 E, mn_con _ _⟩))))))) (ac_node (ac_node (ac_node (ac_node (ac_leaf 89 (⟨vd_93_89 E, mn_ild _ _⟩)) (ac_leaf 90 (⟨vd_93_90 E, mn_shl _⟩))) (ac_node (ac_leaf 91 (⟨vd_93_91 E, mn_or _⟩)) (ac_leaf 92 (⟨vd_93_92 E, mn_is _⟩)))) (ac_node (ac_node (ac_leaf 93 (⟨vd_93_93 E, mn_ild _ _⟩)) (ac_leaf 94 (⟨vd_93_94 E, mn_ne0 _ _⟩))) (ac_node (ac_leaf 97 (⟨vd_93_97 E, mn_ald _ _⟩)) (ac_node (ac_leaf 98 (⟨vd_93_98 E, mn_get _ _ _⟩)) (ac_leaf 101 (⟨vd_93_101 E, mn_ild _ _⟩)))))) (ac_node (ac_node (ac_node (ac_leaf 102 (⟨vd_93_102 E, mn_ia _⟩)) (ac_leaf 103 (⟨vd_93_103 E, mn_ild _ _⟩))) (ac_node (ac_leaf 104 (ac_Vc0 ((vd_93_104 E).1) (fun _ => rfl))) (ac_leaf 107 (⟨vd_93_107 E, mn_eq0 _ _⟩)))) (ac_node (ac_node (ac_leaf 110 (⟨vd_93_110 E, mn_ald _ _⟩)) (ac_leaf 111 (⟨vd_93_111 E, mn_get _ _ _⟩))) (ac_node (ac_leaf 114 (⟨vd_93_114 E, mn_ild _ _⟩)) (ac_node (ac_leaf 116 (⟨vd_93_116 E, mn_ald _ _⟩)) (ac_leaf 117 (⟨vd_93_117 E, mn_get _ _ _⟩))))))))) (ac_node (ac_node (ac_node (ac_node (ac_node (ac_node (ac_leaf 120 (⟨vd_93_120 E, mn_ild _ _⟩)) (ac_leaf 122 (⟨vd_93_122 E, mn_ia _⟩))) (ac_node (ac_leaf 123 (⟨vd_93_123 E, mn_con _ _⟩)) (ac_leaf 124 (⟨vd_93_124 E, mn_ild _ _⟩)))) (ac_node (ac_node (ac_leaf 125 (⟨vd_93_125 E, mn_shl _⟩)) (ac_leaf 126 (⟨vd_93_126 E, mn_or _⟩))) (ac_node (ac_leaf 127 (⟨vd_93_127 E, mn_is _⟩)) (ac_leaf 128 (⟨vd_93_128 E, mn_inc _ _ _⟩))))) (ac_node (ac_node (ac_node (ac_leaf 131 (⟨vd_93_131 E, mn_go _⟩)) (ac_leaf 134 (⟨vd_93_134 E, mn_inc _ _ _⟩))) (ac_node (ac_leaf 137 (⟨vd_93_137 E, mn_go _⟩)) (ac_leaf 140 (⟨vd_93_140 E, mn_con _ _⟩)))) (ac_node (ac_node (ac_leaf 141 (⟨vd_93_141 E, mn_ist _ _⟩)) (ac_leaf 142 (⟨vd_93_142 E, mn_ild _ _⟩))) (ac_node (ac_leaf 143 (⟨vd_93_143 E, mn_ald _ _⟩)) (ac_node (ac_leaf 144 (⟨vd_93_144 E, mn_get _ _ _⟩)) (ac_leaf 147 (⟨vd_93_147 E, mn_ald _ _⟩))))))) (ac_node (ac_node (ac_node (ac_node (ac_leaf 148 (⟨vd_93_148 E, mn_get _ _ _⟩)) (ac_leaf 151 (⟨vd_93_151 E, mn_mul _⟩))) (ac_node (ac_leaf 152 (⟨vd_93_152 E, mn_ge _ _⟩)) (ac_leaf 155 (⟨vd_93_155 E, mn_ald _ _⟩)))) (ac_node (ac_node (ac_leaf 156 (⟨vd_93_156 E, mn_get _ _ _⟩)) (ac_leaf 159 (⟨vd_93_159 E, mn_ild _ _⟩))) (ac_node (ac_leaf 160 (⟨vd_93_160 E, mn_ald _ _⟩)) (ac_node (ac_leaf 161 (⟨vd_93_161 E, mn_get _ _ _⟩)) (ac_leaf 164 (⟨vd_93_164 E, mn_ild _ _⟩)))))) (ac_node (ac_node (ac_node (ac_leaf 165 (⟨vd_93_165 E, mn_ia _⟩)) (ac_leaf 166 (⟨vd_93_166 E, mn_is _⟩))) (ac_node (ac_leaf 167 (⟨vd_93_167 E, mn_inc _ _ _⟩)) (ac_leaf 170 (⟨vd_93_170 E, mn_go _⟩)))) (ac_node (ac_node (ac_leaf 173 (⟨vd_93_173 E, mn_con _ _⟩)) (ac_leaf 174 (⟨vd_93_174 E, mn_ist _ _⟩))) (ac_node (ac_leaf 175 (⟨vd_93_175 E, mn_ild _ _⟩)) (ac_node (ac_leaf 176 (⟨vd_93_176 E, mn_ald _ _⟩)) (ac_leaf 177 (⟨vd_93_177 E, mn_get _ _ _⟩)))))))) (ac_node (ac_node (ac_node (ac_node (ac_node (ac_leaf 180 (⟨vd_93_180 E, mn_ge _ _⟩)) (ac_leaf 183 (⟨vd_93_183 E, mn_ald _ _⟩))) (ac_node (ac_leaf 184 (⟨vd_93_184 E, mn_get _ _ _⟩)) (ac_leaf 187 (⟨vd_93_187 E, mn_ild _ _⟩)))) (ac_node (ac_node (ac_leaf 188 (⟨vd_93_188 E, mn_ia _⟩)) (ac_leaf 189 (⟨vd_93_189 E, mn_ist _ _⟩))) (ac_node (ac_leaf 190 (⟨vd_93_190 E, mn_ald _ _⟩)) (ac_node (ac_leaf 191 (⟨vd_93_191 E, mn_get _ _ _⟩)) (ac_leaf 194 (⟨vd_93_194 E, mn_ild _ _⟩)))))) (ac_node (ac_node (ac_node (ac_leaf 195 (⟨vd_93_195 E, mn_ia _⟩)) (ac_leaf 196 (⟨vd_93_196 E, mn_lt0 _ _⟩))) (ac_node (ac_leaf 199 (⟨vd_93_199 E, mn_ald _ _⟩)) (ac_leaf 200 (⟨vd_93_200 E, mn_get _ _ _⟩)))) (ac_node (ac_node (ac_leaf 203 (⟨vd_93_203 E, mn_ild _ _⟩)) (ac_leaf 204 (⟨vd_93_204 E, mn_ald _ _⟩))) (ac_node (ac_leaf 205 (⟨vd_93_205 E, mn_ald _ _⟩)) (ac_node (ac_leaf 206 (⟨vd_93_206 E, mn_get _ _ _⟩)) (ac_leaf 209 (⟨vd_93_209 E, mn_ild _ _⟩))))))) (ac_node (ac_node (ac_node (ac_node (ac_leaf 210 (⟨vd_93_210 E, mn_ia _⟩)) (ac_leaf 211 (⟨vd_93_211 E, mn_ild _ _⟩))) (ac_node (ac_leaf 212 (⟨vd_93_212 E, mn_eq0 _ _⟩)) (ac_leaf 215 (⟨vd_93_215 E, mn_ild _ _⟩)))) (ac_node (ac_node (ac_leaf 216 (⟨vd_93_216 E, mn_con _ _⟩)) (ac_leaf 218 (⟨vd_93_218 E, mn_ge _ _⟩))) (ac_node (ac_leaf 221 (⟨vd_93_221 E, mn_ild _ _⟩)) (ac_node (ac_leaf 222 (⟨vd_93_222 E, mn_con _ _⟩)) (ac_leaf 223 (⟨vd_93_223 E, mn_add _⟩)))))) (ac_node (ac_node (ac_node (ac_leaf 224 (⟨vd_93_224 E, mn_con _ _⟩)) (ac_leaf 226 (⟨vd_93_226 E, mn_rem _⟩))) (ac_node (ac_leaf 227 (⟨vd_93_227 E, mn_go _⟩)) (ac_leaf 230 (⟨vd_93_230 E, mn_ild _ _⟩)))) (ac_node (ac_node (ac_leaf 231 (ac_Vc0 ((vd_93_231 E).1) (fun _ => rfl))) (ac_leaf 234 (⟨vd_93_234 E, mn_is _⟩))) (ac_node (ac_leaf 235 (⟨vd_93_235 E, mn_inc _ _ _⟩)) (ac_node (ac_leaf 238 (⟨vd_93_238 E, mn_go _⟩)) (ac_leaf 241 (ac_Vr0 dd_93_241 rfl))))))))))
theorem vd_94_0 (E : ac_E) : ac_ok E md_94 0 (o_con (.int 3) 1) := ok_iconst (E := E) (d := md_94) (pc := 0) dd_94_0 (by decide)
theorem vd_94_1 (E : ac_E) : ac_ok E md_94 1 (o_ild 1 2) := ok_iload_n (E := E) (d := md_94) (pc := 1) (j := 1) dd_94_1
theorem vd_94_2 (E : ac_E) : ac_ok E md_94 2 (o_con (.int 1) 3) := ok_iconst (E := E) (d := md_94) (pc := 2) dd_94_2 (by decide)
theorem vd_94_3 (E : ac_E) : ac_ok E md_94 3 (o_sub 4) := ok_isub (E := E) (d := md_94) (pc := 3) dd_94_3
theorem vd_94_4 (E : ac_E) : ac_ok E md_94 4 (o_mul 5) := ok_imul (E := E) (d := md_94) (pc := 4) dd_94_4
theorem vd_94_5 (E : ac_E) : ac_ok E md_94 5 (o_ist 4 7) := ok_istore (E := E) (d := md_94) (pc := 5) dd_94_5
theorem vd_94_7 (E : ac_E) : ac_ok E md_94 7 (o_ald 0 8) := ok_aload_n (E := E) (d := md_94) (pc := 7) (j := 0) dd_94_7
theorem vd_94_8 (E : ac_E) : ac_ok E md_94 8 (o_get 5 10 11) := ok_getf (E := E) (d := md_94) (pc := 8) (ci := 5) (f := 10) (C := RX5) (T := TX5) (N := 17) (ref := RX5) rfl win_5 (by decide) rfl wm_648 dd_94_8
theorem vd_94_11 (E : ac_E) : ac_ok E md_94 11 (o_ild 4 13) := ok_iload (E := E) (d := md_94) (pc := 11) dd_94_11
theorem vd_94_13 (E : ac_E) : ac_ok E md_94 13 (o_ald 0 14) := ok_aload_n (E := E) (d := md_94) (pc := 13) (j := 0) dd_94_13
theorem vd_94_14 (E : ac_E) : ac_ok E md_94 14 (o_get 5 10 17) := ok_getf (E := E) (d := md_94) (pc := 14) (ci := 5) (f := 10) (C := RX5) (T := TX5) (N := 17) (ref := RX5) rfl win_5 (by decide) rfl wm_648 dd_94_14
theorem vd_94_17 (E : ac_E) : ac_ok E md_94 17 (o_ild 4 19) := ok_iload (E := E) (d := md_94) (pc := 17) dd_94_17
theorem vd_94_19 (E : ac_E) : ac_ok E md_94 19 (o_ia 20) := ok_iaload (E := E) (d := md_94) (pc := 19) dd_94_19
theorem vd_94_20 (E : ac_E) : ac_ok E md_94 20 (o_ild 3 21) := ok_iload_n (E := E) (d := md_94) (pc := 20) (j := 3) dd_94_20
theorem vd_94_21 (E : ac_E) : ac_ok E md_94 21 (o_add 22) := ok_iadd (E := E) (d := md_94) (pc := 21) dd_94_21
theorem vd_94_22 (E : ac_E) : ac_ok E md_94 22 (o_is 23) := ok_iastore (E := E) (d := md_94) (pc := 22) dd_94_22
theorem vd_94_23 (E : ac_E) : ac_ok E md_94 23 (o_ald 0 24) := ok_aload_n (E := E) (d := md_94) (pc := 23) (j := 0) dd_94_23
theorem vd_94_24 (E : ac_E) : ac_ok E md_94 24 (o_get 5 10 27) := ok_getf (E := E) (d := md_94) (pc := 24) (ci := 5) (f := 10) (C := RX5) (T := TX5) (N := 17) (ref := RX5) rfl win_5 (by decide) rfl wm_648 dd_94_24
theorem vd_94_27 (E : ac_E) : ac_ok E md_94 27 (o_ild 4 29) := ok_iload (E := E) (d := md_94) (pc := 27) dd_94_27
theorem vd_94_29 (E : ac_E) : ac_ok E md_94 29 (o_con (.int 1) 30) := ok_iconst (E := E) (d := md_94) (pc := 29) dd_94_29 (by decide)
theorem vd_94_30 (E : ac_E) : ac_ok E md_94 30 (o_add 31) := ok_iadd (E := E) (d := md_94) (pc := 30) dd_94_30
theorem vd_94_31 (E : ac_E) : ac_ok E md_94 31 (o_ald 0 32) := ok_aload_n (E := E) (d := md_94) (pc := 31) (j := 0) dd_94_31
theorem vd_94_32 (E : ac_E) : ac_ok E md_94 32 (o_get 5 10 35) := ok_getf (E := E) (d := md_94) (pc := 32) (ci := 5) (f := 10) (C := RX5) (T := TX5) (N := 17) (ref := RX5) rfl win_5 (by decide) rfl wm_648 dd_94_32
theorem vd_94_35 (E : ac_E) : ac_ok E md_94 35 (o_ild 4 37) := ok_iload (E := E) (d := md_94) (pc := 35) dd_94_35
theorem vd_94_37 (E : ac_E) : ac_ok E md_94 37 (o_con (.int 1) 38) := ok_iconst (E := E) (d := md_94) (pc := 37) dd_94_37 (by decide)
theorem vd_94_38 (E : ac_E) : ac_ok E md_94 38 (o_add 39) := ok_iadd (E := E) (d := md_94) (pc := 38) dd_94_38
theorem vd_94_39 (E : ac_E) : ac_ok E md_94 39 (o_ia 40) := ok_iaload (E := E) (d := md_94) (pc := 39) dd_94_39
theorem vd_94_40 (E : ac_E) : ac_ok E md_94 40 (o_ild 3 41) := ok_iload_n (E := E) (d := md_94) (pc := 40) (j := 3) dd_94_40
theorem vd_94_41 (E : ac_E) : ac_ok E md_94 41 (o_ild 2 42) := ok_iload_n (E := E) (d := md_94) (pc := 41) (j := 2) dd_94_41
theorem vd_94_42 (E : ac_E) : ac_ok E md_94 42 (o_con (.int 0) 43) := ok_iconst (E := E) (d := md_94) (pc := 42) dd_94_42 (by decide)
theorem vd_94_43 (E : ac_E) : ac_okr E md_94 md_69 43 2 46 0 ∧ ac_okt E md_94 md_69 43 2 0 := ok_callS (E := E) (d := md_94) (dz := md_69) (pc := 43) rfl (by decide) (by decide +kernel) wm_807 wm_56 wm_805 wm_806 dd_94_43
theorem vd_94_46 (E : ac_E) : ac_ok E md_94 46 (o_mul 47) := ok_imul (E := E) (d := md_94) (pc := 46) dd_94_46
theorem vd_94_47 (E : ac_E) : ac_ok E md_94 47 (o_add 48) := ok_iadd (E := E) (d := md_94) (pc := 47) dd_94_47
theorem vd_94_48 (E : ac_E) : ac_ok E md_94 48 (o_is 49) := ok_iastore (E := E) (d := md_94) (pc := 48) dd_94_48
theorem vd_94_49 (E : ac_E) : ac_ok E md_94 49 (o_ald 0 50) := ok_aload_n (E := E) (d := md_94) (pc := 49) (j := 0) dd_94_49
theorem vd_94_50 (E : ac_E) : ac_ok E md_94 50 (o_get 5 10 53) := ok_getf (E := E) (d := md_94) (pc := 50) (ci := 5) (f := 10) (C := RX5) (T := TX5) (N := 17) (ref := RX5) rfl win_5 (by decide) rfl wm_648 dd_94_50
theorem vd_94_53 (E : ac_E) : ac_ok E md_94 53 (o_ild 4 55) := ok_iload (E := E) (d := md_94) (pc := 53) dd_94_53
theorem vd_94_55 (E : ac_E) : ac_ok E md_94 55 (o_con (.int 2) 56) := ok_iconst (E := E) (d := md_94) (pc := 55) dd_94_55 (by decide)
theorem vd_94_56 (E : ac_E) : ac_ok E md_94 56 (o_add 57) := ok_iadd (E := E) (d := md_94) (pc := 56) dd_94_56
theorem vd_94_57 (E : ac_E) : ac_ok E md_94 57 (o_ald 0 58) := ok_aload_n (E := E) (d := md_94) (pc := 57) (j := 0) dd_94_57
theorem vd_94_58 (E : ac_E) : ac_ok E md_94 58 (o_get 5 10 61) := ok_getf (E := E) (d := md_94) (pc := 58) (ci := 5) (f := 10) (C := RX5) (T := TX5) (N := 17) (ref := RX5) rfl win_5 (by decide) rfl wm_648 dd_94_58
theorem vd_94_61 (E : ac_E) : ac_ok E md_94 61 (o_ild 4 63) := ok_iload (E := E) (d := md_94) (pc := 61) dd_94_61
theorem vd_94_63 (E : ac_E) : ac_ok E md_94 63 (o_con (.int 2) 64) := ok_iconst (E := E) (d := md_94) (pc := 63) dd_94_63 (by decide)
theorem vd_94_64 (E : ac_E) : ac_ok E md_94 64 (o_add 65) := ok_iadd (E := E) (d := md_94) (pc := 64) dd_94_64
theorem vd_94_65 (E : ac_E) : ac_ok E md_94 65 (o_ia 66) := ok_iaload (E := E) (d := md_94) (pc := 65) dd_94_65
theorem vd_94_66 (E : ac_E) : ac_ok E md_94 66 (o_ild 3 67) := ok_iload_n (E := E) (d := md_94) (pc := 66) (j := 3) dd_94_66
theorem vd_94_67 (E : ac_E) : ac_ok E md_94 67 (o_ild 2 68) := ok_iload_n (E := E) (d := md_94) (pc := 67) (j := 2) dd_94_67
theorem vd_94_68 (E : ac_E) : ac_ok E md_94 68 (o_con (.int 1) 69) := ok_iconst (E := E) (d := md_94) (pc := 68) dd_94_68 (by decide)
theorem vd_94_69 (E : ac_E) : ac_okr E md_94 md_69 69 2 72 0 ∧ ac_okt E md_94 md_69 69 2 0 := ok_callS (E := E) (d := md_94) (dz := md_69) (pc := 69) rfl (by decide) (by decide +kernel) wm_807 wm_56 wm_805 wm_806 dd_94_69
theorem vd_94_72 (E : ac_E) : ac_ok E md_94 72 (o_mul 73) := ok_imul (E := E) (d := md_94) (pc := 72) dd_94_72
theorem vd_94_73 (E : ac_E) : ac_ok E md_94 73 (o_add 74) := ok_iadd (E := E) (d := md_94) (pc := 73) dd_94_73
theorem vd_94_74 (E : ac_E) : ac_ok E md_94 74 (o_is 75) := ok_iastore (E := E) (d := md_94) (pc := 74) dd_94_74
theorem vd_94_75 (E : ac_E) : ac_ok E md_94 75 (o_ild 1 76) := ok_iload_n (E := E) (d := md_94) (pc := 75) (j := 1) dd_94_75
theorem vd_94_76 (E : ac_E) : ac_ok E md_94 76 (o_con (.int 4) 77) := ok_iconst (E := E) (d := md_94) (pc := 76) dd_94_76 (by decide)
theorem vd_94_77 (E : ac_E) : ac_ok E md_94 77 (o_ne 120 80) := ok_icmpne (E := E) (d := md_94) (pc := 77) dd_94_77 (by decide)
theorem vd_94_80 (E : ac_E) : ac_ok E md_94 80 (o_ald 0 81) := ok_aload_n (E := E) (d := md_94) (pc := 80) (j := 0) dd_94_80
theorem vd_94_81 (E : ac_E) : ac_ok E md_94 81 (o_get 5 12 84) := ok_getf (E := E) (d := md_94) (pc := 81) (ci := 5) (f := 12) (C := RX5) (T := TX5) (N := 17) (ref := RX5) rfl win_5 (by decide) rfl wm_650 dd_94_81
theorem vd_94_84 (E : ac_E) : ac_ok E md_94 84 (o_con (.int 0) 85) := ok_iconst (E := E) (d := md_94) (pc := 84) dd_94_84 (by decide)
theorem vd_94_85 (E : ac_E) : ac_ok E md_94 85 (o_ald 0 86) := ok_aload_n (E := E) (d := md_94) (pc := 85) (j := 0) dd_94_85
theorem vd_94_86 (E : ac_E) : ac_ok E md_94 86 (o_get 5 12 89) := ok_getf (E := E) (d := md_94) (pc := 86) (ci := 5) (f := 12) (C := RX5) (T := TX5) (N := 17) (ref := RX5) rfl win_5 (by decide) rfl wm_650 dd_94_86
theorem vd_94_89 (E : ac_E) : ac_ok E md_94 89 (o_con (.int 0) 90) := ok_iconst (E := E) (d := md_94) (pc := 89) dd_94_89 (by decide)
theorem vd_94_90 (E : ac_E) : ac_ok E md_94 90 (o_ia 91) := ok_iaload (E := E) (d := md_94) (pc := 90) dd_94_90
theorem vd_94_91 (E : ac_E) : ac_ok E md_94 91 (o_ild 3 92) := ok_iload_n (E := E) (d := md_94) (pc := 91) (j := 3) dd_94_91
theorem vd_94_92 (E : ac_E) : ac_ok E md_94 92 (o_ild 2 93) := ok_iload_n (E := E) (d := md_94) (pc := 92) (j := 2) dd_94_92
theorem vd_94_93 (E : ac_E) : ac_ok E md_94 93 (o_con (.int 0) 94) := ok_iconst (E := E) (d := md_94) (pc := 93) dd_94_93 (by decide)
theorem vd_94_94 (E : ac_E) : ac_okr E md_94 md_69 94 2 97 0 ∧ ac_okt E md_94 md_69 94 2 0 := ok_callS (E := E) (d := md_94) (dz := md_69) (pc := 94) rfl (by decide) (by decide +kernel) wm_807 wm_56 wm_805 wm_806 dd_94_94
theorem vd_94_97 (E : ac_E) : ac_ok E md_94 97 (o_mul 98) := ok_imul (E := E) (d := md_94) (pc := 97) dd_94_97
theorem vd_94_98 (E : ac_E) : ac_ok E md_94 98 (o_sub 99) := ok_isub (E := E) (d := md_94) (pc := 98) dd_94_98
theorem vd_94_99 (E : ac_E) : ac_ok E md_94 99 (o_is 100) := ok_iastore (E := E) (d := md_94) (pc := 99) dd_94_99
theorem vd_94_100 (E : ac_E) : ac_ok E md_94 100 (o_ald 0 101) := ok_aload_n (E := E) (d := md_94) (pc := 100) (j := 0) dd_94_100
theorem vd_94_101 (E : ac_E) : ac_ok E md_94 101 (o_get 5 12 104) := ok_getf (E := E) (d := md_94) (pc := 101) (ci := 5) (f := 12) (C := RX5) (T := TX5) (N := 17) (ref := RX5) rfl win_5 (by decide) rfl wm_650 dd_94_101
theorem vd_94_104 (E : ac_E) : ac_ok E md_94 104 (o_con (.int 1) 105) := ok_iconst (E := E) (d := md_94) (pc := 104) dd_94_104 (by decide)
theorem vd_94_105 (E : ac_E) : ac_ok E md_94 105 (o_ald 0 106) := ok_aload_n (E := E) (d := md_94) (pc := 105) (j := 0) dd_94_105
theorem vd_94_106 (E : ac_E) : ac_ok E md_94 106 (o_get 5 12 109) := ok_getf (E := E) (d := md_94) (pc := 106) (ci := 5) (f := 12) (C := RX5) (T := TX5) (N := 17) (ref := RX5) rfl win_5 (by decide) rfl wm_650 dd_94_106
theorem vd_94_109 (E : ac_E) : ac_ok E md_94 109 (o_con (.int 1) 110) := ok_iconst (E := E) (d := md_94) (pc := 109) dd_94_109 (by decide)
theorem vd_94_110 (E : ac_E) : ac_ok E md_94 110 (o_ia 111) := ok_iaload (E := E) (d := md_94) (pc := 110) dd_94_110
theorem vd_94_111 (E : ac_E) : ac_ok E md_94 111 (o_ild 3 112) := ok_iload_n (E := E) (d := md_94) (pc := 111) (j := 3) dd_94_111
theorem vd_94_112 (E : ac_E) : ac_ok E md_94 112 (o_ild 2 113) := ok_iload_n (E := E) (d := md_94) (pc := 112) (j := 2) dd_94_112
theorem vd_94_113 (E : ac_E) : ac_ok E md_94 113 (o_con (.int 1) 114) := ok_iconst (E := E) (d := md_94) (pc := 113) dd_94_113 (by decide)
theorem vd_94_114 (E : ac_E) : ac_okr E md_94 md_69 114 2 117 0 ∧ ac_okt E md_94 md_69 114 2 0 := ok_callS (E := E) (d := md_94) (dz := md_69) (pc := 114) rfl (by decide) (by decide +kernel) wm_807 wm_56 wm_805 wm_806 dd_94_114
