theorem vd_55_85 (E : ac_E) : ac_V E ac_MDf ac_HDf 55 85 (.inr (.inr (.inl 0))) := ⟨fun _ => ⟨dd_55_85, rfl⟩, fun q => nomatch q, fun q => nomatch q⟩
theorem va_55 (E : ac_E) (pc : Nat) : ac_V E ac_MDf ac_HDf 55 pc (tb_55 (ac_len E) (ac_xs E) pc) := (ac_node (ac_node (ac_node (ac_node (ac_node (ac_leaf 0 (vd_55_0 E)) (ac_node (ac_leaf 1 (vd_55_1 E)) (ac_leaf 2 (vd_55_2 E)))) (ac_node (ac_leaf 3 (vd_55_3 E)) (ac_node (ac_leaf 4 (vd_55_4 E)) (ac_leaf 7 (vd_55_7 E))))) (ac_node (ac_node (ac_leaf 10 (vd_55_10 E)) (ac_node (ac_leaf 13 (vd_55_13 E)) (ac_leaf 14 (vd_55_14 E)))) (ac_node (ac_leaf 17 (vd_55_17 E)) (ac_node (ac_leaf 20 (vd_55_20 E)) (ac_leaf 21 (vd_55_21 E)))))) (ac_node (ac_node (ac_node (ac_leaf 22 (vd_55_22 E)) (ac_node (ac_leaf 23 (vd_55_23 E)) (ac_leaf 24 (vd_55_24 E)))) (ac_node (ac_leaf 25 (vd_55_25 E)) (ac_node (ac_leaf 28 (vd_55_28 E)) (ac_leaf 29 (vd_55_29 E))))) (ac_node (ac_node (ac_leaf 32 (vd_55_32 E)) (ac_node (ac_leaf 33 (vd_55_33 E)) (ac_leaf 34 (vd_55_34 E)))) (ac_node (ac_leaf 37 (vd_55_37 E)) (ac_node (ac_leaf 38 (vd_55_38 E)) (ac_leaf 39 (vd_55_39 E))))))) (ac_node (ac_node (ac_node (ac_node (ac_leaf 40 (vd_55_40 E)) (ac_node (ac_leaf 41 (vd_55_41 E)) (ac_leaf 42 (vd_55_42 E)))) (ac_node (ac_leaf 45 (vd_55_45 E)) (ac_node (ac_leaf 48 (vd_55_48 E)) (ac_leaf 51 (vd_55_51 E))))) (ac_node (ac_node (ac_leaf 54 (vd_55_54 E)) (ac_node (ac_leaf 55 (vd_55_55 E)) (ac_leaf 56 (vd_55_56 E)))) (ac_node (ac_leaf 57 (vd_55_57 E)) (ac_node (ac_leaf 58 (vd_55_58 E)) (ac_leaf 61 (vd_55_61 E)))))) (ac_node (ac_node (ac_node (ac_leaf 64 (vd_55_64 E)) (ac_node (ac_leaf 67 (vd_55_67 E)) (ac_leaf 68 (vd_55_68 E)))) (ac_node (ac_leaf 71 (vd_55_71 E)) (ac_node (ac_leaf 72 (vd_55_72 E)) (ac_leaf 73 (vd_55_73 E))))) (ac_node (ac_node (ac_leaf 74 (vd_55_74 E)) (ac_node (ac_leaf 75 (vd_55_75 E)) (ac_leaf 78 (vd_55_78 E)))) (ac_node (ac_leaf 79 (vd_55_79 E)) (ac_node (ac_leaf 82 (vd_55_82 E)) (ac_leaf 85 (vd_55_85 E))))))))
theorem vd_56_0 (E : ac_E) : ac_V E ac_MDf ac_HDf 56 0 (.inl (o_ald 0 1)) := ⟨ok_aload_n dd_56_0, mn_ald _ _⟩
theorem vd_56_1 (E : ac_E) : ac_V E ac_MDf ac_HDf 56 1 (.inl (o_get 4 8 4)) := ⟨ok_getf (ci := 4) (f := 8) (C := RX4) (T := TX4) (N := 12) (ref := RX4) rfl win_4 (by decide) rfl wm_171 dd_56_1, mn_get _ _ _⟩
theorem vd_56_4 (E : ac_E) : ac_V E ac_MDf ac_HDf 56 4 (.inl (o_ild 1 5)) := ⟨ok_iload_n dd_56_4, mn_ild _ _⟩
theorem vd_56_5 (E : ac_E) : ac_V E ac_MDf ac_HDf 56 5 (.inl (o_ia 6)) := ⟨ok_iaload dd_56_5, mn_ia _⟩
theorem vd_56_6 (E : ac_E) : ac_V E ac_MDf ac_HDf 56 6 (.inl (o_ist 3 7)) := ⟨ok_istore_n dd_56_6, mn_ist _ _⟩
theorem vd_56_7 (E : ac_E) : ac_V E ac_MDf ac_HDf 56 7 (.inl (o_ild 3 8)) := ⟨ok_iload_n dd_56_7, mn_ild _ _⟩
theorem vd_56_8 (E : ac_E) : ac_V E ac_MDf ac_HDf 56 8 (.inl (o_eq0 31 11)) := ⟨ok_ifeq dd_56_8 (by decide), mn_eq0 _ _⟩
theorem vd_56_11 (E : ac_E) : ac_V E ac_MDf ac_HDf 56 11 (.inl (o_ald 0 12)) := ⟨ok_aload_n dd_56_11, mn_ald _ _⟩
theorem vd_56_12 (E : ac_E) : ac_V E ac_MDf ac_HDf 56 12 (.inl (o_get 4 1 15)) := ⟨ok_getf (ci := 4) (f := 1) (C := RX4) (T := TX4) (N := 12) (ref := RX4) rfl win_4 (by decide) rfl wm_164 dd_56_12, mn_get _ _ _⟩
theorem vd_56_15 (E : ac_E) : ac_V E ac_MDf ac_HDf 56 15 (.inl (o_ild 1 16)) := ⟨ok_iload_n dd_56_15, mn_ild _ _⟩
theorem vd_56_16 (E : ac_E) : ac_V E ac_MDf ac_HDf 56 16 (.inl (o_ia 17)) := ⟨ok_iaload dd_56_16, mn_ia _⟩
theorem vd_56_17 (E : ac_E) : ac_V E ac_MDf ac_HDf 56 17 (.inl (o_con (.int 1) 18)) := ⟨ok_iconst dd_56_17 (by decide), mn_con _ _⟩
theorem vd_56_18 (E : ac_E) : ac_V E ac_MDf ac_HDf 56 18 (.inl (o_eq 31 21)) := ⟨ok_icmpeq dd_56_18 (by decide), mn_eq _ _⟩
theorem vd_56_21 (E : ac_E) : ac_V E ac_MDf ac_HDf 56 21 (.inl (o_ald 0 22)) := ⟨ok_aload_n dd_56_21, mn_ald _ _⟩
theorem vd_56_22 (E : ac_E) : ac_V E ac_MDf ac_HDf 56 22 (.inl (o_get 4 1 25)) := ⟨ok_getf (ci := 4) (f := 1) (C := RX4) (T := TX4) (N := 12) (ref := RX4) rfl win_4 (by decide) rfl wm_164 dd_56_22, mn_get _ _ _⟩
theorem vd_56_25 (E : ac_E) : ac_V E ac_MDf ac_HDf 56 25 (.inl (o_ild 1 26)) := ⟨ok_iload_n dd_56_25, mn_ild _ _⟩
theorem vd_56_26 (E : ac_E) : ac_V E ac_MDf ac_HDf 56 26 (.inl (o_ia 27)) := ⟨ok_iaload dd_56_26, mn_ia _⟩
theorem vd_56_27 (E : ac_E) : ac_V E ac_MDf ac_HDf 56 27 (.inl (o_con (.int 4) 28)) := ⟨ok_iconst dd_56_27 (by decide), mn_con _ _⟩
theorem vd_56_28 (E : ac_E) : ac_V E ac_MDf ac_HDf 56 28 (.inl (o_ne 33 31)) := ⟨ok_icmpne dd_56_28 (by decide), mn_ne _ _⟩
theorem vd_56_31 (E : ac_E) : ac_V E ac_MDf ac_HDf 56 31 (.inl (o_ild 3 32)) := ⟨ok_iload_n dd_56_31, mn_ild _ _⟩
theorem vd_56_32 (E : ac_E) : ac_V E ac_MDf ac_HDf 56 32 (.inr (.inr (.inl 1))) := ⟨fun q => nomatch q, fun _ => ⟨dd_56_32, rfl⟩, fun q => nomatch q⟩
theorem vd_56_33 (E : ac_E) : ac_V E ac_MDf ac_HDf 56 33 (.inl (o_ald 0 34)) := ⟨ok_aload_n dd_56_33, mn_ald _ _⟩
theorem vd_56_34 (E : ac_E) : ac_V E ac_MDf ac_HDf 56 34 (.inl (o_get 4 0 37)) := ⟨ok_getf (ci := 4) (f := 0) (C := RX4) (T := TX4) (N := 12) (ref := RX4) rfl win_4 (by decide) rfl wm_163 dd_56_34, mn_get _ _ _⟩
theorem vd_56_37 (E : ac_E) : ac_V E ac_MDf ac_HDf 56 37 (.inl (o_ild 1 38)) := ⟨ok_iload_n dd_56_37, mn_ild _ _⟩
theorem vd_56_38 (E : ac_E) : ac_V E ac_MDf ac_HDf 56 38 (.inr (.inl (12,2,41,4))) := ac_Vc0 (ok_callVN (T := TX2) (N := 4) rfl rfl (by decide) (by decide +kernel) wm_215 wm_51 wm_212 wm_214 wm_1 dd_56_38) (fun _ => rfl)
theorem vd_56_41 (E : ac_E) : ac_V E ac_MDf ac_HDf 56 41 (.inl (o_ald 0 42)) := ⟨ok_aload_n dd_56_41, mn_ald _ _⟩
theorem vd_56_42 (E : ac_E) : ac_V E ac_MDf ac_HDf 56 42 (.inl (o_get 4 0 45)) := ⟨ok_getf (ci := 4) (f := 0) (C := RX4) (T := TX4) (N := 12) (ref := RX4) rfl win_4 (by decide) rfl wm_163 dd_56_42, mn_get _ _ _⟩
theorem vd_56_45 (E : ac_E) : ac_V E ac_MDf ac_HDf 56 45 (.inl (o_ild 1 46)) := ⟨ok_iload_n dd_56_45, mn_ild _ _⟩
theorem vd_56_46 (E : ac_E) : ac_V E ac_MDf ac_HDf 56 46 (.inr (.inl (13,2,49,4))) := ac_Vc0 (ok_callVN (T := TX2) (N := 4) rfl rfl (by decide) (by decide +kernel) wm_211 wm_51 wm_208 wm_210 wm_0 dd_56_46) (fun _ => rfl)
theorem vd_56_49 (E : ac_E) : ac_V E ac_MDf ac_HDf 56 49 (.inl (o_add 50)) := ⟨ok_iadd dd_56_49, mn_add _⟩
theorem vd_56_50 (E : ac_E) : ac_V E ac_MDf ac_HDf 56 50 (.inl (o_ald 0 51)) := ⟨ok_aload_n dd_56_50, mn_ald _ _⟩
theorem vd_56_51 (E : ac_E) : ac_V E ac_MDf ac_HDf 56 51 (.inl (o_get 4 10 54)) := ⟨ok_getf (ci := 4) (f := 10) (C := RX4) (T := TX4) (N := 12) (ref := RX4) rfl win_4 (by decide) rfl wm_173 dd_56_51, mn_get _ _ _⟩
theorem vd_56_54 (E : ac_E) : ac_V E ac_MDf ac_HDf 56 54 (.inl (o_add 55)) := ⟨ok_iadd dd_56_54, mn_add _⟩
theorem vd_56_55 (E : ac_E) : ac_V E ac_MDf ac_HDf 56 55 (.inl (o_ild 2 56)) := ⟨ok_iload_n dd_56_55, mn_ild _ _⟩
theorem vd_56_56 (E : ac_E) : ac_V E ac_MDf ac_HDf 56 56 (.inl (o_add 57)) := ⟨ok_iadd dd_56_56, mn_add _⟩
theorem vd_56_57 (E : ac_E) : ac_V E ac_MDf ac_HDf 56 57 (.inl (o_con (.int 1) 58)) := ⟨ok_iconst dd_56_57 (by decide), mn_con _ _⟩
theorem vd_56_58 (E : ac_E) : ac_V E ac_MDf ac_HDf 56 58 (.inl (o_and 59)) := ⟨ok_iand dd_56_58, mn_and _⟩
theorem vd_56_59 (E : ac_E) : ac_V E ac_MDf ac_HDf 56 59 (.inl (o_ist 4 61)) := ⟨ok_istore dd_56_59, mn_ist _ _⟩
theorem vd_56_61 (E : ac_E) : ac_V E ac_MDf ac_HDf 56 61 (.inl (o_ild 3 62)) := ⟨ok_iload_n dd_56_61, mn_ild _ _⟩
theorem vd_56_62 (E : ac_E) : ac_V E ac_MDf ac_HDf 56 62 (.inl (o_ild 4 64)) := ⟨ok_iload dd_56_62, mn_ild _ _⟩
theorem vd_56_64 (E : ac_E) : ac_V E ac_MDf ac_HDf 56 64 (.inr (.inl (51,2,67,0))) := ac_Vc0 ((ok_callS rfl (by decide) (by decide +kernel) wm_344 wm_50 wm_342 wm_343 dd_56_64).1) (fun _ => rfl)
theorem vd_56_67 (E : ac_E) : ac_V E ac_MDf ac_HDf 56 67 (.inr (.inr (.inl 1))) := ⟨fun q => nomatch q, fun _ => ⟨dd_56_67, rfl⟩, fun q => nomatch q⟩
theorem va_56 (E : ac_E) (pc : Nat) : ac_V E ac_MDf ac_HDf 56 pc (tb_56 (ac_len E) (ac_xs E) pc) := (ac_node (ac_node (ac_node (ac_node (ac_node (ac_leaf 0 (vd_56_0 E)) (ac_leaf 1 (vd_56_1 E))) (ac_node (ac_leaf 4 (vd_56_4 E)) (ac_node (ac_leaf 5 (vd_56_5 E)) (ac_leaf 6 (vd_56_6 E))))) (ac_node (ac_node (ac_leaf 7 (vd_56_7 E)) (ac_leaf 8 (vd_56_8 E))) (ac_node (ac_leaf 11 (vd_56_11 E)) (ac_node (ac_leaf 12 (vd_56_12 E)) (ac_leaf 15 (vd_56_15 E)))))) (ac_node (ac_node (ac_node (ac_leaf 16 (vd_56_16 E)) (ac_leaf 17 (vd_56_17 E))) (ac_node (ac_leaf 18 (vd_56_18 E)) (ac_node (ac_leaf 21 (vd_56_21 E)) (ac_leaf 22 (vd_56_22 E))))) (ac_node (ac_node (ac_leaf 25 (vd_56_25 E)) (ac_node (ac_leaf 26 (vd_56_26 E)) (ac_leaf 27 (vd_56_27 E)))) (ac_node (ac_leaf 28 (vd_56_28 E)) (ac_node (ac_leaf 31 (vd_56_31 E)) (ac_leaf 32 (vd_56_32 E))))))) (ac_node (ac_node (ac_node (ac_node (ac_leaf 33 (vd_56_33 E)) (ac_leaf 34 (vd_56_34 E))) (ac_node (ac_leaf 37 (vd_56_37 E)) (ac_node (ac_leaf 38 (vd_56_38 E)) (ac_leaf 41 (vd_56_41 E))))) (ac_node (ac_node (ac_leaf 42 (vd_56_42 E)) (ac_leaf 45 (vd_56_45 E))) (ac_node (ac_leaf 46 (vd_56_46 E)) (ac_node (ac_leaf 49 (vd_56_49 E)) (ac_leaf 50 (vd_56_50 E)))))) (ac_node (ac_node (ac_node (ac_leaf 51 (vd_56_51 E)) (ac_leaf 54 (vd_56_54 E))) (ac_node (ac_leaf 55 (vd_56_55 E)) (ac_node (ac_leaf 56 (vd_56_56 E)) (ac_leaf 57 (vd_56_57 E))))) (ac_node (ac_node (ac_leaf 58 (vd_56_58 E)) (ac_node (ac_leaf 59 (vd_56_59 E)) (ac_leaf 61 (vd_56_61 E)))) (ac_node (ac_leaf 62 (vd_56_62 E)) (ac_node (ac_leaf 64 (vd_56_64 E)) (ac_leaf 67 (vd_56_67 E))))))))
theorem vd_57_0 (E : ac_E) : ac_V E ac_MDf ac_HDf 57 0 (.inl (o_ald 0 1)) := ⟨ok_aload_n dd_57_0, mn_ald _ _⟩
theorem vd_57_1 (E : ac_E) : ac_V E ac_MDf ac_HDf 57 1 (.inl (o_get 4 9 4)) := ⟨ok_getf (ci := 4) (f := 9) (C := RX4) (T := TX4) (N := 12) (ref := RX4) rfl win_4 (by decide) rfl wm_172 dd_57_1, mn_get _ _ _⟩
theorem vd_57_4 (E : ac_E) : ac_V E ac_MDf ac_HDf 57 4 (.inl (o_con (.int 0) 5)) := ⟨ok_iconst dd_57_4 (by decide), mn_con _ _⟩
theorem vd_57_5 (E : ac_E) : ac_V E ac_MDf ac_HDf 57 5 (.inr (.inl (2,2,8,0))) := ac_Vc0 ((ok_callS rfl (by decide) (by decide +kernel) wm_457 wm_64 wm_455 wm_456 dd_57_5).1) (fun _ => rfl)
theorem vd_57_8 (E : ac_E) : ac_V E ac_MDf ac_HDf 57 8 (.inl (o_con (.int 0) 9)) := ⟨ok_iconst dd_57_8 (by decide), mn_con _ _⟩
theorem vd_57_9 (E : ac_E) : ac_V E ac_MDf ac_HDf 57 9 (.inl (o_ist 2 10)) := ⟨ok_istore_n dd_57_9, mn_ist _ _⟩
theorem vd_57_10 (E : ac_E) : ac_V E ac_MDf ac_HDf 57 10 (.inl (o_ild 2 11)) := ⟨ok_iload_n dd_57_10, mn_ild _ _⟩
theorem vd_57_11 (E : ac_E) : ac_V E ac_MDf ac_HDf 57 11 (.inl (o_ald 0 12)) := ⟨ok_aload_n dd_57_11, mn_ald _ _⟩
theorem vd_57_12 (E : ac_E) : ac_V E ac_MDf ac_HDf 57 12 (.inl (o_get 4 0 15)) := ⟨ok_getf (ci := 4) (f := 0) (C := RX4) (T := TX4) (N := 12) (ref := RX4) rfl win_4 (by decide) rfl wm_163 dd_57_12, mn_get _ _ _⟩
theorem vd_57_15 (E : ac_E) : ac_V E ac_MDf ac_HDf 57 15 (.inl (o_get 2 2 18)) := ⟨ok_getN (ci := 2) (f := 2) (C := RX2) (T := TX2) (N := 4) (ref := RX2) rfl win_2 (by decide) rfl wm_98 dd_57_15, mn_get _ _ _⟩
theorem vd_57_18 (E : ac_E) : ac_V E ac_MDf ac_HDf 57 18 (.inl (o_ge 48 21)) := ⟨ok_icmpge dd_57_18 (by decide), mn_ge _ _⟩
theorem vd_57_21 (E : ac_E) : ac_V E ac_MDf ac_HDf 57 21 (.inl (o_ald 0 22)) := ⟨ok_aload_n dd_57_21, mn_ald _ _⟩
theorem vd_57_22 (E : ac_E) : ac_V E ac_MDf ac_HDf 57 22 (.inl (o_get 4 8 25)) := ⟨ok_getf (ci := 4) (f := 8) (C := RX4) (T := TX4) (N := 12) (ref := RX4) rfl win_4 (by decide) rfl wm_171 dd_57_22, mn_get _ _ _⟩
theorem vd_57_25 (E : ac_E) : ac_V E ac_MDf ac_HDf 57 25 (.inl (o_ild 2 26)) := ⟨ok_iload_n dd_57_25, mn_ild _ _⟩
theorem vd_57_26 (E : ac_E) : ac_V E ac_MDf ac_HDf 57 26 (.inl (o_ia 27)) := ⟨ok_iaload dd_57_26, mn_ia _⟩
theorem vd_57_27 (E : ac_E) : ac_V E ac_MDf ac_HDf 57 27 (.inl (o_eq0 42 30)) := ⟨ok_ifeq dd_57_27 (by decide), mn_eq0 _ _⟩
theorem vd_57_30 (E : ac_E) : ac_V E ac_MDf ac_HDf 57 30 (.inl (o_ald 0 31)) := ⟨ok_aload_n dd_57_30, mn_ald _ _⟩
theorem vd_57_31 (E : ac_E) : ac_V E ac_MDf ac_HDf 57 31 (.inl (o_ild 2 32)) := ⟨ok_iload_n dd_57_31, mn_ild _ _⟩
theorem vd_57_32 (E : ac_E) : ac_V E ac_MDf ac_HDf 57 32 (.inl (o_ald 0 33)) := ⟨ok_aload_n dd_57_32, mn_ald _ _⟩
theorem vd_57_33 (E : ac_E) : ac_V E ac_MDf ac_HDf 57 33 (.inl (o_get 4 8 36)) := ⟨ok_getf (ci := 4) (f := 8) (C := RX4) (T := TX4) (N := 12) (ref := RX4) rfl win_4 (by decide) rfl wm_171 dd_57_33, mn_get _ _ _⟩
theorem vd_57_36 (E : ac_E) : ac_V E ac_MDf ac_HDf 57 36 (.inl (o_ild 2 37)) := ⟨ok_iload_n dd_57_36, mn_ild _ _⟩
theorem vd_57_37 (E : ac_E) : ac_V E ac_MDf ac_HDf 57 37 (.inl (o_ia 38)) := ⟨ok_iaload dd_57_37, mn_ia _⟩
theorem vd_57_38 (E : ac_E) : ac_V E ac_MDf ac_HDf 57 38 (.inl (o_ild 1 39)) := ⟨ok_iload_n dd_57_38, mn_ild _ _⟩
theorem vd_57_39 (E : ac_E) : ac_V E ac_MDf ac_HDf 57 39 (.inr (.inl (58,4,42,6))) := ac_Vc0 ((ok_callV (T := TX4) (N := 12) rfl rfl (by decide) (by decide +kernel) wm_461 wm_50 wm_458 wm_460 wm_11 dd_57_39).1) (fun _ => rfl)
theorem vd_57_42 (E : ac_E) : ac_V E ac_MDf ac_HDf 57 42 (.inl (o_inc 2 1 45)) := ⟨ok_iinc dd_57_42 (by decide), mn_inc _ _ _⟩
theorem vd_57_45 (E : ac_E) : ac_V E ac_MDf ac_HDf 57 45 (.inl (o_go 10)) := ⟨ok_goto dd_57_45 (by decide), mn_go _⟩
theorem vd_57_48 (E : ac_E) : ac_V E ac_MDf ac_HDf 57 48 (.inl (o_ald 0 49)) := ⟨ok_aload_n dd_57_48, mn_ald _ _⟩
theorem vd_57_49 (E : ac_E) : ac_V E ac_MDf ac_HDf 57 49 (.inl (o_get 4 8 52)) := ⟨ok_getf (ci := 4) (f := 8) (C := RX4) (T := TX4) (N := 12) (ref := RX4) rfl win_4 (by decide) rfl wm_171 dd_57_49, mn_get _ _ _⟩
theorem vd_57_52 (E : ac_E) : ac_V E ac_MDf ac_HDf 57 52 (.inl (o_ast 2 53)) := ⟨ok_astore_n dd_57_52, mn_ast _ _⟩
theorem vd_57_53 (E : ac_E) : ac_V E ac_MDf ac_HDf 57 53 (.inl (o_ald 0 54)) := ⟨ok_aload_n dd_57_53, mn_ald _ _⟩
theorem vd_57_54 (E : ac_E) : ac_V E ac_MDf ac_HDf 57 54 (.inl (o_ald 0 55)) := ⟨ok_aload_n dd_57_54, mn_ald _ _⟩
theorem vd_57_55 (E : ac_E) : ac_V E ac_MDf ac_HDf 57 55 (.inl (o_get 4 9 58)) := ⟨ok_getf (ci := 4) (f := 9) (C := RX4) (T := TX4) (N := 12) (ref := RX4) rfl win_4 (by decide) rfl wm_172 dd_57_55, mn_get _ _ _⟩
theorem vd_57_58 (E : ac_E) : ac_V E ac_MDf ac_HDf 57 58 (.inl (o_pur 4 8 61)) := ⟨ok_purf (ci := 4) (f := 8) (C := RX4) (T := TX4) (N := 12) (ref := RX4) rfl win_4 (by decide) rfl tyX4 tyX4_ok nmX4 (by decide +kernel : _ = some (.array .int)) (Or.inr ⟨_, rfl⟩) rfl wm_171 dd_57_58, mn_pur _ _ _⟩
theorem vd_57_61 (E : ac_E) : ac_V E ac_MDf ac_HDf 57 61 (.inl (o_ald 0 62)) := ⟨ok_aload_n dd_57_61, mn_ald _ _⟩
theorem vd_57_62 (E : ac_E) : ac_V E ac_MDf ac_HDf 57 62 (.inl (o_ald 2 63)) := ⟨ok_aload_n dd_57_62, mn_ald _ _⟩
theorem vd_57_63 (E : ac_E) : ac_V E ac_MDf ac_HDf 57 63 (.inl (o_pur 4 9 66)) := ⟨ok_purf (ci := 4) (f := 9) (C := RX4) (T := TX4) (N := 12) (ref := RX4) rfl win_4 (by decide) rfl tyX4 tyX4_ok nmX4 (by decide +kernel : _ = some (.array .int)) (Or.inr ⟨_, rfl⟩) rfl wm_172 dd_57_63, mn_pur _ _ _⟩
theorem vd_57_66 (E : ac_E) : ac_V E ac_MDf ac_HDf 57 66 (.inl (o_ald 0 67)) := ⟨ok_aload_n dd_57_66, mn_ald _ _⟩
theorem vd_57_67 (E : ac_E) : ac_V E ac_MDf ac_HDf 57 67 (.inl (o_get 4 5 70)) := ⟨ok_getf (ci := 4) (f := 5) (C := RX4) (T := TX4) (N := 12) (ref := RX4) rfl win_4 (by decide) rfl wm_168 dd_57_67, mn_get _ _ _⟩
theorem vd_57_70 (E : ac_E) : ac_V E ac_MDf ac_HDf 57 70 (.inl (o_ald 0 71)) := ⟨ok_aload_n dd_57_70, mn_ald _ _⟩
theorem vd_57_71 (E : ac_E) : ac_V E ac_MDf ac_HDf 57 71 (.inl (o_get 4 0 74)) := ⟨ok_getf (ci := 4) (f := 0) (C := RX4) (T := TX4) (N := 12) (ref := RX4) rfl win_4 (by decide) rfl wm_163 dd_57_71, mn_get _ _ _⟩
theorem vd_57_74 (E : ac_E) : ac_V E ac_MDf ac_HDf 57 74 (.inl (o_ild 1 75)) := ⟨ok_iload_n dd_57_74, mn_ild _ _⟩
theorem vd_57_75 (E : ac_E) : ac_V E ac_MDf ac_HDf 57 75 (.inr (.inl (20,3,78,5))) := ac_Vc0 (ok_callVN (T := TX3) (N := 3) rfl rfl (by decide) (by decide +kernel) wm_470 wm_55 wm_467 wm_469 wm_13 dd_57_75) (fun _ => rfl)
theorem vd_57_78 (E : ac_E) : ac_V E ac_MDf ac_HDf 57 78 (.inr (.inr (.inl 0))) := ⟨fun _ => ⟨dd_57_78, rfl⟩, fun q => nomatch q, fun q => nomatch q⟩
theorem va_57 (E : ac_E) (pc : Nat) : ac_V E ac_MDf ac_HDf 57 pc (tb_57 (ac_len E) (ac_xs E) pc) := (ac_node (ac_node (ac_node (ac_node (ac_node (ac_leaf 0 (vd_57_0 E)) (ac_leaf 1 (vd_57_1 E))) (ac_node (ac_leaf 4 (vd_57_4 E)) (ac_node (ac_leaf 5 (vd_57_5 E)) (ac_leaf 8 (vd_57_8 E))))) (ac_node (ac_node (ac_leaf 9 (vd_57_9 E)) (ac_leaf 10 (vd_57_10 E))) (ac_node (ac_leaf 11 (vd_57_11 E)) (ac_node (ac_leaf 12 (vd_57_12 E)) (ac_leaf 15 (vd_57_15 E)))))) (ac_node (ac_node (ac_node (ac_leaf 18 (vd_57_18 E)) (ac_leaf 21 (vd_57_21 E))) (ac_node (ac_leaf 22 (vd_57_22 E)) (ac_node (ac_leaf 25 (vd_57_25 E)) (ac_leaf 26 (vd_57_26 E))))) (ac_node (ac_node (ac_leaf 27 (vd_57_27 E)) (ac_node (ac_leaf 30 (vd_57_30 E)) (ac_leaf 31 (vd_57_31 E)))) (ac_node (ac_leaf 32 (vd_57_32 E)) (ac_node (ac_leaf 33 (vd_57_33 E)) (ac_leaf 36 (vd_57_36 E))))))) (ac_node (ac_node (ac_node (ac_node (ac_leaf 37 (vd_57_37 E)) (ac_leaf 38 (vd_57_38 E))) (ac_node (ac_leaf 39 (vd_57_39 E)) (ac_node (ac_leaf 42 (vd_57_42 E)) (ac_leaf 45 (vd_57_45 E))))) (ac_node (ac_node (ac_leaf 48 (vd_57_48 E)) (ac_node (ac_leaf 49 (vd_57_49 E)) (ac_leaf 52 (vd_57_52 E)))) (ac_node (ac_leaf 53 (vd_57_53 E)) (ac_node (ac_leaf 54 (vd_57_54 E)) (ac_leaf 55 (vd_57_55 E)))))) (ac_node (ac_node (ac_node (ac_leaf 58 (vd_57_58 E)) (ac_leaf 61 (vd_57_61 E))) (ac_node (ac_leaf 62 (vd_57_62 E)) (ac_node (ac_leaf 63 (vd_57_63 E)) (ac_leaf 66 (vd_57_66 E))))) (ac_node (ac_node (ac_leaf 67 (vd_57_67 E)) (ac_node (ac_leaf 70 (vd_57_70 E)) (ac_leaf 71 (vd_57_71 E)))) (ac_node (ac_leaf 74 (vd_57_74 E)) (ac_node (ac_leaf 75 (vd_57_75 E)) (ac_leaf 78 (vd_57_78 E))))))))
theorem vd_58_0 (E : ac_E) : ac_V E ac_MDf ac_HDf 58 0 (.inl (o_ald 0 1)) := ⟨ok_aload_n dd_58_0, mn_ald _ _⟩
theorem vd_58_1 (E : ac_E) : ac_V E ac_MDf ac_HDf 58 1 (.inl (o_get 4 9 4)) := ⟨ok_getf (ci := 4) (f := 9) (C := RX4) (T := TX4) (N := 12) (ref := RX4) rfl win_4 (by decide) rfl wm_172 dd_58_1, mn_get _ _ _⟩
theorem vd_58_4 (E : ac_E) : ac_V E ac_MDf ac_HDf 58 4 (.inl (o_ild 1 5)) := ⟨ok_iload_n dd_58_4, mn_ild _ _⟩
theorem vd_58_5 (E : ac_E) : ac_V E ac_MDf ac_HDf 58 5 (.inl (o_dp2 6)) := ⟨ok_dup2 dd_58_5, mn_dp2 _⟩
theorem vd_58_6 (E : ac_E) : ac_V E ac_MDf ac_HDf 58 6 (.inl (o_ia 7)) := ⟨ok_iaload dd_58_6, mn_ia _⟩
theorem vd_58_7 (E : ac_E) : ac_V E ac_MDf ac_HDf 58 7 (.inl (o_ild 2 8)) := ⟨ok_iload_n dd_58_7, mn_ild _ _⟩
theorem vd_58_8 (E : ac_E) : ac_V E ac_MDf ac_HDf 58 8 (.inl (o_con (.int 64) 10)) := ⟨ok_bipush dd_58_8 (by decide), mn_con _ _⟩
theorem vd_58_10 (E : ac_E) : ac_V E ac_MDf ac_HDf 58 10 (.inl (o_and 11)) := ⟨ok_iand dd_58_10, mn_and _⟩
theorem vd_58_11 (E : ac_E) : ac_V E ac_MDf ac_HDf 58 11 (.inl (o_or 12)) := ⟨ok_ior dd_58_11, mn_or _⟩
theorem vd_58_12 (E : ac_E) : ac_V E ac_MDf ac_HDf 58 12 (.inl (o_is 13)) := ⟨ok_iastore dd_58_12, mn_is _⟩
theorem vd_58_13 (E : ac_E) : ac_V E ac_MDf ac_HDf 58 13 (.inl (o_con (.int 0) 14)) := ⟨ok_iconst dd_58_13 (by decide), mn_con _ _⟩
theorem vd_58_14 (E : ac_E) : ac_V E ac_MDf ac_HDf 58 14 (.inl (o_ist 4 16)) := ⟨ok_istore dd_58_14, mn_ist _ _⟩
theorem vd_58_16 (E : ac_E) : ac_V E ac_MDf ac_HDf 58 16 (.inl (o_ild 4 18)) := ⟨ok_iload dd_58_16, mn_ild _ _⟩
theorem vd_58_18 (E : ac_E) : ac_V E ac_MDf ac_HDf 58 18 (.inl (o_con (.int 6) 20)) := ⟨ok_bipush dd_58_18 (by decide), mn_con _ _⟩
theorem vd_58_20 (E : ac_E) : ac_V E ac_MDf ac_HDf 58 20 (.inl (o_ge 62 23)) := ⟨ok_icmpge dd_58_20 (by decide), mn_ge _ _⟩
theorem vd_58_23 (E : ac_E) : ac_V E ac_MDf ac_HDf 58 23 (.inl (o_ild 2 24)) := ⟨ok_iload_n dd_58_23, mn_ild _ _⟩
theorem vd_58_24 (E : ac_E) : ac_V E ac_MDf ac_HDf 58 24 (.inl (o_ild 4 26)) := ⟨ok_iload dd_58_24, mn_ild _ _⟩
theorem vd_58_26 (E : ac_E) : ac_V E ac_MDf ac_HDf 58 26 (.inr (.inl (47,2,29,0))) := ac_Vc0 ((ok_callS rfl (by decide) (by decide +kernel) wm_450 wm_50 wm_462 wm_449 dd_58_26).1) (fun _ => rfl)
theorem vd_58_29 (E : ac_E) : ac_V E ac_MDf ac_HDf 58 29 (.inl (o_eq0 56 32)) := ⟨ok_ifeq dd_58_29 (by decide), mn_eq0 _ _⟩
theorem vd_58_32 (E : ac_E) : ac_V E ac_MDf ac_HDf 58 32 (.inl (o_ald 0 33)) := ⟨ok_aload_n dd_58_32, mn_ald _ _⟩
theorem vd_58_33 (E : ac_E) : ac_V E ac_MDf ac_HDf 58 33 (.inl (o_get 4 9 36)) := ⟨ok_getf (ci := 4) (f := 9) (C := RX4) (T := TX4) (N := 12) (ref := RX4) rfl win_4 (by decide) rfl wm_172 dd_58_33, mn_get _ _ _⟩
theorem vd_58_36 (E : ac_E) : ac_V E ac_MDf ac_HDf 58 36 (.inl (o_ald 0 37)) := ⟨ok_aload_n dd_58_36, mn_ald _ _⟩
theorem vd_58_37 (E : ac_E) : ac_V E ac_MDf ac_HDf 58 37 (.inl (o_get 4 0 40)) := ⟨ok_getf (ci := 4) (f := 0) (C := RX4) (T := TX4) (N := 12) (ref := RX4) rfl win_4 (by decide) rfl wm_163 dd_58_37, mn_get _ _ _⟩
theorem vd_58_40 (E : ac_E) : ac_V E ac_MDf ac_HDf 58 40 (.inl (o_ild 1 41)) := ⟨ok_iload_n dd_58_40, mn_ild _ _⟩
theorem vd_58_41 (E : ac_E) : ac_V E ac_MDf ac_HDf 58 41 (.inl (o_ild 4 43)) := ⟨ok_iload dd_58_41, mn_ild _ _⟩
theorem vd_58_43 (E : ac_E) : ac_V E ac_MDf ac_HDf 58 43 (.inl (o_ild 3 44)) := ⟨ok_iload_n dd_58_43, mn_ild _ _⟩
theorem vd_58_44 (E : ac_E) : ac_V E ac_MDf ac_HDf 58 44 (.inl (o_add 45)) := ⟨ok_iadd dd_58_44, mn_add _⟩
theorem vd_58_45 (E : ac_E) : ac_V E ac_MDf ac_HDf 58 45 (.inr (.inl (14,3,48,4))) := ac_Vc0 (ok_callVN (T := TX2) (N := 4) rfl rfl (by decide) (by decide +kernel) wm_466 wm_51 wm_463 wm_465 wm_12 dd_58_45) (fun _ => rfl)
theorem vd_58_48 (E : ac_E) : ac_V E ac_MDf ac_HDf 58 48 (.inl (o_dp2 49)) := ⟨ok_dup2 dd_58_48, mn_dp2 _⟩
theorem vd_58_49 (E : ac_E) : ac_V E ac_MDf ac_HDf 58 49 (.inl (o_ia 50)) := ⟨ok_iaload dd_58_49, mn_ia _⟩
theorem vd_58_50 (E : ac_E) : ac_V E ac_MDf ac_HDf 58 50 (.inl (o_con (.int 1) 51)) := ⟨ok_iconst dd_58_50 (by decide), mn_con _ _⟩
theorem vd_58_51 (E : ac_E) : ac_V E ac_MDf ac_HDf 58 51 (.inl (o_ild 4 53)) := ⟨ok_iload dd_58_51, mn_ild _ _⟩
theorem vd_58_53 (E : ac_E) : ac_V E ac_MDf ac_HDf 58 53 (.inl (o_shl 54)) := ⟨ok_ishl dd_58_53, mn_shl _⟩
theorem vd_58_54 (E : ac_E) : ac_V E ac_MDf ac_HDf 58 54 (.inl (o_or 55)) := ⟨ok_ior dd_58_54, mn_or _⟩
theorem vd_58_55 (E : ac_E) : ac_V E ac_MDf ac_HDf 58 55 (.inl (o_is 56)) := ⟨ok_iastore dd_58_55, mn_is _⟩
theorem vd_58_56 (E : ac_E) : ac_V E ac_MDf ac_HDf 58 56 (.inl (o_inc 4 1 59)) := ⟨ok_iinc dd_58_56 (by decide), mn_inc _ _ _⟩
theorem vd_58_59 (E : ac_E) : ac_V E ac_MDf ac_HDf 58 59 (.inl (o_go 16)) := ⟨ok_goto dd_58_59 (by decide), mn_go _⟩
theorem vd_58_62 (E : ac_E) : ac_V E ac_MDf ac_HDf 58 62 (.inr (.inr (.inl 0))) := ⟨fun _ => ⟨dd_58_62, rfl⟩, fun q => nomatch q, fun q => nomatch q⟩
theorem va_58 (E : ac_E) (pc : Nat) : ac_V E ac_MDf ac_HDf 58 pc (tb_58 (ac_len E) (ac_xs E) pc) := (ac_node (ac_node (ac_node (ac_node (ac_node (ac_leaf 0 (vd_58_0 E)) (ac_leaf 1 (vd_58_1 E))) (ac_node (ac_leaf 4 (vd_58_4 E)) (ac_leaf 5 (vd_58_5 E)))) (ac_node (ac_node (ac_leaf 6 (vd_58_6 E)) (ac_leaf 7 (vd_58_7 E))) (ac_node (ac_leaf 8 (vd_58_8 E)) (ac_node (ac_leaf 10 (vd_58_10 E)) (ac_leaf 11 (vd_58_11 E)))))) (ac_node (ac_node (ac_node (ac_leaf 12 (vd_58_12 E)) (ac_leaf 13 (vd_58_13 E))) (ac_node (ac_leaf 14 (vd_58_14 E)) (ac_node (ac_leaf 16 (vd_58_16 E)) (ac_leaf 18 (vd_58_18 E))))) (ac_node (ac_node (ac_leaf 20 (vd_58_20 E)) (ac_leaf 23 (vd_58_23 E))) (ac_node (ac_leaf 24 (vd_58_24 E)) (ac_node (ac_leaf 26 (vd_58_26 E)) (ac_leaf 29 (vd_58_29 E))))))) (ac_node (ac_node (ac_node (ac_node (ac_leaf 32 (vd_58_32 E)) (ac_leaf 33 (vd_58_33 E))) (ac_node (ac_leaf 36 (vd_58_36 E)) (ac_leaf 37 (vd_58_37 E)))) (ac_node (ac_node (ac_leaf 40 (vd_58_40 E)) (ac_leaf 41 (vd_58_41 E))) (ac_node (ac_leaf 43 (vd_58_43 E)) (ac_node (ac_leaf 44 (vd_58_44 E)) (ac_leaf 45 (vd_58_45 E)))))) (ac_node (ac_node (ac_node (ac_leaf 48 (vd_58_48 E)) (ac_leaf 49 (vd_58_49 E))) (ac_node (ac_leaf 50 (vd_58_50 E)) (ac_node (ac_leaf 51 (vd_58_51 E)) (ac_leaf 53 (vd_58_53 E))))) (ac_node (ac_node (ac_leaf 54 (vd_58_54 E)) (ac_leaf 55 (vd_58_55 E))) (ac_node (ac_leaf 56 (vd_58_56 E)) (ac_node (ac_leaf 59 (vd_58_59 E)) (ac_leaf 62 (vd_58_62 E))))))))
theorem vd_59_0 (E : ac_E) : ac_V E ac_MDf ac_HDf 59 0 (.inl (o_con (.int 0) 1)) := ⟨ok_iconst dd_59_0 (by decide), mn_con _ _⟩
theorem vd_59_1 (E : ac_E) : ac_V E ac_MDf ac_HDf 59 1 (.inl (o_ist 1 2)) := ⟨ok_istore_n dd_59_1, mn_ist _ _⟩
theorem vd_59_2 (E : ac_E) : ac_V E ac_MDf ac_HDf 59 2 (.inl (o_ild 1 3)) := ⟨ok_iload_n dd_59_2, mn_ild _ _⟩
theorem vd_59_3 (E : ac_E) : ac_V E ac_MDf ac_HDf 59 3 (.inl (o_ald 0 4)) := ⟨ok_aload_n dd_59_3, mn_ald _ _⟩
theorem vd_59_4 (E : ac_E) : ac_V E ac_MDf ac_HDf 59 4 (.inl (o_get 4 0 7)) := ⟨ok_getf (ci := 4) (f := 0) (C := RX4) (T := TX4) (N := 12) (ref := RX4) rfl win_4 (by decide) rfl wm_163 dd_59_4, mn_get _ _ _⟩
theorem vd_59_7 (E : ac_E) : ac_V E ac_MDf ac_HDf 59 7 (.inl (o_get 2 2 10)) := ⟨ok_getN (ci := 2) (f := 2) (C := RX2) (T := TX2) (N := 4) (ref := RX2) rfl win_2 (by decide) rfl wm_98 dd_59_7, mn_get _ _ _⟩
theorem vd_59_10 (E : ac_E) : ac_V E ac_MDf ac_HDf 59 10 (.inl (o_ge 87 13)) := ⟨ok_icmpge dd_59_10 (by decide), mn_ge _ _⟩
theorem vd_59_13 (E : ac_E) : ac_V E ac_MDf ac_HDf 59 13 (.inl (o_ald 0 14)) := ⟨ok_aload_n dd_59_13, mn_ald _ _⟩
theorem vd_59_14 (E : ac_E) : ac_V E ac_MDf ac_HDf 59 14 (.inl (o_get 4 1 17)) := ⟨ok_getf (ci := 4) (f := 1) (C := RX4) (T := TX4) (N := 12) (ref := RX4) rfl win_4 (by decide) rfl wm_164 dd_59_14, mn_get _ _ _⟩
theorem vd_59_17 (E : ac_E) : ac_V E ac_MDf ac_HDf 59 17 (.inl (o_ild 1 18)) := ⟨ok_iload_n dd_59_17, mn_ild _ _⟩
theorem vd_59_18 (E : ac_E) : ac_V E ac_MDf ac_HDf 59 18 (.inl (o_ia 19)) := ⟨ok_iaload dd_59_18, mn_ia _⟩
theorem vd_59_19 (E : ac_E) : ac_V E ac_MDf ac_HDf 59 19 (.inl (o_ist 2 20)) := ⟨ok_istore_n dd_59_19, mn_ist _ _⟩
theorem vd_59_20 (E : ac_E) : ac_V E ac_MDf ac_HDf 59 20 (.inl (o_ild 2 21)) := ⟨ok_iload_n dd_59_20, mn_ild _ _⟩
theorem vd_59_21 (E : ac_E) : ac_V E ac_MDf ac_HDf 59 21 (.inl (o_eq0 81 24)) := ⟨ok_ifeq dd_59_21 (by decide), mn_eq0 _ _⟩
theorem vd_59_24 (E : ac_E) : ac_V E ac_MDf ac_HDf 59 24 (.inl (o_ald 0 25)) := ⟨ok_aload_n dd_59_24, mn_ald _ _⟩
theorem vd_59_25 (E : ac_E) : ac_V E ac_MDf ac_HDf 59 25 (.inl (o_get 4 8 28)) := ⟨ok_getf (ci := 4) (f := 8) (C := RX4) (T := TX4) (N := 12) (ref := RX4) rfl win_4 (by decide) rfl wm_171 dd_59_25, mn_get _ _ _⟩
theorem vd_59_28 (E : ac_E) : ac_V E ac_MDf ac_HDf 59 28 (.inl (o_ild 1 29)) := ⟨ok_iload_n dd_59_28, mn_ild _ _⟩
theorem vd_59_29 (E : ac_E) : ac_V E ac_MDf ac_HDf 59 29 (.inl (o_ia 30)) := ⟨ok_iaload dd_59_29, mn_ia _⟩
theorem vd_59_30 (E : ac_E) : ac_V E ac_MDf ac_HDf 59 30 (.inl (o_ist 3 31)) := ⟨ok_istore_n dd_59_30, mn_ist _ _⟩
theorem vd_59_31 (E : ac_E) : ac_V E ac_MDf ac_HDf 59 31 (.inl (o_ald 0 32)) := ⟨ok_aload_n dd_59_31, mn_ald _ _⟩
theorem vd_59_32 (E : ac_E) : ac_V E ac_MDf ac_HDf 59 32 (.inl (o_ild 2 33)) := ⟨ok_iload_n dd_59_32, mn_ild _ _⟩
theorem vd_59_33 (E : ac_E) : ac_V E ac_MDf ac_HDf 59 33 (.inl (o_ild 3 34)) := ⟨ok_iload_n dd_59_33, mn_ild _ _⟩
theorem vd_59_34 (E : ac_E) : ac_V E ac_MDf ac_HDf 59 34 (.inl (o_ald 0 35)) := ⟨ok_aload_n dd_59_34, mn_ald _ _⟩
theorem vd_59_35 (E : ac_E) : ac_V E ac_MDf ac_HDf 59 35 (.inl (o_get 4 2 38)) := ⟨ok_getf (ci := 4) (f := 2) (C := RX4) (T := TX4) (N := 12) (ref := RX4) rfl win_4 (by decide) rfl wm_165 dd_59_35, mn_get _ _ _⟩
theorem vd_59_38 (E : ac_E) : ac_V E ac_MDf ac_HDf 59 38 (.inl (o_ild 1 39)) := ⟨ok_iload_n dd_59_38, mn_ild _ _⟩
theorem vd_59_39 (E : ac_E) : ac_V E ac_MDf ac_HDf 59 39 (.inl (o_ia 40)) := ⟨ok_iaload dd_59_39, mn_ia _⟩
theorem vd_59_40 (E : ac_E) : ac_V E ac_MDf ac_HDf 59 40 (.inr (.inl (60,4,43,6))) := ac_Vc0 ((ok_callV (T := TX4) (N := 12) rfl rfl (by decide) (by decide +kernel) wm_479 wm_50 wm_476 wm_478 wm_15 dd_59_40).1) (fun _ => rfl)
theorem vd_59_43 (E : ac_E) : ac_V E ac_MDf ac_HDf 59 43 (.inl (o_ist 4 45)) := ⟨ok_istore dd_59_43, mn_ist _ _⟩
theorem vd_59_45 (E : ac_E) : ac_V E ac_MDf ac_HDf 59 45 (.inl (o_ald 0 46)) := ⟨ok_aload_n dd_59_45, mn_ald _ _⟩
theorem vd_59_46 (E : ac_E) : ac_V E ac_MDf ac_HDf 59 46 (.inl (o_get 4 8 49)) := ⟨ok_getf (ci := 4) (f := 8) (C := RX4) (T := TX4) (N := 12) (ref := RX4) rfl win_4 (by decide) rfl wm_171 dd_59_46, mn_get _ _ _⟩
theorem vd_59_49 (E : ac_E) : ac_V E ac_MDf ac_HDf 59 49 (.inl (o_ild 1 50)) := ⟨ok_iload_n dd_59_49, mn_ild _ _⟩
theorem vd_59_50 (E : ac_E) : ac_V E ac_MDf ac_HDf 59 50 (.inl (o_ild 4 52)) := ⟨ok_iload dd_59_50, mn_ild _ _⟩
theorem vd_59_52 (E : ac_E) : ac_V E ac_MDf ac_HDf 59 52 (.inl (o_is 53)) := ⟨ok_iastore dd_59_52, mn_is _⟩
theorem vd_59_53 (E : ac_E) : ac_V E ac_MDf ac_HDf 59 53 (.inl (o_ald 0 54)) := ⟨ok_aload_n dd_59_53, mn_ald _ _⟩
theorem vd_59_54 (E : ac_E) : ac_V E ac_MDf ac_HDf 59 54 (.inl (o_get 4 3 57)) := ⟨ok_getf (ci := 4) (f := 3) (C := RX4) (T := TX4) (N := 12) (ref := RX4) rfl win_4 (by decide) rfl wm_166 dd_59_54, mn_get _ _ _⟩
theorem vd_59_57 (E : ac_E) : ac_V E ac_MDf ac_HDf 59 57 (.inl (o_ild 2 58)) := ⟨ok_iload_n dd_59_57, mn_ild _ _⟩
theorem vd_59_58 (E : ac_E) : ac_V E ac_MDf ac_HDf 59 58 (.inl (o_con (.int 1) 59)) := ⟨ok_iconst dd_59_58 (by decide), mn_con _ _⟩
theorem vd_59_59 (E : ac_E) : ac_V E ac_MDf ac_HDf 59 59 (.inl (o_sub 60)) := ⟨ok_isub dd_59_59, mn_sub _⟩
theorem vd_59_60 (E : ac_E) : ac_V E ac_MDf ac_HDf 59 60 (.inl (o_ild 3 61)) := ⟨ok_iload_n dd_59_60, mn_ild _ _⟩
theorem vd_59_61 (E : ac_E) : ac_V E ac_MDf ac_HDf 59 61 (.inl (o_ild 4 63)) := ⟨ok_iload dd_59_61, mn_ild _ _⟩
theorem vd_59_63 (E : ac_E) : ac_V E ac_MDf ac_HDf 59 63 (.inr (.inl (8,4,66,3))) := ac_Vc0 (ok_callVN (T := TX1) (N := 1) rfl rfl (by decide) (by decide +kernel) wm_491 wm_53 wm_488 wm_490 wm_17 dd_59_63) (fun _ => rfl)
theorem vd_59_66 (E : ac_E) : ac_V E ac_MDf ac_HDf 59 66 (.inl (o_ild 2 67)) := ⟨ok_iload_n dd_59_66, mn_ild _ _⟩
theorem vd_59_67 (E : ac_E) : ac_V E ac_MDf ac_HDf 59 67 (.inl (o_con (.int 4) 68)) := ⟨ok_iconst dd_59_67 (by decide), mn_con _ _⟩
theorem vd_59_68 (E : ac_E) : ac_V E ac_MDf ac_HDf 59 68 (.inl (o_ne 81 71)) := ⟨ok_icmpne dd_59_68 (by decide), mn_ne _ _⟩
theorem vd_59_71 (E : ac_E) : ac_V E ac_MDf ac_HDf 59 71 (.inl (o_ald 0 72)) := ⟨ok_aload_n dd_59_71, mn_ald _ _⟩
theorem vd_59_72 (E : ac_E) : ac_V E ac_MDf ac_HDf 59 72 (.inl (o_get 4 4 75)) := ⟨ok_getf (ci := 4) (f := 4) (C := RX4) (T := TX4) (N := 12) (ref := RX4) rfl win_4 (by decide) rfl wm_167 dd_59_72, mn_get _ _ _⟩
theorem vd_59_75 (E : ac_E) : ac_V E ac_MDf ac_HDf 59 75 (.inl (o_ild 3 76)) := ⟨ok_iload_n dd_59_75, mn_ild _ _⟩
theorem vd_59_76 (E : ac_E) : ac_V E ac_MDf ac_HDf 59 76 (.inl (o_ild 4 78)) := ⟨ok_iload dd_59_76, mn_ild _ _⟩
theorem vd_59_78 (E : ac_E) : ac_V E ac_MDf ac_HDf 59 78 (.inr (.inl (4,3,81,2))) := ac_Vc0 (ok_callVN (T := TX0) (N := 4) rfl rfl (by decide) (by decide +kernel) wm_502 wm_54 wm_499 wm_501 wm_18 dd_59_78) (fun _ => rfl)
theorem vd_59_81 (E : ac_E) : ac_V E ac_MDf ac_HDf 59 81 (.inl (o_inc 1 1 84)) := ⟨ok_iinc dd_59_81 (by decide), mn_inc _ _ _⟩
theorem vd_59_84 (E : ac_E) : ac_V E ac_MDf ac_HDf 59 84 (.inl (o_go 2)) := ⟨ok_goto dd_59_84 (by decide), mn_go _⟩
theorem vd_59_87 (E : ac_E) : ac_V E ac_MDf ac_HDf 59 87 (.inl (o_ald 0 88)) := ⟨ok_aload_n dd_59_87, mn_ald _ _⟩
theorem vd_59_88 (E : ac_E) : ac_V E ac_MDf ac_HDf 59 88 (.inl (o_get 4 5 91)) := ⟨ok_getf (ci := 4) (f := 5) (C := RX4) (T := TX4) (N := 12) (ref := RX4) rfl win_4 (by decide) rfl wm_168 dd_59_88, mn_get _ _ _⟩
theorem vd_59_91 (E : ac_E) : ac_V E ac_MDf ac_HDf 59 91 (.inl (o_ald 0 92)) := ⟨ok_aload_n dd_59_91, mn_ald _ _⟩
theorem vd_59_92 (E : ac_E) : ac_V E ac_MDf ac_HDf 59 92 (.inl (o_get 4 1 95)) := ⟨ok_getf (ci := 4) (f := 1) (C := RX4) (T := TX4) (N := 12) (ref := RX4) rfl win_4 (by decide) rfl wm_164 dd_59_92, mn_get _ _ _⟩
theorem vd_59_95 (E : ac_E) : ac_V E ac_MDf ac_HDf 59 95 (.inr (.inl (21,2,98,5))) := ac_Vc0 (ok_callVN (T := TX3) (N := 3) rfl rfl (by decide) (by decide +kernel) wm_507 wm_55 wm_504 wm_506 wm_19 dd_59_95) (fun _ => rfl)
theorem vd_59_98 (E : ac_E) : ac_V E ac_MDf ac_HDf 59 98 (.inr (.inr (.inl 0))) := ⟨fun _ => ⟨dd_59_98, rfl⟩, fun q => nomatch q, fun q => nomatch q⟩
theorem va_59 (E : ac_E) (pc : Nat) : ac_V E ac_MDf ac_HDf 59 pc (tb_59 (ac_len E) (ac_xs E) pc) := (ac_node (ac_node (ac_node (ac_node (ac_node (ac_leaf 0 (vd_59_0 E)) (ac_node (ac_leaf 1 (vd_59_1 E)) (ac_leaf 2 (vd_59_2 E)))) (ac_node (ac_node (ac_leaf 3 (vd_59_3 E)) (ac_leaf 4 (vd_59_4 E))) (ac_node (ac_leaf 7 (vd_59_7 E)) (ac_leaf 10 (vd_59_10 E))))) (ac_node (ac_node (ac_leaf 13 (vd_59_13 E)) (ac_node (ac_leaf 14 (vd_59_14 E)) (ac_leaf 17 (vd_59_17 E)))) (ac_node (ac_node (ac_leaf 18 (vd_59_18 E)) (ac_leaf 19 (vd_59_19 E))) (ac_node (ac_leaf 20 (vd_59_20 E)) (ac_leaf 21 (vd_59_21 E)))))) (ac_node (ac_node (ac_node (ac_leaf 24 (vd_59_24 E)) (ac_node (ac_leaf 25 (vd_59_25 E)) (ac_leaf 28 (vd_59_28 E)))) (ac_node (ac_node (ac_leaf 29 (vd_59_29 E)) (ac_leaf 30 (vd_59_30 E))) (ac_node (ac_leaf 31 (vd_59_31 E)) (ac_leaf 32 (vd_59_32 E))))) (ac_node (ac_node (ac_leaf 33 (vd_59_33 E)) (ac_node (ac_leaf 34 (vd_59_34 E)) (ac_leaf 35 (vd_59_35 E)))) (ac_node (ac_node (ac_leaf 38 (vd_59_38 E)) (ac_leaf 39 (vd_59_39 E))) (ac_node (ac_leaf 40 (vd_59_40 E)) (ac_leaf 43 (vd_59_43 E))))))) (ac_node (ac_node (ac_node (ac_node (ac_leaf 45 (vd_59_45 E)) (ac_node (ac_leaf 46 (vd_59_46 E)) (ac_leaf 49 (vd_59_49 E)))) (ac_node (ac_node (ac_leaf 50 (vd_59_50 E)) (ac_leaf 52 (vd_59_52 E))) (ac_node (ac_leaf 53 (vd_59_53 E)) (ac_leaf 54 (vd_59_54 E))))) (ac_node (ac_node (ac_leaf 57 (vd_59_57 E)) (ac_node (ac_leaf 58 (vd_59_58 E)) (ac_leaf 59 (vd_59_59 E)))) (ac_node (ac_node (ac_leaf 60 (vd_59_60 E)) (ac_leaf 61 (vd_59_61 E))) (ac_node (ac_leaf 63 (vd_59_63 E)) (ac_leaf 66 (vd_59_66 E)))))) (ac_node (ac_node (ac_node (ac_leaf 67 (vd_59_67 E)) (ac_node (ac_leaf 68 (vd_59_68 E)) (ac_leaf 71 (vd_59_71 E)))) (ac_node (ac_node (ac_leaf 72 (vd_59_72 E)) (ac_leaf 75 (vd_59_75 E))) (ac_node (ac_leaf 76 (vd_59_76 E)) (ac_leaf 78 (vd_59_78 E))))) (ac_node (ac_node (ac_node (ac_leaf 81 (vd_59_81 E)) (ac_leaf 84 (vd_59_84 E))) (ac_node (ac_leaf 87 (vd_59_87 E)) (ac_leaf 88 (vd_59_88 E)))) (ac_node (ac_node (ac_leaf 91 (vd_59_91 E)) (ac_leaf 92 (vd_59_92 E))) (ac_node (ac_leaf 95 (vd_59_95 E)) (ac_leaf 98 (vd_59_98 E))))))))
theorem vd_60_0 (E : ac_E) : ac_V E ac_MDf ac_HDf 60 0 (.inl (o_ild 1 1)) := ⟨ok_iload_n dd_60_0, mn_ild _ _⟩
theorem vd_60_1 (E : ac_E) : ac_V E ac_MDf ac_HDf 60 1 (.inl (o_con (.int 3) 2)) := ⟨ok_iconst dd_60_1 (by decide), mn_con _ _⟩
theorem vd_60_2 (E : ac_E) : ac_V E ac_MDf ac_HDf 60 2 (.inl (o_ne 7 5)) := ⟨ok_icmpne dd_60_2 (by decide), mn_ne _ _⟩
theorem vd_60_5 (E : ac_E) : ac_V E ac_MDf ac_HDf 60 5 (.inl (o_con (.int 0) 6)) := ⟨ok_iconst dd_60_5 (by decide), mn_con _ _⟩
theorem vd_60_6 (E : ac_E) : ac_V E ac_MDf ac_HDf 60 6 (.inr (.inr (.inl 1))) := ⟨fun q => nomatch q, fun _ => ⟨dd_60_6, rfl⟩, fun q => nomatch q⟩
theorem vd_60_7 (E : ac_E) : ac_V E ac_MDf ac_HDf 60 7 (.inl (o_ild 1 8)) := ⟨ok_iload_n dd_60_7, mn_ild _ _⟩
theorem vd_60_8 (E : ac_E) : ac_V E ac_MDf ac_HDf 60 8 (.inl (o_con (.int 2) 9)) := ⟨ok_iconst dd_60_8 (by decide), mn_con _ _⟩
theorem vd_60_9 (E : ac_E) : ac_V E ac_MDf ac_HDf 60 9 (.inl (o_ne 21 12)) := ⟨ok_icmpne dd_60_9 (by decide), mn_ne _ _⟩
theorem vd_60_12 (E : ac_E) : ac_V E ac_MDf ac_HDf 60 12 (.inl (o_ald 0 13)) := ⟨ok_aload_n dd_60_12, mn_ald _ _⟩
theorem vd_60_13 (E : ac_E) : ac_V E ac_MDf ac_HDf 60 13 (.inl (o_ild 2 14)) := ⟨ok_iload_n dd_60_13, mn_ild _ _⟩
theorem vd_60_14 (E : ac_E) : ac_V E ac_MDf ac_HDf 60 14 (.inl (o_ild 3 15)) := ⟨ok_iload_n dd_60_14, mn_ild _ _⟩
theorem vd_60_15 (E : ac_E) : ac_V E ac_MDf ac_HDf 60 15 (.inr (.inl (61,3,18,6))) := ac_Vc0 ((ok_callV (T := TX4) (N := 12) rfl rfl (by decide) (by decide +kernel) wm_483 wm_50 wm_480 wm_482 wm_16 dd_60_15).1) (fun _ => rfl)
theorem vd_60_18 (E : ac_E) : ac_V E ac_MDf ac_HDf 60 18 (.inl (o_go 25)) := ⟨ok_goto dd_60_18 (by decide), mn_go _⟩
theorem vd_60_21 (E : ac_E) : ac_V E ac_MDf ac_HDf 60 21 (.inl (o_ild 2 22)) := ⟨ok_iload_n dd_60_21, mn_ild _ _⟩
theorem vd_60_22 (E : ac_E) : ac_V E ac_MDf ac_HDf 60 22 (.inr (.inl (50,1,25,0))) := ac_Vc0 ((ok_callS rfl (by decide) (by decide +kernel) wm_487 wm_50 wm_485 wm_486 dd_60_22).1) (fun _ => rfl)
theorem vd_60_25 (E : ac_E) : ac_V E ac_MDf ac_HDf 60 25 (.inr (.inr (.inl 1))) := ⟨fun q => nomatch q, fun _ => ⟨dd_60_25, rfl⟩, fun q => nomatch q⟩
theorem va_60 (E : ac_E) (pc : Nat) : ac_V E ac_MDf ac_HDf 60 pc (tb_60 (ac_len E) (ac_xs E) pc) := (ac_node (ac_node (ac_node (ac_node (ac_leaf 0 (vd_60_0 E)) (ac_leaf 1 (vd_60_1 E))) (ac_node (ac_leaf 2 (vd_60_2 E)) (ac_leaf 5 (vd_60_5 E)))) (ac_node (ac_node (ac_leaf 6 (vd_60_6 E)) (ac_leaf 7 (vd_60_7 E))) (ac_node (ac_leaf 8 (vd_60_8 E)) (ac_leaf 9 (vd_60_9 E))))) (ac_node (ac_node (ac_node (ac_leaf 12 (vd_60_12 E)) (ac_leaf 13 (vd_60_13 E))) (ac_node (ac_leaf 14 (vd_60_14 E)) (ac_leaf 15 (vd_60_15 E)))) (ac_node (ac_node (ac_leaf 18 (vd_60_18 E)) (ac_leaf 21 (vd_60_21 E))) (ac_node (ac_leaf 22 (vd_60_22 E)) (ac_leaf 25 (vd_60_25 E))))))
theorem vd_61_0 (E : ac_E) : ac_V E ac_MDf ac_HDf 61 0 (.inl (o_ild 1 1)) := ⟨ok_iload_n dd_61_0, mn_ild _ _⟩
theorem vd_61_1 (E : ac_E) : ac_V E ac_MDf ac_HDf 61 1 (.inl (o_ist 3 2)) := ⟨ok_istore_n dd_61_1, mn_ist _ _⟩
theorem vd_61_2 (E : ac_E) : ac_V E ac_MDf ac_HDf 61 2 (.inl (o_con (.int 0) 3)) := ⟨ok_iconst dd_61_2 (by decide), mn_con _ _⟩
theorem vd_61_3 (E : ac_E) : ac_V E ac_MDf ac_HDf 61 3 (.inl (o_ist 4 5)) := ⟨ok_istore dd_61_3, mn_ist _ _⟩
theorem vd_61_5 (E : ac_E) : ac_V E ac_MDf ac_HDf 61 5 (.inl (o_ild 4 7)) := ⟨ok_iload dd_61_5, mn_ild _ _⟩
theorem vd_61_7 (E : ac_E) : ac_V E ac_MDf ac_HDf 61 7 (.inl (o_con (.int 7) 9)) := ⟨ok_bipush dd_61_7 (by decide), mn_con _ _⟩
theorem vd_61_9 (E : ac_E) : ac_V E ac_MDf ac_HDf 61 9 (.inl (o_ge 55 12)) := ⟨ok_icmpge dd_61_9 (by decide), mn_ge _ _⟩
theorem vd_61_12 (E : ac_E) : ac_V E ac_MDf ac_HDf 61 12 (.inl (o_ald 0 13)) := ⟨ok_aload_n dd_61_12, mn_ald _ _⟩
theorem vd_61_13 (E : ac_E) : ac_V E ac_MDf ac_HDf 61 13 (.inl (o_ald 0 14)) := ⟨ok_aload_n dd_61_13, mn_ald _ _⟩
theorem vd_61_14 (E : ac_E) : ac_V E ac_MDf ac_HDf 61 14 (.inl (o_get 4 11 17)) := ⟨ok_getf (ci := 4) (f := 11) (C := RX4) (T := TX4) (N := 12) (ref := RX4) rfl win_4 (by decide) rfl wm_174 dd_61_14, mn_get _ _ _⟩
theorem vd_61_17 (E : ac_E) : ac_V E ac_MDf ac_HDf 61 17 (.inl (o_con (.int 1103515245) 19)) := ⟨ok_ldc dd_61_17 wm_484, mn_con _ _⟩
theorem vd_61_19 (E : ac_E) : ac_V E ac_MDf ac_HDf 61 19 (.inl (o_mul 20)) := ⟨ok_imul dd_61_19, mn_mul _⟩
theorem vd_61_20 (E : ac_E) : ac_V E ac_MDf ac_HDf 61 20 (.inl (o_con (.int 12345) 23)) := ⟨ok_sipush dd_61_20 (by decide), mn_con _ _⟩
theorem vd_61_23 (E : ac_E) : ac_V E ac_MDf ac_HDf 61 23 (.inl (o_add 24)) := ⟨ok_iadd dd_61_23, mn_add _⟩
theorem vd_61_24 (E : ac_E) : ac_V E ac_MDf ac_HDf 61 24 (.inl (o_put 4 11 27)) := ⟨ok_putf (ci := 4) (f := 11) (C := RX4) (T := TX4) (N := 12) (ref := RX4) rfl win_4 (by decide) rfl tyX4 tyX4_ok nmX4 (by decide +kernel) rfl wm_174 dd_61_24, mn_put _ _ _⟩
theorem vd_61_27 (E : ac_E) : ac_V E ac_MDf ac_HDf 61 27 (.inl (o_ald 0 28)) := ⟨ok_aload_n dd_61_27, mn_ald _ _⟩
theorem vd_61_28 (E : ac_E) : ac_V E ac_MDf ac_HDf 61 28 (.inl (o_get 4 11 31)) := ⟨ok_getf (ci := 4) (f := 11) (C := RX4) (T := TX4) (N := 12) (ref := RX4) rfl win_4 (by decide) rfl wm_174 dd_61_28, mn_get _ _ _⟩
theorem vd_61_31 (E : ac_E) : ac_V E ac_MDf ac_HDf 61 31 (.inl (o_con (.int 16) 33)) := ⟨ok_bipush dd_61_31 (by decide), mn_con _ _⟩
theorem vd_61_33 (E : ac_E) : ac_V E ac_MDf ac_HDf 61 33 (.inl (o_ush 34)) := ⟨ok_iushr dd_61_33, mn_ush _⟩
theorem vd_61_34 (E : ac_E) : ac_V E ac_MDf ac_HDf 61 34 (.inl (o_con (.int 255) 37)) := ⟨ok_sipush dd_61_34 (by decide), mn_con _ _⟩
theorem vd_61_37 (E : ac_E) : ac_V E ac_MDf ac_HDf 61 37 (.inl (o_and 38)) := ⟨ok_iand dd_61_37, mn_and _⟩
theorem vd_61_38 (E : ac_E) : ac_V E ac_MDf ac_HDf 61 38 (.inl (o_ild 2 39)) := ⟨ok_iload_n dd_61_38, mn_ild _ _⟩
theorem vd_61_39 (E : ac_E) : ac_V E ac_MDf ac_HDf 61 39 (.inl (o_ge 49 42)) := ⟨ok_icmpge dd_61_39 (by decide), mn_ge _ _⟩
theorem vd_61_42 (E : ac_E) : ac_V E ac_MDf ac_HDf 61 42 (.inl (o_ild 3 43)) := ⟨ok_iload_n dd_61_42, mn_ild _ _⟩
theorem vd_61_43 (E : ac_E) : ac_V E ac_MDf ac_HDf 61 43 (.inl (o_con (.int 1) 44)) := ⟨ok_iconst dd_61_43 (by decide), mn_con _ _⟩
theorem vd_61_44 (E : ac_E) : ac_V E ac_MDf ac_HDf 61 44 (.inl (o_ild 4 46)) := ⟨ok_iload dd_61_44, mn_ild _ _⟩
theorem vd_61_46 (E : ac_E) : ac_V E ac_MDf ac_HDf 61 46 (.inl (o_shl 47)) := ⟨ok_ishl dd_61_46, mn_shl _⟩
theorem vd_61_47 (E : ac_E) : ac_V E ac_MDf ac_HDf 61 47 (.inl (o_or 48)) := ⟨ok_ior dd_61_47, mn_or _⟩
theorem vd_61_48 (E : ac_E) : ac_V E ac_MDf ac_HDf 61 48 (.inl (o_ist 3 49)) := ⟨ok_istore_n dd_61_48, mn_ist _ _⟩
theorem vd_61_49 (E : ac_E) : ac_V E ac_MDf ac_HDf 61 49 (.inl (o_inc 4 1 52)) := ⟨ok_iinc dd_61_49 (by decide), mn_inc _ _ _⟩
theorem vd_61_52 (E : ac_E) : ac_V E ac_MDf ac_HDf 61 52 (.inl (o_go 5)) := ⟨ok_goto dd_61_52 (by decide), mn_go _⟩
theorem vd_61_55 (E : ac_E) : ac_V E ac_MDf ac_HDf 61 55 (.inl (o_ild 3 56)) := ⟨ok_iload_n dd_61_55, mn_ild _ _⟩
theorem vd_61_56 (E : ac_E) : ac_V E ac_MDf ac_HDf 61 56 (.inr (.inr (.inl 1))) := ⟨fun q => nomatch q, fun _ => ⟨dd_61_56, rfl⟩, fun q => nomatch q⟩
theorem va_61 (E : ac_E) (pc : Nat) : ac_V E ac_MDf ac_HDf 61 pc (tb_61 (ac_len E) (ac_xs E) pc) := (ac_node (ac_node (ac_node (ac_node (ac_node (ac_leaf 0 (vd_61_0 E)) (ac_leaf 1 (vd_61_1 E))) (ac_node (ac_leaf 2 (vd_61_2 E)) (ac_leaf 3 (vd_61_3 E)))) (ac_node (ac_node (ac_leaf 5 (vd_61_5 E)) (ac_leaf 7 (vd_61_7 E))) (ac_node (ac_leaf 9 (vd_61_9 E)) (ac_leaf 12 (vd_61_12 E))))) (ac_node (ac_node (ac_node (ac_leaf 13 (vd_61_13 E)) (ac_leaf 14 (vd_61_14 E))) (ac_node (ac_leaf 17 (vd_61_17 E)) (ac_leaf 19 (vd_61_19 E)))) (ac_node (ac_node (ac_leaf 20 (vd_61_20 E)) (ac_leaf 23 (vd_61_23 E))) (ac_node (ac_leaf 24 (vd_61_24 E)) (ac_leaf 27 (vd_61_27 E)))))) (ac_node (ac_node (ac_node (ac_node (ac_leaf 28 (vd_61_28 E)) (ac_leaf 31 (vd_61_31 E))) (ac_node (ac_leaf 33 (vd_61_33 E)) (ac_leaf 34 (vd_61_34 E)))) (ac_node (ac_node (ac_leaf 37 (vd_61_37 E)) (ac_leaf 38 (vd_61_38 E))) (ac_node (ac_leaf 39 (vd_61_39 E)) (ac_leaf 42 (vd_61_42 E))))) (ac_node (ac_node (ac_node (ac_leaf 43 (vd_61_43 E)) (ac_leaf 44 (vd_61_44 E))) (ac_node (ac_leaf 46 (vd_61_46 E)) (ac_leaf 47 (vd_61_47 E)))) (ac_node (ac_node (ac_leaf 48 (vd_61_48 E)) (ac_leaf 49 (vd_61_49 E))) (ac_node (ac_leaf 52 (vd_61_52 E)) (ac_node (ac_leaf 55 (vd_61_55 E)) (ac_leaf 56 (vd_61_56 E))))))))
theorem vd_62_0 (E : ac_E) : ac_V E ac_MDf ac_HDf 62 0 (.inl (o_ald 0 1)) := ⟨ok_aload_n dd_62_0, mn_ald _ _⟩
theorem vd_62_1 (E : ac_E) : ac_V E ac_MDf ac_HDf 62 1 (.inl (o_get 4 4 4)) := ⟨ok_getf (ci := 4) (f := 4) (C := RX4) (T := TX4) (N := 12) (ref := RX4) rfl win_4 (by decide) rfl wm_167 dd_62_1, mn_get _ _ _⟩
theorem vd_62_4 (E : ac_E) : ac_V E ac_MDf ac_HDf 62 4 (.inr (.inl (5,1,7,2))) := ac_Vc0 (ok_callVN (T := TX0) (N := 4) rfl rfl (by decide) (by decide +kernel) wm_515 wm_54 wm_512 wm_514 wm_21 dd_62_4) (fun _ => rfl)
theorem vd_62_7 (E : ac_E) : ac_V E ac_MDf ac_HDf 62 7 (.inl (o_ist 1 8)) := ⟨ok_istore_n dd_62_7, mn_ist _ _⟩
theorem vd_62_8 (E : ac_E) : ac_V E ac_MDf ac_HDf 62 8 (.inl (o_ild 1 9)) := ⟨ok_iload_n dd_62_8, mn_ild _ _⟩
theorem vd_62_9 (E : ac_E) : ac_V E ac_MDf ac_HDf 62 9 (.inl (o_con (.int (-1)) 10)) := ⟨ok_iconst dd_62_9 (by decide), mn_con _ _⟩
theorem vd_62_10 (E : ac_E) : ac_V E ac_MDf ac_HDf 62 10 (.inl (o_eq 34 13)) := ⟨ok_icmpeq dd_62_10 (by decide), mn_eq _ _⟩
theorem vd_62_13 (E : ac_E) : ac_V E ac_MDf ac_HDf 62 13 (.inl (o_ald 0 14)) := ⟨ok_aload_n dd_62_13, mn_ald _ _⟩
theorem vd_62_14 (E : ac_E) : ac_V E ac_MDf ac_HDf 62 14 (.inl (o_ild 1 15)) := ⟨ok_iload_n dd_62_14, mn_ild _ _⟩
theorem vd_62_15 (E : ac_E) : ac_V E ac_MDf ac_HDf 62 15 (.inr (.inl (63,2,18,6))) := ac_Vc0 ((ok_callV (T := TX4) (N := 12) rfl rfl (by decide) (by decide +kernel) wm_523 wm_50 wm_520 wm_522 wm_22 dd_62_15).1) (fun _ => rfl)
theorem vd_62_18 (E : ac_E) : ac_V E ac_MDf ac_HDf 62 18 (.inl (o_eq0 34 21)) := ⟨ok_ifeq dd_62_18 (by decide), mn_eq0 _ _⟩
theorem vd_62_21 (E : ac_E) : ac_V E ac_MDf ac_HDf 62 21 (.inl (o_ald 0 22)) := ⟨ok_aload_n dd_62_21, mn_ald _ _⟩
theorem vd_62_22 (E : ac_E) : ac_V E ac_MDf ac_HDf 62 22 (.inl (o_ild 1 23)) := ⟨ok_iload_n dd_62_22, mn_ild _ _⟩
theorem vd_62_23 (E : ac_E) : ac_V E ac_MDf ac_HDf 62 23 (.inr (.inl (64,2,26,6))) := ac_Vc0 ((ok_callV (T := TX4) (N := 12) rfl rfl (by decide) (by decide +kernel) wm_527 wm_50 wm_524 wm_526 wm_23 dd_62_23).1) (fun _ => rfl)
theorem vd_62_26 (E : ac_E) : ac_V E ac_MDf ac_HDf 62 26 (.inl (o_ald 0 27)) := ⟨ok_aload_n dd_62_26, mn_ald _ _⟩
theorem vd_62_27 (E : ac_E) : ac_V E ac_MDf ac_HDf 62 27 (.inl (o_get 4 4 30)) := ⟨ok_getf (ci := 4) (f := 4) (C := RX4) (T := TX4) (N := 12) (ref := RX4) rfl win_4 (by decide) rfl wm_167 dd_62_27, mn_get _ _ _⟩
theorem vd_62_30 (E : ac_E) : ac_V E ac_MDf ac_HDf 62 30 (.inl (o_ild 1 31)) := ⟨ok_iload_n dd_62_30, mn_ild _ _⟩
theorem vd_62_31 (E : ac_E) : ac_V E ac_MDf ac_HDf 62 31 (.inr (.inl (6,2,34,2))) := ac_Vc0 (ok_callVN (T := TX0) (N := 4) rfl rfl (by decide) (by decide +kernel) wm_539 wm_54 wm_536 wm_538 wm_26 dd_62_31) (fun _ => rfl)
theorem vd_62_34 (E : ac_E) : ac_V E ac_MDf ac_HDf 62 34 (.inr (.inr (.inl 0))) := ⟨fun _ => ⟨dd_62_34, rfl⟩, fun q => nomatch q, fun q => nomatch q⟩
theorem va_62 (E : ac_E) (pc : Nat) : ac_V E ac_MDf ac_HDf 62 pc (tb_62 (ac_len E) (ac_xs E) pc) := (ac_node (ac_node (ac_node (ac_node (ac_leaf 0 (vd_62_0 E)) (ac_leaf 1 (vd_62_1 E))) (ac_node (ac_leaf 4 (vd_62_4 E)) (ac_leaf 7 (vd_62_7 E)))) (ac_node (ac_node (ac_leaf 8 (vd_62_8 E)) (ac_leaf 9 (vd_62_9 E))) (ac_node (ac_leaf 10 (vd_62_10 E)) (ac_node (ac_leaf 13 (vd_62_13 E)) (ac_leaf 14 (vd_62_14 E)))))) (ac_node (ac_node (ac_node (ac_leaf 15 (vd_62_15 E)) (ac_leaf 18 (vd_62_18 E))) (ac_node (ac_leaf 21 (vd_62_21 E)) (ac_node (ac_leaf 22 (vd_62_22 E)) (ac_leaf 23 (vd_62_23 E))))) (ac_node (ac_node (ac_leaf 26 (vd_62_26 E)) (ac_leaf 27 (vd_62_27 E))) (ac_node (ac_leaf 30 (vd_62_30 E)) (ac_node (ac_leaf 31 (vd_62_31 E)) (ac_leaf 34 (vd_62_34 E)))))))
theorem vd_63_0 (E : ac_E) : ac_V E ac_MDf ac_HDf 63 0 (.inl (o_con (.int 0) 1)) := ⟨ok_iconst dd_63_0 (by decide), mn_con _ _⟩
theorem vd_63_1 (E : ac_E) : ac_V E ac_MDf ac_HDf 63 1 (.inl (o_ist 2 2)) := ⟨ok_istore_n dd_63_1, mn_ist _ _⟩
theorem vd_63_2 (E : ac_E) : ac_V E ac_MDf ac_HDf 63 2 (.inl (o_con (.int 0) 3)) := ⟨ok_iconst dd_63_2 (by decide), mn_con _ _⟩
theorem vd_63_3 (E : ac_E) : ac_V E ac_MDf ac_HDf 63 3 (.inl (o_ist 3 4)) := ⟨ok_istore_n dd_63_3, mn_ist _ _⟩
theorem vd_63_4 (E : ac_E) : ac_V E ac_MDf ac_HDf 63 4 (.inl (o_ild 3 5)) := ⟨ok_iload_n dd_63_4, mn_ild _ _⟩
theorem vd_63_5 (E : ac_E) : ac_V E ac_MDf ac_HDf 63 5 (.inl (o_ald 0 6)) := ⟨ok_aload_n dd_63_5, mn_ald _ _⟩
theorem vd_63_6 (E : ac_E) : ac_V E ac_MDf ac_HDf 63 6 (.inl (o_get 4 0 9)) := ⟨ok_getf (ci := 4) (f := 0) (C := RX4) (T := TX4) (N := 12) (ref := RX4) rfl win_4 (by decide) rfl wm_163 dd_63_6, mn_get _ _ _⟩
theorem vd_63_9 (E : ac_E) : ac_V E ac_MDf ac_HDf 63 9 (.inl (o_get 2 2 12)) := ⟨ok_getN (ci := 2) (f := 2) (C := RX2) (T := TX2) (N := 4) (ref := RX2) rfl win_2 (by decide) rfl wm_98 dd_63_9, mn_get _ _ _⟩
theorem vd_63_12 (E : ac_E) : ac_V E ac_MDf ac_HDf 63 12 (.inl (o_ge 62 15)) := ⟨ok_icmpge dd_63_12 (by decide), mn_ge _ _⟩
theorem vd_63_15 (E : ac_E) : ac_V E ac_MDf ac_HDf 63 15 (.inl (o_ald 0 16)) := ⟨ok_aload_n dd_63_15, mn_ald _ _⟩
theorem vd_63_16 (E : ac_E) : ac_V E ac_MDf ac_HDf 63 16 (.inl (o_get 4 1 19)) := ⟨ok_getf (ci := 4) (f := 1) (C := RX4) (T := TX4) (N := 12) (ref := RX4) rfl win_4 (by decide) rfl wm_164 dd_63_16, mn_get _ _ _⟩
theorem vd_63_19 (E : ac_E) : ac_V E ac_MDf ac_HDf 63 19 (.inl (o_ild 3 20)) := ⟨ok_iload_n dd_63_19, mn_ild _ _⟩
theorem vd_63_20 (E : ac_E) : ac_V E ac_MDf ac_HDf 63 20 (.inl (o_ia 21)) := ⟨ok_iaload dd_63_20, mn_ia _⟩
theorem vd_63_21 (E : ac_E) : ac_V E ac_MDf ac_HDf 63 21 (.inl (o_con (.int 4) 22)) := ⟨ok_iconst dd_63_21 (by decide), mn_con _ _⟩
theorem vd_63_22 (E : ac_E) : ac_V E ac_MDf ac_HDf 63 22 (.inl (o_ne 56 25)) := ⟨ok_icmpne dd_63_22 (by decide), mn_ne _ _⟩
theorem vd_63_25 (E : ac_E) : ac_V E ac_MDf ac_HDf 63 25 (.inl (o_con (.int 1) 26)) := ⟨ok_iconst dd_63_25 (by decide), mn_con _ _⟩
theorem vd_63_26 (E : ac_E) : ac_V E ac_MDf ac_HDf 63 26 (.inl (o_ist 2 27)) := ⟨ok_istore_n dd_63_26, mn_ist _ _⟩
theorem vd_63_27 (E : ac_E) : ac_V E ac_MDf ac_HDf 63 27 (.inl (o_ald 0 28)) := ⟨ok_aload_n dd_63_27, mn_ald _ _⟩
theorem vd_63_28 (E : ac_E) : ac_V E ac_MDf ac_HDf 63 28 (.inl (o_get 4 1 31)) := ⟨ok_getf (ci := 4) (f := 1) (C := RX4) (T := TX4) (N := 12) (ref := RX4) rfl win_4 (by decide) rfl wm_164 dd_63_28, mn_get _ _ _⟩
theorem vd_63_31 (E : ac_E) : ac_V E ac_MDf ac_HDf 63 31 (.inl (o_ald 0 32)) := ⟨ok_aload_n dd_63_31, mn_ald _ _⟩
theorem vd_63_32 (E : ac_E) : ac_V E ac_MDf ac_HDf 63 32 (.inl (o_get 4 0 35)) := ⟨ok_getf (ci := 4) (f := 0) (C := RX4) (T := TX4) (N := 12) (ref := RX4) rfl win_4 (by decide) rfl wm_163 dd_63_32, mn_get _ _ _⟩
theorem vd_63_35 (E : ac_E) : ac_V E ac_MDf ac_HDf 63 35 (.inl (o_ild 3 36)) := ⟨ok_iload_n dd_63_35, mn_ild _ _⟩
theorem vd_63_36 (E : ac_E) : ac_V E ac_MDf ac_HDf 63 36 (.inl (o_ild 1 37)) := ⟨ok_iload_n dd_63_36, mn_ild _ _⟩
theorem vd_63_37 (E : ac_E) : ac_V E ac_MDf ac_HDf 63 37 (.inr (.inl (14,3,40,4))) := ac_Vc0 (ok_callVN (T := TX2) (N := 4) rfl rfl (by decide) (by decide +kernel) wm_466 wm_51 wm_463 wm_465 wm_12 dd_63_37) (fun _ => rfl)
theorem vd_63_40 (E : ac_E) : ac_V E ac_MDf ac_HDf 63 40 (.inl (o_ia 41)) := ⟨ok_iaload dd_63_40, mn_ia _⟩
theorem vd_63_41 (E : ac_E) : ac_V E ac_MDf ac_HDf 63 41 (.inl (o_ist 4 43)) := ⟨ok_istore dd_63_41, mn_ist _ _⟩
theorem vd_63_43 (E : ac_E) : ac_V E ac_MDf ac_HDf 63 43 (.inl (o_ild 4 45)) := ⟨ok_iload dd_63_43, mn_ild _ _⟩
theorem vd_63_45 (E : ac_E) : ac_V E ac_MDf ac_HDf 63 45 (.inl (o_eq0 56 48)) := ⟨ok_ifeq dd_63_45 (by decide), mn_eq0 _ _⟩
theorem vd_63_48 (E : ac_E) : ac_V E ac_MDf ac_HDf 63 48 (.inl (o_ild 4 50)) := ⟨ok_iload dd_63_48, mn_ild _ _⟩
theorem vd_63_50 (E : ac_E) : ac_V E ac_MDf ac_HDf 63 50 (.inl (o_con (.int 4) 51)) := ⟨ok_iconst dd_63_50 (by decide), mn_con _ _⟩
theorem vd_63_51 (E : ac_E) : ac_V E ac_MDf ac_HDf 63 51 (.inl (o_eq 56 54)) := ⟨ok_icmpeq dd_63_51 (by decide), mn_eq _ _⟩
theorem vd_63_54 (E : ac_E) : ac_V E ac_MDf ac_HDf 63 54 (.inl (o_con (.int 0) 55)) := ⟨ok_iconst dd_63_54 (by decide), mn_con _ _⟩
theorem vd_63_55 (E : ac_E) : ac_V E ac_MDf ac_HDf 63 55 (.inr (.inr (.inl 2))) := ⟨fun q => nomatch q, fun q => nomatch q, fun _ => ⟨dd_63_55, rfl⟩⟩
theorem vd_63_56 (E : ac_E) : ac_V E ac_MDf ac_HDf 63 56 (.inl (o_inc 3 1 59)) := ⟨ok_iinc dd_63_56 (by decide), mn_inc _ _ _⟩
theorem vd_63_59 (E : ac_E) : ac_V E ac_MDf ac_HDf 63 59 (.inl (o_go 4)) := ⟨ok_goto dd_63_59 (by decide), mn_go _⟩
theorem vd_63_62 (E : ac_E) : ac_V E ac_MDf ac_HDf 63 62 (.inl (o_ild 2 63)) := ⟨ok_iload_n dd_63_62, mn_ild _ _⟩
theorem vd_63_63 (E : ac_E) : ac_V E ac_MDf ac_HDf 63 63 (.inr (.inr (.inl 2))) := ⟨fun q => nomatch q, fun q => nomatch q, fun _ => ⟨dd_63_63, rfl⟩⟩
theorem va_63 (E : ac_E) (pc : Nat) : ac_V E ac_MDf ac_HDf 63 pc (tb_63 (ac_len E) (ac_xs E) pc) := (ac_node (ac_node (ac_node (ac_node (ac_node (ac_leaf 0 (vd_63_0 E)) (ac_leaf 1 (vd_63_1 E))) (ac_node (ac_leaf 2 (vd_63_2 E)) (ac_leaf 3 (vd_63_3 E)))) (ac_node (ac_node (ac_leaf 4 (vd_63_4 E)) (ac_leaf 5 (vd_63_5 E))) (ac_node (ac_leaf 6 (vd_63_6 E)) (ac_node (ac_leaf 9 (vd_63_9 E)) (ac_leaf 12 (vd_63_12 E)))))) (ac_node (ac_node (ac_node (ac_leaf 15 (vd_63_15 E)) (ac_leaf 16 (vd_63_16 E))) (ac_node (ac_leaf 19 (vd_63_19 E)) (ac_leaf 20 (vd_63_20 E)))) (ac_node (ac_node (ac_leaf 21 (vd_63_21 E)) (ac_leaf 22 (vd_63_22 E))) (ac_node (ac_leaf 25 (vd_63_25 E)) (ac_node (ac_leaf 26 (vd_63_26 E)) (ac_leaf 27 (vd_63_27 E))))))) (ac_node (ac_node (ac_node (ac_node (ac_leaf 28 (vd_63_28 E)) (ac_leaf 31 (vd_63_31 E))) (ac_node (ac_leaf 32 (vd_63_32 E)) (ac_leaf 35 (vd_63_35 E)))) (ac_node (ac_node (ac_leaf 36 (vd_63_36 E)) (ac_leaf 37 (vd_63_37 E))) (ac_node (ac_leaf 40 (vd_63_40 E)) (ac_node (ac_leaf 41 (vd_63_41 E)) (ac_leaf 43 (vd_63_43 E)))))) (ac_node (ac_node (ac_node (ac_leaf 45 (vd_63_45 E)) (ac_leaf 48 (vd_63_48 E))) (ac_node (ac_leaf 50 (vd_63_50 E)) (ac_node (ac_leaf 51 (vd_63_51 E)) (ac_leaf 54 (vd_63_54 E))))) (ac_node (ac_node (ac_leaf 55 (vd_63_55 E)) (ac_leaf 56 (vd_63_56 E))) (ac_node (ac_leaf 59 (vd_63_59 E)) (ac_node (ac_leaf 62 (vd_63_62 E)) (ac_leaf 63 (vd_63_63 E))))))))
theorem vd_64_0 (E : ac_E) : ac_V E ac_MDf ac_HDf 64 0 (.inl (o_con (.int 0) 1)) := ⟨ok_iconst dd_64_0 (by decide), mn_con _ _⟩
theorem vd_64_1 (E : ac_E) : ac_V E ac_MDf ac_HDf 64 1 (.inl (o_ist 2 2)) := ⟨ok_istore_n dd_64_1, mn_ist _ _⟩
theorem vd_64_2 (E : ac_E) : ac_V E ac_MDf ac_HDf 64 2 (.inl (o_con (.int 0) 3)) := ⟨ok_iconst dd_64_2 (by decide), mn_con _ _⟩
theorem vd_64_3 (E : ac_E) : ac_V E ac_MDf ac_HDf 64 3 (.inl (o_ist 3 4)) := ⟨ok_istore_n dd_64_3, mn_ist _ _⟩
theorem vd_64_4 (E : ac_E) : ac_V E ac_MDf ac_HDf 64 4 (.inl (o_con (.int 0) 5)) := ⟨ok_iconst dd_64_4 (by decide), mn_con _ _⟩
theorem vd_64_5 (E : ac_E) : ac_V E ac_MDf ac_HDf 64 5 (.inl (o_ist 4 7)) := ⟨ok_istore dd_64_5, mn_ist _ _⟩
theorem vd_64_7 (E : ac_E) : ac_V E ac_MDf ac_HDf 64 7 (.inl (o_ild 4 9)) := ⟨ok_iload dd_64_7, mn_ild _ _⟩
theorem vd_64_9 (E : ac_E) : ac_V E ac_MDf ac_HDf 64 9 (.inl (o_ald 0 10)) := ⟨ok_aload_n dd_64_9, mn_ald _ _⟩
theorem vd_64_10 (E : ac_E) : ac_V E ac_MDf ac_HDf 64 10 (.inl (o_get 4 0 13)) := ⟨ok_getf (ci := 4) (f := 0) (C := RX4) (T := TX4) (N := 12) (ref := RX4) rfl win_4 (by decide) rfl wm_163 dd_64_10, mn_get _ _ _⟩
theorem vd_64_13 (E : ac_E) : ac_V E ac_MDf ac_HDf 64 13 (.inl (o_get 2 2 16)) := ⟨ok_getN (ci := 2) (f := 2) (C := RX2) (T := TX2) (N := 4) (ref := RX2) rfl win_2 (by decide) rfl wm_98 dd_64_13, mn_get _ _ _⟩
theorem vd_64_16 (E : ac_E) : ac_V E ac_MDf ac_HDf 64 16 (.inl (o_ge 113 19)) := ⟨ok_icmpge dd_64_16 (by decide), mn_ge _ _⟩
theorem vd_64_19 (E : ac_E) : ac_V E ac_MDf ac_HDf 64 19 (.inl (o_ald 0 20)) := ⟨ok_aload_n dd_64_19, mn_ald _ _⟩
theorem vd_64_20 (E : ac_E) : ac_V E ac_MDf ac_HDf 64 20 (.inl (o_get 4 1 23)) := ⟨ok_getf (ci := 4) (f := 1) (C := RX4) (T := TX4) (N := 12) (ref := RX4) rfl win_4 (by decide) rfl wm_164 dd_64_20, mn_get _ _ _⟩
theorem vd_64_23 (E : ac_E) : ac_V E ac_MDf ac_HDf 64 23 (.inl (o_ild 4 25)) := ⟨ok_iload dd_64_23, mn_ild _ _⟩
theorem vd_64_25 (E : ac_E) : ac_V E ac_MDf ac_HDf 64 25 (.inl (o_ia 26)) := ⟨ok_iaload dd_64_25, mn_ia _⟩
theorem vd_64_26 (E : ac_E) : ac_V E ac_MDf ac_HDf 64 26 (.inl (o_con (.int 4) 27)) := ⟨ok_iconst dd_64_26 (by decide), mn_con _ _⟩
theorem vd_64_27 (E : ac_E) : ac_V E ac_MDf ac_HDf 64 27 (.inl (o_ne 34 30)) := ⟨ok_icmpne dd_64_27 (by decide), mn_ne _ _⟩
theorem vd_64_30 (E : ac_E) : ac_V E ac_MDf ac_HDf 64 30 (.inl (o_con (.int 1) 31)) := ⟨ok_iconst dd_64_30 (by decide), mn_con _ _⟩
theorem vd_64_31 (E : ac_E) : ac_V E ac_MDf ac_HDf 64 31 (.inl (o_go 35)) := ⟨ok_goto dd_64_31 (by decide), mn_go _⟩
theorem vd_64_34 (E : ac_E) : ac_V E ac_MDf ac_HDf 64 34 (.inl (o_con (.int 0) 35)) := ⟨ok_iconst dd_64_34 (by decide), mn_con _ _⟩
theorem vd_64_35 (E : ac_E) : ac_V E ac_MDf ac_HDf 64 35 (.inl (o_ist 5 37)) := ⟨ok_istore dd_64_35, mn_ist _ _⟩
theorem vd_64_37 (E : ac_E) : ac_V E ac_MDf ac_HDf 64 37 (.inl (o_ald 0 38)) := ⟨ok_aload_n dd_64_37, mn_ald _ _⟩
theorem vd_64_38 (E : ac_E) : ac_V E ac_MDf ac_HDf 64 38 (.inl (o_get 4 1 41)) := ⟨ok_getf (ci := 4) (f := 1) (C := RX4) (T := TX4) (N := 12) (ref := RX4) rfl win_4 (by decide) rfl wm_164 dd_64_38, mn_get _ _ _⟩
theorem vd_64_41 (E : ac_E) : ac_V E ac_MDf ac_HDf 64 41 (.inl (o_ald 0 42)) := ⟨ok_aload_n dd_64_41, mn_ald _ _⟩
theorem vd_64_42 (E : ac_E) : ac_V E ac_MDf ac_HDf 64 42 (.inl (o_get 4 0 45)) := ⟨ok_getf (ci := 4) (f := 0) (C := RX4) (T := TX4) (N := 12) (ref := RX4) rfl win_4 (by decide) rfl wm_163 dd_64_42, mn_get _ _ _⟩
theorem vd_64_45 (E : ac_E) : ac_V E ac_MDf ac_HDf 64 45 (.inl (o_ild 4 47)) := ⟨ok_iload dd_64_45, mn_ild _ _⟩
theorem vd_64_47 (E : ac_E) : ac_V E ac_MDf ac_HDf 64 47 (.inl (o_ild 1 48)) := ⟨ok_iload_n dd_64_47, mn_ild _ _⟩
theorem vd_64_48 (E : ac_E) : ac_V E ac_MDf ac_HDf 64 48 (.inl (o_con (.int 3) 49)) := ⟨ok_iconst dd_64_48 (by decide), mn_con _ _⟩
theorem vd_64_49 (E : ac_E) : ac_V E ac_MDf ac_HDf 64 49 (.inl (o_add 50)) := ⟨ok_iadd dd_64_49, mn_add _⟩
theorem vd_64_50 (E : ac_E) : ac_V E ac_MDf ac_HDf 64 50 (.inr (.inl (14,3,53,4))) := ac_Vc0 (ok_callVN (T := TX2) (N := 4) rfl rfl (by decide) (by decide +kernel) wm_466 wm_51 wm_463 wm_465 wm_12 dd_64_50) (fun _ => rfl)
theorem vd_64_53 (E : ac_E) : ac_V E ac_MDf ac_HDf 64 53 (.inl (o_ia 54)) := ⟨ok_iaload dd_64_53, mn_ia _⟩
theorem vd_64_54 (E : ac_E) : ac_V E ac_MDf ac_HDf 64 54 (.inl (o_con (.int 4) 55)) := ⟨ok_iconst dd_64_54 (by decide), mn_con _ _⟩
theorem vd_64_55 (E : ac_E) : ac_V E ac_MDf ac_HDf 64 55 (.inl (o_ne 62 58)) := ⟨ok_icmpne dd_64_55 (by decide), mn_ne _ _⟩
theorem vd_64_58 (E : ac_E) : ac_V E ac_MDf ac_HDf 64 58 (.inl (o_con (.int 1) 59)) := ⟨ok_iconst dd_64_58 (by decide), mn_con _ _⟩
theorem vd_64_59 (E : ac_E) : ac_V E ac_MDf ac_HDf 64 59 (.inl (o_go 63)) := ⟨ok_goto dd_64_59 (by decide), mn_go _⟩
theorem vd_64_62 (E : ac_E) : ac_V E ac_MDf ac_HDf 64 62 (.inl (o_con (.int 0) 63)) := ⟨ok_iconst dd_64_62 (by decide), mn_con _ _⟩
theorem vd_64_63 (E : ac_E) : ac_V E ac_MDf ac_HDf 64 63 (.inl (o_ist 6 65)) := ⟨ok_istore dd_64_63, mn_ist _ _⟩
theorem vd_64_65 (E : ac_E) : ac_V E ac_MDf ac_HDf 64 65 (.inl (o_ild 6 67)) := ⟨ok_iload dd_64_65, mn_ild _ _⟩
theorem vd_64_67 (E : ac_E) : ac_V E ac_MDf ac_HDf 64 67 (.inl (o_eq0 86 70)) := ⟨ok_ifeq dd_64_67 (by decide), mn_eq0 _ _⟩
theorem vd_64_70 (E : ac_E) : ac_V E ac_MDf ac_HDf 64 70 (.inl (o_ild 5 72)) := ⟨ok_iload dd_64_70, mn_ild _ _⟩
theorem vd_64_72 (E : ac_E) : ac_V E ac_MDf ac_HDf 64 72 (.inl (o_ne0 86 75)) := ⟨ok_ifne dd_64_72 (by decide), mn_ne0 _ _⟩
theorem vd_64_75 (E : ac_E) : ac_V E ac_MDf ac_HDf 64 75 (.inl (o_ald 0 76)) := ⟨ok_aload_n dd_64_75, mn_ald _ _⟩
theorem vd_64_76 (E : ac_E) : ac_V E ac_MDf ac_HDf 64 76 (.inl (o_get 4 6 79)) := ⟨ok_getf (ci := 4) (f := 6) (C := RX4) (T := TX4) (N := 12) (ref := RX4) rfl win_4 (by decide) rfl wm_169 dd_64_76, mn_get _ _ _⟩
theorem vd_64_79 (E : ac_E) : ac_V E ac_MDf ac_HDf 64 79 (.inl (o_ild 2 80)) := ⟨ok_iload_n dd_64_79, mn_ild _ _⟩
theorem vd_64_80 (E : ac_E) : ac_V E ac_MDf ac_HDf 64 80 (.inl (o_inc 2 1 83)) := ⟨ok_iinc dd_64_80 (by decide), mn_inc _ _ _⟩
theorem vd_64_83 (E : ac_E) : ac_V E ac_MDf ac_HDf 64 83 (.inl (o_ild 4 85)) := ⟨ok_iload dd_64_83, mn_ild _ _⟩
theorem vd_64_85 (E : ac_E) : ac_V E ac_MDf ac_HDf 64 85 (.inl (o_is 86)) := ⟨ok_iastore dd_64_85, mn_is _⟩
theorem vd_64_86 (E : ac_E) : ac_V E ac_MDf ac_HDf 64 86 (.inl (o_ild 5 88)) := ⟨ok_iload dd_64_86, mn_ild _ _⟩
theorem vd_64_88 (E : ac_E) : ac_V E ac_MDf ac_HDf 64 88 (.inl (o_eq0 107 91)) := ⟨ok_ifeq dd_64_88 (by decide), mn_eq0 _ _⟩
theorem vd_64_91 (E : ac_E) : ac_V E ac_MDf ac_HDf 64 91 (.inl (o_ild 6 93)) := ⟨ok_iload dd_64_91, mn_ild _ _⟩
theorem vd_64_93 (E : ac_E) : ac_V E ac_MDf ac_HDf 64 93 (.inl (o_ne0 107 96)) := ⟨ok_ifne dd_64_93 (by decide), mn_ne0 _ _⟩
theorem vd_64_96 (E : ac_E) : ac_V E ac_MDf ac_HDf 64 96 (.inl (o_ald 0 97)) := ⟨ok_aload_n dd_64_96, mn_ald _ _⟩
theorem vd_64_97 (E : ac_E) : ac_V E ac_MDf ac_HDf 64 97 (.inl (o_get 4 7 100)) := ⟨ok_getf (ci := 4) (f := 7) (C := RX4) (T := TX4) (N := 12) (ref := RX4) rfl win_4 (by decide) rfl wm_170 dd_64_97, mn_get _ _ _⟩
theorem vd_64_100 (E : ac_E) : ac_V E ac_MDf ac_HDf 64 100 (.inl (o_ild 3 101)) := ⟨ok_iload_n dd_64_100, mn_ild _ _⟩
theorem vd_64_101 (E : ac_E) : ac_V E ac_MDf ac_HDf 64 101 (.inl (o_inc 3 1 104)) := ⟨ok_iinc dd_64_101 (by decide), mn_inc _ _ _⟩
theorem vd_64_104 (E : ac_E) : ac_V E ac_MDf ac_HDf 64 104 (.inl (o_ild 4 106)) := ⟨ok_iload dd_64_104, mn_ild _ _⟩
theorem vd_64_106 (E : ac_E) : ac_V E ac_MDf ac_HDf 64 106 (.inl (o_is 107)) := ⟨ok_iastore dd_64_106, mn_is _⟩
theorem vd_64_107 (E : ac_E) : ac_V E ac_MDf ac_HDf 64 107 (.inl (o_inc 4 1 110)) := ⟨ok_iinc dd_64_107 (by decide), mn_inc _ _ _⟩
theorem vd_64_110 (E : ac_E) : ac_V E ac_MDf ac_HDf 64 110 (.inl (o_go 7)) := ⟨ok_goto dd_64_110 (by decide), mn_go _⟩
theorem vd_64_113 (E : ac_E) : ac_V E ac_MDf ac_HDf 64 113 (.inl (o_con (.int 0) 114)) := ⟨ok_iconst dd_64_113 (by decide), mn_con _ _⟩
theorem vd_64_114 (E : ac_E) : ac_V E ac_MDf ac_HDf 64 114 (.inl (o_ist 4 116)) := ⟨ok_istore dd_64_114, mn_ist _ _⟩
theorem vd_64_116 (E : ac_E) : ac_V E ac_MDf ac_HDf 64 116 (.inl (o_ild 4 118)) := ⟨ok_iload dd_64_116, mn_ild _ _⟩
theorem vd_64_118 (E : ac_E) : ac_V E ac_MDf ac_HDf 64 118 (.inl (o_ild 2 119)) := ⟨ok_iload_n dd_64_118, mn_ild _ _⟩
theorem vd_64_119 (E : ac_E) : ac_V E ac_MDf ac_HDf 64 119 (.inl (o_ge 172 122)) := ⟨ok_icmpge dd_64_119 (by decide), mn_ge _ _⟩
theorem vd_64_122 (E : ac_E) : ac_V E ac_MDf ac_HDf 64 122 (.inl (o_ald 0 123)) := ⟨ok_aload_n dd_64_122, mn_ald _ _⟩
theorem vd_64_123 (E : ac_E) : ac_V E ac_MDf ac_HDf 64 123 (.inl (o_get 4 1 126)) := ⟨ok_getf (ci := 4) (f := 1) (C := RX4) (T := TX4) (N := 12) (ref := RX4) rfl win_4 (by decide) rfl wm_164 dd_64_123, mn_get _ _ _⟩
theorem vd_64_126 (E : ac_E) : ac_V E ac_MDf ac_HDf 64 126 (.inl (o_ald 0 127)) := ⟨ok_aload_n dd_64_126, mn_ald _ _⟩
theorem vd_64_127 (E : ac_E) : ac_V E ac_MDf ac_HDf 64 127 (.inl (o_get 4 6 130)) := ⟨ok_getf (ci := 4) (f := 6) (C := RX4) (T := TX4) (N := 12) (ref := RX4) rfl win_4 (by decide) rfl wm_169 dd_64_127, mn_get _ _ _⟩
theorem vd_64_130 (E : ac_E) : ac_V E ac_MDf ac_HDf 64 130 (.inl (o_ild 4 132)) := ⟨ok_iload dd_64_130, mn_ild _ _⟩
theorem vd_64_132 (E : ac_E) : ac_V E ac_MDf ac_HDf 64 132 (.inl (o_ia 133)) := ⟨ok_iaload dd_64_132, mn_ia _⟩
theorem vd_64_133 (E : ac_E) : ac_V E ac_MDf ac_HDf 64 133 (.inl (o_con (.int 4) 134)) := ⟨ok_iconst dd_64_133 (by decide), mn_con _ _⟩
theorem vd_64_134 (E : ac_E) : ac_V E ac_MDf ac_HDf 64 134 (.inl (o_is 135)) := ⟨ok_iastore dd_64_134, mn_is _⟩
theorem vd_64_135 (E : ac_E) : ac_V E ac_MDf ac_HDf 64 135 (.inl (o_ald 0 136)) := ⟨ok_aload_n dd_64_135, mn_ald _ _⟩
theorem vd_64_136 (E : ac_E) : ac_V E ac_MDf ac_HDf 64 136 (.inl (o_get 4 1 139)) := ⟨ok_getf (ci := 4) (f := 1) (C := RX4) (T := TX4) (N := 12) (ref := RX4) rfl win_4 (by decide) rfl wm_164 dd_64_136, mn_get _ _ _⟩
theorem vd_64_139 (E : ac_E) : ac_V E ac_MDf ac_HDf 64 139 (.inl (o_ald 0 140)) := ⟨ok_aload_n dd_64_139, mn_ald _ _⟩
theorem vd_64_140 (E : ac_E) : ac_V E ac_MDf ac_HDf 64 140 (.inl (o_get 4 7 143)) := ⟨ok_getf (ci := 4) (f := 7) (C := RX4) (T := TX4) (N := 12) (ref := RX4) rfl win_4 (by decide) rfl wm_170 dd_64_140, mn_get _ _ _⟩
theorem vd_64_143 (E : ac_E) : ac_V E ac_MDf ac_HDf 64 143 (.inl (o_ild 4 145)) := ⟨ok_iload dd_64_143, mn_ild _ _⟩
theorem vd_64_145 (E : ac_E) : ac_V E ac_MDf ac_HDf 64 145 (.inl (o_ia 146)) := ⟨ok_iaload dd_64_145, mn_ia _⟩
theorem vd_64_146 (E : ac_E) : ac_V E ac_MDf ac_HDf 64 146 (.inl (o_con (.int 0) 147)) := ⟨ok_iconst dd_64_146 (by decide), mn_con _ _⟩
theorem vd_64_147 (E : ac_E) : ac_V E ac_MDf ac_HDf 64 147 (.inl (o_is 148)) := ⟨ok_iastore dd_64_147, mn_is _⟩
theorem vd_64_148 (E : ac_E) : ac_V E ac_MDf ac_HDf 64 148 (.inl (o_ald 0 149)) := ⟨ok_aload_n dd_64_148, mn_ald _ _⟩
theorem vd_64_149 (E : ac_E) : ac_V E ac_MDf ac_HDf 64 149 (.inl (o_ald 0 150)) := ⟨ok_aload_n dd_64_149, mn_ald _ _⟩
theorem vd_64_150 (E : ac_E) : ac_V E ac_MDf ac_HDf 64 150 (.inl (o_get 4 6 153)) := ⟨ok_getf (ci := 4) (f := 6) (C := RX4) (T := TX4) (N := 12) (ref := RX4) rfl win_4 (by decide) rfl wm_169 dd_64_150, mn_get _ _ _⟩
theorem vd_64_153 (E : ac_E) : ac_V E ac_MDf ac_HDf 64 153 (.inl (o_ild 4 155)) := ⟨ok_iload dd_64_153, mn_ild _ _⟩
theorem vd_64_155 (E : ac_E) : ac_V E ac_MDf ac_HDf 64 155 (.inl (o_ia 156)) := ⟨ok_iaload dd_64_155, mn_ia _⟩
theorem vd_64_156 (E : ac_E) : ac_V E ac_MDf ac_HDf 64 156 (.inl (o_ald 0 157)) := ⟨ok_aload_n dd_64_156, mn_ald _ _⟩
theorem vd_64_157 (E : ac_E) : ac_V E ac_MDf ac_HDf 64 157 (.inl (o_get 4 7 160)) := ⟨ok_getf (ci := 4) (f := 7) (C := RX4) (T := TX4) (N := 12) (ref := RX4) rfl win_4 (by decide) rfl wm_170 dd_64_157, mn_get _ _ _⟩
theorem vd_64_160 (E : ac_E) : ac_V E ac_MDf ac_HDf 64 160 (.inl (o_ild 4 162)) := ⟨ok_iload dd_64_160, mn_ild _ _⟩
theorem vd_64_162 (E : ac_E) : ac_V E ac_MDf ac_HDf 64 162 (.inl (o_ia 163)) := ⟨ok_iaload dd_64_162, mn_ia _⟩
theorem vd_64_163 (E : ac_E) : ac_V E ac_MDf ac_HDf 64 163 (.inr (.inl (65,3,166,6))) := ac_Vc0 ((ok_callV (T := TX4) (N := 12) rfl rfl (by decide) (by decide +kernel) wm_531 wm_50 wm_528 wm_530 wm_24 dd_64_163).1) (fun _ => rfl)
theorem vd_64_166 (E : ac_E) : ac_V E ac_MDf ac_HDf 64 166 (.inl (o_inc 4 1 169)) := ⟨ok_iinc dd_64_166 (by decide), mn_inc _ _ _⟩
theorem vd_64_169 (E : ac_E) : ac_V E ac_MDf ac_HDf 64 169 (.inl (o_go 116)) := ⟨ok_goto dd_64_169 (by decide), mn_go _⟩
theorem vd_64_172 (E : ac_E) : ac_V E ac_MDf ac_HDf 64 172 (.inr (.inr (.inl 0))) := ⟨fun _ => ⟨dd_64_172, rfl⟩, fun q => nomatch q, fun q => nomatch q⟩
theorem va_64 (E : ac_E) (pc : Nat) : ac_V E ac_MDf ac_HDf 64 pc (tb_64 (ac_len E) (ac_xs E) pc) := (ac_node (ac_node (ac_node (ac_node (ac_node (ac_node (ac_leaf 0 (vd_64_0 E)) (ac_leaf 1 (vd_64_1 E))) (ac_node (ac_leaf 2 (vd_64_2 E)) (ac_node (ac_leaf 3 (vd_64_3 E)) (ac_leaf 4 (vd_64_4 E))))) (ac_node (ac_node (ac_leaf 5 (vd_64_5 E)) (ac_node (ac_leaf 7 (vd_64_7 E)) (ac_leaf 9 (vd_64_9 E)))) (ac_node (ac_leaf 10 (vd_64_10 E)) (ac_node (ac_leaf 13 (vd_64_13 E)) (ac_leaf 16 (vd_64_16 E)))))) (ac_node (ac_node (ac_node (ac_leaf 19 (vd_64_19 E)) (ac_node (ac_leaf 20 (vd_64_20 E)) (ac_leaf 23 (vd_64_23 E)))) (ac_node (ac_leaf 25 (vd_64_25 E)) (ac_node (ac_leaf 26 (vd_64_26 E)) (ac_leaf 27 (vd_64_27 E))))) (ac_node (ac_node (ac_leaf 30 (vd_64_30 E)) (ac_node (ac_leaf 31 (vd_64_31 E)) (ac_leaf 34 (vd_64_34 E)))) (ac_node (ac_leaf 35 (vd_64_35 E)) (ac_node (ac_leaf 37 (vd_64_37 E)) (ac_leaf 38 (vd_64_38 E))))))) (ac_node (ac_node (ac_node (ac_node (ac_leaf 41 (vd_64_41 E)) (ac_leaf 42 (vd_64_42 E))) (ac_node (ac_leaf 45 (vd_64_45 E)) (ac_node (ac_leaf 47 (vd_64_47 E)) (ac_leaf 48 (vd_64_48 E))))) (ac_node (ac_node (ac_leaf 49 (vd_64_49 E)) (ac_node (ac_leaf 50 (vd_64_50 E)) (ac_leaf 53 (vd_64_53 E)))) (ac_node (ac_leaf 54 (vd_64_54 E)) (ac_node (ac_leaf 55 (vd_64_55 E)) (ac_leaf 58 (vd_64_58 E)))))) (ac_node (ac_node (ac_node (ac_leaf 59 (vd_64_59 E)) (ac_node (ac_leaf 62 (vd_64_62 E)) (ac_leaf 63 (vd_64_63 E)))) (ac_node (ac_leaf 65 (vd_64_65 E)) (ac_node (ac_leaf 67 (vd_64_67 E)) (ac_leaf 70 (vd_64_70 E))))) (ac_node (ac_node (ac_leaf 72 (vd_64_72 E)) (ac_node (ac_leaf 75 (vd_64_75 E)) (ac_leaf 76 (vd_64_76 E)))) (ac_node (ac_leaf 79 (vd_64_79 E)) (ac_node (ac_leaf 80 (vd_64_80 E)) (ac_leaf 83 (vd_64_83 E)))))))) (ac_node (ac_node (ac_node (ac_node (ac_node (ac_leaf 85 (vd_64_85 E)) (ac_leaf 86 (vd_64_86 E))) (ac_node (ac_leaf 88 (vd_64_88 E)) (ac_node (ac_leaf 91 (vd_64_91 E)) (ac_leaf 93 (vd_64_93 E))))) (ac_node (ac_node (ac_leaf 96 (vd_64_96 E)) (ac_node (ac_leaf 97 (vd_64_97 E)) (ac_leaf 100 (vd_64_100 E)))) (ac_node (ac_leaf 101 (vd_64_101 E)) (ac_node (ac_leaf 104 (vd_64_104 E)) (ac_leaf 106 (vd_64_106 E)))))) (ac_node (ac_node (ac_node (ac_leaf 107 (vd_64_107 E)) (ac_node (ac_leaf 110 (vd_64_110 E)) (ac_leaf 113 (vd_64_113 E)))) (ac_node (ac_leaf 114 (vd_64_114 E)) (ac_node (ac_leaf 116 (vd_64_116 E)) (ac_leaf 118 (vd_64_118 E))))) (ac_node (ac_node (ac_leaf 119 (vd_64_119 E)) (ac_node (ac_leaf 122 (vd_64_122 E)) (ac_leaf 123 (vd_64_123 E)))) (ac_node (ac_leaf 126 (vd_64_126 E)) (ac_node (ac_leaf 127 (vd_64_127 E)) (ac_leaf 130 (vd_64_130 E))))))) (ac_node (ac_node (ac_node (ac_node (ac_leaf 132 (vd_64_132 E)) (ac_node (ac_leaf 133 (vd_64_133 E)) (ac_leaf 134 (vd_64_134 E)))) (ac_node (ac_leaf 135 (vd_64_135 E)) (ac_node (ac_leaf 136 (vd_64_136 E)) (ac_leaf 139 (vd_64_139 E))))) (ac_node (ac_node (ac_leaf 140 (vd_64_140 E)) (ac_node (ac_leaf 143 (vd_64_143 E)) (ac_leaf 145 (vd_64_145 E)))) (ac_node (ac_leaf 146 (vd_64_146 E)) (ac_node (ac_leaf 147 (vd_64_147 E)) (ac_leaf 148 (vd_64_148 E)))))) (ac_node (ac_node (ac_node (ac_leaf 149 (vd_64_149 E)) (ac_node (ac_leaf 150 (vd_64_150 E)) (ac_leaf 153 (vd_64_153 E)))) (ac_node (ac_leaf 155 (vd_64_155 E)) (ac_node (ac_leaf 156 (vd_64_156 E)) (ac_leaf 157 (vd_64_157 E))))) (ac_node (ac_node (ac_leaf 160 (vd_64_160 E)) (ac_node (ac_leaf 162 (vd_64_162 E)) (ac_leaf 163 (vd_64_163 E)))) (ac_node (ac_leaf 166 (vd_64_166 E)) (ac_node (ac_leaf 169 (vd_64_169 E)) (ac_leaf 172 (vd_64_172 E)))))))))
theorem vd_65_0 (E : ac_E) : ac_V E ac_MDf ac_HDf 65 0 (.inl (o_ald 0 1)) := ⟨ok_aload_n dd_65_0, mn_ald _ _⟩
theorem vd_65_1 (E : ac_E) : ac_V E ac_MDf ac_HDf 65 1 (.inl (o_get 4 8 4)) := ⟨ok_getf (ci := 4) (f := 8) (C := RX4) (T := TX4) (N := 12) (ref := RX4) rfl win_4 (by decide) rfl wm_171 dd_65_1, mn_get _ _ _⟩
theorem vd_65_4 (E : ac_E) : ac_V E ac_MDf ac_HDf 65 4 (.inl (o_ild 1 5)) := ⟨ok_iload_n dd_65_4, mn_ild _ _⟩
theorem vd_65_5 (E : ac_E) : ac_V E ac_MDf ac_HDf 65 5 (.inl (o_ia 6)) := ⟨ok_iaload dd_65_5, mn_ia _⟩
theorem vd_65_6 (E : ac_E) : ac_V E ac_MDf ac_HDf 65 6 (.inl (o_ist 3 7)) := ⟨ok_istore_n dd_65_6, mn_ist _ _⟩
theorem vd_65_7 (E : ac_E) : ac_V E ac_MDf ac_HDf 65 7 (.inl (o_ald 0 8)) := ⟨ok_aload_n dd_65_7, mn_ald _ _⟩
theorem vd_65_8 (E : ac_E) : ac_V E ac_MDf ac_HDf 65 8 (.inl (o_get 4 8 11)) := ⟨ok_getf (ci := 4) (f := 8) (C := RX4) (T := TX4) (N := 12) (ref := RX4) rfl win_4 (by decide) rfl wm_171 dd_65_8, mn_get _ _ _⟩
theorem vd_65_11 (E : ac_E) : ac_V E ac_MDf ac_HDf 65 11 (.inl (o_ild 1 12)) := ⟨ok_iload_n dd_65_11, mn_ild _ _⟩
theorem vd_65_12 (E : ac_E) : ac_V E ac_MDf ac_HDf 65 12 (.inl (o_ald 0 13)) := ⟨ok_aload_n dd_65_12, mn_ald _ _⟩
theorem vd_65_13 (E : ac_E) : ac_V E ac_MDf ac_HDf 65 13 (.inl (o_get 4 8 16)) := ⟨ok_getf (ci := 4) (f := 8) (C := RX4) (T := TX4) (N := 12) (ref := RX4) rfl win_4 (by decide) rfl wm_171 dd_65_13, mn_get _ _ _⟩
theorem vd_65_16 (E : ac_E) : ac_V E ac_MDf ac_HDf 65 16 (.inl (o_ild 2 17)) := ⟨ok_iload_n dd_65_16, mn_ild _ _⟩
theorem vd_65_17 (E : ac_E) : ac_V E ac_MDf ac_HDf 65 17 (.inl (o_ia 18)) := ⟨ok_iaload dd_65_17, mn_ia _⟩
theorem vd_65_18 (E : ac_E) : ac_V E ac_MDf ac_HDf 65 18 (.inl (o_is 19)) := ⟨ok_iastore dd_65_18, mn_is _⟩
theorem vd_65_19 (E : ac_E) : ac_V E ac_MDf ac_HDf 65 19 (.inl (o_ald 0 20)) := ⟨ok_aload_n dd_65_19, mn_ald _ _⟩
theorem vd_65_20 (E : ac_E) : ac_V E ac_MDf ac_HDf 65 20 (.inl (o_get 4 8 23)) := ⟨ok_getf (ci := 4) (f := 8) (C := RX4) (T := TX4) (N := 12) (ref := RX4) rfl win_4 (by decide) rfl wm_171 dd_65_20, mn_get _ _ _⟩
theorem vd_65_23 (E : ac_E) : ac_V E ac_MDf ac_HDf 65 23 (.inl (o_ild 2 24)) := ⟨ok_iload_n dd_65_23, mn_ild _ _⟩
theorem vd_65_24 (E : ac_E) : ac_V E ac_MDf ac_HDf 65 24 (.inl (o_ild 3 25)) := ⟨ok_iload_n dd_65_24, mn_ild _ _⟩
theorem vd_65_25 (E : ac_E) : ac_V E ac_MDf ac_HDf 65 25 (.inl (o_is 26)) := ⟨ok_iastore dd_65_25, mn_is _⟩
theorem vd_65_26 (E : ac_E) : ac_V E ac_MDf ac_HDf 65 26 (.inl (o_ald 0 27)) := ⟨ok_aload_n dd_65_26, mn_ald _ _⟩
theorem vd_65_27 (E : ac_E) : ac_V E ac_MDf ac_HDf 65 27 (.inl (o_get 4 5 30)) := ⟨ok_getf (ci := 4) (f := 5) (C := RX4) (T := TX4) (N := 12) (ref := RX4) rfl win_4 (by decide) rfl wm_168 dd_65_27, mn_get _ _ _⟩
theorem vd_65_30 (E : ac_E) : ac_V E ac_MDf ac_HDf 65 30 (.inl (o_ild 1 31)) := ⟨ok_iload_n dd_65_30, mn_ild _ _⟩
theorem vd_65_31 (E : ac_E) : ac_V E ac_MDf ac_HDf 65 31 (.inl (o_ild 2 32)) := ⟨ok_iload_n dd_65_31, mn_ild _ _⟩
theorem vd_65_32 (E : ac_E) : ac_V E ac_MDf ac_HDf 65 32 (.inr (.inl (22,3,35,5))) := ac_Vc0 (ok_callVN (T := TX3) (N := 3) rfl rfl (by decide) (by decide +kernel) wm_535 wm_55 wm_532 wm_534 wm_25 dd_65_32) (fun _ => rfl)
theorem vd_65_35 (E : ac_E) : ac_V E ac_MDf ac_HDf 65 35 (.inr (.inr (.inl 0))) := ⟨fun _ => ⟨dd_65_35, rfl⟩, fun q => nomatch q, fun q => nomatch q⟩
theorem va_65 (E : ac_E) (pc : Nat) : ac_V E ac_MDf ac_HDf 65 pc (tb_65 (ac_len E) (ac_xs E) pc) := (ac_node (ac_node (ac_node (ac_node (ac_leaf 0 (vd_65_0 E)) (ac_node (ac_leaf 1 (vd_65_1 E)) (ac_leaf 4 (vd_65_4 E)))) (ac_node (ac_leaf 5 (vd_65_5 E)) (ac_node (ac_leaf 6 (vd_65_6 E)) (ac_leaf 7 (vd_65_7 E))))) (ac_node (ac_node (ac_leaf 8 (vd_65_8 E)) (ac_node (ac_leaf 11 (vd_65_11 E)) (ac_leaf 12 (vd_65_12 E)))) (ac_node (ac_leaf 13 (vd_65_13 E)) (ac_node (ac_leaf 16 (vd_65_16 E)) (ac_leaf 17 (vd_65_17 E)))))) (ac_node (ac_node (ac_node (ac_leaf 18 (vd_65_18 E)) (ac_node (ac_leaf 19 (vd_65_19 E)) (ac_leaf 20 (vd_65_20 E)))) (ac_node (ac_leaf 23 (vd_65_23 E)) (ac_node (ac_leaf 24 (vd_65_24 E)) (ac_leaf 25 (vd_65_25 E))))) (ac_node (ac_node (ac_leaf 26 (vd_65_26 E)) (ac_node (ac_leaf 27 (vd_65_27 E)) (ac_leaf 30 (vd_65_30 E)))) (ac_node (ac_leaf 31 (vd_65_31 E)) (ac_node (ac_leaf 32 (vd_65_32 E)) (ac_leaf 35 (vd_65_35 E)))))))
theorem vd_66_0 (E : ac_E) : ac_V E ac_MDf ac_HDf 66 0 (.inl (o_ald 0 1)) := ⟨ok_aload_n dd_66_0, mn_ald _ _⟩
theorem vd_66_1 (E : ac_E) : ac_V E ac_MDf ac_HDf 66 1 (.inl (o_obj1 4)) := ⟨ok_obj wm_637 wm_73 wm_74 (by decide) (by decide) dd_66_1, mn_obj1 _⟩
theorem vd_66_4 (E : ac_E) : ac_V E ac_MDf ac_HDf 66 4 (.inl (o_ald 0 5)) := ⟨ok_aload_n dd_66_4, mn_ald _ _⟩
theorem vd_66_5 (E : ac_E) : ac_V E ac_MDf ac_HDf 66 5 (.inl (o_con (.int 256) 8)) := ⟨ok_sipush dd_66_5 (by decide), mn_con _ _⟩
theorem vd_66_8 (E : ac_E) : ac_V E ac_MDf ac_HDf 66 8 (.inl (o_ni 10)) := ⟨ok_ni dd_66_8 wm_109, mn_ni _⟩
theorem vd_66_10 (E : ac_E) : ac_V E ac_MDf ac_HDf 66 10 (.inl (o_pur 5 5 13)) := ⟨ok_purF (ci := 5) (f := 5) (C := RX5) (T := TX5) (N := 17) (ref := RX5) rfl win_5 (by decide) rfl tyX5 tyX5_ok nmX5 (by decide +kernel : _ = some (.array .int)) (Or.inr ⟨_, rfl⟩) rfl rfl rfl wm_643 dd_66_10, mn_pur _ _ _⟩
theorem vd_66_13 (E : ac_E) : ac_V E ac_MDf ac_HDf 66 13 (.inl (o_ald 0 14)) := ⟨ok_aload_n dd_66_13, mn_ald _ _⟩
theorem vd_66_14 (E : ac_E) : ac_V E ac_MDf ac_HDf 66 14 (.inl (o_con (.int 256) 17)) := ⟨ok_sipush dd_66_14 (by decide), mn_con _ _⟩
theorem vd_66_17 (E : ac_E) : ac_V E ac_MDf ac_HDf 66 17 (.inl (o_ni 19)) := ⟨ok_ni dd_66_17 wm_109, mn_ni _⟩
theorem vd_66_19 (E : ac_E) : ac_V E ac_MDf ac_HDf 66 19 (.inl (o_pur 5 6 22)) := ⟨ok_purF (ci := 5) (f := 6) (C := RX5) (T := TX5) (N := 17) (ref := RX5) rfl win_5 (by decide) rfl tyX5 tyX5_ok nmX5 (by decide +kernel : _ = some (.array .int)) (Or.inr ⟨_, rfl⟩) rfl rfl rfl wm_644 dd_66_19, mn_pur _ _ _⟩
theorem vd_66_22 (E : ac_E) : ac_V E ac_MDf ac_HDf 66 22 (.inl (o_ald 0 23)) := ⟨ok_aload_n dd_66_22, mn_ald _ _⟩
theorem vd_66_23 (E : ac_E) : ac_V E ac_MDf ac_HDf 66 23 (.inl (o_con (.int 256) 26)) := ⟨ok_sipush dd_66_23 (by decide), mn_con _ _⟩
theorem vd_66_26 (E : ac_E) : ac_V E ac_MDf ac_HDf 66 26 (.inl (o_ni 28)) := ⟨ok_ni dd_66_26 wm_109, mn_ni _⟩
theorem vd_66_28 (E : ac_E) : ac_V E ac_MDf ac_HDf 66 28 (.inl (o_pur 5 7 31)) := ⟨ok_purF (ci := 5) (f := 7) (C := RX5) (T := TX5) (N := 17) (ref := RX5) rfl win_5 (by decide) rfl tyX5 tyX5_ok nmX5 (by decide +kernel : _ = some (.array .int)) (Or.inr ⟨_, rfl⟩) rfl rfl rfl wm_645 dd_66_28, mn_pur _ _ _⟩
theorem vd_66_31 (E : ac_E) : ac_V E ac_MDf ac_HDf 66 31 (.inl (o_ald 0 32)) := ⟨ok_aload_n dd_66_31, mn_ald _ _⟩
theorem vd_66_32 (E : ac_E) : ac_V E ac_MDf ac_HDf 66 32 (.inl (o_con (.int 256) 35)) := ⟨ok_sipush dd_66_32 (by decide), mn_con _ _⟩
theorem vd_66_35 (E : ac_E) : ac_V E ac_MDf ac_HDf 66 35 (.inl (o_ni 37)) := ⟨ok_ni dd_66_35 wm_109, mn_ni _⟩
theorem vd_66_37 (E : ac_E) : ac_V E ac_MDf ac_HDf 66 37 (.inl (o_pur 5 8 40)) := ⟨ok_purF (ci := 5) (f := 8) (C := RX5) (T := TX5) (N := 17) (ref := RX5) rfl win_5 (by decide) rfl tyX5 tyX5_ok nmX5 (by decide +kernel : _ = some (.array .int)) (Or.inr ⟨_, rfl⟩) rfl rfl rfl wm_646 dd_66_37, mn_pur _ _ _⟩
theorem vd_66_40 (E : ac_E) : ac_V E ac_MDf ac_HDf 66 40 (.inl (o_ald 0 41)) := ⟨ok_aload_n dd_66_40, mn_ald _ _⟩
theorem vd_66_41 (E : ac_E) : ac_V E ac_MDf ac_HDf 66 41 (.inl (o_con (.int 256) 44)) := ⟨ok_sipush dd_66_41 (by decide), mn_con _ _⟩
theorem vd_66_44 (E : ac_E) : ac_V E ac_MDf ac_HDf 66 44 (.inl (o_nz 46)) := ⟨ok_nz dd_66_44 wm_690, mn_nz _⟩
theorem vd_66_46 (E : ac_E) : ac_V E ac_MDf ac_HDf 66 46 (.inl (o_pur 5 9 49)) := ⟨ok_purF (ci := 5) (f := 9) (C := RX5) (T := TX5) (N := 17) (ref := RX5) rfl win_5 (by decide) rfl tyX5 tyX5_ok nmX5 (by decide +kernel : _ = some (.array .boolean)) (Or.inr ⟨_, rfl⟩) rfl rfl rfl wm_647 dd_66_46, mn_pur _ _ _⟩
theorem vd_66_49 (E : ac_E) : ac_V E ac_MDf ac_HDf 66 49 (.inl (o_ald 0 50)) := ⟨ok_aload_n dd_66_49, mn_ald _ _⟩
theorem vd_66_50 (E : ac_E) : ac_V E ac_MDf ac_HDf 66 50 (.inl (o_con (.int 12) 52)) := ⟨ok_bipush dd_66_50 (by decide), mn_con _ _⟩
theorem vd_66_52 (E : ac_E) : ac_V E ac_MDf ac_HDf 66 52 (.inl (o_ni 54)) := ⟨ok_ni dd_66_52 wm_109, mn_ni _⟩
theorem vd_66_54 (E : ac_E) : ac_V E ac_MDf ac_HDf 66 54 (.inl (o_pur 5 10 57)) := ⟨ok_purF (ci := 5) (f := 10) (C := RX5) (T := TX5) (N := 17) (ref := RX5) rfl win_5 (by decide) rfl tyX5 tyX5_ok nmX5 (by decide +kernel : _ = some (.array .int)) (Or.inr ⟨_, rfl⟩) rfl rfl rfl wm_648 dd_66_54, mn_pur _ _ _⟩
theorem vd_66_57 (E : ac_E) : ac_V E ac_MDf ac_HDf 66 57 (.inl (o_ald 0 58)) := ⟨ok_aload_n dd_66_57, mn_ald _ _⟩
theorem vd_66_58 (E : ac_E) : ac_V E ac_MDf ac_HDf 66 58 (.inl (o_con (.int 100) 60)) := ⟨ok_bipush dd_66_58 (by decide), mn_con _ _⟩
theorem vd_66_60 (E : ac_E) : ac_V E ac_MDf ac_HDf 66 60 (.inl (o_put 5 11 63)) := ⟨ok_putf (ci := 5) (f := 11) (C := RX5) (T := TX5) (N := 17) (ref := RX5) rfl win_5 (by decide) rfl tyX5 tyX5_ok nmX5 (by decide +kernel) rfl wm_649 dd_66_60, mn_put _ _ _⟩
theorem vd_66_63 (E : ac_E) : ac_V E ac_MDf ac_HDf 66 63 (.inl (o_ald 0 64)) := ⟨ok_aload_n dd_66_63, mn_ald _ _⟩
theorem vd_66_64 (E : ac_E) : ac_V E ac_MDf ac_HDf 66 64 (.inl (o_con (.int 2) 65)) := ⟨ok_iconst dd_66_64 (by decide), mn_con _ _⟩
theorem vd_66_65 (E : ac_E) : ac_V E ac_MDf ac_HDf 66 65 (.inl (o_ni 67)) := ⟨ok_ni dd_66_65 wm_109, mn_ni _⟩
theorem vd_66_67 (E : ac_E) : ac_V E ac_MDf ac_HDf 66 67 (.inl (o_pur 5 12 70)) := ⟨ok_purF (ci := 5) (f := 12) (C := RX5) (T := TX5) (N := 17) (ref := RX5) rfl win_5 (by decide) rfl tyX5 tyX5_ok nmX5 (by decide +kernel : _ = some (.array .int)) (Or.inr ⟨_, rfl⟩) rfl rfl rfl wm_650 dd_66_67, mn_pur _ _ _⟩
theorem vd_66_70 (E : ac_E) : ac_V E ac_MDf ac_HDf 66 70 (.inl (o_ald 0 71)) := ⟨ok_aload_n dd_66_70, mn_ald _ _⟩
theorem vd_66_71 (E : ac_E) : ac_V E ac_MDf ac_HDf 66 71 (.inl (o_con (.int 4) 72)) := ⟨ok_iconst dd_66_71 (by decide), mn_con _ _⟩
theorem vd_66_72 (E : ac_E) : ac_V E ac_MDf ac_HDf 66 72 (.inl (o_ni 74)) := ⟨ok_ni dd_66_72 wm_109, mn_ni _⟩
theorem vd_66_74 (E : ac_E) : ac_V E ac_MDf ac_HDf 66 74 (.inl (o_pur 5 15 77)) := ⟨ok_purF (ci := 5) (f := 15) (C := RX5) (T := TX5) (N := 17) (ref := RX5) rfl win_5 (by decide) rfl tyX5 tyX5_ok nmX5 (by decide +kernel : _ = some (.array .int)) (Or.inr ⟨_, rfl⟩) rfl rfl rfl wm_653 dd_66_74, mn_pur _ _ _⟩
theorem vd_66_77 (E : ac_E) : ac_V E ac_MDf ac_HDf 66 77 (.inl (o_ald 0 78)) := ⟨ok_aload_n dd_66_77, mn_ald _ _⟩
theorem vd_66_78 (E : ac_E) : ac_V E ac_MDf ac_HDf 66 78 (.inl (o_con (.int 4) 79)) := ⟨ok_iconst dd_66_78 (by decide), mn_con _ _⟩
theorem vd_66_79 (E : ac_E) : ac_V E ac_MDf ac_HDf 66 79 (.inl (o_ni 81)) := ⟨ok_ni dd_66_79 wm_109, mn_ni _⟩
theorem vd_66_81 (E : ac_E) : ac_V E ac_MDf ac_HDf 66 81 (.inl (o_pur 5 16 84)) := ⟨ok_purF (ci := 5) (f := 16) (C := RX5) (T := TX5) (N := 17) (ref := RX5) rfl win_5 (by decide) rfl tyX5 tyX5_ok nmX5 (by decide +kernel : _ = some (.array .int)) (Or.inr ⟨_, rfl⟩) rfl rfl rfl wm_654 dd_66_81, mn_pur _ _ _⟩
theorem vd_66_84 (E : ac_E) : ac_V E ac_MDf ac_HDf 66 84 (.inl (o_ald 0 85)) := ⟨ok_aload_n dd_66_84, mn_ald _ _⟩
theorem vd_66_85 (E : ac_E) : ac_V E ac_MDf ac_HDf 66 85 (.inl (o_ild 1 86)) := ⟨ok_iload_n dd_66_85, mn_ild _ _⟩
theorem vd_66_86 (E : ac_E) : ac_V E ac_MDf ac_HDf 66 86 (.inl (o_con (.int 4) 87)) := ⟨ok_iconst dd_66_86 (by decide), mn_con _ _⟩
theorem vd_66_87 (E : ac_E) : ac_V E ac_MDf ac_HDf 66 87 (.inl (o_lt 102 90)) := ⟨ok_icmplt dd_66_87 (by decide), mn_lt _ _⟩
theorem vd_66_90 (E : ac_E) : ac_V E ac_MDf ac_HDf 66 90 (.inl (o_ild 1 91)) := ⟨ok_iload_n dd_66_90, mn_ild _ _⟩
theorem vd_66_91 (E : ac_E) : ac_V E ac_MDf ac_HDf 66 91 (.inl (o_con (.int 16) 93)) := ⟨ok_bipush dd_66_91 (by decide), mn_con _ _⟩
theorem vd_66_93 (E : ac_E) : ac_V E ac_MDf ac_HDf 66 93 (.inl (o_gt 102 96)) := ⟨ok_icmpgt dd_66_93 (by decide), mn_gt _ _⟩
theorem vd_66_96 (E : ac_E) : ac_V E ac_MDf ac_HDf 66 96 (.inl (o_ild 1 97)) := ⟨ok_iload_n dd_66_96, mn_ild _ _⟩
theorem vd_66_97 (E : ac_E) : ac_V E ac_MDf ac_HDf 66 97 (.inl (o_con (.int 2) 98)) := ⟨ok_iconst dd_66_97 (by decide), mn_con _ _⟩
theorem vd_66_98 (E : ac_E) : ac_V E ac_MDf ac_HDf 66 98 (.inl (o_rem 99)) := ⟨ok_irem dd_66_98, mn_rem _⟩
theorem vd_66_99 (E : ac_E) : ac_V E ac_MDf ac_HDf 66 99 (.inl (o_eq0 107 102)) := ⟨ok_ifeq dd_66_99 (by decide), mn_eq0 _ _⟩
theorem vd_66_102 (E : ac_E) : ac_V E ac_MDf ac_HDf 66 102 (.inl (o_con (.int 8) 104)) := ⟨ok_bipush dd_66_102 (by decide), mn_con _ _⟩
theorem vd_66_104 (E : ac_E) : ac_V E ac_MDf ac_HDf 66 104 (.inl (o_go 108)) := ⟨ok_goto dd_66_104 (by decide), mn_go _⟩
theorem vd_66_107 (E : ac_E) : ac_V E ac_MDf ac_HDf 66 107 (.inl (o_ild 1 108)) := ⟨ok_iload_n dd_66_107, mn_ild _ _⟩
theorem vd_66_108 (E : ac_E) : ac_V E ac_MDf ac_HDf 66 108 (.inl (o_put 5 1 111)) := ⟨ok_putF (ci := 5) (f := 1) (C := RX5) (T := TX5) (N := 17) (ref := RX5) rfl win_5 (by decide) rfl tyX5 tyX5_ok nmX5 (by decide +kernel) rfl rfl rfl wm_639 dd_66_108, mn_put _ _ _⟩
theorem vd_66_111 (E : ac_E) : ac_V E ac_MDf ac_HDf 66 111 (.inl (o_ald 0 112)) := ⟨ok_aload_n dd_66_111, mn_ald _ _⟩
theorem vd_66_112 (E : ac_E) : ac_V E ac_MDf ac_HDf 66 112 (.inl (o_ild 2 113)) := ⟨ok_iload_n dd_66_112, mn_ild _ _⟩
theorem vd_66_113 (E : ac_E) : ac_V E ac_MDf ac_HDf 66 113 (.inl (o_con (.int 4) 114)) := ⟨ok_iconst dd_66_113 (by decide), mn_con _ _⟩
theorem vd_66_114 (E : ac_E) : ac_V E ac_MDf ac_HDf 66 114 (.inl (o_lt 129 117)) := ⟨ok_icmplt dd_66_114 (by decide), mn_lt _ _⟩
theorem vd_66_117 (E : ac_E) : ac_V E ac_MDf ac_HDf 66 117 (.inl (o_ild 2 118)) := ⟨ok_iload_n dd_66_117, mn_ild _ _⟩
theorem vd_66_118 (E : ac_E) : ac_V E ac_MDf ac_HDf 66 118 (.inl (o_con (.int 16) 120)) := ⟨ok_bipush dd_66_118 (by decide), mn_con _ _⟩
theorem vd_66_120 (E : ac_E) : ac_V E ac_MDf ac_HDf 66 120 (.inl (o_gt 129 123)) := ⟨ok_icmpgt dd_66_120 (by decide), mn_gt _ _⟩
theorem vd_66_123 (E : ac_E) : ac_V E ac_MDf ac_HDf 66 123 (.inl (o_ild 2 124)) := ⟨ok_iload_n dd_66_123, mn_ild _ _⟩
theorem vd_66_124 (E : ac_E) : ac_V E ac_MDf ac_HDf 66 124 (.inl (o_con (.int 2) 125)) := ⟨ok_iconst dd_66_124 (by decide), mn_con _ _⟩
theorem vd_66_125 (E : ac_E) : ac_V E ac_MDf ac_HDf 66 125 (.inl (o_rem 126)) := ⟨ok_irem dd_66_125, mn_rem _⟩
theorem vd_66_126 (E : ac_E) : ac_V E ac_MDf ac_HDf 66 126 (.inl (o_eq0 134 129)) := ⟨ok_ifeq dd_66_126 (by decide), mn_eq0 _ _⟩
theorem vd_66_129 (E : ac_E) : ac_V E ac_MDf ac_HDf 66 129 (.inl (o_con (.int 8) 131)) := ⟨ok_bipush dd_66_129 (by decide), mn_con _ _⟩
theorem vd_66_131 (E : ac_E) : ac_V E ac_MDf ac_HDf 66 131 (.inl (o_go 135)) := ⟨ok_goto dd_66_131 (by decide), mn_go _⟩
theorem vd_66_134 (E : ac_E) : ac_V E ac_MDf ac_HDf 66 134 (.inl (o_ild 2 135)) := ⟨ok_iload_n dd_66_134, mn_ild _ _⟩
theorem vd_66_135 (E : ac_E) : ac_V E ac_MDf ac_HDf 66 135 (.inl (o_put 5 2 138)) := ⟨ok_putF (ci := 5) (f := 2) (C := RX5) (T := TX5) (N := 17) (ref := RX5) rfl win_5 (by decide) rfl tyX5 tyX5_ok nmX5 (by decide +kernel) rfl rfl rfl wm_640 dd_66_135, mn_put _ _ _⟩
theorem vd_66_138 (E : ac_E) : ac_V E ac_MDf ac_HDf 66 138 (.inr (.inr (.inl 0))) := ⟨fun _ => ⟨dd_66_138, rfl⟩, fun q => nomatch q, fun q => nomatch q⟩
theorem va_66 (E : ac_E) (pc : Nat) : ac_V E ac_MDf ac_HDf 66 pc (tb_66 (ac_len E) (ac_xs E) pc) := (ac_node (ac_node (ac_node (ac_node (ac_node (ac_node (ac_leaf 0 (vd_66_0 E)) (ac_leaf 1 (vd_66_1 E))) (ac_node (ac_leaf 4 (vd_66_4 E)) (ac_leaf 5 (vd_66_5 E)))) (ac_node (ac_node (ac_leaf 8 (vd_66_8 E)) (ac_leaf 10 (vd_66_10 E))) (ac_node (ac_leaf 13 (vd_66_13 E)) (ac_node (ac_leaf 14 (vd_66_14 E)) (ac_leaf 17 (vd_66_17 E)))))) (ac_node (ac_node (ac_node (ac_leaf 19 (vd_66_19 E)) (ac_leaf 22 (vd_66_22 E))) (ac_node (ac_leaf 23 (vd_66_23 E)) (ac_leaf 26 (vd_66_26 E)))) (ac_node (ac_node (ac_leaf 28 (vd_66_28 E)) (ac_leaf 31 (vd_66_31 E))) (ac_node (ac_leaf 32 (vd_66_32 E)) (ac_node (ac_leaf 35 (vd_66_35 E)) (ac_leaf 37 (vd_66_37 E))))))) (ac_node (ac_node (ac_node (ac_node (ac_leaf 40 (vd_66_40 E)) (ac_leaf 41 (vd_66_41 E))) (ac_node (ac_leaf 44 (vd_66_44 E)) (ac_leaf 46 (vd_66_46 E)))) (ac_node (ac_node (ac_leaf 49 (vd_66_49 E)) (ac_leaf 50 (vd_66_50 E))) (ac_node (ac_leaf 52 (vd_66_52 E)) (ac_node (ac_leaf 54 (vd_66_54 E)) (ac_leaf 57 (vd_66_57 E)))))) (ac_node (ac_node (ac_node (ac_leaf 58 (vd_66_58 E)) (ac_leaf 60 (vd_66_60 E))) (ac_node (ac_leaf 63 (vd_66_63 E)) (ac_leaf 64 (vd_66_64 E)))) (ac_node (ac_node (ac_leaf 65 (vd_66_65 E)) (ac_leaf 67 (vd_66_67 E))) (ac_node (ac_leaf 70 (vd_66_70 E)) (ac_node (ac_leaf 71 (vd_66_71 E)) (ac_leaf 72 (vd_66_72 E)))))))) (ac_node (ac_node (ac_node (ac_node (ac_node (ac_leaf 74 (vd_66_74 E)) (ac_leaf 77 (vd_66_77 E))) (ac_node (ac_leaf 78 (vd_66_78 E)) (ac_leaf 79 (vd_66_79 E)))) (ac_node (ac_node (ac_leaf 81 (vd_66_81 E)) (ac_leaf 84 (vd_66_84 E))) (ac_node (ac_leaf 85 (vd_66_85 E)) (ac_node (ac_leaf 86 (vd_66_86 E)) (ac_leaf 87 (vd_66_87 E)))))) (ac_node (ac_node (ac_node (ac_leaf 90 (vd_66_90 E)) (ac_leaf 91 (vd_66_91 E))) (ac_node (ac_leaf 93 (vd_66_93 E)) (ac_leaf 96 (vd_66_96 E)))) (ac_node (ac_node (ac_leaf 97 (vd_66_97 E)) (ac_leaf 98 (vd_66_98 E))) (ac_node (ac_leaf 99 (vd_66_99 E)) (ac_node (ac_leaf 102 (vd_66_102 E)) (ac_leaf 104 (vd_66_104 E))))))) (ac_node (ac_node (ac_node (ac_node (ac_leaf 107 (vd_66_107 E)) (ac_leaf 108 (vd_66_108 E))) (ac_node (ac_leaf 111 (vd_66_111 E)) (ac_leaf 112 (vd_66_112 E)))) (ac_node (ac_node (ac_leaf 113 (vd_66_113 E)) (ac_leaf 114 (vd_66_114 E))) (ac_node (ac_leaf 117 (vd_66_117 E)) (ac_node (ac_leaf 118 (vd_66_118 E)) (ac_leaf 120 (vd_66_120 E)))))) (ac_node (ac_node (ac_node (ac_leaf 123 (vd_66_123 E)) (ac_leaf 124 (vd_66_124 E))) (ac_node (ac_leaf 125 (vd_66_125 E)) (ac_leaf 126 (vd_66_126 E)))) (ac_node (ac_node (ac_leaf 129 (vd_66_129 E)) (ac_leaf 131 (vd_66_131 E))) (ac_node (ac_leaf 134 (vd_66_134 E)) (ac_node (ac_leaf 135 (vd_66_135 E)) (ac_leaf 138 (vd_66_138 E)))))))))
theorem vd_67_0 (E : ac_E) : ac_V E ac_MDf ac_HDf 67 0 (.inl (o_ald 0 1)) := ⟨ok_aload_n dd_67_0, mn_ald _ _⟩
theorem vd_67_1 (E : ac_E) : ac_V E ac_MDf ac_HDf 67 1 (.inl (o_get 5 0 4)) := ⟨ok_getf (ci := 5) (f := 0) (C := RX5) (T := TX5) (N := 17) (ref := RX5) rfl win_5 (by decide) rfl wm_638 dd_67_1, mn_get _ _ _⟩
theorem vd_67_4 (E : ac_E) : ac_V E ac_MDf ac_HDf 67 4 (.inr (.inr (.inl 1))) := ⟨fun q => nomatch q, fun _ => ⟨dd_67_4, rfl⟩, fun q => nomatch q⟩
theorem va_67 (E : ac_E) (pc : Nat) : ac_V E ac_MDf ac_HDf 67 pc (tb_67 (ac_len E) (ac_xs E) pc) := (ac_node (ac_leaf 0 (vd_67_0 E)) (ac_node (ac_leaf 1 (vd_67_1 E)) (ac_leaf 4 (vd_67_4 E))))
theorem vd_68_0 (E : ac_E) : ac_V E ac_MDf ac_HDf 68 0 (.inl (o_ild 1 1)) := ⟨ok_iload_n dd_68_0, mn_ild _ _⟩
theorem vd_68_1 (E : ac_E) : ac_V E ac_MDf ac_HDf 68 1 (.inl (o_lt0 28 4)) := ⟨ok_iflt dd_68_1 (by decide), mn_lt0 _ _⟩
theorem vd_68_4 (E : ac_E) : ac_V E ac_MDf ac_HDf 68 4 (.inl (o_ild 1 5)) := ⟨ok_iload_n dd_68_4, mn_ild _ _⟩
theorem vd_68_5 (E : ac_E) : ac_V E ac_MDf ac_HDf 68 5 (.inl (o_ald 0 6)) := ⟨ok_aload_n dd_68_5, mn_ald _ _⟩
theorem vd_68_6 (E : ac_E) : ac_V E ac_MDf ac_HDf 68 6 (.inl (o_get 5 1 9)) := ⟨ok_getf (ci := 5) (f := 1) (C := RX5) (T := TX5) (N := 17) (ref := RX5) rfl win_5 (by decide) rfl wm_639 dd_68_6, mn_get _ _ _⟩
theorem vd_68_9 (E : ac_E) : ac_V E ac_MDf ac_HDf 68 9 (.inl (o_ge 28 12)) := ⟨ok_icmpge dd_68_9 (by decide), mn_ge _ _⟩
theorem vd_68_12 (E : ac_E) : ac_V E ac_MDf ac_HDf 68 12 (.inl (o_ild 2 13)) := ⟨ok_iload_n dd_68_12, mn_ild _ _⟩
theorem vd_68_13 (E : ac_E) : ac_V E ac_MDf ac_HDf 68 13 (.inl (o_lt0 28 16)) := ⟨ok_iflt dd_68_13 (by decide), mn_lt0 _ _⟩
theorem vd_68_16 (E : ac_E) : ac_V E ac_MDf ac_HDf 68 16 (.inl (o_ild 2 17)) := ⟨ok_iload_n dd_68_16, mn_ild _ _⟩
theorem vd_68_17 (E : ac_E) : ac_V E ac_MDf ac_HDf 68 17 (.inl (o_ald 0 18)) := ⟨ok_aload_n dd_68_17, mn_ald _ _⟩
theorem vd_68_18 (E : ac_E) : ac_V E ac_MDf ac_HDf 68 18 (.inl (o_get 5 2 21)) := ⟨ok_getf (ci := 5) (f := 2) (C := RX5) (T := TX5) (N := 17) (ref := RX5) rfl win_5 (by decide) rfl wm_640 dd_68_18, mn_get _ _ _⟩
theorem vd_68_21 (E : ac_E) : ac_V E ac_MDf ac_HDf 68 21 (.inl (o_ge 28 24)) := ⟨ok_icmpge dd_68_21 (by decide), mn_ge _ _⟩
theorem vd_68_24 (E : ac_E) : ac_V E ac_MDf ac_HDf 68 24 (.inl (o_con (.int 1) 25)) := ⟨ok_iconst dd_68_24 (by decide), mn_con _ _⟩
theorem vd_68_25 (E : ac_E) : ac_V E ac_MDf ac_HDf 68 25 (.inl (o_go 29)) := ⟨ok_goto dd_68_25 (by decide), mn_go _⟩
theorem vd_68_28 (E : ac_E) : ac_V E ac_MDf ac_HDf 68 28 (.inl (o_con (.int 0) 29)) := ⟨ok_iconst dd_68_28 (by decide), mn_con _ _⟩
theorem vd_68_29 (E : ac_E) : ac_V E ac_MDf ac_HDf 68 29 (.inr (.inr (.inl 2))) := ⟨fun q => nomatch q, fun q => nomatch q, fun _ => ⟨dd_68_29, rfl⟩⟩
theorem va_68 (E : ac_E) (pc : Nat) : ac_V E ac_MDf ac_HDf 68 pc (tb_68 (ac_len E) (ac_xs E) pc) := (ac_node (ac_node (ac_node (ac_node (ac_leaf 0 (vd_68_0 E)) (ac_leaf 1 (vd_68_1 E))) (ac_node (ac_leaf 4 (vd_68_4 E)) (ac_leaf 5 (vd_68_5 E)))) (ac_node (ac_node (ac_leaf 6 (vd_68_6 E)) (ac_leaf 9 (vd_68_9 E))) (ac_node (ac_leaf 12 (vd_68_12 E)) (ac_leaf 13 (vd_68_13 E))))) (ac_node (ac_node (ac_node (ac_leaf 16 (vd_68_16 E)) (ac_leaf 17 (vd_68_17 E))) (ac_node (ac_leaf 18 (vd_68_18 E)) (ac_leaf 21 (vd_68_21 E)))) (ac_node (ac_node (ac_leaf 24 (vd_68_24 E)) (ac_leaf 25 (vd_68_25 E))) (ac_node (ac_leaf 28 (vd_68_28 E)) (ac_leaf 29 (vd_68_29 E))))))
theorem vd_69_0 (E : ac_E) : ac_V E ac_MDf ac_HDf 69 0 (.inl (o_ild 0 1)) := ⟨ok_iload_n dd_69_0, mn_ild _ _⟩
theorem vd_69_1 (E : ac_E) : ac_V E ac_MDf ac_HDf 69 1 (.inl (o_sw [40, 50, 60, 70, 80, 90] 100)) := ⟨ok_sw dd_69_1 rfl (by decide) (by decide) (by decide +kernel), mn_sw _ _⟩
theorem vd_69_40 (E : ac_E) : ac_V E ac_MDf ac_HDf 69 40 (.inl (o_ild 1 41)) := ⟨ok_iload_n dd_69_40, mn_ild _ _⟩
theorem vd_69_41 (E : ac_E) : ac_V E ac_MDf ac_HDf 69 41 (.inl (o_ne0 48 44)) := ⟨ok_ifne dd_69_41 (by decide), mn_ne0 _ _⟩
theorem vd_69_44 (E : ac_E) : ac_V E ac_MDf ac_HDf 69 44 (.inl (o_con (.int 1) 45)) := ⟨ok_iconst dd_69_44 (by decide), mn_con _ _⟩
theorem vd_69_45 (E : ac_E) : ac_V E ac_MDf ac_HDf 69 45 (.inl (o_go 49)) := ⟨ok_goto dd_69_45 (by decide), mn_go _⟩
theorem vd_69_48 (E : ac_E) : ac_V E ac_MDf ac_HDf 69 48 (.inl (o_con (.int 0) 49)) := ⟨ok_iconst dd_69_48 (by decide), mn_con _ _⟩
theorem vd_69_49 (E : ac_E) : ac_V E ac_MDf ac_HDf 69 49 (.inr (.inr (.inl 1))) := ⟨fun q => nomatch q, fun _ => ⟨dd_69_49, rfl⟩, fun q => nomatch q⟩
theorem vd_69_50 (E : ac_E) : ac_V E ac_MDf ac_HDf 69 50 (.inl (o_ild 1 51)) := ⟨ok_iload_n dd_69_50, mn_ild _ _⟩
theorem vd_69_51 (E : ac_E) : ac_V E ac_MDf ac_HDf 69 51 (.inl (o_ne0 58 54)) := ⟨ok_ifne dd_69_51 (by decide), mn_ne0 _ _⟩
theorem vd_69_54 (E : ac_E) : ac_V E ac_MDf ac_HDf 69 54 (.inl (o_con (.int 0) 55)) := ⟨ok_iconst dd_69_54 (by decide), mn_con _ _⟩
theorem vd_69_55 (E : ac_E) : ac_V E ac_MDf ac_HDf 69 55 (.inl (o_go 59)) := ⟨ok_goto dd_69_55 (by decide), mn_go _⟩
theorem vd_69_58 (E : ac_E) : ac_V E ac_MDf ac_HDf 69 58 (.inl (o_con (.int 1) 59)) := ⟨ok_iconst dd_69_58 (by decide), mn_con _ _⟩
theorem vd_69_59 (E : ac_E) : ac_V E ac_MDf ac_HDf 69 59 (.inr (.inr (.inl 1))) := ⟨fun q => nomatch q, fun _ => ⟨dd_69_59, rfl⟩, fun q => nomatch q⟩
theorem vd_69_60 (E : ac_E) : ac_V E ac_MDf ac_HDf 69 60 (.inl (o_ild 1 61)) := ⟨ok_iload_n dd_69_60, mn_ild _ _⟩
theorem vd_69_61 (E : ac_E) : ac_V E ac_MDf ac_HDf 69 61 (.inl (o_ne0 68 64)) := ⟨ok_ifne dd_69_61 (by decide), mn_ne0 _ _⟩
theorem vd_69_64 (E : ac_E) : ac_V E ac_MDf ac_HDf 69 64 (.inl (o_con (.int (-1)) 65)) := ⟨ok_iconst dd_69_64 (by decide), mn_con _ _⟩
theorem vd_69_65 (E : ac_E) : ac_V E ac_MDf ac_HDf 69 65 (.inl (o_go 69)) := ⟨ok_goto dd_69_65 (by decide), mn_go _⟩
theorem vd_69_68 (E : ac_E) : ac_V E ac_MDf ac_HDf 69 68 (.inl (o_con (.int 1) 69)) := ⟨ok_iconst dd_69_68 (by decide), mn_con _ _⟩
theorem vd_69_69 (E : ac_E) : ac_V E ac_MDf ac_HDf 69 69 (.inr (.inr (.inl 1))) := ⟨fun q => nomatch q, fun _ => ⟨dd_69_69, rfl⟩, fun q => nomatch q⟩
theorem vd_69_70 (E : ac_E) : ac_V E ac_MDf ac_HDf 69 70 (.inl (o_ild 1 71)) := ⟨ok_iload_n dd_69_70, mn_ild _ _⟩
theorem vd_69_71 (E : ac_E) : ac_V E ac_MDf ac_HDf 69 71 (.inl (o_ne0 78 74)) := ⟨ok_ifne dd_69_71 (by decide), mn_ne0 _ _⟩
theorem vd_69_74 (E : ac_E) : ac_V E ac_MDf ac_HDf 69 74 (.inl (o_con (.int (-1)) 75)) := ⟨ok_iconst dd_69_74 (by decide), mn_con _ _⟩
theorem vd_69_75 (E : ac_E) : ac_V E ac_MDf ac_HDf 69 75 (.inl (o_go 79)) := ⟨ok_goto dd_69_75 (by decide), mn_go _⟩
theorem vd_69_78 (E : ac_E) : ac_V E ac_MDf ac_HDf 69 78 (.inl (o_con (.int 0) 79)) := ⟨ok_iconst dd_69_78 (by decide), mn_con _ _⟩
theorem vd_69_79 (E : ac_E) : ac_V E ac_MDf ac_HDf 69 79 (.inr (.inr (.inl 1))) := ⟨fun q => nomatch q, fun _ => ⟨dd_69_79, rfl⟩, fun q => nomatch q⟩
theorem vd_69_80 (E : ac_E) : ac_V E ac_MDf ac_HDf 69 80 (.inl (o_ild 1 81)) := ⟨ok_iload_n dd_69_80, mn_ild _ _⟩
theorem vd_69_81 (E : ac_E) : ac_V E ac_MDf ac_HDf 69 81 (.inl (o_ne0 88 84)) := ⟨ok_ifne dd_69_81 (by decide), mn_ne0 _ _⟩
theorem vd_69_84 (E : ac_E) : ac_V E ac_MDf ac_HDf 69 84 (.inl (o_con (.int 0) 85)) := ⟨ok_iconst dd_69_84 (by decide), mn_con _ _⟩
theorem vd_69_85 (E : ac_E) : ac_V E ac_MDf ac_HDf 69 85 (.inl (o_go 89)) := ⟨ok_goto dd_69_85 (by decide), mn_go _⟩
theorem vd_69_88 (E : ac_E) : ac_V E ac_MDf ac_HDf 69 88 (.inl (o_con (.int (-1)) 89)) := ⟨ok_iconst dd_69_88 (by decide), mn_con _ _⟩
theorem vd_69_89 (E : ac_E) : ac_V E ac_MDf ac_HDf 69 89 (.inr (.inr (.inl 1))) := ⟨fun q => nomatch q, fun _ => ⟨dd_69_89, rfl⟩, fun q => nomatch q⟩
theorem vd_69_90 (E : ac_E) : ac_V E ac_MDf ac_HDf 69 90 (.inl (o_ild 1 91)) := ⟨ok_iload_n dd_69_90, mn_ild _ _⟩
theorem vd_69_91 (E : ac_E) : ac_V E ac_MDf ac_HDf 69 91 (.inl (o_ne0 98 94)) := ⟨ok_ifne dd_69_91 (by decide), mn_ne0 _ _⟩
theorem vd_69_94 (E : ac_E) : ac_V E ac_MDf ac_HDf 69 94 (.inl (o_con (.int 1) 95)) := ⟨ok_iconst dd_69_94 (by decide), mn_con _ _⟩
theorem vd_69_95 (E : ac_E) : ac_V E ac_MDf ac_HDf 69 95 (.inl (o_go 99)) := ⟨ok_goto dd_69_95 (by decide), mn_go _⟩
theorem vd_69_98 (E : ac_E) : ac_V E ac_MDf ac_HDf 69 98 (.inl (o_con (.int (-1)) 99)) := ⟨ok_iconst dd_69_98 (by decide), mn_con _ _⟩
theorem vd_69_99 (E : ac_E) : ac_V E ac_MDf ac_HDf 69 99 (.inr (.inr (.inl 1))) := ⟨fun q => nomatch q, fun _ => ⟨dd_69_99, rfl⟩, fun q => nomatch q⟩
theorem vd_69_100 (E : ac_E) : ac_V E ac_MDf ac_HDf 69 100 (.inl (o_con (.int 0) 101)) := ⟨ok_iconst dd_69_100 (by decide), mn_con _ _⟩
theorem vd_69_101 (E : ac_E) : ac_V E ac_MDf ac_HDf 69 101 (.inr (.inr (.inl 1))) := ⟨fun q => nomatch q, fun _ => ⟨dd_69_101, rfl⟩, fun q => nomatch q⟩
theorem va_69 (E : ac_E) (pc : Nat) : ac_V E ac_MDf ac_HDf 69 pc (tb_69 (ac_len E) (ac_xs E) pc) := (ac_node (ac_node (ac_node (ac_node (ac_node (ac_leaf 0 (vd_69_0 E)) (ac_leaf 1 (vd_69_1 E))) (ac_node (ac_leaf 40 (vd_69_40 E)) (ac_node (ac_leaf 41 (vd_69_41 E)) (ac_leaf 44 (vd_69_44 E))))) (ac_node (ac_node (ac_leaf 45 (vd_69_45 E)) (ac_leaf 48 (vd_69_48 E))) (ac_node (ac_leaf 49 (vd_69_49 E)) (ac_node (ac_leaf 50 (vd_69_50 E)) (ac_leaf 51 (vd_69_51 E)))))) (ac_node (ac_node (ac_node (ac_leaf 54 (vd_69_54 E)) (ac_leaf 55 (vd_69_55 E))) (ac_node (ac_leaf 58 (vd_69_58 E)) (ac_node (ac_leaf 59 (vd_69_59 E)) (ac_leaf 60 (vd_69_60 E))))) (ac_node (ac_node (ac_leaf 61 (vd_69_61 E)) (ac_leaf 64 (vd_69_64 E))) (ac_node (ac_leaf 65 (vd_69_65 E)) (ac_node (ac_leaf 68 (vd_69_68 E)) (ac_leaf 69 (vd_69_69 E))))))) (ac_node (ac_node (ac_node (ac_node (ac_leaf 70 (vd_69_70 E)) (ac_leaf 71 (vd_69_71 E))) (ac_node (ac_leaf 74 (vd_69_74 E)) (ac_node (ac_leaf 75 (vd_69_75 E)) (ac_leaf 78 (vd_69_78 E))))) (ac_node (ac_node (ac_leaf 79 (vd_69_79 E)) (ac_leaf 80 (vd_69_80 E))) (ac_node (ac_leaf 81 (vd_69_81 E)) (ac_node (ac_leaf 84 (vd_69_84 E)) (ac_leaf 85 (vd_69_85 E)))))) (ac_node (ac_node (ac_node (ac_leaf 88 (vd_69_88 E)) (ac_leaf 89 (vd_69_89 E))) (ac_node (ac_leaf 90 (vd_69_90 E)) (ac_node (ac_leaf 91 (vd_69_91 E)) (ac_leaf 94 (vd_69_94 E))))) (ac_node (ac_node (ac_leaf 95 (vd_69_95 E)) (ac_leaf 98 (vd_69_98 E))) (ac_node (ac_leaf 99 (vd_69_99 E)) (ac_node (ac_leaf 100 (vd_69_100 E)) (ac_leaf 101 (vd_69_101 E))))))))
theorem vd_70_0 (E : ac_E) : ac_V E ac_MDf ac_HDf 70 0 (.inl (o_ild 0 1)) := ⟨ok_iload_n dd_70_0, mn_ild _ _⟩
theorem vd_70_1 (E : ac_E) : ac_V E ac_MDf ac_HDf 70 1 (.inl (o_ild 1 2)) := ⟨ok_iload_n dd_70_1, mn_ild _ _⟩
theorem vd_70_2 (E : ac_E) : ac_V E ac_MDf ac_HDf 70 2 (.inl (o_shr 3)) := ⟨ok_ishr dd_70_2, mn_shr _⟩
theorem vd_70_3 (E : ac_E) : ac_V E ac_MDf ac_HDf 70 3 (.inl (o_con (.int 1) 4)) := ⟨ok_iconst dd_70_3 (by decide), mn_con _ _⟩
theorem vd_70_4 (E : ac_E) : ac_V E ac_MDf ac_HDf 70 4 (.inl (o_and 5)) := ⟨ok_iand dd_70_4, mn_and _⟩
theorem vd_70_5 (E : ac_E) : ac_V E ac_MDf ac_HDf 70 5 (.inl (o_con (.int 1) 6)) := ⟨ok_iconst dd_70_5 (by decide), mn_con _ _⟩
theorem vd_70_6 (E : ac_E) : ac_V E ac_MDf ac_HDf 70 6 (.inl (o_ne 13 9)) := ⟨ok_icmpne dd_70_6 (by decide), mn_ne _ _⟩
theorem vd_70_9 (E : ac_E) : ac_V E ac_MDf ac_HDf 70 9 (.inl (o_con (.int 1) 10)) := ⟨ok_iconst dd_70_9 (by decide), mn_con _ _⟩
theorem vd_70_10 (E : ac_E) : ac_V E ac_MDf ac_HDf 70 10 (.inl (o_go 14)) := ⟨ok_goto dd_70_10 (by decide), mn_go _⟩
theorem vd_70_13 (E : ac_E) : ac_V E ac_MDf ac_HDf 70 13 (.inl (o_con (.int 0) 14)) := ⟨ok_iconst dd_70_13 (by decide), mn_con _ _⟩
theorem vd_70_14 (E : ac_E) : ac_V E ac_MDf ac_HDf 70 14 (.inr (.inr (.inl 2))) := ⟨fun q => nomatch q, fun q => nomatch q, fun _ => ⟨dd_70_14, rfl⟩⟩
theorem va_70 (E : ac_E) (pc : Nat) : ac_V E ac_MDf ac_HDf 70 pc (tb_70 (ac_len E) (ac_xs E) pc) := (ac_node (ac_node (ac_node (ac_leaf 0 (vd_70_0 E)) (ac_leaf 1 (vd_70_1 E))) (ac_node (ac_leaf 2 (vd_70_2 E)) (ac_node (ac_leaf 3 (vd_70_3 E)) (ac_leaf 4 (vd_70_4 E))))) (ac_node (ac_node (ac_leaf 5 (vd_70_5 E)) (ac_node (ac_leaf 6 (vd_70_6 E)) (ac_leaf 9 (vd_70_9 E)))) (ac_node (ac_leaf 10 (vd_70_10 E)) (ac_node (ac_leaf 13 (vd_70_13 E)) (ac_leaf 14 (vd_70_14 E))))))
theorem vd_71_0 (E : ac_E) : ac_V E ac_MDf ac_HDf 71 0 (.inl (o_con (.int 0) 1)) := ⟨ok_iconst dd_71_0 (by decide), mn_con _ _⟩
theorem vd_71_1 (E : ac_E) : ac_V E ac_MDf ac_HDf 71 1 (.inl (o_ist 1 2)) := ⟨ok_istore_n dd_71_1, mn_ist _ _⟩
theorem vd_71_2 (E : ac_E) : ac_V E ac_MDf ac_HDf 71 2 (.inl (o_con (.int 0) 3)) := ⟨ok_iconst dd_71_2 (by decide), mn_con _ _⟩
theorem vd_71_3 (E : ac_E) : ac_V E ac_MDf ac_HDf 71 3 (.inl (o_ist 2 4)) := ⟨ok_istore_n dd_71_3, mn_ist _ _⟩
theorem vd_71_4 (E : ac_E) : ac_V E ac_MDf ac_HDf 71 4 (.inl (o_ild 2 5)) := ⟨ok_iload_n dd_71_4, mn_ild _ _⟩
theorem vd_71_5 (E : ac_E) : ac_V E ac_MDf ac_HDf 71 5 (.inl (o_con (.int 7) 7)) := ⟨ok_bipush dd_71_5 (by decide), mn_con _ _⟩
theorem vd_71_7 (E : ac_E) : ac_V E ac_MDf ac_HDf 71 7 (.inl (o_ge 32 10)) := ⟨ok_icmpge dd_71_7 (by decide), mn_ge _ _⟩
theorem vd_71_10 (E : ac_E) : ac_V E ac_MDf ac_HDf 71 10 (.inl (o_ild 0 11)) := ⟨ok_iload_n dd_71_10, mn_ild _ _⟩
theorem vd_71_11 (E : ac_E) : ac_V E ac_MDf ac_HDf 71 11 (.inl (o_ild 2 12)) := ⟨ok_iload_n dd_71_11, mn_ild _ _⟩
theorem vd_71_12 (E : ac_E) : ac_V E ac_MDf ac_HDf 71 12 (.inr (.inl (70,2,15,0))) := ac_Vc0 ((ok_callS rfl (by decide) (by decide +kernel) wm_707 wm_56 wm_705 wm_706 dd_71_12).1) (fun _ => rfl)
theorem vd_71_15 (E : ac_E) : ac_V E ac_MDf ac_HDf 71 15 (.inl (o_eq0 24 18)) := ⟨ok_ifeq dd_71_15 (by decide), mn_eq0 _ _⟩
theorem vd_71_18 (E : ac_E) : ac_V E ac_MDf ac_HDf 71 18 (.inl (o_ild 1 19)) := ⟨ok_iload_n dd_71_18, mn_ild _ _⟩
theorem vd_71_19 (E : ac_E) : ac_V E ac_MDf ac_HDf 71 19 (.inl (o_con (.int 1) 20)) := ⟨ok_iconst dd_71_19 (by decide), mn_con _ _⟩
theorem vd_71_20 (E : ac_E) : ac_V E ac_MDf ac_HDf 71 20 (.inl (o_add 21)) := ⟨ok_iadd dd_71_20, mn_add _⟩
theorem vd_71_21 (E : ac_E) : ac_V E ac_MDf ac_HDf 71 21 (.inl (o_go 25)) := ⟨ok_goto dd_71_21 (by decide), mn_go _⟩
theorem vd_71_24 (E : ac_E) : ac_V E ac_MDf ac_HDf 71 24 (.inl (o_ild 1 25)) := ⟨ok_iload_n dd_71_24, mn_ild _ _⟩
theorem vd_71_25 (E : ac_E) : ac_V E ac_MDf ac_HDf 71 25 (.inl (o_ist 1 26)) := ⟨ok_istore_n dd_71_25, mn_ist _ _⟩
theorem vd_71_26 (E : ac_E) : ac_V E ac_MDf ac_HDf 71 26 (.inl (o_inc 2 1 29)) := ⟨ok_iinc dd_71_26 (by decide), mn_inc _ _ _⟩
theorem vd_71_29 (E : ac_E) : ac_V E ac_MDf ac_HDf 71 29 (.inl (o_go 4)) := ⟨ok_goto dd_71_29 (by decide), mn_go _⟩
theorem vd_71_32 (E : ac_E) : ac_V E ac_MDf ac_HDf 71 32 (.inl (o_ild 1 33)) := ⟨ok_iload_n dd_71_32, mn_ild _ _⟩
theorem vd_71_33 (E : ac_E) : ac_V E ac_MDf ac_HDf 71 33 (.inr (.inr (.inl 1))) := ⟨fun q => nomatch q, fun _ => ⟨dd_71_33, rfl⟩, fun q => nomatch q⟩
theorem va_71 (E : ac_E) (pc : Nat) : ac_V E ac_MDf ac_HDf 71 pc (tb_71 (ac_len E) (ac_xs E) pc) := (ac_node (ac_node (ac_node (ac_node (ac_leaf 0 (vd_71_0 E)) (ac_leaf 1 (vd_71_1 E))) (ac_node (ac_leaf 2 (vd_71_2 E)) (ac_node (ac_leaf 3 (vd_71_3 E)) (ac_leaf 4 (vd_71_4 E))))) (ac_node (ac_node (ac_leaf 5 (vd_71_5 E)) (ac_leaf 7 (vd_71_7 E))) (ac_node (ac_leaf 10 (vd_71_10 E)) (ac_node (ac_leaf 11 (vd_71_11 E)) (ac_leaf 12 (vd_71_12 E)))))) (ac_node (ac_node (ac_node (ac_leaf 15 (vd_71_15 E)) (ac_leaf 18 (vd_71_18 E))) (ac_node (ac_leaf 19 (vd_71_19 E)) (ac_node (ac_leaf 20 (vd_71_20 E)) (ac_leaf 21 (vd_71_21 E))))) (ac_node (ac_node (ac_leaf 24 (vd_71_24 E)) (ac_node (ac_leaf 25 (vd_71_25 E)) (ac_leaf 26 (vd_71_26 E)))) (ac_node (ac_leaf 29 (vd_71_29 E)) (ac_node (ac_leaf 32 (vd_71_32 E)) (ac_leaf 33 (vd_71_33 E)))))))
theorem vd_72_0 (E : ac_E) : ac_V E ac_MDf ac_HDf 72 0 (.inl (o_ild 0 1)) := ⟨ok_iload_n dd_72_0, mn_ild _ _⟩
theorem vd_72_1 (E : ac_E) : ac_V E ac_MDf ac_HDf 72 1 (.inl (o_con (.int 64) 3)) := ⟨ok_bipush dd_72_1 (by decide), mn_con _ _⟩
theorem vd_72_3 (E : ac_E) : ac_V E ac_MDf ac_HDf 72 3 (.inl (o_and 4)) := ⟨ok_iand dd_72_3, mn_and _⟩
theorem vd_72_4 (E : ac_E) : ac_V E ac_MDf ac_HDf 72 4 (.inl (o_ist 2 5)) := ⟨ok_istore_n dd_72_4, mn_ist _ _⟩
theorem vd_72_5 (E : ac_E) : ac_V E ac_MDf ac_HDf 72 5 (.inl (o_con (.int 0) 6)) := ⟨ok_iconst dd_72_5 (by decide), mn_con _ _⟩
theorem vd_72_6 (E : ac_E) : ac_V E ac_MDf ac_HDf 72 6 (.inl (o_ist 3 7)) := ⟨ok_istore_n dd_72_6, mn_ist _ _⟩
theorem vd_72_7 (E : ac_E) : ac_V E ac_MDf ac_HDf 72 7 (.inl (o_ild 3 8)) := ⟨ok_iload_n dd_72_7, mn_ild _ _⟩
theorem vd_72_8 (E : ac_E) : ac_V E ac_MDf ac_HDf 72 8 (.inl (o_con (.int 6) 10)) := ⟨ok_bipush dd_72_8 (by decide), mn_con _ _⟩
theorem vd_72_10 (E : ac_E) : ac_V E ac_MDf ac_HDf 72 10 (.inl (o_ge 42 13)) := ⟨ok_icmpge dd_72_10 (by decide), mn_ge _ _⟩
theorem vd_72_13 (E : ac_E) : ac_V E ac_MDf ac_HDf 72 13 (.inl (o_ild 0 14)) := ⟨ok_iload_n dd_72_13, mn_ild _ _⟩
theorem vd_72_14 (E : ac_E) : ac_V E ac_MDf ac_HDf 72 14 (.inl (o_ild 3 15)) := ⟨ok_iload_n dd_72_14, mn_ild _ _⟩
theorem vd_72_15 (E : ac_E) : ac_V E ac_MDf ac_HDf 72 15 (.inr (.inl (70,2,18,0))) := ac_Vc0 ((ok_callS rfl (by decide) (by decide +kernel) wm_707 wm_56 wm_705 wm_706 dd_72_15).1) (fun _ => rfl)
theorem vd_72_18 (E : ac_E) : ac_V E ac_MDf ac_HDf 72 18 (.inl (o_eq0 34 21)) := ⟨ok_ifeq dd_72_18 (by decide), mn_eq0 _ _⟩
theorem vd_72_21 (E : ac_E) : ac_V E ac_MDf ac_HDf 72 21 (.inl (o_ild 2 22)) := ⟨ok_iload_n dd_72_21, mn_ild _ _⟩
theorem vd_72_22 (E : ac_E) : ac_V E ac_MDf ac_HDf 72 22 (.inl (o_con (.int 1) 23)) := ⟨ok_iconst dd_72_22 (by decide), mn_con _ _⟩
theorem vd_72_23 (E : ac_E) : ac_V E ac_MDf ac_HDf 72 23 (.inl (o_ild 3 24)) := ⟨ok_iload_n dd_72_23, mn_ild _ _⟩
theorem vd_72_24 (E : ac_E) : ac_V E ac_MDf ac_HDf 72 24 (.inl (o_ild 1 25)) := ⟨ok_iload_n dd_72_24, mn_ild _ _⟩
theorem vd_72_25 (E : ac_E) : ac_V E ac_MDf ac_HDf 72 25 (.inl (o_add 26)) := ⟨ok_iadd dd_72_25, mn_add _⟩
theorem vd_72_26 (E : ac_E) : ac_V E ac_MDf ac_HDf 72 26 (.inl (o_con (.int 6) 28)) := ⟨ok_bipush dd_72_26 (by decide), mn_con _ _⟩
theorem vd_72_28 (E : ac_E) : ac_V E ac_MDf ac_HDf 72 28 (.inl (o_rem 29)) := ⟨ok_irem dd_72_28, mn_rem _⟩
theorem vd_72_29 (E : ac_E) : ac_V E ac_MDf ac_HDf 72 29 (.inl (o_shl 30)) := ⟨ok_ishl dd_72_29, mn_shl _⟩
theorem vd_72_30 (E : ac_E) : ac_V E ac_MDf ac_HDf 72 30 (.inl (o_or 31)) := ⟨ok_ior dd_72_30, mn_or _⟩
theorem vd_72_31 (E : ac_E) : ac_V E ac_MDf ac_HDf 72 31 (.inl (o_go 35)) := ⟨ok_goto dd_72_31 (by decide), mn_go _⟩
theorem vd_72_34 (E : ac_E) : ac_V E ac_MDf ac_HDf 72 34 (.inl (o_ild 2 35)) := ⟨ok_iload_n dd_72_34, mn_ild _ _⟩
theorem vd_72_35 (E : ac_E) : ac_V E ac_MDf ac_HDf 72 35 (.inl (o_ist 2 36)) := ⟨ok_istore_n dd_72_35, mn_ist _ _⟩
theorem vd_72_36 (E : ac_E) : ac_V E ac_MDf ac_HDf 72 36 (.inl (o_inc 3 1 39)) := ⟨ok_iinc dd_72_36 (by decide), mn_inc _ _ _⟩
theorem vd_72_39 (E : ac_E) : ac_V E ac_MDf ac_HDf 72 39 (.inl (o_go 7)) := ⟨ok_goto dd_72_39 (by decide), mn_go _⟩
theorem vd_72_42 (E : ac_E) : ac_V E ac_MDf ac_HDf 72 42 (.inl (o_ild 2 43)) := ⟨ok_iload_n dd_72_42, mn_ild _ _⟩
theorem vd_72_43 (E : ac_E) : ac_V E ac_MDf ac_HDf 72 43 (.inr (.inr (.inl 1))) := ⟨fun q => nomatch q, fun _ => ⟨dd_72_43, rfl⟩, fun q => nomatch q⟩
theorem va_72 (E : ac_E) (pc : Nat) : ac_V E ac_MDf ac_HDf 72 pc (tb_72 (ac_len E) (ac_xs E) pc) := (ac_node (ac_node (ac_node (ac_node (ac_leaf 0 (vd_72_0 E)) (ac_node (ac_leaf 1 (vd_72_1 E)) (ac_leaf 3 (vd_72_3 E)))) (ac_node (ac_node (ac_leaf 4 (vd_72_4 E)) (ac_leaf 5 (vd_72_5 E))) (ac_node (ac_leaf 6 (vd_72_6 E)) (ac_leaf 7 (vd_72_7 E))))) (ac_node (ac_node (ac_leaf 8 (vd_72_8 E)) (ac_node (ac_leaf 10 (vd_72_10 E)) (ac_leaf 13 (vd_72_13 E)))) (ac_node (ac_node (ac_leaf 14 (vd_72_14 E)) (ac_leaf 15 (vd_72_15 E))) (ac_node (ac_leaf 18 (vd_72_18 E)) (ac_leaf 21 (vd_72_21 E)))))) (ac_node (ac_node (ac_node (ac_leaf 22 (vd_72_22 E)) (ac_node (ac_leaf 23 (vd_72_23 E)) (ac_leaf 24 (vd_72_24 E)))) (ac_node (ac_node (ac_leaf 25 (vd_72_25 E)) (ac_leaf 26 (vd_72_26 E))) (ac_node (ac_leaf 28 (vd_72_28 E)) (ac_leaf 29 (vd_72_29 E))))) (ac_node (ac_node (ac_node (ac_leaf 30 (vd_72_30 E)) (ac_leaf 31 (vd_72_31 E))) (ac_node (ac_leaf 34 (vd_72_34 E)) (ac_leaf 35 (vd_72_35 E)))) (ac_node (ac_node (ac_leaf 36 (vd_72_36 E)) (ac_leaf 39 (vd_72_39 E))) (ac_node (ac_leaf 42 (vd_72_42 E)) (ac_leaf 43 (vd_72_43 E)))))))
theorem vd_73_0 (E : ac_E) : ac_V E ac_MDf ac_HDf 73 0 (.inl (o_ild 0 1)) := ⟨ok_iload_n dd_73_0, mn_ild _ _⟩
theorem vd_73_1 (E : ac_E) : ac_V E ac_MDf ac_HDf 73 1 (.inl (o_con (.int 63) 3)) := ⟨ok_bipush dd_73_1 (by decide), mn_con _ _⟩
theorem vd_73_3 (E : ac_E) : ac_V E ac_MDf ac_HDf 73 3 (.inl (o_and 4)) := ⟨ok_iand dd_73_3, mn_and _⟩
theorem vd_73_4 (E : ac_E) : ac_V E ac_MDf ac_HDf 73 4 (.inl (o_ist 2 5)) := ⟨ok_istore_n dd_73_4, mn_ist _ _⟩
theorem vd_73_5 (E : ac_E) : ac_V E ac_MDf ac_HDf 73 5 (.inl (o_ild 0 6)) := ⟨ok_iload_n dd_73_5, mn_ild _ _⟩
theorem vd_73_6 (E : ac_E) : ac_V E ac_MDf ac_HDf 73 6 (.inl (o_con (.int 63) 8)) := ⟨ok_bipush dd_73_6 (by decide), mn_con _ _⟩
theorem vd_73_8 (E : ac_E) : ac_V E ac_MDf ac_HDf 73 8 (.inl (o_le 15 11)) := ⟨ok_icmple dd_73_8 (by decide), mn_le _ _⟩
theorem vd_73_11 (E : ac_E) : ac_V E ac_MDf ac_HDf 73 11 (.inl (o_con (.int 1) 12)) := ⟨ok_iconst dd_73_11 (by decide), mn_con _ _⟩
theorem vd_73_12 (E : ac_E) : ac_V E ac_MDf ac_HDf 73 12 (.inl (o_go 16)) := ⟨ok_goto dd_73_12 (by decide), mn_go _⟩
theorem vd_73_15 (E : ac_E) : ac_V E ac_MDf ac_HDf 73 15 (.inl (o_con (.int 0) 16)) := ⟨ok_iconst dd_73_15 (by decide), mn_con _ _⟩
theorem vd_73_16 (E : ac_E) : ac_V E ac_MDf ac_HDf 73 16 (.inl (o_ist 3 17)) := ⟨ok_istore_n dd_73_16, mn_ist _ _⟩
theorem vd_73_17 (E : ac_E) : ac_V E ac_MDf ac_HDf 73 17 (.inl (o_ild 2 18)) := ⟨ok_iload_n dd_73_17, mn_ild _ _⟩
theorem vd_73_18 (E : ac_E) : ac_V E ac_MDf ac_HDf 73 18 (.inl (o_con (.int 21) 20)) := ⟨ok_bipush dd_73_18 (by decide), mn_con _ _⟩
theorem vd_73_20 (E : ac_E) : ac_V E ac_MDf ac_HDf 73 20 (.inl (o_eq 29 23)) := ⟨ok_icmpeq dd_73_20 (by decide), mn_eq _ _⟩
theorem vd_73_23 (E : ac_E) : ac_V E ac_MDf ac_HDf 73 23 (.inl (o_ild 2 24)) := ⟨ok_iload_n dd_73_23, mn_ild _ _⟩
theorem vd_73_24 (E : ac_E) : ac_V E ac_MDf ac_HDf 73 24 (.inl (o_con (.int 42) 26)) := ⟨ok_bipush dd_73_24 (by decide), mn_con _ _⟩
theorem vd_73_26 (E : ac_E) : ac_V E ac_MDf ac_HDf 73 26 (.inl (o_ne 34 29)) := ⟨ok_icmpne dd_73_26 (by decide), mn_ne _ _⟩
theorem vd_73_29 (E : ac_E) : ac_V E ac_MDf ac_HDf 73 29 (.inl (o_ild 0 30)) := ⟨ok_iload_n dd_73_29, mn_ild _ _⟩
theorem vd_73_30 (E : ac_E) : ac_V E ac_MDf ac_HDf 73 30 (.inl (o_con (.int 63) 32)) := ⟨ok_bipush dd_73_30 (by decide), mn_con _ _⟩
theorem vd_73_32 (E : ac_E) : ac_V E ac_MDf ac_HDf 73 32 (.inl (o_xor 33)) := ⟨ok_ixor dd_73_32, mn_xor _⟩
theorem vd_73_33 (E : ac_E) : ac_V E ac_MDf ac_HDf 73 33 (.inr (.inr (.inl 1))) := ⟨fun q => nomatch q, fun _ => ⟨dd_73_33, rfl⟩, fun q => nomatch q⟩
theorem vd_73_34 (E : ac_E) : ac_V E ac_MDf ac_HDf 73 34 (.inl (o_con (.int 0) 35)) := ⟨ok_iconst dd_73_34 (by decide), mn_con _ _⟩
theorem vd_73_35 (E : ac_E) : ac_V E ac_MDf ac_HDf 73 35 (.inl (o_ist 4 37)) := ⟨ok_istore dd_73_35, mn_ist _ _⟩
theorem vd_73_37 (E : ac_E) : ac_V E ac_MDf ac_HDf 73 37 (.inl (o_ild 4 39)) := ⟨ok_iload dd_73_37, mn_ild _ _⟩
theorem vd_73_39 (E : ac_E) : ac_V E ac_MDf ac_HDf 73 39 (.inl (o_con (.int 6) 41)) := ⟨ok_bipush dd_73_39 (by decide), mn_con _ _⟩
theorem vd_73_41 (E : ac_E) : ac_V E ac_MDf ac_HDf 73 41 (.inl (o_ge 149 44)) := ⟨ok_icmpge dd_73_41 (by decide), mn_ge _ _⟩
theorem vd_73_44 (E : ac_E) : ac_V E ac_MDf ac_HDf 73 44 (.inl (o_con (.int 1) 45)) := ⟨ok_iconst dd_73_44 (by decide), mn_con _ _⟩
theorem vd_73_45 (E : ac_E) : ac_V E ac_MDf ac_HDf 73 45 (.inl (o_ild 4 47)) := ⟨ok_iload dd_73_45, mn_ild _ _⟩
theorem vd_73_47 (E : ac_E) : ac_V E ac_MDf ac_HDf 73 47 (.inl (o_shl 48)) := ⟨ok_ishl dd_73_47, mn_shl _⟩
theorem vd_73_48 (E : ac_E) : ac_V E ac_MDf ac_HDf 73 48 (.inl (o_con (.int 1) 49)) := ⟨ok_iconst dd_73_48 (by decide), mn_con _ _⟩
theorem vd_73_49 (E : ac_E) : ac_V E ac_MDf ac_HDf 73 49 (.inl (o_ild 4 51)) := ⟨ok_iload dd_73_49, mn_ild _ _⟩
theorem vd_73_51 (E : ac_E) : ac_V E ac_MDf ac_HDf 73 51 (.inl (o_con (.int 3) 52)) := ⟨ok_iconst dd_73_51 (by decide), mn_con _ _⟩
theorem vd_73_52 (E : ac_E) : ac_V E ac_MDf ac_HDf 73 52 (.inl (o_add 53)) := ⟨ok_iadd dd_73_52, mn_add _⟩
theorem vd_73_53 (E : ac_E) : ac_V E ac_MDf ac_HDf 73 53 (.inl (o_con (.int 6) 55)) := ⟨ok_bipush dd_73_53 (by decide), mn_con _ _⟩
theorem vd_73_55 (E : ac_E) : ac_V E ac_MDf ac_HDf 73 55 (.inl (o_rem 56)) := ⟨ok_irem dd_73_55, mn_rem _⟩
theorem vd_73_56 (E : ac_E) : ac_V E ac_MDf ac_HDf 73 56 (.inl (o_shl 57)) := ⟨ok_ishl dd_73_56, mn_shl _⟩
theorem vd_73_57 (E : ac_E) : ac_V E ac_MDf ac_HDf 73 57 (.inl (o_or 58)) := ⟨ok_ior dd_73_57, mn_or _⟩
theorem vd_73_58 (E : ac_E) : ac_V E ac_MDf ac_HDf 73 58 (.inl (o_ist 5 60)) := ⟨ok_istore dd_73_58, mn_ist _ _⟩
theorem vd_73_60 (E : ac_E) : ac_V E ac_MDf ac_HDf 73 60 (.inl (o_con (.int 1) 61)) := ⟨ok_iconst dd_73_60 (by decide), mn_con _ _⟩
theorem vd_73_61 (E : ac_E) : ac_V E ac_MDf ac_HDf 73 61 (.inl (o_ild 4 63)) := ⟨ok_iload dd_73_61, mn_ild _ _⟩
theorem vd_73_63 (E : ac_E) : ac_V E ac_MDf ac_HDf 73 63 (.inl (o_con (.int 5) 64)) := ⟨ok_iconst dd_73_63 (by decide), mn_con _ _⟩
theorem vd_73_64 (E : ac_E) : ac_V E ac_MDf ac_HDf 73 64 (.inl (o_add 65)) := ⟨ok_iadd dd_73_64, mn_add _⟩
theorem vd_73_65 (E : ac_E) : ac_V E ac_MDf ac_HDf 73 65 (.inl (o_con (.int 6) 67)) := ⟨ok_bipush dd_73_65 (by decide), mn_con _ _⟩
theorem vd_73_67 (E : ac_E) : ac_V E ac_MDf ac_HDf 73 67 (.inl (o_rem 68)) := ⟨ok_irem dd_73_67, mn_rem _⟩
theorem vd_73_68 (E : ac_E) : ac_V E ac_MDf ac_HDf 73 68 (.inl (o_shl 69)) := ⟨ok_ishl dd_73_68, mn_shl _⟩
theorem vd_73_69 (E : ac_E) : ac_V E ac_MDf ac_HDf 73 69 (.inl (o_con (.int 1) 70)) := ⟨ok_iconst dd_73_69 (by decide), mn_con _ _⟩
theorem vd_73_70 (E : ac_E) : ac_V E ac_MDf ac_HDf 73 70 (.inl (o_ild 4 72)) := ⟨ok_iload dd_73_70, mn_ild _ _⟩
theorem vd_73_72 (E : ac_E) : ac_V E ac_MDf ac_HDf 73 72 (.inl (o_con (.int 1) 73)) := ⟨ok_iconst dd_73_72 (by decide), mn_con _ _⟩
theorem vd_73_73 (E : ac_E) : ac_V E ac_MDf ac_HDf 73 73 (.inl (o_add 74)) := ⟨ok_iadd dd_73_73, mn_add _⟩
theorem vd_73_74 (E : ac_E) : ac_V E ac_MDf ac_HDf 73 74 (.inl (o_con (.int 6) 76)) := ⟨ok_bipush dd_73_74 (by decide), mn_con _ _⟩
theorem vd_73_76 (E : ac_E) : ac_V E ac_MDf ac_HDf 73 76 (.inl (o_rem 77)) := ⟨ok_irem dd_73_76, mn_rem _⟩
theorem vd_73_77 (E : ac_E) : ac_V E ac_MDf ac_HDf 73 77 (.inl (o_shl 78)) := ⟨ok_ishl dd_73_77, mn_shl _⟩
theorem vd_73_78 (E : ac_E) : ac_V E ac_MDf ac_HDf 73 78 (.inl (o_or 79)) := ⟨ok_ior dd_73_78, mn_or _⟩
theorem vd_73_79 (E : ac_E) : ac_V E ac_MDf ac_HDf 73 79 (.inl (o_ist 6 81)) := ⟨ok_istore dd_73_79, mn_ist _ _⟩
theorem vd_73_81 (E : ac_E) : ac_V E ac_MDf ac_HDf 73 81 (.inl (o_ild 2 82)) := ⟨ok_iload_n dd_73_81, mn_ild _ _⟩
theorem vd_73_82 (E : ac_E) : ac_V E ac_MDf ac_HDf 73 82 (.inl (o_ild 5 84)) := ⟨ok_iload dd_73_82, mn_ild _ _⟩
theorem vd_73_84 (E : ac_E) : ac_V E ac_MDf ac_HDf 73 84 (.inl (o_eq 96 87)) := ⟨ok_icmpeq dd_73_84 (by decide), mn_eq _ _⟩
theorem vd_73_87 (E : ac_E) : ac_V E ac_MDf ac_HDf 73 87 (.inl (o_ild 2 88)) := ⟨ok_iload_n dd_73_87, mn_ild _ _⟩
theorem vd_73_88 (E : ac_E) : ac_V E ac_MDf ac_HDf 73 88 (.inl (o_con (.int 63) 90)) := ⟨ok_bipush dd_73_88 (by decide), mn_con _ _⟩
theorem vd_73_90 (E : ac_E) : ac_V E ac_MDf ac_HDf 73 90 (.inl (o_ild 5 92)) := ⟨ok_iload dd_73_90, mn_ild _ _⟩
theorem vd_73_92 (E : ac_E) : ac_V E ac_MDf ac_HDf 73 92 (.inl (o_sub 93)) := ⟨ok_isub dd_73_92, mn_sub _⟩
theorem vd_73_93 (E : ac_E) : ac_V E ac_MDf ac_HDf 73 93 (.inl (o_ne 110 96)) := ⟨ok_icmpne dd_73_93 (by decide), mn_ne _ _⟩
theorem vd_73_96 (E : ac_E) : ac_V E ac_MDf ac_HDf 73 96 (.inl (o_ild 0 97)) := ⟨ok_iload_n dd_73_96, mn_ild _ _⟩
theorem vd_73_97 (E : ac_E) : ac_V E ac_MDf ac_HDf 73 97 (.inl (o_ild 1 98)) := ⟨ok_iload_n dd_73_97, mn_ild _ _⟩
theorem vd_73_98 (E : ac_E) : ac_V E ac_MDf ac_HDf 73 98 (.inl (o_ne0 105 101)) := ⟨ok_ifne dd_73_98 (by decide), mn_ne0 _ _⟩
theorem vd_73_101 (E : ac_E) : ac_V E ac_MDf ac_HDf 73 101 (.inl (o_con (.int 1) 102)) := ⟨ok_iconst dd_73_101 (by decide), mn_con _ _⟩
theorem vd_73_102 (E : ac_E) : ac_V E ac_MDf ac_HDf 73 102 (.inl (o_go 106)) := ⟨ok_goto dd_73_102 (by decide), mn_go _⟩
theorem vd_73_105 (E : ac_E) : ac_V E ac_MDf ac_HDf 73 105 (.inl (o_con (.int 5) 106)) := ⟨ok_iconst dd_73_105 (by decide), mn_con _ _⟩
theorem vd_73_106 (E : ac_E) : ac_V E ac_MDf ac_HDf 73 106 (.inr (.inl (72,2,109,0))) := ac_Vc0 ((ok_callS rfl (by decide) (by decide +kernel) wm_704 wm_56 wm_702 wm_703 dd_73_106).1) (fun _ => rfl)
theorem vd_73_109 (E : ac_E) : ac_V E ac_MDf ac_HDf 73 109 (.inr (.inr (.inl 1))) := ⟨fun q => nomatch q, fun _ => ⟨dd_73_109, rfl⟩, fun q => nomatch q⟩
theorem vd_73_110 (E : ac_E) : ac_V E ac_MDf ac_HDf 73 110 (.inl (o_ild 2 111)) := ⟨ok_iload_n dd_73_110, mn_ild _ _⟩
theorem vd_73_111 (E : ac_E) : ac_V E ac_MDf ac_HDf 73 111 (.inl (o_con (.int 1) 112)) := ⟨ok_iconst dd_73_111 (by decide), mn_con _ _⟩
theorem vd_73_112 (E : ac_E) : ac_V E ac_MDf ac_HDf 73 112 (.inl (o_ild 4 114)) := ⟨ok_iload dd_73_112, mn_ild _ _⟩
theorem vd_73_114 (E : ac_E) : ac_V E ac_MDf ac_HDf 73 114 (.inl (o_shl 115)) := ⟨ok_ishl dd_73_114, mn_shl _⟩
theorem vd_73_115 (E : ac_E) : ac_V E ac_MDf ac_HDf 73 115 (.inl (o_ne 125 118)) := ⟨ok_icmpne dd_73_115 (by decide), mn_ne _ _⟩
theorem vd_73_118 (E : ac_E) : ac_V E ac_MDf ac_HDf 73 118 (.inl (o_ild 3 119)) := ⟨ok_iload_n dd_73_118, mn_ild _ _⟩
theorem vd_73_119 (E : ac_E) : ac_V E ac_MDf ac_HDf 73 119 (.inl (o_eq0 125 122)) := ⟨ok_ifeq dd_73_119 (by decide), mn_eq0 _ _⟩
theorem vd_73_122 (E : ac_E) : ac_V E ac_MDf ac_HDf 73 122 (.inl (o_ild 6 124)) := ⟨ok_iload dd_73_122, mn_ild _ _⟩
theorem vd_73_124 (E : ac_E) : ac_V E ac_MDf ac_HDf 73 124 (.inr (.inr (.inl 1))) := ⟨fun q => nomatch q, fun _ => ⟨dd_73_124, rfl⟩, fun q => nomatch q⟩
theorem vd_73_125 (E : ac_E) : ac_V E ac_MDf ac_HDf 73 125 (.inl (o_ild 2 126)) := ⟨ok_iload_n dd_73_125, mn_ild _ _⟩
theorem vd_73_126 (E : ac_E) : ac_V E ac_MDf ac_HDf 73 126 (.inl (o_ild 6 128)) := ⟨ok_iload dd_73_126, mn_ild _ _⟩
theorem vd_73_128 (E : ac_E) : ac_V E ac_MDf ac_HDf 73 128 (.inl (o_ne 143 131)) := ⟨ok_icmpne dd_73_128 (by decide), mn_ne _ _⟩
theorem vd_73_131 (E : ac_E) : ac_V E ac_MDf ac_HDf 73 131 (.inl (o_ild 3 132)) := ⟨ok_iload_n dd_73_131, mn_ild _ _⟩
theorem vd_73_132 (E : ac_E) : ac_V E ac_MDf ac_HDf 73 132 (.inl (o_ne0 143 135)) := ⟨ok_ifne dd_73_132 (by decide), mn_ne0 _ _⟩
theorem vd_73_135 (E : ac_E) : ac_V E ac_MDf ac_HDf 73 135 (.inl (o_con (.int 64) 137)) := ⟨ok_bipush dd_73_135 (by decide), mn_con _ _⟩
theorem vd_73_137 (E : ac_E) : ac_V E ac_MDf ac_HDf 73 137 (.inl (o_con (.int 1) 138)) := ⟨ok_iconst dd_73_137 (by decide), mn_con _ _⟩
theorem vd_73_138 (E : ac_E) : ac_V E ac_MDf ac_HDf 73 138 (.inl (o_ild 4 140)) := ⟨ok_iload dd_73_138, mn_ild _ _⟩
theorem vd_73_140 (E : ac_E) : ac_V E ac_MDf ac_HDf 73 140 (.inl (o_shl 141)) := ⟨ok_ishl dd_73_140, mn_shl _⟩
theorem vd_73_141 (E : ac_E) : ac_V E ac_MDf ac_HDf 73 141 (.inl (o_or 142)) := ⟨ok_ior dd_73_141, mn_or _⟩
theorem vd_73_142 (E : ac_E) : ac_V E ac_MDf ac_HDf 73 142 (.inr (.inr (.inl 1))) := ⟨fun q => nomatch q, fun _ => ⟨dd_73_142, rfl⟩, fun q => nomatch q⟩
theorem vd_73_143 (E : ac_E) : ac_V E ac_MDf ac_HDf 73 143 (.inl (o_inc 4 1 146)) := ⟨ok_iinc dd_73_143 (by decide), mn_inc _ _ _⟩
theorem vd_73_146 (E : ac_E) : ac_V E ac_MDf ac_HDf 73 146 (.inl (o_go 37)) := ⟨ok_goto dd_73_146 (by decide), mn_go _⟩
theorem vd_73_149 (E : ac_E) : ac_V E ac_MDf ac_HDf 73 149 (.inl (o_ild 0 150)) := ⟨ok_iload_n dd_73_149, mn_ild _ _⟩
theorem vd_73_150 (E : ac_E) : ac_V E ac_MDf ac_HDf 73 150 (.inr (.inr (.inl 1))) := ⟨fun q => nomatch q, fun _ => ⟨dd_73_150, rfl⟩, fun q => nomatch q⟩
theorem va_73 (E : ac_E) (pc : Nat) : ac_V E ac_MDf ac_HDf 73 pc (tb_73 (ac_len E) (ac_xs E) pc) := (ac_node (ac_node (ac_node (ac_node (ac_node (ac_node (ac_leaf 0 (vd_73_0 E)) (ac_leaf 1 (vd_73_1 E))) (ac_node (ac_leaf 3 (vd_73_3 E)) (ac_node (ac_leaf 4 (vd_73_4 E)) (ac_leaf 5 (vd_73_5 E))))) (ac_node (ac_node (ac_leaf 6 (vd_73_6 E)) (ac_node (ac_leaf 8 (vd_73_8 E)) (ac_leaf 11 (vd_73_11 E)))) (ac_node (ac_leaf 12 (vd_73_12 E)) (ac_node (ac_leaf 15 (vd_73_15 E)) (ac_leaf 16 (vd_73_16 E)))))) (ac_node (ac_node (ac_node (ac_leaf 17 (vd_73_17 E)) (ac_node (ac_leaf 18 (vd_73_18 E)) (ac_leaf 20 (vd_73_20 E)))) (ac_node (ac_leaf 23 (vd_73_23 E)) (ac_node (ac_leaf 24 (vd_73_24 E)) (ac_leaf 26 (vd_73_26 E))))) (ac_node (ac_node (ac_leaf 29 (vd_73_29 E)) (ac_node (ac_leaf 30 (vd_73_30 E)) (ac_leaf 32 (vd_73_32 E)))) (ac_node (ac_leaf 33 (vd_73_33 E)) (ac_node (ac_leaf 34 (vd_73_34 E)) (ac_leaf 35 (vd_73_35 E))))))) (ac_node (ac_node (ac_node (ac_node (ac_leaf 37 (vd_73_37 E)) (ac_node (ac_leaf 39 (vd_73_39 E)) (ac_leaf 41 (vd_73_41 E)))) (ac_node (ac_leaf 44 (vd_73_44 E)) (ac_node (ac_leaf 45 (vd_73_45 E)) (ac_leaf 47 (vd_73_47 E))))) (ac_node (ac_node (ac_leaf 48 (vd_73_48 E)) (ac_node (ac_leaf 49 (vd_73_49 E)) (ac_leaf 51 (vd_73_51 E)))) (ac_node (ac_leaf 52 (vd_73_52 E)) (ac_node (ac_leaf 53 (vd_73_53 E)) (ac_leaf 55 (vd_73_55 E)))))) (ac_node (ac_node (ac_node (ac_leaf 56 (vd_73_56 E)) (ac_node (ac_leaf 57 (vd_73_57 E)) (ac_leaf 58 (vd_73_58 E)))) (ac_node (ac_leaf 60 (vd_73_60 E)) (ac_node (ac_leaf 61 (vd_73_61 E)) (ac_leaf 63 (vd_73_63 E))))) (ac_node (ac_node (ac_leaf 64 (vd_73_64 E)) (ac_node (ac_leaf 65 (vd_73_65 E)) (ac_leaf 67 (vd_73_67 E)))) (ac_node (ac_leaf 68 (vd_73_68 E)) (ac_node (ac_leaf 69 (vd_73_69 E)) (ac_leaf 70 (vd_73_70 E)))))))) (ac_node (ac_node (ac_node (ac_node (ac_node (ac_leaf 72 (vd_73_72 E)) (ac_leaf 73 (vd_73_73 E))) (ac_node (ac_leaf 74 (vd_73_74 E)) (ac_node (ac_leaf 76 (vd_73_76 E)) (ac_leaf 77 (vd_73_77 E))))) (ac_node (ac_node (ac_leaf 78 (vd_73_78 E)) (ac_node (ac_leaf 79 (vd_73_79 E)) (ac_leaf 81 (vd_73_81 E)))) (ac_node (ac_leaf 82 (vd_73_82 E)) (ac_node (ac_leaf 84 (vd_73_84 E)) (ac_leaf 87 (vd_73_87 E)))))) (ac_node (ac_node (ac_node (ac_leaf 88 (vd_73_88 E)) (ac_node (ac_leaf 90 (vd_73_90 E)) (ac_leaf 92 (vd_73_92 E)))) (ac_node (ac_leaf 93 (vd_73_93 E)) (ac_node (ac_leaf 96 (vd_73_96 E)) (ac_leaf 97 (vd_73_97 E))))) (ac_node (ac_node (ac_leaf 98 (vd_73_98 E)) (ac_node (ac_leaf 101 (vd_73_101 E)) (ac_leaf 102 (vd_73_102 E)))) (ac_node (ac_leaf 105 (vd_73_105 E)) (ac_node (ac_leaf 106 (vd_73_106 E)) (ac_leaf 109 (vd_73_109 E))))))) (ac_node (ac_node (ac_node (ac_node (ac_leaf 110 (vd_73_110 E)) (ac_node (ac_leaf 111 (vd_73_111 E)) (ac_leaf 112 (vd_73_112 E)))) (ac_node (ac_leaf 114 (vd_73_114 E)) (ac_node (ac_leaf 115 (vd_73_115 E)) (ac_leaf 118 (vd_73_118 E))))) (ac_node (ac_node (ac_leaf 119 (vd_73_119 E)) (ac_node (ac_leaf 122 (vd_73_122 E)) (ac_leaf 124 (vd_73_124 E)))) (ac_node (ac_leaf 125 (vd_73_125 E)) (ac_node (ac_leaf 126 (vd_73_126 E)) (ac_leaf 128 (vd_73_128 E)))))) (ac_node (ac_node (ac_node (ac_leaf 131 (vd_73_131 E)) (ac_node (ac_leaf 132 (vd_73_132 E)) (ac_leaf 135 (vd_73_135 E)))) (ac_node (ac_leaf 137 (vd_73_137 E)) (ac_node (ac_leaf 138 (vd_73_138 E)) (ac_leaf 140 (vd_73_140 E))))) (ac_node (ac_node (ac_leaf 141 (vd_73_141 E)) (ac_node (ac_leaf 142 (vd_73_142 E)) (ac_leaf 143 (vd_73_143 E)))) (ac_node (ac_leaf 146 (vd_73_146 E)) (ac_node (ac_leaf 149 (vd_73_149 E)) (ac_leaf 150 (vd_73_150 E)))))))))
theorem vd_74_0 (E : ac_E) : ac_V E ac_MDf ac_HDf 74 0 (.inl (o_ild 0 1)) := ⟨ok_iload_n dd_74_0, mn_ild _ _⟩
theorem vd_74_1 (E : ac_E) : ac_V E ac_MDf ac_HDf 74 1 (.inl (o_ist 2 2)) := ⟨ok_istore_n dd_74_1, mn_ist _ _⟩
theorem vd_74_2 (E : ac_E) : ac_V E ac_MDf ac_HDf 74 2 (.inl (o_con (.int 0) 3)) := ⟨ok_iconst dd_74_2 (by decide), mn_con _ _⟩
theorem vd_74_3 (E : ac_E) : ac_V E ac_MDf ac_HDf 74 3 (.inl (o_ist 3 4)) := ⟨ok_istore_n dd_74_3, mn_ist _ _⟩
theorem vd_74_4 (E : ac_E) : ac_V E ac_MDf ac_HDf 74 4 (.inl (o_ild 3 5)) := ⟨ok_iload_n dd_74_4, mn_ild _ _⟩
theorem vd_74_5 (E : ac_E) : ac_V E ac_MDf ac_HDf 74 5 (.inl (o_con (.int 128) 8)) := ⟨ok_sipush dd_74_5 (by decide), mn_con _ _⟩
theorem vd_74_8 (E : ac_E) : ac_V E ac_MDf ac_HDf 74 8 (.inl (o_ge 32 11)) := ⟨ok_icmpge dd_74_8 (by decide), mn_ge _ _⟩
theorem vd_74_11 (E : ac_E) : ac_V E ac_MDf ac_HDf 74 11 (.inl (o_ild 3 12)) := ⟨ok_iload_n dd_74_11, mn_ild _ _⟩
theorem vd_74_12 (E : ac_E) : ac_V E ac_MDf ac_HDf 74 12 (.inl (o_ild 1 13)) := ⟨ok_iload_n dd_74_12, mn_ild _ _⟩
theorem vd_74_13 (E : ac_E) : ac_V E ac_MDf ac_HDf 74 13 (.inr (.inl (73,2,16,0))) := ac_Vc0 ((ok_callS rfl (by decide) (by decide +kernel) wm_701 wm_56 wm_699 wm_700 dd_74_13).1) (fun _ => rfl)
theorem vd_74_16 (E : ac_E) : ac_V E ac_MDf ac_HDf 74 16 (.inl (o_ild 0 17)) := ⟨ok_iload_n dd_74_16, mn_ild _ _⟩
theorem vd_74_17 (E : ac_E) : ac_V E ac_MDf ac_HDf 74 17 (.inl (o_ne 24 20)) := ⟨ok_icmpne dd_74_17 (by decide), mn_ne _ _⟩
theorem vd_74_20 (E : ac_E) : ac_V E ac_MDf ac_HDf 74 20 (.inl (o_ild 3 21)) := ⟨ok_iload_n dd_74_20, mn_ild _ _⟩
theorem vd_74_21 (E : ac_E) : ac_V E ac_MDf ac_HDf 74 21 (.inl (o_go 25)) := ⟨ok_goto dd_74_21 (by decide), mn_go _⟩
theorem vd_74_24 (E : ac_E) : ac_V E ac_MDf ac_HDf 74 24 (.inl (o_ild 2 25)) := ⟨ok_iload_n dd_74_24, mn_ild _ _⟩
theorem vd_74_25 (E : ac_E) : ac_V E ac_MDf ac_HDf 74 25 (.inl (o_ist 2 26)) := ⟨ok_istore_n dd_74_25, mn_ist _ _⟩
theorem vd_74_26 (E : ac_E) : ac_V E ac_MDf ac_HDf 74 26 (.inl (o_inc 3 1 29)) := ⟨ok_iinc dd_74_26 (by decide), mn_inc _ _ _⟩
theorem vd_74_29 (E : ac_E) : ac_V E ac_MDf ac_HDf 74 29 (.inl (o_go 4)) := ⟨ok_goto dd_74_29 (by decide), mn_go _⟩
theorem vd_74_32 (E : ac_E) : ac_V E ac_MDf ac_HDf 74 32 (.inl (o_ild 2 33)) := ⟨ok_iload_n dd_74_32, mn_ild _ _⟩
theorem vd_74_33 (E : ac_E) : ac_V E ac_MDf ac_HDf 74 33 (.inr (.inr (.inl 1))) := ⟨fun q => nomatch q, fun _ => ⟨dd_74_33, rfl⟩, fun q => nomatch q⟩
theorem va_74 (E : ac_E) (pc : Nat) : ac_V E ac_MDf ac_HDf 74 pc (tb_74 (ac_len E) (ac_xs E) pc) := (ac_node (ac_node (ac_node (ac_node (ac_leaf 0 (vd_74_0 E)) (ac_leaf 1 (vd_74_1 E))) (ac_node (ac_leaf 2 (vd_74_2 E)) (ac_node (ac_leaf 3 (vd_74_3 E)) (ac_leaf 4 (vd_74_4 E))))) (ac_node (ac_node (ac_leaf 5 (vd_74_5 E)) (ac_leaf 8 (vd_74_8 E))) (ac_node (ac_leaf 11 (vd_74_11 E)) (ac_node (ac_leaf 12 (vd_74_12 E)) (ac_leaf 13 (vd_74_13 E)))))) (ac_node (ac_node (ac_node (ac_leaf 16 (vd_74_16 E)) (ac_leaf 17 (vd_74_17 E))) (ac_node (ac_leaf 20 (vd_74_20 E)) (ac_node (ac_leaf 21 (vd_74_21 E)) (ac_leaf 24 (vd_74_24 E))))) (ac_node (ac_node (ac_leaf 25 (vd_74_25 E)) (ac_leaf 26 (vd_74_26 E))) (ac_node (ac_leaf 29 (vd_74_29 E)) (ac_node (ac_leaf 32 (vd_74_32 E)) (ac_leaf 33 (vd_74_33 E)))))))
theorem vd_75_0 (E : ac_E) : ac_V E ac_MDf ac_HDf 75 0 (.inl (o_ald 0 1)) := ⟨ok_aload_n dd_75_0, mn_ald _ _⟩
theorem vd_75_1 (E : ac_E) : ac_V E ac_MDf ac_HDf 75 1 (.inl (o_ild 1 2)) := ⟨ok_iload_n dd_75_1, mn_ild _ _⟩
theorem vd_75_2 (E : ac_E) : ac_V E ac_MDf ac_HDf 75 2 (.inl (o_lt0 20 5)) := ⟨ok_iflt dd_75_2 (by decide), mn_lt0 _ _⟩
theorem vd_75_5 (E : ac_E) : ac_V E ac_MDf ac_HDf 75 5 (.inl (o_ild 1 6)) := ⟨ok_iload_n dd_75_5, mn_ild _ _⟩
theorem vd_75_6 (E : ac_E) : ac_V E ac_MDf ac_HDf 75 6 (.inl (o_con (.int 127) 8)) := ⟨ok_bipush dd_75_6 (by decide), mn_con _ _⟩
theorem vd_75_8 (E : ac_E) : ac_V E ac_MDf ac_HDf 75 8 (.inl (o_gt 20 11)) := ⟨ok_icmpgt dd_75_8 (by decide), mn_gt _ _⟩
theorem vd_75_11 (E : ac_E) : ac_V E ac_MDf ac_HDf 75 11 (.inl (o_ild 2 12)) := ⟨ok_iload_n dd_75_11, mn_ild _ _⟩
theorem vd_75_12 (E : ac_E) : ac_V E ac_MDf ac_HDf 75 12 (.inl (o_lt0 20 15)) := ⟨ok_iflt dd_75_12 (by decide), mn_lt0 _ _⟩
theorem vd_75_15 (E : ac_E) : ac_V E ac_MDf ac_HDf 75 15 (.inl (o_ild 2 16)) := ⟨ok_iload_n dd_75_15, mn_ild _ _⟩
theorem vd_75_16 (E : ac_E) : ac_V E ac_MDf ac_HDf 75 16 (.inl (o_con (.int 1) 17)) := ⟨ok_iconst dd_75_16 (by decide), mn_con _ _⟩
theorem vd_75_17 (E : ac_E) : ac_V E ac_MDf ac_HDf 75 17 (.inl (o_le 24 20)) := ⟨ok_icmple dd_75_17 (by decide), mn_le _ _⟩
theorem vd_75_20 (E : ac_E) : ac_V E ac_MDf ac_HDf 75 20 (.inl (o_con (.int 1) 21)) := ⟨ok_iconst dd_75_20 (by decide), mn_con _ _⟩
theorem vd_75_21 (E : ac_E) : ac_V E ac_MDf ac_HDf 75 21 (.inl (o_go 25)) := ⟨ok_goto dd_75_21 (by decide), mn_go _⟩
theorem vd_75_24 (E : ac_E) : ac_V E ac_MDf ac_HDf 75 24 (.inl (o_con (.int 0) 25)) := ⟨ok_iconst dd_75_24 (by decide), mn_con _ _⟩
theorem vd_75_25 (E : ac_E) : ac_V E ac_MDf ac_HDf 75 25 (.inl (o_put 5 0 28)) := ⟨ok_putf (ci := 5) (f := 0) (C := RX5) (T := TX5) (N := 17) (ref := RX5) rfl win_5 (by decide) rfl tyX5 tyX5_ok nmX5 (by decide +kernel) rfl wm_638 dd_75_25, mn_put _ _ _⟩
theorem vd_75_28 (E : ac_E) : ac_V E ac_MDf ac_HDf 75 28 (.inl (o_ald 0 29)) := ⟨ok_aload_n dd_75_28, mn_ald _ _⟩
theorem vd_75_29 (E : ac_E) : ac_V E ac_MDf ac_HDf 75 29 (.inl (o_get 5 0 32)) := ⟨ok_getf (ci := 5) (f := 0) (C := RX5) (T := TX5) (N := 17) (ref := RX5) rfl win_5 (by decide) rfl wm_638 dd_75_29, mn_get _ _ _⟩
theorem vd_75_32 (E : ac_E) : ac_V E ac_MDf ac_HDf 75 32 (.inl (o_le0 39 35)) := ⟨ok_ifle dd_75_32 (by decide), mn_le0 _ _⟩
theorem vd_75_35 (E : ac_E) : ac_V E ac_MDf ac_HDf 75 35 (.inl (o_con (.int 0) 36)) := ⟨ok_iconst dd_75_35 (by decide), mn_con _ _⟩
theorem vd_75_36 (E : ac_E) : ac_V E ac_MDf ac_HDf 75 36 (.inl (o_go 44)) := ⟨ok_goto dd_75_36 (by decide), mn_go _⟩
theorem vd_75_39 (E : ac_E) : ac_V E ac_MDf ac_HDf 75 39 (.inl (o_ild 1 40)) := ⟨ok_iload_n dd_75_39, mn_ild _ _⟩
theorem vd_75_40 (E : ac_E) : ac_V E ac_MDf ac_HDf 75 40 (.inl (o_ild 2 41)) := ⟨ok_iload_n dd_75_40, mn_ild _ _⟩
theorem vd_75_41 (E : ac_E) : ac_V E ac_MDf ac_HDf 75 41 (.inr (.inl (73,2,44,0))) := ac_Vc0 ((ok_callS rfl (by decide) (by decide +kernel) wm_701 wm_56 wm_699 wm_700 dd_75_41).1) (fun _ => rfl)
theorem vd_75_44 (E : ac_E) : ac_V E ac_MDf ac_HDf 75 44 (.inr (.inr (.inl 1))) := ⟨fun q => nomatch q, fun _ => ⟨dd_75_44, rfl⟩, fun q => nomatch q⟩
theorem va_75 (E : ac_E) (pc : Nat) : ac_V E ac_MDf ac_HDf 75 pc (tb_75 (ac_len E) (ac_xs E) pc) := (ac_node (ac_node (ac_node (ac_node (ac_leaf 0 (vd_75_0 E)) (ac_node (ac_leaf 1 (vd_75_1 E)) (ac_leaf 2 (vd_75_2 E)))) (ac_node (ac_leaf 5 (vd_75_5 E)) (ac_node (ac_leaf 6 (vd_75_6 E)) (ac_leaf 8 (vd_75_8 E))))) (ac_node (ac_node (ac_leaf 11 (vd_75_11 E)) (ac_node (ac_leaf 12 (vd_75_12 E)) (ac_leaf 15 (vd_75_15 E)))) (ac_node (ac_leaf 16 (vd_75_16 E)) (ac_node (ac_leaf 17 (vd_75_17 E)) (ac_leaf 20 (vd_75_20 E)))))) (ac_node (ac_node (ac_node (ac_leaf 21 (vd_75_21 E)) (ac_node (ac_leaf 24 (vd_75_24 E)) (ac_leaf 25 (vd_75_25 E)))) (ac_node (ac_leaf 28 (vd_75_28 E)) (ac_node (ac_leaf 29 (vd_75_29 E)) (ac_leaf 32 (vd_75_32 E))))) (ac_node (ac_node (ac_leaf 35 (vd_75_35 E)) (ac_node (ac_leaf 36 (vd_75_36 E)) (ac_leaf 39 (vd_75_39 E)))) (ac_node (ac_leaf 40 (vd_75_40 E)) (ac_node (ac_leaf 41 (vd_75_41 E)) (ac_leaf 44 (vd_75_44 E)))))))
theorem vd_76_0 (E : ac_E) : ac_V E ac_MDf ac_HDf 76 0 (.inl (o_ald 0 1)) := ⟨ok_aload_n dd_76_0, mn_ald _ _⟩
theorem vd_76_1 (E : ac_E) : ac_V E ac_MDf ac_HDf 76 1 (.inl (o_ald 0 2)) := ⟨ok_aload_n dd_76_1, mn_ald _ _⟩
theorem vd_76_2 (E : ac_E) : ac_V E ac_MDf ac_HDf 76 2 (.inl (o_ild 1 3)) := ⟨ok_iload_n dd_76_2, mn_ild _ _⟩
theorem vd_76_3 (E : ac_E) : ac_V E ac_MDf ac_HDf 76 3 (.inl (o_ild 2 4)) := ⟨ok_iload_n dd_76_3, mn_ild _ _⟩
theorem vd_76_4 (E : ac_E) : ac_V E ac_MDf ac_HDf 76 4 (.inr (.inl (68,3,7,7))) := ac_Vc0 ((ok_callV (T := TX5) (N := 17) rfl rfl (by decide) (by decide +kernel) wm_715 wm_56 wm_712 wm_714 wm_31 dd_76_4).1) (fun _ => rfl)
theorem vd_76_7 (E : ac_E) : ac_V E ac_MDf ac_HDf 76 7 (.inl (o_ne0 14 10)) := ⟨ok_ifne dd_76_7 (by decide), mn_ne0 _ _⟩
theorem vd_76_10 (E : ac_E) : ac_V E ac_MDf ac_HDf 76 10 (.inl (o_con (.int 1) 11)) := ⟨ok_iconst dd_76_10 (by decide), mn_con _ _⟩
theorem vd_76_11 (E : ac_E) : ac_V E ac_MDf ac_HDf 76 11 (.inl (o_go 29)) := ⟨ok_goto dd_76_11 (by decide), mn_go _⟩
theorem vd_76_14 (E : ac_E) : ac_V E ac_MDf ac_HDf 76 14 (.inl (o_ild 3 15)) := ⟨ok_iload_n dd_76_14, mn_ild _ _⟩
theorem vd_76_15 (E : ac_E) : ac_V E ac_MDf ac_HDf 76 15 (.inl (o_lt0 24 18)) := ⟨ok_iflt dd_76_15 (by decide), mn_lt0 _ _⟩
theorem vd_76_18 (E : ac_E) : ac_V E ac_MDf ac_HDf 76 18 (.inl (o_ild 3 19)) := ⟨ok_iload_n dd_76_18, mn_ild _ _⟩
theorem vd_76_19 (E : ac_E) : ac_V E ac_MDf ac_HDf 76 19 (.inl (o_con (.int 127) 21)) := ⟨ok_bipush dd_76_19 (by decide), mn_con _ _⟩
theorem vd_76_21 (E : ac_E) : ac_V E ac_MDf ac_HDf 76 21 (.inl (o_le 28 24)) := ⟨ok_icmple dd_76_21 (by decide), mn_le _ _⟩
theorem vd_76_24 (E : ac_E) : ac_V E ac_MDf ac_HDf 76 24 (.inl (o_con (.int 2) 25)) := ⟨ok_iconst dd_76_24 (by decide), mn_con _ _⟩
theorem vd_76_25 (E : ac_E) : ac_V E ac_MDf ac_HDf 76 25 (.inl (o_go 29)) := ⟨ok_goto dd_76_25 (by decide), mn_go _⟩
theorem vd_76_28 (E : ac_E) : ac_V E ac_MDf ac_HDf 76 28 (.inl (o_con (.int 0) 29)) := ⟨ok_iconst dd_76_28 (by decide), mn_con _ _⟩
theorem vd_76_29 (E : ac_E) : ac_V E ac_MDf ac_HDf 76 29 (.inl (o_put 5 0 32)) := ⟨ok_putf (ci := 5) (f := 0) (C := RX5) (T := TX5) (N := 17) (ref := RX5) rfl win_5 (by decide) rfl tyX5 tyX5_ok nmX5 (by decide +kernel) rfl wm_638 dd_76_29, mn_put _ _ _⟩
theorem vd_76_32 (E : ac_E) : ac_V E ac_MDf ac_HDf 76 32 (.inl (o_ald 0 33)) := ⟨ok_aload_n dd_76_32, mn_ald _ _⟩
theorem vd_76_33 (E : ac_E) : ac_V E ac_MDf ac_HDf 76 33 (.inl (o_get 5 0 36)) := ⟨ok_getf (ci := 5) (f := 0) (C := RX5) (T := TX5) (N := 17) (ref := RX5) rfl win_5 (by decide) rfl wm_638 dd_76_33, mn_get _ _ _⟩
theorem vd_76_36 (E : ac_E) : ac_V E ac_MDf ac_HDf 76 36 (.inl (o_le0 40 39)) := ⟨ok_ifle dd_76_36 (by decide), mn_le0 _ _⟩
theorem vd_76_39 (E : ac_E) : ac_V E ac_MDf ac_HDf 76 39 (.inr (.inr (.inl 0))) := ⟨fun _ => ⟨dd_76_39, rfl⟩, fun q => nomatch q, fun q => nomatch q⟩
theorem vd_76_40 (E : ac_E) : ac_V E ac_MDf ac_HDf 76 40 (.inl (o_ald 0 41)) := ⟨ok_aload_n dd_76_40, mn_ald _ _⟩
theorem vd_76_41 (E : ac_E) : ac_V E ac_MDf ac_HDf 76 41 (.inl (o_get 5 5 44)) := ⟨ok_getf (ci := 5) (f := 5) (C := RX5) (T := TX5) (N := 17) (ref := RX5) rfl win_5 (by decide) rfl wm_643 dd_76_41, mn_get _ _ _⟩
theorem vd_76_44 (E : ac_E) : ac_V E ac_MDf ac_HDf 76 44 (.inl (o_ald 0 45)) := ⟨ok_aload_n dd_76_44, mn_ald _ _⟩
theorem vd_76_45 (E : ac_E) : ac_V E ac_MDf ac_HDf 76 45 (.inl (o_get 5 1 48)) := ⟨ok_getf (ci := 5) (f := 1) (C := RX5) (T := TX5) (N := 17) (ref := RX5) rfl win_5 (by decide) rfl wm_639 dd_76_45, mn_get _ _ _⟩
theorem vd_76_48 (E : ac_E) : ac_V E ac_MDf ac_HDf 76 48 (.inl (o_ild 2 49)) := ⟨ok_iload_n dd_76_48, mn_ild _ _⟩
theorem vd_76_49 (E : ac_E) : ac_V E ac_MDf ac_HDf 76 49 (.inl (o_mul 50)) := ⟨ok_imul dd_76_49, mn_mul _⟩
theorem vd_76_50 (E : ac_E) : ac_V E ac_MDf ac_HDf 76 50 (.inl (o_ild 1 51)) := ⟨ok_iload_n dd_76_50, mn_ild _ _⟩
theorem vd_76_51 (E : ac_E) : ac_V E ac_MDf ac_HDf 76 51 (.inl (o_add 52)) := ⟨ok_iadd dd_76_51, mn_add _⟩
theorem vd_76_52 (E : ac_E) : ac_V E ac_MDf ac_HDf 76 52 (.inl (o_ild 3 53)) := ⟨ok_iload_n dd_76_52, mn_ild _ _⟩
theorem vd_76_53 (E : ac_E) : ac_V E ac_MDf ac_HDf 76 53 (.inl (o_is 54)) := ⟨ok_iastore dd_76_53, mn_is _⟩
theorem vd_76_54 (E : ac_E) : ac_V E ac_MDf ac_HDf 76 54 (.inl (o_con (.int 0) 55)) := ⟨ok_iconst dd_76_54 (by decide), mn_con _ _⟩
theorem vd_76_55 (E : ac_E) : ac_V E ac_MDf ac_HDf 76 55 (.inl (o_ist 4 57)) := ⟨ok_istore dd_76_55, mn_ist _ _⟩
theorem vd_76_57 (E : ac_E) : ac_V E ac_MDf ac_HDf 76 57 (.inl (o_ild 4 59)) := ⟨ok_iload dd_76_57, mn_ild _ _⟩
theorem vd_76_59 (E : ac_E) : ac_V E ac_MDf ac_HDf 76 59 (.inl (o_ald 0 60)) := ⟨ok_aload_n dd_76_59, mn_ald _ _⟩
theorem vd_76_60 (E : ac_E) : ac_V E ac_MDf ac_HDf 76 60 (.inl (o_get 5 14 63)) := ⟨ok_getf (ci := 5) (f := 14) (C := RX5) (T := TX5) (N := 17) (ref := RX5) rfl win_5 (by decide) rfl wm_652 dd_76_60, mn_get _ _ _⟩
theorem vd_76_63 (E : ac_E) : ac_V E ac_MDf ac_HDf 76 63 (.inl (o_ge 108 66)) := ⟨ok_icmpge dd_76_63 (by decide), mn_ge _ _⟩
theorem vd_76_66 (E : ac_E) : ac_V E ac_MDf ac_HDf 76 66 (.inl (o_ald 0 67)) := ⟨ok_aload_n dd_76_66, mn_ald _ _⟩
theorem vd_76_67 (E : ac_E) : ac_V E ac_MDf ac_HDf 76 67 (.inl (o_get 5 15 70)) := ⟨ok_getf (ci := 5) (f := 15) (C := RX5) (T := TX5) (N := 17) (ref := RX5) rfl win_5 (by decide) rfl wm_653 dd_76_67, mn_get _ _ _⟩
theorem vd_76_70 (E : ac_E) : ac_V E ac_MDf ac_HDf 76 70 (.inl (o_ild 4 72)) := ⟨ok_iload dd_76_70, mn_ild _ _⟩
theorem vd_76_72 (E : ac_E) : ac_V E ac_MDf ac_HDf 76 72 (.inl (o_ald 0 73)) := ⟨ok_aload_n dd_76_72, mn_ald _ _⟩
theorem vd_76_73 (E : ac_E) : ac_V E ac_MDf ac_HDf 76 73 (.inl (o_get 5 15 76)) := ⟨ok_getf (ci := 5) (f := 15) (C := RX5) (T := TX5) (N := 17) (ref := RX5) rfl win_5 (by decide) rfl wm_653 dd_76_73, mn_get _ _ _⟩
theorem vd_76_76 (E : ac_E) : ac_V E ac_MDf ac_HDf 76 76 (.inl (o_ild 4 78)) := ⟨ok_iload dd_76_76, mn_ild _ _⟩
theorem vd_76_78 (E : ac_E) : ac_V E ac_MDf ac_HDf 76 78 (.inl (o_ia 79)) := ⟨ok_iaload dd_76_78, mn_ia _⟩
theorem vd_76_79 (E : ac_E) : ac_V E ac_MDf ac_HDf 76 79 (.inl (o_ald 0 80)) := ⟨ok_aload_n dd_76_79, mn_ald _ _⟩
theorem vd_76_80 (E : ac_E) : ac_V E ac_MDf ac_HDf 76 80 (.inl (o_get 5 1 83)) := ⟨ok_getf (ci := 5) (f := 1) (C := RX5) (T := TX5) (N := 17) (ref := RX5) rfl win_5 (by decide) rfl wm_639 dd_76_80, mn_get _ _ _⟩
theorem vd_76_83 (E : ac_E) : ac_V E ac_MDf ac_HDf 76 83 (.inl (o_ild 2 84)) := ⟨ok_iload_n dd_76_83, mn_ild _ _⟩
theorem vd_76_84 (E : ac_E) : ac_V E ac_MDf ac_HDf 76 84 (.inl (o_mul 85)) := ⟨ok_imul dd_76_84, mn_mul _⟩
theorem vd_76_85 (E : ac_E) : ac_V E ac_MDf ac_HDf 76 85 (.inl (o_ild 1 86)) := ⟨ok_iload_n dd_76_85, mn_ild _ _⟩
theorem vd_76_86 (E : ac_E) : ac_V E ac_MDf ac_HDf 76 86 (.inl (o_add 87)) := ⟨ok_iadd dd_76_86, mn_add _⟩
theorem vd_76_87 (E : ac_E) : ac_V E ac_MDf ac_HDf 76 87 (.inl (o_ne 94 90)) := ⟨ok_icmpne dd_76_87 (by decide), mn_ne _ _⟩
theorem vd_76_90 (E : ac_E) : ac_V E ac_MDf ac_HDf 76 90 (.inl (o_con (.int (-1)) 91)) := ⟨ok_iconst dd_76_90 (by decide), mn_con _ _⟩
theorem vd_76_91 (E : ac_E) : ac_V E ac_MDf ac_HDf 76 91 (.inl (o_go 101)) := ⟨ok_goto dd_76_91 (by decide), mn_go _⟩
theorem vd_76_94 (E : ac_E) : ac_V E ac_MDf ac_HDf 76 94 (.inl (o_ald 0 95)) := ⟨ok_aload_n dd_76_94, mn_ald _ _⟩
theorem vd_76_95 (E : ac_E) : ac_V E ac_MDf ac_HDf 76 95 (.inl (o_get 5 15 98)) := ⟨ok_getf (ci := 5) (f := 15) (C := RX5) (T := TX5) (N := 17) (ref := RX5) rfl win_5 (by decide) rfl wm_653 dd_76_95, mn_get _ _ _⟩
theorem vd_76_98 (E : ac_E) : ac_V E ac_MDf ac_HDf 76 98 (.inl (o_ild 4 100)) := ⟨ok_iload dd_76_98, mn_ild _ _⟩
theorem vd_76_100 (E : ac_E) : ac_V E ac_MDf ac_HDf 76 100 (.inl (o_ia 101)) := ⟨ok_iaload dd_76_100, mn_ia _⟩
theorem vd_76_101 (E : ac_E) : ac_V E ac_MDf ac_HDf 76 101 (.inl (o_is 102)) := ⟨ok_iastore dd_76_101, mn_is _⟩
theorem vd_76_102 (E : ac_E) : ac_V E ac_MDf ac_HDf 76 102 (.inl (o_inc 4 1 105)) := ⟨ok_iinc dd_76_102 (by decide), mn_inc _ _ _⟩
theorem vd_76_105 (E : ac_E) : ac_V E ac_MDf ac_HDf 76 105 (.inl (o_go 57)) := ⟨ok_goto dd_76_105 (by decide), mn_go _⟩
theorem vd_76_108 (E : ac_E) : ac_V E ac_MDf ac_HDf 76 108 (.inr (.inr (.inl 0))) := ⟨fun _ => ⟨dd_76_108, rfl⟩, fun q => nomatch q, fun q => nomatch q⟩
theorem va_76 (E : ac_E) (pc : Nat) : ac_V E ac_MDf ac_HDf 76 pc (tb_76 (ac_len E) (ac_xs E) pc) := (ac_node (ac_node (ac_node (ac_node (ac_node (ac_leaf 0 (vd_76_0 E)) (ac_node (ac_leaf 1 (vd_76_1 E)) (ac_leaf 2 (vd_76_2 E)))) (ac_node (ac_node (ac_leaf 3 (vd_76_3 E)) (ac_leaf 4 (vd_76_4 E))) (ac_node (ac_leaf 7 (vd_76_7 E)) (ac_leaf 10 (vd_76_10 E))))) (ac_node (ac_node (ac_node (ac_leaf 11 (vd_76_11 E)) (ac_leaf 14 (vd_76_14 E))) (ac_node (ac_leaf 15 (vd_76_15 E)) (ac_leaf 18 (vd_76_18 E)))) (ac_node (ac_node (ac_leaf 19 (vd_76_19 E)) (ac_leaf 21 (vd_76_21 E))) (ac_node (ac_leaf 24 (vd_76_24 E)) (ac_leaf 25 (vd_76_25 E)))))) (ac_node (ac_node (ac_node (ac_leaf 28 (vd_76_28 E)) (ac_node (ac_leaf 29 (vd_76_29 E)) (ac_leaf 32 (vd_76_32 E)))) (ac_node (ac_node (ac_leaf 33 (vd_76_33 E)) (ac_leaf 36 (vd_76_36 E))) (ac_node (ac_leaf 39 (vd_76_39 E)) (ac_leaf 40 (vd_76_40 E))))) (ac_node (ac_node (ac_node (ac_leaf 41 (vd_76_41 E)) (ac_leaf 44 (vd_76_44 E))) (ac_node (ac_leaf 45 (vd_76_45 E)) (ac_leaf 48 (vd_76_48 E)))) (ac_node (ac_node (ac_leaf 49 (vd_76_49 E)) (ac_leaf 50 (vd_76_50 E))) (ac_node (ac_leaf 51 (vd_76_51 E)) (ac_leaf 52 (vd_76_52 E))))))) (ac_node (ac_node (ac_node (ac_node (ac_leaf 53 (vd_76_53 E)) (ac_node (ac_leaf 54 (vd_76_54 E)) (ac_leaf 55 (vd_76_55 E)))) (ac_node (ac_node (ac_leaf 57 (vd_76_57 E)) (ac_leaf 59 (vd_76_59 E))) (ac_node (ac_leaf 60 (vd_76_60 E)) (ac_leaf 63 (vd_76_63 E))))) (ac_node (ac_node (ac_node (ac_leaf 66 (vd_76_66 E)) (ac_leaf 67 (vd_76_67 E))) (ac_node (ac_leaf 70 (vd_76_70 E)) (ac_leaf 72 (vd_76_72 E)))) (ac_node (ac_node (ac_leaf 73 (vd_76_73 E)) (ac_leaf 76 (vd_76_76 E))) (ac_node (ac_leaf 78 (vd_76_78 E)) (ac_leaf 79 (vd_76_79 E)))))) (ac_node (ac_node (ac_node (ac_node (ac_leaf 80 (vd_76_80 E)) (ac_leaf 83 (vd_76_83 E))) (ac_node (ac_leaf 84 (vd_76_84 E)) (ac_leaf 85 (vd_76_85 E)))) (ac_node (ac_node (ac_leaf 86 (vd_76_86 E)) (ac_leaf 87 (vd_76_87 E))) (ac_node (ac_leaf 90 (vd_76_90 E)) (ac_leaf 91 (vd_76_91 E))))) (ac_node (ac_node (ac_node (ac_leaf 94 (vd_76_94 E)) (ac_leaf 95 (vd_76_95 E))) (ac_node (ac_leaf 98 (vd_76_98 E)) (ac_leaf 100 (vd_76_100 E)))) (ac_node (ac_node (ac_leaf 101 (vd_76_101 E)) (ac_leaf 102 (vd_76_102 E))) (ac_node (ac_leaf 105 (vd_76_105 E)) (ac_leaf 108 (vd_76_108 E))))))))
theorem vd_77_0 (E : ac_E) : ac_V E ac_MDf ac_HDf 77 0 (.inl (o_ald 0 1)) := ⟨ok_aload_n dd_77_0, mn_ald _ _⟩
theorem vd_77_1 (E : ac_E) : ac_V E ac_MDf ac_HDf 77 1 (.inl (o_ald 0 2)) := ⟨ok_aload_n dd_77_1, mn_ald _ _⟩
theorem vd_77_2 (E : ac_E) : ac_V E ac_MDf ac_HDf 77 2 (.inl (o_ild 1 3)) := ⟨ok_iload_n dd_77_2, mn_ild _ _⟩
theorem vd_77_3 (E : ac_E) : ac_V E ac_MDf ac_HDf 77 3 (.inl (o_ild 2 4)) := ⟨ok_iload_n dd_77_3, mn_ild _ _⟩
theorem vd_77_4 (E : ac_E) : ac_V E ac_MDf ac_HDf 77 4 (.inr (.inl (68,3,7,7))) := ac_Vc0 ((ok_callV (T := TX5) (N := 17) rfl rfl (by decide) (by decide +kernel) wm_715 wm_56 wm_712 wm_714 wm_31 dd_77_4).1) (fun _ => rfl)
theorem vd_77_7 (E : ac_E) : ac_V E ac_MDf ac_HDf 77 7 (.inl (o_eq0 14 10)) := ⟨ok_ifeq dd_77_7 (by decide), mn_eq0 _ _⟩
theorem vd_77_10 (E : ac_E) : ac_V E ac_MDf ac_HDf 77 10 (.inl (o_con (.int 0) 11)) := ⟨ok_iconst dd_77_10 (by decide), mn_con _ _⟩
theorem vd_77_11 (E : ac_E) : ac_V E ac_MDf ac_HDf 77 11 (.inl (o_go 15)) := ⟨ok_goto dd_77_11 (by decide), mn_go _⟩
theorem vd_77_14 (E : ac_E) : ac_V E ac_MDf ac_HDf 77 14 (.inl (o_con (.int 1) 15)) := ⟨ok_iconst dd_77_14 (by decide), mn_con _ _⟩
theorem vd_77_15 (E : ac_E) : ac_V E ac_MDf ac_HDf 77 15 (.inl (o_put 5 0 18)) := ⟨ok_putf (ci := 5) (f := 0) (C := RX5) (T := TX5) (N := 17) (ref := RX5) rfl win_5 (by decide) rfl tyX5 tyX5_ok nmX5 (by decide +kernel) rfl wm_638 dd_77_15, mn_put _ _ _⟩
theorem vd_77_18 (E : ac_E) : ac_V E ac_MDf ac_HDf 77 18 (.inl (o_ald 0 19)) := ⟨ok_aload_n dd_77_18, mn_ald _ _⟩
theorem vd_77_19 (E : ac_E) : ac_V E ac_MDf ac_HDf 77 19 (.inl (o_get 5 0 22)) := ⟨ok_getf (ci := 5) (f := 0) (C := RX5) (T := TX5) (N := 17) (ref := RX5) rfl win_5 (by decide) rfl wm_638 dd_77_19, mn_get _ _ _⟩
theorem vd_77_22 (E : ac_E) : ac_V E ac_MDf ac_HDf 77 22 (.inl (o_le0 29 25)) := ⟨ok_ifle dd_77_22 (by decide), mn_le0 _ _⟩
theorem vd_77_25 (E : ac_E) : ac_V E ac_MDf ac_HDf 77 25 (.inl (o_con (.int 0) 26)) := ⟨ok_iconst dd_77_25 (by decide), mn_con _ _⟩
theorem vd_77_26 (E : ac_E) : ac_V E ac_MDf ac_HDf 77 26 (.inl (o_go 42)) := ⟨ok_goto dd_77_26 (by decide), mn_go _⟩
theorem vd_77_29 (E : ac_E) : ac_V E ac_MDf ac_HDf 77 29 (.inl (o_ald 0 30)) := ⟨ok_aload_n dd_77_29, mn_ald _ _⟩
theorem vd_77_30 (E : ac_E) : ac_V E ac_MDf ac_HDf 77 30 (.inl (o_get 5 5 33)) := ⟨ok_getf (ci := 5) (f := 5) (C := RX5) (T := TX5) (N := 17) (ref := RX5) rfl win_5 (by decide) rfl wm_643 dd_77_30, mn_get _ _ _⟩
theorem vd_77_33 (E : ac_E) : ac_V E ac_MDf ac_HDf 77 33 (.inl (o_ald 0 34)) := ⟨ok_aload_n dd_77_33, mn_ald _ _⟩
theorem vd_77_34 (E : ac_E) : ac_V E ac_MDf ac_HDf 77 34 (.inl (o_get 5 1 37)) := ⟨ok_getf (ci := 5) (f := 1) (C := RX5) (T := TX5) (N := 17) (ref := RX5) rfl win_5 (by decide) rfl wm_639 dd_77_34, mn_get _ _ _⟩
theorem vd_77_37 (E : ac_E) : ac_V E ac_MDf ac_HDf 77 37 (.inl (o_ild 2 38)) := ⟨ok_iload_n dd_77_37, mn_ild _ _⟩
theorem vd_77_38 (E : ac_E) : ac_V E ac_MDf ac_HDf 77 38 (.inl (o_mul 39)) := ⟨ok_imul dd_77_38, mn_mul _⟩
theorem vd_77_39 (E : ac_E) : ac_V E ac_MDf ac_HDf 77 39 (.inl (o_ild 1 40)) := ⟨ok_iload_n dd_77_39, mn_ild _ _⟩
theorem vd_77_40 (E : ac_E) : ac_V E ac_MDf ac_HDf 77 40 (.inl (o_add 41)) := ⟨ok_iadd dd_77_40, mn_add _⟩
theorem vd_77_41 (E : ac_E) : ac_V E ac_MDf ac_HDf 77 41 (.inl (o_ia 42)) := ⟨ok_iaload dd_77_41, mn_ia _⟩
theorem vd_77_42 (E : ac_E) : ac_V E ac_MDf ac_HDf 77 42 (.inr (.inr (.inl 1))) := ⟨fun q => nomatch q, fun _ => ⟨dd_77_42, rfl⟩, fun q => nomatch q⟩
theorem va_77 (E : ac_E) (pc : Nat) : ac_V E ac_MDf ac_HDf 77 pc (tb_77 (ac_len E) (ac_xs E) pc) := (ac_node (ac_node (ac_node (ac_node (ac_leaf 0 (vd_77_0 E)) (ac_node (ac_leaf 1 (vd_77_1 E)) (ac_leaf 2 (vd_77_2 E)))) (ac_node (ac_leaf 3 (vd_77_3 E)) (ac_node (ac_leaf 4 (vd_77_4 E)) (ac_leaf 7 (vd_77_7 E))))) (ac_node (ac_node (ac_leaf 10 (vd_77_10 E)) (ac_node (ac_leaf 11 (vd_77_11 E)) (ac_leaf 14 (vd_77_14 E)))) (ac_node (ac_leaf 15 (vd_77_15 E)) (ac_node (ac_leaf 18 (vd_77_18 E)) (ac_leaf 19 (vd_77_19 E)))))) (ac_node (ac_node (ac_node (ac_leaf 22 (vd_77_22 E)) (ac_node (ac_leaf 25 (vd_77_25 E)) (ac_leaf 26 (vd_77_26 E)))) (ac_node (ac_leaf 29 (vd_77_29 E)) (ac_node (ac_leaf 30 (vd_77_30 E)) (ac_leaf 33 (vd_77_33 E))))) (ac_node (ac_node (ac_leaf 34 (vd_77_34 E)) (ac_node (ac_leaf 37 (vd_77_37 E)) (ac_leaf 38 (vd_77_38 E)))) (ac_node (ac_node (ac_leaf 39 (vd_77_39 E)) (ac_leaf 40 (vd_77_40 E))) (ac_node (ac_leaf 41 (vd_77_41 E)) (ac_leaf 42 (vd_77_42 E)))))))
theorem vd_78_0 (E : ac_E) : ac_V E ac_MDf ac_HDf 78 0 (.inl (o_ild 3 1)) := ⟨ok_iload_n dd_78_0, mn_ild _ _⟩
theorem vd_78_1 (E : ac_E) : ac_V E ac_MDf ac_HDf 78 1 (.inl (o_ald 0 2)) := ⟨ok_aload_n dd_78_1, mn_ald _ _⟩
theorem vd_78_2 (E : ac_E) : ac_V E ac_MDf ac_HDf 78 2 (.inl (o_get 5 6 5)) := ⟨ok_getf (ci := 5) (f := 6) (C := RX5) (T := TX5) (N := 17) (ref := RX5) rfl win_5 (by decide) rfl wm_644 dd_78_2, mn_get _ _ _⟩
theorem vd_78_5 (E : ac_E) : ac_V E ac_MDf ac_HDf 78 5 (.inl (o_ild 1 6)) := ⟨ok_iload_n dd_78_5, mn_ild _ _⟩
theorem vd_78_6 (E : ac_E) : ac_V E ac_MDf ac_HDf 78 6 (.inl (o_ia 7)) := ⟨ok_iaload dd_78_6, mn_ia _⟩
theorem vd_78_7 (E : ac_E) : ac_V E ac_MDf ac_HDf 78 7 (.inl (o_ild 2 8)) := ⟨ok_iload_n dd_78_7, mn_ild _ _⟩
theorem vd_78_8 (E : ac_E) : ac_V E ac_MDf ac_HDf 78 8 (.inl (o_ne 15 11)) := ⟨ok_icmpne dd_78_8 (by decide), mn_ne _ _⟩
theorem vd_78_11 (E : ac_E) : ac_V E ac_MDf ac_HDf 78 11 (.inl (o_con (.int 1) 12)) := ⟨ok_iconst dd_78_11 (by decide), mn_con _ _⟩
theorem vd_78_12 (E : ac_E) : ac_V E ac_MDf ac_HDf 78 12 (.inl (o_go 16)) := ⟨ok_goto dd_78_12 (by decide), mn_go _⟩
theorem vd_78_15 (E : ac_E) : ac_V E ac_MDf ac_HDf 78 15 (.inl (o_con (.int 0) 16)) := ⟨ok_iconst dd_78_15 (by decide), mn_con _ _⟩
theorem vd_78_16 (E : ac_E) : ac_V E ac_MDf ac_HDf 78 16 (.inl (o_eq 23 19)) := ⟨ok_icmpeq dd_78_16 (by decide), mn_eq _ _⟩
theorem vd_78_19 (E : ac_E) : ac_V E ac_MDf ac_HDf 78 19 (.inl (o_con (.int 1) 20)) := ⟨ok_iconst dd_78_19 (by decide), mn_con _ _⟩
theorem vd_78_20 (E : ac_E) : ac_V E ac_MDf ac_HDf 78 20 (.inl (o_go 24)) := ⟨ok_goto dd_78_20 (by decide), mn_go _⟩
theorem vd_78_23 (E : ac_E) : ac_V E ac_MDf ac_HDf 78 23 (.inl (o_con (.int 0) 24)) := ⟨ok_iconst dd_78_23 (by decide), mn_con _ _⟩
theorem vd_78_24 (E : ac_E) : ac_V E ac_MDf ac_HDf 78 24 (.inl (o_ist 4 26)) := ⟨ok_istore dd_78_24, mn_ist _ _⟩
theorem vd_78_26 (E : ac_E) : ac_V E ac_MDf ac_HDf 78 26 (.inl (o_ald 0 27)) := ⟨ok_aload_n dd_78_26, mn_ald _ _⟩
theorem vd_78_27 (E : ac_E) : ac_V E ac_MDf ac_HDf 78 27 (.inl (o_get 5 6 30)) := ⟨ok_getf (ci := 5) (f := 6) (C := RX5) (T := TX5) (N := 17) (ref := RX5) rfl win_5 (by decide) rfl wm_644 dd_78_27, mn_get _ _ _⟩
theorem vd_78_30 (E : ac_E) : ac_V E ac_MDf ac_HDf 78 30 (.inl (o_ild 1 31)) := ⟨ok_iload_n dd_78_30, mn_ild _ _⟩
theorem vd_78_31 (E : ac_E) : ac_V E ac_MDf ac_HDf 78 31 (.inl (o_ild 3 32)) := ⟨ok_iload_n dd_78_31, mn_ild _ _⟩
theorem vd_78_32 (E : ac_E) : ac_V E ac_MDf ac_HDf 78 32 (.inl (o_eq0 39 35)) := ⟨ok_ifeq dd_78_32 (by decide), mn_eq0 _ _⟩
theorem vd_78_35 (E : ac_E) : ac_V E ac_MDf ac_HDf 78 35 (.inl (o_ild 2 36)) := ⟨ok_iload_n dd_78_35, mn_ild _ _⟩
theorem vd_78_36 (E : ac_E) : ac_V E ac_MDf ac_HDf 78 36 (.inl (o_go 40)) := ⟨ok_goto dd_78_36 (by decide), mn_go _⟩
theorem vd_78_39 (E : ac_E) : ac_V E ac_MDf ac_HDf 78 39 (.inl (o_con (.int 0) 40)) := ⟨ok_iconst dd_78_39 (by decide), mn_con _ _⟩
theorem vd_78_40 (E : ac_E) : ac_V E ac_MDf ac_HDf 78 40 (.inl (o_is 41)) := ⟨ok_iastore dd_78_40, mn_is _⟩
theorem vd_78_41 (E : ac_E) : ac_V E ac_MDf ac_HDf 78 41 (.inl (o_ild 4 43)) := ⟨ok_iload dd_78_41, mn_ild _ _⟩
theorem vd_78_43 (E : ac_E) : ac_V E ac_MDf ac_HDf 78 43 (.inr (.inr (.inl 2))) := ⟨fun q => nomatch q, fun q => nomatch q, fun _ => ⟨dd_78_43, rfl⟩⟩
theorem va_78 (E : ac_E) (pc : Nat) : ac_V E ac_MDf ac_HDf 78 pc (tb_78 (ac_len E) (ac_xs E) pc) := (ac_node (ac_node (ac_node (ac_node (ac_leaf 0 (vd_78_0 E)) (ac_node (ac_leaf 1 (vd_78_1 E)) (ac_leaf 2 (vd_78_2 E)))) (ac_node (ac_leaf 5 (vd_78_5 E)) (ac_node (ac_leaf 6 (vd_78_6 E)) (ac_leaf 7 (vd_78_7 E))))) (ac_node (ac_node (ac_leaf 8 (vd_78_8 E)) (ac_node (ac_leaf 11 (vd_78_11 E)) (ac_leaf 12 (vd_78_12 E)))) (ac_node (ac_node (ac_leaf 15 (vd_78_15 E)) (ac_leaf 16 (vd_78_16 E))) (ac_node (ac_leaf 19 (vd_78_19 E)) (ac_leaf 20 (vd_78_20 E)))))) (ac_node (ac_node (ac_node (ac_leaf 23 (vd_78_23 E)) (ac_node (ac_leaf 24 (vd_78_24 E)) (ac_leaf 26 (vd_78_26 E)))) (ac_node (ac_leaf 27 (vd_78_27 E)) (ac_node (ac_leaf 30 (vd_78_30 E)) (ac_leaf 31 (vd_78_31 E))))) (ac_node (ac_node (ac_leaf 32 (vd_78_32 E)) (ac_node (ac_leaf 35 (vd_78_35 E)) (ac_leaf 36 (vd_78_36 E)))) (ac_node (ac_node (ac_leaf 39 (vd_78_39 E)) (ac_leaf 40 (vd_78_40 E))) (ac_node (ac_leaf 41 (vd_78_41 E)) (ac_leaf 43 (vd_78_43 E)))))))
theorem vd_79_0 (E : ac_E) : ac_V E ac_MDf ac_HDf 79 0 (.inl (o_ald 0 1)) := ⟨ok_aload_n dd_79_0, mn_ald _ _⟩
theorem vd_79_1 (E : ac_E) : ac_V E ac_MDf ac_HDf 79 1 (.inl (o_get 5 6 4)) := ⟨ok_getf (ci := 5) (f := 6) (C := RX5) (T := TX5) (N := 17) (ref := RX5) rfl win_5 (by decide) rfl wm_644 dd_79_1, mn_get _ _ _⟩
theorem vd_79_4 (E : ac_E) : ac_V E ac_MDf ac_HDf 79 4 (.inl (o_ild 1 5)) := ⟨ok_iload_n dd_79_4, mn_ild _ _⟩
theorem vd_79_5 (E : ac_E) : ac_V E ac_MDf ac_HDf 79 5 (.inl (o_ia 6)) := ⟨ok_iaload dd_79_5, mn_ia _⟩
theorem vd_79_6 (E : ac_E) : ac_V E ac_MDf ac_HDf 79 6 (.inl (o_eq0 23 9)) := ⟨ok_ifeq dd_79_6 (by decide), mn_eq0 _ _⟩
theorem vd_79_9 (E : ac_E) : ac_V E ac_MDf ac_HDf 79 9 (.inl (o_ald 0 10)) := ⟨ok_aload_n dd_79_9, mn_ald _ _⟩
theorem vd_79_10 (E : ac_E) : ac_V E ac_MDf ac_HDf 79 10 (.inl (o_get 5 6 13)) := ⟨ok_getf (ci := 5) (f := 6) (C := RX5) (T := TX5) (N := 17) (ref := RX5) rfl win_5 (by decide) rfl wm_644 dd_79_10, mn_get _ _ _⟩
theorem vd_79_13 (E : ac_E) : ac_V E ac_MDf ac_HDf 79 13 (.inl (o_ild 1 14)) := ⟨ok_iload_n dd_79_13, mn_ild _ _⟩
theorem vd_79_14 (E : ac_E) : ac_V E ac_MDf ac_HDf 79 14 (.inl (o_ia 15)) := ⟨ok_iaload dd_79_14, mn_ia _⟩
theorem vd_79_15 (E : ac_E) : ac_V E ac_MDf ac_HDf 79 15 (.inl (o_ild 2 16)) := ⟨ok_iload_n dd_79_15, mn_ild _ _⟩
theorem vd_79_16 (E : ac_E) : ac_V E ac_MDf ac_HDf 79 16 (.inl (o_eq 23 19)) := ⟨ok_icmpeq dd_79_16 (by decide), mn_eq _ _⟩
theorem vd_79_19 (E : ac_E) : ac_V E ac_MDf ac_HDf 79 19 (.inl (o_con (.int 1) 20)) := ⟨ok_iconst dd_79_19 (by decide), mn_con _ _⟩
theorem vd_79_20 (E : ac_E) : ac_V E ac_MDf ac_HDf 79 20 (.inl (o_go 24)) := ⟨ok_goto dd_79_20 (by decide), mn_go _⟩
theorem vd_79_23 (E : ac_E) : ac_V E ac_MDf ac_HDf 79 23 (.inl (o_con (.int 0) 24)) := ⟨ok_iconst dd_79_23 (by decide), mn_con _ _⟩
theorem vd_79_24 (E : ac_E) : ac_V E ac_MDf ac_HDf 79 24 (.inr (.inr (.inl 2))) := ⟨fun q => nomatch q, fun q => nomatch q, fun _ => ⟨dd_79_24, rfl⟩⟩
theorem va_79 (E : ac_E) (pc : Nat) : ac_V E ac_MDf ac_HDf 79 pc (tb_79 (ac_len E) (ac_xs E) pc) := (ac_node (ac_node (ac_node (ac_leaf 0 (vd_79_0 E)) (ac_node (ac_leaf 1 (vd_79_1 E)) (ac_leaf 4 (vd_79_4 E)))) (ac_node (ac_node (ac_leaf 5 (vd_79_5 E)) (ac_leaf 6 (vd_79_6 E))) (ac_node (ac_leaf 9 (vd_79_9 E)) (ac_leaf 10 (vd_79_10 E))))) (ac_node (ac_node (ac_node (ac_leaf 13 (vd_79_13 E)) (ac_leaf 14 (vd_79_14 E))) (ac_node (ac_leaf 15 (vd_79_15 E)) (ac_leaf 16 (vd_79_16 E)))) (ac_node (ac_node (ac_leaf 19 (vd_79_19 E)) (ac_leaf 20 (vd_79_20 E))) (ac_node (ac_leaf 23 (vd_79_23 E)) (ac_leaf 24 (vd_79_24 E))))))
theorem vd_80_0 (E : ac_E) : ac_V E ac_MDf ac_HDf 80 0 (.inl (o_ald 0 1)) := ⟨ok_aload_n dd_80_0, mn_ald _ _⟩
theorem vd_80_1 (E : ac_E) : ac_V E ac_MDf ac_HDf 80 1 (.inl (o_ald 0 2)) := ⟨ok_aload_n dd_80_1, mn_ald _ _⟩
theorem vd_80_2 (E : ac_E) : ac_V E ac_MDf ac_HDf 80 2 (.inl (o_ild 1 3)) := ⟨ok_iload_n dd_80_2, mn_ild _ _⟩
theorem vd_80_3 (E : ac_E) : ac_V E ac_MDf ac_HDf 80 3 (.inl (o_ild 2 4)) := ⟨ok_iload_n dd_80_3, mn_ild _ _⟩
theorem vd_80_4 (E : ac_E) : ac_V E ac_MDf ac_HDf 80 4 (.inr (.inl (68,3,7,7))) := ac_Vc0 ((ok_callV (T := TX5) (N := 17) rfl rfl (by decide) (by decide +kernel) wm_715 wm_56 wm_712 wm_714 wm_31 dd_80_4).1) (fun _ => rfl)
theorem vd_80_7 (E : ac_E) : ac_V E ac_MDf ac_HDf 80 7 (.inl (o_ne0 14 10)) := ⟨ok_ifne dd_80_7 (by decide), mn_ne0 _ _⟩
theorem vd_80_10 (E : ac_E) : ac_V E ac_MDf ac_HDf 80 10 (.inl (o_con (.int 1) 11)) := ⟨ok_iconst dd_80_10 (by decide), mn_con _ _⟩
theorem vd_80_11 (E : ac_E) : ac_V E ac_MDf ac_HDf 80 11 (.inl (o_go 35)) := ⟨ok_goto dd_80_11 (by decide), mn_go _⟩
theorem vd_80_14 (E : ac_E) : ac_V E ac_MDf ac_HDf 80 14 (.inl (o_ald 0 15)) := ⟨ok_aload_n dd_80_14, mn_ald _ _⟩
theorem vd_80_15 (E : ac_E) : ac_V E ac_MDf ac_HDf 80 15 (.inl (o_ald 0 16)) := ⟨ok_aload_n dd_80_15, mn_ald _ _⟩
theorem vd_80_16 (E : ac_E) : ac_V E ac_MDf ac_HDf 80 16 (.inl (o_get 5 1 19)) := ⟨ok_getf (ci := 5) (f := 1) (C := RX5) (T := TX5) (N := 17) (ref := RX5) rfl win_5 (by decide) rfl wm_639 dd_80_16, mn_get _ _ _⟩
theorem vd_80_19 (E : ac_E) : ac_V E ac_MDf ac_HDf 80 19 (.inl (o_ild 2 20)) := ⟨ok_iload_n dd_80_19, mn_ild _ _⟩
theorem vd_80_20 (E : ac_E) : ac_V E ac_MDf ac_HDf 80 20 (.inl (o_mul 21)) := ⟨ok_imul dd_80_20, mn_mul _⟩
theorem vd_80_21 (E : ac_E) : ac_V E ac_MDf ac_HDf 80 21 (.inl (o_ild 1 22)) := ⟨ok_iload_n dd_80_21, mn_ild _ _⟩
theorem vd_80_22 (E : ac_E) : ac_V E ac_MDf ac_HDf 80 22 (.inl (o_add 23)) := ⟨ok_iadd dd_80_22, mn_add _⟩
theorem vd_80_23 (E : ac_E) : ac_V E ac_MDf ac_HDf 80 23 (.inl (o_ild 3 24)) := ⟨ok_iload_n dd_80_23, mn_ild _ _⟩
theorem vd_80_24 (E : ac_E) : ac_V E ac_MDf ac_HDf 80 24 (.inr (.inl (79,3,27,7))) := ac_Vc0 ((ok_callV (T := TX5) (N := 17) rfl rfl (by decide) (by decide +kernel) wm_731 wm_56 wm_728 wm_730 wm_33 dd_80_24).1) (fun _ => rfl)
theorem vd_80_27 (E : ac_E) : ac_V E ac_MDf ac_HDf 80 27 (.inl (o_eq0 34 30)) := ⟨ok_ifeq dd_80_27 (by decide), mn_eq0 _ _⟩
theorem vd_80_30 (E : ac_E) : ac_V E ac_MDf ac_HDf 80 30 (.inl (o_con (.int 2) 31)) := ⟨ok_iconst dd_80_30 (by decide), mn_con _ _⟩
theorem vd_80_31 (E : ac_E) : ac_V E ac_MDf ac_HDf 80 31 (.inl (o_go 35)) := ⟨ok_goto dd_80_31 (by decide), mn_go _⟩
theorem vd_80_34 (E : ac_E) : ac_V E ac_MDf ac_HDf 80 34 (.inl (o_con (.int 0) 35)) := ⟨ok_iconst dd_80_34 (by decide), mn_con _ _⟩
theorem vd_80_35 (E : ac_E) : ac_V E ac_MDf ac_HDf 80 35 (.inl (o_put 5 0 38)) := ⟨ok_putf (ci := 5) (f := 0) (C := RX5) (T := TX5) (N := 17) (ref := RX5) rfl win_5 (by decide) rfl tyX5 tyX5_ok nmX5 (by decide +kernel) rfl wm_638 dd_80_35, mn_put _ _ _⟩
theorem vd_80_38 (E : ac_E) : ac_V E ac_MDf ac_HDf 80 38 (.inl (o_ald 0 39)) := ⟨ok_aload_n dd_80_38, mn_ald _ _⟩
theorem vd_80_39 (E : ac_E) : ac_V E ac_MDf ac_HDf 80 39 (.inl (o_get 5 0 42)) := ⟨ok_getf (ci := 5) (f := 0) (C := RX5) (T := TX5) (N := 17) (ref := RX5) rfl win_5 (by decide) rfl wm_638 dd_80_39, mn_get _ _ _⟩
theorem vd_80_42 (E : ac_E) : ac_V E ac_MDf ac_HDf 80 42 (.inl (o_ne0 67 45)) := ⟨ok_ifne dd_80_42 (by decide), mn_ne0 _ _⟩
theorem vd_80_45 (E : ac_E) : ac_V E ac_MDf ac_HDf 80 45 (.inl (o_ald 0 46)) := ⟨ok_aload_n dd_80_45, mn_ald _ _⟩
theorem vd_80_46 (E : ac_E) : ac_V E ac_MDf ac_HDf 80 46 (.inl (o_ald 0 47)) := ⟨ok_aload_n dd_80_46, mn_ald _ _⟩
theorem vd_80_47 (E : ac_E) : ac_V E ac_MDf ac_HDf 80 47 (.inl (o_get 5 1 50)) := ⟨ok_getf (ci := 5) (f := 1) (C := RX5) (T := TX5) (N := 17) (ref := RX5) rfl win_5 (by decide) rfl wm_639 dd_80_47, mn_get _ _ _⟩
theorem vd_80_50 (E : ac_E) : ac_V E ac_MDf ac_HDf 80 50 (.inl (o_ild 2 51)) := ⟨ok_iload_n dd_80_50, mn_ild _ _⟩
theorem vd_80_51 (E : ac_E) : ac_V E ac_MDf ac_HDf 80 51 (.inl (o_mul 52)) := ⟨ok_imul dd_80_51, mn_mul _⟩
theorem vd_80_52 (E : ac_E) : ac_V E ac_MDf ac_HDf 80 52 (.inl (o_ild 1 53)) := ⟨ok_iload_n dd_80_52, mn_ild _ _⟩
theorem vd_80_53 (E : ac_E) : ac_V E ac_MDf ac_HDf 80 53 (.inl (o_add 54)) := ⟨ok_iadd dd_80_53, mn_add _⟩
theorem vd_80_54 (E : ac_E) : ac_V E ac_MDf ac_HDf 80 54 (.inl (o_ild 3 55)) := ⟨ok_iload_n dd_80_54, mn_ild _ _⟩
theorem vd_80_55 (E : ac_E) : ac_V E ac_MDf ac_HDf 80 55 (.inl (o_ild 4 57)) := ⟨ok_iload dd_80_55, mn_ild _ _⟩
theorem vd_80_57 (E : ac_E) : ac_V E ac_MDf ac_HDf 80 57 (.inr (.inl (78,4,60,7))) := ac_Vc0 ((ok_callV (T := TX5) (N := 17) rfl rfl (by decide) (by decide +kernel) wm_735 wm_56 wm_732 wm_734 wm_34 dd_80_57).1) (fun _ => rfl)
theorem vd_80_60 (E : ac_E) : ac_V E ac_MDf ac_HDf 80 60 (.inl (o_eq0 67 63)) := ⟨ok_ifeq dd_80_60 (by decide), mn_eq0 _ _⟩
theorem vd_80_63 (E : ac_E) : ac_V E ac_MDf ac_HDf 80 63 (.inl (o_con (.int 1) 64)) := ⟨ok_iconst dd_80_63 (by decide), mn_con _ _⟩
theorem vd_80_64 (E : ac_E) : ac_V E ac_MDf ac_HDf 80 64 (.inl (o_go 68)) := ⟨ok_goto dd_80_64 (by decide), mn_go _⟩
theorem vd_80_67 (E : ac_E) : ac_V E ac_MDf ac_HDf 80 67 (.inl (o_con (.int 0) 68)) := ⟨ok_iconst dd_80_67 (by decide), mn_con _ _⟩
theorem vd_80_68 (E : ac_E) : ac_V E ac_MDf ac_HDf 80 68 (.inr (.inr (.inl 2))) := ⟨fun q => nomatch q, fun q => nomatch q, fun _ => ⟨dd_80_68, rfl⟩⟩
theorem va_80 (E : ac_E) (pc : Nat) : ac_V E ac_MDf ac_HDf 80 pc (tb_80 (ac_len E) (ac_xs E) pc) := (ac_node (ac_node (ac_node (ac_node (ac_node (ac_leaf 0 (vd_80_0 E)) (ac_leaf 1 (vd_80_1 E))) (ac_node (ac_leaf 2 (vd_80_2 E)) (ac_node (ac_leaf 3 (vd_80_3 E)) (ac_leaf 4 (vd_80_4 E))))) (ac_node (ac_node (ac_leaf 7 (vd_80_7 E)) (ac_leaf 10 (vd_80_10 E))) (ac_node (ac_leaf 11 (vd_80_11 E)) (ac_node (ac_leaf 14 (vd_80_14 E)) (ac_leaf 15 (vd_80_15 E)))))) (ac_node (ac_node (ac_node (ac_leaf 16 (vd_80_16 E)) (ac_leaf 19 (vd_80_19 E))) (ac_node (ac_leaf 20 (vd_80_20 E)) (ac_node (ac_leaf 21 (vd_80_21 E)) (ac_leaf 22 (vd_80_22 E))))) (ac_node (ac_node (ac_leaf 23 (vd_80_23 E)) (ac_leaf 24 (vd_80_24 E))) (ac_node (ac_leaf 27 (vd_80_27 E)) (ac_node (ac_leaf 30 (vd_80_30 E)) (ac_leaf 31 (vd_80_31 E))))))) (ac_node (ac_node (ac_node (ac_node (ac_leaf 34 (vd_80_34 E)) (ac_leaf 35 (vd_80_35 E))) (ac_node (ac_leaf 38 (vd_80_38 E)) (ac_node (ac_leaf 39 (vd_80_39 E)) (ac_leaf 42 (vd_80_42 E))))) (ac_node (ac_node (ac_leaf 45 (vd_80_45 E)) (ac_leaf 46 (vd_80_46 E))) (ac_node (ac_leaf 47 (vd_80_47 E)) (ac_node (ac_leaf 50 (vd_80_50 E)) (ac_leaf 51 (vd_80_51 E)))))) (ac_node (ac_node (ac_node (ac_leaf 52 (vd_80_52 E)) (ac_leaf 53 (vd_80_53 E))) (ac_node (ac_leaf 54 (vd_80_54 E)) (ac_node (ac_leaf 55 (vd_80_55 E)) (ac_leaf 57 (vd_80_57 E))))) (ac_node (ac_node (ac_leaf 60 (vd_80_60 E)) (ac_leaf 63 (vd_80_63 E))) (ac_node (ac_leaf 64 (vd_80_64 E)) (ac_node (ac_leaf 67 (vd_80_67 E)) (ac_leaf 68 (vd_80_68 E))))))))
theorem vd_81_0 (E : ac_E) : ac_V E ac_MDf ac_HDf 81 0 (.inl (o_ald 0 1)) := ⟨ok_aload_n dd_81_0, mn_ald _ _⟩
theorem vd_81_1 (E : ac_E) : ac_V E ac_MDf ac_HDf 81 1 (.inl (o_ild 1 2)) := ⟨ok_iload_n dd_81_1, mn_ild _ _⟩
theorem vd_81_2 (E : ac_E) : ac_V E ac_MDf ac_HDf 81 2 (.inl (o_ild 2 3)) := ⟨ok_iload_n dd_81_2, mn_ild _ _⟩
theorem vd_81_3 (E : ac_E) : ac_V E ac_MDf ac_HDf 81 3 (.inl (o_con (.int 1) 4)) := ⟨ok_iconst dd_81_3 (by decide), mn_con _ _⟩
theorem vd_81_4 (E : ac_E) : ac_V E ac_MDf ac_HDf 81 4 (.inl (o_ild 3 5)) := ⟨ok_iload_n dd_81_4, mn_ild _ _⟩
theorem vd_81_5 (E : ac_E) : ac_V E ac_MDf ac_HDf 81 5 (.inr (.inl (80,5,8,7))) := ac_Vc0 ((ok_callV (T := TX5) (N := 17) rfl rfl (by decide) (by decide +kernel) wm_727 wm_56 wm_724 wm_726 wm_32 dd_81_5).1) (fun _ => rfl)
theorem vd_81_8 (E : ac_E) : ac_V E ac_MDf ac_HDf 81 8 (.inr (.inr (.inl 2))) := ⟨fun q => nomatch q, fun q => nomatch q, fun _ => ⟨dd_81_8, rfl⟩⟩
theorem va_81 (E : ac_E) (pc : Nat) : ac_V E ac_MDf ac_HDf 81 pc (tb_81 (ac_len E) (ac_xs E) pc) := (ac_node (ac_node (ac_leaf 0 (vd_81_0 E)) (ac_node (ac_leaf 1 (vd_81_1 E)) (ac_leaf 2 (vd_81_2 E)))) (ac_node (ac_node (ac_leaf 3 (vd_81_3 E)) (ac_leaf 4 (vd_81_4 E))) (ac_node (ac_leaf 5 (vd_81_5 E)) (ac_leaf 8 (vd_81_8 E)))))
theorem vd_82_0 (E : ac_E) : ac_V E ac_MDf ac_HDf 82 0 (.inl (o_ald 0 1)) := ⟨ok_aload_n dd_82_0, mn_ald _ _⟩
theorem vd_82_1 (E : ac_E) : ac_V E ac_MDf ac_HDf 82 1 (.inl (o_ald 0 2)) := ⟨ok_aload_n dd_82_1, mn_ald _ _⟩
theorem vd_82_2 (E : ac_E) : ac_V E ac_MDf ac_HDf 82 2 (.inl (o_ild 1 3)) := ⟨ok_iload_n dd_82_2, mn_ild _ _⟩
theorem vd_82_3 (E : ac_E) : ac_V E ac_MDf ac_HDf 82 3 (.inl (o_ild 2 4)) := ⟨ok_iload_n dd_82_3, mn_ild _ _⟩
theorem vd_82_4 (E : ac_E) : ac_V E ac_MDf ac_HDf 82 4 (.inr (.inl (68,3,7,7))) := ac_Vc0 ((ok_callV (T := TX5) (N := 17) rfl rfl (by decide) (by decide +kernel) wm_715 wm_56 wm_712 wm_714 wm_31 dd_82_4).1) (fun _ => rfl)
theorem vd_82_7 (E : ac_E) : ac_V E ac_MDf ac_HDf 82 7 (.inl (o_ne0 14 10)) := ⟨ok_ifne dd_82_7 (by decide), mn_ne0 _ _⟩
theorem vd_82_10 (E : ac_E) : ac_V E ac_MDf ac_HDf 82 10 (.inl (o_con (.int 1) 11)) := ⟨ok_iconst dd_82_10 (by decide), mn_con _ _⟩
theorem vd_82_11 (E : ac_E) : ac_V E ac_MDf ac_HDf 82 11 (.inl (o_go 50)) := ⟨ok_goto dd_82_11 (by decide), mn_go _⟩
theorem vd_82_14 (E : ac_E) : ac_V E ac_MDf ac_HDf 82 14 (.inl (o_ild 3 15)) := ⟨ok_iload_n dd_82_14, mn_ild _ _⟩
theorem vd_82_15 (E : ac_E) : ac_V E ac_MDf ac_HDf 82 15 (.inl (o_lt0 25 18)) := ⟨ok_iflt dd_82_15 (by decide), mn_lt0 _ _⟩
theorem vd_82_18 (E : ac_E) : ac_V E ac_MDf ac_HDf 82 18 (.inl (o_ild 3 19)) := ⟨ok_iload_n dd_82_18, mn_ild _ _⟩
theorem vd_82_19 (E : ac_E) : ac_V E ac_MDf ac_HDf 82 19 (.inl (o_con (.int 256) 22)) := ⟨ok_sipush dd_82_19 (by decide), mn_con _ _⟩
theorem vd_82_22 (E : ac_E) : ac_V E ac_MDf ac_HDf 82 22 (.inl (o_le 29 25)) := ⟨ok_icmple dd_82_22 (by decide), mn_le _ _⟩
theorem vd_82_25 (E : ac_E) : ac_V E ac_MDf ac_HDf 82 25 (.inl (o_con (.int 2) 26)) := ⟨ok_iconst dd_82_25 (by decide), mn_con _ _⟩
theorem vd_82_26 (E : ac_E) : ac_V E ac_MDf ac_HDf 82 26 (.inl (o_go 50)) := ⟨ok_goto dd_82_26 (by decide), mn_go _⟩
theorem vd_82_29 (E : ac_E) : ac_V E ac_MDf ac_HDf 82 29 (.inl (o_ald 0 30)) := ⟨ok_aload_n dd_82_29, mn_ald _ _⟩
theorem vd_82_30 (E : ac_E) : ac_V E ac_MDf ac_HDf 82 30 (.inl (o_ald 0 31)) := ⟨ok_aload_n dd_82_30, mn_ald _ _⟩
theorem vd_82_31 (E : ac_E) : ac_V E ac_MDf ac_HDf 82 31 (.inl (o_get 5 1 34)) := ⟨ok_getf (ci := 5) (f := 1) (C := RX5) (T := TX5) (N := 17) (ref := RX5) rfl win_5 (by decide) rfl wm_639 dd_82_31, mn_get _ _ _⟩
theorem vd_82_34 (E : ac_E) : ac_V E ac_MDf ac_HDf 82 34 (.inl (o_ild 2 35)) := ⟨ok_iload_n dd_82_34, mn_ild _ _⟩
theorem vd_82_35 (E : ac_E) : ac_V E ac_MDf ac_HDf 82 35 (.inl (o_mul 36)) := ⟨ok_imul dd_82_35, mn_mul _⟩
theorem vd_82_36 (E : ac_E) : ac_V E ac_MDf ac_HDf 82 36 (.inl (o_ild 1 37)) := ⟨ok_iload_n dd_82_36, mn_ild _ _⟩
theorem vd_82_37 (E : ac_E) : ac_V E ac_MDf ac_HDf 82 37 (.inl (o_add 38)) := ⟨ok_iadd dd_82_37, mn_add _⟩
theorem vd_82_38 (E : ac_E) : ac_V E ac_MDf ac_HDf 82 38 (.inl (o_con (.int 2) 39)) := ⟨ok_iconst dd_82_38 (by decide), mn_con _ _⟩
theorem vd_82_39 (E : ac_E) : ac_V E ac_MDf ac_HDf 82 39 (.inr (.inl (79,3,42,7))) := ac_Vc0 ((ok_callV (T := TX5) (N := 17) rfl rfl (by decide) (by decide +kernel) wm_731 wm_56 wm_728 wm_730 wm_33 dd_82_39).1) (fun _ => rfl)
theorem vd_82_42 (E : ac_E) : ac_V E ac_MDf ac_HDf 82 42 (.inl (o_eq0 49 45)) := ⟨ok_ifeq dd_82_42 (by decide), mn_eq0 _ _⟩
theorem vd_82_45 (E : ac_E) : ac_V E ac_MDf ac_HDf 82 45 (.inl (o_con (.int 3) 46)) := ⟨ok_iconst dd_82_45 (by decide), mn_con _ _⟩
theorem vd_82_46 (E : ac_E) : ac_V E ac_MDf ac_HDf 82 46 (.inl (o_go 50)) := ⟨ok_goto dd_82_46 (by decide), mn_go _⟩
theorem vd_82_49 (E : ac_E) : ac_V E ac_MDf ac_HDf 82 49 (.inl (o_con (.int 0) 50)) := ⟨ok_iconst dd_82_49 (by decide), mn_con _ _⟩
theorem vd_82_50 (E : ac_E) : ac_V E ac_MDf ac_HDf 82 50 (.inl (o_put 5 0 53)) := ⟨ok_putf (ci := 5) (f := 0) (C := RX5) (T := TX5) (N := 17) (ref := RX5) rfl win_5 (by decide) rfl tyX5 tyX5_ok nmX5 (by decide +kernel) rfl wm_638 dd_82_50, mn_put _ _ _⟩
theorem vd_82_53 (E : ac_E) : ac_V E ac_MDf ac_HDf 82 53 (.inl (o_ald 0 54)) := ⟨ok_aload_n dd_82_53, mn_ald _ _⟩
theorem vd_82_54 (E : ac_E) : ac_V E ac_MDf ac_HDf 82 54 (.inl (o_get 5 0 57)) := ⟨ok_getf (ci := 5) (f := 0) (C := RX5) (T := TX5) (N := 17) (ref := RX5) rfl win_5 (by decide) rfl wm_638 dd_82_54, mn_get _ _ _⟩
theorem vd_82_57 (E : ac_E) : ac_V E ac_MDf ac_HDf 82 57 (.inl (o_ne0 98 60)) := ⟨ok_ifne dd_82_57 (by decide), mn_ne0 _ _⟩
theorem vd_82_60 (E : ac_E) : ac_V E ac_MDf ac_HDf 82 60 (.inl (o_ald 0 61)) := ⟨ok_aload_n dd_82_60, mn_ald _ _⟩
theorem vd_82_61 (E : ac_E) : ac_V E ac_MDf ac_HDf 82 61 (.inl (o_ald 0 62)) := ⟨ok_aload_n dd_82_61, mn_ald _ _⟩
theorem vd_82_62 (E : ac_E) : ac_V E ac_MDf ac_HDf 82 62 (.inl (o_get 5 1 65)) := ⟨ok_getf (ci := 5) (f := 1) (C := RX5) (T := TX5) (N := 17) (ref := RX5) rfl win_5 (by decide) rfl wm_639 dd_82_62, mn_get _ _ _⟩
theorem vd_82_65 (E : ac_E) : ac_V E ac_MDf ac_HDf 82 65 (.inl (o_ild 2 66)) := ⟨ok_iload_n dd_82_65, mn_ild _ _⟩
theorem vd_82_66 (E : ac_E) : ac_V E ac_MDf ac_HDf 82 66 (.inl (o_mul 67)) := ⟨ok_imul dd_82_66, mn_mul _⟩
theorem vd_82_67 (E : ac_E) : ac_V E ac_MDf ac_HDf 82 67 (.inl (o_ild 1 68)) := ⟨ok_iload_n dd_82_67, mn_ild _ _⟩
theorem vd_82_68 (E : ac_E) : ac_V E ac_MDf ac_HDf 82 68 (.inl (o_add 69)) := ⟨ok_iadd dd_82_68, mn_add _⟩
theorem vd_82_69 (E : ac_E) : ac_V E ac_MDf ac_HDf 82 69 (.inl (o_con (.int 2) 70)) := ⟨ok_iconst dd_82_69 (by decide), mn_con _ _⟩
theorem vd_82_70 (E : ac_E) : ac_V E ac_MDf ac_HDf 82 70 (.inl (o_ild 3 71)) := ⟨ok_iload_n dd_82_70, mn_ild _ _⟩
theorem vd_82_71 (E : ac_E) : ac_V E ac_MDf ac_HDf 82 71 (.inl (o_le0 78 74)) := ⟨ok_ifle dd_82_71 (by decide), mn_le0 _ _⟩
theorem vd_82_74 (E : ac_E) : ac_V E ac_MDf ac_HDf 82 74 (.inl (o_con (.int 1) 75)) := ⟨ok_iconst dd_82_74 (by decide), mn_con _ _⟩
theorem vd_82_75 (E : ac_E) : ac_V E ac_MDf ac_HDf 82 75 (.inl (o_go 79)) := ⟨ok_goto dd_82_75 (by decide), mn_go _⟩
theorem vd_82_78 (E : ac_E) : ac_V E ac_MDf ac_HDf 82 78 (.inl (o_con (.int 0) 79)) := ⟨ok_iconst dd_82_78 (by decide), mn_con _ _⟩
theorem vd_82_79 (E : ac_E) : ac_V E ac_MDf ac_HDf 82 79 (.inr (.inl (78,4,82,7))) := ac_Vc0 ((ok_callV (T := TX5) (N := 17) rfl rfl (by decide) (by decide +kernel) wm_735 wm_56 wm_732 wm_734 wm_34 dd_82_79).1) (fun _ => rfl)
theorem vd_82_82 (E : ac_E) : ac_V E ac_MDf ac_HDf 82 82 (.inl (o_ist 4 84)) := ⟨ok_istore dd_82_82, mn_ist _ _⟩
theorem vd_82_84 (E : ac_E) : ac_V E ac_MDf ac_HDf 82 84 (.inl (o_ald 0 85)) := ⟨ok_aload_n dd_82_84, mn_ald _ _⟩
theorem vd_82_85 (E : ac_E) : ac_V E ac_MDf ac_HDf 82 85 (.inl (o_get 5 7 88)) := ⟨ok_getf (ci := 5) (f := 7) (C := RX5) (T := TX5) (N := 17) (ref := RX5) rfl win_5 (by decide) rfl wm_645 dd_82_85, mn_get _ _ _⟩
theorem vd_82_88 (E : ac_E) : ac_V E ac_MDf ac_HDf 82 88 (.inl (o_ald 0 89)) := ⟨ok_aload_n dd_82_88, mn_ald _ _⟩
theorem vd_82_89 (E : ac_E) : ac_V E ac_MDf ac_HDf 82 89 (.inl (o_get 5 1 92)) := ⟨ok_getf (ci := 5) (f := 1) (C := RX5) (T := TX5) (N := 17) (ref := RX5) rfl win_5 (by decide) rfl wm_639 dd_82_89, mn_get _ _ _⟩
theorem vd_82_92 (E : ac_E) : ac_V E ac_MDf ac_HDf 82 92 (.inl (o_ild 2 93)) := ⟨ok_iload_n dd_82_92, mn_ild _ _⟩
theorem vd_82_93 (E : ac_E) : ac_V E ac_MDf ac_HDf 82 93 (.inl (o_mul 94)) := ⟨ok_imul dd_82_93, mn_mul _⟩
theorem vd_82_94 (E : ac_E) : ac_V E ac_MDf ac_HDf 82 94 (.inl (o_ild 1 95)) := ⟨ok_iload_n dd_82_94, mn_ild _ _⟩
theorem vd_82_95 (E : ac_E) : ac_V E ac_MDf ac_HDf 82 95 (.inl (o_add 96)) := ⟨ok_iadd dd_82_95, mn_add _⟩
theorem vd_82_96 (E : ac_E) : ac_V E ac_MDf ac_HDf 82 96 (.inl (o_ild 3 97)) := ⟨ok_iload_n dd_82_96, mn_ild _ _⟩
theorem vd_82_97 (E : ac_E) : ac_V E ac_MDf ac_HDf 82 97 (.inl (o_is 98)) := ⟨ok_iastore dd_82_97, mn_is _⟩
theorem vd_82_98 (E : ac_E) : ac_V E ac_MDf ac_HDf 82 98 (.inr (.inr (.inl 0))) := ⟨fun _ => ⟨dd_82_98, rfl⟩, fun q => nomatch q, fun q => nomatch q⟩
theorem va_82 (E : ac_E) (pc : Nat) : ac_V E ac_MDf ac_HDf 82 pc (tb_82 (ac_len E) (ac_xs E) pc) := (ac_node (ac_node (ac_node (ac_node (ac_node (ac_leaf 0 (vd_82_0 E)) (ac_node (ac_leaf 1 (vd_82_1 E)) (ac_leaf 2 (vd_82_2 E)))) (ac_node (ac_node (ac_leaf 3 (vd_82_3 E)) (ac_leaf 4 (vd_82_4 E))) (ac_node (ac_leaf 7 (vd_82_7 E)) (ac_leaf 10 (vd_82_10 E))))) (ac_node (ac_node (ac_leaf 11 (vd_82_11 E)) (ac_node (ac_leaf 14 (vd_82_14 E)) (ac_leaf 15 (vd_82_15 E)))) (ac_node (ac_node (ac_leaf 18 (vd_82_18 E)) (ac_leaf 19 (vd_82_19 E))) (ac_node (ac_leaf 22 (vd_82_22 E)) (ac_leaf 25 (vd_82_25 E)))))) (ac_node (ac_node (ac_node (ac_leaf 26 (vd_82_26 E)) (ac_node (ac_leaf 29 (vd_82_29 E)) (ac_leaf 30 (vd_82_30 E)))) (ac_node (ac_node (ac_leaf 31 (vd_82_31 E)) (ac_leaf 34 (vd_82_34 E))) (ac_node (ac_leaf 35 (vd_82_35 E)) (ac_leaf 36 (vd_82_36 E))))) (ac_node (ac_node (ac_node (ac_leaf 37 (vd_82_37 E)) (ac_leaf 38 (vd_82_38 E))) (ac_node (ac_leaf 39 (vd_82_39 E)) (ac_leaf 42 (vd_82_42 E)))) (ac_node (ac_node (ac_leaf 45 (vd_82_45 E)) (ac_leaf 46 (vd_82_46 E))) (ac_node (ac_leaf 49 (vd_82_49 E)) (ac_leaf 50 (vd_82_50 E))))))) (ac_node (ac_node (ac_node (ac_node (ac_leaf 53 (vd_82_53 E)) (ac_node (ac_leaf 54 (vd_82_54 E)) (ac_leaf 57 (vd_82_57 E)))) (ac_node (ac_node (ac_leaf 60 (vd_82_60 E)) (ac_leaf 61 (vd_82_61 E))) (ac_node (ac_leaf 62 (vd_82_62 E)) (ac_leaf 65 (vd_82_65 E))))) (ac_node (ac_node (ac_leaf 66 (vd_82_66 E)) (ac_node (ac_leaf 67 (vd_82_67 E)) (ac_leaf 68 (vd_82_68 E)))) (ac_node (ac_node (ac_leaf 69 (vd_82_69 E)) (ac_leaf 70 (vd_82_70 E))) (ac_node (ac_leaf 71 (vd_82_71 E)) (ac_leaf 74 (vd_82_74 E)))))) (ac_node (ac_node (ac_node (ac_leaf 75 (vd_82_75 E)) (ac_node (ac_leaf 78 (vd_82_78 E)) (ac_leaf 79 (vd_82_79 E)))) (ac_node (ac_node (ac_leaf 82 (vd_82_82 E)) (ac_leaf 84 (vd_82_84 E))) (ac_node (ac_leaf 85 (vd_82_85 E)) (ac_leaf 88 (vd_82_88 E))))) (ac_node (ac_node (ac_node (ac_leaf 89 (vd_82_89 E)) (ac_leaf 92 (vd_82_92 E))) (ac_node (ac_leaf 93 (vd_82_93 E)) (ac_leaf 94 (vd_82_94 E)))) (ac_node (ac_node (ac_leaf 95 (vd_82_95 E)) (ac_leaf 96 (vd_82_96 E))) (ac_node (ac_leaf 97 (vd_82_97 E)) (ac_leaf 98 (vd_82_98 E))))))))
theorem vd_83_0 (E : ac_E) : ac_V E ac_MDf ac_HDf 83 0 (.inl (o_ald 0 1)) := ⟨ok_aload_n dd_83_0, mn_ald _ _⟩
theorem vd_83_1 (E : ac_E) : ac_V E ac_MDf ac_HDf 83 1 (.inl (o_ild 1 2)) := ⟨ok_iload_n dd_83_1, mn_ild _ _⟩
theorem vd_83_2 (E : ac_E) : ac_V E ac_MDf ac_HDf 83 2 (.inl (o_ild 2 3)) := ⟨ok_iload_n dd_83_2, mn_ild _ _⟩
theorem vd_83_3 (E : ac_E) : ac_V E ac_MDf ac_HDf 83 3 (.inl (o_con (.int 3) 4)) := ⟨ok_iconst dd_83_3 (by decide), mn_con _ _⟩
theorem vd_83_4 (E : ac_E) : ac_V E ac_MDf ac_HDf 83 4 (.inl (o_ild 3 5)) := ⟨ok_iload_n dd_83_4, mn_ild _ _⟩
theorem vd_83_5 (E : ac_E) : ac_V E ac_MDf ac_HDf 83 5 (.inr (.inl (80,5,8,7))) := ac_Vc0 ((ok_callV (T := TX5) (N := 17) rfl rfl (by decide) (by decide +kernel) wm_727 wm_56 wm_724 wm_726 wm_32 dd_83_5).1) (fun _ => rfl)
theorem vd_83_8 (E : ac_E) : ac_V E ac_MDf ac_HDf 83 8 (.inr (.inr (.inl 2))) := ⟨fun q => nomatch q, fun q => nomatch q, fun _ => ⟨dd_83_8, rfl⟩⟩
theorem va_83 (E : ac_E) (pc : Nat) : ac_V E ac_MDf ac_HDf 83 pc (tb_83 (ac_len E) (ac_xs E) pc) := (ac_node (ac_node (ac_leaf 0 (vd_83_0 E)) (ac_node (ac_leaf 1 (vd_83_1 E)) (ac_leaf 2 (vd_83_2 E)))) (ac_node (ac_node (ac_leaf 3 (vd_83_3 E)) (ac_leaf 4 (vd_83_4 E))) (ac_node (ac_leaf 5 (vd_83_5 E)) (ac_leaf 8 (vd_83_8 E)))))
theorem vd_84_0 (E : ac_E) : ac_V E ac_MDf ac_HDf 84 0 (.inl (o_ald 0 1)) := ⟨ok_aload_n dd_84_0, mn_ald _ _⟩
theorem vd_84_1 (E : ac_E) : ac_V E ac_MDf ac_HDf 84 1 (.inl (o_ild 1 2)) := ⟨ok_iload_n dd_84_1, mn_ild _ _⟩
theorem vd_84_2 (E : ac_E) : ac_V E ac_MDf ac_HDf 84 2 (.inl (o_ild 2 3)) := ⟨ok_iload_n dd_84_2, mn_ild _ _⟩
theorem vd_84_3 (E : ac_E) : ac_V E ac_MDf ac_HDf 84 3 (.inl (o_con (.int 4) 4)) := ⟨ok_iconst dd_84_3 (by decide), mn_con _ _⟩
theorem vd_84_4 (E : ac_E) : ac_V E ac_MDf ac_HDf 84 4 (.inl (o_ild 3 5)) := ⟨ok_iload_n dd_84_4, mn_ild _ _⟩
theorem vd_84_5 (E : ac_E) : ac_V E ac_MDf ac_HDf 84 5 (.inr (.inl (80,5,8,7))) := ac_Vc0 ((ok_callV (T := TX5) (N := 17) rfl rfl (by decide) (by decide +kernel) wm_727 wm_56 wm_724 wm_726 wm_32 dd_84_5).1) (fun _ => rfl)
theorem vd_84_8 (E : ac_E) : ac_V E ac_MDf ac_HDf 84 8 (.inr (.inr (.inl 2))) := ⟨fun q => nomatch q, fun q => nomatch q, fun _ => ⟨dd_84_8, rfl⟩⟩
theorem va_84 (E : ac_E) (pc : Nat) : ac_V E ac_MDf ac_HDf 84 pc (tb_84 (ac_len E) (ac_xs E) pc) := (ac_node (ac_node (ac_leaf 0 (vd_84_0 E)) (ac_node (ac_leaf 1 (vd_84_1 E)) (ac_leaf 2 (vd_84_2 E)))) (ac_node (ac_node (ac_leaf 3 (vd_84_3 E)) (ac_leaf 4 (vd_84_4 E))) (ac_node (ac_leaf 5 (vd_84_5 E)) (ac_leaf 8 (vd_84_8 E)))))
theorem vd_85_0 (E : ac_E) : ac_V E ac_MDf ac_HDf 85 0 (.inl (o_ald 0 1)) := ⟨ok_aload_n dd_85_0, mn_ald _ _⟩
theorem vd_85_1 (E : ac_E) : ac_V E ac_MDf ac_HDf 85 1 (.inl (o_ald 0 2)) := ⟨ok_aload_n dd_85_1, mn_ald _ _⟩
theorem vd_85_2 (E : ac_E) : ac_V E ac_MDf ac_HDf 85 2 (.inl (o_ild 1 3)) := ⟨ok_iload_n dd_85_2, mn_ild _ _⟩
theorem vd_85_3 (E : ac_E) : ac_V E ac_MDf ac_HDf 85 3 (.inl (o_ild 2 4)) := ⟨ok_iload_n dd_85_3, mn_ild _ _⟩
theorem vd_85_4 (E : ac_E) : ac_V E ac_MDf ac_HDf 85 4 (.inr (.inl (68,3,7,7))) := ac_Vc0 ((ok_callV (T := TX5) (N := 17) rfl rfl (by decide) (by decide +kernel) wm_715 wm_56 wm_712 wm_714 wm_31 dd_85_4).1) (fun _ => rfl)
theorem vd_85_7 (E : ac_E) : ac_V E ac_MDf ac_HDf 85 7 (.inl (o_eq0 14 10)) := ⟨ok_ifeq dd_85_7 (by decide), mn_eq0 _ _⟩
theorem vd_85_10 (E : ac_E) : ac_V E ac_MDf ac_HDf 85 10 (.inl (o_con (.int 0) 11)) := ⟨ok_iconst dd_85_10 (by decide), mn_con _ _⟩
theorem vd_85_11 (E : ac_E) : ac_V E ac_MDf ac_HDf 85 11 (.inl (o_go 15)) := ⟨ok_goto dd_85_11 (by decide), mn_go _⟩
theorem vd_85_14 (E : ac_E) : ac_V E ac_MDf ac_HDf 85 14 (.inl (o_con (.int 1) 15)) := ⟨ok_iconst dd_85_14 (by decide), mn_con _ _⟩
theorem vd_85_15 (E : ac_E) : ac_V E ac_MDf ac_HDf 85 15 (.inl (o_put 5 0 18)) := ⟨ok_putf (ci := 5) (f := 0) (C := RX5) (T := TX5) (N := 17) (ref := RX5) rfl win_5 (by decide) rfl tyX5 tyX5_ok nmX5 (by decide +kernel) rfl wm_638 dd_85_15, mn_put _ _ _⟩
theorem vd_85_18 (E : ac_E) : ac_V E ac_MDf ac_HDf 85 18 (.inl (o_ald 0 19)) := ⟨ok_aload_n dd_85_18, mn_ald _ _⟩
theorem vd_85_19 (E : ac_E) : ac_V E ac_MDf ac_HDf 85 19 (.inl (o_get 5 0 22)) := ⟨ok_getf (ci := 5) (f := 0) (C := RX5) (T := TX5) (N := 17) (ref := RX5) rfl win_5 (by decide) rfl wm_638 dd_85_19, mn_get _ _ _⟩
theorem vd_85_22 (E : ac_E) : ac_V E ac_MDf ac_HDf 85 22 (.inl (o_le0 29 25)) := ⟨ok_ifle dd_85_22 (by decide), mn_le0 _ _⟩
theorem vd_85_25 (E : ac_E) : ac_V E ac_MDf ac_HDf 85 25 (.inl (o_con (.int 0) 26)) := ⟨ok_iconst dd_85_25 (by decide), mn_con _ _⟩
theorem vd_85_26 (E : ac_E) : ac_V E ac_MDf ac_HDf 85 26 (.inl (o_go 42)) := ⟨ok_goto dd_85_26 (by decide), mn_go _⟩
theorem vd_85_29 (E : ac_E) : ac_V E ac_MDf ac_HDf 85 29 (.inl (o_ald 0 30)) := ⟨ok_aload_n dd_85_29, mn_ald _ _⟩
theorem vd_85_30 (E : ac_E) : ac_V E ac_MDf ac_HDf 85 30 (.inl (o_get 5 6 33)) := ⟨ok_getf (ci := 5) (f := 6) (C := RX5) (T := TX5) (N := 17) (ref := RX5) rfl win_5 (by decide) rfl wm_644 dd_85_30, mn_get _ _ _⟩
theorem vd_85_33 (E : ac_E) : ac_V E ac_MDf ac_HDf 85 33 (.inl (o_ald 0 34)) := ⟨ok_aload_n dd_85_33, mn_ald _ _⟩
theorem vd_85_34 (E : ac_E) : ac_V E ac_MDf ac_HDf 85 34 (.inl (o_get 5 1 37)) := ⟨ok_getf (ci := 5) (f := 1) (C := RX5) (T := TX5) (N := 17) (ref := RX5) rfl win_5 (by decide) rfl wm_639 dd_85_34, mn_get _ _ _⟩
theorem vd_85_37 (E : ac_E) : ac_V E ac_MDf ac_HDf 85 37 (.inl (o_ild 2 38)) := ⟨ok_iload_n dd_85_37, mn_ild _ _⟩
theorem vd_85_38 (E : ac_E) : ac_V E ac_MDf ac_HDf 85 38 (.inl (o_mul 39)) := ⟨ok_imul dd_85_38, mn_mul _⟩
theorem vd_85_39 (E : ac_E) : ac_V E ac_MDf ac_HDf 85 39 (.inl (o_ild 1 40)) := ⟨ok_iload_n dd_85_39, mn_ild _ _⟩
theorem vd_85_40 (E : ac_E) : ac_V E ac_MDf ac_HDf 85 40 (.inl (o_add 41)) := ⟨ok_iadd dd_85_40, mn_add _⟩
theorem vd_85_41 (E : ac_E) : ac_V E ac_MDf ac_HDf 85 41 (.inl (o_ia 42)) := ⟨ok_iaload dd_85_41, mn_ia _⟩
theorem vd_85_42 (E : ac_E) : ac_V E ac_MDf ac_HDf 85 42 (.inr (.inr (.inl 1))) := ⟨fun q => nomatch q, fun _ => ⟨dd_85_42, rfl⟩, fun q => nomatch q⟩
theorem va_85 (E : ac_E) (pc : Nat) : ac_V E ac_MDf ac_HDf 85 pc (tb_85 (ac_len E) (ac_xs E) pc) := (ac_node (ac_node (ac_node (ac_node (ac_leaf 0 (vd_85_0 E)) (ac_node (ac_leaf 1 (vd_85_1 E)) (ac_leaf 2 (vd_85_2 E)))) (ac_node (ac_leaf 3 (vd_85_3 E)) (ac_node (ac_leaf 4 (vd_85_4 E)) (ac_leaf 7 (vd_85_7 E))))) (ac_node (ac_node (ac_leaf 10 (vd_85_10 E)) (ac_node (ac_leaf 11 (vd_85_11 E)) (ac_leaf 14 (vd_85_14 E)))) (ac_node (ac_leaf 15 (vd_85_15 E)) (ac_node (ac_leaf 18 (vd_85_18 E)) (ac_leaf 19 (vd_85_19 E)))))) (ac_node (ac_node (ac_node (ac_leaf 22 (vd_85_22 E)) (ac_node (ac_leaf 25 (vd_85_25 E)) (ac_leaf 26 (vd_85_26 E)))) (ac_node (ac_leaf 29 (vd_85_29 E)) (ac_node (ac_leaf 30 (vd_85_30 E)) (ac_leaf 33 (vd_85_33 E))))) (ac_node (ac_node (ac_leaf 34 (vd_85_34 E)) (ac_node (ac_leaf 37 (vd_85_37 E)) (ac_leaf 38 (vd_85_38 E)))) (ac_node (ac_node (ac_leaf 39 (vd_85_39 E)) (ac_leaf 40 (vd_85_40 E))) (ac_node (ac_leaf 41 (vd_85_41 E)) (ac_leaf 42 (vd_85_42 E)))))))
theorem vd_86_0 (E : ac_E) : ac_V E ac_MDf ac_HDf 86 0 (.inl (o_ald 0 1)) := ⟨ok_aload_n dd_86_0, mn_ald _ _⟩
theorem vd_86_1 (E : ac_E) : ac_V E ac_MDf ac_HDf 86 1 (.inl (o_ild 1 2)) := ⟨ok_iload_n dd_86_1, mn_ild _ _⟩
theorem vd_86_2 (E : ac_E) : ac_V E ac_MDf ac_HDf 86 2 (.inl (o_con (.int 1) 3)) := ⟨ok_iconst dd_86_2 (by decide), mn_con _ _⟩
theorem vd_86_3 (E : ac_E) : ac_V E ac_MDf ac_HDf 86 3 (.inl (o_lt 13 6)) := ⟨ok_icmplt dd_86_3 (by decide), mn_lt _ _⟩
theorem vd_86_6 (E : ac_E) : ac_V E ac_MDf ac_HDf 86 6 (.inl (o_ild 1 7)) := ⟨ok_iload_n dd_86_6, mn_ild _ _⟩
theorem vd_86_7 (E : ac_E) : ac_V E ac_MDf ac_HDf 86 7 (.inl (o_con (.int 10000) 10)) := ⟨ok_sipush dd_86_7 (by decide), mn_con _ _⟩
theorem vd_86_10 (E : ac_E) : ac_V E ac_MDf ac_HDf 86 10 (.inl (o_le 17 13)) := ⟨ok_icmple dd_86_10 (by decide), mn_le _ _⟩
theorem vd_86_13 (E : ac_E) : ac_V E ac_MDf ac_HDf 86 13 (.inl (o_con (.int 1) 14)) := ⟨ok_iconst dd_86_13 (by decide), mn_con _ _⟩
theorem vd_86_14 (E : ac_E) : ac_V E ac_MDf ac_HDf 86 14 (.inl (o_go 18)) := ⟨ok_goto dd_86_14 (by decide), mn_go _⟩
theorem vd_86_17 (E : ac_E) : ac_V E ac_MDf ac_HDf 86 17 (.inl (o_con (.int 0) 18)) := ⟨ok_iconst dd_86_17 (by decide), mn_con _ _⟩
theorem vd_86_18 (E : ac_E) : ac_V E ac_MDf ac_HDf 86 18 (.inl (o_put 5 0 21)) := ⟨ok_putf (ci := 5) (f := 0) (C := RX5) (T := TX5) (N := 17) (ref := RX5) rfl win_5 (by decide) rfl tyX5 tyX5_ok nmX5 (by decide +kernel) rfl wm_638 dd_86_18, mn_put _ _ _⟩
theorem vd_86_21 (E : ac_E) : ac_V E ac_MDf ac_HDf 86 21 (.inl (o_ald 0 22)) := ⟨ok_aload_n dd_86_21, mn_ald _ _⟩
theorem vd_86_22 (E : ac_E) : ac_V E ac_MDf ac_HDf 86 22 (.inl (o_ald 0 23)) := ⟨ok_aload_n dd_86_22, mn_ald _ _⟩
theorem vd_86_23 (E : ac_E) : ac_V E ac_MDf ac_HDf 86 23 (.inl (o_get 5 0 26)) := ⟨ok_getf (ci := 5) (f := 0) (C := RX5) (T := TX5) (N := 17) (ref := RX5) rfl win_5 (by decide) rfl wm_638 dd_86_23, mn_get _ _ _⟩
theorem vd_86_26 (E : ac_E) : ac_V E ac_MDf ac_HDf 86 26 (.inl (o_le0 36 29)) := ⟨ok_ifle dd_86_26 (by decide), mn_le0 _ _⟩
theorem vd_86_29 (E : ac_E) : ac_V E ac_MDf ac_HDf 86 29 (.inl (o_ald 0 30)) := ⟨ok_aload_n dd_86_29, mn_ald _ _⟩
theorem vd_86_30 (E : ac_E) : ac_V E ac_MDf ac_HDf 86 30 (.inl (o_get 5 11 33)) := ⟨ok_getf (ci := 5) (f := 11) (C := RX5) (T := TX5) (N := 17) (ref := RX5) rfl win_5 (by decide) rfl wm_649 dd_86_30, mn_get _ _ _⟩
theorem vd_86_33 (E : ac_E) : ac_V E ac_MDf ac_HDf 86 33 (.inl (o_go 37)) := ⟨ok_goto dd_86_33 (by decide), mn_go _⟩
theorem vd_86_36 (E : ac_E) : ac_V E ac_MDf ac_HDf 86 36 (.inl (o_ild 1 37)) := ⟨ok_iload_n dd_86_36, mn_ild _ _⟩
theorem vd_86_37 (E : ac_E) : ac_V E ac_MDf ac_HDf 86 37 (.inl (o_put 5 11 40)) := ⟨ok_putf (ci := 5) (f := 11) (C := RX5) (T := TX5) (N := 17) (ref := RX5) rfl win_5 (by decide) rfl tyX5 tyX5_ok nmX5 (by decide +kernel) rfl wm_649 dd_86_37, mn_put _ _ _⟩
theorem vd_86_40 (E : ac_E) : ac_V E ac_MDf ac_HDf 86 40 (.inr (.inr (.inl 0))) := ⟨fun _ => ⟨dd_86_40, rfl⟩, fun q => nomatch q, fun q => nomatch q⟩
theorem va_86 (E : ac_E) (pc : Nat) : ac_V E ac_MDf ac_HDf 86 pc (tb_86 (ac_len E) (ac_xs E) pc) := (ac_node (ac_node (ac_node (ac_node (ac_leaf 0 (vd_86_0 E)) (ac_leaf 1 (vd_86_1 E))) (ac_node (ac_leaf 2 (vd_86_2 E)) (ac_node (ac_leaf 3 (vd_86_3 E)) (ac_leaf 6 (vd_86_6 E))))) (ac_node (ac_node (ac_leaf 7 (vd_86_7 E)) (ac_leaf 10 (vd_86_10 E))) (ac_node (ac_leaf 13 (vd_86_13 E)) (ac_node (ac_leaf 14 (vd_86_14 E)) (ac_leaf 17 (vd_86_17 E)))))) (ac_node (ac_node (ac_node (ac_leaf 18 (vd_86_18 E)) (ac_leaf 21 (vd_86_21 E))) (ac_node (ac_leaf 22 (vd_86_22 E)) (ac_node (ac_leaf 23 (vd_86_23 E)) (ac_leaf 26 (vd_86_26 E))))) (ac_node (ac_node (ac_leaf 29 (vd_86_29 E)) (ac_node (ac_leaf 30 (vd_86_30 E)) (ac_leaf 33 (vd_86_33 E)))) (ac_node (ac_leaf 36 (vd_86_36 E)) (ac_node (ac_leaf 37 (vd_86_37 E)) (ac_leaf 40 (vd_86_40 E)))))))
theorem vd_87_0 (E : ac_E) : ac_V E ac_MDf ac_HDf 87 0 (.inl (o_ald 0 1)) := ⟨ok_aload_n dd_87_0, mn_ald _ _⟩
theorem vd_87_1 (E : ac_E) : ac_V E ac_MDf ac_HDf 87 1 (.inl (o_ild 1 2)) := ⟨ok_iload_n dd_87_1, mn_ild _ _⟩
theorem vd_87_2 (E : ac_E) : ac_V E ac_MDf ac_HDf 87 2 (.inl (o_lt0 10 5)) := ⟨ok_iflt dd_87_2 (by decide), mn_lt0 _ _⟩
theorem vd_87_5 (E : ac_E) : ac_V E ac_MDf ac_HDf 87 5 (.inl (o_ild 1 6)) := ⟨ok_iload_n dd_87_5, mn_ild _ _⟩
theorem vd_87_6 (E : ac_E) : ac_V E ac_MDf ac_HDf 87 6 (.inl (o_con (.int 2) 7)) := ⟨ok_iconst dd_87_6 (by decide), mn_con _ _⟩
theorem vd_87_7 (E : ac_E) : ac_V E ac_MDf ac_HDf 87 7 (.inl (o_le 14 10)) := ⟨ok_icmple dd_87_7 (by decide), mn_le _ _⟩
theorem vd_87_10 (E : ac_E) : ac_V E ac_MDf ac_HDf 87 10 (.inl (o_con (.int 1) 11)) := ⟨ok_iconst dd_87_10 (by decide), mn_con _ _⟩
theorem vd_87_11 (E : ac_E) : ac_V E ac_MDf ac_HDf 87 11 (.inl (o_go 15)) := ⟨ok_goto dd_87_11 (by decide), mn_go _⟩
theorem vd_87_14 (E : ac_E) : ac_V E ac_MDf ac_HDf 87 14 (.inl (o_con (.int 0) 15)) := ⟨ok_iconst dd_87_14 (by decide), mn_con _ _⟩
theorem vd_87_15 (E : ac_E) : ac_V E ac_MDf ac_HDf 87 15 (.inl (o_put 5 0 18)) := ⟨ok_putf (ci := 5) (f := 0) (C := RX5) (T := TX5) (N := 17) (ref := RX5) rfl win_5 (by decide) rfl tyX5 tyX5_ok nmX5 (by decide +kernel) rfl wm_638 dd_87_15, mn_put _ _ _⟩
theorem vd_87_18 (E : ac_E) : ac_V E ac_MDf ac_HDf 87 18 (.inl (o_ald 0 19)) := ⟨ok_aload_n dd_87_18, mn_ald _ _⟩
theorem vd_87_19 (E : ac_E) : ac_V E ac_MDf ac_HDf 87 19 (.inl (o_get 5 0 22)) := ⟨ok_getf (ci := 5) (f := 0) (C := RX5) (T := TX5) (N := 17) (ref := RX5) rfl win_5 (by decide) rfl wm_638 dd_87_19, mn_get _ _ _⟩
theorem vd_87_22 (E : ac_E) : ac_V E ac_MDf ac_HDf 87 22 (.inl (o_le0 29 25)) := ⟨ok_ifle dd_87_22 (by decide), mn_le0 _ _⟩
theorem vd_87_25 (E : ac_E) : ac_V E ac_MDf ac_HDf 87 25 (.inl (o_con (.int 0) 26)) := ⟨ok_iconst dd_87_25 (by decide), mn_con _ _⟩
theorem vd_87_26 (E : ac_E) : ac_V E ac_MDf ac_HDf 87 26 (.inl (o_go 47)) := ⟨ok_goto dd_87_26 (by decide), mn_go _⟩
theorem vd_87_29 (E : ac_E) : ac_V E ac_MDf ac_HDf 87 29 (.inl (o_ild 1 30)) := ⟨ok_iload_n dd_87_29, mn_ild _ _⟩
theorem vd_87_30 (E : ac_E) : ac_V E ac_MDf ac_HDf 87 30 (.inl (o_con (.int 2) 31)) := ⟨ok_iconst dd_87_30 (by decide), mn_con _ _⟩
theorem vd_87_31 (E : ac_E) : ac_V E ac_MDf ac_HDf 87 31 (.inl (o_ne 41 34)) := ⟨ok_icmpne dd_87_31 (by decide), mn_ne _ _⟩
theorem vd_87_34 (E : ac_E) : ac_V E ac_MDf ac_HDf 87 34 (.inl (o_ald 0 35)) := ⟨ok_aload_n dd_87_34, mn_ald _ _⟩
theorem vd_87_35 (E : ac_E) : ac_V E ac_MDf ac_HDf 87 35 (.inl (o_get 5 13 38)) := ⟨ok_getf (ci := 5) (f := 13) (C := RX5) (T := TX5) (N := 17) (ref := RX5) rfl win_5 (by decide) rfl wm_651 dd_87_35, mn_get _ _ _⟩
theorem vd_87_38 (E : ac_E) : ac_V E ac_MDf ac_HDf 87 38 (.inl (o_go 47)) := ⟨ok_goto dd_87_38 (by decide), mn_go _⟩
theorem vd_87_41 (E : ac_E) : ac_V E ac_MDf ac_HDf 87 41 (.inl (o_ald 0 42)) := ⟨ok_aload_n dd_87_41, mn_ald _ _⟩
theorem vd_87_42 (E : ac_E) : ac_V E ac_MDf ac_HDf 87 42 (.inl (o_get 5 12 45)) := ⟨ok_getf (ci := 5) (f := 12) (C := RX5) (T := TX5) (N := 17) (ref := RX5) rfl win_5 (by decide) rfl wm_650 dd_87_42, mn_get _ _ _⟩
theorem vd_87_45 (E : ac_E) : ac_V E ac_MDf ac_HDf 87 45 (.inl (o_ild 1 46)) := ⟨ok_iload_n dd_87_45, mn_ild _ _⟩
theorem vd_87_46 (E : ac_E) : ac_V E ac_MDf ac_HDf 87 46 (.inl (o_ia 47)) := ⟨ok_iaload dd_87_46, mn_ia _⟩
theorem vd_87_47 (E : ac_E) : ac_V E ac_MDf ac_HDf 87 47 (.inr (.inr (.inl 1))) := ⟨fun q => nomatch q, fun _ => ⟨dd_87_47, rfl⟩, fun q => nomatch q⟩
theorem va_87 (E : ac_E) (pc : Nat) : ac_V E ac_MDf ac_HDf 87 pc (tb_87 (ac_len E) (ac_xs E) pc) := (ac_node (ac_node (ac_node (ac_node (ac_leaf 0 (vd_87_0 E)) (ac_node (ac_leaf 1 (vd_87_1 E)) (ac_leaf 2 (vd_87_2 E)))) (ac_node (ac_leaf 5 (vd_87_5 E)) (ac_node (ac_leaf 6 (vd_87_6 E)) (ac_leaf 7 (vd_87_7 E))))) (ac_node (ac_node (ac_leaf 10 (vd_87_10 E)) (ac_node (ac_leaf 11 (vd_87_11 E)) (ac_leaf 14 (vd_87_14 E)))) (ac_node (ac_node (ac_leaf 15 (vd_87_15 E)) (ac_leaf 18 (vd_87_18 E))) (ac_node (ac_leaf 19 (vd_87_19 E)) (ac_leaf 22 (vd_87_22 E)))))) (ac_node (ac_node (ac_node (ac_leaf 25 (vd_87_25 E)) (ac_node (ac_leaf 26 (vd_87_26 E)) (ac_leaf 29 (vd_87_29 E)))) (ac_node (ac_leaf 30 (vd_87_30 E)) (ac_node (ac_leaf 31 (vd_87_31 E)) (ac_leaf 34 (vd_87_34 E))))) (ac_node (ac_node (ac_leaf 35 (vd_87_35 E)) (ac_node (ac_leaf 38 (vd_87_38 E)) (ac_leaf 41 (vd_87_41 E)))) (ac_node (ac_node (ac_leaf 42 (vd_87_42 E)) (ac_leaf 45 (vd_87_45 E))) (ac_node (ac_leaf 46 (vd_87_46 E)) (ac_leaf 47 (vd_87_47 E)))))))
theorem vd_88_0 (E : ac_E) : ac_V E ac_MDf ac_HDf 88 0 (.inl (o_ald 0 1)) := ⟨ok_aload_n dd_88_0, mn_ald _ _⟩
theorem vd_88_1 (E : ac_E) : ac_V E ac_MDf ac_HDf 88 1 (.inl (o_con (.int 0) 2)) := ⟨ok_iconst dd_88_1 (by decide), mn_con _ _⟩
theorem vd_88_2 (E : ac_E) : ac_V E ac_MDf ac_HDf 88 2 (.inl (o_put 5 0 5)) := ⟨ok_putf (ci := 5) (f := 0) (C := RX5) (T := TX5) (N := 17) (ref := RX5) rfl win_5 (by decide) rfl tyX5 tyX5_ok nmX5 (by decide +kernel) rfl wm_638 dd_88_2, mn_put _ _ _⟩
theorem vd_88_5 (E : ac_E) : ac_V E ac_MDf ac_HDf 88 5 (.inl (o_ald 0 6)) := ⟨ok_aload_n dd_88_5, mn_ald _ _⟩
theorem vd_88_6 (E : ac_E) : ac_V E ac_MDf ac_HDf 88 6 (.inl (o_ild 1 7)) := ⟨ok_iload_n dd_88_6, mn_ild _ _⟩
theorem vd_88_7 (E : ac_E) : ac_V E ac_MDf ac_HDf 88 7 (.inl (o_put 5 4 10)) := ⟨ok_putf (ci := 5) (f := 4) (C := RX5) (T := TX5) (N := 17) (ref := RX5) rfl win_5 (by decide) rfl tyX5 tyX5_ok nmX5 (by decide +kernel) rfl wm_642 dd_88_7, mn_put _ _ _⟩
theorem vd_88_10 (E : ac_E) : ac_V E ac_MDf ac_HDf 88 10 (.inr (.inr (.inl 0))) := ⟨fun _ => ⟨dd_88_10, rfl⟩, fun q => nomatch q, fun q => nomatch q⟩
theorem va_88 (E : ac_E) (pc : Nat) : ac_V E ac_MDf ac_HDf 88 pc (tb_88 (ac_len E) (ac_xs E) pc) := (ac_node (ac_node (ac_leaf 0 (vd_88_0 E)) (ac_node (ac_leaf 1 (vd_88_1 E)) (ac_leaf 2 (vd_88_2 E)))) (ac_node (ac_node (ac_leaf 5 (vd_88_5 E)) (ac_leaf 6 (vd_88_6 E))) (ac_node (ac_leaf 7 (vd_88_7 E)) (ac_leaf 10 (vd_88_10 E)))))
theorem vd_89_0 (E : ac_E) : ac_V E ac_MDf ac_HDf 89 0 (.inl (o_ild 1 1)) := ⟨ok_iload_n dd_89_0, mn_ild _ _⟩
theorem vd_89_1 (E : ac_E) : ac_V E ac_MDf ac_HDf 89 1 (.inl (o_ald 0 2)) := ⟨ok_aload_n dd_89_1, mn_ald _ _⟩
theorem vd_89_2 (E : ac_E) : ac_V E ac_MDf ac_HDf 89 2 (.inl (o_get 5 1 5)) := ⟨ok_getf (ci := 5) (f := 1) (C := RX5) (T := TX5) (N := 17) (ref := RX5) rfl win_5 (by decide) rfl wm_639 dd_89_2, mn_get _ _ _⟩
theorem vd_89_5 (E : ac_E) : ac_V E ac_MDf ac_HDf 89 5 (.inl (o_rem 6)) := ⟨ok_irem dd_89_5, mn_rem _⟩
theorem vd_89_6 (E : ac_E) : ac_V E ac_MDf ac_HDf 89 6 (.inl (o_ist 3 7)) := ⟨ok_istore_n dd_89_6, mn_ist _ _⟩
theorem vd_89_7 (E : ac_E) : ac_V E ac_MDf ac_HDf 89 7 (.inl (o_ild 1 8)) := ⟨ok_iload_n dd_89_7, mn_ild _ _⟩
theorem vd_89_8 (E : ac_E) : ac_V E ac_MDf ac_HDf 89 8 (.inl (o_ald 0 9)) := ⟨ok_aload_n dd_89_8, mn_ald _ _⟩
theorem vd_89_9 (E : ac_E) : ac_V E ac_MDf ac_HDf 89 9 (.inl (o_get 5 1 12)) := ⟨ok_getf (ci := 5) (f := 1) (C := RX5) (T := TX5) (N := 17) (ref := RX5) rfl win_5 (by decide) rfl wm_639 dd_89_9, mn_get _ _ _⟩
theorem vd_89_12 (E : ac_E) : ac_V E ac_MDf ac_HDf 89 12 (.inl (o_div 13)) := ⟨ok_idiv dd_89_12, mn_div _⟩
theorem vd_89_13 (E : ac_E) : ac_V E ac_MDf ac_HDf 89 13 (.inl (o_ist 4 15)) := ⟨ok_istore dd_89_13, mn_ist _ _⟩
theorem vd_89_15 (E : ac_E) : ac_V E ac_MDf ac_HDf 89 15 (.inl (o_ild 4 17)) := ⟨ok_iload dd_89_15, mn_ild _ _⟩
theorem vd_89_17 (E : ac_E) : ac_V E ac_MDf ac_HDf 89 17 (.inl (o_con (.int 2) 18)) := ⟨ok_iconst dd_89_17 (by decide), mn_con _ _⟩
theorem vd_89_18 (E : ac_E) : ac_V E ac_MDf ac_HDf 89 18 (.inl (o_rem 19)) := ⟨ok_irem dd_89_18, mn_rem _⟩
theorem vd_89_19 (E : ac_E) : ac_V E ac_MDf ac_HDf 89 19 (.inl (o_ist 5 21)) := ⟨ok_istore dd_89_19, mn_ist _ _⟩
theorem vd_89_21 (E : ac_E) : ac_V E ac_MDf ac_HDf 89 21 (.inl (o_ild 2 22)) := ⟨ok_iload_n dd_89_21, mn_ild _ _⟩
theorem vd_89_22 (E : ac_E) : ac_V E ac_MDf ac_HDf 89 22 (.inl (o_ne0 32 25)) := ⟨ok_ifne dd_89_22 (by decide), mn_ne0 _ _⟩
theorem vd_89_25 (E : ac_E) : ac_V E ac_MDf ac_HDf 89 25 (.inl (o_ild 3 26)) := ⟨ok_iload_n dd_89_25, mn_ild _ _⟩
theorem vd_89_26 (E : ac_E) : ac_V E ac_MDf ac_HDf 89 26 (.inl (o_con (.int 1) 27)) := ⟨ok_iconst dd_89_26 (by decide), mn_con _ _⟩
theorem vd_89_27 (E : ac_E) : ac_V E ac_MDf ac_HDf 89 27 (.inl (o_add 28)) := ⟨ok_iadd dd_89_27, mn_add _⟩
theorem vd_89_28 (E : ac_E) : ac_V E ac_MDf ac_HDf 89 28 (.inl (o_ist 3 29)) := ⟨ok_istore_n dd_89_28, mn_ist _ _⟩
theorem vd_89_29 (E : ac_E) : ac_V E ac_MDf ac_HDf 89 29 (.inl (o_go 75)) := ⟨ok_goto dd_89_29 (by decide), mn_go _⟩
theorem vd_89_32 (E : ac_E) : ac_V E ac_MDf ac_HDf 89 32 (.inl (o_ild 2 33)) := ⟨ok_iload_n dd_89_32, mn_ild _ _⟩
theorem vd_89_33 (E : ac_E) : ac_V E ac_MDf ac_HDf 89 33 (.inl (o_con (.int 3) 34)) := ⟨ok_iconst dd_89_33 (by decide), mn_con _ _⟩
theorem vd_89_34 (E : ac_E) : ac_V E ac_MDf ac_HDf 89 34 (.inl (o_ne 44 37)) := ⟨ok_icmpne dd_89_34 (by decide), mn_ne _ _⟩
theorem vd_89_37 (E : ac_E) : ac_V E ac_MDf ac_HDf 89 37 (.inl (o_ild 3 38)) := ⟨ok_iload_n dd_89_37, mn_ild _ _⟩
theorem vd_89_38 (E : ac_E) : ac_V E ac_MDf ac_HDf 89 38 (.inl (o_con (.int 1) 39)) := ⟨ok_iconst dd_89_38 (by decide), mn_con _ _⟩
theorem vd_89_39 (E : ac_E) : ac_V E ac_MDf ac_HDf 89 39 (.inl (o_sub 40)) := ⟨ok_isub dd_89_39, mn_sub _⟩
theorem vd_89_40 (E : ac_E) : ac_V E ac_MDf ac_HDf 89 40 (.inl (o_ist 3 41)) := ⟨ok_istore_n dd_89_40, mn_ist _ _⟩
theorem vd_89_41 (E : ac_E) : ac_V E ac_MDf ac_HDf 89 41 (.inl (o_go 75)) := ⟨ok_goto dd_89_41 (by decide), mn_go _⟩
theorem vd_89_44 (E : ac_E) : ac_V E ac_MDf ac_HDf 89 44 (.inl (o_ild 2 45)) := ⟨ok_iload_n dd_89_44, mn_ild _ _⟩
theorem vd_89_45 (E : ac_E) : ac_V E ac_MDf ac_HDf 89 45 (.inl (o_con (.int 1) 46)) := ⟨ok_iconst dd_89_45 (by decide), mn_con _ _⟩
theorem vd_89_46 (E : ac_E) : ac_V E ac_MDf ac_HDf 89 46 (.inl (o_eq 54 49)) := ⟨ok_icmpeq dd_89_46 (by decide), mn_eq _ _⟩
theorem vd_89_49 (E : ac_E) : ac_V E ac_MDf ac_HDf 89 49 (.inl (o_ild 2 50)) := ⟨ok_iload_n dd_89_49, mn_ild _ _⟩
theorem vd_89_50 (E : ac_E) : ac_V E ac_MDf ac_HDf 89 50 (.inl (o_con (.int 5) 51)) := ⟨ok_iconst dd_89_50 (by decide), mn_con _ _⟩
theorem vd_89_51 (E : ac_E) : ac_V E ac_MDf ac_HDf 89 51 (.inl (o_ne 62 54)) := ⟨ok_icmpne dd_89_51 (by decide), mn_ne _ _⟩
theorem vd_89_54 (E : ac_E) : ac_V E ac_MDf ac_HDf 89 54 (.inl (o_ild 3 55)) := ⟨ok_iload_n dd_89_54, mn_ild _ _⟩
theorem vd_89_55 (E : ac_E) : ac_V E ac_MDf ac_HDf 89 55 (.inl (o_ild 5 57)) := ⟨ok_iload dd_89_55, mn_ild _ _⟩
theorem vd_89_57 (E : ac_E) : ac_V E ac_MDf ac_HDf 89 57 (.inl (o_add 58)) := ⟨ok_iadd dd_89_57, mn_add _⟩
theorem vd_89_58 (E : ac_E) : ac_V E ac_MDf ac_HDf 89 58 (.inl (o_ist 3 59)) := ⟨ok_istore_n dd_89_58, mn_ist _ _⟩
theorem vd_89_59 (E : ac_E) : ac_V E ac_MDf ac_HDf 89 59 (.inl (o_go 75)) := ⟨ok_goto dd_89_59 (by decide), mn_go _⟩
theorem vd_89_62 (E : ac_E) : ac_V E ac_MDf ac_HDf 89 62 (.inl (o_ild 2 63)) := ⟨ok_iload_n dd_89_62, mn_ild _ _⟩
theorem vd_89_63 (E : ac_E) : ac_V E ac_MDf ac_HDf 89 63 (.inl (o_con (.int 6) 65)) := ⟨ok_bipush dd_89_63 (by decide), mn_con _ _⟩
theorem vd_89_65 (E : ac_E) : ac_V E ac_MDf ac_HDf 89 65 (.inl (o_eq 75 68)) := ⟨ok_icmpeq dd_89_65 (by decide), mn_eq _ _⟩
theorem vd_89_68 (E : ac_E) : ac_V E ac_MDf ac_HDf 89 68 (.inl (o_ild 3 69)) := ⟨ok_iload_n dd_89_68, mn_ild _ _⟩
theorem vd_89_69 (E : ac_E) : ac_V E ac_MDf ac_HDf 89 69 (.inl (o_ild 5 71)) := ⟨ok_iload dd_89_69, mn_ild _ _⟩
theorem vd_89_71 (E : ac_E) : ac_V E ac_MDf ac_HDf 89 71 (.inl (o_add 72)) := ⟨ok_iadd dd_89_71, mn_add _⟩
theorem vd_89_72 (E : ac_E) : ac_V E ac_MDf ac_HDf 89 72 (.inl (o_con (.int 1) 73)) := ⟨ok_iconst dd_89_72 (by decide), mn_con _ _⟩
theorem vd_89_73 (E : ac_E) : ac_V E ac_MDf ac_HDf 89 73 (.inl (o_sub 74)) := ⟨ok_isub dd_89_73, mn_sub _⟩
theorem vd_89_74 (E : ac_E) : ac_V E ac_MDf ac_HDf 89 74 (.inl (o_ist 3 75)) := ⟨ok_istore_n dd_89_74, mn_ist _ _⟩
theorem vd_89_75 (E : ac_E) : ac_V E ac_MDf ac_HDf 89 75 (.inl (o_ild 2 76)) := ⟨ok_iload_n dd_89_75, mn_ild _ _⟩
theorem vd_89_76 (E : ac_E) : ac_V E ac_MDf ac_HDf 89 76 (.inl (o_con (.int 1) 77)) := ⟨ok_iconst dd_89_76 (by decide), mn_con _ _⟩
theorem vd_89_77 (E : ac_E) : ac_V E ac_MDf ac_HDf 89 77 (.inl (o_eq 85 80)) := ⟨ok_icmpeq dd_89_77 (by decide), mn_eq _ _⟩
theorem vd_89_80 (E : ac_E) : ac_V E ac_MDf ac_HDf 89 80 (.inl (o_ild 2 81)) := ⟨ok_iload_n dd_89_80, mn_ild _ _⟩
theorem vd_89_81 (E : ac_E) : ac_V E ac_MDf ac_HDf 89 81 (.inl (o_con (.int 2) 82)) := ⟨ok_iconst dd_89_81 (by decide), mn_con _ _⟩
theorem vd_89_82 (E : ac_E) : ac_V E ac_MDf ac_HDf 89 82 (.inl (o_ne 94 85)) := ⟨ok_icmpne dd_89_82 (by decide), mn_ne _ _⟩
theorem vd_89_85 (E : ac_E) : ac_V E ac_MDf ac_HDf 89 85 (.inl (o_ild 4 87)) := ⟨ok_iload dd_89_85, mn_ild _ _⟩
theorem vd_89_87 (E : ac_E) : ac_V E ac_MDf ac_HDf 89 87 (.inl (o_con (.int 1) 88)) := ⟨ok_iconst dd_89_87 (by decide), mn_con _ _⟩
theorem vd_89_88 (E : ac_E) : ac_V E ac_MDf ac_HDf 89 88 (.inl (o_sub 89)) := ⟨ok_isub dd_89_88, mn_sub _⟩
theorem vd_89_89 (E : ac_E) : ac_V E ac_MDf ac_HDf 89 89 (.inl (o_ist 4 91)) := ⟨ok_istore dd_89_89, mn_ist _ _⟩
theorem vd_89_91 (E : ac_E) : ac_V E ac_MDf ac_HDf 89 91 (.inl (o_go 110)) := ⟨ok_goto dd_89_91 (by decide), mn_go _⟩
theorem vd_89_94 (E : ac_E) : ac_V E ac_MDf ac_HDf 89 94 (.inl (o_ild 2 95)) := ⟨ok_iload_n dd_89_94, mn_ild _ _⟩
theorem vd_89_95 (E : ac_E) : ac_V E ac_MDf ac_HDf 89 95 (.inl (o_con (.int 4) 96)) := ⟨ok_iconst dd_89_95 (by decide), mn_con _ _⟩
theorem vd_89_96 (E : ac_E) : ac_V E ac_MDf ac_HDf 89 96 (.inl (o_eq 104 99)) := ⟨ok_icmpeq dd_89_96 (by decide), mn_eq _ _⟩
theorem vd_89_99 (E : ac_E) : ac_V E ac_MDf ac_HDf 89 99 (.inl (o_ild 2 100)) := ⟨ok_iload_n dd_89_99, mn_ild _ _⟩
theorem vd_89_100 (E : ac_E) : ac_V E ac_MDf ac_HDf 89 100 (.inl (o_con (.int 5) 101)) := ⟨ok_iconst dd_89_100 (by decide), mn_con _ _⟩
theorem vd_89_101 (E : ac_E) : ac_V E ac_MDf ac_HDf 89 101 (.inl (o_ne 110 104)) := ⟨ok_icmpne dd_89_101 (by decide), mn_ne _ _⟩
theorem vd_89_104 (E : ac_E) : ac_V E ac_MDf ac_HDf 89 104 (.inl (o_ild 4 106)) := ⟨ok_iload dd_89_104, mn_ild _ _⟩
theorem vd_89_106 (E : ac_E) : ac_V E ac_MDf ac_HDf 89 106 (.inl (o_con (.int 1) 107)) := ⟨ok_iconst dd_89_106 (by decide), mn_con _ _⟩
theorem vd_89_107 (E : ac_E) : ac_V E ac_MDf ac_HDf 89 107 (.inl (o_add 108)) := ⟨ok_iadd dd_89_107, mn_add _⟩
theorem vd_89_108 (E : ac_E) : ac_V E ac_MDf ac_HDf 89 108 (.inl (o_ist 4 110)) := ⟨ok_istore dd_89_108, mn_ist _ _⟩
theorem vd_89_110 (E : ac_E) : ac_V E ac_MDf ac_HDf 89 110 (.inl (o_ild 4 112)) := ⟨ok_iload dd_89_110, mn_ild _ _⟩
theorem vd_89_112 (E : ac_E) : ac_V E ac_MDf ac_HDf 89 112 (.inl (o_ald 0 113)) := ⟨ok_aload_n dd_89_112, mn_ald _ _⟩
theorem vd_89_113 (E : ac_E) : ac_V E ac_MDf ac_HDf 89 113 (.inl (o_get 5 2 116)) := ⟨ok_getf (ci := 5) (f := 2) (C := RX5) (T := TX5) (N := 17) (ref := RX5) rfl win_5 (by decide) rfl wm_640 dd_89_113, mn_get _ _ _⟩
theorem vd_89_116 (E : ac_E) : ac_V E ac_MDf ac_HDf 89 116 (.inl (o_add 117)) := ⟨ok_iadd dd_89_116, mn_add _⟩
theorem vd_89_117 (E : ac_E) : ac_V E ac_MDf ac_HDf 89 117 (.inl (o_ald 0 118)) := ⟨ok_aload_n dd_89_117, mn_ald _ _⟩
theorem vd_89_118 (E : ac_E) : ac_V E ac_MDf ac_HDf 89 118 (.inl (o_get 5 2 121)) := ⟨ok_getf (ci := 5) (f := 2) (C := RX5) (T := TX5) (N := 17) (ref := RX5) rfl win_5 (by decide) rfl wm_640 dd_89_118, mn_get _ _ _⟩
theorem vd_89_121 (E : ac_E) : ac_V E ac_MDf ac_HDf 89 121 (.inl (o_rem 122)) := ⟨ok_irem dd_89_121, mn_rem _⟩
theorem vd_89_122 (E : ac_E) : ac_V E ac_MDf ac_HDf 89 122 (.inl (o_ald 0 123)) := ⟨ok_aload_n dd_89_122, mn_ald _ _⟩
theorem vd_89_123 (E : ac_E) : ac_V E ac_MDf ac_HDf 89 123 (.inl (o_get 5 1 126)) := ⟨ok_getf (ci := 5) (f := 1) (C := RX5) (T := TX5) (N := 17) (ref := RX5) rfl win_5 (by decide) rfl wm_639 dd_89_123, mn_get _ _ _⟩
theorem vd_89_126 (E : ac_E) : ac_V E ac_MDf ac_HDf 89 126 (.inl (o_mul 127)) := ⟨ok_imul dd_89_126, mn_mul _⟩
theorem vd_89_127 (E : ac_E) : ac_V E ac_MDf ac_HDf 89 127 (.inl (o_ild 3 128)) := ⟨ok_iload_n dd_89_127, mn_ild _ _⟩
theorem vd_89_128 (E : ac_E) : ac_V E ac_MDf ac_HDf 89 128 (.inl (o_ald 0 129)) := ⟨ok_aload_n dd_89_128, mn_ald _ _⟩
theorem vd_89_129 (E : ac_E) : ac_V E ac_MDf ac_HDf 89 129 (.inl (o_get 5 1 132)) := ⟨ok_getf (ci := 5) (f := 1) (C := RX5) (T := TX5) (N := 17) (ref := RX5) rfl win_5 (by decide) rfl wm_639 dd_89_129, mn_get _ _ _⟩
theorem vd_89_132 (E : ac_E) : ac_V E ac_MDf ac_HDf 89 132 (.inl (o_add 133)) := ⟨ok_iadd dd_89_132, mn_add _⟩
theorem vd_89_133 (E : ac_E) : ac_V E ac_MDf ac_HDf 89 133 (.inl (o_ald 0 134)) := ⟨ok_aload_n dd_89_133, mn_ald _ _⟩
theorem vd_89_134 (E : ac_E) : ac_V E ac_MDf ac_HDf 89 134 (.inl (o_get 5 1 137)) := ⟨ok_getf (ci := 5) (f := 1) (C := RX5) (T := TX5) (N := 17) (ref := RX5) rfl win_5 (by decide) rfl wm_639 dd_89_134, mn_get _ _ _⟩
theorem vd_89_137 (E : ac_E) : ac_V E ac_MDf ac_HDf 89 137 (.inl (o_rem 138)) := ⟨ok_irem dd_89_137, mn_rem _⟩
theorem vd_89_138 (E : ac_E) : ac_V E ac_MDf ac_HDf 89 138 (.inl (o_add 139)) := ⟨ok_iadd dd_89_138, mn_add _⟩
theorem vd_89_139 (E : ac_E) : ac_V E ac_MDf ac_HDf 89 139 (.inr (.inr (.inl 1))) := ⟨fun q => nomatch q, fun _ => ⟨dd_89_139, rfl⟩, fun q => nomatch q⟩
theorem va_89 (E : ac_E) (pc : Nat) : ac_V E ac_MDf ac_HDf 89 pc (tb_89 (ac_len E) (ac_xs E) pc) := (ac_node (ac_node (ac_node (ac_node (ac_node (ac_node (ac_leaf 0 (vd_89_0 E)) (ac_leaf 1 (vd_89_1 E))) (ac_node (ac_leaf 2 (vd_89_2 E)) (ac_node (ac_leaf 5 (vd_89_5 E)) (ac_leaf 6 (vd_89_6 E))))) (ac_node (ac_node (ac_leaf 7 (vd_89_7 E)) (ac_node (ac_leaf 8 (vd_89_8 E)) (ac_leaf 9 (vd_89_9 E)))) (ac_node (ac_leaf 12 (vd_89_12 E)) (ac_node (ac_leaf 13 (vd_89_13 E)) (ac_leaf 15 (vd_89_15 E)))))) (ac_node (ac_node (ac_node (ac_leaf 17 (vd_89_17 E)) (ac_leaf 18 (vd_89_18 E))) (ac_node (ac_leaf 19 (vd_89_19 E)) (ac_node (ac_leaf 21 (vd_89_21 E)) (ac_leaf 22 (vd_89_22 E))))) (ac_node (ac_node (ac_leaf 25 (vd_89_25 E)) (ac_node (ac_leaf 26 (vd_89_26 E)) (ac_leaf 27 (vd_89_27 E)))) (ac_node (ac_leaf 28 (vd_89_28 E)) (ac_node (ac_leaf 29 (vd_89_29 E)) (ac_leaf 32 (vd_89_32 E))))))) (ac_node (ac_node (ac_node (ac_node (ac_leaf 33 (vd_89_33 E)) (ac_leaf 34 (vd_89_34 E))) (ac_node (ac_leaf 37 (vd_89_37 E)) (ac_node (ac_leaf 38 (vd_89_38 E)) (ac_leaf 39 (vd_89_39 E))))) (ac_node (ac_node (ac_leaf 40 (vd_89_40 E)) (ac_node (ac_leaf 41 (vd_89_41 E)) (ac_leaf 44 (vd_89_44 E)))) (ac_node (ac_leaf 45 (vd_89_45 E)) (ac_node (ac_leaf 46 (vd_89_46 E)) (ac_leaf 49 (vd_89_49 E)))))) (ac_node (ac_node (ac_node (ac_leaf 50 (vd_89_50 E)) (ac_leaf 51 (vd_89_51 E))) (ac_node (ac_leaf 54 (vd_89_54 E)) (ac_node (ac_leaf 55 (vd_89_55 E)) (ac_leaf 57 (vd_89_57 E))))) (ac_node (ac_node (ac_leaf 58 (vd_89_58 E)) (ac_node (ac_leaf 59 (vd_89_59 E)) (ac_leaf 62 (vd_89_62 E)))) (ac_node (ac_leaf 63 (vd_89_63 E)) (ac_node (ac_leaf 65 (vd_89_65 E)) (ac_leaf 68 (vd_89_68 E)))))))) (ac_node (ac_node (ac_node (ac_node (ac_node (ac_leaf 69 (vd_89_69 E)) (ac_leaf 71 (vd_89_71 E))) (ac_node (ac_leaf 72 (vd_89_72 E)) (ac_node (ac_leaf 73 (vd_89_73 E)) (ac_leaf 74 (vd_89_74 E))))) (ac_node (ac_node (ac_leaf 75 (vd_89_75 E)) (ac_node (ac_leaf 76 (vd_89_76 E)) (ac_leaf 77 (vd_89_77 E)))) (ac_node (ac_leaf 80 (vd_89_80 E)) (ac_node (ac_leaf 81 (vd_89_81 E)) (ac_leaf 82 (vd_89_82 E)))))) (ac_node (ac_node (ac_node (ac_leaf 85 (vd_89_85 E)) (ac_leaf 87 (vd_89_87 E))) (ac_node (ac_leaf 88 (vd_89_88 E)) (ac_node (ac_leaf 89 (vd_89_89 E)) (ac_leaf 91 (vd_89_91 E))))) (ac_node (ac_node (ac_leaf 94 (vd_89_94 E)) (ac_node (ac_leaf 95 (vd_89_95 E)) (ac_leaf 96 (vd_89_96 E)))) (ac_node (ac_leaf 99 (vd_89_99 E)) (ac_node (ac_leaf 100 (vd_89_100 E)) (ac_leaf 101 (vd_89_101 E))))))) (ac_node (ac_node (ac_node (ac_node (ac_leaf 104 (vd_89_104 E)) (ac_leaf 106 (vd_89_106 E))) (ac_node (ac_leaf 107 (vd_89_107 E)) (ac_node (ac_leaf 108 (vd_89_108 E)) (ac_leaf 110 (vd_89_110 E))))) (ac_node (ac_node (ac_leaf 112 (vd_89_112 E)) (ac_node (ac_leaf 113 (vd_89_113 E)) (ac_leaf 116 (vd_89_116 E)))) (ac_node (ac_leaf 117 (vd_89_117 E)) (ac_node (ac_leaf 118 (vd_89_118 E)) (ac_leaf 121 (vd_89_121 E)))))) (ac_node (ac_node (ac_node (ac_leaf 122 (vd_89_122 E)) (ac_node (ac_leaf 123 (vd_89_123 E)) (ac_leaf 126 (vd_89_126 E)))) (ac_node (ac_leaf 127 (vd_89_127 E)) (ac_node (ac_leaf 128 (vd_89_128 E)) (ac_leaf 129 (vd_89_129 E))))) (ac_node (ac_node (ac_leaf 132 (vd_89_132 E)) (ac_node (ac_leaf 133 (vd_89_133 E)) (ac_leaf 134 (vd_89_134 E)))) (ac_node (ac_leaf 137 (vd_89_137 E)) (ac_node (ac_leaf 138 (vd_89_138 E)) (ac_leaf 139 (vd_89_139 E)))))))))
theorem vd_90_0 (E : ac_E) : ac_V E ac_MDf ac_HDf 90 0 (.inl (o_ild 1 1)) := ⟨ok_iload_n dd_90_0, mn_ild _ _⟩
theorem vd_90_1 (E : ac_E) : ac_V E ac_MDf ac_HDf 90 1 (.inl (o_ist 2 2)) := ⟨ok_istore_n dd_90_1, mn_ist _ _⟩
theorem vd_90_2 (E : ac_E) : ac_V E ac_MDf ac_HDf 90 2 (.inl (o_con (.int 0) 3)) := ⟨ok_iconst dd_90_2 (by decide), mn_con _ _⟩
theorem vd_90_3 (E : ac_E) : ac_V E ac_MDf ac_HDf 90 3 (.inl (o_ist 3 4)) := ⟨ok_istore_n dd_90_3, mn_ist _ _⟩
theorem vd_90_4 (E : ac_E) : ac_V E ac_MDf ac_HDf 90 4 (.inl (o_ild 3 5)) := ⟨ok_iload_n dd_90_4, mn_ild _ _⟩
theorem vd_90_5 (E : ac_E) : ac_V E ac_MDf ac_HDf 90 5 (.inl (o_con (.int 7) 7)) := ⟨ok_bipush dd_90_5 (by decide), mn_con _ _⟩
theorem vd_90_7 (E : ac_E) : ac_V E ac_MDf ac_HDf 90 7 (.inl (o_ge 33 10)) := ⟨ok_icmpge dd_90_7 (by decide), mn_ge _ _⟩
theorem vd_90_10 (E : ac_E) : ac_V E ac_MDf ac_HDf 90 10 (.inl (o_ild 0 11)) := ⟨ok_iload_n dd_90_10, mn_ild _ _⟩
theorem vd_90_11 (E : ac_E) : ac_V E ac_MDf ac_HDf 90 11 (.inl (o_ild 3 12)) := ⟨ok_iload_n dd_90_11, mn_ild _ _⟩
theorem vd_90_12 (E : ac_E) : ac_V E ac_MDf ac_HDf 90 12 (.inr (.inl (70,2,15,0))) := ac_Vc0 ((ok_callS rfl (by decide) (by decide +kernel) wm_707 wm_56 wm_705 wm_706 dd_90_12).1) (fun _ => rfl)
theorem vd_90_15 (E : ac_E) : ac_V E ac_MDf ac_HDf 90 15 (.inl (o_eq0 27 18)) := ⟨ok_ifeq dd_90_15 (by decide), mn_eq0 _ _⟩
theorem vd_90_18 (E : ac_E) : ac_V E ac_MDf ac_HDf 90 18 (.inl (o_ild 2 19)) := ⟨ok_iload_n dd_90_18, mn_ild _ _⟩
theorem vd_90_19 (E : ac_E) : ac_V E ac_MDf ac_HDf 90 19 (.inl (o_ne0 24 22)) := ⟨ok_ifne dd_90_19 (by decide), mn_ne0 _ _⟩
theorem vd_90_22 (E : ac_E) : ac_V E ac_MDf ac_HDf 90 22 (.inl (o_ild 3 23)) := ⟨ok_iload_n dd_90_22, mn_ild _ _⟩
theorem vd_90_23 (E : ac_E) : ac_V E ac_MDf ac_HDf 90 23 (.inr (.inr (.inl 1))) := ⟨fun q => nomatch q, fun _ => ⟨dd_90_23, rfl⟩, fun q => nomatch q⟩
theorem vd_90_24 (E : ac_E) : ac_V E ac_MDf ac_HDf 90 24 (.inl (o_inc 2 (-1) 27)) := ⟨ok_iinc dd_90_24 (by decide), mn_inc _ _ _⟩
theorem vd_90_27 (E : ac_E) : ac_V E ac_MDf ac_HDf 90 27 (.inl (o_inc 3 1 30)) := ⟨ok_iinc dd_90_27 (by decide), mn_inc _ _ _⟩
theorem vd_90_30 (E : ac_E) : ac_V E ac_MDf ac_HDf 90 30 (.inl (o_go 4)) := ⟨ok_goto dd_90_30 (by decide), mn_go _⟩
theorem vd_90_33 (E : ac_E) : ac_V E ac_MDf ac_HDf 90 33 (.inl (o_con (.int (-1)) 34)) := ⟨ok_iconst dd_90_33 (by decide), mn_con _ _⟩
theorem vd_90_34 (E : ac_E) : ac_V E ac_MDf ac_HDf 90 34 (.inr (.inr (.inl 1))) := ⟨fun q => nomatch q, fun _ => ⟨dd_90_34, rfl⟩, fun q => nomatch q⟩
theorem va_90 (E : ac_E) (pc : Nat) : ac_V E ac_MDf ac_HDf 90 pc (tb_90 (ac_len E) (ac_xs E) pc) := (ac_node (ac_node (ac_node (ac_node (ac_leaf 0 (vd_90_0 E)) (ac_leaf 1 (vd_90_1 E))) (ac_node (ac_leaf 2 (vd_90_2 E)) (ac_node (ac_leaf 3 (vd_90_3 E)) (ac_leaf 4 (vd_90_4 E))))) (ac_node (ac_node (ac_leaf 5 (vd_90_5 E)) (ac_leaf 7 (vd_90_7 E))) (ac_node (ac_leaf 10 (vd_90_10 E)) (ac_node (ac_leaf 11 (vd_90_11 E)) (ac_leaf 12 (vd_90_12 E)))))) (ac_node (ac_node (ac_node (ac_leaf 15 (vd_90_15 E)) (ac_leaf 18 (vd_90_18 E))) (ac_node (ac_leaf 19 (vd_90_19 E)) (ac_node (ac_leaf 22 (vd_90_22 E)) (ac_leaf 23 (vd_90_23 E))))) (ac_node (ac_node (ac_leaf 24 (vd_90_24 E)) (ac_leaf 27 (vd_90_27 E))) (ac_node (ac_leaf 30 (vd_90_30 E)) (ac_node (ac_leaf 33 (vd_90_33 E)) (ac_leaf 34 (vd_90_34 E)))))))
theorem vd_91_0 (E : ac_E) : ac_V E ac_MDf ac_HDf 91 0 (.inl (o_ild 1 1)) := ⟨ok_iload_n dd_91_0, mn_ild _ _⟩
theorem vd_91_1 (E : ac_E) : ac_V E ac_MDf ac_HDf 91 1 (.inl (o_ald 0 2)) := ⟨ok_aload_n dd_91_1, mn_ald _ _⟩
theorem vd_91_2 (E : ac_E) : ac_V E ac_MDf ac_HDf 91 2 (.inl (o_get 5 1 5)) := ⟨ok_getf (ci := 5) (f := 1) (C := RX5) (T := TX5) (N := 17) (ref := RX5) rfl win_5 (by decide) rfl wm_639 dd_91_2, mn_get _ _ _⟩
theorem vd_91_5 (E : ac_E) : ac_V E ac_MDf ac_HDf 91 5 (.inl (o_rem 6)) := ⟨ok_irem dd_91_5, mn_rem _⟩
theorem vd_91_6 (E : ac_E) : ac_V E ac_MDf ac_HDf 91 6 (.inl (o_ild 1 7)) := ⟨ok_iload_n dd_91_6, mn_ild _ _⟩
theorem vd_91_7 (E : ac_E) : ac_V E ac_MDf ac_HDf 91 7 (.inl (o_ald 0 8)) := ⟨ok_aload_n dd_91_7, mn_ald _ _⟩
theorem vd_91_8 (E : ac_E) : ac_V E ac_MDf ac_HDf 91 8 (.inl (o_get 5 1 11)) := ⟨ok_getf (ci := 5) (f := 1) (C := RX5) (T := TX5) (N := 17) (ref := RX5) rfl win_5 (by decide) rfl wm_639 dd_91_8, mn_get _ _ _⟩
theorem vd_91_11 (E : ac_E) : ac_V E ac_MDf ac_HDf 91 11 (.inl (o_div 12)) := ⟨ok_idiv dd_91_11, mn_div _⟩
theorem vd_91_12 (E : ac_E) : ac_V E ac_MDf ac_HDf 91 12 (.inl (o_add 13)) := ⟨ok_iadd dd_91_12, mn_add _⟩
theorem vd_91_13 (E : ac_E) : ac_V E ac_MDf ac_HDf 91 13 (.inl (o_ald 0 14)) := ⟨ok_aload_n dd_91_13, mn_ald _ _⟩
theorem vd_91_14 (E : ac_E) : ac_V E ac_MDf ac_HDf 91 14 (.inl (o_get 5 3 17)) := ⟨ok_getf (ci := 5) (f := 3) (C := RX5) (T := TX5) (N := 17) (ref := RX5) rfl win_5 (by decide) rfl wm_641 dd_91_14, mn_get _ _ _⟩
theorem vd_91_17 (E : ac_E) : ac_V E ac_MDf ac_HDf 91 17 (.inl (o_add 18)) := ⟨ok_iadd dd_91_17, mn_add _⟩
theorem vd_91_18 (E : ac_E) : ac_V E ac_MDf ac_HDf 91 18 (.inl (o_con (.int 1) 19)) := ⟨ok_iconst dd_91_18 (by decide), mn_con _ _⟩
theorem vd_91_19 (E : ac_E) : ac_V E ac_MDf ac_HDf 91 19 (.inl (o_and 20)) := ⟨ok_iand dd_91_19, mn_and _⟩
theorem vd_91_20 (E : ac_E) : ac_V E ac_MDf ac_HDf 91 20 (.inl (o_ist 3 21)) := ⟨ok_istore_n dd_91_20, mn_ist _ _⟩
theorem vd_91_21 (E : ac_E) : ac_V E ac_MDf ac_HDf 91 21 (.inl (o_ald 0 22)) := ⟨ok_aload_n dd_91_21, mn_ald _ _⟩
theorem vd_91_22 (E : ac_E) : ac_V E ac_MDf ac_HDf 91 22 (.inl (o_get 5 5 25)) := ⟨ok_getf (ci := 5) (f := 5) (C := RX5) (T := TX5) (N := 17) (ref := RX5) rfl win_5 (by decide) rfl wm_643 dd_91_22, mn_get _ _ _⟩
theorem vd_91_25 (E : ac_E) : ac_V E ac_MDf ac_HDf 91 25 (.inl (o_ild 1 26)) := ⟨ok_iload_n dd_91_25, mn_ild _ _⟩
theorem vd_91_26 (E : ac_E) : ac_V E ac_MDf ac_HDf 91 26 (.inl (o_ia 27)) := ⟨ok_iaload dd_91_26, mn_ia _⟩
theorem vd_91_27 (E : ac_E) : ac_V E ac_MDf ac_HDf 91 27 (.inl (o_ist 4 29)) := ⟨ok_istore dd_91_27, mn_ist _ _⟩
theorem vd_91_29 (E : ac_E) : ac_V E ac_MDf ac_HDf 91 29 (.inl (o_ild 2 30)) := ⟨ok_iload_n dd_91_29, mn_ild _ _⟩
theorem vd_91_30 (E : ac_E) : ac_V E ac_MDf ac_HDf 91 30 (.inl (o_eq0 42 33)) := ⟨ok_ifeq dd_91_30 (by decide), mn_eq0 _ _⟩
theorem vd_91_33 (E : ac_E) : ac_V E ac_MDf ac_HDf 91 33 (.inl (o_ild 4 35)) := ⟨ok_iload dd_91_33, mn_ild _ _⟩
theorem vd_91_35 (E : ac_E) : ac_V E ac_MDf ac_HDf 91 35 (.inl (o_ild 3 36)) := ⟨ok_iload_n dd_91_35, mn_ild _ _⟩
theorem vd_91_36 (E : ac_E) : ac_V E ac_MDf ac_HDf 91 36 (.inr (.inl (74,2,39,0))) := ac_Vc0 ((ok_callS rfl (by decide) (by decide +kernel) wm_778 wm_56 wm_776 wm_777 dd_91_36).1) (fun _ => rfl)
theorem vd_91_39 (E : ac_E) : ac_V E ac_MDf ac_HDf 91 39 (.inl (o_go 48)) := ⟨ok_goto dd_91_39 (by decide), mn_go _⟩
theorem vd_91_42 (E : ac_E) : ac_V E ac_MDf ac_HDf 91 42 (.inl (o_ild 4 44)) := ⟨ok_iload dd_91_42, mn_ild _ _⟩
theorem vd_91_44 (E : ac_E) : ac_V E ac_MDf ac_HDf 91 44 (.inl (o_ild 3 45)) := ⟨ok_iload_n dd_91_44, mn_ild _ _⟩
theorem vd_91_45 (E : ac_E) : ac_V E ac_MDf ac_HDf 91 45 (.inr (.inl (73,2,48,0))) := ac_Vc0 ((ok_callS rfl (by decide) (by decide +kernel) wm_701 wm_56 wm_699 wm_700 dd_91_45).1) (fun _ => rfl)
theorem vd_91_48 (E : ac_E) : ac_V E ac_MDf ac_HDf 91 48 (.inl (o_ist 5 50)) := ⟨ok_istore dd_91_48, mn_ist _ _⟩
theorem vd_91_50 (E : ac_E) : ac_V E ac_MDf ac_HDf 91 50 (.inl (o_ald 0 51)) := ⟨ok_aload_n dd_91_50, mn_ald _ _⟩
theorem vd_91_51 (E : ac_E) : ac_V E ac_MDf ac_HDf 91 51 (.inl (o_get 5 5 54)) := ⟨ok_getf (ci := 5) (f := 5) (C := RX5) (T := TX5) (N := 17) (ref := RX5) rfl win_5 (by decide) rfl wm_643 dd_91_51, mn_get _ _ _⟩
theorem vd_91_54 (E : ac_E) : ac_V E ac_MDf ac_HDf 91 54 (.inl (o_ild 1 55)) := ⟨ok_iload_n dd_91_54, mn_ild _ _⟩
theorem vd_91_55 (E : ac_E) : ac_V E ac_MDf ac_HDf 91 55 (.inl (o_ild 5 57)) := ⟨ok_iload dd_91_55, mn_ild _ _⟩
theorem vd_91_57 (E : ac_E) : ac_V E ac_MDf ac_HDf 91 57 (.inl (o_is 58)) := ⟨ok_iastore dd_91_57, mn_is _⟩
theorem vd_91_58 (E : ac_E) : ac_V E ac_MDf ac_HDf 91 58 (.inl (o_con (.int 0) 59)) := ⟨ok_iconst dd_91_58 (by decide), mn_con _ _⟩
theorem vd_91_59 (E : ac_E) : ac_V E ac_MDf ac_HDf 91 59 (.inl (o_ist 6 61)) := ⟨ok_istore dd_91_59, mn_ist _ _⟩
theorem vd_91_61 (E : ac_E) : ac_V E ac_MDf ac_HDf 91 61 (.inl (o_ild 6 63)) := ⟨ok_iload dd_91_61, mn_ild _ _⟩
theorem vd_91_63 (E : ac_E) : ac_V E ac_MDf ac_HDf 91 63 (.inl (o_ald 0 64)) := ⟨ok_aload_n dd_91_63, mn_ald _ _⟩
theorem vd_91_64 (E : ac_E) : ac_V E ac_MDf ac_HDf 91 64 (.inl (o_get 5 14 67)) := ⟨ok_getf (ci := 5) (f := 14) (C := RX5) (T := TX5) (N := 17) (ref := RX5) rfl win_5 (by decide) rfl wm_652 dd_91_64, mn_get _ _ _⟩
theorem vd_91_67 (E : ac_E) : ac_V E ac_MDf ac_HDf 91 67 (.inl (o_ge 123 70)) := ⟨ok_icmpge dd_91_67 (by decide), mn_ge _ _⟩
theorem vd_91_70 (E : ac_E) : ac_V E ac_MDf ac_HDf 91 70 (.inl (o_ald 0 71)) := ⟨ok_aload_n dd_91_70, mn_ald _ _⟩
theorem vd_91_71 (E : ac_E) : ac_V E ac_MDf ac_HDf 91 71 (.inl (o_get 5 15 74)) := ⟨ok_getf (ci := 5) (f := 15) (C := RX5) (T := TX5) (N := 17) (ref := RX5) rfl win_5 (by decide) rfl wm_653 dd_91_71, mn_get _ _ _⟩
theorem vd_91_74 (E : ac_E) : ac_V E ac_MDf ac_HDf 91 74 (.inl (o_ild 6 76)) := ⟨ok_iload dd_91_74, mn_ild _ _⟩
theorem vd_91_76 (E : ac_E) : ac_V E ac_MDf ac_HDf 91 76 (.inl (o_ia 77)) := ⟨ok_iaload dd_91_76, mn_ia _⟩
theorem vd_91_77 (E : ac_E) : ac_V E ac_MDf ac_HDf 91 77 (.inl (o_ild 1 78)) := ⟨ok_iload_n dd_91_77, mn_ild _ _⟩
theorem vd_91_78 (E : ac_E) : ac_V E ac_MDf ac_HDf 91 78 (.inl (o_ne 117 81)) := ⟨ok_icmpne dd_91_78 (by decide), mn_ne _ _⟩
theorem vd_91_81 (E : ac_E) : ac_V E ac_MDf ac_HDf 91 81 (.inl (o_ild 5 83)) := ⟨ok_iload dd_91_81, mn_ild _ _⟩
theorem vd_91_83 (E : ac_E) : ac_V E ac_MDf ac_HDf 91 83 (.inl (o_ild 4 85)) := ⟨ok_iload dd_91_83, mn_ild _ _⟩
theorem vd_91_85 (E : ac_E) : ac_V E ac_MDf ac_HDf 91 85 (.inl (o_eq 117 88)) := ⟨ok_icmpeq dd_91_85 (by decide), mn_eq _ _⟩
theorem vd_91_88 (E : ac_E) : ac_V E ac_MDf ac_HDf 91 88 (.inl (o_ald 0 89)) := ⟨ok_aload_n dd_91_88, mn_ald _ _⟩
theorem vd_91_89 (E : ac_E) : ac_V E ac_MDf ac_HDf 91 89 (.inl (o_get 5 16 92)) := ⟨ok_getf (ci := 5) (f := 16) (C := RX5) (T := TX5) (N := 17) (ref := RX5) rfl win_5 (by decide) rfl wm_654 dd_91_89, mn_get _ _ _⟩
theorem vd_91_92 (E : ac_E) : ac_V E ac_MDf ac_HDf 91 92 (.inl (o_ild 6 94)) := ⟨ok_iload dd_91_92, mn_ild _ _⟩
theorem vd_91_94 (E : ac_E) : ac_V E ac_MDf ac_HDf 91 94 (.inl (o_ild 5 96)) := ⟨ok_iload dd_91_94, mn_ild _ _⟩
theorem vd_91_96 (E : ac_E) : ac_V E ac_MDf ac_HDf 91 96 (.inl (o_ild 4 98)) := ⟨ok_iload dd_91_96, mn_ild _ _⟩
theorem vd_91_98 (E : ac_E) : ac_V E ac_MDf ac_HDf 91 98 (.inl (o_con (.int 1) 99)) := ⟨ok_iconst dd_91_98 (by decide), mn_con _ _⟩
theorem vd_91_99 (E : ac_E) : ac_V E ac_MDf ac_HDf 91 99 (.inl (o_ald 0 100)) := ⟨ok_aload_n dd_91_99, mn_ald _ _⟩
theorem vd_91_100 (E : ac_E) : ac_V E ac_MDf ac_HDf 91 100 (.inl (o_get 5 16 103)) := ⟨ok_getf (ci := 5) (f := 16) (C := RX5) (T := TX5) (N := 17) (ref := RX5) rfl win_5 (by decide) rfl wm_654 dd_91_100, mn_get _ _ _⟩
theorem vd_91_103 (E : ac_E) : ac_V E ac_MDf ac_HDf 91 103 (.inl (o_ild 6 105)) := ⟨ok_iload dd_91_103, mn_ild _ _⟩
theorem vd_91_105 (E : ac_E) : ac_V E ac_MDf ac_HDf 91 105 (.inl (o_ia 106)) := ⟨ok_iaload dd_91_105, mn_ia _⟩
theorem vd_91_106 (E : ac_E) : ac_V E ac_MDf ac_HDf 91 106 (.inl (o_shl 107)) := ⟨ok_ishl dd_91_106, mn_shl _⟩
theorem vd_91_107 (E : ac_E) : ac_V E ac_MDf ac_HDf 91 107 (.inl (o_con (.int 1) 108)) := ⟨ok_iconst dd_91_107 (by decide), mn_con _ _⟩
theorem vd_91_108 (E : ac_E) : ac_V E ac_MDf ac_HDf 91 108 (.inl (o_sub 109)) := ⟨ok_isub dd_91_108, mn_sub _⟩
theorem vd_91_109 (E : ac_E) : ac_V E ac_MDf ac_HDf 91 109 (.inl (o_and 110)) := ⟨ok_iand dd_91_109, mn_and _⟩
theorem vd_91_110 (E : ac_E) : ac_V E ac_MDf ac_HDf 91 110 (.inr (.inl (71,1,113,0))) := ac_Vc0 ((ok_callS rfl (by decide) (by decide +kernel) wm_781 wm_56 wm_779 wm_780 dd_91_110).1) (fun _ => rfl)
theorem vd_91_113 (E : ac_E) : ac_V E ac_MDf ac_HDf 91 113 (.inr (.inl (90,2,116,0))) := ac_Vc0 ((ok_callS rfl (by decide) (by decide +kernel) wm_784 wm_56 wm_782 wm_783 dd_91_113).1) (fun _ => rfl)
theorem vd_91_116 (E : ac_E) : ac_V E ac_MDf ac_HDf 91 116 (.inl (o_is 117)) := ⟨ok_iastore dd_91_116, mn_is _⟩
theorem vd_91_117 (E : ac_E) : ac_V E ac_MDf ac_HDf 91 117 (.inl (o_inc 6 1 120)) := ⟨ok_iinc dd_91_117 (by decide), mn_inc _ _ _⟩
theorem vd_91_120 (E : ac_E) : ac_V E ac_MDf ac_HDf 91 120 (.inl (o_go 61)) := ⟨ok_goto dd_91_120 (by decide), mn_go _⟩
theorem vd_91_123 (E : ac_E) : ac_V E ac_MDf ac_HDf 91 123 (.inr (.inr (.inl 0))) := ⟨fun _ => ⟨dd_91_123, rfl⟩, fun q => nomatch q, fun q => nomatch q⟩
theorem va_91 (E : ac_E) (pc : Nat) : ac_V E ac_MDf ac_HDf 91 pc (tb_91 (ac_len E) (ac_xs E) pc) := (ac_node (ac_node (ac_node (ac_node (ac_node (ac_node (ac_leaf 0 (vd_91_0 E)) (ac_leaf 1 (vd_91_1 E))) (ac_node (ac_leaf 2 (vd_91_2 E)) (ac_leaf 5 (vd_91_5 E)))) (ac_node (ac_node (ac_leaf 6 (vd_91_6 E)) (ac_leaf 7 (vd_91_7 E))) (ac_node (ac_leaf 8 (vd_91_8 E)) (ac_leaf 11 (vd_91_11 E))))) (ac_node (ac_node (ac_node (ac_leaf 12 (vd_91_12 E)) (ac_leaf 13 (vd_91_13 E))) (ac_node (ac_leaf 14 (vd_91_14 E)) (ac_leaf 17 (vd_91_17 E)))) (ac_node (ac_node (ac_leaf 18 (vd_91_18 E)) (ac_leaf 19 (vd_91_19 E))) (ac_node (ac_leaf 20 (vd_91_20 E)) (ac_node (ac_leaf 21 (vd_91_21 E)) (ac_leaf 22 (vd_91_22 E))))))) (ac_node (ac_node (ac_node (ac_node (ac_leaf 25 (vd_91_25 E)) (ac_leaf 26 (vd_91_26 E))) (ac_node (ac_leaf 27 (vd_91_27 E)) (ac_leaf 29 (vd_91_29 E)))) (ac_node (ac_node (ac_leaf 30 (vd_91_30 E)) (ac_leaf 33 (vd_91_33 E))) (ac_node (ac_leaf 35 (vd_91_35 E)) (ac_node (ac_leaf 36 (vd_91_36 E)) (ac_leaf 39 (vd_91_39 E)))))) (ac_node (ac_node (ac_node (ac_leaf 42 (vd_91_42 E)) (ac_leaf 44 (vd_91_44 E))) (ac_node (ac_leaf 45 (vd_91_45 E)) (ac_leaf 48 (vd_91_48 E)))) (ac_node (ac_node (ac_leaf 50 (vd_91_50 E)) (ac_leaf 51 (vd_91_51 E))) (ac_node (ac_leaf 54 (vd_91_54 E)) (ac_node (ac_leaf 55 (vd_91_55 E)) (ac_leaf 57 (vd_91_57 E)))))))) (ac_node (ac_node (ac_node (ac_node (ac_node (ac_leaf 58 (vd_91_58 E)) (ac_leaf 59 (vd_91_59 E))) (ac_node (ac_leaf 61 (vd_91_61 E)) (ac_leaf 63 (vd_91_63 E)))) (ac_node (ac_node (ac_leaf 64 (vd_91_64 E)) (ac_leaf 67 (vd_91_67 E))) (ac_node (ac_leaf 70 (vd_91_70 E)) (ac_leaf 71 (vd_91_71 E))))) (ac_node (ac_node (ac_node (ac_leaf 74 (vd_91_74 E)) (ac_leaf 76 (vd_91_76 E))) (ac_node (ac_leaf 77 (vd_91_77 E)) (ac_leaf 78 (vd_91_78 E)))) (ac_node (ac_node (ac_leaf 81 (vd_91_81 E)) (ac_leaf 83 (vd_91_83 E))) (ac_node (ac_leaf 85 (vd_91_85 E)) (ac_node (ac_leaf 88 (vd_91_88 E)) (ac_leaf 89 (vd_91_89 E))))))) (ac_node (ac_node (ac_node (ac_node (ac_leaf 92 (vd_91_92 E)) (ac_leaf 94 (vd_91_94 E))) (ac_node (ac_leaf 96 (vd_91_96 E)) (ac_leaf 98 (vd_91_98 E)))) (ac_node (ac_node (ac_leaf 99 (vd_91_99 E)) (ac_leaf 100 (vd_91_100 E))) (ac_node (ac_leaf 103 (vd_91_103 E)) (ac_node (ac_leaf 105 (vd_91_105 E)) (ac_leaf 106 (vd_91_106 E)))))) (ac_node (ac_node (ac_node (ac_leaf 107 (vd_91_107 E)) (ac_leaf 108 (vd_91_108 E))) (ac_node (ac_leaf 109 (vd_91_109 E)) (ac_leaf 110 (vd_91_110 E)))) (ac_node (ac_node (ac_leaf 113 (vd_91_113 E)) (ac_leaf 116 (vd_91_116 E))) (ac_node (ac_leaf 117 (vd_91_117 E)) (ac_node (ac_leaf 120 (vd_91_120 E)) (ac_leaf 123 (vd_91_123 E)))))))))
theorem vd_92_0 (E : ac_E) : ac_V E ac_MDf ac_HDf 92 0 (.inl (o_con (.int 0) 1)) := ⟨ok_iconst dd_92_0 (by decide), mn_con _ _⟩
theorem vd_92_1 (E : ac_E) : ac_V E ac_MDf ac_HDf 92 1 (.inl (o_ist 2 2)) := ⟨ok_istore_n dd_92_1, mn_ist _ _⟩
theorem vd_92_2 (E : ac_E) : ac_V E ac_MDf ac_HDf 92 2 (.inl (o_ild 2 3)) := ⟨ok_iload_n dd_92_2, mn_ild _ _⟩
theorem vd_92_3 (E : ac_E) : ac_V E ac_MDf ac_HDf 92 3 (.inl (o_ald 0 4)) := ⟨ok_aload_n dd_92_3, mn_ald _ _⟩
theorem vd_92_4 (E : ac_E) : ac_V E ac_MDf ac_HDf 92 4 (.inl (o_get 5 1 7)) := ⟨ok_getf (ci := 5) (f := 1) (C := RX5) (T := TX5) (N := 17) (ref := RX5) rfl win_5 (by decide) rfl wm_639 dd_92_4, mn_get _ _ _⟩
theorem vd_92_7 (E : ac_E) : ac_V E ac_MDf ac_HDf 92 7 (.inl (o_ald 0 8)) := ⟨ok_aload_n dd_92_7, mn_ald _ _⟩
theorem vd_92_8 (E : ac_E) : ac_V E ac_MDf ac_HDf 92 8 (.inl (o_get 5 2 11)) := ⟨ok_getf (ci := 5) (f := 2) (C := RX5) (T := TX5) (N := 17) (ref := RX5) rfl win_5 (by decide) rfl wm_640 dd_92_8, mn_get _ _ _⟩
theorem vd_92_11 (E : ac_E) : ac_V E ac_MDf ac_HDf 92 11 (.inl (o_mul 12)) := ⟨ok_imul dd_92_11, mn_mul _⟩
theorem vd_92_12 (E : ac_E) : ac_V E ac_MDf ac_HDf 92 12 (.inl (o_ge 47 15)) := ⟨ok_icmpge dd_92_12 (by decide), mn_ge _ _⟩
theorem vd_92_15 (E : ac_E) : ac_V E ac_MDf ac_HDf 92 15 (.inl (o_ald 0 16)) := ⟨ok_aload_n dd_92_15, mn_ald _ _⟩
theorem vd_92_16 (E : ac_E) : ac_V E ac_MDf ac_HDf 92 16 (.inl (o_get 5 6 19)) := ⟨ok_getf (ci := 5) (f := 6) (C := RX5) (T := TX5) (N := 17) (ref := RX5) rfl win_5 (by decide) rfl wm_644 dd_92_16, mn_get _ _ _⟩
theorem vd_92_19 (E : ac_E) : ac_V E ac_MDf ac_HDf 92 19 (.inl (o_ild 2 20)) := ⟨ok_iload_n dd_92_19, mn_ild _ _⟩
theorem vd_92_20 (E : ac_E) : ac_V E ac_MDf ac_HDf 92 20 (.inl (o_ia 21)) := ⟨ok_iaload dd_92_20, mn_ia _⟩
theorem vd_92_21 (E : ac_E) : ac_V E ac_MDf ac_HDf 92 21 (.inl (o_con (.int 1) 22)) := ⟨ok_iconst dd_92_21 (by decide), mn_con _ _⟩
theorem vd_92_22 (E : ac_E) : ac_V E ac_MDf ac_HDf 92 22 (.inl (o_eq 41 25)) := ⟨ok_icmpeq dd_92_22 (by decide), mn_eq _ _⟩
theorem vd_92_25 (E : ac_E) : ac_V E ac_MDf ac_HDf 92 25 (.inl (o_ald 0 26)) := ⟨ok_aload_n dd_92_25, mn_ald _ _⟩
theorem vd_92_26 (E : ac_E) : ac_V E ac_MDf ac_HDf 92 26 (.inl (o_get 5 6 29)) := ⟨ok_getf (ci := 5) (f := 6) (C := RX5) (T := TX5) (N := 17) (ref := RX5) rfl win_5 (by decide) rfl wm_644 dd_92_26, mn_get _ _ _⟩
theorem vd_92_29 (E : ac_E) : ac_V E ac_MDf ac_HDf 92 29 (.inl (o_ild 2 30)) := ⟨ok_iload_n dd_92_29, mn_ild _ _⟩
theorem vd_92_30 (E : ac_E) : ac_V E ac_MDf ac_HDf 92 30 (.inl (o_ia 31)) := ⟨ok_iaload dd_92_30, mn_ia _⟩
theorem vd_92_31 (E : ac_E) : ac_V E ac_MDf ac_HDf 92 31 (.inl (o_con (.int 4) 32)) := ⟨ok_iconst dd_92_31 (by decide), mn_con _ _⟩
theorem vd_92_32 (E : ac_E) : ac_V E ac_MDf ac_HDf 92 32 (.inl (o_eq 41 35)) := ⟨ok_icmpeq dd_92_32 (by decide), mn_eq _ _⟩
theorem vd_92_35 (E : ac_E) : ac_V E ac_MDf ac_HDf 92 35 (.inl (o_ald 0 36)) := ⟨ok_aload_n dd_92_35, mn_ald _ _⟩
theorem vd_92_36 (E : ac_E) : ac_V E ac_MDf ac_HDf 92 36 (.inl (o_ild 2 37)) := ⟨ok_iload_n dd_92_36, mn_ild _ _⟩
theorem vd_92_37 (E : ac_E) : ac_V E ac_MDf ac_HDf 92 37 (.inl (o_ild 1 38)) := ⟨ok_iload_n dd_92_37, mn_ild _ _⟩
theorem vd_92_38 (E : ac_E) : ac_V E ac_MDf ac_HDf 92 38 (.inr (.inl (91,3,41,7))) := ac_Vc0 ((ok_callV (T := TX5) (N := 17) rfl rfl (by decide) (by decide +kernel) wm_775 wm_56 wm_772 wm_774 wm_36 dd_92_38).1) (fun _ => rfl)
theorem vd_92_41 (E : ac_E) : ac_V E ac_MDf ac_HDf 92 41 (.inl (o_inc 2 1 44)) := ⟨ok_iinc dd_92_41 (by decide), mn_inc _ _ _⟩
theorem vd_92_44 (E : ac_E) : ac_V E ac_MDf ac_HDf 92 44 (.inl (o_go 2)) := ⟨ok_goto dd_92_44 (by decide), mn_go _⟩
theorem vd_92_47 (E : ac_E) : ac_V E ac_MDf ac_HDf 92 47 (.inr (.inr (.inl 0))) := ⟨fun _ => ⟨dd_92_47, rfl⟩, fun q => nomatch q, fun q => nomatch q⟩
theorem va_92 (E : ac_E) (pc : Nat) : ac_V E ac_MDf ac_HDf 92 pc (tb_92 (ac_len E) (ac_xs E) pc) := (ac_node (ac_node (ac_node (ac_node (ac_leaf 0 (vd_92_0 E)) (ac_node (ac_leaf 1 (vd_92_1 E)) (ac_leaf 2 (vd_92_2 E)))) (ac_node (ac_node (ac_leaf 3 (vd_92_3 E)) (ac_leaf 4 (vd_92_4 E))) (ac_node (ac_leaf 7 (vd_92_7 E)) (ac_leaf 8 (vd_92_8 E))))) (ac_node (ac_node (ac_leaf 11 (vd_92_11 E)) (ac_node (ac_leaf 12 (vd_92_12 E)) (ac_leaf 15 (vd_92_15 E)))) (ac_node (ac_node (ac_leaf 16 (vd_92_16 E)) (ac_leaf 19 (vd_92_19 E))) (ac_node (ac_leaf 20 (vd_92_20 E)) (ac_leaf 21 (vd_92_21 E)))))) (ac_node (ac_node (ac_node (ac_leaf 22 (vd_92_22 E)) (ac_node (ac_leaf 25 (vd_92_25 E)) (ac_leaf 26 (vd_92_26 E)))) (ac_node (ac_node (ac_leaf 29 (vd_92_29 E)) (ac_leaf 30 (vd_92_30 E))) (ac_node (ac_leaf 31 (vd_92_31 E)) (ac_leaf 32 (vd_92_32 E))))) (ac_node (ac_node (ac_leaf 35 (vd_92_35 E)) (ac_node (ac_leaf 36 (vd_92_36 E)) (ac_leaf 37 (vd_92_37 E)))) (ac_node (ac_node (ac_leaf 38 (vd_92_38 E)) (ac_leaf 41 (vd_92_41 E))) (ac_node (ac_leaf 44 (vd_92_44 E)) (ac_leaf 47 (vd_92_47 E)))))))
theorem vd_93_0 (E : ac_E) : ac_V E ac_MDf ac_HDf 93 0 (.inl (o_con (.int 0) 1)) := ⟨ok_iconst dd_93_0 (by decide), mn_con _ _⟩
theorem vd_93_1 (E : ac_E) : ac_V E ac_MDf ac_HDf 93 1 (.inl (o_ist 2 2)) := ⟨ok_istore_n dd_93_1, mn_ist _ _⟩
theorem vd_93_2 (E : ac_E) : ac_V E ac_MDf ac_HDf 93 2 (.inl (o_ild 2 3)) := ⟨ok_iload_n dd_93_2, mn_ild _ _⟩
theorem vd_93_3 (E : ac_E) : ac_V E ac_MDf ac_HDf 93 3 (.inl (o_ald 0 4)) := ⟨ok_aload_n dd_93_3, mn_ald _ _⟩
theorem vd_93_4 (E : ac_E) : ac_V E ac_MDf ac_HDf 93 4 (.inl (o_get 5 1 7)) := ⟨ok_getf (ci := 5) (f := 1) (C := RX5) (T := TX5) (N := 17) (ref := RX5) rfl win_5 (by decide) rfl wm_639 dd_93_4, mn_get _ _ _⟩
theorem vd_93_7 (E : ac_E) : ac_V E ac_MDf ac_HDf 93 7 (.inl (o_ald 0 8)) := ⟨ok_aload_n dd_93_7, mn_ald _ _⟩
theorem vd_93_8 (E : ac_E) : ac_V E ac_MDf ac_HDf 93 8 (.inl (o_get 5 2 11)) := ⟨ok_getf (ci := 5) (f := 2) (C := RX5) (T := TX5) (N := 17) (ref := RX5) rfl win_5 (by decide) rfl wm_640 dd_93_8, mn_get _ _ _⟩
theorem vd_93_11 (E : ac_E) : ac_V E ac_MDf ac_HDf 93 11 (.inl (o_mul 12)) := ⟨ok_imul dd_93_11, mn_mul _⟩
theorem vd_93_12 (E : ac_E) : ac_V E ac_MDf ac_HDf 93 12 (.inl (o_ge 28 15)) := ⟨ok_icmpge dd_93_12 (by decide), mn_ge _ _⟩
theorem vd_93_15 (E : ac_E) : ac_V E ac_MDf ac_HDf 93 15 (.inl (o_ald 0 16)) := ⟨ok_aload_n dd_93_15, mn_ald _ _⟩
theorem vd_93_16 (E : ac_E) : ac_V E ac_MDf ac_HDf 93 16 (.inl (o_get 5 8 19)) := ⟨ok_getf (ci := 5) (f := 8) (C := RX5) (T := TX5) (N := 17) (ref := RX5) rfl win_5 (by decide) rfl wm_646 dd_93_16, mn_get _ _ _⟩
theorem vd_93_19 (E : ac_E) : ac_V E ac_MDf ac_HDf 93 19 (.inl (o_ild 2 20)) := ⟨ok_iload_n dd_93_19, mn_ild _ _⟩
theorem vd_93_20 (E : ac_E) : ac_V E ac_MDf ac_HDf 93 20 (.inl (o_con (.int 0) 21)) := ⟨ok_iconst dd_93_20 (by decide), mn_con _ _⟩
theorem vd_93_21 (E : ac_E) : ac_V E ac_MDf ac_HDf 93 21 (.inl (o_is 22)) := ⟨ok_iastore dd_93_21, mn_is _⟩
theorem vd_93_22 (E : ac_E) : ac_V E ac_MDf ac_HDf 93 22 (.inl (o_inc 2 1 25)) := ⟨ok_iinc dd_93_22 (by decide), mn_inc _ _ _⟩
theorem vd_93_25 (E : ac_E) : ac_V E ac_MDf ac_HDf 93 25 (.inl (o_go 2)) := ⟨ok_goto dd_93_25 (by decide), mn_go _⟩
theorem vd_93_28 (E : ac_E) : ac_V E ac_MDf ac_HDf 93 28 (.inl (o_con (.int 0) 29)) := ⟨ok_iconst dd_93_28 (by decide), mn_con _ _⟩
theorem vd_93_29 (E : ac_E) : ac_V E ac_MDf ac_HDf 93 29 (.inl (o_ist 2 30)) := ⟨ok_istore_n dd_93_29, mn_ist _ _⟩
theorem vd_93_30 (E : ac_E) : ac_V E ac_MDf ac_HDf 93 30 (.inl (o_ild 2 31)) := ⟨ok_iload_n dd_93_30, mn_ild _ _⟩
theorem vd_93_31 (E : ac_E) : ac_V E ac_MDf ac_HDf 93 31 (.inl (o_ald 0 32)) := ⟨ok_aload_n dd_93_31, mn_ald _ _⟩
theorem vd_93_32 (E : ac_E) : ac_V E ac_MDf ac_HDf 93 32 (.inl (o_get 5 1 35)) := ⟨ok_getf (ci := 5) (f := 1) (C := RX5) (T := TX5) (N := 17) (ref := RX5) rfl win_5 (by decide) rfl wm_639 dd_93_32, mn_get _ _ _⟩
theorem vd_93_35 (E : ac_E) : ac_V E ac_MDf ac_HDf 93 35 (.inl (o_ald 0 36)) := ⟨ok_aload_n dd_93_35, mn_ald _ _⟩
theorem vd_93_36 (E : ac_E) : ac_V E ac_MDf ac_HDf 93 36 (.inl (o_get 5 2 39)) := ⟨ok_getf (ci := 5) (f := 2) (C := RX5) (T := TX5) (N := 17) (ref := RX5) rfl win_5 (by decide) rfl wm_640 dd_93_36, mn_get _ _ _⟩
theorem vd_93_39 (E : ac_E) : ac_V E ac_MDf ac_HDf 93 39 (.inl (o_mul 40)) := ⟨ok_imul dd_93_39, mn_mul _⟩
theorem vd_93_40 (E : ac_E) : ac_V E ac_MDf ac_HDf 93 40 (.inl (o_ge 140 43)) := ⟨ok_icmpge dd_93_40 (by decide), mn_ge _ _⟩
theorem vd_93_43 (E : ac_E) : ac_V E ac_MDf ac_HDf 93 43 (.inl (o_con (.int 0) 44)) := ⟨ok_iconst dd_93_43 (by decide), mn_con _ _⟩
theorem vd_93_44 (E : ac_E) : ac_V E ac_MDf ac_HDf 93 44 (.inl (o_ist 3 45)) := ⟨ok_istore_n dd_93_44, mn_ist _ _⟩
theorem vd_93_45 (E : ac_E) : ac_V E ac_MDf ac_HDf 93 45 (.inl (o_ild 3 46)) := ⟨ok_iload_n dd_93_45, mn_ild _ _⟩
theorem vd_93_46 (E : ac_E) : ac_V E ac_MDf ac_HDf 93 46 (.inl (o_con (.int 7) 48)) := ⟨ok_bipush dd_93_46 (by decide), mn_con _ _⟩
theorem vd_93_48 (E : ac_E) : ac_V E ac_MDf ac_HDf 93 48 (.inl (o_ge 134 51)) := ⟨ok_icmpge dd_93_48 (by decide), mn_ge _ _⟩
theorem vd_93_51 (E : ac_E) : ac_V E ac_MDf ac_HDf 93 51 (.inl (o_ald 0 52)) := ⟨ok_aload_n dd_93_51, mn_ald _ _⟩
theorem vd_93_52 (E : ac_E) : ac_V E ac_MDf ac_HDf 93 52 (.inl (o_ild 2 53)) := ⟨ok_iload_n dd_93_52, mn_ild _ _⟩
theorem vd_93_53 (E : ac_E) : ac_V E ac_MDf ac_HDf 93 53 (.inl (o_ild 3 54)) := ⟨ok_iload_n dd_93_53, mn_ild _ _⟩
theorem vd_93_54 (E : ac_E) : ac_V E ac_MDf ac_HDf 93 54 (.inr (.inl (89,3,57,7))) := ac_Vc0 ((ok_callV (T := TX5) (N := 17) rfl rfl (by decide) (by decide +kernel) wm_792 wm_56 wm_789 wm_791 wm_38 dd_93_54).1) (fun _ => rfl)
theorem vd_93_57 (E : ac_E) : ac_V E ac_MDf ac_HDf 93 57 (.inl (o_ist 4 59)) := ⟨ok_istore dd_93_57, mn_ist _ _⟩
theorem vd_93_59 (E : ac_E) : ac_V E ac_MDf ac_HDf 93 59 (.inl (o_ild 1 60)) := ⟨ok_iload_n dd_93_59, mn_ild _ _⟩
theorem vd_93_60 (E : ac_E) : ac_V E ac_MDf ac_HDf 93 60 (.inl (o_eq0 93 63)) := ⟨ok_ifeq dd_93_60 (by decide), mn_eq0 _ _⟩
theorem vd_93_63 (E : ac_E) : ac_V E ac_MDf ac_HDf 93 63 (.inl (o_ald 0 64)) := ⟨ok_aload_n dd_93_63, mn_ald _ _⟩
theorem vd_93_64 (E : ac_E) : ac_V E ac_MDf ac_HDf 93 64 (.inl (o_get 5 5 67)) := ⟨ok_getf (ci := 5) (f := 5) (C := RX5) (T := TX5) (N := 17) (ref := RX5) rfl win_5 (by decide) rfl wm_643 dd_93_64, mn_get _ _ _⟩
theorem vd_93_67 (E : ac_E) : ac_V E ac_MDf ac_HDf 93 67 (.inl (o_ild 4 69)) := ⟨ok_iload dd_93_67, mn_ild _ _⟩
theorem vd_93_69 (E : ac_E) : ac_V E ac_MDf ac_HDf 93 69 (.inl (o_ia 70)) := ⟨ok_iaload dd_93_69, mn_ia _⟩
theorem vd_93_70 (E : ac_E) : ac_V E ac_MDf ac_HDf 93 70 (.inl (o_ild 3 71)) := ⟨ok_iload_n dd_93_70, mn_ild _ _⟩
theorem vd_93_71 (E : ac_E) : ac_V E ac_MDf ac_HDf 93 71 (.inr (.inl (70,2,74,0))) := ac_Vc0 ((ok_callS rfl (by decide) (by decide +kernel) wm_707 wm_56 wm_705 wm_706 dd_93_71).1) (fun _ => rfl)
theorem vd_93_74 (E : ac_E) : ac_V E ac_MDf ac_HDf 93 74 (.inl (o_eq0 93 77)) := ⟨ok_ifeq dd_93_74 (by decide), mn_eq0 _ _⟩
theorem vd_93_77 (E : ac_E) : ac_V E ac_MDf ac_HDf 93 77 (.inl (o_ald 0 78)) := ⟨ok_aload_n dd_93_77, mn_ald _ _⟩
theorem vd_93_78 (E : ac_E) : ac_V E ac_MDf ac_HDf 93 78 (.inl (o_get 5 8 81)) := ⟨ok_getf (ci := 5) (f := 8) (C := RX5) (T := TX5) (N := 17) (ref := RX5) rfl win_5 (by decide) rfl wm_646 dd_93_78, mn_get _ _ _⟩
theorem vd_93_81 (E : ac_E) : ac_V E ac_MDf ac_HDf 93 81 (.inl (o_ild 2 82)) := ⟨ok_iload_n dd_93_81, mn_ild _ _⟩
theorem vd_93_82 (E : ac_E) : ac_V E ac_MDf ac_HDf 93 82 (.inl (o_ald 0 83)) := ⟨ok_aload_n dd_93_82, mn_ald _ _⟩
theorem vd_93_83 (E : ac_E) : ac_V E ac_MDf ac_HDf 93 83 (.inl (o_get 5 8 86)) := ⟨ok_getf (ci := 5) (f := 8) (C := RX5) (T := TX5) (N := 17) (ref := RX5) rfl win_5 (by decide) rfl wm_646 dd_93_83, mn_get _ _ _⟩
theorem vd_93_86 (E : ac_E) : ac_V E ac_MDf ac_HDf 93 86 (.inl (o_ild 2 87)) := ⟨ok_iload_n dd_93_86, mn_ild _ _⟩
theorem vd_93_87 (E : ac_E) : ac_V E ac_MDf ac_HDf 93 87 (.inl (o_ia 88)) := ⟨ok_iaload dd_93_87, mn_ia _⟩
theorem vd_93_88 (E : ac_E) : ac_V E ac_MDf ac_HDf 93 88 (.inl (o_con (.int 1) 89)) := ⟨ok_iconst dd_93_88 (by decide), mn_con _ _⟩
theorem vd_93_89 (E : ac_E) : ac_V E ac_MDf ac_HDf 93 89 (.inl (o_ild 3 90)) := ⟨ok_iload_n dd_93_89, mn_ild _ _⟩
theorem vd_93_90 (E : ac_E) : ac_V E ac_MDf ac_HDf 93 90 (.inl (o_shl 91)) := ⟨ok_ishl dd_93_90, mn_shl _⟩
theorem vd_93_91 (E : ac_E) : ac_V E ac_MDf ac_HDf 93 91 (.inl (o_or 92)) := ⟨ok_ior dd_93_91, mn_or _⟩
theorem vd_93_92 (E : ac_E) : ac_V E ac_MDf ac_HDf 93 92 (.inl (o_is 93)) := ⟨ok_iastore dd_93_92, mn_is _⟩
theorem vd_93_93 (E : ac_E) : ac_V E ac_MDf ac_HDf 93 93 (.inl (o_ild 1 94)) := ⟨ok_iload_n dd_93_93, mn_ild _ _⟩
theorem vd_93_94 (E : ac_E) : ac_V E ac_MDf ac_HDf 93 94 (.inl (o_ne0 128 97)) := ⟨ok_ifne dd_93_94 (by decide), mn_ne0 _ _⟩
theorem vd_93_97 (E : ac_E) : ac_V E ac_MDf ac_HDf 93 97 (.inl (o_ald 0 98)) := ⟨ok_aload_n dd_93_97, mn_ald _ _⟩
theorem vd_93_98 (E : ac_E) : ac_V E ac_MDf ac_HDf 93 98 (.inl (o_get 5 5 101)) := ⟨ok_getf (ci := 5) (f := 5) (C := RX5) (T := TX5) (N := 17) (ref := RX5) rfl win_5 (by decide) rfl wm_643 dd_93_98, mn_get _ _ _⟩
theorem vd_93_101 (E : ac_E) : ac_V E ac_MDf ac_HDf 93 101 (.inl (o_ild 2 102)) := ⟨ok_iload_n dd_93_101, mn_ild _ _⟩
theorem vd_93_102 (E : ac_E) : ac_V E ac_MDf ac_HDf 93 102 (.inl (o_ia 103)) := ⟨ok_iaload dd_93_102, mn_ia _⟩
theorem vd_93_103 (E : ac_E) : ac_V E ac_MDf ac_HDf 93 103 (.inl (o_ild 3 104)) := ⟨ok_iload_n dd_93_103, mn_ild _ _⟩
theorem vd_93_104 (E : ac_E) : ac_V E ac_MDf ac_HDf 93 104 (.inr (.inl (70,2,107,0))) := ac_Vc0 ((ok_callS rfl (by decide) (by decide +kernel) wm_707 wm_56 wm_705 wm_706 dd_93_104).1) (fun _ => rfl)
theorem vd_93_107 (E : ac_E) : ac_V E ac_MDf ac_HDf 93 107 (.inl (o_eq0 128 110)) := ⟨ok_ifeq dd_93_107 (by decide), mn_eq0 _ _⟩
theorem vd_93_110 (E : ac_E) : ac_V E ac_MDf ac_HDf 93 110 (.inl (o_ald 0 111)) := ⟨ok_aload_n dd_93_110, mn_ald _ _⟩
theorem vd_93_111 (E : ac_E) : ac_V E ac_MDf ac_HDf 93 111 (.inl (o_get 5 8 114)) := ⟨ok_getf (ci := 5) (f := 8) (C := RX5) (T := TX5) (N := 17) (ref := RX5) rfl win_5 (by decide) rfl wm_646 dd_93_111, mn_get _ _ _⟩
theorem vd_93_114 (E : ac_E) : ac_V E ac_MDf ac_HDf 93 114 (.inl (o_ild 4 116)) := ⟨ok_iload dd_93_114, mn_ild _ _⟩
theorem vd_93_116 (E : ac_E) : ac_V E ac_MDf ac_HDf 93 116 (.inl (o_ald 0 117)) := ⟨ok_aload_n dd_93_116, mn_ald _ _⟩
theorem vd_93_117 (E : ac_E) : ac_V E ac_MDf ac_HDf 93 117 (.inl (o_get 5 8 120)) := ⟨ok_getf (ci := 5) (f := 8) (C := RX5) (T := TX5) (N := 17) (ref := RX5) rfl win_5 (by decide) rfl wm_646 dd_93_117, mn_get _ _ _⟩
theorem vd_93_120 (E : ac_E) : ac_V E ac_MDf ac_HDf 93 120 (.inl (o_ild 4 122)) := ⟨ok_iload dd_93_120, mn_ild _ _⟩
theorem vd_93_122 (E : ac_E) : ac_V E ac_MDf ac_HDf 93 122 (.inl (o_ia 123)) := ⟨ok_iaload dd_93_122, mn_ia _⟩
theorem vd_93_123 (E : ac_E) : ac_V E ac_MDf ac_HDf 93 123 (.inl (o_con (.int 1) 124)) := ⟨ok_iconst dd_93_123 (by decide), mn_con _ _⟩
theorem vd_93_124 (E : ac_E) : ac_V E ac_MDf ac_HDf 93 124 (.inl (o_ild 3 125)) := ⟨ok_iload_n dd_93_124, mn_ild _ _⟩
theorem vd_93_125 (E : ac_E) : ac_V E ac_MDf ac_HDf 93 125 (.inl (o_shl 126)) := ⟨ok_ishl dd_93_125, mn_shl _⟩
theorem vd_93_126 (E : ac_E) : ac_V E ac_MDf ac_HDf 93 126 (.inl (o_or 127)) := ⟨ok_ior dd_93_126, mn_or _⟩
theorem vd_93_127 (E : ac_E) : ac_V E ac_MDf ac_HDf 93 127 (.inl (o_is 128)) := ⟨ok_iastore dd_93_127, mn_is _⟩
theorem vd_93_128 (E : ac_E) : ac_V E ac_MDf ac_HDf 93 128 (.inl (o_inc 3 1 131)) := ⟨ok_iinc dd_93_128 (by decide), mn_inc _ _ _⟩
theorem vd_93_131 (E : ac_E) : ac_V E ac_MDf ac_HDf 93 131 (.inl (o_go 45)) := ⟨ok_goto dd_93_131 (by decide), mn_go _⟩
theorem vd_93_134 (E : ac_E) : ac_V E ac_MDf ac_HDf 93 134 (.inl (o_inc 2 1 137)) := ⟨ok_iinc dd_93_134 (by decide), mn_inc _ _ _⟩
theorem vd_93_137 (E : ac_E) : ac_V E ac_MDf ac_HDf 93 137 (.inl (o_go 30)) := ⟨ok_goto dd_93_137 (by decide), mn_go _⟩
theorem vd_93_140 (E : ac_E) : ac_V E ac_MDf ac_HDf 93 140 (.inl (o_con (.int 0) 141)) := ⟨ok_iconst dd_93_140 (by decide), mn_con _ _⟩
theorem vd_93_141 (E : ac_E) : ac_V E ac_MDf ac_HDf 93 141 (.inl (o_ist 2 142)) := ⟨ok_istore_n dd_93_141, mn_ist _ _⟩
theorem vd_93_142 (E : ac_E) : ac_V E ac_MDf ac_HDf 93 142 (.inl (o_ild 2 143)) := ⟨ok_iload_n dd_93_142, mn_ild _ _⟩
theorem vd_93_143 (E : ac_E) : ac_V E ac_MDf ac_HDf 93 143 (.inl (o_ald 0 144)) := ⟨ok_aload_n dd_93_143, mn_ald _ _⟩
theorem vd_93_144 (E : ac_E) : ac_V E ac_MDf ac_HDf 93 144 (.inl (o_get 5 1 147)) := ⟨ok_getf (ci := 5) (f := 1) (C := RX5) (T := TX5) (N := 17) (ref := RX5) rfl win_5 (by decide) rfl wm_639 dd_93_144, mn_get _ _ _⟩
theorem vd_93_147 (E : ac_E) : ac_V E ac_MDf ac_HDf 93 147 (.inl (o_ald 0 148)) := ⟨ok_aload_n dd_93_147, mn_ald _ _⟩
theorem vd_93_148 (E : ac_E) : ac_V E ac_MDf ac_HDf 93 148 (.inl (o_get 5 2 151)) := ⟨ok_getf (ci := 5) (f := 2) (C := RX5) (T := TX5) (N := 17) (ref := RX5) rfl win_5 (by decide) rfl wm_640 dd_93_148, mn_get _ _ _⟩
theorem vd_93_151 (E : ac_E) : ac_V E ac_MDf ac_HDf 93 151 (.inl (o_mul 152)) := ⟨ok_imul dd_93_151, mn_mul _⟩
theorem vd_93_152 (E : ac_E) : ac_V E ac_MDf ac_HDf 93 152 (.inl (o_ge 173 155)) := ⟨ok_icmpge dd_93_152 (by decide), mn_ge _ _⟩
theorem vd_93_155 (E : ac_E) : ac_V E ac_MDf ac_HDf 93 155 (.inl (o_ald 0 156)) := ⟨ok_aload_n dd_93_155, mn_ald _ _⟩
theorem vd_93_156 (E : ac_E) : ac_V E ac_MDf ac_HDf 93 156 (.inl (o_get 5 5 159)) := ⟨ok_getf (ci := 5) (f := 5) (C := RX5) (T := TX5) (N := 17) (ref := RX5) rfl win_5 (by decide) rfl wm_643 dd_93_156, mn_get _ _ _⟩
theorem vd_93_159 (E : ac_E) : ac_V E ac_MDf ac_HDf 93 159 (.inl (o_ild 2 160)) := ⟨ok_iload_n dd_93_159, mn_ild _ _⟩
theorem vd_93_160 (E : ac_E) : ac_V E ac_MDf ac_HDf 93 160 (.inl (o_ald 0 161)) := ⟨ok_aload_n dd_93_160, mn_ald _ _⟩
theorem vd_93_161 (E : ac_E) : ac_V E ac_MDf ac_HDf 93 161 (.inl (o_get 5 8 164)) := ⟨ok_getf (ci := 5) (f := 8) (C := RX5) (T := TX5) (N := 17) (ref := RX5) rfl win_5 (by decide) rfl wm_646 dd_93_161, mn_get _ _ _⟩
theorem vd_93_164 (E : ac_E) : ac_V E ac_MDf ac_HDf 93 164 (.inl (o_ild 2 165)) := ⟨ok_iload_n dd_93_164, mn_ild _ _⟩
theorem vd_93_165 (E : ac_E) : ac_V E ac_MDf ac_HDf 93 165 (.inl (o_ia 166)) := ⟨ok_iaload dd_93_165, mn_ia _⟩
