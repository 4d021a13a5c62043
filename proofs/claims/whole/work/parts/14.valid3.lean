theorem vd_94_117 (E : ac_E) : ac_ok E md_94 117 (o_mul 118) := ok_imul (E := E) (d := md_94) (pc := 117) dd_94_117
theorem vd_94_118 (E : ac_E) : ac_ok E md_94 118 (o_sub 119) := ok_isub (E := E) (d := md_94) (pc := 118) dd_94_118
theorem vd_94_119 (E : ac_E) : ac_ok E md_94 119 (o_is 120) := ok_iastore (E := E) (d := md_94) (pc := 119) dd_94_119
theorem va_94 (E : ac_E) (pc : Nat) : ac_V E ac_MDf ac_HDf 94 pc (tb_94 (ac_len E) (ac_xs E) pc) := (ac_node (ac_node (ac_node (ac_node (ac_node (ac_node (ac_leaf 0 (⟨vd_94_0 E, mn_con _ _⟩)) (ac_leaf 1 (⟨vd_94_1 E, mn_ild _ _⟩))) (ac_node (ac_leaf 2 (⟨vd_94_2 E, mn_con _ _⟩)) (ac_node (ac_leaf 3 (⟨vd_94_3 E, mn_sub _⟩)) (ac_leaf 4 (⟨vd_94_4 E, mn_mul _⟩))))) (ac_node (ac_node (ac_leaf 5 (⟨vd_94_5 E, mn_ist _ _⟩)) (ac_leaf 7 (⟨vd_94_7 E, mn_ald _ _⟩))) (ac_node (ac_leaf 8 (⟨vd_94_8 E, mn_get _ _ _⟩)) (ac_node (ac_leaf 11 (⟨vd_94_11 E, mn_ild _ _⟩)) (ac_leaf 13 (⟨vd_94_13 E, mn_ald _ _⟩)))))) (ac_node (ac_node (ac_node (ac_leaf 14 (⟨vd_94_14 E, mn_get _ _ _⟩)) (ac_leaf 17 (⟨vd_94_17 E, mn_ild _ _⟩))) (ac_node (ac_leaf 19 (⟨vd_94_19 E, mn_ia _⟩)) (ac_node (ac_leaf 20 (⟨vd_94_20 E, mn_ild _ _⟩)) (ac_leaf 21 (⟨vd_94_21 E, mn_add _⟩))))) (ac_node (ac_node (ac_leaf 22 (⟨vd_94_22 E, mn_is _⟩)) (ac_node (ac_leaf 23 (⟨vd_94_23 E, mn_ald _ _⟩)) (ac_leaf 24 (⟨vd_94_24 E, mn_get _ _ _⟩)))) (ac_node (ac_leaf 27 (⟨vd_94_27 E, mn_ild _ _⟩)) (ac_node (ac_leaf 29 (⟨vd_94_29 E, mn_con _ _⟩)) (ac_leaf 30 (⟨vd_94_30 E, mn_add _⟩))))))) (ac_node (ac_node (ac_node (ac_node (ac_leaf 31 (⟨vd_94_31 E, mn_ald _ _⟩)) (ac_leaf 32 (⟨vd_94_32 E, mn_get _ _ _⟩))) (ac_node (ac_leaf 35 (⟨vd_94_35 E, mn_ild _ _⟩)) (ac_node (ac_leaf 37 (⟨vd_94_37 E, mn_con _ _⟩)) (ac_leaf 38 (⟨vd_94_38 E, mn_add _⟩))))) (ac_node (ac_node (ac_leaf 39 (⟨vd_94_39 E, mn_ia _⟩)) (ac_leaf 40 (⟨vd_94_40 E, mn_ild _ _⟩))) (ac_node (ac_leaf 41 (⟨vd_94_41 E, mn_ild _ _⟩)) (ac_node (ac_leaf 42 (⟨vd_94_42 E, mn_con _ _⟩)) (ac_leaf 43 (ac_Vc0 ((vd_94_43 E).1) (fun _ => rfl))))))) (ac_node (ac_node (ac_node (ac_leaf 46 (⟨vd_94_46 E, mn_mul _⟩)) (ac_leaf 47 (⟨vd_94_47 E, mn_add _⟩))) (ac_node (ac_leaf 48 (⟨vd_94_48 E, mn_is _⟩)) (ac_node (ac_leaf 49 (⟨vd_94_49 E, mn_ald _ _⟩)) (ac_leaf 50 (⟨vd_94_50 E, mn_get _ _ _⟩))))) (ac_node (ac_node (ac_leaf 53 (⟨vd_94_53 E, mn_ild _ _⟩)) (ac_node (ac_leaf 55 (⟨vd_94_55 E, mn_con _ _⟩)) (ac_leaf 56 (⟨vd_94_56 E, mn_add _⟩)))) (ac_node (ac_leaf 57 (⟨vd_94_57 E, mn_ald _ _⟩)) (ac_node (ac_leaf 58 (⟨vd_94_58 E, mn_get _ _ _⟩)) (ac_leaf 61 (⟨vd_94_61 E, mn_ild _ _⟩)))))))) (ac_node (ac_node (ac_node (ac_node (ac_node (ac_leaf 63 (⟨vd_94_63 E, mn_con _ _⟩)) (ac_leaf 64 (⟨vd_94_64 E, mn_add _⟩))) (ac_node (ac_leaf 65 (⟨vd_94_65 E, mn_ia _⟩)) (ac_node (ac_leaf 66 (⟨vd_94_66 E, mn_ild _ _⟩)) (ac_leaf 67 (⟨vd_94_67 E, mn_ild _ _⟩))))) (ac_node (ac_node (ac_leaf 68 (⟨vd_94_68 E, mn_con _ _⟩)) (ac_leaf 69 (ac_Vc0 ((vd_94_69 E).1) (fun _ => rfl)))) (ac_node (ac_leaf 72 (⟨vd_94_72 E, mn_mul _⟩)) (ac_node (ac_leaf 73 (⟨vd_94_73 E, mn_add _⟩)) (ac_leaf 74 (⟨vd_94_74 E, mn_is _⟩)))))) (ac_node (ac_node (ac_node (ac_leaf 75 (⟨vd_94_75 E, mn_ild _ _⟩)) (ac_leaf 76 (⟨vd_94_76 E, mn_con _ _⟩))) (ac_node (ac_leaf 77 (⟨vd_94_77 E, mn_ne _ _⟩)) (ac_node (ac_leaf 80 (⟨vd_94_80 E, mn_ald _ _⟩)) (ac_leaf 81 (⟨vd_94_81 E, mn_get _ _ _⟩))))) (ac_node (ac_node (ac_leaf 84 (⟨vd_94_84 E, mn_con _ _⟩)) (ac_node (ac_leaf 85 (⟨vd_94_85 E, mn_ald _ _⟩)) (ac_leaf 86 (⟨vd_94_86 E, mn_get _ _ _⟩)))) (ac_node (ac_leaf 89 (⟨vd_94_89 E, mn_con _ _⟩)) (ac_node (ac_leaf 90 (⟨vd_94_90 E, mn_ia _⟩)) (ac_leaf 91 (⟨vd_94_91 E, mn_ild _ _⟩))))))) (ac_node (ac_node (ac_node (ac_node (ac_leaf 92 (⟨vd_94_92 E, mn_ild _ _⟩)) (ac_leaf 93 (⟨vd_94_93 E, mn_con _ _⟩))) (ac_node (ac_leaf 94 (ac_Vc0 ((vd_94_94 E).1) (fun _ => rfl))) (ac_node (ac_leaf 97 (⟨vd_94_97 E, mn_mul _⟩)) (ac_leaf 98 (⟨vd_94_98 E, mn_sub _⟩))))) (ac_node (ac_node (ac_leaf 99 (⟨vd_94_99 E, mn_is _⟩)) (ac_leaf 100 (⟨vd_94_100 E, mn_ald _ _⟩))) (ac_node (ac_leaf 101 (⟨vd_94_101 E, mn_get _ _ _⟩)) (ac_node (ac_leaf 104 (⟨vd_94_104 E, mn_con _ _⟩)) (ac_leaf 105 (⟨vd_94_105 E, mn_ald _ _⟩)))))) (ac_node (ac_node (ac_node (ac_leaf 106 (⟨vd_94_106 E, mn_get _ _ _⟩)) (ac_leaf 109 (⟨vd_94_109 E, mn_con _ _⟩))) (ac_node (ac_leaf 110 (⟨vd_94_110 E, mn_ia _⟩)) (ac_node (ac_leaf 111 (⟨vd_94_111 E, mn_ild _ _⟩)) (ac_leaf 112 (⟨vd_94_112 E, mn_ild _ _⟩))))) (ac_node (ac_node (ac_leaf 113 (⟨vd_94_113 E, mn_con _ _⟩)) (ac_node (ac_leaf 114 (ac_Vc0 ((vd_94_114 E).1) (fun _ => rfl))) (ac_leaf 117 (⟨vd_94_117 E, mn_mul _⟩)))) (ac_node (ac_leaf 118 (⟨vd_94_118 E, mn_sub _⟩)) (ac_node (ac_leaf 119 (⟨vd_94_119 E, mn_is _⟩)) (ac_leaf 120 (ac_Vr0 dd_94_120 rfl)))))))))
theorem vd_95_0 (E : ac_E) : ac_ok E md_95 0 (o_ald 0 1) := ok_aload_n (E := E) (d := md_95) (pc := 0) (j := 0) dd_95_0
theorem vd_95_1 (E : ac_E) : ac_ok E md_95 1 (o_get 5 5 4) := ok_getf (E := E) (d := md_95) (pc := 1) (ci := 5) (f := 5) (C := RX5) (T := TX5) (N := 17) (ref := RX5) rfl win_5 (by decide) rfl wm_643 dd_95_1
theorem vd_95_4 (E : ac_E) : ac_ok E md_95 4 (o_ild 1 5) := ok_iload_n (E := E) (d := md_95) (pc := 4) (j := 1) dd_95_4
theorem vd_95_5 (E : ac_E) : ac_ok E md_95 5 (o_ia 6) := ok_iaload (E := E) (d := md_95) (pc := 5) dd_95_5
theorem vd_95_6 (E : ac_E) : ac_ok E md_95 6 (o_ist 2 7) := ok_istore_n (E := E) (d := md_95) (pc := 6) (j := 2) dd_95_6
theorem vd_95_7 (E : ac_E) : ac_ok E md_95 7 (o_ald 0 8) := ok_aload_n (E := E) (d := md_95) (pc := 7) (j := 0) dd_95_7
theorem vd_95_8 (E : ac_E) : ac_ok E md_95 8 (o_get 5 5 11) := ok_getf (E := E) (d := md_95) (pc := 8) (ci := 5) (f := 5) (C := RX5) (T := TX5) (N := 17) (ref := RX5) rfl win_5 (by decide) rfl wm_643 dd_95_8
theorem vd_95_11 (E : ac_E) : ac_ok E md_95 11 (o_ild 1 12) := ok_iload_n (E := E) (d := md_95) (pc := 11) (j := 1) dd_95_11
theorem vd_95_12 (E : ac_E) : ac_ok E md_95 12 (o_ild 2 13) := ok_iload_n (E := E) (d := md_95) (pc := 12) (j := 2) dd_95_12
theorem vd_95_13 (E : ac_E) : ac_ok E md_95 13 (o_con (.int 3) 14) := ok_iconst (E := E) (d := md_95) (pc := 13) dd_95_13 (by decide)
theorem vd_95_14 (E : ac_E) : ac_okr E md_95 md_72 14 2 17 0 ∧ ac_okt E md_95 md_72 14 2 0 := ok_callS (E := E) (d := md_95) (dz := md_72) (pc := 14) rfl (by decide) (by decide +kernel) wm_704 wm_56 wm_702 wm_703 dd_95_14
theorem vd_95_17 (E : ac_E) : ac_ok E md_95 17 (o_is 18) := ok_iastore (E := E) (d := md_95) (pc := 17) dd_95_17
theorem vd_95_18 (E : ac_E) : ac_ok E md_95 18 (o_con (.int 0) 19) := ok_iconst (E := E) (d := md_95) (pc := 18) dd_95_18 (by decide)
theorem vd_95_19 (E : ac_E) : ac_ok E md_95 19 (o_ist 3 20) := ok_istore_n (E := E) (d := md_95) (pc := 19) (j := 3) dd_95_19
theorem vd_95_20 (E : ac_E) : ac_ok E md_95 20 (o_ild 3 21) := ok_iload_n (E := E) (d := md_95) (pc := 20) (j := 3) dd_95_20
theorem vd_95_21 (E : ac_E) : ac_ok E md_95 21 (o_con (.int 6) 23) := ok_bipush (E := E) (d := md_95) (pc := 21) dd_95_21 (by decide)
theorem vd_95_23 (E : ac_E) : ac_ok E md_95 23 (o_ge 69 26) := ok_icmpge (E := E) (d := md_95) (pc := 23) dd_95_23 (by decide)
theorem vd_95_26 (E : ac_E) : ac_ok E md_95 26 (o_ild 2 27) := ok_iload_n (E := E) (d := md_95) (pc := 26) (j := 2) dd_95_26
theorem vd_95_27 (E : ac_E) : ac_ok E md_95 27 (o_ild 3 28) := ok_iload_n (E := E) (d := md_95) (pc := 27) (j := 3) dd_95_27
theorem vd_95_28 (E : ac_E) : ac_okr E md_95 md_70 28 2 31 0 ∧ ac_okt E md_95 md_70 28 2 0 := ok_callS (E := E) (d := md_95) (dz := md_70) (pc := 28) rfl (by decide) (by decide +kernel) wm_707 wm_56 wm_705 wm_706 dd_95_28
theorem vd_95_31 (E : ac_E) : ac_ok E md_95 31 (o_eq0 63 34) := ok_ifeq (E := E) (d := md_95) (pc := 31) dd_95_31 (by decide)
theorem vd_95_34 (E : ac_E) : ac_ok E md_95 34 (o_ald 0 35) := ok_aload_n (E := E) (d := md_95) (pc := 34) (j := 0) dd_95_34
theorem vd_95_35 (E : ac_E) : ac_ok E md_95 35 (o_ald 0 36) := ok_aload_n (E := E) (d := md_95) (pc := 35) (j := 0) dd_95_35
theorem vd_95_36 (E : ac_E) : ac_ok E md_95 36 (o_get 5 6 39) := ok_getf (E := E) (d := md_95) (pc := 36) (ci := 5) (f := 6) (C := RX5) (T := TX5) (N := 17) (ref := RX5) rfl win_5 (by decide) rfl wm_644 dd_95_36
theorem vd_95_39 (E : ac_E) : ac_ok E md_95 39 (o_ild 1 40) := ok_iload_n (E := E) (d := md_95) (pc := 39) (j := 1) dd_95_39
theorem vd_95_40 (E : ac_E) : ac_ok E md_95 40 (o_ia 41) := ok_iaload (E := E) (d := md_95) (pc := 40) dd_95_40
theorem vd_95_41 (E : ac_E) : ac_ok E md_95 41 (o_ild 3 42) := ok_iload_n (E := E) (d := md_95) (pc := 41) (j := 3) dd_95_41
theorem vd_95_42 (E : ac_E) : ac_ok E md_95 42 (o_con (.int (-1)) 43) := ok_iconst (E := E) (d := md_95) (pc := 42) dd_95_42 (by decide)
theorem vd_95_43 (E : ac_E) : ac_okr E md_95 md_94 43 4 46 7 ∧ ac_okt E md_95 md_94 43 4 7 := ok_callV (E := E) (d := md_95) (dz := md_94) (pc := 43) (T := TX5) (N := 17) rfl rfl (by decide) (by decide +kernel) wm_804 wm_56 wm_801 wm_803 wm_41 dd_95_43
theorem vd_95_46 (E : ac_E) : ac_ok E md_95 46 (o_ald 0 47) := ok_aload_n (E := E) (d := md_95) (pc := 46) (j := 0) dd_95_46
theorem vd_95_47 (E : ac_E) : ac_ok E md_95 47 (o_ald 0 48) := ok_aload_n (E := E) (d := md_95) (pc := 47) (j := 0) dd_95_47
theorem vd_95_48 (E : ac_E) : ac_ok E md_95 48 (o_get 5 6 51) := ok_getf (E := E) (d := md_95) (pc := 48) (ci := 5) (f := 6) (C := RX5) (T := TX5) (N := 17) (ref := RX5) rfl win_5 (by decide) rfl wm_644 dd_95_48
theorem vd_95_51 (E : ac_E) : ac_ok E md_95 51 (o_ild 1 52) := ok_iload_n (E := E) (d := md_95) (pc := 51) (j := 1) dd_95_51
theorem vd_95_52 (E : ac_E) : ac_ok E md_95 52 (o_ia 53) := ok_iaload (E := E) (d := md_95) (pc := 52) dd_95_52
theorem vd_95_53 (E : ac_E) : ac_ok E md_95 53 (o_ild 3 54) := ok_iload_n (E := E) (d := md_95) (pc := 53) (j := 3) dd_95_53
theorem vd_95_54 (E : ac_E) : ac_ok E md_95 54 (o_con (.int 3) 55) := ok_iconst (E := E) (d := md_95) (pc := 54) dd_95_54 (by decide)
theorem vd_95_55 (E : ac_E) : ac_ok E md_95 55 (o_add 56) := ok_iadd (E := E) (d := md_95) (pc := 55) dd_95_55
theorem vd_95_56 (E : ac_E) : ac_ok E md_95 56 (o_con (.int 6) 58) := ok_bipush (E := E) (d := md_95) (pc := 56) dd_95_56 (by decide)
theorem vd_95_58 (E : ac_E) : ac_ok E md_95 58 (o_rem 59) := ok_irem (E := E) (d := md_95) (pc := 58) dd_95_58
theorem vd_95_59 (E : ac_E) : ac_ok E md_95 59 (o_con (.int 1) 60) := ok_iconst (E := E) (d := md_95) (pc := 59) dd_95_59 (by decide)
theorem vd_95_60 (E : ac_E) : ac_okr E md_95 md_94 60 4 63 7 ∧ ac_okt E md_95 md_94 60 4 7 := ok_callV (E := E) (d := md_95) (dz := md_94) (pc := 60) (T := TX5) (N := 17) rfl rfl (by decide) (by decide +kernel) wm_804 wm_56 wm_801 wm_803 wm_41 dd_95_60
theorem vd_95_63 (E : ac_E) : ac_ok E md_95 63 (o_inc 3 1 66) := ok_iinc (E := E) (d := md_95) (pc := 63) dd_95_63 (by decide)
theorem vd_95_66 (E : ac_E) : ac_ok E md_95 66 (o_go 20) := ok_goto (E := E) (d := md_95) (pc := 66) dd_95_66 (by decide)
theorem vd_95_69 (E : ac_E) : ac_ok E md_95 69 (o_con (.int 0) 70) := ok_iconst (E := E) (d := md_95) (pc := 69) dd_95_69 (by decide)
theorem vd_95_70 (E : ac_E) : ac_ok E md_95 70 (o_ist 3 71) := ok_istore_n (E := E) (d := md_95) (pc := 70) (j := 3) dd_95_70
theorem vd_95_71 (E : ac_E) : ac_ok E md_95 71 (o_ild 3 72) := ok_iload_n (E := E) (d := md_95) (pc := 71) (j := 3) dd_95_71
theorem vd_95_72 (E : ac_E) : ac_ok E md_95 72 (o_ald 0 73) := ok_aload_n (E := E) (d := md_95) (pc := 72) (j := 0) dd_95_72
theorem vd_95_73 (E : ac_E) : ac_ok E md_95 73 (o_get 5 14 76) := ok_getf (E := E) (d := md_95) (pc := 73) (ci := 5) (f := 14) (C := RX5) (T := TX5) (N := 17) (ref := RX5) rfl win_5 (by decide) rfl wm_652 dd_95_73
theorem vd_95_76 (E : ac_E) : ac_ok E md_95 76 (o_ge 123 79) := ok_icmpge (E := E) (d := md_95) (pc := 76) dd_95_76 (by decide)
theorem vd_95_79 (E : ac_E) : ac_ok E md_95 79 (o_ald 0 80) := ok_aload_n (E := E) (d := md_95) (pc := 79) (j := 0) dd_95_79
theorem vd_95_80 (E : ac_E) : ac_ok E md_95 80 (o_get 5 15 83) := ok_getf (E := E) (d := md_95) (pc := 80) (ci := 5) (f := 15) (C := RX5) (T := TX5) (N := 17) (ref := RX5) rfl win_5 (by decide) rfl wm_653 dd_95_80
theorem vd_95_83 (E : ac_E) : ac_ok E md_95 83 (o_ild 3 84) := ok_iload_n (E := E) (d := md_95) (pc := 83) (j := 3) dd_95_83
theorem vd_95_84 (E : ac_E) : ac_ok E md_95 84 (o_ia 85) := ok_iaload (E := E) (d := md_95) (pc := 84) dd_95_84
theorem vd_95_85 (E : ac_E) : ac_ok E md_95 85 (o_ild 1 86) := ok_iload_n (E := E) (d := md_95) (pc := 85) (j := 1) dd_95_85
theorem vd_95_86 (E : ac_E) : ac_ok E md_95 86 (o_ne 117 89) := ok_icmpne (E := E) (d := md_95) (pc := 86) dd_95_86 (by decide)
theorem vd_95_89 (E : ac_E) : ac_ok E md_95 89 (o_ald 0 90) := ok_aload_n (E := E) (d := md_95) (pc := 89) (j := 0) dd_95_89
theorem vd_95_90 (E : ac_E) : ac_ok E md_95 90 (o_get 5 16 93) := ok_getf (E := E) (d := md_95) (pc := 90) (ci := 5) (f := 16) (C := RX5) (T := TX5) (N := 17) (ref := RX5) rfl win_5 (by decide) rfl wm_654 dd_95_90
theorem vd_95_93 (E : ac_E) : ac_ok E md_95 93 (o_ild 3 94) := ok_iload_n (E := E) (d := md_95) (pc := 93) (j := 3) dd_95_93
theorem vd_95_94 (E : ac_E) : ac_ok E md_95 94 (o_ia 95) := ok_iaload (E := E) (d := md_95) (pc := 94) dd_95_94
theorem vd_95_95 (E : ac_E) : ac_ok E md_95 95 (o_con (.int 6) 97) := ok_bipush (E := E) (d := md_95) (pc := 95) dd_95_95 (by decide)
theorem vd_95_97 (E : ac_E) : ac_ok E md_95 97 (o_ge 117 100) := ok_icmpge (E := E) (d := md_95) (pc := 97) dd_95_97 (by decide)
theorem vd_95_100 (E : ac_E) : ac_ok E md_95 100 (o_ald 0 101) := ok_aload_n (E := E) (d := md_95) (pc := 100) (j := 0) dd_95_100
theorem vd_95_101 (E : ac_E) : ac_ok E md_95 101 (o_get 5 16 104) := ok_getf (E := E) (d := md_95) (pc := 101) (ci := 5) (f := 16) (C := RX5) (T := TX5) (N := 17) (ref := RX5) rfl win_5 (by decide) rfl wm_654 dd_95_101
theorem vd_95_104 (E : ac_E) : ac_ok E md_95 104 (o_ild 3 105) := ok_iload_n (E := E) (d := md_95) (pc := 104) (j := 3) dd_95_104
theorem vd_95_105 (E : ac_E) : ac_ok E md_95 105 (o_ald 0 106) := ok_aload_n (E := E) (d := md_95) (pc := 105) (j := 0) dd_95_105
theorem vd_95_106 (E : ac_E) : ac_ok E md_95 106 (o_get 5 16 109) := ok_getf (E := E) (d := md_95) (pc := 106) (ci := 5) (f := 16) (C := RX5) (T := TX5) (N := 17) (ref := RX5) rfl win_5 (by decide) rfl wm_654 dd_95_106
theorem vd_95_109 (E : ac_E) : ac_ok E md_95 109 (o_ild 3 110) := ok_iload_n (E := E) (d := md_95) (pc := 109) (j := 3) dd_95_109
theorem vd_95_110 (E : ac_E) : ac_ok E md_95 110 (o_ia 111) := ok_iaload (E := E) (d := md_95) (pc := 110) dd_95_110
theorem vd_95_111 (E : ac_E) : ac_ok E md_95 111 (o_con (.int 3) 112) := ok_iconst (E := E) (d := md_95) (pc := 111) dd_95_111 (by decide)
theorem vd_95_112 (E : ac_E) : ac_ok E md_95 112 (o_add 113) := ok_iadd (E := E) (d := md_95) (pc := 112) dd_95_112
theorem vd_95_113 (E : ac_E) : ac_ok E md_95 113 (o_con (.int 6) 115) := ok_bipush (E := E) (d := md_95) (pc := 113) dd_95_113 (by decide)
theorem vd_95_115 (E : ac_E) : ac_ok E md_95 115 (o_rem 116) := ok_irem (E := E) (d := md_95) (pc := 115) dd_95_115
theorem vd_95_116 (E : ac_E) : ac_ok E md_95 116 (o_is 117) := ok_iastore (E := E) (d := md_95) (pc := 116) dd_95_116
theorem vd_95_117 (E : ac_E) : ac_ok E md_95 117 (o_inc 3 1 120) := ok_iinc (E := E) (d := md_95) (pc := 117) dd_95_117 (by decide)
theorem vd_95_120 (E : ac_E) : ac_ok E md_95 120 (o_go 71) := ok_goto (E := E) (d := md_95) (pc := 120) dd_95_120 (by decide)
theorem va_95 (E : ac_E) (pc : Nat) : ac_V E ac_MDf ac_HDf 95 pc (tb_95 (ac_len E) (ac_xs E) pc) := (ac_node (ac_node (ac_node (ac_node (ac_node (ac_node (ac_leaf 0 (⟨vd_95_0 E, mn_ald _ _⟩)) (ac_leaf 1 (⟨vd_95_1 E, mn_get _ _ _⟩))) (ac_node (ac_leaf 4 (⟨vd_95_4 E, mn_ild _ _⟩)) (ac_leaf 5 (⟨vd_95_5 E, mn_ia _⟩)))) (ac_node (ac_node (ac_leaf 6 (⟨vd_95_6 E, mn_ist _ _⟩)) (ac_leaf 7 (⟨vd_95_7 E, mn_ald _ _⟩))) (ac_node (ac_leaf 8 (⟨vd_95_8 E, mn_get _ _ _⟩)) (ac_node (ac_leaf 11 (⟨vd_95_11 E, mn_ild _ _⟩)) (ac_leaf 12 (⟨vd_95_12 E, mn_ild _ _⟩)))))) (ac_node (ac_node (ac_node (ac_leaf 13 (⟨vd_95_13 E, mn_con _ _⟩)) (ac_leaf 14 (ac_Vc0 ((vd_95_14 E).1) (fun _ => rfl)))) (ac_node (ac_leaf 17 (⟨vd_95_17 E, mn_is _⟩)) (ac_node (ac_leaf 18 (⟨vd_95_18 E, mn_con _ _⟩)) (ac_leaf 19 (⟨vd_95_19 E, mn_ist _ _⟩))))) (ac_node (ac_node (ac_leaf 20 (⟨vd_95_20 E, mn_ild _ _⟩)) (ac_leaf 21 (⟨vd_95_21 E, mn_con _ _⟩))) (ac_node (ac_leaf 23 (⟨vd_95_23 E, mn_ge _ _⟩)) (ac_node (ac_leaf 26 (⟨vd_95_26 E, mn_ild _ _⟩)) (ac_leaf 27 (⟨vd_95_27 E, mn_ild _ _⟩))))))) (ac_node (ac_node (ac_node (ac_node (ac_leaf 28 (ac_Vc0 ((vd_95_28 E).1) (fun _ => rfl))) (ac_leaf 31 (⟨vd_95_31 E, mn_eq0 _ _⟩))) (ac_node (ac_leaf 34 (⟨vd_95_34 E, mn_ald _ _⟩)) (ac_leaf 35 (⟨vd_95_35 E, mn_ald _ _⟩)))) (ac_node (ac_node (ac_leaf 36 (⟨vd_95_36 E, mn_get _ _ _⟩)) (ac_leaf 39 (⟨vd_95_39 E, mn_ild _ _⟩))) (ac_node (ac_leaf 40 (⟨vd_95_40 E, mn_ia _⟩)) (ac_node (ac_leaf 41 (⟨vd_95_41 E, mn_ild _ _⟩)) (ac_leaf 42 (⟨vd_95_42 E, mn_con _ _⟩)))))) (ac_node (ac_node (ac_node (ac_leaf 43 (ac_Vc0 ((vd_95_43 E).1) (fun _ => rfl))) (ac_leaf 46 (⟨vd_95_46 E, mn_ald _ _⟩))) (ac_node (ac_leaf 47 (⟨vd_95_47 E, mn_ald _ _⟩)) (ac_node (ac_leaf 48 (⟨vd_95_48 E, mn_get _ _ _⟩)) (ac_leaf 51 (⟨vd_95_51 E, mn_ild _ _⟩))))) (ac_node (ac_node (ac_leaf 52 (⟨vd_95_52 E, mn_ia _⟩)) (ac_leaf 53 (⟨vd_95_53 E, mn_ild _ _⟩))) (ac_node (ac_leaf 54 (⟨vd_95_54 E, mn_con _ _⟩)) (ac_node (ac_leaf 55 (⟨vd_95_55 E, mn_add _⟩)) (ac_leaf 56 (⟨vd_95_56 E, mn_con _ _⟩)))))))) (ac_node (ac_node (ac_node (ac_node (ac_node (ac_leaf 58 (⟨vd_95_58 E, mn_rem _⟩)) (ac_leaf 59 (⟨vd_95_59 E, mn_con _ _⟩))) (ac_node (ac_leaf 60 (ac_Vc0 ((vd_95_60 E).1) (fun _ => rfl))) (ac_leaf 63 (⟨vd_95_63 E, mn_inc _ _ _⟩)))) (ac_node (ac_node (ac_leaf 66 (⟨vd_95_66 E, mn_go _⟩)) (ac_leaf 69 (⟨vd_95_69 E, mn_con _ _⟩))) (ac_node (ac_leaf 70 (⟨vd_95_70 E, mn_ist _ _⟩)) (ac_node (ac_leaf 71 (⟨vd_95_71 E, mn_ild _ _⟩)) (ac_leaf 72 (⟨vd_95_72 E, mn_ald _ _⟩)))))) (ac_node (ac_node (ac_node (ac_leaf 73 (⟨vd_95_73 E, mn_get _ _ _⟩)) (ac_leaf 76 (⟨vd_95_76 E, mn_ge _ _⟩))) (ac_node (ac_leaf 79 (⟨vd_95_79 E, mn_ald _ _⟩)) (ac_node (ac_leaf 80 (⟨vd_95_80 E, mn_get _ _ _⟩)) (ac_leaf 83 (⟨vd_95_83 E, mn_ild _ _⟩))))) (ac_node (ac_node (ac_leaf 84 (⟨vd_95_84 E, mn_ia _⟩)) (ac_leaf 85 (⟨vd_95_85 E, mn_ild _ _⟩))) (ac_node (ac_leaf 86 (⟨vd_95_86 E, mn_ne _ _⟩)) (ac_node (ac_leaf 89 (⟨vd_95_89 E, mn_ald _ _⟩)) (ac_leaf 90 (⟨vd_95_90 E, mn_get _ _ _⟩))))))) (ac_node (ac_node (ac_node (ac_node (ac_leaf 93 (⟨vd_95_93 E, mn_ild _ _⟩)) (ac_leaf 94 (⟨vd_95_94 E, mn_ia _⟩))) (ac_node (ac_leaf 95 (⟨vd_95_95 E, mn_con _ _⟩)) (ac_leaf 97 (⟨vd_95_97 E, mn_ge _ _⟩)))) (ac_node (ac_node (ac_leaf 100 (⟨vd_95_100 E, mn_ald _ _⟩)) (ac_leaf 101 (⟨vd_95_101 E, mn_get _ _ _⟩))) (ac_node (ac_leaf 104 (⟨vd_95_104 E, mn_ild _ _⟩)) (ac_node (ac_leaf 105 (⟨vd_95_105 E, mn_ald _ _⟩)) (ac_leaf 106 (⟨vd_95_106 E, mn_get _ _ _⟩)))))) (ac_node (ac_node (ac_node (ac_leaf 109 (⟨vd_95_109 E, mn_ild _ _⟩)) (ac_leaf 110 (⟨vd_95_110 E, mn_ia _⟩))) (ac_node (ac_leaf 111 (⟨vd_95_111 E, mn_con _ _⟩)) (ac_node (ac_leaf 112 (⟨vd_95_112 E, mn_add _⟩)) (ac_leaf 113 (⟨vd_95_113 E, mn_con _ _⟩))))) (ac_node (ac_node (ac_leaf 115 (⟨vd_95_115 E, mn_rem _⟩)) (ac_leaf 116 (⟨vd_95_116 E, mn_is _⟩))) (ac_node (ac_leaf 117 (⟨vd_95_117 E, mn_inc _ _ _⟩)) (ac_node (ac_leaf 120 (⟨vd_95_120 E, mn_go _⟩)) (ac_leaf 123 (ac_Vr0 dd_95_123 rfl)))))))))
theorem vd_96_0 (E : ac_E) : ac_ok E md_96 0 (o_con (.int 0) 1) := ok_iconst (E := E) (d := md_96) (pc := 0) dd_96_0 (by decide)
theorem vd_96_1 (E : ac_E) : ac_ok E md_96 1 (o_ist 2 2) := ok_istore_n (E := E) (d := md_96) (pc := 1) (j := 2) dd_96_1
theorem vd_96_2 (E : ac_E) : ac_ok E md_96 2 (o_ild 2 3) := ok_iload_n (E := E) (d := md_96) (pc := 2) (j := 2) dd_96_2
theorem vd_96_3 (E : ac_E) : ac_ok E md_96 3 (o_con (.int 7) 5) := ok_bipush (E := E) (d := md_96) (pc := 3) dd_96_3 (by decide)
theorem vd_96_5 (E : ac_E) : ac_ok E md_96 5 (o_ge 34 8) := ok_icmpge (E := E) (d := md_96) (pc := 5) dd_96_5 (by decide)
theorem vd_96_8 (E : ac_E) : ac_ok E md_96 8 (o_ald 0 9) := ok_aload_n (E := E) (d := md_96) (pc := 8) (j := 0) dd_96_8
theorem vd_96_9 (E : ac_E) : ac_ok E md_96 9 (o_get 5 5 12) := ok_getf (E := E) (d := md_96) (pc := 9) (ci := 5) (f := 5) (C := RX5) (T := TX5) (N := 17) (ref := RX5) rfl win_5 (by decide) rfl wm_643 dd_96_9
theorem vd_96_12 (E : ac_E) : ac_ok E md_96 12 (o_ild 1 13) := ok_iload_n (E := E) (d := md_96) (pc := 12) (j := 1) dd_96_12
theorem vd_96_13 (E : ac_E) : ac_ok E md_96 13 (o_ia 14) := ok_iaload (E := E) (d := md_96) (pc := 13) dd_96_13
theorem vd_96_14 (E : ac_E) : ac_ok E md_96 14 (o_ild 2 15) := ok_iload_n (E := E) (d := md_96) (pc := 14) (j := 2) dd_96_14
theorem vd_96_15 (E : ac_E) : ac_okr E md_96 md_70 15 2 18 0 ∧ ac_okt E md_96 md_70 15 2 0 := ok_callS (E := E) (d := md_96) (dz := md_70) (pc := 15) rfl (by decide) (by decide +kernel) wm_707 wm_56 wm_705 wm_706 dd_96_15
theorem vd_96_18 (E : ac_E) : ac_ok E md_96 18 (o_eq0 28 21) := ok_ifeq (E := E) (d := md_96) (pc := 18) dd_96_18 (by decide)
theorem vd_96_21 (E : ac_E) : ac_ok E md_96 21 (o_ald 0 22) := ok_aload_n (E := E) (d := md_96) (pc := 21) (j := 0) dd_96_21
theorem vd_96_22 (E : ac_E) : ac_ok E md_96 22 (o_con (.int 3) 23) := ok_iconst (E := E) (d := md_96) (pc := 22) dd_96_22 (by decide)
theorem vd_96_23 (E : ac_E) : ac_ok E md_96 23 (o_ild 2 24) := ok_iload_n (E := E) (d := md_96) (pc := 23) (j := 2) dd_96_23
theorem vd_96_24 (E : ac_E) : ac_ok E md_96 24 (o_con (.int (-1)) 25) := ok_iconst (E := E) (d := md_96) (pc := 24) dd_96_24 (by decide)
theorem vd_96_25 (E : ac_E) : ac_okr E md_96 md_94 25 4 28 7 ∧ ac_okt E md_96 md_94 25 4 7 := ok_callV (E := E) (d := md_96) (dz := md_94) (pc := 25) (T := TX5) (N := 17) rfl rfl (by decide) (by decide +kernel) wm_804 wm_56 wm_801 wm_803 wm_41 dd_96_25
theorem vd_96_28 (E : ac_E) : ac_ok E md_96 28 (o_inc 2 1 31) := ok_iinc (E := E) (d := md_96) (pc := 28) dd_96_28 (by decide)
theorem vd_96_31 (E : ac_E) : ac_ok E md_96 31 (o_go 2) := ok_goto (E := E) (d := md_96) (pc := 31) dd_96_31 (by decide)
theorem vd_96_34 (E : ac_E) : ac_ok E md_96 34 (o_ald 0 35) := ok_aload_n (E := E) (d := md_96) (pc := 34) (j := 0) dd_96_34
theorem vd_96_35 (E : ac_E) : ac_ok E md_96 35 (o_get 5 5 38) := ok_getf (E := E) (d := md_96) (pc := 35) (ci := 5) (f := 5) (C := RX5) (T := TX5) (N := 17) (ref := RX5) rfl win_5 (by decide) rfl wm_643 dd_96_35
theorem vd_96_38 (E : ac_E) : ac_ok E md_96 38 (o_ild 1 39) := ok_iload_n (E := E) (d := md_96) (pc := 38) (j := 1) dd_96_38
theorem vd_96_39 (E : ac_E) : ac_ok E md_96 39 (o_con (.int 0) 40) := ok_iconst (E := E) (d := md_96) (pc := 39) dd_96_39 (by decide)
theorem vd_96_40 (E : ac_E) : ac_ok E md_96 40 (o_is 41) := ok_iastore (E := E) (d := md_96) (pc := 40) dd_96_40
theorem vd_96_41 (E : ac_E) : ac_ok E md_96 41 (o_con (.int 0) 42) := ok_iconst (E := E) (d := md_96) (pc := 41) dd_96_41 (by decide)
theorem vd_96_42 (E : ac_E) : ac_ok E md_96 42 (o_ist 2 43) := ok_istore_n (E := E) (d := md_96) (pc := 42) (j := 2) dd_96_42
theorem vd_96_43 (E : ac_E) : ac_ok E md_96 43 (o_ild 2 44) := ok_iload_n (E := E) (d := md_96) (pc := 43) (j := 2) dd_96_43
theorem vd_96_44 (E : ac_E) : ac_ok E md_96 44 (o_ald 0 45) := ok_aload_n (E := E) (d := md_96) (pc := 44) (j := 0) dd_96_44
theorem vd_96_45 (E : ac_E) : ac_ok E md_96 45 (o_get 5 14 48) := ok_getf (E := E) (d := md_96) (pc := 45) (ci := 5) (f := 14) (C := RX5) (T := TX5) (N := 17) (ref := RX5) rfl win_5 (by decide) rfl wm_652 dd_96_45
theorem vd_96_48 (E : ac_E) : ac_ok E md_96 48 (o_ge 83 51) := ok_icmpge (E := E) (d := md_96) (pc := 48) dd_96_48 (by decide)
theorem vd_96_51 (E : ac_E) : ac_ok E md_96 51 (o_ald 0 52) := ok_aload_n (E := E) (d := md_96) (pc := 51) (j := 0) dd_96_51
theorem vd_96_52 (E : ac_E) : ac_ok E md_96 52 (o_get 5 15 55) := ok_getf (E := E) (d := md_96) (pc := 52) (ci := 5) (f := 15) (C := RX5) (T := TX5) (N := 17) (ref := RX5) rfl win_5 (by decide) rfl wm_653 dd_96_52
theorem vd_96_55 (E : ac_E) : ac_ok E md_96 55 (o_ild 2 56) := ok_iload_n (E := E) (d := md_96) (pc := 55) (j := 2) dd_96_55
theorem vd_96_56 (E : ac_E) : ac_ok E md_96 56 (o_ald 0 57) := ok_aload_n (E := E) (d := md_96) (pc := 56) (j := 0) dd_96_56
theorem vd_96_57 (E : ac_E) : ac_ok E md_96 57 (o_get 5 15 60) := ok_getf (E := E) (d := md_96) (pc := 57) (ci := 5) (f := 15) (C := RX5) (T := TX5) (N := 17) (ref := RX5) rfl win_5 (by decide) rfl wm_653 dd_96_57
theorem vd_96_60 (E : ac_E) : ac_ok E md_96 60 (o_ild 2 61) := ok_iload_n (E := E) (d := md_96) (pc := 60) (j := 2) dd_96_60
theorem vd_96_61 (E : ac_E) : ac_ok E md_96 61 (o_ia 62) := ok_iaload (E := E) (d := md_96) (pc := 61) dd_96_61
theorem vd_96_62 (E : ac_E) : ac_ok E md_96 62 (o_ild 1 63) := ok_iload_n (E := E) (d := md_96) (pc := 62) (j := 1) dd_96_62
theorem vd_96_63 (E : ac_E) : ac_ok E md_96 63 (o_ne 70 66) := ok_icmpne (E := E) (d := md_96) (pc := 63) dd_96_63 (by decide)
theorem vd_96_66 (E : ac_E) : ac_ok E md_96 66 (o_con (.int (-1)) 67) := ok_iconst (E := E) (d := md_96) (pc := 66) dd_96_66 (by decide)
theorem vd_96_67 (E : ac_E) : ac_ok E md_96 67 (o_go 76) := ok_goto (E := E) (d := md_96) (pc := 67) dd_96_67 (by decide)
theorem vd_96_70 (E : ac_E) : ac_ok E md_96 70 (o_ald 0 71) := ok_aload_n (E := E) (d := md_96) (pc := 70) (j := 0) dd_96_70
theorem vd_96_71 (E : ac_E) : ac_ok E md_96 71 (o_get 5 15 74) := ok_getf (E := E) (d := md_96) (pc := 71) (ci := 5) (f := 15) (C := RX5) (T := TX5) (N := 17) (ref := RX5) rfl win_5 (by decide) rfl wm_653 dd_96_71
theorem vd_96_74 (E : ac_E) : ac_ok E md_96 74 (o_ild 2 75) := ok_iload_n (E := E) (d := md_96) (pc := 74) (j := 2) dd_96_74
theorem vd_96_75 (E : ac_E) : ac_ok E md_96 75 (o_ia 76) := ok_iaload (E := E) (d := md_96) (pc := 75) dd_96_75
theorem vd_96_76 (E : ac_E) : ac_ok E md_96 76 (o_is 77) := ok_iastore (E := E) (d := md_96) (pc := 76) dd_96_76
theorem vd_96_77 (E : ac_E) : ac_ok E md_96 77 (o_inc 2 1 80) := ok_iinc (E := E) (d := md_96) (pc := 77) dd_96_77 (by decide)
theorem vd_96_80 (E : ac_E) : ac_ok E md_96 80 (o_go 43) := ok_goto (E := E) (d := md_96) (pc := 80) dd_96_80 (by decide)
theorem va_96 (E : ac_E) (pc : Nat) : ac_V E ac_MDf ac_HDf 96 pc (tb_96 (ac_len E) (ac_xs E) pc) := (ac_node (ac_node (ac_node (ac_node (ac_node (ac_leaf 0 (⟨vd_96_0 E, mn_con _ _⟩)) (ac_node (ac_leaf 1 (⟨vd_96_1 E, mn_ist _ _⟩)) (ac_leaf 2 (⟨vd_96_2 E, mn_ild _ _⟩)))) (ac_node (ac_leaf 3 (⟨vd_96_3 E, mn_con _ _⟩)) (ac_node (ac_leaf 5 (⟨vd_96_5 E, mn_ge _ _⟩)) (ac_leaf 8 (⟨vd_96_8 E, mn_ald _ _⟩))))) (ac_node (ac_node (ac_leaf 9 (⟨vd_96_9 E, mn_get _ _ _⟩)) (ac_node (ac_leaf 12 (⟨vd_96_12 E, mn_ild _ _⟩)) (ac_leaf 13 (⟨vd_96_13 E, mn_ia _⟩)))) (ac_node (ac_leaf 14 (⟨vd_96_14 E, mn_ild _ _⟩)) (ac_node (ac_leaf 15 (ac_Vc0 ((vd_96_15 E).1) (fun _ => rfl))) (ac_leaf 18 (⟨vd_96_18 E, mn_eq0 _ _⟩)))))) (ac_node (ac_node (ac_node (ac_leaf 21 (⟨vd_96_21 E, mn_ald _ _⟩)) (ac_node (ac_leaf 22 (⟨vd_96_22 E, mn_con _ _⟩)) (ac_leaf 23 (⟨vd_96_23 E, mn_ild _ _⟩)))) (ac_node (ac_leaf 24 (⟨vd_96_24 E, mn_con _ _⟩)) (ac_node (ac_leaf 25 (ac_Vc0 ((vd_96_25 E).1) (fun _ => rfl))) (ac_leaf 28 (⟨vd_96_28 E, mn_inc _ _ _⟩))))) (ac_node (ac_node (ac_leaf 31 (⟨vd_96_31 E, mn_go _⟩)) (ac_node (ac_leaf 34 (⟨vd_96_34 E, mn_ald _ _⟩)) (ac_leaf 35 (⟨vd_96_35 E, mn_get _ _ _⟩)))) (ac_node (ac_leaf 38 (⟨vd_96_38 E, mn_ild _ _⟩)) (ac_node (ac_leaf 39 (⟨vd_96_39 E, mn_con _ _⟩)) (ac_leaf 40 (⟨vd_96_40 E, mn_is _⟩))))))) (ac_node (ac_node (ac_node (ac_node (ac_leaf 41 (⟨vd_96_41 E, mn_con _ _⟩)) (ac_node (ac_leaf 42 (⟨vd_96_42 E, mn_ist _ _⟩)) (ac_leaf 43 (⟨vd_96_43 E, mn_ild _ _⟩)))) (ac_node (ac_leaf 44 (⟨vd_96_44 E, mn_ald _ _⟩)) (ac_node (ac_leaf 45 (⟨vd_96_45 E, mn_get _ _ _⟩)) (ac_leaf 48 (⟨vd_96_48 E, mn_ge _ _⟩))))) (ac_node (ac_node (ac_leaf 51 (⟨vd_96_51 E, mn_ald _ _⟩)) (ac_node (ac_leaf 52 (⟨vd_96_52 E, mn_get _ _ _⟩)) (ac_leaf 55 (⟨vd_96_55 E, mn_ild _ _⟩)))) (ac_node (ac_leaf 56 (⟨vd_96_56 E, mn_ald _ _⟩)) (ac_node (ac_leaf 57 (⟨vd_96_57 E, mn_get _ _ _⟩)) (ac_leaf 60 (⟨vd_96_60 E, mn_ild _ _⟩)))))) (ac_node (ac_node (ac_node (ac_leaf 61 (⟨vd_96_61 E, mn_ia _⟩)) (ac_node (ac_leaf 62 (⟨vd_96_62 E, mn_ild _ _⟩)) (ac_leaf 63 (⟨vd_96_63 E, mn_ne _ _⟩)))) (ac_node (ac_leaf 66 (⟨vd_96_66 E, mn_con _ _⟩)) (ac_node (ac_leaf 67 (⟨vd_96_67 E, mn_go _⟩)) (ac_leaf 70 (⟨vd_96_70 E, mn_ald _ _⟩))))) (ac_node (ac_node (ac_leaf 71 (⟨vd_96_71 E, mn_get _ _ _⟩)) (ac_node (ac_leaf 74 (⟨vd_96_74 E, mn_ild _ _⟩)) (ac_leaf 75 (⟨vd_96_75 E, mn_ia _⟩)))) (ac_node (ac_node (ac_leaf 76 (⟨vd_96_76 E, mn_is _⟩)) (ac_leaf 77 (⟨vd_96_77 E, mn_inc _ _ _⟩))) (ac_node (ac_leaf 80 (⟨vd_96_80 E, mn_go _⟩)) (ac_leaf 83 (ac_Vr0 dd_96_83 rfl))))))))
theorem vd_97_0 (E : ac_E) : ac_ok E md_97 0 (o_con (.int 0) 1) := ok_iconst (E := E) (d := md_97) (pc := 0) dd_97_0 (by decide)
theorem vd_97_1 (E : ac_E) : ac_ok E md_97 1 (o_ist 2 2) := ok_istore_n (E := E) (d := md_97) (pc := 1) (j := 2) dd_97_1
theorem vd_97_2 (E : ac_E) : ac_ok E md_97 2 (o_ild 2 3) := ok_iload_n (E := E) (d := md_97) (pc := 2) (j := 2) dd_97_2
theorem vd_97_3 (E : ac_E) : ac_ok E md_97 3 (o_con (.int 7) 5) := ok_bipush (E := E) (d := md_97) (pc := 3) dd_97_3 (by decide)
theorem vd_97_5 (E : ac_E) : ac_ok E md_97 5 (o_ge 85 8) := ok_icmpge (E := E) (d := md_97) (pc := 5) dd_97_5 (by decide)
theorem vd_97_8 (E : ac_E) : ac_ok E md_97 8 (o_ald 0 9) := ok_aload_n (E := E) (d := md_97) (pc := 8) (j := 0) dd_97_8
theorem vd_97_9 (E : ac_E) : ac_ok E md_97 9 (o_ald 0 10) := ok_aload_n (E := E) (d := md_97) (pc := 9) (j := 0) dd_97_9
theorem vd_97_10 (E : ac_E) : ac_ok E md_97 10 (o_get 5 4 13) := ok_getf (E := E) (d := md_97) (pc := 10) (ci := 5) (f := 4) (C := RX5) (T := TX5) (N := 17) (ref := RX5) rfl win_5 (by decide) rfl wm_642 dd_97_10
theorem vd_97_13 (E : ac_E) : ac_ok E md_97 13 (o_con (.int 1103515245) 15) := ok_ldc (E := E) (d := md_97) (pc := 13) dd_97_13 wm_812
theorem vd_97_15 (E : ac_E) : ac_ok E md_97 15 (o_mul 16) := ok_imul (E := E) (d := md_97) (pc := 15) dd_97_15
theorem vd_97_16 (E : ac_E) : ac_ok E md_97 16 (o_con (.int 12345) 19) := ok_sipush (E := E) (d := md_97) (pc := 16) dd_97_16 (by decide)
theorem vd_97_19 (E : ac_E) : ac_ok E md_97 19 (o_add 20) := ok_iadd (E := E) (d := md_97) (pc := 19) dd_97_19
theorem vd_97_20 (E : ac_E) : ac_ok E md_97 20 (o_put 5 4 23) := ok_putf (E := E) (d := md_97) (pc := 20) (ci := 5) (f := 4) (C := RX5) (T := TX5) (N := 17) (ref := RX5) rfl win_5 (by decide) rfl tyX5 tyX5_ok nmX5 (by decide +kernel) rfl wm_642 dd_97_20
theorem vd_97_23 (E : ac_E) : ac_ok E md_97 23 (o_ald 0 24) := ok_aload_n (E := E) (d := md_97) (pc := 23) (j := 0) dd_97_23
theorem vd_97_24 (E : ac_E) : ac_ok E md_97 24 (o_get 5 4 27) := ok_getf (E := E) (d := md_97) (pc := 24) (ci := 5) (f := 4) (C := RX5) (T := TX5) (N := 17) (ref := RX5) rfl win_5 (by decide) rfl wm_642 dd_97_24
theorem vd_97_27 (E : ac_E) : ac_ok E md_97 27 (o_con (.int 16) 29) := ok_bipush (E := E) (d := md_97) (pc := 27) dd_97_27 (by decide)
theorem vd_97_29 (E : ac_E) : ac_ok E md_97 29 (o_shr 30) := ok_ishr (E := E) (d := md_97) (pc := 29) dd_97_29
theorem vd_97_30 (E : ac_E) : ac_ok E md_97 30 (o_con (.int 255) 33) := ok_sipush (E := E) (d := md_97) (pc := 30) dd_97_30 (by decide)
theorem vd_97_33 (E : ac_E) : ac_ok E md_97 33 (o_and 34) := ok_iand (E := E) (d := md_97) (pc := 33) dd_97_33
theorem vd_97_34 (E : ac_E) : ac_ok E md_97 34 (o_ald 0 35) := ok_aload_n (E := E) (d := md_97) (pc := 34) (j := 0) dd_97_34
theorem vd_97_35 (E : ac_E) : ac_ok E md_97 35 (o_get 5 7 38) := ok_getf (E := E) (d := md_97) (pc := 35) (ci := 5) (f := 7) (C := RX5) (T := TX5) (N := 17) (ref := RX5) rfl win_5 (by decide) rfl wm_645 dd_97_35
theorem vd_97_38 (E : ac_E) : ac_ok E md_97 38 (o_ild 1 39) := ok_iload_n (E := E) (d := md_97) (pc := 38) (j := 1) dd_97_38
theorem vd_97_39 (E : ac_E) : ac_ok E md_97 39 (o_ia 40) := ok_iaload (E := E) (d := md_97) (pc := 39) dd_97_39
theorem vd_97_40 (E : ac_E) : ac_ok E md_97 40 (o_ge 79 43) := ok_icmpge (E := E) (d := md_97) (pc := 40) dd_97_40 (by decide)
theorem vd_97_43 (E : ac_E) : ac_ok E md_97 43 (o_ald 0 44) := ok_aload_n (E := E) (d := md_97) (pc := 43) (j := 0) dd_97_43
theorem vd_97_44 (E : ac_E) : ac_ok E md_97 44 (o_get 5 5 47) := ok_getf (E := E) (d := md_97) (pc := 44) (ci := 5) (f := 5) (C := RX5) (T := TX5) (N := 17) (ref := RX5) rfl win_5 (by decide) rfl wm_643 dd_97_44
theorem vd_97_47 (E : ac_E) : ac_ok E md_97 47 (o_ild 1 48) := ok_iload_n (E := E) (d := md_97) (pc := 47) (j := 1) dd_97_47
theorem vd_97_48 (E : ac_E) : ac_ok E md_97 48 (o_ia 49) := ok_iaload (E := E) (d := md_97) (pc := 48) dd_97_48
theorem vd_97_49 (E : ac_E) : ac_ok E md_97 49 (o_ild 2 50) := ok_iload_n (E := E) (d := md_97) (pc := 49) (j := 2) dd_97_49
theorem vd_97_50 (E : ac_E) : ac_okr E md_97 md_70 50 2 53 0 ∧ ac_okt E md_97 md_70 50 2 0 := ok_callS (E := E) (d := md_97) (dz := md_70) (pc := 50) rfl (by decide) (by decide +kernel) wm_707 wm_56 wm_705 wm_706 dd_97_50
theorem vd_97_53 (E : ac_E) : ac_ok E md_97 53 (o_ne0 79 56) := ok_ifne (E := E) (d := md_97) (pc := 53) dd_97_53 (by decide)
theorem vd_97_56 (E : ac_E) : ac_ok E md_97 56 (o_ald 0 57) := ok_aload_n (E := E) (d := md_97) (pc := 56) (j := 0) dd_97_56
theorem vd_97_57 (E : ac_E) : ac_ok E md_97 57 (o_get 5 5 60) := ok_getf (E := E) (d := md_97) (pc := 57) (ci := 5) (f := 5) (C := RX5) (T := TX5) (N := 17) (ref := RX5) rfl win_5 (by decide) rfl wm_643 dd_97_57
theorem vd_97_60 (E : ac_E) : ac_ok E md_97 60 (o_ild 1 61) := ok_iload_n (E := E) (d := md_97) (pc := 60) (j := 1) dd_97_60
theorem vd_97_61 (E : ac_E) : ac_ok E md_97 61 (o_ald 0 62) := ok_aload_n (E := E) (d := md_97) (pc := 61) (j := 0) dd_97_61
theorem vd_97_62 (E : ac_E) : ac_ok E md_97 62 (o_get 5 5 65) := ok_getf (E := E) (d := md_97) (pc := 62) (ci := 5) (f := 5) (C := RX5) (T := TX5) (N := 17) (ref := RX5) rfl win_5 (by decide) rfl wm_643 dd_97_62
theorem vd_97_65 (E : ac_E) : ac_ok E md_97 65 (o_ild 1 66) := ok_iload_n (E := E) (d := md_97) (pc := 65) (j := 1) dd_97_65
theorem vd_97_66 (E : ac_E) : ac_ok E md_97 66 (o_ia 67) := ok_iaload (E := E) (d := md_97) (pc := 66) dd_97_66
theorem vd_97_67 (E : ac_E) : ac_ok E md_97 67 (o_con (.int 1) 68) := ok_iconst (E := E) (d := md_97) (pc := 67) dd_97_67 (by decide)
theorem vd_97_68 (E : ac_E) : ac_ok E md_97 68 (o_ild 2 69) := ok_iload_n (E := E) (d := md_97) (pc := 68) (j := 2) dd_97_68
theorem vd_97_69 (E : ac_E) : ac_ok E md_97 69 (o_shl 70) := ok_ishl (E := E) (d := md_97) (pc := 69) dd_97_69
theorem vd_97_70 (E : ac_E) : ac_ok E md_97 70 (o_or 71) := ok_ior (E := E) (d := md_97) (pc := 70) dd_97_70
theorem vd_97_71 (E : ac_E) : ac_ok E md_97 71 (o_is 72) := ok_iastore (E := E) (d := md_97) (pc := 71) dd_97_71
theorem vd_97_72 (E : ac_E) : ac_ok E md_97 72 (o_ald 0 73) := ok_aload_n (E := E) (d := md_97) (pc := 72) (j := 0) dd_97_72
theorem vd_97_73 (E : ac_E) : ac_ok E md_97 73 (o_con (.int 2) 74) := ok_iconst (E := E) (d := md_97) (pc := 73) dd_97_73 (by decide)
theorem vd_97_74 (E : ac_E) : ac_ok E md_97 74 (o_ild 2 75) := ok_iload_n (E := E) (d := md_97) (pc := 74) (j := 2) dd_97_74
theorem vd_97_75 (E : ac_E) : ac_ok E md_97 75 (o_con (.int 1) 76) := ok_iconst (E := E) (d := md_97) (pc := 75) dd_97_75 (by decide)
theorem vd_97_76 (E : ac_E) : ac_okr E md_97 md_94 76 4 79 7 ∧ ac_okt E md_97 md_94 76 4 7 := ok_callV (E := E) (d := md_97) (dz := md_94) (pc := 76) (T := TX5) (N := 17) rfl rfl (by decide) (by decide +kernel) wm_804 wm_56 wm_801 wm_803 wm_41 dd_97_76
theorem vd_97_79 (E : ac_E) : ac_ok E md_97 79 (o_inc 2 1 82) := ok_iinc (E := E) (d := md_97) (pc := 79) dd_97_79 (by decide)
theorem vd_97_82 (E : ac_E) : ac_ok E md_97 82 (o_go 2) := ok_goto (E := E) (d := md_97) (pc := 82) dd_97_82 (by decide)
theorem va_97 (E : ac_E) (pc : Nat) : ac_V E ac_MDf ac_HDf 97 pc (tb_97 (ac_len E) (ac_xs E) pc) := (ac_node (ac_node (ac_node (ac_node (ac_node (ac_leaf 0 (⟨vd_97_0 E, mn_con _ _⟩)) (ac_node (ac_leaf 1 (⟨vd_97_1 E, mn_ist _ _⟩)) (ac_leaf 2 (⟨vd_97_2 E, mn_ild _ _⟩)))) (ac_node (ac_leaf 3 (⟨vd_97_3 E, mn_con _ _⟩)) (ac_node (ac_leaf 5 (⟨vd_97_5 E, mn_ge _ _⟩)) (ac_leaf 8 (⟨vd_97_8 E, mn_ald _ _⟩))))) (ac_node (ac_node (ac_leaf 9 (⟨vd_97_9 E, mn_ald _ _⟩)) (ac_node (ac_leaf 10 (⟨vd_97_10 E, mn_get _ _ _⟩)) (ac_leaf 13 (⟨vd_97_13 E, mn_con _ _⟩)))) (ac_node (ac_leaf 15 (⟨vd_97_15 E, mn_mul _⟩)) (ac_node (ac_leaf 16 (⟨vd_97_16 E, mn_con _ _⟩)) (ac_leaf 19 (⟨vd_97_19 E, mn_add _⟩)))))) (ac_node (ac_node (ac_node (ac_leaf 20 (⟨vd_97_20 E, mn_put _ _ _⟩)) (ac_node (ac_leaf 23 (⟨vd_97_23 E, mn_ald _ _⟩)) (ac_leaf 24 (⟨vd_97_24 E, mn_get _ _ _⟩)))) (ac_node (ac_leaf 27 (⟨vd_97_27 E, mn_con _ _⟩)) (ac_node (ac_leaf 29 (⟨vd_97_29 E, mn_shr _⟩)) (ac_leaf 30 (⟨vd_97_30 E, mn_con _ _⟩))))) (ac_node (ac_node (ac_leaf 33 (⟨vd_97_33 E, mn_and _⟩)) (ac_node (ac_leaf 34 (⟨vd_97_34 E, mn_ald _ _⟩)) (ac_leaf 35 (⟨vd_97_35 E, mn_get _ _ _⟩)))) (ac_node (ac_node (ac_leaf 38 (⟨vd_97_38 E, mn_ild _ _⟩)) (ac_leaf 39 (⟨vd_97_39 E, mn_ia _⟩))) (ac_node (ac_leaf 40 (⟨vd_97_40 E, mn_ge _ _⟩)) (ac_leaf 43 (⟨vd_97_43 E, mn_ald _ _⟩))))))) (ac_node (ac_node (ac_node (ac_node (ac_leaf 44 (⟨vd_97_44 E, mn_get _ _ _⟩)) (ac_node (ac_leaf 47 (⟨vd_97_47 E, mn_ild _ _⟩)) (ac_leaf 48 (⟨vd_97_48 E, mn_ia _⟩)))) (ac_node (ac_leaf 49 (⟨vd_97_49 E, mn_ild _ _⟩)) (ac_node (ac_leaf 50 (ac_Vc0 ((vd_97_50 E).1) (fun _ => rfl))) (ac_leaf 53 (⟨vd_97_53 E, mn_ne0 _ _⟩))))) (ac_node (ac_node (ac_leaf 56 (⟨vd_97_56 E, mn_ald _ _⟩)) (ac_node (ac_leaf 57 (⟨vd_97_57 E, mn_get _ _ _⟩)) (ac_leaf 60 (⟨vd_97_60 E, mn_ild _ _⟩)))) (ac_node (ac_node (ac_leaf 61 (⟨vd_97_61 E, mn_ald _ _⟩)) (ac_leaf 62 (⟨vd_97_62 E, mn_get _ _ _⟩))) (ac_node (ac_leaf 65 (⟨vd_97_65 E, mn_ild _ _⟩)) (ac_leaf 66 (⟨vd_97_66 E, mn_ia _⟩)))))) (ac_node (ac_node (ac_node (ac_leaf 67 (⟨vd_97_67 E, mn_con _ _⟩)) (ac_node (ac_leaf 68 (⟨vd_97_68 E, mn_ild _ _⟩)) (ac_leaf 69 (⟨vd_97_69 E, mn_shl _⟩)))) (ac_node (ac_leaf 70 (⟨vd_97_70 E, mn_or _⟩)) (ac_node (ac_leaf 71 (⟨vd_97_71 E, mn_is _⟩)) (ac_leaf 72 (⟨vd_97_72 E, mn_ald _ _⟩))))) (ac_node (ac_node (ac_leaf 73 (⟨vd_97_73 E, mn_con _ _⟩)) (ac_node (ac_leaf 74 (⟨vd_97_74 E, mn_ild _ _⟩)) (ac_leaf 75 (⟨vd_97_75 E, mn_con _ _⟩)))) (ac_node (ac_node (ac_leaf 76 (ac_Vc0 ((vd_97_76 E).1) (fun _ => rfl))) (ac_leaf 79 (⟨vd_97_79 E, mn_inc _ _ _⟩))) (ac_node (ac_leaf 82 (⟨vd_97_82 E, mn_go _⟩)) (ac_leaf 85 (ac_Vr0 dd_97_85 rfl))))))))
theorem vd_98_0 (E : ac_E) : ac_ok E md_98 0 (o_con (.int 0) 1) := ok_iconst (E := E) (d := md_98) (pc := 0) dd_98_0 (by decide)
theorem vd_98_1 (E : ac_E) : ac_ok E md_98 1 (o_ist 1 2) := ok_istore_n (E := E) (d := md_98) (pc := 1) (j := 1) dd_98_1
theorem vd_98_2 (E : ac_E) : ac_ok E md_98 2 (o_ild 1 3) := ok_iload_n (E := E) (d := md_98) (pc := 2) (j := 1) dd_98_2
theorem vd_98_3 (E : ac_E) : ac_ok E md_98 3 (o_ald 0 4) := ok_aload_n (E := E) (d := md_98) (pc := 3) (j := 0) dd_98_3
theorem vd_98_4 (E : ac_E) : ac_ok E md_98 4 (o_get 5 1 7) := ok_getf (E := E) (d := md_98) (pc := 4) (ci := 5) (f := 1) (C := RX5) (T := TX5) (N := 17) (ref := RX5) rfl win_5 (by decide) rfl wm_639 dd_98_4
theorem vd_98_7 (E : ac_E) : ac_ok E md_98 7 (o_ald 0 8) := ok_aload_n (E := E) (d := md_98) (pc := 7) (j := 0) dd_98_7
theorem vd_98_8 (E : ac_E) : ac_ok E md_98 8 (o_get 5 2 11) := ok_getf (E := E) (d := md_98) (pc := 8) (ci := 5) (f := 2) (C := RX5) (T := TX5) (N := 17) (ref := RX5) rfl win_5 (by decide) rfl wm_640 dd_98_8
theorem vd_98_11 (E : ac_E) : ac_ok E md_98 11 (o_mul 12) := ok_imul (E := E) (d := md_98) (pc := 11) dd_98_11
theorem vd_98_12 (E : ac_E) : ac_ok E md_98 12 (o_ge 82 15) := ok_icmpge (E := E) (d := md_98) (pc := 12) dd_98_12 (by decide)
theorem vd_98_15 (E : ac_E) : ac_ok E md_98 15 (o_ald 0 16) := ok_aload_n (E := E) (d := md_98) (pc := 15) (j := 0) dd_98_15
theorem vd_98_16 (E : ac_E) : ac_ok E md_98 16 (o_get 5 6 19) := ok_getf (E := E) (d := md_98) (pc := 16) (ci := 5) (f := 6) (C := RX5) (T := TX5) (N := 17) (ref := RX5) rfl win_5 (by decide) rfl wm_644 dd_98_16
theorem vd_98_19 (E : ac_E) : ac_ok E md_98 19 (o_ild 1 20) := ok_iload_n (E := E) (d := md_98) (pc := 19) (j := 1) dd_98_19
theorem vd_98_20 (E : ac_E) : ac_ok E md_98 20 (o_ia 21) := ok_iaload (E := E) (d := md_98) (pc := 20) dd_98_20
theorem vd_98_21 (E : ac_E) : ac_ok E md_98 21 (o_con (.int 1) 22) := ok_iconst (E := E) (d := md_98) (pc := 21) dd_98_21 (by decide)
theorem vd_98_22 (E : ac_E) : ac_ok E md_98 22 (o_eq 35 25) := ok_icmpeq (E := E) (d := md_98) (pc := 22) dd_98_22 (by decide)
theorem vd_98_25 (E : ac_E) : ac_ok E md_98 25 (o_ald 0 26) := ok_aload_n (E := E) (d := md_98) (pc := 25) (j := 0) dd_98_25
theorem vd_98_26 (E : ac_E) : ac_ok E md_98 26 (o_get 5 6 29) := ok_getf (E := E) (d := md_98) (pc := 26) (ci := 5) (f := 6) (C := RX5) (T := TX5) (N := 17) (ref := RX5) rfl win_5 (by decide) rfl wm_644 dd_98_26
theorem vd_98_29 (E : ac_E) : ac_ok E md_98 29 (o_ild 1 30) := ok_iload_n (E := E) (d := md_98) (pc := 29) (j := 1) dd_98_29
theorem vd_98_30 (E : ac_E) : ac_ok E md_98 30 (o_ia 31) := ok_iaload (E := E) (d := md_98) (pc := 30) dd_98_30
theorem vd_98_31 (E : ac_E) : ac_ok E md_98 31 (o_con (.int 4) 32) := ok_iconst (E := E) (d := md_98) (pc := 31) dd_98_31 (by decide)
theorem vd_98_32 (E : ac_E) : ac_ok E md_98 32 (o_ne 43 35) := ok_icmpne (E := E) (d := md_98) (pc := 32) dd_98_32 (by decide)
theorem vd_98_35 (E : ac_E) : ac_ok E md_98 35 (o_ald 0 36) := ok_aload_n (E := E) (d := md_98) (pc := 35) (j := 0) dd_98_35
theorem vd_98_36 (E : ac_E) : ac_ok E md_98 36 (o_ild 1 37) := ok_iload_n (E := E) (d := md_98) (pc := 36) (j := 1) dd_98_36
theorem vd_98_37 (E : ac_E) : ac_okr E md_98 md_95 37 2 40 7 ∧ ac_okt E md_98 md_95 37 2 7 := ok_callV (E := E) (d := md_98) (dz := md_95) (pc := 37) (T := TX5) (N := 17) rfl rfl (by decide) (by decide +kernel) wm_800 wm_56 wm_797 wm_799 wm_40 dd_98_37
theorem vd_98_40 (E : ac_E) : ac_ok E md_98 40 (o_go 76) := ok_goto (E := E) (d := md_98) (pc := 40) dd_98_40 (by decide)
theorem vd_98_43 (E : ac_E) : ac_ok E md_98 43 (o_ald 0 44) := ok_aload_n (E := E) (d := md_98) (pc := 43) (j := 0) dd_98_43
theorem vd_98_44 (E : ac_E) : ac_ok E md_98 44 (o_get 5 6 47) := ok_getf (E := E) (d := md_98) (pc := 44) (ci := 5) (f := 6) (C := RX5) (T := TX5) (N := 17) (ref := RX5) rfl win_5 (by decide) rfl wm_644 dd_98_44
theorem vd_98_47 (E : ac_E) : ac_ok E md_98 47 (o_ild 1 48) := ok_iload_n (E := E) (d := md_98) (pc := 47) (j := 1) dd_98_47
theorem vd_98_48 (E : ac_E) : ac_ok E md_98 48 (o_ia 49) := ok_iaload (E := E) (d := md_98) (pc := 48) dd_98_48
theorem vd_98_49 (E : ac_E) : ac_ok E md_98 49 (o_con (.int 2) 50) := ok_iconst (E := E) (d := md_98) (pc := 49) dd_98_49 (by decide)
theorem vd_98_50 (E : ac_E) : ac_ok E md_98 50 (o_ne 61 53) := ok_icmpne (E := E) (d := md_98) (pc := 50) dd_98_50 (by decide)
theorem vd_98_53 (E : ac_E) : ac_ok E md_98 53 (o_ald 0 54) := ok_aload_n (E := E) (d := md_98) (pc := 53) (j := 0) dd_98_53
theorem vd_98_54 (E : ac_E) : ac_ok E md_98 54 (o_ild 1 55) := ok_iload_n (E := E) (d := md_98) (pc := 54) (j := 1) dd_98_54
theorem vd_98_55 (E : ac_E) : ac_okr E md_98 md_97 55 2 58 7 ∧ ac_okt E md_98 md_97 55 2 7 := ok_callV (E := E) (d := md_98) (dz := md_97) (pc := 55) (T := TX5) (N := 17) rfl rfl (by decide) (by decide +kernel) wm_811 wm_56 wm_808 wm_810 wm_42 dd_98_55
theorem vd_98_58 (E : ac_E) : ac_ok E md_98 58 (o_go 76) := ok_goto (E := E) (d := md_98) (pc := 58) dd_98_58 (by decide)
theorem vd_98_61 (E : ac_E) : ac_ok E md_98 61 (o_ald 0 62) := ok_aload_n (E := E) (d := md_98) (pc := 61) (j := 0) dd_98_61
theorem vd_98_62 (E : ac_E) : ac_ok E md_98 62 (o_get 5 6 65) := ok_getf (E := E) (d := md_98) (pc := 62) (ci := 5) (f := 6) (C := RX5) (T := TX5) (N := 17) (ref := RX5) rfl win_5 (by decide) rfl wm_644 dd_98_62
theorem vd_98_65 (E : ac_E) : ac_ok E md_98 65 (o_ild 1 66) := ok_iload_n (E := E) (d := md_98) (pc := 65) (j := 1) dd_98_65
theorem vd_98_66 (E : ac_E) : ac_ok E md_98 66 (o_ia 67) := ok_iaload (E := E) (d := md_98) (pc := 66) dd_98_66
theorem vd_98_67 (E : ac_E) : ac_ok E md_98 67 (o_con (.int 3) 68) := ok_iconst (E := E) (d := md_98) (pc := 67) dd_98_67 (by decide)
theorem vd_98_68 (E : ac_E) : ac_ok E md_98 68 (o_ne 76 71) := ok_icmpne (E := E) (d := md_98) (pc := 68) dd_98_68 (by decide)
theorem vd_98_71 (E : ac_E) : ac_ok E md_98 71 (o_ald 0 72) := ok_aload_n (E := E) (d := md_98) (pc := 71) (j := 0) dd_98_71
theorem vd_98_72 (E : ac_E) : ac_ok E md_98 72 (o_ild 1 73) := ok_iload_n (E := E) (d := md_98) (pc := 72) (j := 1) dd_98_72
theorem vd_98_73 (E : ac_E) : ac_okr E md_98 md_96 73 2 76 7 ∧ ac_okt E md_98 md_96 73 2 7 := ok_callV (E := E) (d := md_98) (dz := md_96) (pc := 73) (T := TX5) (N := 17) rfl rfl (by decide) (by decide +kernel) wm_816 wm_56 wm_813 wm_815 wm_43 dd_98_73
theorem vd_98_76 (E : ac_E) : ac_ok E md_98 76 (o_inc 1 1 79) := ok_iinc (E := E) (d := md_98) (pc := 76) dd_98_76 (by decide)
theorem vd_98_79 (E : ac_E) : ac_ok E md_98 79 (o_go 2) := ok_goto (E := E) (d := md_98) (pc := 79) dd_98_79 (by decide)
theorem va_98 (E : ac_E) (pc : Nat) : ac_V E ac_MDf ac_HDf 98 pc (tb_98 (ac_len E) (ac_xs E) pc) := (ac_node (ac_node (ac_node (ac_node (ac_node (ac_leaf 0 (⟨vd_98_0 E, mn_con _ _⟩)) (ac_leaf 1 (⟨vd_98_1 E, mn_ist _ _⟩))) (ac_node (ac_leaf 2 (⟨vd_98_2 E, mn_ild _ _⟩)) (ac_node (ac_leaf 3 (⟨vd_98_3 E, mn_ald _ _⟩)) (ac_leaf 4 (⟨vd_98_4 E, mn_get _ _ _⟩))))) (ac_node (ac_node (ac_leaf 7 (⟨vd_98_7 E, mn_ald _ _⟩)) (ac_node (ac_leaf 8 (⟨vd_98_8 E, mn_get _ _ _⟩)) (ac_leaf 11 (⟨vd_98_11 E, mn_mul _⟩)))) (ac_node (ac_leaf 12 (⟨vd_98_12 E, mn_ge _ _⟩)) (ac_node (ac_leaf 15 (⟨vd_98_15 E, mn_ald _ _⟩)) (ac_leaf 16 (⟨vd_98_16 E, mn_get _ _ _⟩)))))) (ac_node (ac_node (ac_node (ac_leaf 19 (⟨vd_98_19 E, mn_ild _ _⟩)) (ac_node (ac_leaf 20 (⟨vd_98_20 E, mn_ia _⟩)) (ac_leaf 21 (⟨vd_98_21 E, mn_con _ _⟩)))) (ac_node (ac_leaf 22 (⟨vd_98_22 E, mn_eq _ _⟩)) (ac_node (ac_leaf 25 (⟨vd_98_25 E, mn_ald _ _⟩)) (ac_leaf 26 (⟨vd_98_26 E, mn_get _ _ _⟩))))) (ac_node (ac_node (ac_leaf 29 (⟨vd_98_29 E, mn_ild _ _⟩)) (ac_node (ac_leaf 30 (⟨vd_98_30 E, mn_ia _⟩)) (ac_leaf 31 (⟨vd_98_31 E, mn_con _ _⟩)))) (ac_node (ac_leaf 32 (⟨vd_98_32 E, mn_ne _ _⟩)) (ac_node (ac_leaf 35 (⟨vd_98_35 E, mn_ald _ _⟩)) (ac_leaf 36 (⟨vd_98_36 E, mn_ild _ _⟩))))))) (ac_node (ac_node (ac_node (ac_node (ac_leaf 37 (ac_Vc0 ((vd_98_37 E).1) (fun _ => rfl))) (ac_node (ac_leaf 40 (⟨vd_98_40 E, mn_go _⟩)) (ac_leaf 43 (⟨vd_98_43 E, mn_ald _ _⟩)))) (ac_node (ac_leaf 44 (⟨vd_98_44 E, mn_get _ _ _⟩)) (ac_node (ac_leaf 47 (⟨vd_98_47 E, mn_ild _ _⟩)) (ac_leaf 48 (⟨vd_98_48 E, mn_ia _⟩))))) (ac_node (ac_node (ac_leaf 49 (⟨vd_98_49 E, mn_con _ _⟩)) (ac_node (ac_leaf 50 (⟨vd_98_50 E, mn_ne _ _⟩)) (ac_leaf 53 (⟨vd_98_53 E, mn_ald _ _⟩)))) (ac_node (ac_leaf 54 (⟨vd_98_54 E, mn_ild _ _⟩)) (ac_node (ac_leaf 55 (ac_Vc0 ((vd_98_55 E).1) (fun _ => rfl))) (ac_leaf 58 (⟨vd_98_58 E, mn_go _⟩)))))) (ac_node (ac_node (ac_node (ac_leaf 61 (⟨vd_98_61 E, mn_ald _ _⟩)) (ac_node (ac_leaf 62 (⟨vd_98_62 E, mn_get _ _ _⟩)) (ac_leaf 65 (⟨vd_98_65 E, mn_ild _ _⟩)))) (ac_node (ac_leaf 66 (⟨vd_98_66 E, mn_ia _⟩)) (ac_node (ac_leaf 67 (⟨vd_98_67 E, mn_con _ _⟩)) (ac_leaf 68 (⟨vd_98_68 E, mn_ne _ _⟩))))) (ac_node (ac_node (ac_leaf 71 (⟨vd_98_71 E, mn_ald _ _⟩)) (ac_node (ac_leaf 72 (⟨vd_98_72 E, mn_ild _ _⟩)) (ac_leaf 73 (ac_Vc0 ((vd_98_73 E).1) (fun _ => rfl))))) (ac_node (ac_leaf 76 (⟨vd_98_76 E, mn_inc _ _ _⟩)) (ac_node (ac_leaf 79 (⟨vd_98_79 E, mn_go _⟩)) (ac_leaf 82 (ac_Vr0 dd_98_82 rfl))))))))
theorem vd_99_0 (E : ac_E) : ac_ok E md_99 0 (o_con (.int 0) 1) := ok_iconst (E := E) (d := md_99) (pc := 0) dd_99_0 (by decide)
theorem vd_99_1 (E : ac_E) : ac_ok E md_99 1 (o_ist 2 2) := ok_istore_n (E := E) (d := md_99) (pc := 1) (j := 2) dd_99_1
theorem vd_99_2 (E : ac_E) : ac_ok E md_99 2 (o_con (.int 0) 3) := ok_iconst (E := E) (d := md_99) (pc := 2) dd_99_2 (by decide)
theorem vd_99_3 (E : ac_E) : ac_ok E md_99 3 (o_ist 3 4) := ok_istore_n (E := E) (d := md_99) (pc := 3) (j := 3) dd_99_3
theorem vd_99_4 (E : ac_E) : ac_ok E md_99 4 (o_ild 3 5) := ok_iload_n (E := E) (d := md_99) (pc := 4) (j := 3) dd_99_4
theorem vd_99_5 (E : ac_E) : ac_ok E md_99 5 (o_ald 0 6) := ok_aload_n (E := E) (d := md_99) (pc := 5) (j := 0) dd_99_5
theorem vd_99_6 (E : ac_E) : ac_ok E md_99 6 (o_get 5 1 9) := ok_getf (E := E) (d := md_99) (pc := 6) (ci := 5) (f := 1) (C := RX5) (T := TX5) (N := 17) (ref := RX5) rfl win_5 (by decide) rfl wm_639 dd_99_6
theorem vd_99_9 (E : ac_E) : ac_ok E md_99 9 (o_ald 0 10) := ok_aload_n (E := E) (d := md_99) (pc := 9) (j := 0) dd_99_9
theorem vd_99_10 (E : ac_E) : ac_ok E md_99 10 (o_get 5 2 13) := ok_getf (E := E) (d := md_99) (pc := 10) (ci := 5) (f := 2) (C := RX5) (T := TX5) (N := 17) (ref := RX5) rfl win_5 (by decide) rfl wm_640 dd_99_10
theorem vd_99_13 (E : ac_E) : ac_ok E md_99 13 (o_mul 14) := ok_imul (E := E) (d := md_99) (pc := 13) dd_99_13
theorem vd_99_14 (E : ac_E) : ac_ok E md_99 14 (o_ge 41 17) := ok_icmpge (E := E) (d := md_99) (pc := 14) dd_99_14 (by decide)
theorem vd_99_17 (E : ac_E) : ac_ok E md_99 17 (o_ald 0 18) := ok_aload_n (E := E) (d := md_99) (pc := 17) (j := 0) dd_99_17
theorem vd_99_18 (E : ac_E) : ac_ok E md_99 18 (o_get 5 6 21) := ok_getf (E := E) (d := md_99) (pc := 18) (ci := 5) (f := 6) (C := RX5) (T := TX5) (N := 17) (ref := RX5) rfl win_5 (by decide) rfl wm_644 dd_99_18
theorem vd_99_21 (E : ac_E) : ac_ok E md_99 21 (o_ild 3 22) := ok_iload_n (E := E) (d := md_99) (pc := 21) (j := 3) dd_99_21
theorem vd_99_22 (E : ac_E) : ac_ok E md_99 22 (o_ia 23) := ok_iaload (E := E) (d := md_99) (pc := 22) dd_99_22
theorem vd_99_23 (E : ac_E) : ac_ok E md_99 23 (o_ild 1 24) := ok_iload_n (E := E) (d := md_99) (pc := 23) (j := 1) dd_99_23
theorem vd_99_24 (E : ac_E) : ac_ok E md_99 24 (o_ne 33 27) := ok_icmpne (E := E) (d := md_99) (pc := 24) dd_99_24 (by decide)
theorem vd_99_27 (E : ac_E) : ac_ok E md_99 27 (o_ild 2 28) := ok_iload_n (E := E) (d := md_99) (pc := 27) (j := 2) dd_99_27
theorem vd_99_28 (E : ac_E) : ac_ok E md_99 28 (o_con (.int 1) 29) := ok_iconst (E := E) (d := md_99) (pc := 28) dd_99_28 (by decide)
theorem vd_99_29 (E : ac_E) : ac_ok E md_99 29 (o_add 30) := ok_iadd (E := E) (d := md_99) (pc := 29) dd_99_29
theorem vd_99_30 (E : ac_E) : ac_ok E md_99 30 (o_go 34) := ok_goto (E := E) (d := md_99) (pc := 30) dd_99_30 (by decide)
theorem vd_99_33 (E : ac_E) : ac_ok E md_99 33 (o_ild 2 34) := ok_iload_n (E := E) (d := md_99) (pc := 33) (j := 2) dd_99_33
theorem vd_99_34 (E : ac_E) : ac_ok E md_99 34 (o_ist 2 35) := ok_istore_n (E := E) (d := md_99) (pc := 34) (j := 2) dd_99_34
theorem vd_99_35 (E : ac_E) : ac_ok E md_99 35 (o_inc 3 1 38) := ok_iinc (E := E) (d := md_99) (pc := 35) dd_99_35 (by decide)
theorem vd_99_38 (E : ac_E) : ac_ok E md_99 38 (o_go 4) := ok_goto (E := E) (d := md_99) (pc := 38) dd_99_38 (by decide)
theorem vd_99_41 (E : ac_E) : ac_ok E md_99 41 (o_ild 2 42) := ok_iload_n (E := E) (d := md_99) (pc := 41) (j := 2) dd_99_41
theorem va_99 (E : ac_E) (pc : Nat) : ac_V E ac_MDf ac_HDf 99 pc (tb_99 (ac_len E) (ac_xs E) pc) := (ac_node (ac_node (ac_node (ac_node (ac_leaf 0 (⟨vd_99_0 E, mn_con _ _⟩)) (ac_node (ac_leaf 1 (⟨vd_99_1 E, mn_ist _ _⟩)) (ac_leaf 2 (⟨vd_99_2 E, mn_con _ _⟩)))) (ac_node (ac_leaf 3 (⟨vd_99_3 E, mn_ist _ _⟩)) (ac_node (ac_leaf 4 (⟨vd_99_4 E, mn_ild _ _⟩)) (ac_leaf 5 (⟨vd_99_5 E, mn_ald _ _⟩))))) (ac_node (ac_node (ac_leaf 6 (⟨vd_99_6 E, mn_get _ _ _⟩)) (ac_node (ac_leaf 9 (⟨vd_99_9 E, mn_ald _ _⟩)) (ac_leaf 10 (⟨vd_99_10 E, mn_get _ _ _⟩)))) (ac_node (ac_node (ac_leaf 13 (⟨vd_99_13 E, mn_mul _⟩)) (ac_leaf 14 (⟨vd_99_14 E, mn_ge _ _⟩))) (ac_node (ac_leaf 17 (⟨vd_99_17 E, mn_ald _ _⟩)) (ac_leaf 18 (⟨vd_99_18 E, mn_get _ _ _⟩)))))) (ac_node (ac_node (ac_node (ac_leaf 21 (⟨vd_99_21 E, mn_ild _ _⟩)) (ac_node (ac_leaf 22 (⟨vd_99_22 E, mn_ia _⟩)) (ac_leaf 23 (⟨vd_99_23 E, mn_ild _ _⟩)))) (ac_node (ac_node (ac_leaf 24 (⟨vd_99_24 E, mn_ne _ _⟩)) (ac_leaf 27 (⟨vd_99_27 E, mn_ild _ _⟩))) (ac_node (ac_leaf 28 (⟨vd_99_28 E, mn_con _ _⟩)) (ac_leaf 29 (⟨vd_99_29 E, mn_add _⟩))))) (ac_node (ac_node (ac_leaf 30 (⟨vd_99_30 E, mn_go _⟩)) (ac_node (ac_leaf 33 (⟨vd_99_33 E, mn_ild _ _⟩)) (ac_leaf 34 (⟨vd_99_34 E, mn_ist _ _⟩)))) (ac_node (ac_node (ac_leaf 35 (⟨vd_99_35 E, mn_inc _ _ _⟩)) (ac_leaf 38 (⟨vd_99_38 E, mn_go _⟩))) (ac_node (ac_leaf 41 (⟨vd_99_41 E, mn_ild _ _⟩)) (ac_leaf 42 (ac_Vr1 dd_99_42 rfl)))))))
theorem vd_100_0 (E : ac_E) : ac_ok E md_100 0 (o_ald 0 1) := ok_aload_n (E := E) (d := md_100) (pc := 0) (j := 0) dd_100_0
theorem vd_100_1 (E : ac_E) : ac_ok E md_100 1 (o_get 5 12 4) := ok_getf (E := E) (d := md_100) (pc := 1) (ci := 5) (f := 12) (C := RX5) (T := TX5) (N := 17) (ref := RX5) rfl win_5 (by decide) rfl wm_650 dd_100_1
theorem vd_100_4 (E : ac_E) : ac_ok E md_100 4 (o_con (.int 0) 5) := ok_iconst (E := E) (d := md_100) (pc := 4) dd_100_4 (by decide)
theorem vd_100_5 (E : ac_E) : ac_ok E md_100 5 (o_ia 6) := ok_iaload (E := E) (d := md_100) (pc := 5) dd_100_5
theorem vd_100_6 (E : ac_E) : ac_ok E md_100 6 (o_ist 2 7) := ok_istore_n (E := E) (d := md_100) (pc := 6) (j := 2) dd_100_6
theorem vd_100_7 (E : ac_E) : ac_ok E md_100 7 (o_ald 0 8) := ok_aload_n (E := E) (d := md_100) (pc := 7) (j := 0) dd_100_7
theorem vd_100_8 (E : ac_E) : ac_ok E md_100 8 (o_get 5 12 11) := ok_getf (E := E) (d := md_100) (pc := 8) (ci := 5) (f := 12) (C := RX5) (T := TX5) (N := 17) (ref := RX5) rfl win_5 (by decide) rfl wm_650 dd_100_8
theorem vd_100_11 (E : ac_E) : ac_ok E md_100 11 (o_con (.int 1) 12) := ok_iconst (E := E) (d := md_100) (pc := 11) dd_100_11 (by decide)
theorem vd_100_12 (E : ac_E) : ac_ok E md_100 12 (o_ia 13) := ok_iaload (E := E) (d := md_100) (pc := 12) dd_100_12
theorem vd_100_13 (E : ac_E) : ac_ok E md_100 13 (o_ist 3 14) := ok_istore_n (E := E) (d := md_100) (pc := 13) (j := 3) dd_100_13
theorem vd_100_14 (E : ac_E) : ac_ok E md_100 14 (o_ild 1 15) := ok_iload_n (E := E) (d := md_100) (pc := 14) (j := 1) dd_100_14
theorem vd_100_15 (E : ac_E) : ac_ok E md_100 15 (o_sw [48, 54, 60, 64, 71] 78) := ok_sw (E := E) (d := md_100) (pc := 15) dd_100_15 rfl (by decide) (by decide) (by decide +kernel)
theorem vd_100_48 (E : ac_E) : ac_ok E md_100 48 (o_con (.int 2) 49) := ok_iconst (E := E) (d := md_100) (pc := 48) dd_100_48 (by decide)
theorem vd_100_49 (E : ac_E) : ac_ok E md_100 49 (o_ild 2 50) := ok_iload_n (E := E) (d := md_100) (pc := 49) (j := 2) dd_100_49
theorem vd_100_50 (E : ac_E) : ac_ok E md_100 50 (o_mul 51) := ok_imul (E := E) (d := md_100) (pc := 50) dd_100_50
theorem vd_100_51 (E : ac_E) : ac_ok E md_100 51 (o_ild 3 52) := ok_iload_n (E := E) (d := md_100) (pc := 51) (j := 3) dd_100_51
theorem vd_100_52 (E : ac_E) : ac_ok E md_100 52 (o_add 53) := ok_iadd (E := E) (d := md_100) (pc := 52) dd_100_52
theorem vd_100_54 (E : ac_E) : ac_ok E md_100 54 (o_ild 2 55) := ok_iload_n (E := E) (d := md_100) (pc := 54) (j := 2) dd_100_54
theorem vd_100_55 (E : ac_E) : ac_ok E md_100 55 (o_con (.int 2) 56) := ok_iconst (E := E) (d := md_100) (pc := 55) dd_100_55 (by decide)
theorem vd_100_56 (E : ac_E) : ac_ok E md_100 56 (o_ild 3 57) := ok_iload_n (E := E) (d := md_100) (pc := 56) (j := 3) dd_100_56
theorem vd_100_57 (E : ac_E) : ac_ok E md_100 57 (o_mul 58) := ok_imul (E := E) (d := md_100) (pc := 57) dd_100_57
theorem vd_100_58 (E : ac_E) : ac_ok E md_100 58 (o_add 59) := ok_iadd (E := E) (d := md_100) (pc := 58) dd_100_58
theorem vd_100_60 (E : ac_E) : ac_ok E md_100 60 (o_ild 3 61) := ok_iload_n (E := E) (d := md_100) (pc := 60) (j := 3) dd_100_60
theorem vd_100_61 (E : ac_E) : ac_ok E md_100 61 (o_ild 2 62) := ok_iload_n (E := E) (d := md_100) (pc := 61) (j := 2) dd_100_61
theorem vd_100_62 (E : ac_E) : ac_ok E md_100 62 (o_sub 63) := ok_isub (E := E) (d := md_100) (pc := 62) dd_100_62
theorem vd_100_64 (E : ac_E) : ac_ok E md_100 64 (o_con (.int (-2)) 66) := ok_bipush (E := E) (d := md_100) (pc := 64) dd_100_64 (by decide)
theorem vd_100_66 (E : ac_E) : ac_ok E md_100 66 (o_ild 2 67) := ok_iload_n (E := E) (d := md_100) (pc := 66) (j := 2) dd_100_66
theorem vd_100_67 (E : ac_E) : ac_ok E md_100 67 (o_mul 68) := ok_imul (E := E) (d := md_100) (pc := 67) dd_100_67
theorem vd_100_68 (E : ac_E) : ac_ok E md_100 68 (o_ild 3 69) := ok_iload_n (E := E) (d := md_100) (pc := 68) (j := 3) dd_100_68
theorem vd_100_69 (E : ac_E) : ac_ok E md_100 69 (o_sub 70) := ok_isub (E := E) (d := md_100) (pc := 69) dd_100_69
theorem vd_100_71 (E : ac_E) : ac_ok E md_100 71 (o_ild 2 72) := ok_iload_n (E := E) (d := md_100) (pc := 71) (j := 2) dd_100_71
theorem vd_100_72 (E : ac_E) : ac_ok E md_100 72 (o_neg 73) := ok_ineg (E := E) (d := md_100) (pc := 72) dd_100_72
theorem vd_100_73 (E : ac_E) : ac_ok E md_100 73 (o_con (.int 2) 74) := ok_iconst (E := E) (d := md_100) (pc := 73) dd_100_73 (by decide)
theorem vd_100_74 (E : ac_E) : ac_ok E md_100 74 (o_ild 3 75) := ok_iload_n (E := E) (d := md_100) (pc := 74) (j := 3) dd_100_74
theorem vd_100_75 (E : ac_E) : ac_ok E md_100 75 (o_mul 76) := ok_imul (E := E) (d := md_100) (pc := 75) dd_100_75
theorem vd_100_76 (E : ac_E) : ac_ok E md_100 76 (o_sub 77) := ok_isub (E := E) (d := md_100) (pc := 76) dd_100_76
theorem vd_100_78 (E : ac_E) : ac_ok E md_100 78 (o_ild 2 79) := ok_iload_n (E := E) (d := md_100) (pc := 78) (j := 2) dd_100_78
theorem vd_100_79 (E : ac_E) : ac_ok E md_100 79 (o_ild 3 80) := ok_iload_n (E := E) (d := md_100) (pc := 79) (j := 3) dd_100_79
theorem vd_100_80 (E : ac_E) : ac_ok E md_100 80 (o_sub 81) := ok_isub (E := E) (d := md_100) (pc := 80) dd_100_80
theorem va_100 (E : ac_E) (pc : Nat) : ac_V E ac_MDf ac_HDf 100 pc (tb_100 (ac_len E) (ac_xs E) pc) := (ac_node (ac_node (ac_node (ac_node (ac_node (ac_leaf 0 (⟨vd_100_0 E, mn_ald _ _⟩)) (ac_leaf 1 (⟨vd_100_1 E, mn_get _ _ _⟩))) (ac_node (ac_leaf 4 (⟨vd_100_4 E, mn_con _ _⟩)) (ac_node (ac_leaf 5 (⟨vd_100_5 E, mn_ia _⟩)) (ac_leaf 6 (⟨vd_100_6 E, mn_ist _ _⟩))))) (ac_node (ac_node (ac_leaf 7 (⟨vd_100_7 E, mn_ald _ _⟩)) (ac_node (ac_leaf 8 (⟨vd_100_8 E, mn_get _ _ _⟩)) (ac_leaf 11 (⟨vd_100_11 E, mn_con _ _⟩)))) (ac_node (ac_leaf 12 (⟨vd_100_12 E, mn_ia _⟩)) (ac_node (ac_leaf 13 (⟨vd_100_13 E, mn_ist _ _⟩)) (ac_leaf 14 (⟨vd_100_14 E, mn_ild _ _⟩)))))) (ac_node (ac_node (ac_node (ac_leaf 15 (⟨vd_100_15 E, mn_sw _ _⟩)) (ac_leaf 48 (⟨vd_100_48 E, mn_con _ _⟩))) (ac_node (ac_leaf 49 (⟨vd_100_49 E, mn_ild _ _⟩)) (ac_node (ac_leaf 50 (⟨vd_100_50 E, mn_mul _⟩)) (ac_leaf 51 (⟨vd_100_51 E, mn_ild _ _⟩))))) (ac_node (ac_node (ac_leaf 52 (⟨vd_100_52 E, mn_add _⟩)) (ac_node (ac_leaf 53 (ac_Vr1 dd_100_53 rfl)) (ac_leaf 54 (⟨vd_100_54 E, mn_ild _ _⟩)))) (ac_node (ac_leaf 55 (⟨vd_100_55 E, mn_con _ _⟩)) (ac_node (ac_leaf 56 (⟨vd_100_56 E, mn_ild _ _⟩)) (ac_leaf 57 (⟨vd_100_57 E, mn_mul _⟩))))))) (ac_node (ac_node (ac_node (ac_node (ac_leaf 58 (⟨vd_100_58 E, mn_add _⟩)) (ac_leaf 59 (ac_Vr1 dd_100_59 rfl))) (ac_node (ac_leaf 60 (⟨vd_100_60 E, mn_ild _ _⟩)) (ac_node (ac_leaf 61 (⟨vd_100_61 E, mn_ild _ _⟩)) (ac_leaf 62 (⟨vd_100_62 E, mn_sub _⟩))))) (ac_node (ac_node (ac_leaf 63 (ac_Vr1 dd_100_63 rfl)) (ac_node (ac_leaf 64 (⟨vd_100_64 E, mn_con _ _⟩)) (ac_leaf 66 (⟨vd_100_66 E, mn_ild _ _⟩)))) (ac_node (ac_leaf 67 (⟨vd_100_67 E, mn_mul _⟩)) (ac_node (ac_leaf 68 (⟨vd_100_68 E, mn_ild _ _⟩)) (ac_leaf 69 (⟨vd_100_69 E, mn_sub _⟩)))))) (ac_node (ac_node (ac_node (ac_leaf 70 (ac_Vr1 dd_100_70 rfl)) (ac_node (ac_leaf 71 (⟨vd_100_71 E, mn_ild _ _⟩)) (ac_leaf 72 (⟨vd_100_72 E, mn_neg _⟩)))) (ac_node (ac_leaf 73 (⟨vd_100_73 E, mn_con _ _⟩)) (ac_node (ac_leaf 74 (⟨vd_100_74 E, mn_ild _ _⟩)) (ac_leaf 75 (⟨vd_100_75 E, mn_mul _⟩))))) (ac_node (ac_node (ac_leaf 76 (⟨vd_100_76 E, mn_sub _⟩)) (ac_node (ac_leaf 77 (ac_Vr1 dd_100_77 rfl)) (ac_leaf 78 (⟨vd_100_78 E, mn_ild _ _⟩)))) (ac_node (ac_leaf 79 (⟨vd_100_79 E, mn_ild _ _⟩)) (ac_node (ac_leaf 80 (⟨vd_100_80 E, mn_sub _⟩)) (ac_leaf 81 (ac_Vr1 dd_100_81 rfl))))))))
theorem vd_101_0 (E : ac_E) : ac_ok E md_101 0 (o_ald 0 1) := ok_aload_n (E := E) (d := md_101) (pc := 0) (j := 0) dd_101_0
theorem vd_101_1 (E : ac_E) : ac_ok E md_101 1 (o_get 5 5 4) := ok_getf (E := E) (d := md_101) (pc := 1) (ci := 5) (f := 5) (C := RX5) (T := TX5) (N := 17) (ref := RX5) rfl win_5 (by decide) rfl wm_643 dd_101_1
theorem vd_101_4 (E : ac_E) : ac_ok E md_101 4 (o_ild 1 5) := ok_iload_n (E := E) (d := md_101) (pc := 4) (j := 1) dd_101_4
theorem vd_101_5 (E : ac_E) : ac_ok E md_101 5 (o_ia 6) := ok_iaload (E := E) (d := md_101) (pc := 5) dd_101_5
theorem vd_101_6 (E : ac_E) : ac_ok E md_101 6 (o_ist 3 7) := ok_istore_n (E := E) (d := md_101) (pc := 6) (j := 3) dd_101_6
theorem vd_101_7 (E : ac_E) : ac_ok E md_101 7 (o_ald 0 8) := ok_aload_n (E := E) (d := md_101) (pc := 7) (j := 0) dd_101_7
theorem vd_101_8 (E : ac_E) : ac_ok E md_101 8 (o_get 5 5 11) := ok_getf (E := E) (d := md_101) (pc := 8) (ci := 5) (f := 5) (C := RX5) (T := TX5) (N := 17) (ref := RX5) rfl win_5 (by decide) rfl wm_643 dd_101_8
theorem vd_101_11 (E : ac_E) : ac_ok E md_101 11 (o_ild 1 12) := ok_iload_n (E := E) (d := md_101) (pc := 11) (j := 1) dd_101_11
theorem vd_101_12 (E : ac_E) : ac_ok E md_101 12 (o_ald 0 13) := ok_aload_n (E := E) (d := md_101) (pc := 12) (j := 0) dd_101_12
theorem vd_101_13 (E : ac_E) : ac_ok E md_101 13 (o_get 5 5 16) := ok_getf (E := E) (d := md_101) (pc := 13) (ci := 5) (f := 5) (C := RX5) (T := TX5) (N := 17) (ref := RX5) rfl win_5 (by decide) rfl wm_643 dd_101_13
theorem vd_101_16 (E : ac_E) : ac_ok E md_101 16 (o_ild 2 17) := ok_iload_n (E := E) (d := md_101) (pc := 16) (j := 2) dd_101_16
theorem vd_101_17 (E : ac_E) : ac_ok E md_101 17 (o_ia 18) := ok_iaload (E := E) (d := md_101) (pc := 17) dd_101_17
theorem vd_101_18 (E : ac_E) : ac_ok E md_101 18 (o_is 19) := ok_iastore (E := E) (d := md_101) (pc := 18) dd_101_18
theorem vd_101_19 (E : ac_E) : ac_ok E md_101 19 (o_ald 0 20) := ok_aload_n (E := E) (d := md_101) (pc := 19) (j := 0) dd_101_19
theorem vd_101_20 (E : ac_E) : ac_ok E md_101 20 (o_get 5 5 23) := ok_getf (E := E) (d := md_101) (pc := 20) (ci := 5) (f := 5) (C := RX5) (T := TX5) (N := 17) (ref := RX5) rfl win_5 (by decide) rfl wm_643 dd_101_20
theorem vd_101_23 (E : ac_E) : ac_ok E md_101 23 (o_ild 2 24) := ok_iload_n (E := E) (d := md_101) (pc := 23) (j := 2) dd_101_23
theorem vd_101_24 (E : ac_E) : ac_ok E md_101 24 (o_ild 3 25) := ok_iload_n (E := E) (d := md_101) (pc := 24) (j := 3) dd_101_24
theorem vd_101_25 (E : ac_E) : ac_ok E md_101 25 (o_is 26) := ok_iastore (E := E) (d := md_101) (pc := 25) dd_101_25
theorem vd_101_26 (E : ac_E) : ac_ok E md_101 26 (o_con (.int 0) 27) := ok_iconst (E := E) (d := md_101) (pc := 26) dd_101_26 (by decide)
theorem vd_101_27 (E : ac_E) : ac_ok E md_101 27 (o_ist 4 29) := ok_istore (E := E) (d := md_101) (pc := 27) dd_101_27
theorem vd_101_29 (E : ac_E) : ac_ok E md_101 29 (o_ild 4 31) := ok_iload (E := E) (d := md_101) (pc := 29) dd_101_29
theorem vd_101_31 (E : ac_E) : ac_ok E md_101 31 (o_ald 0 32) := ok_aload_n (E := E) (d := md_101) (pc := 31) (j := 0) dd_101_31
theorem vd_101_32 (E : ac_E) : ac_ok E md_101 32 (o_get 5 14 35) := ok_getf (E := E) (d := md_101) (pc := 32) (ci := 5) (f := 14) (C := RX5) (T := TX5) (N := 17) (ref := RX5) rfl win_5 (by decide) rfl wm_652 dd_101_32
theorem vd_101_35 (E : ac_E) : ac_ok E md_101 35 (o_ge 88 38) := ok_icmpge (E := E) (d := md_101) (pc := 35) dd_101_35 (by decide)
theorem vd_101_38 (E : ac_E) : ac_ok E md_101 38 (o_ald 0 39) := ok_aload_n (E := E) (d := md_101) (pc := 38) (j := 0) dd_101_38
theorem vd_101_39 (E : ac_E) : ac_ok E md_101 39 (o_get 5 15 42) := ok_getf (E := E) (d := md_101) (pc := 39) (ci := 5) (f := 15) (C := RX5) (T := TX5) (N := 17) (ref := RX5) rfl win_5 (by decide) rfl wm_653 dd_101_39
theorem vd_101_42 (E : ac_E) : ac_ok E md_101 42 (o_ild 4 44) := ok_iload (E := E) (d := md_101) (pc := 42) dd_101_42
theorem vd_101_44 (E : ac_E) : ac_ok E md_101 44 (o_ald 0 45) := ok_aload_n (E := E) (d := md_101) (pc := 44) (j := 0) dd_101_44
theorem vd_101_45 (E : ac_E) : ac_ok E md_101 45 (o_get 5 15 48) := ok_getf (E := E) (d := md_101) (pc := 45) (ci := 5) (f := 15) (C := RX5) (T := TX5) (N := 17) (ref := RX5) rfl win_5 (by decide) rfl wm_653 dd_101_45
theorem vd_101_48 (E : ac_E) : ac_ok E md_101 48 (o_ild 4 50) := ok_iload (E := E) (d := md_101) (pc := 48) dd_101_48
theorem vd_101_50 (E : ac_E) : ac_ok E md_101 50 (o_ia 51) := ok_iaload (E := E) (d := md_101) (pc := 50) dd_101_50
theorem vd_101_51 (E : ac_E) : ac_ok E md_101 51 (o_ild 1 52) := ok_iload_n (E := E) (d := md_101) (pc := 51) (j := 1) dd_101_51
theorem vd_101_52 (E : ac_E) : ac_ok E md_101 52 (o_ne 59 55) := ok_icmpne (E := E) (d := md_101) (pc := 52) dd_101_52 (by decide)
theorem vd_101_55 (E : ac_E) : ac_ok E md_101 55 (o_ild 2 56) := ok_iload_n (E := E) (d := md_101) (pc := 55) (j := 2) dd_101_55
theorem vd_101_56 (E : ac_E) : ac_ok E md_101 56 (o_go 81) := ok_goto (E := E) (d := md_101) (pc := 56) dd_101_56 (by decide)
theorem vd_101_59 (E : ac_E) : ac_ok E md_101 59 (o_ald 0 60) := ok_aload_n (E := E) (d := md_101) (pc := 59) (j := 0) dd_101_59
theorem vd_101_60 (E : ac_E) : ac_ok E md_101 60 (o_get 5 15 63) := ok_getf (E := E) (d := md_101) (pc := 60) (ci := 5) (f := 15) (C := RX5) (T := TX5) (N := 17) (ref := RX5) rfl win_5 (by decide) rfl wm_653 dd_101_60
theorem vd_101_63 (E : ac_E) : ac_ok E md_101 63 (o_ild 4 65) := ok_iload (E := E) (d := md_101) (pc := 63) dd_101_63
theorem vd_101_65 (E : ac_E) : ac_ok E md_101 65 (o_ia 66) := ok_iaload (E := E) (d := md_101) (pc := 65) dd_101_65
theorem vd_101_66 (E : ac_E) : ac_ok E md_101 66 (o_ild 2 67) := ok_iload_n (E := E) (d := md_101) (pc := 66) (j := 2) dd_101_66
theorem vd_101_67 (E : ac_E) : ac_ok E md_101 67 (o_ne 74 70) := ok_icmpne (E := E) (d := md_101) (pc := 67) dd_101_67 (by decide)
theorem vd_101_70 (E : ac_E) : ac_ok E md_101 70 (o_ild 1 71) := ok_iload_n (E := E) (d := md_101) (pc := 70) (j := 1) dd_101_70
theorem vd_101_71 (E : ac_E) : ac_ok E md_101 71 (o_go 81) := ok_goto (E := E) (d := md_101) (pc := 71) dd_101_71 (by decide)
theorem vd_101_74 (E : ac_E) : ac_ok E md_101 74 (o_ald 0 75) := ok_aload_n (E := E) (d := md_101) (pc := 74) (j := 0) dd_101_74
theorem vd_101_75 (E : ac_E) : ac_ok E md_101 75 (o_get 5 15 78) := ok_getf (E := E) (d := md_101) (pc := 75) (ci := 5) (f := 15) (C := RX5) (T := TX5) (N := 17) (ref := RX5) rfl win_5 (by decide) rfl wm_653 dd_101_75
theorem vd_101_78 (E : ac_E) : ac_ok E md_101 78 (o_ild 4 80) := ok_iload (E := E) (d := md_101) (pc := 78) dd_101_78
theorem vd_101_80 (E : ac_E) : ac_ok E md_101 80 (o_ia 81) := ok_iaload (E := E) (d := md_101) (pc := 80) dd_101_80
theorem vd_101_81 (E : ac_E) : ac_ok E md_101 81 (o_is 82) := ok_iastore (E := E) (d := md_101) (pc := 81) dd_101_81
theorem vd_101_82 (E : ac_E) : ac_ok E md_101 82 (o_inc 4 1 85) := ok_iinc (E := E) (d := md_101) (pc := 82) dd_101_82 (by decide)
theorem vd_101_85 (E : ac_E) : ac_ok E md_101 85 (o_go 29) := ok_goto (E := E) (d := md_101) (pc := 85) dd_101_85 (by decide)
theorem va_101 (E : ac_E) (pc : Nat) : ac_V E ac_MDf ac_HDf 101 pc (tb_101 (ac_len E) (ac_xs E) pc) := (ac_node (ac_node (ac_node (ac_node (ac_node (ac_leaf 0 (⟨vd_101_0 E, mn_ald _ _⟩)) (ac_node (ac_leaf 1 (⟨vd_101_1 E, mn_get _ _ _⟩)) (ac_leaf 4 (⟨vd_101_4 E, mn_ild _ _⟩)))) (ac_node (ac_leaf 5 (⟨vd_101_5 E, mn_ia _⟩)) (ac_node (ac_leaf 6 (⟨vd_101_6 E, mn_ist _ _⟩)) (ac_leaf 7 (⟨vd_101_7 E, mn_ald _ _⟩))))) (ac_node (ac_node (ac_leaf 8 (⟨vd_101_8 E, mn_get _ _ _⟩)) (ac_node (ac_leaf 11 (⟨vd_101_11 E, mn_ild _ _⟩)) (ac_leaf 12 (⟨vd_101_12 E, mn_ald _ _⟩)))) (ac_node (ac_leaf 13 (⟨vd_101_13 E, mn_get _ _ _⟩)) (ac_node (ac_leaf 16 (⟨vd_101_16 E, mn_ild _ _⟩)) (ac_leaf 17 (⟨vd_101_17 E, mn_ia _⟩)))))) (ac_node (ac_node (ac_node (ac_leaf 18 (⟨vd_101_18 E, mn_is _⟩)) (ac_node (ac_leaf 19 (⟨vd_101_19 E, mn_ald _ _⟩)) (ac_leaf 20 (⟨vd_101_20 E, mn_get _ _ _⟩)))) (ac_node (ac_leaf 23 (⟨vd_101_23 E, mn_ild _ _⟩)) (ac_node (ac_leaf 24 (⟨vd_101_24 E, mn_ild _ _⟩)) (ac_leaf 25 (⟨vd_101_25 E, mn_is _⟩))))) (ac_node (ac_node (ac_leaf 26 (⟨vd_101_26 E, mn_con _ _⟩)) (ac_node (ac_leaf 27 (⟨vd_101_27 E, mn_ist _ _⟩)) (ac_leaf 29 (⟨vd_101_29 E, mn_ild _ _⟩)))) (ac_node (ac_node (ac_leaf 31 (⟨vd_101_31 E, mn_ald _ _⟩)) (ac_leaf 32 (⟨vd_101_32 E, mn_get _ _ _⟩))) (ac_node (ac_leaf 35 (⟨vd_101_35 E, mn_ge _ _⟩)) (ac_leaf 38 (⟨vd_101_38 E, mn_ald _ _⟩))))))) (ac_node (ac_node (ac_node (ac_node (ac_leaf 39 (⟨vd_101_39 E, mn_get _ _ _⟩)) (ac_node (ac_leaf 42 (⟨vd_101_42 E, mn_ild _ _⟩)) (ac_leaf 44 (⟨vd_101_44 E, mn_ald _ _⟩)))) (ac_node (ac_leaf 45 (⟨vd_101_45 E, mn_get _ _ _⟩)) (ac_node (ac_leaf 48 (⟨vd_101_48 E, mn_ild _ _⟩)) (ac_leaf 50 (⟨vd_101_50 E, mn_ia _⟩))))) (ac_node (ac_node (ac_leaf 51 (⟨vd_101_51 E, mn_ild _ _⟩)) (ac_node (ac_leaf 52 (⟨vd_101_52 E, mn_ne _ _⟩)) (ac_leaf 55 (⟨vd_101_55 E, mn_ild _ _⟩)))) (ac_node (ac_node (ac_leaf 56 (⟨vd_101_56 E, mn_go _⟩)) (ac_leaf 59 (⟨vd_101_59 E, mn_ald _ _⟩))) (ac_node (ac_leaf 60 (⟨vd_101_60 E, mn_get _ _ _⟩)) (ac_leaf 63 (⟨vd_101_63 E, mn_ild _ _⟩)))))) (ac_node (ac_node (ac_node (ac_leaf 65 (⟨vd_101_65 E, mn_ia _⟩)) (ac_node (ac_leaf 66 (⟨vd_101_66 E, mn_ild _ _⟩)) (ac_leaf 67 (⟨vd_101_67 E, mn_ne _ _⟩)))) (ac_node (ac_leaf 70 (⟨vd_101_70 E, mn_ild _ _⟩)) (ac_node (ac_leaf 71 (⟨vd_101_71 E, mn_go _⟩)) (ac_leaf 74 (⟨vd_101_74 E, mn_ald _ _⟩))))) (ac_node (ac_node (ac_leaf 75 (⟨vd_101_75 E, mn_get _ _ _⟩)) (ac_node (ac_leaf 78 (⟨vd_101_78 E, mn_ild _ _⟩)) (ac_leaf 80 (⟨vd_101_80 E, mn_ia _⟩)))) (ac_node (ac_node (ac_leaf 81 (⟨vd_101_81 E, mn_is _⟩)) (ac_leaf 82 (⟨vd_101_82 E, mn_inc _ _ _⟩))) (ac_node (ac_leaf 85 (⟨vd_101_85 E, mn_go _⟩)) (ac_leaf 88 (ac_Vr0 dd_101_88 rfl))))))))
theorem vd_102_0 (E : ac_E) : ac_ok E md_102 0 (o_ild 1 1) := ok_iload_n (E := E) (d := md_102) (pc := 0) (j := 1) dd_102_0
theorem vd_102_1 (E : ac_E) : ac_ok E md_102 1 (o_ist 3 2) := ok_istore_n (E := E) (d := md_102) (pc := 1) (j := 3) dd_102_1
theorem vd_102_2 (E : ac_E) : ac_ok E md_102 2 (o_ild 3 3) := ok_iload_n (E := E) (d := md_102) (pc := 2) (j := 3) dd_102_2
theorem vd_102_3 (E : ac_E) : ac_ok E md_102 3 (o_ald 0 4) := ok_aload_n (E := E) (d := md_102) (pc := 3) (j := 0) dd_102_3
theorem vd_102_4 (E : ac_E) : ac_ok E md_102 4 (o_get 5 1 7) := ok_getf (E := E) (d := md_102) (pc := 4) (ci := 5) (f := 1) (C := RX5) (T := TX5) (N := 17) (ref := RX5) rfl win_5 (by decide) rfl wm_639 dd_102_4
theorem vd_102_7 (E : ac_E) : ac_ok E md_102 7 (o_ald 0 8) := ok_aload_n (E := E) (d := md_102) (pc := 7) (j := 0) dd_102_7
theorem vd_102_8 (E : ac_E) : ac_ok E md_102 8 (o_get 5 2 11) := ok_getf (E := E) (d := md_102) (pc := 8) (ci := 5) (f := 2) (C := RX5) (T := TX5) (N := 17) (ref := RX5) rfl win_5 (by decide) rfl wm_640 dd_102_8
theorem vd_102_11 (E : ac_E) : ac_ok E md_102 11 (o_mul 12) := ok_imul (E := E) (d := md_102) (pc := 11) dd_102_11
theorem vd_102_12 (E : ac_E) : ac_ok E md_102 12 (o_ge 68 15) := ok_icmpge (E := E) (d := md_102) (pc := 12) dd_102_12 (by decide)
theorem vd_102_15 (E : ac_E) : ac_ok E md_102 15 (o_ild 2 16) := ok_iload_n (E := E) (d := md_102) (pc := 15) (j := 2) dd_102_15
theorem vd_102_16 (E : ac_E) : ac_ok E md_102 16 (o_eq0 41 19) := ok_ifeq (E := E) (d := md_102) (pc := 16) dd_102_16 (by decide)
theorem vd_102_19 (E : ac_E) : ac_ok E md_102 19 (o_ald 0 20) := ok_aload_n (E := E) (d := md_102) (pc := 19) (j := 0) dd_102_19
theorem vd_102_20 (E : ac_E) : ac_ok E md_102 20 (o_get 5 6 23) := ok_getf (E := E) (d := md_102) (pc := 20) (ci := 5) (f := 6) (C := RX5) (T := TX5) (N := 17) (ref := RX5) rfl win_5 (by decide) rfl wm_644 dd_102_20
theorem vd_102_23 (E : ac_E) : ac_ok E md_102 23 (o_ild 3 24) := ok_iload_n (E := E) (d := md_102) (pc := 23) (j := 3) dd_102_23
theorem vd_102_24 (E : ac_E) : ac_ok E md_102 24 (o_ia 25) := ok_iaload (E := E) (d := md_102) (pc := 24) dd_102_24
theorem vd_102_25 (E : ac_E) : ac_ok E md_102 25 (o_con (.int 4) 26) := ok_iconst (E := E) (d := md_102) (pc := 25) dd_102_25 (by decide)
theorem vd_102_26 (E : ac_E) : ac_ok E md_102 26 (o_ne 62 29) := ok_icmpne (E := E) (d := md_102) (pc := 26) dd_102_26 (by decide)
theorem vd_102_29 (E : ac_E) : ac_ok E md_102 29 (o_ald 0 30) := ok_aload_n (E := E) (d := md_102) (pc := 29) (j := 0) dd_102_29
theorem vd_102_30 (E : ac_E) : ac_ok E md_102 30 (o_get 5 9 33) := ok_getf (E := E) (d := md_102) (pc := 30) (ci := 5) (f := 9) (C := RX5) (T := TX5) (N := 17) (ref := RX5) rfl win_5 (by decide) rfl wm_647 dd_102_30
theorem vd_102_33 (E : ac_E) : ac_ok E md_102 33 (o_ild 3 34) := ok_iload_n (E := E) (d := md_102) (pc := 33) (j := 3) dd_102_33
theorem vd_102_34 (E : ac_E) : ac_ok E md_102 34 (o_za 35) := ok_zaload (E := E) (d := md_102) (pc := 34) dd_102_34
theorem vd_102_35 (E : ac_E) : ac_ok E md_102 35 (o_ne0 62 38) := ok_ifne (E := E) (d := md_102) (pc := 35) dd_102_35 (by decide)
theorem vd_102_38 (E : ac_E) : ac_ok E md_102 38 (o_go 60) := ok_goto (E := E) (d := md_102) (pc := 38) dd_102_38 (by decide)
theorem vd_102_41 (E : ac_E) : ac_ok E md_102 41 (o_ald 0 42) := ok_aload_n (E := E) (d := md_102) (pc := 41) (j := 0) dd_102_41
theorem vd_102_42 (E : ac_E) : ac_ok E md_102 42 (o_get 5 6 45) := ok_getf (E := E) (d := md_102) (pc := 42) (ci := 5) (f := 6) (C := RX5) (T := TX5) (N := 17) (ref := RX5) rfl win_5 (by decide) rfl wm_644 dd_102_42
theorem vd_102_45 (E : ac_E) : ac_ok E md_102 45 (o_ild 3 46) := ok_iload_n (E := E) (d := md_102) (pc := 45) (j := 3) dd_102_45
theorem vd_102_46 (E : ac_E) : ac_ok E md_102 46 (o_ia 47) := ok_iaload (E := E) (d := md_102) (pc := 46) dd_102_46
theorem vd_102_47 (E : ac_E) : ac_ok E md_102 47 (o_con (.int 4) 48) := ok_iconst (E := E) (d := md_102) (pc := 47) dd_102_47 (by decide)
theorem vd_102_48 (E : ac_E) : ac_ok E md_102 48 (o_eq 62 51) := ok_icmpeq (E := E) (d := md_102) (pc := 48) dd_102_48 (by decide)
theorem vd_102_51 (E : ac_E) : ac_ok E md_102 51 (o_ald 0 52) := ok_aload_n (E := E) (d := md_102) (pc := 51) (j := 0) dd_102_51
theorem vd_102_52 (E : ac_E) : ac_ok E md_102 52 (o_get 5 9 55) := ok_getf (E := E) (d := md_102) (pc := 52) (ci := 5) (f := 9) (C := RX5) (T := TX5) (N := 17) (ref := RX5) rfl win_5 (by decide) rfl wm_647 dd_102_52
theorem vd_102_55 (E : ac_E) : ac_ok E md_102 55 (o_ild 3 56) := ok_iload_n (E := E) (d := md_102) (pc := 55) (j := 3) dd_102_55
theorem vd_102_56 (E : ac_E) : ac_ok E md_102 56 (o_za 57) := ok_zaload (E := E) (d := md_102) (pc := 56) dd_102_56
theorem vd_102_57 (E : ac_E) : ac_ok E md_102 57 (o_eq0 62 60) := ok_ifeq (E := E) (d := md_102) (pc := 57) dd_102_57 (by decide)
theorem vd_102_60 (E : ac_E) : ac_ok E md_102 60 (o_ild 3 61) := ok_iload_n (E := E) (d := md_102) (pc := 60) (j := 3) dd_102_60
theorem vd_102_62 (E : ac_E) : ac_ok E md_102 62 (o_inc 3 1 65) := ok_iinc (E := E) (d := md_102) (pc := 62) dd_102_62 (by decide)
theorem vd_102_65 (E : ac_E) : ac_ok E md_102 65 (o_go 2) := ok_goto (E := E) (d := md_102) (pc := 65) dd_102_65 (by decide)
theorem vd_102_68 (E : ac_E) : ac_ok E md_102 68 (o_con (.int (-1)) 69) := ok_iconst (E := E) (d := md_102) (pc := 68) dd_102_68 (by decide)
theorem va_102 (E : ac_E) (pc : Nat) : ac_V E ac_MDf ac_HDf 102 pc (tb_102 (ac_len E) (ac_xs E) pc) := (ac_node (ac_node (ac_node (ac_node (ac_node (ac_leaf 0 (⟨vd_102_0 E, mn_ild _ _⟩)) (ac_leaf 1 (⟨vd_102_1 E, mn_ist _ _⟩))) (ac_node (ac_leaf 2 (⟨vd_102_2 E, mn_ild _ _⟩)) (ac_node (ac_leaf 3 (⟨vd_102_3 E, mn_ald _ _⟩)) (ac_leaf 4 (⟨vd_102_4 E, mn_get _ _ _⟩))))) (ac_node (ac_node (ac_leaf 7 (⟨vd_102_7 E, mn_ald _ _⟩)) (ac_leaf 8 (⟨vd_102_8 E, mn_get _ _ _⟩))) (ac_node (ac_leaf 11 (⟨vd_102_11 E, mn_mul _⟩)) (ac_node (ac_leaf 12 (⟨vd_102_12 E, mn_ge _ _⟩)) (ac_leaf 15 (⟨vd_102_15 E, mn_ild _ _⟩)))))) (ac_node (ac_node (ac_node (ac_leaf 16 (⟨vd_102_16 E, mn_eq0 _ _⟩)) (ac_leaf 19 (⟨vd_102_19 E, mn_ald _ _⟩))) (ac_node (ac_leaf 20 (⟨vd_102_20 E, mn_get _ _ _⟩)) (ac_node (ac_leaf 23 (⟨vd_102_23 E, mn_ild _ _⟩)) (ac_leaf 24 (⟨vd_102_24 E, mn_ia _⟩))))) (ac_node (ac_node (ac_leaf 25 (⟨vd_102_25 E, mn_con _ _⟩)) (ac_leaf 26 (⟨vd_102_26 E, mn_ne _ _⟩))) (ac_node (ac_leaf 29 (⟨vd_102_29 E, mn_ald _ _⟩)) (ac_node (ac_leaf 30 (⟨vd_102_30 E, mn_get _ _ _⟩)) (ac_leaf 33 (⟨vd_102_33 E, mn_ild _ _⟩))))))) (ac_node (ac_node (ac_node (ac_node (ac_leaf 34 (⟨vd_102_34 E, mn_za _⟩)) (ac_leaf 35 (⟨vd_102_35 E, mn_ne0 _ _⟩))) (ac_node (ac_leaf 38 (⟨vd_102_38 E, mn_go _⟩)) (ac_node (ac_leaf 41 (⟨vd_102_41 E, mn_ald _ _⟩)) (ac_leaf 42 (⟨vd_102_42 E, mn_get _ _ _⟩))))) (ac_node (ac_node (ac_leaf 45 (⟨vd_102_45 E, mn_ild _ _⟩)) (ac_leaf 46 (⟨vd_102_46 E, mn_ia _⟩))) (ac_node (ac_leaf 47 (⟨vd_102_47 E, mn_con _ _⟩)) (ac_node (ac_leaf 48 (⟨vd_102_48 E, mn_eq _ _⟩)) (ac_leaf 51 (⟨vd_102_51 E, mn_ald _ _⟩)))))) (ac_node (ac_node (ac_node (ac_leaf 52 (⟨vd_102_52 E, mn_get _ _ _⟩)) (ac_leaf 55 (⟨vd_102_55 E, mn_ild _ _⟩))) (ac_node (ac_leaf 56 (⟨vd_102_56 E, mn_za _⟩)) (ac_node (ac_leaf 57 (⟨vd_102_57 E, mn_eq0 _ _⟩)) (ac_leaf 60 (⟨vd_102_60 E, mn_ild _ _⟩))))) (ac_node (ac_node (ac_leaf 61 (ac_Vr1 dd_102_61 rfl)) (ac_leaf 62 (⟨vd_102_62 E, mn_inc _ _ _⟩))) (ac_node (ac_leaf 65 (⟨vd_102_65 E, mn_go _⟩)) (ac_node (ac_leaf 68 (⟨vd_102_68 E, mn_con _ _⟩)) (ac_leaf 69 (ac_Vr1 dd_102_69 rfl))))))))
theorem vd_103_0 (E : ac_E) : ac_ok E md_103 0 (o_con (.int 0) 1) := ok_iconst (E := E) (d := md_103) (pc := 0) dd_103_0 (by decide)
theorem vd_103_1 (E : ac_E) : ac_ok E md_103 1 (o_ist 1 2) := ok_istore_n (E := E) (d := md_103) (pc := 1) (j := 1) dd_103_1
theorem vd_103_2 (E : ac_E) : ac_ok E md_103 2 (o_ild 1 3) := ok_iload_n (E := E) (d := md_103) (pc := 2) (j := 1) dd_103_2
theorem vd_103_3 (E : ac_E) : ac_ok E md_103 3 (o_con (.int 6) 5) := ok_bipush (E := E) (d := md_103) (pc := 3) dd_103_3 (by decide)
theorem vd_103_5 (E : ac_E) : ac_ok E md_103 5 (o_ge 28 8) := ok_icmpge (E := E) (d := md_103) (pc := 5) dd_103_5 (by decide)
theorem vd_103_8 (E : ac_E) : ac_ok E md_103 8 (o_ald 0 9) := ok_aload_n (E := E) (d := md_103) (pc := 8) (j := 0) dd_103_8
theorem vd_103_9 (E : ac_E) : ac_ok E md_103 9 (o_ild 1 10) := ok_iload_n (E := E) (d := md_103) (pc := 9) (j := 1) dd_103_9
theorem vd_103_10 (E : ac_E) : ac_okr E md_103 md_100 10 2 13 7 ∧ ac_okt E md_103 md_100 10 2 7 := ok_callV (E := E) (d := md_103) (dz := md_100) (pc := 10) (T := TX5) (N := 17) rfl rfl (by decide) (by decide +kernel) wm_824 wm_56 wm_821 wm_823 wm_45 dd_103_10
theorem vd_103_13 (E : ac_E) : ac_ok E md_103 13 (o_con (.int 2) 14) := ok_iconst (E := E) (d := md_103) (pc := 13) dd_103_13 (by decide)
theorem vd_103_14 (E : ac_E) : ac_ok E md_103 14 (o_ald 0 15) := ok_aload_n (E := E) (d := md_103) (pc := 14) (j := 0) dd_103_14
theorem vd_103_15 (E : ac_E) : ac_ok E md_103 15 (o_get 5 11 18) := ok_getf (E := E) (d := md_103) (pc := 15) (ci := 5) (f := 11) (C := RX5) (T := TX5) (N := 17) (ref := RX5) rfl win_5 (by decide) rfl wm_649 dd_103_15
theorem vd_103_18 (E : ac_E) : ac_ok E md_103 18 (o_mul 19) := ok_imul (E := E) (d := md_103) (pc := 18) dd_103_18
theorem vd_103_19 (E : ac_E) : ac_ok E md_103 19 (o_ge 28 22) := ok_icmpge (E := E) (d := md_103) (pc := 19) dd_103_19 (by decide)
theorem vd_103_22 (E : ac_E) : ac_ok E md_103 22 (o_inc 1 1 25) := ok_iinc (E := E) (d := md_103) (pc := 22) dd_103_22 (by decide)
theorem vd_103_25 (E : ac_E) : ac_ok E md_103 25 (o_go 2) := ok_goto (E := E) (d := md_103) (pc := 25) dd_103_25 (by decide)
theorem vd_103_28 (E : ac_E) : ac_ok E md_103 28 (o_ild 1 29) := ok_iload_n (E := E) (d := md_103) (pc := 28) (j := 1) dd_103_28
theorem vd_103_29 (E : ac_E) : ac_ok E md_103 29 (o_con (.int 6) 31) := ok_bipush (E := E) (d := md_103) (pc := 29) dd_103_29 (by decide)
theorem vd_103_31 (E : ac_E) : ac_ok E md_103 31 (o_eq 42 34) := ok_icmpeq (E := E) (d := md_103) (pc := 31) dd_103_31 (by decide)
theorem vd_103_34 (E : ac_E) : ac_ok E md_103 34 (o_ald 0 35) := ok_aload_n (E := E) (d := md_103) (pc := 34) (j := 0) dd_103_34
theorem vd_103_35 (E : ac_E) : ac_ok E md_103 35 (o_con (.int 4) 36) := ok_iconst (E := E) (d := md_103) (pc := 35) dd_103_35 (by decide)
theorem vd_103_36 (E : ac_E) : ac_okr E md_103 md_99 36 2 39 7 ∧ ac_okt E md_103 md_99 36 2 7 := ok_callV (E := E) (d := md_103) (dz := md_99) (pc := 36) (T := TX5) (N := 17) rfl rfl (by decide) (by decide +kernel) wm_828 wm_56 wm_825 wm_827 wm_46 dd_103_36
theorem vd_103_39 (E : ac_E) : ac_ok E md_103 39 (o_ne0 43 42) := ok_ifne (E := E) (d := md_103) (pc := 39) dd_103_39 (by decide)
theorem vd_103_43 (E : ac_E) : ac_ok E md_103 43 (o_con (.int 1) 44) := ok_iconst (E := E) (d := md_103) (pc := 43) dd_103_43 (by decide)
theorem vd_103_44 (E : ac_E) : ac_ok E md_103 44 (o_ist 2 45) := ok_istore_n (E := E) (d := md_103) (pc := 44) (j := 2) dd_103_44
theorem vd_103_45 (E : ac_E) : ac_ok E md_103 45 (o_con (.int 0) 46) := ok_iconst (E := E) (d := md_103) (pc := 45) dd_103_45 (by decide)
theorem vd_103_46 (E : ac_E) : ac_ok E md_103 46 (o_ist 3 47) := ok_istore_n (E := E) (d := md_103) (pc := 46) (j := 3) dd_103_46
theorem vd_103_47 (E : ac_E) : ac_ok E md_103 47 (o_ild 3 48) := ok_iload_n (E := E) (d := md_103) (pc := 47) (j := 3) dd_103_47
theorem vd_103_48 (E : ac_E) : ac_ok E md_103 48 (o_ald 0 49) := ok_aload_n (E := E) (d := md_103) (pc := 48) (j := 0) dd_103_48
theorem vd_103_49 (E : ac_E) : ac_ok E md_103 49 (o_get 5 1 52) := ok_getf (E := E) (d := md_103) (pc := 49) (ci := 5) (f := 1) (C := RX5) (T := TX5) (N := 17) (ref := RX5) rfl win_5 (by decide) rfl wm_639 dd_103_49
theorem vd_103_52 (E : ac_E) : ac_ok E md_103 52 (o_ald 0 53) := ok_aload_n (E := E) (d := md_103) (pc := 52) (j := 0) dd_103_52
theorem vd_103_53 (E : ac_E) : ac_ok E md_103 53 (o_get 5 2 56) := ok_getf (E := E) (d := md_103) (pc := 53) (ci := 5) (f := 2) (C := RX5) (T := TX5) (N := 17) (ref := RX5) rfl win_5 (by decide) rfl wm_640 dd_103_53
theorem vd_103_56 (E : ac_E) : ac_ok E md_103 56 (o_mul 57) := ok_imul (E := E) (d := md_103) (pc := 56) dd_103_56
theorem vd_103_57 (E : ac_E) : ac_ok E md_103 57 (o_ge 73 60) := ok_icmpge (E := E) (d := md_103) (pc := 57) dd_103_57 (by decide)
theorem vd_103_60 (E : ac_E) : ac_ok E md_103 60 (o_ald 0 61) := ok_aload_n (E := E) (d := md_103) (pc := 60) (j := 0) dd_103_60
theorem vd_103_61 (E : ac_E) : ac_ok E md_103 61 (o_get 5 9 64) := ok_getf (E := E) (d := md_103) (pc := 61) (ci := 5) (f := 9) (C := RX5) (T := TX5) (N := 17) (ref := RX5) rfl win_5 (by decide) rfl wm_647 dd_103_61
theorem vd_103_64 (E : ac_E) : ac_ok E md_103 64 (o_ild 3 65) := ok_iload_n (E := E) (d := md_103) (pc := 64) (j := 3) dd_103_64
theorem vd_103_65 (E : ac_E) : ac_ok E md_103 65 (o_con (.int 0) 66) := ok_iconst (E := E) (d := md_103) (pc := 65) dd_103_65 (by decide)
theorem vd_103_66 (E : ac_E) : ac_ok E md_103 66 (o_zs 67) := ok_zastore (E := E) (d := md_103) (pc := 66) dd_103_66
theorem vd_103_67 (E : ac_E) : ac_ok E md_103 67 (o_inc 3 1 70) := ok_iinc (E := E) (d := md_103) (pc := 67) dd_103_67 (by decide)
theorem vd_103_70 (E : ac_E) : ac_ok E md_103 70 (o_go 47) := ok_goto (E := E) (d := md_103) (pc := 70) dd_103_70 (by decide)
theorem vd_103_73 (E : ac_E) : ac_ok E md_103 73 (o_con (.int 0) 74) := ok_iconst (E := E) (d := md_103) (pc := 73) dd_103_73 (by decide)
theorem vd_103_74 (E : ac_E) : ac_ok E md_103 74 (o_ist 3 75) := ok_istore_n (E := E) (d := md_103) (pc := 74) (j := 3) dd_103_74
theorem vd_103_75 (E : ac_E) : ac_ok E md_103 75 (o_ild 3 76) := ok_iload_n (E := E) (d := md_103) (pc := 75) (j := 3) dd_103_75
theorem vd_103_76 (E : ac_E) : ac_ok E md_103 76 (o_ald 0 77) := ok_aload_n (E := E) (d := md_103) (pc := 76) (j := 0) dd_103_76
theorem vd_103_77 (E : ac_E) : ac_ok E md_103 77 (o_get 5 1 80) := ok_getf (E := E) (d := md_103) (pc := 77) (ci := 5) (f := 1) (C := RX5) (T := TX5) (N := 17) (ref := RX5) rfl win_5 (by decide) rfl wm_639 dd_103_77
theorem vd_103_80 (E : ac_E) : ac_ok E md_103 80 (o_ald 0 81) := ok_aload_n (E := E) (d := md_103) (pc := 80) (j := 0) dd_103_80
theorem vd_103_81 (E : ac_E) : ac_ok E md_103 81 (o_get 5 2 84) := ok_getf (E := E) (d := md_103) (pc := 81) (ci := 5) (f := 2) (C := RX5) (T := TX5) (N := 17) (ref := RX5) rfl win_5 (by decide) rfl wm_640 dd_103_81
theorem vd_103_84 (E : ac_E) : ac_ok E md_103 84 (o_mul 85) := ok_imul (E := E) (d := md_103) (pc := 84) dd_103_84
theorem vd_103_85 (E : ac_E) : ac_ok E md_103 85 (o_ge 140 88) := ok_icmpge (E := E) (d := md_103) (pc := 85) dd_103_85 (by decide)
theorem vd_103_88 (E : ac_E) : ac_ok E md_103 88 (o_ald 0 89) := ok_aload_n (E := E) (d := md_103) (pc := 88) (j := 0) dd_103_88
theorem vd_103_89 (E : ac_E) : ac_ok E md_103 89 (o_get 5 6 92) := ok_getf (E := E) (d := md_103) (pc := 89) (ci := 5) (f := 6) (C := RX5) (T := TX5) (N := 17) (ref := RX5) rfl win_5 (by decide) rfl wm_644 dd_103_89
theorem vd_103_92 (E : ac_E) : ac_ok E md_103 92 (o_ild 3 93) := ok_iload_n (E := E) (d := md_103) (pc := 92) (j := 3) dd_103_92
theorem vd_103_93 (E : ac_E) : ac_ok E md_103 93 (o_ia 94) := ok_iaload (E := E) (d := md_103) (pc := 93) dd_103_93
theorem vd_103_94 (E : ac_E) : ac_ok E md_103 94 (o_con (.int 4) 95) := ok_iconst (E := E) (d := md_103) (pc := 94) dd_103_94 (by decide)
theorem vd_103_95 (E : ac_E) : ac_ok E md_103 95 (o_ne 134 98) := ok_icmpne (E := E) (d := md_103) (pc := 95) dd_103_95 (by decide)
theorem vd_103_98 (E : ac_E) : ac_ok E md_103 98 (o_ald 0 99) := ok_aload_n (E := E) (d := md_103) (pc := 98) (j := 0) dd_103_98
theorem vd_103_99 (E : ac_E) : ac_ok E md_103 99 (o_get 5 9 102) := ok_getf (E := E) (d := md_103) (pc := 99) (ci := 5) (f := 9) (C := RX5) (T := TX5) (N := 17) (ref := RX5) rfl win_5 (by decide) rfl wm_647 dd_103_99
theorem vd_103_102 (E : ac_E) : ac_ok E md_103 102 (o_ald 0 103) := ok_aload_n (E := E) (d := md_103) (pc := 102) (j := 0) dd_103_102
theorem vd_103_103 (E : ac_E) : ac_ok E md_103 103 (o_ild 3 104) := ok_iload_n (E := E) (d := md_103) (pc := 103) (j := 3) dd_103_103
theorem vd_103_104 (E : ac_E) : ac_ok E md_103 104 (o_ild 1 105) := ok_iload_n (E := E) (d := md_103) (pc := 104) (j := 1) dd_103_104
theorem vd_103_105 (E : ac_E) : ac_okr E md_103 md_89 105 3 108 7 ∧ ac_okt E md_103 md_89 105 3 7 := ok_callV (E := E) (d := md_103) (dz := md_89) (pc := 105) (T := TX5) (N := 17) rfl rfl (by decide) (by decide +kernel) wm_792 wm_56 wm_789 wm_791 wm_38 dd_103_105
theorem vd_103_108 (E : ac_E) : ac_ok E md_103 108 (o_con (.int 1) 109) := ok_iconst (E := E) (d := md_103) (pc := 108) dd_103_108 (by decide)
theorem vd_103_109 (E : ac_E) : ac_ok E md_103 109 (o_zs 110) := ok_zastore (E := E) (d := md_103) (pc := 109) dd_103_109
theorem vd_103_110 (E : ac_E) : ac_ok E md_103 110 (o_ild 2 111) := ok_iload_n (E := E) (d := md_103) (pc := 110) (j := 2) dd_103_110
theorem vd_103_111 (E : ac_E) : ac_ok E md_103 111 (o_eq0 132 114) := ok_ifeq (E := E) (d := md_103) (pc := 111) dd_103_111 (by decide)
theorem vd_103_114 (E : ac_E) : ac_ok E md_103 114 (o_ald 0 115) := ok_aload_n (E := E) (d := md_103) (pc := 114) (j := 0) dd_103_114
theorem vd_103_115 (E : ac_E) : ac_ok E md_103 115 (o_ald 0 116) := ok_aload_n (E := E) (d := md_103) (pc := 115) (j := 0) dd_103_115
theorem vd_103_116 (E : ac_E) : ac_ok E md_103 116 (o_ild 3 117) := ok_iload_n (E := E) (d := md_103) (pc := 116) (j := 3) dd_103_116
theorem vd_103_117 (E : ac_E) : ac_ok E md_103 117 (o_ild 1 118) := ok_iload_n (E := E) (d := md_103) (pc := 117) (j := 1) dd_103_117
theorem vd_103_118 (E : ac_E) : ac_okr E md_103 md_89 118 3 121 7 ∧ ac_okt E md_103 md_89 118 3 7 := ok_callV (E := E) (d := md_103) (dz := md_89) (pc := 118) (T := TX5) (N := 17) rfl rfl (by decide) (by decide +kernel) wm_792 wm_56 wm_789 wm_791 wm_38 dd_103_118
theorem vd_103_121 (E : ac_E) : ac_ok E md_103 121 (o_con (.int 4) 122) := ok_iconst (E := E) (d := md_103) (pc := 121) dd_103_121 (by decide)
theorem vd_103_122 (E : ac_E) : ac_okr E md_103 md_79 122 3 125 7 ∧ ac_okt E md_103 md_79 122 3 7 := ok_callV (E := E) (d := md_103) (dz := md_79) (pc := 122) (T := TX5) (N := 17) rfl rfl (by decide) (by decide +kernel) wm_731 wm_56 wm_728 wm_730 wm_33 dd_103_122
theorem vd_103_125 (E : ac_E) : ac_ok E md_103 125 (o_ne0 132 128) := ok_ifne (E := E) (d := md_103) (pc := 125) dd_103_125 (by decide)
theorem vd_103_128 (E : ac_E) : ac_ok E md_103 128 (o_con (.int 1) 129) := ok_iconst (E := E) (d := md_103) (pc := 128) dd_103_128 (by decide)
theorem vd_103_129 (E : ac_E) : ac_ok E md_103 129 (o_go 133) := ok_goto (E := E) (d := md_103) (pc := 129) dd_103_129 (by decide)
theorem vd_103_132 (E : ac_E) : ac_ok E md_103 132 (o_con (.int 0) 133) := ok_iconst (E := E) (d := md_103) (pc := 132) dd_103_132 (by decide)
theorem vd_103_133 (E : ac_E) : ac_ok E md_103 133 (o_ist 2 134) := ok_istore_n (E := E) (d := md_103) (pc := 133) (j := 2) dd_103_133
theorem vd_103_134 (E : ac_E) : ac_ok E md_103 134 (o_inc 3 1 137) := ok_iinc (E := E) (d := md_103) (pc := 134) dd_103_134 (by decide)
theorem vd_103_137 (E : ac_E) : ac_ok E md_103 137 (o_go 75) := ok_goto (E := E) (d := md_103) (pc := 137) dd_103_137 (by decide)
theorem vd_103_140 (E : ac_E) : ac_ok E md_103 140 (o_ild 2 141) := ok_iload_n (E := E) (d := md_103) (pc := 140) (j := 2) dd_103_140
theorem vd_103_141 (E : ac_E) : ac_ok E md_103 141 (o_ne0 145 144) := ok_ifne (E := E) (d := md_103) (pc := 141) dd_103_141 (by decide)
theorem vd_103_145 (E : ac_E) : ac_ok E md_103 145 (o_ald 0 146) := ok_aload_n (E := E) (d := md_103) (pc := 145) (j := 0) dd_103_145
theorem vd_103_146 (E : ac_E) : ac_ok E md_103 146 (o_con (.int 0) 147) := ok_iconst (E := E) (d := md_103) (pc := 146) dd_103_146 (by decide)
theorem vd_103_147 (E : ac_E) : ac_ok E md_103 147 (o_con (.int 0) 148) := ok_iconst (E := E) (d := md_103) (pc := 147) dd_103_147 (by decide)
theorem vd_103_148 (E : ac_E) : ac_okr E md_103 md_102 148 3 151 7 ∧ ac_okt E md_103 md_102 148 3 7 := ok_callV (E := E) (d := md_103) (dz := md_102) (pc := 148) (T := TX5) (N := 17) rfl rfl (by decide) (by decide +kernel) wm_832 wm_56 wm_829 wm_831 wm_47 dd_103_148
theorem vd_103_151 (E : ac_E) : ac_ok E md_103 151 (o_ist 3 152) := ok_istore_n (E := E) (d := md_103) (pc := 151) (j := 3) dd_103_151
theorem vd_103_152 (E : ac_E) : ac_ok E md_103 152 (o_ald 0 153) := ok_aload_n (E := E) (d := md_103) (pc := 152) (j := 0) dd_103_152
theorem vd_103_153 (E : ac_E) : ac_ok E md_103 153 (o_con (.int 0) 154) := ok_iconst (E := E) (d := md_103) (pc := 153) dd_103_153 (by decide)
theorem vd_103_154 (E : ac_E) : ac_ok E md_103 154 (o_con (.int 1) 155) := ok_iconst (E := E) (d := md_103) (pc := 154) dd_103_154 (by decide)
theorem vd_103_155 (E : ac_E) : ac_okr E md_103 md_102 155 3 158 7 ∧ ac_okt E md_103 md_102 155 3 7 := ok_callV (E := E) (d := md_103) (dz := md_102) (pc := 155) (T := TX5) (N := 17) rfl rfl (by decide) (by decide +kernel) wm_832 wm_56 wm_829 wm_831 wm_47 dd_103_155
theorem vd_103_158 (E : ac_E) : ac_ok E md_103 158 (o_ist 4 160) := ok_istore (E := E) (d := md_103) (pc := 158) dd_103_158
theorem vd_103_160 (E : ac_E) : ac_ok E md_103 160 (o_ild 3 161) := ok_iload_n (E := E) (d := md_103) (pc := 160) (j := 3) dd_103_160
theorem vd_103_161 (E : ac_E) : ac_ok E md_103 161 (o_lt0 194 164) := ok_iflt (E := E) (d := md_103) (pc := 161) dd_103_161 (by decide)
theorem vd_103_164 (E : ac_E) : ac_ok E md_103 164 (o_ald 0 165) := ok_aload_n (E := E) (d := md_103) (pc := 164) (j := 0) dd_103_164
theorem vd_103_165 (E : ac_E) : ac_ok E md_103 165 (o_ild 3 166) := ok_iload_n (E := E) (d := md_103) (pc := 165) (j := 3) dd_103_165
theorem vd_103_166 (E : ac_E) : ac_ok E md_103 166 (o_ild 4 168) := ok_iload (E := E) (d := md_103) (pc := 166) dd_103_166
theorem vd_103_168 (E : ac_E) : ac_okr E md_103 md_101 168 3 171 7 ∧ ac_okt E md_103 md_101 168 3 7 := ok_callV (E := E) (d := md_103) (dz := md_101) (pc := 168) (T := TX5) (N := 17) rfl rfl (by decide) (by decide +kernel) wm_836 wm_56 wm_833 wm_835 wm_48 dd_103_168
theorem vd_103_171 (E : ac_E) : ac_ok E md_103 171 (o_ald 0 172) := ok_aload_n (E := E) (d := md_103) (pc := 171) (j := 0) dd_103_171
theorem vd_103_172 (E : ac_E) : ac_ok E md_103 172 (o_ild 3 173) := ok_iload_n (E := E) (d := md_103) (pc := 172) (j := 3) dd_103_172
theorem vd_103_173 (E : ac_E) : ac_ok E md_103 173 (o_con (.int 1) 174) := ok_iconst (E := E) (d := md_103) (pc := 173) dd_103_173 (by decide)
theorem vd_103_174 (E : ac_E) : ac_ok E md_103 174 (o_add 175) := ok_iadd (E := E) (d := md_103) (pc := 174) dd_103_174
theorem vd_103_175 (E : ac_E) : ac_ok E md_103 175 (o_con (.int 0) 176) := ok_iconst (E := E) (d := md_103) (pc := 175) dd_103_175 (by decide)
theorem vd_103_176 (E : ac_E) : ac_okr E md_103 md_102 176 3 179 7 ∧ ac_okt E md_103 md_102 176 3 7 := ok_callV (E := E) (d := md_103) (dz := md_102) (pc := 176) (T := TX5) (N := 17) rfl rfl (by decide) (by decide +kernel) wm_832 wm_56 wm_829 wm_831 wm_47 dd_103_176
theorem vd_103_179 (E : ac_E) : ac_ok E md_103 179 (o_ist 3 180) := ok_istore_n (E := E) (d := md_103) (pc := 179) (j := 3) dd_103_179
theorem vd_103_180 (E : ac_E) : ac_ok E md_103 180 (o_ald 0 181) := ok_aload_n (E := E) (d := md_103) (pc := 180) (j := 0) dd_103_180
theorem vd_103_181 (E : ac_E) : ac_ok E md_103 181 (o_ild 4 183) := ok_iload (E := E) (d := md_103) (pc := 181) dd_103_181
theorem vd_103_183 (E : ac_E) : ac_ok E md_103 183 (o_con (.int 1) 184) := ok_iconst (E := E) (d := md_103) (pc := 183) dd_103_183 (by decide)
theorem vd_103_184 (E : ac_E) : ac_ok E md_103 184 (o_add 185) := ok_iadd (E := E) (d := md_103) (pc := 184) dd_103_184
theorem vd_103_185 (E : ac_E) : ac_ok E md_103 185 (o_con (.int 1) 186) := ok_iconst (E := E) (d := md_103) (pc := 185) dd_103_185 (by decide)
theorem vd_103_186 (E : ac_E) : ac_okr E md_103 md_102 186 3 189 7 ∧ ac_okt E md_103 md_102 186 3 7 := ok_callV (E := E) (d := md_103) (dz := md_102) (pc := 186) (T := TX5) (N := 17) rfl rfl (by decide) (by decide +kernel) wm_832 wm_56 wm_829 wm_831 wm_47 dd_103_186
theorem vd_103_189 (E : ac_E) : ac_ok E md_103 189 (o_ist 4 191) := ok_istore (E := E) (d := md_103) (pc := 189) dd_103_189
theorem vd_103_191 (E : ac_E) : ac_ok E md_103 191 (o_go 160) := ok_goto (E := E) (d := md_103) (pc := 191) dd_103_191 (by decide)
theorem vd_103_194 (E : ac_E) : ac_ok E md_103 194 (o_con (.int 0) 195) := ok_iconst (E := E) (d := md_103) (pc := 194) dd_103_194 (by decide)
theorem vd_103_195 (E : ac_E) : ac_ok E md_103 195 (o_ist 5 197) := ok_istore (E := E) (d := md_103) (pc := 195) dd_103_195
theorem vd_103_197 (E : ac_E) : ac_ok E md_103 197 (o_ild 5 199) := ok_iload (E := E) (d := md_103) (pc := 197) dd_103_197
theorem vd_103_199 (E : ac_E) : ac_ok E md_103 199 (o_ald 0 200) := ok_aload_n (E := E) (d := md_103) (pc := 199) (j := 0) dd_103_199
theorem vd_103_200 (E : ac_E) : ac_ok E md_103 200 (o_get 5 1 203) := ok_getf (E := E) (d := md_103) (pc := 200) (ci := 5) (f := 1) (C := RX5) (T := TX5) (N := 17) (ref := RX5) rfl win_5 (by decide) rfl wm_639 dd_103_200
theorem vd_103_203 (E : ac_E) : ac_ok E md_103 203 (o_ald 0 204) := ok_aload_n (E := E) (d := md_103) (pc := 203) (j := 0) dd_103_203
theorem vd_103_204 (E : ac_E) : ac_ok E md_103 204 (o_get 5 2 207) := ok_getf (E := E) (d := md_103) (pc := 204) (ci := 5) (f := 2) (C := RX5) (T := TX5) (N := 17) (ref := RX5) rfl win_5 (by decide) rfl wm_640 dd_103_204
theorem vd_103_207 (E : ac_E) : ac_ok E md_103 207 (o_mul 208) := ok_imul (E := E) (d := md_103) (pc := 207) dd_103_207
theorem vd_103_208 (E : ac_E) : ac_ok E md_103 208 (o_ge 260 211) := ok_icmpge (E := E) (d := md_103) (pc := 208) dd_103_208 (by decide)
theorem vd_103_211 (E : ac_E) : ac_ok E md_103 211 (o_ald 0 212) := ok_aload_n (E := E) (d := md_103) (pc := 211) (j := 0) dd_103_211
theorem vd_103_212 (E : ac_E) : ac_ok E md_103 212 (o_get 5 6 215) := ok_getf (E := E) (d := md_103) (pc := 212) (ci := 5) (f := 6) (C := RX5) (T := TX5) (N := 17) (ref := RX5) rfl win_5 (by decide) rfl wm_644 dd_103_212
theorem vd_103_215 (E : ac_E) : ac_ok E md_103 215 (o_ild 5 217) := ok_iload (E := E) (d := md_103) (pc := 215) dd_103_215
theorem vd_103_217 (E : ac_E) : ac_ok E md_103 217 (o_ald 0 218) := ok_aload_n (E := E) (d := md_103) (pc := 217) (j := 0) dd_103_217
theorem vd_103_218 (E : ac_E) : ac_ok E md_103 218 (o_get 5 9 221) := ok_getf (E := E) (d := md_103) (pc := 218) (ci := 5) (f := 9) (C := RX5) (T := TX5) (N := 17) (ref := RX5) rfl win_5 (by decide) rfl wm_647 dd_103_218
theorem vd_103_221 (E : ac_E) : ac_ok E md_103 221 (o_ild 5 223) := ok_iload (E := E) (d := md_103) (pc := 221) dd_103_221
theorem vd_103_223 (E : ac_E) : ac_ok E md_103 223 (o_za 224) := ok_zaload (E := E) (d := md_103) (pc := 223) dd_103_223
theorem vd_103_224 (E : ac_E) : ac_ok E md_103 224 (o_eq0 231 227) := ok_ifeq (E := E) (d := md_103) (pc := 224) dd_103_224 (by decide)
theorem vd_103_227 (E : ac_E) : ac_ok E md_103 227 (o_con (.int 4) 228) := ok_iconst (E := E) (d := md_103) (pc := 227) dd_103_227 (by decide)
theorem vd_103_228 (E : ac_E) : ac_ok E md_103 228 (o_go 253) := ok_goto (E := E) (d := md_103) (pc := 228) dd_103_228 (by decide)
theorem vd_103_231 (E : ac_E) : ac_ok E md_103 231 (o_ald 0 232) := ok_aload_n (E := E) (d := md_103) (pc := 231) (j := 0) dd_103_231
theorem vd_103_232 (E : ac_E) : ac_ok E md_103 232 (o_get 5 6 235) := ok_getf (E := E) (d := md_103) (pc := 232) (ci := 5) (f := 6) (C := RX5) (T := TX5) (N := 17) (ref := RX5) rfl win_5 (by decide) rfl wm_644 dd_103_232
theorem vd_103_235 (E : ac_E) : ac_ok E md_103 235 (o_ild 5 237) := ok_iload (E := E) (d := md_103) (pc := 235) dd_103_235
theorem vd_103_237 (E : ac_E) : ac_ok E md_103 237 (o_ia 238) := ok_iaload (E := E) (d := md_103) (pc := 237) dd_103_237
theorem vd_103_238 (E : ac_E) : ac_ok E md_103 238 (o_con (.int 4) 239) := ok_iconst (E := E) (d := md_103) (pc := 238) dd_103_238 (by decide)
theorem vd_103_239 (E : ac_E) : ac_ok E md_103 239 (o_ne 246 242) := ok_icmpne (E := E) (d := md_103) (pc := 239) dd_103_239 (by decide)
theorem vd_103_242 (E : ac_E) : ac_ok E md_103 242 (o_con (.int 0) 243) := ok_iconst (E := E) (d := md_103) (pc := 242) dd_103_242 (by decide)
theorem vd_103_243 (E : ac_E) : ac_ok E md_103 243 (o_go 253) := ok_goto (E := E) (d := md_103) (pc := 243) dd_103_243 (by decide)
theorem vd_103_246 (E : ac_E) : ac_ok E md_103 246 (o_ald 0 247) := ok_aload_n (E := E) (d := md_103) (pc := 246) (j := 0) dd_103_246
theorem vd_103_247 (E : ac_E) : ac_ok E md_103 247 (o_get 5 6 250) := ok_getf (E := E) (d := md_103) (pc := 247) (ci := 5) (f := 6) (C := RX5) (T := TX5) (N := 17) (ref := RX5) rfl win_5 (by decide) rfl wm_644 dd_103_247
theorem vd_103_250 (E : ac_E) : ac_ok E md_103 250 (o_ild 5 252) := ok_iload (E := E) (d := md_103) (pc := 250) dd_103_250
theorem vd_103_252 (E : ac_E) : ac_ok E md_103 252 (o_ia 253) := ok_iaload (E := E) (d := md_103) (pc := 252) dd_103_252
theorem vd_103_253 (E : ac_E) : ac_ok E md_103 253 (o_is 254) := ok_iastore (E := E) (d := md_103) (pc := 253) dd_103_253
theorem vd_103_254 (E : ac_E) : ac_ok E md_103 254 (o_inc 5 1 257) := ok_iinc (E := E) (d := md_103) (pc := 254) dd_103_254 (by decide)
theorem vd_103_257 (E : ac_E) : ac_ok E md_103 257 (o_go 197) := ok_goto (E := E) (d := md_103) (pc := 257) dd_103_257 (by decide)
theorem vd_103_260 (E : ac_E) : ac_ok E md_103 260 (o_ald 0 261) := ok_aload_n (E := E) (d := md_103) (pc := 260) (j := 0) dd_103_260
theorem vd_103_261 (E : ac_E) : ac_ok E md_103 261 (o_get 5 12 264) := ok_getf (E := E) (d := md_103) (pc := 261) (ci := 5) (f := 12) (C := RX5) (T := TX5) (N := 17) (ref := RX5) rfl win_5 (by decide) rfl wm_650 dd_103_261
theorem vd_103_264 (E : ac_E) : ac_ok E md_103 264 (o_con (.int 0) 265) := ok_iconst (E := E) (d := md_103) (pc := 264) dd_103_264 (by decide)
theorem vd_103_265 (E : ac_E) : ac_ok E md_103 265 (o_ald 0 266) := ok_aload_n (E := E) (d := md_103) (pc := 265) (j := 0) dd_103_265
theorem vd_103_266 (E : ac_E) : ac_ok E md_103 266 (o_get 5 12 269) := ok_getf (E := E) (d := md_103) (pc := 266) (ci := 5) (f := 12) (C := RX5) (T := TX5) (N := 17) (ref := RX5) rfl win_5 (by decide) rfl wm_650 dd_103_266
theorem vd_103_269 (E : ac_E) : ac_ok E md_103 269 (o_con (.int 0) 270) := ok_iconst (E := E) (d := md_103) (pc := 269) dd_103_269 (by decide)
theorem vd_103_270 (E : ac_E) : ac_ok E md_103 270 (o_ia 271) := ok_iaload (E := E) (d := md_103) (pc := 270) dd_103_270
theorem vd_103_271 (E : ac_E) : ac_ok E md_103 271 (o_ald 0 272) := ok_aload_n (E := E) (d := md_103) (pc := 271) (j := 0) dd_103_271
theorem vd_103_272 (E : ac_E) : ac_ok E md_103 272 (o_get 5 11 275) := ok_getf (E := E) (d := md_103) (pc := 272) (ci := 5) (f := 11) (C := RX5) (T := TX5) (N := 17) (ref := RX5) rfl win_5 (by decide) rfl wm_649 dd_103_272
theorem vd_103_275 (E : ac_E) : ac_ok E md_103 275 (o_ild 1 276) := ok_iload_n (E := E) (d := md_103) (pc := 275) (j := 1) dd_103_275
theorem vd_103_276 (E : ac_E) : ac_ok E md_103 276 (o_con (.int 0) 277) := ok_iconst (E := E) (d := md_103) (pc := 276) dd_103_276 (by decide)
theorem vd_103_277 (E : ac_E) : ac_okr E md_103 md_69 277 2 280 0 ∧ ac_okt E md_103 md_69 277 2 0 := ok_callS (E := E) (d := md_103) (dz := md_69) (pc := 277) rfl (by decide) (by decide +kernel) wm_807 wm_56 wm_805 wm_806 dd_103_277
theorem vd_103_280 (E : ac_E) : ac_ok E md_103 280 (o_mul 281) := ok_imul (E := E) (d := md_103) (pc := 280) dd_103_280
theorem vd_103_281 (E : ac_E) : ac_ok E md_103 281 (o_sub 282) := ok_isub (E := E) (d := md_103) (pc := 281) dd_103_281
theorem vd_103_282 (E : ac_E) : ac_ok E md_103 282 (o_is 283) := ok_iastore (E := E) (d := md_103) (pc := 282) dd_103_282
theorem vd_103_283 (E : ac_E) : ac_ok E md_103 283 (o_ald 0 284) := ok_aload_n (E := E) (d := md_103) (pc := 283) (j := 0) dd_103_283
theorem vd_103_284 (E : ac_E) : ac_ok E md_103 284 (o_get 5 12 287) := ok_getf (E := E) (d := md_103) (pc := 284) (ci := 5) (f := 12) (C := RX5) (T := TX5) (N := 17) (ref := RX5) rfl win_5 (by decide) rfl wm_650 dd_103_284
theorem vd_103_287 (E : ac_E) : ac_ok E md_103 287 (o_con (.int 1) 288) := ok_iconst (E := E) (d := md_103) (pc := 287) dd_103_287 (by decide)
theorem vd_103_288 (E : ac_E) : ac_ok E md_103 288 (o_ald 0 289) := ok_aload_n (E := E) (d := md_103) (pc := 288) (j := 0) dd_103_288
theorem vd_103_289 (E : ac_E) : ac_ok E md_103 289 (o_get 5 12 292) := ok_getf (E := E) (d := md_103) (pc := 289) (ci := 5) (f := 12) (C := RX5) (T := TX5) (N := 17) (ref := RX5) rfl win_5 (by decide) rfl wm_650 dd_103_289
theorem vd_103_292 (E : ac_E) : ac_ok E md_103 292 (o_con (.int 1) 293) := ok_iconst (E := E) (d := md_103) (pc := 292) dd_103_292 (by decide)
theorem vd_103_293 (E : ac_E) : ac_ok E md_103 293 (o_ia 294) := ok_iaload (E := E) (d := md_103) (pc := 293) dd_103_293
theorem vd_103_294 (E : ac_E) : ac_ok E md_103 294 (o_ald 0 295) := ok_aload_n (E := E) (d := md_103) (pc := 294) (j := 0) dd_103_294
theorem vd_103_295 (E : ac_E) : ac_ok E md_103 295 (o_get 5 11 298) := ok_getf (E := E) (d := md_103) (pc := 295) (ci := 5) (f := 11) (C := RX5) (T := TX5) (N := 17) (ref := RX5) rfl win_5 (by decide) rfl wm_649 dd_103_295
theorem vd_103_298 (E : ac_E) : ac_ok E md_103 298 (o_ild 1 299) := ok_iload_n (E := E) (d := md_103) (pc := 298) (j := 1) dd_103_298
theorem vd_103_299 (E : ac_E) : ac_ok E md_103 299 (o_con (.int 1) 300) := ok_iconst (E := E) (d := md_103) (pc := 299) dd_103_299 (by decide)
theorem vd_103_300 (E : ac_E) : ac_okr E md_103 md_69 300 2 303 0 ∧ ac_okt E md_103 md_69 300 2 0 := ok_callS (E := E) (d := md_103) (dz := md_69) (pc := 300) rfl (by decide) (by decide +kernel) wm_807 wm_56 wm_805 wm_806 dd_103_300
theorem vd_103_303 (E : ac_E) : ac_ok E md_103 303 (o_mul 304) := ok_imul (E := E) (d := md_103) (pc := 303) dd_103_303
theorem vd_103_304 (E : ac_E) : ac_ok E md_103 304 (o_sub 305) := ok_isub (E := E) (d := md_103) (pc := 304) dd_103_304
theorem vd_103_305 (E : ac_E) : ac_ok E md_103 305 (o_is 306) := ok_iastore (E := E) (d := md_103) (pc := 305) dd_103_305
theorem vd_103_306 (E : ac_E) : ac_ok E md_103 306 (o_ald 0 307) := ok_aload_n (E := E) (d := md_103) (pc := 306) (j := 0) dd_103_306
theorem vd_103_307 (E : ac_E) : ac_ok E md_103 307 (o_dup 308) := ok_dup (E := E) (d := md_103) (pc := 307) dd_103_307
theorem vd_103_308 (E : ac_E) : ac_ok E md_103 308 (o_get 5 13 311) := ok_getf (E := E) (d := md_103) (pc := 308) (ci := 5) (f := 13) (C := RX5) (T := TX5) (N := 17) (ref := RX5) rfl win_5 (by decide) rfl wm_651 dd_103_308
theorem vd_103_311 (E : ac_E) : ac_ok E md_103 311 (o_con (.int 1) 312) := ok_iconst (E := E) (d := md_103) (pc := 311) dd_103_311 (by decide)
theorem vd_103_312 (E : ac_E) : ac_ok E md_103 312 (o_add 313) := ok_iadd (E := E) (d := md_103) (pc := 312) dd_103_312
theorem vd_103_313 (E : ac_E) : ac_ok E md_103 313 (o_put 5 13 316) := ok_putf (E := E) (d := md_103) (pc := 313) (ci := 5) (f := 13) (C := RX5) (T := TX5) (N := 17) (ref := RX5) rfl win_5 (by decide) rfl tyX5 tyX5_ok nmX5 (by decide +kernel) rfl wm_651 dd_103_313
theorem va_103 (E : ac_E) (pc : Nat) : ac_V E ac_MDf ac_HDf 103 pc (tb_103 (ac_len E) (ac_xs E) pc) := (ac_node (ac_node (ac_node (ac_node (ac_node (ac_node (ac_node (ac_leaf 0 (⟨vd_103_0 E, mn_con _ _⟩)) (ac_leaf 1 (⟨vd_103_1 E, mn_ist _ _⟩))) (ac_node (ac_leaf 2 (⟨vd_103_2 E, mn_ild _ _⟩)) (ac_node (ac_leaf 3 (⟨vd_103_3 E, mn_con _ _⟩)) (ac_leaf 5 (⟨vd_103_5 E, mn_ge _ _⟩))))) (ac_node (ac_node (ac_leaf 8 (⟨vd_103_8 E, mn_ald _ _⟩)) (ac_node (ac_leaf 9 (⟨vd_103_9 E, mn_ild _ _⟩)) (ac_leaf 10 (ac_Vc0 ((vd_103_10 E).1) (fun _ => rfl))))) (ac_node (ac_leaf 13 (⟨vd_103_13 E, mn_con _ _⟩)) (ac_node (ac_leaf 14 (⟨vd_103_14 E, mn_ald _ _⟩)) (ac_leaf 15 (⟨vd_103_15 E, mn_get _ _ _⟩)))))) (ac_node (ac_node (ac_node (ac_leaf 18 (⟨vd_103_18 E, mn_mul _⟩)) (ac_node (ac_leaf 19 (⟨vd_103_19 E, mn_ge _ _⟩)) (ac_leaf 22 (⟨vd_103_22 E, mn_inc _ _ _⟩)))) (ac_node (ac_leaf 25 (⟨vd_103_25 E, mn_go _⟩)) (ac_node (ac_leaf 28 (⟨vd_103_28 E, mn_ild _ _⟩)) (ac_leaf 29 (⟨vd_103_29 E, mn_con _ _⟩))))) (ac_node (ac_node (ac_leaf 31 (⟨vd_103_31 E, mn_eq _ _⟩)) (ac_node (ac_leaf 34 (⟨vd_103_34 E, mn_ald _ _⟩)) (ac_leaf 35 (⟨vd_103_35 E, mn_con _ _⟩)))) (ac_node (ac_leaf 36 (ac_Vc0 ((vd_103_36 E).1) (fun _ => rfl))) (ac_node (ac_leaf 39 (⟨vd_103_39 E, mn_ne0 _ _⟩)) (ac_leaf 42 (ac_Vr0 dd_103_42 rfl))))))) (ac_node (ac_node (ac_node (ac_node (ac_leaf 43 (⟨vd_103_43 E, mn_con _ _⟩)) (ac_leaf 44 (⟨vd_103_44 E, mn_ist _ _⟩))) (ac_node (ac_leaf 45 (⟨vd_103_45 E, mn_con _ _⟩)) (ac_node (ac_leaf 46 (⟨vd_103_46 E, mn_ist _ _⟩)) (ac_leaf 47 (⟨vd_103_47 E, mn_ild _ _⟩))))) (ac_node (ac_node (ac_leaf 48 (⟨vd_103_48 E, mn_ald _ _⟩)) (ac_node (ac_leaf 49 (⟨vd_103_49 E, mn_get _ _ _⟩)) (ac_leaf 52 (⟨vd_103_52 E, mn_ald _ _⟩)))) (ac_node (ac_leaf 53 (⟨vd_103_53 E, mn_get _ _ _⟩)) (ac_node (ac_leaf 56 (⟨vd_103_56 E, mn_mul _⟩)) (ac_leaf 57 (⟨vd_103_57 E, mn_ge _ _⟩)))))) (ac_node (ac_node (ac_node (ac_leaf 60 (⟨vd_103_60 E, mn_ald _ _⟩)) (ac_node (ac_leaf 61 (⟨vd_103_61 E, mn_get _ _ _⟩)) (ac_leaf 64 (⟨vd_103_64 E, mn_ild _ _⟩)))) (ac_node (ac_leaf 65 (⟨vd_103_65 E, mn_con _ _⟩)) (ac_node (ac_leaf 66 (⟨vd_103_66 E, mn_zs _⟩)) (ac_leaf 67 (⟨vd_103_67 E, mn_inc _ _ _⟩))))) (ac_node (ac_node (ac_leaf 70 (⟨vd_103_70 E, mn_go _⟩)) (ac_node (ac_leaf 73 (⟨vd_103_73 E, mn_con _ _⟩)) (ac_leaf 74 (⟨vd_103_74 E, mn_ist _ _⟩)))) (ac_node (ac_leaf 75 (⟨vd_103_75 E, mn_ild _ _⟩)) (ac_node (ac_leaf 76 (⟨vd_103_76 E, mn_ald _ _⟩)) (ac_leaf 77 (⟨vd_103_77 E, mn_get _ _ _⟩)))))))) (ac_node (ac_node (ac_node (ac_node (ac_node (ac_leaf 80 (⟨vd_103_80 E, mn_ald _ _⟩)) (ac_leaf 81 (⟨vd_103_81 E, mn_get _ _ _⟩))) (ac_node (ac_leaf 84 (⟨vd_103_84 E, mn_mul _⟩)) (ac_node (ac_leaf 85 (⟨vd_103_85 E, mn_ge _ _⟩)) (ac_leaf 88 (⟨vd_103_88 E, mn_ald _ _⟩))))) (ac_node (ac_node (ac_leaf 89 (⟨vd_103_89 E, mn_get _ _ _⟩)) (ac_node (ac_leaf 92 (⟨vd_103_92 E, mn_ild _ _⟩)) (ac_leaf 93 (⟨vd_103_93 E, mn_ia _⟩)))) (ac_node (ac_leaf 94 (⟨vd_103_94 E, mn_con _ _⟩)) (ac_node (ac_leaf 95 (⟨vd_103_95 E, mn_ne _ _⟩)) (ac_leaf 98 (⟨vd_103_98 E, mn_ald _ _⟩)))))) (ac_node (ac_node (ac_node (ac_leaf 99 (⟨vd_103_99 E, mn_get _ _ _⟩)) (ac_node (ac_leaf 102 (⟨vd_103_102 E, mn_ald _ _⟩)) (ac_leaf 103 (⟨vd_103_103 E, mn_ild _ _⟩)))) (ac_node (ac_leaf 104 (⟨vd_103_104 E, mn_ild _ _⟩)) (ac_node (ac_leaf 105 (ac_Vc0 ((vd_103_105 E).1) (fun _ => rfl))) (ac_leaf 108 (⟨vd_103_108 E, mn_con _ _⟩))))) (ac_node (ac_node (ac_leaf 109 (⟨vd_103_109 E, mn_zs _⟩)) (ac_node (ac_leaf 110 (⟨vd_103_110 E, mn_ild _ _⟩)) (ac_leaf 111 (⟨vd_103_111 E, mn_eq0 _ _⟩)))) (ac_node (ac_leaf 114 (⟨vd_103_114 E, mn_ald _ _⟩)) (ac_node (ac_leaf 115 (⟨vd_103_115 E, mn_ald _ _⟩)) (ac_leaf 116 (⟨vd_103_116 E, mn_ild _ _⟩))))))) (ac_node (ac_node (ac_node (ac_node (ac_leaf 117 (⟨vd_103_117 E, mn_ild _ _⟩)) (ac_leaf 118 (ac_Vc0 ((vd_103_118 E).1) (fun _ => rfl)))) (ac_node (ac_leaf 121 (⟨vd_103_121 E, mn_con _ _⟩)) (ac_node (ac_leaf 122 (ac_Vc0 ((vd_103_122 E).1) (fun _ => rfl))) (ac_leaf 125 (⟨vd_103_125 E, mn_ne0 _ _⟩))))) (ac_node (ac_node (ac_leaf 128 (⟨vd_103_128 E, mn_con _ _⟩)) (ac_node (ac_leaf 129 (⟨vd_103_129 E, mn_go _⟩)) (ac_leaf 132 (⟨vd_103_132 E, mn_con _ _⟩)))) (ac_node (ac_leaf 133 (⟨vd_103_133 E, mn_ist _ _⟩)) (ac_node (ac_leaf 134 (⟨vd_103_134 E, mn_inc _ _ _⟩)) (ac_leaf 137 (⟨vd_103_137 E, mn_go _⟩)))))) (ac_node (ac_node (ac_node (ac_leaf 140 (⟨vd_103_140 E, mn_ild _ _⟩)) (ac_node (ac_leaf 141 (⟨vd_103_141 E, mn_ne0 _ _⟩)) (ac_leaf 144 (ac_Vr0 dd_103_144 rfl)))) (ac_node (ac_leaf 145 (⟨vd_103_145 E, mn_ald _ _⟩)) (ac_node (ac_leaf 146 (⟨vd_103_146 E, mn_con _ _⟩)) (ac_leaf 147 (⟨vd_103_147 E, mn_con _ _⟩))))) (ac_node (ac_node (ac_leaf 148 (ac_Vc0 ((vd_103_148 E).1) (fun _ => rfl))) (ac_node (ac_leaf 151 (⟨vd_103_151 E, mn_ist _ _⟩)) (ac_leaf 152 (⟨vd_103_152 E, mn_ald _ _⟩)))) (ac_node (ac_leaf 153 (⟨vd_103_153 E, mn_con _ _⟩)) (ac_node (ac_leaf 154 (⟨vd_103_154 E, mn_con _ _⟩)) (ac_leaf 155 (ac_Vc0 ((vd_103_155 E).1) (fun _ => rfl)))))))))) (ac_node (ac_node (ac_node (ac_node (ac_node (ac_node (ac_leaf 158 (⟨vd_103_158 E, mn_ist _ _⟩)) (ac_leaf 160 (⟨vd_103_160 E, mn_ild _ _⟩))) (ac_node (ac_leaf 161 (⟨vd_103_161 E, mn_lt0 _ _⟩)) (ac_node (ac_leaf 164 (⟨vd_103_164 E, mn_ald _ _⟩)) (ac_leaf 165 (⟨vd_103_165 E, mn_ild _ _⟩))))) (ac_node (ac_node (ac_leaf 166 (⟨vd_103_166 E, mn_ild _ _⟩)) (ac_node (ac_leaf 168 (ac_Vc0 ((vd_103_168 E).1) (fun _ => rfl))) (ac_leaf 171 (⟨vd_103_171 E, mn_ald _ _⟩)))) (ac_node (ac_leaf 172 (⟨vd_103_172 E, mn_ild _ _⟩)) (ac_node (ac_leaf 173 (⟨vd_103_173 E, mn_con _ _⟩)) (ac_leaf 174 (⟨vd_103_174 E, mn_add _⟩)))))) (ac_node (ac_node (ac_node (ac_leaf 175 (⟨vd_103_175 E, mn_con _ _⟩)) (ac_node (ac_leaf 176 (ac_Vc0 ((vd_103_176 E).1) (fun _ => rfl))) (ac_leaf 179 (⟨vd_103_179 E, mn_ist _ _⟩)))) (ac_node (ac_leaf 180 (⟨vd_103_180 E, mn_ald _ _⟩)) (ac_node (ac_leaf 181 (⟨vd_103_181 E, mn_ild _ _⟩)) (ac_leaf 183 (⟨vd_103_183 E, mn_con _ _⟩))))) (ac_node (ac_node (ac_leaf 184 (⟨vd_103_184 E, mn_add _⟩)) (ac_node (ac_leaf 185 (⟨vd_103_185 E, mn_con _ _⟩)) (ac_leaf 186 (ac_Vc0 ((vd_103_186 E).1) (fun _ => rfl))))) (ac_node (ac_leaf 189 (⟨vd_103_189 E, mn_ist _ _⟩)) (ac_node (ac_leaf 191 (⟨vd_103_191 E, mn_go _⟩)) (ac_leaf 194 (⟨vd_103_194 E, mn_con _ _⟩))))))) (ac_node (ac_node (ac_node (ac_node (ac_leaf 195 (⟨vd_103_195 E, mn_ist _ _⟩)) (ac_leaf 197 (⟨vd_103_197 E, mn_ild _ _⟩))) (ac_node (ac_leaf 199 (⟨vd_103_199 E, mn_ald _ _⟩)) (ac_node (ac_leaf 200 (⟨vd_103_200 E, mn_get _ _ _⟩)) (ac_leaf 203 (⟨vd_103_203 E, mn_ald _ _⟩))))) (ac_node (ac_node (ac_leaf 204 (⟨vd_103_204 E, mn_get _ _ _⟩)) (ac_node (ac_leaf 207 (⟨vd_103_207 E, mn_mul _⟩)) (ac_leaf 208 (⟨vd_103_208 E, mn_ge _ _⟩)))) (ac_node (ac_leaf 211 (⟨vd_103_211 E, mn_ald _ _⟩)) (ac_node (ac_leaf 212 (⟨vd_103_212 E, mn_get _ _ _⟩)) (ac_leaf 215 (⟨vd_103_215 E, mn_ild _ _⟩)))))) (ac_node (ac_node (ac_node (ac_leaf 217 (⟨vd_103_217 E, mn_ald _ _⟩)) (ac_node (ac_leaf 218 (⟨vd_103_218 E, mn_get _ _ _⟩)) (ac_leaf 221 (⟨vd_103_221 E, mn_ild _ _⟩)))) (ac_node (ac_leaf 223 (⟨vd_103_223 E, mn_za _⟩)) (ac_node (ac_leaf 224 (⟨vd_103_224 E, mn_eq0 _ _⟩)) (ac_leaf 227 (⟨vd_103_227 E, mn_con _ _⟩))))) (ac_node (ac_node (ac_leaf 228 (⟨vd_103_228 E, mn_go _⟩)) (ac_node (ac_leaf 231 (⟨vd_103_231 E, mn_ald _ _⟩)) (ac_leaf 232 (⟨vd_103_232 E, mn_get _ _ _⟩)))) (ac_node (ac_leaf 235 (⟨vd_103_235 E, mn_ild _ _⟩)) (ac_node (ac_leaf 237 (⟨vd_103_237 E, mn_ia _⟩)) (ac_leaf 238 (⟨vd_103_238 E, mn_con _ _⟩)))))))) (ac_node (ac_node (ac_node (ac_node (ac_node (ac_leaf 239 (⟨vd_103_239 E, mn_ne _ _⟩)) (ac_leaf 242 (⟨vd_103_242 E, mn_con _ _⟩))) (ac_node (ac_leaf 243 (⟨vd_103_243 E, mn_go _⟩)) (ac_node (ac_leaf 246 (⟨vd_103_246 E, mn_ald _ _⟩)) (ac_leaf 247 (⟨vd_103_247 E, mn_get _ _ _⟩))))) (ac_node (ac_node (ac_leaf 250 (⟨vd_103_250 E, mn_ild _ _⟩)) (ac_node (ac_leaf 252 (⟨vd_103_252 E, mn_ia _⟩)) (ac_leaf 253 (⟨vd_103_253 E, mn_is _⟩)))) (ac_node (ac_leaf 254 (⟨vd_103_254 E, mn_inc _ _ _⟩)) (ac_node (ac_leaf 257 (⟨vd_103_257 E, mn_go _⟩)) (ac_leaf 260 (⟨vd_103_260 E, mn_ald _ _⟩)))))) (ac_node (ac_node (ac_node (ac_leaf 261 (⟨vd_103_261 E, mn_get _ _ _⟩)) (ac_node (ac_leaf 264 (⟨vd_103_264 E, mn_con _ _⟩)) (ac_leaf 265 (⟨vd_103_265 E, mn_ald _ _⟩)))) (ac_node (ac_leaf 266 (⟨vd_103_266 E, mn_get _ _ _⟩)) (ac_node (ac_leaf 269 (⟨vd_103_269 E, mn_con _ _⟩)) (ac_leaf 270 (⟨vd_103_270 E, mn_ia _⟩))))) (ac_node (ac_node (ac_leaf 271 (⟨vd_103_271 E, mn_ald _ _⟩)) (ac_node (ac_leaf 272 (⟨vd_103_272 E, mn_get _ _ _⟩)) (ac_leaf 275 (⟨vd_103_275 E, mn_ild _ _⟩)))) (ac_node (ac_leaf 276 (⟨vd_103_276 E, mn_con _ _⟩)) (ac_node (ac_leaf 277 (ac_Vc0 ((vd_103_277 E).1) (fun _ => rfl))) (ac_leaf 280 (⟨vd_103_280 E, mn_mul _⟩))))))) (ac_node (ac_node (ac_node (ac_node (ac_leaf 281 (⟨vd_103_281 E, mn_sub _⟩)) (ac_node (ac_leaf 282 (⟨vd_103_282 E, mn_is _⟩)) (ac_leaf 283 (⟨vd_103_283 E, mn_ald _ _⟩)))) (ac_node (ac_leaf 284 (⟨vd_103_284 E, mn_get _ _ _⟩)) (ac_node (ac_leaf 287 (⟨vd_103_287 E, mn_con _ _⟩)) (ac_leaf 288 (⟨vd_103_288 E, mn_ald _ _⟩))))) (ac_node (ac_node (ac_leaf 289 (⟨vd_103_289 E, mn_get _ _ _⟩)) (ac_node (ac_leaf 292 (⟨vd_103_292 E, mn_con _ _⟩)) (ac_leaf 293 (⟨vd_103_293 E, mn_ia _⟩)))) (ac_node (ac_leaf 294 (⟨vd_103_294 E, mn_ald _ _⟩)) (ac_node (ac_leaf 295 (⟨vd_103_295 E, mn_get _ _ _⟩)) (ac_leaf 298 (⟨vd_103_298 E, mn_ild _ _⟩)))))) (ac_node (ac_node (ac_node (ac_leaf 299 (⟨vd_103_299 E, mn_con _ _⟩)) (ac_node (ac_leaf 300 (ac_Vc0 ((vd_103_300 E).1) (fun _ => rfl))) (ac_leaf 303 (⟨vd_103_303 E, mn_mul _⟩)))) (ac_node (ac_leaf 304 (⟨vd_103_304 E, mn_sub _⟩)) (ac_node (ac_leaf 305 (⟨vd_103_305 E, mn_is _⟩)) (ac_leaf 306 (⟨vd_103_306 E, mn_ald _ _⟩))))) (ac_node (ac_node (ac_leaf 307 (⟨vd_103_307 E, mn_dup _⟩)) (ac_node (ac_leaf 308 (⟨vd_103_308 E, mn_get _ _ _⟩)) (ac_leaf 311 (⟨vd_103_311 E, mn_con _ _⟩)))) (ac_node (ac_leaf 312 (⟨vd_103_312 E, mn_add _⟩)) (ac_node (ac_leaf 313 (⟨vd_103_313 E, mn_put _ _ _⟩)) (ac_leaf 316 (ac_Vr0 dd_103_316 rfl))))))))))
theorem vd_104_0 (E : ac_E) : ac_ok E md_104 0 (o_ald 0 1) := ok_aload_n (E := E) (d := md_104) (pc := 0) (j := 0) dd_104_0
theorem vd_104_1 (E : ac_E) : ac_ok E md_104 1 (o_ild 1 2) := ok_iload_n (E := E) (d := md_104) (pc := 1) (j := 1) dd_104_1
theorem vd_104_2 (E : ac_E) : ac_ok E md_104 2 (o_lt0 11 5) := ok_iflt (E := E) (d := md_104) (pc := 2) dd_104_2 (by decide)
theorem vd_104_5 (E : ac_E) : ac_ok E md_104 5 (o_ild 1 6) := ok_iload_n (E := E) (d := md_104) (pc := 5) (j := 1) dd_104_5
theorem vd_104_6 (E : ac_E) : ac_ok E md_104 6 (o_con (.int 64) 8) := ok_bipush (E := E) (d := md_104) (pc := 6) dd_104_6 (by decide)
theorem vd_104_8 (E : ac_E) : ac_ok E md_104 8 (o_le 15 11) := ok_icmple (E := E) (d := md_104) (pc := 8) dd_104_8 (by decide)
theorem vd_104_11 (E : ac_E) : ac_ok E md_104 11 (o_con (.int 1) 12) := ok_iconst (E := E) (d := md_104) (pc := 11) dd_104_11 (by decide)
theorem vd_104_12 (E : ac_E) : ac_ok E md_104 12 (o_go 16) := ok_goto (E := E) (d := md_104) (pc := 12) dd_104_12 (by decide)
theorem vd_104_15 (E : ac_E) : ac_ok E md_104 15 (o_con (.int 0) 16) := ok_iconst (E := E) (d := md_104) (pc := 15) dd_104_15 (by decide)
theorem vd_104_16 (E : ac_E) : ac_ok E md_104 16 (o_put 5 0 19) := ok_putf (E := E) (d := md_104) (pc := 16) (ci := 5) (f := 0) (C := RX5) (T := TX5) (N := 17) (ref := RX5) rfl win_5 (by decide) rfl tyX5 tyX5_ok nmX5 (by decide +kernel) rfl wm_638 dd_104_16
theorem vd_104_19 (E : ac_E) : ac_ok E md_104 19 (o_ald 0 20) := ok_aload_n (E := E) (d := md_104) (pc := 19) (j := 0) dd_104_19
theorem vd_104_20 (E : ac_E) : ac_ok E md_104 20 (o_get 5 0 23) := ok_getf (E := E) (d := md_104) (pc := 20) (ci := 5) (f := 0) (C := RX5) (T := TX5) (N := 17) (ref := RX5) rfl win_5 (by decide) rfl wm_638 dd_104_20
theorem vd_104_23 (E : ac_E) : ac_ok E md_104 23 (o_le0 28 26) := ok_ifle (E := E) (d := md_104) (pc := 23) dd_104_23 (by decide)
theorem vd_104_26 (E : ac_E) : ac_ok E md_104 26 (o_con (.int 0) 27) := ok_iconst (E := E) (d := md_104) (pc := 26) dd_104_26 (by decide)
theorem vd_104_28 (E : ac_E) : ac_ok E md_104 28 (o_con (.int 0) 29) := ok_iconst (E := E) (d := md_104) (pc := 28) dd_104_28 (by decide)
theorem vd_104_29 (E : ac_E) : ac_ok E md_104 29 (o_ist 2 30) := ok_istore_n (E := E) (d := md_104) (pc := 29) (j := 2) dd_104_29
theorem vd_104_30 (E : ac_E) : ac_ok E md_104 30 (o_ild 2 31) := ok_iload_n (E := E) (d := md_104) (pc := 30) (j := 2) dd_104_30
theorem vd_104_31 (E : ac_E) : ac_ok E md_104 31 (o_ild 1 32) := ok_iload_n (E := E) (d := md_104) (pc := 31) (j := 1) dd_104_31
theorem vd_104_32 (E : ac_E) : ac_ok E md_104 32 (o_ge 69 35) := ok_icmpge (E := E) (d := md_104) (pc := 32) dd_104_32 (by decide)
theorem vd_104_35 (E : ac_E) : ac_ok E md_104 35 (o_ald 0 36) := ok_aload_n (E := E) (d := md_104) (pc := 35) (j := 0) dd_104_35
theorem vd_104_36 (E : ac_E) : ac_ok E md_104 36 (o_con (.int 0) 37) := ok_iconst (E := E) (d := md_104) (pc := 36) dd_104_36 (by decide)
theorem vd_104_37 (E : ac_E) : ac_okr E md_104 md_92 37 2 40 7 ∧ ac_okt E md_104 md_92 37 2 7 := ok_callV (E := E) (d := md_104) (dz := md_92) (pc := 37) (T := TX5) (N := 17) rfl rfl (by decide) (by decide +kernel) wm_771 wm_56 wm_768 wm_770 wm_35 dd_104_37
theorem vd_104_40 (E : ac_E) : ac_ok E md_104 40 (o_ald 0 41) := ok_aload_n (E := E) (d := md_104) (pc := 40) (j := 0) dd_104_40
theorem vd_104_41 (E : ac_E) : ac_ok E md_104 41 (o_con (.int 0) 42) := ok_iconst (E := E) (d := md_104) (pc := 41) dd_104_41 (by decide)
theorem vd_104_42 (E : ac_E) : ac_okr E md_104 md_93 42 2 45 7 ∧ ac_okt E md_104 md_93 42 2 7 := ok_callV (E := E) (d := md_104) (dz := md_93) (pc := 42) (T := TX5) (N := 17) rfl rfl (by decide) (by decide +kernel) wm_788 wm_56 wm_785 wm_787 wm_37 dd_104_42
theorem vd_104_45 (E : ac_E) : ac_ok E md_104 45 (o_ald 0 46) := ok_aload_n (E := E) (d := md_104) (pc := 45) (j := 0) dd_104_45
theorem vd_104_46 (E : ac_E) : ac_okr E md_104 md_98 46 1 49 7 ∧ ac_okt E md_104 md_98 46 1 7 := ok_callV (E := E) (d := md_104) (dz := md_98) (pc := 46) (T := TX5) (N := 17) rfl rfl (by decide) (by decide +kernel) wm_796 wm_56 wm_793 wm_795 wm_39 dd_104_46
theorem vd_104_49 (E : ac_E) : ac_ok E md_104 49 (o_ald 0 50) := ok_aload_n (E := E) (d := md_104) (pc := 49) (j := 0) dd_104_49
theorem vd_104_50 (E : ac_E) : ac_okr E md_104 md_103 50 1 53 7 ∧ ac_okt E md_104 md_103 50 1 7 := ok_callV (E := E) (d := md_104) (dz := md_103) (pc := 50) (T := TX5) (N := 17) rfl rfl (by decide) (by decide +kernel) wm_820 wm_56 wm_817 wm_819 wm_44 dd_104_50
theorem vd_104_53 (E : ac_E) : ac_ok E md_104 53 (o_ald 0 54) := ok_aload_n (E := E) (d := md_104) (pc := 53) (j := 0) dd_104_53
theorem vd_104_54 (E : ac_E) : ac_ok E md_104 54 (o_dup 55) := ok_dup (E := E) (d := md_104) (pc := 54) dd_104_54
theorem vd_104_55 (E : ac_E) : ac_ok E md_104 55 (o_get 5 3 58) := ok_getf (E := E) (d := md_104) (pc := 55) (ci := 5) (f := 3) (C := RX5) (T := TX5) (N := 17) (ref := RX5) rfl win_5 (by decide) rfl wm_641 dd_104_55
theorem vd_104_58 (E : ac_E) : ac_ok E md_104 58 (o_con (.int 1) 59) := ok_iconst (E := E) (d := md_104) (pc := 58) dd_104_58 (by decide)
theorem vd_104_59 (E : ac_E) : ac_ok E md_104 59 (o_add 60) := ok_iadd (E := E) (d := md_104) (pc := 59) dd_104_59
theorem vd_104_60 (E : ac_E) : ac_ok E md_104 60 (o_put 5 3 63) := ok_putf (E := E) (d := md_104) (pc := 60) (ci := 5) (f := 3) (C := RX5) (T := TX5) (N := 17) (ref := RX5) rfl win_5 (by decide) rfl tyX5 tyX5_ok nmX5 (by decide +kernel) rfl wm_641 dd_104_60
theorem vd_104_63 (E : ac_E) : ac_ok E md_104 63 (o_inc 2 1 66) := ok_iinc (E := E) (d := md_104) (pc := 63) dd_104_63 (by decide)
theorem vd_104_66 (E : ac_E) : ac_ok E md_104 66 (o_go 30) := ok_goto (E := E) (d := md_104) (pc := 66) dd_104_66 (by decide)
theorem vd_104_69 (E : ac_E) : ac_ok E md_104 69 (o_ald 0 70) := ok_aload_n (E := E) (d := md_104) (pc := 69) (j := 0) dd_104_69
theorem vd_104_70 (E : ac_E) : ac_ok E md_104 70 (o_get 5 3 73) := ok_getf (E := E) (d := md_104) (pc := 70) (ci := 5) (f := 3) (C := RX5) (T := TX5) (N := 17) (ref := RX5) rfl win_5 (by decide) rfl wm_641 dd_104_70
theorem va_104 (E : ac_E) (pc : Nat) : ac_V E ac_MDf ac_HDf 104 pc (tb_104 (ac_len E) (ac_xs E) pc) := (ac_node (ac_node (ac_node (ac_node (ac_node (ac_leaf 0 (⟨vd_104_0 E, mn_ald _ _⟩)) (ac_leaf 1 (⟨vd_104_1 E, mn_ild _ _⟩))) (ac_node (ac_leaf 2 (⟨vd_104_2 E, mn_lt0 _ _⟩)) (ac_node (ac_leaf 5 (⟨vd_104_5 E, mn_ild _ _⟩)) (ac_leaf 6 (⟨vd_104_6 E, mn_con _ _⟩))))) (ac_node (ac_node (ac_leaf 8 (⟨vd_104_8 E, mn_le _ _⟩)) (ac_leaf 11 (⟨vd_104_11 E, mn_con _ _⟩))) (ac_node (ac_leaf 12 (⟨vd_104_12 E, mn_go _⟩)) (ac_node (ac_leaf 15 (⟨vd_104_15 E, mn_con _ _⟩)) (ac_leaf 16 (⟨vd_104_16 E, mn_put _ _ _⟩)))))) (ac_node (ac_node (ac_node (ac_leaf 19 (⟨vd_104_19 E, mn_ald _ _⟩)) (ac_leaf 20 (⟨vd_104_20 E, mn_get _ _ _⟩))) (ac_node (ac_leaf 23 (⟨vd_104_23 E, mn_le0 _ _⟩)) (ac_node (ac_leaf 26 (⟨vd_104_26 E, mn_con _ _⟩)) (ac_leaf 27 (ac_Vr1 dd_104_27 rfl))))) (ac_node (ac_node (ac_leaf 28 (⟨vd_104_28 E, mn_con _ _⟩)) (ac_leaf 29 (⟨vd_104_29 E, mn_ist _ _⟩))) (ac_node (ac_leaf 30 (⟨vd_104_30 E, mn_ild _ _⟩)) (ac_node (ac_leaf 31 (⟨vd_104_31 E, mn_ild _ _⟩)) (ac_leaf 32 (⟨vd_104_32 E, mn_ge _ _⟩))))))) (ac_node (ac_node (ac_node (ac_node (ac_leaf 35 (⟨vd_104_35 E, mn_ald _ _⟩)) (ac_leaf 36 (⟨vd_104_36 E, mn_con _ _⟩))) (ac_node (ac_leaf 37 (ac_Vc0 ((vd_104_37 E).1) (fun _ => rfl))) (ac_node (ac_leaf 40 (⟨vd_104_40 E, mn_ald _ _⟩)) (ac_leaf 41 (⟨vd_104_41 E, mn_con _ _⟩))))) (ac_node (ac_node (ac_leaf 42 (ac_Vc0 ((vd_104_42 E).1) (fun _ => rfl))) (ac_leaf 45 (⟨vd_104_45 E, mn_ald _ _⟩))) (ac_node (ac_leaf 46 (ac_Vc0 ((vd_104_46 E).1) (fun _ => rfl))) (ac_node (ac_leaf 49 (⟨vd_104_49 E, mn_ald _ _⟩)) (ac_leaf 50 (ac_Vc0 ((vd_104_50 E).1) (fun _ => rfl))))))) (ac_node (ac_node (ac_node (ac_leaf 53 (⟨vd_104_53 E, mn_ald _ _⟩)) (ac_leaf 54 (⟨vd_104_54 E, mn_dup _⟩))) (ac_node (ac_leaf 55 (⟨vd_104_55 E, mn_get _ _ _⟩)) (ac_node (ac_leaf 58 (⟨vd_104_58 E, mn_con _ _⟩)) (ac_leaf 59 (⟨vd_104_59 E, mn_add _⟩))))) (ac_node (ac_node (ac_leaf 60 (⟨vd_104_60 E, mn_put _ _ _⟩)) (ac_node (ac_leaf 63 (⟨vd_104_63 E, mn_inc _ _ _⟩)) (ac_leaf 66 (⟨vd_104_66 E, mn_go _⟩)))) (ac_node (ac_leaf 69 (⟨vd_104_69 E, mn_ald _ _⟩)) (ac_node (ac_leaf 70 (⟨vd_104_70 E, mn_get _ _ _⟩)) (ac_leaf 73 (ac_Vr1 dd_104_73 rfl))))))))
theorem vd_105_0 (E : ac_E) : ac_ok E md_105 0 (o_ald 0 1) := ok_aload_n (E := E) (d := md_105) (pc := 0) (j := 0) dd_105_0
theorem vd_105_1 (E : ac_E) : ac_ok E md_105 1 (o_ild 1 2) := ok_iload_n (E := E) (d := md_105) (pc := 1) (j := 1) dd_105_1
theorem vd_105_2 (E : ac_E) : ac_ok E md_105 2 (o_lt0 11 5) := ok_iflt (E := E) (d := md_105) (pc := 2) dd_105_2 (by decide)
theorem vd_105_5 (E : ac_E) : ac_ok E md_105 5 (o_ild 1 6) := ok_iload_n (E := E) (d := md_105) (pc := 5) (j := 1) dd_105_5
theorem vd_105_6 (E : ac_E) : ac_ok E md_105 6 (o_con (.int 64) 8) := ok_bipush (E := E) (d := md_105) (pc := 6) dd_105_6 (by decide)
theorem vd_105_8 (E : ac_E) : ac_ok E md_105 8 (o_le 15 11) := ok_icmple (E := E) (d := md_105) (pc := 8) dd_105_8 (by decide)
theorem vd_105_11 (E : ac_E) : ac_ok E md_105 11 (o_con (.int 1) 12) := ok_iconst (E := E) (d := md_105) (pc := 11) dd_105_11 (by decide)
theorem vd_105_12 (E : ac_E) : ac_ok E md_105 12 (o_go 40) := ok_goto (E := E) (d := md_105) (pc := 12) dd_105_12 (by decide)
theorem vd_105_15 (E : ac_E) : ac_ok E md_105 15 (o_ald 0 16) := ok_aload_n (E := E) (d := md_105) (pc := 15) (j := 0) dd_105_15
theorem vd_105_16 (E : ac_E) : ac_ok E md_105 16 (o_con (.int 2) 17) := ok_iconst (E := E) (d := md_105) (pc := 16) dd_105_16 (by decide)
theorem vd_105_17 (E : ac_E) : ac_okr E md_105 md_99 17 2 20 7 ∧ ac_okt E md_105 md_99 17 2 7 := ok_callV (E := E) (d := md_105) (dz := md_99) (pc := 17) (T := TX5) (N := 17) rfl rfl (by decide) (by decide +kernel) wm_828 wm_56 wm_825 wm_827 wm_46 dd_105_17
theorem vd_105_20 (E : ac_E) : ac_ok E md_105 20 (o_ald 0 21) := ok_aload_n (E := E) (d := md_105) (pc := 20) (j := 0) dd_105_20
theorem vd_105_21 (E : ac_E) : ac_ok E md_105 21 (o_con (.int 3) 22) := ok_iconst (E := E) (d := md_105) (pc := 21) dd_105_21 (by decide)
theorem vd_105_22 (E : ac_E) : ac_okr E md_105 md_99 22 2 25 7 ∧ ac_okt E md_105 md_99 22 2 7 := ok_callV (E := E) (d := md_105) (dz := md_99) (pc := 22) (T := TX5) (N := 17) rfl rfl (by decide) (by decide +kernel) wm_828 wm_56 wm_825 wm_827 wm_46 dd_105_22
theorem vd_105_25 (E : ac_E) : ac_ok E md_105 25 (o_add 26) := ok_iadd (E := E) (d := md_105) (pc := 25) dd_105_25
theorem vd_105_26 (E : ac_E) : ac_ok E md_105 26 (o_ald 0 27) := ok_aload_n (E := E) (d := md_105) (pc := 26) (j := 0) dd_105_26
theorem vd_105_27 (E : ac_E) : ac_ok E md_105 27 (o_con (.int 4) 28) := ok_iconst (E := E) (d := md_105) (pc := 27) dd_105_27 (by decide)
theorem vd_105_28 (E : ac_E) : ac_okr E md_105 md_99 28 2 31 7 ∧ ac_okt E md_105 md_99 28 2 7 := ok_callV (E := E) (d := md_105) (dz := md_99) (pc := 28) (T := TX5) (N := 17) rfl rfl (by decide) (by decide +kernel) wm_828 wm_56 wm_825 wm_827 wm_46 dd_105_28
theorem vd_105_31 (E : ac_E) : ac_ok E md_105 31 (o_add 32) := ok_iadd (E := E) (d := md_105) (pc := 31) dd_105_31
theorem vd_105_32 (E : ac_E) : ac_ok E md_105 32 (o_le0 39 35) := ok_ifle (E := E) (d := md_105) (pc := 32) dd_105_32 (by decide)
theorem vd_105_35 (E : ac_E) : ac_ok E md_105 35 (o_con (.int 2) 36) := ok_iconst (E := E) (d := md_105) (pc := 35) dd_105_35 (by decide)
theorem vd_105_36 (E : ac_E) : ac_ok E md_105 36 (o_go 40) := ok_goto (E := E) (d := md_105) (pc := 36) dd_105_36 (by decide)
theorem vd_105_39 (E : ac_E) : ac_ok E md_105 39 (o_con (.int 0) 40) := ok_iconst (E := E) (d := md_105) (pc := 39) dd_105_39 (by decide)
theorem vd_105_40 (E : ac_E) : ac_ok E md_105 40 (o_put 5 0 43) := ok_putf (E := E) (d := md_105) (pc := 40) (ci := 5) (f := 0) (C := RX5) (T := TX5) (N := 17) (ref := RX5) rfl win_5 (by decide) rfl tyX5 tyX5_ok nmX5 (by decide +kernel) rfl wm_638 dd_105_40
theorem vd_105_43 (E : ac_E) : ac_ok E md_105 43 (o_ald 0 44) := ok_aload_n (E := E) (d := md_105) (pc := 43) (j := 0) dd_105_43
theorem vd_105_44 (E : ac_E) : ac_ok E md_105 44 (o_get 5 0 47) := ok_getf (E := E) (d := md_105) (pc := 44) (ci := 5) (f := 0) (C := RX5) (T := TX5) (N := 17) (ref := RX5) rfl win_5 (by decide) rfl wm_638 dd_105_44
theorem vd_105_47 (E : ac_E) : ac_ok E md_105 47 (o_le0 52 50) := ok_ifle (E := E) (d := md_105) (pc := 47) dd_105_47 (by decide)
theorem vd_105_50 (E : ac_E) : ac_ok E md_105 50 (o_con (.int 0) 51) := ok_iconst (E := E) (d := md_105) (pc := 50) dd_105_50 (by decide)
theorem vd_105_52 (E : ac_E) : ac_ok E md_105 52 (o_con (.int 0) 53) := ok_iconst (E := E) (d := md_105) (pc := 52) dd_105_52 (by decide)
theorem vd_105_53 (E : ac_E) : ac_ok E md_105 53 (o_ist 2 54) := ok_istore_n (E := E) (d := md_105) (pc := 53) (j := 2) dd_105_53
theorem vd_105_54 (E : ac_E) : ac_ok E md_105 54 (o_ild 2 55) := ok_iload_n (E := E) (d := md_105) (pc := 54) (j := 2) dd_105_54
theorem vd_105_55 (E : ac_E) : ac_ok E md_105 55 (o_ild 1 56) := ok_iload_n (E := E) (d := md_105) (pc := 55) (j := 1) dd_105_55
theorem vd_105_56 (E : ac_E) : ac_ok E md_105 56 (o_ge 89 59) := ok_icmpge (E := E) (d := md_105) (pc := 56) dd_105_56 (by decide)
theorem vd_105_59 (E : ac_E) : ac_ok E md_105 59 (o_ald 0 60) := ok_aload_n (E := E) (d := md_105) (pc := 59) (j := 0) dd_105_59
theorem vd_105_60 (E : ac_E) : ac_ok E md_105 60 (o_dup 61) := ok_dup (E := E) (d := md_105) (pc := 60) dd_105_60
theorem vd_105_61 (E : ac_E) : ac_ok E md_105 61 (o_get 5 3 64) := ok_getf (E := E) (d := md_105) (pc := 61) (ci := 5) (f := 3) (C := RX5) (T := TX5) (N := 17) (ref := RX5) rfl win_5 (by decide) rfl wm_641 dd_105_61
theorem vd_105_64 (E : ac_E) : ac_ok E md_105 64 (o_con (.int 1) 65) := ok_iconst (E := E) (d := md_105) (pc := 64) dd_105_64 (by decide)
theorem vd_105_65 (E : ac_E) : ac_ok E md_105 65 (o_sub 66) := ok_isub (E := E) (d := md_105) (pc := 65) dd_105_65
theorem vd_105_66 (E : ac_E) : ac_ok E md_105 66 (o_put 5 3 69) := ok_putf (E := E) (d := md_105) (pc := 66) (ci := 5) (f := 3) (C := RX5) (T := TX5) (N := 17) (ref := RX5) rfl win_5 (by decide) rfl tyX5 tyX5_ok nmX5 (by decide +kernel) rfl wm_641 dd_105_66
theorem vd_105_69 (E : ac_E) : ac_ok E md_105 69 (o_ald 0 70) := ok_aload_n (E := E) (d := md_105) (pc := 69) (j := 0) dd_105_69
theorem vd_105_70 (E : ac_E) : ac_okr E md_105 md_98 70 1 73 7 ∧ ac_okt E md_105 md_98 70 1 7 := ok_callV (E := E) (d := md_105) (dz := md_98) (pc := 70) (T := TX5) (N := 17) rfl rfl (by decide) (by decide +kernel) wm_796 wm_56 wm_793 wm_795 wm_39 dd_105_70
theorem vd_105_73 (E : ac_E) : ac_ok E md_105 73 (o_ald 0 74) := ok_aload_n (E := E) (d := md_105) (pc := 73) (j := 0) dd_105_73
theorem vd_105_74 (E : ac_E) : ac_ok E md_105 74 (o_con (.int 1) 75) := ok_iconst (E := E) (d := md_105) (pc := 74) dd_105_74 (by decide)
theorem vd_105_75 (E : ac_E) : ac_okr E md_105 md_93 75 2 78 7 ∧ ac_okt E md_105 md_93 75 2 7 := ok_callV (E := E) (d := md_105) (dz := md_93) (pc := 75) (T := TX5) (N := 17) rfl rfl (by decide) (by decide +kernel) wm_788 wm_56 wm_785 wm_787 wm_37 dd_105_75
theorem vd_105_78 (E : ac_E) : ac_ok E md_105 78 (o_ald 0 79) := ok_aload_n (E := E) (d := md_105) (pc := 78) (j := 0) dd_105_78
theorem vd_105_79 (E : ac_E) : ac_ok E md_105 79 (o_con (.int 1) 80) := ok_iconst (E := E) (d := md_105) (pc := 79) dd_105_79 (by decide)
theorem vd_105_80 (E : ac_E) : ac_okr E md_105 md_92 80 2 83 7 ∧ ac_okt E md_105 md_92 80 2 7 := ok_callV (E := E) (d := md_105) (dz := md_92) (pc := 80) (T := TX5) (N := 17) rfl rfl (by decide) (by decide +kernel) wm_771 wm_56 wm_768 wm_770 wm_35 dd_105_80
theorem vd_105_83 (E : ac_E) : ac_ok E md_105 83 (o_inc 2 1 86) := ok_iinc (E := E) (d := md_105) (pc := 83) dd_105_83 (by decide)
theorem vd_105_86 (E : ac_E) : ac_ok E md_105 86 (o_go 54) := ok_goto (E := E) (d := md_105) (pc := 86) dd_105_86 (by decide)
theorem vd_105_89 (E : ac_E) : ac_ok E md_105 89 (o_ald 0 90) := ok_aload_n (E := E) (d := md_105) (pc := 89) (j := 0) dd_105_89
theorem vd_105_90 (E : ac_E) : ac_ok E md_105 90 (o_get 5 3 93) := ok_getf (E := E) (d := md_105) (pc := 90) (ci := 5) (f := 3) (C := RX5) (T := TX5) (N := 17) (ref := RX5) rfl win_5 (by decide) rfl wm_641 dd_105_90
theorem va_105 (E : ac_E) (pc : Nat) : ac_V E ac_MDf ac_HDf 105 pc (tb_105 (ac_len E) (ac_xs E) pc) := (ac_node (ac_node (ac_node (ac_node (ac_node (ac_leaf 0 (⟨vd_105_0 E, mn_ald _ _⟩)) (ac_node (ac_leaf 1 (⟨vd_105_1 E, mn_ild _ _⟩)) (ac_leaf 2 (⟨vd_105_2 E, mn_lt0 _ _⟩)))) (ac_node (ac_leaf 5 (⟨vd_105_5 E, mn_ild _ _⟩)) (ac_node (ac_leaf 6 (⟨vd_105_6 E, mn_con _ _⟩)) (ac_leaf 8 (⟨vd_105_8 E, mn_le _ _⟩))))) (ac_node (ac_node (ac_leaf 11 (⟨vd_105_11 E, mn_con _ _⟩)) (ac_node (ac_leaf 12 (⟨vd_105_12 E, mn_go _⟩)) (ac_leaf 15 (⟨vd_105_15 E, mn_ald _ _⟩)))) (ac_node (ac_node (ac_leaf 16 (⟨vd_105_16 E, mn_con _ _⟩)) (ac_leaf 17 (ac_Vc0 ((vd_105_17 E).1) (fun _ => rfl)))) (ac_node (ac_leaf 20 (⟨vd_105_20 E, mn_ald _ _⟩)) (ac_leaf 21 (⟨vd_105_21 E, mn_con _ _⟩)))))) (ac_node (ac_node (ac_node (ac_leaf 22 (ac_Vc0 ((vd_105_22 E).1) (fun _ => rfl))) (ac_node (ac_leaf 25 (⟨vd_105_25 E, mn_add _⟩)) (ac_leaf 26 (⟨vd_105_26 E, mn_ald _ _⟩)))) (ac_node (ac_leaf 27 (⟨vd_105_27 E, mn_con _ _⟩)) (ac_node (ac_leaf 28 (ac_Vc0 ((vd_105_28 E).1) (fun _ => rfl))) (ac_leaf 31 (⟨vd_105_31 E, mn_add _⟩))))) (ac_node (ac_node (ac_leaf 32 (⟨vd_105_32 E, mn_le0 _ _⟩)) (ac_node (ac_leaf 35 (⟨vd_105_35 E, mn_con _ _⟩)) (ac_leaf 36 (⟨vd_105_36 E, mn_go _⟩)))) (ac_node (ac_node (ac_leaf 39 (⟨vd_105_39 E, mn_con _ _⟩)) (ac_leaf 40 (⟨vd_105_40 E, mn_put _ _ _⟩))) (ac_node (ac_leaf 43 (⟨vd_105_43 E, mn_ald _ _⟩)) (ac_leaf 44 (⟨vd_105_44 E, mn_get _ _ _⟩))))))) (ac_node (ac_node (ac_node (ac_node (ac_leaf 47 (⟨vd_105_47 E, mn_le0 _ _⟩)) (ac_node (ac_leaf 50 (⟨vd_105_50 E, mn_con _ _⟩)) (ac_leaf 51 (ac_Vr1 dd_105_51 rfl)))) (ac_node (ac_leaf 52 (⟨vd_105_52 E, mn_con _ _⟩)) (ac_node (ac_leaf 53 (⟨vd_105_53 E, mn_ist _ _⟩)) (ac_leaf 54 (⟨vd_105_54 E, mn_ild _ _⟩))))) (ac_node (ac_node (ac_leaf 55 (⟨vd_105_55 E, mn_ild _ _⟩)) (ac_node (ac_leaf 56 (⟨vd_105_56 E, mn_ge _ _⟩)) (ac_leaf 59 (⟨vd_105_59 E, mn_ald _ _⟩)))) (ac_node (ac_node (ac_leaf 60 (⟨vd_105_60 E, mn_dup _⟩)) (ac_leaf 61 (⟨vd_105_61 E, mn_get _ _ _⟩))) (ac_node (ac_leaf 64 (⟨vd_105_64 E, mn_con _ _⟩)) (ac_leaf 65 (⟨vd_105_65 E, mn_sub _⟩)))))) (ac_node (ac_node (ac_node (ac_leaf 66 (⟨vd_105_66 E, mn_put _ _ _⟩)) (ac_node (ac_leaf 69 (⟨vd_105_69 E, mn_ald _ _⟩)) (ac_leaf 70 (ac_Vc0 ((vd_105_70 E).1) (fun _ => rfl))))) (ac_node (ac_node (ac_leaf 73 (⟨vd_105_73 E, mn_ald _ _⟩)) (ac_leaf 74 (⟨vd_105_74 E, mn_con _ _⟩))) (ac_node (ac_leaf 75 (ac_Vc0 ((vd_105_75 E).1) (fun _ => rfl))) (ac_leaf 78 (⟨vd_105_78 E, mn_ald _ _⟩))))) (ac_node (ac_node (ac_leaf 79 (⟨vd_105_79 E, mn_con _ _⟩)) (ac_node (ac_leaf 80 (ac_Vc0 ((vd_105_80 E).1) (fun _ => rfl))) (ac_leaf 83 (⟨vd_105_83 E, mn_inc _ _ _⟩)))) (ac_node (ac_node (ac_leaf 86 (⟨vd_105_86 E, mn_go _⟩)) (ac_leaf 89 (⟨vd_105_89 E, mn_ald _ _⟩))) (ac_node (ac_leaf 90 (⟨vd_105_90 E, mn_get _ _ _⟩)) (ac_leaf 93 (ac_Vr1 dd_105_93 rfl))))))))
theorem vd_106_0 (E : ac_E) : ac_ok E md_106 0 (o_con (.int 0) 1) := ok_iconst (E := E) (d := md_106) (pc := 0) dd_106_0 (by decide)
theorem vd_106_1 (E : ac_E) : ac_ok E md_106 1 (o_ist 2 2) := ok_istore_n (E := E) (d := md_106) (pc := 1) (j := 2) dd_106_1
theorem vd_106_2 (E : ac_E) : ac_ok E md_106 2 (o_con (.int 0) 3) := ok_iconst (E := E) (d := md_106) (pc := 2) dd_106_2 (by decide)
theorem vd_106_3 (E : ac_E) : ac_ok E md_106 3 (o_ist 3 4) := ok_istore_n (E := E) (d := md_106) (pc := 3) (j := 3) dd_106_3
theorem vd_106_4 (E : ac_E) : ac_ok E md_106 4 (o_ild 3 5) := ok_iload_n (E := E) (d := md_106) (pc := 4) (j := 3) dd_106_4
theorem vd_106_5 (E : ac_E) : ac_ok E md_106 5 (o_con (.int 7) 7) := ok_bipush (E := E) (d := md_106) (pc := 5) dd_106_5 (by decide)
theorem vd_106_7 (E : ac_E) : ac_ok E md_106 7 (o_ge 46 10) := ok_icmpge (E := E) (d := md_106) (pc := 7) dd_106_7 (by decide)
theorem vd_106_10 (E : ac_E) : ac_ok E md_106 10 (o_ild 0 11) := ok_iload_n (E := E) (d := md_106) (pc := 10) (j := 0) dd_106_10
theorem vd_106_11 (E : ac_E) : ac_ok E md_106 11 (o_ild 3 12) := ok_iload_n (E := E) (d := md_106) (pc := 11) (j := 3) dd_106_11
theorem vd_106_12 (E : ac_E) : ac_okr E md_106 md_70 12 2 15 0 ∧ ac_okt E md_106 md_70 12 2 0 := ok_callS (E := E) (d := md_106) (dz := md_70) (pc := 12) rfl (by decide) (by decide +kernel) wm_707 wm_56 wm_705 wm_706 dd_106_12
theorem vd_106_15 (E : ac_E) : ac_ok E md_106 15 (o_eq0 38 18) := ok_ifeq (E := E) (d := md_106) (pc := 15) dd_106_15 (by decide)
theorem vd_106_18 (E : ac_E) : ac_ok E md_106 18 (o_ild 2 19) := ok_iload_n (E := E) (d := md_106) (pc := 18) (j := 2) dd_106_18
theorem vd_106_19 (E : ac_E) : ac_ok E md_106 19 (o_ild 1 20) := ok_iload_n (E := E) (d := md_106) (pc := 19) (j := 1) dd_106_19
theorem vd_106_20 (E : ac_E) : ac_ok E md_106 20 (o_ne0 27 23) := ok_ifne (E := E) (d := md_106) (pc := 20) dd_106_20 (by decide)
theorem vd_106_23 (E : ac_E) : ac_ok E md_106 23 (o_con (.int 1) 24) := ok_iconst (E := E) (d := md_106) (pc := 23) dd_106_23 (by decide)
theorem vd_106_24 (E : ac_E) : ac_ok E md_106 24 (o_go 34) := ok_goto (E := E) (d := md_106) (pc := 24) dd_106_24 (by decide)
theorem vd_106_27 (E : ac_E) : ac_ok E md_106 27 (o_ild 3 28) := ok_iload_n (E := E) (d := md_106) (pc := 27) (j := 3) dd_106_27
theorem vd_106_28 (E : ac_E) : ac_ok E md_106 28 (o_ild 1 29) := ok_iload_n (E := E) (d := md_106) (pc := 28) (j := 1) dd_106_28
theorem vd_106_29 (E : ac_E) : ac_ok E md_106 29 (o_con (.int 1) 30) := ok_iconst (E := E) (d := md_106) (pc := 29) dd_106_29 (by decide)
theorem vd_106_30 (E : ac_E) : ac_ok E md_106 30 (o_sub 31) := ok_isub (E := E) (d := md_106) (pc := 30) dd_106_30
theorem vd_106_31 (E : ac_E) : ac_okr E md_106 md_69 31 2 34 0 ∧ ac_okt E md_106 md_69 31 2 0 := ok_callS (E := E) (d := md_106) (dz := md_69) (pc := 31) rfl (by decide) (by decide +kernel) wm_807 wm_56 wm_805 wm_806 dd_106_31
theorem vd_106_34 (E : ac_E) : ac_ok E md_106 34 (o_add 35) := ok_iadd (E := E) (d := md_106) (pc := 34) dd_106_34
theorem vd_106_35 (E : ac_E) : ac_ok E md_106 35 (o_go 39) := ok_goto (E := E) (d := md_106) (pc := 35) dd_106_35 (by decide)
theorem vd_106_38 (E : ac_E) : ac_ok E md_106 38 (o_ild 2 39) := ok_iload_n (E := E) (d := md_106) (pc := 38) (j := 2) dd_106_38
theorem vd_106_39 (E : ac_E) : ac_ok E md_106 39 (o_ist 2 40) := ok_istore_n (E := E) (d := md_106) (pc := 39) (j := 2) dd_106_39
theorem vd_106_40 (E : ac_E) : ac_ok E md_106 40 (o_inc 3 1 43) := ok_iinc (E := E) (d := md_106) (pc := 40) dd_106_40 (by decide)
theorem vd_106_43 (E : ac_E) : ac_ok E md_106 43 (o_go 4) := ok_goto (E := E) (d := md_106) (pc := 43) dd_106_43 (by decide)
theorem vd_106_46 (E : ac_E) : ac_ok E md_106 46 (o_ild 2 47) := ok_iload_n (E := E) (d := md_106) (pc := 46) (j := 2) dd_106_46
theorem va_106 (E : ac_E) (pc : Nat) : ac_V E ac_MDf ac_HDf 106 pc (tb_106 (ac_len E) (ac_xs E) pc) := (ac_node (ac_node (ac_node (ac_node (ac_leaf 0 (⟨vd_106_0 E, mn_con _ _⟩)) (ac_node (ac_leaf 1 (⟨vd_106_1 E, mn_ist _ _⟩)) (ac_leaf 2 (⟨vd_106_2 E, mn_con _ _⟩)))) (ac_node (ac_node (ac_leaf 3 (⟨vd_106_3 E, mn_ist _ _⟩)) (ac_leaf 4 (⟨vd_106_4 E, mn_ild _ _⟩))) (ac_node (ac_leaf 5 (⟨vd_106_5 E, mn_con _ _⟩)) (ac_leaf 7 (⟨vd_106_7 E, mn_ge _ _⟩))))) (ac_node (ac_node (ac_leaf 10 (⟨vd_106_10 E, mn_ild _ _⟩)) (ac_node (ac_leaf 11 (⟨vd_106_11 E, mn_ild _ _⟩)) (ac_leaf 12 (ac_Vc0 ((vd_106_12 E).1) (fun _ => rfl))))) (ac_node (ac_node (ac_leaf 15 (⟨vd_106_15 E, mn_eq0 _ _⟩)) (ac_leaf 18 (⟨vd_106_18 E, mn_ild _ _⟩))) (ac_node (ac_leaf 19 (⟨vd_106_19 E, mn_ild _ _⟩)) (ac_leaf 20 (⟨vd_106_20 E, mn_ne0 _ _⟩)))))) (ac_node (ac_node (ac_node (ac_leaf 23 (⟨vd_106_23 E, mn_con _ _⟩)) (ac_node (ac_leaf 24 (⟨vd_106_24 E, mn_go _⟩)) (ac_leaf 27 (⟨vd_106_27 E, mn_ild _ _⟩)))) (ac_node (ac_node (ac_leaf 28 (⟨vd_106_28 E, mn_ild _ _⟩)) (ac_leaf 29 (⟨vd_106_29 E, mn_con _ _⟩))) (ac_node (ac_leaf 30 (⟨vd_106_30 E, mn_sub _⟩)) (ac_leaf 31 (ac_Vc0 ((vd_106_31 E).1) (fun _ => rfl)))))) (ac_node (ac_node (ac_node (ac_leaf 34 (⟨vd_106_34 E, mn_add _⟩)) (ac_leaf 35 (⟨vd_106_35 E, mn_go _⟩))) (ac_node (ac_leaf 38 (⟨vd_106_38 E, mn_ild _ _⟩)) (ac_leaf 39 (⟨vd_106_39 E, mn_ist _ _⟩)))) (ac_node (ac_node (ac_leaf 40 (⟨vd_106_40 E, mn_inc _ _ _⟩)) (ac_leaf 43 (⟨vd_106_43 E, mn_go _⟩))) (ac_node (ac_leaf 46 (⟨vd_106_46 E, mn_ild _ _⟩)) (ac_leaf 47 (ac_Vr1 dd_106_47 rfl)))))))
theorem vd_107_0 (E : ac_E) : ac_ok E md_107 0 (o_ald 0 1) := ok_aload_n (E := E) (d := md_107) (pc := 0) (j := 0) dd_107_0
theorem vd_107_1 (E : ac_E) : ac_ok E md_107 1 (o_ild 1 2) := ok_iload_n (E := E) (d := md_107) (pc := 1) (j := 1) dd_107_1
theorem vd_107_2 (E : ac_E) : ac_ok E md_107 2 (o_ild 2 3) := ok_iload_n (E := E) (d := md_107) (pc := 2) (j := 2) dd_107_2
theorem vd_107_3 (E : ac_E) : ac_okr E md_107 md_68 3 3 6 7 ∧ ac_okt E md_107 md_68 3 3 7 := ok_callV (E := E) (d := md_107) (dz := md_68) (pc := 3) (T := TX5) (N := 17) rfl rfl (by decide) (by decide +kernel) wm_715 wm_56 wm_712 wm_714 wm_31 dd_107_3
theorem vd_107_6 (E : ac_E) : ac_ok E md_107 6 (o_eq0 43 9) := ok_ifeq (E := E) (d := md_107) (pc := 6) dd_107_6 (by decide)
theorem vd_107_9 (E : ac_E) : ac_ok E md_107 9 (o_ild 3 10) := ok_iload_n (E := E) (d := md_107) (pc := 9) (j := 3) dd_107_9
theorem vd_107_10 (E : ac_E) : ac_ok E md_107 10 (o_le0 43 13) := ok_ifle (E := E) (d := md_107) (pc := 10) dd_107_10 (by decide)
theorem vd_107_13 (E : ac_E) : ac_ok E md_107 13 (o_ild 4 15) := ok_iload (E := E) (d := md_107) (pc := 13) dd_107_13
theorem vd_107_15 (E : ac_E) : ac_ok E md_107 15 (o_le0 43 18) := ok_ifle (E := E) (d := md_107) (pc := 15) dd_107_15 (by decide)
theorem vd_107_18 (E : ac_E) : ac_ok E md_107 18 (o_ild 3 19) := ok_iload_n (E := E) (d := md_107) (pc := 18) (j := 3) dd_107_18
theorem vd_107_19 (E : ac_E) : ac_ok E md_107 19 (o_ald 0 20) := ok_aload_n (E := E) (d := md_107) (pc := 19) (j := 0) dd_107_19
theorem vd_107_20 (E : ac_E) : ac_ok E md_107 20 (o_get 5 1 23) := ok_getf (E := E) (d := md_107) (pc := 20) (ci := 5) (f := 1) (C := RX5) (T := TX5) (N := 17) (ref := RX5) rfl win_5 (by decide) rfl wm_639 dd_107_20
theorem vd_107_23 (E : ac_E) : ac_ok E md_107 23 (o_ild 1 24) := ok_iload_n (E := E) (d := md_107) (pc := 23) (j := 1) dd_107_23
theorem vd_107_24 (E : ac_E) : ac_ok E md_107 24 (o_sub 25) := ok_isub (E := E) (d := md_107) (pc := 24) dd_107_24
theorem vd_107_25 (E : ac_E) : ac_ok E md_107 25 (o_gt 43 28) := ok_icmpgt (E := E) (d := md_107) (pc := 25) dd_107_25 (by decide)
theorem vd_107_28 (E : ac_E) : ac_ok E md_107 28 (o_ild 4 30) := ok_iload (E := E) (d := md_107) (pc := 28) dd_107_28
theorem vd_107_30 (E : ac_E) : ac_ok E md_107 30 (o_ald 0 31) := ok_aload_n (E := E) (d := md_107) (pc := 30) (j := 0) dd_107_30
theorem vd_107_31 (E : ac_E) : ac_ok E md_107 31 (o_get 5 2 34) := ok_getf (E := E) (d := md_107) (pc := 31) (ci := 5) (f := 2) (C := RX5) (T := TX5) (N := 17) (ref := RX5) rfl win_5 (by decide) rfl wm_640 dd_107_31
theorem vd_107_34 (E : ac_E) : ac_ok E md_107 34 (o_ild 2 35) := ok_iload_n (E := E) (d := md_107) (pc := 34) (j := 2) dd_107_34
theorem vd_107_35 (E : ac_E) : ac_ok E md_107 35 (o_sub 36) := ok_isub (E := E) (d := md_107) (pc := 35) dd_107_35
theorem vd_107_36 (E : ac_E) : ac_ok E md_107 36 (o_gt 43 39) := ok_icmpgt (E := E) (d := md_107) (pc := 36) dd_107_36 (by decide)
theorem vd_107_39 (E : ac_E) : ac_ok E md_107 39 (o_con (.int 1) 40) := ok_iconst (E := E) (d := md_107) (pc := 39) dd_107_39 (by decide)
theorem vd_107_40 (E : ac_E) : ac_ok E md_107 40 (o_go 44) := ok_goto (E := E) (d := md_107) (pc := 40) dd_107_40 (by decide)
theorem vd_107_43 (E : ac_E) : ac_ok E md_107 43 (o_con (.int 0) 44) := ok_iconst (E := E) (d := md_107) (pc := 43) dd_107_43 (by decide)
theorem vd_107_44 (E : ac_E) : ac_ok E md_107 44 (o_ist 6 46) := ok_istore (E := E) (d := md_107) (pc := 44) dd_107_44
theorem vd_107_46 (E : ac_E) : ac_ok E md_107 46 (o_ald 0 47) := ok_aload_n (E := E) (d := md_107) (pc := 46) (j := 0) dd_107_46
theorem vd_107_47 (E : ac_E) : ac_ok E md_107 47 (o_ild 6 49) := ok_iload (E := E) (d := md_107) (pc := 47) dd_107_47
theorem vd_107_49 (E : ac_E) : ac_ok E md_107 49 (o_ne0 56 52) := ok_ifne (E := E) (d := md_107) (pc := 49) dd_107_49 (by decide)
theorem vd_107_52 (E : ac_E) : ac_ok E md_107 52 (o_con (.int 1) 53) := ok_iconst (E := E) (d := md_107) (pc := 52) dd_107_52 (by decide)
theorem vd_107_53 (E : ac_E) : ac_ok E md_107 53 (o_go 72) := ok_goto (E := E) (d := md_107) (pc := 53) dd_107_53 (by decide)
theorem vd_107_56 (E : ac_E) : ac_ok E md_107 56 (o_ild 5 58) := ok_iload (E := E) (d := md_107) (pc := 56) dd_107_56
theorem vd_107_58 (E : ac_E) : ac_ok E md_107 58 (o_lt0 67 61) := ok_iflt (E := E) (d := md_107) (pc := 58) dd_107_58 (by decide)
theorem vd_107_61 (E : ac_E) : ac_ok E md_107 61 (o_ild 5 63) := ok_iload (E := E) (d := md_107) (pc := 61) dd_107_61
theorem vd_107_63 (E : ac_E) : ac_ok E md_107 63 (o_con (.int 2) 64) := ok_iconst (E := E) (d := md_107) (pc := 63) dd_107_63 (by decide)
theorem vd_107_64 (E : ac_E) : ac_ok E md_107 64 (o_le 71 67) := ok_icmple (E := E) (d := md_107) (pc := 64) dd_107_64 (by decide)
theorem vd_107_67 (E : ac_E) : ac_ok E md_107 67 (o_con (.int 2) 68) := ok_iconst (E := E) (d := md_107) (pc := 67) dd_107_67 (by decide)
theorem vd_107_68 (E : ac_E) : ac_ok E md_107 68 (o_go 72) := ok_goto (E := E) (d := md_107) (pc := 68) dd_107_68 (by decide)
theorem vd_107_71 (E : ac_E) : ac_ok E md_107 71 (o_con (.int 0) 72) := ok_iconst (E := E) (d := md_107) (pc := 71) dd_107_71 (by decide)
theorem vd_107_72 (E : ac_E) : ac_ok E md_107 72 (o_put 5 0 75) := ok_putf (E := E) (d := md_107) (pc := 72) (ci := 5) (f := 0) (C := RX5) (T := TX5) (N := 17) (ref := RX5) rfl win_5 (by decide) rfl tyX5 tyX5_ok nmX5 (by decide +kernel) rfl wm_638 dd_107_72
theorem vd_107_75 (E : ac_E) : ac_ok E md_107 75 (o_con (.int 0) 76) := ok_iconst (E := E) (d := md_107) (pc := 75) dd_107_75 (by decide)
theorem vd_107_76 (E : ac_E) : ac_ok E md_107 76 (o_ist 7 78) := ok_istore (E := E) (d := md_107) (pc := 76) dd_107_76
theorem vd_107_78 (E : ac_E) : ac_ok E md_107 78 (o_con (.int 0) 79) := ok_iconst (E := E) (d := md_107) (pc := 78) dd_107_78 (by decide)
theorem vd_107_79 (E : ac_E) : ac_ok E md_107 79 (o_ist 8 81) := ok_istore (E := E) (d := md_107) (pc := 79) dd_107_79
theorem vd_107_81 (E : ac_E) : ac_ok E md_107 81 (o_ald 0 82) := ok_aload_n (E := E) (d := md_107) (pc := 81) (j := 0) dd_107_81
theorem vd_107_82 (E : ac_E) : ac_ok E md_107 82 (o_get 5 0 85) := ok_getf (E := E) (d := md_107) (pc := 82) (ci := 5) (f := 0) (C := RX5) (T := TX5) (N := 17) (ref := RX5) rfl win_5 (by decide) rfl wm_638 dd_107_82
theorem vd_107_85 (E : ac_E) : ac_ok E md_107 85 (o_ne0 145 88) := ok_ifne (E := E) (d := md_107) (pc := 85) dd_107_85 (by decide)
theorem vd_107_88 (E : ac_E) : ac_ok E md_107 88 (o_ild 8 90) := ok_iload (E := E) (d := md_107) (pc := 88) dd_107_88
theorem vd_107_90 (E : ac_E) : ac_ok E md_107 90 (o_ild 4 92) := ok_iload (E := E) (d := md_107) (pc := 90) dd_107_90
theorem vd_107_92 (E : ac_E) : ac_ok E md_107 92 (o_ge 145 95) := ok_icmpge (E := E) (d := md_107) (pc := 92) dd_107_92 (by decide)
theorem vd_107_95 (E : ac_E) : ac_ok E md_107 95 (o_con (.int 0) 96) := ok_iconst (E := E) (d := md_107) (pc := 95) dd_107_95 (by decide)
theorem vd_107_96 (E : ac_E) : ac_ok E md_107 96 (o_ist 9 98) := ok_istore (E := E) (d := md_107) (pc := 96) dd_107_96
theorem vd_107_98 (E : ac_E) : ac_ok E md_107 98 (o_ild 9 100) := ok_iload (E := E) (d := md_107) (pc := 98) dd_107_98
theorem vd_107_100 (E : ac_E) : ac_ok E md_107 100 (o_ild 3 101) := ok_iload_n (E := E) (d := md_107) (pc := 100) (j := 3) dd_107_100
theorem vd_107_101 (E : ac_E) : ac_ok E md_107 101 (o_ge 139 104) := ok_icmpge (E := E) (d := md_107) (pc := 101) dd_107_101 (by decide)
theorem vd_107_104 (E : ac_E) : ac_ok E md_107 104 (o_ild 7 106) := ok_iload (E := E) (d := md_107) (pc := 104) dd_107_104
theorem vd_107_106 (E : ac_E) : ac_ok E md_107 106 (o_ald 0 107) := ok_aload_n (E := E) (d := md_107) (pc := 106) (j := 0) dd_107_106
theorem vd_107_107 (E : ac_E) : ac_ok E md_107 107 (o_get 5 5 110) := ok_getf (E := E) (d := md_107) (pc := 107) (ci := 5) (f := 5) (C := RX5) (T := TX5) (N := 17) (ref := RX5) rfl win_5 (by decide) rfl wm_643 dd_107_107
theorem vd_107_110 (E : ac_E) : ac_ok E md_107 110 (o_ald 0 111) := ok_aload_n (E := E) (d := md_107) (pc := 110) (j := 0) dd_107_110
theorem vd_107_111 (E : ac_E) : ac_ok E md_107 111 (o_get 5 1 114) := ok_getf (E := E) (d := md_107) (pc := 111) (ci := 5) (f := 1) (C := RX5) (T := TX5) (N := 17) (ref := RX5) rfl win_5 (by decide) rfl wm_639 dd_107_111
theorem vd_107_114 (E : ac_E) : ac_ok E md_107 114 (o_ild 2 115) := ok_iload_n (E := E) (d := md_107) (pc := 114) (j := 2) dd_107_114
theorem vd_107_115 (E : ac_E) : ac_ok E md_107 115 (o_ild 8 117) := ok_iload (E := E) (d := md_107) (pc := 115) dd_107_115
theorem vd_107_117 (E : ac_E) : ac_ok E md_107 117 (o_add 118) := ok_iadd (E := E) (d := md_107) (pc := 117) dd_107_117
theorem vd_107_118 (E : ac_E) : ac_ok E md_107 118 (o_mul 119) := ok_imul (E := E) (d := md_107) (pc := 118) dd_107_118
theorem vd_107_119 (E : ac_E) : ac_ok E md_107 119 (o_ild 1 120) := ok_iload_n (E := E) (d := md_107) (pc := 119) (j := 1) dd_107_119
theorem vd_107_120 (E : ac_E) : ac_ok E md_107 120 (o_add 121) := ok_iadd (E := E) (d := md_107) (pc := 120) dd_107_120
theorem vd_107_121 (E : ac_E) : ac_ok E md_107 121 (o_ild 9 123) := ok_iload (E := E) (d := md_107) (pc := 121) dd_107_121
theorem vd_107_123 (E : ac_E) : ac_ok E md_107 123 (o_add 124) := ok_iadd (E := E) (d := md_107) (pc := 123) dd_107_123
theorem vd_107_124 (E : ac_E) : ac_ok E md_107 124 (o_ia 125) := ok_iaload (E := E) (d := md_107) (pc := 124) dd_107_124
theorem vd_107_125 (E : ac_E) : ac_ok E md_107 125 (o_ild 5 127) := ok_iload (E := E) (d := md_107) (pc := 125) dd_107_125
theorem vd_107_127 (E : ac_E) : ac_okr E md_107 md_106 127 2 130 0 ∧ ac_okt E md_107 md_106 127 2 0 := ok_callS (E := E) (d := md_107) (dz := md_106) (pc := 127) rfl (by decide) (by decide +kernel) wm_847 wm_56 wm_845 wm_846 dd_107_127
theorem vd_107_130 (E : ac_E) : ac_ok E md_107 130 (o_add 131) := ok_iadd (E := E) (d := md_107) (pc := 130) dd_107_130
theorem vd_107_131 (E : ac_E) : ac_ok E md_107 131 (o_ist 7 133) := ok_istore (E := E) (d := md_107) (pc := 131) dd_107_131
theorem vd_107_133 (E : ac_E) : ac_ok E md_107 133 (o_inc 9 1 136) := ok_iinc (E := E) (d := md_107) (pc := 133) dd_107_133 (by decide)
theorem vd_107_136 (E : ac_E) : ac_ok E md_107 136 (o_go 98) := ok_goto (E := E) (d := md_107) (pc := 136) dd_107_136 (by decide)
theorem vd_107_139 (E : ac_E) : ac_ok E md_107 139 (o_inc 8 1 142) := ok_iinc (E := E) (d := md_107) (pc := 139) dd_107_139 (by decide)
theorem vd_107_142 (E : ac_E) : ac_ok E md_107 142 (o_go 81) := ok_goto (E := E) (d := md_107) (pc := 142) dd_107_142 (by decide)
theorem vd_107_145 (E : ac_E) : ac_ok E md_107 145 (o_ild 7 147) := ok_iload (E := E) (d := md_107) (pc := 145) dd_107_145
theorem va_107 (E : ac_E) (pc : Nat) : ac_V E ac_MDf ac_HDf 107 pc (tb_107 (ac_len E) (ac_xs E) pc) := (ac_node (ac_node (ac_node (ac_node (ac_node (ac_node (ac_leaf 0 (⟨vd_107_0 E, mn_ald _ _⟩)) (ac_leaf 1 (⟨vd_107_1 E, mn_ild _ _⟩))) (ac_node (ac_leaf 2 (⟨vd_107_2 E, mn_ild _ _⟩)) (ac_leaf 3 (ac_Vc0 ((vd_107_3 E).1) (fun _ => rfl))))) (ac_node (ac_node (ac_leaf 6 (⟨vd_107_6 E, mn_eq0 _ _⟩)) (ac_leaf 9 (⟨vd_107_9 E, mn_ild _ _⟩))) (ac_node (ac_leaf 10 (⟨vd_107_10 E, mn_le0 _ _⟩)) (ac_node (ac_leaf 13 (⟨vd_107_13 E, mn_ild _ _⟩)) (ac_leaf 15 (⟨vd_107_15 E, mn_le0 _ _⟩)))))) (ac_node (ac_node (ac_node (ac_leaf 18 (⟨vd_107_18 E, mn_ild _ _⟩)) (ac_leaf 19 (⟨vd_107_19 E, mn_ald _ _⟩))) (ac_node (ac_leaf 20 (⟨vd_107_20 E, mn_get _ _ _⟩)) (ac_node (ac_leaf 23 (⟨vd_107_23 E, mn_ild _ _⟩)) (ac_leaf 24 (⟨vd_107_24 E, mn_sub _⟩))))) (ac_node (ac_node (ac_leaf 25 (⟨vd_107_25 E, mn_gt _ _⟩)) (ac_leaf 28 (⟨vd_107_28 E, mn_ild _ _⟩))) (ac_node (ac_leaf 30 (⟨vd_107_30 E, mn_ald _ _⟩)) (ac_node (ac_leaf 31 (⟨vd_107_31 E, mn_get _ _ _⟩)) (ac_leaf 34 (⟨vd_107_34 E, mn_ild _ _⟩))))))) (ac_node (ac_node (ac_node (ac_node (ac_leaf 35 (⟨vd_107_35 E, mn_sub _⟩)) (ac_leaf 36 (⟨vd_107_36 E, mn_gt _ _⟩))) (ac_node (ac_leaf 39 (⟨vd_107_39 E, mn_con _ _⟩)) (ac_node (ac_leaf 40 (⟨vd_107_40 E, mn_go _⟩)) (ac_leaf 43 (⟨vd_107_43 E, mn_con _ _⟩))))) (ac_node (ac_node (ac_leaf 44 (⟨vd_107_44 E, mn_ist _ _⟩)) (ac_leaf 46 (⟨vd_107_46 E, mn_ald _ _⟩))) (ac_node (ac_leaf 47 (⟨vd_107_47 E, mn_ild _ _⟩)) (ac_node (ac_leaf 49 (⟨vd_107_49 E, mn_ne0 _ _⟩)) (ac_leaf 52 (⟨vd_107_52 E, mn_con _ _⟩)))))) (ac_node (ac_node (ac_node (ac_leaf 53 (⟨vd_107_53 E, mn_go _⟩)) (ac_leaf 56 (⟨vd_107_56 E, mn_ild _ _⟩))) (ac_node (ac_leaf 58 (⟨vd_107_58 E, mn_lt0 _ _⟩)) (ac_node (ac_leaf 61 (⟨vd_107_61 E, mn_ild _ _⟩)) (ac_leaf 63 (⟨vd_107_63 E, mn_con _ _⟩))))) (ac_node (ac_node (ac_leaf 64 (⟨vd_107_64 E, mn_le _ _⟩)) (ac_leaf 67 (⟨vd_107_67 E, mn_con _ _⟩))) (ac_node (ac_leaf 68 (⟨vd_107_68 E, mn_go _⟩)) (ac_node (ac_leaf 71 (⟨vd_107_71 E, mn_con _ _⟩)) (ac_leaf 72 (⟨vd_107_72 E, mn_put _ _ _⟩)))))))) (ac_node (ac_node (ac_node (ac_node (ac_node (ac_leaf 75 (⟨vd_107_75 E, mn_con _ _⟩)) (ac_leaf 76 (⟨vd_107_76 E, mn_ist _ _⟩))) (ac_node (ac_leaf 78 (⟨vd_107_78 E, mn_con _ _⟩)) (ac_leaf 79 (⟨vd_107_79 E, mn_ist _ _⟩)))) (ac_node (ac_node (ac_leaf 81 (⟨vd_107_81 E, mn_ald _ _⟩)) (ac_leaf 82 (⟨vd_107_82 E, mn_get _ _ _⟩))) (ac_node (ac_leaf 85 (⟨vd_107_85 E, mn_ne0 _ _⟩)) (ac_node (ac_leaf 88 (⟨vd_107_88 E, mn_ild _ _⟩)) (ac_leaf 90 (⟨vd_107_90 E, mn_ild _ _⟩)))))) (ac_node (ac_node (ac_node (ac_leaf 92 (⟨vd_107_92 E, mn_ge _ _⟩)) (ac_leaf 95 (⟨vd_107_95 E, mn_con _ _⟩))) (ac_node (ac_leaf 96 (⟨vd_107_96 E, mn_ist _ _⟩)) (ac_node (ac_leaf 98 (⟨vd_107_98 E, mn_ild _ _⟩)) (ac_leaf 100 (⟨vd_107_100 E, mn_ild _ _⟩))))) (ac_node (ac_node (ac_leaf 101 (⟨vd_107_101 E, mn_ge _ _⟩)) (ac_leaf 104 (⟨vd_107_104 E, mn_ild _ _⟩))) (ac_node (ac_leaf 106 (⟨vd_107_106 E, mn_ald _ _⟩)) (ac_node (ac_leaf 107 (⟨vd_107_107 E, mn_get _ _ _⟩)) (ac_leaf 110 (⟨vd_107_110 E, mn_ald _ _⟩))))))) (ac_node (ac_node (ac_node (ac_node (ac_leaf 111 (⟨vd_107_111 E, mn_get _ _ _⟩)) (ac_leaf 114 (⟨vd_107_114 E, mn_ild _ _⟩))) (ac_node (ac_leaf 115 (⟨vd_107_115 E, mn_ild _ _⟩)) (ac_node (ac_leaf 117 (⟨vd_107_117 E, mn_add _⟩)) (ac_leaf 118 (⟨vd_107_118 E, mn_mul _⟩))))) (ac_node (ac_node (ac_leaf 119 (⟨vd_107_119 E, mn_ild _ _⟩)) (ac_leaf 120 (⟨vd_107_120 E, mn_add _⟩))) (ac_node (ac_leaf 121 (⟨vd_107_121 E, mn_ild _ _⟩)) (ac_node (ac_leaf 123 (⟨vd_107_123 E, mn_add _⟩)) (ac_leaf 124 (⟨vd_107_124 E, mn_ia _⟩)))))) (ac_node (ac_node (ac_node (ac_leaf 125 (⟨vd_107_125 E, mn_ild _ _⟩)) (ac_leaf 127 (ac_Vc0 ((vd_107_127 E).1) (fun _ => rfl)))) (ac_node (ac_leaf 130 (⟨vd_107_130 E, mn_add _⟩)) (ac_node (ac_leaf 131 (⟨vd_107_131 E, mn_ist _ _⟩)) (ac_leaf 133 (⟨vd_107_133 E, mn_inc _ _ _⟩))))) (ac_node (ac_node (ac_leaf 136 (⟨vd_107_136 E, mn_go _⟩)) (ac_leaf 139 (⟨vd_107_139 E, mn_inc _ _ _⟩))) (ac_node (ac_leaf 142 (⟨vd_107_142 E, mn_go _⟩)) (ac_node (ac_leaf 145 (⟨vd_107_145 E, mn_ild _ _⟩)) (ac_leaf 147 (ac_Vr1 dd_107_147 rfl)))))))))
theorem vd_108_0 (E : ac_E) : ac_ok E md_108 0 (o_ald 0 1) := ok_aload_n (E := E) (d := md_108) (pc := 0) (j := 0) dd_108_0
theorem vd_108_1 (E : ac_E) : ac_ok E md_108 1 (o_ild 1 2) := ok_iload_n (E := E) (d := md_108) (pc := 1) (j := 1) dd_108_1
theorem vd_108_2 (E : ac_E) : ac_ok E md_108 2 (o_lt0 19 5) := ok_iflt (E := E) (d := md_108) (pc := 2) dd_108_2 (by decide)
theorem vd_108_5 (E : ac_E) : ac_ok E md_108 5 (o_ild 1 6) := ok_iload_n (E := E) (d := md_108) (pc := 5) (j := 1) dd_108_5
theorem vd_108_6 (E : ac_E) : ac_ok E md_108 6 (o_con (.int 3) 7) := ok_iconst (E := E) (d := md_108) (pc := 6) dd_108_6 (by decide)
theorem vd_108_7 (E : ac_E) : ac_ok E md_108 7 (o_gt 19 10) := ok_icmpgt (E := E) (d := md_108) (pc := 7) dd_108_7 (by decide)
theorem vd_108_10 (E : ac_E) : ac_ok E md_108 10 (o_ild 2 11) := ok_iload_n (E := E) (d := md_108) (pc := 10) (j := 2) dd_108_10
theorem vd_108_11 (E : ac_E) : ac_ok E md_108 11 (o_lt0 19 14) := ok_iflt (E := E) (d := md_108) (pc := 11) dd_108_11 (by decide)
theorem vd_108_14 (E : ac_E) : ac_ok E md_108 14 (o_ild 2 15) := ok_iload_n (E := E) (d := md_108) (pc := 14) (j := 2) dd_108_14
theorem vd_108_15 (E : ac_E) : ac_ok E md_108 15 (o_con (.int 2) 16) := ok_iconst (E := E) (d := md_108) (pc := 15) dd_108_15 (by decide)
theorem vd_108_16 (E : ac_E) : ac_ok E md_108 16 (o_le 23 19) := ok_icmple (E := E) (d := md_108) (pc := 16) dd_108_16 (by decide)
theorem vd_108_19 (E : ac_E) : ac_ok E md_108 19 (o_con (.int 1) 20) := ok_iconst (E := E) (d := md_108) (pc := 19) dd_108_19 (by decide)
theorem vd_108_20 (E : ac_E) : ac_ok E md_108 20 (o_go 24) := ok_goto (E := E) (d := md_108) (pc := 20) dd_108_20 (by decide)
theorem vd_108_23 (E : ac_E) : ac_ok E md_108 23 (o_con (.int 0) 24) := ok_iconst (E := E) (d := md_108) (pc := 23) dd_108_23 (by decide)
theorem vd_108_24 (E : ac_E) : ac_ok E md_108 24 (o_put 5 0 27) := ok_putf (E := E) (d := md_108) (pc := 24) (ci := 5) (f := 0) (C := RX5) (T := TX5) (N := 17) (ref := RX5) rfl win_5 (by decide) rfl tyX5 tyX5_ok nmX5 (by decide +kernel) rfl wm_638 dd_108_24
theorem vd_108_27 (E : ac_E) : ac_ok E md_108 27 (o_ald 0 28) := ok_aload_n (E := E) (d := md_108) (pc := 27) (j := 0) dd_108_27
theorem vd_108_28 (E : ac_E) : ac_ok E md_108 28 (o_get 5 0 31) := ok_getf (E := E) (d := md_108) (pc := 28) (ci := 5) (f := 0) (C := RX5) (T := TX5) (N := 17) (ref := RX5) rfl win_5 (by decide) rfl wm_638 dd_108_28
theorem vd_108_31 (E : ac_E) : ac_ok E md_108 31 (o_le0 38 34) := ok_ifle (E := E) (d := md_108) (pc := 31) dd_108_31 (by decide)
theorem vd_108_34 (E : ac_E) : ac_ok E md_108 34 (o_con (.int 0) 35) := ok_iconst (E := E) (d := md_108) (pc := 34) dd_108_34 (by decide)
theorem vd_108_35 (E : ac_E) : ac_ok E md_108 35 (o_go 48) := ok_goto (E := E) (d := md_108) (pc := 35) dd_108_35 (by decide)
theorem vd_108_38 (E : ac_E) : ac_ok E md_108 38 (o_ald 0 39) := ok_aload_n (E := E) (d := md_108) (pc := 38) (j := 0) dd_108_38
theorem vd_108_39 (E : ac_E) : ac_ok E md_108 39 (o_get 5 10 42) := ok_getf (E := E) (d := md_108) (pc := 39) (ci := 5) (f := 10) (C := RX5) (T := TX5) (N := 17) (ref := RX5) rfl win_5 (by decide) rfl wm_648 dd_108_39
theorem vd_108_42 (E : ac_E) : ac_ok E md_108 42 (o_con (.int 3) 43) := ok_iconst (E := E) (d := md_108) (pc := 42) dd_108_42 (by decide)
theorem vd_108_43 (E : ac_E) : ac_ok E md_108 43 (o_ild 1 44) := ok_iload_n (E := E) (d := md_108) (pc := 43) (j := 1) dd_108_43
theorem vd_108_44 (E : ac_E) : ac_ok E md_108 44 (o_mul 45) := ok_imul (E := E) (d := md_108) (pc := 44) dd_108_44
theorem vd_108_45 (E : ac_E) : ac_ok E md_108 45 (o_ild 2 46) := ok_iload_n (E := E) (d := md_108) (pc := 45) (j := 2) dd_108_45
theorem vd_108_46 (E : ac_E) : ac_ok E md_108 46 (o_add 47) := ok_iadd (E := E) (d := md_108) (pc := 46) dd_108_46
theorem vd_108_47 (E : ac_E) : ac_ok E md_108 47 (o_ia 48) := ok_iaload (E := E) (d := md_108) (pc := 47) dd_108_47
theorem va_108 (E : ac_E) (pc : Nat) : ac_V E ac_MDf ac_HDf 108 pc (tb_108 (ac_len E) (ac_xs E) pc) := (ac_node (ac_node (ac_node (ac_node (ac_leaf 0 (⟨vd_108_0 E, mn_ald _ _⟩)) (ac_node (ac_leaf 1 (⟨vd_108_1 E, mn_ild _ _⟩)) (ac_leaf 2 (⟨vd_108_2 E, mn_lt0 _ _⟩)))) (ac_node (ac_node (ac_leaf 5 (⟨vd_108_5 E, mn_ild _ _⟩)) (ac_leaf 6 (⟨vd_108_6 E, mn_con _ _⟩))) (ac_node (ac_leaf 7 (⟨vd_108_7 E, mn_gt _ _⟩)) (ac_leaf 10 (⟨vd_108_10 E, mn_ild _ _⟩))))) (ac_node (ac_node (ac_leaf 11 (⟨vd_108_11 E, mn_lt0 _ _⟩)) (ac_node (ac_leaf 14 (⟨vd_108_14 E, mn_ild _ _⟩)) (ac_leaf 15 (⟨vd_108_15 E, mn_con _ _⟩)))) (ac_node (ac_node (ac_leaf 16 (⟨vd_108_16 E, mn_le _ _⟩)) (ac_leaf 19 (⟨vd_108_19 E, mn_con _ _⟩))) (ac_node (ac_leaf 20 (⟨vd_108_20 E, mn_go _⟩)) (ac_leaf 23 (⟨vd_108_23 E, mn_con _ _⟩)))))) (ac_node (ac_node (ac_node (ac_leaf 24 (⟨vd_108_24 E, mn_put _ _ _⟩)) (ac_node (ac_leaf 27 (⟨vd_108_27 E, mn_ald _ _⟩)) (ac_leaf 28 (⟨vd_108_28 E, mn_get _ _ _⟩)))) (ac_node (ac_node (ac_leaf 31 (⟨vd_108_31 E, mn_le0 _ _⟩)) (ac_leaf 34 (⟨vd_108_34 E, mn_con _ _⟩))) (ac_node (ac_leaf 35 (⟨vd_108_35 E, mn_go _⟩)) (ac_leaf 38 (⟨vd_108_38 E, mn_ald _ _⟩))))) (ac_node (ac_node (ac_node (ac_leaf 39 (⟨vd_108_39 E, mn_get _ _ _⟩)) (ac_leaf 42 (⟨vd_108_42 E, mn_con _ _⟩))) (ac_node (ac_leaf 43 (⟨vd_108_43 E, mn_ild _ _⟩)) (ac_leaf 44 (⟨vd_108_44 E, mn_mul _⟩)))) (ac_node (ac_node (ac_leaf 45 (⟨vd_108_45 E, mn_ild _ _⟩)) (ac_leaf 46 (⟨vd_108_46 E, mn_add _⟩))) (ac_node (ac_leaf 47 (⟨vd_108_47 E, mn_ia _⟩)) (ac_leaf 48 (ac_Vr1 dd_108_48 rfl)))))))
theorem vd_109_0 (E : ac_E) : ac_ok E md_109 0 (o_ald 0 1) := ok_aload_n (E := E) (d := md_109) (pc := 0) (j := 0) dd_109_0
theorem vd_109_1 (E : ac_E) : ac_ok E md_109 1 (o_con (.int 0) 2) := ok_iconst (E := E) (d := md_109) (pc := 1) dd_109_1 (by decide)
theorem vd_109_2 (E : ac_E) : ac_ok E md_109 2 (o_put 5 0 5) := ok_putf (E := E) (d := md_109) (pc := 2) (ci := 5) (f := 0) (C := RX5) (T := TX5) (N := 17) (ref := RX5) rfl win_5 (by decide) rfl tyX5 tyX5_ok nmX5 (by decide +kernel) rfl wm_638 dd_109_2
theorem vd_109_5 (E : ac_E) : ac_ok E md_109 5 (o_con (.int 0) 6) := ok_iconst (E := E) (d := md_109) (pc := 5) dd_109_5 (by decide)
theorem vd_109_6 (E : ac_E) : ac_ok E md_109 6 (o_ist 1 7) := ok_istore_n (E := E) (d := md_109) (pc := 6) (j := 1) dd_109_6
theorem vd_109_7 (E : ac_E) : ac_ok E md_109 7 (o_con (.int 0) 8) := ok_iconst (E := E) (d := md_109) (pc := 7) dd_109_7 (by decide)
theorem vd_109_8 (E : ac_E) : ac_ok E md_109 8 (o_ist 2 9) := ok_istore_n (E := E) (d := md_109) (pc := 8) (j := 2) dd_109_8
theorem vd_109_9 (E : ac_E) : ac_ok E md_109 9 (o_ild 2 10) := ok_iload_n (E := E) (d := md_109) (pc := 9) (j := 2) dd_109_9
theorem vd_109_10 (E : ac_E) : ac_ok E md_109 10 (o_ald 0 11) := ok_aload_n (E := E) (d := md_109) (pc := 10) (j := 0) dd_109_10
theorem vd_109_11 (E : ac_E) : ac_ok E md_109 11 (o_get 5 2 14) := ok_getf (E := E) (d := md_109) (pc := 11) (ci := 5) (f := 2) (C := RX5) (T := TX5) (N := 17) (ref := RX5) rfl win_5 (by decide) rfl wm_640 dd_109_11
theorem vd_109_14 (E : ac_E) : ac_ok E md_109 14 (o_ge 64 17) := ok_icmpge (E := E) (d := md_109) (pc := 14) dd_109_14 (by decide)
theorem vd_109_17 (E : ac_E) : ac_ok E md_109 17 (o_con (.int 0) 18) := ok_iconst (E := E) (d := md_109) (pc := 17) dd_109_17 (by decide)
theorem vd_109_18 (E : ac_E) : ac_ok E md_109 18 (o_ist 3 19) := ok_istore_n (E := E) (d := md_109) (pc := 18) (j := 3) dd_109_18
theorem vd_109_19 (E : ac_E) : ac_ok E md_109 19 (o_ild 3 20) := ok_iload_n (E := E) (d := md_109) (pc := 19) (j := 3) dd_109_19
theorem vd_109_20 (E : ac_E) : ac_ok E md_109 20 (o_ald 0 21) := ok_aload_n (E := E) (d := md_109) (pc := 20) (j := 0) dd_109_20
theorem vd_109_21 (E : ac_E) : ac_ok E md_109 21 (o_get 5 1 24) := ok_getf (E := E) (d := md_109) (pc := 21) (ci := 5) (f := 1) (C := RX5) (T := TX5) (N := 17) (ref := RX5) rfl win_5 (by decide) rfl wm_639 dd_109_21
theorem vd_109_24 (E : ac_E) : ac_ok E md_109 24 (o_ge 58 27) := ok_icmpge (E := E) (d := md_109) (pc := 24) dd_109_24 (by decide)
theorem vd_109_27 (E : ac_E) : ac_ok E md_109 27 (o_ild 1 28) := ok_iload_n (E := E) (d := md_109) (pc := 27) (j := 1) dd_109_27
theorem vd_109_28 (E : ac_E) : ac_ok E md_109 28 (o_ald 0 29) := ok_aload_n (E := E) (d := md_109) (pc := 28) (j := 0) dd_109_28
theorem vd_109_29 (E : ac_E) : ac_ok E md_109 29 (o_get 5 5 32) := ok_getf (E := E) (d := md_109) (pc := 29) (ci := 5) (f := 5) (C := RX5) (T := TX5) (N := 17) (ref := RX5) rfl win_5 (by decide) rfl wm_643 dd_109_29
theorem vd_109_32 (E : ac_E) : ac_ok E md_109 32 (o_ald 0 33) := ok_aload_n (E := E) (d := md_109) (pc := 32) (j := 0) dd_109_32
theorem vd_109_33 (E : ac_E) : ac_ok E md_109 33 (o_get 5 1 36) := ok_getf (E := E) (d := md_109) (pc := 33) (ci := 5) (f := 1) (C := RX5) (T := TX5) (N := 17) (ref := RX5) rfl win_5 (by decide) rfl wm_639 dd_109_33
theorem vd_109_36 (E : ac_E) : ac_ok E md_109 36 (o_ild 2 37) := ok_iload_n (E := E) (d := md_109) (pc := 36) (j := 2) dd_109_36
theorem vd_109_37 (E : ac_E) : ac_ok E md_109 37 (o_mul 38) := ok_imul (E := E) (d := md_109) (pc := 37) dd_109_37
theorem vd_109_38 (E : ac_E) : ac_ok E md_109 38 (o_ild 3 39) := ok_iload_n (E := E) (d := md_109) (pc := 38) (j := 3) dd_109_38
theorem vd_109_39 (E : ac_E) : ac_ok E md_109 39 (o_add 40) := ok_iadd (E := E) (d := md_109) (pc := 39) dd_109_39
theorem vd_109_40 (E : ac_E) : ac_ok E md_109 40 (o_ia 41) := ok_iaload (E := E) (d := md_109) (pc := 40) dd_109_40
theorem vd_109_41 (E : ac_E) : ac_ok E md_109 41 (o_con (.int 16) 43) := ok_bipush (E := E) (d := md_109) (pc := 41) dd_109_41 (by decide)
theorem vd_109_43 (E : ac_E) : ac_ok E md_109 43 (o_ild 2 44) := ok_iload_n (E := E) (d := md_109) (pc := 43) (j := 2) dd_109_43
theorem vd_109_44 (E : ac_E) : ac_ok E md_109 44 (o_mul 45) := ok_imul (E := E) (d := md_109) (pc := 44) dd_109_44
theorem vd_109_45 (E : ac_E) : ac_ok E md_109 45 (o_ild 3 46) := ok_iload_n (E := E) (d := md_109) (pc := 45) (j := 3) dd_109_45
theorem vd_109_46 (E : ac_E) : ac_ok E md_109 46 (o_add 47) := ok_iadd (E := E) (d := md_109) (pc := 46) dd_109_46
theorem vd_109_47 (E : ac_E) : ac_ok E md_109 47 (o_con (.int 1) 48) := ok_iconst (E := E) (d := md_109) (pc := 47) dd_109_47 (by decide)
theorem vd_109_48 (E : ac_E) : ac_ok E md_109 48 (o_add 49) := ok_iadd (E := E) (d := md_109) (pc := 48) dd_109_48
theorem vd_109_49 (E : ac_E) : ac_ok E md_109 49 (o_mul 50) := ok_imul (E := E) (d := md_109) (pc := 49) dd_109_49
theorem vd_109_50 (E : ac_E) : ac_ok E md_109 50 (o_add 51) := ok_iadd (E := E) (d := md_109) (pc := 50) dd_109_50
theorem vd_109_51 (E : ac_E) : ac_ok E md_109 51 (o_ist 1 52) := ok_istore_n (E := E) (d := md_109) (pc := 51) (j := 1) dd_109_51
theorem vd_109_52 (E : ac_E) : ac_ok E md_109 52 (o_inc 3 1 55) := ok_iinc (E := E) (d := md_109) (pc := 52) dd_109_52 (by decide)
theorem vd_109_55 (E : ac_E) : ac_ok E md_109 55 (o_go 19) := ok_goto (E := E) (d := md_109) (pc := 55) dd_109_55 (by decide)
theorem vd_109_58 (E : ac_E) : ac_ok E md_109 58 (o_inc 2 1 61) := ok_iinc (E := E) (d := md_109) (pc := 58) dd_109_58 (by decide)
theorem vd_109_61 (E : ac_E) : ac_ok E md_109 61 (o_go 9) := ok_goto (E := E) (d := md_109) (pc := 61) dd_109_61 (by decide)
theorem vd_109_64 (E : ac_E) : ac_ok E md_109 64 (o_ild 1 65) := ok_iload_n (E := E) (d := md_109) (pc := 64) (j := 1) dd_109_64
theorem va_109 (E : ac_E) (pc : Nat) : ac_V E ac_MDf ac_HDf 109 pc (tb_109 (ac_len E) (ac_xs E) pc) := (ac_node (ac_node (ac_node (ac_node (ac_node (ac_leaf 0 (⟨vd_109_0 E, mn_ald _ _⟩)) (ac_leaf 1 (⟨vd_109_1 E, mn_con _ _⟩))) (ac_node (ac_leaf 2 (⟨vd_109_2 E, mn_put _ _ _⟩)) (ac_node (ac_leaf 5 (⟨vd_109_5 E, mn_con _ _⟩)) (ac_leaf 6 (⟨vd_109_6 E, mn_ist _ _⟩))))) (ac_node (ac_node (ac_leaf 7 (⟨vd_109_7 E, mn_con _ _⟩)) (ac_leaf 8 (⟨vd_109_8 E, mn_ist _ _⟩))) (ac_node (ac_leaf 9 (⟨vd_109_9 E, mn_ild _ _⟩)) (ac_node (ac_leaf 10 (⟨vd_109_10 E, mn_ald _ _⟩)) (ac_leaf 11 (⟨vd_109_11 E, mn_get _ _ _⟩)))))) (ac_node (ac_node (ac_node (ac_leaf 14 (⟨vd_109_14 E, mn_ge _ _⟩)) (ac_leaf 17 (⟨vd_109_17 E, mn_con _ _⟩))) (ac_node (ac_leaf 18 (⟨vd_109_18 E, mn_ist _ _⟩)) (ac_node (ac_leaf 19 (⟨vd_109_19 E, mn_ild _ _⟩)) (ac_leaf 20 (⟨vd_109_20 E, mn_ald _ _⟩))))) (ac_node (ac_node (ac_leaf 21 (⟨vd_109_21 E, mn_get _ _ _⟩)) (ac_node (ac_leaf 24 (⟨vd_109_24 E, mn_ge _ _⟩)) (ac_leaf 27 (⟨vd_109_27 E, mn_ild _ _⟩)))) (ac_node (ac_leaf 28 (⟨vd_109_28 E, mn_ald _ _⟩)) (ac_node (ac_leaf 29 (⟨vd_109_29 E, mn_get _ _ _⟩)) (ac_leaf 32 (⟨vd_109_32 E, mn_ald _ _⟩))))))) (ac_node (ac_node (ac_node (ac_node (ac_leaf 33 (⟨vd_109_33 E, mn_get _ _ _⟩)) (ac_leaf 36 (⟨vd_109_36 E, mn_ild _ _⟩))) (ac_node (ac_leaf 37 (⟨vd_109_37 E, mn_mul _⟩)) (ac_node (ac_leaf 38 (⟨vd_109_38 E, mn_ild _ _⟩)) (ac_leaf 39 (⟨vd_109_39 E, mn_add _⟩))))) (ac_node (ac_node (ac_leaf 40 (⟨vd_109_40 E, mn_ia _⟩)) (ac_node (ac_leaf 41 (⟨vd_109_41 E, mn_con _ _⟩)) (ac_leaf 43 (⟨vd_109_43 E, mn_ild _ _⟩)))) (ac_node (ac_leaf 44 (⟨vd_109_44 E, mn_mul _⟩)) (ac_node (ac_leaf 45 (⟨vd_109_45 E, mn_ild _ _⟩)) (ac_leaf 46 (⟨vd_109_46 E, mn_add _⟩)))))) (ac_node (ac_node (ac_node (ac_leaf 47 (⟨vd_109_47 E, mn_con _ _⟩)) (ac_leaf 48 (⟨vd_109_48 E, mn_add _⟩))) (ac_node (ac_leaf 49 (⟨vd_109_49 E, mn_mul _⟩)) (ac_node (ac_leaf 50 (⟨vd_109_50 E, mn_add _⟩)) (ac_leaf 51 (⟨vd_109_51 E, mn_ist _ _⟩))))) (ac_node (ac_node (ac_leaf 52 (⟨vd_109_52 E, mn_inc _ _ _⟩)) (ac_node (ac_leaf 55 (⟨vd_109_55 E, mn_go _⟩)) (ac_leaf 58 (⟨vd_109_58 E, mn_inc _ _ _⟩)))) (ac_node (ac_leaf 61 (⟨vd_109_61 E, mn_go _⟩)) (ac_node (ac_leaf 64 (⟨vd_109_64 E, mn_ild _ _⟩)) (ac_leaf 65 (ac_Vr1 dd_109_65 rfl))))))))
theorem vd_110_0 (E : ac_E) : ac_ok E md_110 0 (o_ald 0 1) := ok_aload_n (E := E) (d := md_110) (pc := 0) (j := 0) dd_110_0
theorem vd_110_1 (E : ac_E) : ac_ok E md_110 1 (o_ald 0 2) := ok_aload_n (E := E) (d := md_110) (pc := 1) (j := 0) dd_110_1
theorem vd_110_2 (E : ac_E) : ac_ok E md_110 2 (o_ild 1 3) := ok_iload_n (E := E) (d := md_110) (pc := 2) (j := 1) dd_110_2
theorem vd_110_3 (E : ac_E) : ac_ok E md_110 3 (o_ild 2 4) := ok_iload_n (E := E) (d := md_110) (pc := 3) (j := 2) dd_110_3
theorem vd_110_4 (E : ac_E) : ac_okr E md_110 md_68 4 3 7 7 ∧ ac_okt E md_110 md_68 4 3 7 := ok_callV (E := E) (d := md_110) (dz := md_68) (pc := 4) (T := TX5) (N := 17) rfl rfl (by decide) (by decide +kernel) wm_715 wm_56 wm_712 wm_714 wm_31 dd_110_4
theorem vd_110_7 (E : ac_E) : ac_ok E md_110 7 (o_ne0 14 10) := ok_ifne (E := E) (d := md_110) (pc := 7) dd_110_7 (by decide)
theorem vd_110_10 (E : ac_E) : ac_ok E md_110 10 (o_con (.int 1) 11) := ok_iconst (E := E) (d := md_110) (pc := 10) dd_110_10 (by decide)
theorem vd_110_11 (E : ac_E) : ac_ok E md_110 11 (o_go 53) := ok_goto (E := E) (d := md_110) (pc := 11) dd_110_11 (by decide)
theorem vd_110_14 (E : ac_E) : ac_ok E md_110 14 (o_ild 3 15) := ok_iload_n (E := E) (d := md_110) (pc := 14) (j := 3) dd_110_14
theorem vd_110_15 (E : ac_E) : ac_ok E md_110 15 (o_lt0 24 18) := ok_iflt (E := E) (d := md_110) (pc := 15) dd_110_15 (by decide)
theorem vd_110_18 (E : ac_E) : ac_ok E md_110 18 (o_ild 3 19) := ok_iload_n (E := E) (d := md_110) (pc := 18) (j := 3) dd_110_18
theorem vd_110_19 (E : ac_E) : ac_ok E md_110 19 (o_con (.int 6) 21) := ok_bipush (E := E) (d := md_110) (pc := 19) dd_110_19 (by decide)
theorem vd_110_21 (E : ac_E) : ac_ok E md_110 21 (o_le 28 24) := ok_icmple (E := E) (d := md_110) (pc := 21) dd_110_21 (by decide)
theorem vd_110_24 (E : ac_E) : ac_ok E md_110 24 (o_con (.int 2) 25) := ok_iconst (E := E) (d := md_110) (pc := 24) dd_110_24 (by decide)
theorem vd_110_25 (E : ac_E) : ac_ok E md_110 25 (o_go 53) := ok_goto (E := E) (d := md_110) (pc := 25) dd_110_25 (by decide)
theorem vd_110_28 (E : ac_E) : ac_ok E md_110 28 (o_ald 0 29) := ok_aload_n (E := E) (d := md_110) (pc := 28) (j := 0) dd_110_28
theorem vd_110_29 (E : ac_E) : ac_ok E md_110 29 (o_get 5 5 32) := ok_getf (E := E) (d := md_110) (pc := 29) (ci := 5) (f := 5) (C := RX5) (T := TX5) (N := 17) (ref := RX5) rfl win_5 (by decide) rfl wm_643 dd_110_29
theorem vd_110_32 (E : ac_E) : ac_ok E md_110 32 (o_ald 0 33) := ok_aload_n (E := E) (d := md_110) (pc := 32) (j := 0) dd_110_32
theorem vd_110_33 (E : ac_E) : ac_ok E md_110 33 (o_get 5 1 36) := ok_getf (E := E) (d := md_110) (pc := 33) (ci := 5) (f := 1) (C := RX5) (T := TX5) (N := 17) (ref := RX5) rfl win_5 (by decide) rfl wm_639 dd_110_33
theorem vd_110_36 (E : ac_E) : ac_ok E md_110 36 (o_ild 2 37) := ok_iload_n (E := E) (d := md_110) (pc := 36) (j := 2) dd_110_36
theorem vd_110_37 (E : ac_E) : ac_ok E md_110 37 (o_mul 38) := ok_imul (E := E) (d := md_110) (pc := 37) dd_110_37
theorem vd_110_38 (E : ac_E) : ac_ok E md_110 38 (o_ild 1 39) := ok_iload_n (E := E) (d := md_110) (pc := 38) (j := 1) dd_110_38
theorem vd_110_39 (E : ac_E) : ac_ok E md_110 39 (o_add 40) := ok_iadd (E := E) (d := md_110) (pc := 39) dd_110_39
theorem vd_110_40 (E : ac_E) : ac_ok E md_110 40 (o_ia 41) := ok_iaload (E := E) (d := md_110) (pc := 40) dd_110_40
theorem vd_110_41 (E : ac_E) : ac_ok E md_110 41 (o_ild 3 42) := ok_iload_n (E := E) (d := md_110) (pc := 41) (j := 3) dd_110_41
theorem vd_110_42 (E : ac_E) : ac_okr E md_110 md_70 42 2 45 0 ∧ ac_okt E md_110 md_70 42 2 0 := ok_callS (E := E) (d := md_110) (dz := md_70) (pc := 42) rfl (by decide) (by decide +kernel) wm_707 wm_56 wm_705 wm_706 dd_110_42
theorem vd_110_45 (E : ac_E) : ac_ok E md_110 45 (o_ne0 52 48) := ok_ifne (E := E) (d := md_110) (pc := 45) dd_110_45 (by decide)
theorem vd_110_48 (E : ac_E) : ac_ok E md_110 48 (o_con (.int 3) 49) := ok_iconst (E := E) (d := md_110) (pc := 48) dd_110_48 (by decide)
theorem vd_110_49 (E : ac_E) : ac_ok E md_110 49 (o_go 53) := ok_goto (E := E) (d := md_110) (pc := 49) dd_110_49 (by decide)
theorem vd_110_52 (E : ac_E) : ac_ok E md_110 52 (o_con (.int 0) 53) := ok_iconst (E := E) (d := md_110) (pc := 52) dd_110_52 (by decide)
theorem vd_110_53 (E : ac_E) : ac_ok E md_110 53 (o_put 5 0 56) := ok_putf (E := E) (d := md_110) (pc := 53) (ci := 5) (f := 0) (C := RX5) (T := TX5) (N := 17) (ref := RX5) rfl win_5 (by decide) rfl tyX5 tyX5_ok nmX5 (by decide +kernel) rfl wm_638 dd_110_53
theorem vd_110_56 (E : ac_E) : ac_ok E md_110 56 (o_con (.int 0) 57) := ok_iconst (E := E) (d := md_110) (pc := 56) dd_110_56 (by decide)
theorem vd_110_57 (E : ac_E) : ac_ok E md_110 57 (o_ist 4 59) := ok_istore (E := E) (d := md_110) (pc := 57) dd_110_57
theorem vd_110_59 (E : ac_E) : ac_ok E md_110 59 (o_ild 4 61) := ok_iload (E := E) (d := md_110) (pc := 59) dd_110_59
theorem vd_110_61 (E : ac_E) : ac_ok E md_110 61 (o_ald 0 62) := ok_aload_n (E := E) (d := md_110) (pc := 61) (j := 0) dd_110_61
theorem vd_110_62 (E : ac_E) : ac_ok E md_110 62 (o_get 5 14 65) := ok_getf (E := E) (d := md_110) (pc := 62) (ci := 5) (f := 14) (C := RX5) (T := TX5) (N := 17) (ref := RX5) rfl win_5 (by decide) rfl wm_652 dd_110_62
theorem vd_110_65 (E : ac_E) : ac_ok E md_110 65 (o_ge 119 68) := ok_icmpge (E := E) (d := md_110) (pc := 65) dd_110_65 (by decide)
theorem vd_110_68 (E : ac_E) : ac_ok E md_110 68 (o_ald 0 69) := ok_aload_n (E := E) (d := md_110) (pc := 68) (j := 0) dd_110_68
theorem vd_110_69 (E : ac_E) : ac_ok E md_110 69 (o_get 5 0 72) := ok_getf (E := E) (d := md_110) (pc := 69) (ci := 5) (f := 0) (C := RX5) (T := TX5) (N := 17) (ref := RX5) rfl win_5 (by decide) rfl wm_638 dd_110_69
theorem vd_110_72 (E : ac_E) : ac_ok E md_110 72 (o_ne0 119 75) := ok_ifne (E := E) (d := md_110) (pc := 72) dd_110_72 (by decide)
theorem vd_110_75 (E : ac_E) : ac_ok E md_110 75 (o_ald 0 76) := ok_aload_n (E := E) (d := md_110) (pc := 75) (j := 0) dd_110_75
theorem vd_110_76 (E : ac_E) : ac_ok E md_110 76 (o_ald 0 77) := ok_aload_n (E := E) (d := md_110) (pc := 76) (j := 0) dd_110_76
theorem vd_110_77 (E : ac_E) : ac_ok E md_110 77 (o_get 5 15 80) := ok_getf (E := E) (d := md_110) (pc := 77) (ci := 5) (f := 15) (C := RX5) (T := TX5) (N := 17) (ref := RX5) rfl win_5 (by decide) rfl wm_653 dd_110_77
theorem vd_110_80 (E : ac_E) : ac_ok E md_110 80 (o_ild 4 82) := ok_iload (E := E) (d := md_110) (pc := 80) dd_110_80
theorem vd_110_82 (E : ac_E) : ac_ok E md_110 82 (o_ia 83) := ok_iaload (E := E) (d := md_110) (pc := 82) dd_110_82
theorem vd_110_83 (E : ac_E) : ac_ok E md_110 83 (o_ald 0 84) := ok_aload_n (E := E) (d := md_110) (pc := 83) (j := 0) dd_110_83
theorem vd_110_84 (E : ac_E) : ac_ok E md_110 84 (o_get 5 1 87) := ok_getf (E := E) (d := md_110) (pc := 84) (ci := 5) (f := 1) (C := RX5) (T := TX5) (N := 17) (ref := RX5) rfl win_5 (by decide) rfl wm_639 dd_110_84
theorem vd_110_87 (E : ac_E) : ac_ok E md_110 87 (o_ild 2 88) := ok_iload_n (E := E) (d := md_110) (pc := 87) (j := 2) dd_110_87
theorem vd_110_88 (E : ac_E) : ac_ok E md_110 88 (o_mul 89) := ok_imul (E := E) (d := md_110) (pc := 88) dd_110_88
theorem vd_110_89 (E : ac_E) : ac_ok E md_110 89 (o_ild 1 90) := ok_iload_n (E := E) (d := md_110) (pc := 89) (j := 1) dd_110_89
theorem vd_110_90 (E : ac_E) : ac_ok E md_110 90 (o_add 91) := ok_iadd (E := E) (d := md_110) (pc := 90) dd_110_90
theorem vd_110_91 (E : ac_E) : ac_ok E md_110 91 (o_ne 109 94) := ok_icmpne (E := E) (d := md_110) (pc := 91) dd_110_91 (by decide)
theorem vd_110_94 (E : ac_E) : ac_ok E md_110 94 (o_ald 0 95) := ok_aload_n (E := E) (d := md_110) (pc := 94) (j := 0) dd_110_94
theorem vd_110_95 (E : ac_E) : ac_ok E md_110 95 (o_get 5 16 98) := ok_getf (E := E) (d := md_110) (pc := 95) (ci := 5) (f := 16) (C := RX5) (T := TX5) (N := 17) (ref := RX5) rfl win_5 (by decide) rfl wm_654 dd_110_95
theorem vd_110_98 (E : ac_E) : ac_ok E md_110 98 (o_ild 4 100) := ok_iload (E := E) (d := md_110) (pc := 98) dd_110_98
theorem vd_110_100 (E : ac_E) : ac_ok E md_110 100 (o_ia 101) := ok_iaload (E := E) (d := md_110) (pc := 100) dd_110_100
theorem vd_110_101 (E : ac_E) : ac_ok E md_110 101 (o_ild 3 102) := ok_iload_n (E := E) (d := md_110) (pc := 101) (j := 3) dd_110_101
theorem vd_110_102 (E : ac_E) : ac_ok E md_110 102 (o_ne 109 105) := ok_icmpne (E := E) (d := md_110) (pc := 102) dd_110_102 (by decide)
theorem vd_110_105 (E : ac_E) : ac_ok E md_110 105 (o_con (.int 4) 106) := ok_iconst (E := E) (d := md_110) (pc := 105) dd_110_105 (by decide)
theorem vd_110_106 (E : ac_E) : ac_ok E md_110 106 (o_go 110) := ok_goto (E := E) (d := md_110) (pc := 106) dd_110_106 (by decide)
theorem vd_110_109 (E : ac_E) : ac_ok E md_110 109 (o_con (.int 0) 110) := ok_iconst (E := E) (d := md_110) (pc := 109) dd_110_109 (by decide)
theorem vd_110_110 (E : ac_E) : ac_ok E md_110 110 (o_put 5 0 113) := ok_putf (E := E) (d := md_110) (pc := 110) (ci := 5) (f := 0) (C := RX5) (T := TX5) (N := 17) (ref := RX5) rfl win_5 (by decide) rfl tyX5 tyX5_ok nmX5 (by decide +kernel) rfl wm_638 dd_110_110
theorem vd_110_113 (E : ac_E) : ac_ok E md_110 113 (o_inc 4 1 116) := ok_iinc (E := E) (d := md_110) (pc := 113) dd_110_113 (by decide)
theorem vd_110_116 (E : ac_E) : ac_ok E md_110 116 (o_go 59) := ok_goto (E := E) (d := md_110) (pc := 116) dd_110_116 (by decide)
theorem vd_110_119 (E : ac_E) : ac_ok E md_110 119 (o_ald 0 120) := ok_aload_n (E := E) (d := md_110) (pc := 119) (j := 0) dd_110_119
theorem vd_110_120 (E : ac_E) : ac_ok E md_110 120 (o_ald 0 121) := ok_aload_n (E := E) (d := md_110) (pc := 120) (j := 0) dd_110_120
theorem vd_110_121 (E : ac_E) : ac_ok E md_110 121 (o_get 5 0 124) := ok_getf (E := E) (d := md_110) (pc := 121) (ci := 5) (f := 0) (C := RX5) (T := TX5) (N := 17) (ref := RX5) rfl win_5 (by decide) rfl wm_638 dd_110_121
theorem vd_110_124 (E : ac_E) : ac_ok E md_110 124 (o_ne0 139 127) := ok_ifne (E := E) (d := md_110) (pc := 124) dd_110_124 (by decide)
theorem vd_110_127 (E : ac_E) : ac_ok E md_110 127 (o_ald 0 128) := ok_aload_n (E := E) (d := md_110) (pc := 127) (j := 0) dd_110_127
theorem vd_110_128 (E : ac_E) : ac_ok E md_110 128 (o_get 5 14 131) := ok_getf (E := E) (d := md_110) (pc := 128) (ci := 5) (f := 14) (C := RX5) (T := TX5) (N := 17) (ref := RX5) rfl win_5 (by decide) rfl wm_652 dd_110_128
theorem vd_110_131 (E : ac_E) : ac_ok E md_110 131 (o_con (.int 4) 132) := ok_iconst (E := E) (d := md_110) (pc := 131) dd_110_131 (by decide)
theorem vd_110_132 (E : ac_E) : ac_ok E md_110 132 (o_ne 139 135) := ok_icmpne (E := E) (d := md_110) (pc := 132) dd_110_132 (by decide)
theorem vd_110_135 (E : ac_E) : ac_ok E md_110 135 (o_con (.int 5) 136) := ok_iconst (E := E) (d := md_110) (pc := 135) dd_110_135 (by decide)
theorem vd_110_136 (E : ac_E) : ac_ok E md_110 136 (o_go 143) := ok_goto (E := E) (d := md_110) (pc := 136) dd_110_136 (by decide)
theorem vd_110_139 (E : ac_E) : ac_ok E md_110 139 (o_ald 0 140) := ok_aload_n (E := E) (d := md_110) (pc := 139) (j := 0) dd_110_139
theorem vd_110_140 (E : ac_E) : ac_ok E md_110 140 (o_get 5 0 143) := ok_getf (E := E) (d := md_110) (pc := 140) (ci := 5) (f := 0) (C := RX5) (T := TX5) (N := 17) (ref := RX5) rfl win_5 (by decide) rfl wm_638 dd_110_140
theorem vd_110_143 (E : ac_E) : ac_ok E md_110 143 (o_put 5 0 146) := ok_putf (E := E) (d := md_110) (pc := 143) (ci := 5) (f := 0) (C := RX5) (T := TX5) (N := 17) (ref := RX5) rfl win_5 (by decide) rfl tyX5 tyX5_ok nmX5 (by decide +kernel) rfl wm_638 dd_110_143
theorem vd_110_146 (E : ac_E) : ac_ok E md_110 146 (o_ald 0 147) := ok_aload_n (E := E) (d := md_110) (pc := 146) (j := 0) dd_110_146
theorem vd_110_147 (E : ac_E) : ac_ok E md_110 147 (o_get 5 0 150) := ok_getf (E := E) (d := md_110) (pc := 147) (ci := 5) (f := 0) (C := RX5) (T := TX5) (N := 17) (ref := RX5) rfl win_5 (by decide) rfl wm_638 dd_110_147
theorem vd_110_150 (E : ac_E) : ac_ok E md_110 150 (o_le0 155 153) := ok_ifle (E := E) (d := md_110) (pc := 150) dd_110_150 (by decide)
theorem vd_110_153 (E : ac_E) : ac_ok E md_110 153 (o_con (.int 0) 154) := ok_iconst (E := E) (d := md_110) (pc := 153) dd_110_153 (by decide)
theorem vd_110_155 (E : ac_E) : ac_ok E md_110 155 (o_ald 0 156) := ok_aload_n (E := E) (d := md_110) (pc := 155) (j := 0) dd_110_155
theorem vd_110_156 (E : ac_E) : ac_ok E md_110 156 (o_get 5 15 159) := ok_getf (E := E) (d := md_110) (pc := 156) (ci := 5) (f := 15) (C := RX5) (T := TX5) (N := 17) (ref := RX5) rfl win_5 (by decide) rfl wm_653 dd_110_156
theorem vd_110_159 (E : ac_E) : ac_ok E md_110 159 (o_ald 0 160) := ok_aload_n (E := E) (d := md_110) (pc := 159) (j := 0) dd_110_159
theorem vd_110_160 (E : ac_E) : ac_ok E md_110 160 (o_get 5 14 163) := ok_getf (E := E) (d := md_110) (pc := 160) (ci := 5) (f := 14) (C := RX5) (T := TX5) (N := 17) (ref := RX5) rfl win_5 (by decide) rfl wm_652 dd_110_160
theorem vd_110_163 (E : ac_E) : ac_ok E md_110 163 (o_ald 0 164) := ok_aload_n (E := E) (d := md_110) (pc := 163) (j := 0) dd_110_163
theorem vd_110_164 (E : ac_E) : ac_ok E md_110 164 (o_get 5 1 167) := ok_getf (E := E) (d := md_110) (pc := 164) (ci := 5) (f := 1) (C := RX5) (T := TX5) (N := 17) (ref := RX5) rfl win_5 (by decide) rfl wm_639 dd_110_164
theorem vd_110_167 (E : ac_E) : ac_ok E md_110 167 (o_ild 2 168) := ok_iload_n (E := E) (d := md_110) (pc := 167) (j := 2) dd_110_167
theorem vd_110_168 (E : ac_E) : ac_ok E md_110 168 (o_mul 169) := ok_imul (E := E) (d := md_110) (pc := 168) dd_110_168
theorem vd_110_169 (E : ac_E) : ac_ok E md_110 169 (o_ild 1 170) := ok_iload_n (E := E) (d := md_110) (pc := 169) (j := 1) dd_110_169
theorem vd_110_170 (E : ac_E) : ac_ok E md_110 170 (o_add 171) := ok_iadd (E := E) (d := md_110) (pc := 170) dd_110_170
theorem vd_110_171 (E : ac_E) : ac_ok E md_110 171 (o_is 172) := ok_iastore (E := E) (d := md_110) (pc := 171) dd_110_171
theorem vd_110_172 (E : ac_E) : ac_ok E md_110 172 (o_ald 0 173) := ok_aload_n (E := E) (d := md_110) (pc := 172) (j := 0) dd_110_172
theorem vd_110_173 (E : ac_E) : ac_ok E md_110 173 (o_get 5 16 176) := ok_getf (E := E) (d := md_110) (pc := 173) (ci := 5) (f := 16) (C := RX5) (T := TX5) (N := 17) (ref := RX5) rfl win_5 (by decide) rfl wm_654 dd_110_173
theorem vd_110_176 (E : ac_E) : ac_ok E md_110 176 (o_ald 0 177) := ok_aload_n (E := E) (d := md_110) (pc := 176) (j := 0) dd_110_176
theorem vd_110_177 (E : ac_E) : ac_ok E md_110 177 (o_get 5 14 180) := ok_getf (E := E) (d := md_110) (pc := 177) (ci := 5) (f := 14) (C := RX5) (T := TX5) (N := 17) (ref := RX5) rfl win_5 (by decide) rfl wm_652 dd_110_177
theorem vd_110_180 (E : ac_E) : ac_ok E md_110 180 (o_ild 3 181) := ok_iload_n (E := E) (d := md_110) (pc := 180) (j := 3) dd_110_180
theorem vd_110_181 (E : ac_E) : ac_ok E md_110 181 (o_is 182) := ok_iastore (E := E) (d := md_110) (pc := 181) dd_110_181
theorem vd_110_182 (E : ac_E) : ac_ok E md_110 182 (o_ald 0 183) := ok_aload_n (E := E) (d := md_110) (pc := 182) (j := 0) dd_110_182
theorem vd_110_183 (E : ac_E) : ac_ok E md_110 183 (o_dup 184) := ok_dup (E := E) (d := md_110) (pc := 183) dd_110_183
theorem vd_110_184 (E : ac_E) : ac_ok E md_110 184 (o_get 5 14 187) := ok_getf (E := E) (d := md_110) (pc := 184) (ci := 5) (f := 14) (C := RX5) (T := TX5) (N := 17) (ref := RX5) rfl win_5 (by decide) rfl wm_652 dd_110_184
theorem vd_110_187 (E : ac_E) : ac_ok E md_110 187 (o_con (.int 1) 188) := ok_iconst (E := E) (d := md_110) (pc := 187) dd_110_187 (by decide)
theorem vd_110_188 (E : ac_E) : ac_ok E md_110 188 (o_add 189) := ok_iadd (E := E) (d := md_110) (pc := 188) dd_110_188
theorem vd_110_189 (E : ac_E) : ac_ok E md_110 189 (o_put 5 14 192) := ok_putf (E := E) (d := md_110) (pc := 189) (ci := 5) (f := 14) (C := RX5) (T := TX5) (N := 17) (ref := RX5) rfl win_5 (by decide) rfl tyX5 tyX5_ok nmX5 (by decide +kernel) rfl wm_652 dd_110_189
theorem vd_110_192 (E : ac_E) : ac_ok E md_110 192 (o_ald 0 193) := ok_aload_n (E := E) (d := md_110) (pc := 192) (j := 0) dd_110_192
theorem vd_110_193 (E : ac_E) : ac_ok E md_110 193 (o_get 5 14 196) := ok_getf (E := E) (d := md_110) (pc := 193) (ci := 5) (f := 14) (C := RX5) (T := TX5) (N := 17) (ref := RX5) rfl win_5 (by decide) rfl wm_652 dd_110_193
theorem vd_110_196 (E : ac_E) : ac_ok E md_110 196 (o_con (.int 1) 197) := ok_iconst (E := E) (d := md_110) (pc := 196) dd_110_196 (by decide)
theorem vd_110_197 (E : ac_E) : ac_ok E md_110 197 (o_sub 198) := ok_isub (E := E) (d := md_110) (pc := 197) dd_110_197
theorem va_110 (E : ac_E) (pc : Nat) : ac_V E ac_MDf ac_HDf 110 pc (tb_110 (ac_len E) (ac_xs E) pc) := (ac_node (ac_node (ac_node (ac_node (ac_node (ac_node (ac_leaf 0 (⟨vd_110_0 E, mn_ald _ _⟩)) (ac_node (ac_leaf 1 (⟨vd_110_1 E, mn_ald _ _⟩)) (ac_leaf 2 (⟨vd_110_2 E, mn_ild _ _⟩)))) (ac_node (ac_leaf 3 (⟨vd_110_3 E, mn_ild _ _⟩)) (ac_node (ac_leaf 4 (ac_Vc0 ((vd_110_4 E).1) (fun _ => rfl))) (ac_leaf 7 (⟨vd_110_7 E, mn_ne0 _ _⟩))))) (ac_node (ac_node (ac_leaf 10 (⟨vd_110_10 E, mn_con _ _⟩)) (ac_node (ac_leaf 11 (⟨vd_110_11 E, mn_go _⟩)) (ac_leaf 14 (⟨vd_110_14 E, mn_ild _ _⟩)))) (ac_node (ac_node (ac_leaf 15 (⟨vd_110_15 E, mn_lt0 _ _⟩)) (ac_leaf 18 (⟨vd_110_18 E, mn_ild _ _⟩))) (ac_node (ac_leaf 19 (⟨vd_110_19 E, mn_con _ _⟩)) (ac_leaf 21 (⟨vd_110_21 E, mn_le _ _⟩)))))) (ac_node (ac_node (ac_node (ac_leaf 24 (⟨vd_110_24 E, mn_con _ _⟩)) (ac_node (ac_leaf 25 (⟨vd_110_25 E, mn_go _⟩)) (ac_leaf 28 (⟨vd_110_28 E, mn_ald _ _⟩)))) (ac_node (ac_node (ac_leaf 29 (⟨vd_110_29 E, mn_get _ _ _⟩)) (ac_leaf 32 (⟨vd_110_32 E, mn_ald _ _⟩))) (ac_node (ac_leaf 33 (⟨vd_110_33 E, mn_get _ _ _⟩)) (ac_leaf 36 (⟨vd_110_36 E, mn_ild _ _⟩))))) (ac_node (ac_node (ac_leaf 37 (⟨vd_110_37 E, mn_mul _⟩)) (ac_node (ac_leaf 38 (⟨vd_110_38 E, mn_ild _ _⟩)) (ac_leaf 39 (⟨vd_110_39 E, mn_add _⟩)))) (ac_node (ac_node (ac_leaf 40 (⟨vd_110_40 E, mn_ia _⟩)) (ac_leaf 41 (⟨vd_110_41 E, mn_ild _ _⟩))) (ac_node (ac_leaf 42 (ac_Vc0 ((vd_110_42 E).1) (fun _ => rfl))) (ac_leaf 45 (⟨vd_110_45 E, mn_ne0 _ _⟩))))))) (ac_node (ac_node (ac_node (ac_node (ac_leaf 48 (⟨vd_110_48 E, mn_con _ _⟩)) (ac_node (ac_leaf 49 (⟨vd_110_49 E, mn_go _⟩)) (ac_leaf 52 (⟨vd_110_52 E, mn_con _ _⟩)))) (ac_node (ac_node (ac_leaf 53 (⟨vd_110_53 E, mn_put _ _ _⟩)) (ac_leaf 56 (⟨vd_110_56 E, mn_con _ _⟩))) (ac_node (ac_leaf 57 (⟨vd_110_57 E, mn_ist _ _⟩)) (ac_leaf 59 (⟨vd_110_59 E, mn_ild _ _⟩))))) (ac_node (ac_node (ac_leaf 61 (⟨vd_110_61 E, mn_ald _ _⟩)) (ac_node (ac_leaf 62 (⟨vd_110_62 E, mn_get _ _ _⟩)) (ac_leaf 65 (⟨vd_110_65 E, mn_ge _ _⟩)))) (ac_node (ac_node (ac_leaf 68 (⟨vd_110_68 E, mn_ald _ _⟩)) (ac_leaf 69 (⟨vd_110_69 E, mn_get _ _ _⟩))) (ac_node (ac_leaf 72 (⟨vd_110_72 E, mn_ne0 _ _⟩)) (ac_leaf 75 (⟨vd_110_75 E, mn_ald _ _⟩)))))) (ac_node (ac_node (ac_node (ac_leaf 76 (⟨vd_110_76 E, mn_ald _ _⟩)) (ac_node (ac_leaf 77 (⟨vd_110_77 E, mn_get _ _ _⟩)) (ac_leaf 80 (⟨vd_110_80 E, mn_ild _ _⟩)))) (ac_node (ac_node (ac_leaf 82 (⟨vd_110_82 E, mn_ia _⟩)) (ac_leaf 83 (⟨vd_110_83 E, mn_ald _ _⟩))) (ac_node (ac_leaf 84 (⟨vd_110_84 E, mn_get _ _ _⟩)) (ac_leaf 87 (⟨vd_110_87 E, mn_ild _ _⟩))))) (ac_node (ac_node (ac_leaf 88 (⟨vd_110_88 E, mn_mul _⟩)) (ac_node (ac_leaf 89 (⟨vd_110_89 E, mn_ild _ _⟩)) (ac_leaf 90 (⟨vd_110_90 E, mn_add _⟩)))) (ac_node (ac_node (ac_leaf 91 (⟨vd_110_91 E, mn_ne _ _⟩)) (ac_leaf 94 (⟨vd_110_94 E, mn_ald _ _⟩))) (ac_node (ac_leaf 95 (⟨vd_110_95 E, mn_get _ _ _⟩)) (ac_leaf 98 (⟨vd_110_98 E, mn_ild _ _⟩)))))))) (ac_node (ac_node (ac_node (ac_node (ac_node (ac_leaf 100 (⟨vd_110_100 E, mn_ia _⟩)) (ac_node (ac_leaf 101 (⟨vd_110_101 E, mn_ild _ _⟩)) (ac_leaf 102 (⟨vd_110_102 E, mn_ne _ _⟩)))) (ac_node (ac_leaf 105 (⟨vd_110_105 E, mn_con _ _⟩)) (ac_node (ac_leaf 106 (⟨vd_110_106 E, mn_go _⟩)) (ac_leaf 109 (⟨vd_110_109 E, mn_con _ _⟩))))) (ac_node (ac_node (ac_leaf 110 (⟨vd_110_110 E, mn_put _ _ _⟩)) (ac_node (ac_leaf 113 (⟨vd_110_113 E, mn_inc _ _ _⟩)) (ac_leaf 116 (⟨vd_110_116 E, mn_go _⟩)))) (ac_node (ac_node (ac_leaf 119 (⟨vd_110_119 E, mn_ald _ _⟩)) (ac_leaf 120 (⟨vd_110_120 E, mn_ald _ _⟩))) (ac_node (ac_leaf 121 (⟨vd_110_121 E, mn_get _ _ _⟩)) (ac_leaf 124 (⟨vd_110_124 E, mn_ne0 _ _⟩)))))) (ac_node (ac_node (ac_node (ac_leaf 127 (⟨vd_110_127 E, mn_ald _ _⟩)) (ac_node (ac_leaf 128 (⟨vd_110_128 E, mn_get _ _ _⟩)) (ac_leaf 131 (⟨vd_110_131 E, mn_con _ _⟩)))) (ac_node (ac_node (ac_leaf 132 (⟨vd_110_132 E, mn_ne _ _⟩)) (ac_leaf 135 (⟨vd_110_135 E, mn_con _ _⟩))) (ac_node (ac_leaf 136 (⟨vd_110_136 E, mn_go _⟩)) (ac_leaf 139 (⟨vd_110_139 E, mn_ald _ _⟩))))) (ac_node (ac_node (ac_leaf 140 (⟨vd_110_140 E, mn_get _ _ _⟩)) (ac_node (ac_leaf 143 (⟨vd_110_143 E, mn_put _ _ _⟩)) (ac_leaf 146 (⟨vd_110_146 E, mn_ald _ _⟩)))) (ac_node (ac_node (ac_leaf 147 (⟨vd_110_147 E, mn_get _ _ _⟩)) (ac_leaf 150 (⟨vd_110_150 E, mn_le0 _ _⟩))) (ac_node (ac_leaf 153 (⟨vd_110_153 E, mn_con _ _⟩)) (ac_leaf 154 (ac_Vr1 dd_110_154 rfl))))))) (ac_node (ac_node (ac_node (ac_node (ac_leaf 155 (⟨vd_110_155 E, mn_ald _ _⟩)) (ac_node (ac_leaf 156 (⟨vd_110_156 E, mn_get _ _ _⟩)) (ac_leaf 159 (⟨vd_110_159 E, mn_ald _ _⟩)))) (ac_node (ac_node (ac_leaf 160 (⟨vd_110_160 E, mn_get _ _ _⟩)) (ac_leaf 163 (⟨vd_110_163 E, mn_ald _ _⟩))) (ac_node (ac_leaf 164 (⟨vd_110_164 E, mn_get _ _ _⟩)) (ac_leaf 167 (⟨vd_110_167 E, mn_ild _ _⟩))))) (ac_node (ac_node (ac_leaf 168 (⟨vd_110_168 E, mn_mul _⟩)) (ac_node (ac_leaf 169 (⟨vd_110_169 E, mn_ild _ _⟩)) (ac_leaf 170 (⟨vd_110_170 E, mn_add _⟩)))) (ac_node (ac_node (ac_leaf 171 (⟨vd_110_171 E, mn_is _⟩)) (ac_leaf 172 (⟨vd_110_172 E, mn_ald _ _⟩))) (ac_node (ac_leaf 173 (⟨vd_110_173 E, mn_get _ _ _⟩)) (ac_leaf 176 (⟨vd_110_176 E, mn_ald _ _⟩)))))) (ac_node (ac_node (ac_node (ac_leaf 177 (⟨vd_110_177 E, mn_get _ _ _⟩)) (ac_node (ac_leaf 180 (⟨vd_110_180 E, mn_ild _ _⟩)) (ac_leaf 181 (⟨vd_110_181 E, mn_is _⟩)))) (ac_node (ac_node (ac_leaf 182 (⟨vd_110_182 E, mn_ald _ _⟩)) (ac_leaf 183 (⟨vd_110_183 E, mn_dup _⟩))) (ac_node (ac_leaf 184 (⟨vd_110_184 E, mn_get _ _ _⟩)) (ac_leaf 187 (⟨vd_110_187 E, mn_con _ _⟩))))) (ac_node (ac_node (ac_leaf 188 (⟨vd_110_188 E, mn_add _⟩)) (ac_node (ac_leaf 189 (⟨vd_110_189 E, mn_put _ _ _⟩)) (ac_leaf 192 (⟨vd_110_192 E, mn_ald _ _⟩)))) (ac_node (ac_node (ac_leaf 193 (⟨vd_110_193 E, mn_get _ _ _⟩)) (ac_leaf 196 (⟨vd_110_196 E, mn_con _ _⟩))) (ac_node (ac_leaf 197 (⟨vd_110_197 E, mn_sub _⟩)) (ac_leaf 198 (ac_Vr1 dd_110_198 rfl)))))))))
theorem vd_111_0 (E : ac_E) : ac_ok E md_111 0 (o_ald 0 1) := ok_aload_n (E := E) (d := md_111) (pc := 0) (j := 0) dd_111_0
theorem vd_111_1 (E : ac_E) : ac_ok E md_111 1 (o_ild 1 2) := ok_iload_n (E := E) (d := md_111) (pc := 1) (j := 1) dd_111_1
theorem vd_111_2 (E : ac_E) : ac_ok E md_111 2 (o_lt0 13 5) := ok_iflt (E := E) (d := md_111) (pc := 2) dd_111_2 (by decide)
theorem vd_111_5 (E : ac_E) : ac_ok E md_111 5 (o_ild 1 6) := ok_iload_n (E := E) (d := md_111) (pc := 5) (j := 1) dd_111_5
theorem vd_111_6 (E : ac_E) : ac_ok E md_111 6 (o_ald 0 7) := ok_aload_n (E := E) (d := md_111) (pc := 6) (j := 0) dd_111_6
theorem vd_111_7 (E : ac_E) : ac_ok E md_111 7 (o_get 5 14 10) := ok_getf (E := E) (d := md_111) (pc := 7) (ci := 5) (f := 14) (C := RX5) (T := TX5) (N := 17) (ref := RX5) rfl win_5 (by decide) rfl wm_652 dd_111_7
theorem vd_111_10 (E : ac_E) : ac_ok E md_111 10 (o_lt 17 13) := ok_icmplt (E := E) (d := md_111) (pc := 10) dd_111_10 (by decide)
theorem vd_111_13 (E : ac_E) : ac_ok E md_111 13 (o_con (.int 1) 14) := ok_iconst (E := E) (d := md_111) (pc := 13) dd_111_13 (by decide)
theorem vd_111_14 (E : ac_E) : ac_ok E md_111 14 (o_go 18) := ok_goto (E := E) (d := md_111) (pc := 14) dd_111_14 (by decide)
theorem vd_111_17 (E : ac_E) : ac_ok E md_111 17 (o_con (.int 0) 18) := ok_iconst (E := E) (d := md_111) (pc := 17) dd_111_17 (by decide)
theorem vd_111_18 (E : ac_E) : ac_ok E md_111 18 (o_put 5 0 21) := ok_putf (E := E) (d := md_111) (pc := 18) (ci := 5) (f := 0) (C := RX5) (T := TX5) (N := 17) (ref := RX5) rfl win_5 (by decide) rfl tyX5 tyX5_ok nmX5 (by decide +kernel) rfl wm_638 dd_111_18
theorem vd_111_21 (E : ac_E) : ac_ok E md_111 21 (o_ald 0 22) := ok_aload_n (E := E) (d := md_111) (pc := 21) (j := 0) dd_111_21
theorem vd_111_22 (E : ac_E) : ac_ok E md_111 22 (o_get 5 0 25) := ok_getf (E := E) (d := md_111) (pc := 22) (ci := 5) (f := 0) (C := RX5) (T := TX5) (N := 17) (ref := RX5) rfl win_5 (by decide) rfl wm_638 dd_111_22
theorem vd_111_25 (E : ac_E) : ac_ok E md_111 25 (o_le0 30 28) := ok_ifle (E := E) (d := md_111) (pc := 25) dd_111_25 (by decide)
theorem vd_111_28 (E : ac_E) : ac_ok E md_111 28 (o_con (.int 0) 29) := ok_iconst (E := E) (d := md_111) (pc := 28) dd_111_28 (by decide)
theorem vd_111_30 (E : ac_E) : ac_ok E md_111 30 (o_ald 0 31) := ok_aload_n (E := E) (d := md_111) (pc := 30) (j := 0) dd_111_30
theorem vd_111_31 (E : ac_E) : ac_ok E md_111 31 (o_get 5 15 34) := ok_getf (E := E) (d := md_111) (pc := 31) (ci := 5) (f := 15) (C := RX5) (T := TX5) (N := 17) (ref := RX5) rfl win_5 (by decide) rfl wm_653 dd_111_31
theorem vd_111_34 (E : ac_E) : ac_ok E md_111 34 (o_ild 1 35) := ok_iload_n (E := E) (d := md_111) (pc := 34) (j := 1) dd_111_34
theorem vd_111_35 (E : ac_E) : ac_ok E md_111 35 (o_ia 36) := ok_iaload (E := E) (d := md_111) (pc := 35) dd_111_35
theorem vd_111_36 (E : ac_E) : ac_ok E md_111 36 (o_ist 2 37) := ok_istore_n (E := E) (d := md_111) (pc := 36) (j := 2) dd_111_36
theorem vd_111_37 (E : ac_E) : ac_ok E md_111 37 (o_ild 2 38) := ok_iload_n (E := E) (d := md_111) (pc := 37) (j := 2) dd_111_37
theorem vd_111_38 (E : ac_E) : ac_ok E md_111 38 (o_ge0 45 41) := ok_ifge (E := E) (d := md_111) (pc := 38) dd_111_38 (by decide)
theorem vd_111_41 (E : ac_E) : ac_ok E md_111 41 (o_con (.int (-1)) 42) := ok_iconst (E := E) (d := md_111) (pc := 41) dd_111_41 (by decide)
theorem vd_111_42 (E : ac_E) : ac_ok E md_111 42 (o_go 72) := ok_goto (E := E) (d := md_111) (pc := 42) dd_111_42 (by decide)
theorem vd_111_45 (E : ac_E) : ac_ok E md_111 45 (o_con (.int 128) 48) := ok_sipush (E := E) (d := md_111) (pc := 45) dd_111_45 (by decide)
theorem vd_111_48 (E : ac_E) : ac_ok E md_111 48 (o_ild 2 49) := ok_iload_n (E := E) (d := md_111) (pc := 48) (j := 2) dd_111_48
theorem vd_111_49 (E : ac_E) : ac_ok E md_111 49 (o_ald 0 50) := ok_aload_n (E := E) (d := md_111) (pc := 49) (j := 0) dd_111_49
theorem vd_111_50 (E : ac_E) : ac_ok E md_111 50 (o_get 5 1 53) := ok_getf (E := E) (d := md_111) (pc := 50) (ci := 5) (f := 1) (C := RX5) (T := TX5) (N := 17) (ref := RX5) rfl win_5 (by decide) rfl wm_639 dd_111_50
theorem vd_111_53 (E : ac_E) : ac_ok E md_111 53 (o_div 54) := ok_idiv (E := E) (d := md_111) (pc := 53) dd_111_53
theorem vd_111_54 (E : ac_E) : ac_ok E md_111 54 (o_mul 55) := ok_imul (E := E) (d := md_111) (pc := 54) dd_111_54
theorem vd_111_55 (E : ac_E) : ac_ok E md_111 55 (o_con (.int 8) 57) := ok_bipush (E := E) (d := md_111) (pc := 55) dd_111_55 (by decide)
theorem vd_111_57 (E : ac_E) : ac_ok E md_111 57 (o_ild 2 58) := ok_iload_n (E := E) (d := md_111) (pc := 57) (j := 2) dd_111_57
theorem vd_111_58 (E : ac_E) : ac_ok E md_111 58 (o_ald 0 59) := ok_aload_n (E := E) (d := md_111) (pc := 58) (j := 0) dd_111_58
theorem vd_111_59 (E : ac_E) : ac_ok E md_111 59 (o_get 5 1 62) := ok_getf (E := E) (d := md_111) (pc := 59) (ci := 5) (f := 1) (C := RX5) (T := TX5) (N := 17) (ref := RX5) rfl win_5 (by decide) rfl wm_639 dd_111_59
theorem vd_111_62 (E : ac_E) : ac_ok E md_111 62 (o_rem 63) := ok_irem (E := E) (d := md_111) (pc := 62) dd_111_62
theorem vd_111_63 (E : ac_E) : ac_ok E md_111 63 (o_mul 64) := ok_imul (E := E) (d := md_111) (pc := 63) dd_111_63
theorem vd_111_64 (E : ac_E) : ac_ok E md_111 64 (o_add 65) := ok_iadd (E := E) (d := md_111) (pc := 64) dd_111_64
theorem vd_111_65 (E : ac_E) : ac_ok E md_111 65 (o_ald 0 66) := ok_aload_n (E := E) (d := md_111) (pc := 65) (j := 0) dd_111_65
theorem vd_111_66 (E : ac_E) : ac_ok E md_111 66 (o_get 5 16 69) := ok_getf (E := E) (d := md_111) (pc := 66) (ci := 5) (f := 16) (C := RX5) (T := TX5) (N := 17) (ref := RX5) rfl win_5 (by decide) rfl wm_654 dd_111_66
theorem vd_111_69 (E : ac_E) : ac_ok E md_111 69 (o_ild 1 70) := ok_iload_n (E := E) (d := md_111) (pc := 69) (j := 1) dd_111_69
theorem vd_111_70 (E : ac_E) : ac_ok E md_111 70 (o_ia 71) := ok_iaload (E := E) (d := md_111) (pc := 70) dd_111_70
theorem vd_111_71 (E : ac_E) : ac_ok E md_111 71 (o_add 72) := ok_iadd (E := E) (d := md_111) (pc := 71) dd_111_71
theorem va_111 (E : ac_E) (pc : Nat) : ac_V E ac_MDf ac_HDf 111 pc (tb_111 (ac_len E) (ac_xs E) pc) := (ac_node (ac_node (ac_node (ac_node (ac_node (ac_leaf 0 (⟨vd_111_0 E, mn_ald _ _⟩)) (ac_leaf 1 (⟨vd_111_1 E, mn_ild _ _⟩))) (ac_node (ac_leaf 2 (⟨vd_111_2 E, mn_lt0 _ _⟩)) (ac_node (ac_leaf 5 (⟨vd_111_5 E, mn_ild _ _⟩)) (ac_leaf 6 (⟨vd_111_6 E, mn_ald _ _⟩))))) (ac_node (ac_node (ac_leaf 7 (⟨vd_111_7 E, mn_get _ _ _⟩)) (ac_node (ac_leaf 10 (⟨vd_111_10 E, mn_lt _ _⟩)) (ac_leaf 13 (⟨vd_111_13 E, mn_con _ _⟩)))) (ac_node (ac_leaf 14 (⟨vd_111_14 E, mn_go _⟩)) (ac_node (ac_leaf 17 (⟨vd_111_17 E, mn_con _ _⟩)) (ac_leaf 18 (⟨vd_111_18 E, mn_put _ _ _⟩)))))) (ac_node (ac_node (ac_node (ac_leaf 21 (⟨vd_111_21 E, mn_ald _ _⟩)) (ac_leaf 22 (⟨vd_111_22 E, mn_get _ _ _⟩))) (ac_node (ac_leaf 25 (⟨vd_111_25 E, mn_le0 _ _⟩)) (ac_node (ac_leaf 28 (⟨vd_111_28 E, mn_con _ _⟩)) (ac_leaf 29 (ac_Vr1 dd_111_29 rfl))))) (ac_node (ac_node (ac_leaf 30 (⟨vd_111_30 E, mn_ald _ _⟩)) (ac_node (ac_leaf 31 (⟨vd_111_31 E, mn_get _ _ _⟩)) (ac_leaf 34 (⟨vd_111_34 E, mn_ild _ _⟩)))) (ac_node (ac_leaf 35 (⟨vd_111_35 E, mn_ia _⟩)) (ac_node (ac_leaf 36 (⟨vd_111_36 E, mn_ist _ _⟩)) (ac_leaf 37 (⟨vd_111_37 E, mn_ild _ _⟩))))))) (ac_node (ac_node (ac_node (ac_node (ac_leaf 38 (⟨vd_111_38 E, mn_ge0 _ _⟩)) (ac_leaf 41 (⟨vd_111_41 E, mn_con _ _⟩))) (ac_node (ac_leaf 42 (⟨vd_111_42 E, mn_go _⟩)) (ac_node (ac_leaf 45 (⟨vd_111_45 E, mn_con _ _⟩)) (ac_leaf 48 (⟨vd_111_48 E, mn_ild _ _⟩))))) (ac_node (ac_node (ac_leaf 49 (⟨vd_111_49 E, mn_ald _ _⟩)) (ac_node (ac_leaf 50 (⟨vd_111_50 E, mn_get _ _ _⟩)) (ac_leaf 53 (⟨vd_111_53 E, mn_div _⟩)))) (ac_node (ac_leaf 54 (⟨vd_111_54 E, mn_mul _⟩)) (ac_node (ac_leaf 55 (⟨vd_111_55 E, mn_con _ _⟩)) (ac_leaf 57 (⟨vd_111_57 E, mn_ild _ _⟩)))))) (ac_node (ac_node (ac_node (ac_leaf 58 (⟨vd_111_58 E, mn_ald _ _⟩)) (ac_leaf 59 (⟨vd_111_59 E, mn_get _ _ _⟩))) (ac_node (ac_leaf 62 (⟨vd_111_62 E, mn_rem _⟩)) (ac_node (ac_leaf 63 (⟨vd_111_63 E, mn_mul _⟩)) (ac_leaf 64 (⟨vd_111_64 E, mn_add _⟩))))) (ac_node (ac_node (ac_leaf 65 (⟨vd_111_65 E, mn_ald _ _⟩)) (ac_node (ac_leaf 66 (⟨vd_111_66 E, mn_get _ _ _⟩)) (ac_leaf 69 (⟨vd_111_69 E, mn_ild _ _⟩)))) (ac_node (ac_leaf 70 (⟨vd_111_70 E, mn_ia _⟩)) (ac_node (ac_leaf 71 (⟨vd_111_71 E, mn_add _⟩)) (ac_leaf 72 (ac_Vr1 dd_111_72 rfl))))))))
theorem vd_112_0 (E : ac_E) : ac_ok E md_112 0 (o_ild 1 1) := ok_iload_n (E := E) (d := md_112) (pc := 0) (j := 1) dd_112_0
theorem vd_112_1 (E : ac_E) : ac_ok E md_112 1 (o_ald 0 2) := ok_aload_n (E := E) (d := md_112) (pc := 1) (j := 0) dd_112_1
theorem vd_112_2 (E : ac_E) : ac_ok E md_112 2 (o_xl (ac_len E) 3) := ok_xl (E := E) (d := md_112) (pc := 2) dd_112_2
theorem vd_112_3 (E : ac_E) : ac_ok E md_112 3 (o_ge 12 6) := ok_icmpge (E := E) (d := md_112) (pc := 3) dd_112_3 (by decide)
theorem vd_112_6 (E : ac_E) : ac_ok E md_112 6 (o_ald 0 7) := ok_aload_n (E := E) (d := md_112) (pc := 6) (j := 0) dd_112_6
theorem vd_112_7 (E : ac_E) : ac_ok E md_112 7 (o_ild 1 8) := ok_iload_n (E := E) (d := md_112) (pc := 7) (j := 1) dd_112_7
theorem vd_112_8 (E : ac_E) : ac_ok E md_112 8 (o_xa (ac_len E) (ac_xs E) 9) := ok_xa (E := E) (d := md_112) (pc := 8) dd_112_8
theorem vd_112_9 (E : ac_E) : ac_ok E md_112 9 (o_go 13) := ok_goto (E := E) (d := md_112) (pc := 9) dd_112_9 (by decide)
theorem vd_112_12 (E : ac_E) : ac_ok E md_112 12 (o_con (.int 0) 13) := ok_iconst (E := E) (d := md_112) (pc := 12) dd_112_12 (by decide)
theorem va_112 (E : ac_E) (pc : Nat) : ac_V E ac_MDf ac_HDf 112 pc (tb_112 (ac_len E) (ac_xs E) pc) := (ac_node (ac_node (ac_node (ac_leaf 0 (⟨vd_112_0 E, mn_ild _ _⟩)) (ac_leaf 1 (⟨vd_112_1 E, mn_ald _ _⟩))) (ac_node (ac_leaf 2 (⟨vd_112_2 E, mn_xl _ _⟩)) (ac_node (ac_leaf 3 (⟨vd_112_3 E, mn_ge _ _⟩)) (ac_leaf 6 (⟨vd_112_6 E, mn_ald _ _⟩))))) (ac_node (ac_node (ac_leaf 7 (⟨vd_112_7 E, mn_ild _ _⟩)) (ac_leaf 8 (⟨vd_112_8 E, mn_xa _ _ _⟩))) (ac_node (ac_leaf 9 (⟨vd_112_9 E, mn_go _⟩)) (ac_node (ac_leaf 12 (⟨vd_112_12 E, mn_con _ _⟩)) (ac_leaf 13 (ac_Vr1 dd_112_13 rfl))))))
theorem vd_113_0 (E : ac_E) : ac_ok E md_113 0 (o_ald 0 1) := ok_aload_n (E := E) (d := md_113) (pc := 0) (j := 0) dd_113_0
theorem vd_113_1 (E : ac_E) : ac_ok E md_113 1 (o_ild 1 2) := ok_iload_n (E := E) (d := md_113) (pc := 1) (j := 1) dd_113_1
theorem vd_113_2 (E : ac_E) : ac_ok E md_113 2 (o_ild 2 3) := ok_iload_n (E := E) (d := md_113) (pc := 2) (j := 2) dd_113_2
theorem vd_113_3 (E : ac_E) : ac_ok E md_113 3 (o_ild 3 4) := ok_iload_n (E := E) (d := md_113) (pc := 3) (j := 3) dd_113_3
theorem vd_113_4 (E : ac_E) : ac_okr E md_113 md_24 4 4 7 6 ∧ ac_okt E md_113 md_24 4 4 6 := ok_callV (E := E) (d := md_113) (dz := md_24) (pc := 4) (T := TX4) (N := 12) rfl rfl (by decide) (by decide +kernel) wm_227 wm_50 wm_224 wm_225 wm_226 dd_113_4
theorem vh_113 (E : ac_E) : ∀ x i j, ac_HDf 113 4 x = some (some (i, j)) → ac_okh E md_113 4 x i j
  | 0, _, _, h => by
    cases h
    exact ok_catch (d := md_113) rfl [] (0, 7, 10, 13) [(0, 7, 14, 15)] rfl (fun _ h => nomatch h) (by decide) (by decide +kernel) (by decide) wm_222 wm_234 (Or.inr ⟨rfl, dd_113_10⟩)
  | 1, _, _, h => by
    cases h
    exact ok_catch (d := md_113) rfl [(0, 7, 10, 13)] (0, 7, 14, 15) [] rfl (List.forall_mem_cons.mpr ⟨⟨by decide, 0, by decide, by decide, wm_222⟩, fun _ h => nomatch h⟩) (by decide) (by decide +kernel) (by decide) wm_223 wm_310 (Or.inr ⟨rfl, dd_113_14⟩)
  | x + 2, _, _, h => by cases h
theorem vn_113 : ∀ x, ac_HDf 113 4 x ≠ some none
  | 0, h => by cases h
  | 1, h => by cases h
  | x + 2, h => by cases h
theorem vd_113_7 (E : ac_E) : ac_ok E md_113 7 (o_go 18) := ok_goto (E := E) (d := md_113) (pc := 7) dd_113_7 (by decide)
theorem vd_113_12 (E : ac_E) : ac_ok E md_113 12 (o_con (.int 1) 13) := ok_iconst (E := E) (d := md_113) (pc := 12) dd_113_12 (by decide)
theorem vd_113_16 (E : ac_E) : ac_ok E md_113 16 (o_con (.int 2) 17) := ok_iconst (E := E) (d := md_113) (pc := 16) dd_113_16 (by decide)
theorem vd_113_18 (E : ac_E) : ac_ok E md_113 18 (o_con (.int 0) 19) := ok_iconst (E := E) (d := md_113) (pc := 18) dd_113_18 (by decide)
theorem va_113 (E : ac_E) (pc : Nat) : ac_V E ac_MDf ac_HDf 113 pc (tb_113 (ac_len E) (ac_xs E) pc) := (ac_node (ac_node (ac_node (ac_leaf 0 (⟨vd_113_0 E, mn_ald _ _⟩)) (ac_node (ac_leaf 1 (⟨vd_113_1 E, mn_ild _ _⟩)) (ac_leaf 2 (⟨vd_113_2 E, mn_ild _ _⟩)))) (ac_node (ac_leaf 3 (⟨vd_113_3 E, mn_ild _ _⟩)) (ac_node (ac_leaf 4 (ac_Vcc (vd_113_4 E) vn_113 (vh_113 E))) (ac_leaf 7 (⟨vd_113_7 E, mn_go _⟩))))) (ac_node (ac_node (ac_leaf 12 (⟨vd_113_12 E, mn_con _ _⟩)) (ac_node (ac_leaf 13 (ac_Vr1 dd_113_13 rfl)) (ac_leaf 16 (⟨vd_113_16 E, mn_con _ _⟩)))) (ac_node (ac_leaf 17 (ac_Vr1 dd_113_17 rfl)) (ac_node (ac_leaf 18 (⟨vd_113_18 E, mn_con _ _⟩)) (ac_leaf 19 (ac_Vr1 dd_113_19 rfl))))))
theorem vd_114_0 (E : ac_E) : ac_ok E md_114 0 (o_ald 3 1) := ok_aload_n (E := E) (d := md_114) (pc := 0) (j := 3) dd_114_0
theorem vd_114_1 (E : ac_E) : ac_ok E md_114 1 (o_con (.int 0) 2) := ok_iconst (E := E) (d := md_114) (pc := 1) dd_114_1 (by decide)
theorem vd_114_2 (E : ac_E) : ac_ok E md_114 2 (o_ald 0 3) := ok_aload_n (E := E) (d := md_114) (pc := 2) (j := 0) dd_114_2
theorem vd_114_3 (E : ac_E) : ac_ok E md_114 3 (o_ild 1 4) := ok_iload_n (E := E) (d := md_114) (pc := 3) (j := 1) dd_114_3
theorem vd_114_4 (E : ac_E) : ac_ok E md_114 4 (o_ild 2 5) := ok_iload_n (E := E) (d := md_114) (pc := 4) (j := 2) dd_114_4
theorem vd_114_5 (E : ac_E) : ac_okr E md_114 md_25 5 3 8 6 ∧ ac_okt E md_114 md_25 5 3 6 := ok_callV (E := E) (d := md_114) (dz := md_25) (pc := 5) (T := TX4) (N := 12) rfl rfl (by decide) (by decide +kernel) wm_334 wm_50 wm_331 wm_332 wm_333 dd_114_5
theorem vh_114 (E : ac_E) : ∀ x i j, ac_HDf 114 5 x = some (some (i, j)) → ac_okh E md_114 5 x i j
  | 0, _, _, h => by
    cases h
    exact ok_catch (d := md_114) rfl [] (0, 10, 13, 13) [] rfl (fun _ h => nomatch h) (by decide) (by decide +kernel) (by decide) wm_222 wm_234 (Or.inr ⟨rfl, dd_114_13⟩)
  | x + 1, _, _, h => by cases h
theorem vn_114 : ∀ x, ac_HDf 114 5 x ≠ some none
  | 0, h => by cases h
  | x + 1, h => by cases h
theorem vd_114_8 (E : ac_E) : ac_ok E md_114 8 (o_i2l 9) := ok_i2l (E := E) (d := md_114) (pc := 8) dd_114_8
theorem vd_114_9 (E : ac_E) : ac_ok E md_114 9 (o_ls 10) := ok_lastore (E := E) (d := md_114) (pc := 9) dd_114_9
theorem vd_114_10 (E : ac_E) : ac_ok E md_114 10 (o_go 17) := ok_goto (E := E) (d := md_114) (pc := 10) dd_114_10 (by decide)
theorem vd_114_15 (E : ac_E) : ac_ok E md_114 15 (o_con (.int 1) 16) := ok_iconst (E := E) (d := md_114) (pc := 15) dd_114_15 (by decide)
theorem vd_114_17 (E : ac_E) : ac_ok E md_114 17 (o_con (.int 0) 18) := ok_iconst (E := E) (d := md_114) (pc := 17) dd_114_17 (by decide)
theorem va_114 (E : ac_E) (pc : Nat) : ac_V E ac_MDf ac_HDf 114 pc (tb_114 (ac_len E) (ac_xs E) pc) := (ac_node (ac_node (ac_node (ac_leaf 0 (⟨vd_114_0 E, mn_ald _ _⟩)) (ac_node (ac_leaf 1 (⟨vd_114_1 E, mn_con _ _⟩)) (ac_leaf 2 (⟨vd_114_2 E, mn_ald _ _⟩)))) (ac_node (ac_leaf 3 (⟨vd_114_3 E, mn_ild _ _⟩)) (ac_node (ac_leaf 4 (⟨vd_114_4 E, mn_ild _ _⟩)) (ac_leaf 5 (ac_Vcc (vd_114_5 E) vn_114 (vh_114 E)))))) (ac_node (ac_node (ac_leaf 8 (⟨vd_114_8 E, mn_i2l _⟩)) (ac_node (ac_leaf 9 (⟨vd_114_9 E, mn_ls _⟩)) (ac_leaf 10 (⟨vd_114_10 E, mn_go _⟩)))) (ac_node (ac_node (ac_leaf 15 (⟨vd_114_15 E, mn_con _ _⟩)) (ac_leaf 16 (ac_Vr1 dd_114_16 rfl))) (ac_node (ac_leaf 17 (⟨vd_114_17 E, mn_con _ _⟩)) (ac_leaf 18 (ac_Vr1 dd_114_18 rfl))))))
theorem vd_115_0 (E : ac_E) : ac_ok E md_115 0 (o_ald 3 1) := ok_aload_n (E := E) (d := md_115) (pc := 0) (j := 3) dd_115_0
theorem vd_115_1 (E : ac_E) : ac_ok E md_115 1 (o_con (.int 0) 2) := ok_iconst (E := E) (d := md_115) (pc := 1) dd_115_1 (by decide)
theorem vd_115_2 (E : ac_E) : ac_ok E md_115 2 (o_ald 0 3) := ok_aload_n (E := E) (d := md_115) (pc := 2) (j := 0) dd_115_2
theorem vd_115_3 (E : ac_E) : ac_ok E md_115 3 (o_ild 1 4) := ok_iload_n (E := E) (d := md_115) (pc := 3) (j := 1) dd_115_3
theorem vd_115_4 (E : ac_E) : ac_ok E md_115 4 (o_ild 2 5) := ok_iload_n (E := E) (d := md_115) (pc := 4) (j := 2) dd_115_4
theorem vd_115_5 (E : ac_E) : ac_okr E md_115 md_26 5 3 8 6 ∧ ac_okt E md_115 md_26 5 3 6 := ok_callV (E := E) (d := md_115) (dz := md_26) (pc := 5) (T := TX4) (N := 12) rfl rfl (by decide) (by decide +kernel) wm_341 wm_50 wm_338 wm_339 wm_340 dd_115_5
theorem vh_115 (E : ac_E) : ∀ x i j, ac_HDf 115 5 x = some (some (i, j)) → ac_okh E md_115 5 x i j
  | 1, _, _, h => by
    cases h
    exact ok_catch (d := md_115) rfl [] (0, 10, 13, 15) [] rfl (fun _ h => nomatch h) (by decide) (by decide +kernel) (by decide) wm_223 wm_310 (Or.inr ⟨rfl, dd_115_13⟩)
  | 0, _, _, h => by cases h
  | x + 2, _, _, h => by cases h
theorem vn_115 : ∀ x, ac_HDf 115 5 x ≠ some none
  | 0, h => by cases h
  | 1, h => by cases h
  | x + 2, h => by cases h
theorem vd_115_8 (E : ac_E) : ac_ok E md_115 8 (o_i2l 9) := ok_i2l (E := E) (d := md_115) (pc := 8) dd_115_8
theorem vd_115_9 (E : ac_E) : ac_ok E md_115 9 (o_ls 10) := ok_lastore (E := E) (d := md_115) (pc := 9) dd_115_9
theorem vd_115_10 (E : ac_E) : ac_ok E md_115 10 (o_go 17) := ok_goto (E := E) (d := md_115) (pc := 10) dd_115_10 (by decide)
theorem vd_115_15 (E : ac_E) : ac_ok E md_115 15 (o_con (.int 1) 16) := ok_iconst (E := E) (d := md_115) (pc := 15) dd_115_15 (by decide)
theorem vd_115_17 (E : ac_E) : ac_ok E md_115 17 (o_con (.int 0) 18) := ok_iconst (E := E) (d := md_115) (pc := 17) dd_115_17 (by decide)
theorem va_115 (E : ac_E) (pc : Nat) : ac_V E ac_MDf ac_HDf 115 pc (tb_115 (ac_len E) (ac_xs E) pc) := (ac_node (ac_node (ac_node (ac_leaf 0 (⟨vd_115_0 E, mn_ald _ _⟩)) (ac_node (ac_leaf 1 (⟨vd_115_1 E, mn_con _ _⟩)) (ac_leaf 2 (⟨vd_115_2 E, mn_ald _ _⟩)))) (ac_node (ac_leaf 3 (⟨vd_115_3 E, mn_ild _ _⟩)) (ac_node (ac_leaf 4 (⟨vd_115_4 E, mn_ild _ _⟩)) (ac_leaf 5 (ac_Vcc (vd_115_5 E) vn_115 (vh_115 E)))))) (ac_node (ac_node (ac_leaf 8 (⟨vd_115_8 E, mn_i2l _⟩)) (ac_node (ac_leaf 9 (⟨vd_115_9 E, mn_ls _⟩)) (ac_leaf 10 (⟨vd_115_10 E, mn_go _⟩)))) (ac_node (ac_node (ac_leaf 15 (⟨vd_115_15 E, mn_con _ _⟩)) (ac_leaf 16 (ac_Vr1 dd_115_16 rfl))) (ac_node (ac_leaf 17 (⟨vd_115_17 E, mn_con _ _⟩)) (ac_leaf 18 (ac_Vr1 dd_115_18 rfl))))))
theorem vd_116_0 (E : ac_E) : ac_ok E md_116 0 (o_ald 4 2) := ok_aload (E := E) (d := md_116) (pc := 0) dd_116_0
theorem vd_116_2 (E : ac_E) : ac_ok E md_116 2 (o_con (.int 0) 3) := ok_iconst (E := E) (d := md_116) (pc := 2) dd_116_2 (by decide)
theorem vd_116_3 (E : ac_E) : ac_ok E md_116 3 (o_ald 0 4) := ok_aload_n (E := E) (d := md_116) (pc := 3) (j := 0) dd_116_3
theorem vd_116_4 (E : ac_E) : ac_ok E md_116 4 (o_ild 1 5) := ok_iload_n (E := E) (d := md_116) (pc := 4) (j := 1) dd_116_4
theorem vd_116_5 (E : ac_E) : ac_ok E md_116 5 (o_ild 2 6) := ok_iload_n (E := E) (d := md_116) (pc := 5) (j := 2) dd_116_5
theorem vd_116_6 (E : ac_E) : ac_ok E md_116 6 (o_ild 3 7) := ok_iload_n (E := E) (d := md_116) (pc := 6) (j := 3) dd_116_6
theorem vd_116_7 (E : ac_E) : ac_okr E md_116 md_27 7 4 10 6 ∧ ac_okt E md_116 md_27 7 4 6 := ok_callV (E := E) (d := md_116) (dz := md_27) (pc := 7) (T := TX4) (N := 12) rfl rfl (by decide) (by decide +kernel) wm_361 wm_50 wm_358 wm_359 wm_360 dd_116_7
theorem vh_116 (E : ac_E) : ∀ x i j, ac_HDf 116 7 x = some (some (i, j)) → ac_okh E md_116 7 x i j
  | 0, _, _, h => by
    cases h
    exact ok_catch (d := md_116) rfl [] (0, 19, 22, 13) [(0, 19, 26, 28)] rfl (fun _ h => nomatch h) (by decide) (by decide +kernel) (by decide) wm_222 wm_234 (Or.inr ⟨rfl, dd_116_22⟩)
  | 2, _, _, h => by
    cases h
    exact ok_catch (d := md_116) rfl [(0, 19, 22, 13)] (0, 19, 26, 28) [] rfl (List.forall_mem_cons.mpr ⟨⟨by decide, 0, by decide, by decide, wm_222⟩, fun _ h => nomatch h⟩) (by decide) (by decide +kernel) (by decide) wm_357 wm_368 (Or.inr ⟨rfl, dd_116_26⟩)
  | 1, _, _, h => by cases h
  | x + 3, _, _, h => by cases h
theorem vn_116 : ∀ x, ac_HDf 116 7 x ≠ some none
  | 0, h => by cases h
  | 1, h => by cases h
  | 2, h => by cases h
  | x + 3, h => by cases h
theorem vd_116_10 (E : ac_E) : ac_ok E md_116 10 (o_eq0 17 13) := ok_ifeq (E := E) (d := md_116) (pc := 10) dd_116_10 (by decide)
theorem vd_116_13 (E : ac_E) : ac_ok E md_116 13 (o_con (.long 1) 14) := ok_lconst (E := E) (d := md_116) (pc := 13) dd_116_13 (by decide)
theorem vd_116_14 (E : ac_E) : ac_ok E md_116 14 (o_go 18) := ok_goto (E := E) (d := md_116) (pc := 14) dd_116_14 (by decide)
theorem vd_116_17 (E : ac_E) : ac_ok E md_116 17 (o_con (.long 0) 18) := ok_lconst (E := E) (d := md_116) (pc := 17) dd_116_17 (by decide)
theorem vd_116_18 (E : ac_E) : ac_ok E md_116 18 (o_ls 19) := ok_lastore (E := E) (d := md_116) (pc := 18) dd_116_18
theorem vd_116_19 (E : ac_E) : ac_ok E md_116 19 (o_go 30) := ok_goto (E := E) (d := md_116) (pc := 19) dd_116_19 (by decide)
theorem vd_116_24 (E : ac_E) : ac_ok E md_116 24 (o_con (.int 1) 25) := ok_iconst (E := E) (d := md_116) (pc := 24) dd_116_24 (by decide)
theorem vd_116_28 (E : ac_E) : ac_ok E md_116 28 (o_con (.int 2) 29) := ok_iconst (E := E) (d := md_116) (pc := 28) dd_116_28 (by decide)
theorem vd_116_30 (E : ac_E) : ac_ok E md_116 30 (o_con (.int 0) 31) := ok_iconst (E := E) (d := md_116) (pc := 30) dd_116_30 (by decide)
theorem va_116 (E : ac_E) (pc : Nat) : ac_V E ac_MDf ac_HDf 116 pc (tb_116 (ac_len E) (ac_xs E) pc) := (ac_node (ac_node (ac_node (ac_node (ac_leaf 0 (⟨vd_116_0 E, mn_ald _ _⟩)) (ac_leaf 2 (⟨vd_116_2 E, mn_con _ _⟩))) (ac_node (ac_leaf 3 (⟨vd_116_3 E, mn_ald _ _⟩)) (ac_leaf 4 (⟨vd_116_4 E, mn_ild _ _⟩)))) (ac_node (ac_node (ac_leaf 5 (⟨vd_116_5 E, mn_ild _ _⟩)) (ac_leaf 6 (⟨vd_116_6 E, mn_ild _ _⟩))) (ac_node (ac_leaf 7 (ac_Vcc (vd_116_7 E) vn_116 (vh_116 E))) (ac_node (ac_leaf 10 (⟨vd_116_10 E, mn_eq0 _ _⟩)) (ac_leaf 13 (⟨vd_116_13 E, mn_con _ _⟩)))))) (ac_node (ac_node (ac_node (ac_leaf 14 (⟨vd_116_14 E, mn_go _⟩)) (ac_leaf 17 (⟨vd_116_17 E, mn_con _ _⟩))) (ac_node (ac_leaf 18 (⟨vd_116_18 E, mn_ls _⟩)) (ac_node (ac_leaf 19 (⟨vd_116_19 E, mn_go _⟩)) (ac_leaf 24 (⟨vd_116_24 E, mn_con _ _⟩))))) (ac_node (ac_node (ac_leaf 25 (ac_Vr1 dd_116_25 rfl)) (ac_leaf 28 (⟨vd_116_28 E, mn_con _ _⟩))) (ac_node (ac_leaf 29 (ac_Vr1 dd_116_29 rfl)) (ac_node (ac_leaf 30 (⟨vd_116_30 E, mn_con _ _⟩)) (ac_leaf 31 (ac_Vr1 dd_116_31 rfl)))))))
theorem vd_117_0 (E : ac_E) : ac_ok E md_117 0 (o_ald 0 1) := ok_aload_n (E := E) (d := md_117) (pc := 0) (j := 0) dd_117_0
theorem vd_117_1 (E : ac_E) : ac_ok E md_117 1 (o_ild 1 2) := ok_iload_n (E := E) (d := md_117) (pc := 1) (j := 1) dd_117_1
theorem vd_117_2 (E : ac_E) : ac_ok E md_117 2 (o_ild 2 3) := ok_iload_n (E := E) (d := md_117) (pc := 2) (j := 2) dd_117_2
theorem vd_117_3 (E : ac_E) : ac_ok E md_117 3 (o_ild 3 4) := ok_iload_n (E := E) (d := md_117) (pc := 3) (j := 3) dd_117_3
theorem vd_117_4 (E : ac_E) : ac_okr E md_117 md_28 4 4 7 6 ∧ ac_okt E md_117 md_28 4 4 6 := ok_callV (E := E) (d := md_117) (dz := md_28) (pc := 4) (T := TX4) (N := 12) rfl rfl (by decide) (by decide +kernel) wm_388 wm_50 wm_385 wm_386 wm_387 dd_117_4
theorem vh_117 (E : ac_E) : ∀ x i j, ac_HDf 117 4 x = some (some (i, j)) → ac_okh E md_117 4 x i j
  | 0, _, _, h => by
    cases h
    exact ok_catch (d := md_117) rfl [] (0, 7, 10, 13) [(0, 7, 14, 15), (0, 7, 18, 28)] rfl (fun _ h => nomatch h) (by decide) (by decide +kernel) (by decide) wm_222 wm_234 (Or.inr ⟨rfl, dd_117_10⟩)
  | 1, _, _, h => by
    cases h
    exact ok_catch (d := md_117) rfl [(0, 7, 10, 13)] (0, 7, 14, 15) [(0, 7, 18, 28)] rfl (List.forall_mem_cons.mpr ⟨⟨by decide, 0, by decide, by decide, wm_222⟩, fun _ h => nomatch h⟩) (by decide) (by decide +kernel) (by decide) wm_223 wm_310 (Or.inr ⟨rfl, dd_117_14⟩)
  | 2, _, _, h => by
    cases h
    exact ok_catch (d := md_117) rfl [(0, 7, 10, 13), (0, 7, 14, 15)] (0, 7, 18, 28) [] rfl (List.forall_mem_cons.mpr ⟨⟨by decide, 0, by decide, by decide, wm_222⟩, List.forall_mem_cons.mpr ⟨⟨by decide, 1, by decide, by decide, wm_223⟩, fun _ h => nomatch h⟩⟩) (by decide) (by decide +kernel) (by decide) wm_357 wm_368 (Or.inr ⟨rfl, dd_117_18⟩)
  | x + 3, _, _, h => by cases h
theorem vn_117 : ∀ x, ac_HDf 117 4 x ≠ some none
  | 0, h => by cases h
  | 1, h => by cases h
  | 2, h => by cases h
  | x + 3, h => by cases h
theorem vd_117_7 (E : ac_E) : ac_ok E md_117 7 (o_go 22) := ok_goto (E := E) (d := md_117) (pc := 7) dd_117_7 (by decide)
theorem vd_117_12 (E : ac_E) : ac_ok E md_117 12 (o_con (.int 1) 13) := ok_iconst (E := E) (d := md_117) (pc := 12) dd_117_12 (by decide)
theorem vd_117_16 (E : ac_E) : ac_ok E md_117 16 (o_con (.int 2) 17) := ok_iconst (E := E) (d := md_117) (pc := 16) dd_117_16 (by decide)
theorem vd_117_20 (E : ac_E) : ac_ok E md_117 20 (o_con (.int 3) 21) := ok_iconst (E := E) (d := md_117) (pc := 20) dd_117_20 (by decide)
theorem vd_117_22 (E : ac_E) : ac_ok E md_117 22 (o_con (.int 0) 23) := ok_iconst (E := E) (d := md_117) (pc := 22) dd_117_22 (by decide)
theorem va_117 (E : ac_E) (pc : Nat) : ac_V E ac_MDf ac_HDf 117 pc (tb_117 (ac_len E) (ac_xs E) pc) := (ac_node (ac_node (ac_node (ac_leaf 0 (⟨vd_117_0 E, mn_ald _ _⟩)) (ac_node (ac_leaf 1 (⟨vd_117_1 E, mn_ild _ _⟩)) (ac_leaf 2 (⟨vd_117_2 E, mn_ild _ _⟩)))) (ac_node (ac_node (ac_leaf 3 (⟨vd_117_3 E, mn_ild _ _⟩)) (ac_leaf 4 (ac_Vcc (vd_117_4 E) vn_117 (vh_117 E)))) (ac_node (ac_leaf 7 (⟨vd_117_7 E, mn_go _⟩)) (ac_leaf 12 (⟨vd_117_12 E, mn_con _ _⟩))))) (ac_node (ac_node (ac_leaf 13 (ac_Vr1 dd_117_13 rfl)) (ac_node (ac_leaf 16 (⟨vd_117_16 E, mn_con _ _⟩)) (ac_leaf 17 (ac_Vr1 dd_117_17 rfl)))) (ac_node (ac_node (ac_leaf 20 (⟨vd_117_20 E, mn_con _ _⟩)) (ac_leaf 21 (ac_Vr1 dd_117_21 rfl))) (ac_node (ac_leaf 22 (⟨vd_117_22 E, mn_con _ _⟩)) (ac_leaf 23 (ac_Vr1 dd_117_23 rfl))))))
theorem vd_118_0 (E : ac_E) : ac_ok E md_118 0 (o_ald 4 2) := ok_aload (E := E) (d := md_118) (pc := 0) dd_118_0
theorem vd_118_2 (E : ac_E) : ac_ok E md_118 2 (o_con (.int 0) 3) := ok_iconst (E := E) (d := md_118) (pc := 2) dd_118_2 (by decide)
theorem vd_118_3 (E : ac_E) : ac_ok E md_118 3 (o_ald 0 4) := ok_aload_n (E := E) (d := md_118) (pc := 3) (j := 0) dd_118_3
theorem vd_118_4 (E : ac_E) : ac_ok E md_118 4 (o_ild 1 5) := ok_iload_n (E := E) (d := md_118) (pc := 4) (j := 1) dd_118_4
theorem vd_118_5 (E : ac_E) : ac_ok E md_118 5 (o_ild 2 6) := ok_iload_n (E := E) (d := md_118) (pc := 5) (j := 2) dd_118_5
theorem vd_118_6 (E : ac_E) : ac_ok E md_118 6 (o_ild 3 7) := ok_iload_n (E := E) (d := md_118) (pc := 6) (j := 3) dd_118_6
theorem vd_118_7 (E : ac_E) : ac_okr E md_118 md_29 7 4 10 6 ∧ ac_okt E md_118 md_29 7 4 6 := ok_callV (E := E) (d := md_118) (dz := md_29) (pc := 7) (T := TX4) (N := 12) rfl rfl (by decide) (by decide +kernel) wm_395 wm_50 wm_392 wm_393 wm_394 dd_118_7
theorem vh_118 (E : ac_E) : ∀ x i j, ac_HDf 118 7 x = some (some (i, j)) → ac_okh E md_118 7 x i j
  | 0, _, _, h => by
    cases h
    exact ok_catch (d := md_118) rfl [] (0, 19, 22, 13) [(0, 19, 26, 28)] rfl (fun _ h => nomatch h) (by decide) (by decide +kernel) (by decide) wm_222 wm_234 (Or.inr ⟨rfl, dd_118_22⟩)
  | 2, _, _, h => by
    cases h
    exact ok_catch (d := md_118) rfl [(0, 19, 22, 13)] (0, 19, 26, 28) [] rfl (List.forall_mem_cons.mpr ⟨⟨by decide, 0, by decide, by decide, wm_222⟩, fun _ h => nomatch h⟩) (by decide) (by decide +kernel) (by decide) wm_357 wm_368 (Or.inr ⟨rfl, dd_118_26⟩)
  | 1, _, _, h => by cases h
  | x + 3, _, _, h => by cases h
theorem vn_118 : ∀ x, ac_HDf 118 7 x ≠ some none
  | 0, h => by cases h
  | 1, h => by cases h
  | 2, h => by cases h
  | x + 3, h => by cases h
theorem vd_118_10 (E : ac_E) : ac_ok E md_118 10 (o_eq0 17 13) := ok_ifeq (E := E) (d := md_118) (pc := 10) dd_118_10 (by decide)
theorem vd_118_13 (E : ac_E) : ac_ok E md_118 13 (o_con (.long 1) 14) := ok_lconst (E := E) (d := md_118) (pc := 13) dd_118_13 (by decide)
theorem vd_118_14 (E : ac_E) : ac_ok E md_118 14 (o_go 18) := ok_goto (E := E) (d := md_118) (pc := 14) dd_118_14 (by decide)
theorem vd_118_17 (E : ac_E) : ac_ok E md_118 17 (o_con (.long 0) 18) := ok_lconst (E := E) (d := md_118) (pc := 17) dd_118_17 (by decide)
theorem vd_118_18 (E : ac_E) : ac_ok E md_118 18 (o_ls 19) := ok_lastore (E := E) (d := md_118) (pc := 18) dd_118_18
theorem vd_118_19 (E : ac_E) : ac_ok E md_118 19 (o_go 30) := ok_goto (E := E) (d := md_118) (pc := 19) dd_118_19 (by decide)
theorem vd_118_24 (E : ac_E) : ac_ok E md_118 24 (o_con (.int 1) 25) := ok_iconst (E := E) (d := md_118) (pc := 24) dd_118_24 (by decide)
theorem vd_118_28 (E : ac_E) : ac_ok E md_118 28 (o_con (.int 2) 29) := ok_iconst (E := E) (d := md_118) (pc := 28) dd_118_28 (by decide)
theorem vd_118_30 (E : ac_E) : ac_ok E md_118 30 (o_con (.int 0) 31) := ok_iconst (E := E) (d := md_118) (pc := 30) dd_118_30 (by decide)
theorem va_118 (E : ac_E) (pc : Nat) : ac_V E ac_MDf ac_HDf 118 pc (tb_118 (ac_len E) (ac_xs E) pc) := (ac_node (ac_node (ac_node (ac_node (ac_leaf 0 (⟨vd_118_0 E, mn_ald _ _⟩)) (ac_leaf 2 (⟨vd_118_2 E, mn_con _ _⟩))) (ac_node (ac_leaf 3 (⟨vd_118_3 E, mn_ald _ _⟩)) (ac_leaf 4 (⟨vd_118_4 E, mn_ild _ _⟩)))) (ac_node (ac_node (ac_leaf 5 (⟨vd_118_5 E, mn_ild _ _⟩)) (ac_leaf 6 (⟨vd_118_6 E, mn_ild _ _⟩))) (ac_node (ac_leaf 7 (ac_Vcc (vd_118_7 E) vn_118 (vh_118 E))) (ac_node (ac_leaf 10 (⟨vd_118_10 E, mn_eq0 _ _⟩)) (ac_leaf 13 (⟨vd_118_13 E, mn_con _ _⟩)))))) (ac_node (ac_node (ac_node (ac_leaf 14 (⟨vd_118_14 E, mn_go _⟩)) (ac_leaf 17 (⟨vd_118_17 E, mn_con _ _⟩))) (ac_node (ac_leaf 18 (⟨vd_118_18 E, mn_ls _⟩)) (ac_node (ac_leaf 19 (⟨vd_118_19 E, mn_go _⟩)) (ac_leaf 24 (⟨vd_118_24 E, mn_con _ _⟩))))) (ac_node (ac_node (ac_leaf 25 (ac_Vr1 dd_118_25 rfl)) (ac_leaf 28 (⟨vd_118_28 E, mn_con _ _⟩))) (ac_node (ac_leaf 29 (ac_Vr1 dd_118_29 rfl)) (ac_node (ac_leaf 30 (⟨vd_118_30 E, mn_con _ _⟩)) (ac_leaf 31 (ac_Vr1 dd_118_31 rfl)))))))
theorem vd_119_0 (E : ac_E) : ac_ok E md_119 0 (o_ald 4 2) := ok_aload (E := E) (d := md_119) (pc := 0) dd_119_0
theorem vd_119_2 (E : ac_E) : ac_ok E md_119 2 (o_con (.int 0) 3) := ok_iconst (E := E) (d := md_119) (pc := 2) dd_119_2 (by decide)
theorem vd_119_3 (E : ac_E) : ac_ok E md_119 3 (o_ald 0 4) := ok_aload_n (E := E) (d := md_119) (pc := 3) (j := 0) dd_119_3
theorem vd_119_4 (E : ac_E) : ac_ok E md_119 4 (o_ild 1 5) := ok_iload_n (E := E) (d := md_119) (pc := 4) (j := 1) dd_119_4
theorem vd_119_5 (E : ac_E) : ac_ok E md_119 5 (o_ild 2 6) := ok_iload_n (E := E) (d := md_119) (pc := 5) (j := 2) dd_119_5
theorem vd_119_6 (E : ac_E) : ac_ok E md_119 6 (o_ild 3 7) := ok_iload_n (E := E) (d := md_119) (pc := 6) (j := 3) dd_119_6
theorem vd_119_7 (E : ac_E) : ac_okr E md_119 md_30 7 4 10 6 ∧ ac_okt E md_119 md_30 7 4 6 := ok_callV (E := E) (d := md_119) (dz := md_30) (pc := 7) (T := TX4) (N := 12) rfl rfl (by decide) (by decide +kernel) wm_402 wm_50 wm_399 wm_400 wm_401 dd_119_7
theorem vh_119 (E : ac_E) : ∀ x i j, ac_HDf 119 7 x = some (some (i, j)) → ac_okh E md_119 7 x i j
  | 0, _, _, h => by
    cases h
    exact ok_catch (d := md_119) rfl [] (0, 19, 22, 13) [(0, 19, 26, 28)] rfl (fun _ h => nomatch h) (by decide) (by decide +kernel) (by decide) wm_222 wm_234 (Or.inr ⟨rfl, dd_119_22⟩)
  | 2, _, _, h => by
    cases h
    exact ok_catch (d := md_119) rfl [(0, 19, 22, 13)] (0, 19, 26, 28) [] rfl (List.forall_mem_cons.mpr ⟨⟨by decide, 0, by decide, by decide, wm_222⟩, fun _ h => nomatch h⟩) (by decide) (by decide +kernel) (by decide) wm_357 wm_368 (Or.inr ⟨rfl, dd_119_26⟩)
  | 1, _, _, h => by cases h
  | x + 3, _, _, h => by cases h
theorem vn_119 : ∀ x, ac_HDf 119 7 x ≠ some none
  | 0, h => by cases h
  | 1, h => by cases h
  | 2, h => by cases h
  | x + 3, h => by cases h
theorem vd_119_10 (E : ac_E) : ac_ok E md_119 10 (o_eq0 17 13) := ok_ifeq (E := E) (d := md_119) (pc := 10) dd_119_10 (by decide)
theorem vd_119_13 (E : ac_E) : ac_ok E md_119 13 (o_con (.long 1) 14) := ok_lconst (E := E) (d := md_119) (pc := 13) dd_119_13 (by decide)
theorem vd_119_14 (E : ac_E) : ac_ok E md_119 14 (o_go 18) := ok_goto (E := E) (d := md_119) (pc := 14) dd_119_14 (by decide)
theorem vd_119_17 (E : ac_E) : ac_ok E md_119 17 (o_con (.long 0) 18) := ok_lconst (E := E) (d := md_119) (pc := 17) dd_119_17 (by decide)
theorem vd_119_18 (E : ac_E) : ac_ok E md_119 18 (o_ls 19) := ok_lastore (E := E) (d := md_119) (pc := 18) dd_119_18
theorem vd_119_19 (E : ac_E) : ac_ok E md_119 19 (o_go 30) := ok_goto (E := E) (d := md_119) (pc := 19) dd_119_19 (by decide)
theorem vd_119_24 (E : ac_E) : ac_ok E md_119 24 (o_con (.int 1) 25) := ok_iconst (E := E) (d := md_119) (pc := 24) dd_119_24 (by decide)
theorem vd_119_28 (E : ac_E) : ac_ok E md_119 28 (o_con (.int 2) 29) := ok_iconst (E := E) (d := md_119) (pc := 28) dd_119_28 (by decide)
theorem vd_119_30 (E : ac_E) : ac_ok E md_119 30 (o_con (.int 0) 31) := ok_iconst (E := E) (d := md_119) (pc := 30) dd_119_30 (by decide)
theorem va_119 (E : ac_E) (pc : Nat) : ac_V E ac_MDf ac_HDf 119 pc (tb_119 (ac_len E) (ac_xs E) pc) := (ac_node (ac_node (ac_node (ac_node (ac_leaf 0 (⟨vd_119_0 E, mn_ald _ _⟩)) (ac_leaf 2 (⟨vd_119_2 E, mn_con _ _⟩))) (ac_node (ac_leaf 3 (⟨vd_119_3 E, mn_ald _ _⟩)) (ac_leaf 4 (⟨vd_119_4 E, mn_ild _ _⟩)))) (ac_node (ac_node (ac_leaf 5 (⟨vd_119_5 E, mn_ild _ _⟩)) (ac_leaf 6 (⟨vd_119_6 E, mn_ild _ _⟩))) (ac_node (ac_leaf 7 (ac_Vcc (vd_119_7 E) vn_119 (vh_119 E))) (ac_node (ac_leaf 10 (⟨vd_119_10 E, mn_eq0 _ _⟩)) (ac_leaf 13 (⟨vd_119_13 E, mn_con _ _⟩)))))) (ac_node (ac_node (ac_node (ac_leaf 14 (⟨vd_119_14 E, mn_go _⟩)) (ac_leaf 17 (⟨vd_119_17 E, mn_con _ _⟩))) (ac_node (ac_leaf 18 (⟨vd_119_18 E, mn_ls _⟩)) (ac_node (ac_leaf 19 (⟨vd_119_19 E, mn_go _⟩)) (ac_leaf 24 (⟨vd_119_24 E, mn_con _ _⟩))))) (ac_node (ac_node (ac_leaf 25 (ac_Vr1 dd_119_25 rfl)) (ac_leaf 28 (⟨vd_119_28 E, mn_con _ _⟩))) (ac_node (ac_leaf 29 (ac_Vr1 dd_119_29 rfl)) (ac_node (ac_leaf 30 (⟨vd_119_30 E, mn_con _ _⟩)) (ac_leaf 31 (ac_Vr1 dd_119_31 rfl)))))))
theorem vd_120_0 (E : ac_E) : ac_ok E md_120 0 (o_ald 3 1) := ok_aload_n (E := E) (d := md_120) (pc := 0) (j := 3) dd_120_0
theorem vd_120_1 (E : ac_E) : ac_ok E md_120 1 (o_con (.int 0) 2) := ok_iconst (E := E) (d := md_120) (pc := 1) dd_120_1 (by decide)
theorem vd_120_2 (E : ac_E) : ac_ok E md_120 2 (o_ald 0 3) := ok_aload_n (E := E) (d := md_120) (pc := 2) (j := 0) dd_120_2
theorem vd_120_3 (E : ac_E) : ac_ok E md_120 3 (o_ild 1 4) := ok_iload_n (E := E) (d := md_120) (pc := 3) (j := 1) dd_120_3
theorem vd_120_4 (E : ac_E) : ac_ok E md_120 4 (o_ild 2 5) := ok_iload_n (E := E) (d := md_120) (pc := 4) (j := 2) dd_120_4
theorem vd_120_5 (E : ac_E) : ac_okr E md_120 md_31 5 3 8 6 ∧ ac_okt E md_120 md_31 5 3 6 := ok_callV (E := E) (d := md_120) (dz := md_31) (pc := 5) (T := TX4) (N := 12) rfl rfl (by decide) (by decide +kernel) wm_409 wm_50 wm_406 wm_407 wm_408 dd_120_5
theorem vh_120 (E : ac_E) : ∀ x i j, ac_HDf 120 5 x = some (some (i, j)) → ac_okh E md_120 5 x i j
  | 0, _, _, h => by
    cases h
    exact ok_catch (d := md_120) rfl [] (0, 10, 13, 13) [] rfl (fun _ h => nomatch h) (by decide) (by decide +kernel) (by decide) wm_222 wm_234 (Or.inr ⟨rfl, dd_120_13⟩)
  | x + 1, _, _, h => by cases h
theorem vn_120 : ∀ x, ac_HDf 120 5 x ≠ some none
  | 0, h => by cases h
  | x + 1, h => by cases h
theorem vd_120_8 (E : ac_E) : ac_ok E md_120 8 (o_i2l 9) := ok_i2l (E := E) (d := md_120) (pc := 8) dd_120_8
theorem vd_120_9 (E : ac_E) : ac_ok E md_120 9 (o_ls 10) := ok_lastore (E := E) (d := md_120) (pc := 9) dd_120_9
theorem vd_120_10 (E : ac_E) : ac_ok E md_120 10 (o_go 17) := ok_goto (E := E) (d := md_120) (pc := 10) dd_120_10 (by decide)
theorem vd_120_15 (E : ac_E) : ac_ok E md_120 15 (o_con (.int 1) 16) := ok_iconst (E := E) (d := md_120) (pc := 15) dd_120_15 (by decide)
theorem vd_120_17 (E : ac_E) : ac_ok E md_120 17 (o_con (.int 0) 18) := ok_iconst (E := E) (d := md_120) (pc := 17) dd_120_17 (by decide)
theorem va_120 (E : ac_E) (pc : Nat) : ac_V E ac_MDf ac_HDf 120 pc (tb_120 (ac_len E) (ac_xs E) pc) := (ac_node (ac_node (ac_node (ac_leaf 0 (⟨vd_120_0 E, mn_ald _ _⟩)) (ac_node (ac_leaf 1 (⟨vd_120_1 E, mn_con _ _⟩)) (ac_leaf 2 (⟨vd_120_2 E, mn_ald _ _⟩)))) (ac_node (ac_leaf 3 (⟨vd_120_3 E, mn_ild _ _⟩)) (ac_node (ac_leaf 4 (⟨vd_120_4 E, mn_ild _ _⟩)) (ac_leaf 5 (ac_Vcc (vd_120_5 E) vn_120 (vh_120 E)))))) (ac_node (ac_node (ac_leaf 8 (⟨vd_120_8 E, mn_i2l _⟩)) (ac_node (ac_leaf 9 (⟨vd_120_9 E, mn_ls _⟩)) (ac_leaf 10 (⟨vd_120_10 E, mn_go _⟩)))) (ac_node (ac_node (ac_leaf 15 (⟨vd_120_15 E, mn_con _ _⟩)) (ac_leaf 16 (ac_Vr1 dd_120_16 rfl))) (ac_node (ac_leaf 17 (⟨vd_120_17 E, mn_con _ _⟩)) (ac_leaf 18 (ac_Vr1 dd_120_18 rfl))))))
theorem vd_121_0 (E : ac_E) : ac_ok E md_121 0 (o_ald 0 1) := ok_aload_n (E := E) (d := md_121) (pc := 0) (j := 0) dd_121_0
theorem vd_121_1 (E : ac_E) : ac_ok E md_121 1 (o_ild 1 2) := ok_iload_n (E := E) (d := md_121) (pc := 1) (j := 1) dd_121_1
theorem vd_121_2 (E : ac_E) : ac_okr E md_121 md_32 2 2 5 6 ∧ ac_okt E md_121 md_32 2 2 6 := ok_callV (E := E) (d := md_121) (dz := md_32) (pc := 2) (T := TX4) (N := 12) rfl rfl (by decide) (by decide +kernel) wm_416 wm_50 wm_413 wm_414 wm_415 dd_121_2
theorem vh_121 (E : ac_E) : ∀ x i j, ac_HDf 121 2 x = some (some (i, j)) → ac_okh E md_121 2 x i j
  | 1, _, _, h => by
    cases h
    exact ok_catch (d := md_121) rfl [] (0, 5, 8, 15) [] rfl (fun _ h => nomatch h) (by decide) (by decide +kernel) (by decide) wm_223 wm_310 (Or.inl ⟨2, rfl, rfl, dd_121_8⟩)
  | 0, _, _, h => by cases h
  | x + 2, _, _, h => by cases h
theorem vn_121 : ∀ x, ac_HDf 121 2 x ≠ some none
  | 0, h => by cases h
  | 1, h => by cases h
  | x + 2, h => by cases h
theorem vd_121_5 (E : ac_E) : ac_ok E md_121 5 (o_go 11) := ok_goto (E := E) (d := md_121) (pc := 5) dd_121_5 (by decide)
theorem vd_121_9 (E : ac_E) : ac_ok E md_121 9 (o_con (.int 1) 10) := ok_iconst (E := E) (d := md_121) (pc := 9) dd_121_9 (by decide)
theorem vd_121_11 (E : ac_E) : ac_ok E md_121 11 (o_con (.int 0) 12) := ok_iconst (E := E) (d := md_121) (pc := 11) dd_121_11 (by decide)
theorem va_121 (E : ac_E) (pc : Nat) : ac_V E ac_MDf ac_HDf 121 pc (tb_121 (ac_len E) (ac_xs E) pc) := (ac_node (ac_node (ac_node (ac_leaf 0 (⟨vd_121_0 E, mn_ald _ _⟩)) (ac_leaf 1 (⟨vd_121_1 E, mn_ild _ _⟩))) (ac_node (ac_leaf 2 (ac_Vcc (vd_121_2 E) vn_121 (vh_121 E))) (ac_leaf 5 (⟨vd_121_5 E, mn_go _⟩)))) (ac_node (ac_node (ac_leaf 9 (⟨vd_121_9 E, mn_con _ _⟩)) (ac_leaf 10 (ac_Vr1 dd_121_10 rfl))) (ac_node (ac_leaf 11 (⟨vd_121_11 E, mn_con _ _⟩)) (ac_leaf 12 (ac_Vr1 dd_121_12 rfl)))))
theorem vd_122_0 (E : ac_E) : ac_ok E md_122 0 (o_ald 2 1) := ok_aload_n (E := E) (d := md_122) (pc := 0) (j := 2) dd_122_0
theorem vd_122_1 (E : ac_E) : ac_ok E md_122 1 (o_con (.int 0) 2) := ok_iconst (E := E) (d := md_122) (pc := 1) dd_122_1 (by decide)
theorem vd_122_2 (E : ac_E) : ac_ok E md_122 2 (o_ald 0 3) := ok_aload_n (E := E) (d := md_122) (pc := 2) (j := 0) dd_122_2
theorem vd_122_3 (E : ac_E) : ac_ok E md_122 3 (o_ild 1 4) := ok_iload_n (E := E) (d := md_122) (pc := 3) (j := 1) dd_122_3
theorem vd_122_4 (E : ac_E) : ac_okr E md_122 md_33 4 2 7 6 ∧ ac_okt E md_122 md_33 4 2 6 := ok_callV (E := E) (d := md_122) (dz := md_33) (pc := 4) (T := TX4) (N := 12) rfl rfl (by decide) (by decide +kernel) wm_423 wm_50 wm_420 wm_421 wm_422 dd_122_4
theorem vh_122 (E : ac_E) : ∀ x i j, ac_HDf 122 4 x = some (some (i, j)) → ac_okh E md_122 4 x i j
  | 1, _, _, h => by
    cases h
    exact ok_catch (d := md_122) rfl [] (0, 9, 12, 15) [] rfl (fun _ h => nomatch h) (by decide) (by decide +kernel) (by decide) wm_223 wm_310 (Or.inl ⟨3, rfl, rfl, dd_122_12⟩)
  | 0, _, _, h => by cases h
  | x + 2, _, _, h => by cases h
theorem vn_122 : ∀ x, ac_HDf 122 4 x ≠ some none
  | 0, h => by cases h
  | 1, h => by cases h
  | x + 2, h => by cases h
theorem vd_122_7 (E : ac_E) : ac_ok E md_122 7 (o_i2l 8) := ok_i2l (E := E) (d := md_122) (pc := 7) dd_122_7
theorem vd_122_8 (E : ac_E) : ac_ok E md_122 8 (o_ls 9) := ok_lastore (E := E) (d := md_122) (pc := 8) dd_122_8
theorem vd_122_9 (E : ac_E) : ac_ok E md_122 9 (o_go 15) := ok_goto (E := E) (d := md_122) (pc := 9) dd_122_9 (by decide)
theorem vd_122_13 (E : ac_E) : ac_ok E md_122 13 (o_con (.int 1) 14) := ok_iconst (E := E) (d := md_122) (pc := 13) dd_122_13 (by decide)
theorem vd_122_15 (E : ac_E) : ac_ok E md_122 15 (o_con (.int 0) 16) := ok_iconst (E := E) (d := md_122) (pc := 15) dd_122_15 (by decide)
theorem va_122 (E : ac_E) (pc : Nat) : ac_V E ac_MDf ac_HDf 122 pc (tb_122 (ac_len E) (ac_xs E) pc) := (ac_node (ac_node (ac_node (ac_leaf 0 (⟨vd_122_0 E, mn_ald _ _⟩)) (ac_node (ac_leaf 1 (⟨vd_122_1 E, mn_con _ _⟩)) (ac_leaf 2 (⟨vd_122_2 E, mn_ald _ _⟩)))) (ac_node (ac_leaf 3 (⟨vd_122_3 E, mn_ild _ _⟩)) (ac_node (ac_leaf 4 (ac_Vcc (vd_122_4 E) vn_122 (vh_122 E))) (ac_leaf 7 (⟨vd_122_7 E, mn_i2l _⟩))))) (ac_node (ac_node (ac_leaf 8 (⟨vd_122_8 E, mn_ls _⟩)) (ac_node (ac_leaf 9 (⟨vd_122_9 E, mn_go _⟩)) (ac_leaf 13 (⟨vd_122_13 E, mn_con _ _⟩)))) (ac_node (ac_leaf 14 (ac_Vr1 dd_122_14 rfl)) (ac_node (ac_leaf 15 (⟨vd_122_15 E, mn_con _ _⟩)) (ac_leaf 16 (ac_Vr1 dd_122_16 rfl))))))
theorem vd_123_0 (E : ac_E) : ac_ok E md_123 0 (o_ald 2 1) := ok_aload_n (E := E) (d := md_123) (pc := 0) (j := 2) dd_123_0
theorem vd_123_1 (E : ac_E) : ac_ok E md_123 1 (o_con (.int 0) 2) := ok_iconst (E := E) (d := md_123) (pc := 1) dd_123_1 (by decide)
theorem vd_123_2 (E : ac_E) : ac_ok E md_123 2 (o_ald 0 3) := ok_aload_n (E := E) (d := md_123) (pc := 2) (j := 0) dd_123_2
theorem vd_123_3 (E : ac_E) : ac_ok E md_123 3 (o_ild 1 4) := ok_iload_n (E := E) (d := md_123) (pc := 3) (j := 1) dd_123_3
theorem vd_123_4 (E : ac_E) : ac_okr E md_123 md_35 4 2 7 6 ∧ ac_okt E md_123 md_35 4 2 6 := ok_callV (E := E) (d := md_123) (dz := md_35) (pc := 4) (T := TX4) (N := 12) rfl rfl (by decide) (by decide +kernel) wm_430 wm_50 wm_427 wm_428 wm_429 dd_123_4
theorem vh_123 (E : ac_E) : ∀ x i j, ac_HDf 123 4 x = some (some (i, j)) → ac_okh E md_123 4 x i j
  | 1, _, _, h => by
    cases h
    exact ok_catch (d := md_123) rfl [] (0, 9, 12, 15) [] rfl (fun _ h => nomatch h) (by decide) (by decide +kernel) (by decide) wm_223 wm_310 (Or.inl ⟨3, rfl, rfl, dd_123_12⟩)
  | 0, _, _, h => by cases h
  | x + 2, _, _, h => by cases h
theorem vn_123 : ∀ x, ac_HDf 123 4 x ≠ some none
  | 0, h => by cases h
  | 1, h => by cases h
  | x + 2, h => by cases h
theorem vd_123_7 (E : ac_E) : ac_ok E md_123 7 (o_i2l 8) := ok_i2l (E := E) (d := md_123) (pc := 7) dd_123_7
theorem vd_123_8 (E : ac_E) : ac_ok E md_123 8 (o_ls 9) := ok_lastore (E := E) (d := md_123) (pc := 8) dd_123_8
theorem vd_123_9 (E : ac_E) : ac_ok E md_123 9 (o_go 15) := ok_goto (E := E) (d := md_123) (pc := 9) dd_123_9 (by decide)
theorem vd_123_13 (E : ac_E) : ac_ok E md_123 13 (o_con (.int 1) 14) := ok_iconst (E := E) (d := md_123) (pc := 13) dd_123_13 (by decide)
theorem vd_123_15 (E : ac_E) : ac_ok E md_123 15 (o_con (.int 0) 16) := ok_iconst (E := E) (d := md_123) (pc := 15) dd_123_15 (by decide)
theorem va_123 (E : ac_E) (pc : Nat) : ac_V E ac_MDf ac_HDf 123 pc (tb_123 (ac_len E) (ac_xs E) pc) := (ac_node (ac_node (ac_node (ac_leaf 0 (⟨vd_123_0 E, mn_ald _ _⟩)) (ac_node (ac_leaf 1 (⟨vd_123_1 E, mn_con _ _⟩)) (ac_leaf 2 (⟨vd_123_2 E, mn_ald _ _⟩)))) (ac_node (ac_leaf 3 (⟨vd_123_3 E, mn_ild _ _⟩)) (ac_node (ac_leaf 4 (ac_Vcc (vd_123_4 E) vn_123 (vh_123 E))) (ac_leaf 7 (⟨vd_123_7 E, mn_i2l _⟩))))) (ac_node (ac_node (ac_leaf 8 (⟨vd_123_8 E, mn_ls _⟩)) (ac_node (ac_leaf 9 (⟨vd_123_9 E, mn_go _⟩)) (ac_leaf 13 (⟨vd_123_13 E, mn_con _ _⟩)))) (ac_node (ac_leaf 14 (ac_Vr1 dd_123_14 rfl)) (ac_node (ac_leaf 15 (⟨vd_123_15 E, mn_con _ _⟩)) (ac_leaf 16 (ac_Vr1 dd_123_16 rfl))))))
theorem vd_124_0 (E : ac_E) : ac_ok E md_124 0 (o_ald 2 1) := ok_aload_n (E := E) (d := md_124) (pc := 0) (j := 2) dd_124_0
theorem vd_124_1 (E : ac_E) : ac_ok E md_124 1 (o_con (.int 0) 2) := ok_iconst (E := E) (d := md_124) (pc := 1) dd_124_1 (by decide)
theorem vd_124_2 (E : ac_E) : ac_ok E md_124 2 (o_ald 0 3) := ok_aload_n (E := E) (d := md_124) (pc := 2) (j := 0) dd_124_2
theorem vd_124_3 (E : ac_E) : ac_ok E md_124 3 (o_ild 1 4) := ok_iload_n (E := E) (d := md_124) (pc := 3) (j := 1) dd_124_3
theorem vd_124_4 (E : ac_E) : ac_okr E md_124 md_36 4 2 7 6 ∧ ac_okt E md_124 md_36 4 2 6 := ok_callV (E := E) (d := md_124) (dz := md_36) (pc := 4) (T := TX4) (N := 12) rfl rfl (by decide) (by decide +kernel) wm_549 wm_50 wm_546 wm_547 wm_548 dd_124_4
theorem vh_124 (E : ac_E) : ∀ x i j, ac_HDf 124 4 x = some (some (i, j)) → ac_okh E md_124 4 x i j
  | 1, _, _, h => by
    cases h
    exact ok_catch (d := md_124) rfl [] (0, 9, 12, 15) [(0, 9, 15, 56)] rfl (fun _ h => nomatch h) (by decide) (by decide +kernel) (by decide) wm_223 wm_310 (Or.inl ⟨3, rfl, rfl, dd_124_12⟩)
  | 3, _, _, h => by
    cases h
    exact ok_catch (d := md_124) rfl [(0, 9, 12, 15)] (0, 9, 15, 56) [] rfl (List.forall_mem_cons.mpr ⟨⟨by decide, 1, by decide, by decide, wm_223⟩, fun _ h => nomatch h⟩) (by decide) (by decide +kernel) (by decide) wm_545 wm_556 (Or.inl ⟨3, rfl, rfl, dd_124_15⟩)
  | 0, _, _, h => by cases h
  | 2, _, _, h => by cases h
  | x + 4, _, _, h => by cases h
theorem vn_124 : ∀ x, ac_HDf 124 4 x ≠ some none
  | 0, h => by cases h
  | 1, h => by cases h
  | 2, h => by cases h
  | 3, h => by cases h
  | x + 4, h => by cases h
theorem vd_124_7 (E : ac_E) : ac_ok E md_124 7 (o_i2l 8) := ok_i2l (E := E) (d := md_124) (pc := 7) dd_124_7
theorem vd_124_8 (E : ac_E) : ac_ok E md_124 8 (o_ls 9) := ok_lastore (E := E) (d := md_124) (pc := 8) dd_124_8
theorem vd_124_9 (E : ac_E) : ac_ok E md_124 9 (o_go 18) := ok_goto (E := E) (d := md_124) (pc := 9) dd_124_9 (by decide)
theorem vd_124_13 (E : ac_E) : ac_ok E md_124 13 (o_con (.int 1) 14) := ok_iconst (E := E) (d := md_124) (pc := 13) dd_124_13 (by decide)
theorem vd_124_16 (E : ac_E) : ac_ok E md_124 16 (o_con (.int 2) 17) := ok_iconst (E := E) (d := md_124) (pc := 16) dd_124_16 (by decide)
theorem vd_124_18 (E : ac_E) : ac_ok E md_124 18 (o_con (.int 0) 19) := ok_iconst (E := E) (d := md_124) (pc := 18) dd_124_18 (by decide)
theorem va_124 (E : ac_E) (pc : Nat) : ac_V E ac_MDf ac_HDf 124 pc (tb_124 (ac_len E) (ac_xs E) pc) := (ac_node (ac_node (ac_node (ac_leaf 0 (⟨vd_124_0 E, mn_ald _ _⟩)) (ac_node (ac_leaf 1 (⟨vd_124_1 E, mn_con _ _⟩)) (ac_leaf 2 (⟨vd_124_2 E, mn_ald _ _⟩)))) (ac_node (ac_node (ac_leaf 3 (⟨vd_124_3 E, mn_ild _ _⟩)) (ac_leaf 4 (ac_Vcc (vd_124_4 E) vn_124 (vh_124 E)))) (ac_node (ac_leaf 7 (⟨vd_124_7 E, mn_i2l _⟩)) (ac_leaf 8 (⟨vd_124_8 E, mn_ls _⟩))))) (ac_node (ac_node (ac_leaf 9 (⟨vd_124_9 E, mn_go _⟩)) (ac_node (ac_leaf 13 (⟨vd_124_13 E, mn_con _ _⟩)) (ac_leaf 14 (ac_Vr1 dd_124_14 rfl)))) (ac_node (ac_node (ac_leaf 16 (⟨vd_124_16 E, mn_con _ _⟩)) (ac_leaf 17 (ac_Vr1 dd_124_17 rfl))) (ac_node (ac_leaf 18 (⟨vd_124_18 E, mn_con _ _⟩)) (ac_leaf 19 (ac_Vr1 dd_124_19 rfl))))))
theorem vd_125_0 (E : ac_E) : ac_ok E md_125 0 (o_ald 6 2) := ok_aload (E := E) (d := md_125) (pc := 0) dd_125_0
theorem vd_125_2 (E : ac_E) : ac_ok E md_125 2 (o_con (.int 0) 3) := ok_iconst (E := E) (d := md_125) (pc := 2) dd_125_2 (by decide)
theorem vd_125_3 (E : ac_E) : ac_ok E md_125 3 (o_ald 0 4) := ok_aload_n (E := E) (d := md_125) (pc := 3) (j := 0) dd_125_3
theorem vd_125_4 (E : ac_E) : ac_ok E md_125 4 (o_ild 1 5) := ok_iload_n (E := E) (d := md_125) (pc := 4) (j := 1) dd_125_4
theorem vd_125_5 (E : ac_E) : ac_ok E md_125 5 (o_ild 2 6) := ok_iload_n (E := E) (d := md_125) (pc := 5) (j := 2) dd_125_5
theorem vd_125_6 (E : ac_E) : ac_ok E md_125 6 (o_ild 3 7) := ok_iload_n (E := E) (d := md_125) (pc := 6) (j := 3) dd_125_6
theorem vd_125_7 (E : ac_E) : ac_ok E md_125 7 (o_ild 4 9) := ok_iload (E := E) (d := md_125) (pc := 7) dd_125_7
theorem vd_125_9 (E : ac_E) : ac_ok E md_125 9 (o_ild 5 11) := ok_iload (E := E) (d := md_125) (pc := 9) dd_125_9
theorem vd_125_11 (E : ac_E) : ac_okr E md_125 md_37 11 6 14 6 ∧ ac_okt E md_125 md_37 11 6 6 := ok_callV (E := E) (d := md_125) (dz := md_37) (pc := 11) (T := TX4) (N := 12) rfl rfl (by decide) (by decide +kernel) wm_580 wm_50 wm_577 wm_578 wm_579 dd_125_11
theorem vh_125 (E : ac_E) : ∀ x i j, ac_HDf 125 11 x = some (some (i, j)) → ac_okh E md_125 11 x i j
  | 0, _, _, h => by
    cases h
    exact ok_catch (d := md_125) rfl [] (0, 16, 19, 13) [(0, 16, 23, 15)] rfl (fun _ h => nomatch h) (by decide) (by decide +kernel) (by decide) wm_222 wm_234 (Or.inr ⟨rfl, dd_125_19⟩)
  | 1, _, _, h => by
    cases h
    exact ok_catch (d := md_125) rfl [(0, 16, 19, 13)] (0, 16, 23, 15) [] rfl (List.forall_mem_cons.mpr ⟨⟨by decide, 0, by decide, by decide, wm_222⟩, fun _ h => nomatch h⟩) (by decide) (by decide +kernel) (by decide) wm_223 wm_310 (Or.inr ⟨rfl, dd_125_23⟩)
  | x + 2, _, _, h => by cases h
theorem vn_125 : ∀ x, ac_HDf 125 11 x ≠ some none
  | 0, h => by cases h
  | 1, h => by cases h
  | x + 2, h => by cases h
theorem vd_125_14 (E : ac_E) : ac_ok E md_125 14 (o_i2l 15) := ok_i2l (E := E) (d := md_125) (pc := 14) dd_125_14
theorem vd_125_15 (E : ac_E) : ac_ok E md_125 15 (o_ls 16) := ok_lastore (E := E) (d := md_125) (pc := 15) dd_125_15
theorem vd_125_16 (E : ac_E) : ac_ok E md_125 16 (o_go 27) := ok_goto (E := E) (d := md_125) (pc := 16) dd_125_16 (by decide)
theorem vd_125_21 (E : ac_E) : ac_ok E md_125 21 (o_con (.int 1) 22) := ok_iconst (E := E) (d := md_125) (pc := 21) dd_125_21 (by decide)
theorem vd_125_25 (E : ac_E) : ac_ok E md_125 25 (o_con (.int 2) 26) := ok_iconst (E := E) (d := md_125) (pc := 25) dd_125_25 (by decide)
theorem vd_125_27 (E : ac_E) : ac_ok E md_125 27 (o_con (.int 0) 28) := ok_iconst (E := E) (d := md_125) (pc := 27) dd_125_27 (by decide)
theorem va_125 (E : ac_E) (pc : Nat) : ac_V E ac_MDf ac_HDf 125 pc (tb_125 (ac_len E) (ac_xs E) pc) := (ac_node (ac_node (ac_node (ac_node (ac_leaf 0 (⟨vd_125_0 E, mn_ald _ _⟩)) (ac_leaf 2 (⟨vd_125_2 E, mn_con _ _⟩))) (ac_node (ac_leaf 3 (⟨vd_125_3 E, mn_ald _ _⟩)) (ac_leaf 4 (⟨vd_125_4 E, mn_ild _ _⟩)))) (ac_node (ac_node (ac_leaf 5 (⟨vd_125_5 E, mn_ild _ _⟩)) (ac_leaf 6 (⟨vd_125_6 E, mn_ild _ _⟩))) (ac_node (ac_leaf 7 (⟨vd_125_7 E, mn_ild _ _⟩)) (ac_node (ac_leaf 9 (⟨vd_125_9 E, mn_ild _ _⟩)) (ac_leaf 11 (ac_Vcc (vd_125_11 E) vn_125 (vh_125 E))))))) (ac_node (ac_node (ac_node (ac_leaf 14 (⟨vd_125_14 E, mn_i2l _⟩)) (ac_leaf 15 (⟨vd_125_15 E, mn_ls _⟩))) (ac_node (ac_leaf 16 (⟨vd_125_16 E, mn_go _⟩)) (ac_leaf 21 (⟨vd_125_21 E, mn_con _ _⟩)))) (ac_node (ac_node (ac_leaf 22 (ac_Vr1 dd_125_22 rfl)) (ac_leaf 25 (⟨vd_125_25 E, mn_con _ _⟩))) (ac_node (ac_leaf 26 (ac_Vr1 dd_125_26 rfl)) (ac_node (ac_leaf 27 (⟨vd_125_27 E, mn_con _ _⟩)) (ac_leaf 28 (ac_Vr1 dd_125_28 rfl)))))))
theorem vd_126_0 (E : ac_E) : ac_ok E md_126 0 (o_ald 3 1) := ok_aload_n (E := E) (d := md_126) (pc := 0) (j := 3) dd_126_0
theorem vd_126_1 (E : ac_E) : ac_ok E md_126 1 (o_con (.int 0) 2) := ok_iconst (E := E) (d := md_126) (pc := 1) dd_126_1 (by decide)
theorem vd_126_2 (E : ac_E) : ac_ok E md_126 2 (o_ald 0 3) := ok_aload_n (E := E) (d := md_126) (pc := 2) (j := 0) dd_126_2
theorem vd_126_3 (E : ac_E) : ac_ok E md_126 3 (o_ild 1 4) := ok_iload_n (E := E) (d := md_126) (pc := 3) (j := 1) dd_126_3
theorem vd_126_4 (E : ac_E) : ac_ok E md_126 4 (o_ild 2 5) := ok_iload_n (E := E) (d := md_126) (pc := 4) (j := 2) dd_126_4
theorem vd_126_5 (E : ac_E) : ac_okr E md_126 md_38 5 3 8 6 ∧ ac_okt E md_126 md_38 5 3 6 := ok_callV (E := E) (d := md_126) (dz := md_38) (pc := 5) (T := TX4) (N := 12) rfl rfl (by decide) (by decide +kernel) wm_589 wm_50 wm_586 wm_587 wm_588 dd_126_5
theorem vh_126 (E : ac_E) : ∀ x i j, ac_HDf 126 5 x = some (some (i, j)) → ac_okh E md_126 5 x i j
  | 1, _, _, h => by
    cases h
    exact ok_catch (d := md_126) rfl [] (0, 10, 13, 15) [] rfl (fun _ h => nomatch h) (by decide) (by decide +kernel) (by decide) wm_223 wm_310 (Or.inr ⟨rfl, dd_126_13⟩)
  | 0, _, _, h => by cases h
  | x + 2, _, _, h => by cases h
theorem vn_126 : ∀ x, ac_HDf 126 5 x ≠ some none
  | 0, h => by cases h
  | 1, h => by cases h
  | x + 2, h => by cases h
theorem vd_126_8 (E : ac_E) : ac_ok E md_126 8 (o_i2l 9) := ok_i2l (E := E) (d := md_126) (pc := 8) dd_126_8
theorem vd_126_9 (E : ac_E) : ac_ok E md_126 9 (o_ls 10) := ok_lastore (E := E) (d := md_126) (pc := 9) dd_126_9
theorem vd_126_10 (E : ac_E) : ac_ok E md_126 10 (o_go 17) := ok_goto (E := E) (d := md_126) (pc := 10) dd_126_10 (by decide)
theorem vd_126_15 (E : ac_E) : ac_ok E md_126 15 (o_con (.int 1) 16) := ok_iconst (E := E) (d := md_126) (pc := 15) dd_126_15 (by decide)
theorem vd_126_17 (E : ac_E) : ac_ok E md_126 17 (o_con (.int 0) 18) := ok_iconst (E := E) (d := md_126) (pc := 17) dd_126_17 (by decide)
theorem va_126 (E : ac_E) (pc : Nat) : ac_V E ac_MDf ac_HDf 126 pc (tb_126 (ac_len E) (ac_xs E) pc) := (ac_node (ac_node (ac_node (ac_leaf 0 (⟨vd_126_0 E, mn_ald _ _⟩)) (ac_node (ac_leaf 1 (⟨vd_126_1 E, mn_con _ _⟩)) (ac_leaf 2 (⟨vd_126_2 E, mn_ald _ _⟩)))) (ac_node (ac_leaf 3 (⟨vd_126_3 E, mn_ild _ _⟩)) (ac_node (ac_leaf 4 (⟨vd_126_4 E, mn_ild _ _⟩)) (ac_leaf 5 (ac_Vcc (vd_126_5 E) vn_126 (vh_126 E)))))) (ac_node (ac_node (ac_leaf 8 (⟨vd_126_8 E, mn_i2l _⟩)) (ac_node (ac_leaf 9 (⟨vd_126_9 E, mn_ls _⟩)) (ac_leaf 10 (⟨vd_126_10 E, mn_go _⟩)))) (ac_node (ac_node (ac_leaf 15 (⟨vd_126_15 E, mn_con _ _⟩)) (ac_leaf 16 (ac_Vr1 dd_126_16 rfl))) (ac_node (ac_leaf 17 (⟨vd_126_17 E, mn_con _ _⟩)) (ac_leaf 18 (ac_Vr1 dd_126_18 rfl))))))
theorem vd_127_0 (E : ac_E) : ac_ok E md_127 0 (o_ald 4 2) := ok_aload (E := E) (d := md_127) (pc := 0) dd_127_0
theorem vd_127_2 (E : ac_E) : ac_ok E md_127 2 (o_con (.int 0) 3) := ok_iconst (E := E) (d := md_127) (pc := 2) dd_127_2 (by decide)
theorem vd_127_3 (E : ac_E) : ac_ok E md_127 3 (o_ald 0 4) := ok_aload_n (E := E) (d := md_127) (pc := 3) (j := 0) dd_127_3
theorem vd_127_4 (E : ac_E) : ac_ok E md_127 4 (o_ild 1 5) := ok_iload_n (E := E) (d := md_127) (pc := 4) (j := 1) dd_127_4
theorem vd_127_5 (E : ac_E) : ac_ok E md_127 5 (o_ild 2 6) := ok_iload_n (E := E) (d := md_127) (pc := 5) (j := 2) dd_127_5
theorem vd_127_6 (E : ac_E) : ac_ok E md_127 6 (o_ild 3 7) := ok_iload_n (E := E) (d := md_127) (pc := 6) (j := 3) dd_127_6
theorem vd_127_7 (E : ac_E) : ac_okr E md_127 md_40 7 4 10 6 ∧ ac_okt E md_127 md_40 7 4 6 := ok_callV (E := E) (d := md_127) (dz := md_40) (pc := 7) (T := TX4) (N := 12) rfl rfl (by decide) (by decide +kernel) wm_597 wm_50 wm_594 wm_595 wm_596 dd_127_7
theorem vh_127 (E : ac_E) : ∀ x i j, ac_HDf 127 7 x = some (some (i, j)) → ac_okh E md_127 7 x i j
  | 0, _, _, h => by
    cases h
    exact ok_catch (d := md_127) rfl [] (0, 12, 15, 13) [(0, 12, 19, 15), (0, 12, 23, 69), (0, 12, 27, 28), (0, 12, 31, 56)] rfl (fun _ h => nomatch h) (by decide) (by decide +kernel) (by decide) wm_222 wm_234 (Or.inr ⟨rfl, dd_127_15⟩)
  | 1, _, _, h => by
    cases h
    exact ok_catch (d := md_127) rfl [(0, 12, 15, 13)] (0, 12, 19, 15) [(0, 12, 23, 69), (0, 12, 27, 28), (0, 12, 31, 56)] rfl (List.forall_mem_cons.mpr ⟨⟨by decide, 0, by decide, by decide, wm_222⟩, fun _ h => nomatch h⟩) (by decide) (by decide +kernel) (by decide) wm_223 wm_310 (Or.inr ⟨rfl, dd_127_19⟩)
  | 2, _, _, h => by
    cases h
    exact ok_catch (d := md_127) rfl [(0, 12, 15, 13), (0, 12, 19, 15), (0, 12, 23, 69)] (0, 12, 27, 28) [(0, 12, 31, 56)] rfl (List.forall_mem_cons.mpr ⟨⟨by decide, 0, by decide, by decide, wm_222⟩, List.forall_mem_cons.mpr ⟨⟨by decide, 1, by decide, by decide, wm_223⟩, List.forall_mem_cons.mpr ⟨⟨by decide, 4, by decide, by decide, wm_593⟩, fun _ h => nomatch h⟩⟩⟩) (by decide) (by decide +kernel) (by decide) wm_357 wm_368 (Or.inr ⟨rfl, dd_127_27⟩)
  | 3, _, _, h => by
    cases h
    exact ok_catch (d := md_127) rfl [(0, 12, 15, 13), (0, 12, 19, 15), (0, 12, 23, 69), (0, 12, 27, 28)] (0, 12, 31, 56) [] rfl (List.forall_mem_cons.mpr ⟨⟨by decide, 0, by decide, by decide, wm_222⟩, List.forall_mem_cons.mpr ⟨⟨by decide, 1, by decide, by decide, wm_223⟩, List.forall_mem_cons.mpr ⟨⟨by decide, 4, by decide, by decide, wm_593⟩, List.forall_mem_cons.mpr ⟨⟨by decide, 2, by decide, by decide, wm_357⟩, fun _ h => nomatch h⟩⟩⟩⟩) (by decide) (by decide +kernel) (by decide) wm_545 wm_556 (Or.inr ⟨rfl, dd_127_31⟩)
  | 4, _, _, h => by
    cases h
    exact ok_catch (d := md_127) rfl [(0, 12, 15, 13), (0, 12, 19, 15)] (0, 12, 23, 69) [(0, 12, 27, 28), (0, 12, 31, 56)] rfl (List.forall_mem_cons.mpr ⟨⟨by decide, 0, by decide, by decide, wm_222⟩, List.forall_mem_cons.mpr ⟨⟨by decide, 1, by decide, by decide, wm_223⟩, fun _ h => nomatch h⟩⟩) (by decide) (by decide +kernel) (by decide) wm_593 wm_600 (Or.inr ⟨rfl, dd_127_23⟩)
  | x + 5, _, _, h => by cases h
theorem vn_127 : ∀ x, ac_HDf 127 7 x ≠ some none
  | 0, h => by cases h
  | 1, h => by cases h
  | 2, h => by cases h
  | 3, h => by cases h
  | 4, h => by cases h
  | x + 5, h => by cases h
theorem vd_127_10 (E : ac_E) : ac_ok E md_127 10 (o_i2l 11) := ok_i2l (E := E) (d := md_127) (pc := 10) dd_127_10
theorem vd_127_11 (E : ac_E) : ac_ok E md_127 11 (o_ls 12) := ok_lastore (E := E) (d := md_127) (pc := 11) dd_127_11
theorem vd_127_12 (E : ac_E) : ac_ok E md_127 12 (o_go 35) := ok_goto (E := E) (d := md_127) (pc := 12) dd_127_12 (by decide)
theorem vd_127_17 (E : ac_E) : ac_ok E md_127 17 (o_con (.int 1) 18) := ok_iconst (E := E) (d := md_127) (pc := 17) dd_127_17 (by decide)
theorem vd_127_21 (E : ac_E) : ac_ok E md_127 21 (o_con (.int 2) 22) := ok_iconst (E := E) (d := md_127) (pc := 21) dd_127_21 (by decide)
theorem vd_127_25 (E : ac_E) : ac_ok E md_127 25 (o_con (.int 3) 26) := ok_iconst (E := E) (d := md_127) (pc := 25) dd_127_25 (by decide)
theorem vd_127_29 (E : ac_E) : ac_ok E md_127 29 (o_con (.int 4) 30) := ok_iconst (E := E) (d := md_127) (pc := 29) dd_127_29 (by decide)
theorem vd_127_33 (E : ac_E) : ac_ok E md_127 33 (o_con (.int 5) 34) := ok_iconst (E := E) (d := md_127) (pc := 33) dd_127_33 (by decide)
theorem vd_127_35 (E : ac_E) : ac_ok E md_127 35 (o_con (.int 0) 36) := ok_iconst (E := E) (d := md_127) (pc := 35) dd_127_35 (by decide)
theorem va_127 (E : ac_E) (pc : Nat) : ac_V E ac_MDf ac_HDf 127 pc (tb_127 (ac_len E) (ac_xs E) pc) := (ac_node (ac_node (ac_node (ac_node (ac_leaf 0 (⟨vd_127_0 E, mn_ald _ _⟩)) (ac_leaf 2 (⟨vd_127_2 E, mn_con _ _⟩))) (ac_node (ac_leaf 3 (⟨vd_127_3 E, mn_ald _ _⟩)) (ac_node (ac_leaf 4 (⟨vd_127_4 E, mn_ild _ _⟩)) (ac_leaf 5 (⟨vd_127_5 E, mn_ild _ _⟩))))) (ac_node (ac_node (ac_leaf 6 (⟨vd_127_6 E, mn_ild _ _⟩)) (ac_node (ac_leaf 7 (ac_Vcc (vd_127_7 E) vn_127 (vh_127 E))) (ac_leaf 10 (⟨vd_127_10 E, mn_i2l _⟩)))) (ac_node (ac_leaf 11 (⟨vd_127_11 E, mn_ls _⟩)) (ac_node (ac_leaf 12 (⟨vd_127_12 E, mn_go _⟩)) (ac_leaf 17 (⟨vd_127_17 E, mn_con _ _⟩)))))) (ac_node (ac_node (ac_node (ac_leaf 18 (ac_Vr1 dd_127_18 rfl)) (ac_leaf 21 (⟨vd_127_21 E, mn_con _ _⟩))) (ac_node (ac_leaf 22 (ac_Vr1 dd_127_22 rfl)) (ac_node (ac_leaf 25 (⟨vd_127_25 E, mn_con _ _⟩)) (ac_leaf 26 (ac_Vr1 dd_127_26 rfl))))) (ac_node (ac_node (ac_leaf 29 (⟨vd_127_29 E, mn_con _ _⟩)) (ac_node (ac_leaf 30 (ac_Vr1 dd_127_30 rfl)) (ac_leaf 33 (⟨vd_127_33 E, mn_con _ _⟩)))) (ac_node (ac_leaf 34 (ac_Vr1 dd_127_34 rfl)) (ac_node (ac_leaf 35 (⟨vd_127_35 E, mn_con _ _⟩)) (ac_leaf 36 (ac_Vr1 dd_127_36 rfl)))))))
theorem vd_128_0 (E : ac_E) : ac_ok E md_128 0 (o_ald 2 1) := ok_aload_n (E := E) (d := md_128) (pc := 0) (j := 2) dd_128_0
theorem vd_128_1 (E : ac_E) : ac_ok E md_128 1 (o_con (.int 0) 2) := ok_iconst (E := E) (d := md_128) (pc := 1) dd_128_1 (by decide)
theorem vd_128_2 (E : ac_E) : ac_ok E md_128 2 (o_ald 0 3) := ok_aload_n (E := E) (d := md_128) (pc := 2) (j := 0) dd_128_2
theorem vd_128_3 (E : ac_E) : ac_ok E md_128 3 (o_ild 1 4) := ok_iload_n (E := E) (d := md_128) (pc := 3) (j := 1) dd_128_3
theorem vd_128_4 (E : ac_E) : ac_okr E md_128 md_41 4 2 7 6 ∧ ac_okt E md_128 md_41 4 2 6 := ok_callV (E := E) (d := md_128) (dz := md_41) (pc := 4) (T := TX4) (N := 12) rfl rfl (by decide) (by decide +kernel) wm_630 wm_50 wm_627 wm_628 wm_629 dd_128_4
theorem vh_128 (E : ac_E) : ∀ x i j, ac_HDf 128 4 x = some (some (i, j)) → ac_okh E md_128 4 x i j
  | 0, _, _, h => by
    cases h
    exact ok_catch (d := md_128) rfl [] (0, 9, 12, 13) [] rfl (fun _ h => nomatch h) (by decide) (by decide +kernel) (by decide) wm_222 wm_234 (Or.inl ⟨3, rfl, rfl, dd_128_12⟩)
  | x + 1, _, _, h => by cases h
theorem vn_128 : ∀ x, ac_HDf 128 4 x ≠ some none
  | 0, h => by cases h
  | x + 1, h => by cases h
theorem vd_128_7 (E : ac_E) : ac_ok E md_128 7 (o_i2l 8) := ok_i2l (E := E) (d := md_128) (pc := 7) dd_128_7
theorem vd_128_8 (E : ac_E) : ac_ok E md_128 8 (o_ls 9) := ok_lastore (E := E) (d := md_128) (pc := 8) dd_128_8
theorem vd_128_9 (E : ac_E) : ac_ok E md_128 9 (o_go 15) := ok_goto (E := E) (d := md_128) (pc := 9) dd_128_9 (by decide)
theorem vd_128_13 (E : ac_E) : ac_ok E md_128 13 (o_con (.int 1) 14) := ok_iconst (E := E) (d := md_128) (pc := 13) dd_128_13 (by decide)
theorem vd_128_15 (E : ac_E) : ac_ok E md_128 15 (o_con (.int 0) 16) := ok_iconst (E := E) (d := md_128) (pc := 15) dd_128_15 (by decide)
theorem va_128 (E : ac_E) (pc : Nat) : ac_V E ac_MDf ac_HDf 128 pc (tb_128 (ac_len E) (ac_xs E) pc) := (ac_node (ac_node (ac_node (ac_leaf 0 (⟨vd_128_0 E, mn_ald _ _⟩)) (ac_node (ac_leaf 1 (⟨vd_128_1 E, mn_con _ _⟩)) (ac_leaf 2 (⟨vd_128_2 E, mn_ald _ _⟩)))) (ac_node (ac_leaf 3 (⟨vd_128_3 E, mn_ild _ _⟩)) (ac_node (ac_leaf 4 (ac_Vcc (vd_128_4 E) vn_128 (vh_128 E))) (ac_leaf 7 (⟨vd_128_7 E, mn_i2l _⟩))))) (ac_node (ac_node (ac_leaf 8 (⟨vd_128_8 E, mn_ls _⟩)) (ac_node (ac_leaf 9 (⟨vd_128_9 E, mn_go _⟩)) (ac_leaf 13 (⟨vd_128_13 E, mn_con _ _⟩)))) (ac_node (ac_leaf 14 (ac_Vr1 dd_128_14 rfl)) (ac_node (ac_leaf 15 (⟨vd_128_15 E, mn_con _ _⟩)) (ac_leaf 16 (ac_Vr1 dd_128_16 rfl))))))
theorem vd_129_0 (E : ac_E) : ac_ok E md_129 0 (o_new 4 [.null, .null, .null, .null, .null, .null, .null, .null, .null, .null, .int 0, .int 0] 3) := ok_new (E := E) (d := md_129) (pc := 0) (C := RX4) (T := TX4) (N := 12) rfl win_4 tyX4 tyX4_ok (nfs_4 E) rfl wm_67 wm_68 wm_50 dd_129_0
theorem vd_129_3 (E : ac_E) : ac_ok E md_129 3 (o_dup 4) := ok_dup (E := E) (d := md_129) (pc := 3) dd_129_3
theorem vd_129_4 (E : ac_E) : ac_ok E md_129 4 (o_ald 0 5) := ok_aload_n (E := E) (d := md_129) (pc := 4) (j := 0) dd_129_4
theorem vd_129_5 (E : ac_E) : ac_ok E md_129 5 (o_con (.int 0) 6) := ok_iconst (E := E) (d := md_129) (pc := 5) dd_129_5 (by decide)
theorem vd_129_6 (E : ac_E) : ac_okr E md_129 md_112 6 2 9 0 ∧ ac_okt E md_129 md_112 6 2 0 := ok_callS (E := E) (d := md_129) (dz := md_112) (pc := 6) rfl (by decide) (by decide +kernel) wm_218 wm_49 wm_216 wm_217 dd_129_6
theorem vd_129_9 (E : ac_E) : ac_ok E md_129 9 (o_ald 0 10) := ok_aload_n (E := E) (d := md_129) (pc := 9) (j := 0) dd_129_9
theorem vd_129_10 (E : ac_E) : ac_ok E md_129 10 (o_con (.int 1) 11) := ok_iconst (E := E) (d := md_129) (pc := 10) dd_129_10 (by decide)
theorem vd_129_11 (E : ac_E) : ac_okr E md_129 md_112 11 2 14 0 ∧ ac_okt E md_129 md_112 11 2 0 := ok_callS (E := E) (d := md_129) (dz := md_112) (pc := 11) rfl (by decide) (by decide +kernel) wm_218 wm_49 wm_216 wm_217 dd_129_11
theorem vd_129_14 (E : ac_E) : ac_okr E md_129 md_23 14 3 17 1 := ok_callI (E := E) (d := md_129) (dz := md_23) (pc := 14) rfl rfl rfl (by decide) (by decide +kernel) wm_71 wm_50 wm_69 wm_70 dd_129_14
theorem vd_129_17 (E : ac_E) : ac_ok E md_129 17 (o_ast 1 18) := ok_astore_n (E := E) (d := md_129) (pc := 17) (j := 1) dd_129_17
theorem vd_129_18 (E : ac_E) : ac_ok E md_129 18 (o_new 5 [.int 0, .int 0, .int 0, .int 0, .int 0, .null, .null, .null, .null, .null, .null, .int 0, .null, .int 0, .int 0, .null, .null] 21) := ok_new (E := E) (d := md_129) (pc := 18) (C := RX5) (T := TX5) (N := 17) rfl win_5 tyX5 tyX5_ok (nfs_5 E) rfl wm_632 wm_633 wm_56 dd_129_18
theorem vd_129_21 (E : ac_E) : ac_ok E md_129 21 (o_dup 22) := ok_dup (E := E) (d := md_129) (pc := 21) dd_129_21
theorem vd_129_22 (E : ac_E) : ac_ok E md_129 22 (o_ald 0 23) := ok_aload_n (E := E) (d := md_129) (pc := 22) (j := 0) dd_129_22
theorem vd_129_23 (E : ac_E) : ac_ok E md_129 23 (o_con (.int 0) 24) := ok_iconst (E := E) (d := md_129) (pc := 23) dd_129_23 (by decide)
theorem vd_129_24 (E : ac_E) : ac_okr E md_129 md_112 24 2 27 0 ∧ ac_okt E md_129 md_112 24 2 0 := ok_callS (E := E) (d := md_129) (dz := md_112) (pc := 24) rfl (by decide) (by decide +kernel) wm_218 wm_49 wm_216 wm_217 dd_129_24
theorem vd_129_27 (E : ac_E) : ac_ok E md_129 27 (o_ald 0 28) := ok_aload_n (E := E) (d := md_129) (pc := 27) (j := 0) dd_129_27
theorem vd_129_28 (E : ac_E) : ac_ok E md_129 28 (o_con (.int 1) 29) := ok_iconst (E := E) (d := md_129) (pc := 28) dd_129_28 (by decide)
theorem vd_129_29 (E : ac_E) : ac_okr E md_129 md_112 29 2 32 0 ∧ ac_okt E md_129 md_112 29 2 0 := ok_callS (E := E) (d := md_129) (dz := md_112) (pc := 29) rfl (by decide) (by decide +kernel) wm_218 wm_49 wm_216 wm_217 dd_129_29
theorem vd_129_32 (E : ac_E) : ac_okr E md_129 md_66 32 3 35 1 := ok_callI (E := E) (d := md_129) (dz := md_66) (pc := 32) rfl rfl rfl (by decide) (by decide +kernel) wm_636 wm_56 wm_634 wm_635 dd_129_32
theorem vd_129_35 (E : ac_E) : ac_ok E md_129 35 (o_ast 2 36) := ok_astore_n (E := E) (d := md_129) (pc := 35) (j := 2) dd_129_35
theorem vd_129_36 (E : ac_E) : ac_ok E md_129 36 (o_con (.int 1) 37) := ok_iconst (E := E) (d := md_129) (pc := 36) dd_129_36 (by decide)
theorem vd_129_37 (E : ac_E) : ac_ok E md_129 37 (o_nl 39) := ok_nl (E := E) (d := md_129) (pc := 37) dd_129_37 wm_864
theorem vd_129_39 (E : ac_E) : ac_ok E md_129 39 (o_ast 3 40) := ok_astore_n (E := E) (d := md_129) (pc := 39) (j := 3) dd_129_39
theorem vd_129_40 (E : ac_E) : ac_ok E md_129 40 (o_con (.int 2) 41) := ok_iconst (E := E) (d := md_129) (pc := 40) dd_129_40 (by decide)
theorem vd_129_41 (E : ac_E) : ac_ok E md_129 41 (o_ist 4 43) := ok_istore (E := E) (d := md_129) (pc := 41) dd_129_41
theorem vd_129_43 (E : ac_E) : ac_ok E md_129 43 (o_ild 4 45) := ok_iload (E := E) (d := md_129) (pc := 43) dd_129_43
theorem vd_129_45 (E : ac_E) : ac_ok E md_129 45 (o_ald 0 46) := ok_aload_n (E := E) (d := md_129) (pc := 45) (j := 0) dd_129_45
theorem vd_129_46 (E : ac_E) : ac_ok E md_129 46 (o_xl (ac_len E) 47) := ok_xl (E := E) (d := md_129) (pc := 46) dd_129_46
theorem vd_129_47 (E : ac_E) : ac_ok E md_129 47 (o_con (.int 6) 49) := ok_bipush (E := E) (d := md_129) (pc := 47) dd_129_47 (by decide)
theorem vd_129_49 (E : ac_E) : ac_ok E md_129 49 (o_sub 50) := ok_isub (E := E) (d := md_129) (pc := 49) dd_129_49
theorem vd_129_50 (E : ac_E) : ac_ok E md_129 50 (o_gt 1335 53) := ok_icmpgt (E := E) (d := md_129) (pc := 50) dd_129_50 (by decide)
theorem vd_129_53 (E : ac_E) : ac_ok E md_129 53 (o_ald 0 54) := ok_aload_n (E := E) (d := md_129) (pc := 53) (j := 0) dd_129_53
theorem vd_129_54 (E : ac_E) : ac_ok E md_129 54 (o_ild 4 56) := ok_iload (E := E) (d := md_129) (pc := 54) dd_129_54
theorem vd_129_56 (E : ac_E) : ac_ok E md_129 56 (o_xa (ac_len E) (ac_xs E) 57) := ok_xa (E := E) (d := md_129) (pc := 56) dd_129_56
theorem vd_129_57 (E : ac_E) : ac_ok E md_129 57 (o_con (.int 31) 59) := ok_bipush (E := E) (d := md_129) (pc := 57) dd_129_57 (by decide)
theorem vd_129_59 (E : ac_E) : ac_ok E md_129 59 (o_and 60) := ok_iand (E := E) (d := md_129) (pc := 59) dd_129_59
theorem vd_129_60 (E : ac_E) : ac_ok E md_129 60 (o_sw [148, 208, 276, 344, 447, 507, 610, 713, 781, 817, 873, 896, 952, 1008, 1112, 1180, 1193, 1273] 1329) := ok_sw (E := E) (d := md_129) (pc := 60) dd_129_60 rfl (by decide) (by decide) (by decide +kernel)
theorem vd_129_148 (E : ac_E) : ac_ok E md_129 148 (o_ald 1 149) := ok_aload_n (E := E) (d := md_129) (pc := 148) (j := 1) dd_129_148
theorem vd_129_149 (E : ac_E) : ac_ok E md_129 149 (o_ald 0 150) := ok_aload_n (E := E) (d := md_129) (pc := 149) (j := 0) dd_129_149
theorem vd_129_150 (E : ac_E) : ac_ok E md_129 150 (o_ild 4 152) := ok_iload (E := E) (d := md_129) (pc := 150) dd_129_150
theorem vd_129_152 (E : ac_E) : ac_ok E md_129 152 (o_con (.int 1) 153) := ok_iconst (E := E) (d := md_129) (pc := 152) dd_129_152 (by decide)
theorem vd_129_153 (E : ac_E) : ac_ok E md_129 153 (o_add 154) := ok_iadd (E := E) (d := md_129) (pc := 153) dd_129_153
theorem vd_129_154 (E : ac_E) : ac_ok E md_129 154 (o_xa (ac_len E) (ac_xs E) 155) := ok_xa (E := E) (d := md_129) (pc := 154) dd_129_154
theorem vd_129_155 (E : ac_E) : ac_ok E md_129 155 (o_ald 0 156) := ok_aload_n (E := E) (d := md_129) (pc := 155) (j := 0) dd_129_155
theorem vd_129_156 (E : ac_E) : ac_ok E md_129 156 (o_ild 4 158) := ok_iload (E := E) (d := md_129) (pc := 156) dd_129_156
theorem vd_129_158 (E : ac_E) : ac_ok E md_129 158 (o_con (.int 2) 159) := ok_iconst (E := E) (d := md_129) (pc := 158) dd_129_158 (by decide)
theorem vd_129_159 (E : ac_E) : ac_ok E md_129 159 (o_add 160) := ok_iadd (E := E) (d := md_129) (pc := 159) dd_129_159
theorem vd_129_160 (E : ac_E) : ac_ok E md_129 160 (o_xa (ac_len E) (ac_xs E) 161) := ok_xa (E := E) (d := md_129) (pc := 160) dd_129_160
theorem vd_129_161 (E : ac_E) : ac_ok E md_129 161 (o_ald 0 162) := ok_aload_n (E := E) (d := md_129) (pc := 161) (j := 0) dd_129_161
theorem vd_129_162 (E : ac_E) : ac_ok E md_129 162 (o_ild 4 164) := ok_iload (E := E) (d := md_129) (pc := 162) dd_129_162
theorem vd_129_164 (E : ac_E) : ac_ok E md_129 164 (o_con (.int 3) 165) := ok_iconst (E := E) (d := md_129) (pc := 164) dd_129_164 (by decide)
theorem vd_129_165 (E : ac_E) : ac_ok E md_129 165 (o_add 166) := ok_iadd (E := E) (d := md_129) (pc := 165) dd_129_165
theorem vd_129_166 (E : ac_E) : ac_ok E md_129 166 (o_xa (ac_len E) (ac_xs E) 167) := ok_xa (E := E) (d := md_129) (pc := 166) dd_129_166
theorem vd_129_167 (E : ac_E) : ac_okr E md_129 md_113 167 4 170 0 := ok_callSX (E := E) (d := md_129) (dz := md_113) (pc := 167) rfl (by decide) (by decide +kernel) wm_221 wm_49 wm_219 wm_220 dd_129_167
theorem vd_129_170 (E : ac_E) : ac_ok E md_129 170 (o_ist 5 172) := ok_istore (E := E) (d := md_129) (pc := 170) dd_129_170
theorem vd_129_172 (E : ac_E) : ac_ok E md_129 172 (o_ald 2 173) := ok_aload_n (E := E) (d := md_129) (pc := 172) (j := 2) dd_129_172
theorem vd_129_173 (E : ac_E) : ac_ok E md_129 173 (o_ald 0 174) := ok_aload_n (E := E) (d := md_129) (pc := 173) (j := 0) dd_129_173
theorem vd_129_174 (E : ac_E) : ac_ok E md_129 174 (o_ild 4 176) := ok_iload (E := E) (d := md_129) (pc := 174) dd_129_174
theorem vd_129_176 (E : ac_E) : ac_ok E md_129 176 (o_con (.int 1) 177) := ok_iconst (E := E) (d := md_129) (pc := 176) dd_129_176 (by decide)
theorem vd_129_177 (E : ac_E) : ac_ok E md_129 177 (o_add 178) := ok_iadd (E := E) (d := md_129) (pc := 177) dd_129_177
theorem vd_129_178 (E : ac_E) : ac_ok E md_129 178 (o_xa (ac_len E) (ac_xs E) 179) := ok_xa (E := E) (d := md_129) (pc := 178) dd_129_178
theorem vd_129_179 (E : ac_E) : ac_ok E md_129 179 (o_ald 0 180) := ok_aload_n (E := E) (d := md_129) (pc := 179) (j := 0) dd_129_179
theorem vd_129_180 (E : ac_E) : ac_ok E md_129 180 (o_ild 4 182) := ok_iload (E := E) (d := md_129) (pc := 180) dd_129_180
theorem vd_129_182 (E : ac_E) : ac_ok E md_129 182 (o_con (.int 2) 183) := ok_iconst (E := E) (d := md_129) (pc := 182) dd_129_182 (by decide)
theorem vd_129_183 (E : ac_E) : ac_ok E md_129 183 (o_add 184) := ok_iadd (E := E) (d := md_129) (pc := 183) dd_129_183
theorem vd_129_184 (E : ac_E) : ac_ok E md_129 184 (o_xa (ac_len E) (ac_xs E) 185) := ok_xa (E := E) (d := md_129) (pc := 184) dd_129_184
theorem vd_129_185 (E : ac_E) : ac_ok E md_129 185 (o_ald 0 186) := ok_aload_n (E := E) (d := md_129) (pc := 185) (j := 0) dd_129_185
theorem vd_129_186 (E : ac_E) : ac_ok E md_129 186 (o_ild 4 188) := ok_iload (E := E) (d := md_129) (pc := 186) dd_129_186
theorem vd_129_188 (E : ac_E) : ac_ok E md_129 188 (o_con (.int 3) 189) := ok_iconst (E := E) (d := md_129) (pc := 188) dd_129_188 (by decide)
theorem vd_129_189 (E : ac_E) : ac_ok E md_129 189 (o_add 190) := ok_iadd (E := E) (d := md_129) (pc := 189) dd_129_189
theorem vd_129_190 (E : ac_E) : ac_ok E md_129 190 (o_xa (ac_len E) (ac_xs E) 191) := ok_xa (E := E) (d := md_129) (pc := 190) dd_129_190
theorem vd_129_191 (E : ac_E) : ac_okr E md_129 md_76 191 4 194 7 ∧ ac_okt E md_129 md_76 191 4 7 := ok_callV (E := E) (d := md_129) (dz := md_76) (pc := 191) (T := TX5) (N := 17) rfl rfl (by decide) (by decide +kernel) wm_711 wm_56 wm_708 wm_709 wm_710 dd_129_191
theorem vd_129_194 (E : ac_E) : ac_ok E md_129 194 (o_ald 2 195) := ok_aload_n (E := E) (d := md_129) (pc := 194) (j := 2) dd_129_194
theorem vd_129_195 (E : ac_E) : ac_okr E md_129 md_67 195 1 198 7 ∧ ac_okt E md_129 md_67 195 1 7 := ok_callV (E := E) (d := md_129) (dz := md_67) (pc := 195) (T := TX5) (N := 17) rfl rfl (by decide) (by decide +kernel) wm_694 wm_56 wm_691 wm_692 wm_693 dd_129_195
theorem vd_129_198 (E : ac_E) : ac_ok E md_129 198 (o_ild 5 200) := ok_iload (E := E) (d := md_129) (pc := 198) dd_129_198
theorem vd_129_200 (E : ac_E) : ac_ok E md_129 200 (o_eq 205 203) := ok_icmpeq (E := E) (d := md_129) (pc := 200) dd_129_200 (by decide)
theorem vd_129_203 (E : ac_E) : ac_ok E md_129 203 (o_con (.int 0) 204) := ok_iconst (E := E) (d := md_129) (pc := 203) dd_129_203 (by decide)
theorem vd_129_205 (E : ac_E) : ac_ok E md_129 205 (o_go 1329) := ok_goto (E := E) (d := md_129) (pc := 205) dd_129_205 (by decide)
theorem vd_129_208 (E : ac_E) : ac_ok E md_129 208 (o_ald 1 209) := ok_aload_n (E := E) (d := md_129) (pc := 208) (j := 1) dd_129_208
theorem vd_129_209 (E : ac_E) : ac_ok E md_129 209 (o_ald 0 210) := ok_aload_n (E := E) (d := md_129) (pc := 209) (j := 0) dd_129_209
theorem vd_129_210 (E : ac_E) : ac_ok E md_129 210 (o_ild 4 212) := ok_iload (E := E) (d := md_129) (pc := 210) dd_129_210
theorem vd_129_212 (E : ac_E) : ac_ok E md_129 212 (o_con (.int 1) 213) := ok_iconst (E := E) (d := md_129) (pc := 212) dd_129_212 (by decide)
theorem vd_129_213 (E : ac_E) : ac_ok E md_129 213 (o_add 214) := ok_iadd (E := E) (d := md_129) (pc := 213) dd_129_213
theorem vd_129_214 (E : ac_E) : ac_ok E md_129 214 (o_xa (ac_len E) (ac_xs E) 215) := ok_xa (E := E) (d := md_129) (pc := 214) dd_129_214
theorem vd_129_215 (E : ac_E) : ac_ok E md_129 215 (o_ald 0 216) := ok_aload_n (E := E) (d := md_129) (pc := 215) (j := 0) dd_129_215
theorem vd_129_216 (E : ac_E) : ac_ok E md_129 216 (o_ild 4 218) := ok_iload (E := E) (d := md_129) (pc := 216) dd_129_216
theorem vd_129_218 (E : ac_E) : ac_ok E md_129 218 (o_con (.int 2) 219) := ok_iconst (E := E) (d := md_129) (pc := 218) dd_129_218 (by decide)
theorem vd_129_219 (E : ac_E) : ac_ok E md_129 219 (o_add 220) := ok_iadd (E := E) (d := md_129) (pc := 219) dd_129_219
theorem vd_129_220 (E : ac_E) : ac_ok E md_129 220 (o_xa (ac_len E) (ac_xs E) 221) := ok_xa (E := E) (d := md_129) (pc := 220) dd_129_220
theorem vd_129_221 (E : ac_E) : ac_ok E md_129 221 (o_ald 3 222) := ok_aload_n (E := E) (d := md_129) (pc := 221) (j := 3) dd_129_221
theorem vd_129_222 (E : ac_E) : ac_okr E md_129 md_114 222 4 225 0 := ok_callSX (E := E) (d := md_129) (dz := md_114) (pc := 222) rfl (by decide) (by decide +kernel) wm_330 wm_49 wm_328 wm_329 dd_129_222
theorem vd_129_225 (E : ac_E) : ac_ok E md_129 225 (o_ist 5 227) := ok_istore (E := E) (d := md_129) (pc := 225) dd_129_225
theorem vd_129_227 (E : ac_E) : ac_ok E md_129 227 (o_ald 2 228) := ok_aload_n (E := E) (d := md_129) (pc := 227) (j := 2) dd_129_227
theorem vd_129_228 (E : ac_E) : ac_ok E md_129 228 (o_ald 0 229) := ok_aload_n (E := E) (d := md_129) (pc := 228) (j := 0) dd_129_228
theorem vd_129_229 (E : ac_E) : ac_ok E md_129 229 (o_ild 4 231) := ok_iload (E := E) (d := md_129) (pc := 229) dd_129_229
theorem vd_129_231 (E : ac_E) : ac_ok E md_129 231 (o_con (.int 1) 232) := ok_iconst (E := E) (d := md_129) (pc := 231) dd_129_231 (by decide)
theorem vd_129_232 (E : ac_E) : ac_ok E md_129 232 (o_add 233) := ok_iadd (E := E) (d := md_129) (pc := 232) dd_129_232
theorem vd_129_233 (E : ac_E) : ac_ok E md_129 233 (o_xa (ac_len E) (ac_xs E) 234) := ok_xa (E := E) (d := md_129) (pc := 233) dd_129_233
theorem vd_129_234 (E : ac_E) : ac_ok E md_129 234 (o_ald 0 235) := ok_aload_n (E := E) (d := md_129) (pc := 234) (j := 0) dd_129_234
theorem vd_129_235 (E : ac_E) : ac_ok E md_129 235 (o_ild 4 237) := ok_iload (E := E) (d := md_129) (pc := 235) dd_129_235
theorem vd_129_237 (E : ac_E) : ac_ok E md_129 237 (o_con (.int 2) 238) := ok_iconst (E := E) (d := md_129) (pc := 237) dd_129_237 (by decide)
theorem vd_129_238 (E : ac_E) : ac_ok E md_129 238 (o_add 239) := ok_iadd (E := E) (d := md_129) (pc := 238) dd_129_238
theorem vd_129_239 (E : ac_E) : ac_ok E md_129 239 (o_xa (ac_len E) (ac_xs E) 240) := ok_xa (E := E) (d := md_129) (pc := 239) dd_129_239
theorem vd_129_240 (E : ac_E) : ac_okr E md_129 md_77 240 3 243 7 ∧ ac_okt E md_129 md_77 240 3 7 := ok_callV (E := E) (d := md_129) (dz := md_77) (pc := 240) (T := TX5) (N := 17) rfl rfl (by decide) (by decide +kernel) wm_719 wm_56 wm_716 wm_717 wm_718 dd_129_240
theorem vd_129_243 (E : ac_E) : ac_ok E md_129 243 (o_ist 6 245) := ok_istore (E := E) (d := md_129) (pc := 243) dd_129_243
theorem vd_129_245 (E : ac_E) : ac_ok E md_129 245 (o_ald 2 246) := ok_aload_n (E := E) (d := md_129) (pc := 245) (j := 2) dd_129_245
theorem vd_129_246 (E : ac_E) : ac_okr E md_129 md_67 246 1 249 7 ∧ ac_okt E md_129 md_67 246 1 7 := ok_callV (E := E) (d := md_129) (dz := md_67) (pc := 246) (T := TX5) (N := 17) rfl rfl (by decide) (by decide +kernel) wm_694 wm_56 wm_691 wm_692 wm_693 dd_129_246
theorem vd_129_249 (E : ac_E) : ac_ok E md_129 249 (o_ild 5 251) := ok_iload (E := E) (d := md_129) (pc := 249) dd_129_249
theorem vd_129_251 (E : ac_E) : ac_ok E md_129 251 (o_eq 256 254) := ok_icmpeq (E := E) (d := md_129) (pc := 251) dd_129_251 (by decide)
theorem vd_129_254 (E : ac_E) : ac_ok E md_129 254 (o_con (.int 0) 255) := ok_iconst (E := E) (d := md_129) (pc := 254) dd_129_254 (by decide)
theorem vd_129_256 (E : ac_E) : ac_ok E md_129 256 (o_ild 5 258) := ok_iload (E := E) (d := md_129) (pc := 256) dd_129_256
theorem vd_129_258 (E : ac_E) : ac_ok E md_129 258 (o_ne0 273 261) := ok_ifne (E := E) (d := md_129) (pc := 258) dd_129_258 (by decide)
theorem vd_129_261 (E : ac_E) : ac_ok E md_129 261 (o_ald 3 262) := ok_aload_n (E := E) (d := md_129) (pc := 261) (j := 3) dd_129_261
theorem vd_129_262 (E : ac_E) : ac_ok E md_129 262 (o_con (.int 0) 263) := ok_iconst (E := E) (d := md_129) (pc := 262) dd_129_262 (by decide)
theorem vd_129_263 (E : ac_E) : ac_ok E md_129 263 (o_la 264) := ok_laload (E := E) (d := md_129) (pc := 263) dd_129_263
theorem vd_129_264 (E : ac_E) : ac_ok E md_129 264 (o_ild 6 266) := ok_iload (E := E) (d := md_129) (pc := 264) dd_129_264
theorem vd_129_266 (E : ac_E) : ac_ok E md_129 266 (o_i2l 267) := ok_i2l (E := E) (d := md_129) (pc := 266) dd_129_266
theorem vd_129_267 (E : ac_E) : ac_ok E md_129 267 (o_lcm 268) := ok_lcmp (E := E) (d := md_129) (pc := 267) dd_129_267
theorem vd_129_268 (E : ac_E) : ac_ok E md_129 268 (o_eq0 273 271) := ok_ifeq (E := E) (d := md_129) (pc := 268) dd_129_268 (by decide)
theorem vd_129_271 (E : ac_E) : ac_ok E md_129 271 (o_con (.int 0) 272) := ok_iconst (E := E) (d := md_129) (pc := 271) dd_129_271 (by decide)
theorem vd_129_273 (E : ac_E) : ac_ok E md_129 273 (o_go 1329) := ok_goto (E := E) (d := md_129) (pc := 273) dd_129_273 (by decide)
theorem vd_129_276 (E : ac_E) : ac_ok E md_129 276 (o_ald 1 277) := ok_aload_n (E := E) (d := md_129) (pc := 276) (j := 1) dd_129_276
theorem vd_129_277 (E : ac_E) : ac_ok E md_129 277 (o_ald 0 278) := ok_aload_n (E := E) (d := md_129) (pc := 277) (j := 0) dd_129_277
theorem vd_129_278 (E : ac_E) : ac_ok E md_129 278 (o_ild 4 280) := ok_iload (E := E) (d := md_129) (pc := 278) dd_129_278
theorem vd_129_280 (E : ac_E) : ac_ok E md_129 280 (o_con (.int 1) 281) := ok_iconst (E := E) (d := md_129) (pc := 280) dd_129_280 (by decide)
theorem vd_129_281 (E : ac_E) : ac_ok E md_129 281 (o_add 282) := ok_iadd (E := E) (d := md_129) (pc := 281) dd_129_281
theorem vd_129_282 (E : ac_E) : ac_ok E md_129 282 (o_xa (ac_len E) (ac_xs E) 283) := ok_xa (E := E) (d := md_129) (pc := 282) dd_129_282
theorem vd_129_283 (E : ac_E) : ac_ok E md_129 283 (o_ald 0 284) := ok_aload_n (E := E) (d := md_129) (pc := 283) (j := 0) dd_129_283
theorem vd_129_284 (E : ac_E) : ac_ok E md_129 284 (o_ild 4 286) := ok_iload (E := E) (d := md_129) (pc := 284) dd_129_284
theorem vd_129_286 (E : ac_E) : ac_ok E md_129 286 (o_con (.int 2) 287) := ok_iconst (E := E) (d := md_129) (pc := 286) dd_129_286 (by decide)
theorem vd_129_287 (E : ac_E) : ac_ok E md_129 287 (o_add 288) := ok_iadd (E := E) (d := md_129) (pc := 287) dd_129_287
theorem vd_129_288 (E : ac_E) : ac_ok E md_129 288 (o_xa (ac_len E) (ac_xs E) 289) := ok_xa (E := E) (d := md_129) (pc := 288) dd_129_288
theorem vd_129_289 (E : ac_E) : ac_ok E md_129 289 (o_ald 3 290) := ok_aload_n (E := E) (d := md_129) (pc := 289) (j := 3) dd_129_289
theorem vd_129_290 (E : ac_E) : ac_okr E md_129 md_115 290 4 293 0 := ok_callSX (E := E) (d := md_129) (dz := md_115) (pc := 290) rfl (by decide) (by decide +kernel) wm_337 wm_49 wm_335 wm_336 dd_129_290
theorem vd_129_293 (E : ac_E) : ac_ok E md_129 293 (o_ist 5 295) := ok_istore (E := E) (d := md_129) (pc := 293) dd_129_293
theorem vd_129_295 (E : ac_E) : ac_ok E md_129 295 (o_ald 2 296) := ok_aload_n (E := E) (d := md_129) (pc := 295) (j := 2) dd_129_295
theorem vd_129_296 (E : ac_E) : ac_ok E md_129 296 (o_ald 0 297) := ok_aload_n (E := E) (d := md_129) (pc := 296) (j := 0) dd_129_296
theorem vd_129_297 (E : ac_E) : ac_ok E md_129 297 (o_ild 4 299) := ok_iload (E := E) (d := md_129) (pc := 297) dd_129_297
theorem vd_129_299 (E : ac_E) : ac_ok E md_129 299 (o_con (.int 1) 300) := ok_iconst (E := E) (d := md_129) (pc := 299) dd_129_299 (by decide)
theorem vd_129_300 (E : ac_E) : ac_ok E md_129 300 (o_add 301) := ok_iadd (E := E) (d := md_129) (pc := 300) dd_129_300
theorem vd_129_301 (E : ac_E) : ac_ok E md_129 301 (o_xa (ac_len E) (ac_xs E) 302) := ok_xa (E := E) (d := md_129) (pc := 301) dd_129_301
theorem vd_129_302 (E : ac_E) : ac_ok E md_129 302 (o_ald 0 303) := ok_aload_n (E := E) (d := md_129) (pc := 302) (j := 0) dd_129_302
theorem vd_129_303 (E : ac_E) : ac_ok E md_129 303 (o_ild 4 305) := ok_iload (E := E) (d := md_129) (pc := 303) dd_129_303
theorem vd_129_305 (E : ac_E) : ac_ok E md_129 305 (o_con (.int 2) 306) := ok_iconst (E := E) (d := md_129) (pc := 305) dd_129_305 (by decide)
theorem vd_129_306 (E : ac_E) : ac_ok E md_129 306 (o_add 307) := ok_iadd (E := E) (d := md_129) (pc := 306) dd_129_306
theorem vd_129_307 (E : ac_E) : ac_ok E md_129 307 (o_xa (ac_len E) (ac_xs E) 308) := ok_xa (E := E) (d := md_129) (pc := 307) dd_129_307
theorem vd_129_308 (E : ac_E) : ac_okr E md_129 md_75 308 3 311 7 ∧ ac_okt E md_129 md_75 308 3 7 := ok_callV (E := E) (d := md_129) (dz := md_75) (pc := 308) (T := TX5) (N := 17) rfl rfl (by decide) (by decide +kernel) wm_698 wm_56 wm_695 wm_696 wm_697 dd_129_308
theorem vd_129_311 (E : ac_E) : ac_ok E md_129 311 (o_ist 6 313) := ok_istore (E := E) (d := md_129) (pc := 311) dd_129_311
theorem vd_129_313 (E : ac_E) : ac_ok E md_129 313 (o_ald 2 314) := ok_aload_n (E := E) (d := md_129) (pc := 313) (j := 2) dd_129_313
theorem vd_129_314 (E : ac_E) : ac_okr E md_129 md_67 314 1 317 7 ∧ ac_okt E md_129 md_67 314 1 7 := ok_callV (E := E) (d := md_129) (dz := md_67) (pc := 314) (T := TX5) (N := 17) rfl rfl (by decide) (by decide +kernel) wm_694 wm_56 wm_691 wm_692 wm_693 dd_129_314
theorem vd_129_317 (E : ac_E) : ac_ok E md_129 317 (o_ild 5 319) := ok_iload (E := E) (d := md_129) (pc := 317) dd_129_317
theorem vd_129_319 (E : ac_E) : ac_ok E md_129 319 (o_eq 324 322) := ok_icmpeq (E := E) (d := md_129) (pc := 319) dd_129_319 (by decide)
theorem vd_129_322 (E : ac_E) : ac_ok E md_129 322 (o_con (.int 0) 323) := ok_iconst (E := E) (d := md_129) (pc := 322) dd_129_322 (by decide)
theorem vd_129_324 (E : ac_E) : ac_ok E md_129 324 (o_ild 5 326) := ok_iload (E := E) (d := md_129) (pc := 324) dd_129_324
theorem vd_129_326 (E : ac_E) : ac_ok E md_129 326 (o_ne0 341 329) := ok_ifne (E := E) (d := md_129) (pc := 326) dd_129_326 (by decide)
theorem vd_129_329 (E : ac_E) : ac_ok E md_129 329 (o_ald 3 330) := ok_aload_n (E := E) (d := md_129) (pc := 329) (j := 3) dd_129_329
theorem vd_129_330 (E : ac_E) : ac_ok E md_129 330 (o_con (.int 0) 331) := ok_iconst (E := E) (d := md_129) (pc := 330) dd_129_330 (by decide)
theorem vd_129_331 (E : ac_E) : ac_ok E md_129 331 (o_la 332) := ok_laload (E := E) (d := md_129) (pc := 331) dd_129_331
theorem vd_129_332 (E : ac_E) : ac_ok E md_129 332 (o_ild 6 334) := ok_iload (E := E) (d := md_129) (pc := 332) dd_129_332
theorem vd_129_334 (E : ac_E) : ac_ok E md_129 334 (o_i2l 335) := ok_i2l (E := E) (d := md_129) (pc := 334) dd_129_334
theorem vd_129_335 (E : ac_E) : ac_ok E md_129 335 (o_lcm 336) := ok_lcmp (E := E) (d := md_129) (pc := 335) dd_129_335
theorem vd_129_336 (E : ac_E) : ac_ok E md_129 336 (o_eq0 341 339) := ok_ifeq (E := E) (d := md_129) (pc := 336) dd_129_336 (by decide)
theorem vd_129_339 (E : ac_E) : ac_ok E md_129 339 (o_con (.int 0) 340) := ok_iconst (E := E) (d := md_129) (pc := 339) dd_129_339 (by decide)
