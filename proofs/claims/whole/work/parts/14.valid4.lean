theorem vd_127_4 (E : ac_E) : ac_V E ac_MDf ac_HDf 127 4 (.inl (o_ild 1 5)) := ⟨ok_iload_n dd_127_4, mn_ild _ _⟩
theorem vd_127_5 (E : ac_E) : ac_V E ac_MDf ac_HDf 127 5 (.inl (o_ild 2 6)) := ⟨ok_iload_n dd_127_5, mn_ild _ _⟩
theorem vd_127_6 (E : ac_E) : ac_V E ac_MDf ac_HDf 127 6 (.inl (o_ild 3 7)) := ⟨ok_iload_n dd_127_6, mn_ild _ _⟩
theorem vh_127 (E : ac_E) : ∀ x i j, ac_HDf 127 7 x = some (some (i, j)) → ac_okh E (ac_MDf 127) 7 x i j
  | 0, _, _, h => by
    cases h
    exact ok_catch rfl [] (0, 12, 15, 13) [(0, 12, 19, 15), (0, 12, 23, 69), (0, 12, 27, 28), (0, 12, 31, 56)] rfl (fun _ h => nomatch h) (by decide) (by decide +kernel) (by decide) wm_222 wm_234 (Or.inr ⟨rfl, dd_127_15⟩)
  | 1, _, _, h => by
    cases h
    exact ok_catch rfl [(0, 12, 15, 13)] (0, 12, 19, 15) [(0, 12, 23, 69), (0, 12, 27, 28), (0, 12, 31, 56)] rfl (List.forall_mem_cons.mpr ⟨⟨by decide, 0, by decide, by decide, wm_222⟩, fun _ h => nomatch h⟩) (by decide) (by decide +kernel) (by decide) wm_223 wm_310 (Or.inr ⟨rfl, dd_127_19⟩)
  | 2, _, _, h => by
    cases h
    exact ok_catch rfl [(0, 12, 15, 13), (0, 12, 19, 15), (0, 12, 23, 69)] (0, 12, 27, 28) [(0, 12, 31, 56)] rfl (List.forall_mem_cons.mpr ⟨⟨by decide, 0, by decide, by decide, wm_222⟩, List.forall_mem_cons.mpr ⟨⟨by decide, 1, by decide, by decide, wm_223⟩, List.forall_mem_cons.mpr ⟨⟨by decide, 4, by decide, by decide, wm_593⟩, fun _ h => nomatch h⟩⟩⟩) (by decide) (by decide +kernel) (by decide) wm_357 wm_368 (Or.inr ⟨rfl, dd_127_27⟩)
  | 3, _, _, h => by
    cases h
    exact ok_catch rfl [(0, 12, 15, 13), (0, 12, 19, 15), (0, 12, 23, 69), (0, 12, 27, 28)] (0, 12, 31, 56) [] rfl (List.forall_mem_cons.mpr ⟨⟨by decide, 0, by decide, by decide, wm_222⟩, List.forall_mem_cons.mpr ⟨⟨by decide, 1, by decide, by decide, wm_223⟩, List.forall_mem_cons.mpr ⟨⟨by decide, 4, by decide, by decide, wm_593⟩, List.forall_mem_cons.mpr ⟨⟨by decide, 2, by decide, by decide, wm_357⟩, fun _ h => nomatch h⟩⟩⟩⟩) (by decide) (by decide +kernel) (by decide) wm_545 wm_556 (Or.inr ⟨rfl, dd_127_31⟩)
  | 4, _, _, h => by
    cases h
    exact ok_catch rfl [(0, 12, 15, 13), (0, 12, 19, 15)] (0, 12, 23, 69) [(0, 12, 27, 28), (0, 12, 31, 56)] rfl (List.forall_mem_cons.mpr ⟨⟨by decide, 0, by decide, by decide, wm_222⟩, List.forall_mem_cons.mpr ⟨⟨by decide, 1, by decide, by decide, wm_223⟩, fun _ h => nomatch h⟩⟩) (by decide) (by decide +kernel) (by decide) wm_593 wm_600 (Or.inr ⟨rfl, dd_127_23⟩)
  | x + 5, _, _, h => by cases h
theorem vn_127 : ∀ x, ac_HDf 127 7 x ≠ some none
  | 0, h => by cases h
  | 1, h => by cases h
  | 2, h => by cases h
  | 3, h => by cases h
  | 4, h => by cases h
  | x + 5, h => by cases h
theorem vd_127_7 (E : ac_E) : ac_V E ac_MDf ac_HDf 127 7 (.inr (.inl (40,4,10,6))) := ac_Vcc (ok_callV (T := TX4) (N := 12) rfl rfl (by decide) (by decide +kernel) wm_597 wm_50 wm_594 wm_595 wm_596 dd_127_7) vn_127 (vh_127 E)
theorem vd_127_10 (E : ac_E) : ac_V E ac_MDf ac_HDf 127 10 (.inl (o_i2l 11)) := ⟨ok_i2l dd_127_10, mn_i2l _⟩
theorem vd_127_11 (E : ac_E) : ac_V E ac_MDf ac_HDf 127 11 (.inl (o_ls 12)) := ⟨ok_lastore dd_127_11, mn_ls _⟩
theorem vd_127_12 (E : ac_E) : ac_V E ac_MDf ac_HDf 127 12 (.inl (o_go 35)) := ⟨ok_goto dd_127_12 (by decide), mn_go _⟩
theorem vd_127_17 (E : ac_E) : ac_V E ac_MDf ac_HDf 127 17 (.inl (o_con (.int 1) 18)) := ⟨ok_iconst dd_127_17 (by decide), mn_con _ _⟩
theorem vd_127_18 (E : ac_E) : ac_V E ac_MDf ac_HDf 127 18 (.inr (.inr (.inl 1))) := ⟨fun q => nomatch q, fun _ => ⟨dd_127_18, rfl⟩, fun q => nomatch q⟩
theorem vd_127_21 (E : ac_E) : ac_V E ac_MDf ac_HDf 127 21 (.inl (o_con (.int 2) 22)) := ⟨ok_iconst dd_127_21 (by decide), mn_con _ _⟩
theorem vd_127_22 (E : ac_E) : ac_V E ac_MDf ac_HDf 127 22 (.inr (.inr (.inl 1))) := ⟨fun q => nomatch q, fun _ => ⟨dd_127_22, rfl⟩, fun q => nomatch q⟩
theorem vd_127_25 (E : ac_E) : ac_V E ac_MDf ac_HDf 127 25 (.inl (o_con (.int 3) 26)) := ⟨ok_iconst dd_127_25 (by decide), mn_con _ _⟩
theorem vd_127_26 (E : ac_E) : ac_V E ac_MDf ac_HDf 127 26 (.inr (.inr (.inl 1))) := ⟨fun q => nomatch q, fun _ => ⟨dd_127_26, rfl⟩, fun q => nomatch q⟩
theorem vd_127_29 (E : ac_E) : ac_V E ac_MDf ac_HDf 127 29 (.inl (o_con (.int 4) 30)) := ⟨ok_iconst dd_127_29 (by decide), mn_con _ _⟩
theorem vd_127_30 (E : ac_E) : ac_V E ac_MDf ac_HDf 127 30 (.inr (.inr (.inl 1))) := ⟨fun q => nomatch q, fun _ => ⟨dd_127_30, rfl⟩, fun q => nomatch q⟩
theorem vd_127_33 (E : ac_E) : ac_V E ac_MDf ac_HDf 127 33 (.inl (o_con (.int 5) 34)) := ⟨ok_iconst dd_127_33 (by decide), mn_con _ _⟩
theorem vd_127_34 (E : ac_E) : ac_V E ac_MDf ac_HDf 127 34 (.inr (.inr (.inl 1))) := ⟨fun q => nomatch q, fun _ => ⟨dd_127_34, rfl⟩, fun q => nomatch q⟩
theorem vd_127_35 (E : ac_E) : ac_V E ac_MDf ac_HDf 127 35 (.inl (o_con (.int 0) 36)) := ⟨ok_iconst dd_127_35 (by decide), mn_con _ _⟩
theorem vd_127_36 (E : ac_E) : ac_V E ac_MDf ac_HDf 127 36 (.inr (.inr (.inl 1))) := ⟨fun q => nomatch q, fun _ => ⟨dd_127_36, rfl⟩, fun q => nomatch q⟩
theorem va_127 (E : ac_E) (pc : Nat) : ac_V E ac_MDf ac_HDf 127 pc (tb_127 (ac_len E) (ac_xs E) pc) := (ac_node (ac_node (ac_node (ac_node (ac_leaf 0 (vd_127_0 E)) (ac_leaf 2 (vd_127_2 E))) (ac_node (ac_leaf 3 (vd_127_3 E)) (ac_node (ac_leaf 4 (vd_127_4 E)) (ac_leaf 5 (vd_127_5 E))))) (ac_node (ac_node (ac_leaf 6 (vd_127_6 E)) (ac_node (ac_leaf 7 (vd_127_7 E)) (ac_leaf 10 (vd_127_10 E)))) (ac_node (ac_leaf 11 (vd_127_11 E)) (ac_node (ac_leaf 12 (vd_127_12 E)) (ac_leaf 17 (vd_127_17 E)))))) (ac_node (ac_node (ac_node (ac_leaf 18 (vd_127_18 E)) (ac_leaf 21 (vd_127_21 E))) (ac_node (ac_leaf 22 (vd_127_22 E)) (ac_node (ac_leaf 25 (vd_127_25 E)) (ac_leaf 26 (vd_127_26 E))))) (ac_node (ac_node (ac_leaf 29 (vd_127_29 E)) (ac_node (ac_leaf 30 (vd_127_30 E)) (ac_leaf 33 (vd_127_33 E)))) (ac_node (ac_leaf 34 (vd_127_34 E)) (ac_node (ac_leaf 35 (vd_127_35 E)) (ac_leaf 36 (vd_127_36 E)))))))
theorem vd_128_0 (E : ac_E) : ac_V E ac_MDf ac_HDf 128 0 (.inl (o_ald 2 1)) := ⟨ok_aload_n dd_128_0, mn_ald _ _⟩
theorem vd_128_1 (E : ac_E) : ac_V E ac_MDf ac_HDf 128 1 (.inl (o_con (.int 0) 2)) := ⟨ok_iconst dd_128_1 (by decide), mn_con _ _⟩
theorem vd_128_2 (E : ac_E) : ac_V E ac_MDf ac_HDf 128 2 (.inl (o_ald 0 3)) := ⟨ok_aload_n dd_128_2, mn_ald _ _⟩
theorem vd_128_3 (E : ac_E) : ac_V E ac_MDf ac_HDf 128 3 (.inl (o_ild 1 4)) := ⟨ok_iload_n dd_128_3, mn_ild _ _⟩
theorem vh_128 (E : ac_E) : ∀ x i j, ac_HDf 128 4 x = some (some (i, j)) → ac_okh E (ac_MDf 128) 4 x i j
  | 0, _, _, h => by
    cases h
    exact ok_catch rfl [] (0, 9, 12, 13) [] rfl (fun _ h => nomatch h) (by decide) (by decide +kernel) (by decide) wm_222 wm_234 (Or.inl ⟨3, rfl, rfl, dd_128_12⟩)
  | x + 1, _, _, h => by cases h
theorem vn_128 : ∀ x, ac_HDf 128 4 x ≠ some none
  | 0, h => by cases h
  | x + 1, h => by cases h
theorem vd_128_4 (E : ac_E) : ac_V E ac_MDf ac_HDf 128 4 (.inr (.inl (41,2,7,6))) := ac_Vcc (ok_callV (T := TX4) (N := 12) rfl rfl (by decide) (by decide +kernel) wm_630 wm_50 wm_627 wm_628 wm_629 dd_128_4) vn_128 (vh_128 E)
theorem vd_128_7 (E : ac_E) : ac_V E ac_MDf ac_HDf 128 7 (.inl (o_i2l 8)) := ⟨ok_i2l dd_128_7, mn_i2l _⟩
theorem vd_128_8 (E : ac_E) : ac_V E ac_MDf ac_HDf 128 8 (.inl (o_ls 9)) := ⟨ok_lastore dd_128_8, mn_ls _⟩
theorem vd_128_9 (E : ac_E) : ac_V E ac_MDf ac_HDf 128 9 (.inl (o_go 15)) := ⟨ok_goto dd_128_9 (by decide), mn_go _⟩
theorem vd_128_13 (E : ac_E) : ac_V E ac_MDf ac_HDf 128 13 (.inl (o_con (.int 1) 14)) := ⟨ok_iconst dd_128_13 (by decide), mn_con _ _⟩
theorem vd_128_14 (E : ac_E) : ac_V E ac_MDf ac_HDf 128 14 (.inr (.inr (.inl 1))) := ⟨fun q => nomatch q, fun _ => ⟨dd_128_14, rfl⟩, fun q => nomatch q⟩
theorem vd_128_15 (E : ac_E) : ac_V E ac_MDf ac_HDf 128 15 (.inl (o_con (.int 0) 16)) := ⟨ok_iconst dd_128_15 (by decide), mn_con _ _⟩
theorem vd_128_16 (E : ac_E) : ac_V E ac_MDf ac_HDf 128 16 (.inr (.inr (.inl 1))) := ⟨fun q => nomatch q, fun _ => ⟨dd_128_16, rfl⟩, fun q => nomatch q⟩
theorem va_128 (E : ac_E) (pc : Nat) : ac_V E ac_MDf ac_HDf 128 pc (tb_128 (ac_len E) (ac_xs E) pc) := (ac_node (ac_node (ac_node (ac_leaf 0 (vd_128_0 E)) (ac_node (ac_leaf 1 (vd_128_1 E)) (ac_leaf 2 (vd_128_2 E)))) (ac_node (ac_leaf 3 (vd_128_3 E)) (ac_node (ac_leaf 4 (vd_128_4 E)) (ac_leaf 7 (vd_128_7 E))))) (ac_node (ac_node (ac_leaf 8 (vd_128_8 E)) (ac_node (ac_leaf 9 (vd_128_9 E)) (ac_leaf 13 (vd_128_13 E)))) (ac_node (ac_leaf 14 (vd_128_14 E)) (ac_node (ac_leaf 15 (vd_128_15 E)) (ac_leaf 16 (vd_128_16 E))))))
theorem vd_129_0 (E : ac_E) : ac_V E ac_MDf ac_HDf 129 0 (.inl (o_new 4 [.null, .null, .null, .null, .null, .null, .null, .null, .null, .null, .int 0, .int 0] 3)) := ⟨ok_new (C := RX4) (T := TX4) (N := 12) rfl win_4 tyX4 tyX4_ok (nfs_4 E) rfl wm_67 wm_68 wm_50 dd_129_0, mn_new _ _ _⟩
theorem vd_129_3 (E : ac_E) : ac_V E ac_MDf ac_HDf 129 3 (.inl (o_dup 4)) := ⟨ok_dup dd_129_3, mn_dup _⟩
theorem vd_129_4 (E : ac_E) : ac_V E ac_MDf ac_HDf 129 4 (.inl (o_ald 0 5)) := ⟨ok_aload_n dd_129_4, mn_ald _ _⟩
theorem vd_129_5 (E : ac_E) : ac_V E ac_MDf ac_HDf 129 5 (.inl (o_con (.int 0) 6)) := ⟨ok_iconst dd_129_5 (by decide), mn_con _ _⟩
theorem vd_129_6 (E : ac_E) : ac_V E ac_MDf ac_HDf 129 6 (.inr (.inl (112,2,9,0))) := ac_Vc0 ((ok_callS rfl (by decide) (by decide +kernel) wm_218 wm_49 wm_216 wm_217 dd_129_6).1) (fun _ => rfl)
theorem vd_129_9 (E : ac_E) : ac_V E ac_MDf ac_HDf 129 9 (.inl (o_ald 0 10)) := ⟨ok_aload_n dd_129_9, mn_ald _ _⟩
theorem vd_129_10 (E : ac_E) : ac_V E ac_MDf ac_HDf 129 10 (.inl (o_con (.int 1) 11)) := ⟨ok_iconst dd_129_10 (by decide), mn_con _ _⟩
theorem vd_129_11 (E : ac_E) : ac_V E ac_MDf ac_HDf 129 11 (.inr (.inl (112,2,14,0))) := ac_Vc0 ((ok_callS rfl (by decide) (by decide +kernel) wm_218 wm_49 wm_216 wm_217 dd_129_11).1) (fun _ => rfl)
theorem vd_129_14 (E : ac_E) : ac_V E ac_MDf ac_HDf 129 14 (.inr (.inl (23,3,17,1))) := ac_Vc0 (ok_callI rfl rfl rfl (by decide) (by decide +kernel) wm_71 wm_50 wm_69 wm_70 dd_129_14) (fun _ => rfl)
theorem vd_129_17 (E : ac_E) : ac_V E ac_MDf ac_HDf 129 17 (.inl (o_ast 1 18)) := ⟨ok_astore_n dd_129_17, mn_ast _ _⟩
theorem vd_129_18 (E : ac_E) : ac_V E ac_MDf ac_HDf 129 18 (.inl (o_new 5 [.int 0, .int 0, .int 0, .int 0, .int 0, .null, .null, .null, .null, .null, .null, .int 0, .null, .int 0, .int 0, .null, .null] 21)) := ⟨ok_new (C := RX5) (T := TX5) (N := 17) rfl win_5 tyX5 tyX5_ok (nfs_5 E) rfl wm_632 wm_633 wm_56 dd_129_18, mn_new _ _ _⟩
theorem vd_129_21 (E : ac_E) : ac_V E ac_MDf ac_HDf 129 21 (.inl (o_dup 22)) := ⟨ok_dup dd_129_21, mn_dup _⟩
theorem vd_129_22 (E : ac_E) : ac_V E ac_MDf ac_HDf 129 22 (.inl (o_ald 0 23)) := ⟨ok_aload_n dd_129_22, mn_ald _ _⟩
theorem vd_129_23 (E : ac_E) : ac_V E ac_MDf ac_HDf 129 23 (.inl (o_con (.int 0) 24)) := ⟨ok_iconst dd_129_23 (by decide), mn_con _ _⟩
theorem vd_129_24 (E : ac_E) : ac_V E ac_MDf ac_HDf 129 24 (.inr (.inl (112,2,27,0))) := ac_Vc0 ((ok_callS rfl (by decide) (by decide +kernel) wm_218 wm_49 wm_216 wm_217 dd_129_24).1) (fun _ => rfl)
theorem vd_129_27 (E : ac_E) : ac_V E ac_MDf ac_HDf 129 27 (.inl (o_ald 0 28)) := ⟨ok_aload_n dd_129_27, mn_ald _ _⟩
theorem vd_129_28 (E : ac_E) : ac_V E ac_MDf ac_HDf 129 28 (.inl (o_con (.int 1) 29)) := ⟨ok_iconst dd_129_28 (by decide), mn_con _ _⟩
theorem vd_129_29 (E : ac_E) : ac_V E ac_MDf ac_HDf 129 29 (.inr (.inl (112,2,32,0))) := ac_Vc0 ((ok_callS rfl (by decide) (by decide +kernel) wm_218 wm_49 wm_216 wm_217 dd_129_29).1) (fun _ => rfl)
theorem vd_129_32 (E : ac_E) : ac_V E ac_MDf ac_HDf 129 32 (.inr (.inl (66,3,35,1))) := ac_Vc0 (ok_callI rfl rfl rfl (by decide) (by decide +kernel) wm_636 wm_56 wm_634 wm_635 dd_129_32) (fun _ => rfl)
theorem vd_129_35 (E : ac_E) : ac_V E ac_MDf ac_HDf 129 35 (.inl (o_ast 2 36)) := ⟨ok_astore_n dd_129_35, mn_ast _ _⟩
theorem vd_129_36 (E : ac_E) : ac_V E ac_MDf ac_HDf 129 36 (.inl (o_con (.int 1) 37)) := ⟨ok_iconst dd_129_36 (by decide), mn_con _ _⟩
theorem vd_129_37 (E : ac_E) : ac_V E ac_MDf ac_HDf 129 37 (.inl (o_nl 39)) := ⟨ok_nl dd_129_37 wm_864, mn_nl _⟩
theorem vd_129_39 (E : ac_E) : ac_V E ac_MDf ac_HDf 129 39 (.inl (o_ast 3 40)) := ⟨ok_astore_n dd_129_39, mn_ast _ _⟩
theorem vd_129_40 (E : ac_E) : ac_V E ac_MDf ac_HDf 129 40 (.inl (o_con (.int 2) 41)) := ⟨ok_iconst dd_129_40 (by decide), mn_con _ _⟩
theorem vd_129_41 (E : ac_E) : ac_V E ac_MDf ac_HDf 129 41 (.inl (o_ist 4 43)) := ⟨ok_istore dd_129_41, mn_ist _ _⟩
theorem vd_129_43 (E : ac_E) : ac_V E ac_MDf ac_HDf 129 43 (.inl (o_ild 4 45)) := ⟨ok_iload dd_129_43, mn_ild _ _⟩
theorem vd_129_45 (E : ac_E) : ac_V E ac_MDf ac_HDf 129 45 (.inl (o_ald 0 46)) := ⟨ok_aload_n dd_129_45, mn_ald _ _⟩
theorem vd_129_46 (E : ac_E) : ac_V E ac_MDf ac_HDf 129 46 (.inl (o_xl (ac_len E) 47)) := ⟨ok_xl dd_129_46, mn_xl _ _⟩
theorem vd_129_47 (E : ac_E) : ac_V E ac_MDf ac_HDf 129 47 (.inl (o_con (.int 6) 49)) := ⟨ok_bipush dd_129_47 (by decide), mn_con _ _⟩
theorem vd_129_49 (E : ac_E) : ac_V E ac_MDf ac_HDf 129 49 (.inl (o_sub 50)) := ⟨ok_isub dd_129_49, mn_sub _⟩
theorem vd_129_50 (E : ac_E) : ac_V E ac_MDf ac_HDf 129 50 (.inl (o_gt 1335 53)) := ⟨ok_icmpgt dd_129_50 (by decide), mn_gt _ _⟩
theorem vd_129_53 (E : ac_E) : ac_V E ac_MDf ac_HDf 129 53 (.inl (o_ald 0 54)) := ⟨ok_aload_n dd_129_53, mn_ald _ _⟩
theorem vd_129_54 (E : ac_E) : ac_V E ac_MDf ac_HDf 129 54 (.inl (o_ild 4 56)) := ⟨ok_iload dd_129_54, mn_ild _ _⟩
theorem vd_129_56 (E : ac_E) : ac_V E ac_MDf ac_HDf 129 56 (.inl (o_xa (ac_len E) (ac_xs E) 57)) := ⟨ok_xa dd_129_56, mn_xa _ _ _⟩
theorem vd_129_57 (E : ac_E) : ac_V E ac_MDf ac_HDf 129 57 (.inl (o_con (.int 31) 59)) := ⟨ok_bipush dd_129_57 (by decide), mn_con _ _⟩
theorem vd_129_59 (E : ac_E) : ac_V E ac_MDf ac_HDf 129 59 (.inl (o_and 60)) := ⟨ok_iand dd_129_59, mn_and _⟩
theorem vd_129_60 (E : ac_E) : ac_V E ac_MDf ac_HDf 129 60 (.inl (o_sw [148, 208, 276, 344, 447, 507, 610, 713, 781, 817, 873, 896, 952, 1008, 1112, 1180, 1193, 1273] 1329)) := ⟨ok_sw dd_129_60 rfl (by decide) (by decide) (by decide +kernel), mn_sw _ _⟩
theorem vd_129_148 (E : ac_E) : ac_V E ac_MDf ac_HDf 129 148 (.inl (o_ald 1 149)) := ⟨ok_aload_n dd_129_148, mn_ald _ _⟩
theorem vd_129_149 (E : ac_E) : ac_V E ac_MDf ac_HDf 129 149 (.inl (o_ald 0 150)) := ⟨ok_aload_n dd_129_149, mn_ald _ _⟩
theorem vd_129_150 (E : ac_E) : ac_V E ac_MDf ac_HDf 129 150 (.inl (o_ild 4 152)) := ⟨ok_iload dd_129_150, mn_ild _ _⟩
theorem vd_129_152 (E : ac_E) : ac_V E ac_MDf ac_HDf 129 152 (.inl (o_con (.int 1) 153)) := ⟨ok_iconst dd_129_152 (by decide), mn_con _ _⟩
theorem vd_129_153 (E : ac_E) : ac_V E ac_MDf ac_HDf 129 153 (.inl (o_add 154)) := ⟨ok_iadd dd_129_153, mn_add _⟩
theorem vd_129_154 (E : ac_E) : ac_V E ac_MDf ac_HDf 129 154 (.inl (o_xa (ac_len E) (ac_xs E) 155)) := ⟨ok_xa dd_129_154, mn_xa _ _ _⟩
theorem vd_129_155 (E : ac_E) : ac_V E ac_MDf ac_HDf 129 155 (.inl (o_ald 0 156)) := ⟨ok_aload_n dd_129_155, mn_ald _ _⟩
theorem vd_129_156 (E : ac_E) : ac_V E ac_MDf ac_HDf 129 156 (.inl (o_ild 4 158)) := ⟨ok_iload dd_129_156, mn_ild _ _⟩
theorem vd_129_158 (E : ac_E) : ac_V E ac_MDf ac_HDf 129 158 (.inl (o_con (.int 2) 159)) := ⟨ok_iconst dd_129_158 (by decide), mn_con _ _⟩
theorem vd_129_159 (E : ac_E) : ac_V E ac_MDf ac_HDf 129 159 (.inl (o_add 160)) := ⟨ok_iadd dd_129_159, mn_add _⟩
theorem vd_129_160 (E : ac_E) : ac_V E ac_MDf ac_HDf 129 160 (.inl (o_xa (ac_len E) (ac_xs E) 161)) := ⟨ok_xa dd_129_160, mn_xa _ _ _⟩
theorem vd_129_161 (E : ac_E) : ac_V E ac_MDf ac_HDf 129 161 (.inl (o_ald 0 162)) := ⟨ok_aload_n dd_129_161, mn_ald _ _⟩
theorem vd_129_162 (E : ac_E) : ac_V E ac_MDf ac_HDf 129 162 (.inl (o_ild 4 164)) := ⟨ok_iload dd_129_162, mn_ild _ _⟩
theorem vd_129_164 (E : ac_E) : ac_V E ac_MDf ac_HDf 129 164 (.inl (o_con (.int 3) 165)) := ⟨ok_iconst dd_129_164 (by decide), mn_con _ _⟩
theorem vd_129_165 (E : ac_E) : ac_V E ac_MDf ac_HDf 129 165 (.inl (o_add 166)) := ⟨ok_iadd dd_129_165, mn_add _⟩
theorem vd_129_166 (E : ac_E) : ac_V E ac_MDf ac_HDf 129 166 (.inl (o_xa (ac_len E) (ac_xs E) 167)) := ⟨ok_xa dd_129_166, mn_xa _ _ _⟩
theorem vd_129_167 (E : ac_E) : ac_V E ac_MDf ac_HDf 129 167 (.inr (.inl (113,4,170,0))) := ac_Vc0 (ok_callSX rfl (by decide) (by decide +kernel) wm_221 wm_49 wm_219 wm_220 dd_129_167) (fun _ => rfl)
theorem vd_129_170 (E : ac_E) : ac_V E ac_MDf ac_HDf 129 170 (.inl (o_ist 5 172)) := ⟨ok_istore dd_129_170, mn_ist _ _⟩
theorem vd_129_172 (E : ac_E) : ac_V E ac_MDf ac_HDf 129 172 (.inl (o_ald 2 173)) := ⟨ok_aload_n dd_129_172, mn_ald _ _⟩
theorem vd_129_173 (E : ac_E) : ac_V E ac_MDf ac_HDf 129 173 (.inl (o_ald 0 174)) := ⟨ok_aload_n dd_129_173, mn_ald _ _⟩
theorem vd_129_174 (E : ac_E) : ac_V E ac_MDf ac_HDf 129 174 (.inl (o_ild 4 176)) := ⟨ok_iload dd_129_174, mn_ild _ _⟩
theorem vd_129_176 (E : ac_E) : ac_V E ac_MDf ac_HDf 129 176 (.inl (o_con (.int 1) 177)) := ⟨ok_iconst dd_129_176 (by decide), mn_con _ _⟩
theorem vd_129_177 (E : ac_E) : ac_V E ac_MDf ac_HDf 129 177 (.inl (o_add 178)) := ⟨ok_iadd dd_129_177, mn_add _⟩
theorem vd_129_178 (E : ac_E) : ac_V E ac_MDf ac_HDf 129 178 (.inl (o_xa (ac_len E) (ac_xs E) 179)) := ⟨ok_xa dd_129_178, mn_xa _ _ _⟩
theorem vd_129_179 (E : ac_E) : ac_V E ac_MDf ac_HDf 129 179 (.inl (o_ald 0 180)) := ⟨ok_aload_n dd_129_179, mn_ald _ _⟩
theorem vd_129_180 (E : ac_E) : ac_V E ac_MDf ac_HDf 129 180 (.inl (o_ild 4 182)) := ⟨ok_iload dd_129_180, mn_ild _ _⟩
theorem vd_129_182 (E : ac_E) : ac_V E ac_MDf ac_HDf 129 182 (.inl (o_con (.int 2) 183)) := ⟨ok_iconst dd_129_182 (by decide), mn_con _ _⟩
theorem vd_129_183 (E : ac_E) : ac_V E ac_MDf ac_HDf 129 183 (.inl (o_add 184)) := ⟨ok_iadd dd_129_183, mn_add _⟩
theorem vd_129_184 (E : ac_E) : ac_V E ac_MDf ac_HDf 129 184 (.inl (o_xa (ac_len E) (ac_xs E) 185)) := ⟨ok_xa dd_129_184, mn_xa _ _ _⟩
theorem vd_129_185 (E : ac_E) : ac_V E ac_MDf ac_HDf 129 185 (.inl (o_ald 0 186)) := ⟨ok_aload_n dd_129_185, mn_ald _ _⟩
theorem vd_129_186 (E : ac_E) : ac_V E ac_MDf ac_HDf 129 186 (.inl (o_ild 4 188)) := ⟨ok_iload dd_129_186, mn_ild _ _⟩
theorem vd_129_188 (E : ac_E) : ac_V E ac_MDf ac_HDf 129 188 (.inl (o_con (.int 3) 189)) := ⟨ok_iconst dd_129_188 (by decide), mn_con _ _⟩
theorem vd_129_189 (E : ac_E) : ac_V E ac_MDf ac_HDf 129 189 (.inl (o_add 190)) := ⟨ok_iadd dd_129_189, mn_add _⟩
theorem vd_129_190 (E : ac_E) : ac_V E ac_MDf ac_HDf 129 190 (.inl (o_xa (ac_len E) (ac_xs E) 191)) := ⟨ok_xa dd_129_190, mn_xa _ _ _⟩
theorem vd_129_191 (E : ac_E) : ac_V E ac_MDf ac_HDf 129 191 (.inr (.inl (76,4,194,7))) := ac_Vc0 ((ok_callV (T := TX5) (N := 17) rfl rfl (by decide) (by decide +kernel) wm_711 wm_56 wm_708 wm_709 wm_710 dd_129_191).1) (fun _ => rfl)
theorem vd_129_194 (E : ac_E) : ac_V E ac_MDf ac_HDf 129 194 (.inl (o_ald 2 195)) := ⟨ok_aload_n dd_129_194, mn_ald _ _⟩
theorem vd_129_195 (E : ac_E) : ac_V E ac_MDf ac_HDf 129 195 (.inr (.inl (67,1,198,7))) := ac_Vc0 ((ok_callV (T := TX5) (N := 17) rfl rfl (by decide) (by decide +kernel) wm_694 wm_56 wm_691 wm_692 wm_693 dd_129_195).1) (fun _ => rfl)
theorem vd_129_198 (E : ac_E) : ac_V E ac_MDf ac_HDf 129 198 (.inl (o_ild 5 200)) := ⟨ok_iload dd_129_198, mn_ild _ _⟩
theorem vd_129_200 (E : ac_E) : ac_V E ac_MDf ac_HDf 129 200 (.inl (o_eq 205 203)) := ⟨ok_icmpeq dd_129_200 (by decide), mn_eq _ _⟩
theorem vd_129_203 (E : ac_E) : ac_V E ac_MDf ac_HDf 129 203 (.inl (o_con (.int 0) 204)) := ⟨ok_iconst dd_129_203 (by decide), mn_con _ _⟩
theorem vd_129_204 (E : ac_E) : ac_V E ac_MDf ac_HDf 129 204 (.inr (.inr (.inl 2))) := ⟨fun q => nomatch q, fun q => nomatch q, fun _ => ⟨dd_129_204, rfl⟩⟩
theorem vd_129_205 (E : ac_E) : ac_V E ac_MDf ac_HDf 129 205 (.inl (o_go 1329)) := ⟨ok_goto dd_129_205 (by decide), mn_go _⟩
theorem vd_129_208 (E : ac_E) : ac_V E ac_MDf ac_HDf 129 208 (.inl (o_ald 1 209)) := ⟨ok_aload_n dd_129_208, mn_ald _ _⟩
theorem vd_129_209 (E : ac_E) : ac_V E ac_MDf ac_HDf 129 209 (.inl (o_ald 0 210)) := ⟨ok_aload_n dd_129_209, mn_ald _ _⟩
theorem vd_129_210 (E : ac_E) : ac_V E ac_MDf ac_HDf 129 210 (.inl (o_ild 4 212)) := ⟨ok_iload dd_129_210, mn_ild _ _⟩
theorem vd_129_212 (E : ac_E) : ac_V E ac_MDf ac_HDf 129 212 (.inl (o_con (.int 1) 213)) := ⟨ok_iconst dd_129_212 (by decide), mn_con _ _⟩
theorem vd_129_213 (E : ac_E) : ac_V E ac_MDf ac_HDf 129 213 (.inl (o_add 214)) := ⟨ok_iadd dd_129_213, mn_add _⟩
theorem vd_129_214 (E : ac_E) : ac_V E ac_MDf ac_HDf 129 214 (.inl (o_xa (ac_len E) (ac_xs E) 215)) := ⟨ok_xa dd_129_214, mn_xa _ _ _⟩
theorem vd_129_215 (E : ac_E) : ac_V E ac_MDf ac_HDf 129 215 (.inl (o_ald 0 216)) := ⟨ok_aload_n dd_129_215, mn_ald _ _⟩
theorem vd_129_216 (E : ac_E) : ac_V E ac_MDf ac_HDf 129 216 (.inl (o_ild 4 218)) := ⟨ok_iload dd_129_216, mn_ild _ _⟩
theorem vd_129_218 (E : ac_E) : ac_V E ac_MDf ac_HDf 129 218 (.inl (o_con (.int 2) 219)) := ⟨ok_iconst dd_129_218 (by decide), mn_con _ _⟩
theorem vd_129_219 (E : ac_E) : ac_V E ac_MDf ac_HDf 129 219 (.inl (o_add 220)) := ⟨ok_iadd dd_129_219, mn_add _⟩
theorem vd_129_220 (E : ac_E) : ac_V E ac_MDf ac_HDf 129 220 (.inl (o_xa (ac_len E) (ac_xs E) 221)) := ⟨ok_xa dd_129_220, mn_xa _ _ _⟩
theorem vd_129_221 (E : ac_E) : ac_V E ac_MDf ac_HDf 129 221 (.inl (o_ald 3 222)) := ⟨ok_aload_n dd_129_221, mn_ald _ _⟩
theorem vd_129_222 (E : ac_E) : ac_V E ac_MDf ac_HDf 129 222 (.inr (.inl (114,4,225,0))) := ac_Vc0 (ok_callSX rfl (by decide) (by decide +kernel) wm_330 wm_49 wm_328 wm_329 dd_129_222) (fun _ => rfl)
theorem vd_129_225 (E : ac_E) : ac_V E ac_MDf ac_HDf 129 225 (.inl (o_ist 5 227)) := ⟨ok_istore dd_129_225, mn_ist _ _⟩
theorem vd_129_227 (E : ac_E) : ac_V E ac_MDf ac_HDf 129 227 (.inl (o_ald 2 228)) := ⟨ok_aload_n dd_129_227, mn_ald _ _⟩
theorem vd_129_228 (E : ac_E) : ac_V E ac_MDf ac_HDf 129 228 (.inl (o_ald 0 229)) := ⟨ok_aload_n dd_129_228, mn_ald _ _⟩
theorem vd_129_229 (E : ac_E) : ac_V E ac_MDf ac_HDf 129 229 (.inl (o_ild 4 231)) := ⟨ok_iload dd_129_229, mn_ild _ _⟩
theorem vd_129_231 (E : ac_E) : ac_V E ac_MDf ac_HDf 129 231 (.inl (o_con (.int 1) 232)) := ⟨ok_iconst dd_129_231 (by decide), mn_con _ _⟩
theorem vd_129_232 (E : ac_E) : ac_V E ac_MDf ac_HDf 129 232 (.inl (o_add 233)) := ⟨ok_iadd dd_129_232, mn_add _⟩
theorem vd_129_233 (E : ac_E) : ac_V E ac_MDf ac_HDf 129 233 (.inl (o_xa (ac_len E) (ac_xs E) 234)) := ⟨ok_xa dd_129_233, mn_xa _ _ _⟩
theorem vd_129_234 (E : ac_E) : ac_V E ac_MDf ac_HDf 129 234 (.inl (o_ald 0 235)) := ⟨ok_aload_n dd_129_234, mn_ald _ _⟩
theorem vd_129_235 (E : ac_E) : ac_V E ac_MDf ac_HDf 129 235 (.inl (o_ild 4 237)) := ⟨ok_iload dd_129_235, mn_ild _ _⟩
theorem vd_129_237 (E : ac_E) : ac_V E ac_MDf ac_HDf 129 237 (.inl (o_con (.int 2) 238)) := ⟨ok_iconst dd_129_237 (by decide), mn_con _ _⟩
theorem vd_129_238 (E : ac_E) : ac_V E ac_MDf ac_HDf 129 238 (.inl (o_add 239)) := ⟨ok_iadd dd_129_238, mn_add _⟩
theorem vd_129_239 (E : ac_E) : ac_V E ac_MDf ac_HDf 129 239 (.inl (o_xa (ac_len E) (ac_xs E) 240)) := ⟨ok_xa dd_129_239, mn_xa _ _ _⟩
theorem vd_129_240 (E : ac_E) : ac_V E ac_MDf ac_HDf 129 240 (.inr (.inl (77,3,243,7))) := ac_Vc0 ((ok_callV (T := TX5) (N := 17) rfl rfl (by decide) (by decide +kernel) wm_719 wm_56 wm_716 wm_717 wm_718 dd_129_240).1) (fun _ => rfl)
theorem vd_129_243 (E : ac_E) : ac_V E ac_MDf ac_HDf 129 243 (.inl (o_ist 6 245)) := ⟨ok_istore dd_129_243, mn_ist _ _⟩
theorem vd_129_245 (E : ac_E) : ac_V E ac_MDf ac_HDf 129 245 (.inl (o_ald 2 246)) := ⟨ok_aload_n dd_129_245, mn_ald _ _⟩
theorem vd_129_246 (E : ac_E) : ac_V E ac_MDf ac_HDf 129 246 (.inr (.inl (67,1,249,7))) := ac_Vc0 ((ok_callV (T := TX5) (N := 17) rfl rfl (by decide) (by decide +kernel) wm_694 wm_56 wm_691 wm_692 wm_693 dd_129_246).1) (fun _ => rfl)
theorem vd_129_249 (E : ac_E) : ac_V E ac_MDf ac_HDf 129 249 (.inl (o_ild 5 251)) := ⟨ok_iload dd_129_249, mn_ild _ _⟩
theorem vd_129_251 (E : ac_E) : ac_V E ac_MDf ac_HDf 129 251 (.inl (o_eq 256 254)) := ⟨ok_icmpeq dd_129_251 (by decide), mn_eq _ _⟩
theorem vd_129_254 (E : ac_E) : ac_V E ac_MDf ac_HDf 129 254 (.inl (o_con (.int 0) 255)) := ⟨ok_iconst dd_129_254 (by decide), mn_con _ _⟩
theorem vd_129_255 (E : ac_E) : ac_V E ac_MDf ac_HDf 129 255 (.inr (.inr (.inl 2))) := ⟨fun q => nomatch q, fun q => nomatch q, fun _ => ⟨dd_129_255, rfl⟩⟩
theorem vd_129_256 (E : ac_E) : ac_V E ac_MDf ac_HDf 129 256 (.inl (o_ild 5 258)) := ⟨ok_iload dd_129_256, mn_ild _ _⟩
theorem vd_129_258 (E : ac_E) : ac_V E ac_MDf ac_HDf 129 258 (.inl (o_ne0 273 261)) := ⟨ok_ifne dd_129_258 (by decide), mn_ne0 _ _⟩
theorem vd_129_261 (E : ac_E) : ac_V E ac_MDf ac_HDf 129 261 (.inl (o_ald 3 262)) := ⟨ok_aload_n dd_129_261, mn_ald _ _⟩
theorem vd_129_262 (E : ac_E) : ac_V E ac_MDf ac_HDf 129 262 (.inl (o_con (.int 0) 263)) := ⟨ok_iconst dd_129_262 (by decide), mn_con _ _⟩
theorem vd_129_263 (E : ac_E) : ac_V E ac_MDf ac_HDf 129 263 (.inl (o_la 264)) := ⟨ok_laload dd_129_263, mn_la _⟩
theorem vd_129_264 (E : ac_E) : ac_V E ac_MDf ac_HDf 129 264 (.inl (o_ild 6 266)) := ⟨ok_iload dd_129_264, mn_ild _ _⟩
theorem vd_129_266 (E : ac_E) : ac_V E ac_MDf ac_HDf 129 266 (.inl (o_i2l 267)) := ⟨ok_i2l dd_129_266, mn_i2l _⟩
theorem vd_129_267 (E : ac_E) : ac_V E ac_MDf ac_HDf 129 267 (.inl (o_lcm 268)) := ⟨ok_lcmp dd_129_267, mn_lcm _⟩
theorem vd_129_268 (E : ac_E) : ac_V E ac_MDf ac_HDf 129 268 (.inl (o_eq0 273 271)) := ⟨ok_ifeq dd_129_268 (by decide), mn_eq0 _ _⟩
theorem vd_129_271 (E : ac_E) : ac_V E ac_MDf ac_HDf 129 271 (.inl (o_con (.int 0) 272)) := ⟨ok_iconst dd_129_271 (by decide), mn_con _ _⟩
theorem vd_129_272 (E : ac_E) : ac_V E ac_MDf ac_HDf 129 272 (.inr (.inr (.inl 2))) := ⟨fun q => nomatch q, fun q => nomatch q, fun _ => ⟨dd_129_272, rfl⟩⟩
theorem vd_129_273 (E : ac_E) : ac_V E ac_MDf ac_HDf 129 273 (.inl (o_go 1329)) := ⟨ok_goto dd_129_273 (by decide), mn_go _⟩
theorem vd_129_276 (E : ac_E) : ac_V E ac_MDf ac_HDf 129 276 (.inl (o_ald 1 277)) := ⟨ok_aload_n dd_129_276, mn_ald _ _⟩
theorem vd_129_277 (E : ac_E) : ac_V E ac_MDf ac_HDf 129 277 (.inl (o_ald 0 278)) := ⟨ok_aload_n dd_129_277, mn_ald _ _⟩
theorem vd_129_278 (E : ac_E) : ac_V E ac_MDf ac_HDf 129 278 (.inl (o_ild 4 280)) := ⟨ok_iload dd_129_278, mn_ild _ _⟩
theorem vd_129_280 (E : ac_E) : ac_V E ac_MDf ac_HDf 129 280 (.inl (o_con (.int 1) 281)) := ⟨ok_iconst dd_129_280 (by decide), mn_con _ _⟩
theorem vd_129_281 (E : ac_E) : ac_V E ac_MDf ac_HDf 129 281 (.inl (o_add 282)) := ⟨ok_iadd dd_129_281, mn_add _⟩
theorem vd_129_282 (E : ac_E) : ac_V E ac_MDf ac_HDf 129 282 (.inl (o_xa (ac_len E) (ac_xs E) 283)) := ⟨ok_xa dd_129_282, mn_xa _ _ _⟩
theorem vd_129_283 (E : ac_E) : ac_V E ac_MDf ac_HDf 129 283 (.inl (o_ald 0 284)) := ⟨ok_aload_n dd_129_283, mn_ald _ _⟩
theorem vd_129_284 (E : ac_E) : ac_V E ac_MDf ac_HDf 129 284 (.inl (o_ild 4 286)) := ⟨ok_iload dd_129_284, mn_ild _ _⟩
theorem vd_129_286 (E : ac_E) : ac_V E ac_MDf ac_HDf 129 286 (.inl (o_con (.int 2) 287)) := ⟨ok_iconst dd_129_286 (by decide), mn_con _ _⟩
theorem vd_129_287 (E : ac_E) : ac_V E ac_MDf ac_HDf 129 287 (.inl (o_add 288)) := ⟨ok_iadd dd_129_287, mn_add _⟩
theorem vd_129_288 (E : ac_E) : ac_V E ac_MDf ac_HDf 129 288 (.inl (o_xa (ac_len E) (ac_xs E) 289)) := ⟨ok_xa dd_129_288, mn_xa _ _ _⟩
theorem vd_129_289 (E : ac_E) : ac_V E ac_MDf ac_HDf 129 289 (.inl (o_ald 3 290)) := ⟨ok_aload_n dd_129_289, mn_ald _ _⟩
theorem vd_129_290 (E : ac_E) : ac_V E ac_MDf ac_HDf 129 290 (.inr (.inl (115,4,293,0))) := ac_Vc0 (ok_callSX rfl (by decide) (by decide +kernel) wm_337 wm_49 wm_335 wm_336 dd_129_290) (fun _ => rfl)
theorem vd_129_293 (E : ac_E) : ac_V E ac_MDf ac_HDf 129 293 (.inl (o_ist 5 295)) := ⟨ok_istore dd_129_293, mn_ist _ _⟩
theorem vd_129_295 (E : ac_E) : ac_V E ac_MDf ac_HDf 129 295 (.inl (o_ald 2 296)) := ⟨ok_aload_n dd_129_295, mn_ald _ _⟩
theorem vd_129_296 (E : ac_E) : ac_V E ac_MDf ac_HDf 129 296 (.inl (o_ald 0 297)) := ⟨ok_aload_n dd_129_296, mn_ald _ _⟩
theorem vd_129_297 (E : ac_E) : ac_V E ac_MDf ac_HDf 129 297 (.inl (o_ild 4 299)) := ⟨ok_iload dd_129_297, mn_ild _ _⟩
theorem vd_129_299 (E : ac_E) : ac_V E ac_MDf ac_HDf 129 299 (.inl (o_con (.int 1) 300)) := ⟨ok_iconst dd_129_299 (by decide), mn_con _ _⟩
theorem vd_129_300 (E : ac_E) : ac_V E ac_MDf ac_HDf 129 300 (.inl (o_add 301)) := ⟨ok_iadd dd_129_300, mn_add _⟩
theorem vd_129_301 (E : ac_E) : ac_V E ac_MDf ac_HDf 129 301 (.inl (o_xa (ac_len E) (ac_xs E) 302)) := ⟨ok_xa dd_129_301, mn_xa _ _ _⟩
theorem vd_129_302 (E : ac_E) : ac_V E ac_MDf ac_HDf 129 302 (.inl (o_ald 0 303)) := ⟨ok_aload_n dd_129_302, mn_ald _ _⟩
theorem vd_129_303 (E : ac_E) : ac_V E ac_MDf ac_HDf 129 303 (.inl (o_ild 4 305)) := ⟨ok_iload dd_129_303, mn_ild _ _⟩
theorem vd_129_305 (E : ac_E) : ac_V E ac_MDf ac_HDf 129 305 (.inl (o_con (.int 2) 306)) := ⟨ok_iconst dd_129_305 (by decide), mn_con _ _⟩
theorem vd_129_306 (E : ac_E) : ac_V E ac_MDf ac_HDf 129 306 (.inl (o_add 307)) := ⟨ok_iadd dd_129_306, mn_add _⟩
theorem vd_129_307 (E : ac_E) : ac_V E ac_MDf ac_HDf 129 307 (.inl (o_xa (ac_len E) (ac_xs E) 308)) := ⟨ok_xa dd_129_307, mn_xa _ _ _⟩
theorem vd_129_308 (E : ac_E) : ac_V E ac_MDf ac_HDf 129 308 (.inr (.inl (75,3,311,7))) := ac_Vc0 ((ok_callV (T := TX5) (N := 17) rfl rfl (by decide) (by decide +kernel) wm_698 wm_56 wm_695 wm_696 wm_697 dd_129_308).1) (fun _ => rfl)
theorem vd_129_311 (E : ac_E) : ac_V E ac_MDf ac_HDf 129 311 (.inl (o_ist 6 313)) := ⟨ok_istore dd_129_311, mn_ist _ _⟩
theorem vd_129_313 (E : ac_E) : ac_V E ac_MDf ac_HDf 129 313 (.inl (o_ald 2 314)) := ⟨ok_aload_n dd_129_313, mn_ald _ _⟩
theorem vd_129_314 (E : ac_E) : ac_V E ac_MDf ac_HDf 129 314 (.inr (.inl (67,1,317,7))) := ac_Vc0 ((ok_callV (T := TX5) (N := 17) rfl rfl (by decide) (by decide +kernel) wm_694 wm_56 wm_691 wm_692 wm_693 dd_129_314).1) (fun _ => rfl)
theorem vd_129_317 (E : ac_E) : ac_V E ac_MDf ac_HDf 129 317 (.inl (o_ild 5 319)) := ⟨ok_iload dd_129_317, mn_ild _ _⟩
theorem vd_129_319 (E : ac_E) : ac_V E ac_MDf ac_HDf 129 319 (.inl (o_eq 324 322)) := ⟨ok_icmpeq dd_129_319 (by decide), mn_eq _ _⟩
theorem vd_129_322 (E : ac_E) : ac_V E ac_MDf ac_HDf 129 322 (.inl (o_con (.int 0) 323)) := ⟨ok_iconst dd_129_322 (by decide), mn_con _ _⟩
theorem vd_129_323 (E : ac_E) : ac_V E ac_MDf ac_HDf 129 323 (.inr (.inr (.inl 2))) := ⟨fun q => nomatch q, fun q => nomatch q, fun _ => ⟨dd_129_323, rfl⟩⟩
theorem vd_129_324 (E : ac_E) : ac_V E ac_MDf ac_HDf 129 324 (.inl (o_ild 5 326)) := ⟨ok_iload dd_129_324, mn_ild _ _⟩
theorem vd_129_326 (E : ac_E) : ac_V E ac_MDf ac_HDf 129 326 (.inl (o_ne0 341 329)) := ⟨ok_ifne dd_129_326 (by decide), mn_ne0 _ _⟩
theorem vd_129_329 (E : ac_E) : ac_V E ac_MDf ac_HDf 129 329 (.inl (o_ald 3 330)) := ⟨ok_aload_n dd_129_329, mn_ald _ _⟩
theorem vd_129_330 (E : ac_E) : ac_V E ac_MDf ac_HDf 129 330 (.inl (o_con (.int 0) 331)) := ⟨ok_iconst dd_129_330 (by decide), mn_con _ _⟩
theorem vd_129_331 (E : ac_E) : ac_V E ac_MDf ac_HDf 129 331 (.inl (o_la 332)) := ⟨ok_laload dd_129_331, mn_la _⟩
theorem vd_129_332 (E : ac_E) : ac_V E ac_MDf ac_HDf 129 332 (.inl (o_ild 6 334)) := ⟨ok_iload dd_129_332, mn_ild _ _⟩
theorem vd_129_334 (E : ac_E) : ac_V E ac_MDf ac_HDf 129 334 (.inl (o_i2l 335)) := ⟨ok_i2l dd_129_334, mn_i2l _⟩
theorem vd_129_335 (E : ac_E) : ac_V E ac_MDf ac_HDf 129 335 (.inl (o_lcm 336)) := ⟨ok_lcmp dd_129_335, mn_lcm _⟩
theorem vd_129_336 (E : ac_E) : ac_V E ac_MDf ac_HDf 129 336 (.inl (o_eq0 341 339)) := ⟨ok_ifeq dd_129_336 (by decide), mn_eq0 _ _⟩
theorem vd_129_339 (E : ac_E) : ac_V E ac_MDf ac_HDf 129 339 (.inl (o_con (.int 0) 340)) := ⟨ok_iconst dd_129_339 (by decide), mn_con _ _⟩
theorem vd_129_340 (E : ac_E) : ac_V E ac_MDf ac_HDf 129 340 (.inr (.inr (.inl 2))) := ⟨fun q => nomatch q, fun q => nomatch q, fun _ => ⟨dd_129_340, rfl⟩⟩
theorem vd_129_341 (E : ac_E) : ac_V E ac_MDf ac_HDf 129 341 (.inl (o_go 1329)) := ⟨ok_goto dd_129_341 (by decide), mn_go _⟩
theorem vd_129_344 (E : ac_E) : ac_V E ac_MDf ac_HDf 129 344 (.inl (o_ald 1 345)) := ⟨ok_aload_n dd_129_344, mn_ald _ _⟩
theorem vd_129_345 (E : ac_E) : ac_V E ac_MDf ac_HDf 129 345 (.inl (o_ald 0 346)) := ⟨ok_aload_n dd_129_345, mn_ald _ _⟩
theorem vd_129_346 (E : ac_E) : ac_V E ac_MDf ac_HDf 129 346 (.inl (o_ild 4 348)) := ⟨ok_iload dd_129_346, mn_ild _ _⟩
theorem vd_129_348 (E : ac_E) : ac_V E ac_MDf ac_HDf 129 348 (.inl (o_con (.int 1) 349)) := ⟨ok_iconst dd_129_348 (by decide), mn_con _ _⟩
theorem vd_129_349 (E : ac_E) : ac_V E ac_MDf ac_HDf 129 349 (.inl (o_add 350)) := ⟨ok_iadd dd_129_349, mn_add _⟩
theorem vd_129_350 (E : ac_E) : ac_V E ac_MDf ac_HDf 129 350 (.inl (o_xa (ac_len E) (ac_xs E) 351)) := ⟨ok_xa dd_129_350, mn_xa _ _ _⟩
theorem vd_129_351 (E : ac_E) : ac_V E ac_MDf ac_HDf 129 351 (.inl (o_ald 0 352)) := ⟨ok_aload_n dd_129_351, mn_ald _ _⟩
theorem vd_129_352 (E : ac_E) : ac_V E ac_MDf ac_HDf 129 352 (.inl (o_ild 4 354)) := ⟨ok_iload dd_129_352, mn_ild _ _⟩
theorem vd_129_354 (E : ac_E) : ac_V E ac_MDf ac_HDf 129 354 (.inl (o_con (.int 2) 355)) := ⟨ok_iconst dd_129_354 (by decide), mn_con _ _⟩
theorem vd_129_355 (E : ac_E) : ac_V E ac_MDf ac_HDf 129 355 (.inl (o_add 356)) := ⟨ok_iadd dd_129_355, mn_add _⟩
theorem vd_129_356 (E : ac_E) : ac_V E ac_MDf ac_HDf 129 356 (.inl (o_xa (ac_len E) (ac_xs E) 357)) := ⟨ok_xa dd_129_356, mn_xa _ _ _⟩
theorem vd_129_357 (E : ac_E) : ac_V E ac_MDf ac_HDf 129 357 (.inl (o_ald 0 358)) := ⟨ok_aload_n dd_129_357, mn_ald _ _⟩
theorem vd_129_358 (E : ac_E) : ac_V E ac_MDf ac_HDf 129 358 (.inl (o_ild 4 360)) := ⟨ok_iload dd_129_358, mn_ild _ _⟩
theorem vd_129_360 (E : ac_E) : ac_V E ac_MDf ac_HDf 129 360 (.inl (o_con (.int 3) 361)) := ⟨ok_iconst dd_129_360 (by decide), mn_con _ _⟩
theorem vd_129_361 (E : ac_E) : ac_V E ac_MDf ac_HDf 129 361 (.inl (o_add 362)) := ⟨ok_iadd dd_129_361, mn_add _⟩
theorem vd_129_362 (E : ac_E) : ac_V E ac_MDf ac_HDf 129 362 (.inl (o_xa (ac_len E) (ac_xs E) 363)) := ⟨ok_xa dd_129_362, mn_xa _ _ _⟩
theorem vd_129_363 (E : ac_E) : ac_V E ac_MDf ac_HDf 129 363 (.inl (o_eq0 370 366)) := ⟨ok_ifeq dd_129_363 (by decide), mn_eq0 _ _⟩
theorem vd_129_366 (E : ac_E) : ac_V E ac_MDf ac_HDf 129 366 (.inl (o_con (.int 1) 367)) := ⟨ok_iconst dd_129_366 (by decide), mn_con _ _⟩
theorem vd_129_367 (E : ac_E) : ac_V E ac_MDf ac_HDf 129 367 (.inl (o_go 371)) := ⟨ok_goto dd_129_367 (by decide), mn_go _⟩
theorem vd_129_370 (E : ac_E) : ac_V E ac_MDf ac_HDf 129 370 (.inl (o_con (.int 0) 371)) := ⟨ok_iconst dd_129_370 (by decide), mn_con _ _⟩
theorem vd_129_371 (E : ac_E) : ac_V E ac_MDf ac_HDf 129 371 (.inl (o_ald 3 372)) := ⟨ok_aload_n dd_129_371, mn_ald _ _⟩
theorem vd_129_372 (E : ac_E) : ac_V E ac_MDf ac_HDf 129 372 (.inr (.inl (116,5,375,0))) := ac_Vc0 (ok_callSX rfl (by decide) (by decide +kernel) wm_356 wm_49 wm_354 wm_355 dd_129_372) (fun _ => rfl)
theorem vd_129_375 (E : ac_E) : ac_V E ac_MDf ac_HDf 129 375 (.inl (o_ist 5 377)) := ⟨ok_istore dd_129_375, mn_ist _ _⟩
theorem vd_129_377 (E : ac_E) : ac_V E ac_MDf ac_HDf 129 377 (.inl (o_ald 2 378)) := ⟨ok_aload_n dd_129_377, mn_ald _ _⟩
theorem vd_129_378 (E : ac_E) : ac_V E ac_MDf ac_HDf 129 378 (.inl (o_ald 0 379)) := ⟨ok_aload_n dd_129_378, mn_ald _ _⟩
theorem vd_129_379 (E : ac_E) : ac_V E ac_MDf ac_HDf 129 379 (.inl (o_ild 4 381)) := ⟨ok_iload dd_129_379, mn_ild _ _⟩
theorem vd_129_381 (E : ac_E) : ac_V E ac_MDf ac_HDf 129 381 (.inl (o_con (.int 1) 382)) := ⟨ok_iconst dd_129_381 (by decide), mn_con _ _⟩
theorem vd_129_382 (E : ac_E) : ac_V E ac_MDf ac_HDf 129 382 (.inl (o_add 383)) := ⟨ok_iadd dd_129_382, mn_add _⟩
theorem vd_129_383 (E : ac_E) : ac_V E ac_MDf ac_HDf 129 383 (.inl (o_xa (ac_len E) (ac_xs E) 384)) := ⟨ok_xa dd_129_383, mn_xa _ _ _⟩
theorem vd_129_384 (E : ac_E) : ac_V E ac_MDf ac_HDf 129 384 (.inl (o_ald 0 385)) := ⟨ok_aload_n dd_129_384, mn_ald _ _⟩
theorem vd_129_385 (E : ac_E) : ac_V E ac_MDf ac_HDf 129 385 (.inl (o_ild 4 387)) := ⟨ok_iload dd_129_385, mn_ild _ _⟩
theorem vd_129_387 (E : ac_E) : ac_V E ac_MDf ac_HDf 129 387 (.inl (o_con (.int 2) 388)) := ⟨ok_iconst dd_129_387 (by decide), mn_con _ _⟩
theorem vd_129_388 (E : ac_E) : ac_V E ac_MDf ac_HDf 129 388 (.inl (o_add 389)) := ⟨ok_iadd dd_129_388, mn_add _⟩
theorem vd_129_389 (E : ac_E) : ac_V E ac_MDf ac_HDf 129 389 (.inl (o_xa (ac_len E) (ac_xs E) 390)) := ⟨ok_xa dd_129_389, mn_xa _ _ _⟩
theorem vd_129_390 (E : ac_E) : ac_V E ac_MDf ac_HDf 129 390 (.inl (o_ald 0 391)) := ⟨ok_aload_n dd_129_390, mn_ald _ _⟩
theorem vd_129_391 (E : ac_E) : ac_V E ac_MDf ac_HDf 129 391 (.inl (o_ild 4 393)) := ⟨ok_iload dd_129_391, mn_ild _ _⟩
theorem vd_129_393 (E : ac_E) : ac_V E ac_MDf ac_HDf 129 393 (.inl (o_con (.int 3) 394)) := ⟨ok_iconst dd_129_393 (by decide), mn_con _ _⟩
theorem vd_129_394 (E : ac_E) : ac_V E ac_MDf ac_HDf 129 394 (.inl (o_add 395)) := ⟨ok_iadd dd_129_394, mn_add _⟩
theorem vd_129_395 (E : ac_E) : ac_V E ac_MDf ac_HDf 129 395 (.inl (o_xa (ac_len E) (ac_xs E) 396)) := ⟨ok_xa dd_129_395, mn_xa _ _ _⟩
theorem vd_129_396 (E : ac_E) : ac_V E ac_MDf ac_HDf 129 396 (.inl (o_eq0 403 399)) := ⟨ok_ifeq dd_129_396 (by decide), mn_eq0 _ _⟩
theorem vd_129_399 (E : ac_E) : ac_V E ac_MDf ac_HDf 129 399 (.inl (o_con (.int 1) 400)) := ⟨ok_iconst dd_129_399 (by decide), mn_con _ _⟩
theorem vd_129_400 (E : ac_E) : ac_V E ac_MDf ac_HDf 129 400 (.inl (o_go 404)) := ⟨ok_goto dd_129_400 (by decide), mn_go _⟩
theorem vd_129_403 (E : ac_E) : ac_V E ac_MDf ac_HDf 129 403 (.inl (o_con (.int 0) 404)) := ⟨ok_iconst dd_129_403 (by decide), mn_con _ _⟩
theorem vd_129_404 (E : ac_E) : ac_V E ac_MDf ac_HDf 129 404 (.inr (.inl (81,4,407,7))) := ac_Vc0 ((ok_callV (T := TX5) (N := 17) rfl rfl (by decide) (by decide +kernel) wm_723 wm_56 wm_720 wm_721 wm_722 dd_129_404).1) (fun _ => rfl)
theorem vd_129_407 (E : ac_E) : ac_V E ac_MDf ac_HDf 129 407 (.inl (o_ist 6 409)) := ⟨ok_istore dd_129_407, mn_ist _ _⟩
theorem vd_129_409 (E : ac_E) : ac_V E ac_MDf ac_HDf 129 409 (.inl (o_ald 2 410)) := ⟨ok_aload_n dd_129_409, mn_ald _ _⟩
theorem vd_129_410 (E : ac_E) : ac_V E ac_MDf ac_HDf 129 410 (.inr (.inl (67,1,413,7))) := ac_Vc0 ((ok_callV (T := TX5) (N := 17) rfl rfl (by decide) (by decide +kernel) wm_694 wm_56 wm_691 wm_692 wm_693 dd_129_410).1) (fun _ => rfl)
theorem vd_129_413 (E : ac_E) : ac_V E ac_MDf ac_HDf 129 413 (.inl (o_ild 5 415)) := ⟨ok_iload dd_129_413, mn_ild _ _⟩
theorem vd_129_415 (E : ac_E) : ac_V E ac_MDf ac_HDf 129 415 (.inl (o_eq 420 418)) := ⟨ok_icmpeq dd_129_415 (by decide), mn_eq _ _⟩
theorem vd_129_418 (E : ac_E) : ac_V E ac_MDf ac_HDf 129 418 (.inl (o_con (.int 0) 419)) := ⟨ok_iconst dd_129_418 (by decide), mn_con _ _⟩
theorem vd_129_419 (E : ac_E) : ac_V E ac_MDf ac_HDf 129 419 (.inr (.inr (.inl 2))) := ⟨fun q => nomatch q, fun q => nomatch q, fun _ => ⟨dd_129_419, rfl⟩⟩
theorem vd_129_420 (E : ac_E) : ac_V E ac_MDf ac_HDf 129 420 (.inl (o_ild 5 422)) := ⟨ok_iload dd_129_420, mn_ild _ _⟩
theorem vd_129_422 (E : ac_E) : ac_V E ac_MDf ac_HDf 129 422 (.inl (o_ne0 444 425)) := ⟨ok_ifne dd_129_422 (by decide), mn_ne0 _ _⟩
theorem vd_129_425 (E : ac_E) : ac_V E ac_MDf ac_HDf 129 425 (.inl (o_ald 3 426)) := ⟨ok_aload_n dd_129_425, mn_ald _ _⟩
theorem vd_129_426 (E : ac_E) : ac_V E ac_MDf ac_HDf 129 426 (.inl (o_con (.int 0) 427)) := ⟨ok_iconst dd_129_426 (by decide), mn_con _ _⟩
theorem vd_129_427 (E : ac_E) : ac_V E ac_MDf ac_HDf 129 427 (.inl (o_la 428)) := ⟨ok_laload dd_129_427, mn_la _⟩
theorem vd_129_428 (E : ac_E) : ac_V E ac_MDf ac_HDf 129 428 (.inl (o_ild 6 430)) := ⟨ok_iload dd_129_428, mn_ild _ _⟩
theorem vd_129_430 (E : ac_E) : ac_V E ac_MDf ac_HDf 129 430 (.inl (o_eq0 437 433)) := ⟨ok_ifeq dd_129_430 (by decide), mn_eq0 _ _⟩
theorem vd_129_433 (E : ac_E) : ac_V E ac_MDf ac_HDf 129 433 (.inl (o_con (.long 1) 434)) := ⟨ok_lconst dd_129_433 (by decide), mn_con _ _⟩
theorem vd_129_434 (E : ac_E) : ac_V E ac_MDf ac_HDf 129 434 (.inl (o_go 438)) := ⟨ok_goto dd_129_434 (by decide), mn_go _⟩
theorem vd_129_437 (E : ac_E) : ac_V E ac_MDf ac_HDf 129 437 (.inl (o_con (.long 0) 438)) := ⟨ok_lconst dd_129_437 (by decide), mn_con _ _⟩
theorem vd_129_438 (E : ac_E) : ac_V E ac_MDf ac_HDf 129 438 (.inl (o_lcm 439)) := ⟨ok_lcmp dd_129_438, mn_lcm _⟩
theorem vd_129_439 (E : ac_E) : ac_V E ac_MDf ac_HDf 129 439 (.inl (o_eq0 444 442)) := ⟨ok_ifeq dd_129_439 (by decide), mn_eq0 _ _⟩
theorem vd_129_442 (E : ac_E) : ac_V E ac_MDf ac_HDf 129 442 (.inl (o_con (.int 0) 443)) := ⟨ok_iconst dd_129_442 (by decide), mn_con _ _⟩
theorem vd_129_443 (E : ac_E) : ac_V E ac_MDf ac_HDf 129 443 (.inr (.inr (.inl 2))) := ⟨fun q => nomatch q, fun q => nomatch q, fun _ => ⟨dd_129_443, rfl⟩⟩
theorem vd_129_444 (E : ac_E) : ac_V E ac_MDf ac_HDf 129 444 (.inl (o_go 1329)) := ⟨ok_goto dd_129_444 (by decide), mn_go _⟩
theorem vd_129_447 (E : ac_E) : ac_V E ac_MDf ac_HDf 129 447 (.inl (o_ald 1 448)) := ⟨ok_aload_n dd_129_447, mn_ald _ _⟩
theorem vd_129_448 (E : ac_E) : ac_V E ac_MDf ac_HDf 129 448 (.inl (o_ald 0 449)) := ⟨ok_aload_n dd_129_448, mn_ald _ _⟩
theorem vd_129_449 (E : ac_E) : ac_V E ac_MDf ac_HDf 129 449 (.inl (o_ild 4 451)) := ⟨ok_iload dd_129_449, mn_ild _ _⟩
theorem vd_129_451 (E : ac_E) : ac_V E ac_MDf ac_HDf 129 451 (.inl (o_con (.int 1) 452)) := ⟨ok_iconst dd_129_451 (by decide), mn_con _ _⟩
theorem vd_129_452 (E : ac_E) : ac_V E ac_MDf ac_HDf 129 452 (.inl (o_add 453)) := ⟨ok_iadd dd_129_452, mn_add _⟩
theorem vd_129_453 (E : ac_E) : ac_V E ac_MDf ac_HDf 129 453 (.inl (o_xa (ac_len E) (ac_xs E) 454)) := ⟨ok_xa dd_129_453, mn_xa _ _ _⟩
theorem vd_129_454 (E : ac_E) : ac_V E ac_MDf ac_HDf 129 454 (.inl (o_ald 0 455)) := ⟨ok_aload_n dd_129_454, mn_ald _ _⟩
theorem vd_129_455 (E : ac_E) : ac_V E ac_MDf ac_HDf 129 455 (.inl (o_ild 4 457)) := ⟨ok_iload dd_129_455, mn_ild _ _⟩
theorem vd_129_457 (E : ac_E) : ac_V E ac_MDf ac_HDf 129 457 (.inl (o_con (.int 2) 458)) := ⟨ok_iconst dd_129_457 (by decide), mn_con _ _⟩
theorem vd_129_458 (E : ac_E) : ac_V E ac_MDf ac_HDf 129 458 (.inl (o_add 459)) := ⟨ok_iadd dd_129_458, mn_add _⟩
theorem vd_129_459 (E : ac_E) : ac_V E ac_MDf ac_HDf 129 459 (.inl (o_xa (ac_len E) (ac_xs E) 460)) := ⟨ok_xa dd_129_459, mn_xa _ _ _⟩
theorem vd_129_460 (E : ac_E) : ac_V E ac_MDf ac_HDf 129 460 (.inl (o_ald 0 461)) := ⟨ok_aload_n dd_129_460, mn_ald _ _⟩
theorem vd_129_461 (E : ac_E) : ac_V E ac_MDf ac_HDf 129 461 (.inl (o_ild 4 463)) := ⟨ok_iload dd_129_461, mn_ild _ _⟩
theorem vd_129_463 (E : ac_E) : ac_V E ac_MDf ac_HDf 129 463 (.inl (o_con (.int 3) 464)) := ⟨ok_iconst dd_129_463 (by decide), mn_con _ _⟩
theorem vd_129_464 (E : ac_E) : ac_V E ac_MDf ac_HDf 129 464 (.inl (o_add 465)) := ⟨ok_iadd dd_129_464, mn_add _⟩
theorem vd_129_465 (E : ac_E) : ac_V E ac_MDf ac_HDf 129 465 (.inl (o_xa (ac_len E) (ac_xs E) 466)) := ⟨ok_xa dd_129_465, mn_xa _ _ _⟩
theorem vd_129_466 (E : ac_E) : ac_V E ac_MDf ac_HDf 129 466 (.inr (.inl (117,4,469,0))) := ac_Vc0 (ok_callSX rfl (by decide) (by decide +kernel) wm_384 wm_49 wm_382 wm_383 dd_129_466) (fun _ => rfl)
theorem vd_129_469 (E : ac_E) : ac_V E ac_MDf ac_HDf 129 469 (.inl (o_ist 5 471)) := ⟨ok_istore dd_129_469, mn_ist _ _⟩
theorem vd_129_471 (E : ac_E) : ac_V E ac_MDf ac_HDf 129 471 (.inl (o_ald 2 472)) := ⟨ok_aload_n dd_129_471, mn_ald _ _⟩
theorem vd_129_472 (E : ac_E) : ac_V E ac_MDf ac_HDf 129 472 (.inl (o_ald 0 473)) := ⟨ok_aload_n dd_129_472, mn_ald _ _⟩
theorem vd_129_473 (E : ac_E) : ac_V E ac_MDf ac_HDf 129 473 (.inl (o_ild 4 475)) := ⟨ok_iload dd_129_473, mn_ild _ _⟩
theorem vd_129_475 (E : ac_E) : ac_V E ac_MDf ac_HDf 129 475 (.inl (o_con (.int 1) 476)) := ⟨ok_iconst dd_129_475 (by decide), mn_con _ _⟩
theorem vd_129_476 (E : ac_E) : ac_V E ac_MDf ac_HDf 129 476 (.inl (o_add 477)) := ⟨ok_iadd dd_129_476, mn_add _⟩
theorem vd_129_477 (E : ac_E) : ac_V E ac_MDf ac_HDf 129 477 (.inl (o_xa (ac_len E) (ac_xs E) 478)) := ⟨ok_xa dd_129_477, mn_xa _ _ _⟩
theorem vd_129_478 (E : ac_E) : ac_V E ac_MDf ac_HDf 129 478 (.inl (o_ald 0 479)) := ⟨ok_aload_n dd_129_478, mn_ald _ _⟩
theorem vd_129_479 (E : ac_E) : ac_V E ac_MDf ac_HDf 129 479 (.inl (o_ild 4 481)) := ⟨ok_iload dd_129_479, mn_ild _ _⟩
theorem vd_129_481 (E : ac_E) : ac_V E ac_MDf ac_HDf 129 481 (.inl (o_con (.int 2) 482)) := ⟨ok_iconst dd_129_481 (by decide), mn_con _ _⟩
theorem vd_129_482 (E : ac_E) : ac_V E ac_MDf ac_HDf 129 482 (.inl (o_add 483)) := ⟨ok_iadd dd_129_482, mn_add _⟩
theorem vd_129_483 (E : ac_E) : ac_V E ac_MDf ac_HDf 129 483 (.inl (o_xa (ac_len E) (ac_xs E) 484)) := ⟨ok_xa dd_129_483, mn_xa _ _ _⟩
theorem vd_129_484 (E : ac_E) : ac_V E ac_MDf ac_HDf 129 484 (.inl (o_ald 0 485)) := ⟨ok_aload_n dd_129_484, mn_ald _ _⟩
theorem vd_129_485 (E : ac_E) : ac_V E ac_MDf ac_HDf 129 485 (.inl (o_ild 4 487)) := ⟨ok_iload dd_129_485, mn_ild _ _⟩
theorem vd_129_487 (E : ac_E) : ac_V E ac_MDf ac_HDf 129 487 (.inl (o_con (.int 3) 488)) := ⟨ok_iconst dd_129_487 (by decide), mn_con _ _⟩
theorem vd_129_488 (E : ac_E) : ac_V E ac_MDf ac_HDf 129 488 (.inl (o_add 489)) := ⟨ok_iadd dd_129_488, mn_add _⟩
theorem vd_129_489 (E : ac_E) : ac_V E ac_MDf ac_HDf 129 489 (.inl (o_xa (ac_len E) (ac_xs E) 490)) := ⟨ok_xa dd_129_489, mn_xa _ _ _⟩
theorem vd_129_490 (E : ac_E) : ac_V E ac_MDf ac_HDf 129 490 (.inr (.inl (82,4,493,7))) := ac_Vc0 ((ok_callV (T := TX5) (N := 17) rfl rfl (by decide) (by decide +kernel) wm_739 wm_56 wm_736 wm_737 wm_738 dd_129_490).1) (fun _ => rfl)
theorem vd_129_493 (E : ac_E) : ac_V E ac_MDf ac_HDf 129 493 (.inl (o_ald 2 494)) := ⟨ok_aload_n dd_129_493, mn_ald _ _⟩
theorem vd_129_494 (E : ac_E) : ac_V E ac_MDf ac_HDf 129 494 (.inr (.inl (67,1,497,7))) := ac_Vc0 ((ok_callV (T := TX5) (N := 17) rfl rfl (by decide) (by decide +kernel) wm_694 wm_56 wm_691 wm_692 wm_693 dd_129_494).1) (fun _ => rfl)
theorem vd_129_497 (E : ac_E) : ac_V E ac_MDf ac_HDf 129 497 (.inl (o_ild 5 499)) := ⟨ok_iload dd_129_497, mn_ild _ _⟩
theorem vd_129_499 (E : ac_E) : ac_V E ac_MDf ac_HDf 129 499 (.inl (o_eq 504 502)) := ⟨ok_icmpeq dd_129_499 (by decide), mn_eq _ _⟩
theorem vd_129_502 (E : ac_E) : ac_V E ac_MDf ac_HDf 129 502 (.inl (o_con (.int 0) 503)) := ⟨ok_iconst dd_129_502 (by decide), mn_con _ _⟩
theorem vd_129_503 (E : ac_E) : ac_V E ac_MDf ac_HDf 129 503 (.inr (.inr (.inl 2))) := ⟨fun q => nomatch q, fun q => nomatch q, fun _ => ⟨dd_129_503, rfl⟩⟩
theorem vd_129_504 (E : ac_E) : ac_V E ac_MDf ac_HDf 129 504 (.inl (o_go 1329)) := ⟨ok_goto dd_129_504 (by decide), mn_go _⟩
theorem vd_129_507 (E : ac_E) : ac_V E ac_MDf ac_HDf 129 507 (.inl (o_ald 1 508)) := ⟨ok_aload_n dd_129_507, mn_ald _ _⟩
theorem vd_129_508 (E : ac_E) : ac_V E ac_MDf ac_HDf 129 508 (.inl (o_ald 0 509)) := ⟨ok_aload_n dd_129_508, mn_ald _ _⟩
theorem vd_129_509 (E : ac_E) : ac_V E ac_MDf ac_HDf 129 509 (.inl (o_ild 4 511)) := ⟨ok_iload dd_129_509, mn_ild _ _⟩
theorem vd_129_511 (E : ac_E) : ac_V E ac_MDf ac_HDf 129 511 (.inl (o_con (.int 1) 512)) := ⟨ok_iconst dd_129_511 (by decide), mn_con _ _⟩
theorem vd_129_512 (E : ac_E) : ac_V E ac_MDf ac_HDf 129 512 (.inl (o_add 513)) := ⟨ok_iadd dd_129_512, mn_add _⟩
theorem vd_129_513 (E : ac_E) : ac_V E ac_MDf ac_HDf 129 513 (.inl (o_xa (ac_len E) (ac_xs E) 514)) := ⟨ok_xa dd_129_513, mn_xa _ _ _⟩
theorem vd_129_514 (E : ac_E) : ac_V E ac_MDf ac_HDf 129 514 (.inl (o_ald 0 515)) := ⟨ok_aload_n dd_129_514, mn_ald _ _⟩
theorem vd_129_515 (E : ac_E) : ac_V E ac_MDf ac_HDf 129 515 (.inl (o_ild 4 517)) := ⟨ok_iload dd_129_515, mn_ild _ _⟩
theorem vd_129_517 (E : ac_E) : ac_V E ac_MDf ac_HDf 129 517 (.inl (o_con (.int 2) 518)) := ⟨ok_iconst dd_129_517 (by decide), mn_con _ _⟩
theorem vd_129_518 (E : ac_E) : ac_V E ac_MDf ac_HDf 129 518 (.inl (o_add 519)) := ⟨ok_iadd dd_129_518, mn_add _⟩
theorem vd_129_519 (E : ac_E) : ac_V E ac_MDf ac_HDf 129 519 (.inl (o_xa (ac_len E) (ac_xs E) 520)) := ⟨ok_xa dd_129_519, mn_xa _ _ _⟩
theorem vd_129_520 (E : ac_E) : ac_V E ac_MDf ac_HDf 129 520 (.inl (o_ald 0 521)) := ⟨ok_aload_n dd_129_520, mn_ald _ _⟩
theorem vd_129_521 (E : ac_E) : ac_V E ac_MDf ac_HDf 129 521 (.inl (o_ild 4 523)) := ⟨ok_iload dd_129_521, mn_ild _ _⟩
theorem vd_129_523 (E : ac_E) : ac_V E ac_MDf ac_HDf 129 523 (.inl (o_con (.int 3) 524)) := ⟨ok_iconst dd_129_523 (by decide), mn_con _ _⟩
theorem vd_129_524 (E : ac_E) : ac_V E ac_MDf ac_HDf 129 524 (.inl (o_add 525)) := ⟨ok_iadd dd_129_524, mn_add _⟩
theorem vd_129_525 (E : ac_E) : ac_V E ac_MDf ac_HDf 129 525 (.inl (o_xa (ac_len E) (ac_xs E) 526)) := ⟨ok_xa dd_129_525, mn_xa _ _ _⟩
theorem vd_129_526 (E : ac_E) : ac_V E ac_MDf ac_HDf 129 526 (.inl (o_eq0 533 529)) := ⟨ok_ifeq dd_129_526 (by decide), mn_eq0 _ _⟩
theorem vd_129_529 (E : ac_E) : ac_V E ac_MDf ac_HDf 129 529 (.inl (o_con (.int 1) 530)) := ⟨ok_iconst dd_129_529 (by decide), mn_con _ _⟩
theorem vd_129_530 (E : ac_E) : ac_V E ac_MDf ac_HDf 129 530 (.inl (o_go 534)) := ⟨ok_goto dd_129_530 (by decide), mn_go _⟩
theorem vd_129_533 (E : ac_E) : ac_V E ac_MDf ac_HDf 129 533 (.inl (o_con (.int 0) 534)) := ⟨ok_iconst dd_129_533 (by decide), mn_con _ _⟩
theorem vd_129_534 (E : ac_E) : ac_V E ac_MDf ac_HDf 129 534 (.inl (o_ald 3 535)) := ⟨ok_aload_n dd_129_534, mn_ald _ _⟩
theorem vd_129_535 (E : ac_E) : ac_V E ac_MDf ac_HDf 129 535 (.inr (.inl (118,5,538,0))) := ac_Vc0 (ok_callSX rfl (by decide) (by decide +kernel) wm_391 wm_49 wm_389 wm_390 dd_129_535) (fun _ => rfl)
theorem vd_129_538 (E : ac_E) : ac_V E ac_MDf ac_HDf 129 538 (.inl (o_ist 5 540)) := ⟨ok_istore dd_129_538, mn_ist _ _⟩
theorem vd_129_540 (E : ac_E) : ac_V E ac_MDf ac_HDf 129 540 (.inl (o_ald 2 541)) := ⟨ok_aload_n dd_129_540, mn_ald _ _⟩
theorem vd_129_541 (E : ac_E) : ac_V E ac_MDf ac_HDf 129 541 (.inl (o_ald 0 542)) := ⟨ok_aload_n dd_129_541, mn_ald _ _⟩
theorem vd_129_542 (E : ac_E) : ac_V E ac_MDf ac_HDf 129 542 (.inl (o_ild 4 544)) := ⟨ok_iload dd_129_542, mn_ild _ _⟩
theorem vd_129_544 (E : ac_E) : ac_V E ac_MDf ac_HDf 129 544 (.inl (o_con (.int 1) 545)) := ⟨ok_iconst dd_129_544 (by decide), mn_con _ _⟩
theorem vd_129_545 (E : ac_E) : ac_V E ac_MDf ac_HDf 129 545 (.inl (o_add 546)) := ⟨ok_iadd dd_129_545, mn_add _⟩
theorem vd_129_546 (E : ac_E) : ac_V E ac_MDf ac_HDf 129 546 (.inl (o_xa (ac_len E) (ac_xs E) 547)) := ⟨ok_xa dd_129_546, mn_xa _ _ _⟩
theorem vd_129_547 (E : ac_E) : ac_V E ac_MDf ac_HDf 129 547 (.inl (o_ald 0 548)) := ⟨ok_aload_n dd_129_547, mn_ald _ _⟩
theorem vd_129_548 (E : ac_E) : ac_V E ac_MDf ac_HDf 129 548 (.inl (o_ild 4 550)) := ⟨ok_iload dd_129_548, mn_ild _ _⟩
theorem vd_129_550 (E : ac_E) : ac_V E ac_MDf ac_HDf 129 550 (.inl (o_con (.int 2) 551)) := ⟨ok_iconst dd_129_550 (by decide), mn_con _ _⟩
theorem vd_129_551 (E : ac_E) : ac_V E ac_MDf ac_HDf 129 551 (.inl (o_add 552)) := ⟨ok_iadd dd_129_551, mn_add _⟩
theorem vd_129_552 (E : ac_E) : ac_V E ac_MDf ac_HDf 129 552 (.inl (o_xa (ac_len E) (ac_xs E) 553)) := ⟨ok_xa dd_129_552, mn_xa _ _ _⟩
theorem vd_129_553 (E : ac_E) : ac_V E ac_MDf ac_HDf 129 553 (.inl (o_ald 0 554)) := ⟨ok_aload_n dd_129_553, mn_ald _ _⟩
theorem vd_129_554 (E : ac_E) : ac_V E ac_MDf ac_HDf 129 554 (.inl (o_ild 4 556)) := ⟨ok_iload dd_129_554, mn_ild _ _⟩
theorem vd_129_556 (E : ac_E) : ac_V E ac_MDf ac_HDf 129 556 (.inl (o_con (.int 3) 557)) := ⟨ok_iconst dd_129_556 (by decide), mn_con _ _⟩
theorem vd_129_557 (E : ac_E) : ac_V E ac_MDf ac_HDf 129 557 (.inl (o_add 558)) := ⟨ok_iadd dd_129_557, mn_add _⟩
theorem vd_129_558 (E : ac_E) : ac_V E ac_MDf ac_HDf 129 558 (.inl (o_xa (ac_len E) (ac_xs E) 559)) := ⟨ok_xa dd_129_558, mn_xa _ _ _⟩
theorem vd_129_559 (E : ac_E) : ac_V E ac_MDf ac_HDf 129 559 (.inl (o_eq0 566 562)) := ⟨ok_ifeq dd_129_559 (by decide), mn_eq0 _ _⟩
theorem vd_129_562 (E : ac_E) : ac_V E ac_MDf ac_HDf 129 562 (.inl (o_con (.int 1) 563)) := ⟨ok_iconst dd_129_562 (by decide), mn_con _ _⟩
theorem vd_129_563 (E : ac_E) : ac_V E ac_MDf ac_HDf 129 563 (.inl (o_go 567)) := ⟨ok_goto dd_129_563 (by decide), mn_go _⟩
theorem vd_129_566 (E : ac_E) : ac_V E ac_MDf ac_HDf 129 566 (.inl (o_con (.int 0) 567)) := ⟨ok_iconst dd_129_566 (by decide), mn_con _ _⟩
theorem vd_129_567 (E : ac_E) : ac_V E ac_MDf ac_HDf 129 567 (.inr (.inl (83,4,570,7))) := ac_Vc0 ((ok_callV (T := TX5) (N := 17) rfl rfl (by decide) (by decide +kernel) wm_743 wm_56 wm_740 wm_741 wm_742 dd_129_567).1) (fun _ => rfl)
theorem vd_129_570 (E : ac_E) : ac_V E ac_MDf ac_HDf 129 570 (.inl (o_ist 6 572)) := ⟨ok_istore dd_129_570, mn_ist _ _⟩
theorem vd_129_572 (E : ac_E) : ac_V E ac_MDf ac_HDf 129 572 (.inl (o_ald 2 573)) := ⟨ok_aload_n dd_129_572, mn_ald _ _⟩
theorem vd_129_573 (E : ac_E) : ac_V E ac_MDf ac_HDf 129 573 (.inr (.inl (67,1,576,7))) := ac_Vc0 ((ok_callV (T := TX5) (N := 17) rfl rfl (by decide) (by decide +kernel) wm_694 wm_56 wm_691 wm_692 wm_693 dd_129_573).1) (fun _ => rfl)
theorem vd_129_576 (E : ac_E) : ac_V E ac_MDf ac_HDf 129 576 (.inl (o_ild 5 578)) := ⟨ok_iload dd_129_576, mn_ild _ _⟩
theorem vd_129_578 (E : ac_E) : ac_V E ac_MDf ac_HDf 129 578 (.inl (o_eq 583 581)) := ⟨ok_icmpeq dd_129_578 (by decide), mn_eq _ _⟩
theorem vd_129_581 (E : ac_E) : ac_V E ac_MDf ac_HDf 129 581 (.inl (o_con (.int 0) 582)) := ⟨ok_iconst dd_129_581 (by decide), mn_con _ _⟩
theorem vd_129_582 (E : ac_E) : ac_V E ac_MDf ac_HDf 129 582 (.inr (.inr (.inl 2))) := ⟨fun q => nomatch q, fun q => nomatch q, fun _ => ⟨dd_129_582, rfl⟩⟩
theorem vd_129_583 (E : ac_E) : ac_V E ac_MDf ac_HDf 129 583 (.inl (o_ild 5 585)) := ⟨ok_iload dd_129_583, mn_ild _ _⟩
theorem vd_129_585 (E : ac_E) : ac_V E ac_MDf ac_HDf 129 585 (.inl (o_ne0 607 588)) := ⟨ok_ifne dd_129_585 (by decide), mn_ne0 _ _⟩
theorem vd_129_588 (E : ac_E) : ac_V E ac_MDf ac_HDf 129 588 (.inl (o_ald 3 589)) := ⟨ok_aload_n dd_129_588, mn_ald _ _⟩
theorem vd_129_589 (E : ac_E) : ac_V E ac_MDf ac_HDf 129 589 (.inl (o_con (.int 0) 590)) := ⟨ok_iconst dd_129_589 (by decide), mn_con _ _⟩
theorem vd_129_590 (E : ac_E) : ac_V E ac_MDf ac_HDf 129 590 (.inl (o_la 591)) := ⟨ok_laload dd_129_590, mn_la _⟩
theorem vd_129_591 (E : ac_E) : ac_V E ac_MDf ac_HDf 129 591 (.inl (o_ild 6 593)) := ⟨ok_iload dd_129_591, mn_ild _ _⟩
theorem vd_129_593 (E : ac_E) : ac_V E ac_MDf ac_HDf 129 593 (.inl (o_eq0 600 596)) := ⟨ok_ifeq dd_129_593 (by decide), mn_eq0 _ _⟩
theorem vd_129_596 (E : ac_E) : ac_V E ac_MDf ac_HDf 129 596 (.inl (o_con (.long 1) 597)) := ⟨ok_lconst dd_129_596 (by decide), mn_con _ _⟩
theorem vd_129_597 (E : ac_E) : ac_V E ac_MDf ac_HDf 129 597 (.inl (o_go 601)) := ⟨ok_goto dd_129_597 (by decide), mn_go _⟩
theorem vd_129_600 (E : ac_E) : ac_V E ac_MDf ac_HDf 129 600 (.inl (o_con (.long 0) 601)) := ⟨ok_lconst dd_129_600 (by decide), mn_con _ _⟩
theorem vd_129_601 (E : ac_E) : ac_V E ac_MDf ac_HDf 129 601 (.inl (o_lcm 602)) := ⟨ok_lcmp dd_129_601, mn_lcm _⟩
theorem vd_129_602 (E : ac_E) : ac_V E ac_MDf ac_HDf 129 602 (.inl (o_eq0 607 605)) := ⟨ok_ifeq dd_129_602 (by decide), mn_eq0 _ _⟩
theorem vd_129_605 (E : ac_E) : ac_V E ac_MDf ac_HDf 129 605 (.inl (o_con (.int 0) 606)) := ⟨ok_iconst dd_129_605 (by decide), mn_con _ _⟩
theorem vd_129_606 (E : ac_E) : ac_V E ac_MDf ac_HDf 129 606 (.inr (.inr (.inl 2))) := ⟨fun q => nomatch q, fun q => nomatch q, fun _ => ⟨dd_129_606, rfl⟩⟩
theorem vd_129_607 (E : ac_E) : ac_V E ac_MDf ac_HDf 129 607 (.inl (o_go 1329)) := ⟨ok_goto dd_129_607 (by decide), mn_go _⟩
theorem vd_129_610 (E : ac_E) : ac_V E ac_MDf ac_HDf 129 610 (.inl (o_ald 1 611)) := ⟨ok_aload_n dd_129_610, mn_ald _ _⟩
theorem vd_129_611 (E : ac_E) : ac_V E ac_MDf ac_HDf 129 611 (.inl (o_ald 0 612)) := ⟨ok_aload_n dd_129_611, mn_ald _ _⟩
theorem vd_129_612 (E : ac_E) : ac_V E ac_MDf ac_HDf 129 612 (.inl (o_ild 4 614)) := ⟨ok_iload dd_129_612, mn_ild _ _⟩
theorem vd_129_614 (E : ac_E) : ac_V E ac_MDf ac_HDf 129 614 (.inl (o_con (.int 1) 615)) := ⟨ok_iconst dd_129_614 (by decide), mn_con _ _⟩
theorem vd_129_615 (E : ac_E) : ac_V E ac_MDf ac_HDf 129 615 (.inl (o_add 616)) := ⟨ok_iadd dd_129_615, mn_add _⟩
theorem vd_129_616 (E : ac_E) : ac_V E ac_MDf ac_HDf 129 616 (.inl (o_xa (ac_len E) (ac_xs E) 617)) := ⟨ok_xa dd_129_616, mn_xa _ _ _⟩
theorem vd_129_617 (E : ac_E) : ac_V E ac_MDf ac_HDf 129 617 (.inl (o_ald 0 618)) := ⟨ok_aload_n dd_129_617, mn_ald _ _⟩
theorem vd_129_618 (E : ac_E) : ac_V E ac_MDf ac_HDf 129 618 (.inl (o_ild 4 620)) := ⟨ok_iload dd_129_618, mn_ild _ _⟩
theorem vd_129_620 (E : ac_E) : ac_V E ac_MDf ac_HDf 129 620 (.inl (o_con (.int 2) 621)) := ⟨ok_iconst dd_129_620 (by decide), mn_con _ _⟩
theorem vd_129_621 (E : ac_E) : ac_V E ac_MDf ac_HDf 129 621 (.inl (o_add 622)) := ⟨ok_iadd dd_129_621, mn_add _⟩
theorem vd_129_622 (E : ac_E) : ac_V E ac_MDf ac_HDf 129 622 (.inl (o_xa (ac_len E) (ac_xs E) 623)) := ⟨ok_xa dd_129_622, mn_xa _ _ _⟩
theorem vd_129_623 (E : ac_E) : ac_V E ac_MDf ac_HDf 129 623 (.inl (o_ald 0 624)) := ⟨ok_aload_n dd_129_623, mn_ald _ _⟩
theorem vd_129_624 (E : ac_E) : ac_V E ac_MDf ac_HDf 129 624 (.inl (o_ild 4 626)) := ⟨ok_iload dd_129_624, mn_ild _ _⟩
theorem vd_129_626 (E : ac_E) : ac_V E ac_MDf ac_HDf 129 626 (.inl (o_con (.int 3) 627)) := ⟨ok_iconst dd_129_626 (by decide), mn_con _ _⟩
theorem vd_129_627 (E : ac_E) : ac_V E ac_MDf ac_HDf 129 627 (.inl (o_add 628)) := ⟨ok_iadd dd_129_627, mn_add _⟩
theorem vd_129_628 (E : ac_E) : ac_V E ac_MDf ac_HDf 129 628 (.inl (o_xa (ac_len E) (ac_xs E) 629)) := ⟨ok_xa dd_129_628, mn_xa _ _ _⟩
theorem vd_129_629 (E : ac_E) : ac_V E ac_MDf ac_HDf 129 629 (.inl (o_eq0 636 632)) := ⟨ok_ifeq dd_129_629 (by decide), mn_eq0 _ _⟩
theorem vd_129_632 (E : ac_E) : ac_V E ac_MDf ac_HDf 129 632 (.inl (o_con (.int 1) 633)) := ⟨ok_iconst dd_129_632 (by decide), mn_con _ _⟩
theorem vd_129_633 (E : ac_E) : ac_V E ac_MDf ac_HDf 129 633 (.inl (o_go 637)) := ⟨ok_goto dd_129_633 (by decide), mn_go _⟩
theorem vd_129_636 (E : ac_E) : ac_V E ac_MDf ac_HDf 129 636 (.inl (o_con (.int 0) 637)) := ⟨ok_iconst dd_129_636 (by decide), mn_con _ _⟩
theorem vd_129_637 (E : ac_E) : ac_V E ac_MDf ac_HDf 129 637 (.inl (o_ald 3 638)) := ⟨ok_aload_n dd_129_637, mn_ald _ _⟩
theorem vd_129_638 (E : ac_E) : ac_V E ac_MDf ac_HDf 129 638 (.inr (.inl (119,5,641,0))) := ac_Vc0 (ok_callSX rfl (by decide) (by decide +kernel) wm_398 wm_49 wm_396 wm_397 dd_129_638) (fun _ => rfl)
theorem vd_129_641 (E : ac_E) : ac_V E ac_MDf ac_HDf 129 641 (.inl (o_ist 5 643)) := ⟨ok_istore dd_129_641, mn_ist _ _⟩
theorem vd_129_643 (E : ac_E) : ac_V E ac_MDf ac_HDf 129 643 (.inl (o_ald 2 644)) := ⟨ok_aload_n dd_129_643, mn_ald _ _⟩
theorem vd_129_644 (E : ac_E) : ac_V E ac_MDf ac_HDf 129 644 (.inl (o_ald 0 645)) := ⟨ok_aload_n dd_129_644, mn_ald _ _⟩
theorem vd_129_645 (E : ac_E) : ac_V E ac_MDf ac_HDf 129 645 (.inl (o_ild 4 647)) := ⟨ok_iload dd_129_645, mn_ild _ _⟩
theorem vd_129_647 (E : ac_E) : ac_V E ac_MDf ac_HDf 129 647 (.inl (o_con (.int 1) 648)) := ⟨ok_iconst dd_129_647 (by decide), mn_con _ _⟩
theorem vd_129_648 (E : ac_E) : ac_V E ac_MDf ac_HDf 129 648 (.inl (o_add 649)) := ⟨ok_iadd dd_129_648, mn_add _⟩
theorem vd_129_649 (E : ac_E) : ac_V E ac_MDf ac_HDf 129 649 (.inl (o_xa (ac_len E) (ac_xs E) 650)) := ⟨ok_xa dd_129_649, mn_xa _ _ _⟩
theorem vd_129_650 (E : ac_E) : ac_V E ac_MDf ac_HDf 129 650 (.inl (o_ald 0 651)) := ⟨ok_aload_n dd_129_650, mn_ald _ _⟩
theorem vd_129_651 (E : ac_E) : ac_V E ac_MDf ac_HDf 129 651 (.inl (o_ild 4 653)) := ⟨ok_iload dd_129_651, mn_ild _ _⟩
theorem vd_129_653 (E : ac_E) : ac_V E ac_MDf ac_HDf 129 653 (.inl (o_con (.int 2) 654)) := ⟨ok_iconst dd_129_653 (by decide), mn_con _ _⟩
theorem vd_129_654 (E : ac_E) : ac_V E ac_MDf ac_HDf 129 654 (.inl (o_add 655)) := ⟨ok_iadd dd_129_654, mn_add _⟩
theorem vd_129_655 (E : ac_E) : ac_V E ac_MDf ac_HDf 129 655 (.inl (o_xa (ac_len E) (ac_xs E) 656)) := ⟨ok_xa dd_129_655, mn_xa _ _ _⟩
theorem vd_129_656 (E : ac_E) : ac_V E ac_MDf ac_HDf 129 656 (.inl (o_ald 0 657)) := ⟨ok_aload_n dd_129_656, mn_ald _ _⟩
theorem vd_129_657 (E : ac_E) : ac_V E ac_MDf ac_HDf 129 657 (.inl (o_ild 4 659)) := ⟨ok_iload dd_129_657, mn_ild _ _⟩
theorem vd_129_659 (E : ac_E) : ac_V E ac_MDf ac_HDf 129 659 (.inl (o_con (.int 3) 660)) := ⟨ok_iconst dd_129_659 (by decide), mn_con _ _⟩
theorem vd_129_660 (E : ac_E) : ac_V E ac_MDf ac_HDf 129 660 (.inl (o_add 661)) := ⟨ok_iadd dd_129_660, mn_add _⟩
theorem vd_129_661 (E : ac_E) : ac_V E ac_MDf ac_HDf 129 661 (.inl (o_xa (ac_len E) (ac_xs E) 662)) := ⟨ok_xa dd_129_661, mn_xa _ _ _⟩
theorem vd_129_662 (E : ac_E) : ac_V E ac_MDf ac_HDf 129 662 (.inl (o_eq0 669 665)) := ⟨ok_ifeq dd_129_662 (by decide), mn_eq0 _ _⟩
theorem vd_129_665 (E : ac_E) : ac_V E ac_MDf ac_HDf 129 665 (.inl (o_con (.int 1) 666)) := ⟨ok_iconst dd_129_665 (by decide), mn_con _ _⟩
theorem vd_129_666 (E : ac_E) : ac_V E ac_MDf ac_HDf 129 666 (.inl (o_go 670)) := ⟨ok_goto dd_129_666 (by decide), mn_go _⟩
theorem vd_129_669 (E : ac_E) : ac_V E ac_MDf ac_HDf 129 669 (.inl (o_con (.int 0) 670)) := ⟨ok_iconst dd_129_669 (by decide), mn_con _ _⟩
theorem vd_129_670 (E : ac_E) : ac_V E ac_MDf ac_HDf 129 670 (.inr (.inl (84,4,673,7))) := ac_Vc0 ((ok_callV (T := TX5) (N := 17) rfl rfl (by decide) (by decide +kernel) wm_747 wm_56 wm_744 wm_745 wm_746 dd_129_670).1) (fun _ => rfl)
theorem vd_129_673 (E : ac_E) : ac_V E ac_MDf ac_HDf 129 673 (.inl (o_ist 6 675)) := ⟨ok_istore dd_129_673, mn_ist _ _⟩
theorem vd_129_675 (E : ac_E) : ac_V E ac_MDf ac_HDf 129 675 (.inl (o_ald 2 676)) := ⟨ok_aload_n dd_129_675, mn_ald _ _⟩
theorem vd_129_676 (E : ac_E) : ac_V E ac_MDf ac_HDf 129 676 (.inr (.inl (67,1,679,7))) := ac_Vc0 ((ok_callV (T := TX5) (N := 17) rfl rfl (by decide) (by decide +kernel) wm_694 wm_56 wm_691 wm_692 wm_693 dd_129_676).1) (fun _ => rfl)
theorem vd_129_679 (E : ac_E) : ac_V E ac_MDf ac_HDf 129 679 (.inl (o_ild 5 681)) := ⟨ok_iload dd_129_679, mn_ild _ _⟩
theorem vd_129_681 (E : ac_E) : ac_V E ac_MDf ac_HDf 129 681 (.inl (o_eq 686 684)) := ⟨ok_icmpeq dd_129_681 (by decide), mn_eq _ _⟩
theorem vd_129_684 (E : ac_E) : ac_V E ac_MDf ac_HDf 129 684 (.inl (o_con (.int 0) 685)) := ⟨ok_iconst dd_129_684 (by decide), mn_con _ _⟩
theorem vd_129_685 (E : ac_E) : ac_V E ac_MDf ac_HDf 129 685 (.inr (.inr (.inl 2))) := ⟨fun q => nomatch q, fun q => nomatch q, fun _ => ⟨dd_129_685, rfl⟩⟩
theorem vd_129_686 (E : ac_E) : ac_V E ac_MDf ac_HDf 129 686 (.inl (o_ild 5 688)) := ⟨ok_iload dd_129_686, mn_ild _ _⟩
theorem vd_129_688 (E : ac_E) : ac_V E ac_MDf ac_HDf 129 688 (.inl (o_ne0 710 691)) := ⟨ok_ifne dd_129_688 (by decide), mn_ne0 _ _⟩
theorem vd_129_691 (E : ac_E) : ac_V E ac_MDf ac_HDf 129 691 (.inl (o_ald 3 692)) := ⟨ok_aload_n dd_129_691, mn_ald _ _⟩
theorem vd_129_692 (E : ac_E) : ac_V E ac_MDf ac_HDf 129 692 (.inl (o_con (.int 0) 693)) := ⟨ok_iconst dd_129_692 (by decide), mn_con _ _⟩
theorem vd_129_693 (E : ac_E) : ac_V E ac_MDf ac_HDf 129 693 (.inl (o_la 694)) := ⟨ok_laload dd_129_693, mn_la _⟩
theorem vd_129_694 (E : ac_E) : ac_V E ac_MDf ac_HDf 129 694 (.inl (o_ild 6 696)) := ⟨ok_iload dd_129_694, mn_ild _ _⟩
theorem vd_129_696 (E : ac_E) : ac_V E ac_MDf ac_HDf 129 696 (.inl (o_eq0 703 699)) := ⟨ok_ifeq dd_129_696 (by decide), mn_eq0 _ _⟩
theorem vd_129_699 (E : ac_E) : ac_V E ac_MDf ac_HDf 129 699 (.inl (o_con (.long 1) 700)) := ⟨ok_lconst dd_129_699 (by decide), mn_con _ _⟩
theorem vd_129_700 (E : ac_E) : ac_V E ac_MDf ac_HDf 129 700 (.inl (o_go 704)) := ⟨ok_goto dd_129_700 (by decide), mn_go _⟩
theorem vd_129_703 (E : ac_E) : ac_V E ac_MDf ac_HDf 129 703 (.inl (o_con (.long 0) 704)) := ⟨ok_lconst dd_129_703 (by decide), mn_con _ _⟩
theorem vd_129_704 (E : ac_E) : ac_V E ac_MDf ac_HDf 129 704 (.inl (o_lcm 705)) := ⟨ok_lcmp dd_129_704, mn_lcm _⟩
theorem vd_129_705 (E : ac_E) : ac_V E ac_MDf ac_HDf 129 705 (.inl (o_eq0 710 708)) := ⟨ok_ifeq dd_129_705 (by decide), mn_eq0 _ _⟩
theorem vd_129_708 (E : ac_E) : ac_V E ac_MDf ac_HDf 129 708 (.inl (o_con (.int 0) 709)) := ⟨ok_iconst dd_129_708 (by decide), mn_con _ _⟩
theorem vd_129_709 (E : ac_E) : ac_V E ac_MDf ac_HDf 129 709 (.inr (.inr (.inl 2))) := ⟨fun q => nomatch q, fun q => nomatch q, fun _ => ⟨dd_129_709, rfl⟩⟩
theorem vd_129_710 (E : ac_E) : ac_V E ac_MDf ac_HDf 129 710 (.inl (o_go 1329)) := ⟨ok_goto dd_129_710 (by decide), mn_go _⟩
theorem vd_129_713 (E : ac_E) : ac_V E ac_MDf ac_HDf 129 713 (.inl (o_ald 1 714)) := ⟨ok_aload_n dd_129_713, mn_ald _ _⟩
theorem vd_129_714 (E : ac_E) : ac_V E ac_MDf ac_HDf 129 714 (.inl (o_ald 0 715)) := ⟨ok_aload_n dd_129_714, mn_ald _ _⟩
theorem vd_129_715 (E : ac_E) : ac_V E ac_MDf ac_HDf 129 715 (.inl (o_ild 4 717)) := ⟨ok_iload dd_129_715, mn_ild _ _⟩
theorem vd_129_717 (E : ac_E) : ac_V E ac_MDf ac_HDf 129 717 (.inl (o_con (.int 1) 718)) := ⟨ok_iconst dd_129_717 (by decide), mn_con _ _⟩
theorem vd_129_718 (E : ac_E) : ac_V E ac_MDf ac_HDf 129 718 (.inl (o_add 719)) := ⟨ok_iadd dd_129_718, mn_add _⟩
theorem vd_129_719 (E : ac_E) : ac_V E ac_MDf ac_HDf 129 719 (.inl (o_xa (ac_len E) (ac_xs E) 720)) := ⟨ok_xa dd_129_719, mn_xa _ _ _⟩
theorem vd_129_720 (E : ac_E) : ac_V E ac_MDf ac_HDf 129 720 (.inl (o_ald 0 721)) := ⟨ok_aload_n dd_129_720, mn_ald _ _⟩
theorem vd_129_721 (E : ac_E) : ac_V E ac_MDf ac_HDf 129 721 (.inl (o_ild 4 723)) := ⟨ok_iload dd_129_721, mn_ild _ _⟩
theorem vd_129_723 (E : ac_E) : ac_V E ac_MDf ac_HDf 129 723 (.inl (o_con (.int 2) 724)) := ⟨ok_iconst dd_129_723 (by decide), mn_con _ _⟩
theorem vd_129_724 (E : ac_E) : ac_V E ac_MDf ac_HDf 129 724 (.inl (o_add 725)) := ⟨ok_iadd dd_129_724, mn_add _⟩
theorem vd_129_725 (E : ac_E) : ac_V E ac_MDf ac_HDf 129 725 (.inl (o_xa (ac_len E) (ac_xs E) 726)) := ⟨ok_xa dd_129_725, mn_xa _ _ _⟩
theorem vd_129_726 (E : ac_E) : ac_V E ac_MDf ac_HDf 129 726 (.inl (o_ald 3 727)) := ⟨ok_aload_n dd_129_726, mn_ald _ _⟩
theorem vd_129_727 (E : ac_E) : ac_V E ac_MDf ac_HDf 129 727 (.inr (.inl (120,4,730,0))) := ac_Vc0 (ok_callSX rfl (by decide) (by decide +kernel) wm_405 wm_49 wm_403 wm_404 dd_129_727) (fun _ => rfl)
theorem vd_129_730 (E : ac_E) : ac_V E ac_MDf ac_HDf 129 730 (.inl (o_ist 5 732)) := ⟨ok_istore dd_129_730, mn_ist _ _⟩
theorem vd_129_732 (E : ac_E) : ac_V E ac_MDf ac_HDf 129 732 (.inl (o_ald 2 733)) := ⟨ok_aload_n dd_129_732, mn_ald _ _⟩
theorem vd_129_733 (E : ac_E) : ac_V E ac_MDf ac_HDf 129 733 (.inl (o_ald 0 734)) := ⟨ok_aload_n dd_129_733, mn_ald _ _⟩
theorem vd_129_734 (E : ac_E) : ac_V E ac_MDf ac_HDf 129 734 (.inl (o_ild 4 736)) := ⟨ok_iload dd_129_734, mn_ild _ _⟩
theorem vd_129_736 (E : ac_E) : ac_V E ac_MDf ac_HDf 129 736 (.inl (o_con (.int 1) 737)) := ⟨ok_iconst dd_129_736 (by decide), mn_con _ _⟩
theorem vd_129_737 (E : ac_E) : ac_V E ac_MDf ac_HDf 129 737 (.inl (o_add 738)) := ⟨ok_iadd dd_129_737, mn_add _⟩
theorem vd_129_738 (E : ac_E) : ac_V E ac_MDf ac_HDf 129 738 (.inl (o_xa (ac_len E) (ac_xs E) 739)) := ⟨ok_xa dd_129_738, mn_xa _ _ _⟩
theorem vd_129_739 (E : ac_E) : ac_V E ac_MDf ac_HDf 129 739 (.inl (o_ald 0 740)) := ⟨ok_aload_n dd_129_739, mn_ald _ _⟩
theorem vd_129_740 (E : ac_E) : ac_V E ac_MDf ac_HDf 129 740 (.inl (o_ild 4 742)) := ⟨ok_iload dd_129_740, mn_ild _ _⟩
theorem vd_129_742 (E : ac_E) : ac_V E ac_MDf ac_HDf 129 742 (.inl (o_con (.int 2) 743)) := ⟨ok_iconst dd_129_742 (by decide), mn_con _ _⟩
theorem vd_129_743 (E : ac_E) : ac_V E ac_MDf ac_HDf 129 743 (.inl (o_add 744)) := ⟨ok_iadd dd_129_743, mn_add _⟩
theorem vd_129_744 (E : ac_E) : ac_V E ac_MDf ac_HDf 129 744 (.inl (o_xa (ac_len E) (ac_xs E) 745)) := ⟨ok_xa dd_129_744, mn_xa _ _ _⟩
theorem vd_129_745 (E : ac_E) : ac_V E ac_MDf ac_HDf 129 745 (.inr (.inl (85,3,748,7))) := ac_Vc0 ((ok_callV (T := TX5) (N := 17) rfl rfl (by decide) (by decide +kernel) wm_751 wm_56 wm_748 wm_749 wm_750 dd_129_745).1) (fun _ => rfl)
theorem vd_129_748 (E : ac_E) : ac_V E ac_MDf ac_HDf 129 748 (.inl (o_ist 6 750)) := ⟨ok_istore dd_129_748, mn_ist _ _⟩
theorem vd_129_750 (E : ac_E) : ac_V E ac_MDf ac_HDf 129 750 (.inl (o_ald 2 751)) := ⟨ok_aload_n dd_129_750, mn_ald _ _⟩
theorem vd_129_751 (E : ac_E) : ac_V E ac_MDf ac_HDf 129 751 (.inr (.inl (67,1,754,7))) := ac_Vc0 ((ok_callV (T := TX5) (N := 17) rfl rfl (by decide) (by decide +kernel) wm_694 wm_56 wm_691 wm_692 wm_693 dd_129_751).1) (fun _ => rfl)
theorem vd_129_754 (E : ac_E) : ac_V E ac_MDf ac_HDf 129 754 (.inl (o_ild 5 756)) := ⟨ok_iload dd_129_754, mn_ild _ _⟩
theorem vd_129_756 (E : ac_E) : ac_V E ac_MDf ac_HDf 129 756 (.inl (o_eq 761 759)) := ⟨ok_icmpeq dd_129_756 (by decide), mn_eq _ _⟩
theorem vd_129_759 (E : ac_E) : ac_V E ac_MDf ac_HDf 129 759 (.inl (o_con (.int 0) 760)) := ⟨ok_iconst dd_129_759 (by decide), mn_con _ _⟩
theorem vd_129_760 (E : ac_E) : ac_V E ac_MDf ac_HDf 129 760 (.inr (.inr (.inl 2))) := ⟨fun q => nomatch q, fun q => nomatch q, fun _ => ⟨dd_129_760, rfl⟩⟩
theorem vd_129_761 (E : ac_E) : ac_V E ac_MDf ac_HDf 129 761 (.inl (o_ild 5 763)) := ⟨ok_iload dd_129_761, mn_ild _ _⟩
theorem vd_129_763 (E : ac_E) : ac_V E ac_MDf ac_HDf 129 763 (.inl (o_ne0 778 766)) := ⟨ok_ifne dd_129_763 (by decide), mn_ne0 _ _⟩
theorem vd_129_766 (E : ac_E) : ac_V E ac_MDf ac_HDf 129 766 (.inl (o_ald 3 767)) := ⟨ok_aload_n dd_129_766, mn_ald _ _⟩
theorem vd_129_767 (E : ac_E) : ac_V E ac_MDf ac_HDf 129 767 (.inl (o_con (.int 0) 768)) := ⟨ok_iconst dd_129_767 (by decide), mn_con _ _⟩
theorem vd_129_768 (E : ac_E) : ac_V E ac_MDf ac_HDf 129 768 (.inl (o_la 769)) := ⟨ok_laload dd_129_768, mn_la _⟩
theorem vd_129_769 (E : ac_E) : ac_V E ac_MDf ac_HDf 129 769 (.inl (o_ild 6 771)) := ⟨ok_iload dd_129_769, mn_ild _ _⟩
theorem vd_129_771 (E : ac_E) : ac_V E ac_MDf ac_HDf 129 771 (.inl (o_i2l 772)) := ⟨ok_i2l dd_129_771, mn_i2l _⟩
theorem vd_129_772 (E : ac_E) : ac_V E ac_MDf ac_HDf 129 772 (.inl (o_lcm 773)) := ⟨ok_lcmp dd_129_772, mn_lcm _⟩
theorem vd_129_773 (E : ac_E) : ac_V E ac_MDf ac_HDf 129 773 (.inl (o_eq0 778 776)) := ⟨ok_ifeq dd_129_773 (by decide), mn_eq0 _ _⟩
theorem vd_129_776 (E : ac_E) : ac_V E ac_MDf ac_HDf 129 776 (.inl (o_con (.int 0) 777)) := ⟨ok_iconst dd_129_776 (by decide), mn_con _ _⟩
theorem vd_129_777 (E : ac_E) : ac_V E ac_MDf ac_HDf 129 777 (.inr (.inr (.inl 2))) := ⟨fun q => nomatch q, fun q => nomatch q, fun _ => ⟨dd_129_777, rfl⟩⟩
theorem vd_129_778 (E : ac_E) : ac_V E ac_MDf ac_HDf 129 778 (.inl (o_go 1329)) := ⟨ok_goto dd_129_778 (by decide), mn_go _⟩
theorem vd_129_781 (E : ac_E) : ac_V E ac_MDf ac_HDf 129 781 (.inl (o_ald 1 782)) := ⟨ok_aload_n dd_129_781, mn_ald _ _⟩
theorem vd_129_782 (E : ac_E) : ac_V E ac_MDf ac_HDf 129 782 (.inl (o_ald 0 783)) := ⟨ok_aload_n dd_129_782, mn_ald _ _⟩
theorem vd_129_783 (E : ac_E) : ac_V E ac_MDf ac_HDf 129 783 (.inl (o_ild 4 785)) := ⟨ok_iload dd_129_783, mn_ild _ _⟩
theorem vd_129_785 (E : ac_E) : ac_V E ac_MDf ac_HDf 129 785 (.inl (o_con (.int 1) 786)) := ⟨ok_iconst dd_129_785 (by decide), mn_con _ _⟩
theorem vd_129_786 (E : ac_E) : ac_V E ac_MDf ac_HDf 129 786 (.inl (o_add 787)) := ⟨ok_iadd dd_129_786, mn_add _⟩
theorem vd_129_787 (E : ac_E) : ac_V E ac_MDf ac_HDf 129 787 (.inl (o_xa (ac_len E) (ac_xs E) 788)) := ⟨ok_xa dd_129_787, mn_xa _ _ _⟩
theorem vd_129_788 (E : ac_E) : ac_V E ac_MDf ac_HDf 129 788 (.inr (.inl (121,2,791,0))) := ac_Vc0 (ok_callSX rfl (by decide) (by decide +kernel) wm_412 wm_49 wm_410 wm_411 dd_129_788) (fun _ => rfl)
theorem vd_129_791 (E : ac_E) : ac_V E ac_MDf ac_HDf 129 791 (.inl (o_ist 5 793)) := ⟨ok_istore dd_129_791, mn_ist _ _⟩
theorem vd_129_793 (E : ac_E) : ac_V E ac_MDf ac_HDf 129 793 (.inl (o_ald 2 794)) := ⟨ok_aload_n dd_129_793, mn_ald _ _⟩
theorem vd_129_794 (E : ac_E) : ac_V E ac_MDf ac_HDf 129 794 (.inl (o_ald 0 795)) := ⟨ok_aload_n dd_129_794, mn_ald _ _⟩
theorem vd_129_795 (E : ac_E) : ac_V E ac_MDf ac_HDf 129 795 (.inl (o_ild 4 797)) := ⟨ok_iload dd_129_795, mn_ild _ _⟩
theorem vd_129_797 (E : ac_E) : ac_V E ac_MDf ac_HDf 129 797 (.inl (o_con (.int 1) 798)) := ⟨ok_iconst dd_129_797 (by decide), mn_con _ _⟩
theorem vd_129_798 (E : ac_E) : ac_V E ac_MDf ac_HDf 129 798 (.inl (o_add 799)) := ⟨ok_iadd dd_129_798, mn_add _⟩
theorem vd_129_799 (E : ac_E) : ac_V E ac_MDf ac_HDf 129 799 (.inl (o_xa (ac_len E) (ac_xs E) 800)) := ⟨ok_xa dd_129_799, mn_xa _ _ _⟩
theorem vd_129_800 (E : ac_E) : ac_V E ac_MDf ac_HDf 129 800 (.inr (.inl (86,2,803,7))) := ac_Vc0 ((ok_callV (T := TX5) (N := 17) rfl rfl (by decide) (by decide +kernel) wm_755 wm_56 wm_752 wm_753 wm_754 dd_129_800).1) (fun _ => rfl)
theorem vd_129_803 (E : ac_E) : ac_V E ac_MDf ac_HDf 129 803 (.inl (o_ald 2 804)) := ⟨ok_aload_n dd_129_803, mn_ald _ _⟩
theorem vd_129_804 (E : ac_E) : ac_V E ac_MDf ac_HDf 129 804 (.inr (.inl (67,1,807,7))) := ac_Vc0 ((ok_callV (T := TX5) (N := 17) rfl rfl (by decide) (by decide +kernel) wm_694 wm_56 wm_691 wm_692 wm_693 dd_129_804).1) (fun _ => rfl)
theorem vd_129_807 (E : ac_E) : ac_V E ac_MDf ac_HDf 129 807 (.inl (o_ild 5 809)) := ⟨ok_iload dd_129_807, mn_ild _ _⟩
theorem vd_129_809 (E : ac_E) : ac_V E ac_MDf ac_HDf 129 809 (.inl (o_eq 814 812)) := ⟨ok_icmpeq dd_129_809 (by decide), mn_eq _ _⟩
theorem vd_129_812 (E : ac_E) : ac_V E ac_MDf ac_HDf 129 812 (.inl (o_con (.int 0) 813)) := ⟨ok_iconst dd_129_812 (by decide), mn_con _ _⟩
theorem vd_129_813 (E : ac_E) : ac_V E ac_MDf ac_HDf 129 813 (.inr (.inr (.inl 2))) := ⟨fun q => nomatch q, fun q => nomatch q, fun _ => ⟨dd_129_813, rfl⟩⟩
theorem vd_129_814 (E : ac_E) : ac_V E ac_MDf ac_HDf 129 814 (.inl (o_go 1329)) := ⟨ok_goto dd_129_814 (by decide), mn_go _⟩
theorem vd_129_817 (E : ac_E) : ac_V E ac_MDf ac_HDf 129 817 (.inl (o_ald 1 818)) := ⟨ok_aload_n dd_129_817, mn_ald _ _⟩
theorem vd_129_818 (E : ac_E) : ac_V E ac_MDf ac_HDf 129 818 (.inl (o_ald 0 819)) := ⟨ok_aload_n dd_129_818, mn_ald _ _⟩
theorem vd_129_819 (E : ac_E) : ac_V E ac_MDf ac_HDf 129 819 (.inl (o_ild 4 821)) := ⟨ok_iload dd_129_819, mn_ild _ _⟩
theorem vd_129_821 (E : ac_E) : ac_V E ac_MDf ac_HDf 129 821 (.inl (o_con (.int 1) 822)) := ⟨ok_iconst dd_129_821 (by decide), mn_con _ _⟩
theorem vd_129_822 (E : ac_E) : ac_V E ac_MDf ac_HDf 129 822 (.inl (o_add 823)) := ⟨ok_iadd dd_129_822, mn_add _⟩
theorem vd_129_823 (E : ac_E) : ac_V E ac_MDf ac_HDf 129 823 (.inl (o_xa (ac_len E) (ac_xs E) 824)) := ⟨ok_xa dd_129_823, mn_xa _ _ _⟩
theorem vd_129_824 (E : ac_E) : ac_V E ac_MDf ac_HDf 129 824 (.inl (o_ald 3 825)) := ⟨ok_aload_n dd_129_824, mn_ald _ _⟩
theorem vd_129_825 (E : ac_E) : ac_V E ac_MDf ac_HDf 129 825 (.inr (.inl (122,3,828,0))) := ac_Vc0 (ok_callSX rfl (by decide) (by decide +kernel) wm_419 wm_49 wm_417 wm_418 dd_129_825) (fun _ => rfl)
theorem vd_129_828 (E : ac_E) : ac_V E ac_MDf ac_HDf 129 828 (.inl (o_ist 5 830)) := ⟨ok_istore dd_129_828, mn_ist _ _⟩
theorem vd_129_830 (E : ac_E) : ac_V E ac_MDf ac_HDf 129 830 (.inl (o_ald 2 831)) := ⟨ok_aload_n dd_129_830, mn_ald _ _⟩
theorem vd_129_831 (E : ac_E) : ac_V E ac_MDf ac_HDf 129 831 (.inl (o_ald 0 832)) := ⟨ok_aload_n dd_129_831, mn_ald _ _⟩
theorem vd_129_832 (E : ac_E) : ac_V E ac_MDf ac_HDf 129 832 (.inl (o_ild 4 834)) := ⟨ok_iload dd_129_832, mn_ild _ _⟩
theorem vd_129_834 (E : ac_E) : ac_V E ac_MDf ac_HDf 129 834 (.inl (o_con (.int 1) 835)) := ⟨ok_iconst dd_129_834 (by decide), mn_con _ _⟩
theorem vd_129_835 (E : ac_E) : ac_V E ac_MDf ac_HDf 129 835 (.inl (o_add 836)) := ⟨ok_iadd dd_129_835, mn_add _⟩
theorem vd_129_836 (E : ac_E) : ac_V E ac_MDf ac_HDf 129 836 (.inl (o_xa (ac_len E) (ac_xs E) 837)) := ⟨ok_xa dd_129_836, mn_xa _ _ _⟩
theorem vd_129_837 (E : ac_E) : ac_V E ac_MDf ac_HDf 129 837 (.inr (.inl (87,2,840,7))) := ac_Vc0 ((ok_callV (T := TX5) (N := 17) rfl rfl (by decide) (by decide +kernel) wm_759 wm_56 wm_756 wm_757 wm_758 dd_129_837).1) (fun _ => rfl)
theorem vd_129_840 (E : ac_E) : ac_V E ac_MDf ac_HDf 129 840 (.inl (o_ist 6 842)) := ⟨ok_istore dd_129_840, mn_ist _ _⟩
theorem vd_129_842 (E : ac_E) : ac_V E ac_MDf ac_HDf 129 842 (.inl (o_ald 2 843)) := ⟨ok_aload_n dd_129_842, mn_ald _ _⟩
theorem vd_129_843 (E : ac_E) : ac_V E ac_MDf ac_HDf 129 843 (.inr (.inl (67,1,846,7))) := ac_Vc0 ((ok_callV (T := TX5) (N := 17) rfl rfl (by decide) (by decide +kernel) wm_694 wm_56 wm_691 wm_692 wm_693 dd_129_843).1) (fun _ => rfl)
theorem vd_129_846 (E : ac_E) : ac_V E ac_MDf ac_HDf 129 846 (.inl (o_ild 5 848)) := ⟨ok_iload dd_129_846, mn_ild _ _⟩
theorem vd_129_848 (E : ac_E) : ac_V E ac_MDf ac_HDf 129 848 (.inl (o_eq 853 851)) := ⟨ok_icmpeq dd_129_848 (by decide), mn_eq _ _⟩
theorem vd_129_851 (E : ac_E) : ac_V E ac_MDf ac_HDf 129 851 (.inl (o_con (.int 0) 852)) := ⟨ok_iconst dd_129_851 (by decide), mn_con _ _⟩
theorem vd_129_852 (E : ac_E) : ac_V E ac_MDf ac_HDf 129 852 (.inr (.inr (.inl 2))) := ⟨fun q => nomatch q, fun q => nomatch q, fun _ => ⟨dd_129_852, rfl⟩⟩
theorem vd_129_853 (E : ac_E) : ac_V E ac_MDf ac_HDf 129 853 (.inl (o_ild 5 855)) := ⟨ok_iload dd_129_853, mn_ild _ _⟩
theorem vd_129_855 (E : ac_E) : ac_V E ac_MDf ac_HDf 129 855 (.inl (o_ne0 870 858)) := ⟨ok_ifne dd_129_855 (by decide), mn_ne0 _ _⟩
theorem vd_129_858 (E : ac_E) : ac_V E ac_MDf ac_HDf 129 858 (.inl (o_ald 3 859)) := ⟨ok_aload_n dd_129_858, mn_ald _ _⟩
theorem vd_129_859 (E : ac_E) : ac_V E ac_MDf ac_HDf 129 859 (.inl (o_con (.int 0) 860)) := ⟨ok_iconst dd_129_859 (by decide), mn_con _ _⟩
theorem vd_129_860 (E : ac_E) : ac_V E ac_MDf ac_HDf 129 860 (.inl (o_la 861)) := ⟨ok_laload dd_129_860, mn_la _⟩
theorem vd_129_861 (E : ac_E) : ac_V E ac_MDf ac_HDf 129 861 (.inl (o_ild 6 863)) := ⟨ok_iload dd_129_861, mn_ild _ _⟩
theorem vd_129_863 (E : ac_E) : ac_V E ac_MDf ac_HDf 129 863 (.inl (o_i2l 864)) := ⟨ok_i2l dd_129_863, mn_i2l _⟩
theorem vd_129_864 (E : ac_E) : ac_V E ac_MDf ac_HDf 129 864 (.inl (o_lcm 865)) := ⟨ok_lcmp dd_129_864, mn_lcm _⟩
theorem vd_129_865 (E : ac_E) : ac_V E ac_MDf ac_HDf 129 865 (.inl (o_eq0 870 868)) := ⟨ok_ifeq dd_129_865 (by decide), mn_eq0 _ _⟩
theorem vd_129_868 (E : ac_E) : ac_V E ac_MDf ac_HDf 129 868 (.inl (o_con (.int 0) 869)) := ⟨ok_iconst dd_129_868 (by decide), mn_con _ _⟩
theorem vd_129_869 (E : ac_E) : ac_V E ac_MDf ac_HDf 129 869 (.inr (.inr (.inl 2))) := ⟨fun q => nomatch q, fun q => nomatch q, fun _ => ⟨dd_129_869, rfl⟩⟩
theorem vd_129_870 (E : ac_E) : ac_V E ac_MDf ac_HDf 129 870 (.inl (o_go 1329)) := ⟨ok_goto dd_129_870 (by decide), mn_go _⟩
theorem vd_129_873 (E : ac_E) : ac_V E ac_MDf ac_HDf 129 873 (.inl (o_ald 1 874)) := ⟨ok_aload_n dd_129_873, mn_ald _ _⟩
theorem vd_129_874 (E : ac_E) : ac_V E ac_MDf ac_HDf 129 874 (.inl (o_ald 0 875)) := ⟨ok_aload_n dd_129_874, mn_ald _ _⟩
theorem vd_129_875 (E : ac_E) : ac_V E ac_MDf ac_HDf 129 875 (.inl (o_ild 4 877)) := ⟨ok_iload dd_129_875, mn_ild _ _⟩
theorem vd_129_877 (E : ac_E) : ac_V E ac_MDf ac_HDf 129 877 (.inl (o_con (.int 1) 878)) := ⟨ok_iconst dd_129_877 (by decide), mn_con _ _⟩
theorem vd_129_878 (E : ac_E) : ac_V E ac_MDf ac_HDf 129 878 (.inl (o_add 879)) := ⟨ok_iadd dd_129_878, mn_add _⟩
theorem vd_129_879 (E : ac_E) : ac_V E ac_MDf ac_HDf 129 879 (.inl (o_xa (ac_len E) (ac_xs E) 880)) := ⟨ok_xa dd_129_879, mn_xa _ _ _⟩
theorem vd_129_880 (E : ac_E) : ac_V E ac_MDf ac_HDf 129 880 (.inr (.inl (34,2,883,6))) := ac_Vc0 ((ok_callV (T := TX4) (N := 12) rfl rfl (by decide) (by decide +kernel) wm_203 wm_50 wm_200 wm_201 wm_202 dd_129_880).1) (fun _ => rfl)
theorem vd_129_883 (E : ac_E) : ac_V E ac_MDf ac_HDf 129 883 (.inl (o_ald 2 884)) := ⟨ok_aload_n dd_129_883, mn_ald _ _⟩
theorem vd_129_884 (E : ac_E) : ac_V E ac_MDf ac_HDf 129 884 (.inl (o_ald 0 885)) := ⟨ok_aload_n dd_129_884, mn_ald _ _⟩
theorem vd_129_885 (E : ac_E) : ac_V E ac_MDf ac_HDf 129 885 (.inl (o_ild 4 887)) := ⟨ok_iload dd_129_885, mn_ild _ _⟩
theorem vd_129_887 (E : ac_E) : ac_V E ac_MDf ac_HDf 129 887 (.inl (o_con (.int 1) 888)) := ⟨ok_iconst dd_129_887 (by decide), mn_con _ _⟩
theorem vd_129_888 (E : ac_E) : ac_V E ac_MDf ac_HDf 129 888 (.inl (o_add 889)) := ⟨ok_iadd dd_129_888, mn_add _⟩
theorem vd_129_889 (E : ac_E) : ac_V E ac_MDf ac_HDf 129 889 (.inl (o_xa (ac_len E) (ac_xs E) 890)) := ⟨ok_xa dd_129_889, mn_xa _ _ _⟩
theorem vd_129_890 (E : ac_E) : ac_V E ac_MDf ac_HDf 129 890 (.inr (.inl (88,2,893,7))) := ac_Vc0 ((ok_callV (T := TX5) (N := 17) rfl rfl (by decide) (by decide +kernel) wm_763 wm_56 wm_760 wm_761 wm_762 dd_129_890).1) (fun _ => rfl)
theorem vd_129_893 (E : ac_E) : ac_V E ac_MDf ac_HDf 129 893 (.inl (o_go 1329)) := ⟨ok_goto dd_129_893 (by decide), mn_go _⟩
theorem vd_129_896 (E : ac_E) : ac_V E ac_MDf ac_HDf 129 896 (.inl (o_ald 1 897)) := ⟨ok_aload_n dd_129_896, mn_ald _ _⟩
theorem vd_129_897 (E : ac_E) : ac_V E ac_MDf ac_HDf 129 897 (.inl (o_ald 0 898)) := ⟨ok_aload_n dd_129_897, mn_ald _ _⟩
theorem vd_129_898 (E : ac_E) : ac_V E ac_MDf ac_HDf 129 898 (.inl (o_ild 4 900)) := ⟨ok_iload dd_129_898, mn_ild _ _⟩
theorem vd_129_900 (E : ac_E) : ac_V E ac_MDf ac_HDf 129 900 (.inl (o_con (.int 1) 901)) := ⟨ok_iconst dd_129_900 (by decide), mn_con _ _⟩
theorem vd_129_901 (E : ac_E) : ac_V E ac_MDf ac_HDf 129 901 (.inl (o_add 902)) := ⟨ok_iadd dd_129_901, mn_add _⟩
theorem vd_129_902 (E : ac_E) : ac_V E ac_MDf ac_HDf 129 902 (.inl (o_xa (ac_len E) (ac_xs E) 903)) := ⟨ok_xa dd_129_902, mn_xa _ _ _⟩
theorem vd_129_903 (E : ac_E) : ac_V E ac_MDf ac_HDf 129 903 (.inl (o_ald 3 904)) := ⟨ok_aload_n dd_129_903, mn_ald _ _⟩
theorem vd_129_904 (E : ac_E) : ac_V E ac_MDf ac_HDf 129 904 (.inr (.inl (123,3,907,0))) := ac_Vc0 (ok_callSX rfl (by decide) (by decide +kernel) wm_426 wm_49 wm_424 wm_425 dd_129_904) (fun _ => rfl)
theorem vd_129_907 (E : ac_E) : ac_V E ac_MDf ac_HDf 129 907 (.inl (o_ist 5 909)) := ⟨ok_istore dd_129_907, mn_ist _ _⟩
theorem vd_129_909 (E : ac_E) : ac_V E ac_MDf ac_HDf 129 909 (.inl (o_ald 2 910)) := ⟨ok_aload_n dd_129_909, mn_ald _ _⟩
theorem vd_129_910 (E : ac_E) : ac_V E ac_MDf ac_HDf 129 910 (.inl (o_ald 0 911)) := ⟨ok_aload_n dd_129_910, mn_ald _ _⟩
theorem vd_129_911 (E : ac_E) : ac_V E ac_MDf ac_HDf 129 911 (.inl (o_ild 4 913)) := ⟨ok_iload dd_129_911, mn_ild _ _⟩
theorem vd_129_913 (E : ac_E) : ac_V E ac_MDf ac_HDf 129 913 (.inl (o_con (.int 1) 914)) := ⟨ok_iconst dd_129_913 (by decide), mn_con _ _⟩
theorem vd_129_914 (E : ac_E) : ac_V E ac_MDf ac_HDf 129 914 (.inl (o_add 915)) := ⟨ok_iadd dd_129_914, mn_add _⟩
theorem vd_129_915 (E : ac_E) : ac_V E ac_MDf ac_HDf 129 915 (.inl (o_xa (ac_len E) (ac_xs E) 916)) := ⟨ok_xa dd_129_915, mn_xa _ _ _⟩
theorem vd_129_916 (E : ac_E) : ac_V E ac_MDf ac_HDf 129 916 (.inr (.inl (104,2,919,7))) := ac_Vc0 ((ok_callV (T := TX5) (N := 17) rfl rfl (by decide) (by decide +kernel) wm_767 wm_56 wm_764 wm_765 wm_766 dd_129_916).1) (fun _ => rfl)
theorem vd_129_919 (E : ac_E) : ac_V E ac_MDf ac_HDf 129 919 (.inl (o_ist 6 921)) := ⟨ok_istore dd_129_919, mn_ist _ _⟩
theorem vd_129_921 (E : ac_E) : ac_V E ac_MDf ac_HDf 129 921 (.inl (o_ald 2 922)) := ⟨ok_aload_n dd_129_921, mn_ald _ _⟩
theorem vd_129_922 (E : ac_E) : ac_V E ac_MDf ac_HDf 129 922 (.inr (.inl (67,1,925,7))) := ac_Vc0 ((ok_callV (T := TX5) (N := 17) rfl rfl (by decide) (by decide +kernel) wm_694 wm_56 wm_691 wm_692 wm_693 dd_129_922).1) (fun _ => rfl)
theorem vd_129_925 (E : ac_E) : ac_V E ac_MDf ac_HDf 129 925 (.inl (o_ild 5 927)) := ⟨ok_iload dd_129_925, mn_ild _ _⟩
theorem vd_129_927 (E : ac_E) : ac_V E ac_MDf ac_HDf 129 927 (.inl (o_eq 932 930)) := ⟨ok_icmpeq dd_129_927 (by decide), mn_eq _ _⟩
theorem vd_129_930 (E : ac_E) : ac_V E ac_MDf ac_HDf 129 930 (.inl (o_con (.int 0) 931)) := ⟨ok_iconst dd_129_930 (by decide), mn_con _ _⟩
theorem vd_129_931 (E : ac_E) : ac_V E ac_MDf ac_HDf 129 931 (.inr (.inr (.inl 2))) := ⟨fun q => nomatch q, fun q => nomatch q, fun _ => ⟨dd_129_931, rfl⟩⟩
theorem vd_129_932 (E : ac_E) : ac_V E ac_MDf ac_HDf 129 932 (.inl (o_ild 5 934)) := ⟨ok_iload dd_129_932, mn_ild _ _⟩
theorem vd_129_934 (E : ac_E) : ac_V E ac_MDf ac_HDf 129 934 (.inl (o_ne0 949 937)) := ⟨ok_ifne dd_129_934 (by decide), mn_ne0 _ _⟩
theorem vd_129_937 (E : ac_E) : ac_V E ac_MDf ac_HDf 129 937 (.inl (o_ald 3 938)) := ⟨ok_aload_n dd_129_937, mn_ald _ _⟩
theorem vd_129_938 (E : ac_E) : ac_V E ac_MDf ac_HDf 129 938 (.inl (o_con (.int 0) 939)) := ⟨ok_iconst dd_129_938 (by decide), mn_con _ _⟩
theorem vd_129_939 (E : ac_E) : ac_V E ac_MDf ac_HDf 129 939 (.inl (o_la 940)) := ⟨ok_laload dd_129_939, mn_la _⟩
theorem vd_129_940 (E : ac_E) : ac_V E ac_MDf ac_HDf 129 940 (.inl (o_ild 6 942)) := ⟨ok_iload dd_129_940, mn_ild _ _⟩
theorem vd_129_942 (E : ac_E) : ac_V E ac_MDf ac_HDf 129 942 (.inl (o_i2l 943)) := ⟨ok_i2l dd_129_942, mn_i2l _⟩
theorem vd_129_943 (E : ac_E) : ac_V E ac_MDf ac_HDf 129 943 (.inl (o_lcm 944)) := ⟨ok_lcmp dd_129_943, mn_lcm _⟩
theorem vd_129_944 (E : ac_E) : ac_V E ac_MDf ac_HDf 129 944 (.inl (o_eq0 949 947)) := ⟨ok_ifeq dd_129_944 (by decide), mn_eq0 _ _⟩
theorem vd_129_947 (E : ac_E) : ac_V E ac_MDf ac_HDf 129 947 (.inl (o_con (.int 0) 948)) := ⟨ok_iconst dd_129_947 (by decide), mn_con _ _⟩
theorem vd_129_948 (E : ac_E) : ac_V E ac_MDf ac_HDf 129 948 (.inr (.inr (.inl 2))) := ⟨fun q => nomatch q, fun q => nomatch q, fun _ => ⟨dd_129_948, rfl⟩⟩
theorem vd_129_949 (E : ac_E) : ac_V E ac_MDf ac_HDf 129 949 (.inl (o_go 1329)) := ⟨ok_goto dd_129_949 (by decide), mn_go _⟩
theorem vd_129_952 (E : ac_E) : ac_V E ac_MDf ac_HDf 129 952 (.inl (o_ald 1 953)) := ⟨ok_aload_n dd_129_952, mn_ald _ _⟩
theorem vd_129_953 (E : ac_E) : ac_V E ac_MDf ac_HDf 129 953 (.inl (o_ald 0 954)) := ⟨ok_aload_n dd_129_953, mn_ald _ _⟩
theorem vd_129_954 (E : ac_E) : ac_V E ac_MDf ac_HDf 129 954 (.inl (o_ild 4 956)) := ⟨ok_iload dd_129_954, mn_ild _ _⟩
theorem vd_129_956 (E : ac_E) : ac_V E ac_MDf ac_HDf 129 956 (.inl (o_con (.int 1) 957)) := ⟨ok_iconst dd_129_956 (by decide), mn_con _ _⟩
theorem vd_129_957 (E : ac_E) : ac_V E ac_MDf ac_HDf 129 957 (.inl (o_add 958)) := ⟨ok_iadd dd_129_957, mn_add _⟩
theorem vd_129_958 (E : ac_E) : ac_V E ac_MDf ac_HDf 129 958 (.inl (o_xa (ac_len E) (ac_xs E) 959)) := ⟨ok_xa dd_129_958, mn_xa _ _ _⟩
theorem vd_129_959 (E : ac_E) : ac_V E ac_MDf ac_HDf 129 959 (.inl (o_ald 3 960)) := ⟨ok_aload_n dd_129_959, mn_ald _ _⟩
theorem vd_129_960 (E : ac_E) : ac_V E ac_MDf ac_HDf 129 960 (.inr (.inl (124,3,963,0))) := ac_Vc0 (ok_callSX rfl (by decide) (by decide +kernel) wm_544 wm_49 wm_542 wm_543 dd_129_960) (fun _ => rfl)
theorem vd_129_963 (E : ac_E) : ac_V E ac_MDf ac_HDf 129 963 (.inl (o_ist 5 965)) := ⟨ok_istore dd_129_963, mn_ist _ _⟩
theorem vd_129_965 (E : ac_E) : ac_V E ac_MDf ac_HDf 129 965 (.inl (o_ald 2 966)) := ⟨ok_aload_n dd_129_965, mn_ald _ _⟩
theorem vd_129_966 (E : ac_E) : ac_V E ac_MDf ac_HDf 129 966 (.inl (o_ald 0 967)) := ⟨ok_aload_n dd_129_966, mn_ald _ _⟩
theorem vd_129_967 (E : ac_E) : ac_V E ac_MDf ac_HDf 129 967 (.inl (o_ild 4 969)) := ⟨ok_iload dd_129_967, mn_ild _ _⟩
theorem vd_129_969 (E : ac_E) : ac_V E ac_MDf ac_HDf 129 969 (.inl (o_con (.int 1) 970)) := ⟨ok_iconst dd_129_969 (by decide), mn_con _ _⟩
theorem vd_129_970 (E : ac_E) : ac_V E ac_MDf ac_HDf 129 970 (.inl (o_add 971)) := ⟨ok_iadd dd_129_970, mn_add _⟩
theorem vd_129_971 (E : ac_E) : ac_V E ac_MDf ac_HDf 129 971 (.inl (o_xa (ac_len E) (ac_xs E) 972)) := ⟨ok_xa dd_129_971, mn_xa _ _ _⟩
theorem vd_129_972 (E : ac_E) : ac_V E ac_MDf ac_HDf 129 972 (.inr (.inl (105,2,975,7))) := ac_Vc0 ((ok_callV (T := TX5) (N := 17) rfl rfl (by decide) (by decide +kernel) wm_840 wm_56 wm_837 wm_838 wm_839 dd_129_972).1) (fun _ => rfl)
theorem vd_129_975 (E : ac_E) : ac_V E ac_MDf ac_HDf 129 975 (.inl (o_ist 6 977)) := ⟨ok_istore dd_129_975, mn_ist _ _⟩
theorem vd_129_977 (E : ac_E) : ac_V E ac_MDf ac_HDf 129 977 (.inl (o_ald 2 978)) := ⟨ok_aload_n dd_129_977, mn_ald _ _⟩
theorem vd_129_978 (E : ac_E) : ac_V E ac_MDf ac_HDf 129 978 (.inr (.inl (67,1,981,7))) := ac_Vc0 ((ok_callV (T := TX5) (N := 17) rfl rfl (by decide) (by decide +kernel) wm_694 wm_56 wm_691 wm_692 wm_693 dd_129_978).1) (fun _ => rfl)
theorem vd_129_981 (E : ac_E) : ac_V E ac_MDf ac_HDf 129 981 (.inl (o_ild 5 983)) := ⟨ok_iload dd_129_981, mn_ild _ _⟩
theorem vd_129_983 (E : ac_E) : ac_V E ac_MDf ac_HDf 129 983 (.inl (o_eq 988 986)) := ⟨ok_icmpeq dd_129_983 (by decide), mn_eq _ _⟩
theorem vd_129_986 (E : ac_E) : ac_V E ac_MDf ac_HDf 129 986 (.inl (o_con (.int 0) 987)) := ⟨ok_iconst dd_129_986 (by decide), mn_con _ _⟩
theorem vd_129_987 (E : ac_E) : ac_V E ac_MDf ac_HDf 129 987 (.inr (.inr (.inl 2))) := ⟨fun q => nomatch q, fun q => nomatch q, fun _ => ⟨dd_129_987, rfl⟩⟩
theorem vd_129_988 (E : ac_E) : ac_V E ac_MDf ac_HDf 129 988 (.inl (o_ild 5 990)) := ⟨ok_iload dd_129_988, mn_ild _ _⟩
theorem vd_129_990 (E : ac_E) : ac_V E ac_MDf ac_HDf 129 990 (.inl (o_ne0 1005 993)) := ⟨ok_ifne dd_129_990 (by decide), mn_ne0 _ _⟩
theorem vd_129_993 (E : ac_E) : ac_V E ac_MDf ac_HDf 129 993 (.inl (o_ald 3 994)) := ⟨ok_aload_n dd_129_993, mn_ald _ _⟩
theorem vd_129_994 (E : ac_E) : ac_V E ac_MDf ac_HDf 129 994 (.inl (o_con (.int 0) 995)) := ⟨ok_iconst dd_129_994 (by decide), mn_con _ _⟩
theorem vd_129_995 (E : ac_E) : ac_V E ac_MDf ac_HDf 129 995 (.inl (o_la 996)) := ⟨ok_laload dd_129_995, mn_la _⟩
theorem vd_129_996 (E : ac_E) : ac_V E ac_MDf ac_HDf 129 996 (.inl (o_ild 6 998)) := ⟨ok_iload dd_129_996, mn_ild _ _⟩
theorem vd_129_998 (E : ac_E) : ac_V E ac_MDf ac_HDf 129 998 (.inl (o_i2l 999)) := ⟨ok_i2l dd_129_998, mn_i2l _⟩
theorem vd_129_999 (E : ac_E) : ac_V E ac_MDf ac_HDf 129 999 (.inl (o_lcm 1000)) := ⟨ok_lcmp dd_129_999, mn_lcm _⟩
theorem vd_129_1000 (E : ac_E) : ac_V E ac_MDf ac_HDf 129 1000 (.inl (o_eq0 1005 1003)) := ⟨ok_ifeq dd_129_1000 (by decide), mn_eq0 _ _⟩
theorem vd_129_1003 (E : ac_E) : ac_V E ac_MDf ac_HDf 129 1003 (.inl (o_con (.int 0) 1004)) := ⟨ok_iconst dd_129_1003 (by decide), mn_con _ _⟩
theorem vd_129_1004 (E : ac_E) : ac_V E ac_MDf ac_HDf 129 1004 (.inr (.inr (.inl 2))) := ⟨fun q => nomatch q, fun q => nomatch q, fun _ => ⟨dd_129_1004, rfl⟩⟩
theorem vd_129_1005 (E : ac_E) : ac_V E ac_MDf ac_HDf 129 1005 (.inl (o_go 1329)) := ⟨ok_goto dd_129_1005 (by decide), mn_go _⟩
theorem vd_129_1008 (E : ac_E) : ac_V E ac_MDf ac_HDf 129 1008 (.inl (o_ald 1 1009)) := ⟨ok_aload_n dd_129_1008, mn_ald _ _⟩
theorem vd_129_1009 (E : ac_E) : ac_V E ac_MDf ac_HDf 129 1009 (.inl (o_ald 0 1010)) := ⟨ok_aload_n dd_129_1009, mn_ald _ _⟩
theorem vd_129_1010 (E : ac_E) : ac_V E ac_MDf ac_HDf 129 1010 (.inl (o_ild 4 1012)) := ⟨ok_iload dd_129_1010, mn_ild _ _⟩
theorem vd_129_1012 (E : ac_E) : ac_V E ac_MDf ac_HDf 129 1012 (.inl (o_con (.int 1) 1013)) := ⟨ok_iconst dd_129_1012 (by decide), mn_con _ _⟩
theorem vd_129_1013 (E : ac_E) : ac_V E ac_MDf ac_HDf 129 1013 (.inl (o_add 1014)) := ⟨ok_iadd dd_129_1013, mn_add _⟩
theorem vd_129_1014 (E : ac_E) : ac_V E ac_MDf ac_HDf 129 1014 (.inl (o_xa (ac_len E) (ac_xs E) 1015)) := ⟨ok_xa dd_129_1014, mn_xa _ _ _⟩
theorem vd_129_1015 (E : ac_E) : ac_V E ac_MDf ac_HDf 129 1015 (.inl (o_ald 0 1016)) := ⟨ok_aload_n dd_129_1015, mn_ald _ _⟩
theorem vd_129_1016 (E : ac_E) : ac_V E ac_MDf ac_HDf 129 1016 (.inl (o_ild 4 1018)) := ⟨ok_iload dd_129_1016, mn_ild _ _⟩
theorem vd_129_1018 (E : ac_E) : ac_V E ac_MDf ac_HDf 129 1018 (.inl (o_con (.int 2) 1019)) := ⟨ok_iconst dd_129_1018 (by decide), mn_con _ _⟩
theorem vd_129_1019 (E : ac_E) : ac_V E ac_MDf ac_HDf 129 1019 (.inl (o_add 1020)) := ⟨ok_iadd dd_129_1019, mn_add _⟩
theorem vd_129_1020 (E : ac_E) : ac_V E ac_MDf ac_HDf 129 1020 (.inl (o_xa (ac_len E) (ac_xs E) 1021)) := ⟨ok_xa dd_129_1020, mn_xa _ _ _⟩
theorem vd_129_1021 (E : ac_E) : ac_V E ac_MDf ac_HDf 129 1021 (.inl (o_ald 0 1022)) := ⟨ok_aload_n dd_129_1021, mn_ald _ _⟩
theorem vd_129_1022 (E : ac_E) : ac_V E ac_MDf ac_HDf 129 1022 (.inl (o_ild 4 1024)) := ⟨ok_iload dd_129_1022, mn_ild _ _⟩
theorem vd_129_1024 (E : ac_E) : ac_V E ac_MDf ac_HDf 129 1024 (.inl (o_con (.int 3) 1025)) := ⟨ok_iconst dd_129_1024 (by decide), mn_con _ _⟩
theorem vd_129_1025 (E : ac_E) : ac_V E ac_MDf ac_HDf 129 1025 (.inl (o_add 1026)) := ⟨ok_iadd dd_129_1025, mn_add _⟩
theorem vd_129_1026 (E : ac_E) : ac_V E ac_MDf ac_HDf 129 1026 (.inl (o_xa (ac_len E) (ac_xs E) 1027)) := ⟨ok_xa dd_129_1026, mn_xa _ _ _⟩
theorem vd_129_1027 (E : ac_E) : ac_V E ac_MDf ac_HDf 129 1027 (.inl (o_ald 0 1028)) := ⟨ok_aload_n dd_129_1027, mn_ald _ _⟩
theorem vd_129_1028 (E : ac_E) : ac_V E ac_MDf ac_HDf 129 1028 (.inl (o_ild 4 1030)) := ⟨ok_iload dd_129_1028, mn_ild _ _⟩
theorem vd_129_1030 (E : ac_E) : ac_V E ac_MDf ac_HDf 129 1030 (.inl (o_con (.int 4) 1031)) := ⟨ok_iconst dd_129_1030 (by decide), mn_con _ _⟩
theorem vd_129_1031 (E : ac_E) : ac_V E ac_MDf ac_HDf 129 1031 (.inl (o_add 1032)) := ⟨ok_iadd dd_129_1031, mn_add _⟩
theorem vd_129_1032 (E : ac_E) : ac_V E ac_MDf ac_HDf 129 1032 (.inl (o_xa (ac_len E) (ac_xs E) 1033)) := ⟨ok_xa dd_129_1032, mn_xa _ _ _⟩
theorem vd_129_1033 (E : ac_E) : ac_V E ac_MDf ac_HDf 129 1033 (.inl (o_ald 0 1034)) := ⟨ok_aload_n dd_129_1033, mn_ald _ _⟩
theorem vd_129_1034 (E : ac_E) : ac_V E ac_MDf ac_HDf 129 1034 (.inl (o_ild 4 1036)) := ⟨ok_iload dd_129_1034, mn_ild _ _⟩
theorem vd_129_1036 (E : ac_E) : ac_V E ac_MDf ac_HDf 129 1036 (.inl (o_con (.int 5) 1037)) := ⟨ok_iconst dd_129_1036 (by decide), mn_con _ _⟩
theorem vd_129_1037 (E : ac_E) : ac_V E ac_MDf ac_HDf 129 1037 (.inl (o_add 1038)) := ⟨ok_iadd dd_129_1037, mn_add _⟩
theorem vd_129_1038 (E : ac_E) : ac_V E ac_MDf ac_HDf 129 1038 (.inl (o_xa (ac_len E) (ac_xs E) 1039)) := ⟨ok_xa dd_129_1038, mn_xa _ _ _⟩
theorem vd_129_1039 (E : ac_E) : ac_V E ac_MDf ac_HDf 129 1039 (.inl (o_ald 3 1040)) := ⟨ok_aload_n dd_129_1039, mn_ald _ _⟩
theorem vd_129_1040 (E : ac_E) : ac_V E ac_MDf ac_HDf 129 1040 (.inr (.inl (125,7,1043,0))) := ac_Vc0 (ok_callSX rfl (by decide) (by decide +kernel) wm_576 wm_49 wm_574 wm_575 dd_129_1040) (fun _ => rfl)
theorem vd_129_1043 (E : ac_E) : ac_V E ac_MDf ac_HDf 129 1043 (.inl (o_ist 5 1045)) := ⟨ok_istore dd_129_1043, mn_ist _ _⟩
theorem vd_129_1045 (E : ac_E) : ac_V E ac_MDf ac_HDf 129 1045 (.inl (o_ald 2 1046)) := ⟨ok_aload_n dd_129_1045, mn_ald _ _⟩
theorem vd_129_1046 (E : ac_E) : ac_V E ac_MDf ac_HDf 129 1046 (.inl (o_ald 0 1047)) := ⟨ok_aload_n dd_129_1046, mn_ald _ _⟩
theorem vd_129_1047 (E : ac_E) : ac_V E ac_MDf ac_HDf 129 1047 (.inl (o_ild 4 1049)) := ⟨ok_iload dd_129_1047, mn_ild _ _⟩
theorem vd_129_1049 (E : ac_E) : ac_V E ac_MDf ac_HDf 129 1049 (.inl (o_con (.int 1) 1050)) := ⟨ok_iconst dd_129_1049 (by decide), mn_con _ _⟩
theorem vd_129_1050 (E : ac_E) : ac_V E ac_MDf ac_HDf 129 1050 (.inl (o_add 1051)) := ⟨ok_iadd dd_129_1050, mn_add _⟩
theorem vd_129_1051 (E : ac_E) : ac_V E ac_MDf ac_HDf 129 1051 (.inl (o_xa (ac_len E) (ac_xs E) 1052)) := ⟨ok_xa dd_129_1051, mn_xa _ _ _⟩
theorem vd_129_1052 (E : ac_E) : ac_V E ac_MDf ac_HDf 129 1052 (.inl (o_ald 0 1053)) := ⟨ok_aload_n dd_129_1052, mn_ald _ _⟩
theorem vd_129_1053 (E : ac_E) : ac_V E ac_MDf ac_HDf 129 1053 (.inl (o_ild 4 1055)) := ⟨ok_iload dd_129_1053, mn_ild _ _⟩
theorem vd_129_1055 (E : ac_E) : ac_V E ac_MDf ac_HDf 129 1055 (.inl (o_con (.int 2) 1056)) := ⟨ok_iconst dd_129_1055 (by decide), mn_con _ _⟩
theorem vd_129_1056 (E : ac_E) : ac_V E ac_MDf ac_HDf 129 1056 (.inl (o_add 1057)) := ⟨ok_iadd dd_129_1056, mn_add _⟩
theorem vd_129_1057 (E : ac_E) : ac_V E ac_MDf ac_HDf 129 1057 (.inl (o_xa (ac_len E) (ac_xs E) 1058)) := ⟨ok_xa dd_129_1057, mn_xa _ _ _⟩
theorem vd_129_1058 (E : ac_E) : ac_V E ac_MDf ac_HDf 129 1058 (.inl (o_ald 0 1059)) := ⟨ok_aload_n dd_129_1058, mn_ald _ _⟩
theorem vd_129_1059 (E : ac_E) : ac_V E ac_MDf ac_HDf 129 1059 (.inl (o_ild 4 1061)) := ⟨ok_iload dd_129_1059, mn_ild _ _⟩
theorem vd_129_1061 (E : ac_E) : ac_V E ac_MDf ac_HDf 129 1061 (.inl (o_con (.int 3) 1062)) := ⟨ok_iconst dd_129_1061 (by decide), mn_con _ _⟩
theorem vd_129_1062 (E : ac_E) : ac_V E ac_MDf ac_HDf 129 1062 (.inl (o_add 1063)) := ⟨ok_iadd dd_129_1062, mn_add _⟩
theorem vd_129_1063 (E : ac_E) : ac_V E ac_MDf ac_HDf 129 1063 (.inl (o_xa (ac_len E) (ac_xs E) 1064)) := ⟨ok_xa dd_129_1063, mn_xa _ _ _⟩
theorem vd_129_1064 (E : ac_E) : ac_V E ac_MDf ac_HDf 129 1064 (.inl (o_ald 0 1065)) := ⟨ok_aload_n dd_129_1064, mn_ald _ _⟩
theorem vd_129_1065 (E : ac_E) : ac_V E ac_MDf ac_HDf 129 1065 (.inl (o_ild 4 1067)) := ⟨ok_iload dd_129_1065, mn_ild _ _⟩
theorem vd_129_1067 (E : ac_E) : ac_V E ac_MDf ac_HDf 129 1067 (.inl (o_con (.int 4) 1068)) := ⟨ok_iconst dd_129_1067 (by decide), mn_con _ _⟩
theorem vd_129_1068 (E : ac_E) : ac_V E ac_MDf ac_HDf 129 1068 (.inl (o_add 1069)) := ⟨ok_iadd dd_129_1068, mn_add _⟩
theorem vd_129_1069 (E : ac_E) : ac_V E ac_MDf ac_HDf 129 1069 (.inl (o_xa (ac_len E) (ac_xs E) 1070)) := ⟨ok_xa dd_129_1069, mn_xa _ _ _⟩
theorem vd_129_1070 (E : ac_E) : ac_V E ac_MDf ac_HDf 129 1070 (.inl (o_ald 0 1071)) := ⟨ok_aload_n dd_129_1070, mn_ald _ _⟩
theorem vd_129_1071 (E : ac_E) : ac_V E ac_MDf ac_HDf 129 1071 (.inl (o_ild 4 1073)) := ⟨ok_iload dd_129_1071, mn_ild _ _⟩
theorem vd_129_1073 (E : ac_E) : ac_V E ac_MDf ac_HDf 129 1073 (.inl (o_con (.int 5) 1074)) := ⟨ok_iconst dd_129_1073 (by decide), mn_con _ _⟩
theorem vd_129_1074 (E : ac_E) : ac_V E ac_MDf ac_HDf 129 1074 (.inl (o_add 1075)) := ⟨ok_iadd dd_129_1074, mn_add _⟩
theorem vd_129_1075 (E : ac_E) : ac_V E ac_MDf ac_HDf 129 1075 (.inl (o_xa (ac_len E) (ac_xs E) 1076)) := ⟨ok_xa dd_129_1075, mn_xa _ _ _⟩
theorem vd_129_1076 (E : ac_E) : ac_V E ac_MDf ac_HDf 129 1076 (.inr (.inl (107,6,1079,7))) := ac_Vc0 ((ok_callV (T := TX5) (N := 17) rfl rfl (by decide) (by decide +kernel) wm_844 wm_56 wm_841 wm_842 wm_843 dd_129_1076).1) (fun _ => rfl)
theorem vd_129_1079 (E : ac_E) : ac_V E ac_MDf ac_HDf 129 1079 (.inl (o_ist 6 1081)) := ⟨ok_istore dd_129_1079, mn_ist _ _⟩
theorem vd_129_1081 (E : ac_E) : ac_V E ac_MDf ac_HDf 129 1081 (.inl (o_ald 2 1082)) := ⟨ok_aload_n dd_129_1081, mn_ald _ _⟩
theorem vd_129_1082 (E : ac_E) : ac_V E ac_MDf ac_HDf 129 1082 (.inr (.inl (67,1,1085,7))) := ac_Vc0 ((ok_callV (T := TX5) (N := 17) rfl rfl (by decide) (by decide +kernel) wm_694 wm_56 wm_691 wm_692 wm_693 dd_129_1082).1) (fun _ => rfl)
theorem vd_129_1085 (E : ac_E) : ac_V E ac_MDf ac_HDf 129 1085 (.inl (o_ild 5 1087)) := ⟨ok_iload dd_129_1085, mn_ild _ _⟩
theorem vd_129_1087 (E : ac_E) : ac_V E ac_MDf ac_HDf 129 1087 (.inl (o_eq 1092 1090)) := ⟨ok_icmpeq dd_129_1087 (by decide), mn_eq _ _⟩
theorem vd_129_1090 (E : ac_E) : ac_V E ac_MDf ac_HDf 129 1090 (.inl (o_con (.int 0) 1091)) := ⟨ok_iconst dd_129_1090 (by decide), mn_con _ _⟩
theorem vd_129_1091 (E : ac_E) : ac_V E ac_MDf ac_HDf 129 1091 (.inr (.inr (.inl 2))) := ⟨fun q => nomatch q, fun q => nomatch q, fun _ => ⟨dd_129_1091, rfl⟩⟩
theorem vd_129_1092 (E : ac_E) : ac_V E ac_MDf ac_HDf 129 1092 (.inl (o_ild 5 1094)) := ⟨ok_iload dd_129_1092, mn_ild _ _⟩
theorem vd_129_1094 (E : ac_E) : ac_V E ac_MDf ac_HDf 129 1094 (.inl (o_ne0 1109 1097)) := ⟨ok_ifne dd_129_1094 (by decide), mn_ne0 _ _⟩
theorem vd_129_1097 (E : ac_E) : ac_V E ac_MDf ac_HDf 129 1097 (.inl (o_ald 3 1098)) := ⟨ok_aload_n dd_129_1097, mn_ald _ _⟩
theorem vd_129_1098 (E : ac_E) : ac_V E ac_MDf ac_HDf 129 1098 (.inl (o_con (.int 0) 1099)) := ⟨ok_iconst dd_129_1098 (by decide), mn_con _ _⟩
theorem vd_129_1099 (E : ac_E) : ac_V E ac_MDf ac_HDf 129 1099 (.inl (o_la 1100)) := ⟨ok_laload dd_129_1099, mn_la _⟩
theorem vd_129_1100 (E : ac_E) : ac_V E ac_MDf ac_HDf 129 1100 (.inl (o_ild 6 1102)) := ⟨ok_iload dd_129_1100, mn_ild _ _⟩
theorem vd_129_1102 (E : ac_E) : ac_V E ac_MDf ac_HDf 129 1102 (.inl (o_i2l 1103)) := ⟨ok_i2l dd_129_1102, mn_i2l _⟩
theorem vd_129_1103 (E : ac_E) : ac_V E ac_MDf ac_HDf 129 1103 (.inl (o_lcm 1104)) := ⟨ok_lcmp dd_129_1103, mn_lcm _⟩
theorem vd_129_1104 (E : ac_E) : ac_V E ac_MDf ac_HDf 129 1104 (.inl (o_eq0 1109 1107)) := ⟨ok_ifeq dd_129_1104 (by decide), mn_eq0 _ _⟩
theorem vd_129_1107 (E : ac_E) : ac_V E ac_MDf ac_HDf 129 1107 (.inl (o_con (.int 0) 1108)) := ⟨ok_iconst dd_129_1107 (by decide), mn_con _ _⟩
theorem vd_129_1108 (E : ac_E) : ac_V E ac_MDf ac_HDf 129 1108 (.inr (.inr (.inl 2))) := ⟨fun q => nomatch q, fun q => nomatch q, fun _ => ⟨dd_129_1108, rfl⟩⟩
theorem vd_129_1109 (E : ac_E) : ac_V E ac_MDf ac_HDf 129 1109 (.inl (o_go 1329)) := ⟨ok_goto dd_129_1109 (by decide), mn_go _⟩
theorem vd_129_1112 (E : ac_E) : ac_V E ac_MDf ac_HDf 129 1112 (.inl (o_ald 1 1113)) := ⟨ok_aload_n dd_129_1112, mn_ald _ _⟩
theorem vd_129_1113 (E : ac_E) : ac_V E ac_MDf ac_HDf 129 1113 (.inl (o_ald 0 1114)) := ⟨ok_aload_n dd_129_1113, mn_ald _ _⟩
theorem vd_129_1114 (E : ac_E) : ac_V E ac_MDf ac_HDf 129 1114 (.inl (o_ild 4 1116)) := ⟨ok_iload dd_129_1114, mn_ild _ _⟩
theorem vd_129_1116 (E : ac_E) : ac_V E ac_MDf ac_HDf 129 1116 (.inl (o_con (.int 1) 1117)) := ⟨ok_iconst dd_129_1116 (by decide), mn_con _ _⟩
theorem vd_129_1117 (E : ac_E) : ac_V E ac_MDf ac_HDf 129 1117 (.inl (o_add 1118)) := ⟨ok_iadd dd_129_1117, mn_add _⟩
theorem vd_129_1118 (E : ac_E) : ac_V E ac_MDf ac_HDf 129 1118 (.inl (o_xa (ac_len E) (ac_xs E) 1119)) := ⟨ok_xa dd_129_1118, mn_xa _ _ _⟩
theorem vd_129_1119 (E : ac_E) : ac_V E ac_MDf ac_HDf 129 1119 (.inl (o_ald 0 1120)) := ⟨ok_aload_n dd_129_1119, mn_ald _ _⟩
theorem vd_129_1120 (E : ac_E) : ac_V E ac_MDf ac_HDf 129 1120 (.inl (o_ild 4 1122)) := ⟨ok_iload dd_129_1120, mn_ild _ _⟩
theorem vd_129_1122 (E : ac_E) : ac_V E ac_MDf ac_HDf 129 1122 (.inl (o_con (.int 2) 1123)) := ⟨ok_iconst dd_129_1122 (by decide), mn_con _ _⟩
theorem vd_129_1123 (E : ac_E) : ac_V E ac_MDf ac_HDf 129 1123 (.inl (o_add 1124)) := ⟨ok_iadd dd_129_1123, mn_add _⟩
theorem vd_129_1124 (E : ac_E) : ac_V E ac_MDf ac_HDf 129 1124 (.inl (o_xa (ac_len E) (ac_xs E) 1125)) := ⟨ok_xa dd_129_1124, mn_xa _ _ _⟩
theorem vd_129_1125 (E : ac_E) : ac_V E ac_MDf ac_HDf 129 1125 (.inl (o_ald 3 1126)) := ⟨ok_aload_n dd_129_1125, mn_ald _ _⟩
theorem vd_129_1126 (E : ac_E) : ac_V E ac_MDf ac_HDf 129 1126 (.inr (.inl (126,4,1129,0))) := ac_Vc0 (ok_callSX rfl (by decide) (by decide +kernel) wm_585 wm_49 wm_583 wm_584 dd_129_1126) (fun _ => rfl)
theorem vd_129_1129 (E : ac_E) : ac_V E ac_MDf ac_HDf 129 1129 (.inl (o_ist 5 1131)) := ⟨ok_istore dd_129_1129, mn_ist _ _⟩
theorem vd_129_1131 (E : ac_E) : ac_V E ac_MDf ac_HDf 129 1131 (.inl (o_ald 2 1132)) := ⟨ok_aload_n dd_129_1131, mn_ald _ _⟩
theorem vd_129_1132 (E : ac_E) : ac_V E ac_MDf ac_HDf 129 1132 (.inl (o_ald 0 1133)) := ⟨ok_aload_n dd_129_1132, mn_ald _ _⟩
theorem vd_129_1133 (E : ac_E) : ac_V E ac_MDf ac_HDf 129 1133 (.inl (o_ild 4 1135)) := ⟨ok_iload dd_129_1133, mn_ild _ _⟩
theorem vd_129_1135 (E : ac_E) : ac_V E ac_MDf ac_HDf 129 1135 (.inl (o_con (.int 1) 1136)) := ⟨ok_iconst dd_129_1135 (by decide), mn_con _ _⟩
theorem vd_129_1136 (E : ac_E) : ac_V E ac_MDf ac_HDf 129 1136 (.inl (o_add 1137)) := ⟨ok_iadd dd_129_1136, mn_add _⟩
theorem vd_129_1137 (E : ac_E) : ac_V E ac_MDf ac_HDf 129 1137 (.inl (o_xa (ac_len E) (ac_xs E) 1138)) := ⟨ok_xa dd_129_1137, mn_xa _ _ _⟩
theorem vd_129_1138 (E : ac_E) : ac_V E ac_MDf ac_HDf 129 1138 (.inl (o_ald 0 1139)) := ⟨ok_aload_n dd_129_1138, mn_ald _ _⟩
theorem vd_129_1139 (E : ac_E) : ac_V E ac_MDf ac_HDf 129 1139 (.inl (o_ild 4 1141)) := ⟨ok_iload dd_129_1139, mn_ild _ _⟩
theorem vd_129_1141 (E : ac_E) : ac_V E ac_MDf ac_HDf 129 1141 (.inl (o_con (.int 2) 1142)) := ⟨ok_iconst dd_129_1141 (by decide), mn_con _ _⟩
theorem vd_129_1142 (E : ac_E) : ac_V E ac_MDf ac_HDf 129 1142 (.inl (o_add 1143)) := ⟨ok_iadd dd_129_1142, mn_add _⟩
theorem vd_129_1143 (E : ac_E) : ac_V E ac_MDf ac_HDf 129 1143 (.inl (o_xa (ac_len E) (ac_xs E) 1144)) := ⟨ok_xa dd_129_1143, mn_xa _ _ _⟩
theorem vd_129_1144 (E : ac_E) : ac_V E ac_MDf ac_HDf 129 1144 (.inr (.inl (108,3,1147,7))) := ac_Vc0 ((ok_callV (T := TX5) (N := 17) rfl rfl (by decide) (by decide +kernel) wm_851 wm_56 wm_848 wm_849 wm_850 dd_129_1144).1) (fun _ => rfl)
theorem vd_129_1147 (E : ac_E) : ac_V E ac_MDf ac_HDf 129 1147 (.inl (o_ist 6 1149)) := ⟨ok_istore dd_129_1147, mn_ist _ _⟩
theorem vd_129_1149 (E : ac_E) : ac_V E ac_MDf ac_HDf 129 1149 (.inl (o_ald 2 1150)) := ⟨ok_aload_n dd_129_1149, mn_ald _ _⟩
theorem vd_129_1150 (E : ac_E) : ac_V E ac_MDf ac_HDf 129 1150 (.inr (.inl (67,1,1153,7))) := ac_Vc0 ((ok_callV (T := TX5) (N := 17) rfl rfl (by decide) (by decide +kernel) wm_694 wm_56 wm_691 wm_692 wm_693 dd_129_1150).1) (fun _ => rfl)
theorem vd_129_1153 (E : ac_E) : ac_V E ac_MDf ac_HDf 129 1153 (.inl (o_ild 5 1155)) := ⟨ok_iload dd_129_1153, mn_ild _ _⟩
theorem vd_129_1155 (E : ac_E) : ac_V E ac_MDf ac_HDf 129 1155 (.inl (o_eq 1160 1158)) := ⟨ok_icmpeq dd_129_1155 (by decide), mn_eq _ _⟩
theorem vd_129_1158 (E : ac_E) : ac_V E ac_MDf ac_HDf 129 1158 (.inl (o_con (.int 0) 1159)) := ⟨ok_iconst dd_129_1158 (by decide), mn_con _ _⟩
theorem vd_129_1159 (E : ac_E) : ac_V E ac_MDf ac_HDf 129 1159 (.inr (.inr (.inl 2))) := ⟨fun q => nomatch q, fun q => nomatch q, fun _ => ⟨dd_129_1159, rfl⟩⟩
theorem vd_129_1160 (E : ac_E) : ac_V E ac_MDf ac_HDf 129 1160 (.inl (o_ild 5 1162)) := ⟨ok_iload dd_129_1160, mn_ild _ _⟩
theorem vd_129_1162 (E : ac_E) : ac_V E ac_MDf ac_HDf 129 1162 (.inl (o_ne0 1177 1165)) := ⟨ok_ifne dd_129_1162 (by decide), mn_ne0 _ _⟩
theorem vd_129_1165 (E : ac_E) : ac_V E ac_MDf ac_HDf 129 1165 (.inl (o_ald 3 1166)) := ⟨ok_aload_n dd_129_1165, mn_ald _ _⟩
theorem vd_129_1166 (E : ac_E) : ac_V E ac_MDf ac_HDf 129 1166 (.inl (o_con (.int 0) 1167)) := ⟨ok_iconst dd_129_1166 (by decide), mn_con _ _⟩
theorem vd_129_1167 (E : ac_E) : ac_V E ac_MDf ac_HDf 129 1167 (.inl (o_la 1168)) := ⟨ok_laload dd_129_1167, mn_la _⟩
theorem vd_129_1168 (E : ac_E) : ac_V E ac_MDf ac_HDf 129 1168 (.inl (o_ild 6 1170)) := ⟨ok_iload dd_129_1168, mn_ild _ _⟩
theorem vd_129_1170 (E : ac_E) : ac_V E ac_MDf ac_HDf 129 1170 (.inl (o_i2l 1171)) := ⟨ok_i2l dd_129_1170, mn_i2l _⟩
theorem vd_129_1171 (E : ac_E) : ac_V E ac_MDf ac_HDf 129 1171 (.inl (o_lcm 1172)) := ⟨ok_lcmp dd_129_1171, mn_lcm _⟩
theorem vd_129_1172 (E : ac_E) : ac_V E ac_MDf ac_HDf 129 1172 (.inl (o_eq0 1177 1175)) := ⟨ok_ifeq dd_129_1172 (by decide), mn_eq0 _ _⟩
theorem vd_129_1175 (E : ac_E) : ac_V E ac_MDf ac_HDf 129 1175 (.inl (o_con (.int 0) 1176)) := ⟨ok_iconst dd_129_1175 (by decide), mn_con _ _⟩
theorem vd_129_1176 (E : ac_E) : ac_V E ac_MDf ac_HDf 129 1176 (.inr (.inr (.inl 2))) := ⟨fun q => nomatch q, fun q => nomatch q, fun _ => ⟨dd_129_1176, rfl⟩⟩
theorem vd_129_1177 (E : ac_E) : ac_V E ac_MDf ac_HDf 129 1177 (.inl (o_go 1329)) := ⟨ok_goto dd_129_1177 (by decide), mn_go _⟩
theorem vd_129_1180 (E : ac_E) : ac_V E ac_MDf ac_HDf 129 1180 (.inl (o_ald 1 1181)) := ⟨ok_aload_n dd_129_1180, mn_ald _ _⟩
theorem vd_129_1181 (E : ac_E) : ac_V E ac_MDf ac_HDf 129 1181 (.inr (.inl (39,1,1184,6))) := ac_Vc0 ((ok_callV (T := TX4) (N := 12) rfl rfl (by decide) (by decide +kernel) wm_207 wm_50 wm_204 wm_205 wm_206 dd_129_1181).1) (fun _ => rfl)
theorem vd_129_1184 (E : ac_E) : ac_V E ac_MDf ac_HDf 129 1184 (.inl (o_ald 2 1185)) := ⟨ok_aload_n dd_129_1184, mn_ald _ _⟩
theorem vd_129_1185 (E : ac_E) : ac_V E ac_MDf ac_HDf 129 1185 (.inr (.inl (109,1,1188,7))) := ac_Vc0 ((ok_callV (T := TX5) (N := 17) rfl rfl (by decide) (by decide +kernel) wm_855 wm_56 wm_852 wm_853 wm_854 dd_129_1185).1) (fun _ => rfl)
theorem vd_129_1188 (E : ac_E) : ac_V E ac_MDf ac_HDf 129 1188 (.inl (o_eq 1329 1191)) := ⟨ok_icmpeq dd_129_1188 (by decide), mn_eq _ _⟩
theorem vd_129_1191 (E : ac_E) : ac_V E ac_MDf ac_HDf 129 1191 (.inl (o_con (.int 0) 1192)) := ⟨ok_iconst dd_129_1191 (by decide), mn_con _ _⟩
theorem vd_129_1192 (E : ac_E) : ac_V E ac_MDf ac_HDf 129 1192 (.inr (.inr (.inl 2))) := ⟨fun q => nomatch q, fun q => nomatch q, fun _ => ⟨dd_129_1192, rfl⟩⟩
theorem vd_129_1193 (E : ac_E) : ac_V E ac_MDf ac_HDf 129 1193 (.inl (o_ald 1 1194)) := ⟨ok_aload_n dd_129_1193, mn_ald _ _⟩
theorem vd_129_1194 (E : ac_E) : ac_V E ac_MDf ac_HDf 129 1194 (.inl (o_ald 0 1195)) := ⟨ok_aload_n dd_129_1194, mn_ald _ _⟩
theorem vd_129_1195 (E : ac_E) : ac_V E ac_MDf ac_HDf 129 1195 (.inl (o_ild 4 1197)) := ⟨ok_iload dd_129_1195, mn_ild _ _⟩
theorem vd_129_1197 (E : ac_E) : ac_V E ac_MDf ac_HDf 129 1197 (.inl (o_con (.int 1) 1198)) := ⟨ok_iconst dd_129_1197 (by decide), mn_con _ _⟩
theorem vd_129_1198 (E : ac_E) : ac_V E ac_MDf ac_HDf 129 1198 (.inl (o_add 1199)) := ⟨ok_iadd dd_129_1198, mn_add _⟩
theorem vd_129_1199 (E : ac_E) : ac_V E ac_MDf ac_HDf 129 1199 (.inl (o_xa (ac_len E) (ac_xs E) 1200)) := ⟨ok_xa dd_129_1199, mn_xa _ _ _⟩
theorem vd_129_1200 (E : ac_E) : ac_V E ac_MDf ac_HDf 129 1200 (.inl (o_ald 0 1201)) := ⟨ok_aload_n dd_129_1200, mn_ald _ _⟩
theorem vd_129_1201 (E : ac_E) : ac_V E ac_MDf ac_HDf 129 1201 (.inl (o_ild 4 1203)) := ⟨ok_iload dd_129_1201, mn_ild _ _⟩
theorem vd_129_1203 (E : ac_E) : ac_V E ac_MDf ac_HDf 129 1203 (.inl (o_con (.int 2) 1204)) := ⟨ok_iconst dd_129_1203 (by decide), mn_con _ _⟩
theorem vd_129_1204 (E : ac_E) : ac_V E ac_MDf ac_HDf 129 1204 (.inl (o_add 1205)) := ⟨ok_iadd dd_129_1204, mn_add _⟩
theorem vd_129_1205 (E : ac_E) : ac_V E ac_MDf ac_HDf 129 1205 (.inl (o_xa (ac_len E) (ac_xs E) 1206)) := ⟨ok_xa dd_129_1205, mn_xa _ _ _⟩
theorem vd_129_1206 (E : ac_E) : ac_V E ac_MDf ac_HDf 129 1206 (.inl (o_ald 0 1207)) := ⟨ok_aload_n dd_129_1206, mn_ald _ _⟩
theorem vd_129_1207 (E : ac_E) : ac_V E ac_MDf ac_HDf 129 1207 (.inl (o_ild 4 1209)) := ⟨ok_iload dd_129_1207, mn_ild _ _⟩
theorem vd_129_1209 (E : ac_E) : ac_V E ac_MDf ac_HDf 129 1209 (.inl (o_con (.int 3) 1210)) := ⟨ok_iconst dd_129_1209 (by decide), mn_con _ _⟩
theorem vd_129_1210 (E : ac_E) : ac_V E ac_MDf ac_HDf 129 1210 (.inl (o_add 1211)) := ⟨ok_iadd dd_129_1210, mn_add _⟩
theorem vd_129_1211 (E : ac_E) : ac_V E ac_MDf ac_HDf 129 1211 (.inl (o_xa (ac_len E) (ac_xs E) 1212)) := ⟨ok_xa dd_129_1211, mn_xa _ _ _⟩
theorem vd_129_1212 (E : ac_E) : ac_V E ac_MDf ac_HDf 129 1212 (.inl (o_ald 3 1213)) := ⟨ok_aload_n dd_129_1212, mn_ald _ _⟩
theorem vd_129_1213 (E : ac_E) : ac_V E ac_MDf ac_HDf 129 1213 (.inr (.inl (127,5,1216,0))) := ac_Vc0 (ok_callSX rfl (by decide) (by decide +kernel) wm_592 wm_49 wm_590 wm_591 dd_129_1213) (fun _ => rfl)
theorem vd_129_1216 (E : ac_E) : ac_V E ac_MDf ac_HDf 129 1216 (.inl (o_ist 5 1218)) := ⟨ok_istore dd_129_1216, mn_ist _ _⟩
theorem vd_129_1218 (E : ac_E) : ac_V E ac_MDf ac_HDf 129 1218 (.inl (o_ald 2 1219)) := ⟨ok_aload_n dd_129_1218, mn_ald _ _⟩
theorem vd_129_1219 (E : ac_E) : ac_V E ac_MDf ac_HDf 129 1219 (.inl (o_ald 0 1220)) := ⟨ok_aload_n dd_129_1219, mn_ald _ _⟩
theorem vd_129_1220 (E : ac_E) : ac_V E ac_MDf ac_HDf 129 1220 (.inl (o_ild 4 1222)) := ⟨ok_iload dd_129_1220, mn_ild _ _⟩
theorem vd_129_1222 (E : ac_E) : ac_V E ac_MDf ac_HDf 129 1222 (.inl (o_con (.int 1) 1223)) := ⟨ok_iconst dd_129_1222 (by decide), mn_con _ _⟩
theorem vd_129_1223 (E : ac_E) : ac_V E ac_MDf ac_HDf 129 1223 (.inl (o_add 1224)) := ⟨ok_iadd dd_129_1223, mn_add _⟩
theorem vd_129_1224 (E : ac_E) : ac_V E ac_MDf ac_HDf 129 1224 (.inl (o_xa (ac_len E) (ac_xs E) 1225)) := ⟨ok_xa dd_129_1224, mn_xa _ _ _⟩
theorem vd_129_1225 (E : ac_E) : ac_V E ac_MDf ac_HDf 129 1225 (.inl (o_ald 0 1226)) := ⟨ok_aload_n dd_129_1225, mn_ald _ _⟩
theorem vd_129_1226 (E : ac_E) : ac_V E ac_MDf ac_HDf 129 1226 (.inl (o_ild 4 1228)) := ⟨ok_iload dd_129_1226, mn_ild _ _⟩
theorem vd_129_1228 (E : ac_E) : ac_V E ac_MDf ac_HDf 129 1228 (.inl (o_con (.int 2) 1229)) := ⟨ok_iconst dd_129_1228 (by decide), mn_con _ _⟩
theorem vd_129_1229 (E : ac_E) : ac_V E ac_MDf ac_HDf 129 1229 (.inl (o_add 1230)) := ⟨ok_iadd dd_129_1229, mn_add _⟩
theorem vd_129_1230 (E : ac_E) : ac_V E ac_MDf ac_HDf 129 1230 (.inl (o_xa (ac_len E) (ac_xs E) 1231)) := ⟨ok_xa dd_129_1230, mn_xa _ _ _⟩
theorem vd_129_1231 (E : ac_E) : ac_V E ac_MDf ac_HDf 129 1231 (.inl (o_ald 0 1232)) := ⟨ok_aload_n dd_129_1231, mn_ald _ _⟩
theorem vd_129_1232 (E : ac_E) : ac_V E ac_MDf ac_HDf 129 1232 (.inl (o_ild 4 1234)) := ⟨ok_iload dd_129_1232, mn_ild _ _⟩
theorem vd_129_1234 (E : ac_E) : ac_V E ac_MDf ac_HDf 129 1234 (.inl (o_con (.int 3) 1235)) := ⟨ok_iconst dd_129_1234 (by decide), mn_con _ _⟩
theorem vd_129_1235 (E : ac_E) : ac_V E ac_MDf ac_HDf 129 1235 (.inl (o_add 1236)) := ⟨ok_iadd dd_129_1235, mn_add _⟩
theorem vd_129_1236 (E : ac_E) : ac_V E ac_MDf ac_HDf 129 1236 (.inl (o_xa (ac_len E) (ac_xs E) 1237)) := ⟨ok_xa dd_129_1236, mn_xa _ _ _⟩
theorem vd_129_1237 (E : ac_E) : ac_V E ac_MDf ac_HDf 129 1237 (.inr (.inl (110,4,1240,7))) := ac_Vc0 ((ok_callV (T := TX5) (N := 17) rfl rfl (by decide) (by decide +kernel) wm_859 wm_56 wm_856 wm_857 wm_858 dd_129_1237).1) (fun _ => rfl)
theorem vd_129_1240 (E : ac_E) : ac_V E ac_MDf ac_HDf 129 1240 (.inl (o_ist 6 1242)) := ⟨ok_istore dd_129_1240, mn_ist _ _⟩
theorem vd_129_1242 (E : ac_E) : ac_V E ac_MDf ac_HDf 129 1242 (.inl (o_ald 2 1243)) := ⟨ok_aload_n dd_129_1242, mn_ald _ _⟩
theorem vd_129_1243 (E : ac_E) : ac_V E ac_MDf ac_HDf 129 1243 (.inr (.inl (67,1,1246,7))) := ac_Vc0 ((ok_callV (T := TX5) (N := 17) rfl rfl (by decide) (by decide +kernel) wm_694 wm_56 wm_691 wm_692 wm_693 dd_129_1243).1) (fun _ => rfl)
theorem vd_129_1246 (E : ac_E) : ac_V E ac_MDf ac_HDf 129 1246 (.inl (o_ild 5 1248)) := ⟨ok_iload dd_129_1246, mn_ild _ _⟩
theorem vd_129_1248 (E : ac_E) : ac_V E ac_MDf ac_HDf 129 1248 (.inl (o_eq 1253 1251)) := ⟨ok_icmpeq dd_129_1248 (by decide), mn_eq _ _⟩
theorem vd_129_1251 (E : ac_E) : ac_V E ac_MDf ac_HDf 129 1251 (.inl (o_con (.int 0) 1252)) := ⟨ok_iconst dd_129_1251 (by decide), mn_con _ _⟩
theorem vd_129_1252 (E : ac_E) : ac_V E ac_MDf ac_HDf 129 1252 (.inr (.inr (.inl 2))) := ⟨fun q => nomatch q, fun q => nomatch q, fun _ => ⟨dd_129_1252, rfl⟩⟩
theorem vd_129_1253 (E : ac_E) : ac_V E ac_MDf ac_HDf 129 1253 (.inl (o_ild 5 1255)) := ⟨ok_iload dd_129_1253, mn_ild _ _⟩
theorem vd_129_1255 (E : ac_E) : ac_V E ac_MDf ac_HDf 129 1255 (.inl (o_ne0 1270 1258)) := ⟨ok_ifne dd_129_1255 (by decide), mn_ne0 _ _⟩
theorem vd_129_1258 (E : ac_E) : ac_V E ac_MDf ac_HDf 129 1258 (.inl (o_ald 3 1259)) := ⟨ok_aload_n dd_129_1258, mn_ald _ _⟩
theorem vd_129_1259 (E : ac_E) : ac_V E ac_MDf ac_HDf 129 1259 (.inl (o_con (.int 0) 1260)) := ⟨ok_iconst dd_129_1259 (by decide), mn_con _ _⟩
theorem vd_129_1260 (E : ac_E) : ac_V E ac_MDf ac_HDf 129 1260 (.inl (o_la 1261)) := ⟨ok_laload dd_129_1260, mn_la _⟩
theorem vd_129_1261 (E : ac_E) : ac_V E ac_MDf ac_HDf 129 1261 (.inl (o_ild 6 1263)) := ⟨ok_iload dd_129_1261, mn_ild _ _⟩
theorem vd_129_1263 (E : ac_E) : ac_V E ac_MDf ac_HDf 129 1263 (.inl (o_i2l 1264)) := ⟨ok_i2l dd_129_1263, mn_i2l _⟩
theorem vd_129_1264 (E : ac_E) : ac_V E ac_MDf ac_HDf 129 1264 (.inl (o_lcm 1265)) := ⟨ok_lcmp dd_129_1264, mn_lcm _⟩
theorem vd_129_1265 (E : ac_E) : ac_V E ac_MDf ac_HDf 129 1265 (.inl (o_eq0 1270 1268)) := ⟨ok_ifeq dd_129_1265 (by decide), mn_eq0 _ _⟩
theorem vd_129_1268 (E : ac_E) : ac_V E ac_MDf ac_HDf 129 1268 (.inl (o_con (.int 0) 1269)) := ⟨ok_iconst dd_129_1268 (by decide), mn_con _ _⟩
theorem vd_129_1269 (E : ac_E) : ac_V E ac_MDf ac_HDf 129 1269 (.inr (.inr (.inl 2))) := ⟨fun q => nomatch q, fun q => nomatch q, fun _ => ⟨dd_129_1269, rfl⟩⟩
theorem vd_129_1270 (E : ac_E) : ac_V E ac_MDf ac_HDf 129 1270 (.inl (o_go 1329)) := ⟨ok_goto dd_129_1270 (by decide), mn_go _⟩
theorem vd_129_1273 (E : ac_E) : ac_V E ac_MDf ac_HDf 129 1273 (.inl (o_ald 1 1274)) := ⟨ok_aload_n dd_129_1273, mn_ald _ _⟩
theorem vd_129_1274 (E : ac_E) : ac_V E ac_MDf ac_HDf 129 1274 (.inl (o_ald 0 1275)) := ⟨ok_aload_n dd_129_1274, mn_ald _ _⟩
theorem vd_129_1275 (E : ac_E) : ac_V E ac_MDf ac_HDf 129 1275 (.inl (o_ild 4 1277)) := ⟨ok_iload dd_129_1275, mn_ild _ _⟩
theorem vd_129_1277 (E : ac_E) : ac_V E ac_MDf ac_HDf 129 1277 (.inl (o_con (.int 1) 1278)) := ⟨ok_iconst dd_129_1277 (by decide), mn_con _ _⟩
theorem vd_129_1278 (E : ac_E) : ac_V E ac_MDf ac_HDf 129 1278 (.inl (o_add 1279)) := ⟨ok_iadd dd_129_1278, mn_add _⟩
theorem vd_129_1279 (E : ac_E) : ac_V E ac_MDf ac_HDf 129 1279 (.inl (o_xa (ac_len E) (ac_xs E) 1280)) := ⟨ok_xa dd_129_1279, mn_xa _ _ _⟩
theorem vd_129_1280 (E : ac_E) : ac_V E ac_MDf ac_HDf 129 1280 (.inl (o_ald 3 1281)) := ⟨ok_aload_n dd_129_1280, mn_ald _ _⟩
theorem vd_129_1281 (E : ac_E) : ac_V E ac_MDf ac_HDf 129 1281 (.inr (.inl (128,3,1284,0))) := ac_Vc0 (ok_callSX rfl (by decide) (by decide +kernel) wm_626 wm_49 wm_624 wm_625 dd_129_1281) (fun _ => rfl)
theorem vd_129_1284 (E : ac_E) : ac_V E ac_MDf ac_HDf 129 1284 (.inl (o_ist 5 1286)) := ⟨ok_istore dd_129_1284, mn_ist _ _⟩
theorem vd_129_1286 (E : ac_E) : ac_V E ac_MDf ac_HDf 129 1286 (.inl (o_ald 2 1287)) := ⟨ok_aload_n dd_129_1286, mn_ald _ _⟩
theorem vd_129_1287 (E : ac_E) : ac_V E ac_MDf ac_HDf 129 1287 (.inl (o_ald 0 1288)) := ⟨ok_aload_n dd_129_1287, mn_ald _ _⟩
theorem vd_129_1288 (E : ac_E) : ac_V E ac_MDf ac_HDf 129 1288 (.inl (o_ild 4 1290)) := ⟨ok_iload dd_129_1288, mn_ild _ _⟩
theorem vd_129_1290 (E : ac_E) : ac_V E ac_MDf ac_HDf 129 1290 (.inl (o_con (.int 1) 1291)) := ⟨ok_iconst dd_129_1290 (by decide), mn_con _ _⟩
theorem vd_129_1291 (E : ac_E) : ac_V E ac_MDf ac_HDf 129 1291 (.inl (o_add 1292)) := ⟨ok_iadd dd_129_1291, mn_add _⟩
theorem vd_129_1292 (E : ac_E) : ac_V E ac_MDf ac_HDf 129 1292 (.inl (o_xa (ac_len E) (ac_xs E) 1293)) := ⟨ok_xa dd_129_1292, mn_xa _ _ _⟩
theorem vd_129_1293 (E : ac_E) : ac_V E ac_MDf ac_HDf 129 1293 (.inr (.inl (111,2,1296,7))) := ac_Vc0 ((ok_callV (T := TX5) (N := 17) rfl rfl (by decide) (by decide +kernel) wm_863 wm_56 wm_860 wm_861 wm_862 dd_129_1293).1) (fun _ => rfl)
theorem vd_129_1296 (E : ac_E) : ac_V E ac_MDf ac_HDf 129 1296 (.inl (o_ist 6 1298)) := ⟨ok_istore dd_129_1296, mn_ist _ _⟩
theorem vd_129_1298 (E : ac_E) : ac_V E ac_MDf ac_HDf 129 1298 (.inl (o_ald 2 1299)) := ⟨ok_aload_n dd_129_1298, mn_ald _ _⟩
theorem vd_129_1299 (E : ac_E) : ac_V E ac_MDf ac_HDf 129 1299 (.inr (.inl (67,1,1302,7))) := ac_Vc0 ((ok_callV (T := TX5) (N := 17) rfl rfl (by decide) (by decide +kernel) wm_694 wm_56 wm_691 wm_692 wm_693 dd_129_1299).1) (fun _ => rfl)
theorem vd_129_1302 (E : ac_E) : ac_V E ac_MDf ac_HDf 129 1302 (.inl (o_ild 5 1304)) := ⟨ok_iload dd_129_1302, mn_ild _ _⟩
theorem vd_129_1304 (E : ac_E) : ac_V E ac_MDf ac_HDf 129 1304 (.inl (o_eq 1309 1307)) := ⟨ok_icmpeq dd_129_1304 (by decide), mn_eq _ _⟩
theorem vd_129_1307 (E : ac_E) : ac_V E ac_MDf ac_HDf 129 1307 (.inl (o_con (.int 0) 1308)) := ⟨ok_iconst dd_129_1307 (by decide), mn_con _ _⟩
theorem vd_129_1308 (E : ac_E) : ac_V E ac_MDf ac_HDf 129 1308 (.inr (.inr (.inl 2))) := ⟨fun q => nomatch q, fun q => nomatch q, fun _ => ⟨dd_129_1308, rfl⟩⟩
theorem vd_129_1309 (E : ac_E) : ac_V E ac_MDf ac_HDf 129 1309 (.inl (o_ild 5 1311)) := ⟨ok_iload dd_129_1309, mn_ild _ _⟩
theorem vd_129_1311 (E : ac_E) : ac_V E ac_MDf ac_HDf 129 1311 (.inl (o_ne0 1326 1314)) := ⟨ok_ifne dd_129_1311 (by decide), mn_ne0 _ _⟩
theorem vd_129_1314 (E : ac_E) : ac_V E ac_MDf ac_HDf 129 1314 (.inl (o_ald 3 1315)) := ⟨ok_aload_n dd_129_1314, mn_ald _ _⟩
theorem vd_129_1315 (E : ac_E) : ac_V E ac_MDf ac_HDf 129 1315 (.inl (o_con (.int 0) 1316)) := ⟨ok_iconst dd_129_1315 (by decide), mn_con _ _⟩
theorem vd_129_1316 (E : ac_E) : ac_V E ac_MDf ac_HDf 129 1316 (.inl (o_la 1317)) := ⟨ok_laload dd_129_1316, mn_la _⟩
theorem vd_129_1317 (E : ac_E) : ac_V E ac_MDf ac_HDf 129 1317 (.inl (o_ild 6 1319)) := ⟨ok_iload dd_129_1317, mn_ild _ _⟩
theorem vd_129_1319 (E : ac_E) : ac_V E ac_MDf ac_HDf 129 1319 (.inl (o_i2l 1320)) := ⟨ok_i2l dd_129_1319, mn_i2l _⟩
theorem vd_129_1320 (E : ac_E) : ac_V E ac_MDf ac_HDf 129 1320 (.inl (o_lcm 1321)) := ⟨ok_lcmp dd_129_1320, mn_lcm _⟩
theorem vd_129_1321 (E : ac_E) : ac_V E ac_MDf ac_HDf 129 1321 (.inl (o_eq0 1326 1324)) := ⟨ok_ifeq dd_129_1321 (by decide), mn_eq0 _ _⟩
theorem vd_129_1324 (E : ac_E) : ac_V E ac_MDf ac_HDf 129 1324 (.inl (o_con (.int 0) 1325)) := ⟨ok_iconst dd_129_1324 (by decide), mn_con _ _⟩
theorem vd_129_1325 (E : ac_E) : ac_V E ac_MDf ac_HDf 129 1325 (.inr (.inr (.inl 2))) := ⟨fun q => nomatch q, fun q => nomatch q, fun _ => ⟨dd_129_1325, rfl⟩⟩
theorem vd_129_1326 (E : ac_E) : ac_V E ac_MDf ac_HDf 129 1326 (.inl (o_go 1329)) := ⟨ok_goto dd_129_1326 (by decide), mn_go _⟩
theorem vd_129_1329 (E : ac_E) : ac_V E ac_MDf ac_HDf 129 1329 (.inl (o_inc 4 6 1332)) := ⟨ok_iinc dd_129_1329 (by decide), mn_inc _ _ _⟩
theorem vd_129_1332 (E : ac_E) : ac_V E ac_MDf ac_HDf 129 1332 (.inl (o_go 43)) := ⟨ok_goto dd_129_1332 (by decide), mn_go _⟩
theorem vd_129_1335 (E : ac_E) : ac_V E ac_MDf ac_HDf 129 1335 (.inl (o_con (.int 1) 1336)) := ⟨ok_iconst dd_129_1335 (by decide), mn_con _ _⟩
theorem vd_129_1336 (E : ac_E) : ac_V E ac_MDf ac_HDf 129 1336 (.inr (.inr (.inl 2))) := ⟨fun q => nomatch q, fun q => nomatch q, fun _ => ⟨dd_129_1336, rfl⟩⟩
theorem va_129 (E : ac_E) (pc : Nat) : ac_V E ac_MDf ac_HDf 129 pc (tb_129 (ac_len E) (ac_xs E) pc) := (ac_node (ac_node (ac_node (ac_node (ac_node (ac_node (ac_node (ac_node (ac_node (ac_leaf 0 (vd_129_0 E)) (ac_node (ac_leaf 3 (vd_129_3 E)) (ac_leaf 4 (vd_129_4 E)))) (ac_node (ac_leaf 5 (vd_129_5 E)) (ac_node (ac_leaf 6 (vd_129_6 E)) (ac_leaf 9 (vd_129_9 E))))) (ac_node (ac_node (ac_leaf 10 (vd_129_10 E)) (ac_node (ac_leaf 11 (vd_129_11 E)) (ac_leaf 14 (vd_129_14 E)))) (ac_node (ac_leaf 17 (vd_129_17 E)) (ac_node (ac_leaf 18 (vd_129_18 E)) (ac_leaf 21 (vd_129_21 E)))))) (ac_node (ac_node (ac_node (ac_leaf 22 (vd_129_22 E)) (ac_node (ac_leaf 23 (vd_129_23 E)) (ac_leaf 24 (vd_129_24 E)))) (ac_node (ac_leaf 27 (vd_129_27 E)) (ac_node (ac_leaf 28 (vd_129_28 E)) (ac_leaf 29 (vd_129_29 E))))) (ac_node (ac_node (ac_leaf 32 (vd_129_32 E)) (ac_node (ac_leaf 35 (vd_129_35 E)) (ac_leaf 36 (vd_129_36 E)))) (ac_node (ac_node (ac_leaf 37 (vd_129_37 E)) (ac_leaf 39 (vd_129_39 E))) (ac_node (ac_leaf 40 (vd_129_40 E)) (ac_leaf 41 (vd_129_41 E))))))) (ac_node (ac_node (ac_node (ac_node (ac_leaf 43 (vd_129_43 E)) (ac_node (ac_leaf 45 (vd_129_45 E)) (ac_leaf 46 (vd_129_46 E)))) (ac_node (ac_leaf 47 (vd_129_47 E)) (ac_node (ac_leaf 49 (vd_129_49 E)) (ac_leaf 50 (vd_129_50 E))))) (ac_node (ac_node (ac_leaf 53 (vd_129_53 E)) (ac_node (ac_leaf 54 (vd_129_54 E)) (ac_leaf 56 (vd_129_56 E)))) (ac_node (ac_node (ac_leaf 57 (vd_129_57 E)) (ac_leaf 59 (vd_129_59 E))) (ac_node (ac_leaf 60 (vd_129_60 E)) (ac_leaf 148 (vd_129_148 E)))))) (ac_node (ac_node (ac_node (ac_leaf 149 (vd_129_149 E)) (ac_node (ac_leaf 150 (vd_129_150 E)) (ac_leaf 152 (vd_129_152 E)))) (ac_node (ac_leaf 153 (vd_129_153 E)) (ac_node (ac_leaf 154 (vd_129_154 E)) (ac_leaf 155 (vd_129_155 E))))) (ac_node (ac_node (ac_leaf 156 (vd_129_156 E)) (ac_node (ac_leaf 158 (vd_129_158 E)) (ac_leaf 159 (vd_129_159 E)))) (ac_node (ac_node (ac_leaf 160 (vd_129_160 E)) (ac_leaf 161 (vd_129_161 E))) (ac_node (ac_leaf 162 (vd_129_162 E)) (ac_leaf 164 (vd_129_164 E)))))))) (ac_node (ac_node (ac_node (ac_node (ac_node (ac_leaf 165 (vd_129_165 E)) (ac_node (ac_leaf 166 (vd_129_166 E)) (ac_leaf 167 (vd_129_167 E)))) (ac_node (ac_leaf 170 (vd_129_170 E)) (ac_node (ac_leaf 172 (vd_129_172 E)) (ac_leaf 173 (vd_129_173 E))))) (ac_node (ac_node (ac_leaf 174 (vd_129_174 E)) (ac_node (ac_leaf 176 (vd_129_176 E)) (ac_leaf 177 (vd_129_177 E)))) (ac_node (ac_leaf 178 (vd_129_178 E)) (ac_node (ac_leaf 179 (vd_129_179 E)) (ac_leaf 180 (vd_129_180 E)))))) (ac_node (ac_node (ac_node (ac_leaf 182 (vd_129_182 E)) (ac_node (ac_leaf 183 (vd_129_183 E)) (ac_leaf 184 (vd_129_184 E)))) (ac_node (ac_leaf 185 (vd_129_185 E)) (ac_node (ac_leaf 186 (vd_129_186 E)) (ac_leaf 188 (vd_129_188 E))))) (ac_node (ac_node (ac_leaf 189 (vd_129_189 E)) (ac_node (ac_leaf 190 (vd_129_190 E)) (ac_leaf 191 (vd_129_191 E)))) (ac_node (ac_node (ac_leaf 194 (vd_129_194 E)) (ac_leaf 195 (vd_129_195 E))) (ac_node (ac_leaf 198 (vd_129_198 E)) (ac_leaf 200 (vd_129_200 E))))))) (ac_node (ac_node (ac_node (ac_node (ac_leaf 203 (vd_129_203 E)) (ac_node (ac_leaf 204 (vd_129_204 E)) (ac_leaf 205 (vd_129_205 E)))) (ac_node (ac_leaf 208 (vd_129_208 E)) (ac_node (ac_leaf 209 (vd_129_209 E)) (ac_leaf 210 (vd_129_210 E))))) (ac_node (ac_node (ac_leaf 212 (vd_129_212 E)) (ac_node (ac_leaf 213 (vd_129_213 E)) (ac_leaf 214 (vd_129_214 E)))) (ac_node (ac_node (ac_leaf 215 (vd_129_215 E)) (ac_leaf 216 (vd_129_216 E))) (ac_node (ac_leaf 218 (vd_129_218 E)) (ac_leaf 219 (vd_129_219 E)))))) (ac_node (ac_node (ac_node (ac_leaf 220 (vd_129_220 E)) (ac_node (ac_leaf 221 (vd_129_221 E)) (ac_leaf 222 (vd_129_222 E)))) (ac_node (ac_leaf 225 (vd_129_225 E)) (ac_node (ac_leaf 227 (vd_129_227 E)) (ac_leaf 228 (vd_129_228 E))))) (ac_node (ac_node (ac_leaf 229 (vd_129_229 E)) (ac_node (ac_leaf 231 (vd_129_231 E)) (ac_leaf 232 (vd_129_232 E)))) (ac_node (ac_node (ac_leaf 233 (vd_129_233 E)) (ac_leaf 234 (vd_129_234 E))) (ac_node (ac_leaf 235 (vd_129_235 E)) (ac_leaf 237 (vd_129_237 E))))))))) (ac_node (ac_node (ac_node (ac_node (ac_node (ac_node (ac_leaf 238 (vd_129_238 E)) (ac_node (ac_leaf 239 (vd_129_239 E)) (ac_leaf 240 (vd_129_240 E)))) (ac_node (ac_leaf 243 (vd_129_243 E)) (ac_node (ac_leaf 245 (vd_129_245 E)) (ac_leaf 246 (vd_129_246 E))))) (ac_node (ac_node (ac_leaf 249 (vd_129_249 E)) (ac_node (ac_leaf 251 (vd_129_251 E)) (ac_leaf 254 (vd_129_254 E)))) (ac_node (ac_leaf 255 (vd_129_255 E)) (ac_node (ac_leaf 256 (vd_129_256 E)) (ac_leaf 258 (vd_129_258 E)))))) (ac_node (ac_node (ac_node (ac_leaf 261 (vd_129_261 E)) (ac_node (ac_leaf 262 (vd_129_262 E)) (ac_leaf 263 (vd_129_263 E)))) (ac_node (ac_leaf 264 (vd_129_264 E)) (ac_node (ac_leaf 266 (vd_129_266 E)) (ac_leaf 267 (vd_129_267 E))))) (ac_node (ac_node (ac_leaf 268 (vd_129_268 E)) (ac_node (ac_leaf 271 (vd_129_271 E)) (ac_leaf 272 (vd_129_272 E)))) (ac_node (ac_node (ac_leaf 273 (vd_129_273 E)) (ac_leaf 276 (vd_129_276 E))) (ac_node (ac_leaf 277 (vd_129_277 E)) (ac_leaf 278 (vd_129_278 E))))))) (ac_node (ac_node (ac_node (ac_node (ac_leaf 280 (vd_129_280 E)) (ac_node (ac_leaf 281 (vd_129_281 E)) (ac_leaf 282 (vd_129_282 E)))) (ac_node (ac_leaf 283 (vd_129_283 E)) (ac_node (ac_leaf 284 (vd_129_284 E)) (ac_leaf 286 (vd_129_286 E))))) (ac_node (ac_node (ac_leaf 287 (vd_129_287 E)) (ac_node (ac_leaf 288 (vd_129_288 E)) (ac_leaf 289 (vd_129_289 E)))) (ac_node (ac_node (ac_leaf 290 (vd_129_290 E)) (ac_leaf 293 (vd_129_293 E))) (ac_node (ac_leaf 295 (vd_129_295 E)) (ac_leaf 296 (vd_129_296 E)))))) (ac_node (ac_node (ac_node (ac_leaf 297 (vd_129_297 E)) (ac_node (ac_leaf 299 (vd_129_299 E)) (ac_leaf 300 (vd_129_300 E)))) (ac_node (ac_leaf 301 (vd_129_301 E)) (ac_node (ac_leaf 302 (vd_129_302 E)) (ac_leaf 303 (vd_129_303 E))))) (ac_node (ac_node (ac_leaf 305 (vd_129_305 E)) (ac_node (ac_leaf 306 (vd_129_306 E)) (ac_leaf 307 (vd_129_307 E)))) (ac_node (ac_node (ac_leaf 308 (vd_129_308 E)) (ac_leaf 311 (vd_129_311 E))) (ac_node (ac_leaf 313 (vd_129_313 E)) (ac_leaf 314 (vd_129_314 E)))))))) (ac_node (ac_node (ac_node (ac_node (ac_node (ac_leaf 317 (vd_129_317 E)) (ac_node (ac_leaf 319 (vd_129_319 E)) (ac_leaf 322 (vd_129_322 E)))) (ac_node (ac_leaf 323 (vd_129_323 E)) (ac_node (ac_leaf 324 (vd_129_324 E)) (ac_leaf 326 (vd_129_326 E))))) (ac_node (ac_node (ac_leaf 329 (vd_129_329 E)) (ac_node (ac_leaf 330 (vd_129_330 E)) (ac_leaf 331 (vd_129_331 E)))) (ac_node (ac_leaf 332 (vd_129_332 E)) (ac_node (ac_leaf 334 (vd_129_334 E)) (ac_leaf 335 (vd_129_335 E)))))) (ac_node (ac_node (ac_node (ac_leaf 336 (vd_129_336 E)) (ac_node (ac_leaf 339 (vd_129_339 E)) (ac_leaf 340 (vd_129_340 E)))) (ac_node (ac_leaf 341 (vd_129_341 E)) (ac_node (ac_leaf 344 (vd_129_344 E)) (ac_leaf 345 (vd_129_345 E))))) (ac_node (ac_node (ac_leaf 346 (vd_129_346 E)) (ac_node (ac_leaf 348 (vd_129_348 E)) (ac_leaf 349 (vd_129_349 E)))) (ac_node (ac_node (ac_leaf 350 (vd_129_350 E)) (ac_leaf 351 (vd_129_351 E))) (ac_node (ac_leaf 352 (vd_129_352 E)) (ac_leaf 354 (vd_129_354 E))))))) (ac_node (ac_node (ac_node (ac_node (ac_leaf 355 (vd_129_355 E)) (ac_node (ac_leaf 356 (vd_129_356 E)) (ac_leaf 357 (vd_129_357 E)))) (ac_node (ac_leaf 358 (vd_129_358 E)) (ac_node (ac_leaf 360 (vd_129_360 E)) (ac_leaf 361 (vd_129_361 E))))) (ac_node (ac_node (ac_leaf 362 (vd_129_362 E)) (ac_node (ac_leaf 363 (vd_129_363 E)) (ac_leaf 366 (vd_129_366 E)))) (ac_node (ac_node (ac_leaf 367 (vd_129_367 E)) (ac_leaf 370 (vd_129_370 E))) (ac_node (ac_leaf 371 (vd_129_371 E)) (ac_leaf 372 (vd_129_372 E)))))) (ac_node (ac_node (ac_node (ac_leaf 375 (vd_129_375 E)) (ac_node (ac_leaf 377 (vd_129_377 E)) (ac_leaf 378 (vd_129_378 E)))) (ac_node (ac_leaf 379 (vd_129_379 E)) (ac_node (ac_leaf 381 (vd_129_381 E)) (ac_leaf 382 (vd_129_382 E))))) (ac_node (ac_node (ac_leaf 383 (vd_129_383 E)) (ac_node (ac_leaf 384 (vd_129_384 E)) (ac_leaf 385 (vd_129_385 E)))) (ac_node (ac_node (ac_leaf 387 (vd_129_387 E)) (ac_leaf 388 (vd_129_388 E))) (ac_node (ac_leaf 389 (vd_129_389 E)) (ac_leaf 390 (vd_129_390 E)))))))))) (ac_node (ac_node (ac_node (ac_node (ac_node (ac_node (ac_node (ac_leaf 391 (vd_129_391 E)) (ac_node (ac_leaf 393 (vd_129_393 E)) (ac_leaf 394 (vd_129_394 E)))) (ac_node (ac_leaf 395 (vd_129_395 E)) (ac_node (ac_leaf 396 (vd_129_396 E)) (ac_leaf 399 (vd_129_399 E))))) (ac_node (ac_node (ac_leaf 400 (vd_129_400 E)) (ac_node (ac_leaf 403 (vd_129_403 E)) (ac_leaf 404 (vd_129_404 E)))) (ac_node (ac_leaf 407 (vd_129_407 E)) (ac_node (ac_leaf 409 (vd_129_409 E)) (ac_leaf 410 (vd_129_410 E)))))) (ac_node (ac_node (ac_node (ac_leaf 413 (vd_129_413 E)) (ac_node (ac_leaf 415 (vd_129_415 E)) (ac_leaf 418 (vd_129_418 E)))) (ac_node (ac_leaf 419 (vd_129_419 E)) (ac_node (ac_leaf 420 (vd_129_420 E)) (ac_leaf 422 (vd_129_422 E))))) (ac_node (ac_node (ac_leaf 425 (vd_129_425 E)) (ac_node (ac_leaf 426 (vd_129_426 E)) (ac_leaf 427 (vd_129_427 E)))) (ac_node (ac_node (ac_leaf 428 (vd_129_428 E)) (ac_leaf 430 (vd_129_430 E))) (ac_node (ac_leaf 433 (vd_129_433 E)) (ac_leaf 434 (vd_129_434 E))))))) (ac_node (ac_node (ac_node (ac_node (ac_leaf 437 (vd_129_437 E)) (ac_node (ac_leaf 438 (vd_129_438 E)) (ac_leaf 439 (vd_129_439 E)))) (ac_node (ac_leaf 442 (vd_129_442 E)) (ac_node (ac_leaf 443 (vd_129_443 E)) (ac_leaf 444 (vd_129_444 E))))) (ac_node (ac_node (ac_leaf 447 (vd_129_447 E)) (ac_node (ac_leaf 448 (vd_129_448 E)) (ac_leaf 449 (vd_129_449 E)))) (ac_node (ac_node (ac_leaf 451 (vd_129_451 E)) (ac_leaf 452 (vd_129_452 E))) (ac_node (ac_leaf 453 (vd_129_453 E)) (ac_leaf 454 (vd_129_454 E)))))) (ac_node (ac_node (ac_node (ac_leaf 455 (vd_129_455 E)) (ac_node (ac_leaf 457 (vd_129_457 E)) (ac_leaf 458 (vd_129_458 E)))) (ac_node (ac_leaf 459 (vd_129_459 E)) (ac_node (ac_leaf 460 (vd_129_460 E)) (ac_leaf 461 (vd_129_461 E))))) (ac_node (ac_node (ac_leaf 463 (vd_129_463 E)) (ac_node (ac_leaf 464 (vd_129_464 E)) (ac_leaf 465 (vd_129_465 E)))) (ac_node (ac_node (ac_leaf 466 (vd_129_466 E)) (ac_leaf 469 (vd_129_469 E))) (ac_node (ac_leaf 471 (vd_129_471 E)) (ac_leaf 472 (vd_129_472 E)))))))) (ac_node (ac_node (ac_node (ac_node (ac_node (ac_leaf 473 (vd_129_473 E)) (ac_node (ac_leaf 475 (vd_129_475 E)) (ac_leaf 476 (vd_129_476 E)))) (ac_node (ac_leaf 477 (vd_129_477 E)) (ac_node (ac_leaf 478 (vd_129_478 E)) (ac_leaf 479 (vd_129_479 E))))) (ac_node (ac_node (ac_leaf 481 (vd_129_481 E)) (ac_node (ac_leaf 482 (vd_129_482 E)) (ac_leaf 483 (vd_129_483 E)))) (ac_node (ac_leaf 484 (vd_129_484 E)) (ac_node (ac_leaf 485 (vd_129_485 E)) (ac_leaf 487 (vd_129_487 E)))))) (ac_node (ac_node (ac_node (ac_leaf 488 (vd_129_488 E)) (ac_node (ac_leaf 489 (vd_129_489 E)) (ac_leaf 490 (vd_129_490 E)))) (ac_node (ac_leaf 493 (vd_129_493 E)) (ac_node (ac_leaf 494 (vd_129_494 E)) (ac_leaf 497 (vd_129_497 E))))) (ac_node (ac_node (ac_leaf 499 (vd_129_499 E)) (ac_node (ac_leaf 502 (vd_129_502 E)) (ac_leaf 503 (vd_129_503 E)))) (ac_node (ac_node (ac_leaf 504 (vd_129_504 E)) (ac_leaf 507 (vd_129_507 E))) (ac_node (ac_leaf 508 (vd_129_508 E)) (ac_leaf 509 (vd_129_509 E))))))) (ac_node (ac_node (ac_node (ac_node (ac_leaf 511 (vd_129_511 E)) (ac_node (ac_leaf 512 (vd_129_512 E)) (ac_leaf 513 (vd_129_513 E)))) (ac_node (ac_leaf 514 (vd_129_514 E)) (ac_node (ac_leaf 515 (vd_129_515 E)) (ac_leaf 517 (vd_129_517 E))))) (ac_node (ac_node (ac_leaf 518 (vd_129_518 E)) (ac_node (ac_leaf 519 (vd_129_519 E)) (ac_leaf 520 (vd_129_520 E)))) (ac_node (ac_node (ac_leaf 521 (vd_129_521 E)) (ac_leaf 523 (vd_129_523 E))) (ac_node (ac_leaf 524 (vd_129_524 E)) (ac_leaf 525 (vd_129_525 E)))))) (ac_node (ac_node (ac_node (ac_leaf 526 (vd_129_526 E)) (ac_node (ac_leaf 529 (vd_129_529 E)) (ac_leaf 530 (vd_129_530 E)))) (ac_node (ac_leaf 533 (vd_129_533 E)) (ac_node (ac_leaf 534 (vd_129_534 E)) (ac_leaf 535 (vd_129_535 E))))) (ac_node (ac_node (ac_leaf 538 (vd_129_538 E)) (ac_node (ac_leaf 540 (vd_129_540 E)) (ac_leaf 541 (vd_129_541 E)))) (ac_node (ac_node (ac_leaf 542 (vd_129_542 E)) (ac_leaf 544 (vd_129_544 E))) (ac_node (ac_leaf 545 (vd_129_545 E)) (ac_leaf 546 (vd_129_546 E))))))))) (ac_node (ac_node (ac_node (ac_node (ac_node (ac_node (ac_leaf 547 (vd_129_547 E)) (ac_node (ac_leaf 548 (vd_129_548 E)) (ac_leaf 550 (vd_129_550 E)))) (ac_node (ac_leaf 551 (vd_129_551 E)) (ac_node (ac_leaf 552 (vd_129_552 E)) (ac_leaf 553 (vd_129_553 E))))) (ac_node (ac_node (ac_leaf 554 (vd_129_554 E)) (ac_node (ac_leaf 556 (vd_129_556 E)) (ac_leaf 557 (vd_129_557 E)))) (ac_node (ac_leaf 558 (vd_129_558 E)) (ac_node (ac_leaf 559 (vd_129_559 E)) (ac_leaf 562 (vd_129_562 E)))))) (ac_node (ac_node (ac_node (ac_leaf 563 (vd_129_563 E)) (ac_node (ac_leaf 566 (vd_129_566 E)) (ac_leaf 567 (vd_129_567 E)))) (ac_node (ac_leaf 570 (vd_129_570 E)) (ac_node (ac_leaf 572 (vd_129_572 E)) (ac_leaf 573 (vd_129_573 E))))) (ac_node (ac_node (ac_leaf 576 (vd_129_576 E)) (ac_node (ac_leaf 578 (vd_129_578 E)) (ac_leaf 581 (vd_129_581 E)))) (ac_node (ac_node (ac_leaf 582 (vd_129_582 E)) (ac_leaf 583 (vd_129_583 E))) (ac_node (ac_leaf 585 (vd_129_585 E)) (ac_leaf 588 (vd_129_588 E))))))) (ac_node (ac_node (ac_node (ac_node (ac_leaf 589 (vd_129_589 E)) (ac_node (ac_leaf 590 (vd_129_590 E)) (ac_leaf 591 (vd_129_591 E)))) (ac_node (ac_leaf 593 (vd_129_593 E)) (ac_node (ac_leaf 596 (vd_129_596 E)) (ac_leaf 597 (vd_129_597 E))))) (ac_node (ac_node (ac_leaf 600 (vd_129_600 E)) (ac_node (ac_leaf 601 (vd_129_601 E)) (ac_leaf 602 (vd_129_602 E)))) (ac_node (ac_node (ac_leaf 605 (vd_129_605 E)) (ac_leaf 606 (vd_129_606 E))) (ac_node (ac_leaf 607 (vd_129_607 E)) (ac_leaf 610 (vd_129_610 E)))))) (ac_node (ac_node (ac_node (ac_leaf 611 (vd_129_611 E)) (ac_node (ac_leaf 612 (vd_129_612 E)) (ac_leaf 614 (vd_129_614 E)))) (ac_node (ac_leaf 615 (vd_129_615 E)) (ac_node (ac_leaf 616 (vd_129_616 E)) (ac_leaf 617 (vd_129_617 E))))) (ac_node (ac_node (ac_leaf 618 (vd_129_618 E)) (ac_node (ac_leaf 620 (vd_129_620 E)) (ac_leaf 621 (vd_129_621 E)))) (ac_node (ac_node (ac_leaf 622 (vd_129_622 E)) (ac_leaf 623 (vd_129_623 E))) (ac_node (ac_leaf 624 (vd_129_624 E)) (ac_leaf 626 (vd_129_626 E)))))))) (ac_node (ac_node (ac_node (ac_node (ac_node (ac_leaf 627 (vd_129_627 E)) (ac_node (ac_leaf 628 (vd_129_628 E)) (ac_leaf 629 (vd_129_629 E)))) (ac_node (ac_leaf 632 (vd_129_632 E)) (ac_node (ac_leaf 633 (vd_129_633 E)) (ac_leaf 636 (vd_129_636 E))))) (ac_node (ac_node (ac_leaf 637 (vd_129_637 E)) (ac_node (ac_leaf 638 (vd_129_638 E)) (ac_leaf 641 (vd_129_641 E)))) (ac_node (ac_leaf 643 (vd_129_643 E)) (ac_node (ac_leaf 644 (vd_129_644 E)) (ac_leaf 645 (vd_129_645 E)))))) (ac_node (ac_node (ac_node (ac_leaf 647 (vd_129_647 E)) (ac_node (ac_leaf 648 (vd_129_648 E)) (ac_leaf 649 (vd_129_649 E)))) (ac_node (ac_leaf 650 (vd_129_650 E)) (ac_node (ac_leaf 651 (vd_129_651 E)) (ac_leaf 653 (vd_129_653 E))))) (ac_node (ac_node (ac_leaf 654 (vd_129_654 E)) (ac_node (ac_leaf 655 (vd_129_655 E)) (ac_leaf 656 (vd_129_656 E)))) (ac_node (ac_node (ac_leaf 657 (vd_129_657 E)) (ac_leaf 659 (vd_129_659 E))) (ac_node (ac_leaf 660 (vd_129_660 E)) (ac_leaf 661 (vd_129_661 E))))))) (ac_node (ac_node (ac_node (ac_node (ac_leaf 662 (vd_129_662 E)) (ac_node (ac_leaf 665 (vd_129_665 E)) (ac_leaf 666 (vd_129_666 E)))) (ac_node (ac_leaf 669 (vd_129_669 E)) (ac_node (ac_leaf 670 (vd_129_670 E)) (ac_leaf 673 (vd_129_673 E))))) (ac_node (ac_node (ac_leaf 675 (vd_129_675 E)) (ac_node (ac_leaf 676 (vd_129_676 E)) (ac_leaf 679 (vd_129_679 E)))) (ac_node (ac_node (ac_leaf 681 (vd_129_681 E)) (ac_leaf 684 (vd_129_684 E))) (ac_node (ac_leaf 685 (vd_129_685 E)) (ac_leaf 686 (vd_129_686 E)))))) (ac_node (ac_node (ac_node (ac_leaf 688 (vd_129_688 E)) (ac_node (ac_leaf 691 (vd_129_691 E)) (ac_leaf 692 (vd_129_692 E)))) (ac_node (ac_leaf 693 (vd_129_693 E)) (ac_node (ac_leaf 694 (vd_129_694 E)) (ac_leaf 696 (vd_129_696 E))))) (ac_node (ac_node (ac_leaf 699 (vd_129_699 E)) (ac_node (ac_leaf 700 (vd_129_700 E)) (ac_leaf 703 (vd_129_703 E)))) (ac_node (ac_node (ac_leaf 704 (vd_129_704 E)) (ac_leaf 705 (vd_129_705 E))) (ac_node (ac_leaf 708 (vd_129_708 E)) (ac_leaf 709 (vd_129_709 E))))))))))) (ac_node (ac_node (ac_node (ac_node (ac_node (ac_node (ac_node (ac_node (ac_leaf 710 (vd_129_710 E)) (ac_node (ac_leaf 713 (vd_129_713 E)) (ac_leaf 714 (vd_129_714 E)))) (ac_node (ac_leaf 715 (vd_129_715 E)) (ac_node (ac_leaf 717 (vd_129_717 E)) (ac_leaf 718 (vd_129_718 E))))) (ac_node (ac_node (ac_leaf 719 (vd_129_719 E)) (ac_node (ac_leaf 720 (vd_129_720 E)) (ac_leaf 721 (vd_129_721 E)))) (ac_node (ac_leaf 723 (vd_129_723 E)) (ac_node (ac_leaf 724 (vd_129_724 E)) (ac_leaf 725 (vd_129_725 E)))))) (ac_node (ac_node (ac_node (ac_leaf 726 (vd_129_726 E)) (ac_node (ac_leaf 727 (vd_129_727 E)) (ac_leaf 730 (vd_129_730 E)))) (ac_node (ac_leaf 732 (vd_129_732 E)) (ac_node (ac_leaf 733 (vd_129_733 E)) (ac_leaf 734 (vd_129_734 E))))) (ac_node (ac_node (ac_leaf 736 (vd_129_736 E)) (ac_node (ac_leaf 737 (vd_129_737 E)) (ac_leaf 738 (vd_129_738 E)))) (ac_node (ac_node (ac_leaf 739 (vd_129_739 E)) (ac_leaf 740 (vd_129_740 E))) (ac_node (ac_leaf 742 (vd_129_742 E)) (ac_leaf 743 (vd_129_743 E))))))) (ac_node (ac_node (ac_node (ac_node (ac_leaf 744 (vd_129_744 E)) (ac_node (ac_leaf 745 (vd_129_745 E)) (ac_leaf 748 (vd_129_748 E)))) (ac_node (ac_leaf 750 (vd_129_750 E)) (ac_node (ac_leaf 751 (vd_129_751 E)) (ac_leaf 754 (vd_129_754 E))))) (ac_node (ac_node (ac_leaf 756 (vd_129_756 E)) (ac_node (ac_leaf 759 (vd_129_759 E)) (ac_leaf 760 (vd_129_760 E)))) (ac_node (ac_node (ac_leaf 761 (vd_129_761 E)) (ac_leaf 763 (vd_129_763 E))) (ac_node (ac_leaf 766 (vd_129_766 E)) (ac_leaf 767 (vd_129_767 E)))))) (ac_node (ac_node (ac_node (ac_leaf 768 (vd_129_768 E)) (ac_node (ac_leaf 769 (vd_129_769 E)) (ac_leaf 771 (vd_129_771 E)))) (ac_node (ac_leaf 772 (vd_129_772 E)) (ac_node (ac_leaf 773 (vd_129_773 E)) (ac_leaf 776 (vd_129_776 E))))) (ac_node (ac_node (ac_leaf 777 (vd_129_777 E)) (ac_node (ac_leaf 778 (vd_129_778 E)) (ac_leaf 781 (vd_129_781 E)))) (ac_node (ac_node (ac_leaf 782 (vd_129_782 E)) (ac_leaf 783 (vd_129_783 E))) (ac_node (ac_leaf 785 (vd_129_785 E)) (ac_leaf 786 (vd_129_786 E)))))))) (ac_node (ac_node (ac_node (ac_node (ac_node (ac_leaf 787 (vd_129_787 E)) (ac_node (ac_leaf 788 (vd_129_788 E)) (ac_leaf 791 (vd_129_791 E)))) (ac_node (ac_leaf 793 (vd_129_793 E)) (ac_node (ac_leaf 794 (vd_129_794 E)) (ac_leaf 795 (vd_129_795 E))))) (ac_node (ac_node (ac_leaf 797 (vd_129_797 E)) (ac_node (ac_leaf 798 (vd_129_798 E)) (ac_leaf 799 (vd_129_799 E)))) (ac_node (ac_leaf 800 (vd_129_800 E)) (ac_node (ac_leaf 803 (vd_129_803 E)) (ac_leaf 804 (vd_129_804 E)))))) (ac_node (ac_node (ac_node (ac_leaf 807 (vd_129_807 E)) (ac_node (ac_leaf 809 (vd_129_809 E)) (ac_leaf 812 (vd_129_812 E)))) (ac_node (ac_leaf 813 (vd_129_813 E)) (ac_node (ac_leaf 814 (vd_129_814 E)) (ac_leaf 817 (vd_129_817 E))))) (ac_node (ac_node (ac_leaf 818 (vd_129_818 E)) (ac_node (ac_leaf 819 (vd_129_819 E)) (ac_leaf 821 (vd_129_821 E)))) (ac_node (ac_node (ac_leaf 822 (vd_129_822 E)) (ac_leaf 823 (vd_129_823 E))) (ac_node (ac_leaf 824 (vd_129_824 E)) (ac_leaf 825 (vd_129_825 E))))))) (ac_node (ac_node (ac_node (ac_node (ac_leaf 828 (vd_129_828 E)) (ac_node (ac_leaf 830 (vd_129_830 E)) (ac_leaf 831 (vd_129_831 E)))) (ac_node (ac_leaf 832 (vd_129_832 E)) (ac_node (ac_leaf 834 (vd_129_834 E)) (ac_leaf 835 (vd_129_835 E))))) (ac_node (ac_node (ac_leaf 836 (vd_129_836 E)) (ac_node (ac_leaf 837 (vd_129_837 E)) (ac_leaf 840 (vd_129_840 E)))) (ac_node (ac_node (ac_leaf 842 (vd_129_842 E)) (ac_leaf 843 (vd_129_843 E))) (ac_node (ac_leaf 846 (vd_129_846 E)) (ac_leaf 848 (vd_129_848 E)))))) (ac_node (ac_node (ac_node (ac_leaf 851 (vd_129_851 E)) (ac_node (ac_leaf 852 (vd_129_852 E)) (ac_leaf 853 (vd_129_853 E)))) (ac_node (ac_leaf 855 (vd_129_855 E)) (ac_node (ac_leaf 858 (vd_129_858 E)) (ac_leaf 859 (vd_129_859 E))))) (ac_node (ac_node (ac_leaf 860 (vd_129_860 E)) (ac_node (ac_leaf 861 (vd_129_861 E)) (ac_leaf 863 (vd_129_863 E)))) (ac_node (ac_node (ac_leaf 864 (vd_129_864 E)) (ac_leaf 865 (vd_129_865 E))) (ac_node (ac_leaf 868 (vd_129_868 E)) (ac_leaf 869 (vd_129_869 E))))))))) (ac_node (ac_node (ac_node (ac_node (ac_node (ac_node (ac_leaf 870 (vd_129_870 E)) (ac_node (ac_leaf 873 (vd_129_873 E)) (ac_leaf 874 (vd_129_874 E)))) (ac_node (ac_leaf 875 (vd_129_875 E)) (ac_node (ac_leaf 877 (vd_129_877 E)) (ac_leaf 878 (vd_129_878 E))))) (ac_node (ac_node (ac_leaf 879 (vd_129_879 E)) (ac_node (ac_leaf 880 (vd_129_880 E)) (ac_leaf 883 (vd_129_883 E)))) (ac_node (ac_leaf 884 (vd_129_884 E)) (ac_node (ac_leaf 885 (vd_129_885 E)) (ac_leaf 887 (vd_129_887 E)))))) (ac_node (ac_node (ac_node (ac_leaf 888 (vd_129_888 E)) (ac_node (ac_leaf 889 (vd_129_889 E)) (ac_leaf 890 (vd_129_890 E)))) (ac_node (ac_leaf 893 (vd_129_893 E)) (ac_node (ac_leaf 896 (vd_129_896 E)) (ac_leaf 897 (vd_129_897 E))))) (ac_node (ac_node (ac_leaf 898 (vd_129_898 E)) (ac_node (ac_leaf 900 (vd_129_900 E)) (ac_leaf 901 (vd_129_901 E)))) (ac_node (ac_node (ac_leaf 902 (vd_129_902 E)) (ac_leaf 903 (vd_129_903 E))) (ac_node (ac_leaf 904 (vd_129_904 E)) (ac_leaf 907 (vd_129_907 E))))))) (ac_node (ac_node (ac_node (ac_node (ac_leaf 909 (vd_129_909 E)) (ac_node (ac_leaf 910 (vd_129_910 E)) (ac_leaf 911 (vd_129_911 E)))) (ac_node (ac_leaf 913 (vd_129_913 E)) (ac_node (ac_leaf 914 (vd_129_914 E)) (ac_leaf 915 (vd_129_915 E))))) (ac_node (ac_node (ac_leaf 916 (vd_129_916 E)) (ac_node (ac_leaf 919 (vd_129_919 E)) (ac_leaf 921 (vd_129_921 E)))) (ac_node (ac_node (ac_leaf 922 (vd_129_922 E)) (ac_leaf 925 (vd_129_925 E))) (ac_node (ac_leaf 927 (vd_129_927 E)) (ac_leaf 930 (vd_129_930 E)))))) (ac_node (ac_node (ac_node (ac_leaf 931 (vd_129_931 E)) (ac_node (ac_leaf 932 (vd_129_932 E)) (ac_leaf 934 (vd_129_934 E)))) (ac_node (ac_leaf 937 (vd_129_937 E)) (ac_node (ac_leaf 938 (vd_129_938 E)) (ac_leaf 939 (vd_129_939 E))))) (ac_node (ac_node (ac_leaf 940 (vd_129_940 E)) (ac_node (ac_leaf 942 (vd_129_942 E)) (ac_leaf 943 (vd_129_943 E)))) (ac_node (ac_node (ac_leaf 944 (vd_129_944 E)) (ac_leaf 947 (vd_129_947 E))) (ac_node (ac_leaf 948 (vd_129_948 E)) (ac_leaf 949 (vd_129_949 E)))))))) (ac_node (ac_node (ac_node (ac_node (ac_node (ac_leaf 952 (vd_129_952 E)) (ac_node (ac_leaf 953 (vd_129_953 E)) (ac_leaf 954 (vd_129_954 E)))) (ac_node (ac_leaf 956 (vd_129_956 E)) (ac_node (ac_leaf 957 (vd_129_957 E)) (ac_leaf 958 (vd_129_958 E))))) (ac_node (ac_node (ac_leaf 959 (vd_129_959 E)) (ac_node (ac_leaf 960 (vd_129_960 E)) (ac_leaf 963 (vd_129_963 E)))) (ac_node (ac_leaf 965 (vd_129_965 E)) (ac_node (ac_leaf 966 (vd_129_966 E)) (ac_leaf 967 (vd_129_967 E)))))) (ac_node (ac_node (ac_node (ac_leaf 969 (vd_129_969 E)) (ac_node (ac_leaf 970 (vd_129_970 E)) (ac_leaf 971 (vd_129_971 E)))) (ac_node (ac_leaf 972 (vd_129_972 E)) (ac_node (ac_leaf 975 (vd_129_975 E)) (ac_leaf 977 (vd_129_977 E))))) (ac_node (ac_node (ac_leaf 978 (vd_129_978 E)) (ac_node (ac_leaf 981 (vd_129_981 E)) (ac_leaf 983 (vd_129_983 E)))) (ac_node (ac_node (ac_leaf 986 (vd_129_986 E)) (ac_leaf 987 (vd_129_987 E))) (ac_node (ac_leaf 988 (vd_129_988 E)) (ac_leaf 990 (vd_129_990 E))))))) (ac_node (ac_node (ac_node (ac_node (ac_leaf 993 (vd_129_993 E)) (ac_node (ac_leaf 994 (vd_129_994 E)) (ac_leaf 995 (vd_129_995 E)))) (ac_node (ac_leaf 996 (vd_129_996 E)) (ac_node (ac_leaf 998 (vd_129_998 E)) (ac_leaf 999 (vd_129_999 E))))) (ac_node (ac_node (ac_leaf 1000 (vd_129_1000 E)) (ac_node (ac_leaf 1003 (vd_129_1003 E)) (ac_leaf 1004 (vd_129_1004 E)))) (ac_node (ac_node (ac_leaf 1005 (vd_129_1005 E)) (ac_leaf 1008 (vd_129_1008 E))) (ac_node (ac_leaf 1009 (vd_129_1009 E)) (ac_leaf 1010 (vd_129_1010 E)))))) (ac_node (ac_node (ac_node (ac_leaf 1012 (vd_129_1012 E)) (ac_node (ac_leaf 1013 (vd_129_1013 E)) (ac_leaf 1014 (vd_129_1014 E)))) (ac_node (ac_leaf 1015 (vd_129_1015 E)) (ac_node (ac_leaf 1016 (vd_129_1016 E)) (ac_leaf 1018 (vd_129_1018 E))))) (ac_node (ac_node (ac_leaf 1019 (vd_129_1019 E)) (ac_node (ac_leaf 1020 (vd_129_1020 E)) (ac_leaf 1021 (vd_129_1021 E)))) (ac_node (ac_node (ac_leaf 1022 (vd_129_1022 E)) (ac_leaf 1024 (vd_129_1024 E))) (ac_node (ac_leaf 1025 (vd_129_1025 E)) (ac_leaf 1026 (vd_129_1026 E)))))))))) (ac_node (ac_node (ac_node (ac_node (ac_node (ac_node (ac_node (ac_leaf 1027 (vd_129_1027 E)) (ac_node (ac_leaf 1028 (vd_129_1028 E)) (ac_leaf 1030 (vd_129_1030 E)))) (ac_node (ac_leaf 1031 (vd_129_1031 E)) (ac_node (ac_leaf 1032 (vd_129_1032 E)) (ac_leaf 1033 (vd_129_1033 E))))) (ac_node (ac_node (ac_leaf 1034 (vd_129_1034 E)) (ac_node (ac_leaf 1036 (vd_129_1036 E)) (ac_leaf 1037 (vd_129_1037 E)))) (ac_node (ac_leaf 1038 (vd_129_1038 E)) (ac_node (ac_leaf 1039 (vd_129_1039 E)) (ac_leaf 1040 (vd_129_1040 E)))))) (ac_node (ac_node (ac_node (ac_leaf 1043 (vd_129_1043 E)) (ac_node (ac_leaf 1045 (vd_129_1045 E)) (ac_leaf 1046 (vd_129_1046 E)))) (ac_node (ac_leaf 1047 (vd_129_1047 E)) (ac_node (ac_leaf 1049 (vd_129_1049 E)) (ac_leaf 1050 (vd_129_1050 E))))) (ac_node (ac_node (ac_leaf 1051 (vd_129_1051 E)) (ac_node (ac_leaf 1052 (vd_129_1052 E)) (ac_leaf 1053 (vd_129_1053 E)))) (ac_node (ac_node (ac_leaf 1055 (vd_129_1055 E)) (ac_leaf 1056 (vd_129_1056 E))) (ac_node (ac_leaf 1057 (vd_129_1057 E)) (ac_leaf 1058 (vd_129_1058 E))))))) (ac_node (ac_node (ac_node (ac_node (ac_leaf 1059 (vd_129_1059 E)) (ac_node (ac_leaf 1061 (vd_129_1061 E)) (ac_leaf 1062 (vd_129_1062 E)))) (ac_node (ac_leaf 1063 (vd_129_1063 E)) (ac_node (ac_leaf 1064 (vd_129_1064 E)) (ac_leaf 1065 (vd_129_1065 E))))) (ac_node (ac_node (ac_leaf 1067 (vd_129_1067 E)) (ac_node (ac_leaf 1068 (vd_129_1068 E)) (ac_leaf 1069 (vd_129_1069 E)))) (ac_node (ac_node (ac_leaf 1070 (vd_129_1070 E)) (ac_leaf 1071 (vd_129_1071 E))) (ac_node (ac_leaf 1073 (vd_129_1073 E)) (ac_leaf 1074 (vd_129_1074 E)))))) (ac_node (ac_node (ac_node (ac_leaf 1075 (vd_129_1075 E)) (ac_node (ac_leaf 1076 (vd_129_1076 E)) (ac_leaf 1079 (vd_129_1079 E)))) (ac_node (ac_leaf 1081 (vd_129_1081 E)) (ac_node (ac_leaf 1082 (vd_129_1082 E)) (ac_leaf 1085 (vd_129_1085 E))))) (ac_node (ac_node (ac_leaf 1087 (vd_129_1087 E)) (ac_node (ac_leaf 1090 (vd_129_1090 E)) (ac_leaf 1091 (vd_129_1091 E)))) (ac_node (ac_node (ac_leaf 1092 (vd_129_1092 E)) (ac_leaf 1094 (vd_129_1094 E))) (ac_node (ac_leaf 1097 (vd_129_1097 E)) (ac_leaf 1098 (vd_129_1098 E)))))))) (ac_node (ac_node (ac_node (ac_node (ac_node (ac_leaf 1099 (vd_129_1099 E)) (ac_node (ac_leaf 1100 (vd_129_1100 E)) (ac_leaf 1102 (vd_129_1102 E)))) (ac_node (ac_leaf 1103 (vd_129_1103 E)) (ac_node (ac_leaf 1104 (vd_129_1104 E)) (ac_leaf 1107 (vd_129_1107 E))))) (ac_node (ac_node (ac_leaf 1108 (vd_129_1108 E)) (ac_node (ac_leaf 1109 (vd_129_1109 E)) (ac_leaf 1112 (vd_129_1112 E)))) (ac_node (ac_leaf 1113 (vd_129_1113 E)) (ac_node (ac_leaf 1114 (vd_129_1114 E)) (ac_leaf 1116 (vd_129_1116 E)))))) (ac_node (ac_node (ac_node (ac_leaf 1117 (vd_129_1117 E)) (ac_node (ac_leaf 1118 (vd_129_1118 E)) (ac_leaf 1119 (vd_129_1119 E)))) (ac_node (ac_leaf 1120 (vd_129_1120 E)) (ac_node (ac_leaf 1122 (vd_129_1122 E)) (ac_leaf 1123 (vd_129_1123 E))))) (ac_node (ac_node (ac_leaf 1124 (vd_129_1124 E)) (ac_node (ac_leaf 1125 (vd_129_1125 E)) (ac_leaf 1126 (vd_129_1126 E)))) (ac_node (ac_node (ac_leaf 1129 (vd_129_1129 E)) (ac_leaf 1131 (vd_129_1131 E))) (ac_node (ac_leaf 1132 (vd_129_1132 E)) (ac_leaf 1133 (vd_129_1133 E))))))) (ac_node (ac_node (ac_node (ac_node (ac_leaf 1135 (vd_129_1135 E)) (ac_node (ac_leaf 1136 (vd_129_1136 E)) (ac_leaf 1137 (vd_129_1137 E)))) (ac_node (ac_leaf 1138 (vd_129_1138 E)) (ac_node (ac_leaf 1139 (vd_129_1139 E)) (ac_leaf 1141 (vd_129_1141 E))))) (ac_node (ac_node (ac_leaf 1142 (vd_129_1142 E)) (ac_node (ac_leaf 1143 (vd_129_1143 E)) (ac_leaf 1144 (vd_129_1144 E)))) (ac_node (ac_node (ac_leaf 1147 (vd_129_1147 E)) (ac_leaf 1149 (vd_129_1149 E))) (ac_node (ac_leaf 1150 (vd_129_1150 E)) (ac_leaf 1153 (vd_129_1153 E)))))) (ac_node (ac_node (ac_node (ac_leaf 1155 (vd_129_1155 E)) (ac_node (ac_leaf 1158 (vd_129_1158 E)) (ac_leaf 1159 (vd_129_1159 E)))) (ac_node (ac_leaf 1160 (vd_129_1160 E)) (ac_node (ac_leaf 1162 (vd_129_1162 E)) (ac_leaf 1165 (vd_129_1165 E))))) (ac_node (ac_node (ac_leaf 1166 (vd_129_1166 E)) (ac_node (ac_leaf 1167 (vd_129_1167 E)) (ac_leaf 1168 (vd_129_1168 E)))) (ac_node (ac_node (ac_leaf 1170 (vd_129_1170 E)) (ac_leaf 1171 (vd_129_1171 E))) (ac_node (ac_leaf 1172 (vd_129_1172 E)) (ac_leaf 1175 (vd_129_1175 E))))))))) (ac_node (ac_node (ac_node (ac_node (ac_node (ac_node (ac_leaf 1176 (vd_129_1176 E)) (ac_node (ac_leaf 1177 (vd_129_1177 E)) (ac_leaf 1180 (vd_129_1180 E)))) (ac_node (ac_leaf 1181 (vd_129_1181 E)) (ac_node (ac_leaf 1184 (vd_129_1184 E)) (ac_leaf 1185 (vd_129_1185 E))))) (ac_node (ac_node (ac_leaf 1188 (vd_129_1188 E)) (ac_node (ac_leaf 1191 (vd_129_1191 E)) (ac_leaf 1192 (vd_129_1192 E)))) (ac_node (ac_leaf 1193 (vd_129_1193 E)) (ac_node (ac_leaf 1194 (vd_129_1194 E)) (ac_leaf 1195 (vd_129_1195 E)))))) (ac_node (ac_node (ac_node (ac_leaf 1197 (vd_129_1197 E)) (ac_node (ac_leaf 1198 (vd_129_1198 E)) (ac_leaf 1199 (vd_129_1199 E)))) (ac_node (ac_leaf 1200 (vd_129_1200 E)) (ac_node (ac_leaf 1201 (vd_129_1201 E)) (ac_leaf 1203 (vd_129_1203 E))))) (ac_node (ac_node (ac_leaf 1204 (vd_129_1204 E)) (ac_node (ac_leaf 1205 (vd_129_1205 E)) (ac_leaf 1206 (vd_129_1206 E)))) (ac_node (ac_node (ac_leaf 1207 (vd_129_1207 E)) (ac_leaf 1209 (vd_129_1209 E))) (ac_node (ac_leaf 1210 (vd_129_1210 E)) (ac_leaf 1211 (vd_129_1211 E))))))) (ac_node (ac_node (ac_node (ac_node (ac_leaf 1212 (vd_129_1212 E)) (ac_node (ac_leaf 1213 (vd_129_1213 E)) (ac_leaf 1216 (vd_129_1216 E)))) (ac_node (ac_leaf 1218 (vd_129_1218 E)) (ac_node (ac_leaf 1219 (vd_129_1219 E)) (ac_leaf 1220 (vd_129_1220 E))))) (ac_node (ac_node (ac_leaf 1222 (vd_129_1222 E)) (ac_node (ac_leaf 1223 (vd_129_1223 E)) (ac_leaf 1224 (vd_129_1224 E)))) (ac_node (ac_node (ac_leaf 1225 (vd_129_1225 E)) (ac_leaf 1226 (vd_129_1226 E))) (ac_node (ac_leaf 1228 (vd_129_1228 E)) (ac_leaf 1229 (vd_129_1229 E)))))) (ac_node (ac_node (ac_node (ac_leaf 1230 (vd_129_1230 E)) (ac_node (ac_leaf 1231 (vd_129_1231 E)) (ac_leaf 1232 (vd_129_1232 E)))) (ac_node (ac_leaf 1234 (vd_129_1234 E)) (ac_node (ac_leaf 1235 (vd_129_1235 E)) (ac_leaf 1236 (vd_129_1236 E))))) (ac_node (ac_node (ac_leaf 1237 (vd_129_1237 E)) (ac_node (ac_leaf 1240 (vd_129_1240 E)) (ac_leaf 1242 (vd_129_1242 E)))) (ac_node (ac_node (ac_leaf 1243 (vd_129_1243 E)) (ac_leaf 1246 (vd_129_1246 E))) (ac_node (ac_leaf 1248 (vd_129_1248 E)) (ac_leaf 1251 (vd_129_1251 E)))))))) (ac_node (ac_node (ac_node (ac_node (ac_node (ac_leaf 1252 (vd_129_1252 E)) (ac_node (ac_leaf 1253 (vd_129_1253 E)) (ac_leaf 1255 (vd_129_1255 E)))) (ac_node (ac_leaf 1258 (vd_129_1258 E)) (ac_node (ac_leaf 1259 (vd_129_1259 E)) (ac_leaf 1260 (vd_129_1260 E))))) (ac_node (ac_node (ac_leaf 1261 (vd_129_1261 E)) (ac_node (ac_leaf 1263 (vd_129_1263 E)) (ac_leaf 1264 (vd_129_1264 E)))) (ac_node (ac_node (ac_leaf 1265 (vd_129_1265 E)) (ac_leaf 1268 (vd_129_1268 E))) (ac_node (ac_leaf 1269 (vd_129_1269 E)) (ac_leaf 1270 (vd_129_1270 E)))))) (ac_node (ac_node (ac_node (ac_leaf 1273 (vd_129_1273 E)) (ac_node (ac_leaf 1274 (vd_129_1274 E)) (ac_leaf 1275 (vd_129_1275 E)))) (ac_node (ac_leaf 1277 (vd_129_1277 E)) (ac_node (ac_leaf 1278 (vd_129_1278 E)) (ac_leaf 1279 (vd_129_1279 E))))) (ac_node (ac_node (ac_leaf 1280 (vd_129_1280 E)) (ac_node (ac_leaf 1281 (vd_129_1281 E)) (ac_leaf 1284 (vd_129_1284 E)))) (ac_node (ac_node (ac_leaf 1286 (vd_129_1286 E)) (ac_leaf 1287 (vd_129_1287 E))) (ac_node (ac_leaf 1288 (vd_129_1288 E)) (ac_leaf 1290 (vd_129_1290 E))))))) (ac_node (ac_node (ac_node (ac_node (ac_leaf 1291 (vd_129_1291 E)) (ac_node (ac_leaf 1292 (vd_129_1292 E)) (ac_leaf 1293 (vd_129_1293 E)))) (ac_node (ac_leaf 1296 (vd_129_1296 E)) (ac_node (ac_leaf 1298 (vd_129_1298 E)) (ac_leaf 1299 (vd_129_1299 E))))) (ac_node (ac_node (ac_leaf 1302 (vd_129_1302 E)) (ac_node (ac_leaf 1304 (vd_129_1304 E)) (ac_leaf 1307 (vd_129_1307 E)))) (ac_node (ac_node (ac_leaf 1308 (vd_129_1308 E)) (ac_leaf 1309 (vd_129_1309 E))) (ac_node (ac_leaf 1311 (vd_129_1311 E)) (ac_leaf 1314 (vd_129_1314 E)))))) (ac_node (ac_node (ac_node (ac_leaf 1315 (vd_129_1315 E)) (ac_node (ac_leaf 1316 (vd_129_1316 E)) (ac_leaf 1317 (vd_129_1317 E)))) (ac_node (ac_leaf 1319 (vd_129_1319 E)) (ac_node (ac_leaf 1320 (vd_129_1320 E)) (ac_leaf 1321 (vd_129_1321 E))))) (ac_node (ac_node (ac_leaf 1324 (vd_129_1324 E)) (ac_node (ac_leaf 1325 (vd_129_1325 E)) (ac_leaf 1326 (vd_129_1326 E)))) (ac_node (ac_node (ac_leaf 1329 (vd_129_1329 E)) (ac_leaf 1332 (vd_129_1332 E))) (ac_node (ac_leaf 1335 (vd_129_1335 E)) (ac_leaf 1336 (vd_129_1336 E))))))))))))
