theorem vd_93_166 (E : ac_E) : ac_V E ac_MDf ac_HDf 93 166 (.inl (o_is 167)) := ⟨ok_iastore dd_93_166, mn_is _⟩
theorem vd_93_167 (E : ac_E) : ac_V E ac_MDf ac_HDf 93 167 (.inl (o_inc 2 1 170)) := ⟨ok_iinc dd_93_167 (by decide), mn_inc _ _ _⟩
theorem vd_93_170 (E : ac_E) : ac_V E ac_MDf ac_HDf 93 170 (.inl (o_go 142)) := ⟨ok_goto dd_93_170 (by decide), mn_go _⟩
theorem vd_93_173 (E : ac_E) : ac_V E ac_MDf ac_HDf 93 173 (.inl (o_con (.int 0) 174)) := ⟨ok_iconst dd_93_173 (by decide), mn_con _ _⟩
theorem vd_93_174 (E : ac_E) : ac_V E ac_MDf ac_HDf 93 174 (.inl (o_ist 2 175)) := ⟨ok_istore_n dd_93_174, mn_ist _ _⟩
theorem vd_93_175 (E : ac_E) : ac_V E ac_MDf ac_HDf 93 175 (.inl (o_ild 2 176)) := ⟨ok_iload_n dd_93_175, mn_ild _ _⟩
theorem vd_93_176 (E : ac_E) : ac_V E ac_MDf ac_HDf 93 176 (.inl (o_ald 0 177)) := ⟨ok_aload_n dd_93_176, mn_ald _ _⟩
theorem vd_93_177 (E : ac_E) : ac_V E ac_MDf ac_HDf 93 177 (.inl (o_get 5 14 180)) := ⟨ok_getf (ci := 5) (f := 14) (C := RX5) (T := TX5) (N := 17) (ref := RX5) rfl win_5 (by decide) rfl wm_652 dd_93_177, mn_get _ _ _⟩
theorem vd_93_180 (E : ac_E) : ac_V E ac_MDf ac_HDf 93 180 (.inl (o_ge 241 183)) := ⟨ok_icmpge dd_93_180 (by decide), mn_ge _ _⟩
theorem vd_93_183 (E : ac_E) : ac_V E ac_MDf ac_HDf 93 183 (.inl (o_ald 0 184)) := ⟨ok_aload_n dd_93_183, mn_ald _ _⟩
theorem vd_93_184 (E : ac_E) : ac_V E ac_MDf ac_HDf 93 184 (.inl (o_get 5 16 187)) := ⟨ok_getf (ci := 5) (f := 16) (C := RX5) (T := TX5) (N := 17) (ref := RX5) rfl win_5 (by decide) rfl wm_654 dd_93_184, mn_get _ _ _⟩
theorem vd_93_187 (E : ac_E) : ac_V E ac_MDf ac_HDf 93 187 (.inl (o_ild 2 188)) := ⟨ok_iload_n dd_93_187, mn_ild _ _⟩
theorem vd_93_188 (E : ac_E) : ac_V E ac_MDf ac_HDf 93 188 (.inl (o_ia 189)) := ⟨ok_iaload dd_93_188, mn_ia _⟩
theorem vd_93_189 (E : ac_E) : ac_V E ac_MDf ac_HDf 93 189 (.inl (o_ist 3 190)) := ⟨ok_istore_n dd_93_189, mn_ist _ _⟩
theorem vd_93_190 (E : ac_E) : ac_V E ac_MDf ac_HDf 93 190 (.inl (o_ald 0 191)) := ⟨ok_aload_n dd_93_190, mn_ald _ _⟩
theorem vd_93_191 (E : ac_E) : ac_V E ac_MDf ac_HDf 93 191 (.inl (o_get 5 15 194)) := ⟨ok_getf (ci := 5) (f := 15) (C := RX5) (T := TX5) (N := 17) (ref := RX5) rfl win_5 (by decide) rfl wm_653 dd_93_191, mn_get _ _ _⟩
theorem vd_93_194 (E : ac_E) : ac_V E ac_MDf ac_HDf 93 194 (.inl (o_ild 2 195)) := ⟨ok_iload_n dd_93_194, mn_ild _ _⟩
theorem vd_93_195 (E : ac_E) : ac_V E ac_MDf ac_HDf 93 195 (.inl (o_ia 196)) := ⟨ok_iaload dd_93_195, mn_ia _⟩
theorem vd_93_196 (E : ac_E) : ac_V E ac_MDf ac_HDf 93 196 (.inl (o_lt0 235 199)) := ⟨ok_iflt dd_93_196 (by decide), mn_lt0 _ _⟩
theorem vd_93_199 (E : ac_E) : ac_V E ac_MDf ac_HDf 93 199 (.inl (o_ald 0 200)) := ⟨ok_aload_n dd_93_199, mn_ald _ _⟩
theorem vd_93_200 (E : ac_E) : ac_V E ac_MDf ac_HDf 93 200 (.inl (o_get 5 15 203)) := ⟨ok_getf (ci := 5) (f := 15) (C := RX5) (T := TX5) (N := 17) (ref := RX5) rfl win_5 (by decide) rfl wm_653 dd_93_200, mn_get _ _ _⟩
theorem vd_93_203 (E : ac_E) : ac_V E ac_MDf ac_HDf 93 203 (.inl (o_ild 2 204)) := ⟨ok_iload_n dd_93_203, mn_ild _ _⟩
theorem vd_93_204 (E : ac_E) : ac_V E ac_MDf ac_HDf 93 204 (.inl (o_ald 0 205)) := ⟨ok_aload_n dd_93_204, mn_ald _ _⟩
theorem vd_93_205 (E : ac_E) : ac_V E ac_MDf ac_HDf 93 205 (.inl (o_ald 0 206)) := ⟨ok_aload_n dd_93_205, mn_ald _ _⟩
theorem vd_93_206 (E : ac_E) : ac_V E ac_MDf ac_HDf 93 206 (.inl (o_get 5 15 209)) := ⟨ok_getf (ci := 5) (f := 15) (C := RX5) (T := TX5) (N := 17) (ref := RX5) rfl win_5 (by decide) rfl wm_653 dd_93_206, mn_get _ _ _⟩
theorem vd_93_209 (E : ac_E) : ac_V E ac_MDf ac_HDf 93 209 (.inl (o_ild 2 210)) := ⟨ok_iload_n dd_93_209, mn_ild _ _⟩
theorem vd_93_210 (E : ac_E) : ac_V E ac_MDf ac_HDf 93 210 (.inl (o_ia 211)) := ⟨ok_iaload dd_93_210, mn_ia _⟩
theorem vd_93_211 (E : ac_E) : ac_V E ac_MDf ac_HDf 93 211 (.inl (o_ild 1 212)) := ⟨ok_iload_n dd_93_211, mn_ild _ _⟩
theorem vd_93_212 (E : ac_E) : ac_V E ac_MDf ac_HDf 93 212 (.inl (o_eq0 230 215)) := ⟨ok_ifeq dd_93_212 (by decide), mn_eq0 _ _⟩
theorem vd_93_215 (E : ac_E) : ac_V E ac_MDf ac_HDf 93 215 (.inl (o_ild 3 216)) := ⟨ok_iload_n dd_93_215, mn_ild _ _⟩
theorem vd_93_216 (E : ac_E) : ac_V E ac_MDf ac_HDf 93 216 (.inl (o_con (.int 6) 218)) := ⟨ok_bipush dd_93_216 (by decide), mn_con _ _⟩
theorem vd_93_218 (E : ac_E) : ac_V E ac_MDf ac_HDf 93 218 (.inl (o_ge 230 221)) := ⟨ok_icmpge dd_93_218 (by decide), mn_ge _ _⟩
theorem vd_93_221 (E : ac_E) : ac_V E ac_MDf ac_HDf 93 221 (.inl (o_ild 3 222)) := ⟨ok_iload_n dd_93_221, mn_ild _ _⟩
theorem vd_93_222 (E : ac_E) : ac_V E ac_MDf ac_HDf 93 222 (.inl (o_con (.int 3) 223)) := ⟨ok_iconst dd_93_222 (by decide), mn_con _ _⟩
theorem vd_93_223 (E : ac_E) : ac_V E ac_MDf ac_HDf 93 223 (.inl (o_add 224)) := ⟨ok_iadd dd_93_223, mn_add _⟩
theorem vd_93_224 (E : ac_E) : ac_V E ac_MDf ac_HDf 93 224 (.inl (o_con (.int 6) 226)) := ⟨ok_bipush dd_93_224 (by decide), mn_con _ _⟩
theorem vd_93_226 (E : ac_E) : ac_V E ac_MDf ac_HDf 93 226 (.inl (o_rem 227)) := ⟨ok_irem dd_93_226, mn_rem _⟩
theorem vd_93_227 (E : ac_E) : ac_V E ac_MDf ac_HDf 93 227 (.inl (o_go 231)) := ⟨ok_goto dd_93_227 (by decide), mn_go _⟩
theorem vd_93_230 (E : ac_E) : ac_V E ac_MDf ac_HDf 93 230 (.inl (o_ild 3 231)) := ⟨ok_iload_n dd_93_230, mn_ild _ _⟩
theorem vd_93_231 (E : ac_E) : ac_V E ac_MDf ac_HDf 93 231 (.inr (.inl (89,3,234,7))) := ac_Vc0 ((ok_callV (T := TX5) (N := 17) rfl rfl (by decide) (by decide +kernel) wm_792 wm_56 wm_789 wm_791 wm_38 dd_93_231).1) (fun _ => rfl)
theorem vd_93_234 (E : ac_E) : ac_V E ac_MDf ac_HDf 93 234 (.inl (o_is 235)) := ⟨ok_iastore dd_93_234, mn_is _⟩
theorem vd_93_235 (E : ac_E) : ac_V E ac_MDf ac_HDf 93 235 (.inl (o_inc 2 1 238)) := ⟨ok_iinc dd_93_235 (by decide), mn_inc _ _ _⟩
theorem vd_93_238 (E : ac_E) : ac_V E ac_MDf ac_HDf 93 238 (.inl (o_go 175)) := ⟨ok_goto dd_93_238 (by decide), mn_go _⟩
theorem vd_93_241 (E : ac_E) : ac_V E ac_MDf ac_HDf 93 241 (.inr (.inr (.inl 0))) := ⟨fun _ => ⟨dd_93_241, rfl⟩, fun q => nomatch q, fun q => nomatch q⟩
theorem va_93 (E : ac_E) (pc : Nat) : ac_V E ac_MDf ac_HDf 93 pc (tb_93 (ac_len E) (ac_xs E) pc) := (ac_node (ac_node (ac_node (ac_node (ac_node (ac_node (ac_node (ac_leaf 0 (vd_93_0 E)) (ac_leaf 1 (vd_93_1 E))) (ac_node (ac_leaf 2 (vd_93_2 E)) (ac_leaf 3 (vd_93_3 E)))) (ac_node (ac_node (ac_leaf 4 (vd_93_4 E)) (ac_leaf 7 (vd_93_7 E))) (ac_node (ac_leaf 8 (vd_93_8 E)) (ac_leaf 11 (vd_93_11 E))))) (ac_node (ac_node (ac_node (ac_leaf 12 (vd_93_12 E)) (ac_leaf 15 (vd_93_15 E))) (ac_node (ac_leaf 16 (vd_93_16 E)) (ac_leaf 19 (vd_93_19 E)))) (ac_node (ac_node (ac_leaf 20 (vd_93_20 E)) (ac_leaf 21 (vd_93_21 E))) (ac_node (ac_leaf 22 (vd_93_22 E)) (ac_node (ac_leaf 25 (vd_93_25 E)) (ac_leaf 28 (vd_93_28 E))))))) (ac_node (ac_node (ac_node (ac_node (ac_leaf 29 (vd_93_29 E)) (ac_leaf 30 (vd_93_30 E))) (ac_node (ac_leaf 31 (vd_93_31 E)) (ac_leaf 32 (vd_93_32 E)))) (ac_node (ac_node (ac_leaf 35 (vd_93_35 E)) (ac_leaf 36 (vd_93_36 E))) (ac_node (ac_leaf 39 (vd_93_39 E)) (ac_node (ac_leaf 40 (vd_93_40 E)) (ac_leaf 43 (vd_93_43 E)))))) (ac_node (ac_node (ac_node (ac_leaf 44 (vd_93_44 E)) (ac_leaf 45 (vd_93_45 E))) (ac_node (ac_leaf 46 (vd_93_46 E)) (ac_leaf 48 (vd_93_48 E)))) (ac_node (ac_node (ac_leaf 51 (vd_93_51 E)) (ac_leaf 52 (vd_93_52 E))) (ac_node (ac_leaf 53 (vd_93_53 E)) (ac_node (ac_leaf 54 (vd_93_54 E)) (ac_leaf 57 (vd_93_57 E)))))))) (ac_node (ac_node (ac_node (ac_node (ac_node (ac_leaf 59 (vd_93_59 E)) (ac_leaf 60 (vd_93_60 E))) (ac_node (ac_leaf 63 (vd_93_63 E)) (ac_leaf 64 (vd_93_64 E)))) (ac_node (ac_node (ac_leaf 67 (vd_93_67 E)) (ac_leaf 69 (vd_93_69 E))) (ac_node (ac_leaf 70 (vd_93_70 E)) (ac_leaf 71 (vd_93_71 E))))) (ac_node (ac_node (ac_node (ac_leaf 74 (vd_93_74 E)) (ac_leaf 77 (vd_93_77 E))) (ac_node (ac_leaf 78 (vd_93_78 E)) (ac_leaf 81 (vd_93_81 E)))) (ac_node (ac_node (ac_leaf 82 (vd_93_82 E)) (ac_leaf 83 (vd_93_83 E))) (ac_node (ac_leaf 86 (vd_93_86 E)) (ac_node (ac_leaf 87 (vd_93_87 E)) (ac_leaf 88 (vd_93_88 E))))))) (ac_node (ac_node (ac_node (ac_node (ac_leaf 89 (vd_93_89 E)) (ac_leaf 90 (vd_93_90 E))) (ac_node (ac_leaf 91 (vd_93_91 E)) (ac_leaf 92 (vd_93_92 E)))) (ac_node (ac_node (ac_leaf 93 (vd_93_93 E)) (ac_leaf 94 (vd_93_94 E))) (ac_node (ac_leaf 97 (vd_93_97 E)) (ac_node (ac_leaf 98 (vd_93_98 E)) (ac_leaf 101 (vd_93_101 E)))))) (ac_node (ac_node (ac_node (ac_leaf 102 (vd_93_102 E)) (ac_leaf 103 (vd_93_103 E))) (ac_node (ac_leaf 104 (vd_93_104 E)) (ac_leaf 107 (vd_93_107 E)))) (ac_node (ac_node (ac_leaf 110 (vd_93_110 E)) (ac_leaf 111 (vd_93_111 E))) (ac_node (ac_leaf 114 (vd_93_114 E)) (ac_node (ac_leaf 116 (vd_93_116 E)) (ac_leaf 117 (vd_93_117 E))))))))) (ac_node (ac_node (ac_node (ac_node (ac_node (ac_node (ac_leaf 120 (vd_93_120 E)) (ac_leaf 122 (vd_93_122 E))) (ac_node (ac_leaf 123 (vd_93_123 E)) (ac_leaf 124 (vd_93_124 E)))) (ac_node (ac_node (ac_leaf 125 (vd_93_125 E)) (ac_leaf 126 (vd_93_126 E))) (ac_node (ac_leaf 127 (vd_93_127 E)) (ac_leaf 128 (vd_93_128 E))))) (ac_node (ac_node (ac_node (ac_leaf 131 (vd_93_131 E)) (ac_leaf 134 (vd_93_134 E))) (ac_node (ac_leaf 137 (vd_93_137 E)) (ac_leaf 140 (vd_93_140 E)))) (ac_node (ac_node (ac_leaf 141 (vd_93_141 E)) (ac_leaf 142 (vd_93_142 E))) (ac_node (ac_leaf 143 (vd_93_143 E)) (ac_node (ac_leaf 144 (vd_93_144 E)) (ac_leaf 147 (vd_93_147 E))))))) (ac_node (ac_node (ac_node (ac_node (ac_leaf 148 (vd_93_148 E)) (ac_leaf 151 (vd_93_151 E))) (ac_node (ac_leaf 152 (vd_93_152 E)) (ac_leaf 155 (vd_93_155 E)))) (ac_node (ac_node (ac_leaf 156 (vd_93_156 E)) (ac_leaf 159 (vd_93_159 E))) (ac_node (ac_leaf 160 (vd_93_160 E)) (ac_node (ac_leaf 161 (vd_93_161 E)) (ac_leaf 164 (vd_93_164 E)))))) (ac_node (ac_node (ac_node (ac_leaf 165 (vd_93_165 E)) (ac_leaf 166 (vd_93_166 E))) (ac_node (ac_leaf 167 (vd_93_167 E)) (ac_leaf 170 (vd_93_170 E)))) (ac_node (ac_node (ac_leaf 173 (vd_93_173 E)) (ac_leaf 174 (vd_93_174 E))) (ac_node (ac_leaf 175 (vd_93_175 E)) (ac_node (ac_leaf 176 (vd_93_176 E)) (ac_leaf 177 (vd_93_177 E)))))))) (ac_node (ac_node (ac_node (ac_node (ac_node (ac_leaf 180 (vd_93_180 E)) (ac_leaf 183 (vd_93_183 E))) (ac_node (ac_leaf 184 (vd_93_184 E)) (ac_leaf 187 (vd_93_187 E)))) (ac_node (ac_node (ac_leaf 188 (vd_93_188 E)) (ac_leaf 189 (vd_93_189 E))) (ac_node (ac_leaf 190 (vd_93_190 E)) (ac_node (ac_leaf 191 (vd_93_191 E)) (ac_leaf 194 (vd_93_194 E)))))) (ac_node (ac_node (ac_node (ac_leaf 195 (vd_93_195 E)) (ac_leaf 196 (vd_93_196 E))) (ac_node (ac_leaf 199 (vd_93_199 E)) (ac_leaf 200 (vd_93_200 E)))) (ac_node (ac_node (ac_leaf 203 (vd_93_203 E)) (ac_leaf 204 (vd_93_204 E))) (ac_node (ac_leaf 205 (vd_93_205 E)) (ac_node (ac_leaf 206 (vd_93_206 E)) (ac_leaf 209 (vd_93_209 E))))))) (ac_node (ac_node (ac_node (ac_node (ac_leaf 210 (vd_93_210 E)) (ac_leaf 211 (vd_93_211 E))) (ac_node (ac_leaf 212 (vd_93_212 E)) (ac_leaf 215 (vd_93_215 E)))) (ac_node (ac_node (ac_leaf 216 (vd_93_216 E)) (ac_leaf 218 (vd_93_218 E))) (ac_node (ac_leaf 221 (vd_93_221 E)) (ac_node (ac_leaf 222 (vd_93_222 E)) (ac_leaf 223 (vd_93_223 E)))))) (ac_node (ac_node (ac_node (ac_leaf 224 (vd_93_224 E)) (ac_leaf 226 (vd_93_226 E))) (ac_node (ac_leaf 227 (vd_93_227 E)) (ac_leaf 230 (vd_93_230 E)))) (ac_node (ac_node (ac_leaf 231 (vd_93_231 E)) (ac_leaf 234 (vd_93_234 E))) (ac_node (ac_leaf 235 (vd_93_235 E)) (ac_node (ac_leaf 238 (vd_93_238 E)) (ac_leaf 241 (vd_93_241 E))))))))))
theorem vd_94_0 (E : ac_E) : ac_V E ac_MDf ac_HDf 94 0 (.inl (o_con (.int 3) 1)) := ⟨ok_iconst dd_94_0 (by decide), mn_con _ _⟩
theorem vd_94_1 (E : ac_E) : ac_V E ac_MDf ac_HDf 94 1 (.inl (o_ild 1 2)) := ⟨ok_iload_n dd_94_1, mn_ild _ _⟩
theorem vd_94_2 (E : ac_E) : ac_V E ac_MDf ac_HDf 94 2 (.inl (o_con (.int 1) 3)) := ⟨ok_iconst dd_94_2 (by decide), mn_con _ _⟩
theorem vd_94_3 (E : ac_E) : ac_V E ac_MDf ac_HDf 94 3 (.inl (o_sub 4)) := ⟨ok_isub dd_94_3, mn_sub _⟩
theorem vd_94_4 (E : ac_E) : ac_V E ac_MDf ac_HDf 94 4 (.inl (o_mul 5)) := ⟨ok_imul dd_94_4, mn_mul _⟩
theorem vd_94_5 (E : ac_E) : ac_V E ac_MDf ac_HDf 94 5 (.inl (o_ist 4 7)) := ⟨ok_istore dd_94_5, mn_ist _ _⟩
theorem vd_94_7 (E : ac_E) : ac_V E ac_MDf ac_HDf 94 7 (.inl (o_ald 0 8)) := ⟨ok_aload_n dd_94_7, mn_ald _ _⟩
theorem vd_94_8 (E : ac_E) : ac_V E ac_MDf ac_HDf 94 8 (.inl (o_get 5 10 11)) := ⟨ok_getf (ci := 5) (f := 10) (C := RX5) (T := TX5) (N := 17) (ref := RX5) rfl win_5 (by decide) rfl wm_648 dd_94_8, mn_get _ _ _⟩
theorem vd_94_11 (E : ac_E) : ac_V E ac_MDf ac_HDf 94 11 (.inl (o_ild 4 13)) := ⟨ok_iload dd_94_11, mn_ild _ _⟩
theorem vd_94_13 (E : ac_E) : ac_V E ac_MDf ac_HDf 94 13 (.inl (o_ald 0 14)) := ⟨ok_aload_n dd_94_13, mn_ald _ _⟩
theorem vd_94_14 (E : ac_E) : ac_V E ac_MDf ac_HDf 94 14 (.inl (o_get 5 10 17)) := ⟨ok_getf (ci := 5) (f := 10) (C := RX5) (T := TX5) (N := 17) (ref := RX5) rfl win_5 (by decide) rfl wm_648 dd_94_14, mn_get _ _ _⟩
theorem vd_94_17 (E : ac_E) : ac_V E ac_MDf ac_HDf 94 17 (.inl (o_ild 4 19)) := ⟨ok_iload dd_94_17, mn_ild _ _⟩
theorem vd_94_19 (E : ac_E) : ac_V E ac_MDf ac_HDf 94 19 (.inl (o_ia 20)) := ⟨ok_iaload dd_94_19, mn_ia _⟩
theorem vd_94_20 (E : ac_E) : ac_V E ac_MDf ac_HDf 94 20 (.inl (o_ild 3 21)) := ⟨ok_iload_n dd_94_20, mn_ild _ _⟩
theorem vd_94_21 (E : ac_E) : ac_V E ac_MDf ac_HDf 94 21 (.inl (o_add 22)) := ⟨ok_iadd dd_94_21, mn_add _⟩
theorem vd_94_22 (E : ac_E) : ac_V E ac_MDf ac_HDf 94 22 (.inl (o_is 23)) := ⟨ok_iastore dd_94_22, mn_is _⟩
theorem vd_94_23 (E : ac_E) : ac_V E ac_MDf ac_HDf 94 23 (.inl (o_ald 0 24)) := ⟨ok_aload_n dd_94_23, mn_ald _ _⟩
theorem vd_94_24 (E : ac_E) : ac_V E ac_MDf ac_HDf 94 24 (.inl (o_get 5 10 27)) := ⟨ok_getf (ci := 5) (f := 10) (C := RX5) (T := TX5) (N := 17) (ref := RX5) rfl win_5 (by decide) rfl wm_648 dd_94_24, mn_get _ _ _⟩
theorem vd_94_27 (E : ac_E) : ac_V E ac_MDf ac_HDf 94 27 (.inl (o_ild 4 29)) := ⟨ok_iload dd_94_27, mn_ild _ _⟩
theorem vd_94_29 (E : ac_E) : ac_V E ac_MDf ac_HDf 94 29 (.inl (o_con (.int 1) 30)) := ⟨ok_iconst dd_94_29 (by decide), mn_con _ _⟩
theorem vd_94_30 (E : ac_E) : ac_V E ac_MDf ac_HDf 94 30 (.inl (o_add 31)) := ⟨ok_iadd dd_94_30, mn_add _⟩
theorem vd_94_31 (E : ac_E) : ac_V E ac_MDf ac_HDf 94 31 (.inl (o_ald 0 32)) := ⟨ok_aload_n dd_94_31, mn_ald _ _⟩
theorem vd_94_32 (E : ac_E) : ac_V E ac_MDf ac_HDf 94 32 (.inl (o_get 5 10 35)) := ⟨ok_getf (ci := 5) (f := 10) (C := RX5) (T := TX5) (N := 17) (ref := RX5) rfl win_5 (by decide) rfl wm_648 dd_94_32, mn_get _ _ _⟩
theorem vd_94_35 (E : ac_E) : ac_V E ac_MDf ac_HDf 94 35 (.inl (o_ild 4 37)) := ⟨ok_iload dd_94_35, mn_ild _ _⟩
theorem vd_94_37 (E : ac_E) : ac_V E ac_MDf ac_HDf 94 37 (.inl (o_con (.int 1) 38)) := ⟨ok_iconst dd_94_37 (by decide), mn_con _ _⟩
theorem vd_94_38 (E : ac_E) : ac_V E ac_MDf ac_HDf 94 38 (.inl (o_add 39)) := ⟨ok_iadd dd_94_38, mn_add _⟩
theorem vd_94_39 (E : ac_E) : ac_V E ac_MDf ac_HDf 94 39 (.inl (o_ia 40)) := ⟨ok_iaload dd_94_39, mn_ia _⟩
theorem vd_94_40 (E : ac_E) : ac_V E ac_MDf ac_HDf 94 40 (.inl (o_ild 3 41)) := ⟨ok_iload_n dd_94_40, mn_ild _ _⟩
theorem vd_94_41 (E : ac_E) : ac_V E ac_MDf ac_HDf 94 41 (.inl (o_ild 2 42)) := ⟨ok_iload_n dd_94_41, mn_ild _ _⟩
theorem vd_94_42 (E : ac_E) : ac_V E ac_MDf ac_HDf 94 42 (.inl (o_con (.int 0) 43)) := ⟨ok_iconst dd_94_42 (by decide), mn_con _ _⟩
theorem vd_94_43 (E : ac_E) : ac_V E ac_MDf ac_HDf 94 43 (.inr (.inl (69,2,46,0))) := ac_Vc0 ((ok_callS rfl (by decide) (by decide +kernel) wm_807 wm_56 wm_805 wm_806 dd_94_43).1) (fun _ => rfl)
theorem vd_94_46 (E : ac_E) : ac_V E ac_MDf ac_HDf 94 46 (.inl (o_mul 47)) := ⟨ok_imul dd_94_46, mn_mul _⟩
theorem vd_94_47 (E : ac_E) : ac_V E ac_MDf ac_HDf 94 47 (.inl (o_add 48)) := ⟨ok_iadd dd_94_47, mn_add _⟩
theorem vd_94_48 (E : ac_E) : ac_V E ac_MDf ac_HDf 94 48 (.inl (o_is 49)) := ⟨ok_iastore dd_94_48, mn_is _⟩
theorem vd_94_49 (E : ac_E) : ac_V E ac_MDf ac_HDf 94 49 (.inl (o_ald 0 50)) := ⟨ok_aload_n dd_94_49, mn_ald _ _⟩
theorem vd_94_50 (E : ac_E) : ac_V E ac_MDf ac_HDf 94 50 (.inl (o_get 5 10 53)) := ⟨ok_getf (ci := 5) (f := 10) (C := RX5) (T := TX5) (N := 17) (ref := RX5) rfl win_5 (by decide) rfl wm_648 dd_94_50, mn_get _ _ _⟩
theorem vd_94_53 (E : ac_E) : ac_V E ac_MDf ac_HDf 94 53 (.inl (o_ild 4 55)) := ⟨ok_iload dd_94_53, mn_ild _ _⟩
theorem vd_94_55 (E : ac_E) : ac_V E ac_MDf ac_HDf 94 55 (.inl (o_con (.int 2) 56)) := ⟨ok_iconst dd_94_55 (by decide), mn_con _ _⟩
theorem vd_94_56 (E : ac_E) : ac_V E ac_MDf ac_HDf 94 56 (.inl (o_add 57)) := ⟨ok_iadd dd_94_56, mn_add _⟩
theorem vd_94_57 (E : ac_E) : ac_V E ac_MDf ac_HDf 94 57 (.inl (o_ald 0 58)) := ⟨ok_aload_n dd_94_57, mn_ald _ _⟩
theorem vd_94_58 (E : ac_E) : ac_V E ac_MDf ac_HDf 94 58 (.inl (o_get 5 10 61)) := ⟨ok_getf (ci := 5) (f := 10) (C := RX5) (T := TX5) (N := 17) (ref := RX5) rfl win_5 (by decide) rfl wm_648 dd_94_58, mn_get _ _ _⟩
theorem vd_94_61 (E : ac_E) : ac_V E ac_MDf ac_HDf 94 61 (.inl (o_ild 4 63)) := ⟨ok_iload dd_94_61, mn_ild _ _⟩
theorem vd_94_63 (E : ac_E) : ac_V E ac_MDf ac_HDf 94 63 (.inl (o_con (.int 2) 64)) := ⟨ok_iconst dd_94_63 (by decide), mn_con _ _⟩
theorem vd_94_64 (E : ac_E) : ac_V E ac_MDf ac_HDf 94 64 (.inl (o_add 65)) := ⟨ok_iadd dd_94_64, mn_add _⟩
theorem vd_94_65 (E : ac_E) : ac_V E ac_MDf ac_HDf 94 65 (.inl (o_ia 66)) := ⟨ok_iaload dd_94_65, mn_ia _⟩
theorem vd_94_66 (E : ac_E) : ac_V E ac_MDf ac_HDf 94 66 (.inl (o_ild 3 67)) := ⟨ok_iload_n dd_94_66, mn_ild _ _⟩
theorem vd_94_67 (E : ac_E) : ac_V E ac_MDf ac_HDf 94 67 (.inl (o_ild 2 68)) := ⟨ok_iload_n dd_94_67, mn_ild _ _⟩
theorem vd_94_68 (E : ac_E) : ac_V E ac_MDf ac_HDf 94 68 (.inl (o_con (.int 1) 69)) := ⟨ok_iconst dd_94_68 (by decide), mn_con _ _⟩
theorem vd_94_69 (E : ac_E) : ac_V E ac_MDf ac_HDf 94 69 (.inr (.inl (69,2,72,0))) := ac_Vc0 ((ok_callS rfl (by decide) (by decide +kernel) wm_807 wm_56 wm_805 wm_806 dd_94_69).1) (fun _ => rfl)
theorem vd_94_72 (E : ac_E) : ac_V E ac_MDf ac_HDf 94 72 (.inl (o_mul 73)) := ⟨ok_imul dd_94_72, mn_mul _⟩
theorem vd_94_73 (E : ac_E) : ac_V E ac_MDf ac_HDf 94 73 (.inl (o_add 74)) := ⟨ok_iadd dd_94_73, mn_add _⟩
theorem vd_94_74 (E : ac_E) : ac_V E ac_MDf ac_HDf 94 74 (.inl (o_is 75)) := ⟨ok_iastore dd_94_74, mn_is _⟩
theorem vd_94_75 (E : ac_E) : ac_V E ac_MDf ac_HDf 94 75 (.inl (o_ild 1 76)) := ⟨ok_iload_n dd_94_75, mn_ild _ _⟩
theorem vd_94_76 (E : ac_E) : ac_V E ac_MDf ac_HDf 94 76 (.inl (o_con (.int 4) 77)) := ⟨ok_iconst dd_94_76 (by decide), mn_con _ _⟩
theorem vd_94_77 (E : ac_E) : ac_V E ac_MDf ac_HDf 94 77 (.inl (o_ne 120 80)) := ⟨ok_icmpne dd_94_77 (by decide), mn_ne _ _⟩
theorem vd_94_80 (E : ac_E) : ac_V E ac_MDf ac_HDf 94 80 (.inl (o_ald 0 81)) := ⟨ok_aload_n dd_94_80, mn_ald _ _⟩
theorem vd_94_81 (E : ac_E) : ac_V E ac_MDf ac_HDf 94 81 (.inl (o_get 5 12 84)) := ⟨ok_getf (ci := 5) (f := 12) (C := RX5) (T := TX5) (N := 17) (ref := RX5) rfl win_5 (by decide) rfl wm_650 dd_94_81, mn_get _ _ _⟩
theorem vd_94_84 (E : ac_E) : ac_V E ac_MDf ac_HDf 94 84 (.inl (o_con (.int 0) 85)) := ⟨ok_iconst dd_94_84 (by decide), mn_con _ _⟩
theorem vd_94_85 (E : ac_E) : ac_V E ac_MDf ac_HDf 94 85 (.inl (o_ald 0 86)) := ⟨ok_aload_n dd_94_85, mn_ald _ _⟩
theorem vd_94_86 (E : ac_E) : ac_V E ac_MDf ac_HDf 94 86 (.inl (o_get 5 12 89)) := ⟨ok_getf (ci := 5) (f := 12) (C := RX5) (T := TX5) (N := 17) (ref := RX5) rfl win_5 (by decide) rfl wm_650 dd_94_86, mn_get _ _ _⟩
theorem vd_94_89 (E : ac_E) : ac_V E ac_MDf ac_HDf 94 89 (.inl (o_con (.int 0) 90)) := ⟨ok_iconst dd_94_89 (by decide), mn_con _ _⟩
theorem vd_94_90 (E : ac_E) : ac_V E ac_MDf ac_HDf 94 90 (.inl (o_ia 91)) := ⟨ok_iaload dd_94_90, mn_ia _⟩
theorem vd_94_91 (E : ac_E) : ac_V E ac_MDf ac_HDf 94 91 (.inl (o_ild 3 92)) := ⟨ok_iload_n dd_94_91, mn_ild _ _⟩
theorem vd_94_92 (E : ac_E) : ac_V E ac_MDf ac_HDf 94 92 (.inl (o_ild 2 93)) := ⟨ok_iload_n dd_94_92, mn_ild _ _⟩
theorem vd_94_93 (E : ac_E) : ac_V E ac_MDf ac_HDf 94 93 (.inl (o_con (.int 0) 94)) := ⟨ok_iconst dd_94_93 (by decide), mn_con _ _⟩
theorem vd_94_94 (E : ac_E) : ac_V E ac_MDf ac_HDf 94 94 (.inr (.inl (69,2,97,0))) := ac_Vc0 ((ok_callS rfl (by decide) (by decide +kernel) wm_807 wm_56 wm_805 wm_806 dd_94_94).1) (fun _ => rfl)
theorem vd_94_97 (E : ac_E) : ac_V E ac_MDf ac_HDf 94 97 (.inl (o_mul 98)) := ⟨ok_imul dd_94_97, mn_mul _⟩
theorem vd_94_98 (E : ac_E) : ac_V E ac_MDf ac_HDf 94 98 (.inl (o_sub 99)) := ⟨ok_isub dd_94_98, mn_sub _⟩
theorem vd_94_99 (E : ac_E) : ac_V E ac_MDf ac_HDf 94 99 (.inl (o_is 100)) := ⟨ok_iastore dd_94_99, mn_is _⟩
theorem vd_94_100 (E : ac_E) : ac_V E ac_MDf ac_HDf 94 100 (.inl (o_ald 0 101)) := ⟨ok_aload_n dd_94_100, mn_ald _ _⟩
theorem vd_94_101 (E : ac_E) : ac_V E ac_MDf ac_HDf 94 101 (.inl (o_get 5 12 104)) := ⟨ok_getf (ci := 5) (f := 12) (C := RX5) (T := TX5) (N := 17) (ref := RX5) rfl win_5 (by decide) rfl wm_650 dd_94_101, mn_get _ _ _⟩
theorem vd_94_104 (E : ac_E) : ac_V E ac_MDf ac_HDf 94 104 (.inl (o_con (.int 1) 105)) := ⟨ok_iconst dd_94_104 (by decide), mn_con _ _⟩
theorem vd_94_105 (E : ac_E) : ac_V E ac_MDf ac_HDf 94 105 (.inl (o_ald 0 106)) := ⟨ok_aload_n dd_94_105, mn_ald _ _⟩
theorem vd_94_106 (E : ac_E) : ac_V E ac_MDf ac_HDf 94 106 (.inl (o_get 5 12 109)) := ⟨ok_getf (ci := 5) (f := 12) (C := RX5) (T := TX5) (N := 17) (ref := RX5) rfl win_5 (by decide) rfl wm_650 dd_94_106, mn_get _ _ _⟩
theorem vd_94_109 (E : ac_E) : ac_V E ac_MDf ac_HDf 94 109 (.inl (o_con (.int 1) 110)) := ⟨ok_iconst dd_94_109 (by decide), mn_con _ _⟩
theorem vd_94_110 (E : ac_E) : ac_V E ac_MDf ac_HDf 94 110 (.inl (o_ia 111)) := ⟨ok_iaload dd_94_110, mn_ia _⟩
theorem vd_94_111 (E : ac_E) : ac_V E ac_MDf ac_HDf 94 111 (.inl (o_ild 3 112)) := ⟨ok_iload_n dd_94_111, mn_ild _ _⟩
theorem vd_94_112 (E : ac_E) : ac_V E ac_MDf ac_HDf 94 112 (.inl (o_ild 2 113)) := ⟨ok_iload_n dd_94_112, mn_ild _ _⟩
theorem vd_94_113 (E : ac_E) : ac_V E ac_MDf ac_HDf 94 113 (.inl (o_con (.int 1) 114)) := ⟨ok_iconst dd_94_113 (by decide), mn_con _ _⟩
theorem vd_94_114 (E : ac_E) : ac_V E ac_MDf ac_HDf 94 114 (.inr (.inl (69,2,117,0))) := ac_Vc0 ((ok_callS rfl (by decide) (by decide +kernel) wm_807 wm_56 wm_805 wm_806 dd_94_114).1) (fun _ => rfl)
theorem vd_94_117 (E : ac_E) : ac_V E ac_MDf ac_HDf 94 117 (.inl (o_mul 118)) := ⟨ok_imul dd_94_117, mn_mul _⟩
theorem vd_94_118 (E : ac_E) : ac_V E ac_MDf ac_HDf 94 118 (.inl (o_sub 119)) := ⟨ok_isub dd_94_118, mn_sub _⟩
theorem vd_94_119 (E : ac_E) : ac_V E ac_MDf ac_HDf 94 119 (.inl (o_is 120)) := ⟨ok_iastore dd_94_119, mn_is _⟩
theorem vd_94_120 (E : ac_E) : ac_V E ac_MDf ac_HDf 94 120 (.inr (.inr (.inl 0))) := ⟨fun _ => ⟨dd_94_120, rfl⟩, fun q => nomatch q, fun q => nomatch q⟩
theorem va_94 (E : ac_E) (pc : Nat) : ac_V E ac_MDf ac_HDf 94 pc (tb_94 (ac_len E) (ac_xs E) pc) := (ac_node (ac_node (ac_node (ac_node (ac_node (ac_node (ac_leaf 0 (vd_94_0 E)) (ac_leaf 1 (vd_94_1 E))) (ac_node (ac_leaf 2 (vd_94_2 E)) (ac_node (ac_leaf 3 (vd_94_3 E)) (ac_leaf 4 (vd_94_4 E))))) (ac_node (ac_node (ac_leaf 5 (vd_94_5 E)) (ac_leaf 7 (vd_94_7 E))) (ac_node (ac_leaf 8 (vd_94_8 E)) (ac_node (ac_leaf 11 (vd_94_11 E)) (ac_leaf 13 (vd_94_13 E)))))) (ac_node (ac_node (ac_node (ac_leaf 14 (vd_94_14 E)) (ac_leaf 17 (vd_94_17 E))) (ac_node (ac_leaf 19 (vd_94_19 E)) (ac_node (ac_leaf 20 (vd_94_20 E)) (ac_leaf 21 (vd_94_21 E))))) (ac_node (ac_node (ac_leaf 22 (vd_94_22 E)) (ac_node (ac_leaf 23 (vd_94_23 E)) (ac_leaf 24 (vd_94_24 E)))) (ac_node (ac_leaf 27 (vd_94_27 E)) (ac_node (ac_leaf 29 (vd_94_29 E)) (ac_leaf 30 (vd_94_30 E))))))) (ac_node (ac_node (ac_node (ac_node (ac_leaf 31 (vd_94_31 E)) (ac_leaf 32 (vd_94_32 E))) (ac_node (ac_leaf 35 (vd_94_35 E)) (ac_node (ac_leaf 37 (vd_94_37 E)) (ac_leaf 38 (vd_94_38 E))))) (ac_node (ac_node (ac_leaf 39 (vd_94_39 E)) (ac_leaf 40 (vd_94_40 E))) (ac_node (ac_leaf 41 (vd_94_41 E)) (ac_node (ac_leaf 42 (vd_94_42 E)) (ac_leaf 43 (vd_94_43 E)))))) (ac_node (ac_node (ac_node (ac_leaf 46 (vd_94_46 E)) (ac_leaf 47 (vd_94_47 E))) (ac_node (ac_leaf 48 (vd_94_48 E)) (ac_node (ac_leaf 49 (vd_94_49 E)) (ac_leaf 50 (vd_94_50 E))))) (ac_node (ac_node (ac_leaf 53 (vd_94_53 E)) (ac_node (ac_leaf 55 (vd_94_55 E)) (ac_leaf 56 (vd_94_56 E)))) (ac_node (ac_leaf 57 (vd_94_57 E)) (ac_node (ac_leaf 58 (vd_94_58 E)) (ac_leaf 61 (vd_94_61 E)))))))) (ac_node (ac_node (ac_node (ac_node (ac_node (ac_leaf 63 (vd_94_63 E)) (ac_leaf 64 (vd_94_64 E))) (ac_node (ac_leaf 65 (vd_94_65 E)) (ac_node (ac_leaf 66 (vd_94_66 E)) (ac_leaf 67 (vd_94_67 E))))) (ac_node (ac_node (ac_leaf 68 (vd_94_68 E)) (ac_leaf 69 (vd_94_69 E))) (ac_node (ac_leaf 72 (vd_94_72 E)) (ac_node (ac_leaf 73 (vd_94_73 E)) (ac_leaf 74 (vd_94_74 E)))))) (ac_node (ac_node (ac_node (ac_leaf 75 (vd_94_75 E)) (ac_leaf 76 (vd_94_76 E))) (ac_node (ac_leaf 77 (vd_94_77 E)) (ac_node (ac_leaf 80 (vd_94_80 E)) (ac_leaf 81 (vd_94_81 E))))) (ac_node (ac_node (ac_leaf 84 (vd_94_84 E)) (ac_node (ac_leaf 85 (vd_94_85 E)) (ac_leaf 86 (vd_94_86 E)))) (ac_node (ac_leaf 89 (vd_94_89 E)) (ac_node (ac_leaf 90 (vd_94_90 E)) (ac_leaf 91 (vd_94_91 E))))))) (ac_node (ac_node (ac_node (ac_node (ac_leaf 92 (vd_94_92 E)) (ac_leaf 93 (vd_94_93 E))) (ac_node (ac_leaf 94 (vd_94_94 E)) (ac_node (ac_leaf 97 (vd_94_97 E)) (ac_leaf 98 (vd_94_98 E))))) (ac_node (ac_node (ac_leaf 99 (vd_94_99 E)) (ac_leaf 100 (vd_94_100 E))) (ac_node (ac_leaf 101 (vd_94_101 E)) (ac_node (ac_leaf 104 (vd_94_104 E)) (ac_leaf 105 (vd_94_105 E)))))) (ac_node (ac_node (ac_node (ac_leaf 106 (vd_94_106 E)) (ac_leaf 109 (vd_94_109 E))) (ac_node (ac_leaf 110 (vd_94_110 E)) (ac_node (ac_leaf 111 (vd_94_111 E)) (ac_leaf 112 (vd_94_112 E))))) (ac_node (ac_node (ac_leaf 113 (vd_94_113 E)) (ac_node (ac_leaf 114 (vd_94_114 E)) (ac_leaf 117 (vd_94_117 E)))) (ac_node (ac_leaf 118 (vd_94_118 E)) (ac_node (ac_leaf 119 (vd_94_119 E)) (ac_leaf 120 (vd_94_120 E)))))))))
theorem vd_95_0 (E : ac_E) : ac_V E ac_MDf ac_HDf 95 0 (.inl (o_ald 0 1)) := ⟨ok_aload_n dd_95_0, mn_ald _ _⟩
theorem vd_95_1 (E : ac_E) : ac_V E ac_MDf ac_HDf 95 1 (.inl (o_get 5 5 4)) := ⟨ok_getf (ci := 5) (f := 5) (C := RX5) (T := TX5) (N := 17) (ref := RX5) rfl win_5 (by decide) rfl wm_643 dd_95_1, mn_get _ _ _⟩
theorem vd_95_4 (E : ac_E) : ac_V E ac_MDf ac_HDf 95 4 (.inl (o_ild 1 5)) := ⟨ok_iload_n dd_95_4, mn_ild _ _⟩
theorem vd_95_5 (E : ac_E) : ac_V E ac_MDf ac_HDf 95 5 (.inl (o_ia 6)) := ⟨ok_iaload dd_95_5, mn_ia _⟩
theorem vd_95_6 (E : ac_E) : ac_V E ac_MDf ac_HDf 95 6 (.inl (o_ist 2 7)) := ⟨ok_istore_n dd_95_6, mn_ist _ _⟩
theorem vd_95_7 (E : ac_E) : ac_V E ac_MDf ac_HDf 95 7 (.inl (o_ald 0 8)) := ⟨ok_aload_n dd_95_7, mn_ald _ _⟩
theorem vd_95_8 (E : ac_E) : ac_V E ac_MDf ac_HDf 95 8 (.inl (o_get 5 5 11)) := ⟨ok_getf (ci := 5) (f := 5) (C := RX5) (T := TX5) (N := 17) (ref := RX5) rfl win_5 (by decide) rfl wm_643 dd_95_8, mn_get _ _ _⟩
theorem vd_95_11 (E : ac_E) : ac_V E ac_MDf ac_HDf 95 11 (.inl (o_ild 1 12)) := ⟨ok_iload_n dd_95_11, mn_ild _ _⟩
theorem vd_95_12 (E : ac_E) : ac_V E ac_MDf ac_HDf 95 12 (.inl (o_ild 2 13)) := ⟨ok_iload_n dd_95_12, mn_ild _ _⟩
theorem vd_95_13 (E : ac_E) : ac_V E ac_MDf ac_HDf 95 13 (.inl (o_con (.int 3) 14)) := ⟨ok_iconst dd_95_13 (by decide), mn_con _ _⟩
theorem vd_95_14 (E : ac_E) : ac_V E ac_MDf ac_HDf 95 14 (.inr (.inl (72,2,17,0))) := ac_Vc0 ((ok_callS rfl (by decide) (by decide +kernel) wm_704 wm_56 wm_702 wm_703 dd_95_14).1) (fun _ => rfl)
theorem vd_95_17 (E : ac_E) : ac_V E ac_MDf ac_HDf 95 17 (.inl (o_is 18)) := ⟨ok_iastore dd_95_17, mn_is _⟩
theorem vd_95_18 (E : ac_E) : ac_V E ac_MDf ac_HDf 95 18 (.inl (o_con (.int 0) 19)) := ⟨ok_iconst dd_95_18 (by decide), mn_con _ _⟩
theorem vd_95_19 (E : ac_E) : ac_V E ac_MDf ac_HDf 95 19 (.inl (o_ist 3 20)) := ⟨ok_istore_n dd_95_19, mn_ist _ _⟩
theorem vd_95_20 (E : ac_E) : ac_V E ac_MDf ac_HDf 95 20 (.inl (o_ild 3 21)) := ⟨ok_iload_n dd_95_20, mn_ild _ _⟩
theorem vd_95_21 (E : ac_E) : ac_V E ac_MDf ac_HDf 95 21 (.inl (o_con (.int 6) 23)) := ⟨ok_bipush dd_95_21 (by decide), mn_con _ _⟩
theorem vd_95_23 (E : ac_E) : ac_V E ac_MDf ac_HDf 95 23 (.inl (o_ge 69 26)) := ⟨ok_icmpge dd_95_23 (by decide), mn_ge _ _⟩
theorem vd_95_26 (E : ac_E) : ac_V E ac_MDf ac_HDf 95 26 (.inl (o_ild 2 27)) := ⟨ok_iload_n dd_95_26, mn_ild _ _⟩
theorem vd_95_27 (E : ac_E) : ac_V E ac_MDf ac_HDf 95 27 (.inl (o_ild 3 28)) := ⟨ok_iload_n dd_95_27, mn_ild _ _⟩
theorem vd_95_28 (E : ac_E) : ac_V E ac_MDf ac_HDf 95 28 (.inr (.inl (70,2,31,0))) := ac_Vc0 ((ok_callS rfl (by decide) (by decide +kernel) wm_707 wm_56 wm_705 wm_706 dd_95_28).1) (fun _ => rfl)
theorem vd_95_31 (E : ac_E) : ac_V E ac_MDf ac_HDf 95 31 (.inl (o_eq0 63 34)) := ⟨ok_ifeq dd_95_31 (by decide), mn_eq0 _ _⟩
theorem vd_95_34 (E : ac_E) : ac_V E ac_MDf ac_HDf 95 34 (.inl (o_ald 0 35)) := ⟨ok_aload_n dd_95_34, mn_ald _ _⟩
theorem vd_95_35 (E : ac_E) : ac_V E ac_MDf ac_HDf 95 35 (.inl (o_ald 0 36)) := ⟨ok_aload_n dd_95_35, mn_ald _ _⟩
theorem vd_95_36 (E : ac_E) : ac_V E ac_MDf ac_HDf 95 36 (.inl (o_get 5 6 39)) := ⟨ok_getf (ci := 5) (f := 6) (C := RX5) (T := TX5) (N := 17) (ref := RX5) rfl win_5 (by decide) rfl wm_644 dd_95_36, mn_get _ _ _⟩
theorem vd_95_39 (E : ac_E) : ac_V E ac_MDf ac_HDf 95 39 (.inl (o_ild 1 40)) := ⟨ok_iload_n dd_95_39, mn_ild _ _⟩
theorem vd_95_40 (E : ac_E) : ac_V E ac_MDf ac_HDf 95 40 (.inl (o_ia 41)) := ⟨ok_iaload dd_95_40, mn_ia _⟩
theorem vd_95_41 (E : ac_E) : ac_V E ac_MDf ac_HDf 95 41 (.inl (o_ild 3 42)) := ⟨ok_iload_n dd_95_41, mn_ild _ _⟩
theorem vd_95_42 (E : ac_E) : ac_V E ac_MDf ac_HDf 95 42 (.inl (o_con (.int (-1)) 43)) := ⟨ok_iconst dd_95_42 (by decide), mn_con _ _⟩
theorem vd_95_43 (E : ac_E) : ac_V E ac_MDf ac_HDf 95 43 (.inr (.inl (94,4,46,7))) := ac_Vc0 ((ok_callV (T := TX5) (N := 17) rfl rfl (by decide) (by decide +kernel) wm_804 wm_56 wm_801 wm_803 wm_41 dd_95_43).1) (fun _ => rfl)
theorem vd_95_46 (E : ac_E) : ac_V E ac_MDf ac_HDf 95 46 (.inl (o_ald 0 47)) := ⟨ok_aload_n dd_95_46, mn_ald _ _⟩
theorem vd_95_47 (E : ac_E) : ac_V E ac_MDf ac_HDf 95 47 (.inl (o_ald 0 48)) := ⟨ok_aload_n dd_95_47, mn_ald _ _⟩
theorem vd_95_48 (E : ac_E) : ac_V E ac_MDf ac_HDf 95 48 (.inl (o_get 5 6 51)) := ⟨ok_getf (ci := 5) (f := 6) (C := RX5) (T := TX5) (N := 17) (ref := RX5) rfl win_5 (by decide) rfl wm_644 dd_95_48, mn_get _ _ _⟩
theorem vd_95_51 (E : ac_E) : ac_V E ac_MDf ac_HDf 95 51 (.inl (o_ild 1 52)) := ⟨ok_iload_n dd_95_51, mn_ild _ _⟩
theorem vd_95_52 (E : ac_E) : ac_V E ac_MDf ac_HDf 95 52 (.inl (o_ia 53)) := ⟨ok_iaload dd_95_52, mn_ia _⟩
theorem vd_95_53 (E : ac_E) : ac_V E ac_MDf ac_HDf 95 53 (.inl (o_ild 3 54)) := ⟨ok_iload_n dd_95_53, mn_ild _ _⟩
theorem vd_95_54 (E : ac_E) : ac_V E ac_MDf ac_HDf 95 54 (.inl (o_con (.int 3) 55)) := ⟨ok_iconst dd_95_54 (by decide), mn_con _ _⟩
theorem vd_95_55 (E : ac_E) : ac_V E ac_MDf ac_HDf 95 55 (.inl (o_add 56)) := ⟨ok_iadd dd_95_55, mn_add _⟩
theorem vd_95_56 (E : ac_E) : ac_V E ac_MDf ac_HDf 95 56 (.inl (o_con (.int 6) 58)) := ⟨ok_bipush dd_95_56 (by decide), mn_con _ _⟩
theorem vd_95_58 (E : ac_E) : ac_V E ac_MDf ac_HDf 95 58 (.inl (o_rem 59)) := ⟨ok_irem dd_95_58, mn_rem _⟩
theorem vd_95_59 (E : ac_E) : ac_V E ac_MDf ac_HDf 95 59 (.inl (o_con (.int 1) 60)) := ⟨ok_iconst dd_95_59 (by decide), mn_con _ _⟩
theorem vd_95_60 (E : ac_E) : ac_V E ac_MDf ac_HDf 95 60 (.inr (.inl (94,4,63,7))) := ac_Vc0 ((ok_callV (T := TX5) (N := 17) rfl rfl (by decide) (by decide +kernel) wm_804 wm_56 wm_801 wm_803 wm_41 dd_95_60).1) (fun _ => rfl)
theorem vd_95_63 (E : ac_E) : ac_V E ac_MDf ac_HDf 95 63 (.inl (o_inc 3 1 66)) := ⟨ok_iinc dd_95_63 (by decide), mn_inc _ _ _⟩
theorem vd_95_66 (E : ac_E) : ac_V E ac_MDf ac_HDf 95 66 (.inl (o_go 20)) := ⟨ok_goto dd_95_66 (by decide), mn_go _⟩
theorem vd_95_69 (E : ac_E) : ac_V E ac_MDf ac_HDf 95 69 (.inl (o_con (.int 0) 70)) := ⟨ok_iconst dd_95_69 (by decide), mn_con _ _⟩
theorem vd_95_70 (E : ac_E) : ac_V E ac_MDf ac_HDf 95 70 (.inl (o_ist 3 71)) := ⟨ok_istore_n dd_95_70, mn_ist _ _⟩
theorem vd_95_71 (E : ac_E) : ac_V E ac_MDf ac_HDf 95 71 (.inl (o_ild 3 72)) := ⟨ok_iload_n dd_95_71, mn_ild _ _⟩
theorem vd_95_72 (E : ac_E) : ac_V E ac_MDf ac_HDf 95 72 (.inl (o_ald 0 73)) := ⟨ok_aload_n dd_95_72, mn_ald _ _⟩
theorem vd_95_73 (E : ac_E) : ac_V E ac_MDf ac_HDf 95 73 (.inl (o_get 5 14 76)) := ⟨ok_getf (ci := 5) (f := 14) (C := RX5) (T := TX5) (N := 17) (ref := RX5) rfl win_5 (by decide) rfl wm_652 dd_95_73, mn_get _ _ _⟩
theorem vd_95_76 (E : ac_E) : ac_V E ac_MDf ac_HDf 95 76 (.inl (o_ge 123 79)) := ⟨ok_icmpge dd_95_76 (by decide), mn_ge _ _⟩
theorem vd_95_79 (E : ac_E) : ac_V E ac_MDf ac_HDf 95 79 (.inl (o_ald 0 80)) := ⟨ok_aload_n dd_95_79, mn_ald _ _⟩
theorem vd_95_80 (E : ac_E) : ac_V E ac_MDf ac_HDf 95 80 (.inl (o_get 5 15 83)) := ⟨ok_getf (ci := 5) (f := 15) (C := RX5) (T := TX5) (N := 17) (ref := RX5) rfl win_5 (by decide) rfl wm_653 dd_95_80, mn_get _ _ _⟩
theorem vd_95_83 (E : ac_E) : ac_V E ac_MDf ac_HDf 95 83 (.inl (o_ild 3 84)) := ⟨ok_iload_n dd_95_83, mn_ild _ _⟩
theorem vd_95_84 (E : ac_E) : ac_V E ac_MDf ac_HDf 95 84 (.inl (o_ia 85)) := ⟨ok_iaload dd_95_84, mn_ia _⟩
theorem vd_95_85 (E : ac_E) : ac_V E ac_MDf ac_HDf 95 85 (.inl (o_ild 1 86)) := ⟨ok_iload_n dd_95_85, mn_ild _ _⟩
theorem vd_95_86 (E : ac_E) : ac_V E ac_MDf ac_HDf 95 86 (.inl (o_ne 117 89)) := ⟨ok_icmpne dd_95_86 (by decide), mn_ne _ _⟩
theorem vd_95_89 (E : ac_E) : ac_V E ac_MDf ac_HDf 95 89 (.inl (o_ald 0 90)) := ⟨ok_aload_n dd_95_89, mn_ald _ _⟩
theorem vd_95_90 (E : ac_E) : ac_V E ac_MDf ac_HDf 95 90 (.inl (o_get 5 16 93)) := ⟨ok_getf (ci := 5) (f := 16) (C := RX5) (T := TX5) (N := 17) (ref := RX5) rfl win_5 (by decide) rfl wm_654 dd_95_90, mn_get _ _ _⟩
theorem vd_95_93 (E : ac_E) : ac_V E ac_MDf ac_HDf 95 93 (.inl (o_ild 3 94)) := ⟨ok_iload_n dd_95_93, mn_ild _ _⟩
theorem vd_95_94 (E : ac_E) : ac_V E ac_MDf ac_HDf 95 94 (.inl (o_ia 95)) := ⟨ok_iaload dd_95_94, mn_ia _⟩
theorem vd_95_95 (E : ac_E) : ac_V E ac_MDf ac_HDf 95 95 (.inl (o_con (.int 6) 97)) := ⟨ok_bipush dd_95_95 (by decide), mn_con _ _⟩
theorem vd_95_97 (E : ac_E) : ac_V E ac_MDf ac_HDf 95 97 (.inl (o_ge 117 100)) := ⟨ok_icmpge dd_95_97 (by decide), mn_ge _ _⟩
theorem vd_95_100 (E : ac_E) : ac_V E ac_MDf ac_HDf 95 100 (.inl (o_ald 0 101)) := ⟨ok_aload_n dd_95_100, mn_ald _ _⟩
theorem vd_95_101 (E : ac_E) : ac_V E ac_MDf ac_HDf 95 101 (.inl (o_get 5 16 104)) := ⟨ok_getf (ci := 5) (f := 16) (C := RX5) (T := TX5) (N := 17) (ref := RX5) rfl win_5 (by decide) rfl wm_654 dd_95_101, mn_get _ _ _⟩
theorem vd_95_104 (E : ac_E) : ac_V E ac_MDf ac_HDf 95 104 (.inl (o_ild 3 105)) := ⟨ok_iload_n dd_95_104, mn_ild _ _⟩
theorem vd_95_105 (E : ac_E) : ac_V E ac_MDf ac_HDf 95 105 (.inl (o_ald 0 106)) := ⟨ok_aload_n dd_95_105, mn_ald _ _⟩
theorem vd_95_106 (E : ac_E) : ac_V E ac_MDf ac_HDf 95 106 (.inl (o_get 5 16 109)) := ⟨ok_getf (ci := 5) (f := 16) (C := RX5) (T := TX5) (N := 17) (ref := RX5) rfl win_5 (by decide) rfl wm_654 dd_95_106, mn_get _ _ _⟩
theorem vd_95_109 (E : ac_E) : ac_V E ac_MDf ac_HDf 95 109 (.inl (o_ild 3 110)) := ⟨ok_iload_n dd_95_109, mn_ild _ _⟩
theorem vd_95_110 (E : ac_E) : ac_V E ac_MDf ac_HDf 95 110 (.inl (o_ia 111)) := ⟨ok_iaload dd_95_110, mn_ia _⟩
theorem vd_95_111 (E : ac_E) : ac_V E ac_MDf ac_HDf 95 111 (.inl (o_con (.int 3) 112)) := ⟨ok_iconst dd_95_111 (by decide), mn_con _ _⟩
theorem vd_95_112 (E : ac_E) : ac_V E ac_MDf ac_HDf 95 112 (.inl (o_add 113)) := ⟨ok_iadd dd_95_112, mn_add _⟩
theorem vd_95_113 (E : ac_E) : ac_V E ac_MDf ac_HDf 95 113 (.inl (o_con (.int 6) 115)) := ⟨ok_bipush dd_95_113 (by decide), mn_con _ _⟩
theorem vd_95_115 (E : ac_E) : ac_V E ac_MDf ac_HDf 95 115 (.inl (o_rem 116)) := ⟨ok_irem dd_95_115, mn_rem _⟩
theorem vd_95_116 (E : ac_E) : ac_V E ac_MDf ac_HDf 95 116 (.inl (o_is 117)) := ⟨ok_iastore dd_95_116, mn_is _⟩
theorem vd_95_117 (E : ac_E) : ac_V E ac_MDf ac_HDf 95 117 (.inl (o_inc 3 1 120)) := ⟨ok_iinc dd_95_117 (by decide), mn_inc _ _ _⟩
theorem vd_95_120 (E : ac_E) : ac_V E ac_MDf ac_HDf 95 120 (.inl (o_go 71)) := ⟨ok_goto dd_95_120 (by decide), mn_go _⟩
theorem vd_95_123 (E : ac_E) : ac_V E ac_MDf ac_HDf 95 123 (.inr (.inr (.inl 0))) := ⟨fun _ => ⟨dd_95_123, rfl⟩, fun q => nomatch q, fun q => nomatch q⟩
theorem va_95 (E : ac_E) (pc : Nat) : ac_V E ac_MDf ac_HDf 95 pc (tb_95 (ac_len E) (ac_xs E) pc) := (ac_node (ac_node (ac_node (ac_node (ac_node (ac_node (ac_leaf 0 (vd_95_0 E)) (ac_leaf 1 (vd_95_1 E))) (ac_node (ac_leaf 4 (vd_95_4 E)) (ac_leaf 5 (vd_95_5 E)))) (ac_node (ac_node (ac_leaf 6 (vd_95_6 E)) (ac_leaf 7 (vd_95_7 E))) (ac_node (ac_leaf 8 (vd_95_8 E)) (ac_node (ac_leaf 11 (vd_95_11 E)) (ac_leaf 12 (vd_95_12 E)))))) (ac_node (ac_node (ac_node (ac_leaf 13 (vd_95_13 E)) (ac_leaf 14 (vd_95_14 E))) (ac_node (ac_leaf 17 (vd_95_17 E)) (ac_node (ac_leaf 18 (vd_95_18 E)) (ac_leaf 19 (vd_95_19 E))))) (ac_node (ac_node (ac_leaf 20 (vd_95_20 E)) (ac_leaf 21 (vd_95_21 E))) (ac_node (ac_leaf 23 (vd_95_23 E)) (ac_node (ac_leaf 26 (vd_95_26 E)) (ac_leaf 27 (vd_95_27 E))))))) (ac_node (ac_node (ac_node (ac_node (ac_leaf 28 (vd_95_28 E)) (ac_leaf 31 (vd_95_31 E))) (ac_node (ac_leaf 34 (vd_95_34 E)) (ac_leaf 35 (vd_95_35 E)))) (ac_node (ac_node (ac_leaf 36 (vd_95_36 E)) (ac_leaf 39 (vd_95_39 E))) (ac_node (ac_leaf 40 (vd_95_40 E)) (ac_node (ac_leaf 41 (vd_95_41 E)) (ac_leaf 42 (vd_95_42 E)))))) (ac_node (ac_node (ac_node (ac_leaf 43 (vd_95_43 E)) (ac_leaf 46 (vd_95_46 E))) (ac_node (ac_leaf 47 (vd_95_47 E)) (ac_node (ac_leaf 48 (vd_95_48 E)) (ac_leaf 51 (vd_95_51 E))))) (ac_node (ac_node (ac_leaf 52 (vd_95_52 E)) (ac_leaf 53 (vd_95_53 E))) (ac_node (ac_leaf 54 (vd_95_54 E)) (ac_node (ac_leaf 55 (vd_95_55 E)) (ac_leaf 56 (vd_95_56 E)))))))) (ac_node (ac_node (ac_node (ac_node (ac_node (ac_leaf 58 (vd_95_58 E)) (ac_leaf 59 (vd_95_59 E))) (ac_node (ac_leaf 60 (vd_95_60 E)) (ac_leaf 63 (vd_95_63 E)))) (ac_node (ac_node (ac_leaf 66 (vd_95_66 E)) (ac_leaf 69 (vd_95_69 E))) (ac_node (ac_leaf 70 (vd_95_70 E)) (ac_node (ac_leaf 71 (vd_95_71 E)) (ac_leaf 72 (vd_95_72 E)))))) (ac_node (ac_node (ac_node (ac_leaf 73 (vd_95_73 E)) (ac_leaf 76 (vd_95_76 E))) (ac_node (ac_leaf 79 (vd_95_79 E)) (ac_node (ac_leaf 80 (vd_95_80 E)) (ac_leaf 83 (vd_95_83 E))))) (ac_node (ac_node (ac_leaf 84 (vd_95_84 E)) (ac_leaf 85 (vd_95_85 E))) (ac_node (ac_leaf 86 (vd_95_86 E)) (ac_node (ac_leaf 89 (vd_95_89 E)) (ac_leaf 90 (vd_95_90 E))))))) (ac_node (ac_node (ac_node (ac_node (ac_leaf 93 (vd_95_93 E)) (ac_leaf 94 (vd_95_94 E))) (ac_node (ac_leaf 95 (vd_95_95 E)) (ac_leaf 97 (vd_95_97 E)))) (ac_node (ac_node (ac_leaf 100 (vd_95_100 E)) (ac_leaf 101 (vd_95_101 E))) (ac_node (ac_leaf 104 (vd_95_104 E)) (ac_node (ac_leaf 105 (vd_95_105 E)) (ac_leaf 106 (vd_95_106 E)))))) (ac_node (ac_node (ac_node (ac_leaf 109 (vd_95_109 E)) (ac_leaf 110 (vd_95_110 E))) (ac_node (ac_leaf 111 (vd_95_111 E)) (ac_node (ac_leaf 112 (vd_95_112 E)) (ac_leaf 113 (vd_95_113 E))))) (ac_node (ac_node (ac_leaf 115 (vd_95_115 E)) (ac_leaf 116 (vd_95_116 E))) (ac_node (ac_leaf 117 (vd_95_117 E)) (ac_node (ac_leaf 120 (vd_95_120 E)) (ac_leaf 123 (vd_95_123 E)))))))))
theorem vd_96_0 (E : ac_E) : ac_V E ac_MDf ac_HDf 96 0 (.inl (o_con (.int 0) 1)) := ⟨ok_iconst dd_96_0 (by decide), mn_con _ _⟩
theorem vd_96_1 (E : ac_E) : ac_V E ac_MDf ac_HDf 96 1 (.inl (o_ist 2 2)) := ⟨ok_istore_n dd_96_1, mn_ist _ _⟩
theorem vd_96_2 (E : ac_E) : ac_V E ac_MDf ac_HDf 96 2 (.inl (o_ild 2 3)) := ⟨ok_iload_n dd_96_2, mn_ild _ _⟩
theorem vd_96_3 (E : ac_E) : ac_V E ac_MDf ac_HDf 96 3 (.inl (o_con (.int 7) 5)) := ⟨ok_bipush dd_96_3 (by decide), mn_con _ _⟩
theorem vd_96_5 (E : ac_E) : ac_V E ac_MDf ac_HDf 96 5 (.inl (o_ge 34 8)) := ⟨ok_icmpge dd_96_5 (by decide), mn_ge _ _⟩
theorem vd_96_8 (E : ac_E) : ac_V E ac_MDf ac_HDf 96 8 (.inl (o_ald 0 9)) := ⟨ok_aload_n dd_96_8, mn_ald _ _⟩
theorem vd_96_9 (E : ac_E) : ac_V E ac_MDf ac_HDf 96 9 (.inl (o_get 5 5 12)) := ⟨ok_getf (ci := 5) (f := 5) (C := RX5) (T := TX5) (N := 17) (ref := RX5) rfl win_5 (by decide) rfl wm_643 dd_96_9, mn_get _ _ _⟩
theorem vd_96_12 (E : ac_E) : ac_V E ac_MDf ac_HDf 96 12 (.inl (o_ild 1 13)) := ⟨ok_iload_n dd_96_12, mn_ild _ _⟩
theorem vd_96_13 (E : ac_E) : ac_V E ac_MDf ac_HDf 96 13 (.inl (o_ia 14)) := ⟨ok_iaload dd_96_13, mn_ia _⟩
theorem vd_96_14 (E : ac_E) : ac_V E ac_MDf ac_HDf 96 14 (.inl (o_ild 2 15)) := ⟨ok_iload_n dd_96_14, mn_ild _ _⟩
theorem vd_96_15 (E : ac_E) : ac_V E ac_MDf ac_HDf 96 15 (.inr (.inl (70,2,18,0))) := ac_Vc0 ((ok_callS rfl (by decide) (by decide +kernel) wm_707 wm_56 wm_705 wm_706 dd_96_15).1) (fun _ => rfl)
theorem vd_96_18 (E : ac_E) : ac_V E ac_MDf ac_HDf 96 18 (.inl (o_eq0 28 21)) := ⟨ok_ifeq dd_96_18 (by decide), mn_eq0 _ _⟩
theorem vd_96_21 (E : ac_E) : ac_V E ac_MDf ac_HDf 96 21 (.inl (o_ald 0 22)) := ⟨ok_aload_n dd_96_21, mn_ald _ _⟩
theorem vd_96_22 (E : ac_E) : ac_V E ac_MDf ac_HDf 96 22 (.inl (o_con (.int 3) 23)) := ⟨ok_iconst dd_96_22 (by decide), mn_con _ _⟩
theorem vd_96_23 (E : ac_E) : ac_V E ac_MDf ac_HDf 96 23 (.inl (o_ild 2 24)) := ⟨ok_iload_n dd_96_23, mn_ild _ _⟩
theorem vd_96_24 (E : ac_E) : ac_V E ac_MDf ac_HDf 96 24 (.inl (o_con (.int (-1)) 25)) := ⟨ok_iconst dd_96_24 (by decide), mn_con _ _⟩
theorem vd_96_25 (E : ac_E) : ac_V E ac_MDf ac_HDf 96 25 (.inr (.inl (94,4,28,7))) := ac_Vc0 ((ok_callV (T := TX5) (N := 17) rfl rfl (by decide) (by decide +kernel) wm_804 wm_56 wm_801 wm_803 wm_41 dd_96_25).1) (fun _ => rfl)
theorem vd_96_28 (E : ac_E) : ac_V E ac_MDf ac_HDf 96 28 (.inl (o_inc 2 1 31)) := ⟨ok_iinc dd_96_28 (by decide), mn_inc _ _ _⟩
theorem vd_96_31 (E : ac_E) : ac_V E ac_MDf ac_HDf 96 31 (.inl (o_go 2)) := ⟨ok_goto dd_96_31 (by decide), mn_go _⟩
theorem vd_96_34 (E : ac_E) : ac_V E ac_MDf ac_HDf 96 34 (.inl (o_ald 0 35)) := ⟨ok_aload_n dd_96_34, mn_ald _ _⟩
theorem vd_96_35 (E : ac_E) : ac_V E ac_MDf ac_HDf 96 35 (.inl (o_get 5 5 38)) := ⟨ok_getf (ci := 5) (f := 5) (C := RX5) (T := TX5) (N := 17) (ref := RX5) rfl win_5 (by decide) rfl wm_643 dd_96_35, mn_get _ _ _⟩
theorem vd_96_38 (E : ac_E) : ac_V E ac_MDf ac_HDf 96 38 (.inl (o_ild 1 39)) := ⟨ok_iload_n dd_96_38, mn_ild _ _⟩
theorem vd_96_39 (E : ac_E) : ac_V E ac_MDf ac_HDf 96 39 (.inl (o_con (.int 0) 40)) := ⟨ok_iconst dd_96_39 (by decide), mn_con _ _⟩
theorem vd_96_40 (E : ac_E) : ac_V E ac_MDf ac_HDf 96 40 (.inl (o_is 41)) := ⟨ok_iastore dd_96_40, mn_is _⟩
theorem vd_96_41 (E : ac_E) : ac_V E ac_MDf ac_HDf 96 41 (.inl (o_con (.int 0) 42)) := ⟨ok_iconst dd_96_41 (by decide), mn_con _ _⟩
theorem vd_96_42 (E : ac_E) : ac_V E ac_MDf ac_HDf 96 42 (.inl (o_ist 2 43)) := ⟨ok_istore_n dd_96_42, mn_ist _ _⟩
theorem vd_96_43 (E : ac_E) : ac_V E ac_MDf ac_HDf 96 43 (.inl (o_ild 2 44)) := ⟨ok_iload_n dd_96_43, mn_ild _ _⟩
theorem vd_96_44 (E : ac_E) : ac_V E ac_MDf ac_HDf 96 44 (.inl (o_ald 0 45)) := ⟨ok_aload_n dd_96_44, mn_ald _ _⟩
theorem vd_96_45 (E : ac_E) : ac_V E ac_MDf ac_HDf 96 45 (.inl (o_get 5 14 48)) := ⟨ok_getf (ci := 5) (f := 14) (C := RX5) (T := TX5) (N := 17) (ref := RX5) rfl win_5 (by decide) rfl wm_652 dd_96_45, mn_get _ _ _⟩
theorem vd_96_48 (E : ac_E) : ac_V E ac_MDf ac_HDf 96 48 (.inl (o_ge 83 51)) := ⟨ok_icmpge dd_96_48 (by decide), mn_ge _ _⟩
theorem vd_96_51 (E : ac_E) : ac_V E ac_MDf ac_HDf 96 51 (.inl (o_ald 0 52)) := ⟨ok_aload_n dd_96_51, mn_ald _ _⟩
theorem vd_96_52 (E : ac_E) : ac_V E ac_MDf ac_HDf 96 52 (.inl (o_get 5 15 55)) := ⟨ok_getf (ci := 5) (f := 15) (C := RX5) (T := TX5) (N := 17) (ref := RX5) rfl win_5 (by decide) rfl wm_653 dd_96_52, mn_get _ _ _⟩
theorem vd_96_55 (E : ac_E) : ac_V E ac_MDf ac_HDf 96 55 (.inl (o_ild 2 56)) := ⟨ok_iload_n dd_96_55, mn_ild _ _⟩
theorem vd_96_56 (E : ac_E) : ac_V E ac_MDf ac_HDf 96 56 (.inl (o_ald 0 57)) := ⟨ok_aload_n dd_96_56, mn_ald _ _⟩
theorem vd_96_57 (E : ac_E) : ac_V E ac_MDf ac_HDf 96 57 (.inl (o_get 5 15 60)) := ⟨ok_getf (ci := 5) (f := 15) (C := RX5) (T := TX5) (N := 17) (ref := RX5) rfl win_5 (by decide) rfl wm_653 dd_96_57, mn_get _ _ _⟩
theorem vd_96_60 (E : ac_E) : ac_V E ac_MDf ac_HDf 96 60 (.inl (o_ild 2 61)) := ⟨ok_iload_n dd_96_60, mn_ild _ _⟩
theorem vd_96_61 (E : ac_E) : ac_V E ac_MDf ac_HDf 96 61 (.inl (o_ia 62)) := ⟨ok_iaload dd_96_61, mn_ia _⟩
theorem vd_96_62 (E : ac_E) : ac_V E ac_MDf ac_HDf 96 62 (.inl (o_ild 1 63)) := ⟨ok_iload_n dd_96_62, mn_ild _ _⟩
theorem vd_96_63 (E : ac_E) : ac_V E ac_MDf ac_HDf 96 63 (.inl (o_ne 70 66)) := ⟨ok_icmpne dd_96_63 (by decide), mn_ne _ _⟩
theorem vd_96_66 (E : ac_E) : ac_V E ac_MDf ac_HDf 96 66 (.inl (o_con (.int (-1)) 67)) := ⟨ok_iconst dd_96_66 (by decide), mn_con _ _⟩
theorem vd_96_67 (E : ac_E) : ac_V E ac_MDf ac_HDf 96 67 (.inl (o_go 76)) := ⟨ok_goto dd_96_67 (by decide), mn_go _⟩
theorem vd_96_70 (E : ac_E) : ac_V E ac_MDf ac_HDf 96 70 (.inl (o_ald 0 71)) := ⟨ok_aload_n dd_96_70, mn_ald _ _⟩
theorem vd_96_71 (E : ac_E) : ac_V E ac_MDf ac_HDf 96 71 (.inl (o_get 5 15 74)) := ⟨ok_getf (ci := 5) (f := 15) (C := RX5) (T := TX5) (N := 17) (ref := RX5) rfl win_5 (by decide) rfl wm_653 dd_96_71, mn_get _ _ _⟩
theorem vd_96_74 (E : ac_E) : ac_V E ac_MDf ac_HDf 96 74 (.inl (o_ild 2 75)) := ⟨ok_iload_n dd_96_74, mn_ild _ _⟩
theorem vd_96_75 (E : ac_E) : ac_V E ac_MDf ac_HDf 96 75 (.inl (o_ia 76)) := ⟨ok_iaload dd_96_75, mn_ia _⟩
theorem vd_96_76 (E : ac_E) : ac_V E ac_MDf ac_HDf 96 76 (.inl (o_is 77)) := ⟨ok_iastore dd_96_76, mn_is _⟩
theorem vd_96_77 (E : ac_E) : ac_V E ac_MDf ac_HDf 96 77 (.inl (o_inc 2 1 80)) := ⟨ok_iinc dd_96_77 (by decide), mn_inc _ _ _⟩
theorem vd_96_80 (E : ac_E) : ac_V E ac_MDf ac_HDf 96 80 (.inl (o_go 43)) := ⟨ok_goto dd_96_80 (by decide), mn_go _⟩
theorem vd_96_83 (E : ac_E) : ac_V E ac_MDf ac_HDf 96 83 (.inr (.inr (.inl 0))) := ⟨fun _ => ⟨dd_96_83, rfl⟩, fun q => nomatch q, fun q => nomatch q⟩
theorem va_96 (E : ac_E) (pc : Nat) : ac_V E ac_MDf ac_HDf 96 pc (tb_96 (ac_len E) (ac_xs E) pc) := (ac_node (ac_node (ac_node (ac_node (ac_node (ac_leaf 0 (vd_96_0 E)) (ac_node (ac_leaf 1 (vd_96_1 E)) (ac_leaf 2 (vd_96_2 E)))) (ac_node (ac_leaf 3 (vd_96_3 E)) (ac_node (ac_leaf 5 (vd_96_5 E)) (ac_leaf 8 (vd_96_8 E))))) (ac_node (ac_node (ac_leaf 9 (vd_96_9 E)) (ac_node (ac_leaf 12 (vd_96_12 E)) (ac_leaf 13 (vd_96_13 E)))) (ac_node (ac_leaf 14 (vd_96_14 E)) (ac_node (ac_leaf 15 (vd_96_15 E)) (ac_leaf 18 (vd_96_18 E)))))) (ac_node (ac_node (ac_node (ac_leaf 21 (vd_96_21 E)) (ac_node (ac_leaf 22 (vd_96_22 E)) (ac_leaf 23 (vd_96_23 E)))) (ac_node (ac_leaf 24 (vd_96_24 E)) (ac_node (ac_leaf 25 (vd_96_25 E)) (ac_leaf 28 (vd_96_28 E))))) (ac_node (ac_node (ac_leaf 31 (vd_96_31 E)) (ac_node (ac_leaf 34 (vd_96_34 E)) (ac_leaf 35 (vd_96_35 E)))) (ac_node (ac_leaf 38 (vd_96_38 E)) (ac_node (ac_leaf 39 (vd_96_39 E)) (ac_leaf 40 (vd_96_40 E))))))) (ac_node (ac_node (ac_node (ac_node (ac_leaf 41 (vd_96_41 E)) (ac_node (ac_leaf 42 (vd_96_42 E)) (ac_leaf 43 (vd_96_43 E)))) (ac_node (ac_leaf 44 (vd_96_44 E)) (ac_node (ac_leaf 45 (vd_96_45 E)) (ac_leaf 48 (vd_96_48 E))))) (ac_node (ac_node (ac_leaf 51 (vd_96_51 E)) (ac_node (ac_leaf 52 (vd_96_52 E)) (ac_leaf 55 (vd_96_55 E)))) (ac_node (ac_leaf 56 (vd_96_56 E)) (ac_node (ac_leaf 57 (vd_96_57 E)) (ac_leaf 60 (vd_96_60 E)))))) (ac_node (ac_node (ac_node (ac_leaf 61 (vd_96_61 E)) (ac_node (ac_leaf 62 (vd_96_62 E)) (ac_leaf 63 (vd_96_63 E)))) (ac_node (ac_leaf 66 (vd_96_66 E)) (ac_node (ac_leaf 67 (vd_96_67 E)) (ac_leaf 70 (vd_96_70 E))))) (ac_node (ac_node (ac_leaf 71 (vd_96_71 E)) (ac_node (ac_leaf 74 (vd_96_74 E)) (ac_leaf 75 (vd_96_75 E)))) (ac_node (ac_node (ac_leaf 76 (vd_96_76 E)) (ac_leaf 77 (vd_96_77 E))) (ac_node (ac_leaf 80 (vd_96_80 E)) (ac_leaf 83 (vd_96_83 E))))))))
theorem vd_97_0 (E : ac_E) : ac_V E ac_MDf ac_HDf 97 0 (.inl (o_con (.int 0) 1)) := ⟨ok_iconst dd_97_0 (by decide), mn_con _ _⟩
theorem vd_97_1 (E : ac_E) : ac_V E ac_MDf ac_HDf 97 1 (.inl (o_ist 2 2)) := ⟨ok_istore_n dd_97_1, mn_ist _ _⟩
theorem vd_97_2 (E : ac_E) : ac_V E ac_MDf ac_HDf 97 2 (.inl (o_ild 2 3)) := ⟨ok_iload_n dd_97_2, mn_ild _ _⟩
theorem vd_97_3 (E : ac_E) : ac_V E ac_MDf ac_HDf 97 3 (.inl (o_con (.int 7) 5)) := ⟨ok_bipush dd_97_3 (by decide), mn_con _ _⟩
theorem vd_97_5 (E : ac_E) : ac_V E ac_MDf ac_HDf 97 5 (.inl (o_ge 85 8)) := ⟨ok_icmpge dd_97_5 (by decide), mn_ge _ _⟩
theorem vd_97_8 (E : ac_E) : ac_V E ac_MDf ac_HDf 97 8 (.inl (o_ald 0 9)) := ⟨ok_aload_n dd_97_8, mn_ald _ _⟩
theorem vd_97_9 (E : ac_E) : ac_V E ac_MDf ac_HDf 97 9 (.inl (o_ald 0 10)) := ⟨ok_aload_n dd_97_9, mn_ald _ _⟩
theorem vd_97_10 (E : ac_E) : ac_V E ac_MDf ac_HDf 97 10 (.inl (o_get 5 4 13)) := ⟨ok_getf (ci := 5) (f := 4) (C := RX5) (T := TX5) (N := 17) (ref := RX5) rfl win_5 (by decide) rfl wm_642 dd_97_10, mn_get _ _ _⟩
theorem vd_97_13 (E : ac_E) : ac_V E ac_MDf ac_HDf 97 13 (.inl (o_con (.int 1103515245) 15)) := ⟨ok_ldc dd_97_13 wm_812, mn_con _ _⟩
theorem vd_97_15 (E : ac_E) : ac_V E ac_MDf ac_HDf 97 15 (.inl (o_mul 16)) := ⟨ok_imul dd_97_15, mn_mul _⟩
theorem vd_97_16 (E : ac_E) : ac_V E ac_MDf ac_HDf 97 16 (.inl (o_con (.int 12345) 19)) := ⟨ok_sipush dd_97_16 (by decide), mn_con _ _⟩
theorem vd_97_19 (E : ac_E) : ac_V E ac_MDf ac_HDf 97 19 (.inl (o_add 20)) := ⟨ok_iadd dd_97_19, mn_add _⟩
theorem vd_97_20 (E : ac_E) : ac_V E ac_MDf ac_HDf 97 20 (.inl (o_put 5 4 23)) := ⟨ok_putf (ci := 5) (f := 4) (C := RX5) (T := TX5) (N := 17) (ref := RX5) rfl win_5 (by decide) rfl tyX5 tyX5_ok nmX5 (by decide +kernel) rfl wm_642 dd_97_20, mn_put _ _ _⟩
theorem vd_97_23 (E : ac_E) : ac_V E ac_MDf ac_HDf 97 23 (.inl (o_ald 0 24)) := ⟨ok_aload_n dd_97_23, mn_ald _ _⟩
theorem vd_97_24 (E : ac_E) : ac_V E ac_MDf ac_HDf 97 24 (.inl (o_get 5 4 27)) := ⟨ok_getf (ci := 5) (f := 4) (C := RX5) (T := TX5) (N := 17) (ref := RX5) rfl win_5 (by decide) rfl wm_642 dd_97_24, mn_get _ _ _⟩
theorem vd_97_27 (E : ac_E) : ac_V E ac_MDf ac_HDf 97 27 (.inl (o_con (.int 16) 29)) := ⟨ok_bipush dd_97_27 (by decide), mn_con _ _⟩
theorem vd_97_29 (E : ac_E) : ac_V E ac_MDf ac_HDf 97 29 (.inl (o_shr 30)) := ⟨ok_ishr dd_97_29, mn_shr _⟩
theorem vd_97_30 (E : ac_E) : ac_V E ac_MDf ac_HDf 97 30 (.inl (o_con (.int 255) 33)) := ⟨ok_sipush dd_97_30 (by decide), mn_con _ _⟩
theorem vd_97_33 (E : ac_E) : ac_V E ac_MDf ac_HDf 97 33 (.inl (o_and 34)) := ⟨ok_iand dd_97_33, mn_and _⟩
theorem vd_97_34 (E : ac_E) : ac_V E ac_MDf ac_HDf 97 34 (.inl (o_ald 0 35)) := ⟨ok_aload_n dd_97_34, mn_ald _ _⟩
theorem vd_97_35 (E : ac_E) : ac_V E ac_MDf ac_HDf 97 35 (.inl (o_get 5 7 38)) := ⟨ok_getf (ci := 5) (f := 7) (C := RX5) (T := TX5) (N := 17) (ref := RX5) rfl win_5 (by decide) rfl wm_645 dd_97_35, mn_get _ _ _⟩
theorem vd_97_38 (E : ac_E) : ac_V E ac_MDf ac_HDf 97 38 (.inl (o_ild 1 39)) := ⟨ok_iload_n dd_97_38, mn_ild _ _⟩
theorem vd_97_39 (E : ac_E) : ac_V E ac_MDf ac_HDf 97 39 (.inl (o_ia 40)) := ⟨ok_iaload dd_97_39, mn_ia _⟩
theorem vd_97_40 (E : ac_E) : ac_V E ac_MDf ac_HDf 97 40 (.inl (o_ge 79 43)) := ⟨ok_icmpge dd_97_40 (by decide), mn_ge _ _⟩
theorem vd_97_43 (E : ac_E) : ac_V E ac_MDf ac_HDf 97 43 (.inl (o_ald 0 44)) := ⟨ok_aload_n dd_97_43, mn_ald _ _⟩
theorem vd_97_44 (E : ac_E) : ac_V E ac_MDf ac_HDf 97 44 (.inl (o_get 5 5 47)) := ⟨ok_getf (ci := 5) (f := 5) (C := RX5) (T := TX5) (N := 17) (ref := RX5) rfl win_5 (by decide) rfl wm_643 dd_97_44, mn_get _ _ _⟩
theorem vd_97_47 (E : ac_E) : ac_V E ac_MDf ac_HDf 97 47 (.inl (o_ild 1 48)) := ⟨ok_iload_n dd_97_47, mn_ild _ _⟩
theorem vd_97_48 (E : ac_E) : ac_V E ac_MDf ac_HDf 97 48 (.inl (o_ia 49)) := ⟨ok_iaload dd_97_48, mn_ia _⟩
theorem vd_97_49 (E : ac_E) : ac_V E ac_MDf ac_HDf 97 49 (.inl (o_ild 2 50)) := ⟨ok_iload_n dd_97_49, mn_ild _ _⟩
theorem vd_97_50 (E : ac_E) : ac_V E ac_MDf ac_HDf 97 50 (.inr (.inl (70,2,53,0))) := ac_Vc0 ((ok_callS rfl (by decide) (by decide +kernel) wm_707 wm_56 wm_705 wm_706 dd_97_50).1) (fun _ => rfl)
theorem vd_97_53 (E : ac_E) : ac_V E ac_MDf ac_HDf 97 53 (.inl (o_ne0 79 56)) := ⟨ok_ifne dd_97_53 (by decide), mn_ne0 _ _⟩
theorem vd_97_56 (E : ac_E) : ac_V E ac_MDf ac_HDf 97 56 (.inl (o_ald 0 57)) := ⟨ok_aload_n dd_97_56, mn_ald _ _⟩
theorem vd_97_57 (E : ac_E) : ac_V E ac_MDf ac_HDf 97 57 (.inl (o_get 5 5 60)) := ⟨ok_getf (ci := 5) (f := 5) (C := RX5) (T := TX5) (N := 17) (ref := RX5) rfl win_5 (by decide) rfl wm_643 dd_97_57, mn_get _ _ _⟩
theorem vd_97_60 (E : ac_E) : ac_V E ac_MDf ac_HDf 97 60 (.inl (o_ild 1 61)) := ⟨ok_iload_n dd_97_60, mn_ild _ _⟩
theorem vd_97_61 (E : ac_E) : ac_V E ac_MDf ac_HDf 97 61 (.inl (o_ald 0 62)) := ⟨ok_aload_n dd_97_61, mn_ald _ _⟩
theorem vd_97_62 (E : ac_E) : ac_V E ac_MDf ac_HDf 97 62 (.inl (o_get 5 5 65)) := ⟨ok_getf (ci := 5) (f := 5) (C := RX5) (T := TX5) (N := 17) (ref := RX5) rfl win_5 (by decide) rfl wm_643 dd_97_62, mn_get _ _ _⟩
theorem vd_97_65 (E : ac_E) : ac_V E ac_MDf ac_HDf 97 65 (.inl (o_ild 1 66)) := ⟨ok_iload_n dd_97_65, mn_ild _ _⟩
theorem vd_97_66 (E : ac_E) : ac_V E ac_MDf ac_HDf 97 66 (.inl (o_ia 67)) := ⟨ok_iaload dd_97_66, mn_ia _⟩
theorem vd_97_67 (E : ac_E) : ac_V E ac_MDf ac_HDf 97 67 (.inl (o_con (.int 1) 68)) := ⟨ok_iconst dd_97_67 (by decide), mn_con _ _⟩
theorem vd_97_68 (E : ac_E) : ac_V E ac_MDf ac_HDf 97 68 (.inl (o_ild 2 69)) := ⟨ok_iload_n dd_97_68, mn_ild _ _⟩
theorem vd_97_69 (E : ac_E) : ac_V E ac_MDf ac_HDf 97 69 (.inl (o_shl 70)) := ⟨ok_ishl dd_97_69, mn_shl _⟩
theorem vd_97_70 (E : ac_E) : ac_V E ac_MDf ac_HDf 97 70 (.inl (o_or 71)) := ⟨ok_ior dd_97_70, mn_or _⟩
theorem vd_97_71 (E : ac_E) : ac_V E ac_MDf ac_HDf 97 71 (.inl (o_is 72)) := ⟨ok_iastore dd_97_71, mn_is _⟩
theorem vd_97_72 (E : ac_E) : ac_V E ac_MDf ac_HDf 97 72 (.inl (o_ald 0 73)) := ⟨ok_aload_n dd_97_72, mn_ald _ _⟩
theorem vd_97_73 (E : ac_E) : ac_V E ac_MDf ac_HDf 97 73 (.inl (o_con (.int 2) 74)) := ⟨ok_iconst dd_97_73 (by decide), mn_con _ _⟩
theorem vd_97_74 (E : ac_E) : ac_V E ac_MDf ac_HDf 97 74 (.inl (o_ild 2 75)) := ⟨ok_iload_n dd_97_74, mn_ild _ _⟩
theorem vd_97_75 (E : ac_E) : ac_V E ac_MDf ac_HDf 97 75 (.inl (o_con (.int 1) 76)) := ⟨ok_iconst dd_97_75 (by decide), mn_con _ _⟩
theorem vd_97_76 (E : ac_E) : ac_V E ac_MDf ac_HDf 97 76 (.inr (.inl (94,4,79,7))) := ac_Vc0 ((ok_callV (T := TX5) (N := 17) rfl rfl (by decide) (by decide +kernel) wm_804 wm_56 wm_801 wm_803 wm_41 dd_97_76).1) (fun _ => rfl)
theorem vd_97_79 (E : ac_E) : ac_V E ac_MDf ac_HDf 97 79 (.inl (o_inc 2 1 82)) := ⟨ok_iinc dd_97_79 (by decide), mn_inc _ _ _⟩
theorem vd_97_82 (E : ac_E) : ac_V E ac_MDf ac_HDf 97 82 (.inl (o_go 2)) := ⟨ok_goto dd_97_82 (by decide), mn_go _⟩
theorem vd_97_85 (E : ac_E) : ac_V E ac_MDf ac_HDf 97 85 (.inr (.inr (.inl 0))) := ⟨fun _ => ⟨dd_97_85, rfl⟩, fun q => nomatch q, fun q => nomatch q⟩
theorem va_97 (E : ac_E) (pc : Nat) : ac_V E ac_MDf ac_HDf 97 pc (tb_97 (ac_len E) (ac_xs E) pc) := (ac_node (ac_node (ac_node (ac_node (ac_node (ac_leaf 0 (vd_97_0 E)) (ac_node (ac_leaf 1 (vd_97_1 E)) (ac_leaf 2 (vd_97_2 E)))) (ac_node (ac_leaf 3 (vd_97_3 E)) (ac_node (ac_leaf 5 (vd_97_5 E)) (ac_leaf 8 (vd_97_8 E))))) (ac_node (ac_node (ac_leaf 9 (vd_97_9 E)) (ac_node (ac_leaf 10 (vd_97_10 E)) (ac_leaf 13 (vd_97_13 E)))) (ac_node (ac_leaf 15 (vd_97_15 E)) (ac_node (ac_leaf 16 (vd_97_16 E)) (ac_leaf 19 (vd_97_19 E)))))) (ac_node (ac_node (ac_node (ac_leaf 20 (vd_97_20 E)) (ac_node (ac_leaf 23 (vd_97_23 E)) (ac_leaf 24 (vd_97_24 E)))) (ac_node (ac_leaf 27 (vd_97_27 E)) (ac_node (ac_leaf 29 (vd_97_29 E)) (ac_leaf 30 (vd_97_30 E))))) (ac_node (ac_node (ac_leaf 33 (vd_97_33 E)) (ac_node (ac_leaf 34 (vd_97_34 E)) (ac_leaf 35 (vd_97_35 E)))) (ac_node (ac_node (ac_leaf 38 (vd_97_38 E)) (ac_leaf 39 (vd_97_39 E))) (ac_node (ac_leaf 40 (vd_97_40 E)) (ac_leaf 43 (vd_97_43 E))))))) (ac_node (ac_node (ac_node (ac_node (ac_leaf 44 (vd_97_44 E)) (ac_node (ac_leaf 47 (vd_97_47 E)) (ac_leaf 48 (vd_97_48 E)))) (ac_node (ac_leaf 49 (vd_97_49 E)) (ac_node (ac_leaf 50 (vd_97_50 E)) (ac_leaf 53 (vd_97_53 E))))) (ac_node (ac_node (ac_leaf 56 (vd_97_56 E)) (ac_node (ac_leaf 57 (vd_97_57 E)) (ac_leaf 60 (vd_97_60 E)))) (ac_node (ac_node (ac_leaf 61 (vd_97_61 E)) (ac_leaf 62 (vd_97_62 E))) (ac_node (ac_leaf 65 (vd_97_65 E)) (ac_leaf 66 (vd_97_66 E)))))) (ac_node (ac_node (ac_node (ac_leaf 67 (vd_97_67 E)) (ac_node (ac_leaf 68 (vd_97_68 E)) (ac_leaf 69 (vd_97_69 E)))) (ac_node (ac_leaf 70 (vd_97_70 E)) (ac_node (ac_leaf 71 (vd_97_71 E)) (ac_leaf 72 (vd_97_72 E))))) (ac_node (ac_node (ac_leaf 73 (vd_97_73 E)) (ac_node (ac_leaf 74 (vd_97_74 E)) (ac_leaf 75 (vd_97_75 E)))) (ac_node (ac_node (ac_leaf 76 (vd_97_76 E)) (ac_leaf 79 (vd_97_79 E))) (ac_node (ac_leaf 82 (vd_97_82 E)) (ac_leaf 85 (vd_97_85 E))))))))
theorem vd_98_0 (E : ac_E) : ac_V E ac_MDf ac_HDf 98 0 (.inl (o_con (.int 0) 1)) := ⟨ok_iconst dd_98_0 (by decide), mn_con _ _⟩
theorem vd_98_1 (E : ac_E) : ac_V E ac_MDf ac_HDf 98 1 (.inl (o_ist 1 2)) := ⟨ok_istore_n dd_98_1, mn_ist _ _⟩
theorem vd_98_2 (E : ac_E) : ac_V E ac_MDf ac_HDf 98 2 (.inl (o_ild 1 3)) := ⟨ok_iload_n dd_98_2, mn_ild _ _⟩
theorem vd_98_3 (E : ac_E) : ac_V E ac_MDf ac_HDf 98 3 (.inl (o_ald 0 4)) := ⟨ok_aload_n dd_98_3, mn_ald _ _⟩
theorem vd_98_4 (E : ac_E) : ac_V E ac_MDf ac_HDf 98 4 (.inl (o_get 5 1 7)) := ⟨ok_getf (ci := 5) (f := 1) (C := RX5) (T := TX5) (N := 17) (ref := RX5) rfl win_5 (by decide) rfl wm_639 dd_98_4, mn_get _ _ _⟩
theorem vd_98_7 (E : ac_E) : ac_V E ac_MDf ac_HDf 98 7 (.inl (o_ald 0 8)) := ⟨ok_aload_n dd_98_7, mn_ald _ _⟩
theorem vd_98_8 (E : ac_E) : ac_V E ac_MDf ac_HDf 98 8 (.inl (o_get 5 2 11)) := ⟨ok_getf (ci := 5) (f := 2) (C := RX5) (T := TX5) (N := 17) (ref := RX5) rfl win_5 (by decide) rfl wm_640 dd_98_8, mn_get _ _ _⟩
theorem vd_98_11 (E : ac_E) : ac_V E ac_MDf ac_HDf 98 11 (.inl (o_mul 12)) := ⟨ok_imul dd_98_11, mn_mul _⟩
theorem vd_98_12 (E : ac_E) : ac_V E ac_MDf ac_HDf 98 12 (.inl (o_ge 82 15)) := ⟨ok_icmpge dd_98_12 (by decide), mn_ge _ _⟩
theorem vd_98_15 (E : ac_E) : ac_V E ac_MDf ac_HDf 98 15 (.inl (o_ald 0 16)) := ⟨ok_aload_n dd_98_15, mn_ald _ _⟩
theorem vd_98_16 (E : ac_E) : ac_V E ac_MDf ac_HDf 98 16 (.inl (o_get 5 6 19)) := ⟨ok_getf (ci := 5) (f := 6) (C := RX5) (T := TX5) (N := 17) (ref := RX5) rfl win_5 (by decide) rfl wm_644 dd_98_16, mn_get _ _ _⟩
theorem vd_98_19 (E : ac_E) : ac_V E ac_MDf ac_HDf 98 19 (.inl (o_ild 1 20)) := ⟨ok_iload_n dd_98_19, mn_ild _ _⟩
theorem vd_98_20 (E : ac_E) : ac_V E ac_MDf ac_HDf 98 20 (.inl (o_ia 21)) := ⟨ok_iaload dd_98_20, mn_ia _⟩
theorem vd_98_21 (E : ac_E) : ac_V E ac_MDf ac_HDf 98 21 (.inl (o_con (.int 1) 22)) := ⟨ok_iconst dd_98_21 (by decide), mn_con _ _⟩
theorem vd_98_22 (E : ac_E) : ac_V E ac_MDf ac_HDf 98 22 (.inl (o_eq 35 25)) := ⟨ok_icmpeq dd_98_22 (by decide), mn_eq _ _⟩
theorem vd_98_25 (E : ac_E) : ac_V E ac_MDf ac_HDf 98 25 (.inl (o_ald 0 26)) := ⟨ok_aload_n dd_98_25, mn_ald _ _⟩
theorem vd_98_26 (E : ac_E) : ac_V E ac_MDf ac_HDf 98 26 (.inl (o_get 5 6 29)) := ⟨ok_getf (ci := 5) (f := 6) (C := RX5) (T := TX5) (N := 17) (ref := RX5) rfl win_5 (by decide) rfl wm_644 dd_98_26, mn_get _ _ _⟩
theorem vd_98_29 (E : ac_E) : ac_V E ac_MDf ac_HDf 98 29 (.inl (o_ild 1 30)) := ⟨ok_iload_n dd_98_29, mn_ild _ _⟩
theorem vd_98_30 (E : ac_E) : ac_V E ac_MDf ac_HDf 98 30 (.inl (o_ia 31)) := ⟨ok_iaload dd_98_30, mn_ia _⟩
theorem vd_98_31 (E : ac_E) : ac_V E ac_MDf ac_HDf 98 31 (.inl (o_con (.int 4) 32)) := ⟨ok_iconst dd_98_31 (by decide), mn_con _ _⟩
theorem vd_98_32 (E : ac_E) : ac_V E ac_MDf ac_HDf 98 32 (.inl (o_ne 43 35)) := ⟨ok_icmpne dd_98_32 (by decide), mn_ne _ _⟩
theorem vd_98_35 (E : ac_E) : ac_V E ac_MDf ac_HDf 98 35 (.inl (o_ald 0 36)) := ⟨ok_aload_n dd_98_35, mn_ald _ _⟩
theorem vd_98_36 (E : ac_E) : ac_V E ac_MDf ac_HDf 98 36 (.inl (o_ild 1 37)) := ⟨ok_iload_n dd_98_36, mn_ild _ _⟩
theorem vd_98_37 (E : ac_E) : ac_V E ac_MDf ac_HDf 98 37 (.inr (.inl (95,2,40,7))) := ac_Vc0 ((ok_callV (T := TX5) (N := 17) rfl rfl (by decide) (by decide +kernel) wm_800 wm_56 wm_797 wm_799 wm_40 dd_98_37).1) (fun _ => rfl)
theorem vd_98_40 (E : ac_E) : ac_V E ac_MDf ac_HDf 98 40 (.inl (o_go 76)) := ⟨ok_goto dd_98_40 (by decide), mn_go _⟩
theorem vd_98_43 (E : ac_E) : ac_V E ac_MDf ac_HDf 98 43 (.inl (o_ald 0 44)) := ⟨ok_aload_n dd_98_43, mn_ald _ _⟩
theorem vd_98_44 (E : ac_E) : ac_V E ac_MDf ac_HDf 98 44 (.inl (o_get 5 6 47)) := ⟨ok_getf (ci := 5) (f := 6) (C := RX5) (T := TX5) (N := 17) (ref := RX5) rfl win_5 (by decide) rfl wm_644 dd_98_44, mn_get _ _ _⟩
theorem vd_98_47 (E : ac_E) : ac_V E ac_MDf ac_HDf 98 47 (.inl (o_ild 1 48)) := ⟨ok_iload_n dd_98_47, mn_ild _ _⟩
theorem vd_98_48 (E : ac_E) : ac_V E ac_MDf ac_HDf 98 48 (.inl (o_ia 49)) := ⟨ok_iaload dd_98_48, mn_ia _⟩
theorem vd_98_49 (E : ac_E) : ac_V E ac_MDf ac_HDf 98 49 (.inl (o_con (.int 2) 50)) := ⟨ok_iconst dd_98_49 (by decide), mn_con _ _⟩
theorem vd_98_50 (E : ac_E) : ac_V E ac_MDf ac_HDf 98 50 (.inl (o_ne 61 53)) := ⟨ok_icmpne dd_98_50 (by decide), mn_ne _ _⟩
theorem vd_98_53 (E : ac_E) : ac_V E ac_MDf ac_HDf 98 53 (.inl (o_ald 0 54)) := ⟨ok_aload_n dd_98_53, mn_ald _ _⟩
theorem vd_98_54 (E : ac_E) : ac_V E ac_MDf ac_HDf 98 54 (.inl (o_ild 1 55)) := ⟨ok_iload_n dd_98_54, mn_ild _ _⟩
theorem vd_98_55 (E : ac_E) : ac_V E ac_MDf ac_HDf 98 55 (.inr (.inl (97,2,58,7))) := ac_Vc0 ((ok_callV (T := TX5) (N := 17) rfl rfl (by decide) (by decide +kernel) wm_811 wm_56 wm_808 wm_810 wm_42 dd_98_55).1) (fun _ => rfl)
theorem vd_98_58 (E : ac_E) : ac_V E ac_MDf ac_HDf 98 58 (.inl (o_go 76)) := ⟨ok_goto dd_98_58 (by decide), mn_go _⟩
theorem vd_98_61 (E : ac_E) : ac_V E ac_MDf ac_HDf 98 61 (.inl (o_ald 0 62)) := ⟨ok_aload_n dd_98_61, mn_ald _ _⟩
theorem vd_98_62 (E : ac_E) : ac_V E ac_MDf ac_HDf 98 62 (.inl (o_get 5 6 65)) := ⟨ok_getf (ci := 5) (f := 6) (C := RX5) (T := TX5) (N := 17) (ref := RX5) rfl win_5 (by decide) rfl wm_644 dd_98_62, mn_get _ _ _⟩
theorem vd_98_65 (E : ac_E) : ac_V E ac_MDf ac_HDf 98 65 (.inl (o_ild 1 66)) := ⟨ok_iload_n dd_98_65, mn_ild _ _⟩
theorem vd_98_66 (E : ac_E) : ac_V E ac_MDf ac_HDf 98 66 (.inl (o_ia 67)) := ⟨ok_iaload dd_98_66, mn_ia _⟩
theorem vd_98_67 (E : ac_E) : ac_V E ac_MDf ac_HDf 98 67 (.inl (o_con (.int 3) 68)) := ⟨ok_iconst dd_98_67 (by decide), mn_con _ _⟩
theorem vd_98_68 (E : ac_E) : ac_V E ac_MDf ac_HDf 98 68 (.inl (o_ne 76 71)) := ⟨ok_icmpne dd_98_68 (by decide), mn_ne _ _⟩
theorem vd_98_71 (E : ac_E) : ac_V E ac_MDf ac_HDf 98 71 (.inl (o_ald 0 72)) := ⟨ok_aload_n dd_98_71, mn_ald _ _⟩
theorem vd_98_72 (E : ac_E) : ac_V E ac_MDf ac_HDf 98 72 (.inl (o_ild 1 73)) := ⟨ok_iload_n dd_98_72, mn_ild _ _⟩
theorem vd_98_73 (E : ac_E) : ac_V E ac_MDf ac_HDf 98 73 (.inr (.inl (96,2,76,7))) := ac_Vc0 ((ok_callV (T := TX5) (N := 17) rfl rfl (by decide) (by decide +kernel) wm_816 wm_56 wm_813 wm_815 wm_43 dd_98_73).1) (fun _ => rfl)
theorem vd_98_76 (E : ac_E) : ac_V E ac_MDf ac_HDf 98 76 (.inl (o_inc 1 1 79)) := ⟨ok_iinc dd_98_76 (by decide), mn_inc _ _ _⟩
theorem vd_98_79 (E : ac_E) : ac_V E ac_MDf ac_HDf 98 79 (.inl (o_go 2)) := ⟨ok_goto dd_98_79 (by decide), mn_go _⟩
theorem vd_98_82 (E : ac_E) : ac_V E ac_MDf ac_HDf 98 82 (.inr (.inr (.inl 0))) := ⟨fun _ => ⟨dd_98_82, rfl⟩, fun q => nomatch q, fun q => nomatch q⟩
theorem va_98 (E : ac_E) (pc : Nat) : ac_V E ac_MDf ac_HDf 98 pc (tb_98 (ac_len E) (ac_xs E) pc) := (ac_node (ac_node (ac_node (ac_node (ac_node (ac_leaf 0 (vd_98_0 E)) (ac_leaf 1 (vd_98_1 E))) (ac_node (ac_leaf 2 (vd_98_2 E)) (ac_node (ac_leaf 3 (vd_98_3 E)) (ac_leaf 4 (vd_98_4 E))))) (ac_node (ac_node (ac_leaf 7 (vd_98_7 E)) (ac_node (ac_leaf 8 (vd_98_8 E)) (ac_leaf 11 (vd_98_11 E)))) (ac_node (ac_leaf 12 (vd_98_12 E)) (ac_node (ac_leaf 15 (vd_98_15 E)) (ac_leaf 16 (vd_98_16 E)))))) (ac_node (ac_node (ac_node (ac_leaf 19 (vd_98_19 E)) (ac_node (ac_leaf 20 (vd_98_20 E)) (ac_leaf 21 (vd_98_21 E)))) (ac_node (ac_leaf 22 (vd_98_22 E)) (ac_node (ac_leaf 25 (vd_98_25 E)) (ac_leaf 26 (vd_98_26 E))))) (ac_node (ac_node (ac_leaf 29 (vd_98_29 E)) (ac_node (ac_leaf 30 (vd_98_30 E)) (ac_leaf 31 (vd_98_31 E)))) (ac_node (ac_leaf 32 (vd_98_32 E)) (ac_node (ac_leaf 35 (vd_98_35 E)) (ac_leaf 36 (vd_98_36 E))))))) (ac_node (ac_node (ac_node (ac_node (ac_leaf 37 (vd_98_37 E)) (ac_node (ac_leaf 40 (vd_98_40 E)) (ac_leaf 43 (vd_98_43 E)))) (ac_node (ac_leaf 44 (vd_98_44 E)) (ac_node (ac_leaf 47 (vd_98_47 E)) (ac_leaf 48 (vd_98_48 E))))) (ac_node (ac_node (ac_leaf 49 (vd_98_49 E)) (ac_node (ac_leaf 50 (vd_98_50 E)) (ac_leaf 53 (vd_98_53 E)))) (ac_node (ac_leaf 54 (vd_98_54 E)) (ac_node (ac_leaf 55 (vd_98_55 E)) (ac_leaf 58 (vd_98_58 E)))))) (ac_node (ac_node (ac_node (ac_leaf 61 (vd_98_61 E)) (ac_node (ac_leaf 62 (vd_98_62 E)) (ac_leaf 65 (vd_98_65 E)))) (ac_node (ac_leaf 66 (vd_98_66 E)) (ac_node (ac_leaf 67 (vd_98_67 E)) (ac_leaf 68 (vd_98_68 E))))) (ac_node (ac_node (ac_leaf 71 (vd_98_71 E)) (ac_node (ac_leaf 72 (vd_98_72 E)) (ac_leaf 73 (vd_98_73 E)))) (ac_node (ac_leaf 76 (vd_98_76 E)) (ac_node (ac_leaf 79 (vd_98_79 E)) (ac_leaf 82 (vd_98_82 E))))))))
theorem vd_99_0 (E : ac_E) : ac_V E ac_MDf ac_HDf 99 0 (.inl (o_con (.int 0) 1)) := ⟨ok_iconst dd_99_0 (by decide), mn_con _ _⟩
theorem vd_99_1 (E : ac_E) : ac_V E ac_MDf ac_HDf 99 1 (.inl (o_ist 2 2)) := ⟨ok_istore_n dd_99_1, mn_ist _ _⟩
theorem vd_99_2 (E : ac_E) : ac_V E ac_MDf ac_HDf 99 2 (.inl (o_con (.int 0) 3)) := ⟨ok_iconst dd_99_2 (by decide), mn_con _ _⟩
theorem vd_99_3 (E : ac_E) : ac_V E ac_MDf ac_HDf 99 3 (.inl (o_ist 3 4)) := ⟨ok_istore_n dd_99_3, mn_ist _ _⟩
theorem vd_99_4 (E : ac_E) : ac_V E ac_MDf ac_HDf 99 4 (.inl (o_ild 3 5)) := ⟨ok_iload_n dd_99_4, mn_ild _ _⟩
theorem vd_99_5 (E : ac_E) : ac_V E ac_MDf ac_HDf 99 5 (.inl (o_ald 0 6)) := ⟨ok_aload_n dd_99_5, mn_ald _ _⟩
theorem vd_99_6 (E : ac_E) : ac_V E ac_MDf ac_HDf 99 6 (.inl (o_get 5 1 9)) := ⟨ok_getf (ci := 5) (f := 1) (C := RX5) (T := TX5) (N := 17) (ref := RX5) rfl win_5 (by decide) rfl wm_639 dd_99_6, mn_get _ _ _⟩
theorem vd_99_9 (E : ac_E) : ac_V E ac_MDf ac_HDf 99 9 (.inl (o_ald 0 10)) := ⟨ok_aload_n dd_99_9, mn_ald _ _⟩
theorem vd_99_10 (E : ac_E) : ac_V E ac_MDf ac_HDf 99 10 (.inl (o_get 5 2 13)) := ⟨ok_getf (ci := 5) (f := 2) (C := RX5) (T := TX5) (N := 17) (ref := RX5) rfl win_5 (by decide) rfl wm_640 dd_99_10, mn_get _ _ _⟩
theorem vd_99_13 (E : ac_E) : ac_V E ac_MDf ac_HDf 99 13 (.inl (o_mul 14)) := ⟨ok_imul dd_99_13, mn_mul _⟩
theorem vd_99_14 (E : ac_E) : ac_V E ac_MDf ac_HDf 99 14 (.inl (o_ge 41 17)) := ⟨ok_icmpge dd_99_14 (by decide), mn_ge _ _⟩
theorem vd_99_17 (E : ac_E) : ac_V E ac_MDf ac_HDf 99 17 (.inl (o_ald 0 18)) := ⟨ok_aload_n dd_99_17, mn_ald _ _⟩
theorem vd_99_18 (E : ac_E) : ac_V E ac_MDf ac_HDf 99 18 (.inl (o_get 5 6 21)) := ⟨ok_getf (ci := 5) (f := 6) (C := RX5) (T := TX5) (N := 17) (ref := RX5) rfl win_5 (by decide) rfl wm_644 dd_99_18, mn_get _ _ _⟩
theorem vd_99_21 (E : ac_E) : ac_V E ac_MDf ac_HDf 99 21 (.inl (o_ild 3 22)) := ⟨ok_iload_n dd_99_21, mn_ild _ _⟩
theorem vd_99_22 (E : ac_E) : ac_V E ac_MDf ac_HDf 99 22 (.inl (o_ia 23)) := ⟨ok_iaload dd_99_22, mn_ia _⟩
theorem vd_99_23 (E : ac_E) : ac_V E ac_MDf ac_HDf 99 23 (.inl (o_ild 1 24)) := ⟨ok_iload_n dd_99_23, mn_ild _ _⟩
theorem vd_99_24 (E : ac_E) : ac_V E ac_MDf ac_HDf 99 24 (.inl (o_ne 33 27)) := ⟨ok_icmpne dd_99_24 (by decide), mn_ne _ _⟩
theorem vd_99_27 (E : ac_E) : ac_V E ac_MDf ac_HDf 99 27 (.inl (o_ild 2 28)) := ⟨ok_iload_n dd_99_27, mn_ild _ _⟩
theorem vd_99_28 (E : ac_E) : ac_V E ac_MDf ac_HDf 99 28 (.inl (o_con (.int 1) 29)) := ⟨ok_iconst dd_99_28 (by decide), mn_con _ _⟩
theorem vd_99_29 (E : ac_E) : ac_V E ac_MDf ac_HDf 99 29 (.inl (o_add 30)) := ⟨ok_iadd dd_99_29, mn_add _⟩
theorem vd_99_30 (E : ac_E) : ac_V E ac_MDf ac_HDf 99 30 (.inl (o_go 34)) := ⟨ok_goto dd_99_30 (by decide), mn_go _⟩
theorem vd_99_33 (E : ac_E) : ac_V E ac_MDf ac_HDf 99 33 (.inl (o_ild 2 34)) := ⟨ok_iload_n dd_99_33, mn_ild _ _⟩
theorem vd_99_34 (E : ac_E) : ac_V E ac_MDf ac_HDf 99 34 (.inl (o_ist 2 35)) := ⟨ok_istore_n dd_99_34, mn_ist _ _⟩
theorem vd_99_35 (E : ac_E) : ac_V E ac_MDf ac_HDf 99 35 (.inl (o_inc 3 1 38)) := ⟨ok_iinc dd_99_35 (by decide), mn_inc _ _ _⟩
theorem vd_99_38 (E : ac_E) : ac_V E ac_MDf ac_HDf 99 38 (.inl (o_go 4)) := ⟨ok_goto dd_99_38 (by decide), mn_go _⟩
theorem vd_99_41 (E : ac_E) : ac_V E ac_MDf ac_HDf 99 41 (.inl (o_ild 2 42)) := ⟨ok_iload_n dd_99_41, mn_ild _ _⟩
theorem vd_99_42 (E : ac_E) : ac_V E ac_MDf ac_HDf 99 42 (.inr (.inr (.inl 1))) := ⟨fun q => nomatch q, fun _ => ⟨dd_99_42, rfl⟩, fun q => nomatch q⟩
theorem va_99 (E : ac_E) (pc : Nat) : ac_V E ac_MDf ac_HDf 99 pc (tb_99 (ac_len E) (ac_xs E) pc) := (ac_node (ac_node (ac_node (ac_node (ac_leaf 0 (vd_99_0 E)) (ac_node (ac_leaf 1 (vd_99_1 E)) (ac_leaf 2 (vd_99_2 E)))) (ac_node (ac_leaf 3 (vd_99_3 E)) (ac_node (ac_leaf 4 (vd_99_4 E)) (ac_leaf 5 (vd_99_5 E))))) (ac_node (ac_node (ac_leaf 6 (vd_99_6 E)) (ac_node (ac_leaf 9 (vd_99_9 E)) (ac_leaf 10 (vd_99_10 E)))) (ac_node (ac_node (ac_leaf 13 (vd_99_13 E)) (ac_leaf 14 (vd_99_14 E))) (ac_node (ac_leaf 17 (vd_99_17 E)) (ac_leaf 18 (vd_99_18 E)))))) (ac_node (ac_node (ac_node (ac_leaf 21 (vd_99_21 E)) (ac_node (ac_leaf 22 (vd_99_22 E)) (ac_leaf 23 (vd_99_23 E)))) (ac_node (ac_node (ac_leaf 24 (vd_99_24 E)) (ac_leaf 27 (vd_99_27 E))) (ac_node (ac_leaf 28 (vd_99_28 E)) (ac_leaf 29 (vd_99_29 E))))) (ac_node (ac_node (ac_leaf 30 (vd_99_30 E)) (ac_node (ac_leaf 33 (vd_99_33 E)) (ac_leaf 34 (vd_99_34 E)))) (ac_node (ac_node (ac_leaf 35 (vd_99_35 E)) (ac_leaf 38 (vd_99_38 E))) (ac_node (ac_leaf 41 (vd_99_41 E)) (ac_leaf 42 (vd_99_42 E)))))))
theorem vd_100_0 (E : ac_E) : ac_V E ac_MDf ac_HDf 100 0 (.inl (o_ald 0 1)) := ⟨ok_aload_n dd_100_0, mn_ald _ _⟩
theorem vd_100_1 (E : ac_E) : ac_V E ac_MDf ac_HDf 100 1 (.inl (o_get 5 12 4)) := ⟨ok_getf (ci := 5) (f := 12) (C := RX5) (T := TX5) (N := 17) (ref := RX5) rfl win_5 (by decide) rfl wm_650 dd_100_1, mn_get _ _ _⟩
theorem vd_100_4 (E : ac_E) : ac_V E ac_MDf ac_HDf 100 4 (.inl (o_con (.int 0) 5)) := ⟨ok_iconst dd_100_4 (by decide), mn_con _ _⟩
theorem vd_100_5 (E : ac_E) : ac_V E ac_MDf ac_HDf 100 5 (.inl (o_ia 6)) := ⟨ok_iaload dd_100_5, mn_ia _⟩
theorem vd_100_6 (E : ac_E) : ac_V E ac_MDf ac_HDf 100 6 (.inl (o_ist 2 7)) := ⟨ok_istore_n dd_100_6, mn_ist _ _⟩
theorem vd_100_7 (E : ac_E) : ac_V E ac_MDf ac_HDf 100 7 (.inl (o_ald 0 8)) := ⟨ok_aload_n dd_100_7, mn_ald _ _⟩
theorem vd_100_8 (E : ac_E) : ac_V E ac_MDf ac_HDf 100 8 (.inl (o_get 5 12 11)) := ⟨ok_getf (ci := 5) (f := 12) (C := RX5) (T := TX5) (N := 17) (ref := RX5) rfl win_5 (by decide) rfl wm_650 dd_100_8, mn_get _ _ _⟩
theorem vd_100_11 (E : ac_E) : ac_V E ac_MDf ac_HDf 100 11 (.inl (o_con (.int 1) 12)) := ⟨ok_iconst dd_100_11 (by decide), mn_con _ _⟩
theorem vd_100_12 (E : ac_E) : ac_V E ac_MDf ac_HDf 100 12 (.inl (o_ia 13)) := ⟨ok_iaload dd_100_12, mn_ia _⟩
theorem vd_100_13 (E : ac_E) : ac_V E ac_MDf ac_HDf 100 13 (.inl (o_ist 3 14)) := ⟨ok_istore_n dd_100_13, mn_ist _ _⟩
theorem vd_100_14 (E : ac_E) : ac_V E ac_MDf ac_HDf 100 14 (.inl (o_ild 1 15)) := ⟨ok_iload_n dd_100_14, mn_ild _ _⟩
theorem vd_100_15 (E : ac_E) : ac_V E ac_MDf ac_HDf 100 15 (.inl (o_sw [48, 54, 60, 64, 71] 78)) := ⟨ok_sw dd_100_15 rfl (by decide) (by decide) (by decide +kernel), mn_sw _ _⟩
theorem vd_100_48 (E : ac_E) : ac_V E ac_MDf ac_HDf 100 48 (.inl (o_con (.int 2) 49)) := ⟨ok_iconst dd_100_48 (by decide), mn_con _ _⟩
theorem vd_100_49 (E : ac_E) : ac_V E ac_MDf ac_HDf 100 49 (.inl (o_ild 2 50)) := ⟨ok_iload_n dd_100_49, mn_ild _ _⟩
theorem vd_100_50 (E : ac_E) : ac_V E ac_MDf ac_HDf 100 50 (.inl (o_mul 51)) := ⟨ok_imul dd_100_50, mn_mul _⟩
theorem vd_100_51 (E : ac_E) : ac_V E ac_MDf ac_HDf 100 51 (.inl (o_ild 3 52)) := ⟨ok_iload_n dd_100_51, mn_ild _ _⟩
theorem vd_100_52 (E : ac_E) : ac_V E ac_MDf ac_HDf 100 52 (.inl (o_add 53)) := ⟨ok_iadd dd_100_52, mn_add _⟩
theorem vd_100_53 (E : ac_E) : ac_V E ac_MDf ac_HDf 100 53 (.inr (.inr (.inl 1))) := ⟨fun q => nomatch q, fun _ => ⟨dd_100_53, rfl⟩, fun q => nomatch q⟩
theorem vd_100_54 (E : ac_E) : ac_V E ac_MDf ac_HDf 100 54 (.inl (o_ild 2 55)) := ⟨ok_iload_n dd_100_54, mn_ild _ _⟩
theorem vd_100_55 (E : ac_E) : ac_V E ac_MDf ac_HDf 100 55 (.inl (o_con (.int 2) 56)) := ⟨ok_iconst dd_100_55 (by decide), mn_con _ _⟩
theorem vd_100_56 (E : ac_E) : ac_V E ac_MDf ac_HDf 100 56 (.inl (o_ild 3 57)) := ⟨ok_iload_n dd_100_56, mn_ild _ _⟩
theorem vd_100_57 (E : ac_E) : ac_V E ac_MDf ac_HDf 100 57 (.inl (o_mul 58)) := ⟨ok_imul dd_100_57, mn_mul _⟩
theorem vd_100_58 (E : ac_E) : ac_V E ac_MDf ac_HDf 100 58 (.inl (o_add 59)) := ⟨ok_iadd dd_100_58, mn_add _⟩
theorem vd_100_59 (E : ac_E) : ac_V E ac_MDf ac_HDf 100 59 (.inr (.inr (.inl 1))) := ⟨fun q => nomatch q, fun _ => ⟨dd_100_59, rfl⟩, fun q => nomatch q⟩
theorem vd_100_60 (E : ac_E) : ac_V E ac_MDf ac_HDf 100 60 (.inl (o_ild 3 61)) := ⟨ok_iload_n dd_100_60, mn_ild _ _⟩
theorem vd_100_61 (E : ac_E) : ac_V E ac_MDf ac_HDf 100 61 (.inl (o_ild 2 62)) := ⟨ok_iload_n dd_100_61, mn_ild _ _⟩
theorem vd_100_62 (E : ac_E) : ac_V E ac_MDf ac_HDf 100 62 (.inl (o_sub 63)) := ⟨ok_isub dd_100_62, mn_sub _⟩
theorem vd_100_63 (E : ac_E) : ac_V E ac_MDf ac_HDf 100 63 (.inr (.inr (.inl 1))) := ⟨fun q => nomatch q, fun _ => ⟨dd_100_63, rfl⟩, fun q => nomatch q⟩
theorem vd_100_64 (E : ac_E) : ac_V E ac_MDf ac_HDf 100 64 (.inl (o_con (.int (-2)) 66)) := ⟨ok_bipush dd_100_64 (by decide), mn_con _ _⟩
theorem vd_100_66 (E : ac_E) : ac_V E ac_MDf ac_HDf 100 66 (.inl (o_ild 2 67)) := ⟨ok_iload_n dd_100_66, mn_ild _ _⟩
theorem vd_100_67 (E : ac_E) : ac_V E ac_MDf ac_HDf 100 67 (.inl (o_mul 68)) := ⟨ok_imul dd_100_67, mn_mul _⟩
theorem vd_100_68 (E : ac_E) : ac_V E ac_MDf ac_HDf 100 68 (.inl (o_ild 3 69)) := ⟨ok_iload_n dd_100_68, mn_ild _ _⟩
theorem vd_100_69 (E : ac_E) : ac_V E ac_MDf ac_HDf 100 69 (.inl (o_sub 70)) := ⟨ok_isub dd_100_69, mn_sub _⟩
theorem vd_100_70 (E : ac_E) : ac_V E ac_MDf ac_HDf 100 70 (.inr (.inr (.inl 1))) := ⟨fun q => nomatch q, fun _ => ⟨dd_100_70, rfl⟩, fun q => nomatch q⟩
theorem vd_100_71 (E : ac_E) : ac_V E ac_MDf ac_HDf 100 71 (.inl (o_ild 2 72)) := ⟨ok_iload_n dd_100_71, mn_ild _ _⟩
theorem vd_100_72 (E : ac_E) : ac_V E ac_MDf ac_HDf 100 72 (.inl (o_neg 73)) := ⟨ok_ineg dd_100_72, mn_neg _⟩
theorem vd_100_73 (E : ac_E) : ac_V E ac_MDf ac_HDf 100 73 (.inl (o_con (.int 2) 74)) := ⟨ok_iconst dd_100_73 (by decide), mn_con _ _⟩
theorem vd_100_74 (E : ac_E) : ac_V E ac_MDf ac_HDf 100 74 (.inl (o_ild 3 75)) := ⟨ok_iload_n dd_100_74, mn_ild _ _⟩
theorem vd_100_75 (E : ac_E) : ac_V E ac_MDf ac_HDf 100 75 (.inl (o_mul 76)) := ⟨ok_imul dd_100_75, mn_mul _⟩
theorem vd_100_76 (E : ac_E) : ac_V E ac_MDf ac_HDf 100 76 (.inl (o_sub 77)) := ⟨ok_isub dd_100_76, mn_sub _⟩
theorem vd_100_77 (E : ac_E) : ac_V E ac_MDf ac_HDf 100 77 (.inr (.inr (.inl 1))) := ⟨fun q => nomatch q, fun _ => ⟨dd_100_77, rfl⟩, fun q => nomatch q⟩
theorem vd_100_78 (E : ac_E) : ac_V E ac_MDf ac_HDf 100 78 (.inl (o_ild 2 79)) := ⟨ok_iload_n dd_100_78, mn_ild _ _⟩
theorem vd_100_79 (E : ac_E) : ac_V E ac_MDf ac_HDf 100 79 (.inl (o_ild 3 80)) := ⟨ok_iload_n dd_100_79, mn_ild _ _⟩
theorem vd_100_80 (E : ac_E) : ac_V E ac_MDf ac_HDf 100 80 (.inl (o_sub 81)) := ⟨ok_isub dd_100_80, mn_sub _⟩
theorem vd_100_81 (E : ac_E) : ac_V E ac_MDf ac_HDf 100 81 (.inr (.inr (.inl 1))) := ⟨fun q => nomatch q, fun _ => ⟨dd_100_81, rfl⟩, fun q => nomatch q⟩
theorem va_100 (E : ac_E) (pc : Nat) : ac_V E ac_MDf ac_HDf 100 pc (tb_100 (ac_len E) (ac_xs E) pc) := (ac_node (ac_node (ac_node (ac_node (ac_node (ac_leaf 0 (vd_100_0 E)) (ac_leaf 1 (vd_100_1 E))) (ac_node (ac_leaf 4 (vd_100_4 E)) (ac_node (ac_leaf 5 (vd_100_5 E)) (ac_leaf 6 (vd_100_6 E))))) (ac_node (ac_node (ac_leaf 7 (vd_100_7 E)) (ac_node (ac_leaf 8 (vd_100_8 E)) (ac_leaf 11 (vd_100_11 E)))) (ac_node (ac_leaf 12 (vd_100_12 E)) (ac_node (ac_leaf 13 (vd_100_13 E)) (ac_leaf 14 (vd_100_14 E)))))) (ac_node (ac_node (ac_node (ac_leaf 15 (vd_100_15 E)) (ac_leaf 48 (vd_100_48 E))) (ac_node (ac_leaf 49 (vd_100_49 E)) (ac_node (ac_leaf 50 (vd_100_50 E)) (ac_leaf 51 (vd_100_51 E))))) (ac_node (ac_node (ac_leaf 52 (vd_100_52 E)) (ac_node (ac_leaf 53 (vd_100_53 E)) (ac_leaf 54 (vd_100_54 E)))) (ac_node (ac_leaf 55 (vd_100_55 E)) (ac_node (ac_leaf 56 (vd_100_56 E)) (ac_leaf 57 (vd_100_57 E))))))) (ac_node (ac_node (ac_node (ac_node (ac_leaf 58 (vd_100_58 E)) (ac_leaf 59 (vd_100_59 E))) (ac_node (ac_leaf 60 (vd_100_60 E)) (ac_node (ac_leaf 61 (vd_100_61 E)) (ac_leaf 62 (vd_100_62 E))))) (ac_node (ac_node (ac_leaf 63 (vd_100_63 E)) (ac_node (ac_leaf 64 (vd_100_64 E)) (ac_leaf 66 (vd_100_66 E)))) (ac_node (ac_leaf 67 (vd_100_67 E)) (ac_node (ac_leaf 68 (vd_100_68 E)) (ac_leaf 69 (vd_100_69 E)))))) (ac_node (ac_node (ac_node (ac_leaf 70 (vd_100_70 E)) (ac_node (ac_leaf 71 (vd_100_71 E)) (ac_leaf 72 (vd_100_72 E)))) (ac_node (ac_leaf 73 (vd_100_73 E)) (ac_node (ac_leaf 74 (vd_100_74 E)) (ac_leaf 75 (vd_100_75 E))))) (ac_node (ac_node (ac_leaf 76 (vd_100_76 E)) (ac_node (ac_leaf 77 (vd_100_77 E)) (ac_leaf 78 (vd_100_78 E)))) (ac_node (ac_leaf 79 (vd_100_79 E)) (ac_node (ac_leaf 80 (vd_100_80 E)) (ac_leaf 81 (vd_100_81 E))))))))
theorem vd_101_0 (E : ac_E) : ac_V E ac_MDf ac_HDf 101 0 (.inl (o_ald 0 1)) := ⟨ok_aload_n dd_101_0, mn_ald _ _⟩
theorem vd_101_1 (E : ac_E) : ac_V E ac_MDf ac_HDf 101 1 (.inl (o_get 5 5 4)) := ⟨ok_getf (ci := 5) (f := 5) (C := RX5) (T := TX5) (N := 17) (ref := RX5) rfl win_5 (by decide) rfl wm_643 dd_101_1, mn_get _ _ _⟩
theorem vd_101_4 (E : ac_E) : ac_V E ac_MDf ac_HDf 101 4 (.inl (o_ild 1 5)) := ⟨ok_iload_n dd_101_4, mn_ild _ _⟩
theorem vd_101_5 (E : ac_E) : ac_V E ac_MDf ac_HDf 101 5 (.inl (o_ia 6)) := ⟨ok_iaload dd_101_5, mn_ia _⟩
theorem vd_101_6 (E : ac_E) : ac_V E ac_MDf ac_HDf 101 6 (.inl (o_ist 3 7)) := ⟨ok_istore_n dd_101_6, mn_ist _ _⟩
theorem vd_101_7 (E : ac_E) : ac_V E ac_MDf ac_HDf 101 7 (.inl (o_ald 0 8)) := ⟨ok_aload_n dd_101_7, mn_ald _ _⟩
theorem vd_101_8 (E : ac_E) : ac_V E ac_MDf ac_HDf 101 8 (.inl (o_get 5 5 11)) := ⟨ok_getf (ci := 5) (f := 5) (C := RX5) (T := TX5) (N := 17) (ref := RX5) rfl win_5 (by decide) rfl wm_643 dd_101_8, mn_get _ _ _⟩
theorem vd_101_11 (E : ac_E) : ac_V E ac_MDf ac_HDf 101 11 (.inl (o_ild 1 12)) := ⟨ok_iload_n dd_101_11, mn_ild _ _⟩
theorem vd_101_12 (E : ac_E) : ac_V E ac_MDf ac_HDf 101 12 (.inl (o_ald 0 13)) := ⟨ok_aload_n dd_101_12, mn_ald _ _⟩
theorem vd_101_13 (E : ac_E) : ac_V E ac_MDf ac_HDf 101 13 (.inl (o_get 5 5 16)) := ⟨ok_getf (ci := 5) (f := 5) (C := RX5) (T := TX5) (N := 17) (ref := RX5) rfl win_5 (by decide) rfl wm_643 dd_101_13, mn_get _ _ _⟩
theorem vd_101_16 (E : ac_E) : ac_V E ac_MDf ac_HDf 101 16 (.inl (o_ild 2 17)) := ⟨ok_iload_n dd_101_16, mn_ild _ _⟩
theorem vd_101_17 (E : ac_E) : ac_V E ac_MDf ac_HDf 101 17 (.inl (o_ia 18)) := ⟨ok_iaload dd_101_17, mn_ia _⟩
theorem vd_101_18 (E : ac_E) : ac_V E ac_MDf ac_HDf 101 18 (.inl (o_is 19)) := ⟨ok_iastore dd_101_18, mn_is _⟩
theorem vd_101_19 (E : ac_E) : ac_V E ac_MDf ac_HDf 101 19 (.inl (o_ald 0 20)) := ⟨ok_aload_n dd_101_19, mn_ald _ _⟩
theorem vd_101_20 (E : ac_E) : ac_V E ac_MDf ac_HDf 101 20 (.inl (o_get 5 5 23)) := ⟨ok_getf (ci := 5) (f := 5) (C := RX5) (T := TX5) (N := 17) (ref := RX5) rfl win_5 (by decide) rfl wm_643 dd_101_20, mn_get _ _ _⟩
theorem vd_101_23 (E : ac_E) : ac_V E ac_MDf ac_HDf 101 23 (.inl (o_ild 2 24)) := ⟨ok_iload_n dd_101_23, mn_ild _ _⟩
theorem vd_101_24 (E : ac_E) : ac_V E ac_MDf ac_HDf 101 24 (.inl (o_ild 3 25)) := ⟨ok_iload_n dd_101_24, mn_ild _ _⟩
theorem vd_101_25 (E : ac_E) : ac_V E ac_MDf ac_HDf 101 25 (.inl (o_is 26)) := ⟨ok_iastore dd_101_25, mn_is _⟩
theorem vd_101_26 (E : ac_E) : ac_V E ac_MDf ac_HDf 101 26 (.inl (o_con (.int 0) 27)) := ⟨ok_iconst dd_101_26 (by decide), mn_con _ _⟩
theorem vd_101_27 (E : ac_E) : ac_V E ac_MDf ac_HDf 101 27 (.inl (o_ist 4 29)) := ⟨ok_istore dd_101_27, mn_ist _ _⟩
theorem vd_101_29 (E : ac_E) : ac_V E ac_MDf ac_HDf 101 29 (.inl (o_ild 4 31)) := ⟨ok_iload dd_101_29, mn_ild _ _⟩
theorem vd_101_31 (E : ac_E) : ac_V E ac_MDf ac_HDf 101 31 (.inl (o_ald 0 32)) := ⟨ok_aload_n dd_101_31, mn_ald _ _⟩
theorem vd_101_32 (E : ac_E) : ac_V E ac_MDf ac_HDf 101 32 (.inl (o_get 5 14 35)) := ⟨ok_getf (ci := 5) (f := 14) (C := RX5) (T := TX5) (N := 17) (ref := RX5) rfl win_5 (by decide) rfl wm_652 dd_101_32, mn_get _ _ _⟩
theorem vd_101_35 (E : ac_E) : ac_V E ac_MDf ac_HDf 101 35 (.inl (o_ge 88 38)) := ⟨ok_icmpge dd_101_35 (by decide), mn_ge _ _⟩
theorem vd_101_38 (E : ac_E) : ac_V E ac_MDf ac_HDf 101 38 (.inl (o_ald 0 39)) := ⟨ok_aload_n dd_101_38, mn_ald _ _⟩
theorem vd_101_39 (E : ac_E) : ac_V E ac_MDf ac_HDf 101 39 (.inl (o_get 5 15 42)) := ⟨ok_getf (ci := 5) (f := 15) (C := RX5) (T := TX5) (N := 17) (ref := RX5) rfl win_5 (by decide) rfl wm_653 dd_101_39, mn_get _ _ _⟩
theorem vd_101_42 (E : ac_E) : ac_V E ac_MDf ac_HDf 101 42 (.inl (o_ild 4 44)) := ⟨ok_iload dd_101_42, mn_ild _ _⟩
theorem vd_101_44 (E : ac_E) : ac_V E ac_MDf ac_HDf 101 44 (.inl (o_ald 0 45)) := ⟨ok_aload_n dd_101_44, mn_ald _ _⟩
theorem vd_101_45 (E : ac_E) : ac_V E ac_MDf ac_HDf 101 45 (.inl (o_get 5 15 48)) := ⟨ok_getf (ci := 5) (f := 15) (C := RX5) (T := TX5) (N := 17) (ref := RX5) rfl win_5 (by decide) rfl wm_653 dd_101_45, mn_get _ _ _⟩
theorem vd_101_48 (E : ac_E) : ac_V E ac_MDf ac_HDf 101 48 (.inl (o_ild 4 50)) := ⟨ok_iload dd_101_48, mn_ild _ _⟩
theorem vd_101_50 (E : ac_E) : ac_V E ac_MDf ac_HDf 101 50 (.inl (o_ia 51)) := ⟨ok_iaload dd_101_50, mn_ia _⟩
theorem vd_101_51 (E : ac_E) : ac_V E ac_MDf ac_HDf 101 51 (.inl (o_ild 1 52)) := ⟨ok_iload_n dd_101_51, mn_ild _ _⟩
theorem vd_101_52 (E : ac_E) : ac_V E ac_MDf ac_HDf 101 52 (.inl (o_ne 59 55)) := ⟨ok_icmpne dd_101_52 (by decide), mn_ne _ _⟩
theorem vd_101_55 (E : ac_E) : ac_V E ac_MDf ac_HDf 101 55 (.inl (o_ild 2 56)) := ⟨ok_iload_n dd_101_55, mn_ild _ _⟩
theorem vd_101_56 (E : ac_E) : ac_V E ac_MDf ac_HDf 101 56 (.inl (o_go 81)) := ⟨ok_goto dd_101_56 (by decide), mn_go _⟩
theorem vd_101_59 (E : ac_E) : ac_V E ac_MDf ac_HDf 101 59 (.inl (o_ald 0 60)) := ⟨ok_aload_n dd_101_59, mn_ald _ _⟩
theorem vd_101_60 (E : ac_E) : ac_V E ac_MDf ac_HDf 101 60 (.inl (o_get 5 15 63)) := ⟨ok_getf (ci := 5) (f := 15) (C := RX5) (T := TX5) (N := 17) (ref := RX5) rfl win_5 (by decide) rfl wm_653 dd_101_60, mn_get _ _ _⟩
theorem vd_101_63 (E : ac_E) : ac_V E ac_MDf ac_HDf 101 63 (.inl (o_ild 4 65)) := ⟨ok_iload dd_101_63, mn_ild _ _⟩
theorem vd_101_65 (E : ac_E) : ac_V E ac_MDf ac_HDf 101 65 (.inl (o_ia 66)) := ⟨ok_iaload dd_101_65, mn_ia _⟩
theorem vd_101_66 (E : ac_E) : ac_V E ac_MDf ac_HDf 101 66 (.inl (o_ild 2 67)) := ⟨ok_iload_n dd_101_66, mn_ild _ _⟩
theorem vd_101_67 (E : ac_E) : ac_V E ac_MDf ac_HDf 101 67 (.inl (o_ne 74 70)) := ⟨ok_icmpne dd_101_67 (by decide), mn_ne _ _⟩
theorem vd_101_70 (E : ac_E) : ac_V E ac_MDf ac_HDf 101 70 (.inl (o_ild 1 71)) := ⟨ok_iload_n dd_101_70, mn_ild _ _⟩
theorem vd_101_71 (E : ac_E) : ac_V E ac_MDf ac_HDf 101 71 (.inl (o_go 81)) := ⟨ok_goto dd_101_71 (by decide), mn_go _⟩
theorem vd_101_74 (E : ac_E) : ac_V E ac_MDf ac_HDf 101 74 (.inl (o_ald 0 75)) := ⟨ok_aload_n dd_101_74, mn_ald _ _⟩
theorem vd_101_75 (E : ac_E) : ac_V E ac_MDf ac_HDf 101 75 (.inl (o_get 5 15 78)) := ⟨ok_getf (ci := 5) (f := 15) (C := RX5) (T := TX5) (N := 17) (ref := RX5) rfl win_5 (by decide) rfl wm_653 dd_101_75, mn_get _ _ _⟩
theorem vd_101_78 (E : ac_E) : ac_V E ac_MDf ac_HDf 101 78 (.inl (o_ild 4 80)) := ⟨ok_iload dd_101_78, mn_ild _ _⟩
theorem vd_101_80 (E : ac_E) : ac_V E ac_MDf ac_HDf 101 80 (.inl (o_ia 81)) := ⟨ok_iaload dd_101_80, mn_ia _⟩
theorem vd_101_81 (E : ac_E) : ac_V E ac_MDf ac_HDf 101 81 (.inl (o_is 82)) := ⟨ok_iastore dd_101_81, mn_is _⟩
theorem vd_101_82 (E : ac_E) : ac_V E ac_MDf ac_HDf 101 82 (.inl (o_inc 4 1 85)) := ⟨ok_iinc dd_101_82 (by decide), mn_inc _ _ _⟩
theorem vd_101_85 (E : ac_E) : ac_V E ac_MDf ac_HDf 101 85 (.inl (o_go 29)) := ⟨ok_goto dd_101_85 (by decide), mn_go _⟩
theorem vd_101_88 (E : ac_E) : ac_V E ac_MDf ac_HDf 101 88 (.inr (.inr (.inl 0))) := ⟨fun _ => ⟨dd_101_88, rfl⟩, fun q => nomatch q, fun q => nomatch q⟩
theorem va_101 (E : ac_E) (pc : Nat) : ac_V E ac_MDf ac_HDf 101 pc (tb_101 (ac_len E) (ac_xs E) pc) := (ac_node (ac_node (ac_node (ac_node (ac_node (ac_leaf 0 (vd_101_0 E)) (ac_node (ac_leaf 1 (vd_101_1 E)) (ac_leaf 4 (vd_101_4 E)))) (ac_node (ac_leaf 5 (vd_101_5 E)) (ac_node (ac_leaf 6 (vd_101_6 E)) (ac_leaf 7 (vd_101_7 E))))) (ac_node (ac_node (ac_leaf 8 (vd_101_8 E)) (ac_node (ac_leaf 11 (vd_101_11 E)) (ac_leaf 12 (vd_101_12 E)))) (ac_node (ac_leaf 13 (vd_101_13 E)) (ac_node (ac_leaf 16 (vd_101_16 E)) (ac_leaf 17 (vd_101_17 E)))))) (ac_node (ac_node (ac_node (ac_leaf 18 (vd_101_18 E)) (ac_node (ac_leaf 19 (vd_101_19 E)) (ac_leaf 20 (vd_101_20 E)))) (ac_node (ac_leaf 23 (vd_101_23 E)) (ac_node (ac_leaf 24 (vd_101_24 E)) (ac_leaf 25 (vd_101_25 E))))) (ac_node (ac_node (ac_leaf 26 (vd_101_26 E)) (ac_node (ac_leaf 27 (vd_101_27 E)) (ac_leaf 29 (vd_101_29 E)))) (ac_node (ac_node (ac_leaf 31 (vd_101_31 E)) (ac_leaf 32 (vd_101_32 E))) (ac_node (ac_leaf 35 (vd_101_35 E)) (ac_leaf 38 (vd_101_38 E))))))) (ac_node (ac_node (ac_node (ac_node (ac_leaf 39 (vd_101_39 E)) (ac_node (ac_leaf 42 (vd_101_42 E)) (ac_leaf 44 (vd_101_44 E)))) (ac_node (ac_leaf 45 (vd_101_45 E)) (ac_node (ac_leaf 48 (vd_101_48 E)) (ac_leaf 50 (vd_101_50 E))))) (ac_node (ac_node (ac_leaf 51 (vd_101_51 E)) (ac_node (ac_leaf 52 (vd_101_52 E)) (ac_leaf 55 (vd_101_55 E)))) (ac_node (ac_node (ac_leaf 56 (vd_101_56 E)) (ac_leaf 59 (vd_101_59 E))) (ac_node (ac_leaf 60 (vd_101_60 E)) (ac_leaf 63 (vd_101_63 E)))))) (ac_node (ac_node (ac_node (ac_leaf 65 (vd_101_65 E)) (ac_node (ac_leaf 66 (vd_101_66 E)) (ac_leaf 67 (vd_101_67 E)))) (ac_node (ac_leaf 70 (vd_101_70 E)) (ac_node (ac_leaf 71 (vd_101_71 E)) (ac_leaf 74 (vd_101_74 E))))) (ac_node (ac_node (ac_leaf 75 (vd_101_75 E)) (ac_node (ac_leaf 78 (vd_101_78 E)) (ac_leaf 80 (vd_101_80 E)))) (ac_node (ac_node (ac_leaf 81 (vd_101_81 E)) (ac_leaf 82 (vd_101_82 E))) (ac_node (ac_leaf 85 (vd_101_85 E)) (ac_leaf 88 (vd_101_88 E))))))))
theorem vd_102_0 (E : ac_E) : ac_V E ac_MDf ac_HDf 102 0 (.inl (o_ild 1 1)) := ⟨ok_iload_n dd_102_0, mn_ild _ _⟩
theorem vd_102_1 (E : ac_E) : ac_V E ac_MDf ac_HDf 102 1 (.inl (o_ist 3 2)) := ⟨ok_istore_n dd_102_1, mn_ist _ _⟩
theorem vd_102_2 (E : ac_E) : ac_V E ac_MDf ac_HDf 102 2 (.inl (o_ild 3 3)) := ⟨ok_iload_n dd_102_2, mn_ild _ _⟩
theorem vd_102_3 (E : ac_E) : ac_V E ac_MDf ac_HDf 102 3 (.inl (o_ald 0 4)) := ⟨ok_aload_n dd_102_3, mn_ald _ _⟩
theorem vd_102_4 (E : ac_E) : ac_V E ac_MDf ac_HDf 102 4 (.inl (o_get 5 1 7)) := ⟨ok_getf (ci := 5) (f := 1) (C := RX5) (T := TX5) (N := 17) (ref := RX5) rfl win_5 (by decide) rfl wm_639 dd_102_4, mn_get _ _ _⟩
theorem vd_102_7 (E : ac_E) : ac_V E ac_MDf ac_HDf 102 7 (.inl (o_ald 0 8)) := ⟨ok_aload_n dd_102_7, mn_ald _ _⟩
theorem vd_102_8 (E : ac_E) : ac_V E ac_MDf ac_HDf 102 8 (.inl (o_get 5 2 11)) := ⟨ok_getf (ci := 5) (f := 2) (C := RX5) (T := TX5) (N := 17) (ref := RX5) rfl win_5 (by decide) rfl wm_640 dd_102_8, mn_get _ _ _⟩
theorem vd_102_11 (E : ac_E) : ac_V E ac_MDf ac_HDf 102 11 (.inl (o_mul 12)) := ⟨ok_imul dd_102_11, mn_mul _⟩
theorem vd_102_12 (E : ac_E) : ac_V E ac_MDf ac_HDf 102 12 (.inl (o_ge 68 15)) := ⟨ok_icmpge dd_102_12 (by decide), mn_ge _ _⟩
theorem vd_102_15 (E : ac_E) : ac_V E ac_MDf ac_HDf 102 15 (.inl (o_ild 2 16)) := ⟨ok_iload_n dd_102_15, mn_ild _ _⟩
theorem vd_102_16 (E : ac_E) : ac_V E ac_MDf ac_HDf 102 16 (.inl (o_eq0 41 19)) := ⟨ok_ifeq dd_102_16 (by decide), mn_eq0 _ _⟩
theorem vd_102_19 (E : ac_E) : ac_V E ac_MDf ac_HDf 102 19 (.inl (o_ald 0 20)) := ⟨ok_aload_n dd_102_19, mn_ald _ _⟩
theorem vd_102_20 (E : ac_E) : ac_V E ac_MDf ac_HDf 102 20 (.inl (o_get 5 6 23)) := ⟨ok_getf (ci := 5) (f := 6) (C := RX5) (T := TX5) (N := 17) (ref := RX5) rfl win_5 (by decide) rfl wm_644 dd_102_20, mn_get _ _ _⟩
theorem vd_102_23 (E : ac_E) : ac_V E ac_MDf ac_HDf 102 23 (.inl (o_ild 3 24)) := ⟨ok_iload_n dd_102_23, mn_ild _ _⟩
theorem vd_102_24 (E : ac_E) : ac_V E ac_MDf ac_HDf 102 24 (.inl (o_ia 25)) := ⟨ok_iaload dd_102_24, mn_ia _⟩
theorem vd_102_25 (E : ac_E) : ac_V E ac_MDf ac_HDf 102 25 (.inl (o_con (.int 4) 26)) := ⟨ok_iconst dd_102_25 (by decide), mn_con _ _⟩
theorem vd_102_26 (E : ac_E) : ac_V E ac_MDf ac_HDf 102 26 (.inl (o_ne 62 29)) := ⟨ok_icmpne dd_102_26 (by decide), mn_ne _ _⟩
theorem vd_102_29 (E : ac_E) : ac_V E ac_MDf ac_HDf 102 29 (.inl (o_ald 0 30)) := ⟨ok_aload_n dd_102_29, mn_ald _ _⟩
theorem vd_102_30 (E : ac_E) : ac_V E ac_MDf ac_HDf 102 30 (.inl (o_get 5 9 33)) := ⟨ok_getf (ci := 5) (f := 9) (C := RX5) (T := TX5) (N := 17) (ref := RX5) rfl win_5 (by decide) rfl wm_647 dd_102_30, mn_get _ _ _⟩
theorem vd_102_33 (E : ac_E) : ac_V E ac_MDf ac_HDf 102 33 (.inl (o_ild 3 34)) := ⟨ok_iload_n dd_102_33, mn_ild _ _⟩
theorem vd_102_34 (E : ac_E) : ac_V E ac_MDf ac_HDf 102 34 (.inl (o_za 35)) := ⟨ok_zaload dd_102_34, mn_za _⟩
theorem vd_102_35 (E : ac_E) : ac_V E ac_MDf ac_HDf 102 35 (.inl (o_ne0 62 38)) := ⟨ok_ifne dd_102_35 (by decide), mn_ne0 _ _⟩
theorem vd_102_38 (E : ac_E) : ac_V E ac_MDf ac_HDf 102 38 (.inl (o_go 60)) := ⟨ok_goto dd_102_38 (by decide), mn_go _⟩
theorem vd_102_41 (E : ac_E) : ac_V E ac_MDf ac_HDf 102 41 (.inl (o_ald 0 42)) := ⟨ok_aload_n dd_102_41, mn_ald _ _⟩
theorem vd_102_42 (E : ac_E) : ac_V E ac_MDf ac_HDf 102 42 (.inl (o_get 5 6 45)) := ⟨ok_getf (ci := 5) (f := 6) (C := RX5) (T := TX5) (N := 17) (ref := RX5) rfl win_5 (by decide) rfl wm_644 dd_102_42, mn_get _ _ _⟩
theorem vd_102_45 (E : ac_E) : ac_V E ac_MDf ac_HDf 102 45 (.inl (o_ild 3 46)) := ⟨ok_iload_n dd_102_45, mn_ild _ _⟩
theorem vd_102_46 (E : ac_E) : ac_V E ac_MDf ac_HDf 102 46 (.inl (o_ia 47)) := ⟨ok_iaload dd_102_46, mn_ia _⟩
theorem vd_102_47 (E : ac_E) : ac_V E ac_MDf ac_HDf 102 47 (.inl (o_con (.int 4) 48)) := ⟨ok_iconst dd_102_47 (by decide), mn_con _ _⟩
theorem vd_102_48 (E : ac_E) : ac_V E ac_MDf ac_HDf 102 48 (.inl (o_eq 62 51)) := ⟨ok_icmpeq dd_102_48 (by decide), mn_eq _ _⟩
theorem vd_102_51 (E : ac_E) : ac_V E ac_MDf ac_HDf 102 51 (.inl (o_ald 0 52)) := ⟨ok_aload_n dd_102_51, mn_ald _ _⟩
theorem vd_102_52 (E : ac_E) : ac_V E ac_MDf ac_HDf 102 52 (.inl (o_get 5 9 55)) := ⟨ok_getf (ci := 5) (f := 9) (C := RX5) (T := TX5) (N := 17) (ref := RX5) rfl win_5 (by decide) rfl wm_647 dd_102_52, mn_get _ _ _⟩
theorem vd_102_55 (E : ac_E) : ac_V E ac_MDf ac_HDf 102 55 (.inl (o_ild 3 56)) := ⟨ok_iload_n dd_102_55, mn_ild _ _⟩
theorem vd_102_56 (E : ac_E) : ac_V E ac_MDf ac_HDf 102 56 (.inl (o_za 57)) := ⟨ok_zaload dd_102_56, mn_za _⟩
theorem vd_102_57 (E : ac_E) : ac_V E ac_MDf ac_HDf 102 57 (.inl (o_eq0 62 60)) := ⟨ok_ifeq dd_102_57 (by decide), mn_eq0 _ _⟩
theorem vd_102_60 (E : ac_E) : ac_V E ac_MDf ac_HDf 102 60 (.inl (o_ild 3 61)) := ⟨ok_iload_n dd_102_60, mn_ild _ _⟩
theorem vd_102_61 (E : ac_E) : ac_V E ac_MDf ac_HDf 102 61 (.inr (.inr (.inl 1))) := ⟨fun q => nomatch q, fun _ => ⟨dd_102_61, rfl⟩, fun q => nomatch q⟩
theorem vd_102_62 (E : ac_E) : ac_V E ac_MDf ac_HDf 102 62 (.inl (o_inc 3 1 65)) := ⟨ok_iinc dd_102_62 (by decide), mn_inc _ _ _⟩
theorem vd_102_65 (E : ac_E) : ac_V E ac_MDf ac_HDf 102 65 (.inl (o_go 2)) := ⟨ok_goto dd_102_65 (by decide), mn_go _⟩
theorem vd_102_68 (E : ac_E) : ac_V E ac_MDf ac_HDf 102 68 (.inl (o_con (.int (-1)) 69)) := ⟨ok_iconst dd_102_68 (by decide), mn_con _ _⟩
theorem vd_102_69 (E : ac_E) : ac_V E ac_MDf ac_HDf 102 69 (.inr (.inr (.inl 1))) := ⟨fun q => nomatch q, fun _ => ⟨dd_102_69, rfl⟩, fun q => nomatch q⟩
theorem va_102 (E : ac_E) (pc : Nat) : ac_V E ac_MDf ac_HDf 102 pc (tb_102 (ac_len E) (ac_xs E) pc) := (ac_node (ac_node (ac_node (ac_node (ac_node (ac_leaf 0 (vd_102_0 E)) (ac_leaf 1 (vd_102_1 E))) (ac_node (ac_leaf 2 (vd_102_2 E)) (ac_node (ac_leaf 3 (vd_102_3 E)) (ac_leaf 4 (vd_102_4 E))))) (ac_node (ac_node (ac_leaf 7 (vd_102_7 E)) (ac_leaf 8 (vd_102_8 E))) (ac_node (ac_leaf 11 (vd_102_11 E)) (ac_node (ac_leaf 12 (vd_102_12 E)) (ac_leaf 15 (vd_102_15 E)))))) (ac_node (ac_node (ac_node (ac_leaf 16 (vd_102_16 E)) (ac_leaf 19 (vd_102_19 E))) (ac_node (ac_leaf 20 (vd_102_20 E)) (ac_node (ac_leaf 23 (vd_102_23 E)) (ac_leaf 24 (vd_102_24 E))))) (ac_node (ac_node (ac_leaf 25 (vd_102_25 E)) (ac_leaf 26 (vd_102_26 E))) (ac_node (ac_leaf 29 (vd_102_29 E)) (ac_node (ac_leaf 30 (vd_102_30 E)) (ac_leaf 33 (vd_102_33 E))))))) (ac_node (ac_node (ac_node (ac_node (ac_leaf 34 (vd_102_34 E)) (ac_leaf 35 (vd_102_35 E))) (ac_node (ac_leaf 38 (vd_102_38 E)) (ac_node (ac_leaf 41 (vd_102_41 E)) (ac_leaf 42 (vd_102_42 E))))) (ac_node (ac_node (ac_leaf 45 (vd_102_45 E)) (ac_leaf 46 (vd_102_46 E))) (ac_node (ac_leaf 47 (vd_102_47 E)) (ac_node (ac_leaf 48 (vd_102_48 E)) (ac_leaf 51 (vd_102_51 E)))))) (ac_node (ac_node (ac_node (ac_leaf 52 (vd_102_52 E)) (ac_leaf 55 (vd_102_55 E))) (ac_node (ac_leaf 56 (vd_102_56 E)) (ac_node (ac_leaf 57 (vd_102_57 E)) (ac_leaf 60 (vd_102_60 E))))) (ac_node (ac_node (ac_leaf 61 (vd_102_61 E)) (ac_leaf 62 (vd_102_62 E))) (ac_node (ac_leaf 65 (vd_102_65 E)) (ac_node (ac_leaf 68 (vd_102_68 E)) (ac_leaf 69 (vd_102_69 E))))))))
theorem vd_103_0 (E : ac_E) : ac_V E ac_MDf ac_HDf 103 0 (.inl (o_con (.int 0) 1)) := ⟨ok_iconst dd_103_0 (by decide), mn_con _ _⟩
theorem vd_103_1 (E : ac_E) : ac_V E ac_MDf ac_HDf 103 1 (.inl (o_ist 1 2)) := ⟨ok_istore_n dd_103_1, mn_ist _ _⟩
theorem vd_103_2 (E : ac_E) : ac_V E ac_MDf ac_HDf 103 2 (.inl (o_ild 1 3)) := ⟨ok_iload_n dd_103_2, mn_ild _ _⟩
theorem vd_103_3 (E : ac_E) : ac_V E ac_MDf ac_HDf 103 3 (.inl (o_con (.int 6) 5)) := ⟨ok_bipush dd_103_3 (by decide), mn_con _ _⟩
theorem vd_103_5 (E : ac_E) : ac_V E ac_MDf ac_HDf 103 5 (.inl (o_ge 28 8)) := ⟨ok_icmpge dd_103_5 (by decide), mn_ge _ _⟩
theorem vd_103_8 (E : ac_E) : ac_V E ac_MDf ac_HDf 103 8 (.inl (o_ald 0 9)) := ⟨ok_aload_n dd_103_8, mn_ald _ _⟩
theorem vd_103_9 (E : ac_E) : ac_V E ac_MDf ac_HDf 103 9 (.inl (o_ild 1 10)) := ⟨ok_iload_n dd_103_9, mn_ild _ _⟩
theorem vd_103_10 (E : ac_E) : ac_V E ac_MDf ac_HDf 103 10 (.inr (.inl (100,2,13,7))) := ac_Vc0 ((ok_callV (T := TX5) (N := 17) rfl rfl (by decide) (by decide +kernel) wm_824 wm_56 wm_821 wm_823 wm_45 dd_103_10).1) (fun _ => rfl)
theorem vd_103_13 (E : ac_E) : ac_V E ac_MDf ac_HDf 103 13 (.inl (o_con (.int 2) 14)) := ⟨ok_iconst dd_103_13 (by decide), mn_con _ _⟩
theorem vd_103_14 (E : ac_E) : ac_V E ac_MDf ac_HDf 103 14 (.inl (o_ald 0 15)) := ⟨ok_aload_n dd_103_14, mn_ald _ _⟩
theorem vd_103_15 (E : ac_E) : ac_V E ac_MDf ac_HDf 103 15 (.inl (o_get 5 11 18)) := ⟨ok_getf (ci := 5) (f := 11) (C := RX5) (T := TX5) (N := 17) (ref := RX5) rfl win_5 (by decide) rfl wm_649 dd_103_15, mn_get _ _ _⟩
theorem vd_103_18 (E : ac_E) : ac_V E ac_MDf ac_HDf 103 18 (.inl (o_mul 19)) := ⟨ok_imul dd_103_18, mn_mul _⟩
theorem vd_103_19 (E : ac_E) : ac_V E ac_MDf ac_HDf 103 19 (.inl (o_ge 28 22)) := ⟨ok_icmpge dd_103_19 (by decide), mn_ge _ _⟩
theorem vd_103_22 (E : ac_E) : ac_V E ac_MDf ac_HDf 103 22 (.inl (o_inc 1 1 25)) := ⟨ok_iinc dd_103_22 (by decide), mn_inc _ _ _⟩
theorem vd_103_25 (E : ac_E) : ac_V E ac_MDf ac_HDf 103 25 (.inl (o_go 2)) := ⟨ok_goto dd_103_25 (by decide), mn_go _⟩
theorem vd_103_28 (E : ac_E) : ac_V E ac_MDf ac_HDf 103 28 (.inl (o_ild 1 29)) := ⟨ok_iload_n dd_103_28, mn_ild _ _⟩
theorem vd_103_29 (E : ac_E) : ac_V E ac_MDf ac_HDf 103 29 (.inl (o_con (.int 6) 31)) := ⟨ok_bipush dd_103_29 (by decide), mn_con _ _⟩
theorem vd_103_31 (E : ac_E) : ac_V E ac_MDf ac_HDf 103 31 (.inl (o_eq 42 34)) := ⟨ok_icmpeq dd_103_31 (by decide), mn_eq _ _⟩
theorem vd_103_34 (E : ac_E) : ac_V E ac_MDf ac_HDf 103 34 (.inl (o_ald 0 35)) := ⟨ok_aload_n dd_103_34, mn_ald _ _⟩
theorem vd_103_35 (E : ac_E) : ac_V E ac_MDf ac_HDf 103 35 (.inl (o_con (.int 4) 36)) := ⟨ok_iconst dd_103_35 (by decide), mn_con _ _⟩
theorem vd_103_36 (E : ac_E) : ac_V E ac_MDf ac_HDf 103 36 (.inr (.inl (99,2,39,7))) := ac_Vc0 ((ok_callV (T := TX5) (N := 17) rfl rfl (by decide) (by decide +kernel) wm_828 wm_56 wm_825 wm_827 wm_46 dd_103_36).1) (fun _ => rfl)
theorem vd_103_39 (E : ac_E) : ac_V E ac_MDf ac_HDf 103 39 (.inl (o_ne0 43 42)) := ⟨ok_ifne dd_103_39 (by decide), mn_ne0 _ _⟩
theorem vd_103_42 (E : ac_E) : ac_V E ac_MDf ac_HDf 103 42 (.inr (.inr (.inl 0))) := ⟨fun _ => ⟨dd_103_42, rfl⟩, fun q => nomatch q, fun q => nomatch q⟩
theorem vd_103_43 (E : ac_E) : ac_V E ac_MDf ac_HDf 103 43 (.inl (o_con (.int 1) 44)) := ⟨ok_iconst dd_103_43 (by decide), mn_con _ _⟩
theorem vd_103_44 (E : ac_E) : ac_V E ac_MDf ac_HDf 103 44 (.inl (o_ist 2 45)) := ⟨ok_istore_n dd_103_44, mn_ist _ _⟩
theorem vd_103_45 (E : ac_E) : ac_V E ac_MDf ac_HDf 103 45 (.inl (o_con (.int 0) 46)) := ⟨ok_iconst dd_103_45 (by decide), mn_con _ _⟩
theorem vd_103_46 (E : ac_E) : ac_V E ac_MDf ac_HDf 103 46 (.inl (o_ist 3 47)) := ⟨ok_istore_n dd_103_46, mn_ist _ _⟩
theorem vd_103_47 (E : ac_E) : ac_V E ac_MDf ac_HDf 103 47 (.inl (o_ild 3 48)) := ⟨ok_iload_n dd_103_47, mn_ild _ _⟩
theorem vd_103_48 (E : ac_E) : ac_V E ac_MDf ac_HDf 103 48 (.inl (o_ald 0 49)) := ⟨ok_aload_n dd_103_48, mn_ald _ _⟩
theorem vd_103_49 (E : ac_E) : ac_V E ac_MDf ac_HDf 103 49 (.inl (o_get 5 1 52)) := ⟨ok_getf (ci := 5) (f := 1) (C := RX5) (T := TX5) (N := 17) (ref := RX5) rfl win_5 (by decide) rfl wm_639 dd_103_49, mn_get _ _ _⟩
theorem vd_103_52 (E : ac_E) : ac_V E ac_MDf ac_HDf 103 52 (.inl (o_ald 0 53)) := ⟨ok_aload_n dd_103_52, mn_ald _ _⟩
theorem vd_103_53 (E : ac_E) : ac_V E ac_MDf ac_HDf 103 53 (.inl (o_get 5 2 56)) := ⟨ok_getf (ci := 5) (f := 2) (C := RX5) (T := TX5) (N := 17) (ref := RX5) rfl win_5 (by decide) rfl wm_640 dd_103_53, mn_get _ _ _⟩
theorem vd_103_56 (E : ac_E) : ac_V E ac_MDf ac_HDf 103 56 (.inl (o_mul 57)) := ⟨ok_imul dd_103_56, mn_mul _⟩
theorem vd_103_57 (E : ac_E) : ac_V E ac_MDf ac_HDf 103 57 (.inl (o_ge 73 60)) := ⟨ok_icmpge dd_103_57 (by decide), mn_ge _ _⟩
theorem vd_103_60 (E : ac_E) : ac_V E ac_MDf ac_HDf 103 60 (.inl (o_ald 0 61)) := ⟨ok_aload_n dd_103_60, mn_ald _ _⟩
theorem vd_103_61 (E : ac_E) : ac_V E ac_MDf ac_HDf 103 61 (.inl (o_get 5 9 64)) := ⟨ok_getf (ci := 5) (f := 9) (C := RX5) (T := TX5) (N := 17) (ref := RX5) rfl win_5 (by decide) rfl wm_647 dd_103_61, mn_get _ _ _⟩
theorem vd_103_64 (E : ac_E) : ac_V E ac_MDf ac_HDf 103 64 (.inl (o_ild 3 65)) := ⟨ok_iload_n dd_103_64, mn_ild _ _⟩
theorem vd_103_65 (E : ac_E) : ac_V E ac_MDf ac_HDf 103 65 (.inl (o_con (.int 0) 66)) := ⟨ok_iconst dd_103_65 (by decide), mn_con _ _⟩
theorem vd_103_66 (E : ac_E) : ac_V E ac_MDf ac_HDf 103 66 (.inl (o_zs 67)) := ⟨ok_zastore dd_103_66, mn_zs _⟩
theorem vd_103_67 (E : ac_E) : ac_V E ac_MDf ac_HDf 103 67 (.inl (o_inc 3 1 70)) := ⟨ok_iinc dd_103_67 (by decide), mn_inc _ _ _⟩
theorem vd_103_70 (E : ac_E) : ac_V E ac_MDf ac_HDf 103 70 (.inl (o_go 47)) := ⟨ok_goto dd_103_70 (by decide), mn_go _⟩
theorem vd_103_73 (E : ac_E) : ac_V E ac_MDf ac_HDf 103 73 (.inl (o_con (.int 0) 74)) := ⟨ok_iconst dd_103_73 (by decide), mn_con _ _⟩
theorem vd_103_74 (E : ac_E) : ac_V E ac_MDf ac_HDf 103 74 (.inl (o_ist 3 75)) := ⟨ok_istore_n dd_103_74, mn_ist _ _⟩
theorem vd_103_75 (E : ac_E) : ac_V E ac_MDf ac_HDf 103 75 (.inl (o_ild 3 76)) := ⟨ok_iload_n dd_103_75, mn_ild _ _⟩
theorem vd_103_76 (E : ac_E) : ac_V E ac_MDf ac_HDf 103 76 (.inl (o_ald 0 77)) := ⟨ok_aload_n dd_103_76, mn_ald _ _⟩
theorem vd_103_77 (E : ac_E) : ac_V E ac_MDf ac_HDf 103 77 (.inl (o_get 5 1 80)) := ⟨ok_getf (ci := 5) (f := 1) (C := RX5) (T := TX5) (N := 17) (ref := RX5) rfl win_5 (by decide) rfl wm_639 dd_103_77, mn_get _ _ _⟩
theorem vd_103_80 (E : ac_E) : ac_V E ac_MDf ac_HDf 103 80 (.inl (o_ald 0 81)) := ⟨ok_aload_n dd_103_80, mn_ald _ _⟩
theorem vd_103_81 (E : ac_E) : ac_V E ac_MDf ac_HDf 103 81 (.inl (o_get 5 2 84)) := ⟨ok_getf (ci := 5) (f := 2) (C := RX5) (T := TX5) (N := 17) (ref := RX5) rfl win_5 (by decide) rfl wm_640 dd_103_81, mn_get _ _ _⟩
theorem vd_103_84 (E : ac_E) : ac_V E ac_MDf ac_HDf 103 84 (.inl (o_mul 85)) := ⟨ok_imul dd_103_84, mn_mul _⟩
theorem vd_103_85 (E : ac_E) : ac_V E ac_MDf ac_HDf 103 85 (.inl (o_ge 140 88)) := ⟨ok_icmpge dd_103_85 (by decide), mn_ge _ _⟩
theorem vd_103_88 (E : ac_E) : ac_V E ac_MDf ac_HDf 103 88 (.inl (o_ald 0 89)) := ⟨ok_aload_n dd_103_88, mn_ald _ _⟩
theorem vd_103_89 (E : ac_E) : ac_V E ac_MDf ac_HDf 103 89 (.inl (o_get 5 6 92)) := ⟨ok_getf (ci := 5) (f := 6) (C := RX5) (T := TX5) (N := 17) (ref := RX5) rfl win_5 (by decide) rfl wm_644 dd_103_89, mn_get _ _ _⟩
theorem vd_103_92 (E : ac_E) : ac_V E ac_MDf ac_HDf 103 92 (.inl (o_ild 3 93)) := ⟨ok_iload_n dd_103_92, mn_ild _ _⟩
theorem vd_103_93 (E : ac_E) : ac_V E ac_MDf ac_HDf 103 93 (.inl (o_ia 94)) := ⟨ok_iaload dd_103_93, mn_ia _⟩
theorem vd_103_94 (E : ac_E) : ac_V E ac_MDf ac_HDf 103 94 (.inl (o_con (.int 4) 95)) := ⟨ok_iconst dd_103_94 (by decide), mn_con _ _⟩
theorem vd_103_95 (E : ac_E) : ac_V E ac_MDf ac_HDf 103 95 (.inl (o_ne 134 98)) := ⟨ok_icmpne dd_103_95 (by decide), mn_ne _ _⟩
theorem vd_103_98 (E : ac_E) : ac_V E ac_MDf ac_HDf 103 98 (.inl (o_ald 0 99)) := ⟨ok_aload_n dd_103_98, mn_ald _ _⟩
theorem vd_103_99 (E : ac_E) : ac_V E ac_MDf ac_HDf 103 99 (.inl (o_get 5 9 102)) := ⟨ok_getf (ci := 5) (f := 9) (C := RX5) (T := TX5) (N := 17) (ref := RX5) rfl win_5 (by decide) rfl wm_647 dd_103_99, mn_get _ _ _⟩
theorem vd_103_102 (E : ac_E) : ac_V E ac_MDf ac_HDf 103 102 (.inl (o_ald 0 103)) := ⟨ok_aload_n dd_103_102, mn_ald _ _⟩
theorem vd_103_103 (E : ac_E) : ac_V E ac_MDf ac_HDf 103 103 (.inl (o_ild 3 104)) := ⟨ok_iload_n dd_103_103, mn_ild _ _⟩
theorem vd_103_104 (E : ac_E) : ac_V E ac_MDf ac_HDf 103 104 (.inl (o_ild 1 105)) := ⟨ok_iload_n dd_103_104, mn_ild _ _⟩
theorem vd_103_105 (E : ac_E) : ac_V E ac_MDf ac_HDf 103 105 (.inr (.inl (89,3,108,7))) := ac_Vc0 ((ok_callV (T := TX5) (N := 17) rfl rfl (by decide) (by decide +kernel) wm_792 wm_56 wm_789 wm_791 wm_38 dd_103_105).1) (fun _ => rfl)
theorem vd_103_108 (E : ac_E) : ac_V E ac_MDf ac_HDf 103 108 (.inl (o_con (.int 1) 109)) := ⟨ok_iconst dd_103_108 (by decide), mn_con _ _⟩
theorem vd_103_109 (E : ac_E) : ac_V E ac_MDf ac_HDf 103 109 (.inl (o_zs 110)) := ⟨ok_zastore dd_103_109, mn_zs _⟩
theorem vd_103_110 (E : ac_E) : ac_V E ac_MDf ac_HDf 103 110 (.inl (o_ild 2 111)) := ⟨ok_iload_n dd_103_110, mn_ild _ _⟩
theorem vd_103_111 (E : ac_E) : ac_V E ac_MDf ac_HDf 103 111 (.inl (o_eq0 132 114)) := ⟨ok_ifeq dd_103_111 (by decide), mn_eq0 _ _⟩
theorem vd_103_114 (E : ac_E) : ac_V E ac_MDf ac_HDf 103 114 (.inl (o_ald 0 115)) := ⟨ok_aload_n dd_103_114, mn_ald _ _⟩
theorem vd_103_115 (E : ac_E) : ac_V E ac_MDf ac_HDf 103 115 (.inl (o_ald 0 116)) := ⟨ok_aload_n dd_103_115, mn_ald _ _⟩
theorem vd_103_116 (E : ac_E) : ac_V E ac_MDf ac_HDf 103 116 (.inl (o_ild 3 117)) := ⟨ok_iload_n dd_103_116, mn_ild _ _⟩
theorem vd_103_117 (E : ac_E) : ac_V E ac_MDf ac_HDf 103 117 (.inl (o_ild 1 118)) := ⟨ok_iload_n dd_103_117, mn_ild _ _⟩
theorem vd_103_118 (E : ac_E) : ac_V E ac_MDf ac_HDf 103 118 (.inr (.inl (89,3,121,7))) := ac_Vc0 ((ok_callV (T := TX5) (N := 17) rfl rfl (by decide) (by decide +kernel) wm_792 wm_56 wm_789 wm_791 wm_38 dd_103_118).1) (fun _ => rfl)
theorem vd_103_121 (E : ac_E) : ac_V E ac_MDf ac_HDf 103 121 (.inl (o_con (.int 4) 122)) := ⟨ok_iconst dd_103_121 (by decide), mn_con _ _⟩
theorem vd_103_122 (E : ac_E) : ac_V E ac_MDf ac_HDf 103 122 (.inr (.inl (79,3,125,7))) := ac_Vc0 ((ok_callV (T := TX5) (N := 17) rfl rfl (by decide) (by decide +kernel) wm_731 wm_56 wm_728 wm_730 wm_33 dd_103_122).1) (fun _ => rfl)
theorem vd_103_125 (E : ac_E) : ac_V E ac_MDf ac_HDf 103 125 (.inl (o_ne0 132 128)) := ⟨ok_ifne dd_103_125 (by decide), mn_ne0 _ _⟩
theorem vd_103_128 (E : ac_E) : ac_V E ac_MDf ac_HDf 103 128 (.inl (o_con (.int 1) 129)) := ⟨ok_iconst dd_103_128 (by decide), mn_con _ _⟩
theorem vd_103_129 (E : ac_E) : ac_V E ac_MDf ac_HDf 103 129 (.inl (o_go 133)) := ⟨ok_goto dd_103_129 (by decide), mn_go _⟩
theorem vd_103_132 (E : ac_E) : ac_V E ac_MDf ac_HDf 103 132 (.inl (o_con (.int 0) 133)) := ⟨ok_iconst dd_103_132 (by decide), mn_con _ _⟩
theorem vd_103_133 (E : ac_E) : ac_V E ac_MDf ac_HDf 103 133 (.inl (o_ist 2 134)) := ⟨ok_istore_n dd_103_133, mn_ist _ _⟩
theorem vd_103_134 (E : ac_E) : ac_V E ac_MDf ac_HDf 103 134 (.inl (o_inc 3 1 137)) := ⟨ok_iinc dd_103_134 (by decide), mn_inc _ _ _⟩
theorem vd_103_137 (E : ac_E) : ac_V E ac_MDf ac_HDf 103 137 (.inl (o_go 75)) := ⟨ok_goto dd_103_137 (by decide), mn_go _⟩
theorem vd_103_140 (E : ac_E) : ac_V E ac_MDf ac_HDf 103 140 (.inl (o_ild 2 141)) := ⟨ok_iload_n dd_103_140, mn_ild _ _⟩
theorem vd_103_141 (E : ac_E) : ac_V E ac_MDf ac_HDf 103 141 (.inl (o_ne0 145 144)) := ⟨ok_ifne dd_103_141 (by decide), mn_ne0 _ _⟩
theorem vd_103_144 (E : ac_E) : ac_V E ac_MDf ac_HDf 103 144 (.inr (.inr (.inl 0))) := ⟨fun _ => ⟨dd_103_144, rfl⟩, fun q => nomatch q, fun q => nomatch q⟩
theorem vd_103_145 (E : ac_E) : ac_V E ac_MDf ac_HDf 103 145 (.inl (o_ald 0 146)) := ⟨ok_aload_n dd_103_145, mn_ald _ _⟩
theorem vd_103_146 (E : ac_E) : ac_V E ac_MDf ac_HDf 103 146 (.inl (o_con (.int 0) 147)) := ⟨ok_iconst dd_103_146 (by decide), mn_con _ _⟩
theorem vd_103_147 (E : ac_E) : ac_V E ac_MDf ac_HDf 103 147 (.inl (o_con (.int 0) 148)) := ⟨ok_iconst dd_103_147 (by decide), mn_con _ _⟩
theorem vd_103_148 (E : ac_E) : ac_V E ac_MDf ac_HDf 103 148 (.inr (.inl (102,3,151,7))) := ac_Vc0 ((ok_callV (T := TX5) (N := 17) rfl rfl (by decide) (by decide +kernel) wm_832 wm_56 wm_829 wm_831 wm_47 dd_103_148).1) (fun _ => rfl)
theorem vd_103_151 (E : ac_E) : ac_V E ac_MDf ac_HDf 103 151 (.inl (o_ist 3 152)) := ⟨ok_istore_n dd_103_151, mn_ist _ _⟩
theorem vd_103_152 (E : ac_E) : ac_V E ac_MDf ac_HDf 103 152 (.inl (o_ald 0 153)) := ⟨ok_aload_n dd_103_152, mn_ald _ _⟩
theorem vd_103_153 (E : ac_E) : ac_V E ac_MDf ac_HDf 103 153 (.inl (o_con (.int 0) 154)) := ⟨ok_iconst dd_103_153 (by decide), mn_con _ _⟩
theorem vd_103_154 (E : ac_E) : ac_V E ac_MDf ac_HDf 103 154 (.inl (o_con (.int 1) 155)) := ⟨ok_iconst dd_103_154 (by decide), mn_con _ _⟩
theorem vd_103_155 (E : ac_E) : ac_V E ac_MDf ac_HDf 103 155 (.inr (.inl (102,3,158,7))) := ac_Vc0 ((ok_callV (T := TX5) (N := 17) rfl rfl (by decide) (by decide +kernel) wm_832 wm_56 wm_829 wm_831 wm_47 dd_103_155).1) (fun _ => rfl)
theorem vd_103_158 (E : ac_E) : ac_V E ac_MDf ac_HDf 103 158 (.inl (o_ist 4 160)) := ⟨ok_istore dd_103_158, mn_ist _ _⟩
theorem vd_103_160 (E : ac_E) : ac_V E ac_MDf ac_HDf 103 160 (.inl (o_ild 3 161)) := ⟨ok_iload_n dd_103_160, mn_ild _ _⟩
theorem vd_103_161 (E : ac_E) : ac_V E ac_MDf ac_HDf 103 161 (.inl (o_lt0 194 164)) := ⟨ok_iflt dd_103_161 (by decide), mn_lt0 _ _⟩
theorem vd_103_164 (E : ac_E) : ac_V E ac_MDf ac_HDf 103 164 (.inl (o_ald 0 165)) := ⟨ok_aload_n dd_103_164, mn_ald _ _⟩
theorem vd_103_165 (E : ac_E) : ac_V E ac_MDf ac_HDf 103 165 (.inl (o_ild 3 166)) := ⟨ok_iload_n dd_103_165, mn_ild _ _⟩
theorem vd_103_166 (E : ac_E) : ac_V E ac_MDf ac_HDf 103 166 (.inl (o_ild 4 168)) := ⟨ok_iload dd_103_166, mn_ild _ _⟩
theorem vd_103_168 (E : ac_E) : ac_V E ac_MDf ac_HDf 103 168 (.inr (.inl (101,3,171,7))) := ac_Vc0 ((ok_callV (T := TX5) (N := 17) rfl rfl (by decide) (by decide +kernel) wm_836 wm_56 wm_833 wm_835 wm_48 dd_103_168).1) (fun _ => rfl)
theorem vd_103_171 (E : ac_E) : ac_V E ac_MDf ac_HDf 103 171 (.inl (o_ald 0 172)) := ⟨ok_aload_n dd_103_171, mn_ald _ _⟩
theorem vd_103_172 (E : ac_E) : ac_V E ac_MDf ac_HDf 103 172 (.inl (o_ild 3 173)) := ⟨ok_iload_n dd_103_172, mn_ild _ _⟩
theorem vd_103_173 (E : ac_E) : ac_V E ac_MDf ac_HDf 103 173 (.inl (o_con (.int 1) 174)) := ⟨ok_iconst dd_103_173 (by decide), mn_con _ _⟩
theorem vd_103_174 (E : ac_E) : ac_V E ac_MDf ac_HDf 103 174 (.inl (o_add 175)) := ⟨ok_iadd dd_103_174, mn_add _⟩
theorem vd_103_175 (E : ac_E) : ac_V E ac_MDf ac_HDf 103 175 (.inl (o_con (.int 0) 176)) := ⟨ok_iconst dd_103_175 (by decide), mn_con _ _⟩
theorem vd_103_176 (E : ac_E) : ac_V E ac_MDf ac_HDf 103 176 (.inr (.inl (102,3,179,7))) := ac_Vc0 ((ok_callV (T := TX5) (N := 17) rfl rfl (by decide) (by decide +kernel) wm_832 wm_56 wm_829 wm_831 wm_47 dd_103_176).1) (fun _ => rfl)
theorem vd_103_179 (E : ac_E) : ac_V E ac_MDf ac_HDf 103 179 (.inl (o_ist 3 180)) := ⟨ok_istore_n dd_103_179, mn_ist _ _⟩
theorem vd_103_180 (E : ac_E) : ac_V E ac_MDf ac_HDf 103 180 (.inl (o_ald 0 181)) := ⟨ok_aload_n dd_103_180, mn_ald _ _⟩
theorem vd_103_181 (E : ac_E) : ac_V E ac_MDf ac_HDf 103 181 (.inl (o_ild 4 183)) := ⟨ok_iload dd_103_181, mn_ild _ _⟩
theorem vd_103_183 (E : ac_E) : ac_V E ac_MDf ac_HDf 103 183 (.inl (o_con (.int 1) 184)) := ⟨ok_iconst dd_103_183 (by decide), mn_con _ _⟩
theorem vd_103_184 (E : ac_E) : ac_V E ac_MDf ac_HDf 103 184 (.inl (o_add 185)) := ⟨ok_iadd dd_103_184, mn_add _⟩
theorem vd_103_185 (E : ac_E) : ac_V E ac_MDf ac_HDf 103 185 (.inl (o_con (.int 1) 186)) := ⟨ok_iconst dd_103_185 (by decide), mn_con _ _⟩
theorem vd_103_186 (E : ac_E) : ac_V E ac_MDf ac_HDf 103 186 (.inr (.inl (102,3,189,7))) := ac_Vc0 ((ok_callV (T := TX5) (N := 17) rfl rfl (by decide) (by decide +kernel) wm_832 wm_56 wm_829 wm_831 wm_47 dd_103_186).1) (fun _ => rfl)
theorem vd_103_189 (E : ac_E) : ac_V E ac_MDf ac_HDf 103 189 (.inl (o_ist 4 191)) := ⟨ok_istore dd_103_189, mn_ist _ _⟩
theorem vd_103_191 (E : ac_E) : ac_V E ac_MDf ac_HDf 103 191 (.inl (o_go 160)) := ⟨ok_goto dd_103_191 (by decide), mn_go _⟩
theorem vd_103_194 (E : ac_E) : ac_V E ac_MDf ac_HDf 103 194 (.inl (o_con (.int 0) 195)) := ⟨ok_iconst dd_103_194 (by decide), mn_con _ _⟩
theorem vd_103_195 (E : ac_E) : ac_V E ac_MDf ac_HDf 103 195 (.inl (o_ist 5 197)) := ⟨ok_istore dd_103_195, mn_ist _ _⟩
theorem vd_103_197 (E : ac_E) : ac_V E ac_MDf ac_HDf 103 197 (.inl (o_ild 5 199)) := ⟨ok_iload dd_103_197, mn_ild _ _⟩
theorem vd_103_199 (E : ac_E) : ac_V E ac_MDf ac_HDf 103 199 (.inl (o_ald 0 200)) := ⟨ok_aload_n dd_103_199, mn_ald _ _⟩
theorem vd_103_200 (E : ac_E) : ac_V E ac_MDf ac_HDf 103 200 (.inl (o_get 5 1 203)) := ⟨ok_getf (ci := 5) (f := 1) (C := RX5) (T := TX5) (N := 17) (ref := RX5) rfl win_5 (by decide) rfl wm_639 dd_103_200, mn_get _ _ _⟩
theorem vd_103_203 (E : ac_E) : ac_V E ac_MDf ac_HDf 103 203 (.inl (o_ald 0 204)) := ⟨ok_aload_n dd_103_203, mn_ald _ _⟩
theorem vd_103_204 (E : ac_E) : ac_V E ac_MDf ac_HDf 103 204 (.inl (o_get 5 2 207)) := ⟨ok_getf (ci := 5) (f := 2) (C := RX5) (T := TX5) (N := 17) (ref := RX5) rfl win_5 (by decide) rfl wm_640 dd_103_204, mn_get _ _ _⟩
theorem vd_103_207 (E : ac_E) : ac_V E ac_MDf ac_HDf 103 207 (.inl (o_mul 208)) := ⟨ok_imul dd_103_207, mn_mul _⟩
theorem vd_103_208 (E : ac_E) : ac_V E ac_MDf ac_HDf 103 208 (.inl (o_ge 260 211)) := ⟨ok_icmpge dd_103_208 (by decide), mn_ge _ _⟩
theorem vd_103_211 (E : ac_E) : ac_V E ac_MDf ac_HDf 103 211 (.inl (o_ald 0 212)) := ⟨ok_aload_n dd_103_211, mn_ald _ _⟩
theorem vd_103_212 (E : ac_E) : ac_V E ac_MDf ac_HDf 103 212 (.inl (o_get 5 6 215)) := ⟨ok_getf (ci := 5) (f := 6) (C := RX5) (T := TX5) (N := 17) (ref := RX5) rfl win_5 (by decide) rfl wm_644 dd_103_212, mn_get _ _ _⟩
theorem vd_103_215 (E : ac_E) : ac_V E ac_MDf ac_HDf 103 215 (.inl (o_ild 5 217)) := ⟨ok_iload dd_103_215, mn_ild _ _⟩
theorem vd_103_217 (E : ac_E) : ac_V E ac_MDf ac_HDf 103 217 (.inl (o_ald 0 218)) := ⟨ok_aload_n dd_103_217, mn_ald _ _⟩
theorem vd_103_218 (E : ac_E) : ac_V E ac_MDf ac_HDf 103 218 (.inl (o_get 5 9 221)) := ⟨ok_getf (ci := 5) (f := 9) (C := RX5) (T := TX5) (N := 17) (ref := RX5) rfl win_5 (by decide) rfl wm_647 dd_103_218, mn_get _ _ _⟩
theorem vd_103_221 (E : ac_E) : ac_V E ac_MDf ac_HDf 103 221 (.inl (o_ild 5 223)) := ⟨ok_iload dd_103_221, mn_ild _ _⟩
theorem vd_103_223 (E : ac_E) : ac_V E ac_MDf ac_HDf 103 223 (.inl (o_za 224)) := ⟨ok_zaload dd_103_223, mn_za _⟩
theorem vd_103_224 (E : ac_E) : ac_V E ac_MDf ac_HDf 103 224 (.inl (o_eq0 231 227)) := ⟨ok_ifeq dd_103_224 (by decide), mn_eq0 _ _⟩
theorem vd_103_227 (E : ac_E) : ac_V E ac_MDf ac_HDf 103 227 (.inl (o_con (.int 4) 228)) := ⟨ok_iconst dd_103_227 (by decide), mn_con _ _⟩
theorem vd_103_228 (E : ac_E) : ac_V E ac_MDf ac_HDf 103 228 (.inl (o_go 253)) := ⟨ok_goto dd_103_228 (by decide), mn_go _⟩
theorem vd_103_231 (E : ac_E) : ac_V E ac_MDf ac_HDf 103 231 (.inl (o_ald 0 232)) := ⟨ok_aload_n dd_103_231, mn_ald _ _⟩
theorem vd_103_232 (E : ac_E) : ac_V E ac_MDf ac_HDf 103 232 (.inl (o_get 5 6 235)) := ⟨ok_getf (ci := 5) (f := 6) (C := RX5) (T := TX5) (N := 17) (ref := RX5) rfl win_5 (by decide) rfl wm_644 dd_103_232, mn_get _ _ _⟩
theorem vd_103_235 (E : ac_E) : ac_V E ac_MDf ac_HDf 103 235 (.inl (o_ild 5 237)) := ⟨ok_iload dd_103_235, mn_ild _ _⟩
theorem vd_103_237 (E : ac_E) : ac_V E ac_MDf ac_HDf 103 237 (.inl (o_ia 238)) := ⟨ok_iaload dd_103_237, mn_ia _⟩
theorem vd_103_238 (E : ac_E) : ac_V E ac_MDf ac_HDf 103 238 (.inl (o_con (.int 4) 239)) := ⟨ok_iconst dd_103_238 (by decide), mn_con _ _⟩
theorem vd_103_239 (E : ac_E) : ac_V E ac_MDf ac_HDf 103 239 (.inl (o_ne 246 242)) := ⟨ok_icmpne dd_103_239 (by decide), mn_ne _ _⟩
theorem vd_103_242 (E : ac_E) : ac_V E ac_MDf ac_HDf 103 242 (.inl (o_con (.int 0) 243)) := ⟨ok_iconst dd_103_242 (by decide), mn_con _ _⟩
theorem vd_103_243 (E : ac_E) : ac_V E ac_MDf ac_HDf 103 243 (.inl (o_go 253)) := ⟨ok_goto dd_103_243 (by decide), mn_go _⟩
theorem vd_103_246 (E : ac_E) : ac_V E ac_MDf ac_HDf 103 246 (.inl (o_ald 0 247)) := ⟨ok_aload_n dd_103_246, mn_ald _ _⟩
theorem vd_103_247 (E : ac_E) : ac_V E ac_MDf ac_HDf 103 247 (.inl (o_get 5 6 250)) := ⟨ok_getf (ci := 5) (f := 6) (C := RX5) (T := TX5) (N := 17) (ref := RX5) rfl win_5 (by decide) rfl wm_644 dd_103_247, mn_get _ _ _⟩
theorem vd_103_250 (E : ac_E) : ac_V E ac_MDf ac_HDf 103 250 (.inl (o_ild 5 252)) := ⟨ok_iload dd_103_250, mn_ild _ _⟩
theorem vd_103_252 (E : ac_E) : ac_V E ac_MDf ac_HDf 103 252 (.inl (o_ia 253)) := ⟨ok_iaload dd_103_252, mn_ia _⟩
theorem vd_103_253 (E : ac_E) : ac_V E ac_MDf ac_HDf 103 253 (.inl (o_is 254)) := ⟨ok_iastore dd_103_253, mn_is _⟩
theorem vd_103_254 (E : ac_E) : ac_V E ac_MDf ac_HDf 103 254 (.inl (o_inc 5 1 257)) := ⟨ok_iinc dd_103_254 (by decide), mn_inc _ _ _⟩
theorem vd_103_257 (E : ac_E) : ac_V E ac_MDf ac_HDf 103 257 (.inl (o_go 197)) := ⟨ok_goto dd_103_257 (by decide), mn_go _⟩
theorem vd_103_260 (E : ac_E) : ac_V E ac_MDf ac_HDf 103 260 (.inl (o_ald 0 261)) := ⟨ok_aload_n dd_103_260, mn_ald _ _⟩
theorem vd_103_261 (E : ac_E) : ac_V E ac_MDf ac_HDf 103 261 (.inl (o_get 5 12 264)) := ⟨ok_getf (ci := 5) (f := 12) (C := RX5) (T := TX5) (N := 17) (ref := RX5) rfl win_5 (by decide) rfl wm_650 dd_103_261, mn_get _ _ _⟩
theorem vd_103_264 (E : ac_E) : ac_V E ac_MDf ac_HDf 103 264 (.inl (o_con (.int 0) 265)) := ⟨ok_iconst dd_103_264 (by decide), mn_con _ _⟩
theorem vd_103_265 (E : ac_E) : ac_V E ac_MDf ac_HDf 103 265 (.inl (o_ald 0 266)) := ⟨ok_aload_n dd_103_265, mn_ald _ _⟩
theorem vd_103_266 (E : ac_E) : ac_V E ac_MDf ac_HDf 103 266 (.inl (o_get 5 12 269)) := ⟨ok_getf (ci := 5) (f := 12) (C := RX5) (T := TX5) (N := 17) (ref := RX5) rfl win_5 (by decide) rfl wm_650 dd_103_266, mn_get _ _ _⟩
theorem vd_103_269 (E : ac_E) : ac_V E ac_MDf ac_HDf 103 269 (.inl (o_con (.int 0) 270)) := ⟨ok_iconst dd_103_269 (by decide), mn_con _ _⟩
theorem vd_103_270 (E : ac_E) : ac_V E ac_MDf ac_HDf 103 270 (.inl (o_ia 271)) := ⟨ok_iaload dd_103_270, mn_ia _⟩
theorem vd_103_271 (E : ac_E) : ac_V E ac_MDf ac_HDf 103 271 (.inl (o_ald 0 272)) := ⟨ok_aload_n dd_103_271, mn_ald _ _⟩
theorem vd_103_272 (E : ac_E) : ac_V E ac_MDf ac_HDf 103 272 (.inl (o_get 5 11 275)) := ⟨ok_getf (ci := 5) (f := 11) (C := RX5) (T := TX5) (N := 17) (ref := RX5) rfl win_5 (by decide) rfl wm_649 dd_103_272, mn_get _ _ _⟩
theorem vd_103_275 (E : ac_E) : ac_V E ac_MDf ac_HDf 103 275 (.inl (o_ild 1 276)) := ⟨ok_iload_n dd_103_275, mn_ild _ _⟩
theorem vd_103_276 (E : ac_E) : ac_V E ac_MDf ac_HDf 103 276 (.inl (o_con (.int 0) 277)) := ⟨ok_iconst dd_103_276 (by decide), mn_con _ _⟩
theorem vd_103_277 (E : ac_E) : ac_V E ac_MDf ac_HDf 103 277 (.inr (.inl (69,2,280,0))) := ac_Vc0 ((ok_callS rfl (by decide) (by decide +kernel) wm_807 wm_56 wm_805 wm_806 dd_103_277).1) (fun _ => rfl)
theorem vd_103_280 (E : ac_E) : ac_V E ac_MDf ac_HDf 103 280 (.inl (o_mul 281)) := ⟨ok_imul dd_103_280, mn_mul _⟩
theorem vd_103_281 (E : ac_E) : ac_V E ac_MDf ac_HDf 103 281 (.inl (o_sub 282)) := ⟨ok_isub dd_103_281, mn_sub _⟩
theorem vd_103_282 (E : ac_E) : ac_V E ac_MDf ac_HDf 103 282 (.inl (o_is 283)) := ⟨ok_iastore dd_103_282, mn_is _⟩
theorem vd_103_283 (E : ac_E) : ac_V E ac_MDf ac_HDf 103 283 (.inl (o_ald 0 284)) := ⟨ok_aload_n dd_103_283, mn_ald _ _⟩
theorem vd_103_284 (E : ac_E) : ac_V E ac_MDf ac_HDf 103 284 (.inl (o_get 5 12 287)) := ⟨ok_getf (ci := 5) (f := 12) (C := RX5) (T := TX5) (N := 17) (ref := RX5) rfl win_5 (by decide) rfl wm_650 dd_103_284, mn_get _ _ _⟩
theorem vd_103_287 (E : ac_E) : ac_V E ac_MDf ac_HDf 103 287 (.inl (o_con (.int 1) 288)) := ⟨ok_iconst dd_103_287 (by decide), mn_con _ _⟩
theorem vd_103_288 (E : ac_E) : ac_V E ac_MDf ac_HDf 103 288 (.inl (o_ald 0 289)) := ⟨ok_aload_n dd_103_288, mn_ald _ _⟩
theorem vd_103_289 (E : ac_E) : ac_V E ac_MDf ac_HDf 103 289 (.inl (o_get 5 12 292)) := ⟨ok_getf (ci := 5) (f := 12) (C := RX5) (T := TX5) (N := 17) (ref := RX5) rfl win_5 (by decide) rfl wm_650 dd_103_289, mn_get _ _ _⟩
theorem vd_103_292 (E : ac_E) : ac_V E ac_MDf ac_HDf 103 292 (.inl (o_con (.int 1) 293)) := ⟨ok_iconst dd_103_292 (by decide), mn_con _ _⟩
theorem vd_103_293 (E : ac_E) : ac_V E ac_MDf ac_HDf 103 293 (.inl (o_ia 294)) := ⟨ok_iaload dd_103_293, mn_ia _⟩
theorem vd_103_294 (E : ac_E) : ac_V E ac_MDf ac_HDf 103 294 (.inl (o_ald 0 295)) := ⟨ok_aload_n dd_103_294, mn_ald _ _⟩
theorem vd_103_295 (E : ac_E) : ac_V E ac_MDf ac_HDf 103 295 (.inl (o_get 5 11 298)) := ⟨ok_getf (ci := 5) (f := 11) (C := RX5) (T := TX5) (N := 17) (ref := RX5) rfl win_5 (by decide) rfl wm_649 dd_103_295, mn_get _ _ _⟩
theorem vd_103_298 (E : ac_E) : ac_V E ac_MDf ac_HDf 103 298 (.inl (o_ild 1 299)) := ⟨ok_iload_n dd_103_298, mn_ild _ _⟩
theorem vd_103_299 (E : ac_E) : ac_V E ac_MDf ac_HDf 103 299 (.inl (o_con (.int 1) 300)) := ⟨ok_iconst dd_103_299 (by decide), mn_con _ _⟩
theorem vd_103_300 (E : ac_E) : ac_V E ac_MDf ac_HDf 103 300 (.inr (.inl (69,2,303,0))) := ac_Vc0 ((ok_callS rfl (by decide) (by decide +kernel) wm_807 wm_56 wm_805 wm_806 dd_103_300).1) (fun _ => rfl)
theorem vd_103_303 (E : ac_E) : ac_V E ac_MDf ac_HDf 103 303 (.inl (o_mul 304)) := ⟨ok_imul dd_103_303, mn_mul _⟩
theorem vd_103_304 (E : ac_E) : ac_V E ac_MDf ac_HDf 103 304 (.inl (o_sub 305)) := ⟨ok_isub dd_103_304, mn_sub _⟩
theorem vd_103_305 (E : ac_E) : ac_V E ac_MDf ac_HDf 103 305 (.inl (o_is 306)) := ⟨ok_iastore dd_103_305, mn_is _⟩
theorem vd_103_306 (E : ac_E) : ac_V E ac_MDf ac_HDf 103 306 (.inl (o_ald 0 307)) := ⟨ok_aload_n dd_103_306, mn_ald _ _⟩
theorem vd_103_307 (E : ac_E) : ac_V E ac_MDf ac_HDf 103 307 (.inl (o_dup 308)) := ⟨ok_dup dd_103_307, mn_dup _⟩
theorem vd_103_308 (E : ac_E) : ac_V E ac_MDf ac_HDf 103 308 (.inl (o_get 5 13 311)) := ⟨ok_getf (ci := 5) (f := 13) (C := RX5) (T := TX5) (N := 17) (ref := RX5) rfl win_5 (by decide) rfl wm_651 dd_103_308, mn_get _ _ _⟩
theorem vd_103_311 (E : ac_E) : ac_V E ac_MDf ac_HDf 103 311 (.inl (o_con (.int 1) 312)) := ⟨ok_iconst dd_103_311 (by decide), mn_con _ _⟩
theorem vd_103_312 (E : ac_E) : ac_V E ac_MDf ac_HDf 103 312 (.inl (o_add 313)) := ⟨ok_iadd dd_103_312, mn_add _⟩
theorem vd_103_313 (E : ac_E) : ac_V E ac_MDf ac_HDf 103 313 (.inl (o_put 5 13 316)) := ⟨ok_putf (ci := 5) (f := 13) (C := RX5) (T := TX5) (N := 17) (ref := RX5) rfl win_5 (by decide) rfl tyX5 tyX5_ok nmX5 (by decide +kernel) rfl wm_651 dd_103_313, mn_put _ _ _⟩
theorem vd_103_316 (E : ac_E) : ac_V E ac_MDf ac_HDf 103 316 (.inr (.inr (.inl 0))) := ⟨fun _ => ⟨dd_103_316, rfl⟩, fun q => nomatch q, fun q => nomatch q⟩
theorem va_103 (E : ac_E) (pc : Nat) : ac_V E ac_MDf ac_HDf 103 pc (tb_103 (ac_len E) (ac_xs E) pc) := (ac_node (ac_node (ac_node (ac_node (ac_node (ac_node (ac_node (ac_leaf 0 (vd_103_0 E)) (ac_leaf 1 (vd_103_1 E))) (ac_node (ac_leaf 2 (vd_103_2 E)) (ac_node (ac_leaf 3 (vd_103_3 E)) (ac_leaf 5 (vd_103_5 E))))) (ac_node (ac_node (ac_leaf 8 (vd_103_8 E)) (ac_node (ac_leaf 9 (vd_103_9 E)) (ac_leaf 10 (vd_103_10 E)))) (ac_node (ac_leaf 13 (vd_103_13 E)) (ac_node (ac_leaf 14 (vd_103_14 E)) (ac_leaf 15 (vd_103_15 E)))))) (ac_node (ac_node (ac_node (ac_leaf 18 (vd_103_18 E)) (ac_node (ac_leaf 19 (vd_103_19 E)) (ac_leaf 22 (vd_103_22 E)))) (ac_node (ac_leaf 25 (vd_103_25 E)) (ac_node (ac_leaf 28 (vd_103_28 E)) (ac_leaf 29 (vd_103_29 E))))) (ac_node (ac_node (ac_leaf 31 (vd_103_31 E)) (ac_node (ac_leaf 34 (vd_103_34 E)) (ac_leaf 35 (vd_103_35 E)))) (ac_node (ac_leaf 36 (vd_103_36 E)) (ac_node (ac_leaf 39 (vd_103_39 E)) (ac_leaf 42 (vd_103_42 E))))))) (ac_node (ac_node (ac_node (ac_node (ac_leaf 43 (vd_103_43 E)) (ac_leaf 44 (vd_103_44 E))) (ac_node (ac_leaf 45 (vd_103_45 E)) (ac_node (ac_leaf 46 (vd_103_46 E)) (ac_leaf 47 (vd_103_47 E))))) (ac_node (ac_node (ac_leaf 48 (vd_103_48 E)) (ac_node (ac_leaf 49 (vd_103_49 E)) (ac_leaf 52 (vd_103_52 E)))) (ac_node (ac_leaf 53 (vd_103_53 E)) (ac_node (ac_leaf 56 (vd_103_56 E)) (ac_leaf 57 (vd_103_57 E)))))) (ac_node (ac_node (ac_node (ac_leaf 60 (vd_103_60 E)) (ac_node (ac_leaf 61 (vd_103_61 E)) (ac_leaf 64 (vd_103_64 E)))) (ac_node (ac_leaf 65 (vd_103_65 E)) (ac_node (ac_leaf 66 (vd_103_66 E)) (ac_leaf 67 (vd_103_67 E))))) (ac_node (ac_node (ac_leaf 70 (vd_103_70 E)) (ac_node (ac_leaf 73 (vd_103_73 E)) (ac_leaf 74 (vd_103_74 E)))) (ac_node (ac_leaf 75 (vd_103_75 E)) (ac_node (ac_leaf 76 (vd_103_76 E)) (ac_leaf 77 (vd_103_77 E)))))))) (ac_node (ac_node (ac_node (ac_node (ac_node (ac_leaf 80 (vd_103_80 E)) (ac_leaf 81 (vd_103_81 E))) (ac_node (ac_leaf 84 (vd_103_84 E)) (ac_node (ac_leaf 85 (vd_103_85 E)) (ac_leaf 88 (vd_103_88 E))))) (ac_node (ac_node (ac_leaf 89 (vd_103_89 E)) (ac_node (ac_leaf 92 (vd_103_92 E)) (ac_leaf 93 (vd_103_93 E)))) (ac_node (ac_leaf 94 (vd_103_94 E)) (ac_node (ac_leaf 95 (vd_103_95 E)) (ac_leaf 98 (vd_103_98 E)))))) (ac_node (ac_node (ac_node (ac_leaf 99 (vd_103_99 E)) (ac_node (ac_leaf 102 (vd_103_102 E)) (ac_leaf 103 (vd_103_103 E)))) (ac_node (ac_leaf 104 (vd_103_104 E)) (ac_node (ac_leaf 105 (vd_103_105 E)) (ac_leaf 108 (vd_103_108 E))))) (ac_node (ac_node (ac_leaf 109 (vd_103_109 E)) (ac_node (ac_leaf 110 (vd_103_110 E)) (ac_leaf 111 (vd_103_111 E)))) (ac_node (ac_leaf 114 (vd_103_114 E)) (ac_node (ac_leaf 115 (vd_103_115 E)) (ac_leaf 116 (vd_103_116 E))))))) (ac_node (ac_node (ac_node (ac_node (ac_leaf 117 (vd_103_117 E)) (ac_leaf 118 (vd_103_118 E))) (ac_node (ac_leaf 121 (vd_103_121 E)) (ac_node (ac_leaf 122 (vd_103_122 E)) (ac_leaf 125 (vd_103_125 E))))) (ac_node (ac_node (ac_leaf 128 (vd_103_128 E)) (ac_node (ac_leaf 129 (vd_103_129 E)) (ac_leaf 132 (vd_103_132 E)))) (ac_node (ac_leaf 133 (vd_103_133 E)) (ac_node (ac_leaf 134 (vd_103_134 E)) (ac_leaf 137 (vd_103_137 E)))))) (ac_node (ac_node (ac_node (ac_leaf 140 (vd_103_140 E)) (ac_node (ac_leaf 141 (vd_103_141 E)) (ac_leaf 144 (vd_103_144 E)))) (ac_node (ac_leaf 145 (vd_103_145 E)) (ac_node (ac_leaf 146 (vd_103_146 E)) (ac_leaf 147 (vd_103_147 E))))) (ac_node (ac_node (ac_leaf 148 (vd_103_148 E)) (ac_node (ac_leaf 151 (vd_103_151 E)) (ac_leaf 152 (vd_103_152 E)))) (ac_node (ac_leaf 153 (vd_103_153 E)) (ac_node (ac_leaf 154 (vd_103_154 E)) (ac_leaf 155 (vd_103_155 E))))))))) (ac_node (ac_node (ac_node (ac_node (ac_node (ac_node (ac_leaf 158 (vd_103_158 E)) (ac_leaf 160 (vd_103_160 E))) (ac_node (ac_leaf 161 (vd_103_161 E)) (ac_node (ac_leaf 164 (vd_103_164 E)) (ac_leaf 165 (vd_103_165 E))))) (ac_node (ac_node (ac_leaf 166 (vd_103_166 E)) (ac_node (ac_leaf 168 (vd_103_168 E)) (ac_leaf 171 (vd_103_171 E)))) (ac_node (ac_leaf 172 (vd_103_172 E)) (ac_node (ac_leaf 173 (vd_103_173 E)) (ac_leaf 174 (vd_103_174 E)))))) (ac_node (ac_node (ac_node (ac_leaf 175 (vd_103_175 E)) (ac_node (ac_leaf 176 (vd_103_176 E)) (ac_leaf 179 (vd_103_179 E)))) (ac_node (ac_leaf 180 (vd_103_180 E)) (ac_node (ac_leaf 181 (vd_103_181 E)) (ac_leaf 183 (vd_103_183 E))))) (ac_node (ac_node (ac_leaf 184 (vd_103_184 E)) (ac_node (ac_leaf 185 (vd_103_185 E)) (ac_leaf 186 (vd_103_186 E)))) (ac_node (ac_leaf 189 (vd_103_189 E)) (ac_node (ac_leaf 191 (vd_103_191 E)) (ac_leaf 194 (vd_103_194 E))))))) (ac_node (ac_node (ac_node (ac_node (ac_leaf 195 (vd_103_195 E)) (ac_leaf 197 (vd_103_197 E))) (ac_node (ac_leaf 199 (vd_103_199 E)) (ac_node (ac_leaf 200 (vd_103_200 E)) (ac_leaf 203 (vd_103_203 E))))) (ac_node (ac_node (ac_leaf 204 (vd_103_204 E)) (ac_node (ac_leaf 207 (vd_103_207 E)) (ac_leaf 208 (vd_103_208 E)))) (ac_node (ac_leaf 211 (vd_103_211 E)) (ac_node (ac_leaf 212 (vd_103_212 E)) (ac_leaf 215 (vd_103_215 E)))))) (ac_node (ac_node (ac_node (ac_leaf 217 (vd_103_217 E)) (ac_node (ac_leaf 218 (vd_103_218 E)) (ac_leaf 221 (vd_103_221 E)))) (ac_node (ac_leaf 223 (vd_103_223 E)) (ac_node (ac_leaf 224 (vd_103_224 E)) (ac_leaf 227 (vd_103_227 E))))) (ac_node (ac_node (ac_leaf 228 (vd_103_228 E)) (ac_node (ac_leaf 231 (vd_103_231 E)) (ac_leaf 232 (vd_103_232 E)))) (ac_node (ac_leaf 235 (vd_103_235 E)) (ac_node (ac_leaf 237 (vd_103_237 E)) (ac_leaf 238 (vd_103_238 E)))))))) (ac_node (ac_node (ac_node (ac_node (ac_node (ac_leaf 239 (vd_103_239 E)) (ac_leaf 242 (vd_103_242 E))) (ac_node (ac_leaf 243 (vd_103_243 E)) (ac_node (ac_leaf 246 (vd_103_246 E)) (ac_leaf 247 (vd_103_247 E))))) (ac_node (ac_node (ac_leaf 250 (vd_103_250 E)) (ac_node (ac_leaf 252 (vd_103_252 E)) (ac_leaf 253 (vd_103_253 E)))) (ac_node (ac_leaf 254 (vd_103_254 E)) (ac_node (ac_leaf 257 (vd_103_257 E)) (ac_leaf 260 (vd_103_260 E)))))) (ac_node (ac_node (ac_node (ac_leaf 261 (vd_103_261 E)) (ac_node (ac_leaf 264 (vd_103_264 E)) (ac_leaf 265 (vd_103_265 E)))) (ac_node (ac_leaf 266 (vd_103_266 E)) (ac_node (ac_leaf 269 (vd_103_269 E)) (ac_leaf 270 (vd_103_270 E))))) (ac_node (ac_node (ac_leaf 271 (vd_103_271 E)) (ac_node (ac_leaf 272 (vd_103_272 E)) (ac_leaf 275 (vd_103_275 E)))) (ac_node (ac_leaf 276 (vd_103_276 E)) (ac_node (ac_leaf 277 (vd_103_277 E)) (ac_leaf 280 (vd_103_280 E))))))) (ac_node (ac_node (ac_node (ac_node (ac_leaf 281 (vd_103_281 E)) (ac_node (ac_leaf 282 (vd_103_282 E)) (ac_leaf 283 (vd_103_283 E)))) (ac_node (ac_leaf 284 (vd_103_284 E)) (ac_node (ac_leaf 287 (vd_103_287 E)) (ac_leaf 288 (vd_103_288 E))))) (ac_node (ac_node (ac_leaf 289 (vd_103_289 E)) (ac_node (ac_leaf 292 (vd_103_292 E)) (ac_leaf 293 (vd_103_293 E)))) (ac_node (ac_leaf 294 (vd_103_294 E)) (ac_node (ac_leaf 295 (vd_103_295 E)) (ac_leaf 298 (vd_103_298 E)))))) (ac_node (ac_node (ac_node (ac_leaf 299 (vd_103_299 E)) (ac_node (ac_leaf 300 (vd_103_300 E)) (ac_leaf 303 (vd_103_303 E)))) (ac_node (ac_leaf 304 (vd_103_304 E)) (ac_node (ac_leaf 305 (vd_103_305 E)) (ac_leaf 306 (vd_103_306 E))))) (ac_node (ac_node (ac_leaf 307 (vd_103_307 E)) (ac_node (ac_leaf 308 (vd_103_308 E)) (ac_leaf 311 (vd_103_311 E)))) (ac_node (ac_leaf 312 (vd_103_312 E)) (ac_node (ac_leaf 313 (vd_103_313 E)) (ac_leaf 316 (vd_103_316 E))))))))))
theorem vd_104_0 (E : ac_E) : ac_V E ac_MDf ac_HDf 104 0 (.inl (o_ald 0 1)) := ⟨ok_aload_n dd_104_0, mn_ald _ _⟩
theorem vd_104_1 (E : ac_E) : ac_V E ac_MDf ac_HDf 104 1 (.inl (o_ild 1 2)) := ⟨ok_iload_n dd_104_1, mn_ild _ _⟩
theorem vd_104_2 (E : ac_E) : ac_V E ac_MDf ac_HDf 104 2 (.inl (o_lt0 11 5)) := ⟨ok_iflt dd_104_2 (by decide), mn_lt0 _ _⟩
theorem vd_104_5 (E : ac_E) : ac_V E ac_MDf ac_HDf 104 5 (.inl (o_ild 1 6)) := ⟨ok_iload_n dd_104_5, mn_ild _ _⟩
theorem vd_104_6 (E : ac_E) : ac_V E ac_MDf ac_HDf 104 6 (.inl (o_con (.int 64) 8)) := ⟨ok_bipush dd_104_6 (by decide), mn_con _ _⟩
theorem vd_104_8 (E : ac_E) : ac_V E ac_MDf ac_HDf 104 8 (.inl (o_le 15 11)) := ⟨ok_icmple dd_104_8 (by decide), mn_le _ _⟩
theorem vd_104_11 (E : ac_E) : ac_V E ac_MDf ac_HDf 104 11 (.inl (o_con (.int 1) 12)) := ⟨ok_iconst dd_104_11 (by decide), mn_con _ _⟩
theorem vd_104_12 (E : ac_E) : ac_V E ac_MDf ac_HDf 104 12 (.inl (o_go 16)) := ⟨ok_goto dd_104_12 (by decide), mn_go _⟩
theorem vd_104_15 (E : ac_E) : ac_V E ac_MDf ac_HDf 104 15 (.inl (o_con (.int 0) 16)) := ⟨ok_iconst dd_104_15 (by decide), mn_con _ _⟩
theorem vd_104_16 (E : ac_E) : ac_V E ac_MDf ac_HDf 104 16 (.inl (o_put 5 0 19)) := ⟨ok_putf (ci := 5) (f := 0) (C := RX5) (T := TX5) (N := 17) (ref := RX5) rfl win_5 (by decide) rfl tyX5 tyX5_ok nmX5 (by decide +kernel) rfl wm_638 dd_104_16, mn_put _ _ _⟩
theorem vd_104_19 (E : ac_E) : ac_V E ac_MDf ac_HDf 104 19 (.inl (o_ald 0 20)) := ⟨ok_aload_n dd_104_19, mn_ald _ _⟩
theorem vd_104_20 (E : ac_E) : ac_V E ac_MDf ac_HDf 104 20 (.inl (o_get 5 0 23)) := ⟨ok_getf (ci := 5) (f := 0) (C := RX5) (T := TX5) (N := 17) (ref := RX5) rfl win_5 (by decide) rfl wm_638 dd_104_20, mn_get _ _ _⟩
theorem vd_104_23 (E : ac_E) : ac_V E ac_MDf ac_HDf 104 23 (.inl (o_le0 28 26)) := ⟨ok_ifle dd_104_23 (by decide), mn_le0 _ _⟩
theorem vd_104_26 (E : ac_E) : ac_V E ac_MDf ac_HDf 104 26 (.inl (o_con (.int 0) 27)) := ⟨ok_iconst dd_104_26 (by decide), mn_con _ _⟩
theorem vd_104_27 (E : ac_E) : ac_V E ac_MDf ac_HDf 104 27 (.inr (.inr (.inl 1))) := ⟨fun q => nomatch q, fun _ => ⟨dd_104_27, rfl⟩, fun q => nomatch q⟩
theorem vd_104_28 (E : ac_E) : ac_V E ac_MDf ac_HDf 104 28 (.inl (o_con (.int 0) 29)) := ⟨ok_iconst dd_104_28 (by decide), mn_con _ _⟩
theorem vd_104_29 (E : ac_E) : ac_V E ac_MDf ac_HDf 104 29 (.inl (o_ist 2 30)) := ⟨ok_istore_n dd_104_29, mn_ist _ _⟩
theorem vd_104_30 (E : ac_E) : ac_V E ac_MDf ac_HDf 104 30 (.inl (o_ild 2 31)) := ⟨ok_iload_n dd_104_30, mn_ild _ _⟩
theorem vd_104_31 (E : ac_E) : ac_V E ac_MDf ac_HDf 104 31 (.inl (o_ild 1 32)) := ⟨ok_iload_n dd_104_31, mn_ild _ _⟩
theorem vd_104_32 (E : ac_E) : ac_V E ac_MDf ac_HDf 104 32 (.inl (o_ge 69 35)) := ⟨ok_icmpge dd_104_32 (by decide), mn_ge _ _⟩
theorem vd_104_35 (E : ac_E) : ac_V E ac_MDf ac_HDf 104 35 (.inl (o_ald 0 36)) := ⟨ok_aload_n dd_104_35, mn_ald _ _⟩
theorem vd_104_36 (E : ac_E) : ac_V E ac_MDf ac_HDf 104 36 (.inl (o_con (.int 0) 37)) := ⟨ok_iconst dd_104_36 (by decide), mn_con _ _⟩
theorem vd_104_37 (E : ac_E) : ac_V E ac_MDf ac_HDf 104 37 (.inr (.inl (92,2,40,7))) := ac_Vc0 ((ok_callV (T := TX5) (N := 17) rfl rfl (by decide) (by decide +kernel) wm_771 wm_56 wm_768 wm_770 wm_35 dd_104_37).1) (fun _ => rfl)
theorem vd_104_40 (E : ac_E) : ac_V E ac_MDf ac_HDf 104 40 (.inl (o_ald 0 41)) := ⟨ok_aload_n dd_104_40, mn_ald _ _⟩
theorem vd_104_41 (E : ac_E) : ac_V E ac_MDf ac_HDf 104 41 (.inl (o_con (.int 0) 42)) := ⟨ok_iconst dd_104_41 (by decide), mn_con _ _⟩
theorem vd_104_42 (E : ac_E) : ac_V E ac_MDf ac_HDf 104 42 (.inr (.inl (93,2,45,7))) := ac_Vc0 ((ok_callV (T := TX5) (N := 17) rfl rfl (by decide) (by decide +kernel) wm_788 wm_56 wm_785 wm_787 wm_37 dd_104_42).1) (fun _ => rfl)
theorem vd_104_45 (E : ac_E) : ac_V E ac_MDf ac_HDf 104 45 (.inl (o_ald 0 46)) := ⟨ok_aload_n dd_104_45, mn_ald _ _⟩
theorem vd_104_46 (E : ac_E) : ac_V E ac_MDf ac_HDf 104 46 (.inr (.inl (98,1,49,7))) := ac_Vc0 ((ok_callV (T := TX5) (N := 17) rfl rfl (by decide) (by decide +kernel) wm_796 wm_56 wm_793 wm_795 wm_39 dd_104_46).1) (fun _ => rfl)
theorem vd_104_49 (E : ac_E) : ac_V E ac_MDf ac_HDf 104 49 (.inl (o_ald 0 50)) := ⟨ok_aload_n dd_104_49, mn_ald _ _⟩
theorem vd_104_50 (E : ac_E) : ac_V E ac_MDf ac_HDf 104 50 (.inr (.inl (103,1,53,7))) := ac_Vc0 ((ok_callV (T := TX5) (N := 17) rfl rfl (by decide) (by decide +kernel) wm_820 wm_56 wm_817 wm_819 wm_44 dd_104_50).1) (fun _ => rfl)
theorem vd_104_53 (E : ac_E) : ac_V E ac_MDf ac_HDf 104 53 (.inl (o_ald 0 54)) := ⟨ok_aload_n dd_104_53, mn_ald _ _⟩
theorem vd_104_54 (E : ac_E) : ac_V E ac_MDf ac_HDf 104 54 (.inl (o_dup 55)) := ⟨ok_dup dd_104_54, mn_dup _⟩
theorem vd_104_55 (E : ac_E) : ac_V E ac_MDf ac_HDf 104 55 (.inl (o_get 5 3 58)) := ⟨ok_getf (ci := 5) (f := 3) (C := RX5) (T := TX5) (N := 17) (ref := RX5) rfl win_5 (by decide) rfl wm_641 dd_104_55, mn_get _ _ _⟩
theorem vd_104_58 (E : ac_E) : ac_V E ac_MDf ac_HDf 104 58 (.inl (o_con (.int 1) 59)) := ⟨ok_iconst dd_104_58 (by decide), mn_con _ _⟩
theorem vd_104_59 (E : ac_E) : ac_V E ac_MDf ac_HDf 104 59 (.inl (o_add 60)) := ⟨ok_iadd dd_104_59, mn_add _⟩
theorem vd_104_60 (E : ac_E) : ac_V E ac_MDf ac_HDf 104 60 (.inl (o_put 5 3 63)) := ⟨ok_putf (ci := 5) (f := 3) (C := RX5) (T := TX5) (N := 17) (ref := RX5) rfl win_5 (by decide) rfl tyX5 tyX5_ok nmX5 (by decide +kernel) rfl wm_641 dd_104_60, mn_put _ _ _⟩
theorem vd_104_63 (E : ac_E) : ac_V E ac_MDf ac_HDf 104 63 (.inl (o_inc 2 1 66)) := ⟨ok_iinc dd_104_63 (by decide), mn_inc _ _ _⟩
theorem vd_104_66 (E : ac_E) : ac_V E ac_MDf ac_HDf 104 66 (.inl (o_go 30)) := ⟨ok_goto dd_104_66 (by decide), mn_go _⟩
theorem vd_104_69 (E : ac_E) : ac_V E ac_MDf ac_HDf 104 69 (.inl (o_ald 0 70)) := ⟨ok_aload_n dd_104_69, mn_ald _ _⟩
theorem vd_104_70 (E : ac_E) : ac_V E ac_MDf ac_HDf 104 70 (.inl (o_get 5 3 73)) := ⟨ok_getf (ci := 5) (f := 3) (C := RX5) (T := TX5) (N := 17) (ref := RX5) rfl win_5 (by decide) rfl wm_641 dd_104_70, mn_get _ _ _⟩
theorem vd_104_73 (E : ac_E) : ac_V E ac_MDf ac_HDf 104 73 (.inr (.inr (.inl 1))) := ⟨fun q => nomatch q, fun _ => ⟨dd_104_73, rfl⟩, fun q => nomatch q⟩
theorem va_104 (E : ac_E) (pc : Nat) : ac_V E ac_MDf ac_HDf 104 pc (tb_104 (ac_len E) (ac_xs E) pc) := (ac_node (ac_node (ac_node (ac_node (ac_node (ac_leaf 0 (vd_104_0 E)) (ac_leaf 1 (vd_104_1 E))) (ac_node (ac_leaf 2 (vd_104_2 E)) (ac_node (ac_leaf 5 (vd_104_5 E)) (ac_leaf 6 (vd_104_6 E))))) (ac_node (ac_node (ac_leaf 8 (vd_104_8 E)) (ac_leaf 11 (vd_104_11 E))) (ac_node (ac_leaf 12 (vd_104_12 E)) (ac_node (ac_leaf 15 (vd_104_15 E)) (ac_leaf 16 (vd_104_16 E)))))) (ac_node (ac_node (ac_node (ac_leaf 19 (vd_104_19 E)) (ac_leaf 20 (vd_104_20 E))) (ac_node (ac_leaf 23 (vd_104_23 E)) (ac_node (ac_leaf 26 (vd_104_26 E)) (ac_leaf 27 (vd_104_27 E))))) (ac_node (ac_node (ac_leaf 28 (vd_104_28 E)) (ac_leaf 29 (vd_104_29 E))) (ac_node (ac_leaf 30 (vd_104_30 E)) (ac_node (ac_leaf 31 (vd_104_31 E)) (ac_leaf 32 (vd_104_32 E))))))) (ac_node (ac_node (ac_node (ac_node (ac_leaf 35 (vd_104_35 E)) (ac_leaf 36 (vd_104_36 E))) (ac_node (ac_leaf 37 (vd_104_37 E)) (ac_node (ac_leaf 40 (vd_104_40 E)) (ac_leaf 41 (vd_104_41 E))))) (ac_node (ac_node (ac_leaf 42 (vd_104_42 E)) (ac_leaf 45 (vd_104_45 E))) (ac_node (ac_leaf 46 (vd_104_46 E)) (ac_node (ac_leaf 49 (vd_104_49 E)) (ac_leaf 50 (vd_104_50 E)))))) (ac_node (ac_node (ac_node (ac_leaf 53 (vd_104_53 E)) (ac_leaf 54 (vd_104_54 E))) (ac_node (ac_leaf 55 (vd_104_55 E)) (ac_node (ac_leaf 58 (vd_104_58 E)) (ac_leaf 59 (vd_104_59 E))))) (ac_node (ac_node (ac_leaf 60 (vd_104_60 E)) (ac_node (ac_leaf 63 (vd_104_63 E)) (ac_leaf 66 (vd_104_66 E)))) (ac_node (ac_leaf 69 (vd_104_69 E)) (ac_node (ac_leaf 70 (vd_104_70 E)) (ac_leaf 73 (vd_104_73 E))))))))
theorem vd_105_0 (E : ac_E) : ac_V E ac_MDf ac_HDf 105 0 (.inl (o_ald 0 1)) := ⟨ok_aload_n dd_105_0, mn_ald _ _⟩
theorem vd_105_1 (E : ac_E) : ac_V E ac_MDf ac_HDf 105 1 (.inl (o_ild 1 2)) := ⟨ok_iload_n dd_105_1, mn_ild _ _⟩
theorem vd_105_2 (E : ac_E) : ac_V E ac_MDf ac_HDf 105 2 (.inl (o_lt0 11 5)) := ⟨ok_iflt dd_105_2 (by decide), mn_lt0 _ _⟩
theorem vd_105_5 (E : ac_E) : ac_V E ac_MDf ac_HDf 105 5 (.inl (o_ild 1 6)) := ⟨ok_iload_n dd_105_5, mn_ild _ _⟩
theorem vd_105_6 (E : ac_E) : ac_V E ac_MDf ac_HDf 105 6 (.inl (o_con (.int 64) 8)) := ⟨ok_bipush dd_105_6 (by decide), mn_con _ _⟩
theorem vd_105_8 (E : ac_E) : ac_V E ac_MDf ac_HDf 105 8 (.inl (o_le 15 11)) := ⟨ok_icmple dd_105_8 (by decide), mn_le _ _⟩
theorem vd_105_11 (E : ac_E) : ac_V E ac_MDf ac_HDf 105 11 (.inl (o_con (.int 1) 12)) := ⟨ok_iconst dd_105_11 (by decide), mn_con _ _⟩
theorem vd_105_12 (E : ac_E) : ac_V E ac_MDf ac_HDf 105 12 (.inl (o_go 40)) := ⟨ok_goto dd_105_12 (by decide), mn_go _⟩
theorem vd_105_15 (E : ac_E) : ac_V E ac_MDf ac_HDf 105 15 (.inl (o_ald 0 16)) := ⟨ok_aload_n dd_105_15, mn_ald _ _⟩
theorem vd_105_16 (E : ac_E) : ac_V E ac_MDf ac_HDf 105 16 (.inl (o_con (.int 2) 17)) := ⟨ok_iconst dd_105_16 (by decide), mn_con _ _⟩
theorem vd_105_17 (E : ac_E) : ac_V E ac_MDf ac_HDf 105 17 (.inr (.inl (99,2,20,7))) := ac_Vc0 ((ok_callV (T := TX5) (N := 17) rfl rfl (by decide) (by decide +kernel) wm_828 wm_56 wm_825 wm_827 wm_46 dd_105_17).1) (fun _ => rfl)
theorem vd_105_20 (E : ac_E) : ac_V E ac_MDf ac_HDf 105 20 (.inl (o_ald 0 21)) := ⟨ok_aload_n dd_105_20, mn_ald _ _⟩
theorem vd_105_21 (E : ac_E) : ac_V E ac_MDf ac_HDf 105 21 (.inl (o_con (.int 3) 22)) := ⟨ok_iconst dd_105_21 (by decide), mn_con _ _⟩
theorem vd_105_22 (E : ac_E) : ac_V E ac_MDf ac_HDf 105 22 (.inr (.inl (99,2,25,7))) := ac_Vc0 ((ok_callV (T := TX5) (N := 17) rfl rfl (by decide) (by decide +kernel) wm_828 wm_56 wm_825 wm_827 wm_46 dd_105_22).1) (fun _ => rfl)
theorem vd_105_25 (E : ac_E) : ac_V E ac_MDf ac_HDf 105 25 (.inl (o_add 26)) := ⟨ok_iadd dd_105_25, mn_add _⟩
theorem vd_105_26 (E : ac_E) : ac_V E ac_MDf ac_HDf 105 26 (.inl (o_ald 0 27)) := ⟨ok_aload_n dd_105_26, mn_ald _ _⟩
theorem vd_105_27 (E : ac_E) : ac_V E ac_MDf ac_HDf 105 27 (.inl (o_con (.int 4) 28)) := ⟨ok_iconst dd_105_27 (by decide), mn_con _ _⟩
theorem vd_105_28 (E : ac_E) : ac_V E ac_MDf ac_HDf 105 28 (.inr (.inl (99,2,31,7))) := ac_Vc0 ((ok_callV (T := TX5) (N := 17) rfl rfl (by decide) (by decide +kernel) wm_828 wm_56 wm_825 wm_827 wm_46 dd_105_28).1) (fun _ => rfl)
theorem vd_105_31 (E : ac_E) : ac_V E ac_MDf ac_HDf 105 31 (.inl (o_add 32)) := ⟨ok_iadd dd_105_31, mn_add _⟩
theorem vd_105_32 (E : ac_E) : ac_V E ac_MDf ac_HDf 105 32 (.inl (o_le0 39 35)) := ⟨ok_ifle dd_105_32 (by decide), mn_le0 _ _⟩
theorem vd_105_35 (E : ac_E) : ac_V E ac_MDf ac_HDf 105 35 (.inl (o_con (.int 2) 36)) := ⟨ok_iconst dd_105_35 (by decide), mn_con _ _⟩
theorem vd_105_36 (E : ac_E) : ac_V E ac_MDf ac_HDf 105 36 (.inl (o_go 40)) := ⟨ok_goto dd_105_36 (by decide), mn_go _⟩
theorem vd_105_39 (E : ac_E) : ac_V E ac_MDf ac_HDf 105 39 (.inl (o_con (.int 0) 40)) := ⟨ok_iconst dd_105_39 (by decide), mn_con _ _⟩
theorem vd_105_40 (E : ac_E) : ac_V E ac_MDf ac_HDf 105 40 (.inl (o_put 5 0 43)) := ⟨ok_putf (ci := 5) (f := 0) (C := RX5) (T := TX5) (N := 17) (ref := RX5) rfl win_5 (by decide) rfl tyX5 tyX5_ok nmX5 (by decide +kernel) rfl wm_638 dd_105_40, mn_put _ _ _⟩
theorem vd_105_43 (E : ac_E) : ac_V E ac_MDf ac_HDf 105 43 (.inl (o_ald 0 44)) := ⟨ok_aload_n dd_105_43, mn_ald _ _⟩
theorem vd_105_44 (E : ac_E) : ac_V E ac_MDf ac_HDf 105 44 (.inl (o_get 5 0 47)) := ⟨ok_getf (ci := 5) (f := 0) (C := RX5) (T := TX5) (N := 17) (ref := RX5) rfl win_5 (by decide) rfl wm_638 dd_105_44, mn_get _ _ _⟩
theorem vd_105_47 (E : ac_E) : ac_V E ac_MDf ac_HDf 105 47 (.inl (o_le0 52 50)) := ⟨ok_ifle dd_105_47 (by decide), mn_le0 _ _⟩
theorem vd_105_50 (E : ac_E) : ac_V E ac_MDf ac_HDf 105 50 (.inl (o_con (.int 0) 51)) := ⟨ok_iconst dd_105_50 (by decide), mn_con _ _⟩
theorem vd_105_51 (E : ac_E) : ac_V E ac_MDf ac_HDf 105 51 (.inr (.inr (.inl 1))) := ⟨fun q => nomatch q, fun _ => ⟨dd_105_51, rfl⟩, fun q => nomatch q⟩
theorem vd_105_52 (E : ac_E) : ac_V E ac_MDf ac_HDf 105 52 (.inl (o_con (.int 0) 53)) := ⟨ok_iconst dd_105_52 (by decide), mn_con _ _⟩
theorem vd_105_53 (E : ac_E) : ac_V E ac_MDf ac_HDf 105 53 (.inl (o_ist 2 54)) := ⟨ok_istore_n dd_105_53, mn_ist _ _⟩
theorem vd_105_54 (E : ac_E) : ac_V E ac_MDf ac_HDf 105 54 (.inl (o_ild 2 55)) := ⟨ok_iload_n dd_105_54, mn_ild _ _⟩
theorem vd_105_55 (E : ac_E) : ac_V E ac_MDf ac_HDf 105 55 (.inl (o_ild 1 56)) := ⟨ok_iload_n dd_105_55, mn_ild _ _⟩
theorem vd_105_56 (E : ac_E) : ac_V E ac_MDf ac_HDf 105 56 (.inl (o_ge 89 59)) := ⟨ok_icmpge dd_105_56 (by decide), mn_ge _ _⟩
theorem vd_105_59 (E : ac_E) : ac_V E ac_MDf ac_HDf 105 59 (.inl (o_ald 0 60)) := ⟨ok_aload_n dd_105_59, mn_ald _ _⟩
theorem vd_105_60 (E : ac_E) : ac_V E ac_MDf ac_HDf 105 60 (.inl (o_dup 61)) := ⟨ok_dup dd_105_60, mn_dup _⟩
theorem vd_105_61 (E : ac_E) : ac_V E ac_MDf ac_HDf 105 61 (.inl (o_get 5 3 64)) := ⟨ok_getf (ci := 5) (f := 3) (C := RX5) (T := TX5) (N := 17) (ref := RX5) rfl win_5 (by decide) rfl wm_641 dd_105_61, mn_get _ _ _⟩
theorem vd_105_64 (E : ac_E) : ac_V E ac_MDf ac_HDf 105 64 (.inl (o_con (.int 1) 65)) := ⟨ok_iconst dd_105_64 (by decide), mn_con _ _⟩
theorem vd_105_65 (E : ac_E) : ac_V E ac_MDf ac_HDf 105 65 (.inl (o_sub 66)) := ⟨ok_isub dd_105_65, mn_sub _⟩
theorem vd_105_66 (E : ac_E) : ac_V E ac_MDf ac_HDf 105 66 (.inl (o_put 5 3 69)) := ⟨ok_putf (ci := 5) (f := 3) (C := RX5) (T := TX5) (N := 17) (ref := RX5) rfl win_5 (by decide) rfl tyX5 tyX5_ok nmX5 (by decide +kernel) rfl wm_641 dd_105_66, mn_put _ _ _⟩
theorem vd_105_69 (E : ac_E) : ac_V E ac_MDf ac_HDf 105 69 (.inl (o_ald 0 70)) := ⟨ok_aload_n dd_105_69, mn_ald _ _⟩
theorem vd_105_70 (E : ac_E) : ac_V E ac_MDf ac_HDf 105 70 (.inr (.inl (98,1,73,7))) := ac_Vc0 ((ok_callV (T := TX5) (N := 17) rfl rfl (by decide) (by decide +kernel) wm_796 wm_56 wm_793 wm_795 wm_39 dd_105_70).1) (fun _ => rfl)
theorem vd_105_73 (E : ac_E) : ac_V E ac_MDf ac_HDf 105 73 (.inl (o_ald 0 74)) := ⟨ok_aload_n dd_105_73, mn_ald _ _⟩
theorem vd_105_74 (E : ac_E) : ac_V E ac_MDf ac_HDf 105 74 (.inl (o_con (.int 1) 75)) := ⟨ok_iconst dd_105_74 (by decide), mn_con _ _⟩
theorem vd_105_75 (E : ac_E) : ac_V E ac_MDf ac_HDf 105 75 (.inr (.inl (93,2,78,7))) := ac_Vc0 ((ok_callV (T := TX5) (N := 17) rfl rfl (by decide) (by decide +kernel) wm_788 wm_56 wm_785 wm_787 wm_37 dd_105_75).1) (fun _ => rfl)
theorem vd_105_78 (E : ac_E) : ac_V E ac_MDf ac_HDf 105 78 (.inl (o_ald 0 79)) := ⟨ok_aload_n dd_105_78, mn_ald _ _⟩
theorem vd_105_79 (E : ac_E) : ac_V E ac_MDf ac_HDf 105 79 (.inl (o_con (.int 1) 80)) := ⟨ok_iconst dd_105_79 (by decide), mn_con _ _⟩
theorem vd_105_80 (E : ac_E) : ac_V E ac_MDf ac_HDf 105 80 (.inr (.inl (92,2,83,7))) := ac_Vc0 ((ok_callV (T := TX5) (N := 17) rfl rfl (by decide) (by decide +kernel) wm_771 wm_56 wm_768 wm_770 wm_35 dd_105_80).1) (fun _ => rfl)
theorem vd_105_83 (E : ac_E) : ac_V E ac_MDf ac_HDf 105 83 (.inl (o_inc 2 1 86)) := ⟨ok_iinc dd_105_83 (by decide), mn_inc _ _ _⟩
theorem vd_105_86 (E : ac_E) : ac_V E ac_MDf ac_HDf 105 86 (.inl (o_go 54)) := ⟨ok_goto dd_105_86 (by decide), mn_go _⟩
theorem vd_105_89 (E : ac_E) : ac_V E ac_MDf ac_HDf 105 89 (.inl (o_ald 0 90)) := ⟨ok_aload_n dd_105_89, mn_ald _ _⟩
theorem vd_105_90 (E : ac_E) : ac_V E ac_MDf ac_HDf 105 90 (.inl (o_get 5 3 93)) := ⟨ok_getf (ci := 5) (f := 3) (C := RX5) (T := TX5) (N := 17) (ref := RX5) rfl win_5 (by decide) rfl wm_641 dd_105_90, mn_get _ _ _⟩
theorem vd_105_93 (E : ac_E) : ac_V E ac_MDf ac_HDf 105 93 (.inr (.inr (.inl 1))) := ⟨fun q => nomatch q, fun _ => ⟨dd_105_93, rfl⟩, fun q => nomatch q⟩
theorem va_105 (E : ac_E) (pc : Nat) : ac_V E ac_MDf ac_HDf 105 pc (tb_105 (ac_len E) (ac_xs E) pc) := (ac_node (ac_node (ac_node (ac_node (ac_node (ac_leaf 0 (vd_105_0 E)) (ac_node (ac_leaf 1 (vd_105_1 E)) (ac_leaf 2 (vd_105_2 E)))) (ac_node (ac_leaf 5 (vd_105_5 E)) (ac_node (ac_leaf 6 (vd_105_6 E)) (ac_leaf 8 (vd_105_8 E))))) (ac_node (ac_node (ac_leaf 11 (vd_105_11 E)) (ac_node (ac_leaf 12 (vd_105_12 E)) (ac_leaf 15 (vd_105_15 E)))) (ac_node (ac_node (ac_leaf 16 (vd_105_16 E)) (ac_leaf 17 (vd_105_17 E))) (ac_node (ac_leaf 20 (vd_105_20 E)) (ac_leaf 21 (vd_105_21 E)))))) (ac_node (ac_node (ac_node (ac_leaf 22 (vd_105_22 E)) (ac_node (ac_leaf 25 (vd_105_25 E)) (ac_leaf 26 (vd_105_26 E)))) (ac_node (ac_leaf 27 (vd_105_27 E)) (ac_node (ac_leaf 28 (vd_105_28 E)) (ac_leaf 31 (vd_105_31 E))))) (ac_node (ac_node (ac_leaf 32 (vd_105_32 E)) (ac_node (ac_leaf 35 (vd_105_35 E)) (ac_leaf 36 (vd_105_36 E)))) (ac_node (ac_node (ac_leaf 39 (vd_105_39 E)) (ac_leaf 40 (vd_105_40 E))) (ac_node (ac_leaf 43 (vd_105_43 E)) (ac_leaf 44 (vd_105_44 E))))))) (ac_node (ac_node (ac_node (ac_node (ac_leaf 47 (vd_105_47 E)) (ac_node (ac_leaf 50 (vd_105_50 E)) (ac_leaf 51 (vd_105_51 E)))) (ac_node (ac_leaf 52 (vd_105_52 E)) (ac_node (ac_leaf 53 (vd_105_53 E)) (ac_leaf 54 (vd_105_54 E))))) (ac_node (ac_node (ac_leaf 55 (vd_105_55 E)) (ac_node (ac_leaf 56 (vd_105_56 E)) (ac_leaf 59 (vd_105_59 E)))) (ac_node (ac_node (ac_leaf 60 (vd_105_60 E)) (ac_leaf 61 (vd_105_61 E))) (ac_node (ac_leaf 64 (vd_105_64 E)) (ac_leaf 65 (vd_105_65 E)))))) (ac_node (ac_node (ac_node (ac_leaf 66 (vd_105_66 E)) (ac_node (ac_leaf 69 (vd_105_69 E)) (ac_leaf 70 (vd_105_70 E)))) (ac_node (ac_node (ac_leaf 73 (vd_105_73 E)) (ac_leaf 74 (vd_105_74 E))) (ac_node (ac_leaf 75 (vd_105_75 E)) (ac_leaf 78 (vd_105_78 E))))) (ac_node (ac_node (ac_leaf 79 (vd_105_79 E)) (ac_node (ac_leaf 80 (vd_105_80 E)) (ac_leaf 83 (vd_105_83 E)))) (ac_node (ac_node (ac_leaf 86 (vd_105_86 E)) (ac_leaf 89 (vd_105_89 E))) (ac_node (ac_leaf 90 (vd_105_90 E)) (ac_leaf 93 (vd_105_93 E))))))))
theorem vd_106_0 (E : ac_E) : ac_V E ac_MDf ac_HDf 106 0 (.inl (o_con (.int 0) 1)) := ⟨ok_iconst dd_106_0 (by decide), mn_con _ _⟩
theorem vd_106_1 (E : ac_E) : ac_V E ac_MDf ac_HDf 106 1 (.inl (o_ist 2 2)) := ⟨ok_istore_n dd_106_1, mn_ist _ _⟩
theorem vd_106_2 (E : ac_E) : ac_V E ac_MDf ac_HDf 106 2 (.inl (o_con (.int 0) 3)) := ⟨ok_iconst dd_106_2 (by decide), mn_con _ _⟩
theorem vd_106_3 (E : ac_E) : ac_V E ac_MDf ac_HDf 106 3 (.inl (o_ist 3 4)) := ⟨ok_istore_n dd_106_3, mn_ist _ _⟩
theorem vd_106_4 (E : ac_E) : ac_V E ac_MDf ac_HDf 106 4 (.inl (o_ild 3 5)) := ⟨ok_iload_n dd_106_4, mn_ild _ _⟩
theorem vd_106_5 (E : ac_E) : ac_V E ac_MDf ac_HDf 106 5 (.inl (o_con (.int 7) 7)) := ⟨ok_bipush dd_106_5 (by decide), mn_con _ _⟩
theorem vd_106_7 (E : ac_E) : ac_V E ac_MDf ac_HDf 106 7 (.inl (o_ge 46 10)) := ⟨ok_icmpge dd_106_7 (by decide), mn_ge _ _⟩
theorem vd_106_10 (E : ac_E) : ac_V E ac_MDf ac_HDf 106 10 (.inl (o_ild 0 11)) := ⟨ok_iload_n dd_106_10, mn_ild _ _⟩
theorem vd_106_11 (E : ac_E) : ac_V E ac_MDf ac_HDf 106 11 (.inl (o_ild 3 12)) := ⟨ok_iload_n dd_106_11, mn_ild _ _⟩
theorem vd_106_12 (E : ac_E) : ac_V E ac_MDf ac_HDf 106 12 (.inr (.inl (70,2,15,0))) := ac_Vc0 ((ok_callS rfl (by decide) (by decide +kernel) wm_707 wm_56 wm_705 wm_706 dd_106_12).1) (fun _ => rfl)
theorem vd_106_15 (E : ac_E) : ac_V E ac_MDf ac_HDf 106 15 (.inl (o_eq0 38 18)) := ⟨ok_ifeq dd_106_15 (by decide), mn_eq0 _ _⟩
theorem vd_106_18 (E : ac_E) : ac_V E ac_MDf ac_HDf 106 18 (.inl (o_ild 2 19)) := ⟨ok_iload_n dd_106_18, mn_ild _ _⟩
theorem vd_106_19 (E : ac_E) : ac_V E ac_MDf ac_HDf 106 19 (.inl (o_ild 1 20)) := ⟨ok_iload_n dd_106_19, mn_ild _ _⟩
theorem vd_106_20 (E : ac_E) : ac_V E ac_MDf ac_HDf 106 20 (.inl (o_ne0 27 23)) := ⟨ok_ifne dd_106_20 (by decide), mn_ne0 _ _⟩
theorem vd_106_23 (E : ac_E) : ac_V E ac_MDf ac_HDf 106 23 (.inl (o_con (.int 1) 24)) := ⟨ok_iconst dd_106_23 (by decide), mn_con _ _⟩
theorem vd_106_24 (E : ac_E) : ac_V E ac_MDf ac_HDf 106 24 (.inl (o_go 34)) := ⟨ok_goto dd_106_24 (by decide), mn_go _⟩
theorem vd_106_27 (E : ac_E) : ac_V E ac_MDf ac_HDf 106 27 (.inl (o_ild 3 28)) := ⟨ok_iload_n dd_106_27, mn_ild _ _⟩
theorem vd_106_28 (E : ac_E) : ac_V E ac_MDf ac_HDf 106 28 (.inl (o_ild 1 29)) := ⟨ok_iload_n dd_106_28, mn_ild _ _⟩
theorem vd_106_29 (E : ac_E) : ac_V E ac_MDf ac_HDf 106 29 (.inl (o_con (.int 1) 30)) := ⟨ok_iconst dd_106_29 (by decide), mn_con _ _⟩
theorem vd_106_30 (E : ac_E) : ac_V E ac_MDf ac_HDf 106 30 (.inl (o_sub 31)) := ⟨ok_isub dd_106_30, mn_sub _⟩
theorem vd_106_31 (E : ac_E) : ac_V E ac_MDf ac_HDf 106 31 (.inr (.inl (69,2,34,0))) := ac_Vc0 ((ok_callS rfl (by decide) (by decide +kernel) wm_807 wm_56 wm_805 wm_806 dd_106_31).1) (fun _ => rfl)
theorem vd_106_34 (E : ac_E) : ac_V E ac_MDf ac_HDf 106 34 (.inl (o_add 35)) := ⟨ok_iadd dd_106_34, mn_add _⟩
theorem vd_106_35 (E : ac_E) : ac_V E ac_MDf ac_HDf 106 35 (.inl (o_go 39)) := ⟨ok_goto dd_106_35 (by decide), mn_go _⟩
theorem vd_106_38 (E : ac_E) : ac_V E ac_MDf ac_HDf 106 38 (.inl (o_ild 2 39)) := ⟨ok_iload_n dd_106_38, mn_ild _ _⟩
theorem vd_106_39 (E : ac_E) : ac_V E ac_MDf ac_HDf 106 39 (.inl (o_ist 2 40)) := ⟨ok_istore_n dd_106_39, mn_ist _ _⟩
theorem vd_106_40 (E : ac_E) : ac_V E ac_MDf ac_HDf 106 40 (.inl (o_inc 3 1 43)) := ⟨ok_iinc dd_106_40 (by decide), mn_inc _ _ _⟩
theorem vd_106_43 (E : ac_E) : ac_V E ac_MDf ac_HDf 106 43 (.inl (o_go 4)) := ⟨ok_goto dd_106_43 (by decide), mn_go _⟩
theorem vd_106_46 (E : ac_E) : ac_V E ac_MDf ac_HDf 106 46 (.inl (o_ild 2 47)) := ⟨ok_iload_n dd_106_46, mn_ild _ _⟩
theorem vd_106_47 (E : ac_E) : ac_V E ac_MDf ac_HDf 106 47 (.inr (.inr (.inl 1))) := ⟨fun q => nomatch q, fun _ => ⟨dd_106_47, rfl⟩, fun q => nomatch q⟩
theorem va_106 (E : ac_E) (pc : Nat) : ac_V E ac_MDf ac_HDf 106 pc (tb_106 (ac_len E) (ac_xs E) pc) := (ac_node (ac_node (ac_node (ac_node (ac_leaf 0 (vd_106_0 E)) (ac_node (ac_leaf 1 (vd_106_1 E)) (ac_leaf 2 (vd_106_2 E)))) (ac_node (ac_node (ac_leaf 3 (vd_106_3 E)) (ac_leaf 4 (vd_106_4 E))) (ac_node (ac_leaf 5 (vd_106_5 E)) (ac_leaf 7 (vd_106_7 E))))) (ac_node (ac_node (ac_leaf 10 (vd_106_10 E)) (ac_node (ac_leaf 11 (vd_106_11 E)) (ac_leaf 12 (vd_106_12 E)))) (ac_node (ac_node (ac_leaf 15 (vd_106_15 E)) (ac_leaf 18 (vd_106_18 E))) (ac_node (ac_leaf 19 (vd_106_19 E)) (ac_leaf 20 (vd_106_20 E)))))) (ac_node (ac_node (ac_node (ac_leaf 23 (vd_106_23 E)) (ac_node (ac_leaf 24 (vd_106_24 E)) (ac_leaf 27 (vd_106_27 E)))) (ac_node (ac_node (ac_leaf 28 (vd_106_28 E)) (ac_leaf 29 (vd_106_29 E))) (ac_node (ac_leaf 30 (vd_106_30 E)) (ac_leaf 31 (vd_106_31 E))))) (ac_node (ac_node (ac_node (ac_leaf 34 (vd_106_34 E)) (ac_leaf 35 (vd_106_35 E))) (ac_node (ac_leaf 38 (vd_106_38 E)) (ac_leaf 39 (vd_106_39 E)))) (ac_node (ac_node (ac_leaf 40 (vd_106_40 E)) (ac_leaf 43 (vd_106_43 E))) (ac_node (ac_leaf 46 (vd_106_46 E)) (ac_leaf 47 (vd_106_47 E)))))))
theorem vd_107_0 (E : ac_E) : ac_V E ac_MDf ac_HDf 107 0 (.inl (o_ald 0 1)) := ⟨ok_aload_n dd_107_0, mn_ald _ _⟩
theorem vd_107_1 (E : ac_E) : ac_V E ac_MDf ac_HDf 107 1 (.inl (o_ild 1 2)) := ⟨ok_iload_n dd_107_1, mn_ild _ _⟩
theorem vd_107_2 (E : ac_E) : ac_V E ac_MDf ac_HDf 107 2 (.inl (o_ild 2 3)) := ⟨ok_iload_n dd_107_2, mn_ild _ _⟩
theorem vd_107_3 (E : ac_E) : ac_V E ac_MDf ac_HDf 107 3 (.inr (.inl (68,3,6,7))) := ac_Vc0 ((ok_callV (T := TX5) (N := 17) rfl rfl (by decide) (by decide +kernel) wm_715 wm_56 wm_712 wm_714 wm_31 dd_107_3).1) (fun _ => rfl)
theorem vd_107_6 (E : ac_E) : ac_V E ac_MDf ac_HDf 107 6 (.inl (o_eq0 43 9)) := ⟨ok_ifeq dd_107_6 (by decide), mn_eq0 _ _⟩
theorem vd_107_9 (E : ac_E) : ac_V E ac_MDf ac_HDf 107 9 (.inl (o_ild 3 10)) := ⟨ok_iload_n dd_107_9, mn_ild _ _⟩
theorem vd_107_10 (E : ac_E) : ac_V E ac_MDf ac_HDf 107 10 (.inl (o_le0 43 13)) := ⟨ok_ifle dd_107_10 (by decide), mn_le0 _ _⟩
theorem vd_107_13 (E : ac_E) : ac_V E ac_MDf ac_HDf 107 13 (.inl (o_ild 4 15)) := ⟨ok_iload dd_107_13, mn_ild _ _⟩
theorem vd_107_15 (E : ac_E) : ac_V E ac_MDf ac_HDf 107 15 (.inl (o_le0 43 18)) := ⟨ok_ifle dd_107_15 (by decide), mn_le0 _ _⟩
theorem vd_107_18 (E : ac_E) : ac_V E ac_MDf ac_HDf 107 18 (.inl (o_ild 3 19)) := ⟨ok_iload_n dd_107_18, mn_ild _ _⟩
theorem vd_107_19 (E : ac_E) : ac_V E ac_MDf ac_HDf 107 19 (.inl (o_ald 0 20)) := ⟨ok_aload_n dd_107_19, mn_ald _ _⟩
theorem vd_107_20 (E : ac_E) : ac_V E ac_MDf ac_HDf 107 20 (.inl (o_get 5 1 23)) := ⟨ok_getf (ci := 5) (f := 1) (C := RX5) (T := TX5) (N := 17) (ref := RX5) rfl win_5 (by decide) rfl wm_639 dd_107_20, mn_get _ _ _⟩
theorem vd_107_23 (E : ac_E) : ac_V E ac_MDf ac_HDf 107 23 (.inl (o_ild 1 24)) := ⟨ok_iload_n dd_107_23, mn_ild _ _⟩
theorem vd_107_24 (E : ac_E) : ac_V E ac_MDf ac_HDf 107 24 (.inl (o_sub 25)) := ⟨ok_isub dd_107_24, mn_sub _⟩
theorem vd_107_25 (E : ac_E) : ac_V E ac_MDf ac_HDf 107 25 (.inl (o_gt 43 28)) := ⟨ok_icmpgt dd_107_25 (by decide), mn_gt _ _⟩
theorem vd_107_28 (E : ac_E) : ac_V E ac_MDf ac_HDf 107 28 (.inl (o_ild 4 30)) := ⟨ok_iload dd_107_28, mn_ild _ _⟩
theorem vd_107_30 (E : ac_E) : ac_V E ac_MDf ac_HDf 107 30 (.inl (o_ald 0 31)) := ⟨ok_aload_n dd_107_30, mn_ald _ _⟩
theorem vd_107_31 (E : ac_E) : ac_V E ac_MDf ac_HDf 107 31 (.inl (o_get 5 2 34)) := ⟨ok_getf (ci := 5) (f := 2) (C := RX5) (T := TX5) (N := 17) (ref := RX5) rfl win_5 (by decide) rfl wm_640 dd_107_31, mn_get _ _ _⟩
theorem vd_107_34 (E : ac_E) : ac_V E ac_MDf ac_HDf 107 34 (.inl (o_ild 2 35)) := ⟨ok_iload_n dd_107_34, mn_ild _ _⟩
theorem vd_107_35 (E : ac_E) : ac_V E ac_MDf ac_HDf 107 35 (.inl (o_sub 36)) := ⟨ok_isub dd_107_35, mn_sub _⟩
theorem vd_107_36 (E : ac_E) : ac_V E ac_MDf ac_HDf 107 36 (.inl (o_gt 43 39)) := ⟨ok_icmpgt dd_107_36 (by decide), mn_gt _ _⟩
theorem vd_107_39 (E : ac_E) : ac_V E ac_MDf ac_HDf 107 39 (.inl (o_con (.int 1) 40)) := ⟨ok_iconst dd_107_39 (by decide), mn_con _ _⟩
theorem vd_107_40 (E : ac_E) : ac_V E ac_MDf ac_HDf 107 40 (.inl (o_go 44)) := ⟨ok_goto dd_107_40 (by decide), mn_go _⟩
theorem vd_107_43 (E : ac_E) : ac_V E ac_MDf ac_HDf 107 43 (.inl (o_con (.int 0) 44)) := ⟨ok_iconst dd_107_43 (by decide), mn_con _ _⟩
theorem vd_107_44 (E : ac_E) : ac_V E ac_MDf ac_HDf 107 44 (.inl (o_ist 6 46)) := ⟨ok_istore dd_107_44, mn_ist _ _⟩
theorem vd_107_46 (E : ac_E) : ac_V E ac_MDf ac_HDf 107 46 (.inl (o_ald 0 47)) := ⟨ok_aload_n dd_107_46, mn_ald _ _⟩
theorem vd_107_47 (E : ac_E) : ac_V E ac_MDf ac_HDf 107 47 (.inl (o_ild 6 49)) := ⟨ok_iload dd_107_47, mn_ild _ _⟩
theorem vd_107_49 (E : ac_E) : ac_V E ac_MDf ac_HDf 107 49 (.inl (o_ne0 56 52)) := ⟨ok_ifne dd_107_49 (by decide), mn_ne0 _ _⟩
theorem vd_107_52 (E : ac_E) : ac_V E ac_MDf ac_HDf 107 52 (.inl (o_con (.int 1) 53)) := ⟨ok_iconst dd_107_52 (by decide), mn_con _ _⟩
theorem vd_107_53 (E : ac_E) : ac_V E ac_MDf ac_HDf 107 53 (.inl (o_go 72)) := ⟨ok_goto dd_107_53 (by decide), mn_go _⟩
theorem vd_107_56 (E : ac_E) : ac_V E ac_MDf ac_HDf 107 56 (.inl (o_ild 5 58)) := ⟨ok_iload dd_107_56, mn_ild _ _⟩
theorem vd_107_58 (E : ac_E) : ac_V E ac_MDf ac_HDf 107 58 (.inl (o_lt0 67 61)) := ⟨ok_iflt dd_107_58 (by decide), mn_lt0 _ _⟩
theorem vd_107_61 (E : ac_E) : ac_V E ac_MDf ac_HDf 107 61 (.inl (o_ild 5 63)) := ⟨ok_iload dd_107_61, mn_ild _ _⟩
theorem vd_107_63 (E : ac_E) : ac_V E ac_MDf ac_HDf 107 63 (.inl (o_con (.int 2) 64)) := ⟨ok_iconst dd_107_63 (by decide), mn_con _ _⟩
theorem vd_107_64 (E : ac_E) : ac_V E ac_MDf ac_HDf 107 64 (.inl (o_le 71 67)) := ⟨ok_icmple dd_107_64 (by decide), mn_le _ _⟩
theorem vd_107_67 (E : ac_E) : ac_V E ac_MDf ac_HDf 107 67 (.inl (o_con (.int 2) 68)) := ⟨ok_iconst dd_107_67 (by decide), mn_con _ _⟩
theorem vd_107_68 (E : ac_E) : ac_V E ac_MDf ac_HDf 107 68 (.inl (o_go 72)) := ⟨ok_goto dd_107_68 (by decide), mn_go _⟩
theorem vd_107_71 (E : ac_E) : ac_V E ac_MDf ac_HDf 107 71 (.inl (o_con (.int 0) 72)) := ⟨ok_iconst dd_107_71 (by decide), mn_con _ _⟩
theorem vd_107_72 (E : ac_E) : ac_V E ac_MDf ac_HDf 107 72 (.inl (o_put 5 0 75)) := ⟨ok_putf (ci := 5) (f := 0) (C := RX5) (T := TX5) (N := 17) (ref := RX5) rfl win_5 (by decide) rfl tyX5 tyX5_ok nmX5 (by decide +kernel) rfl wm_638 dd_107_72, mn_put _ _ _⟩
theorem vd_107_75 (E : ac_E) : ac_V E ac_MDf ac_HDf 107 75 (.inl (o_con (.int 0) 76)) := ⟨ok_iconst dd_107_75 (by decide), mn_con _ _⟩
theorem vd_107_76 (E : ac_E) : ac_V E ac_MDf ac_HDf 107 76 (.inl (o_ist 7 78)) := ⟨ok_istore dd_107_76, mn_ist _ _⟩
theorem vd_107_78 (E : ac_E) : ac_V E ac_MDf ac_HDf 107 78 (.inl (o_con (.int 0) 79)) := ⟨ok_iconst dd_107_78 (by decide), mn_con _ _⟩
theorem vd_107_79 (E : ac_E) : ac_V E ac_MDf ac_HDf 107 79 (.inl (o_ist 8 81)) := ⟨ok_istore dd_107_79, mn_ist _ _⟩
theorem vd_107_81 (E : ac_E) : ac_V E ac_MDf ac_HDf 107 81 (.inl (o_ald 0 82)) := ⟨ok_aload_n dd_107_81, mn_ald _ _⟩
theorem vd_107_82 (E : ac_E) : ac_V E ac_MDf ac_HDf 107 82 (.inl (o_get 5 0 85)) := ⟨ok_getf (ci := 5) (f := 0) (C := RX5) (T := TX5) (N := 17) (ref := RX5) rfl win_5 (by decide) rfl wm_638 dd_107_82, mn_get _ _ _⟩
theorem vd_107_85 (E : ac_E) : ac_V E ac_MDf ac_HDf 107 85 (.inl (o_ne0 145 88)) := ⟨ok_ifne dd_107_85 (by decide), mn_ne0 _ _⟩
theorem vd_107_88 (E : ac_E) : ac_V E ac_MDf ac_HDf 107 88 (.inl (o_ild 8 90)) := ⟨ok_iload dd_107_88, mn_ild _ _⟩
theorem vd_107_90 (E : ac_E) : ac_V E ac_MDf ac_HDf 107 90 (.inl (o_ild 4 92)) := ⟨ok_iload dd_107_90, mn_ild _ _⟩
theorem vd_107_92 (E : ac_E) : ac_V E ac_MDf ac_HDf 107 92 (.inl (o_ge 145 95)) := ⟨ok_icmpge dd_107_92 (by decide), mn_ge _ _⟩
theorem vd_107_95 (E : ac_E) : ac_V E ac_MDf ac_HDf 107 95 (.inl (o_con (.int 0) 96)) := ⟨ok_iconst dd_107_95 (by decide), mn_con _ _⟩
theorem vd_107_96 (E : ac_E) : ac_V E ac_MDf ac_HDf 107 96 (.inl (o_ist 9 98)) := ⟨ok_istore dd_107_96, mn_ist _ _⟩
theorem vd_107_98 (E : ac_E) : ac_V E ac_MDf ac_HDf 107 98 (.inl (o_ild 9 100)) := ⟨ok_iload dd_107_98, mn_ild _ _⟩
theorem vd_107_100 (E : ac_E) : ac_V E ac_MDf ac_HDf 107 100 (.inl (o_ild 3 101)) := ⟨ok_iload_n dd_107_100, mn_ild _ _⟩
theorem vd_107_101 (E : ac_E) : ac_V E ac_MDf ac_HDf 107 101 (.inl (o_ge 139 104)) := ⟨ok_icmpge dd_107_101 (by decide), mn_ge _ _⟩
theorem vd_107_104 (E : ac_E) : ac_V E ac_MDf ac_HDf 107 104 (.inl (o_ild 7 106)) := ⟨ok_iload dd_107_104, mn_ild _ _⟩
theorem vd_107_106 (E : ac_E) : ac_V E ac_MDf ac_HDf 107 106 (.inl (o_ald 0 107)) := ⟨ok_aload_n dd_107_106, mn_ald _ _⟩
theorem vd_107_107 (E : ac_E) : ac_V E ac_MDf ac_HDf 107 107 (.inl (o_get 5 5 110)) := ⟨ok_getf (ci := 5) (f := 5) (C := RX5) (T := TX5) (N := 17) (ref := RX5) rfl win_5 (by decide) rfl wm_643 dd_107_107, mn_get _ _ _⟩
theorem vd_107_110 (E : ac_E) : ac_V E ac_MDf ac_HDf 107 110 (.inl (o_ald 0 111)) := ⟨ok_aload_n dd_107_110, mn_ald _ _⟩
theorem vd_107_111 (E : ac_E) : ac_V E ac_MDf ac_HDf 107 111 (.inl (o_get 5 1 114)) := ⟨ok_getf (ci := 5) (f := 1) (C := RX5) (T := TX5) (N := 17) (ref := RX5) rfl win_5 (by decide) rfl wm_639 dd_107_111, mn_get _ _ _⟩
theorem vd_107_114 (E : ac_E) : ac_V E ac_MDf ac_HDf 107 114 (.inl (o_ild 2 115)) := ⟨ok_iload_n dd_107_114, mn_ild _ _⟩
theorem vd_107_115 (E : ac_E) : ac_V E ac_MDf ac_HDf 107 115 (.inl (o_ild 8 117)) := ⟨ok_iload dd_107_115, mn_ild _ _⟩
theorem vd_107_117 (E : ac_E) : ac_V E ac_MDf ac_HDf 107 117 (.inl (o_add 118)) := ⟨ok_iadd dd_107_117, mn_add _⟩
theorem vd_107_118 (E : ac_E) : ac_V E ac_MDf ac_HDf 107 118 (.inl (o_mul 119)) := ⟨ok_imul dd_107_118, mn_mul _⟩
theorem vd_107_119 (E : ac_E) : ac_V E ac_MDf ac_HDf 107 119 (.inl (o_ild 1 120)) := ⟨ok_iload_n dd_107_119, mn_ild _ _⟩
theorem vd_107_120 (E : ac_E) : ac_V E ac_MDf ac_HDf 107 120 (.inl (o_add 121)) := ⟨ok_iadd dd_107_120, mn_add _⟩
theorem vd_107_121 (E : ac_E) : ac_V E ac_MDf ac_HDf 107 121 (.inl (o_ild 9 123)) := ⟨ok_iload dd_107_121, mn_ild _ _⟩
theorem vd_107_123 (E : ac_E) : ac_V E ac_MDf ac_HDf 107 123 (.inl (o_add 124)) := ⟨ok_iadd dd_107_123, mn_add _⟩
theorem vd_107_124 (E : ac_E) : ac_V E ac_MDf ac_HDf 107 124 (.inl (o_ia 125)) := ⟨ok_iaload dd_107_124, mn_ia _⟩
theorem vd_107_125 (E : ac_E) : ac_V E ac_MDf ac_HDf 107 125 (.inl (o_ild 5 127)) := ⟨ok_iload dd_107_125, mn_ild _ _⟩
theorem vd_107_127 (E : ac_E) : ac_V E ac_MDf ac_HDf 107 127 (.inr (.inl (106,2,130,0))) := ac_Vc0 ((ok_callS rfl (by decide) (by decide +kernel) wm_847 wm_56 wm_845 wm_846 dd_107_127).1) (fun _ => rfl)
theorem vd_107_130 (E : ac_E) : ac_V E ac_MDf ac_HDf 107 130 (.inl (o_add 131)) := ⟨ok_iadd dd_107_130, mn_add _⟩
theorem vd_107_131 (E : ac_E) : ac_V E ac_MDf ac_HDf 107 131 (.inl (o_ist 7 133)) := ⟨ok_istore dd_107_131, mn_ist _ _⟩
theorem vd_107_133 (E : ac_E) : ac_V E ac_MDf ac_HDf 107 133 (.inl (o_inc 9 1 136)) := ⟨ok_iinc dd_107_133 (by decide), mn_inc _ _ _⟩
theorem vd_107_136 (E : ac_E) : ac_V E ac_MDf ac_HDf 107 136 (.inl (o_go 98)) := ⟨ok_goto dd_107_136 (by decide), mn_go _⟩
theorem vd_107_139 (E : ac_E) : ac_V E ac_MDf ac_HDf 107 139 (.inl (o_inc 8 1 142)) := ⟨ok_iinc dd_107_139 (by decide), mn_inc _ _ _⟩
theorem vd_107_142 (E : ac_E) : ac_V E ac_MDf ac_HDf 107 142 (.inl (o_go 81)) := ⟨ok_goto dd_107_142 (by decide), mn_go _⟩
theorem vd_107_145 (E : ac_E) : ac_V E ac_MDf ac_HDf 107 145 (.inl (o_ild 7 147)) := ⟨ok_iload dd_107_145, mn_ild _ _⟩
theorem vd_107_147 (E : ac_E) : ac_V E ac_MDf ac_HDf 107 147 (.inr (.inr (.inl 1))) := ⟨fun q => nomatch q, fun _ => ⟨dd_107_147, rfl⟩, fun q => nomatch q⟩
theorem va_107 (E : ac_E) (pc : Nat) : ac_V E ac_MDf ac_HDf 107 pc (tb_107 (ac_len E) (ac_xs E) pc) := (ac_node (ac_node (ac_node (ac_node (ac_node (ac_node (ac_leaf 0 (vd_107_0 E)) (ac_leaf 1 (vd_107_1 E))) (ac_node (ac_leaf 2 (vd_107_2 E)) (ac_leaf 3 (vd_107_3 E)))) (ac_node (ac_node (ac_leaf 6 (vd_107_6 E)) (ac_leaf 9 (vd_107_9 E))) (ac_node (ac_leaf 10 (vd_107_10 E)) (ac_node (ac_leaf 13 (vd_107_13 E)) (ac_leaf 15 (vd_107_15 E)))))) (ac_node (ac_node (ac_node (ac_leaf 18 (vd_107_18 E)) (ac_leaf 19 (vd_107_19 E))) (ac_node (ac_leaf 20 (vd_107_20 E)) (ac_node (ac_leaf 23 (vd_107_23 E)) (ac_leaf 24 (vd_107_24 E))))) (ac_node (ac_node (ac_leaf 25 (vd_107_25 E)) (ac_leaf 28 (vd_107_28 E))) (ac_node (ac_leaf 30 (vd_107_30 E)) (ac_node (ac_leaf 31 (vd_107_31 E)) (ac_leaf 34 (vd_107_34 E))))))) (ac_node (ac_node (ac_node (ac_node (ac_leaf 35 (vd_107_35 E)) (ac_leaf 36 (vd_107_36 E))) (ac_node (ac_leaf 39 (vd_107_39 E)) (ac_node (ac_leaf 40 (vd_107_40 E)) (ac_leaf 43 (vd_107_43 E))))) (ac_node (ac_node (ac_leaf 44 (vd_107_44 E)) (ac_leaf 46 (vd_107_46 E))) (ac_node (ac_leaf 47 (vd_107_47 E)) (ac_node (ac_leaf 49 (vd_107_49 E)) (ac_leaf 52 (vd_107_52 E)))))) (ac_node (ac_node (ac_node (ac_leaf 53 (vd_107_53 E)) (ac_leaf 56 (vd_107_56 E))) (ac_node (ac_leaf 58 (vd_107_58 E)) (ac_node (ac_leaf 61 (vd_107_61 E)) (ac_leaf 63 (vd_107_63 E))))) (ac_node (ac_node (ac_leaf 64 (vd_107_64 E)) (ac_leaf 67 (vd_107_67 E))) (ac_node (ac_leaf 68 (vd_107_68 E)) (ac_node (ac_leaf 71 (vd_107_71 E)) (ac_leaf 72 (vd_107_72 E)))))))) (ac_node (ac_node (ac_node (ac_node (ac_node (ac_leaf 75 (vd_107_75 E)) (ac_leaf 76 (vd_107_76 E))) (ac_node (ac_leaf 78 (vd_107_78 E)) (ac_leaf 79 (vd_107_79 E)))) (ac_node (ac_node (ac_leaf 81 (vd_107_81 E)) (ac_leaf 82 (vd_107_82 E))) (ac_node (ac_leaf 85 (vd_107_85 E)) (ac_node (ac_leaf 88 (vd_107_88 E)) (ac_leaf 90 (vd_107_90 E)))))) (ac_node (ac_node (ac_node (ac_leaf 92 (vd_107_92 E)) (ac_leaf 95 (vd_107_95 E))) (ac_node (ac_leaf 96 (vd_107_96 E)) (ac_node (ac_leaf 98 (vd_107_98 E)) (ac_leaf 100 (vd_107_100 E))))) (ac_node (ac_node (ac_leaf 101 (vd_107_101 E)) (ac_leaf 104 (vd_107_104 E))) (ac_node (ac_leaf 106 (vd_107_106 E)) (ac_node (ac_leaf 107 (vd_107_107 E)) (ac_leaf 110 (vd_107_110 E))))))) (ac_node (ac_node (ac_node (ac_node (ac_leaf 111 (vd_107_111 E)) (ac_leaf 114 (vd_107_114 E))) (ac_node (ac_leaf 115 (vd_107_115 E)) (ac_node (ac_leaf 117 (vd_107_117 E)) (ac_leaf 118 (vd_107_118 E))))) (ac_node (ac_node (ac_leaf 119 (vd_107_119 E)) (ac_leaf 120 (vd_107_120 E))) (ac_node (ac_leaf 121 (vd_107_121 E)) (ac_node (ac_leaf 123 (vd_107_123 E)) (ac_leaf 124 (vd_107_124 E)))))) (ac_node (ac_node (ac_node (ac_leaf 125 (vd_107_125 E)) (ac_leaf 127 (vd_107_127 E))) (ac_node (ac_leaf 130 (vd_107_130 E)) (ac_node (ac_leaf 131 (vd_107_131 E)) (ac_leaf 133 (vd_107_133 E))))) (ac_node (ac_node (ac_leaf 136 (vd_107_136 E)) (ac_leaf 139 (vd_107_139 E))) (ac_node (ac_leaf 142 (vd_107_142 E)) (ac_node (ac_leaf 145 (vd_107_145 E)) (ac_leaf 147 (vd_107_147 E)))))))))
theorem vd_108_0 (E : ac_E) : ac_V E ac_MDf ac_HDf 108 0 (.inl (o_ald 0 1)) := ⟨ok_aload_n dd_108_0, mn_ald _ _⟩
theorem vd_108_1 (E : ac_E) : ac_V E ac_MDf ac_HDf 108 1 (.inl (o_ild 1 2)) := ⟨ok_iload_n dd_108_1, mn_ild _ _⟩
theorem vd_108_2 (E : ac_E) : ac_V E ac_MDf ac_HDf 108 2 (.inl (o_lt0 19 5)) := ⟨ok_iflt dd_108_2 (by decide), mn_lt0 _ _⟩
theorem vd_108_5 (E : ac_E) : ac_V E ac_MDf ac_HDf 108 5 (.inl (o_ild 1 6)) := ⟨ok_iload_n dd_108_5, mn_ild _ _⟩
theorem vd_108_6 (E : ac_E) : ac_V E ac_MDf ac_HDf 108 6 (.inl (o_con (.int 3) 7)) := ⟨ok_iconst dd_108_6 (by decide), mn_con _ _⟩
theorem vd_108_7 (E : ac_E) : ac_V E ac_MDf ac_HDf 108 7 (.inl (o_gt 19 10)) := ⟨ok_icmpgt dd_108_7 (by decide), mn_gt _ _⟩
theorem vd_108_10 (E : ac_E) : ac_V E ac_MDf ac_HDf 108 10 (.inl (o_ild 2 11)) := ⟨ok_iload_n dd_108_10, mn_ild _ _⟩
theorem vd_108_11 (E : ac_E) : ac_V E ac_MDf ac_HDf 108 11 (.inl (o_lt0 19 14)) := ⟨ok_iflt dd_108_11 (by decide), mn_lt0 _ _⟩
theorem vd_108_14 (E : ac_E) : ac_V E ac_MDf ac_HDf 108 14 (.inl (o_ild 2 15)) := ⟨ok_iload_n dd_108_14, mn_ild _ _⟩
theorem vd_108_15 (E : ac_E) : ac_V E ac_MDf ac_HDf 108 15 (.inl (o_con (.int 2) 16)) := ⟨ok_iconst dd_108_15 (by decide), mn_con _ _⟩
theorem vd_108_16 (E : ac_E) : ac_V E ac_MDf ac_HDf 108 16 (.inl (o_le 23 19)) := ⟨ok_icmple dd_108_16 (by decide), mn_le _ _⟩
theorem vd_108_19 (E : ac_E) : ac_V E ac_MDf ac_HDf 108 19 (.inl (o_con (.int 1) 20)) := ⟨ok_iconst dd_108_19 (by decide), mn_con _ _⟩
theorem vd_108_20 (E : ac_E) : ac_V E ac_MDf ac_HDf 108 20 (.inl (o_go 24)) := ⟨ok_goto dd_108_20 (by decide), mn_go _⟩
theorem vd_108_23 (E : ac_E) : ac_V E ac_MDf ac_HDf 108 23 (.inl (o_con (.int 0) 24)) := ⟨ok_iconst dd_108_23 (by decide), mn_con _ _⟩
theorem vd_108_24 (E : ac_E) : ac_V E ac_MDf ac_HDf 108 24 (.inl (o_put 5 0 27)) := ⟨ok_putf (ci := 5) (f := 0) (C := RX5) (T := TX5) (N := 17) (ref := RX5) rfl win_5 (by decide) rfl tyX5 tyX5_ok nmX5 (by decide +kernel) rfl wm_638 dd_108_24, mn_put _ _ _⟩
theorem vd_108_27 (E : ac_E) : ac_V E ac_MDf ac_HDf 108 27 (.inl (o_ald 0 28)) := ⟨ok_aload_n dd_108_27, mn_ald _ _⟩
theorem vd_108_28 (E : ac_E) : ac_V E ac_MDf ac_HDf 108 28 (.inl (o_get 5 0 31)) := ⟨ok_getf (ci := 5) (f := 0) (C := RX5) (T := TX5) (N := 17) (ref := RX5) rfl win_5 (by decide) rfl wm_638 dd_108_28, mn_get _ _ _⟩
theorem vd_108_31 (E : ac_E) : ac_V E ac_MDf ac_HDf 108 31 (.inl (o_le0 38 34)) := ⟨ok_ifle dd_108_31 (by decide), mn_le0 _ _⟩
theorem vd_108_34 (E : ac_E) : ac_V E ac_MDf ac_HDf 108 34 (.inl (o_con (.int 0) 35)) := ⟨ok_iconst dd_108_34 (by decide), mn_con _ _⟩
theorem vd_108_35 (E : ac_E) : ac_V E ac_MDf ac_HDf 108 35 (.inl (o_go 48)) := ⟨ok_goto dd_108_35 (by decide), mn_go _⟩
theorem vd_108_38 (E : ac_E) : ac_V E ac_MDf ac_HDf 108 38 (.inl (o_ald 0 39)) := ⟨ok_aload_n dd_108_38, mn_ald _ _⟩
theorem vd_108_39 (E : ac_E) : ac_V E ac_MDf ac_HDf 108 39 (.inl (o_get 5 10 42)) := ⟨ok_getf (ci := 5) (f := 10) (C := RX5) (T := TX5) (N := 17) (ref := RX5) rfl win_5 (by decide) rfl wm_648 dd_108_39, mn_get _ _ _⟩
theorem vd_108_42 (E : ac_E) : ac_V E ac_MDf ac_HDf 108 42 (.inl (o_con (.int 3) 43)) := ⟨ok_iconst dd_108_42 (by decide), mn_con _ _⟩
theorem vd_108_43 (E : ac_E) : ac_V E ac_MDf ac_HDf 108 43 (.inl (o_ild 1 44)) := ⟨ok_iload_n dd_108_43, mn_ild _ _⟩
theorem vd_108_44 (E : ac_E) : ac_V E ac_MDf ac_HDf 108 44 (.inl (o_mul 45)) := ⟨ok_imul dd_108_44, mn_mul _⟩
theorem vd_108_45 (E : ac_E) : ac_V E ac_MDf ac_HDf 108 45 (.inl (o_ild 2 46)) := ⟨ok_iload_n dd_108_45, mn_ild _ _⟩
theorem vd_108_46 (E : ac_E) : ac_V E ac_MDf ac_HDf 108 46 (.inl (o_add 47)) := ⟨ok_iadd dd_108_46, mn_add _⟩
theorem vd_108_47 (E : ac_E) : ac_V E ac_MDf ac_HDf 108 47 (.inl (o_ia 48)) := ⟨ok_iaload dd_108_47, mn_ia _⟩
theorem vd_108_48 (E : ac_E) : ac_V E ac_MDf ac_HDf 108 48 (.inr (.inr (.inl 1))) := ⟨fun q => nomatch q, fun _ => ⟨dd_108_48, rfl⟩, fun q => nomatch q⟩
theorem va_108 (E : ac_E) (pc : Nat) : ac_V E ac_MDf ac_HDf 108 pc (tb_108 (ac_len E) (ac_xs E) pc) := (ac_node (ac_node (ac_node (ac_node (ac_leaf 0 (vd_108_0 E)) (ac_node (ac_leaf 1 (vd_108_1 E)) (ac_leaf 2 (vd_108_2 E)))) (ac_node (ac_node (ac_leaf 5 (vd_108_5 E)) (ac_leaf 6 (vd_108_6 E))) (ac_node (ac_leaf 7 (vd_108_7 E)) (ac_leaf 10 (vd_108_10 E))))) (ac_node (ac_node (ac_leaf 11 (vd_108_11 E)) (ac_node (ac_leaf 14 (vd_108_14 E)) (ac_leaf 15 (vd_108_15 E)))) (ac_node (ac_node (ac_leaf 16 (vd_108_16 E)) (ac_leaf 19 (vd_108_19 E))) (ac_node (ac_leaf 20 (vd_108_20 E)) (ac_leaf 23 (vd_108_23 E)))))) (ac_node (ac_node (ac_node (ac_leaf 24 (vd_108_24 E)) (ac_node (ac_leaf 27 (vd_108_27 E)) (ac_leaf 28 (vd_108_28 E)))) (ac_node (ac_node (ac_leaf 31 (vd_108_31 E)) (ac_leaf 34 (vd_108_34 E))) (ac_node (ac_leaf 35 (vd_108_35 E)) (ac_leaf 38 (vd_108_38 E))))) (ac_node (ac_node (ac_node (ac_leaf 39 (vd_108_39 E)) (ac_leaf 42 (vd_108_42 E))) (ac_node (ac_leaf 43 (vd_108_43 E)) (ac_leaf 44 (vd_108_44 E)))) (ac_node (ac_node (ac_leaf 45 (vd_108_45 E)) (ac_leaf 46 (vd_108_46 E))) (ac_node (ac_leaf 47 (vd_108_47 E)) (ac_leaf 48 (vd_108_48 E)))))))
theorem vd_109_0 (E : ac_E) : ac_V E ac_MDf ac_HDf 109 0 (.inl (o_ald 0 1)) := ⟨ok_aload_n dd_109_0, mn_ald _ _⟩
theorem vd_109_1 (E : ac_E) : ac_V E ac_MDf ac_HDf 109 1 (.inl (o_con (.int 0) 2)) := ⟨ok_iconst dd_109_1 (by decide), mn_con _ _⟩
theorem vd_109_2 (E : ac_E) : ac_V E ac_MDf ac_HDf 109 2 (.inl (o_put 5 0 5)) := ⟨ok_putf (ci := 5) (f := 0) (C := RX5) (T := TX5) (N := 17) (ref := RX5) rfl win_5 (by decide) rfl tyX5 tyX5_ok nmX5 (by decide +kernel) rfl wm_638 dd_109_2, mn_put _ _ _⟩
theorem vd_109_5 (E : ac_E) : ac_V E ac_MDf ac_HDf 109 5 (.inl (o_con (.int 0) 6)) := ⟨ok_iconst dd_109_5 (by decide), mn_con _ _⟩
theorem vd_109_6 (E : ac_E) : ac_V E ac_MDf ac_HDf 109 6 (.inl (o_ist 1 7)) := ⟨ok_istore_n dd_109_6, mn_ist _ _⟩
theorem vd_109_7 (E : ac_E) : ac_V E ac_MDf ac_HDf 109 7 (.inl (o_con (.int 0) 8)) := ⟨ok_iconst dd_109_7 (by decide), mn_con _ _⟩
theorem vd_109_8 (E : ac_E) : ac_V E ac_MDf ac_HDf 109 8 (.inl (o_ist 2 9)) := ⟨ok_istore_n dd_109_8, mn_ist _ _⟩
theorem vd_109_9 (E : ac_E) : ac_V E ac_MDf ac_HDf 109 9 (.inl (o_ild 2 10)) := ⟨ok_iload_n dd_109_9, mn_ild _ _⟩
theorem vd_109_10 (E : ac_E) : ac_V E ac_MDf ac_HDf 109 10 (.inl (o_ald 0 11)) := ⟨ok_aload_n dd_109_10, mn_ald _ _⟩
theorem vd_109_11 (E : ac_E) : ac_V E ac_MDf ac_HDf 109 11 (.inl (o_get 5 2 14)) := ⟨ok_getf (ci := 5) (f := 2) (C := RX5) (T := TX5) (N := 17) (ref := RX5) rfl win_5 (by decide) rfl wm_640 dd_109_11, mn_get _ _ _⟩
theorem vd_109_14 (E : ac_E) : ac_V E ac_MDf ac_HDf 109 14 (.inl (o_ge 64 17)) := ⟨ok_icmpge dd_109_14 (by decide), mn_ge _ _⟩
theorem vd_109_17 (E : ac_E) : ac_V E ac_MDf ac_HDf 109 17 (.inl (o_con (.int 0) 18)) := ⟨ok_iconst dd_109_17 (by decide), mn_con _ _⟩
theorem vd_109_18 (E : ac_E) : ac_V E ac_MDf ac_HDf 109 18 (.inl (o_ist 3 19)) := ⟨ok_istore_n dd_109_18, mn_ist _ _⟩
theorem vd_109_19 (E : ac_E) : ac_V E ac_MDf ac_HDf 109 19 (.inl (o_ild 3 20)) := ⟨ok_iload_n dd_109_19, mn_ild _ _⟩
theorem vd_109_20 (E : ac_E) : ac_V E ac_MDf ac_HDf 109 20 (.inl (o_ald 0 21)) := ⟨ok_aload_n dd_109_20, mn_ald _ _⟩
theorem vd_109_21 (E : ac_E) : ac_V E ac_MDf ac_HDf 109 21 (.inl (o_get 5 1 24)) := ⟨ok_getf (ci := 5) (f := 1) (C := RX5) (T := TX5) (N := 17) (ref := RX5) rfl win_5 (by decide) rfl wm_639 dd_109_21, mn_get _ _ _⟩
theorem vd_109_24 (E : ac_E) : ac_V E ac_MDf ac_HDf 109 24 (.inl (o_ge 58 27)) := ⟨ok_icmpge dd_109_24 (by decide), mn_ge _ _⟩
theorem vd_109_27 (E : ac_E) : ac_V E ac_MDf ac_HDf 109 27 (.inl (o_ild 1 28)) := ⟨ok_iload_n dd_109_27, mn_ild _ _⟩
theorem vd_109_28 (E : ac_E) : ac_V E ac_MDf ac_HDf 109 28 (.inl (o_ald 0 29)) := ⟨ok_aload_n dd_109_28, mn_ald _ _⟩
theorem vd_109_29 (E : ac_E) : ac_V E ac_MDf ac_HDf 109 29 (.inl (o_get 5 5 32)) := ⟨ok_getf (ci := 5) (f := 5) (C := RX5) (T := TX5) (N := 17) (ref := RX5) rfl win_5 (by decide) rfl wm_643 dd_109_29, mn_get _ _ _⟩
theorem vd_109_32 (E : ac_E) : ac_V E ac_MDf ac_HDf 109 32 (.inl (o_ald 0 33)) := ⟨ok_aload_n dd_109_32, mn_ald _ _⟩
theorem vd_109_33 (E : ac_E) : ac_V E ac_MDf ac_HDf 109 33 (.inl (o_get 5 1 36)) := ⟨ok_getf (ci := 5) (f := 1) (C := RX5) (T := TX5) (N := 17) (ref := RX5) rfl win_5 (by decide) rfl wm_639 dd_109_33, mn_get _ _ _⟩
theorem vd_109_36 (E : ac_E) : ac_V E ac_MDf ac_HDf 109 36 (.inl (o_ild 2 37)) := ⟨ok_iload_n dd_109_36, mn_ild _ _⟩
theorem vd_109_37 (E : ac_E) : ac_V E ac_MDf ac_HDf 109 37 (.inl (o_mul 38)) := ⟨ok_imul dd_109_37, mn_mul _⟩
theorem vd_109_38 (E : ac_E) : ac_V E ac_MDf ac_HDf 109 38 (.inl (o_ild 3 39)) := ⟨ok_iload_n dd_109_38, mn_ild _ _⟩
theorem vd_109_39 (E : ac_E) : ac_V E ac_MDf ac_HDf 109 39 (.inl (o_add 40)) := ⟨ok_iadd dd_109_39, mn_add _⟩
theorem vd_109_40 (E : ac_E) : ac_V E ac_MDf ac_HDf 109 40 (.inl (o_ia 41)) := ⟨ok_iaload dd_109_40, mn_ia _⟩
theorem vd_109_41 (E : ac_E) : ac_V E ac_MDf ac_HDf 109 41 (.inl (o_con (.int 16) 43)) := ⟨ok_bipush dd_109_41 (by decide), mn_con _ _⟩
theorem vd_109_43 (E : ac_E) : ac_V E ac_MDf ac_HDf 109 43 (.inl (o_ild 2 44)) := ⟨ok_iload_n dd_109_43, mn_ild _ _⟩
theorem vd_109_44 (E : ac_E) : ac_V E ac_MDf ac_HDf 109 44 (.inl (o_mul 45)) := ⟨ok_imul dd_109_44, mn_mul _⟩
theorem vd_109_45 (E : ac_E) : ac_V E ac_MDf ac_HDf 109 45 (.inl (o_ild 3 46)) := ⟨ok_iload_n dd_109_45, mn_ild _ _⟩
theorem vd_109_46 (E : ac_E) : ac_V E ac_MDf ac_HDf 109 46 (.inl (o_add 47)) := ⟨ok_iadd dd_109_46, mn_add _⟩
theorem vd_109_47 (E : ac_E) : ac_V E ac_MDf ac_HDf 109 47 (.inl (o_con (.int 1) 48)) := ⟨ok_iconst dd_109_47 (by decide), mn_con _ _⟩
theorem vd_109_48 (E : ac_E) : ac_V E ac_MDf ac_HDf 109 48 (.inl (o_add 49)) := ⟨ok_iadd dd_109_48, mn_add _⟩
theorem vd_109_49 (E : ac_E) : ac_V E ac_MDf ac_HDf 109 49 (.inl (o_mul 50)) := ⟨ok_imul dd_109_49, mn_mul _⟩
theorem vd_109_50 (E : ac_E) : ac_V E ac_MDf ac_HDf 109 50 (.inl (o_add 51)) := ⟨ok_iadd dd_109_50, mn_add _⟩
theorem vd_109_51 (E : ac_E) : ac_V E ac_MDf ac_HDf 109 51 (.inl (o_ist 1 52)) := ⟨ok_istore_n dd_109_51, mn_ist _ _⟩
theorem vd_109_52 (E : ac_E) : ac_V E ac_MDf ac_HDf 109 52 (.inl (o_inc 3 1 55)) := ⟨ok_iinc dd_109_52 (by decide), mn_inc _ _ _⟩
theorem vd_109_55 (E : ac_E) : ac_V E ac_MDf ac_HDf 109 55 (.inl (o_go 19)) := ⟨ok_goto dd_109_55 (by decide), mn_go _⟩
theorem vd_109_58 (E : ac_E) : ac_V E ac_MDf ac_HDf 109 58 (.inl (o_inc 2 1 61)) := ⟨ok_iinc dd_109_58 (by decide), mn_inc _ _ _⟩
theorem vd_109_61 (E : ac_E) : ac_V E ac_MDf ac_HDf 109 61 (.inl (o_go 9)) := ⟨ok_goto dd_109_61 (by decide), mn_go _⟩
theorem vd_109_64 (E : ac_E) : ac_V E ac_MDf ac_HDf 109 64 (.inl (o_ild 1 65)) := ⟨ok_iload_n dd_109_64, mn_ild _ _⟩
theorem vd_109_65 (E : ac_E) : ac_V E ac_MDf ac_HDf 109 65 (.inr (.inr (.inl 1))) := ⟨fun q => nomatch q, fun _ => ⟨dd_109_65, rfl⟩, fun q => nomatch q⟩
theorem va_109 (E : ac_E) (pc : Nat) : ac_V E ac_MDf ac_HDf 109 pc (tb_109 (ac_len E) (ac_xs E) pc) := (ac_node (ac_node (ac_node (ac_node (ac_node (ac_leaf 0 (vd_109_0 E)) (ac_leaf 1 (vd_109_1 E))) (ac_node (ac_leaf 2 (vd_109_2 E)) (ac_node (ac_leaf 5 (vd_109_5 E)) (ac_leaf 6 (vd_109_6 E))))) (ac_node (ac_node (ac_leaf 7 (vd_109_7 E)) (ac_leaf 8 (vd_109_8 E))) (ac_node (ac_leaf 9 (vd_109_9 E)) (ac_node (ac_leaf 10 (vd_109_10 E)) (ac_leaf 11 (vd_109_11 E)))))) (ac_node (ac_node (ac_node (ac_leaf 14 (vd_109_14 E)) (ac_leaf 17 (vd_109_17 E))) (ac_node (ac_leaf 18 (vd_109_18 E)) (ac_node (ac_leaf 19 (vd_109_19 E)) (ac_leaf 20 (vd_109_20 E))))) (ac_node (ac_node (ac_leaf 21 (vd_109_21 E)) (ac_node (ac_leaf 24 (vd_109_24 E)) (ac_leaf 27 (vd_109_27 E)))) (ac_node (ac_leaf 28 (vd_109_28 E)) (ac_node (ac_leaf 29 (vd_109_29 E)) (ac_leaf 32 (vd_109_32 E))))))) (ac_node (ac_node (ac_node (ac_node (ac_leaf 33 (vd_109_33 E)) (ac_leaf 36 (vd_109_36 E))) (ac_node (ac_leaf 37 (vd_109_37 E)) (ac_node (ac_leaf 38 (vd_109_38 E)) (ac_leaf 39 (vd_109_39 E))))) (ac_node (ac_node (ac_leaf 40 (vd_109_40 E)) (ac_node (ac_leaf 41 (vd_109_41 E)) (ac_leaf 43 (vd_109_43 E)))) (ac_node (ac_leaf 44 (vd_109_44 E)) (ac_node (ac_leaf 45 (vd_109_45 E)) (ac_leaf 46 (vd_109_46 E)))))) (ac_node (ac_node (ac_node (ac_leaf 47 (vd_109_47 E)) (ac_leaf 48 (vd_109_48 E))) (ac_node (ac_leaf 49 (vd_109_49 E)) (ac_node (ac_leaf 50 (vd_109_50 E)) (ac_leaf 51 (vd_109_51 E))))) (ac_node (ac_node (ac_leaf 52 (vd_109_52 E)) (ac_node (ac_leaf 55 (vd_109_55 E)) (ac_leaf 58 (vd_109_58 E)))) (ac_node (ac_leaf 61 (vd_109_61 E)) (ac_node (ac_leaf 64 (vd_109_64 E)) (ac_leaf 65 (vd_109_65 E))))))))
theorem vd_110_0 (E : ac_E) : ac_V E ac_MDf ac_HDf 110 0 (.inl (o_ald 0 1)) := ⟨ok_aload_n dd_110_0, mn_ald _ _⟩
theorem vd_110_1 (E : ac_E) : ac_V E ac_MDf ac_HDf 110 1 (.inl (o_ald 0 2)) := ⟨ok_aload_n dd_110_1, mn_ald _ _⟩
theorem vd_110_2 (E : ac_E) : ac_V E ac_MDf ac_HDf 110 2 (.inl (o_ild 1 3)) := ⟨ok_iload_n dd_110_2, mn_ild _ _⟩
theorem vd_110_3 (E : ac_E) : ac_V E ac_MDf ac_HDf 110 3 (.inl (o_ild 2 4)) := ⟨ok_iload_n dd_110_3, mn_ild _ _⟩
theorem vd_110_4 (E : ac_E) : ac_V E ac_MDf ac_HDf 110 4 (.inr (.inl (68,3,7,7))) := ac_Vc0 ((ok_callV (T := TX5) (N := 17) rfl rfl (by decide) (by decide +kernel) wm_715 wm_56 wm_712 wm_714 wm_31 dd_110_4).1) (fun _ => rfl)
theorem vd_110_7 (E : ac_E) : ac_V E ac_MDf ac_HDf 110 7 (.inl (o_ne0 14 10)) := ⟨ok_ifne dd_110_7 (by decide), mn_ne0 _ _⟩
theorem vd_110_10 (E : ac_E) : ac_V E ac_MDf ac_HDf 110 10 (.inl (o_con (.int 1) 11)) := ⟨ok_iconst dd_110_10 (by decide), mn_con _ _⟩
theorem vd_110_11 (E : ac_E) : ac_V E ac_MDf ac_HDf 110 11 (.inl (o_go 53)) := ⟨ok_goto dd_110_11 (by decide), mn_go _⟩
theorem vd_110_14 (E : ac_E) : ac_V E ac_MDf ac_HDf 110 14 (.inl (o_ild 3 15)) := ⟨ok_iload_n dd_110_14, mn_ild _ _⟩
theorem vd_110_15 (E : ac_E) : ac_V E ac_MDf ac_HDf 110 15 (.inl (o_lt0 24 18)) := ⟨ok_iflt dd_110_15 (by decide), mn_lt0 _ _⟩
theorem vd_110_18 (E : ac_E) : ac_V E ac_MDf ac_HDf 110 18 (.inl (o_ild 3 19)) := ⟨ok_iload_n dd_110_18, mn_ild _ _⟩
theorem vd_110_19 (E : ac_E) : ac_V E ac_MDf ac_HDf 110 19 (.inl (o_con (.int 6) 21)) := ⟨ok_bipush dd_110_19 (by decide), mn_con _ _⟩
theorem vd_110_21 (E : ac_E) : ac_V E ac_MDf ac_HDf 110 21 (.inl (o_le 28 24)) := ⟨ok_icmple dd_110_21 (by decide), mn_le _ _⟩
theorem vd_110_24 (E : ac_E) : ac_V E ac_MDf ac_HDf 110 24 (.inl (o_con (.int 2) 25)) := ⟨ok_iconst dd_110_24 (by decide), mn_con _ _⟩
theorem vd_110_25 (E : ac_E) : ac_V E ac_MDf ac_HDf 110 25 (.inl (o_go 53)) := ⟨ok_goto dd_110_25 (by decide), mn_go _⟩
theorem vd_110_28 (E : ac_E) : ac_V E ac_MDf ac_HDf 110 28 (.inl (o_ald 0 29)) := ⟨ok_aload_n dd_110_28, mn_ald _ _⟩
theorem vd_110_29 (E : ac_E) : ac_V E ac_MDf ac_HDf 110 29 (.inl (o_get 5 5 32)) := ⟨ok_getf (ci := 5) (f := 5) (C := RX5) (T := TX5) (N := 17) (ref := RX5) rfl win_5 (by decide) rfl wm_643 dd_110_29, mn_get _ _ _⟩
theorem vd_110_32 (E : ac_E) : ac_V E ac_MDf ac_HDf 110 32 (.inl (o_ald 0 33)) := ⟨ok_aload_n dd_110_32, mn_ald _ _⟩
theorem vd_110_33 (E : ac_E) : ac_V E ac_MDf ac_HDf 110 33 (.inl (o_get 5 1 36)) := ⟨ok_getf (ci := 5) (f := 1) (C := RX5) (T := TX5) (N := 17) (ref := RX5) rfl win_5 (by decide) rfl wm_639 dd_110_33, mn_get _ _ _⟩
theorem vd_110_36 (E : ac_E) : ac_V E ac_MDf ac_HDf 110 36 (.inl (o_ild 2 37)) := ⟨ok_iload_n dd_110_36, mn_ild _ _⟩
theorem vd_110_37 (E : ac_E) : ac_V E ac_MDf ac_HDf 110 37 (.inl (o_mul 38)) := ⟨ok_imul dd_110_37, mn_mul _⟩
theorem vd_110_38 (E : ac_E) : ac_V E ac_MDf ac_HDf 110 38 (.inl (o_ild 1 39)) := ⟨ok_iload_n dd_110_38, mn_ild _ _⟩
theorem vd_110_39 (E : ac_E) : ac_V E ac_MDf ac_HDf 110 39 (.inl (o_add 40)) := ⟨ok_iadd dd_110_39, mn_add _⟩
theorem vd_110_40 (E : ac_E) : ac_V E ac_MDf ac_HDf 110 40 (.inl (o_ia 41)) := ⟨ok_iaload dd_110_40, mn_ia _⟩
theorem vd_110_41 (E : ac_E) : ac_V E ac_MDf ac_HDf 110 41 (.inl (o_ild 3 42)) := ⟨ok_iload_n dd_110_41, mn_ild _ _⟩
theorem vd_110_42 (E : ac_E) : ac_V E ac_MDf ac_HDf 110 42 (.inr (.inl (70,2,45,0))) := ac_Vc0 ((ok_callS rfl (by decide) (by decide +kernel) wm_707 wm_56 wm_705 wm_706 dd_110_42).1) (fun _ => rfl)
theorem vd_110_45 (E : ac_E) : ac_V E ac_MDf ac_HDf 110 45 (.inl (o_ne0 52 48)) := ⟨ok_ifne dd_110_45 (by decide), mn_ne0 _ _⟩
theorem vd_110_48 (E : ac_E) : ac_V E ac_MDf ac_HDf 110 48 (.inl (o_con (.int 3) 49)) := ⟨ok_iconst dd_110_48 (by decide), mn_con _ _⟩
theorem vd_110_49 (E : ac_E) : ac_V E ac_MDf ac_HDf 110 49 (.inl (o_go 53)) := ⟨ok_goto dd_110_49 (by decide), mn_go _⟩
theorem vd_110_52 (E : ac_E) : ac_V E ac_MDf ac_HDf 110 52 (.inl (o_con (.int 0) 53)) := ⟨ok_iconst dd_110_52 (by decide), mn_con _ _⟩
theorem vd_110_53 (E : ac_E) : ac_V E ac_MDf ac_HDf 110 53 (.inl (o_put 5 0 56)) := ⟨ok_putf (ci := 5) (f := 0) (C := RX5) (T := TX5) (N := 17) (ref := RX5) rfl win_5 (by decide) rfl tyX5 tyX5_ok nmX5 (by decide +kernel) rfl wm_638 dd_110_53, mn_put _ _ _⟩
theorem vd_110_56 (E : ac_E) : ac_V E ac_MDf ac_HDf 110 56 (.inl (o_con (.int 0) 57)) := ⟨ok_iconst dd_110_56 (by decide), mn_con _ _⟩
theorem vd_110_57 (E : ac_E) : ac_V E ac_MDf ac_HDf 110 57 (.inl (o_ist 4 59)) := ⟨ok_istore dd_110_57, mn_ist _ _⟩
theorem vd_110_59 (E : ac_E) : ac_V E ac_MDf ac_HDf 110 59 (.inl (o_ild 4 61)) := ⟨ok_iload dd_110_59, mn_ild _ _⟩
theorem vd_110_61 (E : ac_E) : ac_V E ac_MDf ac_HDf 110 61 (.inl (o_ald 0 62)) := ⟨ok_aload_n dd_110_61, mn_ald _ _⟩
theorem vd_110_62 (E : ac_E) : ac_V E ac_MDf ac_HDf 110 62 (.inl (o_get 5 14 65)) := ⟨ok_getf (ci := 5) (f := 14) (C := RX5) (T := TX5) (N := 17) (ref := RX5) rfl win_5 (by decide) rfl wm_652 dd_110_62, mn_get _ _ _⟩
theorem vd_110_65 (E : ac_E) : ac_V E ac_MDf ac_HDf 110 65 (.inl (o_ge 119 68)) := ⟨ok_icmpge dd_110_65 (by decide), mn_ge _ _⟩
theorem vd_110_68 (E : ac_E) : ac_V E ac_MDf ac_HDf 110 68 (.inl (o_ald 0 69)) := ⟨ok_aload_n dd_110_68, mn_ald _ _⟩
theorem vd_110_69 (E : ac_E) : ac_V E ac_MDf ac_HDf 110 69 (.inl (o_get 5 0 72)) := ⟨ok_getf (ci := 5) (f := 0) (C := RX5) (T := TX5) (N := 17) (ref := RX5) rfl win_5 (by decide) rfl wm_638 dd_110_69, mn_get _ _ _⟩
theorem vd_110_72 (E : ac_E) : ac_V E ac_MDf ac_HDf 110 72 (.inl (o_ne0 119 75)) := ⟨ok_ifne dd_110_72 (by decide), mn_ne0 _ _⟩
theorem vd_110_75 (E : ac_E) : ac_V E ac_MDf ac_HDf 110 75 (.inl (o_ald 0 76)) := ⟨ok_aload_n dd_110_75, mn_ald _ _⟩
theorem vd_110_76 (E : ac_E) : ac_V E ac_MDf ac_HDf 110 76 (.inl (o_ald 0 77)) := ⟨ok_aload_n dd_110_76, mn_ald _ _⟩
theorem vd_110_77 (E : ac_E) : ac_V E ac_MDf ac_HDf 110 77 (.inl (o_get 5 15 80)) := ⟨ok_getf (ci := 5) (f := 15) (C := RX5) (T := TX5) (N := 17) (ref := RX5) rfl win_5 (by decide) rfl wm_653 dd_110_77, mn_get _ _ _⟩
theorem vd_110_80 (E : ac_E) : ac_V E ac_MDf ac_HDf 110 80 (.inl (o_ild 4 82)) := ⟨ok_iload dd_110_80, mn_ild _ _⟩
theorem vd_110_82 (E : ac_E) : ac_V E ac_MDf ac_HDf 110 82 (.inl (o_ia 83)) := ⟨ok_iaload dd_110_82, mn_ia _⟩
theorem vd_110_83 (E : ac_E) : ac_V E ac_MDf ac_HDf 110 83 (.inl (o_ald 0 84)) := ⟨ok_aload_n dd_110_83, mn_ald _ _⟩
theorem vd_110_84 (E : ac_E) : ac_V E ac_MDf ac_HDf 110 84 (.inl (o_get 5 1 87)) := ⟨ok_getf (ci := 5) (f := 1) (C := RX5) (T := TX5) (N := 17) (ref := RX5) rfl win_5 (by decide) rfl wm_639 dd_110_84, mn_get _ _ _⟩
theorem vd_110_87 (E : ac_E) : ac_V E ac_MDf ac_HDf 110 87 (.inl (o_ild 2 88)) := ⟨ok_iload_n dd_110_87, mn_ild _ _⟩
theorem vd_110_88 (E : ac_E) : ac_V E ac_MDf ac_HDf 110 88 (.inl (o_mul 89)) := ⟨ok_imul dd_110_88, mn_mul _⟩
theorem vd_110_89 (E : ac_E) : ac_V E ac_MDf ac_HDf 110 89 (.inl (o_ild 1 90)) := ⟨ok_iload_n dd_110_89, mn_ild _ _⟩
theorem vd_110_90 (E : ac_E) : ac_V E ac_MDf ac_HDf 110 90 (.inl (o_add 91)) := ⟨ok_iadd dd_110_90, mn_add _⟩
theorem vd_110_91 (E : ac_E) : ac_V E ac_MDf ac_HDf 110 91 (.inl (o_ne 109 94)) := ⟨ok_icmpne dd_110_91 (by decide), mn_ne _ _⟩
theorem vd_110_94 (E : ac_E) : ac_V E ac_MDf ac_HDf 110 94 (.inl (o_ald 0 95)) := ⟨ok_aload_n dd_110_94, mn_ald _ _⟩
theorem vd_110_95 (E : ac_E) : ac_V E ac_MDf ac_HDf 110 95 (.inl (o_get 5 16 98)) := ⟨ok_getf (ci := 5) (f := 16) (C := RX5) (T := TX5) (N := 17) (ref := RX5) rfl win_5 (by decide) rfl wm_654 dd_110_95, mn_get _ _ _⟩
theorem vd_110_98 (E : ac_E) : ac_V E ac_MDf ac_HDf 110 98 (.inl (o_ild 4 100)) := ⟨ok_iload dd_110_98, mn_ild _ _⟩
theorem vd_110_100 (E : ac_E) : ac_V E ac_MDf ac_HDf 110 100 (.inl (o_ia 101)) := ⟨ok_iaload dd_110_100, mn_ia _⟩
theorem vd_110_101 (E : ac_E) : ac_V E ac_MDf ac_HDf 110 101 (.inl (o_ild 3 102)) := ⟨ok_iload_n dd_110_101, mn_ild _ _⟩
theorem vd_110_102 (E : ac_E) : ac_V E ac_MDf ac_HDf 110 102 (.inl (o_ne 109 105)) := ⟨ok_icmpne dd_110_102 (by decide), mn_ne _ _⟩
theorem vd_110_105 (E : ac_E) : ac_V E ac_MDf ac_HDf 110 105 (.inl (o_con (.int 4) 106)) := ⟨ok_iconst dd_110_105 (by decide), mn_con _ _⟩
theorem vd_110_106 (E : ac_E) : ac_V E ac_MDf ac_HDf 110 106 (.inl (o_go 110)) := ⟨ok_goto dd_110_106 (by decide), mn_go _⟩
theorem vd_110_109 (E : ac_E) : ac_V E ac_MDf ac_HDf 110 109 (.inl (o_con (.int 0) 110)) := ⟨ok_iconst dd_110_109 (by decide), mn_con _ _⟩
theorem vd_110_110 (E : ac_E) : ac_V E ac_MDf ac_HDf 110 110 (.inl (o_put 5 0 113)) := ⟨ok_putf (ci := 5) (f := 0) (C := RX5) (T := TX5) (N := 17) (ref := RX5) rfl win_5 (by decide) rfl tyX5 tyX5_ok nmX5 (by decide +kernel) rfl wm_638 dd_110_110, mn_put _ _ _⟩
theorem vd_110_113 (E : ac_E) : ac_V E ac_MDf ac_HDf 110 113 (.inl (o_inc 4 1 116)) := ⟨ok_iinc dd_110_113 (by decide), mn_inc _ _ _⟩
theorem vd_110_116 (E : ac_E) : ac_V E ac_MDf ac_HDf 110 116 (.inl (o_go 59)) := ⟨ok_goto dd_110_116 (by decide), mn_go _⟩
theorem vd_110_119 (E : ac_E) : ac_V E ac_MDf ac_HDf 110 119 (.inl (o_ald 0 120)) := ⟨ok_aload_n dd_110_119, mn_ald _ _⟩
theorem vd_110_120 (E : ac_E) : ac_V E ac_MDf ac_HDf 110 120 (.inl (o_ald 0 121)) := ⟨ok_aload_n dd_110_120, mn_ald _ _⟩
theorem vd_110_121 (E : ac_E) : ac_V E ac_MDf ac_HDf 110 121 (.inl (o_get 5 0 124)) := ⟨ok_getf (ci := 5) (f := 0) (C := RX5) (T := TX5) (N := 17) (ref := RX5) rfl win_5 (by decide) rfl wm_638 dd_110_121, mn_get _ _ _⟩
theorem vd_110_124 (E : ac_E) : ac_V E ac_MDf ac_HDf 110 124 (.inl (o_ne0 139 127)) := ⟨ok_ifne dd_110_124 (by decide), mn_ne0 _ _⟩
theorem vd_110_127 (E : ac_E) : ac_V E ac_MDf ac_HDf 110 127 (.inl (o_ald 0 128)) := ⟨ok_aload_n dd_110_127, mn_ald _ _⟩
theorem vd_110_128 (E : ac_E) : ac_V E ac_MDf ac_HDf 110 128 (.inl (o_get 5 14 131)) := ⟨ok_getf (ci := 5) (f := 14) (C := RX5) (T := TX5) (N := 17) (ref := RX5) rfl win_5 (by decide) rfl wm_652 dd_110_128, mn_get _ _ _⟩
theorem vd_110_131 (E : ac_E) : ac_V E ac_MDf ac_HDf 110 131 (.inl (o_con (.int 4) 132)) := ⟨ok_iconst dd_110_131 (by decide), mn_con _ _⟩
theorem vd_110_132 (E : ac_E) : ac_V E ac_MDf ac_HDf 110 132 (.inl (o_ne 139 135)) := ⟨ok_icmpne dd_110_132 (by decide), mn_ne _ _⟩
theorem vd_110_135 (E : ac_E) : ac_V E ac_MDf ac_HDf 110 135 (.inl (o_con (.int 5) 136)) := ⟨ok_iconst dd_110_135 (by decide), mn_con _ _⟩
theorem vd_110_136 (E : ac_E) : ac_V E ac_MDf ac_HDf 110 136 (.inl (o_go 143)) := ⟨ok_goto dd_110_136 (by decide), mn_go _⟩
theorem vd_110_139 (E : ac_E) : ac_V E ac_MDf ac_HDf 110 139 (.inl (o_ald 0 140)) := ⟨ok_aload_n dd_110_139, mn_ald _ _⟩
theorem vd_110_140 (E : ac_E) : ac_V E ac_MDf ac_HDf 110 140 (.inl (o_get 5 0 143)) := ⟨ok_getf (ci := 5) (f := 0) (C := RX5) (T := TX5) (N := 17) (ref := RX5) rfl win_5 (by decide) rfl wm_638 dd_110_140, mn_get _ _ _⟩
theorem vd_110_143 (E : ac_E) : ac_V E ac_MDf ac_HDf 110 143 (.inl (o_put 5 0 146)) := ⟨ok_putf (ci := 5) (f := 0) (C := RX5) (T := TX5) (N := 17) (ref := RX5) rfl win_5 (by decide) rfl tyX5 tyX5_ok nmX5 (by decide +kernel) rfl wm_638 dd_110_143, mn_put _ _ _⟩
theorem vd_110_146 (E : ac_E) : ac_V E ac_MDf ac_HDf 110 146 (.inl (o_ald 0 147)) := ⟨ok_aload_n dd_110_146, mn_ald _ _⟩
theorem vd_110_147 (E : ac_E) : ac_V E ac_MDf ac_HDf 110 147 (.inl (o_get 5 0 150)) := ⟨ok_getf (ci := 5) (f := 0) (C := RX5) (T := TX5) (N := 17) (ref := RX5) rfl win_5 (by decide) rfl wm_638 dd_110_147, mn_get _ _ _⟩
theorem vd_110_150 (E : ac_E) : ac_V E ac_MDf ac_HDf 110 150 (.inl (o_le0 155 153)) := ⟨ok_ifle dd_110_150 (by decide), mn_le0 _ _⟩
theorem vd_110_153 (E : ac_E) : ac_V E ac_MDf ac_HDf 110 153 (.inl (o_con (.int 0) 154)) := ⟨ok_iconst dd_110_153 (by decide), mn_con _ _⟩
theorem vd_110_154 (E : ac_E) : ac_V E ac_MDf ac_HDf 110 154 (.inr (.inr (.inl 1))) := ⟨fun q => nomatch q, fun _ => ⟨dd_110_154, rfl⟩, fun q => nomatch q⟩
theorem vd_110_155 (E : ac_E) : ac_V E ac_MDf ac_HDf 110 155 (.inl (o_ald 0 156)) := ⟨ok_aload_n dd_110_155, mn_ald _ _⟩
theorem vd_110_156 (E : ac_E) : ac_V E ac_MDf ac_HDf 110 156 (.inl (o_get 5 15 159)) := ⟨ok_getf (ci := 5) (f := 15) (C := RX5) (T := TX5) (N := 17) (ref := RX5) rfl win_5 (by decide) rfl wm_653 dd_110_156, mn_get _ _ _⟩
theorem vd_110_159 (E : ac_E) : ac_V E ac_MDf ac_HDf 110 159 (.inl (o_ald 0 160)) := ⟨ok_aload_n dd_110_159, mn_ald _ _⟩
theorem vd_110_160 (E : ac_E) : ac_V E ac_MDf ac_HDf 110 160 (.inl (o_get 5 14 163)) := ⟨ok_getf (ci := 5) (f := 14) (C := RX5) (T := TX5) (N := 17) (ref := RX5) rfl win_5 (by decide) rfl wm_652 dd_110_160, mn_get _ _ _⟩
theorem vd_110_163 (E : ac_E) : ac_V E ac_MDf ac_HDf 110 163 (.inl (o_ald 0 164)) := ⟨ok_aload_n dd_110_163, mn_ald _ _⟩
theorem vd_110_164 (E : ac_E) : ac_V E ac_MDf ac_HDf 110 164 (.inl (o_get 5 1 167)) := ⟨ok_getf (ci := 5) (f := 1) (C := RX5) (T := TX5) (N := 17) (ref := RX5) rfl win_5 (by decide) rfl wm_639 dd_110_164, mn_get _ _ _⟩
theorem vd_110_167 (E : ac_E) : ac_V E ac_MDf ac_HDf 110 167 (.inl (o_ild 2 168)) := ⟨ok_iload_n dd_110_167, mn_ild _ _⟩
theorem vd_110_168 (E : ac_E) : ac_V E ac_MDf ac_HDf 110 168 (.inl (o_mul 169)) := ⟨ok_imul dd_110_168, mn_mul _⟩
theorem vd_110_169 (E : ac_E) : ac_V E ac_MDf ac_HDf 110 169 (.inl (o_ild 1 170)) := ⟨ok_iload_n dd_110_169, mn_ild _ _⟩
theorem vd_110_170 (E : ac_E) : ac_V E ac_MDf ac_HDf 110 170 (.inl (o_add 171)) := ⟨ok_iadd dd_110_170, mn_add _⟩
theorem vd_110_171 (E : ac_E) : ac_V E ac_MDf ac_HDf 110 171 (.inl (o_is 172)) := ⟨ok_iastore dd_110_171, mn_is _⟩
theorem vd_110_172 (E : ac_E) : ac_V E ac_MDf ac_HDf 110 172 (.inl (o_ald 0 173)) := ⟨ok_aload_n dd_110_172, mn_ald _ _⟩
theorem vd_110_173 (E : ac_E) : ac_V E ac_MDf ac_HDf 110 173 (.inl (o_get 5 16 176)) := ⟨ok_getf (ci := 5) (f := 16) (C := RX5) (T := TX5) (N := 17) (ref := RX5) rfl win_5 (by decide) rfl wm_654 dd_110_173, mn_get _ _ _⟩
theorem vd_110_176 (E : ac_E) : ac_V E ac_MDf ac_HDf 110 176 (.inl (o_ald 0 177)) := ⟨ok_aload_n dd_110_176, mn_ald _ _⟩
theorem vd_110_177 (E : ac_E) : ac_V E ac_MDf ac_HDf 110 177 (.inl (o_get 5 14 180)) := ⟨ok_getf (ci := 5) (f := 14) (C := RX5) (T := TX5) (N := 17) (ref := RX5) rfl win_5 (by decide) rfl wm_652 dd_110_177, mn_get _ _ _⟩
theorem vd_110_180 (E : ac_E) : ac_V E ac_MDf ac_HDf 110 180 (.inl (o_ild 3 181)) := ⟨ok_iload_n dd_110_180, mn_ild _ _⟩
theorem vd_110_181 (E : ac_E) : ac_V E ac_MDf ac_HDf 110 181 (.inl (o_is 182)) := ⟨ok_iastore dd_110_181, mn_is _⟩
theorem vd_110_182 (E : ac_E) : ac_V E ac_MDf ac_HDf 110 182 (.inl (o_ald 0 183)) := ⟨ok_aload_n dd_110_182, mn_ald _ _⟩
theorem vd_110_183 (E : ac_E) : ac_V E ac_MDf ac_HDf 110 183 (.inl (o_dup 184)) := ⟨ok_dup dd_110_183, mn_dup _⟩
theorem vd_110_184 (E : ac_E) : ac_V E ac_MDf ac_HDf 110 184 (.inl (o_get 5 14 187)) := ⟨ok_getf (ci := 5) (f := 14) (C := RX5) (T := TX5) (N := 17) (ref := RX5) rfl win_5 (by decide) rfl wm_652 dd_110_184, mn_get _ _ _⟩
theorem vd_110_187 (E : ac_E) : ac_V E ac_MDf ac_HDf 110 187 (.inl (o_con (.int 1) 188)) := ⟨ok_iconst dd_110_187 (by decide), mn_con _ _⟩
theorem vd_110_188 (E : ac_E) : ac_V E ac_MDf ac_HDf 110 188 (.inl (o_add 189)) := ⟨ok_iadd dd_110_188, mn_add _⟩
theorem vd_110_189 (E : ac_E) : ac_V E ac_MDf ac_HDf 110 189 (.inl (o_put 5 14 192)) := ⟨ok_putf (ci := 5) (f := 14) (C := RX5) (T := TX5) (N := 17) (ref := RX5) rfl win_5 (by decide) rfl tyX5 tyX5_ok nmX5 (by decide +kernel) rfl wm_652 dd_110_189, mn_put _ _ _⟩
theorem vd_110_192 (E : ac_E) : ac_V E ac_MDf ac_HDf 110 192 (.inl (o_ald 0 193)) := ⟨ok_aload_n dd_110_192, mn_ald _ _⟩
theorem vd_110_193 (E : ac_E) : ac_V E ac_MDf ac_HDf 110 193 (.inl (o_get 5 14 196)) := ⟨ok_getf (ci := 5) (f := 14) (C := RX5) (T := TX5) (N := 17) (ref := RX5) rfl win_5 (by decide) rfl wm_652 dd_110_193, mn_get _ _ _⟩
theorem vd_110_196 (E : ac_E) : ac_V E ac_MDf ac_HDf 110 196 (.inl (o_con (.int 1) 197)) := ⟨ok_iconst dd_110_196 (by decide), mn_con _ _⟩
theorem vd_110_197 (E : ac_E) : ac_V E ac_MDf ac_HDf 110 197 (.inl (o_sub 198)) := ⟨ok_isub dd_110_197, mn_sub _⟩
theorem vd_110_198 (E : ac_E) : ac_V E ac_MDf ac_HDf 110 198 (.inr (.inr (.inl 1))) := ⟨fun q => nomatch q, fun _ => ⟨dd_110_198, rfl⟩, fun q => nomatch q⟩
theorem va_110 (E : ac_E) (pc : Nat) : ac_V E ac_MDf ac_HDf 110 pc (tb_110 (ac_len E) (ac_xs E) pc) := (ac_node (ac_node (ac_node (ac_node (ac_node (ac_node (ac_leaf 0 (vd_110_0 E)) (ac_node (ac_leaf 1 (vd_110_1 E)) (ac_leaf 2 (vd_110_2 E)))) (ac_node (ac_leaf 3 (vd_110_3 E)) (ac_node (ac_leaf 4 (vd_110_4 E)) (ac_leaf 7 (vd_110_7 E))))) (ac_node (ac_node (ac_leaf 10 (vd_110_10 E)) (ac_node (ac_leaf 11 (vd_110_11 E)) (ac_leaf 14 (vd_110_14 E)))) (ac_node (ac_node (ac_leaf 15 (vd_110_15 E)) (ac_leaf 18 (vd_110_18 E))) (ac_node (ac_leaf 19 (vd_110_19 E)) (ac_leaf 21 (vd_110_21 E)))))) (ac_node (ac_node (ac_node (ac_leaf 24 (vd_110_24 E)) (ac_node (ac_leaf 25 (vd_110_25 E)) (ac_leaf 28 (vd_110_28 E)))) (ac_node (ac_node (ac_leaf 29 (vd_110_29 E)) (ac_leaf 32 (vd_110_32 E))) (ac_node (ac_leaf 33 (vd_110_33 E)) (ac_leaf 36 (vd_110_36 E))))) (ac_node (ac_node (ac_leaf 37 (vd_110_37 E)) (ac_node (ac_leaf 38 (vd_110_38 E)) (ac_leaf 39 (vd_110_39 E)))) (ac_node (ac_node (ac_leaf 40 (vd_110_40 E)) (ac_leaf 41 (vd_110_41 E))) (ac_node (ac_leaf 42 (vd_110_42 E)) (ac_leaf 45 (vd_110_45 E))))))) (ac_node (ac_node (ac_node (ac_node (ac_leaf 48 (vd_110_48 E)) (ac_node (ac_leaf 49 (vd_110_49 E)) (ac_leaf 52 (vd_110_52 E)))) (ac_node (ac_node (ac_leaf 53 (vd_110_53 E)) (ac_leaf 56 (vd_110_56 E))) (ac_node (ac_leaf 57 (vd_110_57 E)) (ac_leaf 59 (vd_110_59 E))))) (ac_node (ac_node (ac_leaf 61 (vd_110_61 E)) (ac_node (ac_leaf 62 (vd_110_62 E)) (ac_leaf 65 (vd_110_65 E)))) (ac_node (ac_node (ac_leaf 68 (vd_110_68 E)) (ac_leaf 69 (vd_110_69 E))) (ac_node (ac_leaf 72 (vd_110_72 E)) (ac_leaf 75 (vd_110_75 E)))))) (ac_node (ac_node (ac_node (ac_leaf 76 (vd_110_76 E)) (ac_node (ac_leaf 77 (vd_110_77 E)) (ac_leaf 80 (vd_110_80 E)))) (ac_node (ac_node (ac_leaf 82 (vd_110_82 E)) (ac_leaf 83 (vd_110_83 E))) (ac_node (ac_leaf 84 (vd_110_84 E)) (ac_leaf 87 (vd_110_87 E))))) (ac_node (ac_node (ac_leaf 88 (vd_110_88 E)) (ac_node (ac_leaf 89 (vd_110_89 E)) (ac_leaf 90 (vd_110_90 E)))) (ac_node (ac_node (ac_leaf 91 (vd_110_91 E)) (ac_leaf 94 (vd_110_94 E))) (ac_node (ac_leaf 95 (vd_110_95 E)) (ac_leaf 98 (vd_110_98 E)))))))) (ac_node (ac_node (ac_node (ac_node (ac_node (ac_leaf 100 (vd_110_100 E)) (ac_node (ac_leaf 101 (vd_110_101 E)) (ac_leaf 102 (vd_110_102 E)))) (ac_node (ac_leaf 105 (vd_110_105 E)) (ac_node (ac_leaf 106 (vd_110_106 E)) (ac_leaf 109 (vd_110_109 E))))) (ac_node (ac_node (ac_leaf 110 (vd_110_110 E)) (ac_node (ac_leaf 113 (vd_110_113 E)) (ac_leaf 116 (vd_110_116 E)))) (ac_node (ac_node (ac_leaf 119 (vd_110_119 E)) (ac_leaf 120 (vd_110_120 E))) (ac_node (ac_leaf 121 (vd_110_121 E)) (ac_leaf 124 (vd_110_124 E)))))) (ac_node (ac_node (ac_node (ac_leaf 127 (vd_110_127 E)) (ac_node (ac_leaf 128 (vd_110_128 E)) (ac_leaf 131 (vd_110_131 E)))) (ac_node (ac_node (ac_leaf 132 (vd_110_132 E)) (ac_leaf 135 (vd_110_135 E))) (ac_node (ac_leaf 136 (vd_110_136 E)) (ac_leaf 139 (vd_110_139 E))))) (ac_node (ac_node (ac_leaf 140 (vd_110_140 E)) (ac_node (ac_leaf 143 (vd_110_143 E)) (ac_leaf 146 (vd_110_146 E)))) (ac_node (ac_node (ac_leaf 147 (vd_110_147 E)) (ac_leaf 150 (vd_110_150 E))) (ac_node (ac_leaf 153 (vd_110_153 E)) (ac_leaf 154 (vd_110_154 E))))))) (ac_node (ac_node (ac_node (ac_node (ac_leaf 155 (vd_110_155 E)) (ac_node (ac_leaf 156 (vd_110_156 E)) (ac_leaf 159 (vd_110_159 E)))) (ac_node (ac_node (ac_leaf 160 (vd_110_160 E)) (ac_leaf 163 (vd_110_163 E))) (ac_node (ac_leaf 164 (vd_110_164 E)) (ac_leaf 167 (vd_110_167 E))))) (ac_node (ac_node (ac_leaf 168 (vd_110_168 E)) (ac_node (ac_leaf 169 (vd_110_169 E)) (ac_leaf 170 (vd_110_170 E)))) (ac_node (ac_node (ac_leaf 171 (vd_110_171 E)) (ac_leaf 172 (vd_110_172 E))) (ac_node (ac_leaf 173 (vd_110_173 E)) (ac_leaf 176 (vd_110_176 E)))))) (ac_node (ac_node (ac_node (ac_leaf 177 (vd_110_177 E)) (ac_node (ac_leaf 180 (vd_110_180 E)) (ac_leaf 181 (vd_110_181 E)))) (ac_node (ac_node (ac_leaf 182 (vd_110_182 E)) (ac_leaf 183 (vd_110_183 E))) (ac_node (ac_leaf 184 (vd_110_184 E)) (ac_leaf 187 (vd_110_187 E))))) (ac_node (ac_node (ac_leaf 188 (vd_110_188 E)) (ac_node (ac_leaf 189 (vd_110_189 E)) (ac_leaf 192 (vd_110_192 E)))) (ac_node (ac_node (ac_leaf 193 (vd_110_193 E)) (ac_leaf 196 (vd_110_196 E))) (ac_node (ac_leaf 197 (vd_110_197 E)) (ac_leaf 198 (vd_110_198 E)))))))))
theorem vd_111_0 (E : ac_E) : ac_V E ac_MDf ac_HDf 111 0 (.inl (o_ald 0 1)) := ⟨ok_aload_n dd_111_0, mn_ald _ _⟩
theorem vd_111_1 (E : ac_E) : ac_V E ac_MDf ac_HDf 111 1 (.inl (o_ild 1 2)) := ⟨ok_iload_n dd_111_1, mn_ild _ _⟩
theorem vd_111_2 (E : ac_E) : ac_V E ac_MDf ac_HDf 111 2 (.inl (o_lt0 13 5)) := ⟨ok_iflt dd_111_2 (by decide), mn_lt0 _ _⟩
theorem vd_111_5 (E : ac_E) : ac_V E ac_MDf ac_HDf 111 5 (.inl (o_ild 1 6)) := ⟨ok_iload_n dd_111_5, mn_ild _ _⟩
theorem vd_111_6 (E : ac_E) : ac_V E ac_MDf ac_HDf 111 6 (.inl (o_ald 0 7)) := ⟨ok_aload_n dd_111_6, mn_ald _ _⟩
theorem vd_111_7 (E : ac_E) : ac_V E ac_MDf ac_HDf 111 7 (.inl (o_get 5 14 10)) := ⟨ok_getf (ci := 5) (f := 14) (C := RX5) (T := TX5) (N := 17) (ref := RX5) rfl win_5 (by decide) rfl wm_652 dd_111_7, mn_get _ _ _⟩
theorem vd_111_10 (E : ac_E) : ac_V E ac_MDf ac_HDf 111 10 (.inl (o_lt 17 13)) := ⟨ok_icmplt dd_111_10 (by decide), mn_lt _ _⟩
theorem vd_111_13 (E : ac_E) : ac_V E ac_MDf ac_HDf 111 13 (.inl (o_con (.int 1) 14)) := ⟨ok_iconst dd_111_13 (by decide), mn_con _ _⟩
theorem vd_111_14 (E : ac_E) : ac_V E ac_MDf ac_HDf 111 14 (.inl (o_go 18)) := ⟨ok_goto dd_111_14 (by decide), mn_go _⟩
theorem vd_111_17 (E : ac_E) : ac_V E ac_MDf ac_HDf 111 17 (.inl (o_con (.int 0) 18)) := ⟨ok_iconst dd_111_17 (by decide), mn_con _ _⟩
theorem vd_111_18 (E : ac_E) : ac_V E ac_MDf ac_HDf 111 18 (.inl (o_put 5 0 21)) := ⟨ok_putf (ci := 5) (f := 0) (C := RX5) (T := TX5) (N := 17) (ref := RX5) rfl win_5 (by decide) rfl tyX5 tyX5_ok nmX5 (by decide +kernel) rfl wm_638 dd_111_18, mn_put _ _ _⟩
theorem vd_111_21 (E : ac_E) : ac_V E ac_MDf ac_HDf 111 21 (.inl (o_ald 0 22)) := ⟨ok_aload_n dd_111_21, mn_ald _ _⟩
theorem vd_111_22 (E : ac_E) : ac_V E ac_MDf ac_HDf 111 22 (.inl (o_get 5 0 25)) := ⟨ok_getf (ci := 5) (f := 0) (C := RX5) (T := TX5) (N := 17) (ref := RX5) rfl win_5 (by decide) rfl wm_638 dd_111_22, mn_get _ _ _⟩
theorem vd_111_25 (E : ac_E) : ac_V E ac_MDf ac_HDf 111 25 (.inl (o_le0 30 28)) := ⟨ok_ifle dd_111_25 (by decide), mn_le0 _ _⟩
theorem vd_111_28 (E : ac_E) : ac_V E ac_MDf ac_HDf 111 28 (.inl (o_con (.int 0) 29)) := ⟨ok_iconst dd_111_28 (by decide), mn_con _ _⟩
theorem vd_111_29 (E : ac_E) : ac_V E ac_MDf ac_HDf 111 29 (.inr (.inr (.inl 1))) := ⟨fun q => nomatch q, fun _ => ⟨dd_111_29, rfl⟩, fun q => nomatch q⟩
theorem vd_111_30 (E : ac_E) : ac_V E ac_MDf ac_HDf 111 30 (.inl (o_ald 0 31)) := ⟨ok_aload_n dd_111_30, mn_ald _ _⟩
theorem vd_111_31 (E : ac_E) : ac_V E ac_MDf ac_HDf 111 31 (.inl (o_get 5 15 34)) := ⟨ok_getf (ci := 5) (f := 15) (C := RX5) (T := TX5) (N := 17) (ref := RX5) rfl win_5 (by decide) rfl wm_653 dd_111_31, mn_get _ _ _⟩
theorem vd_111_34 (E : ac_E) : ac_V E ac_MDf ac_HDf 111 34 (.inl (o_ild 1 35)) := ⟨ok_iload_n dd_111_34, mn_ild _ _⟩
theorem vd_111_35 (E : ac_E) : ac_V E ac_MDf ac_HDf 111 35 (.inl (o_ia 36)) := ⟨ok_iaload dd_111_35, mn_ia _⟩
theorem vd_111_36 (E : ac_E) : ac_V E ac_MDf ac_HDf 111 36 (.inl (o_ist 2 37)) := ⟨ok_istore_n dd_111_36, mn_ist _ _⟩
theorem vd_111_37 (E : ac_E) : ac_V E ac_MDf ac_HDf 111 37 (.inl (o_ild 2 38)) := ⟨ok_iload_n dd_111_37, mn_ild _ _⟩
theorem vd_111_38 (E : ac_E) : ac_V E ac_MDf ac_HDf 111 38 (.inl (o_ge0 45 41)) := ⟨ok_ifge dd_111_38 (by decide), mn_ge0 _ _⟩
theorem vd_111_41 (E : ac_E) : ac_V E ac_MDf ac_HDf 111 41 (.inl (o_con (.int (-1)) 42)) := ⟨ok_iconst dd_111_41 (by decide), mn_con _ _⟩
theorem vd_111_42 (E : ac_E) : ac_V E ac_MDf ac_HDf 111 42 (.inl (o_go 72)) := ⟨ok_goto dd_111_42 (by decide), mn_go _⟩
theorem vd_111_45 (E : ac_E) : ac_V E ac_MDf ac_HDf 111 45 (.inl (o_con (.int 128) 48)) := ⟨ok_sipush dd_111_45 (by decide), mn_con _ _⟩
theorem vd_111_48 (E : ac_E) : ac_V E ac_MDf ac_HDf 111 48 (.inl (o_ild 2 49)) := ⟨ok_iload_n dd_111_48, mn_ild _ _⟩
theorem vd_111_49 (E : ac_E) : ac_V E ac_MDf ac_HDf 111 49 (.inl (o_ald 0 50)) := ⟨ok_aload_n dd_111_49, mn_ald _ _⟩
theorem vd_111_50 (E : ac_E) : ac_V E ac_MDf ac_HDf 111 50 (.inl (o_get 5 1 53)) := ⟨ok_getf (ci := 5) (f := 1) (C := RX5) (T := TX5) (N := 17) (ref := RX5) rfl win_5 (by decide) rfl wm_639 dd_111_50, mn_get _ _ _⟩
theorem vd_111_53 (E : ac_E) : ac_V E ac_MDf ac_HDf 111 53 (.inl (o_div 54)) := ⟨ok_idiv dd_111_53, mn_div _⟩
theorem vd_111_54 (E : ac_E) : ac_V E ac_MDf ac_HDf 111 54 (.inl (o_mul 55)) := ⟨ok_imul dd_111_54, mn_mul _⟩
theorem vd_111_55 (E : ac_E) : ac_V E ac_MDf ac_HDf 111 55 (.inl (o_con (.int 8) 57)) := ⟨ok_bipush dd_111_55 (by decide), mn_con _ _⟩
theorem vd_111_57 (E : ac_E) : ac_V E ac_MDf ac_HDf 111 57 (.inl (o_ild 2 58)) := ⟨ok_iload_n dd_111_57, mn_ild _ _⟩
theorem vd_111_58 (E : ac_E) : ac_V E ac_MDf ac_HDf 111 58 (.inl (o_ald 0 59)) := ⟨ok_aload_n dd_111_58, mn_ald _ _⟩
theorem vd_111_59 (E : ac_E) : ac_V E ac_MDf ac_HDf 111 59 (.inl (o_get 5 1 62)) := ⟨ok_getf (ci := 5) (f := 1) (C := RX5) (T := TX5) (N := 17) (ref := RX5) rfl win_5 (by decide) rfl wm_639 dd_111_59, mn_get _ _ _⟩
theorem vd_111_62 (E : ac_E) : ac_V E ac_MDf ac_HDf 111 62 (.inl (o_rem 63)) := ⟨ok_irem dd_111_62, mn_rem _⟩
theorem vd_111_63 (E : ac_E) : ac_V E ac_MDf ac_HDf 111 63 (.inl (o_mul 64)) := ⟨ok_imul dd_111_63, mn_mul _⟩
theorem vd_111_64 (E : ac_E) : ac_V E ac_MDf ac_HDf 111 64 (.inl (o_add 65)) := ⟨ok_iadd dd_111_64, mn_add _⟩
theorem vd_111_65 (E : ac_E) : ac_V E ac_MDf ac_HDf 111 65 (.inl (o_ald 0 66)) := ⟨ok_aload_n dd_111_65, mn_ald _ _⟩
theorem vd_111_66 (E : ac_E) : ac_V E ac_MDf ac_HDf 111 66 (.inl (o_get 5 16 69)) := ⟨ok_getf (ci := 5) (f := 16) (C := RX5) (T := TX5) (N := 17) (ref := RX5) rfl win_5 (by decide) rfl wm_654 dd_111_66, mn_get _ _ _⟩
theorem vd_111_69 (E : ac_E) : ac_V E ac_MDf ac_HDf 111 69 (.inl (o_ild 1 70)) := ⟨ok_iload_n dd_111_69, mn_ild _ _⟩
theorem vd_111_70 (E : ac_E) : ac_V E ac_MDf ac_HDf 111 70 (.inl (o_ia 71)) := ⟨ok_iaload dd_111_70, mn_ia _⟩
theorem vd_111_71 (E : ac_E) : ac_V E ac_MDf ac_HDf 111 71 (.inl (o_add 72)) := ⟨ok_iadd dd_111_71, mn_add _⟩
theorem vd_111_72 (E : ac_E) : ac_V E ac_MDf ac_HDf 111 72 (.inr (.inr (.inl 1))) := ⟨fun q => nomatch q, fun _ => ⟨dd_111_72, rfl⟩, fun q => nomatch q⟩
theorem va_111 (E : ac_E) (pc : Nat) : ac_V E ac_MDf ac_HDf 111 pc (tb_111 (ac_len E) (ac_xs E) pc) := (ac_node (ac_node (ac_node (ac_node (ac_node (ac_leaf 0 (vd_111_0 E)) (ac_leaf 1 (vd_111_1 E))) (ac_node (ac_leaf 2 (vd_111_2 E)) (ac_node (ac_leaf 5 (vd_111_5 E)) (ac_leaf 6 (vd_111_6 E))))) (ac_node (ac_node (ac_leaf 7 (vd_111_7 E)) (ac_node (ac_leaf 10 (vd_111_10 E)) (ac_leaf 13 (vd_111_13 E)))) (ac_node (ac_leaf 14 (vd_111_14 E)) (ac_node (ac_leaf 17 (vd_111_17 E)) (ac_leaf 18 (vd_111_18 E)))))) (ac_node (ac_node (ac_node (ac_leaf 21 (vd_111_21 E)) (ac_leaf 22 (vd_111_22 E))) (ac_node (ac_leaf 25 (vd_111_25 E)) (ac_node (ac_leaf 28 (vd_111_28 E)) (ac_leaf 29 (vd_111_29 E))))) (ac_node (ac_node (ac_leaf 30 (vd_111_30 E)) (ac_node (ac_leaf 31 (vd_111_31 E)) (ac_leaf 34 (vd_111_34 E)))) (ac_node (ac_leaf 35 (vd_111_35 E)) (ac_node (ac_leaf 36 (vd_111_36 E)) (ac_leaf 37 (vd_111_37 E))))))) (ac_node (ac_node (ac_node (ac_node (ac_leaf 38 (vd_111_38 E)) (ac_leaf 41 (vd_111_41 E))) (ac_node (ac_leaf 42 (vd_111_42 E)) (ac_node (ac_leaf 45 (vd_111_45 E)) (ac_leaf 48 (vd_111_48 E))))) (ac_node (ac_node (ac_leaf 49 (vd_111_49 E)) (ac_node (ac_leaf 50 (vd_111_50 E)) (ac_leaf 53 (vd_111_53 E)))) (ac_node (ac_leaf 54 (vd_111_54 E)) (ac_node (ac_leaf 55 (vd_111_55 E)) (ac_leaf 57 (vd_111_57 E)))))) (ac_node (ac_node (ac_node (ac_leaf 58 (vd_111_58 E)) (ac_leaf 59 (vd_111_59 E))) (ac_node (ac_leaf 62 (vd_111_62 E)) (ac_node (ac_leaf 63 (vd_111_63 E)) (ac_leaf 64 (vd_111_64 E))))) (ac_node (ac_node (ac_leaf 65 (vd_111_65 E)) (ac_node (ac_leaf 66 (vd_111_66 E)) (ac_leaf 69 (vd_111_69 E)))) (ac_node (ac_leaf 70 (vd_111_70 E)) (ac_node (ac_leaf 71 (vd_111_71 E)) (ac_leaf 72 (vd_111_72 E))))))))
theorem vd_112_0 (E : ac_E) : ac_V E ac_MDf ac_HDf 112 0 (.inl (o_ild 1 1)) := ⟨ok_iload_n dd_112_0, mn_ild _ _⟩
theorem vd_112_1 (E : ac_E) : ac_V E ac_MDf ac_HDf 112 1 (.inl (o_ald 0 2)) := ⟨ok_aload_n dd_112_1, mn_ald _ _⟩
theorem vd_112_2 (E : ac_E) : ac_V E ac_MDf ac_HDf 112 2 (.inl (o_xl (ac_len E) 3)) := ⟨ok_xl dd_112_2, mn_xl _ _⟩
theorem vd_112_3 (E : ac_E) : ac_V E ac_MDf ac_HDf 112 3 (.inl (o_ge 12 6)) := ⟨ok_icmpge dd_112_3 (by decide), mn_ge _ _⟩
theorem vd_112_6 (E : ac_E) : ac_V E ac_MDf ac_HDf 112 6 (.inl (o_ald 0 7)) := ⟨ok_aload_n dd_112_6, mn_ald _ _⟩
theorem vd_112_7 (E : ac_E) : ac_V E ac_MDf ac_HDf 112 7 (.inl (o_ild 1 8)) := ⟨ok_iload_n dd_112_7, mn_ild _ _⟩
theorem vd_112_8 (E : ac_E) : ac_V E ac_MDf ac_HDf 112 8 (.inl (o_xa (ac_len E) (ac_xs E) 9)) := ⟨ok_xa dd_112_8, mn_xa _ _ _⟩
theorem vd_112_9 (E : ac_E) : ac_V E ac_MDf ac_HDf 112 9 (.inl (o_go 13)) := ⟨ok_goto dd_112_9 (by decide), mn_go _⟩
theorem vd_112_12 (E : ac_E) : ac_V E ac_MDf ac_HDf 112 12 (.inl (o_con (.int 0) 13)) := ⟨ok_iconst dd_112_12 (by decide), mn_con _ _⟩
theorem vd_112_13 (E : ac_E) : ac_V E ac_MDf ac_HDf 112 13 (.inr (.inr (.inl 1))) := ⟨fun q => nomatch q, fun _ => ⟨dd_112_13, rfl⟩, fun q => nomatch q⟩
theorem va_112 (E : ac_E) (pc : Nat) : ac_V E ac_MDf ac_HDf 112 pc (tb_112 (ac_len E) (ac_xs E) pc) := (ac_node (ac_node (ac_node (ac_leaf 0 (vd_112_0 E)) (ac_leaf 1 (vd_112_1 E))) (ac_node (ac_leaf 2 (vd_112_2 E)) (ac_node (ac_leaf 3 (vd_112_3 E)) (ac_leaf 6 (vd_112_6 E))))) (ac_node (ac_node (ac_leaf 7 (vd_112_7 E)) (ac_leaf 8 (vd_112_8 E))) (ac_node (ac_leaf 9 (vd_112_9 E)) (ac_node (ac_leaf 12 (vd_112_12 E)) (ac_leaf 13 (vd_112_13 E))))))
theorem vd_113_0 (E : ac_E) : ac_V E ac_MDf ac_HDf 113 0 (.inl (o_ald 0 1)) := ⟨ok_aload_n dd_113_0, mn_ald _ _⟩
theorem vd_113_1 (E : ac_E) : ac_V E ac_MDf ac_HDf 113 1 (.inl (o_ild 1 2)) := ⟨ok_iload_n dd_113_1, mn_ild _ _⟩
theorem vd_113_2 (E : ac_E) : ac_V E ac_MDf ac_HDf 113 2 (.inl (o_ild 2 3)) := ⟨ok_iload_n dd_113_2, mn_ild _ _⟩
theorem vd_113_3 (E : ac_E) : ac_V E ac_MDf ac_HDf 113 3 (.inl (o_ild 3 4)) := ⟨ok_iload_n dd_113_3, mn_ild _ _⟩
theorem vh_113 (E : ac_E) : ∀ x i j, ac_HDf 113 4 x = some (some (i, j)) → ac_okh E (ac_MDf 113) 4 x i j
  | 0, _, _, h => by
    cases h
    exact ok_catch rfl [] (0, 7, 10, 13) [(0, 7, 14, 15)] rfl (fun _ h => nomatch h) (by decide) (by decide +kernel) (by decide) wm_222 wm_234 (Or.inr ⟨rfl, dd_113_10⟩)
  | 1, _, _, h => by
    cases h
    exact ok_catch rfl [(0, 7, 10, 13)] (0, 7, 14, 15) [] rfl (List.forall_mem_cons.mpr ⟨⟨by decide, 0, by decide, by decide, wm_222⟩, fun _ h => nomatch h⟩) (by decide) (by decide +kernel) (by decide) wm_223 wm_310 (Or.inr ⟨rfl, dd_113_14⟩)
  | x + 2, _, _, h => by cases h
theorem vn_113 : ∀ x, ac_HDf 113 4 x ≠ some none
  | 0, h => by cases h
  | 1, h => by cases h
  | x + 2, h => by cases h
theorem vd_113_4 (E : ac_E) : ac_V E ac_MDf ac_HDf 113 4 (.inr (.inl (24,4,7,6))) := ac_Vcc (ok_callV (T := TX4) (N := 12) rfl rfl (by decide) (by decide +kernel) wm_227 wm_50 wm_224 wm_225 wm_226 dd_113_4) vn_113 (vh_113 E)
theorem vd_113_7 (E : ac_E) : ac_V E ac_MDf ac_HDf 113 7 (.inl (o_go 18)) := ⟨ok_goto dd_113_7 (by decide), mn_go _⟩
theorem vd_113_12 (E : ac_E) : ac_V E ac_MDf ac_HDf 113 12 (.inl (o_con (.int 1) 13)) := ⟨ok_iconst dd_113_12 (by decide), mn_con _ _⟩
theorem vd_113_13 (E : ac_E) : ac_V E ac_MDf ac_HDf 113 13 (.inr (.inr (.inl 1))) := ⟨fun q => nomatch q, fun _ => ⟨dd_113_13, rfl⟩, fun q => nomatch q⟩
theorem vd_113_16 (E : ac_E) : ac_V E ac_MDf ac_HDf 113 16 (.inl (o_con (.int 2) 17)) := ⟨ok_iconst dd_113_16 (by decide), mn_con _ _⟩
theorem vd_113_17 (E : ac_E) : ac_V E ac_MDf ac_HDf 113 17 (.inr (.inr (.inl 1))) := ⟨fun q => nomatch q, fun _ => ⟨dd_113_17, rfl⟩, fun q => nomatch q⟩
theorem vd_113_18 (E : ac_E) : ac_V E ac_MDf ac_HDf 113 18 (.inl (o_con (.int 0) 19)) := ⟨ok_iconst dd_113_18 (by decide), mn_con _ _⟩
theorem vd_113_19 (E : ac_E) : ac_V E ac_MDf ac_HDf 113 19 (.inr (.inr (.inl 1))) := ⟨fun q => nomatch q, fun _ => ⟨dd_113_19, rfl⟩, fun q => nomatch q⟩
theorem va_113 (E : ac_E) (pc : Nat) : ac_V E ac_MDf ac_HDf 113 pc (tb_113 (ac_len E) (ac_xs E) pc) := (ac_node (ac_node (ac_node (ac_leaf 0 (vd_113_0 E)) (ac_node (ac_leaf 1 (vd_113_1 E)) (ac_leaf 2 (vd_113_2 E)))) (ac_node (ac_leaf 3 (vd_113_3 E)) (ac_node (ac_leaf 4 (vd_113_4 E)) (ac_leaf 7 (vd_113_7 E))))) (ac_node (ac_node (ac_leaf 12 (vd_113_12 E)) (ac_node (ac_leaf 13 (vd_113_13 E)) (ac_leaf 16 (vd_113_16 E)))) (ac_node (ac_leaf 17 (vd_113_17 E)) (ac_node (ac_leaf 18 (vd_113_18 E)) (ac_leaf 19 (vd_113_19 E))))))
theorem vd_114_0 (E : ac_E) : ac_V E ac_MDf ac_HDf 114 0 (.inl (o_ald 3 1)) := ⟨ok_aload_n dd_114_0, mn_ald _ _⟩
theorem vd_114_1 (E : ac_E) : ac_V E ac_MDf ac_HDf 114 1 (.inl (o_con (.int 0) 2)) := ⟨ok_iconst dd_114_1 (by decide), mn_con _ _⟩
theorem vd_114_2 (E : ac_E) : ac_V E ac_MDf ac_HDf 114 2 (.inl (o_ald 0 3)) := ⟨ok_aload_n dd_114_2, mn_ald _ _⟩
theorem vd_114_3 (E : ac_E) : ac_V E ac_MDf ac_HDf 114 3 (.inl (o_ild 1 4)) := ⟨ok_iload_n dd_114_3, mn_ild _ _⟩
theorem vd_114_4 (E : ac_E) : ac_V E ac_MDf ac_HDf 114 4 (.inl (o_ild 2 5)) := ⟨ok_iload_n dd_114_4, mn_ild _ _⟩
theorem vh_114 (E : ac_E) : ∀ x i j, ac_HDf 114 5 x = some (some (i, j)) → ac_okh E (ac_MDf 114) 5 x i j
  | 0, _, _, h => by
    cases h
    exact ok_catch rfl [] (0, 10, 13, 13) [] rfl (fun _ h => nomatch h) (by decide) (by decide +kernel) (by decide) wm_222 wm_234 (Or.inr ⟨rfl, dd_114_13⟩)
  | x + 1, _, _, h => by cases h
theorem vn_114 : ∀ x, ac_HDf 114 5 x ≠ some none
  | 0, h => by cases h
  | x + 1, h => by cases h
theorem vd_114_5 (E : ac_E) : ac_V E ac_MDf ac_HDf 114 5 (.inr (.inl (25,3,8,6))) := ac_Vcc (ok_callV (T := TX4) (N := 12) rfl rfl (by decide) (by decide +kernel) wm_334 wm_50 wm_331 wm_332 wm_333 dd_114_5) vn_114 (vh_114 E)
theorem vd_114_8 (E : ac_E) : ac_V E ac_MDf ac_HDf 114 8 (.inl (o_i2l 9)) := ⟨ok_i2l dd_114_8, mn_i2l _⟩
theorem vd_114_9 (E : ac_E) : ac_V E ac_MDf ac_HDf 114 9 (.inl (o_ls 10)) := ⟨ok_lastore dd_114_9, mn_ls _⟩
theorem vd_114_10 (E : ac_E) : ac_V E ac_MDf ac_HDf 114 10 (.inl (o_go 17)) := ⟨ok_goto dd_114_10 (by decide), mn_go _⟩
theorem vd_114_15 (E : ac_E) : ac_V E ac_MDf ac_HDf 114 15 (.inl (o_con (.int 1) 16)) := ⟨ok_iconst dd_114_15 (by decide), mn_con _ _⟩
theorem vd_114_16 (E : ac_E) : ac_V E ac_MDf ac_HDf 114 16 (.inr (.inr (.inl 1))) := ⟨fun q => nomatch q, fun _ => ⟨dd_114_16, rfl⟩, fun q => nomatch q⟩
theorem vd_114_17 (E : ac_E) : ac_V E ac_MDf ac_HDf 114 17 (.inl (o_con (.int 0) 18)) := ⟨ok_iconst dd_114_17 (by decide), mn_con _ _⟩
theorem vd_114_18 (E : ac_E) : ac_V E ac_MDf ac_HDf 114 18 (.inr (.inr (.inl 1))) := ⟨fun q => nomatch q, fun _ => ⟨dd_114_18, rfl⟩, fun q => nomatch q⟩
theorem va_114 (E : ac_E) (pc : Nat) : ac_V E ac_MDf ac_HDf 114 pc (tb_114 (ac_len E) (ac_xs E) pc) := (ac_node (ac_node (ac_node (ac_leaf 0 (vd_114_0 E)) (ac_node (ac_leaf 1 (vd_114_1 E)) (ac_leaf 2 (vd_114_2 E)))) (ac_node (ac_leaf 3 (vd_114_3 E)) (ac_node (ac_leaf 4 (vd_114_4 E)) (ac_leaf 5 (vd_114_5 E))))) (ac_node (ac_node (ac_leaf 8 (vd_114_8 E)) (ac_node (ac_leaf 9 (vd_114_9 E)) (ac_leaf 10 (vd_114_10 E)))) (ac_node (ac_node (ac_leaf 15 (vd_114_15 E)) (ac_leaf 16 (vd_114_16 E))) (ac_node (ac_leaf 17 (vd_114_17 E)) (ac_leaf 18 (vd_114_18 E))))))
theorem vd_115_0 (E : ac_E) : ac_V E ac_MDf ac_HDf 115 0 (.inl (o_ald 3 1)) := ⟨ok_aload_n dd_115_0, mn_ald _ _⟩
theorem vd_115_1 (E : ac_E) : ac_V E ac_MDf ac_HDf 115 1 (.inl (o_con (.int 0) 2)) := ⟨ok_iconst dd_115_1 (by decide), mn_con _ _⟩
theorem vd_115_2 (E : ac_E) : ac_V E ac_MDf ac_HDf 115 2 (.inl (o_ald 0 3)) := ⟨ok_aload_n dd_115_2, mn_ald _ _⟩
theorem vd_115_3 (E : ac_E) : ac_V E ac_MDf ac_HDf 115 3 (.inl (o_ild 1 4)) := ⟨ok_iload_n dd_115_3, mn_ild _ _⟩
theorem vd_115_4 (E : ac_E) : ac_V E ac_MDf ac_HDf 115 4 (.inl (o_ild 2 5)) := ⟨ok_iload_n dd_115_4, mn_ild _ _⟩
theorem vh_115 (E : ac_E) : ∀ x i j, ac_HDf 115 5 x = some (some (i, j)) → ac_okh E (ac_MDf 115) 5 x i j
  | 1, _, _, h => by
    cases h
    exact ok_catch rfl [] (0, 10, 13, 15) [] rfl (fun _ h => nomatch h) (by decide) (by decide +kernel) (by decide) wm_223 wm_310 (Or.inr ⟨rfl, dd_115_13⟩)
  | 0, _, _, h => by cases h
  | x + 2, _, _, h => by cases h
theorem vn_115 : ∀ x, ac_HDf 115 5 x ≠ some none
  | 0, h => by cases h
  | 1, h => by cases h
  | x + 2, h => by cases h
theorem vd_115_5 (E : ac_E) : ac_V E ac_MDf ac_HDf 115 5 (.inr (.inl (26,3,8,6))) := ac_Vcc (ok_callV (T := TX4) (N := 12) rfl rfl (by decide) (by decide +kernel) wm_341 wm_50 wm_338 wm_339 wm_340 dd_115_5) vn_115 (vh_115 E)
theorem vd_115_8 (E : ac_E) : ac_V E ac_MDf ac_HDf 115 8 (.inl (o_i2l 9)) := ⟨ok_i2l dd_115_8, mn_i2l _⟩
theorem vd_115_9 (E : ac_E) : ac_V E ac_MDf ac_HDf 115 9 (.inl (o_ls 10)) := ⟨ok_lastore dd_115_9, mn_ls _⟩
theorem vd_115_10 (E : ac_E) : ac_V E ac_MDf ac_HDf 115 10 (.inl (o_go 17)) := ⟨ok_goto dd_115_10 (by decide), mn_go _⟩
theorem vd_115_15 (E : ac_E) : ac_V E ac_MDf ac_HDf 115 15 (.inl (o_con (.int 1) 16)) := ⟨ok_iconst dd_115_15 (by decide), mn_con _ _⟩
theorem vd_115_16 (E : ac_E) : ac_V E ac_MDf ac_HDf 115 16 (.inr (.inr (.inl 1))) := ⟨fun q => nomatch q, fun _ => ⟨dd_115_16, rfl⟩, fun q => nomatch q⟩
theorem vd_115_17 (E : ac_E) : ac_V E ac_MDf ac_HDf 115 17 (.inl (o_con (.int 0) 18)) := ⟨ok_iconst dd_115_17 (by decide), mn_con _ _⟩
theorem vd_115_18 (E : ac_E) : ac_V E ac_MDf ac_HDf 115 18 (.inr (.inr (.inl 1))) := ⟨fun q => nomatch q, fun _ => ⟨dd_115_18, rfl⟩, fun q => nomatch q⟩
theorem va_115 (E : ac_E) (pc : Nat) : ac_V E ac_MDf ac_HDf 115 pc (tb_115 (ac_len E) (ac_xs E) pc) := (ac_node (ac_node (ac_node (ac_leaf 0 (vd_115_0 E)) (ac_node (ac_leaf 1 (vd_115_1 E)) (ac_leaf 2 (vd_115_2 E)))) (ac_node (ac_leaf 3 (vd_115_3 E)) (ac_node (ac_leaf 4 (vd_115_4 E)) (ac_leaf 5 (vd_115_5 E))))) (ac_node (ac_node (ac_leaf 8 (vd_115_8 E)) (ac_node (ac_leaf 9 (vd_115_9 E)) (ac_leaf 10 (vd_115_10 E)))) (ac_node (ac_node (ac_leaf 15 (vd_115_15 E)) (ac_leaf 16 (vd_115_16 E))) (ac_node (ac_leaf 17 (vd_115_17 E)) (ac_leaf 18 (vd_115_18 E))))))
theorem vd_116_0 (E : ac_E) : ac_V E ac_MDf ac_HDf 116 0 (.inl (o_ald 4 2)) := ⟨ok_aload dd_116_0, mn_ald _ _⟩
theorem vd_116_2 (E : ac_E) : ac_V E ac_MDf ac_HDf 116 2 (.inl (o_con (.int 0) 3)) := ⟨ok_iconst dd_116_2 (by decide), mn_con _ _⟩
theorem vd_116_3 (E : ac_E) : ac_V E ac_MDf ac_HDf 116 3 (.inl (o_ald 0 4)) := ⟨ok_aload_n dd_116_3, mn_ald _ _⟩
theorem vd_116_4 (E : ac_E) : ac_V E ac_MDf ac_HDf 116 4 (.inl (o_ild 1 5)) := ⟨ok_iload_n dd_116_4, mn_ild _ _⟩
theorem vd_116_5 (E : ac_E) : ac_V E ac_MDf ac_HDf 116 5 (.inl (o_ild 2 6)) := ⟨ok_iload_n dd_116_5, mn_ild _ _⟩
theorem vd_116_6 (E : ac_E) : ac_V E ac_MDf ac_HDf 116 6 (.inl (o_ild 3 7)) := ⟨ok_iload_n dd_116_6, mn_ild _ _⟩
theorem vh_116 (E : ac_E) : ∀ x i j, ac_HDf 116 7 x = some (some (i, j)) → ac_okh E (ac_MDf 116) 7 x i j
  | 0, _, _, h => by
    cases h
    exact ok_catch rfl [] (0, 19, 22, 13) [(0, 19, 26, 28)] rfl (fun _ h => nomatch h) (by decide) (by decide +kernel) (by decide) wm_222 wm_234 (Or.inr ⟨rfl, dd_116_22⟩)
  | 2, _, _, h => by
    cases h
    exact ok_catch rfl [(0, 19, 22, 13)] (0, 19, 26, 28) [] rfl (List.forall_mem_cons.mpr ⟨⟨by decide, 0, by decide, by decide, wm_222⟩, fun _ h => nomatch h⟩) (by decide) (by decide +kernel) (by decide) wm_357 wm_368 (Or.inr ⟨rfl, dd_116_26⟩)
  | 1, _, _, h => by cases h
  | x + 3, _, _, h => by cases h
theorem vn_116 : ∀ x, ac_HDf 116 7 x ≠ some none
  | 0, h => by cases h
  | 1, h => by cases h
  | 2, h => by cases h
  | x + 3, h => by cases h
theorem vd_116_7 (E : ac_E) : ac_V E ac_MDf ac_HDf 116 7 (.inr (.inl (27,4,10,6))) := ac_Vcc (ok_callV (T := TX4) (N := 12) rfl rfl (by decide) (by decide +kernel) wm_361 wm_50 wm_358 wm_359 wm_360 dd_116_7) vn_116 (vh_116 E)
theorem vd_116_10 (E : ac_E) : ac_V E ac_MDf ac_HDf 116 10 (.inl (o_eq0 17 13)) := ⟨ok_ifeq dd_116_10 (by decide), mn_eq0 _ _⟩
theorem vd_116_13 (E : ac_E) : ac_V E ac_MDf ac_HDf 116 13 (.inl (o_con (.long 1) 14)) := ⟨ok_lconst dd_116_13 (by decide), mn_con _ _⟩
theorem vd_116_14 (E : ac_E) : ac_V E ac_MDf ac_HDf 116 14 (.inl (o_go 18)) := ⟨ok_goto dd_116_14 (by decide), mn_go _⟩
theorem vd_116_17 (E : ac_E) : ac_V E ac_MDf ac_HDf 116 17 (.inl (o_con (.long 0) 18)) := ⟨ok_lconst dd_116_17 (by decide), mn_con _ _⟩
theorem vd_116_18 (E : ac_E) : ac_V E ac_MDf ac_HDf 116 18 (.inl (o_ls 19)) := ⟨ok_lastore dd_116_18, mn_ls _⟩
theorem vd_116_19 (E : ac_E) : ac_V E ac_MDf ac_HDf 116 19 (.inl (o_go 30)) := ⟨ok_goto dd_116_19 (by decide), mn_go _⟩
theorem vd_116_24 (E : ac_E) : ac_V E ac_MDf ac_HDf 116 24 (.inl (o_con (.int 1) 25)) := ⟨ok_iconst dd_116_24 (by decide), mn_con _ _⟩
theorem vd_116_25 (E : ac_E) : ac_V E ac_MDf ac_HDf 116 25 (.inr (.inr (.inl 1))) := ⟨fun q => nomatch q, fun _ => ⟨dd_116_25, rfl⟩, fun q => nomatch q⟩
theorem vd_116_28 (E : ac_E) : ac_V E ac_MDf ac_HDf 116 28 (.inl (o_con (.int 2) 29)) := ⟨ok_iconst dd_116_28 (by decide), mn_con _ _⟩
theorem vd_116_29 (E : ac_E) : ac_V E ac_MDf ac_HDf 116 29 (.inr (.inr (.inl 1))) := ⟨fun q => nomatch q, fun _ => ⟨dd_116_29, rfl⟩, fun q => nomatch q⟩
theorem vd_116_30 (E : ac_E) : ac_V E ac_MDf ac_HDf 116 30 (.inl (o_con (.int 0) 31)) := ⟨ok_iconst dd_116_30 (by decide), mn_con _ _⟩
theorem vd_116_31 (E : ac_E) : ac_V E ac_MDf ac_HDf 116 31 (.inr (.inr (.inl 1))) := ⟨fun q => nomatch q, fun _ => ⟨dd_116_31, rfl⟩, fun q => nomatch q⟩
theorem va_116 (E : ac_E) (pc : Nat) : ac_V E ac_MDf ac_HDf 116 pc (tb_116 (ac_len E) (ac_xs E) pc) := (ac_node (ac_node (ac_node (ac_node (ac_leaf 0 (vd_116_0 E)) (ac_leaf 2 (vd_116_2 E))) (ac_node (ac_leaf 3 (vd_116_3 E)) (ac_leaf 4 (vd_116_4 E)))) (ac_node (ac_node (ac_leaf 5 (vd_116_5 E)) (ac_leaf 6 (vd_116_6 E))) (ac_node (ac_leaf 7 (vd_116_7 E)) (ac_node (ac_leaf 10 (vd_116_10 E)) (ac_leaf 13 (vd_116_13 E)))))) (ac_node (ac_node (ac_node (ac_leaf 14 (vd_116_14 E)) (ac_leaf 17 (vd_116_17 E))) (ac_node (ac_leaf 18 (vd_116_18 E)) (ac_node (ac_leaf 19 (vd_116_19 E)) (ac_leaf 24 (vd_116_24 E))))) (ac_node (ac_node (ac_leaf 25 (vd_116_25 E)) (ac_leaf 28 (vd_116_28 E))) (ac_node (ac_leaf 29 (vd_116_29 E)) (ac_node (ac_leaf 30 (vd_116_30 E)) (ac_leaf 31 (vd_116_31 E)))))))
theorem vd_117_0 (E : ac_E) : ac_V E ac_MDf ac_HDf 117 0 (.inl (o_ald 0 1)) := ⟨ok_aload_n dd_117_0, mn_ald _ _⟩
theorem vd_117_1 (E : ac_E) : ac_V E ac_MDf ac_HDf 117 1 (.inl (o_ild 1 2)) := ⟨ok_iload_n dd_117_1, mn_ild _ _⟩
theorem vd_117_2 (E : ac_E) : ac_V E ac_MDf ac_HDf 117 2 (.inl (o_ild 2 3)) := ⟨ok_iload_n dd_117_2, mn_ild _ _⟩
theorem vd_117_3 (E : ac_E) : ac_V E ac_MDf ac_HDf 117 3 (.inl (o_ild 3 4)) := ⟨ok_iload_n dd_117_3, mn_ild _ _⟩
theorem vh_117 (E : ac_E) : ∀ x i j, ac_HDf 117 4 x = some (some (i, j)) → ac_okh E (ac_MDf 117) 4 x i j
  | 0, _, _, h => by
    cases h
    exact ok_catch rfl [] (0, 7, 10, 13) [(0, 7, 14, 15), (0, 7, 18, 28)] rfl (fun _ h => nomatch h) (by decide) (by decide +kernel) (by decide) wm_222 wm_234 (Or.inr ⟨rfl, dd_117_10⟩)
  | 1, _, _, h => by
    cases h
    exact ok_catch rfl [(0, 7, 10, 13)] (0, 7, 14, 15) [(0, 7, 18, 28)] rfl (List.forall_mem_cons.mpr ⟨⟨by decide, 0, by decide, by decide, wm_222⟩, fun _ h => nomatch h⟩) (by decide) (by decide +kernel) (by decide) wm_223 wm_310 (Or.inr ⟨rfl, dd_117_14⟩)
  | 2, _, _, h => by
    cases h
    exact ok_catch rfl [(0, 7, 10, 13), (0, 7, 14, 15)] (0, 7, 18, 28) [] rfl (List.forall_mem_cons.mpr ⟨⟨by decide, 0, by decide, by decide, wm_222⟩, List.forall_mem_cons.mpr ⟨⟨by decide, 1, by decide, by decide, wm_223⟩, fun _ h => nomatch h⟩⟩) (by decide) (by decide +kernel) (by decide) wm_357 wm_368 (Or.inr ⟨rfl, dd_117_18⟩)
  | x + 3, _, _, h => by cases h
theorem vn_117 : ∀ x, ac_HDf 117 4 x ≠ some none
  | 0, h => by cases h
  | 1, h => by cases h
  | 2, h => by cases h
  | x + 3, h => by cases h
theorem vd_117_4 (E : ac_E) : ac_V E ac_MDf ac_HDf 117 4 (.inr (.inl (28,4,7,6))) := ac_Vcc (ok_callV (T := TX4) (N := 12) rfl rfl (by decide) (by decide +kernel) wm_388 wm_50 wm_385 wm_386 wm_387 dd_117_4) vn_117 (vh_117 E)
theorem vd_117_7 (E : ac_E) : ac_V E ac_MDf ac_HDf 117 7 (.inl (o_go 22)) := ⟨ok_goto dd_117_7 (by decide), mn_go _⟩
theorem vd_117_12 (E : ac_E) : ac_V E ac_MDf ac_HDf 117 12 (.inl (o_con (.int 1) 13)) := ⟨ok_iconst dd_117_12 (by decide), mn_con _ _⟩
theorem vd_117_13 (E : ac_E) : ac_V E ac_MDf ac_HDf 117 13 (.inr (.inr (.inl 1))) := ⟨fun q => nomatch q, fun _ => ⟨dd_117_13, rfl⟩, fun q => nomatch q⟩
theorem vd_117_16 (E : ac_E) : ac_V E ac_MDf ac_HDf 117 16 (.inl (o_con (.int 2) 17)) := ⟨ok_iconst dd_117_16 (by decide), mn_con _ _⟩
theorem vd_117_17 (E : ac_E) : ac_V E ac_MDf ac_HDf 117 17 (.inr (.inr (.inl 1))) := ⟨fun q => nomatch q, fun _ => ⟨dd_117_17, rfl⟩, fun q => nomatch q⟩
theorem vd_117_20 (E : ac_E) : ac_V E ac_MDf ac_HDf 117 20 (.inl (o_con (.int 3) 21)) := ⟨ok_iconst dd_117_20 (by decide), mn_con _ _⟩
theorem vd_117_21 (E : ac_E) : ac_V E ac_MDf ac_HDf 117 21 (.inr (.inr (.inl 1))) := ⟨fun q => nomatch q, fun _ => ⟨dd_117_21, rfl⟩, fun q => nomatch q⟩
theorem vd_117_22 (E : ac_E) : ac_V E ac_MDf ac_HDf 117 22 (.inl (o_con (.int 0) 23)) := ⟨ok_iconst dd_117_22 (by decide), mn_con _ _⟩
theorem vd_117_23 (E : ac_E) : ac_V E ac_MDf ac_HDf 117 23 (.inr (.inr (.inl 1))) := ⟨fun q => nomatch q, fun _ => ⟨dd_117_23, rfl⟩, fun q => nomatch q⟩
theorem va_117 (E : ac_E) (pc : Nat) : ac_V E ac_MDf ac_HDf 117 pc (tb_117 (ac_len E) (ac_xs E) pc) := (ac_node (ac_node (ac_node (ac_leaf 0 (vd_117_0 E)) (ac_node (ac_leaf 1 (vd_117_1 E)) (ac_leaf 2 (vd_117_2 E)))) (ac_node (ac_node (ac_leaf 3 (vd_117_3 E)) (ac_leaf 4 (vd_117_4 E))) (ac_node (ac_leaf 7 (vd_117_7 E)) (ac_leaf 12 (vd_117_12 E))))) (ac_node (ac_node (ac_leaf 13 (vd_117_13 E)) (ac_node (ac_leaf 16 (vd_117_16 E)) (ac_leaf 17 (vd_117_17 E)))) (ac_node (ac_node (ac_leaf 20 (vd_117_20 E)) (ac_leaf 21 (vd_117_21 E))) (ac_node (ac_leaf 22 (vd_117_22 E)) (ac_leaf 23 (vd_117_23 E))))))
theorem vd_118_0 (E : ac_E) : ac_V E ac_MDf ac_HDf 118 0 (.inl (o_ald 4 2)) := ⟨ok_aload dd_118_0, mn_ald _ _⟩
theorem vd_118_2 (E : ac_E) : ac_V E ac_MDf ac_HDf 118 2 (.inl (o_con (.int 0) 3)) := ⟨ok_iconst dd_118_2 (by decide), mn_con _ _⟩
theorem vd_118_3 (E : ac_E) : ac_V E ac_MDf ac_HDf 118 3 (.inl (o_ald 0 4)) := ⟨ok_aload_n dd_118_3, mn_ald _ _⟩
theorem vd_118_4 (E : ac_E) : ac_V E ac_MDf ac_HDf 118 4 (.inl (o_ild 1 5)) := ⟨ok_iload_n dd_118_4, mn_ild _ _⟩
theorem vd_118_5 (E : ac_E) : ac_V E ac_MDf ac_HDf 118 5 (.inl (o_ild 2 6)) := ⟨ok_iload_n dd_118_5, mn_ild _ _⟩
theorem vd_118_6 (E : ac_E) : ac_V E ac_MDf ac_HDf 118 6 (.inl (o_ild 3 7)) := ⟨ok_iload_n dd_118_6, mn_ild _ _⟩
theorem vh_118 (E : ac_E) : ∀ x i j, ac_HDf 118 7 x = some (some (i, j)) → ac_okh E (ac_MDf 118) 7 x i j
  | 0, _, _, h => by
    cases h
    exact ok_catch rfl [] (0, 19, 22, 13) [(0, 19, 26, 28)] rfl (fun _ h => nomatch h) (by decide) (by decide +kernel) (by decide) wm_222 wm_234 (Or.inr ⟨rfl, dd_118_22⟩)
  | 2, _, _, h => by
    cases h
    exact ok_catch rfl [(0, 19, 22, 13)] (0, 19, 26, 28) [] rfl (List.forall_mem_cons.mpr ⟨⟨by decide, 0, by decide, by decide, wm_222⟩, fun _ h => nomatch h⟩) (by decide) (by decide +kernel) (by decide) wm_357 wm_368 (Or.inr ⟨rfl, dd_118_26⟩)
  | 1, _, _, h => by cases h
  | x + 3, _, _, h => by cases h
theorem vn_118 : ∀ x, ac_HDf 118 7 x ≠ some none
  | 0, h => by cases h
  | 1, h => by cases h
  | 2, h => by cases h
  | x + 3, h => by cases h
theorem vd_118_7 (E : ac_E) : ac_V E ac_MDf ac_HDf 118 7 (.inr (.inl (29,4,10,6))) := ac_Vcc (ok_callV (T := TX4) (N := 12) rfl rfl (by decide) (by decide +kernel) wm_395 wm_50 wm_392 wm_393 wm_394 dd_118_7) vn_118 (vh_118 E)
theorem vd_118_10 (E : ac_E) : ac_V E ac_MDf ac_HDf 118 10 (.inl (o_eq0 17 13)) := ⟨ok_ifeq dd_118_10 (by decide), mn_eq0 _ _⟩
theorem vd_118_13 (E : ac_E) : ac_V E ac_MDf ac_HDf 118 13 (.inl (o_con (.long 1) 14)) := ⟨ok_lconst dd_118_13 (by decide), mn_con _ _⟩
theorem vd_118_14 (E : ac_E) : ac_V E ac_MDf ac_HDf 118 14 (.inl (o_go 18)) := ⟨ok_goto dd_118_14 (by decide), mn_go _⟩
theorem vd_118_17 (E : ac_E) : ac_V E ac_MDf ac_HDf 118 17 (.inl (o_con (.long 0) 18)) := ⟨ok_lconst dd_118_17 (by decide), mn_con _ _⟩
theorem vd_118_18 (E : ac_E) : ac_V E ac_MDf ac_HDf 118 18 (.inl (o_ls 19)) := ⟨ok_lastore dd_118_18, mn_ls _⟩
theorem vd_118_19 (E : ac_E) : ac_V E ac_MDf ac_HDf 118 19 (.inl (o_go 30)) := ⟨ok_goto dd_118_19 (by decide), mn_go _⟩
theorem vd_118_24 (E : ac_E) : ac_V E ac_MDf ac_HDf 118 24 (.inl (o_con (.int 1) 25)) := ⟨ok_iconst dd_118_24 (by decide), mn_con _ _⟩
theorem vd_118_25 (E : ac_E) : ac_V E ac_MDf ac_HDf 118 25 (.inr (.inr (.inl 1))) := ⟨fun q => nomatch q, fun _ => ⟨dd_118_25, rfl⟩, fun q => nomatch q⟩
theorem vd_118_28 (E : ac_E) : ac_V E ac_MDf ac_HDf 118 28 (.inl (o_con (.int 2) 29)) := ⟨ok_iconst dd_118_28 (by decide), mn_con _ _⟩
theorem vd_118_29 (E : ac_E) : ac_V E ac_MDf ac_HDf 118 29 (.inr (.inr (.inl 1))) := ⟨fun q => nomatch q, fun _ => ⟨dd_118_29, rfl⟩, fun q => nomatch q⟩
theorem vd_118_30 (E : ac_E) : ac_V E ac_MDf ac_HDf 118 30 (.inl (o_con (.int 0) 31)) := ⟨ok_iconst dd_118_30 (by decide), mn_con _ _⟩
theorem vd_118_31 (E : ac_E) : ac_V E ac_MDf ac_HDf 118 31 (.inr (.inr (.inl 1))) := ⟨fun q => nomatch q, fun _ => ⟨dd_118_31, rfl⟩, fun q => nomatch q⟩
theorem va_118 (E : ac_E) (pc : Nat) : ac_V E ac_MDf ac_HDf 118 pc (tb_118 (ac_len E) (ac_xs E) pc) := (ac_node (ac_node (ac_node (ac_node (ac_leaf 0 (vd_118_0 E)) (ac_leaf 2 (vd_118_2 E))) (ac_node (ac_leaf 3 (vd_118_3 E)) (ac_leaf 4 (vd_118_4 E)))) (ac_node (ac_node (ac_leaf 5 (vd_118_5 E)) (ac_leaf 6 (vd_118_6 E))) (ac_node (ac_leaf 7 (vd_118_7 E)) (ac_node (ac_leaf 10 (vd_118_10 E)) (ac_leaf 13 (vd_118_13 E)))))) (ac_node (ac_node (ac_node (ac_leaf 14 (vd_118_14 E)) (ac_leaf 17 (vd_118_17 E))) (ac_node (ac_leaf 18 (vd_118_18 E)) (ac_node (ac_leaf 19 (vd_118_19 E)) (ac_leaf 24 (vd_118_24 E))))) (ac_node (ac_node (ac_leaf 25 (vd_118_25 E)) (ac_leaf 28 (vd_118_28 E))) (ac_node (ac_leaf 29 (vd_118_29 E)) (ac_node (ac_leaf 30 (vd_118_30 E)) (ac_leaf 31 (vd_118_31 E)))))))
theorem vd_119_0 (E : ac_E) : ac_V E ac_MDf ac_HDf 119 0 (.inl (o_ald 4 2)) := ⟨ok_aload dd_119_0, mn_ald _ _⟩
theorem vd_119_2 (E : ac_E) : ac_V E ac_MDf ac_HDf 119 2 (.inl (o_con (.int 0) 3)) := ⟨ok_iconst dd_119_2 (by decide), mn_con _ _⟩
theorem vd_119_3 (E : ac_E) : ac_V E ac_MDf ac_HDf 119 3 (.inl (o_ald 0 4)) := ⟨ok_aload_n dd_119_3, mn_ald _ _⟩
theorem vd_119_4 (E : ac_E) : ac_V E ac_MDf ac_HDf 119 4 (.inl (o_ild 1 5)) := ⟨ok_iload_n dd_119_4, mn_ild _ _⟩
theorem vd_119_5 (E : ac_E) : ac_V E ac_MDf ac_HDf 119 5 (.inl (o_ild 2 6)) := ⟨ok_iload_n dd_119_5, mn_ild _ _⟩
theorem vd_119_6 (E : ac_E) : ac_V E ac_MDf ac_HDf 119 6 (.inl (o_ild 3 7)) := ⟨ok_iload_n dd_119_6, mn_ild _ _⟩
theorem vh_119 (E : ac_E) : ∀ x i j, ac_HDf 119 7 x = some (some (i, j)) → ac_okh E (ac_MDf 119) 7 x i j
  | 0, _, _, h => by
    cases h
    exact ok_catch rfl [] (0, 19, 22, 13) [(0, 19, 26, 28)] rfl (fun _ h => nomatch h) (by decide) (by decide +kernel) (by decide) wm_222 wm_234 (Or.inr ⟨rfl, dd_119_22⟩)
  | 2, _, _, h => by
    cases h
    exact ok_catch rfl [(0, 19, 22, 13)] (0, 19, 26, 28) [] rfl (List.forall_mem_cons.mpr ⟨⟨by decide, 0, by decide, by decide, wm_222⟩, fun _ h => nomatch h⟩) (by decide) (by decide +kernel) (by decide) wm_357 wm_368 (Or.inr ⟨rfl, dd_119_26⟩)
  | 1, _, _, h => by cases h
  | x + 3, _, _, h => by cases h
theorem vn_119 : ∀ x, ac_HDf 119 7 x ≠ some none
  | 0, h => by cases h
  | 1, h => by cases h
  | 2, h => by cases h
  | x + 3, h => by cases h
theorem vd_119_7 (E : ac_E) : ac_V E ac_MDf ac_HDf 119 7 (.inr (.inl (30,4,10,6))) := ac_Vcc (ok_callV (T := TX4) (N := 12) rfl rfl (by decide) (by decide +kernel) wm_402 wm_50 wm_399 wm_400 wm_401 dd_119_7) vn_119 (vh_119 E)
theorem vd_119_10 (E : ac_E) : ac_V E ac_MDf ac_HDf 119 10 (.inl (o_eq0 17 13)) := ⟨ok_ifeq dd_119_10 (by decide), mn_eq0 _ _⟩
theorem vd_119_13 (E : ac_E) : ac_V E ac_MDf ac_HDf 119 13 (.inl (o_con (.long 1) 14)) := ⟨ok_lconst dd_119_13 (by decide), mn_con _ _⟩
theorem vd_119_14 (E : ac_E) : ac_V E ac_MDf ac_HDf 119 14 (.inl (o_go 18)) := ⟨ok_goto dd_119_14 (by decide), mn_go _⟩
theorem vd_119_17 (E : ac_E) : ac_V E ac_MDf ac_HDf 119 17 (.inl (o_con (.long 0) 18)) := ⟨ok_lconst dd_119_17 (by decide), mn_con _ _⟩
theorem vd_119_18 (E : ac_E) : ac_V E ac_MDf ac_HDf 119 18 (.inl (o_ls 19)) := ⟨ok_lastore dd_119_18, mn_ls _⟩
theorem vd_119_19 (E : ac_E) : ac_V E ac_MDf ac_HDf 119 19 (.inl (o_go 30)) := ⟨ok_goto dd_119_19 (by decide), mn_go _⟩
theorem vd_119_24 (E : ac_E) : ac_V E ac_MDf ac_HDf 119 24 (.inl (o_con (.int 1) 25)) := ⟨ok_iconst dd_119_24 (by decide), mn_con _ _⟩
theorem vd_119_25 (E : ac_E) : ac_V E ac_MDf ac_HDf 119 25 (.inr (.inr (.inl 1))) := ⟨fun q => nomatch q, fun _ => ⟨dd_119_25, rfl⟩, fun q => nomatch q⟩
theorem vd_119_28 (E : ac_E) : ac_V E ac_MDf ac_HDf 119 28 (.inl (o_con (.int 2) 29)) := ⟨ok_iconst dd_119_28 (by decide), mn_con _ _⟩
theorem vd_119_29 (E : ac_E) : ac_V E ac_MDf ac_HDf 119 29 (.inr (.inr (.inl 1))) := ⟨fun q => nomatch q, fun _ => ⟨dd_119_29, rfl⟩, fun q => nomatch q⟩
theorem vd_119_30 (E : ac_E) : ac_V E ac_MDf ac_HDf 119 30 (.inl (o_con (.int 0) 31)) := ⟨ok_iconst dd_119_30 (by decide), mn_con _ _⟩
theorem vd_119_31 (E : ac_E) : ac_V E ac_MDf ac_HDf 119 31 (.inr (.inr (.inl 1))) := ⟨fun q => nomatch q, fun _ => ⟨dd_119_31, rfl⟩, fun q => nomatch q⟩
theorem va_119 (E : ac_E) (pc : Nat) : ac_V E ac_MDf ac_HDf 119 pc (tb_119 (ac_len E) (ac_xs E) pc) := (ac_node (ac_node (ac_node (ac_node (ac_leaf 0 (vd_119_0 E)) (ac_leaf 2 (vd_119_2 E))) (ac_node (ac_leaf 3 (vd_119_3 E)) (ac_leaf 4 (vd_119_4 E)))) (ac_node (ac_node (ac_leaf 5 (vd_119_5 E)) (ac_leaf 6 (vd_119_6 E))) (ac_node (ac_leaf 7 (vd_119_7 E)) (ac_node (ac_leaf 10 (vd_119_10 E)) (ac_leaf 13 (vd_119_13 E)))))) (ac_node (ac_node (ac_node (ac_leaf 14 (vd_119_14 E)) (ac_leaf 17 (vd_119_17 E))) (ac_node (ac_leaf 18 (vd_119_18 E)) (ac_node (ac_leaf 19 (vd_119_19 E)) (ac_leaf 24 (vd_119_24 E))))) (ac_node (ac_node (ac_leaf 25 (vd_119_25 E)) (ac_leaf 28 (vd_119_28 E))) (ac_node (ac_leaf 29 (vd_119_29 E)) (ac_node (ac_leaf 30 (vd_119_30 E)) (ac_leaf 31 (vd_119_31 E)))))))
theorem vd_120_0 (E : ac_E) : ac_V E ac_MDf ac_HDf 120 0 (.inl (o_ald 3 1)) := ⟨ok_aload_n dd_120_0, mn_ald _ _⟩
theorem vd_120_1 (E : ac_E) : ac_V E ac_MDf ac_HDf 120 1 (.inl (o_con (.int 0) 2)) := ⟨ok_iconst dd_120_1 (by decide), mn_con _ _⟩
theorem vd_120_2 (E : ac_E) : ac_V E ac_MDf ac_HDf 120 2 (.inl (o_ald 0 3)) := ⟨ok_aload_n dd_120_2, mn_ald _ _⟩
theorem vd_120_3 (E : ac_E) : ac_V E ac_MDf ac_HDf 120 3 (.inl (o_ild 1 4)) := ⟨ok_iload_n dd_120_3, mn_ild _ _⟩
theorem vd_120_4 (E : ac_E) : ac_V E ac_MDf ac_HDf 120 4 (.inl (o_ild 2 5)) := ⟨ok_iload_n dd_120_4, mn_ild _ _⟩
theorem vh_120 (E : ac_E) : ∀ x i j, ac_HDf 120 5 x = some (some (i, j)) → ac_okh E (ac_MDf 120) 5 x i j
  | 0, _, _, h => by
    cases h
    exact ok_catch rfl [] (0, 10, 13, 13) [] rfl (fun _ h => nomatch h) (by decide) (by decide +kernel) (by decide) wm_222 wm_234 (Or.inr ⟨rfl, dd_120_13⟩)
  | x + 1, _, _, h => by cases h
theorem vn_120 : ∀ x, ac_HDf 120 5 x ≠ some none
  | 0, h => by cases h
  | x + 1, h => by cases h
theorem vd_120_5 (E : ac_E) : ac_V E ac_MDf ac_HDf 120 5 (.inr (.inl (31,3,8,6))) := ac_Vcc (ok_callV (T := TX4) (N := 12) rfl rfl (by decide) (by decide +kernel) wm_409 wm_50 wm_406 wm_407 wm_408 dd_120_5) vn_120 (vh_120 E)
theorem vd_120_8 (E : ac_E) : ac_V E ac_MDf ac_HDf 120 8 (.inl (o_i2l 9)) := ⟨ok_i2l dd_120_8, mn_i2l _⟩
theorem vd_120_9 (E : ac_E) : ac_V E ac_MDf ac_HDf 120 9 (.inl (o_ls 10)) := ⟨ok_lastore dd_120_9, mn_ls _⟩
theorem vd_120_10 (E : ac_E) : ac_V E ac_MDf ac_HDf 120 10 (.inl (o_go 17)) := ⟨ok_goto dd_120_10 (by decide), mn_go _⟩
theorem vd_120_15 (E : ac_E) : ac_V E ac_MDf ac_HDf 120 15 (.inl (o_con (.int 1) 16)) := ⟨ok_iconst dd_120_15 (by decide), mn_con _ _⟩
theorem vd_120_16 (E : ac_E) : ac_V E ac_MDf ac_HDf 120 16 (.inr (.inr (.inl 1))) := ⟨fun q => nomatch q, fun _ => ⟨dd_120_16, rfl⟩, fun q => nomatch q⟩
theorem vd_120_17 (E : ac_E) : ac_V E ac_MDf ac_HDf 120 17 (.inl (o_con (.int 0) 18)) := ⟨ok_iconst dd_120_17 (by decide), mn_con _ _⟩
theorem vd_120_18 (E : ac_E) : ac_V E ac_MDf ac_HDf 120 18 (.inr (.inr (.inl 1))) := ⟨fun q => nomatch q, fun _ => ⟨dd_120_18, rfl⟩, fun q => nomatch q⟩
theorem va_120 (E : ac_E) (pc : Nat) : ac_V E ac_MDf ac_HDf 120 pc (tb_120 (ac_len E) (ac_xs E) pc) := (ac_node (ac_node (ac_node (ac_leaf 0 (vd_120_0 E)) (ac_node (ac_leaf 1 (vd_120_1 E)) (ac_leaf 2 (vd_120_2 E)))) (ac_node (ac_leaf 3 (vd_120_3 E)) (ac_node (ac_leaf 4 (vd_120_4 E)) (ac_leaf 5 (vd_120_5 E))))) (ac_node (ac_node (ac_leaf 8 (vd_120_8 E)) (ac_node (ac_leaf 9 (vd_120_9 E)) (ac_leaf 10 (vd_120_10 E)))) (ac_node (ac_node (ac_leaf 15 (vd_120_15 E)) (ac_leaf 16 (vd_120_16 E))) (ac_node (ac_leaf 17 (vd_120_17 E)) (ac_leaf 18 (vd_120_18 E))))))
theorem vd_121_0 (E : ac_E) : ac_V E ac_MDf ac_HDf 121 0 (.inl (o_ald 0 1)) := ⟨ok_aload_n dd_121_0, mn_ald _ _⟩
theorem vd_121_1 (E : ac_E) : ac_V E ac_MDf ac_HDf 121 1 (.inl (o_ild 1 2)) := ⟨ok_iload_n dd_121_1, mn_ild _ _⟩
theorem vh_121 (E : ac_E) : ∀ x i j, ac_HDf 121 2 x = some (some (i, j)) → ac_okh E (ac_MDf 121) 2 x i j
  | 1, _, _, h => by
    cases h
    exact ok_catch rfl [] (0, 5, 8, 15) [] rfl (fun _ h => nomatch h) (by decide) (by decide +kernel) (by decide) wm_223 wm_310 (Or.inl ⟨2, rfl, rfl, dd_121_8⟩)
  | 0, _, _, h => by cases h
  | x + 2, _, _, h => by cases h
theorem vn_121 : ∀ x, ac_HDf 121 2 x ≠ some none
  | 0, h => by cases h
  | 1, h => by cases h
  | x + 2, h => by cases h
theorem vd_121_2 (E : ac_E) : ac_V E ac_MDf ac_HDf 121 2 (.inr (.inl (32,2,5,6))) := ac_Vcc (ok_callV (T := TX4) (N := 12) rfl rfl (by decide) (by decide +kernel) wm_416 wm_50 wm_413 wm_414 wm_415 dd_121_2) vn_121 (vh_121 E)
theorem vd_121_5 (E : ac_E) : ac_V E ac_MDf ac_HDf 121 5 (.inl (o_go 11)) := ⟨ok_goto dd_121_5 (by decide), mn_go _⟩
theorem vd_121_9 (E : ac_E) : ac_V E ac_MDf ac_HDf 121 9 (.inl (o_con (.int 1) 10)) := ⟨ok_iconst dd_121_9 (by decide), mn_con _ _⟩
theorem vd_121_10 (E : ac_E) : ac_V E ac_MDf ac_HDf 121 10 (.inr (.inr (.inl 1))) := ⟨fun q => nomatch q, fun _ => ⟨dd_121_10, rfl⟩, fun q => nomatch q⟩
theorem vd_121_11 (E : ac_E) : ac_V E ac_MDf ac_HDf 121 11 (.inl (o_con (.int 0) 12)) := ⟨ok_iconst dd_121_11 (by decide), mn_con _ _⟩
theorem vd_121_12 (E : ac_E) : ac_V E ac_MDf ac_HDf 121 12 (.inr (.inr (.inl 1))) := ⟨fun q => nomatch q, fun _ => ⟨dd_121_12, rfl⟩, fun q => nomatch q⟩
theorem va_121 (E : ac_E) (pc : Nat) : ac_V E ac_MDf ac_HDf 121 pc (tb_121 (ac_len E) (ac_xs E) pc) := (ac_node (ac_node (ac_node (ac_leaf 0 (vd_121_0 E)) (ac_leaf 1 (vd_121_1 E))) (ac_node (ac_leaf 2 (vd_121_2 E)) (ac_leaf 5 (vd_121_5 E)))) (ac_node (ac_node (ac_leaf 9 (vd_121_9 E)) (ac_leaf 10 (vd_121_10 E))) (ac_node (ac_leaf 11 (vd_121_11 E)) (ac_leaf 12 (vd_121_12 E)))))
theorem vd_122_0 (E : ac_E) : ac_V E ac_MDf ac_HDf 122 0 (.inl (o_ald 2 1)) := ⟨ok_aload_n dd_122_0, mn_ald _ _⟩
theorem vd_122_1 (E : ac_E) : ac_V E ac_MDf ac_HDf 122 1 (.inl (o_con (.int 0) 2)) := ⟨ok_iconst dd_122_1 (by decide), mn_con _ _⟩
theorem vd_122_2 (E : ac_E) : ac_V E ac_MDf ac_HDf 122 2 (.inl (o_ald 0 3)) := ⟨ok_aload_n dd_122_2, mn_ald _ _⟩
theorem vd_122_3 (E : ac_E) : ac_V E ac_MDf ac_HDf 122 3 (.inl (o_ild 1 4)) := ⟨ok_iload_n dd_122_3, mn_ild _ _⟩
theorem vh_122 (E : ac_E) : ∀ x i j, ac_HDf 122 4 x = some (some (i, j)) → ac_okh E (ac_MDf 122) 4 x i j
  | 1, _, _, h => by
    cases h
    exact ok_catch rfl [] (0, 9, 12, 15) [] rfl (fun _ h => nomatch h) (by decide) (by decide +kernel) (by decide) wm_223 wm_310 (Or.inl ⟨3, rfl, rfl, dd_122_12⟩)
  | 0, _, _, h => by cases h
  | x + 2, _, _, h => by cases h
theorem vn_122 : ∀ x, ac_HDf 122 4 x ≠ some none
  | 0, h => by cases h
  | 1, h => by cases h
  | x + 2, h => by cases h
theorem vd_122_4 (E : ac_E) : ac_V E ac_MDf ac_HDf 122 4 (.inr (.inl (33,2,7,6))) := ac_Vcc (ok_callV (T := TX4) (N := 12) rfl rfl (by decide) (by decide +kernel) wm_423 wm_50 wm_420 wm_421 wm_422 dd_122_4) vn_122 (vh_122 E)
theorem vd_122_7 (E : ac_E) : ac_V E ac_MDf ac_HDf 122 7 (.inl (o_i2l 8)) := ⟨ok_i2l dd_122_7, mn_i2l _⟩
theorem vd_122_8 (E : ac_E) : ac_V E ac_MDf ac_HDf 122 8 (.inl (o_ls 9)) := ⟨ok_lastore dd_122_8, mn_ls _⟩
theorem vd_122_9 (E : ac_E) : ac_V E ac_MDf ac_HDf 122 9 (.inl (o_go 15)) := ⟨ok_goto dd_122_9 (by decide), mn_go _⟩
theorem vd_122_13 (E : ac_E) : ac_V E ac_MDf ac_HDf 122 13 (.inl (o_con (.int 1) 14)) := ⟨ok_iconst dd_122_13 (by decide), mn_con _ _⟩
theorem vd_122_14 (E : ac_E) : ac_V E ac_MDf ac_HDf 122 14 (.inr (.inr (.inl 1))) := ⟨fun q => nomatch q, fun _ => ⟨dd_122_14, rfl⟩, fun q => nomatch q⟩
theorem vd_122_15 (E : ac_E) : ac_V E ac_MDf ac_HDf 122 15 (.inl (o_con (.int 0) 16)) := ⟨ok_iconst dd_122_15 (by decide), mn_con _ _⟩
theorem vd_122_16 (E : ac_E) : ac_V E ac_MDf ac_HDf 122 16 (.inr (.inr (.inl 1))) := ⟨fun q => nomatch q, fun _ => ⟨dd_122_16, rfl⟩, fun q => nomatch q⟩
theorem va_122 (E : ac_E) (pc : Nat) : ac_V E ac_MDf ac_HDf 122 pc (tb_122 (ac_len E) (ac_xs E) pc) := (ac_node (ac_node (ac_node (ac_leaf 0 (vd_122_0 E)) (ac_node (ac_leaf 1 (vd_122_1 E)) (ac_leaf 2 (vd_122_2 E)))) (ac_node (ac_leaf 3 (vd_122_3 E)) (ac_node (ac_leaf 4 (vd_122_4 E)) (ac_leaf 7 (vd_122_7 E))))) (ac_node (ac_node (ac_leaf 8 (vd_122_8 E)) (ac_node (ac_leaf 9 (vd_122_9 E)) (ac_leaf 13 (vd_122_13 E)))) (ac_node (ac_leaf 14 (vd_122_14 E)) (ac_node (ac_leaf 15 (vd_122_15 E)) (ac_leaf 16 (vd_122_16 E))))))
theorem vd_123_0 (E : ac_E) : ac_V E ac_MDf ac_HDf 123 0 (.inl (o_ald 2 1)) := ⟨ok_aload_n dd_123_0, mn_ald _ _⟩
theorem vd_123_1 (E : ac_E) : ac_V E ac_MDf ac_HDf 123 1 (.inl (o_con (.int 0) 2)) := ⟨ok_iconst dd_123_1 (by decide), mn_con _ _⟩
theorem vd_123_2 (E : ac_E) : ac_V E ac_MDf ac_HDf 123 2 (.inl (o_ald 0 3)) := ⟨ok_aload_n dd_123_2, mn_ald _ _⟩
theorem vd_123_3 (E : ac_E) : ac_V E ac_MDf ac_HDf 123 3 (.inl (o_ild 1 4)) := ⟨ok_iload_n dd_123_3, mn_ild _ _⟩
theorem vh_123 (E : ac_E) : ∀ x i j, ac_HDf 123 4 x = some (some (i, j)) → ac_okh E (ac_MDf 123) 4 x i j
  | 1, _, _, h => by
    cases h
    exact ok_catch rfl [] (0, 9, 12, 15) [] rfl (fun _ h => nomatch h) (by decide) (by decide +kernel) (by decide) wm_223 wm_310 (Or.inl ⟨3, rfl, rfl, dd_123_12⟩)
  | 0, _, _, h => by cases h
  | x + 2, _, _, h => by cases h
theorem vn_123 : ∀ x, ac_HDf 123 4 x ≠ some none
  | 0, h => by cases h
  | 1, h => by cases h
  | x + 2, h => by cases h
theorem vd_123_4 (E : ac_E) : ac_V E ac_MDf ac_HDf 123 4 (.inr (.inl (35,2,7,6))) := ac_Vcc (ok_callV (T := TX4) (N := 12) rfl rfl (by decide) (by decide +kernel) wm_430 wm_50 wm_427 wm_428 wm_429 dd_123_4) vn_123 (vh_123 E)
theorem vd_123_7 (E : ac_E) : ac_V E ac_MDf ac_HDf 123 7 (.inl (o_i2l 8)) := ⟨ok_i2l dd_123_7, mn_i2l _⟩
theorem vd_123_8 (E : ac_E) : ac_V E ac_MDf ac_HDf 123 8 (.inl (o_ls 9)) := ⟨ok_lastore dd_123_8, mn_ls _⟩
theorem vd_123_9 (E : ac_E) : ac_V E ac_MDf ac_HDf 123 9 (.inl (o_go 15)) := ⟨ok_goto dd_123_9 (by decide), mn_go _⟩
theorem vd_123_13 (E : ac_E) : ac_V E ac_MDf ac_HDf 123 13 (.inl (o_con (.int 1) 14)) := ⟨ok_iconst dd_123_13 (by decide), mn_con _ _⟩
theorem vd_123_14 (E : ac_E) : ac_V E ac_MDf ac_HDf 123 14 (.inr (.inr (.inl 1))) := ⟨fun q => nomatch q, fun _ => ⟨dd_123_14, rfl⟩, fun q => nomatch q⟩
theorem vd_123_15 (E : ac_E) : ac_V E ac_MDf ac_HDf 123 15 (.inl (o_con (.int 0) 16)) := ⟨ok_iconst dd_123_15 (by decide), mn_con _ _⟩
theorem vd_123_16 (E : ac_E) : ac_V E ac_MDf ac_HDf 123 16 (.inr (.inr (.inl 1))) := ⟨fun q => nomatch q, fun _ => ⟨dd_123_16, rfl⟩, fun q => nomatch q⟩
theorem va_123 (E : ac_E) (pc : Nat) : ac_V E ac_MDf ac_HDf 123 pc (tb_123 (ac_len E) (ac_xs E) pc) := (ac_node (ac_node (ac_node (ac_leaf 0 (vd_123_0 E)) (ac_node (ac_leaf 1 (vd_123_1 E)) (ac_leaf 2 (vd_123_2 E)))) (ac_node (ac_leaf 3 (vd_123_3 E)) (ac_node (ac_leaf 4 (vd_123_4 E)) (ac_leaf 7 (vd_123_7 E))))) (ac_node (ac_node (ac_leaf 8 (vd_123_8 E)) (ac_node (ac_leaf 9 (vd_123_9 E)) (ac_leaf 13 (vd_123_13 E)))) (ac_node (ac_leaf 14 (vd_123_14 E)) (ac_node (ac_leaf 15 (vd_123_15 E)) (ac_leaf 16 (vd_123_16 E))))))
theorem vd_124_0 (E : ac_E) : ac_V E ac_MDf ac_HDf 124 0 (.inl (o_ald 2 1)) := ⟨ok_aload_n dd_124_0, mn_ald _ _⟩
theorem vd_124_1 (E : ac_E) : ac_V E ac_MDf ac_HDf 124 1 (.inl (o_con (.int 0) 2)) := ⟨ok_iconst dd_124_1 (by decide), mn_con _ _⟩
theorem vd_124_2 (E : ac_E) : ac_V E ac_MDf ac_HDf 124 2 (.inl (o_ald 0 3)) := ⟨ok_aload_n dd_124_2, mn_ald _ _⟩
theorem vd_124_3 (E : ac_E) : ac_V E ac_MDf ac_HDf 124 3 (.inl (o_ild 1 4)) := ⟨ok_iload_n dd_124_3, mn_ild _ _⟩
theorem vh_124 (E : ac_E) : ∀ x i j, ac_HDf 124 4 x = some (some (i, j)) → ac_okh E (ac_MDf 124) 4 x i j
  | 1, _, _, h => by
    cases h
    exact ok_catch rfl [] (0, 9, 12, 15) [(0, 9, 15, 56)] rfl (fun _ h => nomatch h) (by decide) (by decide +kernel) (by decide) wm_223 wm_310 (Or.inl ⟨3, rfl, rfl, dd_124_12⟩)
  | 3, _, _, h => by
    cases h
    exact ok_catch rfl [(0, 9, 12, 15)] (0, 9, 15, 56) [] rfl (List.forall_mem_cons.mpr ⟨⟨by decide, 1, by decide, by decide, wm_223⟩, fun _ h => nomatch h⟩) (by decide) (by decide +kernel) (by decide) wm_545 wm_556 (Or.inl ⟨3, rfl, rfl, dd_124_15⟩)
  | 0, _, _, h => by cases h
  | 2, _, _, h => by cases h
  | x + 4, _, _, h => by cases h
theorem vn_124 : ∀ x, ac_HDf 124 4 x ≠ some none
  | 0, h => by cases h
  | 1, h => by cases h
  | 2, h => by cases h
  | 3, h => by cases h
  | x + 4, h => by cases h
theorem vd_124_4 (E : ac_E) : ac_V E ac_MDf ac_HDf 124 4 (.inr (.inl (36,2,7,6))) := ac_Vcc (ok_callV (T := TX4) (N := 12) rfl rfl (by decide) (by decide +kernel) wm_549 wm_50 wm_546 wm_547 wm_548 dd_124_4) vn_124 (vh_124 E)
theorem vd_124_7 (E : ac_E) : ac_V E ac_MDf ac_HDf 124 7 (.inl (o_i2l 8)) := ⟨ok_i2l dd_124_7, mn_i2l _⟩
theorem vd_124_8 (E : ac_E) : ac_V E ac_MDf ac_HDf 124 8 (.inl (o_ls 9)) := ⟨ok_lastore dd_124_8, mn_ls _⟩
theorem vd_124_9 (E : ac_E) : ac_V E ac_MDf ac_HDf 124 9 (.inl (o_go 18)) := ⟨ok_goto dd_124_9 (by decide), mn_go _⟩
theorem vd_124_13 (E : ac_E) : ac_V E ac_MDf ac_HDf 124 13 (.inl (o_con (.int 1) 14)) := ⟨ok_iconst dd_124_13 (by decide), mn_con _ _⟩
theorem vd_124_14 (E : ac_E) : ac_V E ac_MDf ac_HDf 124 14 (.inr (.inr (.inl 1))) := ⟨fun q => nomatch q, fun _ => ⟨dd_124_14, rfl⟩, fun q => nomatch q⟩
theorem vd_124_16 (E : ac_E) : ac_V E ac_MDf ac_HDf 124 16 (.inl (o_con (.int 2) 17)) := ⟨ok_iconst dd_124_16 (by decide), mn_con _ _⟩
theorem vd_124_17 (E : ac_E) : ac_V E ac_MDf ac_HDf 124 17 (.inr (.inr (.inl 1))) := ⟨fun q => nomatch q, fun _ => ⟨dd_124_17, rfl⟩, fun q => nomatch q⟩
theorem vd_124_18 (E : ac_E) : ac_V E ac_MDf ac_HDf 124 18 (.inl (o_con (.int 0) 19)) := ⟨ok_iconst dd_124_18 (by decide), mn_con _ _⟩
theorem vd_124_19 (E : ac_E) : ac_V E ac_MDf ac_HDf 124 19 (.inr (.inr (.inl 1))) := ⟨fun q => nomatch q, fun _ => ⟨dd_124_19, rfl⟩, fun q => nomatch q⟩
theorem va_124 (E : ac_E) (pc : Nat) : ac_V E ac_MDf ac_HDf 124 pc (tb_124 (ac_len E) (ac_xs E) pc) := (ac_node (ac_node (ac_node (ac_leaf 0 (vd_124_0 E)) (ac_node (ac_leaf 1 (vd_124_1 E)) (ac_leaf 2 (vd_124_2 E)))) (ac_node (ac_node (ac_leaf 3 (vd_124_3 E)) (ac_leaf 4 (vd_124_4 E))) (ac_node (ac_leaf 7 (vd_124_7 E)) (ac_leaf 8 (vd_124_8 E))))) (ac_node (ac_node (ac_leaf 9 (vd_124_9 E)) (ac_node (ac_leaf 13 (vd_124_13 E)) (ac_leaf 14 (vd_124_14 E)))) (ac_node (ac_node (ac_leaf 16 (vd_124_16 E)) (ac_leaf 17 (vd_124_17 E))) (ac_node (ac_leaf 18 (vd_124_18 E)) (ac_leaf 19 (vd_124_19 E))))))
theorem vd_125_0 (E : ac_E) : ac_V E ac_MDf ac_HDf 125 0 (.inl (o_ald 6 2)) := ⟨ok_aload dd_125_0, mn_ald _ _⟩
theorem vd_125_2 (E : ac_E) : ac_V E ac_MDf ac_HDf 125 2 (.inl (o_con (.int 0) 3)) := ⟨ok_iconst dd_125_2 (by decide), mn_con _ _⟩
theorem vd_125_3 (E : ac_E) : ac_V E ac_MDf ac_HDf 125 3 (.inl (o_ald 0 4)) := ⟨ok_aload_n dd_125_3, mn_ald _ _⟩
theorem vd_125_4 (E : ac_E) : ac_V E ac_MDf ac_HDf 125 4 (.inl (o_ild 1 5)) := ⟨ok_iload_n dd_125_4, mn_ild _ _⟩
theorem vd_125_5 (E : ac_E) : ac_V E ac_MDf ac_HDf 125 5 (.inl (o_ild 2 6)) := ⟨ok_iload_n dd_125_5, mn_ild _ _⟩
theorem vd_125_6 (E : ac_E) : ac_V E ac_MDf ac_HDf 125 6 (.inl (o_ild 3 7)) := ⟨ok_iload_n dd_125_6, mn_ild _ _⟩
theorem vd_125_7 (E : ac_E) : ac_V E ac_MDf ac_HDf 125 7 (.inl (o_ild 4 9)) := ⟨ok_iload dd_125_7, mn_ild _ _⟩
theorem vd_125_9 (E : ac_E) : ac_V E ac_MDf ac_HDf 125 9 (.inl (o_ild 5 11)) := ⟨ok_iload dd_125_9, mn_ild _ _⟩
theorem vh_125 (E : ac_E) : ∀ x i j, ac_HDf 125 11 x = some (some (i, j)) → ac_okh E (ac_MDf 125) 11 x i j
  | 0, _, _, h => by
    cases h
    exact ok_catch rfl [] (0, 16, 19, 13) [(0, 16, 23, 15)] rfl (fun _ h => nomatch h) (by decide) (by decide +kernel) (by decide) wm_222 wm_234 (Or.inr ⟨rfl, dd_125_19⟩)
  | 1, _, _, h => by
    cases h
    exact ok_catch rfl [(0, 16, 19, 13)] (0, 16, 23, 15) [] rfl (List.forall_mem_cons.mpr ⟨⟨by decide, 0, by decide, by decide, wm_222⟩, fun _ h => nomatch h⟩) (by decide) (by decide +kernel) (by decide) wm_223 wm_310 (Or.inr ⟨rfl, dd_125_23⟩)
  | x + 2, _, _, h => by cases h
theorem vn_125 : ∀ x, ac_HDf 125 11 x ≠ some none
  | 0, h => by cases h
  | 1, h => by cases h
  | x + 2, h => by cases h
theorem vd_125_11 (E : ac_E) : ac_V E ac_MDf ac_HDf 125 11 (.inr (.inl (37,6,14,6))) := ac_Vcc (ok_callV (T := TX4) (N := 12) rfl rfl (by decide) (by decide +kernel) wm_580 wm_50 wm_577 wm_578 wm_579 dd_125_11) vn_125 (vh_125 E)
theorem vd_125_14 (E : ac_E) : ac_V E ac_MDf ac_HDf 125 14 (.inl (o_i2l 15)) := ⟨ok_i2l dd_125_14, mn_i2l _⟩
theorem vd_125_15 (E : ac_E) : ac_V E ac_MDf ac_HDf 125 15 (.inl (o_ls 16)) := ⟨ok_lastore dd_125_15, mn_ls _⟩
theorem vd_125_16 (E : ac_E) : ac_V E ac_MDf ac_HDf 125 16 (.inl (o_go 27)) := ⟨ok_goto dd_125_16 (by decide), mn_go _⟩
theorem vd_125_21 (E : ac_E) : ac_V E ac_MDf ac_HDf 125 21 (.inl (o_con (.int 1) 22)) := ⟨ok_iconst dd_125_21 (by decide), mn_con _ _⟩
theorem vd_125_22 (E : ac_E) : ac_V E ac_MDf ac_HDf 125 22 (.inr (.inr (.inl 1))) := ⟨fun q => nomatch q, fun _ => ⟨dd_125_22, rfl⟩, fun q => nomatch q⟩
theorem vd_125_25 (E : ac_E) : ac_V E ac_MDf ac_HDf 125 25 (.inl (o_con (.int 2) 26)) := ⟨ok_iconst dd_125_25 (by decide), mn_con _ _⟩
theorem vd_125_26 (E : ac_E) : ac_V E ac_MDf ac_HDf 125 26 (.inr (.inr (.inl 1))) := ⟨fun q => nomatch q, fun _ => ⟨dd_125_26, rfl⟩, fun q => nomatch q⟩
theorem vd_125_27 (E : ac_E) : ac_V E ac_MDf ac_HDf 125 27 (.inl (o_con (.int 0) 28)) := ⟨ok_iconst dd_125_27 (by decide), mn_con _ _⟩
theorem vd_125_28 (E : ac_E) : ac_V E ac_MDf ac_HDf 125 28 (.inr (.inr (.inl 1))) := ⟨fun q => nomatch q, fun _ => ⟨dd_125_28, rfl⟩, fun q => nomatch q⟩
theorem va_125 (E : ac_E) (pc : Nat) : ac_V E ac_MDf ac_HDf 125 pc (tb_125 (ac_len E) (ac_xs E) pc) := (ac_node (ac_node (ac_node (ac_node (ac_leaf 0 (vd_125_0 E)) (ac_leaf 2 (vd_125_2 E))) (ac_node (ac_leaf 3 (vd_125_3 E)) (ac_leaf 4 (vd_125_4 E)))) (ac_node (ac_node (ac_leaf 5 (vd_125_5 E)) (ac_leaf 6 (vd_125_6 E))) (ac_node (ac_leaf 7 (vd_125_7 E)) (ac_node (ac_leaf 9 (vd_125_9 E)) (ac_leaf 11 (vd_125_11 E)))))) (ac_node (ac_node (ac_node (ac_leaf 14 (vd_125_14 E)) (ac_leaf 15 (vd_125_15 E))) (ac_node (ac_leaf 16 (vd_125_16 E)) (ac_leaf 21 (vd_125_21 E)))) (ac_node (ac_node (ac_leaf 22 (vd_125_22 E)) (ac_leaf 25 (vd_125_25 E))) (ac_node (ac_leaf 26 (vd_125_26 E)) (ac_node (ac_leaf 27 (vd_125_27 E)) (ac_leaf 28 (vd_125_28 E)))))))
theorem vd_126_0 (E : ac_E) : ac_V E ac_MDf ac_HDf 126 0 (.inl (o_ald 3 1)) := ⟨ok_aload_n dd_126_0, mn_ald _ _⟩
theorem vd_126_1 (E : ac_E) : ac_V E ac_MDf ac_HDf 126 1 (.inl (o_con (.int 0) 2)) := ⟨ok_iconst dd_126_1 (by decide), mn_con _ _⟩
theorem vd_126_2 (E : ac_E) : ac_V E ac_MDf ac_HDf 126 2 (.inl (o_ald 0 3)) := ⟨ok_aload_n dd_126_2, mn_ald _ _⟩
theorem vd_126_3 (E : ac_E) : ac_V E ac_MDf ac_HDf 126 3 (.inl (o_ild 1 4)) := ⟨ok_iload_n dd_126_3, mn_ild _ _⟩
theorem vd_126_4 (E : ac_E) : ac_V E ac_MDf ac_HDf 126 4 (.inl (o_ild 2 5)) := ⟨ok_iload_n dd_126_4, mn_ild _ _⟩
theorem vh_126 (E : ac_E) : ∀ x i j, ac_HDf 126 5 x = some (some (i, j)) → ac_okh E (ac_MDf 126) 5 x i j
  | 1, _, _, h => by
    cases h
    exact ok_catch rfl [] (0, 10, 13, 15) [] rfl (fun _ h => nomatch h) (by decide) (by decide +kernel) (by decide) wm_223 wm_310 (Or.inr ⟨rfl, dd_126_13⟩)
  | 0, _, _, h => by cases h
  | x + 2, _, _, h => by cases h
theorem vn_126 : ∀ x, ac_HDf 126 5 x ≠ some none
  | 0, h => by cases h
  | 1, h => by cases h
  | x + 2, h => by cases h
theorem vd_126_5 (E : ac_E) : ac_V E ac_MDf ac_HDf 126 5 (.inr (.inl (38,3,8,6))) := ac_Vcc (ok_callV (T := TX4) (N := 12) rfl rfl (by decide) (by decide +kernel) wm_589 wm_50 wm_586 wm_587 wm_588 dd_126_5) vn_126 (vh_126 E)
theorem vd_126_8 (E : ac_E) : ac_V E ac_MDf ac_HDf 126 8 (.inl (o_i2l 9)) := ⟨ok_i2l dd_126_8, mn_i2l _⟩
theorem vd_126_9 (E : ac_E) : ac_V E ac_MDf ac_HDf 126 9 (.inl (o_ls 10)) := ⟨ok_lastore dd_126_9, mn_ls _⟩
theorem vd_126_10 (E : ac_E) : ac_V E ac_MDf ac_HDf 126 10 (.inl (o_go 17)) := ⟨ok_goto dd_126_10 (by decide), mn_go _⟩
theorem vd_126_15 (E : ac_E) : ac_V E ac_MDf ac_HDf 126 15 (.inl (o_con (.int 1) 16)) := ⟨ok_iconst dd_126_15 (by decide), mn_con _ _⟩
theorem vd_126_16 (E : ac_E) : ac_V E ac_MDf ac_HDf 126 16 (.inr (.inr (.inl 1))) := ⟨fun q => nomatch q, fun _ => ⟨dd_126_16, rfl⟩, fun q => nomatch q⟩
theorem vd_126_17 (E : ac_E) : ac_V E ac_MDf ac_HDf 126 17 (.inl (o_con (.int 0) 18)) := ⟨ok_iconst dd_126_17 (by decide), mn_con _ _⟩
theorem vd_126_18 (E : ac_E) : ac_V E ac_MDf ac_HDf 126 18 (.inr (.inr (.inl 1))) := ⟨fun q => nomatch q, fun _ => ⟨dd_126_18, rfl⟩, fun q => nomatch q⟩
theorem va_126 (E : ac_E) (pc : Nat) : ac_V E ac_MDf ac_HDf 126 pc (tb_126 (ac_len E) (ac_xs E) pc) := (ac_node (ac_node (ac_node (ac_leaf 0 (vd_126_0 E)) (ac_node (ac_leaf 1 (vd_126_1 E)) (ac_leaf 2 (vd_126_2 E)))) (ac_node (ac_leaf 3 (vd_126_3 E)) (ac_node (ac_leaf 4 (vd_126_4 E)) (ac_leaf 5 (vd_126_5 E))))) (ac_node (ac_node (ac_leaf 8 (vd_126_8 E)) (ac_node (ac_leaf 9 (vd_126_9 E)) (ac_leaf 10 (vd_126_10 E)))) (ac_node (ac_node (ac_leaf 15 (vd_126_15 E)) (ac_leaf 16 (vd_126_16 E))) (ac_node (ac_leaf 17 (vd_126_17 E)) (ac_leaf 18 (vd_126_18 E))))))
theorem vd_127_0 (E : ac_E) : ac_V E ac_MDf ac_HDf 127 0 (.inl (o_ald 4 2)) := ⟨ok_aload dd_127_0, mn_ald _ _⟩
theorem vd_127_2 (E : ac_E) : ac_V E ac_MDf ac_HDf 127 2 (.inl (o_con (.int 0) 3)) := ⟨ok_iconst dd_127_2 (by decide), mn_con _ _⟩
theorem vd_127_3 (E : ac_E) : ac_V E ac_MDf ac_HDf 127 3 (.inl (o_ald 0 4)) := ⟨ok_aload_n dd_127_3, mn_ald _ _⟩
