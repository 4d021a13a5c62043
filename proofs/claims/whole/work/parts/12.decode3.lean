theorem dd_91_92 : decode prog_7_method_26_code 92 = .ok (.iload 6, 2) := by decide +kernel
theorem dd_91_94 : decode prog_7_method_26_code 94 = .ok (.iload 5, 2) := by decide +kernel
theorem dd_91_96 : decode prog_7_method_26_code 96 = .ok (.iload 4, 2) := by decide +kernel
theorem dd_91_98 : decode prog_7_method_26_code 98 = .ok (.iconst 1, 1) := by decide +kernel
theorem dd_91_99 : decode prog_7_method_26_code 99 = .ok (.aload_n 0, 1) := by decide +kernel
theorem dd_91_100 : decode prog_7_method_26_code 100 = .ok (.getfield 39, 3) := by decide +kernel
theorem dd_91_103 : decode prog_7_method_26_code 103 = .ok (.iload 6, 2) := by decide +kernel
theorem dd_91_105 : decode prog_7_method_26_code 105 = .ok (.iaload, 1) := by decide +kernel
theorem dd_91_106 : decode prog_7_method_26_code 106 = .ok (.ishl, 1) := by decide +kernel
theorem dd_91_107 : decode prog_7_method_26_code 107 = .ok (.iconst 1, 1) := by decide +kernel
theorem dd_91_108 : decode prog_7_method_26_code 108 = .ok (.isub, 1) := by decide +kernel
theorem dd_91_109 : decode prog_7_method_26_code 109 = .ok (.iand, 1) := by decide +kernel
theorem dd_91_110 : decode prog_7_method_26_code 110 = .ok (.invokestatic 91, 3) := by decide +kernel
theorem dd_91_113 : decode prog_7_method_26_code 113 = .ok (.invokestatic 95, 3) := by decide +kernel
theorem dd_91_116 : decode prog_7_method_26_code 116 = .ok (.iastore, 1) := by decide +kernel
theorem dd_91_117 : decode prog_7_method_26_code 117 = .ok (.iinc 6 1, 3) := by decide +kernel
theorem dd_91_120 : decode prog_7_method_26_code 120 = .ok (.goto (-59), 3) := by decide +kernel
theorem dd_91_123 : decode prog_7_method_26_code 123 = .ok (.return_, 1) := by decide +kernel
theorem dd_92_0 : decode prog_7_method_27_code 0 = .ok (.iconst 0, 1) := by decide +kernel
theorem dd_92_1 : decode prog_7_method_27_code 1 = .ok (.istore_n 2, 1) := by decide +kernel
theorem dd_92_2 : decode prog_7_method_27_code 2 = .ok (.iload_n 2, 1) := by decide +kernel
theorem dd_92_3 : decode prog_7_method_27_code 3 = .ok (.aload_n 0, 1) := by decide +kernel
theorem dd_92_4 : decode prog_7_method_27_code 4 = .ok (.getfield 42, 3) := by decide +kernel
theorem dd_92_7 : decode prog_7_method_27_code 7 = .ok (.aload_n 0, 1) := by decide +kernel
theorem dd_92_8 : decode prog_7_method_27_code 8 = .ok (.getfield 45, 3) := by decide +kernel
theorem dd_92_11 : decode prog_7_method_27_code 11 = .ok (.imul, 1) := by decide +kernel
theorem dd_92_12 : decode prog_7_method_27_code 12 = .ok (.if_icmp .ge 35, 3) := by decide +kernel
theorem dd_92_15 : decode prog_7_method_27_code 15 = .ok (.aload_n 0, 1) := by decide +kernel
theorem dd_92_16 : decode prog_7_method_27_code 16 = .ok (.getfield 13, 3) := by decide +kernel
theorem dd_92_19 : decode prog_7_method_27_code 19 = .ok (.iload_n 2, 1) := by decide +kernel
theorem dd_92_20 : decode prog_7_method_27_code 20 = .ok (.iaload, 1) := by decide +kernel
theorem dd_92_21 : decode prog_7_method_27_code 21 = .ok (.iconst 1, 1) := by decide +kernel
theorem dd_92_22 : decode prog_7_method_27_code 22 = .ok (.if_icmp .eq 19, 3) := by decide +kernel
theorem dd_92_25 : decode prog_7_method_27_code 25 = .ok (.aload_n 0, 1) := by decide +kernel
theorem dd_92_26 : decode prog_7_method_27_code 26 = .ok (.getfield 13, 3) := by decide +kernel
theorem dd_92_29 : decode prog_7_method_27_code 29 = .ok (.iload_n 2, 1) := by decide +kernel
theorem dd_92_30 : decode prog_7_method_27_code 30 = .ok (.iaload, 1) := by decide +kernel
theorem dd_92_31 : decode prog_7_method_27_code 31 = .ok (.iconst 4, 1) := by decide +kernel
theorem dd_92_32 : decode prog_7_method_27_code 32 = .ok (.if_icmp .eq 9, 3) := by decide +kernel
theorem dd_92_35 : decode prog_7_method_27_code 35 = .ok (.aload_n 0, 1) := by decide +kernel
theorem dd_92_36 : decode prog_7_method_27_code 36 = .ok (.iload_n 2, 1) := by decide +kernel
theorem dd_92_37 : decode prog_7_method_27_code 37 = .ok (.iload_n 1, 1) := by decide +kernel
theorem dd_92_38 : decode prog_7_method_27_code 38 = .ok (.invokevirtual 98, 3) := by decide +kernel
theorem dd_92_41 : decode prog_7_method_27_code 41 = .ok (.iinc 2 1, 3) := by decide +kernel
theorem dd_92_44 : decode prog_7_method_27_code 44 = .ok (.goto (-42), 3) := by decide +kernel
theorem dd_92_47 : decode prog_7_method_27_code 47 = .ok (.return_, 1) := by decide +kernel
theorem dd_93_0 : decode prog_7_method_28_code 0 = .ok (.iconst 0, 1) := by decide +kernel
theorem dd_93_1 : decode prog_7_method_28_code 1 = .ok (.istore_n 2, 1) := by decide +kernel
theorem dd_93_2 : decode prog_7_method_28_code 2 = .ok (.iload_n 2, 1) := by decide +kernel
theorem dd_93_3 : decode prog_7_method_28_code 3 = .ok (.aload_n 0, 1) := by decide +kernel
theorem dd_93_4 : decode prog_7_method_28_code 4 = .ok (.getfield 42, 3) := by decide +kernel
theorem dd_93_7 : decode prog_7_method_28_code 7 = .ok (.aload_n 0, 1) := by decide +kernel
theorem dd_93_8 : decode prog_7_method_28_code 8 = .ok (.getfield 45, 3) := by decide +kernel
theorem dd_93_11 : decode prog_7_method_28_code 11 = .ok (.imul, 1) := by decide +kernel
theorem dd_93_12 : decode prog_7_method_28_code 12 = .ok (.if_icmp .ge 16, 3) := by decide +kernel
theorem dd_93_15 : decode prog_7_method_28_code 15 = .ok (.aload_n 0, 1) := by decide +kernel
theorem dd_93_16 : decode prog_7_method_28_code 16 = .ok (.getfield 19, 3) := by decide +kernel
theorem dd_93_19 : decode prog_7_method_28_code 19 = .ok (.iload_n 2, 1) := by decide +kernel
theorem dd_93_20 : decode prog_7_method_28_code 20 = .ok (.iconst 0, 1) := by decide +kernel
theorem dd_93_21 : decode prog_7_method_28_code 21 = .ok (.iastore, 1) := by decide +kernel
theorem dd_93_22 : decode prog_7_method_28_code 22 = .ok (.iinc 2 1, 3) := by decide +kernel
theorem dd_93_25 : decode prog_7_method_28_code 25 = .ok (.goto (-23), 3) := by decide +kernel
theorem dd_93_28 : decode prog_7_method_28_code 28 = .ok (.iconst 0, 1) := by decide +kernel
theorem dd_93_29 : decode prog_7_method_28_code 29 = .ok (.istore_n 2, 1) := by decide +kernel
theorem dd_93_30 : decode prog_7_method_28_code 30 = .ok (.iload_n 2, 1) := by decide +kernel
theorem dd_93_31 : decode prog_7_method_28_code 31 = .ok (.aload_n 0, 1) := by decide +kernel
theorem dd_93_32 : decode prog_7_method_28_code 32 = .ok (.getfield 42, 3) := by decide +kernel
theorem dd_93_35 : decode prog_7_method_28_code 35 = .ok (.aload_n 0, 1) := by decide +kernel
theorem dd_93_36 : decode prog_7_method_28_code 36 = .ok (.getfield 45, 3) := by decide +kernel
theorem dd_93_39 : decode prog_7_method_28_code 39 = .ok (.imul, 1) := by decide +kernel
theorem dd_93_40 : decode prog_7_method_28_code 40 = .ok (.if_icmp .ge 100, 3) := by decide +kernel
theorem dd_93_43 : decode prog_7_method_28_code 43 = .ok (.iconst 0, 1) := by decide +kernel
theorem dd_93_44 : decode prog_7_method_28_code 44 = .ok (.istore_n 3, 1) := by decide +kernel
theorem dd_93_45 : decode prog_7_method_28_code 45 = .ok (.iload_n 3, 1) := by decide +kernel
theorem dd_93_46 : decode prog_7_method_28_code 46 = .ok (.bipush 7, 2) := by decide +kernel
theorem dd_93_48 : decode prog_7_method_28_code 48 = .ok (.if_icmp .ge 86, 3) := by decide +kernel
theorem dd_93_51 : decode prog_7_method_28_code 51 = .ok (.aload_n 0, 1) := by decide +kernel
theorem dd_93_52 : decode prog_7_method_28_code 52 = .ok (.iload_n 2, 1) := by decide +kernel
theorem dd_93_53 : decode prog_7_method_28_code 53 = .ok (.iload_n 3, 1) := by decide +kernel
theorem dd_93_54 : decode prog_7_method_28_code 54 = .ok (.invokevirtual 102, 3) := by decide +kernel
theorem dd_93_57 : decode prog_7_method_28_code 57 = .ok (.istore 4, 2) := by decide +kernel
theorem dd_93_59 : decode prog_7_method_28_code 59 = .ok (.iload_n 1, 1) := by decide +kernel
theorem dd_93_60 : decode prog_7_method_28_code 60 = .ok (.ifCond .eq 33, 3) := by decide +kernel
theorem dd_93_63 : decode prog_7_method_28_code 63 = .ok (.aload_n 0, 1) := by decide +kernel
theorem dd_93_64 : decode prog_7_method_28_code 64 = .ok (.getfield 7, 3) := by decide +kernel
theorem dd_93_67 : decode prog_7_method_28_code 67 = .ok (.iload 4, 2) := by decide +kernel
theorem dd_93_69 : decode prog_7_method_28_code 69 = .ok (.iaload, 1) := by decide +kernel
theorem dd_93_70 : decode prog_7_method_28_code 70 = .ok (.iload_n 3, 1) := by decide +kernel
theorem dd_93_71 : decode prog_7_method_28_code 71 = .ok (.invokestatic 51, 3) := by decide +kernel
theorem dd_93_74 : decode prog_7_method_28_code 74 = .ok (.ifCond .eq 19, 3) := by decide +kernel
theorem dd_93_77 : decode prog_7_method_28_code 77 = .ok (.aload_n 0, 1) := by decide +kernel
theorem dd_93_78 : decode prog_7_method_28_code 78 = .ok (.getfield 19, 3) := by decide +kernel
theorem dd_93_81 : decode prog_7_method_28_code 81 = .ok (.iload_n 2, 1) := by decide +kernel
theorem dd_93_82 : decode prog_7_method_28_code 82 = .ok (.aload_n 0, 1) := by decide +kernel
theorem dd_93_83 : decode prog_7_method_28_code 83 = .ok (.getfield 19, 3) := by decide +kernel
theorem dd_93_86 : decode prog_7_method_28_code 86 = .ok (.iload_n 2, 1) := by decide +kernel
theorem dd_93_87 : decode prog_7_method_28_code 87 = .ok (.iaload, 1) := by decide +kernel
theorem dd_93_88 : decode prog_7_method_28_code 88 = .ok (.iconst 1, 1) := by decide +kernel
theorem dd_93_89 : decode prog_7_method_28_code 89 = .ok (.iload_n 3, 1) := by decide +kernel
theorem dd_93_90 : decode prog_7_method_28_code 90 = .ok (.ishl, 1) := by decide +kernel
theorem dd_93_91 : decode prog_7_method_28_code 91 = .ok (.ior, 1) := by decide +kernel
theorem dd_93_92 : decode prog_7_method_28_code 92 = .ok (.iastore, 1) := by decide +kernel
theorem dd_93_93 : decode prog_7_method_28_code 93 = .ok (.iload_n 1, 1) := by decide +kernel
theorem dd_93_94 : decode prog_7_method_28_code 94 = .ok (.ifCond .ne 34, 3) := by decide +kernel
theorem dd_93_97 : decode prog_7_method_28_code 97 = .ok (.aload_n 0, 1) := by decide +kernel
theorem dd_93_98 : decode prog_7_method_28_code 98 = .ok (.getfield 7, 3) := by decide +kernel
theorem dd_93_101 : decode prog_7_method_28_code 101 = .ok (.iload_n 2, 1) := by decide +kernel
theorem dd_93_102 : decode prog_7_method_28_code 102 = .ok (.iaload, 1) := by decide +kernel
theorem dd_93_103 : decode prog_7_method_28_code 103 = .ok (.iload_n 3, 1) := by decide +kernel
theorem dd_93_104 : decode prog_7_method_28_code 104 = .ok (.invokestatic 51, 3) := by decide +kernel
theorem dd_93_107 : decode prog_7_method_28_code 107 = .ok (.ifCond .eq 21, 3) := by decide +kernel
theorem dd_93_110 : decode prog_7_method_28_code 110 = .ok (.aload_n 0, 1) := by decide +kernel
theorem dd_93_111 : decode prog_7_method_28_code 111 = .ok (.getfield 19, 3) := by decide +kernel
theorem dd_93_114 : decode prog_7_method_28_code 114 = .ok (.iload 4, 2) := by decide +kernel
theorem dd_93_116 : decode prog_7_method_28_code 116 = .ok (.aload_n 0, 1) := by decide +kernel
theorem dd_93_117 : decode prog_7_method_28_code 117 = .ok (.getfield 19, 3) := by decide +kernel
theorem dd_93_120 : decode prog_7_method_28_code 120 = .ok (.iload 4, 2) := by decide +kernel
theorem dd_93_122 : decode prog_7_method_28_code 122 = .ok (.iaload, 1) := by decide +kernel
theorem dd_93_123 : decode prog_7_method_28_code 123 = .ok (.iconst 1, 1) := by decide +kernel
theorem dd_93_124 : decode prog_7_method_28_code 124 = .ok (.iload_n 3, 1) := by decide +kernel
theorem dd_93_125 : decode prog_7_method_28_code 125 = .ok (.ishl, 1) := by decide +kernel
theorem dd_93_126 : decode prog_7_method_28_code 126 = .ok (.ior, 1) := by decide +kernel
theorem dd_93_127 : decode prog_7_method_28_code 127 = .ok (.iastore, 1) := by decide +kernel
theorem dd_93_128 : decode prog_7_method_28_code 128 = .ok (.iinc 3 1, 3) := by decide +kernel
theorem dd_93_131 : decode prog_7_method_28_code 131 = .ok (.goto (-86), 3) := by decide +kernel
theorem dd_93_134 : decode prog_7_method_28_code 134 = .ok (.iinc 2 1, 3) := by decide +kernel
theorem dd_93_137 : decode prog_7_method_28_code 137 = .ok (.goto (-107), 3) := by decide +kernel
theorem dd_93_140 : decode prog_7_method_28_code 140 = .ok (.iconst 0, 1) := by decide +kernel
theorem dd_93_141 : decode prog_7_method_28_code 141 = .ok (.istore_n 2, 1) := by decide +kernel
theorem dd_93_142 : decode prog_7_method_28_code 142 = .ok (.iload_n 2, 1) := by decide +kernel
theorem dd_93_143 : decode prog_7_method_28_code 143 = .ok (.aload_n 0, 1) := by decide +kernel
theorem dd_93_144 : decode prog_7_method_28_code 144 = .ok (.getfield 42, 3) := by decide +kernel
theorem dd_93_147 : decode prog_7_method_28_code 147 = .ok (.aload_n 0, 1) := by decide +kernel
theorem dd_93_148 : decode prog_7_method_28_code 148 = .ok (.getfield 45, 3) := by decide +kernel
theorem dd_93_151 : decode prog_7_method_28_code 151 = .ok (.imul, 1) := by decide +kernel
theorem dd_93_152 : decode prog_7_method_28_code 152 = .ok (.if_icmp .ge 21, 3) := by decide +kernel
theorem dd_93_155 : decode prog_7_method_28_code 155 = .ok (.aload_n 0, 1) := by decide +kernel
theorem dd_93_156 : decode prog_7_method_28_code 156 = .ok (.getfield 7, 3) := by decide +kernel
theorem dd_93_159 : decode prog_7_method_28_code 159 = .ok (.iload_n 2, 1) := by decide +kernel
theorem dd_93_160 : decode prog_7_method_28_code 160 = .ok (.aload_n 0, 1) := by decide +kernel
theorem dd_93_161 : decode prog_7_method_28_code 161 = .ok (.getfield 19, 3) := by decide +kernel
theorem dd_93_164 : decode prog_7_method_28_code 164 = .ok (.iload_n 2, 1) := by decide +kernel
theorem dd_93_165 : decode prog_7_method_28_code 165 = .ok (.iaload, 1) := by decide +kernel
theorem dd_93_166 : decode prog_7_method_28_code 166 = .ok (.iastore, 1) := by decide +kernel
theorem dd_93_167 : decode prog_7_method_28_code 167 = .ok (.iinc 2 1, 3) := by decide +kernel
theorem dd_93_170 : decode prog_7_method_28_code 170 = .ok (.goto (-28), 3) := by decide +kernel
theorem dd_93_173 : decode prog_7_method_28_code 173 = .ok (.iconst 0, 1) := by decide +kernel
theorem dd_93_174 : decode prog_7_method_28_code 174 = .ok (.istore_n 2, 1) := by decide +kernel
theorem dd_93_175 : decode prog_7_method_28_code 175 = .ok (.iload_n 2, 1) := by decide +kernel
theorem dd_93_176 : decode prog_7_method_28_code 176 = .ok (.aload_n 0, 1) := by decide +kernel
theorem dd_93_177 : decode prog_7_method_28_code 177 = .ok (.getfield 65, 3) := by decide +kernel
theorem dd_93_180 : decode prog_7_method_28_code 180 = .ok (.if_icmp .ge 61, 3) := by decide +kernel
theorem dd_93_183 : decode prog_7_method_28_code 183 = .ok (.aload_n 0, 1) := by decide +kernel
theorem dd_93_184 : decode prog_7_method_28_code 184 = .ok (.getfield 39, 3) := by decide +kernel
theorem dd_93_187 : decode prog_7_method_28_code 187 = .ok (.iload_n 2, 1) := by decide +kernel
theorem dd_93_188 : decode prog_7_method_28_code 188 = .ok (.iaload, 1) := by decide +kernel
theorem dd_93_189 : decode prog_7_method_28_code 189 = .ok (.istore_n 3, 1) := by decide +kernel
theorem dd_93_190 : decode prog_7_method_28_code 190 = .ok (.aload_n 0, 1) := by decide +kernel
theorem dd_93_191 : decode prog_7_method_28_code 191 = .ok (.getfield 36, 3) := by decide +kernel
theorem dd_93_194 : decode prog_7_method_28_code 194 = .ok (.iload_n 2, 1) := by decide +kernel
theorem dd_93_195 : decode prog_7_method_28_code 195 = .ok (.iaload, 1) := by decide +kernel
theorem dd_93_196 : decode prog_7_method_28_code 196 = .ok (.ifCond .lt 39, 3) := by decide +kernel
theorem dd_93_199 : decode prog_7_method_28_code 199 = .ok (.aload_n 0, 1) := by decide +kernel
theorem dd_93_200 : decode prog_7_method_28_code 200 = .ok (.getfield 36, 3) := by decide +kernel
theorem dd_93_203 : decode prog_7_method_28_code 203 = .ok (.iload_n 2, 1) := by decide +kernel
theorem dd_93_204 : decode prog_7_method_28_code 204 = .ok (.aload_n 0, 1) := by decide +kernel
theorem dd_93_205 : decode prog_7_method_28_code 205 = .ok (.aload_n 0, 1) := by decide +kernel
theorem dd_93_206 : decode prog_7_method_28_code 206 = .ok (.getfield 36, 3) := by decide +kernel
theorem dd_93_209 : decode prog_7_method_28_code 209 = .ok (.iload_n 2, 1) := by decide +kernel
theorem dd_93_210 : decode prog_7_method_28_code 210 = .ok (.iaload, 1) := by decide +kernel
theorem dd_93_211 : decode prog_7_method_28_code 211 = .ok (.iload_n 1, 1) := by decide +kernel
theorem dd_93_212 : decode prog_7_method_28_code 212 = .ok (.ifCond .eq 18, 3) := by decide +kernel
theorem dd_93_215 : decode prog_7_method_28_code 215 = .ok (.iload_n 3, 1) := by decide +kernel
theorem dd_93_216 : decode prog_7_method_28_code 216 = .ok (.bipush 6, 2) := by decide +kernel
theorem dd_93_218 : decode prog_7_method_28_code 218 = .ok (.if_icmp .ge 12, 3) := by decide +kernel
theorem dd_93_221 : decode prog_7_method_28_code 221 = .ok (.iload_n 3, 1) := by decide +kernel
theorem dd_93_222 : decode prog_7_method_28_code 222 = .ok (.iconst 3, 1) := by decide +kernel
theorem dd_93_223 : decode prog_7_method_28_code 223 = .ok (.iadd, 1) := by decide +kernel
theorem dd_93_224 : decode prog_7_method_28_code 224 = .ok (.bipush 6, 2) := by decide +kernel
theorem dd_93_226 : decode prog_7_method_28_code 226 = .ok (.irem, 1) := by decide +kernel
theorem dd_93_227 : decode prog_7_method_28_code 227 = .ok (.goto 4, 3) := by decide +kernel
theorem dd_93_230 : decode prog_7_method_28_code 230 = .ok (.iload_n 3, 1) := by decide +kernel
theorem dd_93_231 : decode prog_7_method_28_code 231 = .ok (.invokevirtual 102, 3) := by decide +kernel
theorem dd_93_234 : decode prog_7_method_28_code 234 = .ok (.iastore, 1) := by decide +kernel
theorem dd_93_235 : decode prog_7_method_28_code 235 = .ok (.iinc 2 1, 3) := by decide +kernel
theorem dd_93_238 : decode prog_7_method_28_code 238 = .ok (.goto (-63), 3) := by decide +kernel
theorem dd_93_241 : decode prog_7_method_28_code 241 = .ok (.return_, 1) := by decide +kernel
theorem dd_94_0 : decode prog_7_method_29_code 0 = .ok (.iconst 3, 1) := by decide +kernel
theorem dd_94_1 : decode prog_7_method_29_code 1 = .ok (.iload_n 1, 1) := by decide +kernel
theorem dd_94_2 : decode prog_7_method_29_code 2 = .ok (.iconst 1, 1) := by decide +kernel
theorem dd_94_3 : decode prog_7_method_29_code 3 = .ok (.isub, 1) := by decide +kernel
theorem dd_94_4 : decode prog_7_method_29_code 4 = .ok (.imul, 1) := by decide +kernel
theorem dd_94_5 : decode prog_7_method_29_code 5 = .ok (.istore 4, 2) := by decide +kernel
theorem dd_94_7 : decode prog_7_method_29_code 7 = .ok (.aload_n 0, 1) := by decide +kernel
theorem dd_94_8 : decode prog_7_method_29_code 8 = .ok (.getfield 26, 3) := by decide +kernel
theorem dd_94_11 : decode prog_7_method_29_code 11 = .ok (.iload 4, 2) := by decide +kernel
theorem dd_94_13 : decode prog_7_method_29_code 13 = .ok (.aload_n 0, 1) := by decide +kernel
theorem dd_94_14 : decode prog_7_method_29_code 14 = .ok (.getfield 26, 3) := by decide +kernel
theorem dd_94_17 : decode prog_7_method_29_code 17 = .ok (.iload 4, 2) := by decide +kernel
theorem dd_94_19 : decode prog_7_method_29_code 19 = .ok (.iaload, 1) := by decide +kernel
theorem dd_94_20 : decode prog_7_method_29_code 20 = .ok (.iload_n 3, 1) := by decide +kernel
theorem dd_94_21 : decode prog_7_method_29_code 21 = .ok (.iadd, 1) := by decide +kernel
theorem dd_94_22 : decode prog_7_method_29_code 22 = .ok (.iastore, 1) := by decide +kernel
theorem dd_94_23 : decode prog_7_method_29_code 23 = .ok (.aload_n 0, 1) := by decide +kernel
theorem dd_94_24 : decode prog_7_method_29_code 24 = .ok (.getfield 26, 3) := by decide +kernel
theorem dd_94_27 : decode prog_7_method_29_code 27 = .ok (.iload 4, 2) := by decide +kernel
theorem dd_94_29 : decode prog_7_method_29_code 29 = .ok (.iconst 1, 1) := by decide +kernel
theorem dd_94_30 : decode prog_7_method_29_code 30 = .ok (.iadd, 1) := by decide +kernel
theorem dd_94_31 : decode prog_7_method_29_code 31 = .ok (.aload_n 0, 1) := by decide +kernel
theorem dd_94_32 : decode prog_7_method_29_code 32 = .ok (.getfield 26, 3) := by decide +kernel
theorem dd_94_35 : decode prog_7_method_29_code 35 = .ok (.iload 4, 2) := by decide +kernel
theorem dd_94_37 : decode prog_7_method_29_code 37 = .ok (.iconst 1, 1) := by decide +kernel
theorem dd_94_38 : decode prog_7_method_29_code 38 = .ok (.iadd, 1) := by decide +kernel
theorem dd_94_39 : decode prog_7_method_29_code 39 = .ok (.iaload, 1) := by decide +kernel
theorem dd_94_40 : decode prog_7_method_29_code 40 = .ok (.iload_n 3, 1) := by decide +kernel
theorem dd_94_41 : decode prog_7_method_29_code 41 = .ok (.iload_n 2, 1) := by decide +kernel
theorem dd_94_42 : decode prog_7_method_29_code 42 = .ok (.iconst 0, 1) := by decide +kernel
theorem dd_94_43 : decode prog_7_method_29_code 43 = .ok (.invokestatic 105, 3) := by decide +kernel
theorem dd_94_46 : decode prog_7_method_29_code 46 = .ok (.imul, 1) := by decide +kernel
theorem dd_94_47 : decode prog_7_method_29_code 47 = .ok (.iadd, 1) := by decide +kernel
theorem dd_94_48 : decode prog_7_method_29_code 48 = .ok (.iastore, 1) := by decide +kernel
theorem dd_94_49 : decode prog_7_method_29_code 49 = .ok (.aload_n 0, 1) := by decide +kernel
theorem dd_94_50 : decode prog_7_method_29_code 50 = .ok (.getfield 26, 3) := by decide +kernel
theorem dd_94_53 : decode prog_7_method_29_code 53 = .ok (.iload 4, 2) := by decide +kernel
theorem dd_94_55 : decode prog_7_method_29_code 55 = .ok (.iconst 2, 1) := by decide +kernel
theorem dd_94_56 : decode prog_7_method_29_code 56 = .ok (.iadd, 1) := by decide +kernel
theorem dd_94_57 : decode prog_7_method_29_code 57 = .ok (.aload_n 0, 1) := by decide +kernel
theorem dd_94_58 : decode prog_7_method_29_code 58 = .ok (.getfield 26, 3) := by decide +kernel
theorem dd_94_61 : decode prog_7_method_29_code 61 = .ok (.iload 4, 2) := by decide +kernel
theorem dd_94_63 : decode prog_7_method_29_code 63 = .ok (.iconst 2, 1) := by decide +kernel
theorem dd_94_64 : decode prog_7_method_29_code 64 = .ok (.iadd, 1) := by decide +kernel
theorem dd_94_65 : decode prog_7_method_29_code 65 = .ok (.iaload, 1) := by decide +kernel
theorem dd_94_66 : decode prog_7_method_29_code 66 = .ok (.iload_n 3, 1) := by decide +kernel
theorem dd_94_67 : decode prog_7_method_29_code 67 = .ok (.iload_n 2, 1) := by decide +kernel
theorem dd_94_68 : decode prog_7_method_29_code 68 = .ok (.iconst 1, 1) := by decide +kernel
theorem dd_94_69 : decode prog_7_method_29_code 69 = .ok (.invokestatic 105, 3) := by decide +kernel
theorem dd_94_72 : decode prog_7_method_29_code 72 = .ok (.imul, 1) := by decide +kernel
theorem dd_94_73 : decode prog_7_method_29_code 73 = .ok (.iadd, 1) := by decide +kernel
theorem dd_94_74 : decode prog_7_method_29_code 74 = .ok (.iastore, 1) := by decide +kernel
theorem dd_94_75 : decode prog_7_method_29_code 75 = .ok (.iload_n 1, 1) := by decide +kernel
theorem dd_94_76 : decode prog_7_method_29_code 76 = .ok (.iconst 4, 1) := by decide +kernel
theorem dd_94_77 : decode prog_7_method_29_code 77 = .ok (.if_icmp .ne 43, 3) := by decide +kernel
theorem dd_94_80 : decode prog_7_method_29_code 80 = .ok (.aload_n 0, 1) := by decide +kernel
theorem dd_94_81 : decode prog_7_method_29_code 81 = .ok (.getfield 33, 3) := by decide +kernel
theorem dd_94_84 : decode prog_7_method_29_code 84 = .ok (.iconst 0, 1) := by decide +kernel
theorem dd_94_85 : decode prog_7_method_29_code 85 = .ok (.aload_n 0, 1) := by decide +kernel
theorem dd_94_86 : decode prog_7_method_29_code 86 = .ok (.getfield 33, 3) := by decide +kernel
theorem dd_94_89 : decode prog_7_method_29_code 89 = .ok (.iconst 0, 1) := by decide +kernel
theorem dd_94_90 : decode prog_7_method_29_code 90 = .ok (.iaload, 1) := by decide +kernel
theorem dd_94_91 : decode prog_7_method_29_code 91 = .ok (.iload_n 3, 1) := by decide +kernel
theorem dd_94_92 : decode prog_7_method_29_code 92 = .ok (.iload_n 2, 1) := by decide +kernel
theorem dd_94_93 : decode prog_7_method_29_code 93 = .ok (.iconst 0, 1) := by decide +kernel
theorem dd_94_94 : decode prog_7_method_29_code 94 = .ok (.invokestatic 105, 3) := by decide +kernel
theorem dd_94_97 : decode prog_7_method_29_code 97 = .ok (.imul, 1) := by decide +kernel
theorem dd_94_98 : decode prog_7_method_29_code 98 = .ok (.isub, 1) := by decide +kernel
theorem dd_94_99 : decode prog_7_method_29_code 99 = .ok (.iastore, 1) := by decide +kernel
theorem dd_94_100 : decode prog_7_method_29_code 100 = .ok (.aload_n 0, 1) := by decide +kernel
theorem dd_94_101 : decode prog_7_method_29_code 101 = .ok (.getfield 33, 3) := by decide +kernel
theorem dd_94_104 : decode prog_7_method_29_code 104 = .ok (.iconst 1, 1) := by decide +kernel
theorem dd_94_105 : decode prog_7_method_29_code 105 = .ok (.aload_n 0, 1) := by decide +kernel
theorem dd_94_106 : decode prog_7_method_29_code 106 = .ok (.getfield 33, 3) := by decide +kernel
theorem dd_94_109 : decode prog_7_method_29_code 109 = .ok (.iconst 1, 1) := by decide +kernel
theorem dd_94_110 : decode prog_7_method_29_code 110 = .ok (.iaload, 1) := by decide +kernel
theorem dd_94_111 : decode prog_7_method_29_code 111 = .ok (.iload_n 3, 1) := by decide +kernel
theorem dd_94_112 : decode prog_7_method_29_code 112 = .ok (.iload_n 2, 1) := by decide +kernel
theorem dd_94_113 : decode prog_7_method_29_code 113 = .ok (.iconst 1, 1) := by decide +kernel
theorem dd_94_114 : decode prog_7_method_29_code 114 = .ok (.invokestatic 105, 3) := by decide +kernel
theorem dd_94_117 : decode prog_7_method_29_code 117 = .ok (.imul, 1) := by decide +kernel
theorem dd_94_118 : decode prog_7_method_29_code 118 = .ok (.isub, 1) := by decide +kernel
theorem dd_94_119 : decode prog_7_method_29_code 119 = .ok (.iastore, 1) := by decide +kernel
theorem dd_94_120 : decode prog_7_method_29_code 120 = .ok (.return_, 1) := by decide +kernel
theorem dd_95_0 : decode prog_7_method_30_code 0 = .ok (.aload_n 0, 1) := by decide +kernel
theorem dd_95_1 : decode prog_7_method_30_code 1 = .ok (.getfield 7, 3) := by decide +kernel
theorem dd_95_4 : decode prog_7_method_30_code 4 = .ok (.iload_n 1, 1) := by decide +kernel
theorem dd_95_5 : decode prog_7_method_30_code 5 = .ok (.iaload, 1) := by decide +kernel
theorem dd_95_6 : decode prog_7_method_30_code 6 = .ok (.istore_n 2, 1) := by decide +kernel
theorem dd_95_7 : decode prog_7_method_30_code 7 = .ok (.aload_n 0, 1) := by decide +kernel
theorem dd_95_8 : decode prog_7_method_30_code 8 = .ok (.getfield 7, 3) := by decide +kernel
theorem dd_95_11 : decode prog_7_method_30_code 11 = .ok (.iload_n 1, 1) := by decide +kernel
theorem dd_95_12 : decode prog_7_method_30_code 12 = .ok (.iload_n 2, 1) := by decide +kernel
theorem dd_95_13 : decode prog_7_method_30_code 13 = .ok (.iconst 3, 1) := by decide +kernel
theorem dd_95_14 : decode prog_7_method_30_code 14 = .ok (.invokestatic 55, 3) := by decide +kernel
theorem dd_95_17 : decode prog_7_method_30_code 17 = .ok (.iastore, 1) := by decide +kernel
theorem dd_95_18 : decode prog_7_method_30_code 18 = .ok (.iconst 0, 1) := by decide +kernel
theorem dd_95_19 : decode prog_7_method_30_code 19 = .ok (.istore_n 3, 1) := by decide +kernel
theorem dd_95_20 : decode prog_7_method_30_code 20 = .ok (.iload_n 3, 1) := by decide +kernel
theorem dd_95_21 : decode prog_7_method_30_code 21 = .ok (.bipush 6, 2) := by decide +kernel
theorem dd_95_23 : decode prog_7_method_30_code 23 = .ok (.if_icmp .ge 46, 3) := by decide +kernel
theorem dd_95_26 : decode prog_7_method_30_code 26 = .ok (.iload_n 2, 1) := by decide +kernel
theorem dd_95_27 : decode prog_7_method_30_code 27 = .ok (.iload_n 3, 1) := by decide +kernel
theorem dd_95_28 : decode prog_7_method_30_code 28 = .ok (.invokestatic 51, 3) := by decide +kernel
theorem dd_95_31 : decode prog_7_method_30_code 31 = .ok (.ifCond .eq 32, 3) := by decide +kernel
theorem dd_95_34 : decode prog_7_method_30_code 34 = .ok (.aload_n 0, 1) := by decide +kernel
theorem dd_95_35 : decode prog_7_method_30_code 35 = .ok (.aload_n 0, 1) := by decide +kernel
theorem dd_95_36 : decode prog_7_method_30_code 36 = .ok (.getfield 13, 3) := by decide +kernel
theorem dd_95_39 : decode prog_7_method_30_code 39 = .ok (.iload_n 1, 1) := by decide +kernel
theorem dd_95_40 : decode prog_7_method_30_code 40 = .ok (.iaload, 1) := by decide +kernel
theorem dd_95_41 : decode prog_7_method_30_code 41 = .ok (.iload_n 3, 1) := by decide +kernel
theorem dd_95_42 : decode prog_7_method_30_code 42 = .ok (.iconst (-1), 1) := by decide +kernel
theorem dd_95_43 : decode prog_7_method_30_code 43 = .ok (.invokevirtual 108, 3) := by decide +kernel
theorem dd_95_46 : decode prog_7_method_30_code 46 = .ok (.aload_n 0, 1) := by decide +kernel
theorem dd_95_47 : decode prog_7_method_30_code 47 = .ok (.aload_n 0, 1) := by decide +kernel
theorem dd_95_48 : decode prog_7_method_30_code 48 = .ok (.getfield 13, 3) := by decide +kernel
theorem dd_95_51 : decode prog_7_method_30_code 51 = .ok (.iload_n 1, 1) := by decide +kernel
theorem dd_95_52 : decode prog_7_method_30_code 52 = .ok (.iaload, 1) := by decide +kernel
theorem dd_95_53 : decode prog_7_method_30_code 53 = .ok (.iload_n 3, 1) := by decide +kernel
theorem dd_95_54 : decode prog_7_method_30_code 54 = .ok (.iconst 3, 1) := by decide +kernel
theorem dd_95_55 : decode prog_7_method_30_code 55 = .ok (.iadd, 1) := by decide +kernel
theorem dd_95_56 : decode prog_7_method_30_code 56 = .ok (.bipush 6, 2) := by decide +kernel
theorem dd_95_58 : decode prog_7_method_30_code 58 = .ok (.irem, 1) := by decide +kernel
theorem dd_95_59 : decode prog_7_method_30_code 59 = .ok (.iconst 1, 1) := by decide +kernel
theorem dd_95_60 : decode prog_7_method_30_code 60 = .ok (.invokevirtual 108, 3) := by decide +kernel
theorem dd_95_63 : decode prog_7_method_30_code 63 = .ok (.iinc 3 1, 3) := by decide +kernel
theorem dd_95_66 : decode prog_7_method_30_code 66 = .ok (.goto (-46), 3) := by decide +kernel
theorem dd_95_69 : decode prog_7_method_30_code 69 = .ok (.iconst 0, 1) := by decide +kernel
theorem dd_95_70 : decode prog_7_method_30_code 70 = .ok (.istore_n 3, 1) := by decide +kernel
theorem dd_95_71 : decode prog_7_method_30_code 71 = .ok (.iload_n 3, 1) := by decide +kernel
theorem dd_95_72 : decode prog_7_method_30_code 72 = .ok (.aload_n 0, 1) := by decide +kernel
theorem dd_95_73 : decode prog_7_method_30_code 73 = .ok (.getfield 65, 3) := by decide +kernel
theorem dd_95_76 : decode prog_7_method_30_code 76 = .ok (.if_icmp .ge 47, 3) := by decide +kernel
theorem dd_95_79 : decode prog_7_method_30_code 79 = .ok (.aload_n 0, 1) := by decide +kernel
theorem dd_95_80 : decode prog_7_method_30_code 80 = .ok (.getfield 36, 3) := by decide +kernel
theorem dd_95_83 : decode prog_7_method_30_code 83 = .ok (.iload_n 3, 1) := by decide +kernel
theorem dd_95_84 : decode prog_7_method_30_code 84 = .ok (.iaload, 1) := by decide +kernel
theorem dd_95_85 : decode prog_7_method_30_code 85 = .ok (.iload_n 1, 1) := by decide +kernel
theorem dd_95_86 : decode prog_7_method_30_code 86 = .ok (.if_icmp .ne 31, 3) := by decide +kernel
theorem dd_95_89 : decode prog_7_method_30_code 89 = .ok (.aload_n 0, 1) := by decide +kernel
theorem dd_95_90 : decode prog_7_method_30_code 90 = .ok (.getfield 39, 3) := by decide +kernel
theorem dd_95_93 : decode prog_7_method_30_code 93 = .ok (.iload_n 3, 1) := by decide +kernel
theorem dd_95_94 : decode prog_7_method_30_code 94 = .ok (.iaload, 1) := by decide +kernel
theorem dd_95_95 : decode prog_7_method_30_code 95 = .ok (.bipush 6, 2) := by decide +kernel
theorem dd_95_97 : decode prog_7_method_30_code 97 = .ok (.if_icmp .ge 20, 3) := by decide +kernel
theorem dd_95_100 : decode prog_7_method_30_code 100 = .ok (.aload_n 0, 1) := by decide +kernel
theorem dd_95_101 : decode prog_7_method_30_code 101 = .ok (.getfield 39, 3) := by decide +kernel
theorem dd_95_104 : decode prog_7_method_30_code 104 = .ok (.iload_n 3, 1) := by decide +kernel
theorem dd_95_105 : decode prog_7_method_30_code 105 = .ok (.aload_n 0, 1) := by decide +kernel
theorem dd_95_106 : decode prog_7_method_30_code 106 = .ok (.getfield 39, 3) := by decide +kernel
theorem dd_95_109 : decode prog_7_method_30_code 109 = .ok (.iload_n 3, 1) := by decide +kernel
theorem dd_95_110 : decode prog_7_method_30_code 110 = .ok (.iaload, 1) := by decide +kernel
theorem dd_95_111 : decode prog_7_method_30_code 111 = .ok (.iconst 3, 1) := by decide +kernel
theorem dd_95_112 : decode prog_7_method_30_code 112 = .ok (.iadd, 1) := by decide +kernel
theorem dd_95_113 : decode prog_7_method_30_code 113 = .ok (.bipush 6, 2) := by decide +kernel
theorem dd_95_115 : decode prog_7_method_30_code 115 = .ok (.irem, 1) := by decide +kernel
theorem dd_95_116 : decode prog_7_method_30_code 116 = .ok (.iastore, 1) := by decide +kernel
theorem dd_95_117 : decode prog_7_method_30_code 117 = .ok (.iinc 3 1, 3) := by decide +kernel
theorem dd_95_120 : decode prog_7_method_30_code 120 = .ok (.goto (-49), 3) := by decide +kernel
theorem dd_95_123 : decode prog_7_method_30_code 123 = .ok (.return_, 1) := by decide +kernel
theorem dd_96_0 : decode prog_7_method_31_code 0 = .ok (.iconst 0, 1) := by decide +kernel
theorem dd_96_1 : decode prog_7_method_31_code 1 = .ok (.istore_n 2, 1) := by decide +kernel
theorem dd_96_2 : decode prog_7_method_31_code 2 = .ok (.iload_n 2, 1) := by decide +kernel
theorem dd_96_3 : decode prog_7_method_31_code 3 = .ok (.bipush 7, 2) := by decide +kernel
theorem dd_96_5 : decode prog_7_method_31_code 5 = .ok (.if_icmp .ge 29, 3) := by decide +kernel
theorem dd_96_8 : decode prog_7_method_31_code 8 = .ok (.aload_n 0, 1) := by decide +kernel
theorem dd_96_9 : decode prog_7_method_31_code 9 = .ok (.getfield 7, 3) := by decide +kernel
theorem dd_96_12 : decode prog_7_method_31_code 12 = .ok (.iload_n 1, 1) := by decide +kernel
theorem dd_96_13 : decode prog_7_method_31_code 13 = .ok (.iaload, 1) := by decide +kernel
theorem dd_96_14 : decode prog_7_method_31_code 14 = .ok (.iload_n 2, 1) := by decide +kernel
theorem dd_96_15 : decode prog_7_method_31_code 15 = .ok (.invokestatic 51, 3) := by decide +kernel
theorem dd_96_18 : decode prog_7_method_31_code 18 = .ok (.ifCond .eq 10, 3) := by decide +kernel
theorem dd_96_21 : decode prog_7_method_31_code 21 = .ok (.aload_n 0, 1) := by decide +kernel
theorem dd_96_22 : decode prog_7_method_31_code 22 = .ok (.iconst 3, 1) := by decide +kernel
theorem dd_96_23 : decode prog_7_method_31_code 23 = .ok (.iload_n 2, 1) := by decide +kernel
theorem dd_96_24 : decode prog_7_method_31_code 24 = .ok (.iconst (-1), 1) := by decide +kernel
theorem dd_96_25 : decode prog_7_method_31_code 25 = .ok (.invokevirtual 108, 3) := by decide +kernel
theorem dd_96_28 : decode prog_7_method_31_code 28 = .ok (.iinc 2 1, 3) := by decide +kernel
theorem dd_96_31 : decode prog_7_method_31_code 31 = .ok (.goto (-29), 3) := by decide +kernel
theorem dd_96_34 : decode prog_7_method_31_code 34 = .ok (.aload_n 0, 1) := by decide +kernel
theorem dd_96_35 : decode prog_7_method_31_code 35 = .ok (.getfield 7, 3) := by decide +kernel
theorem dd_96_38 : decode prog_7_method_31_code 38 = .ok (.iload_n 1, 1) := by decide +kernel
theorem dd_96_39 : decode prog_7_method_31_code 39 = .ok (.iconst 0, 1) := by decide +kernel
theorem dd_96_40 : decode prog_7_method_31_code 40 = .ok (.iastore, 1) := by decide +kernel
theorem dd_96_41 : decode prog_7_method_31_code 41 = .ok (.iconst 0, 1) := by decide +kernel
theorem dd_96_42 : decode prog_7_method_31_code 42 = .ok (.istore_n 2, 1) := by decide +kernel
theorem dd_96_43 : decode prog_7_method_31_code 43 = .ok (.iload_n 2, 1) := by decide +kernel
theorem dd_96_44 : decode prog_7_method_31_code 44 = .ok (.aload_n 0, 1) := by decide +kernel
theorem dd_96_45 : decode prog_7_method_31_code 45 = .ok (.getfield 65, 3) := by decide +kernel
theorem dd_96_48 : decode prog_7_method_31_code 48 = .ok (.if_icmp .ge 35, 3) := by decide +kernel
theorem dd_96_51 : decode prog_7_method_31_code 51 = .ok (.aload_n 0, 1) := by decide +kernel
theorem dd_96_52 : decode prog_7_method_31_code 52 = .ok (.getfield 36, 3) := by decide +kernel
theorem dd_96_55 : decode prog_7_method_31_code 55 = .ok (.iload_n 2, 1) := by decide +kernel
theorem dd_96_56 : decode prog_7_method_31_code 56 = .ok (.aload_n 0, 1) := by decide +kernel
theorem dd_96_57 : decode prog_7_method_31_code 57 = .ok (.getfield 36, 3) := by decide +kernel
theorem dd_96_60 : decode prog_7_method_31_code 60 = .ok (.iload_n 2, 1) := by decide +kernel
theorem dd_96_61 : decode prog_7_method_31_code 61 = .ok (.iaload, 1) := by decide +kernel
theorem dd_96_62 : decode prog_7_method_31_code 62 = .ok (.iload_n 1, 1) := by decide +kernel
theorem dd_96_63 : decode prog_7_method_31_code 63 = .ok (.if_icmp .ne 7, 3) := by decide +kernel
theorem dd_96_66 : decode prog_7_method_31_code 66 = .ok (.iconst (-1), 1) := by decide +kernel
theorem dd_96_67 : decode prog_7_method_31_code 67 = .ok (.goto 9, 3) := by decide +kernel
theorem dd_96_70 : decode prog_7_method_31_code 70 = .ok (.aload_n 0, 1) := by decide +kernel
theorem dd_96_71 : decode prog_7_method_31_code 71 = .ok (.getfield 36, 3) := by decide +kernel
theorem dd_96_74 : decode prog_7_method_31_code 74 = .ok (.iload_n 2, 1) := by decide +kernel
theorem dd_96_75 : decode prog_7_method_31_code 75 = .ok (.iaload, 1) := by decide +kernel
theorem dd_96_76 : decode prog_7_method_31_code 76 = .ok (.iastore, 1) := by decide +kernel
theorem dd_96_77 : decode prog_7_method_31_code 77 = .ok (.iinc 2 1, 3) := by decide +kernel
theorem dd_96_80 : decode prog_7_method_31_code 80 = .ok (.goto (-37), 3) := by decide +kernel
theorem dd_96_83 : decode prog_7_method_31_code 83 = .ok (.return_, 1) := by decide +kernel
theorem dd_97_0 : decode prog_7_method_32_code 0 = .ok (.iconst 0, 1) := by decide +kernel
theorem dd_97_1 : decode prog_7_method_32_code 1 = .ok (.istore_n 2, 1) := by decide +kernel
theorem dd_97_2 : decode prog_7_method_32_code 2 = .ok (.iload_n 2, 1) := by decide +kernel
theorem dd_97_3 : decode prog_7_method_32_code 3 = .ok (.bipush 7, 2) := by decide +kernel
theorem dd_97_5 : decode prog_7_method_32_code 5 = .ok (.if_icmp .ge 80, 3) := by decide +kernel
theorem dd_97_8 : decode prog_7_method_32_code 8 = .ok (.aload_n 0, 1) := by decide +kernel
theorem dd_97_9 : decode prog_7_method_32_code 9 = .ok (.aload_n 0, 1) := by decide +kernel
theorem dd_97_10 : decode prog_7_method_32_code 10 = .ok (.getfield 82, 3) := by decide +kernel
theorem dd_97_13 : decode prog_7_method_32_code 13 = .ok (.ldc 112, 2) := by decide +kernel
theorem dd_97_15 : decode prog_7_method_32_code 15 = .ok (.imul, 1) := by decide +kernel
theorem dd_97_16 : decode prog_7_method_32_code 16 = .ok (.sipush 12345, 3) := by decide +kernel
theorem dd_97_19 : decode prog_7_method_32_code 19 = .ok (.iadd, 1) := by decide +kernel
theorem dd_97_20 : decode prog_7_method_32_code 20 = .ok (.putfield 82, 3) := by decide +kernel
theorem dd_97_23 : decode prog_7_method_32_code 23 = .ok (.aload_n 0, 1) := by decide +kernel
theorem dd_97_24 : decode prog_7_method_32_code 24 = .ok (.getfield 82, 3) := by decide +kernel
theorem dd_97_27 : decode prog_7_method_32_code 27 = .ok (.bipush 16, 2) := by decide +kernel
theorem dd_97_29 : decode prog_7_method_32_code 29 = .ok (.ishr, 1) := by decide +kernel
theorem dd_97_30 : decode prog_7_method_32_code 30 = .ok (.sipush 255, 3) := by decide +kernel
theorem dd_97_33 : decode prog_7_method_32_code 33 = .ok (.iand, 1) := by decide +kernel
theorem dd_97_34 : decode prog_7_method_32_code 34 = .ok (.aload_n 0, 1) := by decide +kernel
theorem dd_97_35 : decode prog_7_method_32_code 35 = .ok (.getfield 16, 3) := by decide +kernel
theorem dd_97_38 : decode prog_7_method_32_code 38 = .ok (.iload_n 1, 1) := by decide +kernel
theorem dd_97_39 : decode prog_7_method_32_code 39 = .ok (.iaload, 1) := by decide +kernel
theorem dd_97_40 : decode prog_7_method_32_code 40 = .ok (.if_icmp .ge 39, 3) := by decide +kernel
theorem dd_97_43 : decode prog_7_method_32_code 43 = .ok (.aload_n 0, 1) := by decide +kernel
theorem dd_97_44 : decode prog_7_method_32_code 44 = .ok (.getfield 7, 3) := by decide +kernel
theorem dd_97_47 : decode prog_7_method_32_code 47 = .ok (.iload_n 1, 1) := by decide +kernel
theorem dd_97_48 : decode prog_7_method_32_code 48 = .ok (.iaload, 1) := by decide +kernel
theorem dd_97_49 : decode prog_7_method_32_code 49 = .ok (.iload_n 2, 1) := by decide +kernel
theorem dd_97_50 : decode prog_7_method_32_code 50 = .ok (.invokestatic 51, 3) := by decide +kernel
theorem dd_97_53 : decode prog_7_method_32_code 53 = .ok (.ifCond .ne 26, 3) := by decide +kernel
theorem dd_97_56 : decode prog_7_method_32_code 56 = .ok (.aload_n 0, 1) := by decide +kernel
theorem dd_97_57 : decode prog_7_method_32_code 57 = .ok (.getfield 7, 3) := by decide +kernel
theorem dd_97_60 : decode prog_7_method_32_code 60 = .ok (.iload_n 1, 1) := by decide +kernel
theorem dd_97_61 : decode prog_7_method_32_code 61 = .ok (.aload_n 0, 1) := by decide +kernel
theorem dd_97_62 : decode prog_7_method_32_code 62 = .ok (.getfield 7, 3) := by decide +kernel
theorem dd_97_65 : decode prog_7_method_32_code 65 = .ok (.iload_n 1, 1) := by decide +kernel
theorem dd_97_66 : decode prog_7_method_32_code 66 = .ok (.iaload, 1) := by decide +kernel
theorem dd_97_67 : decode prog_7_method_32_code 67 = .ok (.iconst 1, 1) := by decide +kernel
theorem dd_97_68 : decode prog_7_method_32_code 68 = .ok (.iload_n 2, 1) := by decide +kernel
theorem dd_97_69 : decode prog_7_method_32_code 69 = .ok (.ishl, 1) := by decide +kernel
theorem dd_97_70 : decode prog_7_method_32_code 70 = .ok (.ior, 1) := by decide +kernel
theorem dd_97_71 : decode prog_7_method_32_code 71 = .ok (.iastore, 1) := by decide +kernel
theorem dd_97_72 : decode prog_7_method_32_code 72 = .ok (.aload_n 0, 1) := by decide +kernel
theorem dd_97_73 : decode prog_7_method_32_code 73 = .ok (.iconst 2, 1) := by decide +kernel
theorem dd_97_74 : decode prog_7_method_32_code 74 = .ok (.iload_n 2, 1) := by decide +kernel
theorem dd_97_75 : decode prog_7_method_32_code 75 = .ok (.iconst 1, 1) := by decide +kernel
theorem dd_97_76 : decode prog_7_method_32_code 76 = .ok (.invokevirtual 108, 3) := by decide +kernel
theorem dd_97_79 : decode prog_7_method_32_code 79 = .ok (.iinc 2 1, 3) := by decide +kernel
theorem dd_97_82 : decode prog_7_method_32_code 82 = .ok (.goto (-80), 3) := by decide +kernel
theorem dd_97_85 : decode prog_7_method_32_code 85 = .ok (.return_, 1) := by decide +kernel
theorem dd_98_0 : decode prog_7_method_33_code 0 = .ok (.iconst 0, 1) := by decide +kernel
theorem dd_98_1 : decode prog_7_method_33_code 1 = .ok (.istore_n 1, 1) := by decide +kernel
theorem dd_98_2 : decode prog_7_method_33_code 2 = .ok (.iload_n 1, 1) := by decide +kernel
theorem dd_98_3 : decode prog_7_method_33_code 3 = .ok (.aload_n 0, 1) := by decide +kernel
theorem dd_98_4 : decode prog_7_method_33_code 4 = .ok (.getfield 42, 3) := by decide +kernel
theorem dd_98_7 : decode prog_7_method_33_code 7 = .ok (.aload_n 0, 1) := by decide +kernel
theorem dd_98_8 : decode prog_7_method_33_code 8 = .ok (.getfield 45, 3) := by decide +kernel
theorem dd_98_11 : decode prog_7_method_33_code 11 = .ok (.imul, 1) := by decide +kernel
theorem dd_98_12 : decode prog_7_method_33_code 12 = .ok (.if_icmp .ge 70, 3) := by decide +kernel
theorem dd_98_15 : decode prog_7_method_33_code 15 = .ok (.aload_n 0, 1) := by decide +kernel
theorem dd_98_16 : decode prog_7_method_33_code 16 = .ok (.getfield 13, 3) := by decide +kernel
theorem dd_98_19 : decode prog_7_method_33_code 19 = .ok (.iload_n 1, 1) := by decide +kernel
theorem dd_98_20 : decode prog_7_method_33_code 20 = .ok (.iaload, 1) := by decide +kernel
theorem dd_98_21 : decode prog_7_method_33_code 21 = .ok (.iconst 1, 1) := by decide +kernel
theorem dd_98_22 : decode prog_7_method_33_code 22 = .ok (.if_icmp .eq 13, 3) := by decide +kernel
theorem dd_98_25 : decode prog_7_method_33_code 25 = .ok (.aload_n 0, 1) := by decide +kernel
theorem dd_98_26 : decode prog_7_method_33_code 26 = .ok (.getfield 13, 3) := by decide +kernel
theorem dd_98_29 : decode prog_7_method_33_code 29 = .ok (.iload_n 1, 1) := by decide +kernel
theorem dd_98_30 : decode prog_7_method_33_code 30 = .ok (.iaload, 1) := by decide +kernel
theorem dd_98_31 : decode prog_7_method_33_code 31 = .ok (.iconst 4, 1) := by decide +kernel
theorem dd_98_32 : decode prog_7_method_33_code 32 = .ok (.if_icmp .ne 11, 3) := by decide +kernel
theorem dd_98_35 : decode prog_7_method_33_code 35 = .ok (.aload_n 0, 1) := by decide +kernel
theorem dd_98_36 : decode prog_7_method_33_code 36 = .ok (.iload_n 1, 1) := by decide +kernel
theorem dd_98_37 : decode prog_7_method_33_code 37 = .ok (.invokevirtual 113, 3) := by decide +kernel
theorem dd_98_40 : decode prog_7_method_33_code 40 = .ok (.goto 36, 3) := by decide +kernel
theorem dd_98_43 : decode prog_7_method_33_code 43 = .ok (.aload_n 0, 1) := by decide +kernel
theorem dd_98_44 : decode prog_7_method_33_code 44 = .ok (.getfield 13, 3) := by decide +kernel
theorem dd_98_47 : decode prog_7_method_33_code 47 = .ok (.iload_n 1, 1) := by decide +kernel
theorem dd_98_48 : decode prog_7_method_33_code 48 = .ok (.iaload, 1) := by decide +kernel
theorem dd_98_49 : decode prog_7_method_33_code 49 = .ok (.iconst 2, 1) := by decide +kernel
theorem dd_98_50 : decode prog_7_method_33_code 50 = .ok (.if_icmp .ne 11, 3) := by decide +kernel
theorem dd_98_53 : decode prog_7_method_33_code 53 = .ok (.aload_n 0, 1) := by decide +kernel
theorem dd_98_54 : decode prog_7_method_33_code 54 = .ok (.iload_n 1, 1) := by decide +kernel
theorem dd_98_55 : decode prog_7_method_33_code 55 = .ok (.invokevirtual 117, 3) := by decide +kernel
theorem dd_98_58 : decode prog_7_method_33_code 58 = .ok (.goto 18, 3) := by decide +kernel
theorem dd_98_61 : decode prog_7_method_33_code 61 = .ok (.aload_n 0, 1) := by decide +kernel
theorem dd_98_62 : decode prog_7_method_33_code 62 = .ok (.getfield 13, 3) := by decide +kernel
theorem dd_98_65 : decode prog_7_method_33_code 65 = .ok (.iload_n 1, 1) := by decide +kernel
theorem dd_98_66 : decode prog_7_method_33_code 66 = .ok (.iaload, 1) := by decide +kernel
theorem dd_98_67 : decode prog_7_method_33_code 67 = .ok (.iconst 3, 1) := by decide +kernel
theorem dd_98_68 : decode prog_7_method_33_code 68 = .ok (.if_icmp .ne 8, 3) := by decide +kernel
theorem dd_98_71 : decode prog_7_method_33_code 71 = .ok (.aload_n 0, 1) := by decide +kernel
theorem dd_98_72 : decode prog_7_method_33_code 72 = .ok (.iload_n 1, 1) := by decide +kernel
theorem dd_98_73 : decode prog_7_method_33_code 73 = .ok (.invokevirtual 120, 3) := by decide +kernel
theorem dd_98_76 : decode prog_7_method_33_code 76 = .ok (.iinc 1 1, 3) := by decide +kernel
theorem dd_98_79 : decode prog_7_method_33_code 79 = .ok (.goto (-77), 3) := by decide +kernel
theorem dd_98_82 : decode prog_7_method_33_code 82 = .ok (.return_, 1) := by decide +kernel
theorem dd_99_0 : decode prog_7_method_34_code 0 = .ok (.iconst 0, 1) := by decide +kernel
theorem dd_99_1 : decode prog_7_method_34_code 1 = .ok (.istore_n 2, 1) := by decide +kernel
theorem dd_99_2 : decode prog_7_method_34_code 2 = .ok (.iconst 0, 1) := by decide +kernel
theorem dd_99_3 : decode prog_7_method_34_code 3 = .ok (.istore_n 3, 1) := by decide +kernel
theorem dd_99_4 : decode prog_7_method_34_code 4 = .ok (.iload_n 3, 1) := by decide +kernel
theorem dd_99_5 : decode prog_7_method_34_code 5 = .ok (.aload_n 0, 1) := by decide +kernel
theorem dd_99_6 : decode prog_7_method_34_code 6 = .ok (.getfield 42, 3) := by decide +kernel
theorem dd_99_9 : decode prog_7_method_34_code 9 = .ok (.aload_n 0, 1) := by decide +kernel
theorem dd_99_10 : decode prog_7_method_34_code 10 = .ok (.getfield 45, 3) := by decide +kernel
theorem dd_99_13 : decode prog_7_method_34_code 13 = .ok (.imul, 1) := by decide +kernel
theorem dd_99_14 : decode prog_7_method_34_code 14 = .ok (.if_icmp .ge 27, 3) := by decide +kernel
theorem dd_99_17 : decode prog_7_method_34_code 17 = .ok (.aload_n 0, 1) := by decide +kernel
theorem dd_99_18 : decode prog_7_method_34_code 18 = .ok (.getfield 13, 3) := by decide +kernel
theorem dd_99_21 : decode prog_7_method_34_code 21 = .ok (.iload_n 3, 1) := by decide +kernel
theorem dd_99_22 : decode prog_7_method_34_code 22 = .ok (.iaload, 1) := by decide +kernel
theorem dd_99_23 : decode prog_7_method_34_code 23 = .ok (.iload_n 1, 1) := by decide +kernel
theorem dd_99_24 : decode prog_7_method_34_code 24 = .ok (.if_icmp .ne 9, 3) := by decide +kernel
theorem dd_99_27 : decode prog_7_method_34_code 27 = .ok (.iload_n 2, 1) := by decide +kernel
theorem dd_99_28 : decode prog_7_method_34_code 28 = .ok (.iconst 1, 1) := by decide +kernel
theorem dd_99_29 : decode prog_7_method_34_code 29 = .ok (.iadd, 1) := by decide +kernel
theorem dd_99_30 : decode prog_7_method_34_code 30 = .ok (.goto 4, 3) := by decide +kernel
theorem dd_99_33 : decode prog_7_method_34_code 33 = .ok (.iload_n 2, 1) := by decide +kernel
theorem dd_99_34 : decode prog_7_method_34_code 34 = .ok (.istore_n 2, 1) := by decide +kernel
theorem dd_99_35 : decode prog_7_method_34_code 35 = .ok (.iinc 3 1, 3) := by decide +kernel
theorem dd_99_38 : decode prog_7_method_34_code 38 = .ok (.goto (-34), 3) := by decide +kernel
theorem dd_99_41 : decode prog_7_method_34_code 41 = .ok (.iload_n 2, 1) := by decide +kernel
theorem dd_99_42 : decode prog_7_method_34_code 42 = .ok (.ireturn, 1) := by decide +kernel
theorem dd_100_0 : decode prog_7_method_35_code 0 = .ok (.aload_n 0, 1) := by decide +kernel
theorem dd_100_1 : decode prog_7_method_35_code 1 = .ok (.getfield 33, 3) := by decide +kernel
theorem dd_100_4 : decode prog_7_method_35_code 4 = .ok (.iconst 0, 1) := by decide +kernel
theorem dd_100_5 : decode prog_7_method_35_code 5 = .ok (.iaload, 1) := by decide +kernel
theorem dd_100_6 : decode prog_7_method_35_code 6 = .ok (.istore_n 2, 1) := by decide +kernel
theorem dd_100_7 : decode prog_7_method_35_code 7 = .ok (.aload_n 0, 1) := by decide +kernel
theorem dd_100_8 : decode prog_7_method_35_code 8 = .ok (.getfield 33, 3) := by decide +kernel
theorem dd_100_11 : decode prog_7_method_35_code 11 = .ok (.iconst 1, 1) := by decide +kernel
theorem dd_100_12 : decode prog_7_method_35_code 12 = .ok (.iaload, 1) := by decide +kernel
theorem dd_100_13 : decode prog_7_method_35_code 13 = .ok (.istore_n 3, 1) := by decide +kernel
theorem dd_100_14 : decode prog_7_method_35_code 14 = .ok (.iload_n 1, 1) := by decide +kernel
theorem dd_100_15 : decode prog_7_method_35_code 15 = .ok (.tableswitch 63 0 4 #[33, 39, 45, 49, 56], 33) := by decide +kernel
theorem dd_100_48 : decode prog_7_method_35_code 48 = .ok (.iconst 2, 1) := by decide +kernel
theorem dd_100_49 : decode prog_7_method_35_code 49 = .ok (.iload_n 2, 1) := by decide +kernel
theorem dd_100_50 : decode prog_7_method_35_code 50 = .ok (.imul, 1) := by decide +kernel
theorem dd_100_51 : decode prog_7_method_35_code 51 = .ok (.iload_n 3, 1) := by decide +kernel
theorem dd_100_52 : decode prog_7_method_35_code 52 = .ok (.iadd, 1) := by decide +kernel
theorem dd_100_53 : decode prog_7_method_35_code 53 = .ok (.ireturn, 1) := by decide +kernel
theorem dd_100_54 : decode prog_7_method_35_code 54 = .ok (.iload_n 2, 1) := by decide +kernel
theorem dd_100_55 : decode prog_7_method_35_code 55 = .ok (.iconst 2, 1) := by decide +kernel
theorem dd_100_56 : decode prog_7_method_35_code 56 = .ok (.iload_n 3, 1) := by decide +kernel
theorem dd_100_57 : decode prog_7_method_35_code 57 = .ok (.imul, 1) := by decide +kernel
theorem dd_100_58 : decode prog_7_method_35_code 58 = .ok (.iadd, 1) := by decide +kernel
theorem dd_100_59 : decode prog_7_method_35_code 59 = .ok (.ireturn, 1) := by decide +kernel
theorem dd_100_60 : decode prog_7_method_35_code 60 = .ok (.iload_n 3, 1) := by decide +kernel
theorem dd_100_61 : decode prog_7_method_35_code 61 = .ok (.iload_n 2, 1) := by decide +kernel
theorem dd_100_62 : decode prog_7_method_35_code 62 = .ok (.isub, 1) := by decide +kernel
theorem dd_100_63 : decode prog_7_method_35_code 63 = .ok (.ireturn, 1) := by decide +kernel
theorem dd_100_64 : decode prog_7_method_35_code 64 = .ok (.bipush (-2), 2) := by decide +kernel
theorem dd_100_66 : decode prog_7_method_35_code 66 = .ok (.iload_n 2, 1) := by decide +kernel
theorem dd_100_67 : decode prog_7_method_35_code 67 = .ok (.imul, 1) := by decide +kernel
theorem dd_100_68 : decode prog_7_method_35_code 68 = .ok (.iload_n 3, 1) := by decide +kernel
theorem dd_100_69 : decode prog_7_method_35_code 69 = .ok (.isub, 1) := by decide +kernel
theorem dd_100_70 : decode prog_7_method_35_code 70 = .ok (.ireturn, 1) := by decide +kernel
theorem dd_100_71 : decode prog_7_method_35_code 71 = .ok (.iload_n 2, 1) := by decide +kernel
theorem dd_100_72 : decode prog_7_method_35_code 72 = .ok (.ineg, 1) := by decide +kernel
theorem dd_100_73 : decode prog_7_method_35_code 73 = .ok (.iconst 2, 1) := by decide +kernel
theorem dd_100_74 : decode prog_7_method_35_code 74 = .ok (.iload_n 3, 1) := by decide +kernel
theorem dd_100_75 : decode prog_7_method_35_code 75 = .ok (.imul, 1) := by decide +kernel
theorem dd_100_76 : decode prog_7_method_35_code 76 = .ok (.isub, 1) := by decide +kernel
theorem dd_100_77 : decode prog_7_method_35_code 77 = .ok (.ireturn, 1) := by decide +kernel
theorem dd_100_78 : decode prog_7_method_35_code 78 = .ok (.iload_n 2, 1) := by decide +kernel
theorem dd_100_79 : decode prog_7_method_35_code 79 = .ok (.iload_n 3, 1) := by decide +kernel
theorem dd_100_80 : decode prog_7_method_35_code 80 = .ok (.isub, 1) := by decide +kernel
theorem dd_100_81 : decode prog_7_method_35_code 81 = .ok (.ireturn, 1) := by decide +kernel
theorem dd_101_0 : decode prog_7_method_36_code 0 = .ok (.aload_n 0, 1) := by decide +kernel
theorem dd_101_1 : decode prog_7_method_36_code 1 = .ok (.getfield 7, 3) := by decide +kernel
theorem dd_101_4 : decode prog_7_method_36_code 4 = .ok (.iload_n 1, 1) := by decide +kernel
theorem dd_101_5 : decode prog_7_method_36_code 5 = .ok (.iaload, 1) := by decide +kernel
theorem dd_101_6 : decode prog_7_method_36_code 6 = .ok (.istore_n 3, 1) := by decide +kernel
theorem dd_101_7 : decode prog_7_method_36_code 7 = .ok (.aload_n 0, 1) := by decide +kernel
theorem dd_101_8 : decode prog_7_method_36_code 8 = .ok (.getfield 7, 3) := by decide +kernel
theorem dd_101_11 : decode prog_7_method_36_code 11 = .ok (.iload_n 1, 1) := by decide +kernel
theorem dd_101_12 : decode prog_7_method_36_code 12 = .ok (.aload_n 0, 1) := by decide +kernel
theorem dd_101_13 : decode prog_7_method_36_code 13 = .ok (.getfield 7, 3) := by decide +kernel
theorem dd_101_16 : decode prog_7_method_36_code 16 = .ok (.iload_n 2, 1) := by decide +kernel
theorem dd_101_17 : decode prog_7_method_36_code 17 = .ok (.iaload, 1) := by decide +kernel
theorem dd_101_18 : decode prog_7_method_36_code 18 = .ok (.iastore, 1) := by decide +kernel
theorem dd_101_19 : decode prog_7_method_36_code 19 = .ok (.aload_n 0, 1) := by decide +kernel
theorem dd_101_20 : decode prog_7_method_36_code 20 = .ok (.getfield 7, 3) := by decide +kernel
theorem dd_101_23 : decode prog_7_method_36_code 23 = .ok (.iload_n 2, 1) := by decide +kernel
theorem dd_101_24 : decode prog_7_method_36_code 24 = .ok (.iload_n 3, 1) := by decide +kernel
theorem dd_101_25 : decode prog_7_method_36_code 25 = .ok (.iastore, 1) := by decide +kernel
theorem dd_101_26 : decode prog_7_method_36_code 26 = .ok (.iconst 0, 1) := by decide +kernel
theorem dd_101_27 : decode prog_7_method_36_code 27 = .ok (.istore 4, 2) := by decide +kernel
theorem dd_101_29 : decode prog_7_method_36_code 29 = .ok (.iload 4, 2) := by decide +kernel
theorem dd_101_31 : decode prog_7_method_36_code 31 = .ok (.aload_n 0, 1) := by decide +kernel
theorem dd_101_32 : decode prog_7_method_36_code 32 = .ok (.getfield 65, 3) := by decide +kernel
theorem dd_101_35 : decode prog_7_method_36_code 35 = .ok (.if_icmp .ge 53, 3) := by decide +kernel
theorem dd_101_38 : decode prog_7_method_36_code 38 = .ok (.aload_n 0, 1) := by decide +kernel
theorem dd_101_39 : decode prog_7_method_36_code 39 = .ok (.getfield 36, 3) := by decide +kernel
theorem dd_101_42 : decode prog_7_method_36_code 42 = .ok (.iload 4, 2) := by decide +kernel
theorem dd_101_44 : decode prog_7_method_36_code 44 = .ok (.aload_n 0, 1) := by decide +kernel
theorem dd_101_45 : decode prog_7_method_36_code 45 = .ok (.getfield 36, 3) := by decide +kernel
theorem dd_101_48 : decode prog_7_method_36_code 48 = .ok (.iload 4, 2) := by decide +kernel
theorem dd_101_50 : decode prog_7_method_36_code 50 = .ok (.iaload, 1) := by decide +kernel
theorem dd_101_51 : decode prog_7_method_36_code 51 = .ok (.iload_n 1, 1) := by decide +kernel
theorem dd_101_52 : decode prog_7_method_36_code 52 = .ok (.if_icmp .ne 7, 3) := by decide +kernel
theorem dd_101_55 : decode prog_7_method_36_code 55 = .ok (.iload_n 2, 1) := by decide +kernel
theorem dd_101_56 : decode prog_7_method_36_code 56 = .ok (.goto 25, 3) := by decide +kernel
theorem dd_101_59 : decode prog_7_method_36_code 59 = .ok (.aload_n 0, 1) := by decide +kernel
theorem dd_101_60 : decode prog_7_method_36_code 60 = .ok (.getfield 36, 3) := by decide +kernel
theorem dd_101_63 : decode prog_7_method_36_code 63 = .ok (.iload 4, 2) := by decide +kernel
theorem dd_101_65 : decode prog_7_method_36_code 65 = .ok (.iaload, 1) := by decide +kernel
theorem dd_101_66 : decode prog_7_method_36_code 66 = .ok (.iload_n 2, 1) := by decide +kernel
theorem dd_101_67 : decode prog_7_method_36_code 67 = .ok (.if_icmp .ne 7, 3) := by decide +kernel
theorem dd_101_70 : decode prog_7_method_36_code 70 = .ok (.iload_n 1, 1) := by decide +kernel
theorem dd_101_71 : decode prog_7_method_36_code 71 = .ok (.goto 10, 3) := by decide +kernel
theorem dd_101_74 : decode prog_7_method_36_code 74 = .ok (.aload_n 0, 1) := by decide +kernel
theorem dd_101_75 : decode prog_7_method_36_code 75 = .ok (.getfield 36, 3) := by decide +kernel
theorem dd_101_78 : decode prog_7_method_36_code 78 = .ok (.iload 4, 2) := by decide +kernel
theorem dd_101_80 : decode prog_7_method_36_code 80 = .ok (.iaload, 1) := by decide +kernel
theorem dd_101_81 : decode prog_7_method_36_code 81 = .ok (.iastore, 1) := by decide +kernel
theorem dd_101_82 : decode prog_7_method_36_code 82 = .ok (.iinc 4 1, 3) := by decide +kernel
theorem dd_101_85 : decode prog_7_method_36_code 85 = .ok (.goto (-56), 3) := by decide +kernel
theorem dd_101_88 : decode prog_7_method_36_code 88 = .ok (.return_, 1) := by decide +kernel
theorem dd_102_0 : decode prog_7_method_37_code 0 = .ok (.iload_n 1, 1) := by decide +kernel
theorem dd_102_1 : decode prog_7_method_37_code 1 = .ok (.istore_n 3, 1) := by decide +kernel
theorem dd_102_2 : decode prog_7_method_37_code 2 = .ok (.iload_n 3, 1) := by decide +kernel
theorem dd_102_3 : decode prog_7_method_37_code 3 = .ok (.aload_n 0, 1) := by decide +kernel
theorem dd_102_4 : decode prog_7_method_37_code 4 = .ok (.getfield 42, 3) := by decide +kernel
theorem dd_102_7 : decode prog_7_method_37_code 7 = .ok (.aload_n 0, 1) := by decide +kernel
theorem dd_102_8 : decode prog_7_method_37_code 8 = .ok (.getfield 45, 3) := by decide +kernel
theorem dd_102_11 : decode prog_7_method_37_code 11 = .ok (.imul, 1) := by decide +kernel
theorem dd_102_12 : decode prog_7_method_37_code 12 = .ok (.if_icmp .ge 56, 3) := by decide +kernel
theorem dd_102_15 : decode prog_7_method_37_code 15 = .ok (.iload_n 2, 1) := by decide +kernel
theorem dd_102_16 : decode prog_7_method_37_code 16 = .ok (.ifCond .eq 25, 3) := by decide +kernel
theorem dd_102_19 : decode prog_7_method_37_code 19 = .ok (.aload_n 0, 1) := by decide +kernel
theorem dd_102_20 : decode prog_7_method_37_code 20 = .ok (.getfield 13, 3) := by decide +kernel
theorem dd_102_23 : decode prog_7_method_37_code 23 = .ok (.iload_n 3, 1) := by decide +kernel
theorem dd_102_24 : decode prog_7_method_37_code 24 = .ok (.iaload, 1) := by decide +kernel
theorem dd_102_25 : decode prog_7_method_37_code 25 = .ok (.iconst 4, 1) := by decide +kernel
theorem dd_102_26 : decode prog_7_method_37_code 26 = .ok (.if_icmp .ne 36, 3) := by decide +kernel
theorem dd_102_29 : decode prog_7_method_37_code 29 = .ok (.aload_n 0, 1) := by decide +kernel
theorem dd_102_30 : decode prog_7_method_37_code 30 = .ok (.getfield 22, 3) := by decide +kernel
theorem dd_102_33 : decode prog_7_method_37_code 33 = .ok (.iload_n 3, 1) := by decide +kernel
theorem dd_102_34 : decode prog_7_method_37_code 34 = .ok (.baload, 1) := by decide +kernel
theorem dd_102_35 : decode prog_7_method_37_code 35 = .ok (.ifCond .ne 27, 3) := by decide +kernel
theorem dd_102_38 : decode prog_7_method_37_code 38 = .ok (.goto 22, 3) := by decide +kernel
theorem dd_102_41 : decode prog_7_method_37_code 41 = .ok (.aload_n 0, 1) := by decide +kernel
theorem dd_102_42 : decode prog_7_method_37_code 42 = .ok (.getfield 13, 3) := by decide +kernel
theorem dd_102_45 : decode prog_7_method_37_code 45 = .ok (.iload_n 3, 1) := by decide +kernel
theorem dd_102_46 : decode prog_7_method_37_code 46 = .ok (.iaload, 1) := by decide +kernel
theorem dd_102_47 : decode prog_7_method_37_code 47 = .ok (.iconst 4, 1) := by decide +kernel
theorem dd_102_48 : decode prog_7_method_37_code 48 = .ok (.if_icmp .eq 14, 3) := by decide +kernel
theorem dd_102_51 : decode prog_7_method_37_code 51 = .ok (.aload_n 0, 1) := by decide +kernel
theorem dd_102_52 : decode prog_7_method_37_code 52 = .ok (.getfield 22, 3) := by decide +kernel
theorem dd_102_55 : decode prog_7_method_37_code 55 = .ok (.iload_n 3, 1) := by decide +kernel
theorem dd_102_56 : decode prog_7_method_37_code 56 = .ok (.baload, 1) := by decide +kernel
theorem dd_102_57 : decode prog_7_method_37_code 57 = .ok (.ifCond .eq 5, 3) := by decide +kernel
theorem dd_102_60 : decode prog_7_method_37_code 60 = .ok (.iload_n 3, 1) := by decide +kernel
theorem dd_102_61 : decode prog_7_method_37_code 61 = .ok (.ireturn, 1) := by decide +kernel
theorem dd_102_62 : decode prog_7_method_37_code 62 = .ok (.iinc 3 1, 3) := by decide +kernel
theorem dd_102_65 : decode prog_7_method_37_code 65 = .ok (.goto (-63), 3) := by decide +kernel
theorem dd_102_68 : decode prog_7_method_37_code 68 = .ok (.iconst (-1), 1) := by decide +kernel
theorem dd_102_69 : decode prog_7_method_37_code 69 = .ok (.ireturn, 1) := by decide +kernel
theorem dd_103_0 : decode prog_7_method_38_code 0 = .ok (.iconst 0, 1) := by decide +kernel
theorem dd_103_1 : decode prog_7_method_38_code 1 = .ok (.istore_n 1, 1) := by decide +kernel
theorem dd_103_2 : decode prog_7_method_38_code 2 = .ok (.iload_n 1, 1) := by decide +kernel
theorem dd_103_3 : decode prog_7_method_38_code 3 = .ok (.bipush 6, 2) := by decide +kernel
theorem dd_103_5 : decode prog_7_method_38_code 5 = .ok (.if_icmp .ge 23, 3) := by decide +kernel
theorem dd_103_8 : decode prog_7_method_38_code 8 = .ok (.aload_n 0, 1) := by decide +kernel
theorem dd_103_9 : decode prog_7_method_38_code 9 = .ok (.iload_n 1, 1) := by decide +kernel
theorem dd_103_10 : decode prog_7_method_38_code 10 = .ok (.invokevirtual 123, 3) := by decide +kernel
theorem dd_103_13 : decode prog_7_method_38_code 13 = .ok (.iconst 2, 1) := by decide +kernel
theorem dd_103_14 : decode prog_7_method_38_code 14 = .ok (.aload_n 0, 1) := by decide +kernel
theorem dd_103_15 : decode prog_7_method_38_code 15 = .ok (.getfield 29, 3) := by decide +kernel
theorem dd_103_18 : decode prog_7_method_38_code 18 = .ok (.imul, 1) := by decide +kernel
theorem dd_103_19 : decode prog_7_method_38_code 19 = .ok (.if_icmp .ge 9, 3) := by decide +kernel
theorem dd_103_22 : decode prog_7_method_38_code 22 = .ok (.iinc 1 1, 3) := by decide +kernel
theorem dd_103_25 : decode prog_7_method_38_code 25 = .ok (.goto (-23), 3) := by decide +kernel
theorem dd_103_28 : decode prog_7_method_38_code 28 = .ok (.iload_n 1, 1) := by decide +kernel
theorem dd_103_29 : decode prog_7_method_38_code 29 = .ok (.bipush 6, 2) := by decide +kernel
theorem dd_103_31 : decode prog_7_method_38_code 31 = .ok (.if_icmp .eq 11, 3) := by decide +kernel
theorem dd_103_34 : decode prog_7_method_38_code 34 = .ok (.aload_n 0, 1) := by decide +kernel
theorem dd_103_35 : decode prog_7_method_38_code 35 = .ok (.iconst 4, 1) := by decide +kernel
theorem dd_103_36 : decode prog_7_method_38_code 36 = .ok (.invokevirtual 126, 3) := by decide +kernel
theorem dd_103_39 : decode prog_7_method_38_code 39 = .ok (.ifCond .ne 4, 3) := by decide +kernel
theorem dd_103_42 : decode prog_7_method_38_code 42 = .ok (.return_, 1) := by decide +kernel
theorem dd_103_43 : decode prog_7_method_38_code 43 = .ok (.iconst 1, 1) := by decide +kernel
theorem dd_103_44 : decode prog_7_method_38_code 44 = .ok (.istore_n 2, 1) := by decide +kernel
theorem dd_103_45 : decode prog_7_method_38_code 45 = .ok (.iconst 0, 1) := by decide +kernel
theorem dd_103_46 : decode prog_7_method_38_code 46 = .ok (.istore_n 3, 1) := by decide +kernel
theorem dd_103_47 : decode prog_7_method_38_code 47 = .ok (.iload_n 3, 1) := by decide +kernel
theorem dd_103_48 : decode prog_7_method_38_code 48 = .ok (.aload_n 0, 1) := by decide +kernel
theorem dd_103_49 : decode prog_7_method_38_code 49 = .ok (.getfield 42, 3) := by decide +kernel
theorem dd_103_52 : decode prog_7_method_38_code 52 = .ok (.aload_n 0, 1) := by decide +kernel
theorem dd_103_53 : decode prog_7_method_38_code 53 = .ok (.getfield 45, 3) := by decide +kernel
theorem dd_103_56 : decode prog_7_method_38_code 56 = .ok (.imul, 1) := by decide +kernel
theorem dd_103_57 : decode prog_7_method_38_code 57 = .ok (.if_icmp .ge 16, 3) := by decide +kernel
theorem dd_103_60 : decode prog_7_method_38_code 60 = .ok (.aload_n 0, 1) := by decide +kernel
theorem dd_103_61 : decode prog_7_method_38_code 61 = .ok (.getfield 22, 3) := by decide +kernel
theorem dd_103_64 : decode prog_7_method_38_code 64 = .ok (.iload_n 3, 1) := by decide +kernel
theorem dd_103_65 : decode prog_7_method_38_code 65 = .ok (.iconst 0, 1) := by decide +kernel
theorem dd_103_66 : decode prog_7_method_38_code 66 = .ok (.bastore, 1) := by decide +kernel
theorem dd_103_67 : decode prog_7_method_38_code 67 = .ok (.iinc 3 1, 3) := by decide +kernel
theorem dd_103_70 : decode prog_7_method_38_code 70 = .ok (.goto (-23), 3) := by decide +kernel
theorem dd_103_73 : decode prog_7_method_38_code 73 = .ok (.iconst 0, 1) := by decide +kernel
theorem dd_103_74 : decode prog_7_method_38_code 74 = .ok (.istore_n 3, 1) := by decide +kernel
theorem dd_103_75 : decode prog_7_method_38_code 75 = .ok (.iload_n 3, 1) := by decide +kernel
theorem dd_103_76 : decode prog_7_method_38_code 76 = .ok (.aload_n 0, 1) := by decide +kernel
theorem dd_103_77 : decode prog_7_method_38_code 77 = .ok (.getfield 42, 3) := by decide +kernel
theorem dd_103_80 : decode prog_7_method_38_code 80 = .ok (.aload_n 0, 1) := by decide +kernel
theorem dd_103_81 : decode prog_7_method_38_code 81 = .ok (.getfield 45, 3) := by decide +kernel
theorem dd_103_84 : decode prog_7_method_38_code 84 = .ok (.imul, 1) := by decide +kernel
theorem dd_103_85 : decode prog_7_method_38_code 85 = .ok (.if_icmp .ge 55, 3) := by decide +kernel
theorem dd_103_88 : decode prog_7_method_38_code 88 = .ok (.aload_n 0, 1) := by decide +kernel
theorem dd_103_89 : decode prog_7_method_38_code 89 = .ok (.getfield 13, 3) := by decide +kernel
theorem dd_103_92 : decode prog_7_method_38_code 92 = .ok (.iload_n 3, 1) := by decide +kernel
theorem dd_103_93 : decode prog_7_method_38_code 93 = .ok (.iaload, 1) := by decide +kernel
theorem dd_103_94 : decode prog_7_method_38_code 94 = .ok (.iconst 4, 1) := by decide +kernel
theorem dd_103_95 : decode prog_7_method_38_code 95 = .ok (.if_icmp .ne 39, 3) := by decide +kernel
theorem dd_103_98 : decode prog_7_method_38_code 98 = .ok (.aload_n 0, 1) := by decide +kernel
theorem dd_103_99 : decode prog_7_method_38_code 99 = .ok (.getfield 22, 3) := by decide +kernel
theorem dd_103_102 : decode prog_7_method_38_code 102 = .ok (.aload_n 0, 1) := by decide +kernel
theorem dd_103_103 : decode prog_7_method_38_code 103 = .ok (.iload_n 3, 1) := by decide +kernel
theorem dd_103_104 : decode prog_7_method_38_code 104 = .ok (.iload_n 1, 1) := by decide +kernel
theorem dd_103_105 : decode prog_7_method_38_code 105 = .ok (.invokevirtual 102, 3) := by decide +kernel
theorem dd_103_108 : decode prog_7_method_38_code 108 = .ok (.iconst 1, 1) := by decide +kernel
theorem dd_103_109 : decode prog_7_method_38_code 109 = .ok (.bastore, 1) := by decide +kernel
theorem dd_103_110 : decode prog_7_method_38_code 110 = .ok (.iload_n 2, 1) := by decide +kernel
theorem dd_103_111 : decode prog_7_method_38_code 111 = .ok (.ifCond .eq 21, 3) := by decide +kernel
theorem dd_103_114 : decode prog_7_method_38_code 114 = .ok (.aload_n 0, 1) := by decide +kernel
theorem dd_103_115 : decode prog_7_method_38_code 115 = .ok (.aload_n 0, 1) := by decide +kernel
theorem dd_103_116 : decode prog_7_method_38_code 116 = .ok (.iload_n 3, 1) := by decide +kernel
theorem dd_103_117 : decode prog_7_method_38_code 117 = .ok (.iload_n 1, 1) := by decide +kernel
theorem dd_103_118 : decode prog_7_method_38_code 118 = .ok (.invokevirtual 102, 3) := by decide +kernel
theorem dd_103_121 : decode prog_7_method_38_code 121 = .ok (.iconst 4, 1) := by decide +kernel
theorem dd_103_122 : decode prog_7_method_38_code 122 = .ok (.invokevirtual 68, 3) := by decide +kernel
theorem dd_103_125 : decode prog_7_method_38_code 125 = .ok (.ifCond .ne 7, 3) := by decide +kernel
theorem dd_103_128 : decode prog_7_method_38_code 128 = .ok (.iconst 1, 1) := by decide +kernel
theorem dd_103_129 : decode prog_7_method_38_code 129 = .ok (.goto 4, 3) := by decide +kernel
theorem dd_103_132 : decode prog_7_method_38_code 132 = .ok (.iconst 0, 1) := by decide +kernel
theorem dd_103_133 : decode prog_7_method_38_code 133 = .ok (.istore_n 2, 1) := by decide +kernel
theorem dd_103_134 : decode prog_7_method_38_code 134 = .ok (.iinc 3 1, 3) := by decide +kernel
theorem dd_103_137 : decode prog_7_method_38_code 137 = .ok (.goto (-62), 3) := by decide +kernel
theorem dd_103_140 : decode prog_7_method_38_code 140 = .ok (.iload_n 2, 1) := by decide +kernel
theorem dd_103_141 : decode prog_7_method_38_code 141 = .ok (.ifCond .ne 4, 3) := by decide +kernel
theorem dd_103_144 : decode prog_7_method_38_code 144 = .ok (.return_, 1) := by decide +kernel
theorem dd_103_145 : decode prog_7_method_38_code 145 = .ok (.aload_n 0, 1) := by decide +kernel
theorem dd_103_146 : decode prog_7_method_38_code 146 = .ok (.iconst 0, 1) := by decide +kernel
theorem dd_103_147 : decode prog_7_method_38_code 147 = .ok (.iconst 0, 1) := by decide +kernel
theorem dd_103_148 : decode prog_7_method_38_code 148 = .ok (.invokevirtual 129, 3) := by decide +kernel
theorem dd_103_151 : decode prog_7_method_38_code 151 = .ok (.istore_n 3, 1) := by decide +kernel
theorem dd_103_152 : decode prog_7_method_38_code 152 = .ok (.aload_n 0, 1) := by decide +kernel
theorem dd_103_153 : decode prog_7_method_38_code 153 = .ok (.iconst 0, 1) := by decide +kernel
theorem dd_103_154 : decode prog_7_method_38_code 154 = .ok (.iconst 1, 1) := by decide +kernel
theorem dd_103_155 : decode prog_7_method_38_code 155 = .ok (.invokevirtual 129, 3) := by decide +kernel
theorem dd_103_158 : decode prog_7_method_38_code 158 = .ok (.istore 4, 2) := by decide +kernel
theorem dd_103_160 : decode prog_7_method_38_code 160 = .ok (.iload_n 3, 1) := by decide +kernel
theorem dd_103_161 : decode prog_7_method_38_code 161 = .ok (.ifCond .lt 33, 3) := by decide +kernel
theorem dd_103_164 : decode prog_7_method_38_code 164 = .ok (.aload_n 0, 1) := by decide +kernel
theorem dd_103_165 : decode prog_7_method_38_code 165 = .ok (.iload_n 3, 1) := by decide +kernel
theorem dd_103_166 : decode prog_7_method_38_code 166 = .ok (.iload 4, 2) := by decide +kernel
theorem dd_103_168 : decode prog_7_method_38_code 168 = .ok (.invokevirtual 133, 3) := by decide +kernel
theorem dd_103_171 : decode prog_7_method_38_code 171 = .ok (.aload_n 0, 1) := by decide +kernel
theorem dd_103_172 : decode prog_7_method_38_code 172 = .ok (.iload_n 3, 1) := by decide +kernel
theorem dd_103_173 : decode prog_7_method_38_code 173 = .ok (.iconst 1, 1) := by decide +kernel
theorem dd_103_174 : decode prog_7_method_38_code 174 = .ok (.iadd, 1) := by decide +kernel
theorem dd_103_175 : decode prog_7_method_38_code 175 = .ok (.iconst 0, 1) := by decide +kernel
theorem dd_103_176 : decode prog_7_method_38_code 176 = .ok (.invokevirtual 129, 3) := by decide +kernel
theorem dd_103_179 : decode prog_7_method_38_code 179 = .ok (.istore_n 3, 1) := by decide +kernel
theorem dd_103_180 : decode prog_7_method_38_code 180 = .ok (.aload_n 0, 1) := by decide +kernel
theorem dd_103_181 : decode prog_7_method_38_code 181 = .ok (.iload 4, 2) := by decide +kernel
theorem dd_103_183 : decode prog_7_method_38_code 183 = .ok (.iconst 1, 1) := by decide +kernel
theorem dd_103_184 : decode prog_7_method_38_code 184 = .ok (.iadd, 1) := by decide +kernel
theorem dd_103_185 : decode prog_7_method_38_code 185 = .ok (.iconst 1, 1) := by decide +kernel
theorem dd_103_186 : decode prog_7_method_38_code 186 = .ok (.invokevirtual 129, 3) := by decide +kernel
theorem dd_103_189 : decode prog_7_method_38_code 189 = .ok (.istore 4, 2) := by decide +kernel
theorem dd_103_191 : decode prog_7_method_38_code 191 = .ok (.goto (-31), 3) := by decide +kernel
theorem dd_103_194 : decode prog_7_method_38_code 194 = .ok (.iconst 0, 1) := by decide +kernel
theorem dd_103_195 : decode prog_7_method_38_code 195 = .ok (.istore 5, 2) := by decide +kernel
theorem dd_103_197 : decode prog_7_method_38_code 197 = .ok (.iload 5, 2) := by decide +kernel
theorem dd_103_199 : decode prog_7_method_38_code 199 = .ok (.aload_n 0, 1) := by decide +kernel
theorem dd_103_200 : decode prog_7_method_38_code 200 = .ok (.getfield 42, 3) := by decide +kernel
theorem dd_103_203 : decode prog_7_method_38_code 203 = .ok (.aload_n 0, 1) := by decide +kernel
theorem dd_103_204 : decode prog_7_method_38_code 204 = .ok (.getfield 45, 3) := by decide +kernel
theorem dd_103_207 : decode prog_7_method_38_code 207 = .ok (.imul, 1) := by decide +kernel
theorem dd_103_208 : decode prog_7_method_38_code 208 = .ok (.if_icmp .ge 52, 3) := by decide +kernel
theorem dd_103_211 : decode prog_7_method_38_code 211 = .ok (.aload_n 0, 1) := by decide +kernel
theorem dd_103_212 : decode prog_7_method_38_code 212 = .ok (.getfield 13, 3) := by decide +kernel
theorem dd_103_215 : decode prog_7_method_38_code 215 = .ok (.iload 5, 2) := by decide +kernel
theorem dd_103_217 : decode prog_7_method_38_code 217 = .ok (.aload_n 0, 1) := by decide +kernel
theorem dd_103_218 : decode prog_7_method_38_code 218 = .ok (.getfield 22, 3) := by decide +kernel
theorem dd_103_221 : decode prog_7_method_38_code 221 = .ok (.iload 5, 2) := by decide +kernel
theorem dd_103_223 : decode prog_7_method_38_code 223 = .ok (.baload, 1) := by decide +kernel
theorem dd_103_224 : decode prog_7_method_38_code 224 = .ok (.ifCond .eq 7, 3) := by decide +kernel
theorem dd_103_227 : decode prog_7_method_38_code 227 = .ok (.iconst 4, 1) := by decide +kernel
theorem dd_103_228 : decode prog_7_method_38_code 228 = .ok (.goto 25, 3) := by decide +kernel
theorem dd_103_231 : decode prog_7_method_38_code 231 = .ok (.aload_n 0, 1) := by decide +kernel
theorem dd_103_232 : decode prog_7_method_38_code 232 = .ok (.getfield 13, 3) := by decide +kernel
theorem dd_103_235 : decode prog_7_method_38_code 235 = .ok (.iload 5, 2) := by decide +kernel
theorem dd_103_237 : decode prog_7_method_38_code 237 = .ok (.iaload, 1) := by decide +kernel
theorem dd_103_238 : decode prog_7_method_38_code 238 = .ok (.iconst 4, 1) := by decide +kernel
theorem dd_103_239 : decode prog_7_method_38_code 239 = .ok (.if_icmp .ne 7, 3) := by decide +kernel
theorem dd_103_242 : decode prog_7_method_38_code 242 = .ok (.iconst 0, 1) := by decide +kernel
theorem dd_103_243 : decode prog_7_method_38_code 243 = .ok (.goto 10, 3) := by decide +kernel
theorem dd_103_246 : decode prog_7_method_38_code 246 = .ok (.aload_n 0, 1) := by decide +kernel
theorem dd_103_247 : decode prog_7_method_38_code 247 = .ok (.getfield 13, 3) := by decide +kernel
theorem dd_103_250 : decode prog_7_method_38_code 250 = .ok (.iload 5, 2) := by decide +kernel
theorem dd_103_252 : decode prog_7_method_38_code 252 = .ok (.iaload, 1) := by decide +kernel
theorem dd_103_253 : decode prog_7_method_38_code 253 = .ok (.iastore, 1) := by decide +kernel
theorem dd_103_254 : decode prog_7_method_38_code 254 = .ok (.iinc 5 1, 3) := by decide +kernel
theorem dd_103_257 : decode prog_7_method_38_code 257 = .ok (.goto (-60), 3) := by decide +kernel
theorem dd_103_260 : decode prog_7_method_38_code 260 = .ok (.aload_n 0, 1) := by decide +kernel
theorem dd_103_261 : decode prog_7_method_38_code 261 = .ok (.getfield 33, 3) := by decide +kernel
theorem dd_103_264 : decode prog_7_method_38_code 264 = .ok (.iconst 0, 1) := by decide +kernel
theorem dd_103_265 : decode prog_7_method_38_code 265 = .ok (.aload_n 0, 1) := by decide +kernel
theorem dd_103_266 : decode prog_7_method_38_code 266 = .ok (.getfield 33, 3) := by decide +kernel
theorem dd_103_269 : decode prog_7_method_38_code 269 = .ok (.iconst 0, 1) := by decide +kernel
theorem dd_103_270 : decode prog_7_method_38_code 270 = .ok (.iaload, 1) := by decide +kernel
theorem dd_103_271 : decode prog_7_method_38_code 271 = .ok (.aload_n 0, 1) := by decide +kernel
theorem dd_103_272 : decode prog_7_method_38_code 272 = .ok (.getfield 29, 3) := by decide +kernel
theorem dd_103_275 : decode prog_7_method_38_code 275 = .ok (.iload_n 1, 1) := by decide +kernel
theorem dd_103_276 : decode prog_7_method_38_code 276 = .ok (.iconst 0, 1) := by decide +kernel
theorem dd_103_277 : decode prog_7_method_38_code 277 = .ok (.invokestatic 105, 3) := by decide +kernel
theorem dd_103_280 : decode prog_7_method_38_code 280 = .ok (.imul, 1) := by decide +kernel
theorem dd_103_281 : decode prog_7_method_38_code 281 = .ok (.isub, 1) := by decide +kernel
theorem dd_103_282 : decode prog_7_method_38_code 282 = .ok (.iastore, 1) := by decide +kernel
theorem dd_103_283 : decode prog_7_method_38_code 283 = .ok (.aload_n 0, 1) := by decide +kernel
theorem dd_103_284 : decode prog_7_method_38_code 284 = .ok (.getfield 33, 3) := by decide +kernel
theorem dd_103_287 : decode prog_7_method_38_code 287 = .ok (.iconst 1, 1) := by decide +kernel
theorem dd_103_288 : decode prog_7_method_38_code 288 = .ok (.aload_n 0, 1) := by decide +kernel
theorem dd_103_289 : decode prog_7_method_38_code 289 = .ok (.getfield 33, 3) := by decide +kernel
theorem dd_103_292 : decode prog_7_method_38_code 292 = .ok (.iconst 1, 1) := by decide +kernel
theorem dd_103_293 : decode prog_7_method_38_code 293 = .ok (.iaload, 1) := by decide +kernel
theorem dd_103_294 : decode prog_7_method_38_code 294 = .ok (.aload_n 0, 1) := by decide +kernel
theorem dd_103_295 : decode prog_7_method_38_code 295 = .ok (.getfield 29, 3) := by decide +kernel
theorem dd_103_298 : decode prog_7_method_38_code 298 = .ok (.iload_n 1, 1) := by decide +kernel
theorem dd_103_299 : decode prog_7_method_38_code 299 = .ok (.iconst 1, 1) := by decide +kernel
theorem dd_103_300 : decode prog_7_method_38_code 300 = .ok (.invokestatic 105, 3) := by decide +kernel
theorem dd_103_303 : decode prog_7_method_38_code 303 = .ok (.imul, 1) := by decide +kernel
theorem dd_103_304 : decode prog_7_method_38_code 304 = .ok (.isub, 1) := by decide +kernel
theorem dd_103_305 : decode prog_7_method_38_code 305 = .ok (.iastore, 1) := by decide +kernel
theorem dd_103_306 : decode prog_7_method_38_code 306 = .ok (.aload_n 0, 1) := by decide +kernel
theorem dd_103_307 : decode prog_7_method_38_code 307 = .ok (.dup, 1) := by decide +kernel
theorem dd_103_308 : decode prog_7_method_38_code 308 = .ok (.getfield 79, 3) := by decide +kernel
theorem dd_103_311 : decode prog_7_method_38_code 311 = .ok (.iconst 1, 1) := by decide +kernel
theorem dd_103_312 : decode prog_7_method_38_code 312 = .ok (.iadd, 1) := by decide +kernel
theorem dd_103_313 : decode prog_7_method_38_code 313 = .ok (.putfield 79, 3) := by decide +kernel
theorem dd_103_316 : decode prog_7_method_38_code 316 = .ok (.return_, 1) := by decide +kernel
theorem dd_104_0 : decode prog_7_method_39_code 0 = .ok (.aload_n 0, 1) := by decide +kernel
theorem dd_104_1 : decode prog_7_method_39_code 1 = .ok (.iload_n 1, 1) := by decide +kernel
theorem dd_104_2 : decode prog_7_method_39_code 2 = .ok (.ifCond .lt 9, 3) := by decide +kernel
theorem dd_104_5 : decode prog_7_method_39_code 5 = .ok (.iload_n 1, 1) := by decide +kernel
theorem dd_104_6 : decode prog_7_method_39_code 6 = .ok (.bipush 64, 2) := by decide +kernel
theorem dd_104_8 : decode prog_7_method_39_code 8 = .ok (.if_icmp .le 7, 3) := by decide +kernel
theorem dd_104_11 : decode prog_7_method_39_code 11 = .ok (.iconst 1, 1) := by decide +kernel
theorem dd_104_12 : decode prog_7_method_39_code 12 = .ok (.goto 4, 3) := by decide +kernel
theorem dd_104_15 : decode prog_7_method_39_code 15 = .ok (.iconst 0, 1) := by decide +kernel
theorem dd_104_16 : decode prog_7_method_39_code 16 = .ok (.putfield 48, 3) := by decide +kernel
theorem dd_104_19 : decode prog_7_method_39_code 19 = .ok (.aload_n 0, 1) := by decide +kernel
theorem dd_104_20 : decode prog_7_method_39_code 20 = .ok (.getfield 48, 3) := by decide +kernel
theorem dd_104_23 : decode prog_7_method_39_code 23 = .ok (.ifCond .le 5, 3) := by decide +kernel
theorem dd_104_26 : decode prog_7_method_39_code 26 = .ok (.iconst 0, 1) := by decide +kernel
theorem dd_104_27 : decode prog_7_method_39_code 27 = .ok (.ireturn, 1) := by decide +kernel
theorem dd_104_28 : decode prog_7_method_39_code 28 = .ok (.iconst 0, 1) := by decide +kernel
theorem dd_104_29 : decode prog_7_method_39_code 29 = .ok (.istore_n 2, 1) := by decide +kernel
theorem dd_104_30 : decode prog_7_method_39_code 30 = .ok (.iload_n 2, 1) := by decide +kernel
theorem dd_104_31 : decode prog_7_method_39_code 31 = .ok (.iload_n 1, 1) := by decide +kernel
theorem dd_104_32 : decode prog_7_method_39_code 32 = .ok (.if_icmp .ge 37, 3) := by decide +kernel
theorem dd_104_35 : decode prog_7_method_39_code 35 = .ok (.aload_n 0, 1) := by decide +kernel
theorem dd_104_36 : decode prog_7_method_39_code 36 = .ok (.iconst 0, 1) := by decide +kernel
theorem dd_104_37 : decode prog_7_method_39_code 37 = .ok (.invokevirtual 137, 3) := by decide +kernel
theorem dd_104_40 : decode prog_7_method_39_code 40 = .ok (.aload_n 0, 1) := by decide +kernel
theorem dd_104_41 : decode prog_7_method_39_code 41 = .ok (.iconst 0, 1) := by decide +kernel
theorem dd_104_42 : decode prog_7_method_39_code 42 = .ok (.invokevirtual 141, 3) := by decide +kernel
theorem dd_104_45 : decode prog_7_method_39_code 45 = .ok (.aload_n 0, 1) := by decide +kernel
theorem dd_104_46 : decode prog_7_method_39_code 46 = .ok (.invokevirtual 144, 3) := by decide +kernel
theorem dd_104_49 : decode prog_7_method_39_code 49 = .ok (.aload_n 0, 1) := by decide +kernel
theorem dd_104_50 : decode prog_7_method_39_code 50 = .ok (.invokevirtual 147, 3) := by decide +kernel
theorem dd_104_53 : decode prog_7_method_39_code 53 = .ok (.aload_n 0, 1) := by decide +kernel
theorem dd_104_54 : decode prog_7_method_39_code 54 = .ok (.dup, 1) := by decide +kernel
theorem dd_104_55 : decode prog_7_method_39_code 55 = .ok (.getfield 85, 3) := by decide +kernel
theorem dd_104_58 : decode prog_7_method_39_code 58 = .ok (.iconst 1, 1) := by decide +kernel
theorem dd_104_59 : decode prog_7_method_39_code 59 = .ok (.iadd, 1) := by decide +kernel
theorem dd_104_60 : decode prog_7_method_39_code 60 = .ok (.putfield 85, 3) := by decide +kernel
theorem dd_104_63 : decode prog_7_method_39_code 63 = .ok (.iinc 2 1, 3) := by decide +kernel
theorem dd_104_66 : decode prog_7_method_39_code 66 = .ok (.goto (-36), 3) := by decide +kernel
theorem dd_104_69 : decode prog_7_method_39_code 69 = .ok (.aload_n 0, 1) := by decide +kernel
theorem dd_104_70 : decode prog_7_method_39_code 70 = .ok (.getfield 85, 3) := by decide +kernel
theorem dd_104_73 : decode prog_7_method_39_code 73 = .ok (.ireturn, 1) := by decide +kernel
theorem dd_105_0 : decode prog_7_method_40_code 0 = .ok (.aload_n 0, 1) := by decide +kernel
theorem dd_105_1 : decode prog_7_method_40_code 1 = .ok (.iload_n 1, 1) := by decide +kernel
theorem dd_105_2 : decode prog_7_method_40_code 2 = .ok (.ifCond .lt 9, 3) := by decide +kernel
theorem dd_105_5 : decode prog_7_method_40_code 5 = .ok (.iload_n 1, 1) := by decide +kernel
theorem dd_105_6 : decode prog_7_method_40_code 6 = .ok (.bipush 64, 2) := by decide +kernel
theorem dd_105_8 : decode prog_7_method_40_code 8 = .ok (.if_icmp .le 7, 3) := by decide +kernel
theorem dd_105_11 : decode prog_7_method_40_code 11 = .ok (.iconst 1, 1) := by decide +kernel
theorem dd_105_12 : decode prog_7_method_40_code 12 = .ok (.goto 28, 3) := by decide +kernel
theorem dd_105_15 : decode prog_7_method_40_code 15 = .ok (.aload_n 0, 1) := by decide +kernel
theorem dd_105_16 : decode prog_7_method_40_code 16 = .ok (.iconst 2, 1) := by decide +kernel
theorem dd_105_17 : decode prog_7_method_40_code 17 = .ok (.invokevirtual 126, 3) := by decide +kernel
theorem dd_105_20 : decode prog_7_method_40_code 20 = .ok (.aload_n 0, 1) := by decide +kernel
theorem dd_105_21 : decode prog_7_method_40_code 21 = .ok (.iconst 3, 1) := by decide +kernel
theorem dd_105_22 : decode prog_7_method_40_code 22 = .ok (.invokevirtual 126, 3) := by decide +kernel
theorem dd_105_25 : decode prog_7_method_40_code 25 = .ok (.iadd, 1) := by decide +kernel
theorem dd_105_26 : decode prog_7_method_40_code 26 = .ok (.aload_n 0, 1) := by decide +kernel
theorem dd_105_27 : decode prog_7_method_40_code 27 = .ok (.iconst 4, 1) := by decide +kernel
theorem dd_105_28 : decode prog_7_method_40_code 28 = .ok (.invokevirtual 126, 3) := by decide +kernel
theorem dd_105_31 : decode prog_7_method_40_code 31 = .ok (.iadd, 1) := by decide +kernel
theorem dd_105_32 : decode prog_7_method_40_code 32 = .ok (.ifCond .le 7, 3) := by decide +kernel
theorem dd_105_35 : decode prog_7_method_40_code 35 = .ok (.iconst 2, 1) := by decide +kernel
theorem dd_105_36 : decode prog_7_method_40_code 36 = .ok (.goto 4, 3) := by decide +kernel
theorem dd_105_39 : decode prog_7_method_40_code 39 = .ok (.iconst 0, 1) := by decide +kernel
theorem dd_105_40 : decode prog_7_method_40_code 40 = .ok (.putfield 48, 3) := by decide +kernel
theorem dd_105_43 : decode prog_7_method_40_code 43 = .ok (.aload_n 0, 1) := by decide +kernel
theorem dd_105_44 : decode prog_7_method_40_code 44 = .ok (.getfield 48, 3) := by decide +kernel
theorem dd_105_47 : decode prog_7_method_40_code 47 = .ok (.ifCond .le 5, 3) := by decide +kernel
theorem dd_105_50 : decode prog_7_method_40_code 50 = .ok (.iconst 0, 1) := by decide +kernel
theorem dd_105_51 : decode prog_7_method_40_code 51 = .ok (.ireturn, 1) := by decide +kernel
theorem dd_105_52 : decode prog_7_method_40_code 52 = .ok (.iconst 0, 1) := by decide +kernel
theorem dd_105_53 : decode prog_7_method_40_code 53 = .ok (.istore_n 2, 1) := by decide +kernel
theorem dd_105_54 : decode prog_7_method_40_code 54 = .ok (.iload_n 2, 1) := by decide +kernel
theorem dd_105_55 : decode prog_7_method_40_code 55 = .ok (.iload_n 1, 1) := by decide +kernel
theorem dd_105_56 : decode prog_7_method_40_code 56 = .ok (.if_icmp .ge 33, 3) := by decide +kernel
theorem dd_105_59 : decode prog_7_method_40_code 59 = .ok (.aload_n 0, 1) := by decide +kernel
theorem dd_105_60 : decode prog_7_method_40_code 60 = .ok (.dup, 1) := by decide +kernel
theorem dd_105_61 : decode prog_7_method_40_code 61 = .ok (.getfield 85, 3) := by decide +kernel
theorem dd_105_64 : decode prog_7_method_40_code 64 = .ok (.iconst 1, 1) := by decide +kernel
theorem dd_105_65 : decode prog_7_method_40_code 65 = .ok (.isub, 1) := by decide +kernel
theorem dd_105_66 : decode prog_7_method_40_code 66 = .ok (.putfield 85, 3) := by decide +kernel
theorem dd_105_69 : decode prog_7_method_40_code 69 = .ok (.aload_n 0, 1) := by decide +kernel
theorem dd_105_70 : decode prog_7_method_40_code 70 = .ok (.invokevirtual 144, 3) := by decide +kernel
theorem dd_105_73 : decode prog_7_method_40_code 73 = .ok (.aload_n 0, 1) := by decide +kernel
theorem dd_105_74 : decode prog_7_method_40_code 74 = .ok (.iconst 1, 1) := by decide +kernel
theorem dd_105_75 : decode prog_7_method_40_code 75 = .ok (.invokevirtual 141, 3) := by decide +kernel
theorem dd_105_78 : decode prog_7_method_40_code 78 = .ok (.aload_n 0, 1) := by decide +kernel
theorem dd_105_79 : decode prog_7_method_40_code 79 = .ok (.iconst 1, 1) := by decide +kernel
theorem dd_105_80 : decode prog_7_method_40_code 80 = .ok (.invokevirtual 137, 3) := by decide +kernel
theorem dd_105_83 : decode prog_7_method_40_code 83 = .ok (.iinc 2 1, 3) := by decide +kernel
theorem dd_105_86 : decode prog_7_method_40_code 86 = .ok (.goto (-32), 3) := by decide +kernel
theorem dd_105_89 : decode prog_7_method_40_code 89 = .ok (.aload_n 0, 1) := by decide +kernel
theorem dd_105_90 : decode prog_7_method_40_code 90 = .ok (.getfield 85, 3) := by decide +kernel
theorem dd_105_93 : decode prog_7_method_40_code 93 = .ok (.ireturn, 1) := by decide +kernel
theorem dd_106_0 : decode prog_7_method_41_code 0 = .ok (.iconst 0, 1) := by decide +kernel
theorem dd_106_1 : decode prog_7_method_41_code 1 = .ok (.istore_n 2, 1) := by decide +kernel
theorem dd_106_2 : decode prog_7_method_41_code 2 = .ok (.iconst 0, 1) := by decide +kernel
theorem dd_106_3 : decode prog_7_method_41_code 3 = .ok (.istore_n 3, 1) := by decide +kernel
theorem dd_106_4 : decode prog_7_method_41_code 4 = .ok (.iload_n 3, 1) := by decide +kernel
theorem dd_106_5 : decode prog_7_method_41_code 5 = .ok (.bipush 7, 2) := by decide +kernel
theorem dd_106_7 : decode prog_7_method_41_code 7 = .ok (.if_icmp .ge 39, 3) := by decide +kernel
theorem dd_106_10 : decode prog_7_method_41_code 10 = .ok (.iload_n 0, 1) := by decide +kernel
theorem dd_106_11 : decode prog_7_method_41_code 11 = .ok (.iload_n 3, 1) := by decide +kernel
theorem dd_106_12 : decode prog_7_method_41_code 12 = .ok (.invokestatic 51, 3) := by decide +kernel
theorem dd_106_15 : decode prog_7_method_41_code 15 = .ok (.ifCond .eq 23, 3) := by decide +kernel
theorem dd_106_18 : decode prog_7_method_41_code 18 = .ok (.iload_n 2, 1) := by decide +kernel
theorem dd_106_19 : decode prog_7_method_41_code 19 = .ok (.iload_n 1, 1) := by decide +kernel
theorem dd_106_20 : decode prog_7_method_41_code 20 = .ok (.ifCond .ne 7, 3) := by decide +kernel
theorem dd_106_23 : decode prog_7_method_41_code 23 = .ok (.iconst 1, 1) := by decide +kernel
theorem dd_106_24 : decode prog_7_method_41_code 24 = .ok (.goto 10, 3) := by decide +kernel
theorem dd_106_27 : decode prog_7_method_41_code 27 = .ok (.iload_n 3, 1) := by decide +kernel
theorem dd_106_28 : decode prog_7_method_41_code 28 = .ok (.iload_n 1, 1) := by decide +kernel
theorem dd_106_29 : decode prog_7_method_41_code 29 = .ok (.iconst 1, 1) := by decide +kernel
theorem dd_106_30 : decode prog_7_method_41_code 30 = .ok (.isub, 1) := by decide +kernel
theorem dd_106_31 : decode prog_7_method_41_code 31 = .ok (.invokestatic 105, 3) := by decide +kernel
theorem dd_106_34 : decode prog_7_method_41_code 34 = .ok (.iadd, 1) := by decide +kernel
theorem dd_106_35 : decode prog_7_method_41_code 35 = .ok (.goto 4, 3) := by decide +kernel
theorem dd_106_38 : decode prog_7_method_41_code 38 = .ok (.iload_n 2, 1) := by decide +kernel
theorem dd_106_39 : decode prog_7_method_41_code 39 = .ok (.istore_n 2, 1) := by decide +kernel
theorem dd_106_40 : decode prog_7_method_41_code 40 = .ok (.iinc 3 1, 3) := by decide +kernel
theorem dd_106_43 : decode prog_7_method_41_code 43 = .ok (.goto (-39), 3) := by decide +kernel
theorem dd_106_46 : decode prog_7_method_41_code 46 = .ok (.iload_n 2, 1) := by decide +kernel
theorem dd_106_47 : decode prog_7_method_41_code 47 = .ok (.ireturn, 1) := by decide +kernel
theorem dd_107_0 : decode prog_7_method_42_code 0 = .ok (.aload_n 0, 1) := by decide +kernel
theorem dd_107_1 : decode prog_7_method_42_code 1 = .ok (.iload_n 1, 1) := by decide +kernel
theorem dd_107_2 : decode prog_7_method_42_code 2 = .ok (.iload_n 2, 1) := by decide +kernel
theorem dd_107_3 : decode prog_7_method_42_code 3 = .ok (.invokevirtual 62, 3) := by decide +kernel
theorem dd_107_6 : decode prog_7_method_42_code 6 = .ok (.ifCond .eq 37, 3) := by decide +kernel
theorem dd_107_9 : decode prog_7_method_42_code 9 = .ok (.iload_n 3, 1) := by decide +kernel
theorem dd_107_10 : decode prog_7_method_42_code 10 = .ok (.ifCond .le 33, 3) := by decide +kernel
theorem dd_107_13 : decode prog_7_method_42_code 13 = .ok (.iload 4, 2) := by decide +kernel
theorem dd_107_15 : decode prog_7_method_42_code 15 = .ok (.ifCond .le 28, 3) := by decide +kernel
theorem dd_107_18 : decode prog_7_method_42_code 18 = .ok (.iload_n 3, 1) := by decide +kernel
theorem dd_107_19 : decode prog_7_method_42_code 19 = .ok (.aload_n 0, 1) := by decide +kernel
theorem dd_107_20 : decode prog_7_method_42_code 20 = .ok (.getfield 42, 3) := by decide +kernel
theorem dd_107_23 : decode prog_7_method_42_code 23 = .ok (.iload_n 1, 1) := by decide +kernel
theorem dd_107_24 : decode prog_7_method_42_code 24 = .ok (.isub, 1) := by decide +kernel
theorem dd_107_25 : decode prog_7_method_42_code 25 = .ok (.if_icmp .gt 18, 3) := by decide +kernel
theorem dd_107_28 : decode prog_7_method_42_code 28 = .ok (.iload 4, 2) := by decide +kernel
theorem dd_107_30 : decode prog_7_method_42_code 30 = .ok (.aload_n 0, 1) := by decide +kernel
theorem dd_107_31 : decode prog_7_method_42_code 31 = .ok (.getfield 45, 3) := by decide +kernel
theorem dd_107_34 : decode prog_7_method_42_code 34 = .ok (.iload_n 2, 1) := by decide +kernel
theorem dd_107_35 : decode prog_7_method_42_code 35 = .ok (.isub, 1) := by decide +kernel
theorem dd_107_36 : decode prog_7_method_42_code 36 = .ok (.if_icmp .gt 7, 3) := by decide +kernel
theorem dd_107_39 : decode prog_7_method_42_code 39 = .ok (.iconst 1, 1) := by decide +kernel
theorem dd_107_40 : decode prog_7_method_42_code 40 = .ok (.goto 4, 3) := by decide +kernel
theorem dd_107_43 : decode prog_7_method_42_code 43 = .ok (.iconst 0, 1) := by decide +kernel
theorem dd_107_44 : decode prog_7_method_42_code 44 = .ok (.istore 6, 2) := by decide +kernel
theorem dd_107_46 : decode prog_7_method_42_code 46 = .ok (.aload_n 0, 1) := by decide +kernel
theorem dd_107_47 : decode prog_7_method_42_code 47 = .ok (.iload 6, 2) := by decide +kernel
theorem dd_107_49 : decode prog_7_method_42_code 49 = .ok (.ifCond .ne 7, 3) := by decide +kernel
theorem dd_107_52 : decode prog_7_method_42_code 52 = .ok (.iconst 1, 1) := by decide +kernel
theorem dd_107_53 : decode prog_7_method_42_code 53 = .ok (.goto 19, 3) := by decide +kernel
theorem dd_107_56 : decode prog_7_method_42_code 56 = .ok (.iload 5, 2) := by decide +kernel
theorem dd_107_58 : decode prog_7_method_42_code 58 = .ok (.ifCond .lt 9, 3) := by decide +kernel
theorem dd_107_61 : decode prog_7_method_42_code 61 = .ok (.iload 5, 2) := by decide +kernel
theorem dd_107_63 : decode prog_7_method_42_code 63 = .ok (.iconst 2, 1) := by decide +kernel
theorem dd_107_64 : decode prog_7_method_42_code 64 = .ok (.if_icmp .le 7, 3) := by decide +kernel
theorem dd_107_67 : decode prog_7_method_42_code 67 = .ok (.iconst 2, 1) := by decide +kernel
theorem dd_107_68 : decode prog_7_method_42_code 68 = .ok (.goto 4, 3) := by decide +kernel
theorem dd_107_71 : decode prog_7_method_42_code 71 = .ok (.iconst 0, 1) := by decide +kernel
theorem dd_107_72 : decode prog_7_method_42_code 72 = .ok (.putfield 48, 3) := by decide +kernel
theorem dd_107_75 : decode prog_7_method_42_code 75 = .ok (.iconst 0, 1) := by decide +kernel
theorem dd_107_76 : decode prog_7_method_42_code 76 = .ok (.istore 7, 2) := by decide +kernel
theorem dd_107_78 : decode prog_7_method_42_code 78 = .ok (.iconst 0, 1) := by decide +kernel
theorem dd_107_79 : decode prog_7_method_42_code 79 = .ok (.istore 8, 2) := by decide +kernel
theorem dd_107_81 : decode prog_7_method_42_code 81 = .ok (.aload_n 0, 1) := by decide +kernel
theorem dd_107_82 : decode prog_7_method_42_code 82 = .ok (.getfield 48, 3) := by decide +kernel
theorem dd_107_85 : decode prog_7_method_42_code 85 = .ok (.ifCond .ne 60, 3) := by decide +kernel
theorem dd_107_88 : decode prog_7_method_42_code 88 = .ok (.iload 8, 2) := by decide +kernel
theorem dd_107_90 : decode prog_7_method_42_code 90 = .ok (.iload 4, 2) := by decide +kernel
theorem dd_107_92 : decode prog_7_method_42_code 92 = .ok (.if_icmp .ge 53, 3) := by decide +kernel
theorem dd_107_95 : decode prog_7_method_42_code 95 = .ok (.iconst 0, 1) := by decide +kernel
theorem dd_107_96 : decode prog_7_method_42_code 96 = .ok (.istore 9, 2) := by decide +kernel
theorem dd_107_98 : decode prog_7_method_42_code 98 = .ok (.iload 9, 2) := by decide +kernel
theorem dd_107_100 : decode prog_7_method_42_code 100 = .ok (.iload_n 3, 1) := by decide +kernel
theorem dd_107_101 : decode prog_7_method_42_code 101 = .ok (.if_icmp .ge 38, 3) := by decide +kernel
theorem dd_107_104 : decode prog_7_method_42_code 104 = .ok (.iload 7, 2) := by decide +kernel
theorem dd_107_106 : decode prog_7_method_42_code 106 = .ok (.aload_n 0, 1) := by decide +kernel
theorem dd_107_107 : decode prog_7_method_42_code 107 = .ok (.getfield 7, 3) := by decide +kernel
theorem dd_107_110 : decode prog_7_method_42_code 110 = .ok (.aload_n 0, 1) := by decide +kernel
theorem dd_107_111 : decode prog_7_method_42_code 111 = .ok (.getfield 42, 3) := by decide +kernel
theorem dd_107_114 : decode prog_7_method_42_code 114 = .ok (.iload_n 2, 1) := by decide +kernel
theorem dd_107_115 : decode prog_7_method_42_code 115 = .ok (.iload 8, 2) := by decide +kernel
theorem dd_107_117 : decode prog_7_method_42_code 117 = .ok (.iadd, 1) := by decide +kernel
theorem dd_107_118 : decode prog_7_method_42_code 118 = .ok (.imul, 1) := by decide +kernel
theorem dd_107_119 : decode prog_7_method_42_code 119 = .ok (.iload_n 1, 1) := by decide +kernel
theorem dd_107_120 : decode prog_7_method_42_code 120 = .ok (.iadd, 1) := by decide +kernel
theorem dd_107_121 : decode prog_7_method_42_code 121 = .ok (.iload 9, 2) := by decide +kernel
theorem dd_107_123 : decode prog_7_method_42_code 123 = .ok (.iadd, 1) := by decide +kernel
theorem dd_107_124 : decode prog_7_method_42_code 124 = .ok (.iaload, 1) := by decide +kernel
theorem dd_107_125 : decode prog_7_method_42_code 125 = .ok (.iload 5, 2) := by decide +kernel
theorem dd_107_127 : decode prog_7_method_42_code 127 = .ok (.invokestatic 150, 3) := by decide +kernel
theorem dd_107_130 : decode prog_7_method_42_code 130 = .ok (.iadd, 1) := by decide +kernel
theorem dd_107_131 : decode prog_7_method_42_code 131 = .ok (.istore 7, 2) := by decide +kernel
theorem dd_107_133 : decode prog_7_method_42_code 133 = .ok (.iinc 9 1, 3) := by decide +kernel
theorem dd_107_136 : decode prog_7_method_42_code 136 = .ok (.goto (-38), 3) := by decide +kernel
theorem dd_107_139 : decode prog_7_method_42_code 139 = .ok (.iinc 8 1, 3) := by decide +kernel
theorem dd_107_142 : decode prog_7_method_42_code 142 = .ok (.goto (-61), 3) := by decide +kernel
theorem dd_107_145 : decode prog_7_method_42_code 145 = .ok (.iload 7, 2) := by decide +kernel
theorem dd_107_147 : decode prog_7_method_42_code 147 = .ok (.ireturn, 1) := by decide +kernel
theorem dd_108_0 : decode prog_7_method_43_code 0 = .ok (.aload_n 0, 1) := by decide +kernel
theorem dd_108_1 : decode prog_7_method_43_code 1 = .ok (.iload_n 1, 1) := by decide +kernel
theorem dd_108_2 : decode prog_7_method_43_code 2 = .ok (.ifCond .lt 17, 3) := by decide +kernel
theorem dd_108_5 : decode prog_7_method_43_code 5 = .ok (.iload_n 1, 1) := by decide +kernel
theorem dd_108_6 : decode prog_7_method_43_code 6 = .ok (.iconst 3, 1) := by decide +kernel
theorem dd_108_7 : decode prog_7_method_43_code 7 = .ok (.if_icmp .gt 12, 3) := by decide +kernel
theorem dd_108_10 : decode prog_7_method_43_code 10 = .ok (.iload_n 2, 1) := by decide +kernel
theorem dd_108_11 : decode prog_7_method_43_code 11 = .ok (.ifCond .lt 8, 3) := by decide +kernel
theorem dd_108_14 : decode prog_7_method_43_code 14 = .ok (.iload_n 2, 1) := by decide +kernel
theorem dd_108_15 : decode prog_7_method_43_code 15 = .ok (.iconst 2, 1) := by decide +kernel
theorem dd_108_16 : decode prog_7_method_43_code 16 = .ok (.if_icmp .le 7, 3) := by decide +kernel
theorem dd_108_19 : decode prog_7_method_43_code 19 = .ok (.iconst 1, 1) := by decide +kernel
theorem dd_108_20 : decode prog_7_method_43_code 20 = .ok (.goto 4, 3) := by decide +kernel
theorem dd_108_23 : decode prog_7_method_43_code 23 = .ok (.iconst 0, 1) := by decide +kernel
theorem dd_108_24 : decode prog_7_method_43_code 24 = .ok (.putfield 48, 3) := by decide +kernel
theorem dd_108_27 : decode prog_7_method_43_code 27 = .ok (.aload_n 0, 1) := by decide +kernel
theorem dd_108_28 : decode prog_7_method_43_code 28 = .ok (.getfield 48, 3) := by decide +kernel
theorem dd_108_31 : decode prog_7_method_43_code 31 = .ok (.ifCond .le 7, 3) := by decide +kernel
theorem dd_108_34 : decode prog_7_method_43_code 34 = .ok (.iconst 0, 1) := by decide +kernel
theorem dd_108_35 : decode prog_7_method_43_code 35 = .ok (.goto 13, 3) := by decide +kernel
theorem dd_108_38 : decode prog_7_method_43_code 38 = .ok (.aload_n 0, 1) := by decide +kernel
theorem dd_108_39 : decode prog_7_method_43_code 39 = .ok (.getfield 26, 3) := by decide +kernel
theorem dd_108_42 : decode prog_7_method_43_code 42 = .ok (.iconst 3, 1) := by decide +kernel
theorem dd_108_43 : decode prog_7_method_43_code 43 = .ok (.iload_n 1, 1) := by decide +kernel
theorem dd_108_44 : decode prog_7_method_43_code 44 = .ok (.imul, 1) := by decide +kernel
theorem dd_108_45 : decode prog_7_method_43_code 45 = .ok (.iload_n 2, 1) := by decide +kernel
theorem dd_108_46 : decode prog_7_method_43_code 46 = .ok (.iadd, 1) := by decide +kernel
theorem dd_108_47 : decode prog_7_method_43_code 47 = .ok (.iaload, 1) := by decide +kernel
theorem dd_108_48 : decode prog_7_method_43_code 48 = .ok (.ireturn, 1) := by decide +kernel
theorem dd_109_0 : decode prog_7_method_44_code 0 = .ok (.aload_n 0, 1) := by decide +kernel
theorem dd_109_1 : decode prog_7_method_44_code 1 = .ok (.iconst 0, 1) := by decide +kernel
theorem dd_109_2 : decode prog_7_method_44_code 2 = .ok (.putfield 48, 3) := by decide +kernel
theorem dd_109_5 : decode prog_7_method_44_code 5 = .ok (.iconst 0, 1) := by decide +kernel
theorem dd_109_6 : decode prog_7_method_44_code 6 = .ok (.istore_n 1, 1) := by decide +kernel
theorem dd_109_7 : decode prog_7_method_44_code 7 = .ok (.iconst 0, 1) := by decide +kernel
theorem dd_109_8 : decode prog_7_method_44_code 8 = .ok (.istore_n 2, 1) := by decide +kernel
theorem dd_109_9 : decode prog_7_method_44_code 9 = .ok (.iload_n 2, 1) := by decide +kernel
theorem dd_109_10 : decode prog_7_method_44_code 10 = .ok (.aload_n 0, 1) := by decide +kernel
theorem dd_109_11 : decode prog_7_method_44_code 11 = .ok (.getfield 45, 3) := by decide +kernel
theorem dd_109_14 : decode prog_7_method_44_code 14 = .ok (.if_icmp .ge 50, 3) := by decide +kernel
theorem dd_109_17 : decode prog_7_method_44_code 17 = .ok (.iconst 0, 1) := by decide +kernel
theorem dd_109_18 : decode prog_7_method_44_code 18 = .ok (.istore_n 3, 1) := by decide +kernel
theorem dd_109_19 : decode prog_7_method_44_code 19 = .ok (.iload_n 3, 1) := by decide +kernel
theorem dd_109_20 : decode prog_7_method_44_code 20 = .ok (.aload_n 0, 1) := by decide +kernel
theorem dd_109_21 : decode prog_7_method_44_code 21 = .ok (.getfield 42, 3) := by decide +kernel
theorem dd_109_24 : decode prog_7_method_44_code 24 = .ok (.if_icmp .ge 34, 3) := by decide +kernel
theorem dd_109_27 : decode prog_7_method_44_code 27 = .ok (.iload_n 1, 1) := by decide +kernel
theorem dd_109_28 : decode prog_7_method_44_code 28 = .ok (.aload_n 0, 1) := by decide +kernel
theorem dd_109_29 : decode prog_7_method_44_code 29 = .ok (.getfield 7, 3) := by decide +kernel
theorem dd_109_32 : decode prog_7_method_44_code 32 = .ok (.aload_n 0, 1) := by decide +kernel
theorem dd_109_33 : decode prog_7_method_44_code 33 = .ok (.getfield 42, 3) := by decide +kernel
theorem dd_109_36 : decode prog_7_method_44_code 36 = .ok (.iload_n 2, 1) := by decide +kernel
theorem dd_109_37 : decode prog_7_method_44_code 37 = .ok (.imul, 1) := by decide +kernel
theorem dd_109_38 : decode prog_7_method_44_code 38 = .ok (.iload_n 3, 1) := by decide +kernel
theorem dd_109_39 : decode prog_7_method_44_code 39 = .ok (.iadd, 1) := by decide +kernel
theorem dd_109_40 : decode prog_7_method_44_code 40 = .ok (.iaload, 1) := by decide +kernel
theorem dd_109_41 : decode prog_7_method_44_code 41 = .ok (.bipush 16, 2) := by decide +kernel
theorem dd_109_43 : decode prog_7_method_44_code 43 = .ok (.iload_n 2, 1) := by decide +kernel
theorem dd_109_44 : decode prog_7_method_44_code 44 = .ok (.imul, 1) := by decide +kernel
theorem dd_109_45 : decode prog_7_method_44_code 45 = .ok (.iload_n 3, 1) := by decide +kernel
theorem dd_109_46 : decode prog_7_method_44_code 46 = .ok (.iadd, 1) := by decide +kernel
theorem dd_109_47 : decode prog_7_method_44_code 47 = .ok (.iconst 1, 1) := by decide +kernel
theorem dd_109_48 : decode prog_7_method_44_code 48 = .ok (.iadd, 1) := by decide +kernel
theorem dd_109_49 : decode prog_7_method_44_code 49 = .ok (.imul, 1) := by decide +kernel
theorem dd_109_50 : decode prog_7_method_44_code 50 = .ok (.iadd, 1) := by decide +kernel
theorem dd_109_51 : decode prog_7_method_44_code 51 = .ok (.istore_n 1, 1) := by decide +kernel
theorem dd_109_52 : decode prog_7_method_44_code 52 = .ok (.iinc 3 1, 3) := by decide +kernel
theorem dd_109_55 : decode prog_7_method_44_code 55 = .ok (.goto (-36), 3) := by decide +kernel
theorem dd_109_58 : decode prog_7_method_44_code 58 = .ok (.iinc 2 1, 3) := by decide +kernel
theorem dd_109_61 : decode prog_7_method_44_code 61 = .ok (.goto (-52), 3) := by decide +kernel
theorem dd_109_64 : decode prog_7_method_44_code 64 = .ok (.iload_n 1, 1) := by decide +kernel
theorem dd_109_65 : decode prog_7_method_44_code 65 = .ok (.ireturn, 1) := by decide +kernel
theorem dd_110_0 : decode prog_7_method_45_code 0 = .ok (.aload_n 0, 1) := by decide +kernel
theorem dd_110_1 : decode prog_7_method_45_code 1 = .ok (.aload_n 0, 1) := by decide +kernel
theorem dd_110_2 : decode prog_7_method_45_code 2 = .ok (.iload_n 1, 1) := by decide +kernel
theorem dd_110_3 : decode prog_7_method_45_code 3 = .ok (.iload_n 2, 1) := by decide +kernel
theorem dd_110_4 : decode prog_7_method_45_code 4 = .ok (.invokevirtual 62, 3) := by decide +kernel
theorem dd_110_7 : decode prog_7_method_45_code 7 = .ok (.ifCond .ne 7, 3) := by decide +kernel
theorem dd_110_10 : decode prog_7_method_45_code 10 = .ok (.iconst 1, 1) := by decide +kernel
theorem dd_110_11 : decode prog_7_method_45_code 11 = .ok (.goto 42, 3) := by decide +kernel
theorem dd_110_14 : decode prog_7_method_45_code 14 = .ok (.iload_n 3, 1) := by decide +kernel
theorem dd_110_15 : decode prog_7_method_45_code 15 = .ok (.ifCond .lt 9, 3) := by decide +kernel
theorem dd_110_18 : decode prog_7_method_45_code 18 = .ok (.iload_n 3, 1) := by decide +kernel
theorem dd_110_19 : decode prog_7_method_45_code 19 = .ok (.bipush 6, 2) := by decide +kernel
theorem dd_110_21 : decode prog_7_method_45_code 21 = .ok (.if_icmp .le 7, 3) := by decide +kernel
theorem dd_110_24 : decode prog_7_method_45_code 24 = .ok (.iconst 2, 1) := by decide +kernel
theorem dd_110_25 : decode prog_7_method_45_code 25 = .ok (.goto 28, 3) := by decide +kernel
theorem dd_110_28 : decode prog_7_method_45_code 28 = .ok (.aload_n 0, 1) := by decide +kernel
theorem dd_110_29 : decode prog_7_method_45_code 29 = .ok (.getfield 7, 3) := by decide +kernel
theorem dd_110_32 : decode prog_7_method_45_code 32 = .ok (.aload_n 0, 1) := by decide +kernel
theorem dd_110_33 : decode prog_7_method_45_code 33 = .ok (.getfield 42, 3) := by decide +kernel
theorem dd_110_36 : decode prog_7_method_45_code 36 = .ok (.iload_n 2, 1) := by decide +kernel
theorem dd_110_37 : decode prog_7_method_45_code 37 = .ok (.imul, 1) := by decide +kernel
theorem dd_110_38 : decode prog_7_method_45_code 38 = .ok (.iload_n 1, 1) := by decide +kernel
theorem dd_110_39 : decode prog_7_method_45_code 39 = .ok (.iadd, 1) := by decide +kernel
theorem dd_110_40 : decode prog_7_method_45_code 40 = .ok (.iaload, 1) := by decide +kernel
theorem dd_110_41 : decode prog_7_method_45_code 41 = .ok (.iload_n 3, 1) := by decide +kernel
theorem dd_110_42 : decode prog_7_method_45_code 42 = .ok (.invokestatic 51, 3) := by decide +kernel
theorem dd_110_45 : decode prog_7_method_45_code 45 = .ok (.ifCond .ne 7, 3) := by decide +kernel
theorem dd_110_48 : decode prog_7_method_45_code 48 = .ok (.iconst 3, 1) := by decide +kernel
theorem dd_110_49 : decode prog_7_method_45_code 49 = .ok (.goto 4, 3) := by decide +kernel
theorem dd_110_52 : decode prog_7_method_45_code 52 = .ok (.iconst 0, 1) := by decide +kernel
theorem dd_110_53 : decode prog_7_method_45_code 53 = .ok (.putfield 48, 3) := by decide +kernel
theorem dd_110_56 : decode prog_7_method_45_code 56 = .ok (.iconst 0, 1) := by decide +kernel
theorem dd_110_57 : decode prog_7_method_45_code 57 = .ok (.istore 4, 2) := by decide +kernel
theorem dd_110_59 : decode prog_7_method_45_code 59 = .ok (.iload 4, 2) := by decide +kernel
theorem dd_110_61 : decode prog_7_method_45_code 61 = .ok (.aload_n 0, 1) := by decide +kernel
theorem dd_110_62 : decode prog_7_method_45_code 62 = .ok (.getfield 65, 3) := by decide +kernel
theorem dd_110_65 : decode prog_7_method_45_code 65 = .ok (.if_icmp .ge 54, 3) := by decide +kernel
theorem dd_110_68 : decode prog_7_method_45_code 68 = .ok (.aload_n 0, 1) := by decide +kernel
theorem dd_110_69 : decode prog_7_method_45_code 69 = .ok (.getfield 48, 3) := by decide +kernel
theorem dd_110_72 : decode prog_7_method_45_code 72 = .ok (.ifCond .ne 47, 3) := by decide +kernel
theorem dd_110_75 : decode prog_7_method_45_code 75 = .ok (.aload_n 0, 1) := by decide +kernel
theorem dd_110_76 : decode prog_7_method_45_code 76 = .ok (.aload_n 0, 1) := by decide +kernel
theorem dd_110_77 : decode prog_7_method_45_code 77 = .ok (.getfield 36, 3) := by decide +kernel
theorem dd_110_80 : decode prog_7_method_45_code 80 = .ok (.iload 4, 2) := by decide +kernel
theorem dd_110_82 : decode prog_7_method_45_code 82 = .ok (.iaload, 1) := by decide +kernel
theorem dd_110_83 : decode prog_7_method_45_code 83 = .ok (.aload_n 0, 1) := by decide +kernel
theorem dd_110_84 : decode prog_7_method_45_code 84 = .ok (.getfield 42, 3) := by decide +kernel
theorem dd_110_87 : decode prog_7_method_45_code 87 = .ok (.iload_n 2, 1) := by decide +kernel
theorem dd_110_88 : decode prog_7_method_45_code 88 = .ok (.imul, 1) := by decide +kernel
theorem dd_110_89 : decode prog_7_method_45_code 89 = .ok (.iload_n 1, 1) := by decide +kernel
theorem dd_110_90 : decode prog_7_method_45_code 90 = .ok (.iadd, 1) := by decide +kernel
theorem dd_110_91 : decode prog_7_method_45_code 91 = .ok (.if_icmp .ne 18, 3) := by decide +kernel
theorem dd_110_94 : decode prog_7_method_45_code 94 = .ok (.aload_n 0, 1) := by decide +kernel
theorem dd_110_95 : decode prog_7_method_45_code 95 = .ok (.getfield 39, 3) := by decide +kernel
theorem dd_110_98 : decode prog_7_method_45_code 98 = .ok (.iload 4, 2) := by decide +kernel
theorem dd_110_100 : decode prog_7_method_45_code 100 = .ok (.iaload, 1) := by decide +kernel
theorem dd_110_101 : decode prog_7_method_45_code 101 = .ok (.iload_n 3, 1) := by decide +kernel
theorem dd_110_102 : decode prog_7_method_45_code 102 = .ok (.if_icmp .ne 7, 3) := by decide +kernel
theorem dd_110_105 : decode prog_7_method_45_code 105 = .ok (.iconst 4, 1) := by decide +kernel
theorem dd_110_106 : decode prog_7_method_45_code 106 = .ok (.goto 4, 3) := by decide +kernel
theorem dd_110_109 : decode prog_7_method_45_code 109 = .ok (.iconst 0, 1) := by decide +kernel
theorem dd_110_110 : decode prog_7_method_45_code 110 = .ok (.putfield 48, 3) := by decide +kernel
theorem dd_110_113 : decode prog_7_method_45_code 113 = .ok (.iinc 4 1, 3) := by decide +kernel
theorem dd_110_116 : decode prog_7_method_45_code 116 = .ok (.goto (-57), 3) := by decide +kernel
theorem dd_110_119 : decode prog_7_method_45_code 119 = .ok (.aload_n 0, 1) := by decide +kernel
theorem dd_110_120 : decode prog_7_method_45_code 120 = .ok (.aload_n 0, 1) := by decide +kernel
theorem dd_110_121 : decode prog_7_method_45_code 121 = .ok (.getfield 48, 3) := by decide +kernel
theorem dd_110_124 : decode prog_7_method_45_code 124 = .ok (.ifCond .ne 15, 3) := by decide +kernel
theorem dd_110_127 : decode prog_7_method_45_code 127 = .ok (.aload_n 0, 1) := by decide +kernel
theorem dd_110_128 : decode prog_7_method_45_code 128 = .ok (.getfield 65, 3) := by decide +kernel
theorem dd_110_131 : decode prog_7_method_45_code 131 = .ok (.iconst 4, 1) := by decide +kernel
theorem dd_110_132 : decode prog_7_method_45_code 132 = .ok (.if_icmp .ne 7, 3) := by decide +kernel
theorem dd_110_135 : decode prog_7_method_45_code 135 = .ok (.iconst 5, 1) := by decide +kernel
theorem dd_110_136 : decode prog_7_method_45_code 136 = .ok (.goto 7, 3) := by decide +kernel
theorem dd_110_139 : decode prog_7_method_45_code 139 = .ok (.aload_n 0, 1) := by decide +kernel
theorem dd_110_140 : decode prog_7_method_45_code 140 = .ok (.getfield 48, 3) := by decide +kernel
theorem dd_110_143 : decode prog_7_method_45_code 143 = .ok (.putfield 48, 3) := by decide +kernel
theorem dd_110_146 : decode prog_7_method_45_code 146 = .ok (.aload_n 0, 1) := by decide +kernel
theorem dd_110_147 : decode prog_7_method_45_code 147 = .ok (.getfield 48, 3) := by decide +kernel
theorem dd_110_150 : decode prog_7_method_45_code 150 = .ok (.ifCond .le 5, 3) := by decide +kernel
theorem dd_110_153 : decode prog_7_method_45_code 153 = .ok (.iconst 0, 1) := by decide +kernel
theorem dd_110_154 : decode prog_7_method_45_code 154 = .ok (.ireturn, 1) := by decide +kernel
theorem dd_110_155 : decode prog_7_method_45_code 155 = .ok (.aload_n 0, 1) := by decide +kernel
theorem dd_110_156 : decode prog_7_method_45_code 156 = .ok (.getfield 36, 3) := by decide +kernel
theorem dd_110_159 : decode prog_7_method_45_code 159 = .ok (.aload_n 0, 1) := by decide +kernel
theorem dd_110_160 : decode prog_7_method_45_code 160 = .ok (.getfield 65, 3) := by decide +kernel
theorem dd_110_163 : decode prog_7_method_45_code 163 = .ok (.aload_n 0, 1) := by decide +kernel
theorem dd_110_164 : decode prog_7_method_45_code 164 = .ok (.getfield 42, 3) := by decide +kernel
theorem dd_110_167 : decode prog_7_method_45_code 167 = .ok (.iload_n 2, 1) := by decide +kernel
theorem dd_110_168 : decode prog_7_method_45_code 168 = .ok (.imul, 1) := by decide +kernel
theorem dd_110_169 : decode prog_7_method_45_code 169 = .ok (.iload_n 1, 1) := by decide +kernel
theorem dd_110_170 : decode prog_7_method_45_code 170 = .ok (.iadd, 1) := by decide +kernel
theorem dd_110_171 : decode prog_7_method_45_code 171 = .ok (.iastore, 1) := by decide +kernel
theorem dd_110_172 : decode prog_7_method_45_code 172 = .ok (.aload_n 0, 1) := by decide +kernel
theorem dd_110_173 : decode prog_7_method_45_code 173 = .ok (.getfield 39, 3) := by decide +kernel
theorem dd_110_176 : decode prog_7_method_45_code 176 = .ok (.aload_n 0, 1) := by decide +kernel
theorem dd_110_177 : decode prog_7_method_45_code 177 = .ok (.getfield 65, 3) := by decide +kernel
theorem dd_110_180 : decode prog_7_method_45_code 180 = .ok (.iload_n 3, 1) := by decide +kernel
theorem dd_110_181 : decode prog_7_method_45_code 181 = .ok (.iastore, 1) := by decide +kernel
theorem dd_110_182 : decode prog_7_method_45_code 182 = .ok (.aload_n 0, 1) := by decide +kernel
theorem dd_110_183 : decode prog_7_method_45_code 183 = .ok (.dup, 1) := by decide +kernel
theorem dd_110_184 : decode prog_7_method_45_code 184 = .ok (.getfield 65, 3) := by decide +kernel
theorem dd_110_187 : decode prog_7_method_45_code 187 = .ok (.iconst 1, 1) := by decide +kernel
theorem dd_110_188 : decode prog_7_method_45_code 188 = .ok (.iadd, 1) := by decide +kernel
theorem dd_110_189 : decode prog_7_method_45_code 189 = .ok (.putfield 65, 3) := by decide +kernel
theorem dd_110_192 : decode prog_7_method_45_code 192 = .ok (.aload_n 0, 1) := by decide +kernel
theorem dd_110_193 : decode prog_7_method_45_code 193 = .ok (.getfield 65, 3) := by decide +kernel
theorem dd_110_196 : decode prog_7_method_45_code 196 = .ok (.iconst 1, 1) := by decide +kernel
theorem dd_110_197 : decode prog_7_method_45_code 197 = .ok (.isub, 1) := by decide +kernel
theorem dd_110_198 : decode prog_7_method_45_code 198 = .ok (.ireturn, 1) := by decide +kernel
theorem dd_111_0 : decode prog_7_method_46_code 0 = .ok (.aload_n 0, 1) := by decide +kernel
theorem dd_111_1 : decode prog_7_method_46_code 1 = .ok (.iload_n 1, 1) := by decide +kernel
theorem dd_111_2 : decode prog_7_method_46_code 2 = .ok (.ifCond .lt 11, 3) := by decide +kernel
theorem dd_111_5 : decode prog_7_method_46_code 5 = .ok (.iload_n 1, 1) := by decide +kernel
theorem dd_111_6 : decode prog_7_method_46_code 6 = .ok (.aload_n 0, 1) := by decide +kernel
theorem dd_111_7 : decode prog_7_method_46_code 7 = .ok (.getfield 65, 3) := by decide +kernel
theorem dd_111_10 : decode prog_7_method_46_code 10 = .ok (.if_icmp .lt 7, 3) := by decide +kernel
theorem dd_111_13 : decode prog_7_method_46_code 13 = .ok (.iconst 1, 1) := by decide +kernel
theorem dd_111_14 : decode prog_7_method_46_code 14 = .ok (.goto 4, 3) := by decide +kernel
theorem dd_111_17 : decode prog_7_method_46_code 17 = .ok (.iconst 0, 1) := by decide +kernel
theorem dd_111_18 : decode prog_7_method_46_code 18 = .ok (.putfield 48, 3) := by decide +kernel
theorem dd_111_21 : decode prog_7_method_46_code 21 = .ok (.aload_n 0, 1) := by decide +kernel
theorem dd_111_22 : decode prog_7_method_46_code 22 = .ok (.getfield 48, 3) := by decide +kernel
theorem dd_111_25 : decode prog_7_method_46_code 25 = .ok (.ifCond .le 5, 3) := by decide +kernel
theorem dd_111_28 : decode prog_7_method_46_code 28 = .ok (.iconst 0, 1) := by decide +kernel
theorem dd_111_29 : decode prog_7_method_46_code 29 = .ok (.ireturn, 1) := by decide +kernel
theorem dd_111_30 : decode prog_7_method_46_code 30 = .ok (.aload_n 0, 1) := by decide +kernel
theorem dd_111_31 : decode prog_7_method_46_code 31 = .ok (.getfield 36, 3) := by decide +kernel
theorem dd_111_34 : decode prog_7_method_46_code 34 = .ok (.iload_n 1, 1) := by decide +kernel
theorem dd_111_35 : decode prog_7_method_46_code 35 = .ok (.iaload, 1) := by decide +kernel
theorem dd_111_36 : decode prog_7_method_46_code 36 = .ok (.istore_n 2, 1) := by decide +kernel
theorem dd_111_37 : decode prog_7_method_46_code 37 = .ok (.iload_n 2, 1) := by decide +kernel
theorem dd_111_38 : decode prog_7_method_46_code 38 = .ok (.ifCond .ge 7, 3) := by decide +kernel
theorem dd_111_41 : decode prog_7_method_46_code 41 = .ok (.iconst (-1), 1) := by decide +kernel
theorem dd_111_42 : decode prog_7_method_46_code 42 = .ok (.goto 30, 3) := by decide +kernel
theorem dd_111_45 : decode prog_7_method_46_code 45 = .ok (.sipush 128, 3) := by decide +kernel
theorem dd_111_48 : decode prog_7_method_46_code 48 = .ok (.iload_n 2, 1) := by decide +kernel
theorem dd_111_49 : decode prog_7_method_46_code 49 = .ok (.aload_n 0, 1) := by decide +kernel
theorem dd_111_50 : decode prog_7_method_46_code 50 = .ok (.getfield 42, 3) := by decide +kernel
theorem dd_111_53 : decode prog_7_method_46_code 53 = .ok (.idiv, 1) := by decide +kernel
theorem dd_111_54 : decode prog_7_method_46_code 54 = .ok (.imul, 1) := by decide +kernel
theorem dd_111_55 : decode prog_7_method_46_code 55 = .ok (.bipush 8, 2) := by decide +kernel
theorem dd_111_57 : decode prog_7_method_46_code 57 = .ok (.iload_n 2, 1) := by decide +kernel
theorem dd_111_58 : decode prog_7_method_46_code 58 = .ok (.aload_n 0, 1) := by decide +kernel
theorem dd_111_59 : decode prog_7_method_46_code 59 = .ok (.getfield 42, 3) := by decide +kernel
theorem dd_111_62 : decode prog_7_method_46_code 62 = .ok (.irem, 1) := by decide +kernel
theorem dd_111_63 : decode prog_7_method_46_code 63 = .ok (.imul, 1) := by decide +kernel
theorem dd_111_64 : decode prog_7_method_46_code 64 = .ok (.iadd, 1) := by decide +kernel
theorem dd_111_65 : decode prog_7_method_46_code 65 = .ok (.aload_n 0, 1) := by decide +kernel
theorem dd_111_66 : decode prog_7_method_46_code 66 = .ok (.getfield 39, 3) := by decide +kernel
theorem dd_111_69 : decode prog_7_method_46_code 69 = .ok (.iload_n 1, 1) := by decide +kernel
theorem dd_111_70 : decode prog_7_method_46_code 70 = .ok (.iaload, 1) := by decide +kernel
theorem dd_111_71 : decode prog_7_method_46_code 71 = .ok (.iadd, 1) := by decide +kernel
theorem dd_111_72 : decode prog_7_method_46_code 72 = .ok (.ireturn, 1) := by decide +kernel
theorem dd_112_0 : decode method_2_code 0 = .ok (.iload_n 1, 1) := by decide +kernel
theorem dd_112_1 : decode method_2_code 1 = .ok (.aload_n 0, 1) := by decide +kernel
theorem dd_112_2 : decode method_2_code 2 = .ok (.arraylength, 1) := by decide +kernel
theorem dd_112_3 : decode method_2_code 3 = .ok (.if_icmp .ge 9, 3) := by decide +kernel
theorem dd_112_6 : decode method_2_code 6 = .ok (.aload_n 0, 1) := by decide +kernel
theorem dd_112_7 : decode method_2_code 7 = .ok (.iload_n 1, 1) := by decide +kernel
theorem dd_112_8 : decode method_2_code 8 = .ok (.iaload, 1) := by decide +kernel
theorem dd_112_9 : decode method_2_code 9 = .ok (.goto 4, 3) := by decide +kernel
theorem dd_112_12 : decode method_2_code 12 = .ok (.iconst 0, 1) := by decide +kernel
theorem dd_112_13 : decode method_2_code 13 = .ok (.ireturn, 1) := by decide +kernel
theorem dd_113_0 : decode method_3_code 0 = .ok (.aload_n 0, 1) := by decide +kernel
theorem dd_113_1 : decode method_3_code 1 = .ok (.iload_n 1, 1) := by decide +kernel
theorem dd_113_2 : decode method_3_code 2 = .ok (.iload_n 2, 1) := by decide +kernel
theorem dd_113_3 : decode method_3_code 3 = .ok (.iload_n 3, 1) := by decide +kernel
theorem dd_113_4 : decode method_3_code 4 = .ok (.invokevirtual 7, 3) := by decide +kernel
theorem dd_113_7 : decode method_3_code 7 = .ok (.goto 11, 3) := by decide +kernel
theorem dd_113_10 : decode method_3_code 10 = .ok (.astore 4, 2) := by decide +kernel
theorem dd_113_12 : decode method_3_code 12 = .ok (.iconst 1, 1) := by decide +kernel
theorem dd_113_13 : decode method_3_code 13 = .ok (.ireturn, 1) := by decide +kernel
theorem dd_113_14 : decode method_3_code 14 = .ok (.astore 4, 2) := by decide +kernel
theorem dd_113_16 : decode method_3_code 16 = .ok (.iconst 2, 1) := by decide +kernel
theorem dd_113_17 : decode method_3_code 17 = .ok (.ireturn, 1) := by decide +kernel
theorem dd_113_18 : decode method_3_code 18 = .ok (.iconst 0, 1) := by decide +kernel
theorem dd_113_19 : decode method_3_code 19 = .ok (.ireturn, 1) := by decide +kernel
theorem dd_114_0 : decode method_4_code 0 = .ok (.aload_n 3, 1) := by decide +kernel
theorem dd_114_1 : decode method_4_code 1 = .ok (.iconst 0, 1) := by decide +kernel
theorem dd_114_2 : decode method_4_code 2 = .ok (.aload_n 0, 1) := by decide +kernel
theorem dd_114_3 : decode method_4_code 3 = .ok (.iload_n 1, 1) := by decide +kernel
theorem dd_114_4 : decode method_4_code 4 = .ok (.iload_n 2, 1) := by decide +kernel
theorem dd_114_5 : decode method_4_code 5 = .ok (.invokevirtual 17, 3) := by decide +kernel
theorem dd_114_8 : decode method_4_code 8 = .ok (.i2l, 1) := by decide +kernel
