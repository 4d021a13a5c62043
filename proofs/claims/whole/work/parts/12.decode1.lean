theorem dd_0_0 : decode prog_13_method_49_code 0 = .ok (.iload_n 0, 1) := by decide +kernel
theorem dd_0_1 : decode prog_13_method_49_code 1 = .ok (.iload_n 0, 1) := by decide +kernel
theorem dd_0_2 : decode prog_13_method_49_code 2 = .ok (.iconst 1, 1) := by decide +kernel
theorem dd_0_3 : decode prog_13_method_49_code 3 = .ok (.iushr, 1) := by decide +kernel
theorem dd_0_4 : decode prog_13_method_49_code 4 = .ok (.ldc_w 265, 3) := by decide +kernel
theorem dd_0_7 : decode prog_13_method_49_code 7 = .ok (.iand, 1) := by decide +kernel
theorem dd_0_8 : decode prog_13_method_49_code 8 = .ok (.isub, 1) := by decide +kernel
theorem dd_0_9 : decode prog_13_method_49_code 9 = .ok (.istore_n 0, 1) := by decide +kernel
theorem dd_0_10 : decode prog_13_method_49_code 10 = .ok (.iload_n 0, 1) := by decide +kernel
theorem dd_0_11 : decode prog_13_method_49_code 11 = .ok (.ldc_w 266, 3) := by decide +kernel
theorem dd_0_14 : decode prog_13_method_49_code 14 = .ok (.iand, 1) := by decide +kernel
theorem dd_0_15 : decode prog_13_method_49_code 15 = .ok (.iload_n 0, 1) := by decide +kernel
theorem dd_0_16 : decode prog_13_method_49_code 16 = .ok (.iconst 2, 1) := by decide +kernel
theorem dd_0_17 : decode prog_13_method_49_code 17 = .ok (.iushr, 1) := by decide +kernel
theorem dd_0_18 : decode prog_13_method_49_code 18 = .ok (.ldc_w 266, 3) := by decide +kernel
theorem dd_0_21 : decode prog_13_method_49_code 21 = .ok (.iand, 1) := by decide +kernel
theorem dd_0_22 : decode prog_13_method_49_code 22 = .ok (.iadd, 1) := by decide +kernel
theorem dd_0_23 : decode prog_13_method_49_code 23 = .ok (.istore_n 0, 1) := by decide +kernel
theorem dd_0_24 : decode prog_13_method_49_code 24 = .ok (.iload_n 0, 1) := by decide +kernel
theorem dd_0_25 : decode prog_13_method_49_code 25 = .ok (.iload_n 0, 1) := by decide +kernel
theorem dd_0_26 : decode prog_13_method_49_code 26 = .ok (.iconst 4, 1) := by decide +kernel
theorem dd_0_27 : decode prog_13_method_49_code 27 = .ok (.iushr, 1) := by decide +kernel
theorem dd_0_28 : decode prog_13_method_49_code 28 = .ok (.iadd, 1) := by decide +kernel
theorem dd_0_29 : decode prog_13_method_49_code 29 = .ok (.ldc_w 267, 3) := by decide +kernel
theorem dd_0_32 : decode prog_13_method_49_code 32 = .ok (.iand, 1) := by decide +kernel
theorem dd_0_33 : decode prog_13_method_49_code 33 = .ok (.istore_n 0, 1) := by decide +kernel
theorem dd_0_34 : decode prog_13_method_49_code 34 = .ok (.iload_n 0, 1) := by decide +kernel
theorem dd_0_35 : decode prog_13_method_49_code 35 = .ok (.iload_n 0, 1) := by decide +kernel
theorem dd_0_36 : decode prog_13_method_49_code 36 = .ok (.bipush 8, 2) := by decide +kernel
theorem dd_0_38 : decode prog_13_method_49_code 38 = .ok (.iushr, 1) := by decide +kernel
theorem dd_0_39 : decode prog_13_method_49_code 39 = .ok (.iadd, 1) := by decide +kernel
theorem dd_0_40 : decode prog_13_method_49_code 40 = .ok (.istore_n 0, 1) := by decide +kernel
theorem dd_0_41 : decode prog_13_method_49_code 41 = .ok (.iload_n 0, 1) := by decide +kernel
theorem dd_0_42 : decode prog_13_method_49_code 42 = .ok (.iload_n 0, 1) := by decide +kernel
theorem dd_0_43 : decode prog_13_method_49_code 43 = .ok (.bipush 16, 2) := by decide +kernel
theorem dd_0_45 : decode prog_13_method_49_code 45 = .ok (.iushr, 1) := by decide +kernel
theorem dd_0_46 : decode prog_13_method_49_code 46 = .ok (.iadd, 1) := by decide +kernel
theorem dd_0_47 : decode prog_13_method_49_code 47 = .ok (.istore_n 0, 1) := by decide +kernel
theorem dd_0_48 : decode prog_13_method_49_code 48 = .ok (.iload_n 0, 1) := by decide +kernel
theorem dd_0_49 : decode prog_13_method_49_code 49 = .ok (.bipush 63, 2) := by decide +kernel
theorem dd_0_51 : decode prog_13_method_49_code 51 = .ok (.iand, 1) := by decide +kernel
theorem dd_0_52 : decode prog_13_method_49_code 52 = .ok (.ireturn, 1) := by decide +kernel
theorem dd_1_0 : decode prog_14_method_50_code 0 = .ok (.iload_n 0, 1) := by decide +kernel
theorem dd_1_1 : decode prog_14_method_50_code 1 = .ok (.iload_n 1, 1) := by decide +kernel
theorem dd_1_2 : decode prog_14_method_50_code 2 = .ok (.irem, 1) := by decide +kernel
theorem dd_1_3 : decode prog_14_method_50_code 3 = .ok (.istore_n 2, 1) := by decide +kernel
theorem dd_1_4 : decode prog_14_method_50_code 4 = .ok (.iload_n 0, 1) := by decide +kernel
theorem dd_1_5 : decode prog_14_method_50_code 5 = .ok (.iload_n 1, 1) := by decide +kernel
theorem dd_1_6 : decode prog_14_method_50_code 6 = .ok (.ixor, 1) := by decide +kernel
theorem dd_1_7 : decode prog_14_method_50_code 7 = .ok (.ifCond .ge 11, 3) := by decide +kernel
theorem dd_1_10 : decode prog_14_method_50_code 10 = .ok (.iload_n 2, 1) := by decide +kernel
theorem dd_1_11 : decode prog_14_method_50_code 11 = .ok (.ifCond .eq 7, 3) := by decide +kernel
theorem dd_1_14 : decode prog_14_method_50_code 14 = .ok (.iload_n 2, 1) := by decide +kernel
theorem dd_1_15 : decode prog_14_method_50_code 15 = .ok (.iload_n 1, 1) := by decide +kernel
theorem dd_1_16 : decode prog_14_method_50_code 16 = .ok (.iadd, 1) := by decide +kernel
theorem dd_1_17 : decode prog_14_method_50_code 17 = .ok (.ireturn, 1) := by decide +kernel
theorem dd_1_18 : decode prog_14_method_50_code 18 = .ok (.iload_n 2, 1) := by decide +kernel
theorem dd_1_19 : decode prog_14_method_50_code 19 = .ok (.ireturn, 1) := by decide +kernel
theorem dd_2_0 : decode prog_19_method_103_code 0 = .ok (.iconst 0, 1) := by decide +kernel
theorem dd_2_1 : decode prog_19_method_103_code 1 = .ok (.istore_n 2, 1) := by decide +kernel
theorem dd_2_2 : decode prog_19_method_103_code 2 = .ok (.aload_n 0, 1) := by decide +kernel
theorem dd_2_3 : decode prog_19_method_103_code 3 = .ok (.arraylength, 1) := by decide +kernel
theorem dd_2_4 : decode prog_19_method_103_code 4 = .ok (.istore_n 3, 1) := by decide +kernel
theorem dd_2_5 : decode prog_19_method_103_code 5 = .ok (.iload_n 2, 1) := by decide +kernel
theorem dd_2_6 : decode prog_19_method_103_code 6 = .ok (.iload_n 3, 1) := by decide +kernel
theorem dd_2_7 : decode prog_19_method_103_code 7 = .ok (.if_icmp .ge 13, 3) := by decide +kernel
theorem dd_2_10 : decode prog_19_method_103_code 10 = .ok (.aload_n 0, 1) := by decide +kernel
theorem dd_2_11 : decode prog_19_method_103_code 11 = .ok (.iload_n 2, 1) := by decide +kernel
theorem dd_2_12 : decode prog_19_method_103_code 12 = .ok (.iload_n 1, 1) := by decide +kernel
theorem dd_2_13 : decode prog_19_method_103_code 13 = .ok (.iastore, 1) := by decide +kernel
theorem dd_2_14 : decode prog_19_method_103_code 14 = .ok (.iinc 2 1, 3) := by decide +kernel
theorem dd_2_17 : decode prog_19_method_103_code 17 = .ok (.goto (-12), 3) := by decide +kernel
theorem dd_2_20 : decode prog_19_method_103_code 20 = .ok (.return_, 1) := by decide +kernel
theorem dd_3_0 : decode prog_2_method_1_code 0 = .ok (.aload_n 0, 1) := by decide +kernel
theorem dd_3_1 : decode prog_2_method_1_code 1 = .ok (.invokespecial 3, 3) := by decide +kernel
theorem dd_3_4 : decode prog_2_method_1_code 4 = .ok (.aload_n 0, 1) := by decide +kernel
theorem dd_3_5 : decode prog_2_method_1_code 5 = .ok (.bipush 100, 2) := by decide +kernel
theorem dd_3_7 : decode prog_2_method_1_code 7 = .ok (.putfield 9, 3) := by decide +kernel
theorem dd_3_10 : decode prog_2_method_1_code 10 = .ok (.aload_n 0, 1) := by decide +kernel
theorem dd_3_11 : decode prog_2_method_1_code 11 = .ok (.iconst 0, 1) := by decide +kernel
theorem dd_3_12 : decode prog_2_method_1_code 12 = .ok (.putfield 15, 3) := by decide +kernel
theorem dd_3_15 : decode prog_2_method_1_code 15 = .ok (.aload_n 0, 1) := by decide +kernel
theorem dd_3_16 : decode prog_2_method_1_code 16 = .ok (.iconst 0, 1) := by decide +kernel
theorem dd_3_17 : decode prog_2_method_1_code 17 = .ok (.putfield 18, 3) := by decide +kernel
theorem dd_3_20 : decode prog_2_method_1_code 20 = .ok (.aload_n 0, 1) := by decide +kernel
theorem dd_3_21 : decode prog_2_method_1_code 21 = .ok (.iconst 0, 1) := by decide +kernel
theorem dd_3_22 : decode prog_2_method_1_code 22 = .ok (.putfield 21, 3) := by decide +kernel
theorem dd_3_25 : decode prog_2_method_1_code 25 = .ok (.return_, 1) := by decide +kernel
theorem dd_4_0 : decode prog_2_method_2_code 0 = .ok (.aload_n 0, 1) := by decide +kernel
theorem dd_4_1 : decode prog_2_method_2_code 1 = .ok (.dup, 1) := by decide +kernel
theorem dd_4_2 : decode prog_2_method_2_code 2 = .ok (.getfield 15, 3) := by decide +kernel
theorem dd_4_5 : decode prog_2_method_2_code 5 = .ok (.iload_n 2, 1) := by decide +kernel
theorem dd_4_6 : decode prog_2_method_2_code 6 = .ok (.iconst 1, 1) := by decide +kernel
theorem dd_4_7 : decode prog_2_method_2_code 7 = .ok (.invokestatic 24, 3) := by decide +kernel
theorem dd_4_10 : decode prog_2_method_2_code 10 = .ok (.iload_n 1, 1) := by decide +kernel
theorem dd_4_11 : decode prog_2_method_2_code 11 = .ok (.iconst 1, 1) := by decide +kernel
theorem dd_4_12 : decode prog_2_method_2_code 12 = .ok (.invokestatic 24, 3) := by decide +kernel
theorem dd_4_15 : decode prog_2_method_2_code 15 = .ok (.isub, 1) := by decide +kernel
theorem dd_4_16 : decode prog_2_method_2_code 16 = .ok (.isub, 1) := by decide +kernel
theorem dd_4_17 : decode prog_2_method_2_code 17 = .ok (.putfield 15, 3) := by decide +kernel
theorem dd_4_20 : decode prog_2_method_2_code 20 = .ok (.aload_n 0, 1) := by decide +kernel
theorem dd_4_21 : decode prog_2_method_2_code 21 = .ok (.dup, 1) := by decide +kernel
theorem dd_4_22 : decode prog_2_method_2_code 22 = .ok (.getfield 18, 3) := by decide +kernel
theorem dd_4_25 : decode prog_2_method_2_code 25 = .ok (.iload_n 2, 1) := by decide +kernel
theorem dd_4_26 : decode prog_2_method_2_code 26 = .ok (.iconst 2, 1) := by decide +kernel
theorem dd_4_27 : decode prog_2_method_2_code 27 = .ok (.invokestatic 24, 3) := by decide +kernel
theorem dd_4_30 : decode prog_2_method_2_code 30 = .ok (.iload_n 1, 1) := by decide +kernel
theorem dd_4_31 : decode prog_2_method_2_code 31 = .ok (.iconst 2, 1) := by decide +kernel
theorem dd_4_32 : decode prog_2_method_2_code 32 = .ok (.invokestatic 24, 3) := by decide +kernel
theorem dd_4_35 : decode prog_2_method_2_code 35 = .ok (.isub, 1) := by decide +kernel
theorem dd_4_36 : decode prog_2_method_2_code 36 = .ok (.isub, 1) := by decide +kernel
theorem dd_4_37 : decode prog_2_method_2_code 37 = .ok (.putfield 18, 3) := by decide +kernel
theorem dd_4_40 : decode prog_2_method_2_code 40 = .ok (.return_, 1) := by decide +kernel
theorem dd_5_0 : decode prog_2_method_3_code 0 = .ok (.iconst 0, 1) := by decide +kernel
theorem dd_5_1 : decode prog_2_method_3_code 1 = .ok (.istore_n 1, 1) := by decide +kernel
theorem dd_5_2 : decode prog_2_method_3_code 2 = .ok (.iload_n 1, 1) := by decide +kernel
theorem dd_5_3 : decode prog_2_method_3_code 3 = .ok (.bipush 6, 2) := by decide +kernel
theorem dd_5_5 : decode prog_2_method_3_code 5 = .ok (.if_icmp .ge 41, 3) := by decide +kernel
theorem dd_5_8 : decode prog_2_method_3_code 8 = .ok (.getstatic 28, 3) := by decide +kernel
theorem dd_5_11 : decode prog_2_method_3_code 11 = .ok (.iload_n 1, 1) := by decide +kernel
theorem dd_5_12 : decode prog_2_method_3_code 12 = .ok (.iaload, 1) := by decide +kernel
theorem dd_5_13 : decode prog_2_method_3_code 13 = .ok (.aload_n 0, 1) := by decide +kernel
theorem dd_5_14 : decode prog_2_method_3_code 14 = .ok (.getfield 15, 3) := by decide +kernel
theorem dd_5_17 : decode prog_2_method_3_code 17 = .ok (.imul, 1) := by decide +kernel
theorem dd_5_18 : decode prog_2_method_3_code 18 = .ok (.getstatic 32, 3) := by decide +kernel
theorem dd_5_21 : decode prog_2_method_3_code 21 = .ok (.iload_n 1, 1) := by decide +kernel
theorem dd_5_22 : decode prog_2_method_3_code 22 = .ok (.iaload, 1) := by decide +kernel
theorem dd_5_23 : decode prog_2_method_3_code 23 = .ok (.aload_n 0, 1) := by decide +kernel
theorem dd_5_24 : decode prog_2_method_3_code 24 = .ok (.getfield 18, 3) := by decide +kernel
theorem dd_5_27 : decode prog_2_method_3_code 27 = .ok (.imul, 1) := by decide +kernel
theorem dd_5_28 : decode prog_2_method_3_code 28 = .ok (.iadd, 1) := by decide +kernel
theorem dd_5_29 : decode prog_2_method_3_code 29 = .ok (.iconst 2, 1) := by decide +kernel
theorem dd_5_30 : decode prog_2_method_3_code 30 = .ok (.aload_n 0, 1) := by decide +kernel
theorem dd_5_31 : decode prog_2_method_3_code 31 = .ok (.getfield 9, 3) := by decide +kernel
theorem dd_5_34 : decode prog_2_method_3_code 34 = .ok (.imul, 1) := by decide +kernel
theorem dd_5_35 : decode prog_2_method_3_code 35 = .ok (.if_icmp .lt 5, 3) := by decide +kernel
theorem dd_5_38 : decode prog_2_method_3_code 38 = .ok (.iload_n 1, 1) := by decide +kernel
theorem dd_5_39 : decode prog_2_method_3_code 39 = .ok (.ireturn, 1) := by decide +kernel
theorem dd_5_40 : decode prog_2_method_3_code 40 = .ok (.iinc 1 1, 3) := by decide +kernel
theorem dd_5_43 : decode prog_2_method_3_code 43 = .ok (.goto (-41), 3) := by decide +kernel
theorem dd_5_46 : decode prog_2_method_3_code 46 = .ok (.iconst (-1), 1) := by decide +kernel
theorem dd_5_47 : decode prog_2_method_3_code 47 = .ok (.ireturn, 1) := by decide +kernel
theorem dd_6_0 : decode prog_2_method_4_code 0 = .ok (.aload_n 0, 1) := by decide +kernel
theorem dd_6_1 : decode prog_2_method_4_code 1 = .ok (.dup, 1) := by decide +kernel
theorem dd_6_2 : decode prog_2_method_4_code 2 = .ok (.getfield 15, 3) := by decide +kernel
theorem dd_6_5 : decode prog_2_method_4_code 5 = .ok (.aload_n 0, 1) := by decide +kernel
theorem dd_6_6 : decode prog_2_method_4_code 6 = .ok (.getfield 9, 3) := by decide +kernel
theorem dd_6_9 : decode prog_2_method_4_code 9 = .ok (.getstatic 35, 3) := by decide +kernel
theorem dd_6_12 : decode prog_2_method_4_code 12 = .ok (.iload_n 1, 1) := by decide +kernel
theorem dd_6_13 : decode prog_2_method_4_code 13 = .ok (.iaload, 1) := by decide +kernel
theorem dd_6_14 : decode prog_2_method_4_code 14 = .ok (.imul, 1) := by decide +kernel
theorem dd_6_15 : decode prog_2_method_4_code 15 = .ok (.isub, 1) := by decide +kernel
theorem dd_6_16 : decode prog_2_method_4_code 16 = .ok (.putfield 15, 3) := by decide +kernel
theorem dd_6_19 : decode prog_2_method_4_code 19 = .ok (.aload_n 0, 1) := by decide +kernel
theorem dd_6_20 : decode prog_2_method_4_code 20 = .ok (.dup, 1) := by decide +kernel
theorem dd_6_21 : decode prog_2_method_4_code 21 = .ok (.getfield 18, 3) := by decide +kernel
theorem dd_6_24 : decode prog_2_method_4_code 24 = .ok (.aload_n 0, 1) := by decide +kernel
theorem dd_6_25 : decode prog_2_method_4_code 25 = .ok (.getfield 9, 3) := by decide +kernel
theorem dd_6_28 : decode prog_2_method_4_code 28 = .ok (.getstatic 38, 3) := by decide +kernel
theorem dd_6_31 : decode prog_2_method_4_code 31 = .ok (.iload_n 1, 1) := by decide +kernel
theorem dd_6_32 : decode prog_2_method_4_code 32 = .ok (.iaload, 1) := by decide +kernel
theorem dd_6_33 : decode prog_2_method_4_code 33 = .ok (.imul, 1) := by decide +kernel
theorem dd_6_34 : decode prog_2_method_4_code 34 = .ok (.isub, 1) := by decide +kernel
theorem dd_6_35 : decode prog_2_method_4_code 35 = .ok (.putfield 18, 3) := by decide +kernel
theorem dd_6_38 : decode prog_2_method_4_code 38 = .ok (.aload_n 0, 1) := by decide +kernel
theorem dd_6_39 : decode prog_2_method_4_code 39 = .ok (.dup, 1) := by decide +kernel
theorem dd_6_40 : decode prog_2_method_4_code 40 = .ok (.getfield 21, 3) := by decide +kernel
theorem dd_6_43 : decode prog_2_method_4_code 43 = .ok (.iconst 1, 1) := by decide +kernel
theorem dd_6_44 : decode prog_2_method_4_code 44 = .ok (.iadd, 1) := by decide +kernel
theorem dd_6_45 : decode prog_2_method_4_code 45 = .ok (.putfield 21, 3) := by decide +kernel
theorem dd_6_48 : decode prog_2_method_4_code 48 = .ok (.return_, 1) := by decide +kernel
theorem dd_7_0 : decode prog_3_method_1_code 0 = .ok (.aload_n 0, 1) := by decide +kernel
theorem dd_7_1 : decode prog_3_method_1_code 1 = .ok (.invokespecial 3, 3) := by decide +kernel
theorem dd_7_4 : decode prog_3_method_1_code 4 = .ok (.aload_n 0, 1) := by decide +kernel
theorem dd_7_5 : decode prog_3_method_1_code 5 = .ok (.bipush 12, 2) := by decide +kernel
theorem dd_7_7 : decode prog_3_method_1_code 7 = .ok (.newarray .int, 2) := by decide +kernel
theorem dd_7_9 : decode prog_3_method_1_code 9 = .ok (.putfield 9, 3) := by decide +kernel
theorem dd_7_12 : decode prog_3_method_1_code 12 = .ok (.return_, 1) := by decide +kernel
theorem dd_8_0 : decode prog_3_method_2_code 0 = .ok (.iconst 0, 1) := by decide +kernel
theorem dd_8_1 : decode prog_3_method_2_code 1 = .ok (.istore 4, 2) := by decide +kernel
theorem dd_8_3 : decode prog_3_method_2_code 3 = .ok (.iload 4, 2) := by decide +kernel
theorem dd_8_5 : decode prog_3_method_2_code 5 = .ok (.iconst 3, 1) := by decide +kernel
theorem dd_8_6 : decode prog_3_method_2_code 6 = .ok (.if_icmp .ge 36, 3) := by decide +kernel
theorem dd_8_9 : decode prog_3_method_2_code 9 = .ok (.aload_n 0, 1) := by decide +kernel
theorem dd_8_10 : decode prog_3_method_2_code 10 = .ok (.getfield 9, 3) := by decide +kernel
theorem dd_8_13 : decode prog_3_method_2_code 13 = .ok (.iload_n 1, 1) := by decide +kernel
theorem dd_8_14 : decode prog_3_method_2_code 14 = .ok (.iconst 3, 1) := by decide +kernel
theorem dd_8_15 : decode prog_3_method_2_code 15 = .ok (.imul, 1) := by decide +kernel
theorem dd_8_16 : decode prog_3_method_2_code 16 = .ok (.iload 4, 2) := by decide +kernel
theorem dd_8_18 : decode prog_3_method_2_code 18 = .ok (.iadd, 1) := by decide +kernel
theorem dd_8_19 : decode prog_3_method_2_code 19 = .ok (.dup2, 1) := by decide +kernel
theorem dd_8_20 : decode prog_3_method_2_code 20 = .ok (.iaload, 1) := by decide +kernel
theorem dd_8_21 : decode prog_3_method_2_code 21 = .ok (.iload_n 3, 1) := by decide +kernel
theorem dd_8_22 : decode prog_3_method_2_code 22 = .ok (.iload 4, 2) := by decide +kernel
theorem dd_8_24 : decode prog_3_method_2_code 24 = .ok (.invokestatic 15, 3) := by decide +kernel
theorem dd_8_27 : decode prog_3_method_2_code 27 = .ok (.iload_n 2, 1) := by decide +kernel
theorem dd_8_28 : decode prog_3_method_2_code 28 = .ok (.iload 4, 2) := by decide +kernel
theorem dd_8_30 : decode prog_3_method_2_code 30 = .ok (.invokestatic 15, 3) := by decide +kernel
theorem dd_8_33 : decode prog_3_method_2_code 33 = .ok (.isub, 1) := by decide +kernel
theorem dd_8_34 : decode prog_3_method_2_code 34 = .ok (.iadd, 1) := by decide +kernel
theorem dd_8_35 : decode prog_3_method_2_code 35 = .ok (.iastore, 1) := by decide +kernel
theorem dd_8_36 : decode prog_3_method_2_code 36 = .ok (.iinc 4 1, 3) := by decide +kernel
theorem dd_8_39 : decode prog_3_method_2_code 39 = .ok (.goto (-36), 3) := by decide +kernel
theorem dd_8_42 : decode prog_3_method_2_code 42 = .ok (.return_, 1) := by decide +kernel
theorem dd_9_0 : decode prog_4_method_1_code 0 = .ok (.aload_n 0, 1) := by decide +kernel
theorem dd_9_1 : decode prog_4_method_1_code 1 = .ok (.invokespecial 3, 3) := by decide +kernel
theorem dd_9_4 : decode prog_4_method_1_code 4 = .ok (.aload_n 0, 1) := by decide +kernel
theorem dd_9_5 : decode prog_4_method_1_code 5 = .ok (.iload_n 1, 1) := by decide +kernel
theorem dd_9_6 : decode prog_4_method_1_code 6 = .ok (.putfield 9, 3) := by decide +kernel
theorem dd_9_9 : decode prog_4_method_1_code 9 = .ok (.aload_n 0, 1) := by decide +kernel
theorem dd_9_10 : decode prog_4_method_1_code 10 = .ok (.iload_n 2, 1) := by decide +kernel
theorem dd_9_11 : decode prog_4_method_1_code 11 = .ok (.putfield 15, 3) := by decide +kernel
theorem dd_9_14 : decode prog_4_method_1_code 14 = .ok (.aload_n 0, 1) := by decide +kernel
theorem dd_9_15 : decode prog_4_method_1_code 15 = .ok (.iload_n 1, 1) := by decide +kernel
theorem dd_9_16 : decode prog_4_method_1_code 16 = .ok (.iload_n 2, 1) := by decide +kernel
theorem dd_9_17 : decode prog_4_method_1_code 17 = .ok (.imul, 1) := by decide +kernel
theorem dd_9_18 : decode prog_4_method_1_code 18 = .ok (.putfield 18, 3) := by decide +kernel
theorem dd_9_21 : decode prog_4_method_1_code 21 = .ok (.aload_n 0, 1) := by decide +kernel
theorem dd_9_22 : decode prog_4_method_1_code 22 = .ok (.aload_n 0, 1) := by decide +kernel
theorem dd_9_23 : decode prog_4_method_1_code 23 = .ok (.getfield 18, 3) := by decide +kernel
theorem dd_9_26 : decode prog_4_method_1_code 26 = .ok (.bipush 6, 2) := by decide +kernel
theorem dd_9_28 : decode prog_4_method_1_code 28 = .ok (.imul, 1) := by decide +kernel
theorem dd_9_29 : decode prog_4_method_1_code 29 = .ok (.newarray .int, 2) := by decide +kernel
theorem dd_9_31 : decode prog_4_method_1_code 31 = .ok (.putfield 21, 3) := by decide +kernel
theorem dd_9_34 : decode prog_4_method_1_code 34 = .ok (.iconst 0, 1) := by decide +kernel
theorem dd_9_35 : decode prog_4_method_1_code 35 = .ok (.istore_n 3, 1) := by decide +kernel
theorem dd_9_36 : decode prog_4_method_1_code 36 = .ok (.iload_n 3, 1) := by decide +kernel
theorem dd_9_37 : decode prog_4_method_1_code 37 = .ok (.iload_n 2, 1) := by decide +kernel
theorem dd_9_38 : decode prog_4_method_1_code 38 = .ok (.if_icmp .ge 92, 3) := by decide +kernel
theorem dd_9_41 : decode prog_4_method_1_code 41 = .ok (.iconst 0, 1) := by decide +kernel
theorem dd_9_42 : decode prog_4_method_1_code 42 = .ok (.istore 4, 2) := by decide +kernel
theorem dd_9_44 : decode prog_4_method_1_code 44 = .ok (.iload 4, 2) := by decide +kernel
theorem dd_9_46 : decode prog_4_method_1_code 46 = .ok (.iload_n 1, 1) := by decide +kernel
theorem dd_9_47 : decode prog_4_method_1_code 47 = .ok (.if_icmp .ge 77, 3) := by decide +kernel
theorem dd_9_50 : decode prog_4_method_1_code 50 = .ok (.iconst 0, 1) := by decide +kernel
theorem dd_9_51 : decode prog_4_method_1_code 51 = .ok (.istore 5, 2) := by decide +kernel
theorem dd_9_53 : decode prog_4_method_1_code 53 = .ok (.iload 5, 2) := by decide +kernel
theorem dd_9_55 : decode prog_4_method_1_code 55 = .ok (.bipush 6, 2) := by decide +kernel
theorem dd_9_57 : decode prog_4_method_1_code 57 = .ok (.if_icmp .ge 61, 3) := by decide +kernel
theorem dd_9_60 : decode prog_4_method_1_code 60 = .ok (.iload 4, 2) := by decide +kernel
theorem dd_9_62 : decode prog_4_method_1_code 62 = .ok (.iload_n 3, 1) := by decide +kernel
theorem dd_9_63 : decode prog_4_method_1_code 63 = .ok (.iload 5, 2) := by decide +kernel
theorem dd_9_65 : decode prog_4_method_1_code 65 = .ok (.invokestatic 25, 3) := by decide +kernel
theorem dd_9_68 : decode prog_4_method_1_code 68 = .ok (.iadd, 1) := by decide +kernel
theorem dd_9_69 : decode prog_4_method_1_code 69 = .ok (.iload_n 1, 1) := by decide +kernel
theorem dd_9_70 : decode prog_4_method_1_code 70 = .ok (.invokestatic 29, 3) := by decide +kernel
theorem dd_9_73 : decode prog_4_method_1_code 73 = .ok (.istore 6, 2) := by decide +kernel
theorem dd_9_75 : decode prog_4_method_1_code 75 = .ok (.iload_n 3, 1) := by decide +kernel
theorem dd_9_76 : decode prog_4_method_1_code 76 = .ok (.iload 5, 2) := by decide +kernel
theorem dd_9_78 : decode prog_4_method_1_code 78 = .ok (.invokestatic 34, 3) := by decide +kernel
theorem dd_9_81 : decode prog_4_method_1_code 81 = .ok (.iadd, 1) := by decide +kernel
theorem dd_9_82 : decode prog_4_method_1_code 82 = .ok (.iload_n 2, 1) := by decide +kernel
theorem dd_9_83 : decode prog_4_method_1_code 83 = .ok (.invokestatic 29, 3) := by decide +kernel
theorem dd_9_86 : decode prog_4_method_1_code 86 = .ok (.istore 7, 2) := by decide +kernel
theorem dd_9_88 : decode prog_4_method_1_code 88 = .ok (.aload_n 0, 1) := by decide +kernel
theorem dd_9_89 : decode prog_4_method_1_code 89 = .ok (.getfield 21, 3) := by decide +kernel
theorem dd_9_92 : decode prog_4_method_1_code 92 = .ok (.iload_n 3, 1) := by decide +kernel
theorem dd_9_93 : decode prog_4_method_1_code 93 = .ok (.iload_n 1, 1) := by decide +kernel
theorem dd_9_94 : decode prog_4_method_1_code 94 = .ok (.imul, 1) := by decide +kernel
theorem dd_9_95 : decode prog_4_method_1_code 95 = .ok (.iload 4, 2) := by decide +kernel
theorem dd_9_97 : decode prog_4_method_1_code 97 = .ok (.iadd, 1) := by decide +kernel
theorem dd_9_98 : decode prog_4_method_1_code 98 = .ok (.bipush 6, 2) := by decide +kernel
theorem dd_9_100 : decode prog_4_method_1_code 100 = .ok (.imul, 1) := by decide +kernel
theorem dd_9_101 : decode prog_4_method_1_code 101 = .ok (.iload 5, 2) := by decide +kernel
theorem dd_9_103 : decode prog_4_method_1_code 103 = .ok (.iadd, 1) := by decide +kernel
theorem dd_9_104 : decode prog_4_method_1_code 104 = .ok (.iload 7, 2) := by decide +kernel
theorem dd_9_106 : decode prog_4_method_1_code 106 = .ok (.iload_n 1, 1) := by decide +kernel
theorem dd_9_107 : decode prog_4_method_1_code 107 = .ok (.imul, 1) := by decide +kernel
theorem dd_9_108 : decode prog_4_method_1_code 108 = .ok (.iload 6, 2) := by decide +kernel
theorem dd_9_110 : decode prog_4_method_1_code 110 = .ok (.iadd, 1) := by decide +kernel
theorem dd_9_111 : decode prog_4_method_1_code 111 = .ok (.iastore, 1) := by decide +kernel
theorem dd_9_112 : decode prog_4_method_1_code 112 = .ok (.iinc 5 1, 3) := by decide +kernel
theorem dd_9_115 : decode prog_4_method_1_code 115 = .ok (.goto (-62), 3) := by decide +kernel
theorem dd_9_118 : decode prog_4_method_1_code 118 = .ok (.iinc 4 1, 3) := by decide +kernel
theorem dd_9_121 : decode prog_4_method_1_code 121 = .ok (.goto (-77), 3) := by decide +kernel
theorem dd_9_124 : decode prog_4_method_1_code 124 = .ok (.iinc 3 1, 3) := by decide +kernel
theorem dd_9_127 : decode prog_4_method_1_code 127 = .ok (.goto (-91), 3) := by decide +kernel
theorem dd_9_130 : decode prog_4_method_1_code 130 = .ok (.return_, 1) := by decide +kernel
theorem dd_10_0 : decode prog_4_method_2_code 0 = .ok (.iload_n 0, 1) := by decide +kernel
theorem dd_10_1 : decode prog_4_method_2_code 1 = .ok (.ifCond .eq 8, 3) := by decide +kernel
theorem dd_10_4 : decode prog_4_method_2_code 4 = .ok (.iload_n 0, 1) := by decide +kernel
theorem dd_10_5 : decode prog_4_method_2_code 5 = .ok (.iconst 3, 1) := by decide +kernel
theorem dd_10_6 : decode prog_4_method_2_code 6 = .ok (.if_icmp .ne 5, 3) := by decide +kernel
theorem dd_10_9 : decode prog_4_method_2_code 9 = .ok (.iconst 0, 1) := by decide +kernel
theorem dd_10_10 : decode prog_4_method_2_code 10 = .ok (.ireturn, 1) := by decide +kernel
theorem dd_10_11 : decode prog_4_method_2_code 11 = .ok (.iload_n 0, 1) := by decide +kernel
theorem dd_10_12 : decode prog_4_method_2_code 12 = .ok (.iconst 3, 1) := by decide +kernel
theorem dd_10_13 : decode prog_4_method_2_code 13 = .ok (.if_icmp .ge 7, 3) := by decide +kernel
theorem dd_10_16 : decode prog_4_method_2_code 16 = .ok (.iconst (-1), 1) := by decide +kernel
theorem dd_10_17 : decode prog_4_method_2_code 17 = .ok (.goto 4, 3) := by decide +kernel
theorem dd_10_20 : decode prog_4_method_2_code 20 = .ok (.iconst 1, 1) := by decide +kernel
theorem dd_10_21 : decode prog_4_method_2_code 21 = .ok (.ireturn, 1) := by decide +kernel
theorem dd_11_0 : decode prog_4_method_3_code 0 = .ok (.iload_n 1, 1) := by decide +kernel
theorem dd_11_1 : decode prog_4_method_3_code 1 = .ok (.ifCond .ne 5, 3) := by decide +kernel
theorem dd_11_4 : decode prog_4_method_3_code 4 = .ok (.iconst 1, 1) := by decide +kernel
theorem dd_11_5 : decode prog_4_method_3_code 5 = .ok (.ireturn, 1) := by decide +kernel
theorem dd_11_6 : decode prog_4_method_3_code 6 = .ok (.iload_n 1, 1) := by decide +kernel
theorem dd_11_7 : decode prog_4_method_3_code 7 = .ok (.iconst 3, 1) := by decide +kernel
theorem dd_11_8 : decode prog_4_method_3_code 8 = .ok (.if_icmp .ne 5, 3) := by decide +kernel
theorem dd_11_11 : decode prog_4_method_3_code 11 = .ok (.iconst (-1), 1) := by decide +kernel
theorem dd_11_12 : decode prog_4_method_3_code 12 = .ok (.ireturn, 1) := by decide +kernel
theorem dd_11_13 : decode prog_4_method_3_code 13 = .ok (.iload_n 1, 1) := by decide +kernel
theorem dd_11_14 : decode prog_4_method_3_code 14 = .ok (.iconst 1, 1) := by decide +kernel
theorem dd_11_15 : decode prog_4_method_3_code 15 = .ok (.if_icmp .eq 8, 3) := by decide +kernel
theorem dd_11_18 : decode prog_4_method_3_code 18 = .ok (.iload_n 1, 1) := by decide +kernel
theorem dd_11_19 : decode prog_4_method_3_code 19 = .ok (.iconst 5, 1) := by decide +kernel
theorem dd_11_20 : decode prog_4_method_3_code 20 = .ok (.if_icmp .ne 7, 3) := by decide +kernel
theorem dd_11_23 : decode prog_4_method_3_code 23 = .ok (.iconst 1, 1) := by decide +kernel
theorem dd_11_24 : decode prog_4_method_3_code 24 = .ok (.goto 4, 3) := by decide +kernel
theorem dd_11_27 : decode prog_4_method_3_code 27 = .ok (.iconst 0, 1) := by decide +kernel
theorem dd_11_28 : decode prog_4_method_3_code 28 = .ok (.istore_n 2, 1) := by decide +kernel
theorem dd_11_29 : decode prog_4_method_3_code 29 = .ok (.iload_n 2, 1) := by decide +kernel
theorem dd_11_30 : decode prog_4_method_3_code 30 = .ok (.ifCond .eq 7, 3) := by decide +kernel
theorem dd_11_33 : decode prog_4_method_3_code 33 = .ok (.iconst 0, 1) := by decide +kernel
theorem dd_11_34 : decode prog_4_method_3_code 34 = .ok (.goto 4, 3) := by decide +kernel
theorem dd_11_37 : decode prog_4_method_3_code 37 = .ok (.iconst (-1), 1) := by decide +kernel
theorem dd_11_38 : decode prog_4_method_3_code 38 = .ok (.iload_n 0, 1) := by decide +kernel
theorem dd_11_39 : decode prog_4_method_3_code 39 = .ok (.iconst 2, 1) := by decide +kernel
theorem dd_11_40 : decode prog_4_method_3_code 40 = .ok (.irem, 1) := by decide +kernel
theorem dd_11_41 : decode prog_4_method_3_code 41 = .ok (.iadd, 1) := by decide +kernel
theorem dd_11_42 : decode prog_4_method_3_code 42 = .ok (.ireturn, 1) := by decide +kernel
theorem dd_12_0 : decode prog_4_method_4_code 0 = .ok (.iload_n 1, 1) := by decide +kernel
theorem dd_12_1 : decode prog_4_method_4_code 1 = .ok (.aload_n 0, 1) := by decide +kernel
theorem dd_12_2 : decode prog_4_method_4_code 2 = .ok (.getfield 9, 3) := by decide +kernel
theorem dd_12_5 : decode prog_4_method_4_code 5 = .ok (.irem, 1) := by decide +kernel
theorem dd_12_6 : decode prog_4_method_4_code 6 = .ok (.ireturn, 1) := by decide +kernel
theorem dd_13_0 : decode prog_4_method_5_code 0 = .ok (.iload_n 1, 1) := by decide +kernel
theorem dd_13_1 : decode prog_4_method_5_code 1 = .ok (.aload_n 0, 1) := by decide +kernel
theorem dd_13_2 : decode prog_4_method_5_code 2 = .ok (.getfield 9, 3) := by decide +kernel
theorem dd_13_5 : decode prog_4_method_5_code 5 = .ok (.idiv, 1) := by decide +kernel
theorem dd_13_6 : decode prog_4_method_5_code 6 = .ok (.ireturn, 1) := by decide +kernel
theorem dd_14_0 : decode prog_4_method_6_code 0 = .ok (.aload_n 0, 1) := by decide +kernel
theorem dd_14_1 : decode prog_4_method_6_code 1 = .ok (.getfield 21, 3) := by decide +kernel
theorem dd_14_4 : decode prog_4_method_6_code 4 = .ok (.iload_n 1, 1) := by decide +kernel
theorem dd_14_5 : decode prog_4_method_6_code 5 = .ok (.bipush 6, 2) := by decide +kernel
theorem dd_14_7 : decode prog_4_method_6_code 7 = .ok (.imul, 1) := by decide +kernel
theorem dd_14_8 : decode prog_4_method_6_code 8 = .ok (.iload_n 2, 1) := by decide +kernel
theorem dd_14_9 : decode prog_4_method_6_code 9 = .ok (.bipush 6, 2) := by decide +kernel
theorem dd_14_11 : decode prog_4_method_6_code 11 = .ok (.irem, 1) := by decide +kernel
theorem dd_14_12 : decode prog_4_method_6_code 12 = .ok (.iadd, 1) := by decide +kernel
theorem dd_14_13 : decode prog_4_method_6_code 13 = .ok (.iaload, 1) := by decide +kernel
theorem dd_14_14 : decode prog_4_method_6_code 14 = .ok (.ireturn, 1) := by decide +kernel
theorem dd_15_0 : decode prog_5_method_1_code 0 = .ok (.aload_n 0, 1) := by decide +kernel
theorem dd_15_1 : decode prog_5_method_1_code 1 = .ok (.invokespecial 3, 3) := by decide +kernel
theorem dd_15_4 : decode prog_5_method_1_code 4 = .ok (.aload_n 0, 1) := by decide +kernel
theorem dd_15_5 : decode prog_5_method_1_code 5 = .ok (.iconst 4, 1) := by decide +kernel
theorem dd_15_6 : decode prog_5_method_1_code 6 = .ok (.newarray .int, 2) := by decide +kernel
theorem dd_15_8 : decode prog_5_method_1_code 8 = .ok (.putfield 9, 3) := by decide +kernel
theorem dd_15_11 : decode prog_5_method_1_code 11 = .ok (.aload_n 0, 1) := by decide +kernel
theorem dd_15_12 : decode prog_5_method_1_code 12 = .ok (.iconst 4, 1) := by decide +kernel
theorem dd_15_13 : decode prog_5_method_1_code 13 = .ok (.newarray .int, 2) := by decide +kernel
theorem dd_15_15 : decode prog_5_method_1_code 15 = .ok (.putfield 15, 3) := by decide +kernel
theorem dd_15_18 : decode prog_5_method_1_code 18 = .ok (.aload_n 0, 1) := by decide +kernel
theorem dd_15_19 : decode prog_5_method_1_code 19 = .ok (.iconst 0, 1) := by decide +kernel
theorem dd_15_20 : decode prog_5_method_1_code 20 = .ok (.putfield 18, 3) := by decide +kernel
theorem dd_15_23 : decode prog_5_method_1_code 23 = .ok (.return_, 1) := by decide +kernel
theorem dd_16_0 : decode prog_5_method_2_code 0 = .ok (.iconst 0, 1) := by decide +kernel
theorem dd_16_1 : decode prog_5_method_2_code 1 = .ok (.istore_n 3, 1) := by decide +kernel
theorem dd_16_2 : decode prog_5_method_2_code 2 = .ok (.iload_n 3, 1) := by decide +kernel
theorem dd_16_3 : decode prog_5_method_2_code 3 = .ok (.aload_n 0, 1) := by decide +kernel
theorem dd_16_4 : decode prog_5_method_2_code 4 = .ok (.getfield 18, 3) := by decide +kernel
theorem dd_16_7 : decode prog_5_method_2_code 7 = .ok (.if_icmp .ge 31, 3) := by decide +kernel
theorem dd_16_10 : decode prog_5_method_2_code 10 = .ok (.aload_n 0, 1) := by decide +kernel
theorem dd_16_11 : decode prog_5_method_2_code 11 = .ok (.getfield 9, 3) := by decide +kernel
theorem dd_16_14 : decode prog_5_method_2_code 14 = .ok (.iload_n 3, 1) := by decide +kernel
theorem dd_16_15 : decode prog_5_method_2_code 15 = .ok (.iaload, 1) := by decide +kernel
theorem dd_16_16 : decode prog_5_method_2_code 16 = .ok (.iload_n 1, 1) := by decide +kernel
theorem dd_16_17 : decode prog_5_method_2_code 17 = .ok (.if_icmp .ne 15, 3) := by decide +kernel
theorem dd_16_20 : decode prog_5_method_2_code 20 = .ok (.aload_n 0, 1) := by decide +kernel
theorem dd_16_21 : decode prog_5_method_2_code 21 = .ok (.getfield 15, 3) := by decide +kernel
theorem dd_16_24 : decode prog_5_method_2_code 24 = .ok (.iload_n 3, 1) := by decide +kernel
theorem dd_16_25 : decode prog_5_method_2_code 25 = .ok (.iaload, 1) := by decide +kernel
theorem dd_16_26 : decode prog_5_method_2_code 26 = .ok (.iload_n 2, 1) := by decide +kernel
theorem dd_16_27 : decode prog_5_method_2_code 27 = .ok (.if_icmp .ne 5, 3) := by decide +kernel
theorem dd_16_30 : decode prog_5_method_2_code 30 = .ok (.iconst 1, 1) := by decide +kernel
theorem dd_16_31 : decode prog_5_method_2_code 31 = .ok (.ireturn, 1) := by decide +kernel
theorem dd_16_32 : decode prog_5_method_2_code 32 = .ok (.iinc 3 1, 3) := by decide +kernel
theorem dd_16_35 : decode prog_5_method_2_code 35 = .ok (.goto (-33), 3) := by decide +kernel
theorem dd_16_38 : decode prog_5_method_2_code 38 = .ok (.iconst 0, 1) := by decide +kernel
theorem dd_16_39 : decode prog_5_method_2_code 39 = .ok (.ireturn, 1) := by decide +kernel
theorem dd_17_0 : decode prog_5_method_3_code 0 = .ok (.aload_n 0, 1) := by decide +kernel
theorem dd_17_1 : decode prog_5_method_3_code 1 = .ok (.getfield 9, 3) := by decide +kernel
theorem dd_17_4 : decode prog_5_method_3_code 4 = .ok (.aload_n 0, 1) := by decide +kernel
theorem dd_17_5 : decode prog_5_method_3_code 5 = .ok (.getfield 18, 3) := by decide +kernel
theorem dd_17_8 : decode prog_5_method_3_code 8 = .ok (.iload_n 1, 1) := by decide +kernel
theorem dd_17_9 : decode prog_5_method_3_code 9 = .ok (.iastore, 1) := by decide +kernel
theorem dd_17_10 : decode prog_5_method_3_code 10 = .ok (.aload_n 0, 1) := by decide +kernel
theorem dd_17_11 : decode prog_5_method_3_code 11 = .ok (.getfield 15, 3) := by decide +kernel
theorem dd_17_14 : decode prog_5_method_3_code 14 = .ok (.aload_n 0, 1) := by decide +kernel
theorem dd_17_15 : decode prog_5_method_3_code 15 = .ok (.getfield 18, 3) := by decide +kernel
theorem dd_17_18 : decode prog_5_method_3_code 18 = .ok (.iload_n 2, 1) := by decide +kernel
theorem dd_17_19 : decode prog_5_method_3_code 19 = .ok (.iastore, 1) := by decide +kernel
theorem dd_17_20 : decode prog_5_method_3_code 20 = .ok (.aload_n 0, 1) := by decide +kernel
theorem dd_17_21 : decode prog_5_method_3_code 21 = .ok (.dup, 1) := by decide +kernel
theorem dd_17_22 : decode prog_5_method_3_code 22 = .ok (.getfield 18, 3) := by decide +kernel
theorem dd_17_25 : decode prog_5_method_3_code 25 = .ok (.dup_x1, 1) := by decide +kernel
theorem dd_17_26 : decode prog_5_method_3_code 26 = .ok (.iconst 1, 1) := by decide +kernel
theorem dd_17_27 : decode prog_5_method_3_code 27 = .ok (.iadd, 1) := by decide +kernel
theorem dd_17_28 : decode prog_5_method_3_code 28 = .ok (.putfield 18, 3) := by decide +kernel
theorem dd_17_31 : decode prog_5_method_3_code 31 = .ok (.ireturn, 1) := by decide +kernel
theorem dd_18_0 : decode prog_5_method_4_code 0 = .ok (.iconst 0, 1) := by decide +kernel
theorem dd_18_1 : decode prog_5_method_4_code 1 = .ok (.istore_n 2, 1) := by decide +kernel
theorem dd_18_2 : decode prog_5_method_4_code 2 = .ok (.iload_n 2, 1) := by decide +kernel
theorem dd_18_3 : decode prog_5_method_4_code 3 = .ok (.aload_n 0, 1) := by decide +kernel
theorem dd_18_4 : decode prog_5_method_4_code 4 = .ok (.getfield 18, 3) := by decide +kernel
theorem dd_18_7 : decode prog_5_method_4_code 7 = .ok (.if_icmp .ge 26, 3) := by decide +kernel
theorem dd_18_10 : decode prog_5_method_4_code 10 = .ok (.aload_n 0, 1) := by decide +kernel
theorem dd_18_11 : decode prog_5_method_4_code 11 = .ok (.getfield 9, 3) := by decide +kernel
theorem dd_18_14 : decode prog_5_method_4_code 14 = .ok (.iload_n 2, 1) := by decide +kernel
theorem dd_18_15 : decode prog_5_method_4_code 15 = .ok (.iaload, 1) := by decide +kernel
theorem dd_18_16 : decode prog_5_method_4_code 16 = .ok (.iload_n 1, 1) := by decide +kernel
theorem dd_18_17 : decode prog_5_method_4_code 17 = .ok (.if_icmp .ne 10, 3) := by decide +kernel
theorem dd_18_20 : decode prog_5_method_4_code 20 = .ok (.aload_n 0, 1) := by decide +kernel
theorem dd_18_21 : decode prog_5_method_4_code 21 = .ok (.getfield 9, 3) := by decide +kernel
theorem dd_18_24 : decode prog_5_method_4_code 24 = .ok (.iload_n 2, 1) := by decide +kernel
theorem dd_18_25 : decode prog_5_method_4_code 25 = .ok (.iconst (-1), 1) := by decide +kernel
theorem dd_18_26 : decode prog_5_method_4_code 26 = .ok (.iastore, 1) := by decide +kernel
theorem dd_18_27 : decode prog_5_method_4_code 27 = .ok (.iinc 2 1, 3) := by decide +kernel
theorem dd_18_30 : decode prog_5_method_4_code 30 = .ok (.goto (-28), 3) := by decide +kernel
theorem dd_18_33 : decode prog_5_method_4_code 33 = .ok (.return_, 1) := by decide +kernel
theorem dd_19_0 : decode prog_5_method_5_code 0 = .ok (.iload_n 2, 1) := by decide +kernel
theorem dd_19_1 : decode prog_5_method_5_code 1 = .ok (.iload_n 3, 1) := by decide +kernel
theorem dd_19_2 : decode prog_5_method_5_code 2 = .ok (.if_icmp .ne 4, 3) := by decide +kernel
theorem dd_19_5 : decode prog_5_method_5_code 5 = .ok (.return_, 1) := by decide +kernel
theorem dd_19_6 : decode prog_5_method_5_code 6 = .ok (.iload_n 2, 1) := by decide +kernel
theorem dd_19_7 : decode prog_5_method_5_code 7 = .ok (.iconst 1, 1) := by decide +kernel
theorem dd_19_8 : decode prog_5_method_5_code 8 = .ok (.aload_n 0, 1) := by decide +kernel
theorem dd_19_9 : decode prog_5_method_5_code 9 = .ok (.getfield 15, 3) := by decide +kernel
theorem dd_19_12 : decode prog_5_method_5_code 12 = .ok (.iload_n 1, 1) := by decide +kernel
theorem dd_19_13 : decode prog_5_method_5_code 13 = .ok (.iaload, 1) := by decide +kernel
theorem dd_19_14 : decode prog_5_method_5_code 14 = .ok (.ishl, 1) := by decide +kernel
theorem dd_19_15 : decode prog_5_method_5_code 15 = .ok (.iconst 1, 1) := by decide +kernel
theorem dd_19_16 : decode prog_5_method_5_code 16 = .ok (.isub, 1) := by decide +kernel
theorem dd_19_17 : decode prog_5_method_5_code 17 = .ok (.iand, 1) := by decide +kernel
theorem dd_19_18 : decode prog_5_method_5_code 18 = .ok (.invokestatic 22, 3) := by decide +kernel
theorem dd_19_21 : decode prog_5_method_5_code 21 = .ok (.istore 4, 2) := by decide +kernel
theorem dd_19_23 : decode prog_5_method_5_code 23 = .ok (.iconst 0, 1) := by decide +kernel
theorem dd_19_24 : decode prog_5_method_5_code 24 = .ok (.istore 5, 2) := by decide +kernel
theorem dd_19_26 : decode prog_5_method_5_code 26 = .ok (.iload 5, 2) := by decide +kernel
theorem dd_19_28 : decode prog_5_method_5_code 28 = .ok (.bipush 7, 2) := by decide +kernel
theorem dd_19_30 : decode prog_5_method_5_code 30 = .ok (.if_icmp .ge 43, 3) := by decide +kernel
theorem dd_19_33 : decode prog_5_method_5_code 33 = .ok (.iload_n 3, 1) := by decide +kernel
theorem dd_19_34 : decode prog_5_method_5_code 34 = .ok (.iload 5, 2) := by decide +kernel
theorem dd_19_36 : decode prog_5_method_5_code 36 = .ok (.invokestatic 28, 3) := by decide +kernel
theorem dd_19_39 : decode prog_5_method_5_code 39 = .ok (.ifCond .eq 28, 3) := by decide +kernel
theorem dd_19_42 : decode prog_5_method_5_code 42 = .ok (.iload_n 3, 1) := by decide +kernel
theorem dd_19_43 : decode prog_5_method_5_code 43 = .ok (.iconst 1, 1) := by decide +kernel
theorem dd_19_44 : decode prog_5_method_5_code 44 = .ok (.iload 5, 2) := by decide +kernel
theorem dd_19_46 : decode prog_5_method_5_code 46 = .ok (.ishl, 1) := by decide +kernel
theorem dd_19_47 : decode prog_5_method_5_code 47 = .ok (.iconst 1, 1) := by decide +kernel
theorem dd_19_48 : decode prog_5_method_5_code 48 = .ok (.isub, 1) := by decide +kernel
theorem dd_19_49 : decode prog_5_method_5_code 49 = .ok (.iand, 1) := by decide +kernel
theorem dd_19_50 : decode prog_5_method_5_code 50 = .ok (.invokestatic 22, 3) := by decide +kernel
theorem dd_19_53 : decode prog_5_method_5_code 53 = .ok (.iload 4, 2) := by decide +kernel
theorem dd_19_55 : decode prog_5_method_5_code 55 = .ok (.if_icmp .ne 12, 3) := by decide +kernel
theorem dd_19_58 : decode prog_5_method_5_code 58 = .ok (.aload_n 0, 1) := by decide +kernel
theorem dd_19_59 : decode prog_5_method_5_code 59 = .ok (.getfield 15, 3) := by decide +kernel
theorem dd_19_62 : decode prog_5_method_5_code 62 = .ok (.iload_n 1, 1) := by decide +kernel
theorem dd_19_63 : decode prog_5_method_5_code 63 = .ok (.iload 5, 2) := by decide +kernel
theorem dd_19_65 : decode prog_5_method_5_code 65 = .ok (.iastore, 1) := by decide +kernel
theorem dd_19_66 : decode prog_5_method_5_code 66 = .ok (.return_, 1) := by decide +kernel
theorem dd_19_67 : decode prog_5_method_5_code 67 = .ok (.iinc 5 1, 3) := by decide +kernel
theorem dd_19_70 : decode prog_5_method_5_code 70 = .ok (.goto (-44), 3) := by decide +kernel
theorem dd_19_73 : decode prog_5_method_5_code 73 = .ok (.return_, 1) := by decide +kernel
theorem dd_20_0 : decode prog_5_method_6_code 0 = .ok (.iconst 0, 1) := by decide +kernel
theorem dd_20_1 : decode prog_5_method_6_code 1 = .ok (.istore_n 3, 1) := by decide +kernel
theorem dd_20_2 : decode prog_5_method_6_code 2 = .ok (.iload_n 3, 1) := by decide +kernel
theorem dd_20_3 : decode prog_5_method_6_code 3 = .ok (.aload_n 0, 1) := by decide +kernel
theorem dd_20_4 : decode prog_5_method_6_code 4 = .ok (.getfield 18, 3) := by decide +kernel
theorem dd_20_7 : decode prog_5_method_6_code 7 = .ok (.if_icmp .ge 54, 3) := by decide +kernel
theorem dd_20_10 : decode prog_5_method_6_code 10 = .ok (.aload_n 0, 1) := by decide +kernel
theorem dd_20_11 : decode prog_5_method_6_code 11 = .ok (.getfield 9, 3) := by decide +kernel
theorem dd_20_14 : decode prog_5_method_6_code 14 = .ok (.iload_n 3, 1) := by decide +kernel
theorem dd_20_15 : decode prog_5_method_6_code 15 = .ok (.iaload, 1) := by decide +kernel
theorem dd_20_16 : decode prog_5_method_6_code 16 = .ok (.iconst (-1), 1) := by decide +kernel
theorem dd_20_17 : decode prog_5_method_6_code 17 = .ok (.if_icmp .eq 38, 3) := by decide +kernel
theorem dd_20_20 : decode prog_5_method_6_code 20 = .ok (.aload_n 0, 1) := by decide +kernel
theorem dd_20_21 : decode prog_5_method_6_code 21 = .ok (.getfield 15, 3) := by decide +kernel
theorem dd_20_24 : decode prog_5_method_6_code 24 = .ok (.iload_n 3, 1) := by decide +kernel
theorem dd_20_25 : decode prog_5_method_6_code 25 = .ok (.iaload, 1) := by decide +kernel
theorem dd_20_26 : decode prog_5_method_6_code 26 = .ok (.bipush 6, 2) := by decide +kernel
theorem dd_20_28 : decode prog_5_method_6_code 28 = .ok (.if_icmp .ge 27, 3) := by decide +kernel
theorem dd_20_31 : decode prog_5_method_6_code 31 = .ok (.aload_n 0, 1) := by decide +kernel
theorem dd_20_32 : decode prog_5_method_6_code 32 = .ok (.getfield 9, 3) := by decide +kernel
theorem dd_20_35 : decode prog_5_method_6_code 35 = .ok (.iload_n 3, 1) := by decide +kernel
theorem dd_20_36 : decode prog_5_method_6_code 36 = .ok (.aload_n 1, 1) := by decide +kernel
theorem dd_20_37 : decode prog_5_method_6_code 37 = .ok (.aload_n 0, 1) := by decide +kernel
theorem dd_20_38 : decode prog_5_method_6_code 38 = .ok (.getfield 9, 3) := by decide +kernel
theorem dd_20_41 : decode prog_5_method_6_code 41 = .ok (.iload_n 3, 1) := by decide +kernel
theorem dd_20_42 : decode prog_5_method_6_code 42 = .ok (.iaload, 1) := by decide +kernel
theorem dd_20_43 : decode prog_5_method_6_code 43 = .ok (.aload_n 0, 1) := by decide +kernel
theorem dd_20_44 : decode prog_5_method_6_code 44 = .ok (.getfield 15, 3) := by decide +kernel
theorem dd_20_47 : decode prog_5_method_6_code 47 = .ok (.iload_n 3, 1) := by decide +kernel
theorem dd_20_48 : decode prog_5_method_6_code 48 = .ok (.iaload, 1) := by decide +kernel
theorem dd_20_49 : decode prog_5_method_6_code 49 = .ok (.iload_n 2, 1) := by decide +kernel
theorem dd_20_50 : decode prog_5_method_6_code 50 = .ok (.iadd, 1) := by decide +kernel
theorem dd_20_51 : decode prog_5_method_6_code 51 = .ok (.invokevirtual 32, 3) := by decide +kernel
theorem dd_20_54 : decode prog_5_method_6_code 54 = .ok (.iastore, 1) := by decide +kernel
theorem dd_20_55 : decode prog_5_method_6_code 55 = .ok (.iinc 3 1, 3) := by decide +kernel
theorem dd_20_58 : decode prog_5_method_6_code 58 = .ok (.goto (-56), 3) := by decide +kernel
theorem dd_20_61 : decode prog_5_method_6_code 61 = .ok (.return_, 1) := by decide +kernel
theorem dd_21_0 : decode prog_5_method_7_code 0 = .ok (.iconst 0, 1) := by decide +kernel
theorem dd_21_1 : decode prog_5_method_7_code 1 = .ok (.istore_n 2, 1) := by decide +kernel
theorem dd_21_2 : decode prog_5_method_7_code 2 = .ok (.iload_n 2, 1) := by decide +kernel
theorem dd_21_3 : decode prog_5_method_7_code 3 = .ok (.aload_n 0, 1) := by decide +kernel
theorem dd_21_4 : decode prog_5_method_7_code 4 = .ok (.getfield 18, 3) := by decide +kernel
theorem dd_21_7 : decode prog_5_method_7_code 7 = .ok (.if_icmp .ge 85, 3) := by decide +kernel
theorem dd_21_10 : decode prog_5_method_7_code 10 = .ok (.aload_n 0, 1) := by decide +kernel
theorem dd_21_11 : decode prog_5_method_7_code 11 = .ok (.getfield 9, 3) := by decide +kernel
theorem dd_21_14 : decode prog_5_method_7_code 14 = .ok (.iload_n 2, 1) := by decide +kernel
theorem dd_21_15 : decode prog_5_method_7_code 15 = .ok (.iaload, 1) := by decide +kernel
theorem dd_21_16 : decode prog_5_method_7_code 16 = .ok (.iconst (-1), 1) := by decide +kernel
theorem dd_21_17 : decode prog_5_method_7_code 17 = .ok (.if_icmp .ne 7, 3) := by decide +kernel
theorem dd_21_20 : decode prog_5_method_7_code 20 = .ok (.iconst 0, 1) := by decide +kernel
theorem dd_21_21 : decode prog_5_method_7_code 21 = .ok (.goto 11, 3) := by decide +kernel
theorem dd_21_24 : decode prog_5_method_7_code 24 = .ok (.aload_n 1, 1) := by decide +kernel
theorem dd_21_25 : decode prog_5_method_7_code 25 = .ok (.aload_n 0, 1) := by decide +kernel
theorem dd_21_26 : decode prog_5_method_7_code 26 = .ok (.getfield 9, 3) := by decide +kernel
theorem dd_21_29 : decode prog_5_method_7_code 29 = .ok (.iload_n 2, 1) := by decide +kernel
theorem dd_21_30 : decode prog_5_method_7_code 30 = .ok (.iaload, 1) := by decide +kernel
theorem dd_21_31 : decode prog_5_method_7_code 31 = .ok (.iaload, 1) := by decide +kernel
theorem dd_21_32 : decode prog_5_method_7_code 32 = .ok (.istore_n 3, 1) := by decide +kernel
theorem dd_21_33 : decode prog_5_method_7_code 33 = .ok (.iload_n 3, 1) := by decide +kernel
theorem dd_21_34 : decode prog_5_method_7_code 34 = .ok (.iconst 3, 1) := by decide +kernel
theorem dd_21_35 : decode prog_5_method_7_code 35 = .ok (.if_icmp .ne 13, 3) := by decide +kernel
theorem dd_21_38 : decode prog_5_method_7_code 38 = .ok (.aload_n 0, 1) := by decide +kernel
theorem dd_21_39 : decode prog_5_method_7_code 39 = .ok (.getfield 9, 3) := by decide +kernel
theorem dd_21_42 : decode prog_5_method_7_code 42 = .ok (.iload_n 2, 1) := by decide +kernel
theorem dd_21_43 : decode prog_5_method_7_code 43 = .ok (.iconst (-1), 1) := by decide +kernel
theorem dd_21_44 : decode prog_5_method_7_code 44 = .ok (.iastore, 1) := by decide +kernel
theorem dd_21_45 : decode prog_5_method_7_code 45 = .ok (.goto 41, 3) := by decide +kernel
theorem dd_21_48 : decode prog_5_method_7_code 48 = .ok (.iload_n 3, 1) := by decide +kernel
theorem dd_21_49 : decode prog_5_method_7_code 49 = .ok (.iconst 1, 1) := by decide +kernel
theorem dd_21_50 : decode prog_5_method_7_code 50 = .ok (.if_icmp .eq 8, 3) := by decide +kernel
theorem dd_21_53 : decode prog_5_method_7_code 53 = .ok (.iload_n 3, 1) := by decide +kernel
theorem dd_21_54 : decode prog_5_method_7_code 54 = .ok (.iconst 4, 1) := by decide +kernel
theorem dd_21_55 : decode prog_5_method_7_code 55 = .ok (.if_icmp .ne 31, 3) := by decide +kernel
theorem dd_21_58 : decode prog_5_method_7_code 58 = .ok (.aload_n 0, 1) := by decide +kernel
theorem dd_21_59 : decode prog_5_method_7_code 59 = .ok (.getfield 15, 3) := by decide +kernel
theorem dd_21_62 : decode prog_5_method_7_code 62 = .ok (.iload_n 2, 1) := by decide +kernel
theorem dd_21_63 : decode prog_5_method_7_code 63 = .ok (.iaload, 1) := by decide +kernel
theorem dd_21_64 : decode prog_5_method_7_code 64 = .ok (.bipush 6, 2) := by decide +kernel
theorem dd_21_66 : decode prog_5_method_7_code 66 = .ok (.if_icmp .ge 20, 3) := by decide +kernel
theorem dd_21_69 : decode prog_5_method_7_code 69 = .ok (.aload_n 0, 1) := by decide +kernel
theorem dd_21_70 : decode prog_5_method_7_code 70 = .ok (.getfield 15, 3) := by decide +kernel
theorem dd_21_73 : decode prog_5_method_7_code 73 = .ok (.iload_n 2, 1) := by decide +kernel
theorem dd_21_74 : decode prog_5_method_7_code 74 = .ok (.aload_n 0, 1) := by decide +kernel
theorem dd_21_75 : decode prog_5_method_7_code 75 = .ok (.getfield 15, 3) := by decide +kernel
theorem dd_21_78 : decode prog_5_method_7_code 78 = .ok (.iload_n 2, 1) := by decide +kernel
theorem dd_21_79 : decode prog_5_method_7_code 79 = .ok (.iaload, 1) := by decide +kernel
theorem dd_21_80 : decode prog_5_method_7_code 80 = .ok (.iconst 3, 1) := by decide +kernel
theorem dd_21_81 : decode prog_5_method_7_code 81 = .ok (.iadd, 1) := by decide +kernel
theorem dd_21_82 : decode prog_5_method_7_code 82 = .ok (.bipush 6, 2) := by decide +kernel
theorem dd_21_84 : decode prog_5_method_7_code 84 = .ok (.irem, 1) := by decide +kernel
theorem dd_21_85 : decode prog_5_method_7_code 85 = .ok (.iastore, 1) := by decide +kernel
theorem dd_21_86 : decode prog_5_method_7_code 86 = .ok (.iinc 2 1, 3) := by decide +kernel
theorem dd_21_89 : decode prog_5_method_7_code 89 = .ok (.goto (-87), 3) := by decide +kernel
theorem dd_21_92 : decode prog_5_method_7_code 92 = .ok (.return_, 1) := by decide +kernel
theorem dd_22_0 : decode prog_5_method_8_code 0 = .ok (.iconst 0, 1) := by decide +kernel
theorem dd_22_1 : decode prog_5_method_8_code 1 = .ok (.istore_n 3, 1) := by decide +kernel
theorem dd_22_2 : decode prog_5_method_8_code 2 = .ok (.iload_n 3, 1) := by decide +kernel
theorem dd_22_3 : decode prog_5_method_8_code 3 = .ok (.aload_n 0, 1) := by decide +kernel
theorem dd_22_4 : decode prog_5_method_8_code 4 = .ok (.getfield 18, 3) := by decide +kernel
theorem dd_22_7 : decode prog_5_method_8_code 7 = .ok (.if_icmp .ge 46, 3) := by decide +kernel
theorem dd_22_10 : decode prog_5_method_8_code 10 = .ok (.aload_n 0, 1) := by decide +kernel
theorem dd_22_11 : decode prog_5_method_8_code 11 = .ok (.getfield 9, 3) := by decide +kernel
theorem dd_22_14 : decode prog_5_method_8_code 14 = .ok (.iload_n 3, 1) := by decide +kernel
theorem dd_22_15 : decode prog_5_method_8_code 15 = .ok (.iaload, 1) := by decide +kernel
theorem dd_22_16 : decode prog_5_method_8_code 16 = .ok (.iload_n 1, 1) := by decide +kernel
theorem dd_22_17 : decode prog_5_method_8_code 17 = .ok (.if_icmp .ne 13, 3) := by decide +kernel
theorem dd_22_20 : decode prog_5_method_8_code 20 = .ok (.aload_n 0, 1) := by decide +kernel
theorem dd_22_21 : decode prog_5_method_8_code 21 = .ok (.getfield 9, 3) := by decide +kernel
theorem dd_22_24 : decode prog_5_method_8_code 24 = .ok (.iload_n 3, 1) := by decide +kernel
theorem dd_22_25 : decode prog_5_method_8_code 25 = .ok (.iload_n 2, 1) := by decide +kernel
theorem dd_22_26 : decode prog_5_method_8_code 26 = .ok (.iastore, 1) := by decide +kernel
theorem dd_22_27 : decode prog_5_method_8_code 27 = .ok (.goto 20, 3) := by decide +kernel
theorem dd_22_30 : decode prog_5_method_8_code 30 = .ok (.aload_n 0, 1) := by decide +kernel
theorem dd_22_31 : decode prog_5_method_8_code 31 = .ok (.getfield 9, 3) := by decide +kernel
theorem dd_22_34 : decode prog_5_method_8_code 34 = .ok (.iload_n 3, 1) := by decide +kernel
theorem dd_22_35 : decode prog_5_method_8_code 35 = .ok (.iaload, 1) := by decide +kernel
theorem dd_22_36 : decode prog_5_method_8_code 36 = .ok (.iload_n 2, 1) := by decide +kernel
theorem dd_22_37 : decode prog_5_method_8_code 37 = .ok (.if_icmp .ne 10, 3) := by decide +kernel
theorem dd_22_40 : decode prog_5_method_8_code 40 = .ok (.aload_n 0, 1) := by decide +kernel
theorem dd_22_41 : decode prog_5_method_8_code 41 = .ok (.getfield 9, 3) := by decide +kernel
theorem dd_22_44 : decode prog_5_method_8_code 44 = .ok (.iload_n 3, 1) := by decide +kernel
theorem dd_22_45 : decode prog_5_method_8_code 45 = .ok (.iload_n 1, 1) := by decide +kernel
theorem dd_22_46 : decode prog_5_method_8_code 46 = .ok (.iastore, 1) := by decide +kernel
theorem dd_22_47 : decode prog_5_method_8_code 47 = .ok (.iinc 3 1, 3) := by decide +kernel
theorem dd_22_50 : decode prog_5_method_8_code 50 = .ok (.goto (-48), 3) := by decide +kernel
theorem dd_22_53 : decode prog_5_method_8_code 53 = .ok (.return_, 1) := by decide +kernel
theorem dd_23_0 : decode prog_1_method_1_code 0 = .ok (.aload_n 0, 1) := by decide +kernel
theorem dd_23_1 : decode prog_1_method_1_code 1 = .ok (.invokespecial 1, 3) := by decide +kernel
theorem dd_23_4 : decode prog_1_method_1_code 4 = .ok (.aload_n 0, 1) := by decide +kernel
theorem dd_23_5 : decode prog_1_method_1_code 5 = .ok (.new 7, 3) := by decide +kernel
theorem dd_23_8 : decode prog_1_method_1_code 8 = .ok (.dup, 1) := by decide +kernel
theorem dd_23_9 : decode prog_1_method_1_code 9 = .ok (.iload_n 1, 1) := by decide +kernel
theorem dd_23_10 : decode prog_1_method_1_code 10 = .ok (.invokestatic 9, 3) := by decide +kernel
theorem dd_23_13 : decode prog_1_method_1_code 13 = .ok (.iload_n 2, 1) := by decide +kernel
theorem dd_23_14 : decode prog_1_method_1_code 14 = .ok (.invokestatic 9, 3) := by decide +kernel
theorem dd_23_17 : decode prog_1_method_1_code 17 = .ok (.invokespecial 15, 3) := by decide +kernel
theorem dd_23_20 : decode prog_1_method_1_code 20 = .ok (.putfield 18, 3) := by decide +kernel
theorem dd_23_23 : decode prog_1_method_1_code 23 = .ok (.aload_n 0, 1) := by decide +kernel
theorem dd_23_24 : decode prog_1_method_1_code 24 = .ok (.aload_n 0, 1) := by decide +kernel
theorem dd_23_25 : decode prog_1_method_1_code 25 = .ok (.getfield 18, 3) := by decide +kernel
theorem dd_23_28 : decode prog_1_method_1_code 28 = .ok (.getfield 22, 3) := by decide +kernel
theorem dd_23_31 : decode prog_1_method_1_code 31 = .ok (.newarray .int, 2) := by decide +kernel
theorem dd_23_33 : decode prog_1_method_1_code 33 = .ok (.putfield 26, 3) := by decide +kernel
theorem dd_23_36 : decode prog_1_method_1_code 36 = .ok (.aload_n 0, 1) := by decide +kernel
theorem dd_23_37 : decode prog_1_method_1_code 37 = .ok (.aload_n 0, 1) := by decide +kernel
theorem dd_23_38 : decode prog_1_method_1_code 38 = .ok (.getfield 18, 3) := by decide +kernel
theorem dd_23_41 : decode prog_1_method_1_code 41 = .ok (.getfield 22, 3) := by decide +kernel
theorem dd_23_44 : decode prog_1_method_1_code 44 = .ok (.newarray .int, 2) := by decide +kernel
theorem dd_23_46 : decode prog_1_method_1_code 46 = .ok (.putfield 30, 3) := by decide +kernel
theorem dd_23_49 : decode prog_1_method_1_code 49 = .ok (.aload_n 0, 1) := by decide +kernel
theorem dd_23_50 : decode prog_1_method_1_code 50 = .ok (.new 33, 3) := by decide +kernel
theorem dd_23_53 : decode prog_1_method_1_code 53 = .ok (.dup, 1) := by decide +kernel
theorem dd_23_54 : decode prog_1_method_1_code 54 = .ok (.invokespecial 35, 3) := by decide +kernel
theorem dd_23_57 : decode prog_1_method_1_code 57 = .ok (.putfield 36, 3) := by decide +kernel
theorem dd_23_60 : decode prog_1_method_1_code 60 = .ok (.aload_n 0, 1) := by decide +kernel
theorem dd_23_61 : decode prog_1_method_1_code 61 = .ok (.new 40, 3) := by decide +kernel
theorem dd_23_64 : decode prog_1_method_1_code 64 = .ok (.dup, 1) := by decide +kernel
theorem dd_23_65 : decode prog_1_method_1_code 65 = .ok (.invokespecial 42, 3) := by decide +kernel
theorem dd_23_68 : decode prog_1_method_1_code 68 = .ok (.putfield 43, 3) := by decide +kernel
theorem dd_23_71 : decode prog_1_method_1_code 71 = .ok (.aload_n 0, 1) := by decide +kernel
theorem dd_23_72 : decode prog_1_method_1_code 72 = .ok (.new 47, 3) := by decide +kernel
theorem dd_23_75 : decode prog_1_method_1_code 75 = .ok (.dup, 1) := by decide +kernel
theorem dd_23_76 : decode prog_1_method_1_code 76 = .ok (.invokespecial 49, 3) := by decide +kernel
theorem dd_23_79 : decode prog_1_method_1_code 79 = .ok (.putfield 50, 3) := by decide +kernel
theorem dd_23_82 : decode prog_1_method_1_code 82 = .ok (.aload_n 0, 1) := by decide +kernel
theorem dd_23_83 : decode prog_1_method_1_code 83 = .ok (.aload_n 0, 1) := by decide +kernel
theorem dd_23_84 : decode prog_1_method_1_code 84 = .ok (.getfield 18, 3) := by decide +kernel
theorem dd_23_87 : decode prog_1_method_1_code 87 = .ok (.getfield 22, 3) := by decide +kernel
theorem dd_23_90 : decode prog_1_method_1_code 90 = .ok (.newarray .int, 2) := by decide +kernel
theorem dd_23_92 : decode prog_1_method_1_code 92 = .ok (.putfield 54, 3) := by decide +kernel
theorem dd_23_95 : decode prog_1_method_1_code 95 = .ok (.aload_n 0, 1) := by decide +kernel
theorem dd_23_96 : decode prog_1_method_1_code 96 = .ok (.aload_n 0, 1) := by decide +kernel
theorem dd_23_97 : decode prog_1_method_1_code 97 = .ok (.getfield 18, 3) := by decide +kernel
theorem dd_23_100 : decode prog_1_method_1_code 100 = .ok (.getfield 22, 3) := by decide +kernel
theorem dd_23_103 : decode prog_1_method_1_code 103 = .ok (.newarray .int, 2) := by decide +kernel
theorem dd_23_105 : decode prog_1_method_1_code 105 = .ok (.putfield 57, 3) := by decide +kernel
theorem dd_23_108 : decode prog_1_method_1_code 108 = .ok (.aload_n 0, 1) := by decide +kernel
theorem dd_23_109 : decode prog_1_method_1_code 109 = .ok (.aload_n 0, 1) := by decide +kernel
theorem dd_23_110 : decode prog_1_method_1_code 110 = .ok (.getfield 18, 3) := by decide +kernel
theorem dd_23_113 : decode prog_1_method_1_code 113 = .ok (.getfield 22, 3) := by decide +kernel
theorem dd_23_116 : decode prog_1_method_1_code 116 = .ok (.newarray .int, 2) := by decide +kernel
theorem dd_23_118 : decode prog_1_method_1_code 118 = .ok (.putfield 60, 3) := by decide +kernel
theorem dd_23_121 : decode prog_1_method_1_code 121 = .ok (.aload_n 0, 1) := by decide +kernel
theorem dd_23_122 : decode prog_1_method_1_code 122 = .ok (.aload_n 0, 1) := by decide +kernel
theorem dd_23_123 : decode prog_1_method_1_code 123 = .ok (.getfield 18, 3) := by decide +kernel
theorem dd_23_126 : decode prog_1_method_1_code 126 = .ok (.getfield 22, 3) := by decide +kernel
theorem dd_23_129 : decode prog_1_method_1_code 129 = .ok (.newarray .int, 2) := by decide +kernel
theorem dd_23_131 : decode prog_1_method_1_code 131 = .ok (.putfield 63, 3) := by decide +kernel
theorem dd_23_134 : decode prog_1_method_1_code 134 = .ok (.aload_n 0, 1) := by decide +kernel
theorem dd_23_135 : decode prog_1_method_1_code 135 = .ok (.iconst 0, 1) := by decide +kernel
theorem dd_23_136 : decode prog_1_method_1_code 136 = .ok (.putfield 66, 3) := by decide +kernel
theorem dd_23_139 : decode prog_1_method_1_code 139 = .ok (.aload_n 0, 1) := by decide +kernel
theorem dd_23_140 : decode prog_1_method_1_code 140 = .ok (.iconst 0, 1) := by decide +kernel
theorem dd_23_141 : decode prog_1_method_1_code 141 = .ok (.putfield 69, 3) := by decide +kernel
theorem dd_23_144 : decode prog_1_method_1_code 144 = .ok (.return_, 1) := by decide +kernel
theorem dd_24_0 : decode prog_1_method_2_code 0 = .ok (.aload_n 0, 1) := by decide +kernel
theorem dd_24_1 : decode prog_1_method_2_code 1 = .ok (.iload_n 1, 1) := by decide +kernel
theorem dd_24_2 : decode prog_1_method_2_code 2 = .ok (.iload_n 2, 1) := by decide +kernel
theorem dd_24_3 : decode prog_1_method_2_code 3 = .ok (.invokevirtual 72, 3) := by decide +kernel
theorem dd_24_6 : decode prog_1_method_2_code 6 = .ok (.istore 4, 2) := by decide +kernel
theorem dd_24_8 : decode prog_1_method_2_code 8 = .ok (.iload_n 3, 1) := by decide +kernel
theorem dd_24_9 : decode prog_1_method_2_code 9 = .ok (.invokestatic 76, 3) := by decide +kernel
theorem dd_24_12 : decode prog_1_method_2_code 12 = .ok (.aload_n 0, 1) := by decide +kernel
theorem dd_24_13 : decode prog_1_method_2_code 13 = .ok (.getfield 60, 3) := by decide +kernel
theorem dd_24_16 : decode prog_1_method_2_code 16 = .ok (.iload 4, 2) := by decide +kernel
theorem dd_24_18 : decode prog_1_method_2_code 18 = .ok (.iload_n 3, 1) := by decide +kernel
theorem dd_24_19 : decode prog_1_method_2_code 19 = .ok (.iastore, 1) := by decide +kernel
theorem dd_24_20 : decode prog_1_method_2_code 20 = .ok (.aload_n 0, 1) := by decide +kernel
theorem dd_24_21 : decode prog_1_method_2_code 21 = .ok (.getfield 50, 3) := by decide +kernel
theorem dd_24_24 : decode prog_1_method_2_code 24 = .ok (.iload 4, 2) := by decide +kernel
theorem dd_24_26 : decode prog_1_method_2_code 26 = .ok (.invokevirtual 80, 3) := by decide +kernel
theorem dd_24_29 : decode prog_1_method_2_code 29 = .ok (.return_, 1) := by decide +kernel
theorem dd_25_0 : decode prog_1_method_3_code 0 = .ok (.aload_n 0, 1) := by decide +kernel
theorem dd_25_1 : decode prog_1_method_3_code 1 = .ok (.getfield 60, 3) := by decide +kernel
theorem dd_25_4 : decode prog_1_method_3_code 4 = .ok (.aload_n 0, 1) := by decide +kernel
theorem dd_25_5 : decode prog_1_method_3_code 5 = .ok (.iload_n 1, 1) := by decide +kernel
theorem dd_25_6 : decode prog_1_method_3_code 6 = .ok (.iload_n 2, 1) := by decide +kernel
theorem dd_25_7 : decode prog_1_method_3_code 7 = .ok (.invokevirtual 72, 3) := by decide +kernel
theorem dd_25_10 : decode prog_1_method_3_code 10 = .ok (.iaload, 1) := by decide +kernel
theorem dd_25_11 : decode prog_1_method_3_code 11 = .ok (.ireturn, 1) := by decide +kernel
theorem dd_26_0 : decode prog_1_method_4_code 0 = .ok (.iload_n 1, 1) := by decide +kernel
theorem dd_26_1 : decode prog_1_method_4_code 1 = .ok (.invokestatic 76, 3) := by decide +kernel
theorem dd_26_4 : decode prog_1_method_4_code 4 = .ok (.iload_n 2, 1) := by decide +kernel
theorem dd_26_5 : decode prog_1_method_4_code 5 = .ok (.iconst 0, 1) := by decide +kernel
theorem dd_26_6 : decode prog_1_method_4_code 6 = .ok (.iconst 1, 1) := by decide +kernel
theorem dd_26_7 : decode prog_1_method_4_code 7 = .ok (.invokestatic 83, 3) := by decide +kernel
theorem dd_26_10 : decode prog_1_method_4_code 10 = .ok (.iload_n 1, 1) := by decide +kernel
theorem dd_26_11 : decode prog_1_method_4_code 11 = .ok (.iload_n 2, 1) := by decide +kernel
theorem dd_26_12 : decode prog_1_method_4_code 12 = .ok (.invokestatic 87, 3) := by decide +kernel
theorem dd_26_15 : decode prog_1_method_4_code 15 = .ok (.ireturn, 1) := by decide +kernel
theorem dd_27_0 : decode prog_1_method_5_code 0 = .ok (.aload_n 0, 1) := by decide +kernel
theorem dd_27_1 : decode prog_1_method_5_code 1 = .ok (.aload_n 0, 1) := by decide +kernel
theorem dd_27_2 : decode prog_1_method_5_code 2 = .ok (.iload_n 1, 1) := by decide +kernel
theorem dd_27_3 : decode prog_1_method_5_code 3 = .ok (.iload_n 2, 1) := by decide +kernel
theorem dd_27_4 : decode prog_1_method_5_code 4 = .ok (.invokevirtual 72, 3) := by decide +kernel
theorem dd_27_7 : decode prog_1_method_5_code 7 = .ok (.iconst 1, 1) := by decide +kernel
theorem dd_27_8 : decode prog_1_method_5_code 8 = .ok (.iload_n 3, 1) := by decide +kernel
theorem dd_27_9 : decode prog_1_method_5_code 9 = .ok (.invokevirtual 90, 3) := by decide +kernel
theorem dd_27_12 : decode prog_1_method_5_code 12 = .ok (.ireturn, 1) := by decide +kernel
theorem dd_28_0 : decode prog_1_method_6_code 0 = .ok (.aload_n 0, 1) := by decide +kernel
theorem dd_28_1 : decode prog_1_method_6_code 1 = .ok (.iload_n 1, 1) := by decide +kernel
theorem dd_28_2 : decode prog_1_method_6_code 2 = .ok (.iload_n 2, 1) := by decide +kernel
theorem dd_28_3 : decode prog_1_method_6_code 3 = .ok (.invokevirtual 72, 3) := by decide +kernel
theorem dd_28_6 : decode prog_1_method_6_code 6 = .ok (.istore 4, 2) := by decide +kernel
theorem dd_28_8 : decode prog_1_method_6_code 8 = .ok (.iload_n 3, 1) := by decide +kernel
theorem dd_28_9 : decode prog_1_method_6_code 9 = .ok (.iconst 0, 1) := by decide +kernel
theorem dd_28_10 : decode prog_1_method_6_code 10 = .ok (.sipush 256, 3) := by decide +kernel
theorem dd_28_13 : decode prog_1_method_6_code 13 = .ok (.invokestatic 83, 3) := by decide +kernel
theorem dd_28_16 : decode prog_1_method_6_code 16 = .ok (.aload_n 0, 1) := by decide +kernel
theorem dd_28_17 : decode prog_1_method_6_code 17 = .ok (.iload 4, 2) := by decide +kernel
theorem dd_28_19 : decode prog_1_method_6_code 19 = .ok (.iconst 2, 1) := by decide +kernel
theorem dd_28_20 : decode prog_1_method_6_code 20 = .ok (.iload_n 3, 1) := by decide +kernel
theorem dd_28_21 : decode prog_1_method_6_code 21 = .ok (.ifCond .le 7, 3) := by decide +kernel
theorem dd_28_24 : decode prog_1_method_6_code 24 = .ok (.iconst 1, 1) := by decide +kernel
theorem dd_28_25 : decode prog_1_method_6_code 25 = .ok (.goto 4, 3) := by decide +kernel
theorem dd_28_28 : decode prog_1_method_6_code 28 = .ok (.iconst 0, 1) := by decide +kernel
theorem dd_28_29 : decode prog_1_method_6_code 29 = .ok (.invokevirtual 90, 3) := by decide +kernel
theorem dd_28_32 : decode prog_1_method_6_code 32 = .ok (.pop, 1) := by decide +kernel
theorem dd_28_33 : decode prog_1_method_6_code 33 = .ok (.aload_n 0, 1) := by decide +kernel
theorem dd_28_34 : decode prog_1_method_6_code 34 = .ok (.getfield 30, 3) := by decide +kernel
theorem dd_28_37 : decode prog_1_method_6_code 37 = .ok (.iload 4, 2) := by decide +kernel
theorem dd_28_39 : decode prog_1_method_6_code 39 = .ok (.iload_n 3, 1) := by decide +kernel
theorem dd_28_40 : decode prog_1_method_6_code 40 = .ok (.iastore, 1) := by decide +kernel
theorem dd_28_41 : decode prog_1_method_6_code 41 = .ok (.return_, 1) := by decide +kernel
theorem dd_29_0 : decode prog_1_method_7_code 0 = .ok (.aload_n 0, 1) := by decide +kernel
theorem dd_29_1 : decode prog_1_method_7_code 1 = .ok (.aload_n 0, 1) := by decide +kernel
theorem dd_29_2 : decode prog_1_method_7_code 2 = .ok (.iload_n 1, 1) := by decide +kernel
theorem dd_29_3 : decode prog_1_method_7_code 3 = .ok (.iload_n 2, 1) := by decide +kernel
theorem dd_29_4 : decode prog_1_method_7_code 4 = .ok (.invokevirtual 72, 3) := by decide +kernel
theorem dd_29_7 : decode prog_1_method_7_code 7 = .ok (.iconst 3, 1) := by decide +kernel
theorem dd_29_8 : decode prog_1_method_7_code 8 = .ok (.iload_n 3, 1) := by decide +kernel
theorem dd_29_9 : decode prog_1_method_7_code 9 = .ok (.invokevirtual 90, 3) := by decide +kernel
theorem dd_29_12 : decode prog_1_method_7_code 12 = .ok (.ireturn, 1) := by decide +kernel
theorem dd_30_0 : decode prog_1_method_8_code 0 = .ok (.aload_n 0, 1) := by decide +kernel
theorem dd_30_1 : decode prog_1_method_8_code 1 = .ok (.aload_n 0, 1) := by decide +kernel
theorem dd_30_2 : decode prog_1_method_8_code 2 = .ok (.iload_n 1, 1) := by decide +kernel
theorem dd_30_3 : decode prog_1_method_8_code 3 = .ok (.iload_n 2, 1) := by decide +kernel
theorem dd_30_4 : decode prog_1_method_8_code 4 = .ok (.invokevirtual 72, 3) := by decide +kernel
theorem dd_30_7 : decode prog_1_method_8_code 7 = .ok (.iconst 4, 1) := by decide +kernel
theorem dd_30_8 : decode prog_1_method_8_code 8 = .ok (.iload_n 3, 1) := by decide +kernel
theorem dd_30_9 : decode prog_1_method_8_code 9 = .ok (.invokevirtual 90, 3) := by decide +kernel
theorem dd_30_12 : decode prog_1_method_8_code 12 = .ok (.ireturn, 1) := by decide +kernel
theorem dd_31_0 : decode prog_1_method_9_code 0 = .ok (.aload_n 0, 1) := by decide +kernel
theorem dd_31_1 : decode prog_1_method_9_code 1 = .ok (.getfield 26, 3) := by decide +kernel
theorem dd_31_4 : decode prog_1_method_9_code 4 = .ok (.aload_n 0, 1) := by decide +kernel
theorem dd_31_5 : decode prog_1_method_9_code 5 = .ok (.iload_n 1, 1) := by decide +kernel
theorem dd_31_6 : decode prog_1_method_9_code 6 = .ok (.iload_n 2, 1) := by decide +kernel
theorem dd_31_7 : decode prog_1_method_9_code 7 = .ok (.invokevirtual 72, 3) := by decide +kernel
theorem dd_31_10 : decode prog_1_method_9_code 10 = .ok (.iaload, 1) := by decide +kernel
theorem dd_31_11 : decode prog_1_method_9_code 11 = .ok (.ireturn, 1) := by decide +kernel
theorem dd_32_0 : decode prog_1_method_10_code 0 = .ok (.iload_n 1, 1) := by decide +kernel
theorem dd_32_1 : decode prog_1_method_10_code 1 = .ok (.iconst 1, 1) := by decide +kernel
theorem dd_32_2 : decode prog_1_method_10_code 2 = .ok (.sipush 10000, 3) := by decide +kernel
theorem dd_32_5 : decode prog_1_method_10_code 5 = .ok (.invokestatic 83, 3) := by decide +kernel
theorem dd_32_8 : decode prog_1_method_10_code 8 = .ok (.aload_n 0, 1) := by decide +kernel
theorem dd_32_9 : decode prog_1_method_10_code 9 = .ok (.getfield 43, 3) := by decide +kernel
theorem dd_32_12 : decode prog_1_method_10_code 12 = .ok (.iload_n 1, 1) := by decide +kernel
theorem dd_32_13 : decode prog_1_method_10_code 13 = .ok (.putfield 94, 3) := by decide +kernel
theorem dd_32_16 : decode prog_1_method_10_code 16 = .ok (.return_, 1) := by decide +kernel
theorem dd_33_0 : decode prog_1_method_11_code 0 = .ok (.iload_n 1, 1) := by decide +kernel
theorem dd_33_1 : decode prog_1_method_11_code 1 = .ok (.iconst 0, 1) := by decide +kernel
theorem dd_33_2 : decode prog_1_method_11_code 2 = .ok (.iconst 2, 1) := by decide +kernel
theorem dd_33_3 : decode prog_1_method_11_code 3 = .ok (.invokestatic 83, 3) := by decide +kernel
theorem dd_33_6 : decode prog_1_method_11_code 6 = .ok (.iload_n 1, 1) := by decide +kernel
theorem dd_33_7 : decode prog_1_method_11_code 7 = .ok (.ifCond .ne 11, 3) := by decide +kernel
theorem dd_33_10 : decode prog_1_method_11_code 10 = .ok (.aload_n 0, 1) := by decide +kernel
theorem dd_33_11 : decode prog_1_method_11_code 11 = .ok (.getfield 43, 3) := by decide +kernel
theorem dd_33_14 : decode prog_1_method_11_code 14 = .ok (.getfield 97, 3) := by decide +kernel
theorem dd_33_17 : decode prog_1_method_11_code 17 = .ok (.ireturn, 1) := by decide +kernel
theorem dd_33_18 : decode prog_1_method_11_code 18 = .ok (.iload_n 1, 1) := by decide +kernel
theorem dd_33_19 : decode prog_1_method_11_code 19 = .ok (.iconst 1, 1) := by decide +kernel
theorem dd_33_20 : decode prog_1_method_11_code 20 = .ok (.if_icmp .ne 13, 3) := by decide +kernel
theorem dd_33_23 : decode prog_1_method_11_code 23 = .ok (.aload_n 0, 1) := by decide +kernel
theorem dd_33_24 : decode prog_1_method_11_code 24 = .ok (.getfield 43, 3) := by decide +kernel
theorem dd_33_27 : decode prog_1_method_11_code 27 = .ok (.getfield 100, 3) := by decide +kernel
theorem dd_33_30 : decode prog_1_method_11_code 30 = .ok (.goto 10, 3) := by decide +kernel
theorem dd_33_33 : decode prog_1_method_11_code 33 = .ok (.aload_n 0, 1) := by decide +kernel
theorem dd_33_34 : decode prog_1_method_11_code 34 = .ok (.getfield 43, 3) := by decide +kernel
theorem dd_33_37 : decode prog_1_method_11_code 37 = .ok (.getfield 103, 3) := by decide +kernel
theorem dd_33_40 : decode prog_1_method_11_code 40 = .ok (.ireturn, 1) := by decide +kernel
theorem dd_34_0 : decode prog_1_method_12_code 0 = .ok (.aload_n 0, 1) := by decide +kernel
theorem dd_34_1 : decode prog_1_method_12_code 1 = .ok (.iload_n 1, 1) := by decide +kernel
theorem dd_34_2 : decode prog_1_method_12_code 2 = .ok (.putfield 69, 3) := by decide +kernel
theorem dd_34_5 : decode prog_1_method_12_code 5 = .ok (.return_, 1) := by decide +kernel
theorem dd_35_0 : decode prog_1_method_13_code 0 = .ok (.iload_n 1, 1) := by decide +kernel
theorem dd_35_1 : decode prog_1_method_13_code 1 = .ok (.iconst 0, 1) := by decide +kernel
theorem dd_35_2 : decode prog_1_method_13_code 2 = .ok (.bipush 64, 2) := by decide +kernel
theorem dd_35_4 : decode prog_1_method_13_code 4 = .ok (.invokestatic 83, 3) := by decide +kernel
theorem dd_35_7 : decode prog_1_method_13_code 7 = .ok (.iconst 0, 1) := by decide +kernel
theorem dd_35_8 : decode prog_1_method_13_code 8 = .ok (.istore_n 2, 1) := by decide +kernel
theorem dd_35_9 : decode prog_1_method_13_code 9 = .ok (.iload_n 2, 1) := by decide +kernel
theorem dd_35_10 : decode prog_1_method_13_code 10 = .ok (.iload_n 1, 1) := by decide +kernel
theorem dd_35_11 : decode prog_1_method_13_code 11 = .ok (.if_icmp .ge 13, 3) := by decide +kernel
theorem dd_35_14 : decode prog_1_method_13_code 14 = .ok (.aload_n 0, 1) := by decide +kernel
theorem dd_35_15 : decode prog_1_method_13_code 15 = .ok (.invokevirtual 106, 3) := by decide +kernel
theorem dd_35_18 : decode prog_1_method_13_code 18 = .ok (.iinc 2 1, 3) := by decide +kernel
theorem dd_35_21 : decode prog_1_method_13_code 21 = .ok (.goto (-12), 3) := by decide +kernel
theorem dd_35_24 : decode prog_1_method_13_code 24 = .ok (.aload_n 0, 1) := by decide +kernel
theorem dd_35_25 : decode prog_1_method_13_code 25 = .ok (.getfield 66, 3) := by decide +kernel
theorem dd_35_28 : decode prog_1_method_13_code 28 = .ok (.ireturn, 1) := by decide +kernel
theorem dd_36_0 : decode prog_1_method_14_code 0 = .ok (.iload_n 1, 1) := by decide +kernel
theorem dd_36_1 : decode prog_1_method_14_code 1 = .ok (.iconst 0, 1) := by decide +kernel
theorem dd_36_2 : decode prog_1_method_14_code 2 = .ok (.bipush 64, 2) := by decide +kernel
theorem dd_36_4 : decode prog_1_method_14_code 4 = .ok (.invokestatic 83, 3) := by decide +kernel
theorem dd_36_7 : decode prog_1_method_14_code 7 = .ok (.aload_n 0, 1) := by decide +kernel
theorem dd_36_8 : decode prog_1_method_14_code 8 = .ok (.invokevirtual 109, 3) := by decide +kernel
theorem dd_36_11 : decode prog_1_method_14_code 11 = .ok (.ifCond .ne 13, 3) := by decide +kernel
theorem dd_36_14 : decode prog_1_method_14_code 14 = .ok (.new 113, 3) := by decide +kernel
theorem dd_36_17 : decode prog_1_method_14_code 17 = .ok (.dup, 1) := by decide +kernel
theorem dd_36_18 : decode prog_1_method_14_code 18 = .ok (.ldc 115, 2) := by decide +kernel
theorem dd_36_20 : decode prog_1_method_14_code 20 = .ok (.invokespecial 117, 3) := by decide +kernel
theorem dd_36_23 : decode prog_1_method_14_code 23 = .ok (.athrow, 1) := by decide +kernel
theorem dd_36_24 : decode prog_1_method_14_code 24 = .ok (.iconst 0, 1) := by decide +kernel
theorem dd_36_25 : decode prog_1_method_14_code 25 = .ok (.istore_n 2, 1) := by decide +kernel
theorem dd_36_26 : decode prog_1_method_14_code 26 = .ok (.iload_n 2, 1) := by decide +kernel
theorem dd_36_27 : decode prog_1_method_14_code 27 = .ok (.iload_n 1, 1) := by decide +kernel
theorem dd_36_28 : decode prog_1_method_14_code 28 = .ok (.if_icmp .ge 13, 3) := by decide +kernel
theorem dd_36_31 : decode prog_1_method_14_code 31 = .ok (.aload_n 0, 1) := by decide +kernel
theorem dd_36_32 : decode prog_1_method_14_code 32 = .ok (.invokevirtual 120, 3) := by decide +kernel
theorem dd_36_35 : decode prog_1_method_14_code 35 = .ok (.iinc 2 1, 3) := by decide +kernel
theorem dd_36_38 : decode prog_1_method_14_code 38 = .ok (.goto (-12), 3) := by decide +kernel
theorem dd_36_41 : decode prog_1_method_14_code 41 = .ok (.aload_n 0, 1) := by decide +kernel
theorem dd_36_42 : decode prog_1_method_14_code 42 = .ok (.getfield 66, 3) := by decide +kernel
theorem dd_36_45 : decode prog_1_method_14_code 45 = .ok (.ireturn, 1) := by decide +kernel
theorem dd_37_0 : decode prog_1_method_15_code 0 = .ok (.aload_n 0, 1) := by decide +kernel
theorem dd_37_1 : decode prog_1_method_15_code 1 = .ok (.iload_n 1, 1) := by decide +kernel
theorem dd_37_2 : decode prog_1_method_15_code 2 = .ok (.iload_n 2, 1) := by decide +kernel
theorem dd_37_3 : decode prog_1_method_15_code 3 = .ok (.invokevirtual 72, 3) := by decide +kernel
theorem dd_37_6 : decode prog_1_method_15_code 6 = .ok (.istore 6, 2) := by decide +kernel
theorem dd_37_8 : decode prog_1_method_15_code 8 = .ok (.iload_n 3, 1) := by decide +kernel
theorem dd_37_9 : decode prog_1_method_15_code 9 = .ok (.iconst 1, 1) := by decide +kernel
theorem dd_37_10 : decode prog_1_method_15_code 10 = .ok (.if_icmp .lt 36, 3) := by decide +kernel
theorem dd_37_13 : decode prog_1_method_15_code 13 = .ok (.iload_n 3, 1) := by decide +kernel
theorem dd_37_14 : decode prog_1_method_15_code 14 = .ok (.aload_n 0, 1) := by decide +kernel
theorem dd_37_15 : decode prog_1_method_15_code 15 = .ok (.getfield 18, 3) := by decide +kernel
theorem dd_37_18 : decode prog_1_method_15_code 18 = .ok (.getfield 123, 3) := by decide +kernel
theorem dd_37_21 : decode prog_1_method_15_code 21 = .ok (.iload_n 1, 1) := by decide +kernel
theorem dd_37_22 : decode prog_1_method_15_code 22 = .ok (.isub, 1) := by decide +kernel
theorem dd_37_23 : decode prog_1_method_15_code 23 = .ok (.if_icmp .gt 23, 3) := by decide +kernel
theorem dd_37_26 : decode prog_1_method_15_code 26 = .ok (.iload 4, 2) := by decide +kernel
theorem dd_37_28 : decode prog_1_method_15_code 28 = .ok (.iconst 1, 1) := by decide +kernel
theorem dd_37_29 : decode prog_1_method_15_code 29 = .ok (.if_icmp .lt 17, 3) := by decide +kernel
theorem dd_37_32 : decode prog_1_method_15_code 32 = .ok (.iload 4, 2) := by decide +kernel
theorem dd_37_34 : decode prog_1_method_15_code 34 = .ok (.aload_n 0, 1) := by decide +kernel
theorem dd_37_35 : decode prog_1_method_15_code 35 = .ok (.getfield 18, 3) := by decide +kernel
theorem dd_37_38 : decode prog_1_method_15_code 38 = .ok (.getfield 126, 3) := by decide +kernel
theorem dd_37_41 : decode prog_1_method_15_code 41 = .ok (.iload_n 2, 1) := by decide +kernel
theorem dd_37_42 : decode prog_1_method_15_code 42 = .ok (.isub, 1) := by decide +kernel
theorem dd_37_43 : decode prog_1_method_15_code 43 = .ok (.if_icmp .le 13, 3) := by decide +kernel
theorem dd_37_46 : decode prog_1_method_15_code 46 = .ok (.new 129, 3) := by decide +kernel
theorem dd_37_49 : decode prog_1_method_15_code 49 = .ok (.dup, 1) := by decide +kernel
theorem dd_37_50 : decode prog_1_method_15_code 50 = .ok (.ldc 131, 2) := by decide +kernel
theorem dd_37_52 : decode prog_1_method_15_code 52 = .ok (.invokespecial 133, 3) := by decide +kernel
theorem dd_37_55 : decode prog_1_method_15_code 55 = .ok (.athrow, 1) := by decide +kernel
theorem dd_37_56 : decode prog_1_method_15_code 56 = .ok (.iload 5, 2) := by decide +kernel
theorem dd_37_58 : decode prog_1_method_15_code 58 = .ok (.iconst 0, 1) := by decide +kernel
theorem dd_37_59 : decode prog_1_method_15_code 59 = .ok (.iconst 2, 1) := by decide +kernel
theorem dd_37_60 : decode prog_1_method_15_code 60 = .ok (.invokestatic 83, 3) := by decide +kernel
theorem dd_37_63 : decode prog_1_method_15_code 63 = .ok (.iconst 0, 1) := by decide +kernel
theorem dd_37_64 : decode prog_1_method_15_code 64 = .ok (.istore 7, 2) := by decide +kernel
theorem dd_37_66 : decode prog_1_method_15_code 66 = .ok (.iconst 0, 1) := by decide +kernel
theorem dd_37_67 : decode prog_1_method_15_code 67 = .ok (.istore 8, 2) := by decide +kernel
theorem dd_37_69 : decode prog_1_method_15_code 69 = .ok (.iload 8, 2) := by decide +kernel
theorem dd_37_71 : decode prog_1_method_15_code 71 = .ok (.iload 4, 2) := by decide +kernel
theorem dd_37_73 : decode prog_1_method_15_code 73 = .ok (.if_icmp .ge 55, 3) := by decide +kernel
theorem dd_37_76 : decode prog_1_method_15_code 76 = .ok (.iconst 0, 1) := by decide +kernel
theorem dd_37_77 : decode prog_1_method_15_code 77 = .ok (.istore 9, 2) := by decide +kernel
theorem dd_37_79 : decode prog_1_method_15_code 79 = .ok (.iload 9, 2) := by decide +kernel
theorem dd_37_81 : decode prog_1_method_15_code 81 = .ok (.iload_n 3, 1) := by decide +kernel
theorem dd_37_82 : decode prog_1_method_15_code 82 = .ok (.if_icmp .ge 40, 3) := by decide +kernel
theorem dd_37_85 : decode prog_1_method_15_code 85 = .ok (.iload 7, 2) := by decide +kernel
theorem dd_37_87 : decode prog_1_method_15_code 87 = .ok (.aload_n 0, 1) := by decide +kernel
theorem dd_37_88 : decode prog_1_method_15_code 88 = .ok (.getfield 60, 3) := by decide +kernel
theorem dd_37_91 : decode prog_1_method_15_code 91 = .ok (.iload 6, 2) := by decide +kernel
theorem dd_37_93 : decode prog_1_method_15_code 93 = .ok (.iload 8, 2) := by decide +kernel
theorem dd_37_95 : decode prog_1_method_15_code 95 = .ok (.aload_n 0, 1) := by decide +kernel
theorem dd_37_96 : decode prog_1_method_15_code 96 = .ok (.getfield 18, 3) := by decide +kernel
theorem dd_37_99 : decode prog_1_method_15_code 99 = .ok (.getfield 123, 3) := by decide +kernel
theorem dd_37_102 : decode prog_1_method_15_code 102 = .ok (.imul, 1) := by decide +kernel
theorem dd_37_103 : decode prog_1_method_15_code 103 = .ok (.iadd, 1) := by decide +kernel
theorem dd_37_104 : decode prog_1_method_15_code 104 = .ok (.iload 9, 2) := by decide +kernel
theorem dd_37_106 : decode prog_1_method_15_code 106 = .ok (.iadd, 1) := by decide +kernel
theorem dd_37_107 : decode prog_1_method_15_code 107 = .ok (.iaload, 1) := by decide +kernel
theorem dd_37_108 : decode prog_1_method_15_code 108 = .ok (.iload 5, 2) := by decide +kernel
theorem dd_37_110 : decode prog_1_method_15_code 110 = .ok (.invokestatic 134, 3) := by decide +kernel
theorem dd_37_113 : decode prog_1_method_15_code 113 = .ok (.iadd, 1) := by decide +kernel
theorem dd_37_114 : decode prog_1_method_15_code 114 = .ok (.istore 7, 2) := by decide +kernel
theorem dd_37_116 : decode prog_1_method_15_code 116 = .ok (.iinc 9 1, 3) := by decide +kernel
theorem dd_37_119 : decode prog_1_method_15_code 119 = .ok (.goto (-40), 3) := by decide +kernel
theorem dd_37_122 : decode prog_1_method_15_code 122 = .ok (.iinc 8 1, 3) := by decide +kernel
theorem dd_37_125 : decode prog_1_method_15_code 125 = .ok (.goto (-56), 3) := by decide +kernel
theorem dd_37_128 : decode prog_1_method_15_code 128 = .ok (.iload 7, 2) := by decide +kernel
theorem dd_37_130 : decode prog_1_method_15_code 130 = .ok (.ireturn, 1) := by decide +kernel
theorem dd_38_0 : decode prog_1_method_16_code 0 = .ok (.iload_n 1, 1) := by decide +kernel
theorem dd_38_1 : decode prog_1_method_16_code 1 = .ok (.iconst 0, 1) := by decide +kernel
theorem dd_38_2 : decode prog_1_method_16_code 2 = .ok (.iconst 3, 1) := by decide +kernel
theorem dd_38_3 : decode prog_1_method_16_code 3 = .ok (.invokestatic 83, 3) := by decide +kernel
theorem dd_38_6 : decode prog_1_method_16_code 6 = .ok (.iload_n 2, 1) := by decide +kernel
theorem dd_38_7 : decode prog_1_method_16_code 7 = .ok (.iconst 0, 1) := by decide +kernel
theorem dd_38_8 : decode prog_1_method_16_code 8 = .ok (.iconst 2, 1) := by decide +kernel
theorem dd_38_9 : decode prog_1_method_16_code 9 = .ok (.invokestatic 83, 3) := by decide +kernel
theorem dd_38_12 : decode prog_1_method_16_code 12 = .ok (.aload_n 0, 1) := by decide +kernel
theorem dd_38_13 : decode prog_1_method_16_code 13 = .ok (.getfield 36, 3) := by decide +kernel
theorem dd_38_16 : decode prog_1_method_16_code 16 = .ok (.getfield 137, 3) := by decide +kernel
theorem dd_38_19 : decode prog_1_method_16_code 19 = .ok (.iload_n 1, 1) := by decide +kernel
theorem dd_38_20 : decode prog_1_method_16_code 20 = .ok (.iconst 3, 1) := by decide +kernel
theorem dd_38_21 : decode prog_1_method_16_code 21 = .ok (.imul, 1) := by decide +kernel
theorem dd_38_22 : decode prog_1_method_16_code 22 = .ok (.iload_n 2, 1) := by decide +kernel
theorem dd_38_23 : decode prog_1_method_16_code 23 = .ok (.iadd, 1) := by decide +kernel
theorem dd_38_24 : decode prog_1_method_16_code 24 = .ok (.iaload, 1) := by decide +kernel
theorem dd_38_25 : decode prog_1_method_16_code 25 = .ok (.ireturn, 1) := by decide +kernel
theorem dd_39_0 : decode prog_1_method_17_code 0 = .ok (.iconst 0, 1) := by decide +kernel
theorem dd_39_1 : decode prog_1_method_17_code 1 = .ok (.istore_n 1, 1) := by decide +kernel
theorem dd_39_2 : decode prog_1_method_17_code 2 = .ok (.iconst 0, 1) := by decide +kernel
theorem dd_39_3 : decode prog_1_method_17_code 3 = .ok (.istore_n 2, 1) := by decide +kernel
theorem dd_39_4 : decode prog_1_method_17_code 4 = .ok (.iload_n 2, 1) := by decide +kernel
theorem dd_39_5 : decode prog_1_method_17_code 5 = .ok (.aload_n 0, 1) := by decide +kernel
theorem dd_39_6 : decode prog_1_method_17_code 6 = .ok (.getfield 18, 3) := by decide +kernel
theorem dd_39_9 : decode prog_1_method_17_code 9 = .ok (.getfield 22, 3) := by decide +kernel
theorem dd_39_12 : decode prog_1_method_17_code 12 = .ok (.if_icmp .ge 41, 3) := by decide +kernel
theorem dd_39_15 : decode prog_1_method_17_code 15 = .ok (.iload_n 1, 1) := by decide +kernel
theorem dd_39_16 : decode prog_1_method_17_code 16 = .ok (.aload_n 0, 1) := by decide +kernel
theorem dd_39_17 : decode prog_1_method_17_code 17 = .ok (.getfield 60, 3) := by decide +kernel
theorem dd_39_20 : decode prog_1_method_17_code 20 = .ok (.iload_n 2, 1) := by decide +kernel
theorem dd_39_21 : decode prog_1_method_17_code 21 = .ok (.iaload, 1) := by decide +kernel
theorem dd_39_22 : decode prog_1_method_17_code 22 = .ok (.aload_n 0, 1) := by decide +kernel
theorem dd_39_23 : decode prog_1_method_17_code 23 = .ok (.getfield 18, 3) := by decide +kernel
theorem dd_39_26 : decode prog_1_method_17_code 26 = .ok (.iload_n 2, 1) := by decide +kernel
theorem dd_39_27 : decode prog_1_method_17_code 27 = .ok (.invokevirtual 140, 3) := by decide +kernel
theorem dd_39_30 : decode prog_1_method_17_code 30 = .ok (.bipush 16, 2) := by decide +kernel
theorem dd_39_32 : decode prog_1_method_17_code 32 = .ok (.imul, 1) := by decide +kernel
theorem dd_39_33 : decode prog_1_method_17_code 33 = .ok (.aload_n 0, 1) := by decide +kernel
theorem dd_39_34 : decode prog_1_method_17_code 34 = .ok (.getfield 18, 3) := by decide +kernel
theorem dd_39_37 : decode prog_1_method_17_code 37 = .ok (.iload_n 2, 1) := by decide +kernel
theorem dd_39_38 : decode prog_1_method_17_code 38 = .ok (.invokevirtual 143, 3) := by decide +kernel
theorem dd_39_41 : decode prog_1_method_17_code 41 = .ok (.iadd, 1) := by decide +kernel
theorem dd_39_42 : decode prog_1_method_17_code 42 = .ok (.iconst 1, 1) := by decide +kernel
theorem dd_39_43 : decode prog_1_method_17_code 43 = .ok (.iadd, 1) := by decide +kernel
theorem dd_39_44 : decode prog_1_method_17_code 44 = .ok (.imul, 1) := by decide +kernel
theorem dd_39_45 : decode prog_1_method_17_code 45 = .ok (.iadd, 1) := by decide +kernel
theorem dd_39_46 : decode prog_1_method_17_code 46 = .ok (.istore_n 1, 1) := by decide +kernel
theorem dd_39_47 : decode prog_1_method_17_code 47 = .ok (.iinc 2 1, 3) := by decide +kernel
theorem dd_39_50 : decode prog_1_method_17_code 50 = .ok (.goto (-46), 3) := by decide +kernel
theorem dd_39_53 : decode prog_1_method_17_code 53 = .ok (.iload_n 1, 1) := by decide +kernel
theorem dd_39_54 : decode prog_1_method_17_code 54 = .ok (.ireturn, 1) := by decide +kernel
theorem dd_40_0 : decode prog_1_method_18_code 0 = .ok (.aload_n 0, 1) := by decide +kernel
theorem dd_40_1 : decode prog_1_method_18_code 1 = .ok (.iload_n 1, 1) := by decide +kernel
theorem dd_40_2 : decode prog_1_method_18_code 2 = .ok (.iload_n 2, 1) := by decide +kernel
theorem dd_40_3 : decode prog_1_method_18_code 3 = .ok (.invokevirtual 72, 3) := by decide +kernel
theorem dd_40_6 : decode prog_1_method_18_code 6 = .ok (.istore 4, 2) := by decide +kernel
theorem dd_40_8 : decode prog_1_method_18_code 8 = .ok (.iload_n 3, 1) := by decide +kernel
theorem dd_40_9 : decode prog_1_method_18_code 9 = .ok (.iconst 0, 1) := by decide +kernel
theorem dd_40_10 : decode prog_1_method_18_code 10 = .ok (.bipush 6, 2) := by decide +kernel
theorem dd_40_12 : decode prog_1_method_18_code 12 = .ok (.invokestatic 83, 3) := by decide +kernel
theorem dd_40_15 : decode prog_1_method_18_code 15 = .ok (.aload_n 0, 1) := by decide +kernel
theorem dd_40_16 : decode prog_1_method_18_code 16 = .ok (.getfield 60, 3) := by decide +kernel
theorem dd_40_19 : decode prog_1_method_18_code 19 = .ok (.iload 4, 2) := by decide +kernel
theorem dd_40_21 : decode prog_1_method_18_code 21 = .ok (.iaload, 1) := by decide +kernel
theorem dd_40_22 : decode prog_1_method_18_code 22 = .ok (.iload_n 3, 1) := by decide +kernel
theorem dd_40_23 : decode prog_1_method_18_code 23 = .ok (.invokestatic 146, 3) := by decide +kernel
theorem dd_40_26 : decode prog_1_method_18_code 26 = .ok (.ifCond .ne 13, 3) := by decide +kernel
theorem dd_40_29 : decode prog_1_method_18_code 29 = .ok (.new 150, 3) := by decide +kernel
theorem dd_40_32 : decode prog_1_method_18_code 32 = .ok (.dup, 1) := by decide +kernel
theorem dd_40_33 : decode prog_1_method_18_code 33 = .ok (.ldc 152, 2) := by decide +kernel
theorem dd_40_35 : decode prog_1_method_18_code 35 = .ok (.invokespecial 154, 3) := by decide +kernel
theorem dd_40_38 : decode prog_1_method_18_code 38 = .ok (.athrow, 1) := by decide +kernel
theorem dd_40_39 : decode prog_1_method_18_code 39 = .ok (.aload_n 0, 1) := by decide +kernel
theorem dd_40_40 : decode prog_1_method_18_code 40 = .ok (.getfield 50, 3) := by decide +kernel
theorem dd_40_43 : decode prog_1_method_18_code 43 = .ok (.iload 4, 2) := by decide +kernel
theorem dd_40_45 : decode prog_1_method_18_code 45 = .ok (.iload_n 3, 1) := by decide +kernel
theorem dd_40_46 : decode prog_1_method_18_code 46 = .ok (.invokevirtual 155, 3) := by decide +kernel
theorem dd_40_49 : decode prog_1_method_18_code 49 = .ok (.ifCond .eq 13, 3) := by decide +kernel
theorem dd_40_52 : decode prog_1_method_18_code 52 = .ok (.new 158, 3) := by decide +kernel
theorem dd_40_55 : decode prog_1_method_18_code 55 = .ok (.dup, 1) := by decide +kernel
theorem dd_40_56 : decode prog_1_method_18_code 56 = .ok (.ldc 160, 2) := by decide +kernel
theorem dd_40_58 : decode prog_1_method_18_code 58 = .ok (.invokespecial 162, 3) := by decide +kernel
theorem dd_40_61 : decode prog_1_method_18_code 61 = .ok (.athrow, 1) := by decide +kernel
theorem dd_40_62 : decode prog_1_method_18_code 62 = .ok (.aload_n 0, 1) := by decide +kernel
theorem dd_40_63 : decode prog_1_method_18_code 63 = .ok (.getfield 50, 3) := by decide +kernel
theorem dd_40_66 : decode prog_1_method_18_code 66 = .ok (.getfield 163, 3) := by decide +kernel
theorem dd_40_69 : decode prog_1_method_18_code 69 = .ok (.iconst 4, 1) := by decide +kernel
theorem dd_40_70 : decode prog_1_method_18_code 70 = .ok (.if_icmp .lt 13, 3) := by decide +kernel
theorem dd_40_73 : decode prog_1_method_18_code 73 = .ok (.new 113, 3) := by decide +kernel
theorem dd_40_76 : decode prog_1_method_18_code 76 = .ok (.dup, 1) := by decide +kernel
theorem dd_40_77 : decode prog_1_method_18_code 77 = .ok (.ldc 166, 2) := by decide +kernel
theorem dd_40_79 : decode prog_1_method_18_code 79 = .ok (.invokespecial 117, 3) := by decide +kernel
theorem dd_40_82 : decode prog_1_method_18_code 82 = .ok (.athrow, 1) := by decide +kernel
theorem dd_40_83 : decode prog_1_method_18_code 83 = .ok (.aload_n 0, 1) := by decide +kernel
theorem dd_40_84 : decode prog_1_method_18_code 84 = .ok (.getfield 50, 3) := by decide +kernel
theorem dd_40_87 : decode prog_1_method_18_code 87 = .ok (.iload 4, 2) := by decide +kernel
theorem dd_40_89 : decode prog_1_method_18_code 89 = .ok (.iload_n 3, 1) := by decide +kernel
theorem dd_40_90 : decode prog_1_method_18_code 90 = .ok (.invokevirtual 168, 3) := by decide +kernel
theorem dd_40_93 : decode prog_1_method_18_code 93 = .ok (.ireturn, 1) := by decide +kernel
theorem dd_41_0 : decode prog_1_method_19_code 0 = .ok (.iload_n 1, 1) := by decide +kernel
theorem dd_41_1 : decode prog_1_method_19_code 1 = .ok (.ifCond .lt 14, 3) := by decide +kernel
theorem dd_41_4 : decode prog_1_method_19_code 4 = .ok (.iload_n 1, 1) := by decide +kernel
theorem dd_41_5 : decode prog_1_method_19_code 5 = .ok (.aload_n 0, 1) := by decide +kernel
theorem dd_41_6 : decode prog_1_method_19_code 6 = .ok (.getfield 50, 3) := by decide +kernel
theorem dd_41_9 : decode prog_1_method_19_code 9 = .ok (.getfield 163, 3) := by decide +kernel
theorem dd_41_12 : decode prog_1_method_19_code 12 = .ok (.if_icmp .lt 13, 3) := by decide +kernel
theorem dd_41_15 : decode prog_1_method_19_code 15 = .ok (.new 129, 3) := by decide +kernel
theorem dd_41_18 : decode prog_1_method_19_code 18 = .ok (.dup, 1) := by decide +kernel
theorem dd_41_19 : decode prog_1_method_19_code 19 = .ok (.ldc 171, 2) := by decide +kernel
theorem dd_41_21 : decode prog_1_method_19_code 21 = .ok (.invokespecial 133, 3) := by decide +kernel
theorem dd_41_24 : decode prog_1_method_19_code 24 = .ok (.athrow, 1) := by decide +kernel
theorem dd_41_25 : decode prog_1_method_19_code 25 = .ok (.aload_n 0, 1) := by decide +kernel
theorem dd_41_26 : decode prog_1_method_19_code 26 = .ok (.getfield 50, 3) := by decide +kernel
theorem dd_41_29 : decode prog_1_method_19_code 29 = .ok (.getfield 173, 3) := by decide +kernel
theorem dd_41_32 : decode prog_1_method_19_code 32 = .ok (.iload_n 1, 1) := by decide +kernel
theorem dd_41_33 : decode prog_1_method_19_code 33 = .ok (.iaload, 1) := by decide +kernel
theorem dd_41_34 : decode prog_1_method_19_code 34 = .ok (.istore_n 2, 1) := by decide +kernel
theorem dd_41_35 : decode prog_1_method_19_code 35 = .ok (.iload_n 2, 1) := by decide +kernel
theorem dd_41_36 : decode prog_1_method_19_code 36 = .ok (.iconst (-1), 1) := by decide +kernel
theorem dd_41_37 : decode prog_1_method_19_code 37 = .ok (.if_icmp .ne 5, 3) := by decide +kernel
theorem dd_41_40 : decode prog_1_method_19_code 40 = .ok (.iconst (-1), 1) := by decide +kernel
theorem dd_41_41 : decode prog_1_method_19_code 41 = .ok (.ireturn, 1) := by decide +kernel
theorem dd_41_42 : decode prog_1_method_19_code 42 = .ok (.sipush 128, 3) := by decide +kernel
theorem dd_41_45 : decode prog_1_method_19_code 45 = .ok (.aload_n 0, 1) := by decide +kernel
theorem dd_41_46 : decode prog_1_method_19_code 46 = .ok (.getfield 18, 3) := by decide +kernel
theorem dd_41_49 : decode prog_1_method_19_code 49 = .ok (.iload_n 2, 1) := by decide +kernel
theorem dd_41_50 : decode prog_1_method_19_code 50 = .ok (.invokevirtual 140, 3) := by decide +kernel
theorem dd_41_53 : decode prog_1_method_19_code 53 = .ok (.imul, 1) := by decide +kernel
theorem dd_41_54 : decode prog_1_method_19_code 54 = .ok (.bipush 8, 2) := by decide +kernel
theorem dd_41_56 : decode prog_1_method_19_code 56 = .ok (.aload_n 0, 1) := by decide +kernel
theorem dd_41_57 : decode prog_1_method_19_code 57 = .ok (.getfield 18, 3) := by decide +kernel
theorem dd_41_60 : decode prog_1_method_19_code 60 = .ok (.iload_n 2, 1) := by decide +kernel
theorem dd_41_61 : decode prog_1_method_19_code 61 = .ok (.invokevirtual 143, 3) := by decide +kernel
theorem dd_41_64 : decode prog_1_method_19_code 64 = .ok (.imul, 1) := by decide +kernel
theorem dd_41_65 : decode prog_1_method_19_code 65 = .ok (.iadd, 1) := by decide +kernel
theorem dd_41_66 : decode prog_1_method_19_code 66 = .ok (.aload_n 0, 1) := by decide +kernel
theorem dd_41_67 : decode prog_1_method_19_code 67 = .ok (.getfield 50, 3) := by decide +kernel
theorem dd_41_70 : decode prog_1_method_19_code 70 = .ok (.getfield 175, 3) := by decide +kernel
theorem dd_41_73 : decode prog_1_method_19_code 73 = .ok (.iload_n 1, 1) := by decide +kernel
theorem dd_41_74 : decode prog_1_method_19_code 74 = .ok (.iaload, 1) := by decide +kernel
theorem dd_41_75 : decode prog_1_method_19_code 75 = .ok (.iadd, 1) := by decide +kernel
theorem dd_41_76 : decode prog_1_method_19_code 76 = .ok (.ireturn, 1) := by decide +kernel
theorem dd_42_0 : decode prog_1_method_20_code 0 = .ok (.iload_n 0, 1) := by decide +kernel
theorem dd_42_1 : decode prog_1_method_20_code 1 = .ok (.iconst 4, 1) := by decide +kernel
theorem dd_42_2 : decode prog_1_method_20_code 2 = .ok (.if_icmp .lt 19, 3) := by decide +kernel
theorem dd_42_5 : decode prog_1_method_20_code 5 = .ok (.iload_n 0, 1) := by decide +kernel
theorem dd_42_6 : decode prog_1_method_20_code 6 = .ok (.bipush 16, 2) := by decide +kernel
theorem dd_42_8 : decode prog_1_method_20_code 8 = .ok (.if_icmp .gt 13, 3) := by decide +kernel
theorem dd_42_11 : decode prog_1_method_20_code 11 = .ok (.iload_n 0, 1) := by decide +kernel
theorem dd_42_12 : decode prog_1_method_20_code 12 = .ok (.iconst 2, 1) := by decide +kernel
theorem dd_42_13 : decode prog_1_method_20_code 13 = .ok (.irem, 1) := by decide +kernel
theorem dd_42_14 : decode prog_1_method_20_code 14 = .ok (.ifCond .ne 7, 3) := by decide +kernel
theorem dd_42_17 : decode prog_1_method_20_code 17 = .ok (.iconst 1, 1) := by decide +kernel
theorem dd_42_18 : decode prog_1_method_20_code 18 = .ok (.goto 4, 3) := by decide +kernel
theorem dd_42_21 : decode prog_1_method_20_code 21 = .ok (.iconst 0, 1) := by decide +kernel
theorem dd_42_22 : decode prog_1_method_20_code 22 = .ok (.istore_n 1, 1) := by decide +kernel
theorem dd_42_23 : decode prog_1_method_20_code 23 = .ok (.iload_n 1, 1) := by decide +kernel
theorem dd_42_24 : decode prog_1_method_20_code 24 = .ok (.ifCond .eq 7, 3) := by decide +kernel
theorem dd_42_27 : decode prog_1_method_20_code 27 = .ok (.iload_n 0, 1) := by decide +kernel
theorem dd_42_28 : decode prog_1_method_20_code 28 = .ok (.goto 5, 3) := by decide +kernel
theorem dd_42_31 : decode prog_1_method_20_code 31 = .ok (.bipush 8, 2) := by decide +kernel
theorem dd_42_33 : decode prog_1_method_20_code 33 = .ok (.ireturn, 1) := by decide +kernel
theorem dd_43_0 : decode prog_1_method_21_code 0 = .ok (.iload_n 1, 1) := by decide +kernel
theorem dd_43_1 : decode prog_1_method_21_code 1 = .ok (.ifCond .lt 29, 3) := by decide +kernel
theorem dd_43_4 : decode prog_1_method_21_code 4 = .ok (.iload_n 1, 1) := by decide +kernel
theorem dd_43_5 : decode prog_1_method_21_code 5 = .ok (.aload_n 0, 1) := by decide +kernel
theorem dd_43_6 : decode prog_1_method_21_code 6 = .ok (.getfield 18, 3) := by decide +kernel
theorem dd_43_9 : decode prog_1_method_21_code 9 = .ok (.getfield 123, 3) := by decide +kernel
theorem dd_43_12 : decode prog_1_method_21_code 12 = .ok (.if_icmp .ge 18, 3) := by decide +kernel
theorem dd_43_15 : decode prog_1_method_21_code 15 = .ok (.iload_n 2, 1) := by decide +kernel
theorem dd_43_16 : decode prog_1_method_21_code 16 = .ok (.ifCond .lt 14, 3) := by decide +kernel
theorem dd_43_19 : decode prog_1_method_21_code 19 = .ok (.iload_n 2, 1) := by decide +kernel
theorem dd_43_20 : decode prog_1_method_21_code 20 = .ok (.aload_n 0, 1) := by decide +kernel
theorem dd_43_21 : decode prog_1_method_21_code 21 = .ok (.getfield 18, 3) := by decide +kernel
theorem dd_43_24 : decode prog_1_method_21_code 24 = .ok (.getfield 126, 3) := by decide +kernel
theorem dd_43_27 : decode prog_1_method_21_code 27 = .ok (.if_icmp .lt 13, 3) := by decide +kernel
theorem dd_43_30 : decode prog_1_method_21_code 30 = .ok (.new 129, 3) := by decide +kernel
theorem dd_43_33 : decode prog_1_method_21_code 33 = .ok (.dup, 1) := by decide +kernel
theorem dd_43_34 : decode prog_1_method_21_code 34 = .ok (.ldc 178, 2) := by decide +kernel
theorem dd_43_36 : decode prog_1_method_21_code 36 = .ok (.invokespecial 133, 3) := by decide +kernel
theorem dd_43_39 : decode prog_1_method_21_code 39 = .ok (.athrow, 1) := by decide +kernel
theorem dd_43_40 : decode prog_1_method_21_code 40 = .ok (.iload_n 2, 1) := by decide +kernel
theorem dd_43_41 : decode prog_1_method_21_code 41 = .ok (.aload_n 0, 1) := by decide +kernel
theorem dd_43_42 : decode prog_1_method_21_code 42 = .ok (.getfield 18, 3) := by decide +kernel
theorem dd_43_45 : decode prog_1_method_21_code 45 = .ok (.getfield 123, 3) := by decide +kernel
theorem dd_43_48 : decode prog_1_method_21_code 48 = .ok (.imul, 1) := by decide +kernel
theorem dd_43_49 : decode prog_1_method_21_code 49 = .ok (.iload_n 1, 1) := by decide +kernel
theorem dd_43_50 : decode prog_1_method_21_code 50 = .ok (.iadd, 1) := by decide +kernel
theorem dd_43_51 : decode prog_1_method_21_code 51 = .ok (.ireturn, 1) := by decide +kernel
theorem dd_44_0 : decode prog_1_method_22_code 0 = .ok (.iload_n 0, 1) := by decide +kernel
theorem dd_44_1 : decode prog_1_method_22_code 1 = .ok (.iconst 0, 1) := by decide +kernel
theorem dd_44_2 : decode prog_1_method_22_code 2 = .ok (.bipush 127, 2) := by decide +kernel
theorem dd_44_4 : decode prog_1_method_22_code 4 = .ok (.invokestatic 83, 3) := by decide +kernel
theorem dd_44_7 : decode prog_1_method_22_code 7 = .ok (.return_, 1) := by decide +kernel
theorem dd_45_0 : decode prog_1_method_23_code 0 = .ok (.iload_n 0, 1) := by decide +kernel
theorem dd_45_1 : decode prog_1_method_23_code 1 = .ok (.iload_n 1, 1) := by decide +kernel
theorem dd_45_2 : decode prog_1_method_23_code 2 = .ok (.if_icmp .lt 8, 3) := by decide +kernel
theorem dd_45_5 : decode prog_1_method_23_code 5 = .ok (.iload_n 0, 1) := by decide +kernel
theorem dd_45_6 : decode prog_1_method_23_code 6 = .ok (.iload_n 2, 1) := by decide +kernel
theorem dd_45_7 : decode prog_1_method_23_code 7 = .ok (.if_icmp .le 13, 3) := by decide +kernel
theorem dd_45_10 : decode prog_1_method_23_code 10 = .ok (.new 180, 3) := by decide +kernel
theorem dd_45_13 : decode prog_1_method_23_code 13 = .ok (.dup, 1) := by decide +kernel
theorem dd_45_14 : decode prog_1_method_23_code 14 = .ok (.ldc 182, 2) := by decide +kernel
theorem dd_45_16 : decode prog_1_method_23_code 16 = .ok (.invokespecial 184, 3) := by decide +kernel
theorem dd_45_19 : decode prog_1_method_23_code 19 = .ok (.athrow, 1) := by decide +kernel
theorem dd_45_20 : decode prog_1_method_23_code 20 = .ok (.return_, 1) := by decide +kernel
theorem dd_46_0 : decode prog_1_method_24_code 0 = .ok (.aload_n 0, 1) := by decide +kernel
theorem dd_46_1 : decode prog_1_method_24_code 1 = .ok (.getfield 26, 3) := by decide +kernel
theorem dd_46_4 : decode prog_1_method_24_code 4 = .ok (.iload_n 1, 1) := by decide +kernel
theorem dd_46_5 : decode prog_1_method_24_code 5 = .ok (.iaload, 1) := by decide +kernel
theorem dd_46_6 : decode prog_1_method_24_code 6 = .ok (.istore 4, 2) := by decide +kernel
theorem dd_46_8 : decode prog_1_method_24_code 8 = .ok (.iload 4, 2) := by decide +kernel
theorem dd_46_10 : decode prog_1_method_24_code 10 = .ok (.ifCond .eq 19, 3) := by decide +kernel
theorem dd_46_13 : decode prog_1_method_24_code 13 = .ok (.iload 4, 2) := by decide +kernel
theorem dd_46_15 : decode prog_1_method_24_code 15 = .ok (.iload_n 2, 1) := by decide +kernel
theorem dd_46_16 : decode prog_1_method_24_code 16 = .ok (.if_icmp .eq 13, 3) := by decide +kernel
theorem dd_46_19 : decode prog_1_method_24_code 19 = .ok (.new 158, 3) := by decide +kernel
theorem dd_46_22 : decode prog_1_method_24_code 22 = .ok (.dup, 1) := by decide +kernel
theorem dd_46_23 : decode prog_1_method_24_code 23 = .ok (.ldc 185, 2) := by decide +kernel
theorem dd_46_25 : decode prog_1_method_24_code 25 = .ok (.invokespecial 162, 3) := by decide +kernel
theorem dd_46_28 : decode prog_1_method_24_code 28 = .ok (.athrow, 1) := by decide +kernel
theorem dd_46_29 : decode prog_1_method_24_code 29 = .ok (.iload_n 3, 1) := by decide +kernel
theorem dd_46_30 : decode prog_1_method_24_code 30 = .ok (.ifCond .eq 7, 3) := by decide +kernel
theorem dd_46_33 : decode prog_1_method_24_code 33 = .ok (.iload_n 2, 1) := by decide +kernel
theorem dd_46_34 : decode prog_1_method_24_code 34 = .ok (.goto 4, 3) := by decide +kernel
theorem dd_46_37 : decode prog_1_method_24_code 37 = .ok (.iconst 0, 1) := by decide +kernel
theorem dd_46_38 : decode prog_1_method_24_code 38 = .ok (.istore 5, 2) := by decide +kernel
theorem dd_46_40 : decode prog_1_method_24_code 40 = .ok (.aload_n 0, 1) := by decide +kernel
theorem dd_46_41 : decode prog_1_method_24_code 41 = .ok (.getfield 26, 3) := by decide +kernel
theorem dd_46_44 : decode prog_1_method_24_code 44 = .ok (.iload_n 1, 1) := by decide +kernel
theorem dd_46_45 : decode prog_1_method_24_code 45 = .ok (.iload 5, 2) := by decide +kernel
theorem dd_46_47 : decode prog_1_method_24_code 47 = .ok (.iastore, 1) := by decide +kernel
theorem dd_46_48 : decode prog_1_method_24_code 48 = .ok (.iload 5, 2) := by decide +kernel
theorem dd_46_50 : decode prog_1_method_24_code 50 = .ok (.iload 4, 2) := by decide +kernel
theorem dd_46_52 : decode prog_1_method_24_code 52 = .ok (.if_icmp .eq 7, 3) := by decide +kernel
theorem dd_46_55 : decode prog_1_method_24_code 55 = .ok (.iconst 1, 1) := by decide +kernel
theorem dd_46_56 : decode prog_1_method_24_code 56 = .ok (.goto 4, 3) := by decide +kernel
theorem dd_46_59 : decode prog_1_method_24_code 59 = .ok (.iconst 0, 1) := by decide +kernel
theorem dd_46_60 : decode prog_1_method_24_code 60 = .ok (.ireturn, 1) := by decide +kernel
theorem dd_47_0 : decode prog_1_method_25_code 0 = .ok (.iload_n 0, 1) := by decide +kernel
theorem dd_47_1 : decode prog_1_method_25_code 1 = .ok (.iload_n 1, 1) := by decide +kernel
theorem dd_47_2 : decode prog_1_method_25_code 2 = .ok (.ishr, 1) := by decide +kernel
theorem dd_47_3 : decode prog_1_method_25_code 3 = .ok (.iconst 1, 1) := by decide +kernel
theorem dd_47_4 : decode prog_1_method_25_code 4 = .ok (.iand, 1) := by decide +kernel
theorem dd_47_5 : decode prog_1_method_25_code 5 = .ok (.ifCond .eq 7, 3) := by decide +kernel
theorem dd_47_8 : decode prog_1_method_25_code 8 = .ok (.iconst 1, 1) := by decide +kernel
theorem dd_47_9 : decode prog_1_method_25_code 9 = .ok (.goto 4, 3) := by decide +kernel
theorem dd_47_12 : decode prog_1_method_25_code 12 = .ok (.iconst 0, 1) := by decide +kernel
theorem dd_47_13 : decode prog_1_method_25_code 13 = .ok (.ireturn, 1) := by decide +kernel
theorem dd_48_0 : decode prog_1_method_26_code 0 = .ok (.iload_n 1, 1) := by decide +kernel
theorem dd_48_1 : decode prog_1_method_26_code 1 = .ok (.ifCond .ne 8, 3) := by decide +kernel
theorem dd_48_4 : decode prog_1_method_26_code 4 = .ok (.iload_n 0, 1) := by decide +kernel
theorem dd_48_5 : decode prog_1_method_26_code 5 = .ok (.invokestatic 187, 3) := by decide +kernel
theorem dd_48_8 : decode prog_1_method_26_code 8 = .ok (.ireturn, 1) := by decide +kernel
theorem dd_48_9 : decode prog_1_method_26_code 9 = .ok (.iconst 0, 1) := by decide +kernel
theorem dd_48_10 : decode prog_1_method_26_code 10 = .ok (.istore_n 2, 1) := by decide +kernel
theorem dd_48_11 : decode prog_1_method_26_code 11 = .ok (.iconst 0, 1) := by decide +kernel
theorem dd_48_12 : decode prog_1_method_26_code 12 = .ok (.istore_n 3, 1) := by decide +kernel
theorem dd_48_13 : decode prog_1_method_26_code 13 = .ok (.iload_n 3, 1) := by decide +kernel
theorem dd_48_14 : decode prog_1_method_26_code 14 = .ok (.bipush 6, 2) := by decide +kernel
theorem dd_48_16 : decode prog_1_method_26_code 16 = .ok (.if_icmp .ge 38, 3) := by decide +kernel
theorem dd_48_19 : decode prog_1_method_26_code 19 = .ok (.iload_n 0, 1) := by decide +kernel
theorem dd_48_20 : decode prog_1_method_26_code 20 = .ok (.iload_n 3, 1) := by decide +kernel
theorem dd_48_21 : decode prog_1_method_26_code 21 = .ok (.invokestatic 146, 3) := by decide +kernel
theorem dd_48_24 : decode prog_1_method_26_code 24 = .ok (.ifCond .eq 24, 3) := by decide +kernel
theorem dd_48_27 : decode prog_1_method_26_code 27 = .ok (.iload_n 2, 1) := by decide +kernel
theorem dd_48_28 : decode prog_1_method_26_code 28 = .ok (.iload_n 1, 1) := by decide +kernel
theorem dd_48_29 : decode prog_1_method_26_code 29 = .ok (.iconst 1, 1) := by decide +kernel
theorem dd_48_30 : decode prog_1_method_26_code 30 = .ok (.if_icmp .ne 11, 3) := by decide +kernel
theorem dd_48_33 : decode prog_1_method_26_code 33 = .ok (.getstatic 192, 3) := by decide +kernel
theorem dd_48_36 : decode prog_1_method_26_code 36 = .ok (.iload_n 3, 1) := by decide +kernel
theorem dd_48_37 : decode prog_1_method_26_code 37 = .ok (.iaload, 1) := by decide +kernel
theorem dd_48_38 : decode prog_1_method_26_code 38 = .ok (.goto 8, 3) := by decide +kernel
theorem dd_48_41 : decode prog_1_method_26_code 41 = .ok (.getstatic 195, 3) := by decide +kernel
theorem dd_48_44 : decode prog_1_method_26_code 44 = .ok (.iload_n 3, 1) := by decide +kernel
theorem dd_48_45 : decode prog_1_method_26_code 45 = .ok (.iaload, 1) := by decide +kernel
theorem dd_48_46 : decode prog_1_method_26_code 46 = .ok (.iadd, 1) := by decide +kernel
theorem dd_48_47 : decode prog_1_method_26_code 47 = .ok (.istore_n 2, 1) := by decide +kernel
theorem dd_48_48 : decode prog_1_method_26_code 48 = .ok (.iinc 3 1, 3) := by decide +kernel
theorem dd_48_51 : decode prog_1_method_26_code 51 = .ok (.goto (-38), 3) := by decide +kernel
theorem dd_48_54 : decode prog_1_method_26_code 54 = .ok (.iload_n 2, 1) := by decide +kernel
theorem dd_48_55 : decode prog_1_method_26_code 55 = .ok (.ireturn, 1) := by decide +kernel
theorem dd_49_0 : decode prog_1_method_27_code 0 = .ok (.iload_n 0, 1) := by decide +kernel
theorem dd_49_1 : decode prog_1_method_27_code 1 = .ok (.iload_n 1, 1) := by decide +kernel
theorem dd_49_2 : decode prog_1_method_27_code 2 = .ok (.ishl, 1) := by decide +kernel
theorem dd_49_3 : decode prog_1_method_27_code 3 = .ok (.iload_n 0, 1) := by decide +kernel
theorem dd_49_4 : decode prog_1_method_27_code 4 = .ok (.bipush 6, 2) := by decide +kernel
theorem dd_49_6 : decode prog_1_method_27_code 6 = .ok (.iload_n 1, 1) := by decide +kernel
theorem dd_49_7 : decode prog_1_method_27_code 7 = .ok (.isub, 1) := by decide +kernel
theorem dd_49_8 : decode prog_1_method_27_code 8 = .ok (.ishr, 1) := by decide +kernel
theorem dd_49_9 : decode prog_1_method_27_code 9 = .ok (.ior, 1) := by decide +kernel
theorem dd_49_10 : decode prog_1_method_27_code 10 = .ok (.bipush 63, 2) := by decide +kernel
theorem dd_49_12 : decode prog_1_method_27_code 12 = .ok (.iand, 1) := by decide +kernel
theorem dd_49_13 : decode prog_1_method_27_code 13 = .ok (.ireturn, 1) := by decide +kernel
theorem dd_50_0 : decode prog_1_method_28_code 0 = .ok (.iload_n 0, 1) := by decide +kernel
theorem dd_50_1 : decode prog_1_method_28_code 1 = .ok (.bipush 63, 2) := by decide +kernel
theorem dd_50_3 : decode prog_1_method_28_code 3 = .ok (.iand, 1) := by decide +kernel
theorem dd_50_4 : decode prog_1_method_28_code 4 = .ok (.iconst 3, 1) := by decide +kernel
theorem dd_50_5 : decode prog_1_method_28_code 5 = .ok (.invokestatic 198, 3) := by decide +kernel
theorem dd_50_8 : decode prog_1_method_28_code 8 = .ok (.iload_n 0, 1) := by decide +kernel
theorem dd_50_9 : decode prog_1_method_28_code 9 = .ok (.bipush 64, 2) := by decide +kernel
theorem dd_50_11 : decode prog_1_method_28_code 11 = .ok (.iand, 1) := by decide +kernel
theorem dd_50_12 : decode prog_1_method_28_code 12 = .ok (.ior, 1) := by decide +kernel
theorem dd_50_13 : decode prog_1_method_28_code 13 = .ok (.ireturn, 1) := by decide +kernel
theorem dd_51_0 : decode prog_1_method_29_code 0 = .ok (.iload_n 0, 1) := by decide +kernel
theorem dd_51_1 : decode prog_1_method_29_code 1 = .ok (.bipush 63, 2) := by decide +kernel
theorem dd_51_3 : decode prog_1_method_29_code 3 = .ok (.iand, 1) := by decide +kernel
theorem dd_51_4 : decode prog_1_method_29_code 4 = .ok (.istore_n 2, 1) := by decide +kernel
theorem dd_51_5 : decode prog_1_method_29_code 5 = .ok (.iload_n 0, 1) := by decide +kernel
theorem dd_51_6 : decode prog_1_method_29_code 6 = .ok (.bipush 64, 2) := by decide +kernel
theorem dd_51_8 : decode prog_1_method_29_code 8 = .ok (.iand, 1) := by decide +kernel
theorem dd_51_9 : decode prog_1_method_29_code 9 = .ok (.istore_n 3, 1) := by decide +kernel
theorem dd_51_10 : decode prog_1_method_29_code 10 = .ok (.iload_n 2, 1) := by decide +kernel
theorem dd_51_11 : decode prog_1_method_29_code 11 = .ok (.ifCond .eq 34, 3) := by decide +kernel
theorem dd_51_14 : decode prog_1_method_29_code 14 = .ok (.iload_n 2, 1) := by decide +kernel
theorem dd_51_15 : decode prog_1_method_29_code 15 = .ok (.bipush 63, 2) := by decide +kernel
theorem dd_51_17 : decode prog_1_method_29_code 17 = .ok (.if_icmp .eq 28, 3) := by decide +kernel
theorem dd_51_20 : decode prog_1_method_29_code 20 = .ok (.iload_n 2, 1) := by decide +kernel
theorem dd_51_21 : decode prog_1_method_29_code 21 = .ok (.iconst 3, 1) := by decide +kernel
theorem dd_51_22 : decode prog_1_method_29_code 22 = .ok (.invokestatic 198, 3) := by decide +kernel
theorem dd_51_25 : decode prog_1_method_29_code 25 = .ok (.iload_n 2, 1) := by decide +kernel
theorem dd_51_26 : decode prog_1_method_29_code 26 = .ok (.if_icmp .ne 19, 3) := by decide +kernel
theorem dd_51_29 : decode prog_1_method_29_code 29 = .ok (.iload_n 2, 1) := by decide +kernel
theorem dd_51_30 : decode prog_1_method_29_code 30 = .ok (.iload_n 1, 1) := by decide +kernel
theorem dd_51_31 : decode prog_1_method_29_code 31 = .ok (.ifCond .ne 7, 3) := by decide +kernel
theorem dd_51_34 : decode prog_1_method_29_code 34 = .ok (.iconst 1, 1) := by decide +kernel
theorem dd_51_35 : decode prog_1_method_29_code 35 = .ok (.goto 4, 3) := by decide +kernel
theorem dd_51_38 : decode prog_1_method_29_code 38 = .ok (.iconst 5, 1) := by decide +kernel
theorem dd_51_39 : decode prog_1_method_29_code 39 = .ok (.invokestatic 198, 3) := by decide +kernel
theorem dd_51_42 : decode prog_1_method_29_code 42 = .ok (.iload_n 3, 1) := by decide +kernel
theorem dd_51_43 : decode prog_1_method_29_code 43 = .ok (.ior, 1) := by decide +kernel
theorem dd_51_44 : decode prog_1_method_29_code 44 = .ok (.ireturn, 1) := by decide +kernel
theorem dd_51_45 : decode prog_1_method_29_code 45 = .ok (.iload_n 2, 1) := by decide +kernel
theorem dd_51_46 : decode prog_1_method_29_code 46 = .ok (.bipush 21, 2) := by decide +kernel
theorem dd_51_48 : decode prog_1_method_29_code 48 = .ok (.if_icmp .eq 9, 3) := by decide +kernel
theorem dd_51_51 : decode prog_1_method_29_code 51 = .ok (.iload_n 2, 1) := by decide +kernel
theorem dd_51_52 : decode prog_1_method_29_code 52 = .ok (.bipush 42, 2) := by decide +kernel
theorem dd_51_54 : decode prog_1_method_29_code 54 = .ok (.if_icmp .ne 10, 3) := by decide +kernel
theorem dd_51_57 : decode prog_1_method_29_code 57 = .ok (.iload_n 2, 1) := by decide +kernel
theorem dd_51_58 : decode prog_1_method_29_code 58 = .ok (.bipush 63, 2) := by decide +kernel
theorem dd_51_60 : decode prog_1_method_29_code 60 = .ok (.ixor, 1) := by decide +kernel
theorem dd_51_61 : decode prog_1_method_29_code 61 = .ok (.iload_n 3, 1) := by decide +kernel
theorem dd_51_62 : decode prog_1_method_29_code 62 = .ok (.ior, 1) := by decide +kernel
theorem dd_51_63 : decode prog_1_method_29_code 63 = .ok (.ireturn, 1) := by decide +kernel
theorem dd_51_64 : decode prog_1_method_29_code 64 = .ok (.iload_n 2, 1) := by decide +kernel
theorem dd_51_65 : decode prog_1_method_29_code 65 = .ok (.iconst 1, 1) := by decide +kernel
theorem dd_51_66 : decode prog_1_method_29_code 66 = .ok (.invokestatic 198, 3) := by decide +kernel
theorem dd_51_69 : decode prog_1_method_29_code 69 = .ok (.istore 4, 2) := by decide +kernel
theorem dd_51_71 : decode prog_1_method_29_code 71 = .ok (.iload_n 2, 1) := by decide +kernel
theorem dd_51_72 : decode prog_1_method_29_code 72 = .ok (.iconst 5, 1) := by decide +kernel
theorem dd_51_73 : decode prog_1_method_29_code 73 = .ok (.invokestatic 198, 3) := by decide +kernel
theorem dd_51_76 : decode prog_1_method_29_code 76 = .ok (.istore 5, 2) := by decide +kernel
theorem dd_51_78 : decode prog_1_method_29_code 78 = .ok (.iload_n 3, 1) := by decide +kernel
theorem dd_51_79 : decode prog_1_method_29_code 79 = .ok (.ifCond .eq 17, 3) := by decide +kernel
theorem dd_51_82 : decode prog_1_method_29_code 82 = .ok (.iload_n 2, 1) := by decide +kernel
theorem dd_51_83 : decode prog_1_method_29_code 83 = .ok (.invokestatic 187, 3) := by decide +kernel
theorem dd_51_86 : decode prog_1_method_29_code 86 = .ok (.iconst 1, 1) := by decide +kernel
theorem dd_51_87 : decode prog_1_method_29_code 87 = .ok (.if_icmp .ne 9, 3) := by decide +kernel
theorem dd_51_90 : decode prog_1_method_29_code 90 = .ok (.iload 4, 2) := by decide +kernel
theorem dd_51_92 : decode prog_1_method_29_code 92 = .ok (.iload 5, 2) := by decide +kernel
theorem dd_51_94 : decode prog_1_method_29_code 94 = .ok (.ior, 1) := by decide +kernel
theorem dd_51_95 : decode prog_1_method_29_code 95 = .ok (.ireturn, 1) := by decide +kernel
theorem dd_51_96 : decode prog_1_method_29_code 96 = .ok (.iload 4, 2) := by decide +kernel
theorem dd_51_98 : decode prog_1_method_29_code 98 = .ok (.iload 5, 2) := by decide +kernel
theorem dd_51_100 : decode prog_1_method_29_code 100 = .ok (.iand, 1) := by decide +kernel
theorem dd_51_101 : decode prog_1_method_29_code 101 = .ok (.istore 6, 2) := by decide +kernel
theorem dd_51_103 : decode prog_1_method_29_code 103 = .ok (.iload_n 3, 1) := by decide +kernel
theorem dd_51_104 : decode prog_1_method_29_code 104 = .ok (.ifCond .ne 22, 3) := by decide +kernel
theorem dd_51_107 : decode prog_1_method_29_code 107 = .ok (.iload_n 2, 1) := by decide +kernel
theorem dd_51_108 : decode prog_1_method_29_code 108 = .ok (.invokestatic 187, 3) := by decide +kernel
theorem dd_51_111 : decode prog_1_method_29_code 111 = .ok (.iconst 2, 1) := by decide +kernel
theorem dd_51_112 : decode prog_1_method_29_code 112 = .ok (.if_icmp .ne 14, 3) := by decide +kernel
theorem dd_51_115 : decode prog_1_method_29_code 115 = .ok (.iload 6, 2) := by decide +kernel
theorem dd_51_117 : decode prog_1_method_29_code 117 = .ok (.ifCond .eq 9, 3) := by decide +kernel
theorem dd_51_120 : decode prog_1_method_29_code 120 = .ok (.iload 6, 2) := by decide +kernel
theorem dd_51_122 : decode prog_1_method_29_code 122 = .ok (.bipush 64, 2) := by decide +kernel
theorem dd_51_124 : decode prog_1_method_29_code 124 = .ok (.ior, 1) := by decide +kernel
theorem dd_51_125 : decode prog_1_method_29_code 125 = .ok (.ireturn, 1) := by decide +kernel
theorem dd_51_126 : decode prog_1_method_29_code 126 = .ok (.iload_n 0, 1) := by decide +kernel
theorem dd_51_127 : decode prog_1_method_29_code 127 = .ok (.ireturn, 1) := by decide +kernel
theorem dd_52_0 : decode prog_1_method_30_code 0 = .ok (.aload_n 0, 1) := by decide +kernel
theorem dd_52_1 : decode prog_1_method_30_code 1 = .ok (.iconst 0, 1) := by decide +kernel
theorem dd_52_2 : decode prog_1_method_30_code 2 = .ok (.invokevirtual 201, 3) := by decide +kernel
theorem dd_52_5 : decode prog_1_method_30_code 5 = .ok (.aload_n 0, 1) := by decide +kernel
theorem dd_52_6 : decode prog_1_method_30_code 6 = .ok (.iconst 0, 1) := by decide +kernel
theorem dd_52_7 : decode prog_1_method_30_code 7 = .ok (.invokevirtual 204, 3) := by decide +kernel
theorem dd_52_10 : decode prog_1_method_30_code 10 = .ok (.aload_n 0, 1) := by decide +kernel
theorem dd_52_11 : decode prog_1_method_30_code 11 = .ok (.invokevirtual 207, 3) := by decide +kernel
theorem dd_52_14 : decode prog_1_method_30_code 14 = .ok (.aload_n 0, 1) := by decide +kernel
theorem dd_52_15 : decode prog_1_method_30_code 15 = .ok (.invokevirtual 210, 3) := by decide +kernel
theorem dd_52_18 : decode prog_1_method_30_code 18 = .ok (.aload_n 0, 1) := by decide +kernel
theorem dd_52_19 : decode prog_1_method_30_code 19 = .ok (.dup, 1) := by decide +kernel
theorem dd_52_20 : decode prog_1_method_30_code 20 = .ok (.getfield 66, 3) := by decide +kernel
theorem dd_52_23 : decode prog_1_method_30_code 23 = .ok (.iconst 1, 1) := by decide +kernel
theorem dd_52_24 : decode prog_1_method_30_code 24 = .ok (.iadd, 1) := by decide +kernel
theorem dd_52_25 : decode prog_1_method_30_code 25 = .ok (.putfield 66, 3) := by decide +kernel
theorem dd_52_28 : decode prog_1_method_30_code 28 = .ok (.return_, 1) := by decide +kernel
theorem dd_53_0 : decode prog_1_method_31_code 0 = .ok (.aload_n 0, 1) := by decide +kernel
theorem dd_53_1 : decode prog_1_method_31_code 1 = .ok (.dup, 1) := by decide +kernel
theorem dd_53_2 : decode prog_1_method_31_code 2 = .ok (.getfield 66, 3) := by decide +kernel
theorem dd_53_5 : decode prog_1_method_31_code 5 = .ok (.iconst 1, 1) := by decide +kernel
theorem dd_53_6 : decode prog_1_method_31_code 6 = .ok (.isub, 1) := by decide +kernel
