theorem dd_53_7 : decode prog_1_method_31_code 7 = .ok (.putfield 66, 3) := by decide +kernel
theorem dd_53_10 : decode prog_1_method_31_code 10 = .ok (.aload_n 0, 1) := by decide +kernel
theorem dd_53_11 : decode prog_1_method_31_code 11 = .ok (.invokevirtual 207, 3) := by decide +kernel
theorem dd_53_14 : decode prog_1_method_31_code 14 = .ok (.aload_n 0, 1) := by decide +kernel
theorem dd_53_15 : decode prog_1_method_31_code 15 = .ok (.iconst 3, 1) := by decide +kernel
theorem dd_53_16 : decode prog_1_method_31_code 16 = .ok (.invokevirtual 204, 3) := by decide +kernel
theorem dd_53_19 : decode prog_1_method_31_code 19 = .ok (.aload_n 0, 1) := by decide +kernel
theorem dd_53_20 : decode prog_1_method_31_code 20 = .ok (.iconst 1, 1) := by decide +kernel
theorem dd_53_21 : decode prog_1_method_31_code 21 = .ok (.invokevirtual 201, 3) := by decide +kernel
theorem dd_53_24 : decode prog_1_method_31_code 24 = .ok (.return_, 1) := by decide +kernel
theorem dd_54_0 : decode prog_1_method_32_code 0 = .ok (.iconst 0, 1) := by decide +kernel
theorem dd_54_1 : decode prog_1_method_32_code 1 = .ok (.istore_n 1, 1) := by decide +kernel
theorem dd_54_2 : decode prog_1_method_32_code 2 = .ok (.iload_n 1, 1) := by decide +kernel
theorem dd_54_3 : decode prog_1_method_32_code 3 = .ok (.aload_n 0, 1) := by decide +kernel
theorem dd_54_4 : decode prog_1_method_32_code 4 = .ok (.getfield 18, 3) := by decide +kernel
theorem dd_54_7 : decode prog_1_method_32_code 7 = .ok (.getfield 22, 3) := by decide +kernel
theorem dd_54_10 : decode prog_1_method_32_code 10 = .ok (.if_icmp .ge 30, 3) := by decide +kernel
theorem dd_54_13 : decode prog_1_method_32_code 13 = .ok (.aload_n 0, 1) := by decide +kernel
theorem dd_54_14 : decode prog_1_method_32_code 14 = .ok (.getfield 26, 3) := by decide +kernel
theorem dd_54_17 : decode prog_1_method_32_code 17 = .ok (.iload_n 1, 1) := by decide +kernel
theorem dd_54_18 : decode prog_1_method_32_code 18 = .ok (.iaload, 1) := by decide +kernel
theorem dd_54_19 : decode prog_1_method_32_code 19 = .ok (.ifCond .eq 15, 3) := by decide +kernel
theorem dd_54_22 : decode prog_1_method_32_code 22 = .ok (.aload_n 0, 1) := by decide +kernel
theorem dd_54_23 : decode prog_1_method_32_code 23 = .ok (.getfield 26, 3) := by decide +kernel
theorem dd_54_26 : decode prog_1_method_32_code 26 = .ok (.iload_n 1, 1) := by decide +kernel
theorem dd_54_27 : decode prog_1_method_32_code 27 = .ok (.iaload, 1) := by decide +kernel
theorem dd_54_28 : decode prog_1_method_32_code 28 = .ok (.iconst 1, 1) := by decide +kernel
theorem dd_54_29 : decode prog_1_method_32_code 29 = .ok (.if_icmp .eq 5, 3) := by decide +kernel
theorem dd_54_32 : decode prog_1_method_32_code 32 = .ok (.iconst 0, 1) := by decide +kernel
theorem dd_54_33 : decode prog_1_method_32_code 33 = .ok (.ireturn, 1) := by decide +kernel
theorem dd_54_34 : decode prog_1_method_32_code 34 = .ok (.iinc 1 1, 3) := by decide +kernel
theorem dd_54_37 : decode prog_1_method_32_code 37 = .ok (.goto (-35), 3) := by decide +kernel
theorem dd_54_40 : decode prog_1_method_32_code 40 = .ok (.iconst 1, 1) := by decide +kernel
theorem dd_54_41 : decode prog_1_method_32_code 41 = .ok (.ireturn, 1) := by decide +kernel
theorem dd_55_0 : decode prog_1_method_33_code 0 = .ok (.iconst 0, 1) := by decide +kernel
theorem dd_55_1 : decode prog_1_method_33_code 1 = .ok (.istore_n 2, 1) := by decide +kernel
theorem dd_55_2 : decode prog_1_method_33_code 2 = .ok (.iload_n 2, 1) := by decide +kernel
theorem dd_55_3 : decode prog_1_method_33_code 3 = .ok (.aload_n 0, 1) := by decide +kernel
theorem dd_55_4 : decode prog_1_method_33_code 4 = .ok (.getfield 50, 3) := by decide +kernel
theorem dd_55_7 : decode prog_1_method_33_code 7 = .ok (.getfield 163, 3) := by decide +kernel
theorem dd_55_10 : decode prog_1_method_33_code 10 = .ok (.if_icmp .ge 44, 3) := by decide +kernel
theorem dd_55_13 : decode prog_1_method_33_code 13 = .ok (.aload_n 0, 1) := by decide +kernel
theorem dd_55_14 : decode prog_1_method_33_code 14 = .ok (.getfield 50, 3) := by decide +kernel
theorem dd_55_17 : decode prog_1_method_33_code 17 = .ok (.getfield 173, 3) := by decide +kernel
theorem dd_55_20 : decode prog_1_method_33_code 20 = .ok (.iload_n 2, 1) := by decide +kernel
theorem dd_55_21 : decode prog_1_method_33_code 21 = .ok (.iaload, 1) := by decide +kernel
theorem dd_55_22 : decode prog_1_method_33_code 22 = .ok (.istore_n 3, 1) := by decide +kernel
theorem dd_55_23 : decode prog_1_method_33_code 23 = .ok (.iload_n 3, 1) := by decide +kernel
theorem dd_55_24 : decode prog_1_method_33_code 24 = .ok (.iconst (-1), 1) := by decide +kernel
theorem dd_55_25 : decode prog_1_method_33_code 25 = .ok (.if_icmp .eq 23, 3) := by decide +kernel
theorem dd_55_28 : decode prog_1_method_33_code 28 = .ok (.aload_n 0, 1) := by decide +kernel
theorem dd_55_29 : decode prog_1_method_33_code 29 = .ok (.getfield 50, 3) := by decide +kernel
theorem dd_55_32 : decode prog_1_method_33_code 32 = .ok (.iload_n 2, 1) := by decide +kernel
theorem dd_55_33 : decode prog_1_method_33_code 33 = .ok (.aload_n 0, 1) := by decide +kernel
theorem dd_55_34 : decode prog_1_method_33_code 34 = .ok (.getfield 60, 3) := by decide +kernel
theorem dd_55_37 : decode prog_1_method_33_code 37 = .ok (.iload_n 3, 1) := by decide +kernel
theorem dd_55_38 : decode prog_1_method_33_code 38 = .ok (.iaload, 1) := by decide +kernel
theorem dd_55_39 : decode prog_1_method_33_code 39 = .ok (.aload_n 0, 1) := by decide +kernel
theorem dd_55_40 : decode prog_1_method_33_code 40 = .ok (.iload_n 3, 1) := by decide +kernel
theorem dd_55_41 : decode prog_1_method_33_code 41 = .ok (.iload_n 1, 1) := by decide +kernel
theorem dd_55_42 : decode prog_1_method_33_code 42 = .ok (.invokevirtual 213, 3) := by decide +kernel
theorem dd_55_45 : decode prog_1_method_33_code 45 = .ok (.invokevirtual 216, 3) := by decide +kernel
theorem dd_55_48 : decode prog_1_method_33_code 48 = .ok (.iinc 2 1, 3) := by decide +kernel
theorem dd_55_51 : decode prog_1_method_33_code 51 = .ok (.goto (-49), 3) := by decide +kernel
theorem dd_55_54 : decode prog_1_method_33_code 54 = .ok (.iconst 0, 1) := by decide +kernel
theorem dd_55_55 : decode prog_1_method_33_code 55 = .ok (.istore_n 2, 1) := by decide +kernel
theorem dd_55_56 : decode prog_1_method_33_code 56 = .ok (.iload_n 2, 1) := by decide +kernel
theorem dd_55_57 : decode prog_1_method_33_code 57 = .ok (.aload_n 0, 1) := by decide +kernel
theorem dd_55_58 : decode prog_1_method_33_code 58 = .ok (.getfield 18, 3) := by decide +kernel
theorem dd_55_61 : decode prog_1_method_33_code 61 = .ok (.getfield 22, 3) := by decide +kernel
theorem dd_55_64 : decode prog_1_method_33_code 64 = .ok (.if_icmp .ge 21, 3) := by decide +kernel
theorem dd_55_67 : decode prog_1_method_33_code 67 = .ok (.aload_n 0, 1) := by decide +kernel
theorem dd_55_68 : decode prog_1_method_33_code 68 = .ok (.getfield 60, 3) := by decide +kernel
theorem dd_55_71 : decode prog_1_method_33_code 71 = .ok (.iload_n 2, 1) := by decide +kernel
theorem dd_55_72 : decode prog_1_method_33_code 72 = .ok (.aload_n 0, 1) := by decide +kernel
theorem dd_55_73 : decode prog_1_method_33_code 73 = .ok (.iload_n 2, 1) := by decide +kernel
theorem dd_55_74 : decode prog_1_method_33_code 74 = .ok (.iload_n 1, 1) := by decide +kernel
theorem dd_55_75 : decode prog_1_method_33_code 75 = .ok (.invokevirtual 213, 3) := by decide +kernel
theorem dd_55_78 : decode prog_1_method_33_code 78 = .ok (.iastore, 1) := by decide +kernel
theorem dd_55_79 : decode prog_1_method_33_code 79 = .ok (.iinc 2 1, 3) := by decide +kernel
theorem dd_55_82 : decode prog_1_method_33_code 82 = .ok (.goto (-26), 3) := by decide +kernel
theorem dd_55_85 : decode prog_1_method_33_code 85 = .ok (.return_, 1) := by decide +kernel
theorem dd_56_0 : decode prog_1_method_34_code 0 = .ok (.aload_n 0, 1) := by decide +kernel
theorem dd_56_1 : decode prog_1_method_34_code 1 = .ok (.getfield 60, 3) := by decide +kernel
theorem dd_56_4 : decode prog_1_method_34_code 4 = .ok (.iload_n 1, 1) := by decide +kernel
theorem dd_56_5 : decode prog_1_method_34_code 5 = .ok (.iaload, 1) := by decide +kernel
theorem dd_56_6 : decode prog_1_method_34_code 6 = .ok (.istore_n 3, 1) := by decide +kernel
theorem dd_56_7 : decode prog_1_method_34_code 7 = .ok (.iload_n 3, 1) := by decide +kernel
theorem dd_56_8 : decode prog_1_method_34_code 8 = .ok (.ifCond .eq 23, 3) := by decide +kernel
theorem dd_56_11 : decode prog_1_method_34_code 11 = .ok (.aload_n 0, 1) := by decide +kernel
theorem dd_56_12 : decode prog_1_method_34_code 12 = .ok (.getfield 26, 3) := by decide +kernel
theorem dd_56_15 : decode prog_1_method_34_code 15 = .ok (.iload_n 1, 1) := by decide +kernel
theorem dd_56_16 : decode prog_1_method_34_code 16 = .ok (.iaload, 1) := by decide +kernel
theorem dd_56_17 : decode prog_1_method_34_code 17 = .ok (.iconst 1, 1) := by decide +kernel
theorem dd_56_18 : decode prog_1_method_34_code 18 = .ok (.if_icmp .eq 13, 3) := by decide +kernel
theorem dd_56_21 : decode prog_1_method_34_code 21 = .ok (.aload_n 0, 1) := by decide +kernel
theorem dd_56_22 : decode prog_1_method_34_code 22 = .ok (.getfield 26, 3) := by decide +kernel
theorem dd_56_25 : decode prog_1_method_34_code 25 = .ok (.iload_n 1, 1) := by decide +kernel
theorem dd_56_26 : decode prog_1_method_34_code 26 = .ok (.iaload, 1) := by decide +kernel
theorem dd_56_27 : decode prog_1_method_34_code 27 = .ok (.iconst 4, 1) := by decide +kernel
theorem dd_56_28 : decode prog_1_method_34_code 28 = .ok (.if_icmp .ne 5, 3) := by decide +kernel
theorem dd_56_31 : decode prog_1_method_34_code 31 = .ok (.iload_n 3, 1) := by decide +kernel
theorem dd_56_32 : decode prog_1_method_34_code 32 = .ok (.ireturn, 1) := by decide +kernel
theorem dd_56_33 : decode prog_1_method_34_code 33 = .ok (.aload_n 0, 1) := by decide +kernel
theorem dd_56_34 : decode prog_1_method_34_code 34 = .ok (.getfield 18, 3) := by decide +kernel
theorem dd_56_37 : decode prog_1_method_34_code 37 = .ok (.iload_n 1, 1) := by decide +kernel
theorem dd_56_38 : decode prog_1_method_34_code 38 = .ok (.invokevirtual 143, 3) := by decide +kernel
theorem dd_56_41 : decode prog_1_method_34_code 41 = .ok (.aload_n 0, 1) := by decide +kernel
theorem dd_56_42 : decode prog_1_method_34_code 42 = .ok (.getfield 18, 3) := by decide +kernel
theorem dd_56_45 : decode prog_1_method_34_code 45 = .ok (.iload_n 1, 1) := by decide +kernel
theorem dd_56_46 : decode prog_1_method_34_code 46 = .ok (.invokevirtual 140, 3) := by decide +kernel
theorem dd_56_49 : decode prog_1_method_34_code 49 = .ok (.iadd, 1) := by decide +kernel
theorem dd_56_50 : decode prog_1_method_34_code 50 = .ok (.aload_n 0, 1) := by decide +kernel
theorem dd_56_51 : decode prog_1_method_34_code 51 = .ok (.getfield 66, 3) := by decide +kernel
theorem dd_56_54 : decode prog_1_method_34_code 54 = .ok (.iadd, 1) := by decide +kernel
theorem dd_56_55 : decode prog_1_method_34_code 55 = .ok (.iload_n 2, 1) := by decide +kernel
theorem dd_56_56 : decode prog_1_method_34_code 56 = .ok (.iadd, 1) := by decide +kernel
theorem dd_56_57 : decode prog_1_method_34_code 57 = .ok (.iconst 1, 1) := by decide +kernel
theorem dd_56_58 : decode prog_1_method_34_code 58 = .ok (.iand, 1) := by decide +kernel
theorem dd_56_59 : decode prog_1_method_34_code 59 = .ok (.istore 4, 2) := by decide +kernel
theorem dd_56_61 : decode prog_1_method_34_code 61 = .ok (.iload_n 3, 1) := by decide +kernel
theorem dd_56_62 : decode prog_1_method_34_code 62 = .ok (.iload 4, 2) := by decide +kernel
theorem dd_56_64 : decode prog_1_method_34_code 64 = .ok (.invokestatic 87, 3) := by decide +kernel
theorem dd_56_67 : decode prog_1_method_34_code 67 = .ok (.ireturn, 1) := by decide +kernel
theorem dd_57_0 : decode prog_1_method_35_code 0 = .ok (.aload_n 0, 1) := by decide +kernel
theorem dd_57_1 : decode prog_1_method_35_code 1 = .ok (.getfield 63, 3) := by decide +kernel
theorem dd_57_4 : decode prog_1_method_35_code 4 = .ok (.iconst 0, 1) := by decide +kernel
theorem dd_57_5 : decode prog_1_method_35_code 5 = .ok (.invokestatic 219, 3) := by decide +kernel
theorem dd_57_8 : decode prog_1_method_35_code 8 = .ok (.iconst 0, 1) := by decide +kernel
theorem dd_57_9 : decode prog_1_method_35_code 9 = .ok (.istore_n 2, 1) := by decide +kernel
theorem dd_57_10 : decode prog_1_method_35_code 10 = .ok (.iload_n 2, 1) := by decide +kernel
theorem dd_57_11 : decode prog_1_method_35_code 11 = .ok (.aload_n 0, 1) := by decide +kernel
theorem dd_57_12 : decode prog_1_method_35_code 12 = .ok (.getfield 18, 3) := by decide +kernel
theorem dd_57_15 : decode prog_1_method_35_code 15 = .ok (.getfield 22, 3) := by decide +kernel
theorem dd_57_18 : decode prog_1_method_35_code 18 = .ok (.if_icmp .ge 30, 3) := by decide +kernel
theorem dd_57_21 : decode prog_1_method_35_code 21 = .ok (.aload_n 0, 1) := by decide +kernel
theorem dd_57_22 : decode prog_1_method_35_code 22 = .ok (.getfield 60, 3) := by decide +kernel
theorem dd_57_25 : decode prog_1_method_35_code 25 = .ok (.iload_n 2, 1) := by decide +kernel
theorem dd_57_26 : decode prog_1_method_35_code 26 = .ok (.iaload, 1) := by decide +kernel
theorem dd_57_27 : decode prog_1_method_35_code 27 = .ok (.ifCond .eq 15, 3) := by decide +kernel
theorem dd_57_30 : decode prog_1_method_35_code 30 = .ok (.aload_n 0, 1) := by decide +kernel
theorem dd_57_31 : decode prog_1_method_35_code 31 = .ok (.iload_n 2, 1) := by decide +kernel
theorem dd_57_32 : decode prog_1_method_35_code 32 = .ok (.aload_n 0, 1) := by decide +kernel
theorem dd_57_33 : decode prog_1_method_35_code 33 = .ok (.getfield 60, 3) := by decide +kernel
theorem dd_57_36 : decode prog_1_method_35_code 36 = .ok (.iload_n 2, 1) := by decide +kernel
theorem dd_57_37 : decode prog_1_method_35_code 37 = .ok (.iaload, 1) := by decide +kernel
theorem dd_57_38 : decode prog_1_method_35_code 38 = .ok (.iload_n 1, 1) := by decide +kernel
theorem dd_57_39 : decode prog_1_method_35_code 39 = .ok (.invokevirtual 225, 3) := by decide +kernel
theorem dd_57_42 : decode prog_1_method_35_code 42 = .ok (.iinc 2 1, 3) := by decide +kernel
theorem dd_57_45 : decode prog_1_method_35_code 45 = .ok (.goto (-35), 3) := by decide +kernel
theorem dd_57_48 : decode prog_1_method_35_code 48 = .ok (.aload_n 0, 1) := by decide +kernel
theorem dd_57_49 : decode prog_1_method_35_code 49 = .ok (.getfield 60, 3) := by decide +kernel
theorem dd_57_52 : decode prog_1_method_35_code 52 = .ok (.astore_n 2, 1) := by decide +kernel
theorem dd_57_53 : decode prog_1_method_35_code 53 = .ok (.aload_n 0, 1) := by decide +kernel
theorem dd_57_54 : decode prog_1_method_35_code 54 = .ok (.aload_n 0, 1) := by decide +kernel
theorem dd_57_55 : decode prog_1_method_35_code 55 = .ok (.getfield 63, 3) := by decide +kernel
theorem dd_57_58 : decode prog_1_method_35_code 58 = .ok (.putfield 60, 3) := by decide +kernel
theorem dd_57_61 : decode prog_1_method_35_code 61 = .ok (.aload_n 0, 1) := by decide +kernel
theorem dd_57_62 : decode prog_1_method_35_code 62 = .ok (.aload_n 2, 1) := by decide +kernel
theorem dd_57_63 : decode prog_1_method_35_code 63 = .ok (.putfield 63, 3) := by decide +kernel
theorem dd_57_66 : decode prog_1_method_35_code 66 = .ok (.aload_n 0, 1) := by decide +kernel
theorem dd_57_67 : decode prog_1_method_35_code 67 = .ok (.getfield 50, 3) := by decide +kernel
theorem dd_57_70 : decode prog_1_method_35_code 70 = .ok (.aload_n 0, 1) := by decide +kernel
theorem dd_57_71 : decode prog_1_method_35_code 71 = .ok (.getfield 18, 3) := by decide +kernel
theorem dd_57_74 : decode prog_1_method_35_code 74 = .ok (.iload_n 1, 1) := by decide +kernel
theorem dd_57_75 : decode prog_1_method_35_code 75 = .ok (.invokevirtual 228, 3) := by decide +kernel
theorem dd_57_78 : decode prog_1_method_35_code 78 = .ok (.return_, 1) := by decide +kernel
theorem dd_58_0 : decode prog_1_method_36_code 0 = .ok (.aload_n 0, 1) := by decide +kernel
theorem dd_58_1 : decode prog_1_method_36_code 1 = .ok (.getfield 63, 3) := by decide +kernel
theorem dd_58_4 : decode prog_1_method_36_code 4 = .ok (.iload_n 1, 1) := by decide +kernel
theorem dd_58_5 : decode prog_1_method_36_code 5 = .ok (.dup2, 1) := by decide +kernel
theorem dd_58_6 : decode prog_1_method_36_code 6 = .ok (.iaload, 1) := by decide +kernel
theorem dd_58_7 : decode prog_1_method_36_code 7 = .ok (.iload_n 2, 1) := by decide +kernel
theorem dd_58_8 : decode prog_1_method_36_code 8 = .ok (.bipush 64, 2) := by decide +kernel
theorem dd_58_10 : decode prog_1_method_36_code 10 = .ok (.iand, 1) := by decide +kernel
theorem dd_58_11 : decode prog_1_method_36_code 11 = .ok (.ior, 1) := by decide +kernel
theorem dd_58_12 : decode prog_1_method_36_code 12 = .ok (.iastore, 1) := by decide +kernel
theorem dd_58_13 : decode prog_1_method_36_code 13 = .ok (.iconst 0, 1) := by decide +kernel
theorem dd_58_14 : decode prog_1_method_36_code 14 = .ok (.istore 4, 2) := by decide +kernel
theorem dd_58_16 : decode prog_1_method_36_code 16 = .ok (.iload 4, 2) := by decide +kernel
theorem dd_58_18 : decode prog_1_method_36_code 18 = .ok (.bipush 6, 2) := by decide +kernel
theorem dd_58_20 : decode prog_1_method_36_code 20 = .ok (.if_icmp .ge 42, 3) := by decide +kernel
theorem dd_58_23 : decode prog_1_method_36_code 23 = .ok (.iload_n 2, 1) := by decide +kernel
theorem dd_58_24 : decode prog_1_method_36_code 24 = .ok (.iload 4, 2) := by decide +kernel
theorem dd_58_26 : decode prog_1_method_36_code 26 = .ok (.invokestatic 146, 3) := by decide +kernel
theorem dd_58_29 : decode prog_1_method_36_code 29 = .ok (.ifCond .eq 27, 3) := by decide +kernel
theorem dd_58_32 : decode prog_1_method_36_code 32 = .ok (.aload_n 0, 1) := by decide +kernel
theorem dd_58_33 : decode prog_1_method_36_code 33 = .ok (.getfield 63, 3) := by decide +kernel
theorem dd_58_36 : decode prog_1_method_36_code 36 = .ok (.aload_n 0, 1) := by decide +kernel
theorem dd_58_37 : decode prog_1_method_36_code 37 = .ok (.getfield 18, 3) := by decide +kernel
theorem dd_58_40 : decode prog_1_method_36_code 40 = .ok (.iload_n 1, 1) := by decide +kernel
theorem dd_58_41 : decode prog_1_method_36_code 41 = .ok (.iload 4, 2) := by decide +kernel
theorem dd_58_43 : decode prog_1_method_36_code 43 = .ok (.iload_n 3, 1) := by decide +kernel
theorem dd_58_44 : decode prog_1_method_36_code 44 = .ok (.iadd, 1) := by decide +kernel
theorem dd_58_45 : decode prog_1_method_36_code 45 = .ok (.invokevirtual 231, 3) := by decide +kernel
theorem dd_58_48 : decode prog_1_method_36_code 48 = .ok (.dup2, 1) := by decide +kernel
theorem dd_58_49 : decode prog_1_method_36_code 49 = .ok (.iaload, 1) := by decide +kernel
theorem dd_58_50 : decode prog_1_method_36_code 50 = .ok (.iconst 1, 1) := by decide +kernel
theorem dd_58_51 : decode prog_1_method_36_code 51 = .ok (.iload 4, 2) := by decide +kernel
theorem dd_58_53 : decode prog_1_method_36_code 53 = .ok (.ishl, 1) := by decide +kernel
theorem dd_58_54 : decode prog_1_method_36_code 54 = .ok (.ior, 1) := by decide +kernel
theorem dd_58_55 : decode prog_1_method_36_code 55 = .ok (.iastore, 1) := by decide +kernel
theorem dd_58_56 : decode prog_1_method_36_code 56 = .ok (.iinc 4 1, 3) := by decide +kernel
theorem dd_58_59 : decode prog_1_method_36_code 59 = .ok (.goto (-43), 3) := by decide +kernel
theorem dd_58_62 : decode prog_1_method_36_code 62 = .ok (.return_, 1) := by decide +kernel
theorem dd_59_0 : decode prog_1_method_37_code 0 = .ok (.iconst 0, 1) := by decide +kernel
theorem dd_59_1 : decode prog_1_method_37_code 1 = .ok (.istore_n 1, 1) := by decide +kernel
theorem dd_59_2 : decode prog_1_method_37_code 2 = .ok (.iload_n 1, 1) := by decide +kernel
theorem dd_59_3 : decode prog_1_method_37_code 3 = .ok (.aload_n 0, 1) := by decide +kernel
theorem dd_59_4 : decode prog_1_method_37_code 4 = .ok (.getfield 18, 3) := by decide +kernel
theorem dd_59_7 : decode prog_1_method_37_code 7 = .ok (.getfield 22, 3) := by decide +kernel
theorem dd_59_10 : decode prog_1_method_37_code 10 = .ok (.if_icmp .ge 77, 3) := by decide +kernel
theorem dd_59_13 : decode prog_1_method_37_code 13 = .ok (.aload_n 0, 1) := by decide +kernel
theorem dd_59_14 : decode prog_1_method_37_code 14 = .ok (.getfield 26, 3) := by decide +kernel
theorem dd_59_17 : decode prog_1_method_37_code 17 = .ok (.iload_n 1, 1) := by decide +kernel
theorem dd_59_18 : decode prog_1_method_37_code 18 = .ok (.iaload, 1) := by decide +kernel
theorem dd_59_19 : decode prog_1_method_37_code 19 = .ok (.istore_n 2, 1) := by decide +kernel
theorem dd_59_20 : decode prog_1_method_37_code 20 = .ok (.iload_n 2, 1) := by decide +kernel
theorem dd_59_21 : decode prog_1_method_37_code 21 = .ok (.ifCond .eq 60, 3) := by decide +kernel
theorem dd_59_24 : decode prog_1_method_37_code 24 = .ok (.aload_n 0, 1) := by decide +kernel
theorem dd_59_25 : decode prog_1_method_37_code 25 = .ok (.getfield 60, 3) := by decide +kernel
theorem dd_59_28 : decode prog_1_method_37_code 28 = .ok (.iload_n 1, 1) := by decide +kernel
theorem dd_59_29 : decode prog_1_method_37_code 29 = .ok (.iaload, 1) := by decide +kernel
theorem dd_59_30 : decode prog_1_method_37_code 30 = .ok (.istore_n 3, 1) := by decide +kernel
theorem dd_59_31 : decode prog_1_method_37_code 31 = .ok (.aload_n 0, 1) := by decide +kernel
theorem dd_59_32 : decode prog_1_method_37_code 32 = .ok (.iload_n 2, 1) := by decide +kernel
theorem dd_59_33 : decode prog_1_method_37_code 33 = .ok (.iload_n 3, 1) := by decide +kernel
theorem dd_59_34 : decode prog_1_method_37_code 34 = .ok (.aload_n 0, 1) := by decide +kernel
theorem dd_59_35 : decode prog_1_method_37_code 35 = .ok (.getfield 30, 3) := by decide +kernel
theorem dd_59_38 : decode prog_1_method_37_code 38 = .ok (.iload_n 1, 1) := by decide +kernel
theorem dd_59_39 : decode prog_1_method_37_code 39 = .ok (.iaload, 1) := by decide +kernel
theorem dd_59_40 : decode prog_1_method_37_code 40 = .ok (.invokevirtual 234, 3) := by decide +kernel
theorem dd_59_43 : decode prog_1_method_37_code 43 = .ok (.istore 4, 2) := by decide +kernel
theorem dd_59_45 : decode prog_1_method_37_code 45 = .ok (.aload_n 0, 1) := by decide +kernel
theorem dd_59_46 : decode prog_1_method_37_code 46 = .ok (.getfield 60, 3) := by decide +kernel
theorem dd_59_49 : decode prog_1_method_37_code 49 = .ok (.iload_n 1, 1) := by decide +kernel
theorem dd_59_50 : decode prog_1_method_37_code 50 = .ok (.iload 4, 2) := by decide +kernel
theorem dd_59_52 : decode prog_1_method_37_code 52 = .ok (.iastore, 1) := by decide +kernel
theorem dd_59_53 : decode prog_1_method_37_code 53 = .ok (.aload_n 0, 1) := by decide +kernel
theorem dd_59_54 : decode prog_1_method_37_code 54 = .ok (.getfield 36, 3) := by decide +kernel
theorem dd_59_57 : decode prog_1_method_37_code 57 = .ok (.iload_n 2, 1) := by decide +kernel
theorem dd_59_58 : decode prog_1_method_37_code 58 = .ok (.iconst 1, 1) := by decide +kernel
theorem dd_59_59 : decode prog_1_method_37_code 59 = .ok (.isub, 1) := by decide +kernel
theorem dd_59_60 : decode prog_1_method_37_code 60 = .ok (.iload_n 3, 1) := by decide +kernel
theorem dd_59_61 : decode prog_1_method_37_code 61 = .ok (.iload 4, 2) := by decide +kernel
theorem dd_59_63 : decode prog_1_method_37_code 63 = .ok (.invokevirtual 238, 3) := by decide +kernel
theorem dd_59_66 : decode prog_1_method_37_code 66 = .ok (.iload_n 2, 1) := by decide +kernel
theorem dd_59_67 : decode prog_1_method_37_code 67 = .ok (.iconst 4, 1) := by decide +kernel
theorem dd_59_68 : decode prog_1_method_37_code 68 = .ok (.if_icmp .ne 13, 3) := by decide +kernel
theorem dd_59_71 : decode prog_1_method_37_code 71 = .ok (.aload_n 0, 1) := by decide +kernel
theorem dd_59_72 : decode prog_1_method_37_code 72 = .ok (.getfield 43, 3) := by decide +kernel
theorem dd_59_75 : decode prog_1_method_37_code 75 = .ok (.iload_n 3, 1) := by decide +kernel
theorem dd_59_76 : decode prog_1_method_37_code 76 = .ok (.iload 4, 2) := by decide +kernel
theorem dd_59_78 : decode prog_1_method_37_code 78 = .ok (.invokevirtual 241, 3) := by decide +kernel
theorem dd_59_81 : decode prog_1_method_37_code 81 = .ok (.iinc 1 1, 3) := by decide +kernel
theorem dd_59_84 : decode prog_1_method_37_code 84 = .ok (.goto (-82), 3) := by decide +kernel
theorem dd_59_87 : decode prog_1_method_37_code 87 = .ok (.aload_n 0, 1) := by decide +kernel
theorem dd_59_88 : decode prog_1_method_37_code 88 = .ok (.getfield 50, 3) := by decide +kernel
theorem dd_59_91 : decode prog_1_method_37_code 91 = .ok (.aload_n 0, 1) := by decide +kernel
theorem dd_59_92 : decode prog_1_method_37_code 92 = .ok (.getfield 26, 3) := by decide +kernel
theorem dd_59_95 : decode prog_1_method_37_code 95 = .ok (.invokevirtual 244, 3) := by decide +kernel
theorem dd_59_98 : decode prog_1_method_37_code 98 = .ok (.return_, 1) := by decide +kernel
theorem dd_60_0 : decode prog_1_method_38_code 0 = .ok (.iload_n 1, 1) := by decide +kernel
theorem dd_60_1 : decode prog_1_method_38_code 1 = .ok (.iconst 3, 1) := by decide +kernel
theorem dd_60_2 : decode prog_1_method_38_code 2 = .ok (.if_icmp .ne 5, 3) := by decide +kernel
theorem dd_60_5 : decode prog_1_method_38_code 5 = .ok (.iconst 0, 1) := by decide +kernel
theorem dd_60_6 : decode prog_1_method_38_code 6 = .ok (.ireturn, 1) := by decide +kernel
theorem dd_60_7 : decode prog_1_method_38_code 7 = .ok (.iload_n 1, 1) := by decide +kernel
theorem dd_60_8 : decode prog_1_method_38_code 8 = .ok (.iconst 2, 1) := by decide +kernel
theorem dd_60_9 : decode prog_1_method_38_code 9 = .ok (.if_icmp .ne 12, 3) := by decide +kernel
theorem dd_60_12 : decode prog_1_method_38_code 12 = .ok (.aload_n 0, 1) := by decide +kernel
theorem dd_60_13 : decode prog_1_method_38_code 13 = .ok (.iload_n 2, 1) := by decide +kernel
theorem dd_60_14 : decode prog_1_method_38_code 14 = .ok (.iload_n 3, 1) := by decide +kernel
theorem dd_60_15 : decode prog_1_method_38_code 15 = .ok (.invokevirtual 247, 3) := by decide +kernel
theorem dd_60_18 : decode prog_1_method_38_code 18 = .ok (.goto 7, 3) := by decide +kernel
theorem dd_60_21 : decode prog_1_method_38_code 21 = .ok (.iload_n 2, 1) := by decide +kernel
theorem dd_60_22 : decode prog_1_method_38_code 22 = .ok (.invokestatic 250, 3) := by decide +kernel
theorem dd_60_25 : decode prog_1_method_38_code 25 = .ok (.ireturn, 1) := by decide +kernel
theorem dd_61_0 : decode prog_1_method_39_code 0 = .ok (.iload_n 1, 1) := by decide +kernel
theorem dd_61_1 : decode prog_1_method_39_code 1 = .ok (.istore_n 3, 1) := by decide +kernel
theorem dd_61_2 : decode prog_1_method_39_code 2 = .ok (.iconst 0, 1) := by decide +kernel
theorem dd_61_3 : decode prog_1_method_39_code 3 = .ok (.istore 4, 2) := by decide +kernel
theorem dd_61_5 : decode prog_1_method_39_code 5 = .ok (.iload 4, 2) := by decide +kernel
theorem dd_61_7 : decode prog_1_method_39_code 7 = .ok (.bipush 7, 2) := by decide +kernel
theorem dd_61_9 : decode prog_1_method_39_code 9 = .ok (.if_icmp .ge 46, 3) := by decide +kernel
theorem dd_61_12 : decode prog_1_method_39_code 12 = .ok (.aload_n 0, 1) := by decide +kernel
theorem dd_61_13 : decode prog_1_method_39_code 13 = .ok (.aload_n 0, 1) := by decide +kernel
theorem dd_61_14 : decode prog_1_method_39_code 14 = .ok (.getfield 69, 3) := by decide +kernel
theorem dd_61_17 : decode prog_1_method_39_code 17 = .ok (.ldc 253, 2) := by decide +kernel
theorem dd_61_19 : decode prog_1_method_39_code 19 = .ok (.imul, 1) := by decide +kernel
theorem dd_61_20 : decode prog_1_method_39_code 20 = .ok (.sipush 12345, 3) := by decide +kernel
theorem dd_61_23 : decode prog_1_method_39_code 23 = .ok (.iadd, 1) := by decide +kernel
theorem dd_61_24 : decode prog_1_method_39_code 24 = .ok (.putfield 69, 3) := by decide +kernel
theorem dd_61_27 : decode prog_1_method_39_code 27 = .ok (.aload_n 0, 1) := by decide +kernel
theorem dd_61_28 : decode prog_1_method_39_code 28 = .ok (.getfield 69, 3) := by decide +kernel
theorem dd_61_31 : decode prog_1_method_39_code 31 = .ok (.bipush 16, 2) := by decide +kernel
theorem dd_61_33 : decode prog_1_method_39_code 33 = .ok (.iushr, 1) := by decide +kernel
theorem dd_61_34 : decode prog_1_method_39_code 34 = .ok (.sipush 255, 3) := by decide +kernel
theorem dd_61_37 : decode prog_1_method_39_code 37 = .ok (.iand, 1) := by decide +kernel
theorem dd_61_38 : decode prog_1_method_39_code 38 = .ok (.iload_n 2, 1) := by decide +kernel
theorem dd_61_39 : decode prog_1_method_39_code 39 = .ok (.if_icmp .ge 10, 3) := by decide +kernel
theorem dd_61_42 : decode prog_1_method_39_code 42 = .ok (.iload_n 3, 1) := by decide +kernel
theorem dd_61_43 : decode prog_1_method_39_code 43 = .ok (.iconst 1, 1) := by decide +kernel
theorem dd_61_44 : decode prog_1_method_39_code 44 = .ok (.iload 4, 2) := by decide +kernel
theorem dd_61_46 : decode prog_1_method_39_code 46 = .ok (.ishl, 1) := by decide +kernel
theorem dd_61_47 : decode prog_1_method_39_code 47 = .ok (.ior, 1) := by decide +kernel
theorem dd_61_48 : decode prog_1_method_39_code 48 = .ok (.istore_n 3, 1) := by decide +kernel
theorem dd_61_49 : decode prog_1_method_39_code 49 = .ok (.iinc 4 1, 3) := by decide +kernel
theorem dd_61_52 : decode prog_1_method_39_code 52 = .ok (.goto (-47), 3) := by decide +kernel
theorem dd_61_55 : decode prog_1_method_39_code 55 = .ok (.iload_n 3, 1) := by decide +kernel
theorem dd_61_56 : decode prog_1_method_39_code 56 = .ok (.ireturn, 1) := by decide +kernel
theorem dd_62_0 : decode prog_1_method_40_code 0 = .ok (.aload_n 0, 1) := by decide +kernel
theorem dd_62_1 : decode prog_1_method_40_code 1 = .ok (.getfield 43, 3) := by decide +kernel
theorem dd_62_4 : decode prog_1_method_40_code 4 = .ok (.invokevirtual 254, 3) := by decide +kernel
theorem dd_62_7 : decode prog_1_method_40_code 7 = .ok (.istore_n 1, 1) := by decide +kernel
theorem dd_62_8 : decode prog_1_method_40_code 8 = .ok (.iload_n 1, 1) := by decide +kernel
theorem dd_62_9 : decode prog_1_method_40_code 9 = .ok (.iconst (-1), 1) := by decide +kernel
theorem dd_62_10 : decode prog_1_method_40_code 10 = .ok (.if_icmp .eq 24, 3) := by decide +kernel
theorem dd_62_13 : decode prog_1_method_40_code 13 = .ok (.aload_n 0, 1) := by decide +kernel
theorem dd_62_14 : decode prog_1_method_40_code 14 = .ok (.iload_n 1, 1) := by decide +kernel
theorem dd_62_15 : decode prog_1_method_40_code 15 = .ok (.invokevirtual 258, 3) := by decide +kernel
theorem dd_62_18 : decode prog_1_method_40_code 18 = .ok (.ifCond .eq 16, 3) := by decide +kernel
theorem dd_62_21 : decode prog_1_method_40_code 21 = .ok (.aload_n 0, 1) := by decide +kernel
theorem dd_62_22 : decode prog_1_method_40_code 22 = .ok (.iload_n 1, 1) := by decide +kernel
theorem dd_62_23 : decode prog_1_method_40_code 23 = .ok (.invokevirtual 262, 3) := by decide +kernel
theorem dd_62_26 : decode prog_1_method_40_code 26 = .ok (.aload_n 0, 1) := by decide +kernel
theorem dd_62_27 : decode prog_1_method_40_code 27 = .ok (.getfield 43, 3) := by decide +kernel
theorem dd_62_30 : decode prog_1_method_40_code 30 = .ok (.iload_n 1, 1) := by decide +kernel
theorem dd_62_31 : decode prog_1_method_40_code 31 = .ok (.invokevirtual 265, 3) := by decide +kernel
theorem dd_62_34 : decode prog_1_method_40_code 34 = .ok (.return_, 1) := by decide +kernel
theorem dd_63_0 : decode prog_1_method_41_code 0 = .ok (.iconst 0, 1) := by decide +kernel
theorem dd_63_1 : decode prog_1_method_41_code 1 = .ok (.istore_n 2, 1) := by decide +kernel
theorem dd_63_2 : decode prog_1_method_41_code 2 = .ok (.iconst 0, 1) := by decide +kernel
theorem dd_63_3 : decode prog_1_method_41_code 3 = .ok (.istore_n 3, 1) := by decide +kernel
theorem dd_63_4 : decode prog_1_method_41_code 4 = .ok (.iload_n 3, 1) := by decide +kernel
theorem dd_63_5 : decode prog_1_method_41_code 5 = .ok (.aload_n 0, 1) := by decide +kernel
theorem dd_63_6 : decode prog_1_method_41_code 6 = .ok (.getfield 18, 3) := by decide +kernel
theorem dd_63_9 : decode prog_1_method_41_code 9 = .ok (.getfield 22, 3) := by decide +kernel
theorem dd_63_12 : decode prog_1_method_41_code 12 = .ok (.if_icmp .ge 50, 3) := by decide +kernel
theorem dd_63_15 : decode prog_1_method_41_code 15 = .ok (.aload_n 0, 1) := by decide +kernel
theorem dd_63_16 : decode prog_1_method_41_code 16 = .ok (.getfield 26, 3) := by decide +kernel
theorem dd_63_19 : decode prog_1_method_41_code 19 = .ok (.iload_n 3, 1) := by decide +kernel
theorem dd_63_20 : decode prog_1_method_41_code 20 = .ok (.iaload, 1) := by decide +kernel
theorem dd_63_21 : decode prog_1_method_41_code 21 = .ok (.iconst 4, 1) := by decide +kernel
theorem dd_63_22 : decode prog_1_method_41_code 22 = .ok (.if_icmp .ne 34, 3) := by decide +kernel
theorem dd_63_25 : decode prog_1_method_41_code 25 = .ok (.iconst 1, 1) := by decide +kernel
theorem dd_63_26 : decode prog_1_method_41_code 26 = .ok (.istore_n 2, 1) := by decide +kernel
theorem dd_63_27 : decode prog_1_method_41_code 27 = .ok (.aload_n 0, 1) := by decide +kernel
theorem dd_63_28 : decode prog_1_method_41_code 28 = .ok (.getfield 26, 3) := by decide +kernel
theorem dd_63_31 : decode prog_1_method_41_code 31 = .ok (.aload_n 0, 1) := by decide +kernel
theorem dd_63_32 : decode prog_1_method_41_code 32 = .ok (.getfield 18, 3) := by decide +kernel
theorem dd_63_35 : decode prog_1_method_41_code 35 = .ok (.iload_n 3, 1) := by decide +kernel
theorem dd_63_36 : decode prog_1_method_41_code 36 = .ok (.iload_n 1, 1) := by decide +kernel
theorem dd_63_37 : decode prog_1_method_41_code 37 = .ok (.invokevirtual 231, 3) := by decide +kernel
theorem dd_63_40 : decode prog_1_method_41_code 40 = .ok (.iaload, 1) := by decide +kernel
theorem dd_63_41 : decode prog_1_method_41_code 41 = .ok (.istore 4, 2) := by decide +kernel
theorem dd_63_43 : decode prog_1_method_41_code 43 = .ok (.iload 4, 2) := by decide +kernel
theorem dd_63_45 : decode prog_1_method_41_code 45 = .ok (.ifCond .eq 11, 3) := by decide +kernel
theorem dd_63_48 : decode prog_1_method_41_code 48 = .ok (.iload 4, 2) := by decide +kernel
theorem dd_63_50 : decode prog_1_method_41_code 50 = .ok (.iconst 4, 1) := by decide +kernel
theorem dd_63_51 : decode prog_1_method_41_code 51 = .ok (.if_icmp .eq 5, 3) := by decide +kernel
theorem dd_63_54 : decode prog_1_method_41_code 54 = .ok (.iconst 0, 1) := by decide +kernel
theorem dd_63_55 : decode prog_1_method_41_code 55 = .ok (.ireturn, 1) := by decide +kernel
theorem dd_63_56 : decode prog_1_method_41_code 56 = .ok (.iinc 3 1, 3) := by decide +kernel
theorem dd_63_59 : decode prog_1_method_41_code 59 = .ok (.goto (-55), 3) := by decide +kernel
theorem dd_63_62 : decode prog_1_method_41_code 62 = .ok (.iload_n 2, 1) := by decide +kernel
theorem dd_63_63 : decode prog_1_method_41_code 63 = .ok (.ireturn, 1) := by decide +kernel
theorem dd_64_0 : decode prog_1_method_42_code 0 = .ok (.iconst 0, 1) := by decide +kernel
theorem dd_64_1 : decode prog_1_method_42_code 1 = .ok (.istore_n 2, 1) := by decide +kernel
theorem dd_64_2 : decode prog_1_method_42_code 2 = .ok (.iconst 0, 1) := by decide +kernel
theorem dd_64_3 : decode prog_1_method_42_code 3 = .ok (.istore_n 3, 1) := by decide +kernel
theorem dd_64_4 : decode prog_1_method_42_code 4 = .ok (.iconst 0, 1) := by decide +kernel
theorem dd_64_5 : decode prog_1_method_42_code 5 = .ok (.istore 4, 2) := by decide +kernel
theorem dd_64_7 : decode prog_1_method_42_code 7 = .ok (.iload 4, 2) := by decide +kernel
theorem dd_64_9 : decode prog_1_method_42_code 9 = .ok (.aload_n 0, 1) := by decide +kernel
theorem dd_64_10 : decode prog_1_method_42_code 10 = .ok (.getfield 18, 3) := by decide +kernel
theorem dd_64_13 : decode prog_1_method_42_code 13 = .ok (.getfield 22, 3) := by decide +kernel
theorem dd_64_16 : decode prog_1_method_42_code 16 = .ok (.if_icmp .ge 97, 3) := by decide +kernel
theorem dd_64_19 : decode prog_1_method_42_code 19 = .ok (.aload_n 0, 1) := by decide +kernel
theorem dd_64_20 : decode prog_1_method_42_code 20 = .ok (.getfield 26, 3) := by decide +kernel
theorem dd_64_23 : decode prog_1_method_42_code 23 = .ok (.iload 4, 2) := by decide +kernel
theorem dd_64_25 : decode prog_1_method_42_code 25 = .ok (.iaload, 1) := by decide +kernel
theorem dd_64_26 : decode prog_1_method_42_code 26 = .ok (.iconst 4, 1) := by decide +kernel
theorem dd_64_27 : decode prog_1_method_42_code 27 = .ok (.if_icmp .ne 7, 3) := by decide +kernel
theorem dd_64_30 : decode prog_1_method_42_code 30 = .ok (.iconst 1, 1) := by decide +kernel
theorem dd_64_31 : decode prog_1_method_42_code 31 = .ok (.goto 4, 3) := by decide +kernel
theorem dd_64_34 : decode prog_1_method_42_code 34 = .ok (.iconst 0, 1) := by decide +kernel
theorem dd_64_35 : decode prog_1_method_42_code 35 = .ok (.istore 5, 2) := by decide +kernel
theorem dd_64_37 : decode prog_1_method_42_code 37 = .ok (.aload_n 0, 1) := by decide +kernel
theorem dd_64_38 : decode prog_1_method_42_code 38 = .ok (.getfield 26, 3) := by decide +kernel
theorem dd_64_41 : decode prog_1_method_42_code 41 = .ok (.aload_n 0, 1) := by decide +kernel
theorem dd_64_42 : decode prog_1_method_42_code 42 = .ok (.getfield 18, 3) := by decide +kernel
theorem dd_64_45 : decode prog_1_method_42_code 45 = .ok (.iload 4, 2) := by decide +kernel
theorem dd_64_47 : decode prog_1_method_42_code 47 = .ok (.iload_n 1, 1) := by decide +kernel
theorem dd_64_48 : decode prog_1_method_42_code 48 = .ok (.iconst 3, 1) := by decide +kernel
theorem dd_64_49 : decode prog_1_method_42_code 49 = .ok (.iadd, 1) := by decide +kernel
theorem dd_64_50 : decode prog_1_method_42_code 50 = .ok (.invokevirtual 231, 3) := by decide +kernel
theorem dd_64_53 : decode prog_1_method_42_code 53 = .ok (.iaload, 1) := by decide +kernel
theorem dd_64_54 : decode prog_1_method_42_code 54 = .ok (.iconst 4, 1) := by decide +kernel
theorem dd_64_55 : decode prog_1_method_42_code 55 = .ok (.if_icmp .ne 7, 3) := by decide +kernel
theorem dd_64_58 : decode prog_1_method_42_code 58 = .ok (.iconst 1, 1) := by decide +kernel
theorem dd_64_59 : decode prog_1_method_42_code 59 = .ok (.goto 4, 3) := by decide +kernel
theorem dd_64_62 : decode prog_1_method_42_code 62 = .ok (.iconst 0, 1) := by decide +kernel
theorem dd_64_63 : decode prog_1_method_42_code 63 = .ok (.istore 6, 2) := by decide +kernel
theorem dd_64_65 : decode prog_1_method_42_code 65 = .ok (.iload 6, 2) := by decide +kernel
theorem dd_64_67 : decode prog_1_method_42_code 67 = .ok (.ifCond .eq 19, 3) := by decide +kernel
theorem dd_64_70 : decode prog_1_method_42_code 70 = .ok (.iload 5, 2) := by decide +kernel
theorem dd_64_72 : decode prog_1_method_42_code 72 = .ok (.ifCond .ne 14, 3) := by decide +kernel
theorem dd_64_75 : decode prog_1_method_42_code 75 = .ok (.aload_n 0, 1) := by decide +kernel
theorem dd_64_76 : decode prog_1_method_42_code 76 = .ok (.getfield 54, 3) := by decide +kernel
theorem dd_64_79 : decode prog_1_method_42_code 79 = .ok (.iload_n 2, 1) := by decide +kernel
theorem dd_64_80 : decode prog_1_method_42_code 80 = .ok (.iinc 2 1, 3) := by decide +kernel
theorem dd_64_83 : decode prog_1_method_42_code 83 = .ok (.iload 4, 2) := by decide +kernel
theorem dd_64_85 : decode prog_1_method_42_code 85 = .ok (.iastore, 1) := by decide +kernel
theorem dd_64_86 : decode prog_1_method_42_code 86 = .ok (.iload 5, 2) := by decide +kernel
theorem dd_64_88 : decode prog_1_method_42_code 88 = .ok (.ifCond .eq 19, 3) := by decide +kernel
theorem dd_64_91 : decode prog_1_method_42_code 91 = .ok (.iload 6, 2) := by decide +kernel
theorem dd_64_93 : decode prog_1_method_42_code 93 = .ok (.ifCond .ne 14, 3) := by decide +kernel
theorem dd_64_96 : decode prog_1_method_42_code 96 = .ok (.aload_n 0, 1) := by decide +kernel
theorem dd_64_97 : decode prog_1_method_42_code 97 = .ok (.getfield 57, 3) := by decide +kernel
theorem dd_64_100 : decode prog_1_method_42_code 100 = .ok (.iload_n 3, 1) := by decide +kernel
theorem dd_64_101 : decode prog_1_method_42_code 101 = .ok (.iinc 3 1, 3) := by decide +kernel
theorem dd_64_104 : decode prog_1_method_42_code 104 = .ok (.iload 4, 2) := by decide +kernel
theorem dd_64_106 : decode prog_1_method_42_code 106 = .ok (.iastore, 1) := by decide +kernel
theorem dd_64_107 : decode prog_1_method_42_code 107 = .ok (.iinc 4 1, 3) := by decide +kernel
theorem dd_64_110 : decode prog_1_method_42_code 110 = .ok (.goto (-103), 3) := by decide +kernel
theorem dd_64_113 : decode prog_1_method_42_code 113 = .ok (.iconst 0, 1) := by decide +kernel
theorem dd_64_114 : decode prog_1_method_42_code 114 = .ok (.istore 4, 2) := by decide +kernel
theorem dd_64_116 : decode prog_1_method_42_code 116 = .ok (.iload 4, 2) := by decide +kernel
theorem dd_64_118 : decode prog_1_method_42_code 118 = .ok (.iload_n 2, 1) := by decide +kernel
theorem dd_64_119 : decode prog_1_method_42_code 119 = .ok (.if_icmp .ge 53, 3) := by decide +kernel
theorem dd_64_122 : decode prog_1_method_42_code 122 = .ok (.aload_n 0, 1) := by decide +kernel
theorem dd_64_123 : decode prog_1_method_42_code 123 = .ok (.getfield 26, 3) := by decide +kernel
theorem dd_64_126 : decode prog_1_method_42_code 126 = .ok (.aload_n 0, 1) := by decide +kernel
theorem dd_64_127 : decode prog_1_method_42_code 127 = .ok (.getfield 54, 3) := by decide +kernel
theorem dd_64_130 : decode prog_1_method_42_code 130 = .ok (.iload 4, 2) := by decide +kernel
theorem dd_64_132 : decode prog_1_method_42_code 132 = .ok (.iaload, 1) := by decide +kernel
theorem dd_64_133 : decode prog_1_method_42_code 133 = .ok (.iconst 4, 1) := by decide +kernel
theorem dd_64_134 : decode prog_1_method_42_code 134 = .ok (.iastore, 1) := by decide +kernel
theorem dd_64_135 : decode prog_1_method_42_code 135 = .ok (.aload_n 0, 1) := by decide +kernel
theorem dd_64_136 : decode prog_1_method_42_code 136 = .ok (.getfield 26, 3) := by decide +kernel
theorem dd_64_139 : decode prog_1_method_42_code 139 = .ok (.aload_n 0, 1) := by decide +kernel
theorem dd_64_140 : decode prog_1_method_42_code 140 = .ok (.getfield 57, 3) := by decide +kernel
theorem dd_64_143 : decode prog_1_method_42_code 143 = .ok (.iload 4, 2) := by decide +kernel
theorem dd_64_145 : decode prog_1_method_42_code 145 = .ok (.iaload, 1) := by decide +kernel
theorem dd_64_146 : decode prog_1_method_42_code 146 = .ok (.iconst 0, 1) := by decide +kernel
theorem dd_64_147 : decode prog_1_method_42_code 147 = .ok (.iastore, 1) := by decide +kernel
theorem dd_64_148 : decode prog_1_method_42_code 148 = .ok (.aload_n 0, 1) := by decide +kernel
theorem dd_64_149 : decode prog_1_method_42_code 149 = .ok (.aload_n 0, 1) := by decide +kernel
theorem dd_64_150 : decode prog_1_method_42_code 150 = .ok (.getfield 54, 3) := by decide +kernel
theorem dd_64_153 : decode prog_1_method_42_code 153 = .ok (.iload 4, 2) := by decide +kernel
theorem dd_64_155 : decode prog_1_method_42_code 155 = .ok (.iaload, 1) := by decide +kernel
theorem dd_64_156 : decode prog_1_method_42_code 156 = .ok (.aload_n 0, 1) := by decide +kernel
theorem dd_64_157 : decode prog_1_method_42_code 157 = .ok (.getfield 57, 3) := by decide +kernel
theorem dd_64_160 : decode prog_1_method_42_code 160 = .ok (.iload 4, 2) := by decide +kernel
theorem dd_64_162 : decode prog_1_method_42_code 162 = .ok (.iaload, 1) := by decide +kernel
theorem dd_64_163 : decode prog_1_method_42_code 163 = .ok (.invokevirtual 268, 3) := by decide +kernel
theorem dd_64_166 : decode prog_1_method_42_code 166 = .ok (.iinc 4 1, 3) := by decide +kernel
theorem dd_64_169 : decode prog_1_method_42_code 169 = .ok (.goto (-53), 3) := by decide +kernel
theorem dd_64_172 : decode prog_1_method_42_code 172 = .ok (.return_, 1) := by decide +kernel
theorem dd_65_0 : decode prog_1_method_43_code 0 = .ok (.aload_n 0, 1) := by decide +kernel
theorem dd_65_1 : decode prog_1_method_43_code 1 = .ok (.getfield 60, 3) := by decide +kernel
theorem dd_65_4 : decode prog_1_method_43_code 4 = .ok (.iload_n 1, 1) := by decide +kernel
theorem dd_65_5 : decode prog_1_method_43_code 5 = .ok (.iaload, 1) := by decide +kernel
theorem dd_65_6 : decode prog_1_method_43_code 6 = .ok (.istore_n 3, 1) := by decide +kernel
theorem dd_65_7 : decode prog_1_method_43_code 7 = .ok (.aload_n 0, 1) := by decide +kernel
theorem dd_65_8 : decode prog_1_method_43_code 8 = .ok (.getfield 60, 3) := by decide +kernel
theorem dd_65_11 : decode prog_1_method_43_code 11 = .ok (.iload_n 1, 1) := by decide +kernel
theorem dd_65_12 : decode prog_1_method_43_code 12 = .ok (.aload_n 0, 1) := by decide +kernel
theorem dd_65_13 : decode prog_1_method_43_code 13 = .ok (.getfield 60, 3) := by decide +kernel
theorem dd_65_16 : decode prog_1_method_43_code 16 = .ok (.iload_n 2, 1) := by decide +kernel
theorem dd_65_17 : decode prog_1_method_43_code 17 = .ok (.iaload, 1) := by decide +kernel
theorem dd_65_18 : decode prog_1_method_43_code 18 = .ok (.iastore, 1) := by decide +kernel
theorem dd_65_19 : decode prog_1_method_43_code 19 = .ok (.aload_n 0, 1) := by decide +kernel
theorem dd_65_20 : decode prog_1_method_43_code 20 = .ok (.getfield 60, 3) := by decide +kernel
theorem dd_65_23 : decode prog_1_method_43_code 23 = .ok (.iload_n 2, 1) := by decide +kernel
theorem dd_65_24 : decode prog_1_method_43_code 24 = .ok (.iload_n 3, 1) := by decide +kernel
theorem dd_65_25 : decode prog_1_method_43_code 25 = .ok (.iastore, 1) := by decide +kernel
theorem dd_65_26 : decode prog_1_method_43_code 26 = .ok (.aload_n 0, 1) := by decide +kernel
theorem dd_65_27 : decode prog_1_method_43_code 27 = .ok (.getfield 50, 3) := by decide +kernel
theorem dd_65_30 : decode prog_1_method_43_code 30 = .ok (.iload_n 1, 1) := by decide +kernel
theorem dd_65_31 : decode prog_1_method_43_code 31 = .ok (.iload_n 2, 1) := by decide +kernel
theorem dd_65_32 : decode prog_1_method_43_code 32 = .ok (.invokevirtual 271, 3) := by decide +kernel
theorem dd_65_35 : decode prog_1_method_43_code 35 = .ok (.return_, 1) := by decide +kernel
theorem dd_66_0 : decode prog_7_method_1_code 0 = .ok (.aload_n 0, 1) := by decide +kernel
theorem dd_66_1 : decode prog_7_method_1_code 1 = .ok (.invokespecial 1, 3) := by decide +kernel
theorem dd_66_4 : decode prog_7_method_1_code 4 = .ok (.aload_n 0, 1) := by decide +kernel
theorem dd_66_5 : decode prog_7_method_1_code 5 = .ok (.sipush 256, 3) := by decide +kernel
theorem dd_66_8 : decode prog_7_method_1_code 8 = .ok (.newarray .int, 2) := by decide +kernel
theorem dd_66_10 : decode prog_7_method_1_code 10 = .ok (.putfield 7, 3) := by decide +kernel
theorem dd_66_13 : decode prog_7_method_1_code 13 = .ok (.aload_n 0, 1) := by decide +kernel
theorem dd_66_14 : decode prog_7_method_1_code 14 = .ok (.sipush 256, 3) := by decide +kernel
theorem dd_66_17 : decode prog_7_method_1_code 17 = .ok (.newarray .int, 2) := by decide +kernel
theorem dd_66_19 : decode prog_7_method_1_code 19 = .ok (.putfield 13, 3) := by decide +kernel
theorem dd_66_22 : decode prog_7_method_1_code 22 = .ok (.aload_n 0, 1) := by decide +kernel
theorem dd_66_23 : decode prog_7_method_1_code 23 = .ok (.sipush 256, 3) := by decide +kernel
theorem dd_66_26 : decode prog_7_method_1_code 26 = .ok (.newarray .int, 2) := by decide +kernel
theorem dd_66_28 : decode prog_7_method_1_code 28 = .ok (.putfield 16, 3) := by decide +kernel
theorem dd_66_31 : decode prog_7_method_1_code 31 = .ok (.aload_n 0, 1) := by decide +kernel
theorem dd_66_32 : decode prog_7_method_1_code 32 = .ok (.sipush 256, 3) := by decide +kernel
theorem dd_66_35 : decode prog_7_method_1_code 35 = .ok (.newarray .int, 2) := by decide +kernel
theorem dd_66_37 : decode prog_7_method_1_code 37 = .ok (.putfield 19, 3) := by decide +kernel
theorem dd_66_40 : decode prog_7_method_1_code 40 = .ok (.aload_n 0, 1) := by decide +kernel
theorem dd_66_41 : decode prog_7_method_1_code 41 = .ok (.sipush 256, 3) := by decide +kernel
theorem dd_66_44 : decode prog_7_method_1_code 44 = .ok (.newarray .boolean, 2) := by decide +kernel
theorem dd_66_46 : decode prog_7_method_1_code 46 = .ok (.putfield 22, 3) := by decide +kernel
theorem dd_66_49 : decode prog_7_method_1_code 49 = .ok (.aload_n 0, 1) := by decide +kernel
theorem dd_66_50 : decode prog_7_method_1_code 50 = .ok (.bipush 12, 2) := by decide +kernel
theorem dd_66_52 : decode prog_7_method_1_code 52 = .ok (.newarray .int, 2) := by decide +kernel
theorem dd_66_54 : decode prog_7_method_1_code 54 = .ok (.putfield 26, 3) := by decide +kernel
theorem dd_66_57 : decode prog_7_method_1_code 57 = .ok (.aload_n 0, 1) := by decide +kernel
theorem dd_66_58 : decode prog_7_method_1_code 58 = .ok (.bipush 100, 2) := by decide +kernel
theorem dd_66_60 : decode prog_7_method_1_code 60 = .ok (.putfield 29, 3) := by decide +kernel
theorem dd_66_63 : decode prog_7_method_1_code 63 = .ok (.aload_n 0, 1) := by decide +kernel
theorem dd_66_64 : decode prog_7_method_1_code 64 = .ok (.iconst 2, 1) := by decide +kernel
theorem dd_66_65 : decode prog_7_method_1_code 65 = .ok (.newarray .int, 2) := by decide +kernel
theorem dd_66_67 : decode prog_7_method_1_code 67 = .ok (.putfield 33, 3) := by decide +kernel
theorem dd_66_70 : decode prog_7_method_1_code 70 = .ok (.aload_n 0, 1) := by decide +kernel
theorem dd_66_71 : decode prog_7_method_1_code 71 = .ok (.iconst 4, 1) := by decide +kernel
theorem dd_66_72 : decode prog_7_method_1_code 72 = .ok (.newarray .int, 2) := by decide +kernel
theorem dd_66_74 : decode prog_7_method_1_code 74 = .ok (.putfield 36, 3) := by decide +kernel
theorem dd_66_77 : decode prog_7_method_1_code 77 = .ok (.aload_n 0, 1) := by decide +kernel
theorem dd_66_78 : decode prog_7_method_1_code 78 = .ok (.iconst 4, 1) := by decide +kernel
theorem dd_66_79 : decode prog_7_method_1_code 79 = .ok (.newarray .int, 2) := by decide +kernel
theorem dd_66_81 : decode prog_7_method_1_code 81 = .ok (.putfield 39, 3) := by decide +kernel
theorem dd_66_84 : decode prog_7_method_1_code 84 = .ok (.aload_n 0, 1) := by decide +kernel
theorem dd_66_85 : decode prog_7_method_1_code 85 = .ok (.iload_n 1, 1) := by decide +kernel
theorem dd_66_86 : decode prog_7_method_1_code 86 = .ok (.iconst 4, 1) := by decide +kernel
theorem dd_66_87 : decode prog_7_method_1_code 87 = .ok (.if_icmp .lt 15, 3) := by decide +kernel
theorem dd_66_90 : decode prog_7_method_1_code 90 = .ok (.iload_n 1, 1) := by decide +kernel
theorem dd_66_91 : decode prog_7_method_1_code 91 = .ok (.bipush 16, 2) := by decide +kernel
theorem dd_66_93 : decode prog_7_method_1_code 93 = .ok (.if_icmp .gt 9, 3) := by decide +kernel
theorem dd_66_96 : decode prog_7_method_1_code 96 = .ok (.iload_n 1, 1) := by decide +kernel
theorem dd_66_97 : decode prog_7_method_1_code 97 = .ok (.iconst 2, 1) := by decide +kernel
theorem dd_66_98 : decode prog_7_method_1_code 98 = .ok (.irem, 1) := by decide +kernel
theorem dd_66_99 : decode prog_7_method_1_code 99 = .ok (.ifCond .eq 8, 3) := by decide +kernel
theorem dd_66_102 : decode prog_7_method_1_code 102 = .ok (.bipush 8, 2) := by decide +kernel
theorem dd_66_104 : decode prog_7_method_1_code 104 = .ok (.goto 4, 3) := by decide +kernel
theorem dd_66_107 : decode prog_7_method_1_code 107 = .ok (.iload_n 1, 1) := by decide +kernel
theorem dd_66_108 : decode prog_7_method_1_code 108 = .ok (.putfield 42, 3) := by decide +kernel
theorem dd_66_111 : decode prog_7_method_1_code 111 = .ok (.aload_n 0, 1) := by decide +kernel
theorem dd_66_112 : decode prog_7_method_1_code 112 = .ok (.iload_n 2, 1) := by decide +kernel
theorem dd_66_113 : decode prog_7_method_1_code 113 = .ok (.iconst 4, 1) := by decide +kernel
theorem dd_66_114 : decode prog_7_method_1_code 114 = .ok (.if_icmp .lt 15, 3) := by decide +kernel
theorem dd_66_117 : decode prog_7_method_1_code 117 = .ok (.iload_n 2, 1) := by decide +kernel
theorem dd_66_118 : decode prog_7_method_1_code 118 = .ok (.bipush 16, 2) := by decide +kernel
theorem dd_66_120 : decode prog_7_method_1_code 120 = .ok (.if_icmp .gt 9, 3) := by decide +kernel
theorem dd_66_123 : decode prog_7_method_1_code 123 = .ok (.iload_n 2, 1) := by decide +kernel
theorem dd_66_124 : decode prog_7_method_1_code 124 = .ok (.iconst 2, 1) := by decide +kernel
theorem dd_66_125 : decode prog_7_method_1_code 125 = .ok (.irem, 1) := by decide +kernel
theorem dd_66_126 : decode prog_7_method_1_code 126 = .ok (.ifCond .eq 8, 3) := by decide +kernel
theorem dd_66_129 : decode prog_7_method_1_code 129 = .ok (.bipush 8, 2) := by decide +kernel
theorem dd_66_131 : decode prog_7_method_1_code 131 = .ok (.goto 4, 3) := by decide +kernel
theorem dd_66_134 : decode prog_7_method_1_code 134 = .ok (.iload_n 2, 1) := by decide +kernel
theorem dd_66_135 : decode prog_7_method_1_code 135 = .ok (.putfield 45, 3) := by decide +kernel
theorem dd_66_138 : decode prog_7_method_1_code 138 = .ok (.return_, 1) := by decide +kernel
theorem dd_67_0 : decode prog_7_method_2_code 0 = .ok (.aload_n 0, 1) := by decide +kernel
theorem dd_67_1 : decode prog_7_method_2_code 1 = .ok (.getfield 48, 3) := by decide +kernel
theorem dd_67_4 : decode prog_7_method_2_code 4 = .ok (.ireturn, 1) := by decide +kernel
theorem dd_68_0 : decode prog_7_method_3_code 0 = .ok (.iload_n 1, 1) := by decide +kernel
theorem dd_68_1 : decode prog_7_method_3_code 1 = .ok (.ifCond .lt 27, 3) := by decide +kernel
theorem dd_68_4 : decode prog_7_method_3_code 4 = .ok (.iload_n 1, 1) := by decide +kernel
theorem dd_68_5 : decode prog_7_method_3_code 5 = .ok (.aload_n 0, 1) := by decide +kernel
theorem dd_68_6 : decode prog_7_method_3_code 6 = .ok (.getfield 42, 3) := by decide +kernel
theorem dd_68_9 : decode prog_7_method_3_code 9 = .ok (.if_icmp .ge 19, 3) := by decide +kernel
theorem dd_68_12 : decode prog_7_method_3_code 12 = .ok (.iload_n 2, 1) := by decide +kernel
theorem dd_68_13 : decode prog_7_method_3_code 13 = .ok (.ifCond .lt 15, 3) := by decide +kernel
theorem dd_68_16 : decode prog_7_method_3_code 16 = .ok (.iload_n 2, 1) := by decide +kernel
theorem dd_68_17 : decode prog_7_method_3_code 17 = .ok (.aload_n 0, 1) := by decide +kernel
theorem dd_68_18 : decode prog_7_method_3_code 18 = .ok (.getfield 45, 3) := by decide +kernel
theorem dd_68_21 : decode prog_7_method_3_code 21 = .ok (.if_icmp .ge 7, 3) := by decide +kernel
theorem dd_68_24 : decode prog_7_method_3_code 24 = .ok (.iconst 1, 1) := by decide +kernel
theorem dd_68_25 : decode prog_7_method_3_code 25 = .ok (.goto 4, 3) := by decide +kernel
theorem dd_68_28 : decode prog_7_method_3_code 28 = .ok (.iconst 0, 1) := by decide +kernel
theorem dd_68_29 : decode prog_7_method_3_code 29 = .ok (.ireturn, 1) := by decide +kernel
theorem dd_69_0 : decode prog_7_method_4_code 0 = .ok (.iload_n 0, 1) := by decide +kernel
theorem dd_69_1 : decode prog_7_method_4_code 1 = .ok (.tableswitch 99 0 5 #[39, 49, 59, 69, 79, 89], 39) := by decide +kernel
theorem dd_69_40 : decode prog_7_method_4_code 40 = .ok (.iload_n 1, 1) := by decide +kernel
theorem dd_69_41 : decode prog_7_method_4_code 41 = .ok (.ifCond .ne 7, 3) := by decide +kernel
theorem dd_69_44 : decode prog_7_method_4_code 44 = .ok (.iconst 1, 1) := by decide +kernel
theorem dd_69_45 : decode prog_7_method_4_code 45 = .ok (.goto 4, 3) := by decide +kernel
theorem dd_69_48 : decode prog_7_method_4_code 48 = .ok (.iconst 0, 1) := by decide +kernel
theorem dd_69_49 : decode prog_7_method_4_code 49 = .ok (.ireturn, 1) := by decide +kernel
theorem dd_69_50 : decode prog_7_method_4_code 50 = .ok (.iload_n 1, 1) := by decide +kernel
theorem dd_69_51 : decode prog_7_method_4_code 51 = .ok (.ifCond .ne 7, 3) := by decide +kernel
theorem dd_69_54 : decode prog_7_method_4_code 54 = .ok (.iconst 0, 1) := by decide +kernel
theorem dd_69_55 : decode prog_7_method_4_code 55 = .ok (.goto 4, 3) := by decide +kernel
theorem dd_69_58 : decode prog_7_method_4_code 58 = .ok (.iconst 1, 1) := by decide +kernel
theorem dd_69_59 : decode prog_7_method_4_code 59 = .ok (.ireturn, 1) := by decide +kernel
theorem dd_69_60 : decode prog_7_method_4_code 60 = .ok (.iload_n 1, 1) := by decide +kernel
theorem dd_69_61 : decode prog_7_method_4_code 61 = .ok (.ifCond .ne 7, 3) := by decide +kernel
theorem dd_69_64 : decode prog_7_method_4_code 64 = .ok (.iconst (-1), 1) := by decide +kernel
theorem dd_69_65 : decode prog_7_method_4_code 65 = .ok (.goto 4, 3) := by decide +kernel
theorem dd_69_68 : decode prog_7_method_4_code 68 = .ok (.iconst 1, 1) := by decide +kernel
theorem dd_69_69 : decode prog_7_method_4_code 69 = .ok (.ireturn, 1) := by decide +kernel
theorem dd_69_70 : decode prog_7_method_4_code 70 = .ok (.iload_n 1, 1) := by decide +kernel
theorem dd_69_71 : decode prog_7_method_4_code 71 = .ok (.ifCond .ne 7, 3) := by decide +kernel
theorem dd_69_74 : decode prog_7_method_4_code 74 = .ok (.iconst (-1), 1) := by decide +kernel
theorem dd_69_75 : decode prog_7_method_4_code 75 = .ok (.goto 4, 3) := by decide +kernel
theorem dd_69_78 : decode prog_7_method_4_code 78 = .ok (.iconst 0, 1) := by decide +kernel
theorem dd_69_79 : decode prog_7_method_4_code 79 = .ok (.ireturn, 1) := by decide +kernel
theorem dd_69_80 : decode prog_7_method_4_code 80 = .ok (.iload_n 1, 1) := by decide +kernel
theorem dd_69_81 : decode prog_7_method_4_code 81 = .ok (.ifCond .ne 7, 3) := by decide +kernel
theorem dd_69_84 : decode prog_7_method_4_code 84 = .ok (.iconst 0, 1) := by decide +kernel
theorem dd_69_85 : decode prog_7_method_4_code 85 = .ok (.goto 4, 3) := by decide +kernel
theorem dd_69_88 : decode prog_7_method_4_code 88 = .ok (.iconst (-1), 1) := by decide +kernel
theorem dd_69_89 : decode prog_7_method_4_code 89 = .ok (.ireturn, 1) := by decide +kernel
theorem dd_69_90 : decode prog_7_method_4_code 90 = .ok (.iload_n 1, 1) := by decide +kernel
theorem dd_69_91 : decode prog_7_method_4_code 91 = .ok (.ifCond .ne 7, 3) := by decide +kernel
theorem dd_69_94 : decode prog_7_method_4_code 94 = .ok (.iconst 1, 1) := by decide +kernel
theorem dd_69_95 : decode prog_7_method_4_code 95 = .ok (.goto 4, 3) := by decide +kernel
theorem dd_69_98 : decode prog_7_method_4_code 98 = .ok (.iconst (-1), 1) := by decide +kernel
theorem dd_69_99 : decode prog_7_method_4_code 99 = .ok (.ireturn, 1) := by decide +kernel
theorem dd_69_100 : decode prog_7_method_4_code 100 = .ok (.iconst 0, 1) := by decide +kernel
theorem dd_69_101 : decode prog_7_method_4_code 101 = .ok (.ireturn, 1) := by decide +kernel
theorem dd_70_0 : decode prog_7_method_5_code 0 = .ok (.iload_n 0, 1) := by decide +kernel
theorem dd_70_1 : decode prog_7_method_5_code 1 = .ok (.iload_n 1, 1) := by decide +kernel
theorem dd_70_2 : decode prog_7_method_5_code 2 = .ok (.ishr, 1) := by decide +kernel
theorem dd_70_3 : decode prog_7_method_5_code 3 = .ok (.iconst 1, 1) := by decide +kernel
theorem dd_70_4 : decode prog_7_method_5_code 4 = .ok (.iand, 1) := by decide +kernel
theorem dd_70_5 : decode prog_7_method_5_code 5 = .ok (.iconst 1, 1) := by decide +kernel
theorem dd_70_6 : decode prog_7_method_5_code 6 = .ok (.if_icmp .ne 7, 3) := by decide +kernel
theorem dd_70_9 : decode prog_7_method_5_code 9 = .ok (.iconst 1, 1) := by decide +kernel
theorem dd_70_10 : decode prog_7_method_5_code 10 = .ok (.goto 4, 3) := by decide +kernel
theorem dd_70_13 : decode prog_7_method_5_code 13 = .ok (.iconst 0, 1) := by decide +kernel
theorem dd_70_14 : decode prog_7_method_5_code 14 = .ok (.ireturn, 1) := by decide +kernel
theorem dd_71_0 : decode prog_7_method_6_code 0 = .ok (.iconst 0, 1) := by decide +kernel
theorem dd_71_1 : decode prog_7_method_6_code 1 = .ok (.istore_n 1, 1) := by decide +kernel
theorem dd_71_2 : decode prog_7_method_6_code 2 = .ok (.iconst 0, 1) := by decide +kernel
theorem dd_71_3 : decode prog_7_method_6_code 3 = .ok (.istore_n 2, 1) := by decide +kernel
theorem dd_71_4 : decode prog_7_method_6_code 4 = .ok (.iload_n 2, 1) := by decide +kernel
theorem dd_71_5 : decode prog_7_method_6_code 5 = .ok (.bipush 7, 2) := by decide +kernel
theorem dd_71_7 : decode prog_7_method_6_code 7 = .ok (.if_icmp .ge 25, 3) := by decide +kernel
theorem dd_71_10 : decode prog_7_method_6_code 10 = .ok (.iload_n 0, 1) := by decide +kernel
theorem dd_71_11 : decode prog_7_method_6_code 11 = .ok (.iload_n 2, 1) := by decide +kernel
theorem dd_71_12 : decode prog_7_method_6_code 12 = .ok (.invokestatic 51, 3) := by decide +kernel
theorem dd_71_15 : decode prog_7_method_6_code 15 = .ok (.ifCond .eq 9, 3) := by decide +kernel
theorem dd_71_18 : decode prog_7_method_6_code 18 = .ok (.iload_n 1, 1) := by decide +kernel
theorem dd_71_19 : decode prog_7_method_6_code 19 = .ok (.iconst 1, 1) := by decide +kernel
theorem dd_71_20 : decode prog_7_method_6_code 20 = .ok (.iadd, 1) := by decide +kernel
theorem dd_71_21 : decode prog_7_method_6_code 21 = .ok (.goto 4, 3) := by decide +kernel
theorem dd_71_24 : decode prog_7_method_6_code 24 = .ok (.iload_n 1, 1) := by decide +kernel
theorem dd_71_25 : decode prog_7_method_6_code 25 = .ok (.istore_n 1, 1) := by decide +kernel
theorem dd_71_26 : decode prog_7_method_6_code 26 = .ok (.iinc 2 1, 3) := by decide +kernel
theorem dd_71_29 : decode prog_7_method_6_code 29 = .ok (.goto (-25), 3) := by decide +kernel
theorem dd_71_32 : decode prog_7_method_6_code 32 = .ok (.iload_n 1, 1) := by decide +kernel
theorem dd_71_33 : decode prog_7_method_6_code 33 = .ok (.ireturn, 1) := by decide +kernel
theorem dd_72_0 : decode prog_7_method_7_code 0 = .ok (.iload_n 0, 1) := by decide +kernel
theorem dd_72_1 : decode prog_7_method_7_code 1 = .ok (.bipush 64, 2) := by decide +kernel
theorem dd_72_3 : decode prog_7_method_7_code 3 = .ok (.iand, 1) := by decide +kernel
theorem dd_72_4 : decode prog_7_method_7_code 4 = .ok (.istore_n 2, 1) := by decide +kernel
theorem dd_72_5 : decode prog_7_method_7_code 5 = .ok (.iconst 0, 1) := by decide +kernel
theorem dd_72_6 : decode prog_7_method_7_code 6 = .ok (.istore_n 3, 1) := by decide +kernel
theorem dd_72_7 : decode prog_7_method_7_code 7 = .ok (.iload_n 3, 1) := by decide +kernel
theorem dd_72_8 : decode prog_7_method_7_code 8 = .ok (.bipush 6, 2) := by decide +kernel
theorem dd_72_10 : decode prog_7_method_7_code 10 = .ok (.if_icmp .ge 32, 3) := by decide +kernel
theorem dd_72_13 : decode prog_7_method_7_code 13 = .ok (.iload_n 0, 1) := by decide +kernel
theorem dd_72_14 : decode prog_7_method_7_code 14 = .ok (.iload_n 3, 1) := by decide +kernel
theorem dd_72_15 : decode prog_7_method_7_code 15 = .ok (.invokestatic 51, 3) := by decide +kernel
theorem dd_72_18 : decode prog_7_method_7_code 18 = .ok (.ifCond .eq 16, 3) := by decide +kernel
theorem dd_72_21 : decode prog_7_method_7_code 21 = .ok (.iload_n 2, 1) := by decide +kernel
theorem dd_72_22 : decode prog_7_method_7_code 22 = .ok (.iconst 1, 1) := by decide +kernel
theorem dd_72_23 : decode prog_7_method_7_code 23 = .ok (.iload_n 3, 1) := by decide +kernel
theorem dd_72_24 : decode prog_7_method_7_code 24 = .ok (.iload_n 1, 1) := by decide +kernel
theorem dd_72_25 : decode prog_7_method_7_code 25 = .ok (.iadd, 1) := by decide +kernel
theorem dd_72_26 : decode prog_7_method_7_code 26 = .ok (.bipush 6, 2) := by decide +kernel
theorem dd_72_28 : decode prog_7_method_7_code 28 = .ok (.irem, 1) := by decide +kernel
theorem dd_72_29 : decode prog_7_method_7_code 29 = .ok (.ishl, 1) := by decide +kernel
theorem dd_72_30 : decode prog_7_method_7_code 30 = .ok (.ior, 1) := by decide +kernel
theorem dd_72_31 : decode prog_7_method_7_code 31 = .ok (.goto 4, 3) := by decide +kernel
theorem dd_72_34 : decode prog_7_method_7_code 34 = .ok (.iload_n 2, 1) := by decide +kernel
theorem dd_72_35 : decode prog_7_method_7_code 35 = .ok (.istore_n 2, 1) := by decide +kernel
theorem dd_72_36 : decode prog_7_method_7_code 36 = .ok (.iinc 3 1, 3) := by decide +kernel
theorem dd_72_39 : decode prog_7_method_7_code 39 = .ok (.goto (-32), 3) := by decide +kernel
theorem dd_72_42 : decode prog_7_method_7_code 42 = .ok (.iload_n 2, 1) := by decide +kernel
theorem dd_72_43 : decode prog_7_method_7_code 43 = .ok (.ireturn, 1) := by decide +kernel
theorem dd_73_0 : decode prog_7_method_8_code 0 = .ok (.iload_n 0, 1) := by decide +kernel
theorem dd_73_1 : decode prog_7_method_8_code 1 = .ok (.bipush 63, 2) := by decide +kernel
theorem dd_73_3 : decode prog_7_method_8_code 3 = .ok (.iand, 1) := by decide +kernel
theorem dd_73_4 : decode prog_7_method_8_code 4 = .ok (.istore_n 2, 1) := by decide +kernel
theorem dd_73_5 : decode prog_7_method_8_code 5 = .ok (.iload_n 0, 1) := by decide +kernel
theorem dd_73_6 : decode prog_7_method_8_code 6 = .ok (.bipush 63, 2) := by decide +kernel
theorem dd_73_8 : decode prog_7_method_8_code 8 = .ok (.if_icmp .le 7, 3) := by decide +kernel
theorem dd_73_11 : decode prog_7_method_8_code 11 = .ok (.iconst 1, 1) := by decide +kernel
theorem dd_73_12 : decode prog_7_method_8_code 12 = .ok (.goto 4, 3) := by decide +kernel
theorem dd_73_15 : decode prog_7_method_8_code 15 = .ok (.iconst 0, 1) := by decide +kernel
theorem dd_73_16 : decode prog_7_method_8_code 16 = .ok (.istore_n 3, 1) := by decide +kernel
theorem dd_73_17 : decode prog_7_method_8_code 17 = .ok (.iload_n 2, 1) := by decide +kernel
theorem dd_73_18 : decode prog_7_method_8_code 18 = .ok (.bipush 21, 2) := by decide +kernel
theorem dd_73_20 : decode prog_7_method_8_code 20 = .ok (.if_icmp .eq 9, 3) := by decide +kernel
theorem dd_73_23 : decode prog_7_method_8_code 23 = .ok (.iload_n 2, 1) := by decide +kernel
theorem dd_73_24 : decode prog_7_method_8_code 24 = .ok (.bipush 42, 2) := by decide +kernel
theorem dd_73_26 : decode prog_7_method_8_code 26 = .ok (.if_icmp .ne 8, 3) := by decide +kernel
theorem dd_73_29 : decode prog_7_method_8_code 29 = .ok (.iload_n 0, 1) := by decide +kernel
theorem dd_73_30 : decode prog_7_method_8_code 30 = .ok (.bipush 63, 2) := by decide +kernel
theorem dd_73_32 : decode prog_7_method_8_code 32 = .ok (.ixor, 1) := by decide +kernel
theorem dd_73_33 : decode prog_7_method_8_code 33 = .ok (.ireturn, 1) := by decide +kernel
theorem dd_73_34 : decode prog_7_method_8_code 34 = .ok (.iconst 0, 1) := by decide +kernel
theorem dd_73_35 : decode prog_7_method_8_code 35 = .ok (.istore 4, 2) := by decide +kernel
theorem dd_73_37 : decode prog_7_method_8_code 37 = .ok (.iload 4, 2) := by decide +kernel
theorem dd_73_39 : decode prog_7_method_8_code 39 = .ok (.bipush 6, 2) := by decide +kernel
theorem dd_73_41 : decode prog_7_method_8_code 41 = .ok (.if_icmp .ge 108, 3) := by decide +kernel
theorem dd_73_44 : decode prog_7_method_8_code 44 = .ok (.iconst 1, 1) := by decide +kernel
theorem dd_73_45 : decode prog_7_method_8_code 45 = .ok (.iload 4, 2) := by decide +kernel
theorem dd_73_47 : decode prog_7_method_8_code 47 = .ok (.ishl, 1) := by decide +kernel
theorem dd_73_48 : decode prog_7_method_8_code 48 = .ok (.iconst 1, 1) := by decide +kernel
theorem dd_73_49 : decode prog_7_method_8_code 49 = .ok (.iload 4, 2) := by decide +kernel
theorem dd_73_51 : decode prog_7_method_8_code 51 = .ok (.iconst 3, 1) := by decide +kernel
theorem dd_73_52 : decode prog_7_method_8_code 52 = .ok (.iadd, 1) := by decide +kernel
theorem dd_73_53 : decode prog_7_method_8_code 53 = .ok (.bipush 6, 2) := by decide +kernel
theorem dd_73_55 : decode prog_7_method_8_code 55 = .ok (.irem, 1) := by decide +kernel
theorem dd_73_56 : decode prog_7_method_8_code 56 = .ok (.ishl, 1) := by decide +kernel
theorem dd_73_57 : decode prog_7_method_8_code 57 = .ok (.ior, 1) := by decide +kernel
theorem dd_73_58 : decode prog_7_method_8_code 58 = .ok (.istore 5, 2) := by decide +kernel
theorem dd_73_60 : decode prog_7_method_8_code 60 = .ok (.iconst 1, 1) := by decide +kernel
theorem dd_73_61 : decode prog_7_method_8_code 61 = .ok (.iload 4, 2) := by decide +kernel
theorem dd_73_63 : decode prog_7_method_8_code 63 = .ok (.iconst 5, 1) := by decide +kernel
theorem dd_73_64 : decode prog_7_method_8_code 64 = .ok (.iadd, 1) := by decide +kernel
theorem dd_73_65 : decode prog_7_method_8_code 65 = .ok (.bipush 6, 2) := by decide +kernel
theorem dd_73_67 : decode prog_7_method_8_code 67 = .ok (.irem, 1) := by decide +kernel
theorem dd_73_68 : decode prog_7_method_8_code 68 = .ok (.ishl, 1) := by decide +kernel
theorem dd_73_69 : decode prog_7_method_8_code 69 = .ok (.iconst 1, 1) := by decide +kernel
theorem dd_73_70 : decode prog_7_method_8_code 70 = .ok (.iload 4, 2) := by decide +kernel
theorem dd_73_72 : decode prog_7_method_8_code 72 = .ok (.iconst 1, 1) := by decide +kernel
theorem dd_73_73 : decode prog_7_method_8_code 73 = .ok (.iadd, 1) := by decide +kernel
theorem dd_73_74 : decode prog_7_method_8_code 74 = .ok (.bipush 6, 2) := by decide +kernel
theorem dd_73_76 : decode prog_7_method_8_code 76 = .ok (.irem, 1) := by decide +kernel
theorem dd_73_77 : decode prog_7_method_8_code 77 = .ok (.ishl, 1) := by decide +kernel
theorem dd_73_78 : decode prog_7_method_8_code 78 = .ok (.ior, 1) := by decide +kernel
theorem dd_73_79 : decode prog_7_method_8_code 79 = .ok (.istore 6, 2) := by decide +kernel
theorem dd_73_81 : decode prog_7_method_8_code 81 = .ok (.iload_n 2, 1) := by decide +kernel
theorem dd_73_82 : decode prog_7_method_8_code 82 = .ok (.iload 5, 2) := by decide +kernel
theorem dd_73_84 : decode prog_7_method_8_code 84 = .ok (.if_icmp .eq 12, 3) := by decide +kernel
theorem dd_73_87 : decode prog_7_method_8_code 87 = .ok (.iload_n 2, 1) := by decide +kernel
theorem dd_73_88 : decode prog_7_method_8_code 88 = .ok (.bipush 63, 2) := by decide +kernel
theorem dd_73_90 : decode prog_7_method_8_code 90 = .ok (.iload 5, 2) := by decide +kernel
theorem dd_73_92 : decode prog_7_method_8_code 92 = .ok (.isub, 1) := by decide +kernel
theorem dd_73_93 : decode prog_7_method_8_code 93 = .ok (.if_icmp .ne 17, 3) := by decide +kernel
theorem dd_73_96 : decode prog_7_method_8_code 96 = .ok (.iload_n 0, 1) := by decide +kernel
theorem dd_73_97 : decode prog_7_method_8_code 97 = .ok (.iload_n 1, 1) := by decide +kernel
theorem dd_73_98 : decode prog_7_method_8_code 98 = .ok (.ifCond .ne 7, 3) := by decide +kernel
theorem dd_73_101 : decode prog_7_method_8_code 101 = .ok (.iconst 1, 1) := by decide +kernel
theorem dd_73_102 : decode prog_7_method_8_code 102 = .ok (.goto 4, 3) := by decide +kernel
theorem dd_73_105 : decode prog_7_method_8_code 105 = .ok (.iconst 5, 1) := by decide +kernel
theorem dd_73_106 : decode prog_7_method_8_code 106 = .ok (.invokestatic 55, 3) := by decide +kernel
theorem dd_73_109 : decode prog_7_method_8_code 109 = .ok (.ireturn, 1) := by decide +kernel
theorem dd_73_110 : decode prog_7_method_8_code 110 = .ok (.iload_n 2, 1) := by decide +kernel
theorem dd_73_111 : decode prog_7_method_8_code 111 = .ok (.iconst 1, 1) := by decide +kernel
theorem dd_73_112 : decode prog_7_method_8_code 112 = .ok (.iload 4, 2) := by decide +kernel
theorem dd_73_114 : decode prog_7_method_8_code 114 = .ok (.ishl, 1) := by decide +kernel
theorem dd_73_115 : decode prog_7_method_8_code 115 = .ok (.if_icmp .ne 10, 3) := by decide +kernel
theorem dd_73_118 : decode prog_7_method_8_code 118 = .ok (.iload_n 3, 1) := by decide +kernel
theorem dd_73_119 : decode prog_7_method_8_code 119 = .ok (.ifCond .eq 6, 3) := by decide +kernel
theorem dd_73_122 : decode prog_7_method_8_code 122 = .ok (.iload 6, 2) := by decide +kernel
theorem dd_73_124 : decode prog_7_method_8_code 124 = .ok (.ireturn, 1) := by decide +kernel
theorem dd_73_125 : decode prog_7_method_8_code 125 = .ok (.iload_n 2, 1) := by decide +kernel
theorem dd_73_126 : decode prog_7_method_8_code 126 = .ok (.iload 6, 2) := by decide +kernel
theorem dd_73_128 : decode prog_7_method_8_code 128 = .ok (.if_icmp .ne 15, 3) := by decide +kernel
theorem dd_73_131 : decode prog_7_method_8_code 131 = .ok (.iload_n 3, 1) := by decide +kernel
theorem dd_73_132 : decode prog_7_method_8_code 132 = .ok (.ifCond .ne 11, 3) := by decide +kernel
theorem dd_73_135 : decode prog_7_method_8_code 135 = .ok (.bipush 64, 2) := by decide +kernel
theorem dd_73_137 : decode prog_7_method_8_code 137 = .ok (.iconst 1, 1) := by decide +kernel
theorem dd_73_138 : decode prog_7_method_8_code 138 = .ok (.iload 4, 2) := by decide +kernel
theorem dd_73_140 : decode prog_7_method_8_code 140 = .ok (.ishl, 1) := by decide +kernel
theorem dd_73_141 : decode prog_7_method_8_code 141 = .ok (.ior, 1) := by decide +kernel
theorem dd_73_142 : decode prog_7_method_8_code 142 = .ok (.ireturn, 1) := by decide +kernel
theorem dd_73_143 : decode prog_7_method_8_code 143 = .ok (.iinc 4 1, 3) := by decide +kernel
theorem dd_73_146 : decode prog_7_method_8_code 146 = .ok (.goto (-109), 3) := by decide +kernel
theorem dd_73_149 : decode prog_7_method_8_code 149 = .ok (.iload_n 0, 1) := by decide +kernel
theorem dd_73_150 : decode prog_7_method_8_code 150 = .ok (.ireturn, 1) := by decide +kernel
theorem dd_74_0 : decode prog_7_method_9_code 0 = .ok (.iload_n 0, 1) := by decide +kernel
theorem dd_74_1 : decode prog_7_method_9_code 1 = .ok (.istore_n 2, 1) := by decide +kernel
theorem dd_74_2 : decode prog_7_method_9_code 2 = .ok (.iconst 0, 1) := by decide +kernel
theorem dd_74_3 : decode prog_7_method_9_code 3 = .ok (.istore_n 3, 1) := by decide +kernel
theorem dd_74_4 : decode prog_7_method_9_code 4 = .ok (.iload_n 3, 1) := by decide +kernel
theorem dd_74_5 : decode prog_7_method_9_code 5 = .ok (.sipush 128, 3) := by decide +kernel
theorem dd_74_8 : decode prog_7_method_9_code 8 = .ok (.if_icmp .ge 24, 3) := by decide +kernel
theorem dd_74_11 : decode prog_7_method_9_code 11 = .ok (.iload_n 3, 1) := by decide +kernel
theorem dd_74_12 : decode prog_7_method_9_code 12 = .ok (.iload_n 1, 1) := by decide +kernel
theorem dd_74_13 : decode prog_7_method_9_code 13 = .ok (.invokestatic 59, 3) := by decide +kernel
theorem dd_74_16 : decode prog_7_method_9_code 16 = .ok (.iload_n 0, 1) := by decide +kernel
theorem dd_74_17 : decode prog_7_method_9_code 17 = .ok (.if_icmp .ne 7, 3) := by decide +kernel
theorem dd_74_20 : decode prog_7_method_9_code 20 = .ok (.iload_n 3, 1) := by decide +kernel
theorem dd_74_21 : decode prog_7_method_9_code 21 = .ok (.goto 4, 3) := by decide +kernel
theorem dd_74_24 : decode prog_7_method_9_code 24 = .ok (.iload_n 2, 1) := by decide +kernel
theorem dd_74_25 : decode prog_7_method_9_code 25 = .ok (.istore_n 2, 1) := by decide +kernel
theorem dd_74_26 : decode prog_7_method_9_code 26 = .ok (.iinc 3 1, 3) := by decide +kernel
theorem dd_74_29 : decode prog_7_method_9_code 29 = .ok (.goto (-25), 3) := by decide +kernel
theorem dd_74_32 : decode prog_7_method_9_code 32 = .ok (.iload_n 2, 1) := by decide +kernel
theorem dd_74_33 : decode prog_7_method_9_code 33 = .ok (.ireturn, 1) := by decide +kernel
theorem dd_75_0 : decode prog_7_method_10_code 0 = .ok (.aload_n 0, 1) := by decide +kernel
theorem dd_75_1 : decode prog_7_method_10_code 1 = .ok (.iload_n 1, 1) := by decide +kernel
theorem dd_75_2 : decode prog_7_method_10_code 2 = .ok (.ifCond .lt 18, 3) := by decide +kernel
theorem dd_75_5 : decode prog_7_method_10_code 5 = .ok (.iload_n 1, 1) := by decide +kernel
theorem dd_75_6 : decode prog_7_method_10_code 6 = .ok (.bipush 127, 2) := by decide +kernel
theorem dd_75_8 : decode prog_7_method_10_code 8 = .ok (.if_icmp .gt 12, 3) := by decide +kernel
theorem dd_75_11 : decode prog_7_method_10_code 11 = .ok (.iload_n 2, 1) := by decide +kernel
theorem dd_75_12 : decode prog_7_method_10_code 12 = .ok (.ifCond .lt 8, 3) := by decide +kernel
theorem dd_75_15 : decode prog_7_method_10_code 15 = .ok (.iload_n 2, 1) := by decide +kernel
theorem dd_75_16 : decode prog_7_method_10_code 16 = .ok (.iconst 1, 1) := by decide +kernel
theorem dd_75_17 : decode prog_7_method_10_code 17 = .ok (.if_icmp .le 7, 3) := by decide +kernel
theorem dd_75_20 : decode prog_7_method_10_code 20 = .ok (.iconst 1, 1) := by decide +kernel
theorem dd_75_21 : decode prog_7_method_10_code 21 = .ok (.goto 4, 3) := by decide +kernel
theorem dd_75_24 : decode prog_7_method_10_code 24 = .ok (.iconst 0, 1) := by decide +kernel
theorem dd_75_25 : decode prog_7_method_10_code 25 = .ok (.putfield 48, 3) := by decide +kernel
theorem dd_75_28 : decode prog_7_method_10_code 28 = .ok (.aload_n 0, 1) := by decide +kernel
theorem dd_75_29 : decode prog_7_method_10_code 29 = .ok (.getfield 48, 3) := by decide +kernel
theorem dd_75_32 : decode prog_7_method_10_code 32 = .ok (.ifCond .le 7, 3) := by decide +kernel
theorem dd_75_35 : decode prog_7_method_10_code 35 = .ok (.iconst 0, 1) := by decide +kernel
theorem dd_75_36 : decode prog_7_method_10_code 36 = .ok (.goto 8, 3) := by decide +kernel
theorem dd_75_39 : decode prog_7_method_10_code 39 = .ok (.iload_n 1, 1) := by decide +kernel
theorem dd_75_40 : decode prog_7_method_10_code 40 = .ok (.iload_n 2, 1) := by decide +kernel
theorem dd_75_41 : decode prog_7_method_10_code 41 = .ok (.invokestatic 59, 3) := by decide +kernel
theorem dd_75_44 : decode prog_7_method_10_code 44 = .ok (.ireturn, 1) := by decide +kernel
theorem dd_76_0 : decode prog_7_method_11_code 0 = .ok (.aload_n 0, 1) := by decide +kernel
theorem dd_76_1 : decode prog_7_method_11_code 1 = .ok (.aload_n 0, 1) := by decide +kernel
theorem dd_76_2 : decode prog_7_method_11_code 2 = .ok (.iload_n 1, 1) := by decide +kernel
theorem dd_76_3 : decode prog_7_method_11_code 3 = .ok (.iload_n 2, 1) := by decide +kernel
theorem dd_76_4 : decode prog_7_method_11_code 4 = .ok (.invokevirtual 62, 3) := by decide +kernel
theorem dd_76_7 : decode prog_7_method_11_code 7 = .ok (.ifCond .ne 7, 3) := by decide +kernel
theorem dd_76_10 : decode prog_7_method_11_code 10 = .ok (.iconst 1, 1) := by decide +kernel
theorem dd_76_11 : decode prog_7_method_11_code 11 = .ok (.goto 18, 3) := by decide +kernel
theorem dd_76_14 : decode prog_7_method_11_code 14 = .ok (.iload_n 3, 1) := by decide +kernel
theorem dd_76_15 : decode prog_7_method_11_code 15 = .ok (.ifCond .lt 9, 3) := by decide +kernel
theorem dd_76_18 : decode prog_7_method_11_code 18 = .ok (.iload_n 3, 1) := by decide +kernel
theorem dd_76_19 : decode prog_7_method_11_code 19 = .ok (.bipush 127, 2) := by decide +kernel
theorem dd_76_21 : decode prog_7_method_11_code 21 = .ok (.if_icmp .le 7, 3) := by decide +kernel
theorem dd_76_24 : decode prog_7_method_11_code 24 = .ok (.iconst 2, 1) := by decide +kernel
theorem dd_76_25 : decode prog_7_method_11_code 25 = .ok (.goto 4, 3) := by decide +kernel
theorem dd_76_28 : decode prog_7_method_11_code 28 = .ok (.iconst 0, 1) := by decide +kernel
theorem dd_76_29 : decode prog_7_method_11_code 29 = .ok (.putfield 48, 3) := by decide +kernel
theorem dd_76_32 : decode prog_7_method_11_code 32 = .ok (.aload_n 0, 1) := by decide +kernel
theorem dd_76_33 : decode prog_7_method_11_code 33 = .ok (.getfield 48, 3) := by decide +kernel
theorem dd_76_36 : decode prog_7_method_11_code 36 = .ok (.ifCond .le 4, 3) := by decide +kernel
theorem dd_76_39 : decode prog_7_method_11_code 39 = .ok (.return_, 1) := by decide +kernel
theorem dd_76_40 : decode prog_7_method_11_code 40 = .ok (.aload_n 0, 1) := by decide +kernel
theorem dd_76_41 : decode prog_7_method_11_code 41 = .ok (.getfield 7, 3) := by decide +kernel
theorem dd_76_44 : decode prog_7_method_11_code 44 = .ok (.aload_n 0, 1) := by decide +kernel
theorem dd_76_45 : decode prog_7_method_11_code 45 = .ok (.getfield 42, 3) := by decide +kernel
theorem dd_76_48 : decode prog_7_method_11_code 48 = .ok (.iload_n 2, 1) := by decide +kernel
theorem dd_76_49 : decode prog_7_method_11_code 49 = .ok (.imul, 1) := by decide +kernel
theorem dd_76_50 : decode prog_7_method_11_code 50 = .ok (.iload_n 1, 1) := by decide +kernel
theorem dd_76_51 : decode prog_7_method_11_code 51 = .ok (.iadd, 1) := by decide +kernel
theorem dd_76_52 : decode prog_7_method_11_code 52 = .ok (.iload_n 3, 1) := by decide +kernel
theorem dd_76_53 : decode prog_7_method_11_code 53 = .ok (.iastore, 1) := by decide +kernel
theorem dd_76_54 : decode prog_7_method_11_code 54 = .ok (.iconst 0, 1) := by decide +kernel
theorem dd_76_55 : decode prog_7_method_11_code 55 = .ok (.istore 4, 2) := by decide +kernel
theorem dd_76_57 : decode prog_7_method_11_code 57 = .ok (.iload 4, 2) := by decide +kernel
theorem dd_76_59 : decode prog_7_method_11_code 59 = .ok (.aload_n 0, 1) := by decide +kernel
theorem dd_76_60 : decode prog_7_method_11_code 60 = .ok (.getfield 65, 3) := by decide +kernel
theorem dd_76_63 : decode prog_7_method_11_code 63 = .ok (.if_icmp .ge 45, 3) := by decide +kernel
theorem dd_76_66 : decode prog_7_method_11_code 66 = .ok (.aload_n 0, 1) := by decide +kernel
theorem dd_76_67 : decode prog_7_method_11_code 67 = .ok (.getfield 36, 3) := by decide +kernel
theorem dd_76_70 : decode prog_7_method_11_code 70 = .ok (.iload 4, 2) := by decide +kernel
theorem dd_76_72 : decode prog_7_method_11_code 72 = .ok (.aload_n 0, 1) := by decide +kernel
theorem dd_76_73 : decode prog_7_method_11_code 73 = .ok (.getfield 36, 3) := by decide +kernel
theorem dd_76_76 : decode prog_7_method_11_code 76 = .ok (.iload 4, 2) := by decide +kernel
theorem dd_76_78 : decode prog_7_method_11_code 78 = .ok (.iaload, 1) := by decide +kernel
theorem dd_76_79 : decode prog_7_method_11_code 79 = .ok (.aload_n 0, 1) := by decide +kernel
theorem dd_76_80 : decode prog_7_method_11_code 80 = .ok (.getfield 42, 3) := by decide +kernel
theorem dd_76_83 : decode prog_7_method_11_code 83 = .ok (.iload_n 2, 1) := by decide +kernel
theorem dd_76_84 : decode prog_7_method_11_code 84 = .ok (.imul, 1) := by decide +kernel
theorem dd_76_85 : decode prog_7_method_11_code 85 = .ok (.iload_n 1, 1) := by decide +kernel
theorem dd_76_86 : decode prog_7_method_11_code 86 = .ok (.iadd, 1) := by decide +kernel
theorem dd_76_87 : decode prog_7_method_11_code 87 = .ok (.if_icmp .ne 7, 3) := by decide +kernel
theorem dd_76_90 : decode prog_7_method_11_code 90 = .ok (.iconst (-1), 1) := by decide +kernel
theorem dd_76_91 : decode prog_7_method_11_code 91 = .ok (.goto 10, 3) := by decide +kernel
theorem dd_76_94 : decode prog_7_method_11_code 94 = .ok (.aload_n 0, 1) := by decide +kernel
theorem dd_76_95 : decode prog_7_method_11_code 95 = .ok (.getfield 36, 3) := by decide +kernel
theorem dd_76_98 : decode prog_7_method_11_code 98 = .ok (.iload 4, 2) := by decide +kernel
theorem dd_76_100 : decode prog_7_method_11_code 100 = .ok (.iaload, 1) := by decide +kernel
theorem dd_76_101 : decode prog_7_method_11_code 101 = .ok (.iastore, 1) := by decide +kernel
theorem dd_76_102 : decode prog_7_method_11_code 102 = .ok (.iinc 4 1, 3) := by decide +kernel
theorem dd_76_105 : decode prog_7_method_11_code 105 = .ok (.goto (-48), 3) := by decide +kernel
theorem dd_76_108 : decode prog_7_method_11_code 108 = .ok (.return_, 1) := by decide +kernel
theorem dd_77_0 : decode prog_7_method_12_code 0 = .ok (.aload_n 0, 1) := by decide +kernel
theorem dd_77_1 : decode prog_7_method_12_code 1 = .ok (.aload_n 0, 1) := by decide +kernel
theorem dd_77_2 : decode prog_7_method_12_code 2 = .ok (.iload_n 1, 1) := by decide +kernel
theorem dd_77_3 : decode prog_7_method_12_code 3 = .ok (.iload_n 2, 1) := by decide +kernel
theorem dd_77_4 : decode prog_7_method_12_code 4 = .ok (.invokevirtual 62, 3) := by decide +kernel
theorem dd_77_7 : decode prog_7_method_12_code 7 = .ok (.ifCond .eq 7, 3) := by decide +kernel
theorem dd_77_10 : decode prog_7_method_12_code 10 = .ok (.iconst 0, 1) := by decide +kernel
theorem dd_77_11 : decode prog_7_method_12_code 11 = .ok (.goto 4, 3) := by decide +kernel
theorem dd_77_14 : decode prog_7_method_12_code 14 = .ok (.iconst 1, 1) := by decide +kernel
theorem dd_77_15 : decode prog_7_method_12_code 15 = .ok (.putfield 48, 3) := by decide +kernel
theorem dd_77_18 : decode prog_7_method_12_code 18 = .ok (.aload_n 0, 1) := by decide +kernel
theorem dd_77_19 : decode prog_7_method_12_code 19 = .ok (.getfield 48, 3) := by decide +kernel
theorem dd_77_22 : decode prog_7_method_12_code 22 = .ok (.ifCond .le 7, 3) := by decide +kernel
theorem dd_77_25 : decode prog_7_method_12_code 25 = .ok (.iconst 0, 1) := by decide +kernel
theorem dd_77_26 : decode prog_7_method_12_code 26 = .ok (.goto 16, 3) := by decide +kernel
theorem dd_77_29 : decode prog_7_method_12_code 29 = .ok (.aload_n 0, 1) := by decide +kernel
theorem dd_77_30 : decode prog_7_method_12_code 30 = .ok (.getfield 7, 3) := by decide +kernel
theorem dd_77_33 : decode prog_7_method_12_code 33 = .ok (.aload_n 0, 1) := by decide +kernel
theorem dd_77_34 : decode prog_7_method_12_code 34 = .ok (.getfield 42, 3) := by decide +kernel
theorem dd_77_37 : decode prog_7_method_12_code 37 = .ok (.iload_n 2, 1) := by decide +kernel
theorem dd_77_38 : decode prog_7_method_12_code 38 = .ok (.imul, 1) := by decide +kernel
theorem dd_77_39 : decode prog_7_method_12_code 39 = .ok (.iload_n 1, 1) := by decide +kernel
theorem dd_77_40 : decode prog_7_method_12_code 40 = .ok (.iadd, 1) := by decide +kernel
theorem dd_77_41 : decode prog_7_method_12_code 41 = .ok (.iaload, 1) := by decide +kernel
theorem dd_77_42 : decode prog_7_method_12_code 42 = .ok (.ireturn, 1) := by decide +kernel
theorem dd_78_0 : decode prog_7_method_13_code 0 = .ok (.iload_n 3, 1) := by decide +kernel
theorem dd_78_1 : decode prog_7_method_13_code 1 = .ok (.aload_n 0, 1) := by decide +kernel
theorem dd_78_2 : decode prog_7_method_13_code 2 = .ok (.getfield 13, 3) := by decide +kernel
theorem dd_78_5 : decode prog_7_method_13_code 5 = .ok (.iload_n 1, 1) := by decide +kernel
theorem dd_78_6 : decode prog_7_method_13_code 6 = .ok (.iaload, 1) := by decide +kernel
theorem dd_78_7 : decode prog_7_method_13_code 7 = .ok (.iload_n 2, 1) := by decide +kernel
theorem dd_78_8 : decode prog_7_method_13_code 8 = .ok (.if_icmp .ne 7, 3) := by decide +kernel
theorem dd_78_11 : decode prog_7_method_13_code 11 = .ok (.iconst 1, 1) := by decide +kernel
theorem dd_78_12 : decode prog_7_method_13_code 12 = .ok (.goto 4, 3) := by decide +kernel
theorem dd_78_15 : decode prog_7_method_13_code 15 = .ok (.iconst 0, 1) := by decide +kernel
theorem dd_78_16 : decode prog_7_method_13_code 16 = .ok (.if_icmp .eq 7, 3) := by decide +kernel
theorem dd_78_19 : decode prog_7_method_13_code 19 = .ok (.iconst 1, 1) := by decide +kernel
theorem dd_78_20 : decode prog_7_method_13_code 20 = .ok (.goto 4, 3) := by decide +kernel
theorem dd_78_23 : decode prog_7_method_13_code 23 = .ok (.iconst 0, 1) := by decide +kernel
theorem dd_78_24 : decode prog_7_method_13_code 24 = .ok (.istore 4, 2) := by decide +kernel
theorem dd_78_26 : decode prog_7_method_13_code 26 = .ok (.aload_n 0, 1) := by decide +kernel
theorem dd_78_27 : decode prog_7_method_13_code 27 = .ok (.getfield 13, 3) := by decide +kernel
theorem dd_78_30 : decode prog_7_method_13_code 30 = .ok (.iload_n 1, 1) := by decide +kernel
theorem dd_78_31 : decode prog_7_method_13_code 31 = .ok (.iload_n 3, 1) := by decide +kernel
theorem dd_78_32 : decode prog_7_method_13_code 32 = .ok (.ifCond .eq 7, 3) := by decide +kernel
theorem dd_78_35 : decode prog_7_method_13_code 35 = .ok (.iload_n 2, 1) := by decide +kernel
theorem dd_78_36 : decode prog_7_method_13_code 36 = .ok (.goto 4, 3) := by decide +kernel
theorem dd_78_39 : decode prog_7_method_13_code 39 = .ok (.iconst 0, 1) := by decide +kernel
theorem dd_78_40 : decode prog_7_method_13_code 40 = .ok (.iastore, 1) := by decide +kernel
theorem dd_78_41 : decode prog_7_method_13_code 41 = .ok (.iload 4, 2) := by decide +kernel
theorem dd_78_43 : decode prog_7_method_13_code 43 = .ok (.ireturn, 1) := by decide +kernel
theorem dd_79_0 : decode prog_7_method_14_code 0 = .ok (.aload_n 0, 1) := by decide +kernel
theorem dd_79_1 : decode prog_7_method_14_code 1 = .ok (.getfield 13, 3) := by decide +kernel
theorem dd_79_4 : decode prog_7_method_14_code 4 = .ok (.iload_n 1, 1) := by decide +kernel
theorem dd_79_5 : decode prog_7_method_14_code 5 = .ok (.iaload, 1) := by decide +kernel
theorem dd_79_6 : decode prog_7_method_14_code 6 = .ok (.ifCond .eq 17, 3) := by decide +kernel
theorem dd_79_9 : decode prog_7_method_14_code 9 = .ok (.aload_n 0, 1) := by decide +kernel
theorem dd_79_10 : decode prog_7_method_14_code 10 = .ok (.getfield 13, 3) := by decide +kernel
theorem dd_79_13 : decode prog_7_method_14_code 13 = .ok (.iload_n 1, 1) := by decide +kernel
theorem dd_79_14 : decode prog_7_method_14_code 14 = .ok (.iaload, 1) := by decide +kernel
theorem dd_79_15 : decode prog_7_method_14_code 15 = .ok (.iload_n 2, 1) := by decide +kernel
theorem dd_79_16 : decode prog_7_method_14_code 16 = .ok (.if_icmp .eq 7, 3) := by decide +kernel
theorem dd_79_19 : decode prog_7_method_14_code 19 = .ok (.iconst 1, 1) := by decide +kernel
theorem dd_79_20 : decode prog_7_method_14_code 20 = .ok (.goto 4, 3) := by decide +kernel
theorem dd_79_23 : decode prog_7_method_14_code 23 = .ok (.iconst 0, 1) := by decide +kernel
theorem dd_79_24 : decode prog_7_method_14_code 24 = .ok (.ireturn, 1) := by decide +kernel
theorem dd_80_0 : decode prog_7_method_15_code 0 = .ok (.aload_n 0, 1) := by decide +kernel
theorem dd_80_1 : decode prog_7_method_15_code 1 = .ok (.aload_n 0, 1) := by decide +kernel
theorem dd_80_2 : decode prog_7_method_15_code 2 = .ok (.iload_n 1, 1) := by decide +kernel
theorem dd_80_3 : decode prog_7_method_15_code 3 = .ok (.iload_n 2, 1) := by decide +kernel
theorem dd_80_4 : decode prog_7_method_15_code 4 = .ok (.invokevirtual 62, 3) := by decide +kernel
theorem dd_80_7 : decode prog_7_method_15_code 7 = .ok (.ifCond .ne 7, 3) := by decide +kernel
theorem dd_80_10 : decode prog_7_method_15_code 10 = .ok (.iconst 1, 1) := by decide +kernel
theorem dd_80_11 : decode prog_7_method_15_code 11 = .ok (.goto 24, 3) := by decide +kernel
theorem dd_80_14 : decode prog_7_method_15_code 14 = .ok (.aload_n 0, 1) := by decide +kernel
theorem dd_80_15 : decode prog_7_method_15_code 15 = .ok (.aload_n 0, 1) := by decide +kernel
theorem dd_80_16 : decode prog_7_method_15_code 16 = .ok (.getfield 42, 3) := by decide +kernel
theorem dd_80_19 : decode prog_7_method_15_code 19 = .ok (.iload_n 2, 1) := by decide +kernel
theorem dd_80_20 : decode prog_7_method_15_code 20 = .ok (.imul, 1) := by decide +kernel
theorem dd_80_21 : decode prog_7_method_15_code 21 = .ok (.iload_n 1, 1) := by decide +kernel
theorem dd_80_22 : decode prog_7_method_15_code 22 = .ok (.iadd, 1) := by decide +kernel
theorem dd_80_23 : decode prog_7_method_15_code 23 = .ok (.iload_n 3, 1) := by decide +kernel
theorem dd_80_24 : decode prog_7_method_15_code 24 = .ok (.invokevirtual 68, 3) := by decide +kernel
theorem dd_80_27 : decode prog_7_method_15_code 27 = .ok (.ifCond .eq 7, 3) := by decide +kernel
theorem dd_80_30 : decode prog_7_method_15_code 30 = .ok (.iconst 2, 1) := by decide +kernel
theorem dd_80_31 : decode prog_7_method_15_code 31 = .ok (.goto 4, 3) := by decide +kernel
theorem dd_80_34 : decode prog_7_method_15_code 34 = .ok (.iconst 0, 1) := by decide +kernel
theorem dd_80_35 : decode prog_7_method_15_code 35 = .ok (.putfield 48, 3) := by decide +kernel
theorem dd_80_38 : decode prog_7_method_15_code 38 = .ok (.aload_n 0, 1) := by decide +kernel
theorem dd_80_39 : decode prog_7_method_15_code 39 = .ok (.getfield 48, 3) := by decide +kernel
theorem dd_80_42 : decode prog_7_method_15_code 42 = .ok (.ifCond .ne 25, 3) := by decide +kernel
theorem dd_80_45 : decode prog_7_method_15_code 45 = .ok (.aload_n 0, 1) := by decide +kernel
theorem dd_80_46 : decode prog_7_method_15_code 46 = .ok (.aload_n 0, 1) := by decide +kernel
theorem dd_80_47 : decode prog_7_method_15_code 47 = .ok (.getfield 42, 3) := by decide +kernel
theorem dd_80_50 : decode prog_7_method_15_code 50 = .ok (.iload_n 2, 1) := by decide +kernel
theorem dd_80_51 : decode prog_7_method_15_code 51 = .ok (.imul, 1) := by decide +kernel
theorem dd_80_52 : decode prog_7_method_15_code 52 = .ok (.iload_n 1, 1) := by decide +kernel
theorem dd_80_53 : decode prog_7_method_15_code 53 = .ok (.iadd, 1) := by decide +kernel
theorem dd_80_54 : decode prog_7_method_15_code 54 = .ok (.iload_n 3, 1) := by decide +kernel
theorem dd_80_55 : decode prog_7_method_15_code 55 = .ok (.iload 4, 2) := by decide +kernel
theorem dd_80_57 : decode prog_7_method_15_code 57 = .ok (.invokevirtual 71, 3) := by decide +kernel
theorem dd_80_60 : decode prog_7_method_15_code 60 = .ok (.ifCond .eq 7, 3) := by decide +kernel
theorem dd_80_63 : decode prog_7_method_15_code 63 = .ok (.iconst 1, 1) := by decide +kernel
theorem dd_80_64 : decode prog_7_method_15_code 64 = .ok (.goto 4, 3) := by decide +kernel
theorem dd_80_67 : decode prog_7_method_15_code 67 = .ok (.iconst 0, 1) := by decide +kernel
theorem dd_80_68 : decode prog_7_method_15_code 68 = .ok (.ireturn, 1) := by decide +kernel
theorem dd_81_0 : decode prog_7_method_16_code 0 = .ok (.aload_n 0, 1) := by decide +kernel
theorem dd_81_1 : decode prog_7_method_16_code 1 = .ok (.iload_n 1, 1) := by decide +kernel
theorem dd_81_2 : decode prog_7_method_16_code 2 = .ok (.iload_n 2, 1) := by decide +kernel
theorem dd_81_3 : decode prog_7_method_16_code 3 = .ok (.iconst 1, 1) := by decide +kernel
theorem dd_81_4 : decode prog_7_method_16_code 4 = .ok (.iload_n 3, 1) := by decide +kernel
theorem dd_81_5 : decode prog_7_method_16_code 5 = .ok (.invokevirtual 75, 3) := by decide +kernel
theorem dd_81_8 : decode prog_7_method_16_code 8 = .ok (.ireturn, 1) := by decide +kernel
theorem dd_82_0 : decode prog_7_method_17_code 0 = .ok (.aload_n 0, 1) := by decide +kernel
theorem dd_82_1 : decode prog_7_method_17_code 1 = .ok (.aload_n 0, 1) := by decide +kernel
theorem dd_82_2 : decode prog_7_method_17_code 2 = .ok (.iload_n 1, 1) := by decide +kernel
theorem dd_82_3 : decode prog_7_method_17_code 3 = .ok (.iload_n 2, 1) := by decide +kernel
theorem dd_82_4 : decode prog_7_method_17_code 4 = .ok (.invokevirtual 62, 3) := by decide +kernel
theorem dd_82_7 : decode prog_7_method_17_code 7 = .ok (.ifCond .ne 7, 3) := by decide +kernel
theorem dd_82_10 : decode prog_7_method_17_code 10 = .ok (.iconst 1, 1) := by decide +kernel
theorem dd_82_11 : decode prog_7_method_17_code 11 = .ok (.goto 39, 3) := by decide +kernel
theorem dd_82_14 : decode prog_7_method_17_code 14 = .ok (.iload_n 3, 1) := by decide +kernel
theorem dd_82_15 : decode prog_7_method_17_code 15 = .ok (.ifCond .lt 10, 3) := by decide +kernel
theorem dd_82_18 : decode prog_7_method_17_code 18 = .ok (.iload_n 3, 1) := by decide +kernel
theorem dd_82_19 : decode prog_7_method_17_code 19 = .ok (.sipush 256, 3) := by decide +kernel
theorem dd_82_22 : decode prog_7_method_17_code 22 = .ok (.if_icmp .le 7, 3) := by decide +kernel
theorem dd_82_25 : decode prog_7_method_17_code 25 = .ok (.iconst 2, 1) := by decide +kernel
theorem dd_82_26 : decode prog_7_method_17_code 26 = .ok (.goto 24, 3) := by decide +kernel
theorem dd_82_29 : decode prog_7_method_17_code 29 = .ok (.aload_n 0, 1) := by decide +kernel
theorem dd_82_30 : decode prog_7_method_17_code 30 = .ok (.aload_n 0, 1) := by decide +kernel
theorem dd_82_31 : decode prog_7_method_17_code 31 = .ok (.getfield 42, 3) := by decide +kernel
theorem dd_82_34 : decode prog_7_method_17_code 34 = .ok (.iload_n 2, 1) := by decide +kernel
theorem dd_82_35 : decode prog_7_method_17_code 35 = .ok (.imul, 1) := by decide +kernel
theorem dd_82_36 : decode prog_7_method_17_code 36 = .ok (.iload_n 1, 1) := by decide +kernel
theorem dd_82_37 : decode prog_7_method_17_code 37 = .ok (.iadd, 1) := by decide +kernel
theorem dd_82_38 : decode prog_7_method_17_code 38 = .ok (.iconst 2, 1) := by decide +kernel
theorem dd_82_39 : decode prog_7_method_17_code 39 = .ok (.invokevirtual 68, 3) := by decide +kernel
theorem dd_82_42 : decode prog_7_method_17_code 42 = .ok (.ifCond .eq 7, 3) := by decide +kernel
theorem dd_82_45 : decode prog_7_method_17_code 45 = .ok (.iconst 3, 1) := by decide +kernel
theorem dd_82_46 : decode prog_7_method_17_code 46 = .ok (.goto 4, 3) := by decide +kernel
theorem dd_82_49 : decode prog_7_method_17_code 49 = .ok (.iconst 0, 1) := by decide +kernel
theorem dd_82_50 : decode prog_7_method_17_code 50 = .ok (.putfield 48, 3) := by decide +kernel
theorem dd_82_53 : decode prog_7_method_17_code 53 = .ok (.aload_n 0, 1) := by decide +kernel
theorem dd_82_54 : decode prog_7_method_17_code 54 = .ok (.getfield 48, 3) := by decide +kernel
theorem dd_82_57 : decode prog_7_method_17_code 57 = .ok (.ifCond .ne 41, 3) := by decide +kernel
theorem dd_82_60 : decode prog_7_method_17_code 60 = .ok (.aload_n 0, 1) := by decide +kernel
theorem dd_82_61 : decode prog_7_method_17_code 61 = .ok (.aload_n 0, 1) := by decide +kernel
theorem dd_82_62 : decode prog_7_method_17_code 62 = .ok (.getfield 42, 3) := by decide +kernel
theorem dd_82_65 : decode prog_7_method_17_code 65 = .ok (.iload_n 2, 1) := by decide +kernel
theorem dd_82_66 : decode prog_7_method_17_code 66 = .ok (.imul, 1) := by decide +kernel
theorem dd_82_67 : decode prog_7_method_17_code 67 = .ok (.iload_n 1, 1) := by decide +kernel
theorem dd_82_68 : decode prog_7_method_17_code 68 = .ok (.iadd, 1) := by decide +kernel
theorem dd_82_69 : decode prog_7_method_17_code 69 = .ok (.iconst 2, 1) := by decide +kernel
theorem dd_82_70 : decode prog_7_method_17_code 70 = .ok (.iload_n 3, 1) := by decide +kernel
theorem dd_82_71 : decode prog_7_method_17_code 71 = .ok (.ifCond .le 7, 3) := by decide +kernel
theorem dd_82_74 : decode prog_7_method_17_code 74 = .ok (.iconst 1, 1) := by decide +kernel
theorem dd_82_75 : decode prog_7_method_17_code 75 = .ok (.goto 4, 3) := by decide +kernel
theorem dd_82_78 : decode prog_7_method_17_code 78 = .ok (.iconst 0, 1) := by decide +kernel
theorem dd_82_79 : decode prog_7_method_17_code 79 = .ok (.invokevirtual 71, 3) := by decide +kernel
theorem dd_82_82 : decode prog_7_method_17_code 82 = .ok (.istore 4, 2) := by decide +kernel
theorem dd_82_84 : decode prog_7_method_17_code 84 = .ok (.aload_n 0, 1) := by decide +kernel
theorem dd_82_85 : decode prog_7_method_17_code 85 = .ok (.getfield 16, 3) := by decide +kernel
theorem dd_82_88 : decode prog_7_method_17_code 88 = .ok (.aload_n 0, 1) := by decide +kernel
theorem dd_82_89 : decode prog_7_method_17_code 89 = .ok (.getfield 42, 3) := by decide +kernel
theorem dd_82_92 : decode prog_7_method_17_code 92 = .ok (.iload_n 2, 1) := by decide +kernel
theorem dd_82_93 : decode prog_7_method_17_code 93 = .ok (.imul, 1) := by decide +kernel
theorem dd_82_94 : decode prog_7_method_17_code 94 = .ok (.iload_n 1, 1) := by decide +kernel
theorem dd_82_95 : decode prog_7_method_17_code 95 = .ok (.iadd, 1) := by decide +kernel
theorem dd_82_96 : decode prog_7_method_17_code 96 = .ok (.iload_n 3, 1) := by decide +kernel
theorem dd_82_97 : decode prog_7_method_17_code 97 = .ok (.iastore, 1) := by decide +kernel
theorem dd_82_98 : decode prog_7_method_17_code 98 = .ok (.return_, 1) := by decide +kernel
theorem dd_83_0 : decode prog_7_method_18_code 0 = .ok (.aload_n 0, 1) := by decide +kernel
theorem dd_83_1 : decode prog_7_method_18_code 1 = .ok (.iload_n 1, 1) := by decide +kernel
theorem dd_83_2 : decode prog_7_method_18_code 2 = .ok (.iload_n 2, 1) := by decide +kernel
theorem dd_83_3 : decode prog_7_method_18_code 3 = .ok (.iconst 3, 1) := by decide +kernel
theorem dd_83_4 : decode prog_7_method_18_code 4 = .ok (.iload_n 3, 1) := by decide +kernel
theorem dd_83_5 : decode prog_7_method_18_code 5 = .ok (.invokevirtual 75, 3) := by decide +kernel
theorem dd_83_8 : decode prog_7_method_18_code 8 = .ok (.ireturn, 1) := by decide +kernel
theorem dd_84_0 : decode prog_7_method_19_code 0 = .ok (.aload_n 0, 1) := by decide +kernel
theorem dd_84_1 : decode prog_7_method_19_code 1 = .ok (.iload_n 1, 1) := by decide +kernel
theorem dd_84_2 : decode prog_7_method_19_code 2 = .ok (.iload_n 2, 1) := by decide +kernel
theorem dd_84_3 : decode prog_7_method_19_code 3 = .ok (.iconst 4, 1) := by decide +kernel
theorem dd_84_4 : decode prog_7_method_19_code 4 = .ok (.iload_n 3, 1) := by decide +kernel
theorem dd_84_5 : decode prog_7_method_19_code 5 = .ok (.invokevirtual 75, 3) := by decide +kernel
theorem dd_84_8 : decode prog_7_method_19_code 8 = .ok (.ireturn, 1) := by decide +kernel
theorem dd_85_0 : decode prog_7_method_20_code 0 = .ok (.aload_n 0, 1) := by decide +kernel
theorem dd_85_1 : decode prog_7_method_20_code 1 = .ok (.aload_n 0, 1) := by decide +kernel
theorem dd_85_2 : decode prog_7_method_20_code 2 = .ok (.iload_n 1, 1) := by decide +kernel
theorem dd_85_3 : decode prog_7_method_20_code 3 = .ok (.iload_n 2, 1) := by decide +kernel
theorem dd_85_4 : decode prog_7_method_20_code 4 = .ok (.invokevirtual 62, 3) := by decide +kernel
theorem dd_85_7 : decode prog_7_method_20_code 7 = .ok (.ifCond .eq 7, 3) := by decide +kernel
theorem dd_85_10 : decode prog_7_method_20_code 10 = .ok (.iconst 0, 1) := by decide +kernel
theorem dd_85_11 : decode prog_7_method_20_code 11 = .ok (.goto 4, 3) := by decide +kernel
theorem dd_85_14 : decode prog_7_method_20_code 14 = .ok (.iconst 1, 1) := by decide +kernel
theorem dd_85_15 : decode prog_7_method_20_code 15 = .ok (.putfield 48, 3) := by decide +kernel
theorem dd_85_18 : decode prog_7_method_20_code 18 = .ok (.aload_n 0, 1) := by decide +kernel
theorem dd_85_19 : decode prog_7_method_20_code 19 = .ok (.getfield 48, 3) := by decide +kernel
theorem dd_85_22 : decode prog_7_method_20_code 22 = .ok (.ifCond .le 7, 3) := by decide +kernel
theorem dd_85_25 : decode prog_7_method_20_code 25 = .ok (.iconst 0, 1) := by decide +kernel
theorem dd_85_26 : decode prog_7_method_20_code 26 = .ok (.goto 16, 3) := by decide +kernel
theorem dd_85_29 : decode prog_7_method_20_code 29 = .ok (.aload_n 0, 1) := by decide +kernel
theorem dd_85_30 : decode prog_7_method_20_code 30 = .ok (.getfield 13, 3) := by decide +kernel
theorem dd_85_33 : decode prog_7_method_20_code 33 = .ok (.aload_n 0, 1) := by decide +kernel
theorem dd_85_34 : decode prog_7_method_20_code 34 = .ok (.getfield 42, 3) := by decide +kernel
theorem dd_85_37 : decode prog_7_method_20_code 37 = .ok (.iload_n 2, 1) := by decide +kernel
theorem dd_85_38 : decode prog_7_method_20_code 38 = .ok (.imul, 1) := by decide +kernel
theorem dd_85_39 : decode prog_7_method_20_code 39 = .ok (.iload_n 1, 1) := by decide +kernel
theorem dd_85_40 : decode prog_7_method_20_code 40 = .ok (.iadd, 1) := by decide +kernel
theorem dd_85_41 : decode prog_7_method_20_code 41 = .ok (.iaload, 1) := by decide +kernel
theorem dd_85_42 : decode prog_7_method_20_code 42 = .ok (.ireturn, 1) := by decide +kernel
theorem dd_86_0 : decode prog_7_method_21_code 0 = .ok (.aload_n 0, 1) := by decide +kernel
theorem dd_86_1 : decode prog_7_method_21_code 1 = .ok (.iload_n 1, 1) := by decide +kernel
theorem dd_86_2 : decode prog_7_method_21_code 2 = .ok (.iconst 1, 1) := by decide +kernel
theorem dd_86_3 : decode prog_7_method_21_code 3 = .ok (.if_icmp .lt 10, 3) := by decide +kernel
theorem dd_86_6 : decode prog_7_method_21_code 6 = .ok (.iload_n 1, 1) := by decide +kernel
theorem dd_86_7 : decode prog_7_method_21_code 7 = .ok (.sipush 10000, 3) := by decide +kernel
theorem dd_86_10 : decode prog_7_method_21_code 10 = .ok (.if_icmp .le 7, 3) := by decide +kernel
theorem dd_86_13 : decode prog_7_method_21_code 13 = .ok (.iconst 1, 1) := by decide +kernel
theorem dd_86_14 : decode prog_7_method_21_code 14 = .ok (.goto 4, 3) := by decide +kernel
theorem dd_86_17 : decode prog_7_method_21_code 17 = .ok (.iconst 0, 1) := by decide +kernel
theorem dd_86_18 : decode prog_7_method_21_code 18 = .ok (.putfield 48, 3) := by decide +kernel
theorem dd_86_21 : decode prog_7_method_21_code 21 = .ok (.aload_n 0, 1) := by decide +kernel
theorem dd_86_22 : decode prog_7_method_21_code 22 = .ok (.aload_n 0, 1) := by decide +kernel
theorem dd_86_23 : decode prog_7_method_21_code 23 = .ok (.getfield 48, 3) := by decide +kernel
theorem dd_86_26 : decode prog_7_method_21_code 26 = .ok (.ifCond .le 10, 3) := by decide +kernel
theorem dd_86_29 : decode prog_7_method_21_code 29 = .ok (.aload_n 0, 1) := by decide +kernel
theorem dd_86_30 : decode prog_7_method_21_code 30 = .ok (.getfield 29, 3) := by decide +kernel
theorem dd_86_33 : decode prog_7_method_21_code 33 = .ok (.goto 4, 3) := by decide +kernel
theorem dd_86_36 : decode prog_7_method_21_code 36 = .ok (.iload_n 1, 1) := by decide +kernel
theorem dd_86_37 : decode prog_7_method_21_code 37 = .ok (.putfield 29, 3) := by decide +kernel
theorem dd_86_40 : decode prog_7_method_21_code 40 = .ok (.return_, 1) := by decide +kernel
theorem dd_87_0 : decode prog_7_method_22_code 0 = .ok (.aload_n 0, 1) := by decide +kernel
theorem dd_87_1 : decode prog_7_method_22_code 1 = .ok (.iload_n 1, 1) := by decide +kernel
theorem dd_87_2 : decode prog_7_method_22_code 2 = .ok (.ifCond .lt 8, 3) := by decide +kernel
theorem dd_87_5 : decode prog_7_method_22_code 5 = .ok (.iload_n 1, 1) := by decide +kernel
theorem dd_87_6 : decode prog_7_method_22_code 6 = .ok (.iconst 2, 1) := by decide +kernel
theorem dd_87_7 : decode prog_7_method_22_code 7 = .ok (.if_icmp .le 7, 3) := by decide +kernel
theorem dd_87_10 : decode prog_7_method_22_code 10 = .ok (.iconst 1, 1) := by decide +kernel
theorem dd_87_11 : decode prog_7_method_22_code 11 = .ok (.goto 4, 3) := by decide +kernel
theorem dd_87_14 : decode prog_7_method_22_code 14 = .ok (.iconst 0, 1) := by decide +kernel
theorem dd_87_15 : decode prog_7_method_22_code 15 = .ok (.putfield 48, 3) := by decide +kernel
theorem dd_87_18 : decode prog_7_method_22_code 18 = .ok (.aload_n 0, 1) := by decide +kernel
theorem dd_87_19 : decode prog_7_method_22_code 19 = .ok (.getfield 48, 3) := by decide +kernel
theorem dd_87_22 : decode prog_7_method_22_code 22 = .ok (.ifCond .le 7, 3) := by decide +kernel
theorem dd_87_25 : decode prog_7_method_22_code 25 = .ok (.iconst 0, 1) := by decide +kernel
theorem dd_87_26 : decode prog_7_method_22_code 26 = .ok (.goto 21, 3) := by decide +kernel
theorem dd_87_29 : decode prog_7_method_22_code 29 = .ok (.iload_n 1, 1) := by decide +kernel
theorem dd_87_30 : decode prog_7_method_22_code 30 = .ok (.iconst 2, 1) := by decide +kernel
theorem dd_87_31 : decode prog_7_method_22_code 31 = .ok (.if_icmp .ne 10, 3) := by decide +kernel
theorem dd_87_34 : decode prog_7_method_22_code 34 = .ok (.aload_n 0, 1) := by decide +kernel
theorem dd_87_35 : decode prog_7_method_22_code 35 = .ok (.getfield 79, 3) := by decide +kernel
theorem dd_87_38 : decode prog_7_method_22_code 38 = .ok (.goto 9, 3) := by decide +kernel
theorem dd_87_41 : decode prog_7_method_22_code 41 = .ok (.aload_n 0, 1) := by decide +kernel
theorem dd_87_42 : decode prog_7_method_22_code 42 = .ok (.getfield 33, 3) := by decide +kernel
theorem dd_87_45 : decode prog_7_method_22_code 45 = .ok (.iload_n 1, 1) := by decide +kernel
theorem dd_87_46 : decode prog_7_method_22_code 46 = .ok (.iaload, 1) := by decide +kernel
theorem dd_87_47 : decode prog_7_method_22_code 47 = .ok (.ireturn, 1) := by decide +kernel
theorem dd_88_0 : decode prog_7_method_23_code 0 = .ok (.aload_n 0, 1) := by decide +kernel
theorem dd_88_1 : decode prog_7_method_23_code 1 = .ok (.iconst 0, 1) := by decide +kernel
theorem dd_88_2 : decode prog_7_method_23_code 2 = .ok (.putfield 48, 3) := by decide +kernel
theorem dd_88_5 : decode prog_7_method_23_code 5 = .ok (.aload_n 0, 1) := by decide +kernel
theorem dd_88_6 : decode prog_7_method_23_code 6 = .ok (.iload_n 1, 1) := by decide +kernel
theorem dd_88_7 : decode prog_7_method_23_code 7 = .ok (.putfield 82, 3) := by decide +kernel
theorem dd_88_10 : decode prog_7_method_23_code 10 = .ok (.return_, 1) := by decide +kernel
theorem dd_89_0 : decode prog_7_method_24_code 0 = .ok (.iload_n 1, 1) := by decide +kernel
theorem dd_89_1 : decode prog_7_method_24_code 1 = .ok (.aload_n 0, 1) := by decide +kernel
theorem dd_89_2 : decode prog_7_method_24_code 2 = .ok (.getfield 42, 3) := by decide +kernel
theorem dd_89_5 : decode prog_7_method_24_code 5 = .ok (.irem, 1) := by decide +kernel
theorem dd_89_6 : decode prog_7_method_24_code 6 = .ok (.istore_n 3, 1) := by decide +kernel
theorem dd_89_7 : decode prog_7_method_24_code 7 = .ok (.iload_n 1, 1) := by decide +kernel
theorem dd_89_8 : decode prog_7_method_24_code 8 = .ok (.aload_n 0, 1) := by decide +kernel
theorem dd_89_9 : decode prog_7_method_24_code 9 = .ok (.getfield 42, 3) := by decide +kernel
theorem dd_89_12 : decode prog_7_method_24_code 12 = .ok (.idiv, 1) := by decide +kernel
theorem dd_89_13 : decode prog_7_method_24_code 13 = .ok (.istore 4, 2) := by decide +kernel
theorem dd_89_15 : decode prog_7_method_24_code 15 = .ok (.iload 4, 2) := by decide +kernel
theorem dd_89_17 : decode prog_7_method_24_code 17 = .ok (.iconst 2, 1) := by decide +kernel
theorem dd_89_18 : decode prog_7_method_24_code 18 = .ok (.irem, 1) := by decide +kernel
theorem dd_89_19 : decode prog_7_method_24_code 19 = .ok (.istore 5, 2) := by decide +kernel
theorem dd_89_21 : decode prog_7_method_24_code 21 = .ok (.iload_n 2, 1) := by decide +kernel
theorem dd_89_22 : decode prog_7_method_24_code 22 = .ok (.ifCond .ne 10, 3) := by decide +kernel
theorem dd_89_25 : decode prog_7_method_24_code 25 = .ok (.iload_n 3, 1) := by decide +kernel
theorem dd_89_26 : decode prog_7_method_24_code 26 = .ok (.iconst 1, 1) := by decide +kernel
theorem dd_89_27 : decode prog_7_method_24_code 27 = .ok (.iadd, 1) := by decide +kernel
theorem dd_89_28 : decode prog_7_method_24_code 28 = .ok (.istore_n 3, 1) := by decide +kernel
theorem dd_89_29 : decode prog_7_method_24_code 29 = .ok (.goto 46, 3) := by decide +kernel
theorem dd_89_32 : decode prog_7_method_24_code 32 = .ok (.iload_n 2, 1) := by decide +kernel
theorem dd_89_33 : decode prog_7_method_24_code 33 = .ok (.iconst 3, 1) := by decide +kernel
theorem dd_89_34 : decode prog_7_method_24_code 34 = .ok (.if_icmp .ne 10, 3) := by decide +kernel
theorem dd_89_37 : decode prog_7_method_24_code 37 = .ok (.iload_n 3, 1) := by decide +kernel
theorem dd_89_38 : decode prog_7_method_24_code 38 = .ok (.iconst 1, 1) := by decide +kernel
theorem dd_89_39 : decode prog_7_method_24_code 39 = .ok (.isub, 1) := by decide +kernel
theorem dd_89_40 : decode prog_7_method_24_code 40 = .ok (.istore_n 3, 1) := by decide +kernel
theorem dd_89_41 : decode prog_7_method_24_code 41 = .ok (.goto 34, 3) := by decide +kernel
theorem dd_89_44 : decode prog_7_method_24_code 44 = .ok (.iload_n 2, 1) := by decide +kernel
theorem dd_89_45 : decode prog_7_method_24_code 45 = .ok (.iconst 1, 1) := by decide +kernel
theorem dd_89_46 : decode prog_7_method_24_code 46 = .ok (.if_icmp .eq 8, 3) := by decide +kernel
theorem dd_89_49 : decode prog_7_method_24_code 49 = .ok (.iload_n 2, 1) := by decide +kernel
theorem dd_89_50 : decode prog_7_method_24_code 50 = .ok (.iconst 5, 1) := by decide +kernel
theorem dd_89_51 : decode prog_7_method_24_code 51 = .ok (.if_icmp .ne 11, 3) := by decide +kernel
theorem dd_89_54 : decode prog_7_method_24_code 54 = .ok (.iload_n 3, 1) := by decide +kernel
theorem dd_89_55 : decode prog_7_method_24_code 55 = .ok (.iload 5, 2) := by decide +kernel
theorem dd_89_57 : decode prog_7_method_24_code 57 = .ok (.iadd, 1) := by decide +kernel
theorem dd_89_58 : decode prog_7_method_24_code 58 = .ok (.istore_n 3, 1) := by decide +kernel
theorem dd_89_59 : decode prog_7_method_24_code 59 = .ok (.goto 16, 3) := by decide +kernel
theorem dd_89_62 : decode prog_7_method_24_code 62 = .ok (.iload_n 2, 1) := by decide +kernel
theorem dd_89_63 : decode prog_7_method_24_code 63 = .ok (.bipush 6, 2) := by decide +kernel
theorem dd_89_65 : decode prog_7_method_24_code 65 = .ok (.if_icmp .eq 10, 3) := by decide +kernel
theorem dd_89_68 : decode prog_7_method_24_code 68 = .ok (.iload_n 3, 1) := by decide +kernel
theorem dd_89_69 : decode prog_7_method_24_code 69 = .ok (.iload 5, 2) := by decide +kernel
theorem dd_89_71 : decode prog_7_method_24_code 71 = .ok (.iadd, 1) := by decide +kernel
theorem dd_89_72 : decode prog_7_method_24_code 72 = .ok (.iconst 1, 1) := by decide +kernel
theorem dd_89_73 : decode prog_7_method_24_code 73 = .ok (.isub, 1) := by decide +kernel
theorem dd_89_74 : decode prog_7_method_24_code 74 = .ok (.istore_n 3, 1) := by decide +kernel
theorem dd_89_75 : decode prog_7_method_24_code 75 = .ok (.iload_n 2, 1) := by decide +kernel
theorem dd_89_76 : decode prog_7_method_24_code 76 = .ok (.iconst 1, 1) := by decide +kernel
theorem dd_89_77 : decode prog_7_method_24_code 77 = .ok (.if_icmp .eq 8, 3) := by decide +kernel
theorem dd_89_80 : decode prog_7_method_24_code 80 = .ok (.iload_n 2, 1) := by decide +kernel
theorem dd_89_81 : decode prog_7_method_24_code 81 = .ok (.iconst 2, 1) := by decide +kernel
theorem dd_89_82 : decode prog_7_method_24_code 82 = .ok (.if_icmp .ne 12, 3) := by decide +kernel
theorem dd_89_85 : decode prog_7_method_24_code 85 = .ok (.iload 4, 2) := by decide +kernel
theorem dd_89_87 : decode prog_7_method_24_code 87 = .ok (.iconst 1, 1) := by decide +kernel
theorem dd_89_88 : decode prog_7_method_24_code 88 = .ok (.isub, 1) := by decide +kernel
theorem dd_89_89 : decode prog_7_method_24_code 89 = .ok (.istore 4, 2) := by decide +kernel
theorem dd_89_91 : decode prog_7_method_24_code 91 = .ok (.goto 19, 3) := by decide +kernel
theorem dd_89_94 : decode prog_7_method_24_code 94 = .ok (.iload_n 2, 1) := by decide +kernel
theorem dd_89_95 : decode prog_7_method_24_code 95 = .ok (.iconst 4, 1) := by decide +kernel
theorem dd_89_96 : decode prog_7_method_24_code 96 = .ok (.if_icmp .eq 8, 3) := by decide +kernel
theorem dd_89_99 : decode prog_7_method_24_code 99 = .ok (.iload_n 2, 1) := by decide +kernel
theorem dd_89_100 : decode prog_7_method_24_code 100 = .ok (.iconst 5, 1) := by decide +kernel
theorem dd_89_101 : decode prog_7_method_24_code 101 = .ok (.if_icmp .ne 9, 3) := by decide +kernel
theorem dd_89_104 : decode prog_7_method_24_code 104 = .ok (.iload 4, 2) := by decide +kernel
theorem dd_89_106 : decode prog_7_method_24_code 106 = .ok (.iconst 1, 1) := by decide +kernel
theorem dd_89_107 : decode prog_7_method_24_code 107 = .ok (.iadd, 1) := by decide +kernel
theorem dd_89_108 : decode prog_7_method_24_code 108 = .ok (.istore 4, 2) := by decide +kernel
theorem dd_89_110 : decode prog_7_method_24_code 110 = .ok (.iload 4, 2) := by decide +kernel
theorem dd_89_112 : decode prog_7_method_24_code 112 = .ok (.aload_n 0, 1) := by decide +kernel
theorem dd_89_113 : decode prog_7_method_24_code 113 = .ok (.getfield 45, 3) := by decide +kernel
theorem dd_89_116 : decode prog_7_method_24_code 116 = .ok (.iadd, 1) := by decide +kernel
theorem dd_89_117 : decode prog_7_method_24_code 117 = .ok (.aload_n 0, 1) := by decide +kernel
theorem dd_89_118 : decode prog_7_method_24_code 118 = .ok (.getfield 45, 3) := by decide +kernel
theorem dd_89_121 : decode prog_7_method_24_code 121 = .ok (.irem, 1) := by decide +kernel
theorem dd_89_122 : decode prog_7_method_24_code 122 = .ok (.aload_n 0, 1) := by decide +kernel
theorem dd_89_123 : decode prog_7_method_24_code 123 = .ok (.getfield 42, 3) := by decide +kernel
theorem dd_89_126 : decode prog_7_method_24_code 126 = .ok (.imul, 1) := by decide +kernel
theorem dd_89_127 : decode prog_7_method_24_code 127 = .ok (.iload_n 3, 1) := by decide +kernel
theorem dd_89_128 : decode prog_7_method_24_code 128 = .ok (.aload_n 0, 1) := by decide +kernel
theorem dd_89_129 : decode prog_7_method_24_code 129 = .ok (.getfield 42, 3) := by decide +kernel
theorem dd_89_132 : decode prog_7_method_24_code 132 = .ok (.iadd, 1) := by decide +kernel
theorem dd_89_133 : decode prog_7_method_24_code 133 = .ok (.aload_n 0, 1) := by decide +kernel
theorem dd_89_134 : decode prog_7_method_24_code 134 = .ok (.getfield 42, 3) := by decide +kernel
theorem dd_89_137 : decode prog_7_method_24_code 137 = .ok (.irem, 1) := by decide +kernel
theorem dd_89_138 : decode prog_7_method_24_code 138 = .ok (.iadd, 1) := by decide +kernel
theorem dd_89_139 : decode prog_7_method_24_code 139 = .ok (.ireturn, 1) := by decide +kernel
theorem dd_90_0 : decode prog_7_method_25_code 0 = .ok (.iload_n 1, 1) := by decide +kernel
theorem dd_90_1 : decode prog_7_method_25_code 1 = .ok (.istore_n 2, 1) := by decide +kernel
theorem dd_90_2 : decode prog_7_method_25_code 2 = .ok (.iconst 0, 1) := by decide +kernel
theorem dd_90_3 : decode prog_7_method_25_code 3 = .ok (.istore_n 3, 1) := by decide +kernel
theorem dd_90_4 : decode prog_7_method_25_code 4 = .ok (.iload_n 3, 1) := by decide +kernel
theorem dd_90_5 : decode prog_7_method_25_code 5 = .ok (.bipush 7, 2) := by decide +kernel
theorem dd_90_7 : decode prog_7_method_25_code 7 = .ok (.if_icmp .ge 26, 3) := by decide +kernel
theorem dd_90_10 : decode prog_7_method_25_code 10 = .ok (.iload_n 0, 1) := by decide +kernel
theorem dd_90_11 : decode prog_7_method_25_code 11 = .ok (.iload_n 3, 1) := by decide +kernel
theorem dd_90_12 : decode prog_7_method_25_code 12 = .ok (.invokestatic 51, 3) := by decide +kernel
theorem dd_90_15 : decode prog_7_method_25_code 15 = .ok (.ifCond .eq 12, 3) := by decide +kernel
theorem dd_90_18 : decode prog_7_method_25_code 18 = .ok (.iload_n 2, 1) := by decide +kernel
theorem dd_90_19 : decode prog_7_method_25_code 19 = .ok (.ifCond .ne 5, 3) := by decide +kernel
theorem dd_90_22 : decode prog_7_method_25_code 22 = .ok (.iload_n 3, 1) := by decide +kernel
theorem dd_90_23 : decode prog_7_method_25_code 23 = .ok (.ireturn, 1) := by decide +kernel
theorem dd_90_24 : decode prog_7_method_25_code 24 = .ok (.iinc 2 (-1), 3) := by decide +kernel
theorem dd_90_27 : decode prog_7_method_25_code 27 = .ok (.iinc 3 1, 3) := by decide +kernel
theorem dd_90_30 : decode prog_7_method_25_code 30 = .ok (.goto (-26), 3) := by decide +kernel
theorem dd_90_33 : decode prog_7_method_25_code 33 = .ok (.iconst (-1), 1) := by decide +kernel
theorem dd_90_34 : decode prog_7_method_25_code 34 = .ok (.ireturn, 1) := by decide +kernel
theorem dd_91_0 : decode prog_7_method_26_code 0 = .ok (.iload_n 1, 1) := by decide +kernel
theorem dd_91_1 : decode prog_7_method_26_code 1 = .ok (.aload_n 0, 1) := by decide +kernel
theorem dd_91_2 : decode prog_7_method_26_code 2 = .ok (.getfield 42, 3) := by decide +kernel
theorem dd_91_5 : decode prog_7_method_26_code 5 = .ok (.irem, 1) := by decide +kernel
theorem dd_91_6 : decode prog_7_method_26_code 6 = .ok (.iload_n 1, 1) := by decide +kernel
theorem dd_91_7 : decode prog_7_method_26_code 7 = .ok (.aload_n 0, 1) := by decide +kernel
theorem dd_91_8 : decode prog_7_method_26_code 8 = .ok (.getfield 42, 3) := by decide +kernel
theorem dd_91_11 : decode prog_7_method_26_code 11 = .ok (.idiv, 1) := by decide +kernel
theorem dd_91_12 : decode prog_7_method_26_code 12 = .ok (.iadd, 1) := by decide +kernel
theorem dd_91_13 : decode prog_7_method_26_code 13 = .ok (.aload_n 0, 1) := by decide +kernel
theorem dd_91_14 : decode prog_7_method_26_code 14 = .ok (.getfield 85, 3) := by decide +kernel
theorem dd_91_17 : decode prog_7_method_26_code 17 = .ok (.iadd, 1) := by decide +kernel
theorem dd_91_18 : decode prog_7_method_26_code 18 = .ok (.iconst 1, 1) := by decide +kernel
theorem dd_91_19 : decode prog_7_method_26_code 19 = .ok (.iand, 1) := by decide +kernel
theorem dd_91_20 : decode prog_7_method_26_code 20 = .ok (.istore_n 3, 1) := by decide +kernel
theorem dd_91_21 : decode prog_7_method_26_code 21 = .ok (.aload_n 0, 1) := by decide +kernel
theorem dd_91_22 : decode prog_7_method_26_code 22 = .ok (.getfield 7, 3) := by decide +kernel
theorem dd_91_25 : decode prog_7_method_26_code 25 = .ok (.iload_n 1, 1) := by decide +kernel
theorem dd_91_26 : decode prog_7_method_26_code 26 = .ok (.iaload, 1) := by decide +kernel
theorem dd_91_27 : decode prog_7_method_26_code 27 = .ok (.istore 4, 2) := by decide +kernel
theorem dd_91_29 : decode prog_7_method_26_code 29 = .ok (.iload_n 2, 1) := by decide +kernel
theorem dd_91_30 : decode prog_7_method_26_code 30 = .ok (.ifCond .eq 12, 3) := by decide +kernel
theorem dd_91_33 : decode prog_7_method_26_code 33 = .ok (.iload 4, 2) := by decide +kernel
theorem dd_91_35 : decode prog_7_method_26_code 35 = .ok (.iload_n 3, 1) := by decide +kernel
theorem dd_91_36 : decode prog_7_method_26_code 36 = .ok (.invokestatic 88, 3) := by decide +kernel
theorem dd_91_39 : decode prog_7_method_26_code 39 = .ok (.goto 9, 3) := by decide +kernel
theorem dd_91_42 : decode prog_7_method_26_code 42 = .ok (.iload 4, 2) := by decide +kernel
theorem dd_91_44 : decode prog_7_method_26_code 44 = .ok (.iload_n 3, 1) := by decide +kernel
theorem dd_91_45 : decode prog_7_method_26_code 45 = .ok (.invokestatic 59, 3) := by decide +kernel
theorem dd_91_48 : decode prog_7_method_26_code 48 = .ok (.istore 5, 2) := by decide +kernel
theorem dd_91_50 : decode prog_7_method_26_code 50 = .ok (.aload_n 0, 1) := by decide +kernel
theorem dd_91_51 : decode prog_7_method_26_code 51 = .ok (.getfield 7, 3) := by decide +kernel
theorem dd_91_54 : decode prog_7_method_26_code 54 = .ok (.iload_n 1, 1) := by decide +kernel
theorem dd_91_55 : decode prog_7_method_26_code 55 = .ok (.iload 5, 2) := by decide +kernel
theorem dd_91_57 : decode prog_7_method_26_code 57 = .ok (.iastore, 1) := by decide +kernel
theorem dd_91_58 : decode prog_7_method_26_code 58 = .ok (.iconst 0, 1) := by decide +kernel
theorem dd_91_59 : decode prog_7_method_26_code 59 = .ok (.istore 6, 2) := by decide +kernel
theorem dd_91_61 : decode prog_7_method_26_code 61 = .ok (.iload 6, 2) := by decide +kernel
theorem dd_91_63 : decode prog_7_method_26_code 63 = .ok (.aload_n 0, 1) := by decide +kernel
theorem dd_91_64 : decode prog_7_method_26_code 64 = .ok (.getfield 65, 3) := by decide +kernel
theorem dd_91_67 : decode prog_7_method_26_code 67 = .ok (.if_icmp .ge 56, 3) := by decide +kernel
theorem dd_91_70 : decode prog_7_method_26_code 70 = .ok (.aload_n 0, 1) := by decide +kernel
theorem dd_91_71 : decode prog_7_method_26_code 71 = .ok (.getfield 36, 3) := by decide +kernel
theorem dd_91_74 : decode prog_7_method_26_code 74 = .ok (.iload 6, 2) := by decide +kernel
theorem dd_91_76 : decode prog_7_method_26_code 76 = .ok (.iaload, 1) := by decide +kernel
theorem dd_91_77 : decode prog_7_method_26_code 77 = .ok (.iload_n 1, 1) := by decide +kernel
theorem dd_91_78 : decode prog_7_method_26_code 78 = .ok (.if_icmp .ne 39, 3) := by decide +kernel
theorem dd_91_81 : decode prog_7_method_26_code 81 = .ok (.iload 5, 2) := by decide +kernel
theorem dd_91_83 : decode prog_7_method_26_code 83 = .ok (.iload 4, 2) := by decide +kernel
theorem dd_91_85 : decode prog_7_method_26_code 85 = .ok (.if_icmp .eq 32, 3) := by decide +kernel
theorem dd_91_88 : decode prog_7_method_26_code 88 = .ok (.aload_n 0, 1) := by decide +kernel
theorem dd_91_89 : decode prog_7_method_26_code 89 = .ok (.getfield 39, 3) := by decide +kernel
