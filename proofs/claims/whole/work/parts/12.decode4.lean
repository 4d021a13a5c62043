theorem dd_114_9 : decode method_4_code 9 = .ok (.lastore, 1) := by decide +kernel
theorem dd_114_10 : decode method_4_code 10 = .ok (.goto 7, 3) := by decide +kernel
theorem dd_114_13 : decode method_4_code 13 = .ok (.astore 4, 2) := by decide +kernel
theorem dd_114_15 : decode method_4_code 15 = .ok (.iconst 1, 1) := by decide +kernel
theorem dd_114_16 : decode method_4_code 16 = .ok (.ireturn, 1) := by decide +kernel
theorem dd_114_17 : decode method_4_code 17 = .ok (.iconst 0, 1) := by decide +kernel
theorem dd_114_18 : decode method_4_code 18 = .ok (.ireturn, 1) := by decide +kernel
theorem dd_115_0 : decode method_5_code 0 = .ok (.aload_n 3, 1) := by decide +kernel
theorem dd_115_1 : decode method_5_code 1 = .ok (.iconst 0, 1) := by decide +kernel
theorem dd_115_2 : decode method_5_code 2 = .ok (.aload_n 0, 1) := by decide +kernel
theorem dd_115_3 : decode method_5_code 3 = .ok (.iload_n 1, 1) := by decide +kernel
theorem dd_115_4 : decode method_5_code 4 = .ok (.iload_n 2, 1) := by decide +kernel
theorem dd_115_5 : decode method_5_code 5 = .ok (.invokevirtual 21, 3) := by decide +kernel
theorem dd_115_8 : decode method_5_code 8 = .ok (.i2l, 1) := by decide +kernel
theorem dd_115_9 : decode method_5_code 9 = .ok (.lastore, 1) := by decide +kernel
theorem dd_115_10 : decode method_5_code 10 = .ok (.goto 7, 3) := by decide +kernel
theorem dd_115_13 : decode method_5_code 13 = .ok (.astore 4, 2) := by decide +kernel
theorem dd_115_15 : decode method_5_code 15 = .ok (.iconst 1, 1) := by decide +kernel
theorem dd_115_16 : decode method_5_code 16 = .ok (.ireturn, 1) := by decide +kernel
theorem dd_115_17 : decode method_5_code 17 = .ok (.iconst 0, 1) := by decide +kernel
theorem dd_115_18 : decode method_5_code 18 = .ok (.ireturn, 1) := by decide +kernel
theorem dd_116_0 : decode method_6_code 0 = .ok (.aload 4, 2) := by decide +kernel
theorem dd_116_2 : decode method_6_code 2 = .ok (.iconst 0, 1) := by decide +kernel
theorem dd_116_3 : decode method_6_code 3 = .ok (.aload_n 0, 1) := by decide +kernel
theorem dd_116_4 : decode method_6_code 4 = .ok (.iload_n 1, 1) := by decide +kernel
theorem dd_116_5 : decode method_6_code 5 = .ok (.iload_n 2, 1) := by decide +kernel
theorem dd_116_6 : decode method_6_code 6 = .ok (.iload_n 3, 1) := by decide +kernel
theorem dd_116_7 : decode method_6_code 7 = .ok (.invokevirtual 24, 3) := by decide +kernel
theorem dd_116_10 : decode method_6_code 10 = .ok (.ifCond .eq 7, 3) := by decide +kernel
theorem dd_116_13 : decode method_6_code 13 = .ok (.lconst 1, 1) := by decide +kernel
theorem dd_116_14 : decode method_6_code 14 = .ok (.goto 4, 3) := by decide +kernel
theorem dd_116_17 : decode method_6_code 17 = .ok (.lconst 0, 1) := by decide +kernel
theorem dd_116_18 : decode method_6_code 18 = .ok (.lastore, 1) := by decide +kernel
theorem dd_116_19 : decode method_6_code 19 = .ok (.goto 11, 3) := by decide +kernel
theorem dd_116_22 : decode method_6_code 22 = .ok (.astore 5, 2) := by decide +kernel
theorem dd_116_24 : decode method_6_code 24 = .ok (.iconst 1, 1) := by decide +kernel
theorem dd_116_25 : decode method_6_code 25 = .ok (.ireturn, 1) := by decide +kernel
theorem dd_116_26 : decode method_6_code 26 = .ok (.astore 5, 2) := by decide +kernel
theorem dd_116_28 : decode method_6_code 28 = .ok (.iconst 2, 1) := by decide +kernel
theorem dd_116_29 : decode method_6_code 29 = .ok (.ireturn, 1) := by decide +kernel
theorem dd_116_30 : decode method_6_code 30 = .ok (.iconst 0, 1) := by decide +kernel
theorem dd_116_31 : decode method_6_code 31 = .ok (.ireturn, 1) := by decide +kernel
theorem dd_117_0 : decode method_7_code 0 = .ok (.aload_n 0, 1) := by decide +kernel
theorem dd_117_1 : decode method_7_code 1 = .ok (.iload_n 1, 1) := by decide +kernel
theorem dd_117_2 : decode method_7_code 2 = .ok (.iload_n 2, 1) := by decide +kernel
theorem dd_117_3 : decode method_7_code 3 = .ok (.iload_n 3, 1) := by decide +kernel
theorem dd_117_4 : decode method_7_code 4 = .ok (.invokevirtual 30, 3) := by decide +kernel
theorem dd_117_7 : decode method_7_code 7 = .ok (.goto 15, 3) := by decide +kernel
theorem dd_117_10 : decode method_7_code 10 = .ok (.astore 4, 2) := by decide +kernel
theorem dd_117_12 : decode method_7_code 12 = .ok (.iconst 1, 1) := by decide +kernel
theorem dd_117_13 : decode method_7_code 13 = .ok (.ireturn, 1) := by decide +kernel
theorem dd_117_14 : decode method_7_code 14 = .ok (.astore 4, 2) := by decide +kernel
theorem dd_117_16 : decode method_7_code 16 = .ok (.iconst 2, 1) := by decide +kernel
theorem dd_117_17 : decode method_7_code 17 = .ok (.ireturn, 1) := by decide +kernel
theorem dd_117_18 : decode method_7_code 18 = .ok (.astore 4, 2) := by decide +kernel
theorem dd_117_20 : decode method_7_code 20 = .ok (.iconst 3, 1) := by decide +kernel
theorem dd_117_21 : decode method_7_code 21 = .ok (.ireturn, 1) := by decide +kernel
theorem dd_117_22 : decode method_7_code 22 = .ok (.iconst 0, 1) := by decide +kernel
theorem dd_117_23 : decode method_7_code 23 = .ok (.ireturn, 1) := by decide +kernel
theorem dd_118_0 : decode method_8_code 0 = .ok (.aload 4, 2) := by decide +kernel
theorem dd_118_2 : decode method_8_code 2 = .ok (.iconst 0, 1) := by decide +kernel
theorem dd_118_3 : decode method_8_code 3 = .ok (.aload_n 0, 1) := by decide +kernel
theorem dd_118_4 : decode method_8_code 4 = .ok (.iload_n 1, 1) := by decide +kernel
theorem dd_118_5 : decode method_8_code 5 = .ok (.iload_n 2, 1) := by decide +kernel
theorem dd_118_6 : decode method_8_code 6 = .ok (.iload_n 3, 1) := by decide +kernel
theorem dd_118_7 : decode method_8_code 7 = .ok (.invokevirtual 33, 3) := by decide +kernel
theorem dd_118_10 : decode method_8_code 10 = .ok (.ifCond .eq 7, 3) := by decide +kernel
theorem dd_118_13 : decode method_8_code 13 = .ok (.lconst 1, 1) := by decide +kernel
theorem dd_118_14 : decode method_8_code 14 = .ok (.goto 4, 3) := by decide +kernel
theorem dd_118_17 : decode method_8_code 17 = .ok (.lconst 0, 1) := by decide +kernel
theorem dd_118_18 : decode method_8_code 18 = .ok (.lastore, 1) := by decide +kernel
theorem dd_118_19 : decode method_8_code 19 = .ok (.goto 11, 3) := by decide +kernel
theorem dd_118_22 : decode method_8_code 22 = .ok (.astore 5, 2) := by decide +kernel
theorem dd_118_24 : decode method_8_code 24 = .ok (.iconst 1, 1) := by decide +kernel
theorem dd_118_25 : decode method_8_code 25 = .ok (.ireturn, 1) := by decide +kernel
theorem dd_118_26 : decode method_8_code 26 = .ok (.astore 5, 2) := by decide +kernel
theorem dd_118_28 : decode method_8_code 28 = .ok (.iconst 2, 1) := by decide +kernel
theorem dd_118_29 : decode method_8_code 29 = .ok (.ireturn, 1) := by decide +kernel
theorem dd_118_30 : decode method_8_code 30 = .ok (.iconst 0, 1) := by decide +kernel
theorem dd_118_31 : decode method_8_code 31 = .ok (.ireturn, 1) := by decide +kernel
theorem dd_119_0 : decode method_9_code 0 = .ok (.aload 4, 2) := by decide +kernel
theorem dd_119_2 : decode method_9_code 2 = .ok (.iconst 0, 1) := by decide +kernel
theorem dd_119_3 : decode method_9_code 3 = .ok (.aload_n 0, 1) := by decide +kernel
theorem dd_119_4 : decode method_9_code 4 = .ok (.iload_n 1, 1) := by decide +kernel
theorem dd_119_5 : decode method_9_code 5 = .ok (.iload_n 2, 1) := by decide +kernel
theorem dd_119_6 : decode method_9_code 6 = .ok (.iload_n 3, 1) := by decide +kernel
theorem dd_119_7 : decode method_9_code 7 = .ok (.invokevirtual 36, 3) := by decide +kernel
theorem dd_119_10 : decode method_9_code 10 = .ok (.ifCond .eq 7, 3) := by decide +kernel
theorem dd_119_13 : decode method_9_code 13 = .ok (.lconst 1, 1) := by decide +kernel
theorem dd_119_14 : decode method_9_code 14 = .ok (.goto 4, 3) := by decide +kernel
theorem dd_119_17 : decode method_9_code 17 = .ok (.lconst 0, 1) := by decide +kernel
theorem dd_119_18 : decode method_9_code 18 = .ok (.lastore, 1) := by decide +kernel
theorem dd_119_19 : decode method_9_code 19 = .ok (.goto 11, 3) := by decide +kernel
theorem dd_119_22 : decode method_9_code 22 = .ok (.astore 5, 2) := by decide +kernel
theorem dd_119_24 : decode method_9_code 24 = .ok (.iconst 1, 1) := by decide +kernel
theorem dd_119_25 : decode method_9_code 25 = .ok (.ireturn, 1) := by decide +kernel
theorem dd_119_26 : decode method_9_code 26 = .ok (.astore 5, 2) := by decide +kernel
theorem dd_119_28 : decode method_9_code 28 = .ok (.iconst 2, 1) := by decide +kernel
theorem dd_119_29 : decode method_9_code 29 = .ok (.ireturn, 1) := by decide +kernel
theorem dd_119_30 : decode method_9_code 30 = .ok (.iconst 0, 1) := by decide +kernel
theorem dd_119_31 : decode method_9_code 31 = .ok (.ireturn, 1) := by decide +kernel
theorem dd_120_0 : decode method_10_code 0 = .ok (.aload_n 3, 1) := by decide +kernel
theorem dd_120_1 : decode method_10_code 1 = .ok (.iconst 0, 1) := by decide +kernel
theorem dd_120_2 : decode method_10_code 2 = .ok (.aload_n 0, 1) := by decide +kernel
theorem dd_120_3 : decode method_10_code 3 = .ok (.iload_n 1, 1) := by decide +kernel
theorem dd_120_4 : decode method_10_code 4 = .ok (.iload_n 2, 1) := by decide +kernel
theorem dd_120_5 : decode method_10_code 5 = .ok (.invokevirtual 39, 3) := by decide +kernel
theorem dd_120_8 : decode method_10_code 8 = .ok (.i2l, 1) := by decide +kernel
theorem dd_120_9 : decode method_10_code 9 = .ok (.lastore, 1) := by decide +kernel
theorem dd_120_10 : decode method_10_code 10 = .ok (.goto 7, 3) := by decide +kernel
theorem dd_120_13 : decode method_10_code 13 = .ok (.astore 4, 2) := by decide +kernel
theorem dd_120_15 : decode method_10_code 15 = .ok (.iconst 1, 1) := by decide +kernel
theorem dd_120_16 : decode method_10_code 16 = .ok (.ireturn, 1) := by decide +kernel
theorem dd_120_17 : decode method_10_code 17 = .ok (.iconst 0, 1) := by decide +kernel
theorem dd_120_18 : decode method_10_code 18 = .ok (.ireturn, 1) := by decide +kernel
theorem dd_121_0 : decode method_11_code 0 = .ok (.aload_n 0, 1) := by decide +kernel
theorem dd_121_1 : decode method_11_code 1 = .ok (.iload_n 1, 1) := by decide +kernel
theorem dd_121_2 : decode method_11_code 2 = .ok (.invokevirtual 42, 3) := by decide +kernel
theorem dd_121_5 : decode method_11_code 5 = .ok (.goto 6, 3) := by decide +kernel
theorem dd_121_8 : decode method_11_code 8 = .ok (.astore_n 2, 1) := by decide +kernel
theorem dd_121_9 : decode method_11_code 9 = .ok (.iconst 1, 1) := by decide +kernel
theorem dd_121_10 : decode method_11_code 10 = .ok (.ireturn, 1) := by decide +kernel
theorem dd_121_11 : decode method_11_code 11 = .ok (.iconst 0, 1) := by decide +kernel
theorem dd_121_12 : decode method_11_code 12 = .ok (.ireturn, 1) := by decide +kernel
theorem dd_122_0 : decode method_12_code 0 = .ok (.aload_n 2, 1) := by decide +kernel
theorem dd_122_1 : decode method_12_code 1 = .ok (.iconst 0, 1) := by decide +kernel
theorem dd_122_2 : decode method_12_code 2 = .ok (.aload_n 0, 1) := by decide +kernel
theorem dd_122_3 : decode method_12_code 3 = .ok (.iload_n 1, 1) := by decide +kernel
theorem dd_122_4 : decode method_12_code 4 = .ok (.invokevirtual 46, 3) := by decide +kernel
theorem dd_122_7 : decode method_12_code 7 = .ok (.i2l, 1) := by decide +kernel
theorem dd_122_8 : decode method_12_code 8 = .ok (.lastore, 1) := by decide +kernel
theorem dd_122_9 : decode method_12_code 9 = .ok (.goto 6, 3) := by decide +kernel
theorem dd_122_12 : decode method_12_code 12 = .ok (.astore_n 3, 1) := by decide +kernel
theorem dd_122_13 : decode method_12_code 13 = .ok (.iconst 1, 1) := by decide +kernel
theorem dd_122_14 : decode method_12_code 14 = .ok (.ireturn, 1) := by decide +kernel
theorem dd_122_15 : decode method_12_code 15 = .ok (.iconst 0, 1) := by decide +kernel
theorem dd_122_16 : decode method_12_code 16 = .ok (.ireturn, 1) := by decide +kernel
theorem dd_123_0 : decode method_13_code 0 = .ok (.aload_n 2, 1) := by decide +kernel
theorem dd_123_1 : decode method_13_code 1 = .ok (.iconst 0, 1) := by decide +kernel
theorem dd_123_2 : decode method_13_code 2 = .ok (.aload_n 0, 1) := by decide +kernel
theorem dd_123_3 : decode method_13_code 3 = .ok (.iload_n 1, 1) := by decide +kernel
theorem dd_123_4 : decode method_13_code 4 = .ok (.invokevirtual 50, 3) := by decide +kernel
theorem dd_123_7 : decode method_13_code 7 = .ok (.i2l, 1) := by decide +kernel
theorem dd_123_8 : decode method_13_code 8 = .ok (.lastore, 1) := by decide +kernel
theorem dd_123_9 : decode method_13_code 9 = .ok (.goto 6, 3) := by decide +kernel
theorem dd_123_12 : decode method_13_code 12 = .ok (.astore_n 3, 1) := by decide +kernel
theorem dd_123_13 : decode method_13_code 13 = .ok (.iconst 1, 1) := by decide +kernel
theorem dd_123_14 : decode method_13_code 14 = .ok (.ireturn, 1) := by decide +kernel
theorem dd_123_15 : decode method_13_code 15 = .ok (.iconst 0, 1) := by decide +kernel
theorem dd_123_16 : decode method_13_code 16 = .ok (.ireturn, 1) := by decide +kernel
theorem dd_124_0 : decode method_14_code 0 = .ok (.aload_n 2, 1) := by decide +kernel
theorem dd_124_1 : decode method_14_code 1 = .ok (.iconst 0, 1) := by decide +kernel
theorem dd_124_2 : decode method_14_code 2 = .ok (.aload_n 0, 1) := by decide +kernel
theorem dd_124_3 : decode method_14_code 3 = .ok (.iload_n 1, 1) := by decide +kernel
theorem dd_124_4 : decode method_14_code 4 = .ok (.invokevirtual 53, 3) := by decide +kernel
theorem dd_124_7 : decode method_14_code 7 = .ok (.i2l, 1) := by decide +kernel
theorem dd_124_8 : decode method_14_code 8 = .ok (.lastore, 1) := by decide +kernel
theorem dd_124_9 : decode method_14_code 9 = .ok (.goto 9, 3) := by decide +kernel
theorem dd_124_12 : decode method_14_code 12 = .ok (.astore_n 3, 1) := by decide +kernel
theorem dd_124_13 : decode method_14_code 13 = .ok (.iconst 1, 1) := by decide +kernel
theorem dd_124_14 : decode method_14_code 14 = .ok (.ireturn, 1) := by decide +kernel
theorem dd_124_15 : decode method_14_code 15 = .ok (.astore_n 3, 1) := by decide +kernel
theorem dd_124_16 : decode method_14_code 16 = .ok (.iconst 2, 1) := by decide +kernel
theorem dd_124_17 : decode method_14_code 17 = .ok (.ireturn, 1) := by decide +kernel
theorem dd_124_18 : decode method_14_code 18 = .ok (.iconst 0, 1) := by decide +kernel
theorem dd_124_19 : decode method_14_code 19 = .ok (.ireturn, 1) := by decide +kernel
theorem dd_125_0 : decode method_15_code 0 = .ok (.aload 6, 2) := by decide +kernel
theorem dd_125_2 : decode method_15_code 2 = .ok (.iconst 0, 1) := by decide +kernel
theorem dd_125_3 : decode method_15_code 3 = .ok (.aload_n 0, 1) := by decide +kernel
theorem dd_125_4 : decode method_15_code 4 = .ok (.iload_n 1, 1) := by decide +kernel
theorem dd_125_5 : decode method_15_code 5 = .ok (.iload_n 2, 1) := by decide +kernel
theorem dd_125_6 : decode method_15_code 6 = .ok (.iload_n 3, 1) := by decide +kernel
theorem dd_125_7 : decode method_15_code 7 = .ok (.iload 4, 2) := by decide +kernel
theorem dd_125_9 : decode method_15_code 9 = .ok (.iload 5, 2) := by decide +kernel
theorem dd_125_11 : decode method_15_code 11 = .ok (.invokevirtual 58, 3) := by decide +kernel
theorem dd_125_14 : decode method_15_code 14 = .ok (.i2l, 1) := by decide +kernel
theorem dd_125_15 : decode method_15_code 15 = .ok (.lastore, 1) := by decide +kernel
theorem dd_125_16 : decode method_15_code 16 = .ok (.goto 11, 3) := by decide +kernel
theorem dd_125_19 : decode method_15_code 19 = .ok (.astore 7, 2) := by decide +kernel
theorem dd_125_21 : decode method_15_code 21 = .ok (.iconst 1, 1) := by decide +kernel
theorem dd_125_22 : decode method_15_code 22 = .ok (.ireturn, 1) := by decide +kernel
theorem dd_125_23 : decode method_15_code 23 = .ok (.astore 7, 2) := by decide +kernel
theorem dd_125_25 : decode method_15_code 25 = .ok (.iconst 2, 1) := by decide +kernel
theorem dd_125_26 : decode method_15_code 26 = .ok (.ireturn, 1) := by decide +kernel
theorem dd_125_27 : decode method_15_code 27 = .ok (.iconst 0, 1) := by decide +kernel
theorem dd_125_28 : decode method_15_code 28 = .ok (.ireturn, 1) := by decide +kernel
theorem dd_126_0 : decode method_16_code 0 = .ok (.aload_n 3, 1) := by decide +kernel
theorem dd_126_1 : decode method_16_code 1 = .ok (.iconst 0, 1) := by decide +kernel
theorem dd_126_2 : decode method_16_code 2 = .ok (.aload_n 0, 1) := by decide +kernel
theorem dd_126_3 : decode method_16_code 3 = .ok (.iload_n 1, 1) := by decide +kernel
theorem dd_126_4 : decode method_16_code 4 = .ok (.iload_n 2, 1) := by decide +kernel
theorem dd_126_5 : decode method_16_code 5 = .ok (.invokevirtual 62, 3) := by decide +kernel
theorem dd_126_8 : decode method_16_code 8 = .ok (.i2l, 1) := by decide +kernel
theorem dd_126_9 : decode method_16_code 9 = .ok (.lastore, 1) := by decide +kernel
theorem dd_126_10 : decode method_16_code 10 = .ok (.goto 7, 3) := by decide +kernel
theorem dd_126_13 : decode method_16_code 13 = .ok (.astore 4, 2) := by decide +kernel
theorem dd_126_15 : decode method_16_code 15 = .ok (.iconst 1, 1) := by decide +kernel
theorem dd_126_16 : decode method_16_code 16 = .ok (.ireturn, 1) := by decide +kernel
theorem dd_126_17 : decode method_16_code 17 = .ok (.iconst 0, 1) := by decide +kernel
theorem dd_126_18 : decode method_16_code 18 = .ok (.ireturn, 1) := by decide +kernel
theorem dd_127_0 : decode method_17_code 0 = .ok (.aload 4, 2) := by decide +kernel
theorem dd_127_2 : decode method_17_code 2 = .ok (.iconst 0, 1) := by decide +kernel
theorem dd_127_3 : decode method_17_code 3 = .ok (.aload_n 0, 1) := by decide +kernel
theorem dd_127_4 : decode method_17_code 4 = .ok (.iload_n 1, 1) := by decide +kernel
theorem dd_127_5 : decode method_17_code 5 = .ok (.iload_n 2, 1) := by decide +kernel
theorem dd_127_6 : decode method_17_code 6 = .ok (.iload_n 3, 1) := by decide +kernel
theorem dd_127_7 : decode method_17_code 7 = .ok (.invokevirtual 65, 3) := by decide +kernel
theorem dd_127_10 : decode method_17_code 10 = .ok (.i2l, 1) := by decide +kernel
theorem dd_127_11 : decode method_17_code 11 = .ok (.lastore, 1) := by decide +kernel
theorem dd_127_12 : decode method_17_code 12 = .ok (.goto 23, 3) := by decide +kernel
theorem dd_127_15 : decode method_17_code 15 = .ok (.astore 5, 2) := by decide +kernel
theorem dd_127_17 : decode method_17_code 17 = .ok (.iconst 1, 1) := by decide +kernel
theorem dd_127_18 : decode method_17_code 18 = .ok (.ireturn, 1) := by decide +kernel
theorem dd_127_19 : decode method_17_code 19 = .ok (.astore 5, 2) := by decide +kernel
theorem dd_127_21 : decode method_17_code 21 = .ok (.iconst 2, 1) := by decide +kernel
theorem dd_127_22 : decode method_17_code 22 = .ok (.ireturn, 1) := by decide +kernel
theorem dd_127_23 : decode method_17_code 23 = .ok (.astore 5, 2) := by decide +kernel
theorem dd_127_25 : decode method_17_code 25 = .ok (.iconst 3, 1) := by decide +kernel
theorem dd_127_26 : decode method_17_code 26 = .ok (.ireturn, 1) := by decide +kernel
theorem dd_127_27 : decode method_17_code 27 = .ok (.astore 5, 2) := by decide +kernel
theorem dd_127_29 : decode method_17_code 29 = .ok (.iconst 4, 1) := by decide +kernel
theorem dd_127_30 : decode method_17_code 30 = .ok (.ireturn, 1) := by decide +kernel
theorem dd_127_31 : decode method_17_code 31 = .ok (.astore 5, 2) := by decide +kernel
theorem dd_127_33 : decode method_17_code 33 = .ok (.iconst 5, 1) := by decide +kernel
theorem dd_127_34 : decode method_17_code 34 = .ok (.ireturn, 1) := by decide +kernel
theorem dd_127_35 : decode method_17_code 35 = .ok (.iconst 0, 1) := by decide +kernel
theorem dd_127_36 : decode method_17_code 36 = .ok (.ireturn, 1) := by decide +kernel
theorem dd_128_0 : decode method_18_code 0 = .ok (.aload_n 2, 1) := by decide +kernel
theorem dd_128_1 : decode method_18_code 1 = .ok (.iconst 0, 1) := by decide +kernel
theorem dd_128_2 : decode method_18_code 2 = .ok (.aload_n 0, 1) := by decide +kernel
theorem dd_128_3 : decode method_18_code 3 = .ok (.iload_n 1, 1) := by decide +kernel
theorem dd_128_4 : decode method_18_code 4 = .ok (.invokevirtual 71, 3) := by decide +kernel
theorem dd_128_7 : decode method_18_code 7 = .ok (.i2l, 1) := by decide +kernel
theorem dd_128_8 : decode method_18_code 8 = .ok (.lastore, 1) := by decide +kernel
theorem dd_128_9 : decode method_18_code 9 = .ok (.goto 6, 3) := by decide +kernel
theorem dd_128_12 : decode method_18_code 12 = .ok (.astore_n 3, 1) := by decide +kernel
theorem dd_128_13 : decode method_18_code 13 = .ok (.iconst 1, 1) := by decide +kernel
theorem dd_128_14 : decode method_18_code 14 = .ok (.ireturn, 1) := by decide +kernel
theorem dd_128_15 : decode method_18_code 15 = .ok (.iconst 0, 1) := by decide +kernel
theorem dd_128_16 : decode method_18_code 16 = .ok (.ireturn, 1) := by decide +kernel
theorem dd_129_0 : decode code 0 = .ok (.new 8, 3) := by decide +kernel
theorem dd_129_3 : decode code 3 = .ok (.dup, 1) := by decide +kernel
theorem dd_129_4 : decode code 4 = .ok (.aload_n 0, 1) := by decide +kernel
theorem dd_129_5 : decode code 5 = .ok (.iconst 0, 1) := by decide +kernel
theorem dd_129_6 : decode code 6 = .ok (.invokestatic 74, 3) := by decide +kernel
theorem dd_129_9 : decode code 9 = .ok (.aload_n 0, 1) := by decide +kernel
theorem dd_129_10 : decode code 10 = .ok (.iconst 1, 1) := by decide +kernel
theorem dd_129_11 : decode code 11 = .ok (.invokestatic 74, 3) := by decide +kernel
theorem dd_129_14 : decode code 14 = .ok (.invokespecial 80, 3) := by decide +kernel
theorem dd_129_17 : decode code 17 = .ok (.astore_n 1, 1) := by decide +kernel
theorem dd_129_18 : decode code 18 = .ok (.new 83, 3) := by decide +kernel
theorem dd_129_21 : decode code 21 = .ok (.dup, 1) := by decide +kernel
theorem dd_129_22 : decode code 22 = .ok (.aload_n 0, 1) := by decide +kernel
theorem dd_129_23 : decode code 23 = .ok (.iconst 0, 1) := by decide +kernel
theorem dd_129_24 : decode code 24 = .ok (.invokestatic 74, 3) := by decide +kernel
theorem dd_129_27 : decode code 27 = .ok (.aload_n 0, 1) := by decide +kernel
theorem dd_129_28 : decode code 28 = .ok (.iconst 1, 1) := by decide +kernel
theorem dd_129_29 : decode code 29 = .ok (.invokestatic 74, 3) := by decide +kernel
theorem dd_129_32 : decode code 32 = .ok (.invokespecial 85, 3) := by decide +kernel
theorem dd_129_35 : decode code 35 = .ok (.astore_n 2, 1) := by decide +kernel
theorem dd_129_36 : decode code 36 = .ok (.iconst 1, 1) := by decide +kernel
theorem dd_129_37 : decode code 37 = .ok (.newarray .long, 2) := by decide +kernel
theorem dd_129_39 : decode code 39 = .ok (.astore_n 3, 1) := by decide +kernel
theorem dd_129_40 : decode code 40 = .ok (.iconst 2, 1) := by decide +kernel
theorem dd_129_41 : decode code 41 = .ok (.istore 4, 2) := by decide +kernel
theorem dd_129_43 : decode code 43 = .ok (.iload 4, 2) := by decide +kernel
theorem dd_129_45 : decode code 45 = .ok (.aload_n 0, 1) := by decide +kernel
theorem dd_129_46 : decode code 46 = .ok (.arraylength, 1) := by decide +kernel
theorem dd_129_47 : decode code 47 = .ok (.bipush 6, 2) := by decide +kernel
theorem dd_129_49 : decode code 49 = .ok (.isub, 1) := by decide +kernel
theorem dd_129_50 : decode code 50 = .ok (.if_icmp .gt 1285, 3) := by decide +kernel
theorem dd_129_53 : decode code 53 = .ok (.aload_n 0, 1) := by decide +kernel
theorem dd_129_54 : decode code 54 = .ok (.iload 4, 2) := by decide +kernel
theorem dd_129_56 : decode code 56 = .ok (.iaload, 1) := by decide +kernel
theorem dd_129_57 : decode code 57 = .ok (.bipush 31, 2) := by decide +kernel
theorem dd_129_59 : decode code 59 = .ok (.iand, 1) := by decide +kernel
theorem dd_129_60 : decode code 60 = .ok (.tableswitch 1269 0 17 #[88, 148, 216, 284, 387, 447, 550, 653, 721, 757, 813, 836, 892, 948, 1052, 1120, 1133, 1213], 88) := by decide +kernel
theorem dd_129_148 : decode code 148 = .ok (.aload_n 1, 1) := by decide +kernel
theorem dd_129_149 : decode code 149 = .ok (.aload_n 0, 1) := by decide +kernel
theorem dd_129_150 : decode code 150 = .ok (.iload 4, 2) := by decide +kernel
theorem dd_129_152 : decode code 152 = .ok (.iconst 1, 1) := by decide +kernel
theorem dd_129_153 : decode code 153 = .ok (.iadd, 1) := by decide +kernel
theorem dd_129_154 : decode code 154 = .ok (.iaload, 1) := by decide +kernel
theorem dd_129_155 : decode code 155 = .ok (.aload_n 0, 1) := by decide +kernel
theorem dd_129_156 : decode code 156 = .ok (.iload 4, 2) := by decide +kernel
theorem dd_129_158 : decode code 158 = .ok (.iconst 2, 1) := by decide +kernel
theorem dd_129_159 : decode code 159 = .ok (.iadd, 1) := by decide +kernel
theorem dd_129_160 : decode code 160 = .ok (.iaload, 1) := by decide +kernel
theorem dd_129_161 : decode code 161 = .ok (.aload_n 0, 1) := by decide +kernel
theorem dd_129_162 : decode code 162 = .ok (.iload 4, 2) := by decide +kernel
theorem dd_129_164 : decode code 164 = .ok (.iconst 3, 1) := by decide +kernel
theorem dd_129_165 : decode code 165 = .ok (.iadd, 1) := by decide +kernel
theorem dd_129_166 : decode code 166 = .ok (.iaload, 1) := by decide +kernel
theorem dd_129_167 : decode code 167 = .ok (.invokestatic 86, 3) := by decide +kernel
theorem dd_129_170 : decode code 170 = .ok (.istore 5, 2) := by decide +kernel
theorem dd_129_172 : decode code 172 = .ok (.aload_n 2, 1) := by decide +kernel
theorem dd_129_173 : decode code 173 = .ok (.aload_n 0, 1) := by decide +kernel
theorem dd_129_174 : decode code 174 = .ok (.iload 4, 2) := by decide +kernel
theorem dd_129_176 : decode code 176 = .ok (.iconst 1, 1) := by decide +kernel
theorem dd_129_177 : decode code 177 = .ok (.iadd, 1) := by decide +kernel
theorem dd_129_178 : decode code 178 = .ok (.iaload, 1) := by decide +kernel
theorem dd_129_179 : decode code 179 = .ok (.aload_n 0, 1) := by decide +kernel
theorem dd_129_180 : decode code 180 = .ok (.iload 4, 2) := by decide +kernel
theorem dd_129_182 : decode code 182 = .ok (.iconst 2, 1) := by decide +kernel
theorem dd_129_183 : decode code 183 = .ok (.iadd, 1) := by decide +kernel
theorem dd_129_184 : decode code 184 = .ok (.iaload, 1) := by decide +kernel
theorem dd_129_185 : decode code 185 = .ok (.aload_n 0, 1) := by decide +kernel
theorem dd_129_186 : decode code 186 = .ok (.iload 4, 2) := by decide +kernel
theorem dd_129_188 : decode code 188 = .ok (.iconst 3, 1) := by decide +kernel
theorem dd_129_189 : decode code 189 = .ok (.iadd, 1) := by decide +kernel
theorem dd_129_190 : decode code 190 = .ok (.iaload, 1) := by decide +kernel
theorem dd_129_191 : decode code 191 = .ok (.invokevirtual 89, 3) := by decide +kernel
theorem dd_129_194 : decode code 194 = .ok (.aload_n 2, 1) := by decide +kernel
theorem dd_129_195 : decode code 195 = .ok (.invokevirtual 90, 3) := by decide +kernel
theorem dd_129_198 : decode code 198 = .ok (.iload 5, 2) := by decide +kernel
theorem dd_129_200 : decode code 200 = .ok (.if_icmp .eq 5, 3) := by decide +kernel
theorem dd_129_203 : decode code 203 = .ok (.iconst 0, 1) := by decide +kernel
theorem dd_129_204 : decode code 204 = .ok (.ireturn, 1) := by decide +kernel
theorem dd_129_205 : decode code 205 = .ok (.goto 1124, 3) := by decide +kernel
theorem dd_129_208 : decode code 208 = .ok (.aload_n 1, 1) := by decide +kernel
theorem dd_129_209 : decode code 209 = .ok (.aload_n 0, 1) := by decide +kernel
theorem dd_129_210 : decode code 210 = .ok (.iload 4, 2) := by decide +kernel
theorem dd_129_212 : decode code 212 = .ok (.iconst 1, 1) := by decide +kernel
theorem dd_129_213 : decode code 213 = .ok (.iadd, 1) := by decide +kernel
theorem dd_129_214 : decode code 214 = .ok (.iaload, 1) := by decide +kernel
theorem dd_129_215 : decode code 215 = .ok (.aload_n 0, 1) := by decide +kernel
theorem dd_129_216 : decode code 216 = .ok (.iload 4, 2) := by decide +kernel
theorem dd_129_218 : decode code 218 = .ok (.iconst 2, 1) := by decide +kernel
theorem dd_129_219 : decode code 219 = .ok (.iadd, 1) := by decide +kernel
theorem dd_129_220 : decode code 220 = .ok (.iaload, 1) := by decide +kernel
theorem dd_129_221 : decode code 221 = .ok (.aload_n 3, 1) := by decide +kernel
theorem dd_129_222 : decode code 222 = .ok (.invokestatic 94, 3) := by decide +kernel
theorem dd_129_225 : decode code 225 = .ok (.istore 5, 2) := by decide +kernel
theorem dd_129_227 : decode code 227 = .ok (.aload_n 2, 1) := by decide +kernel
theorem dd_129_228 : decode code 228 = .ok (.aload_n 0, 1) := by decide +kernel
theorem dd_129_229 : decode code 229 = .ok (.iload 4, 2) := by decide +kernel
theorem dd_129_231 : decode code 231 = .ok (.iconst 1, 1) := by decide +kernel
theorem dd_129_232 : decode code 232 = .ok (.iadd, 1) := by decide +kernel
theorem dd_129_233 : decode code 233 = .ok (.iaload, 1) := by decide +kernel
theorem dd_129_234 : decode code 234 = .ok (.aload_n 0, 1) := by decide +kernel
theorem dd_129_235 : decode code 235 = .ok (.iload 4, 2) := by decide +kernel
theorem dd_129_237 : decode code 237 = .ok (.iconst 2, 1) := by decide +kernel
theorem dd_129_238 : decode code 238 = .ok (.iadd, 1) := by decide +kernel
theorem dd_129_239 : decode code 239 = .ok (.iaload, 1) := by decide +kernel
theorem dd_129_240 : decode code 240 = .ok (.invokevirtual 97, 3) := by decide +kernel
theorem dd_129_243 : decode code 243 = .ok (.istore 6, 2) := by decide +kernel
theorem dd_129_245 : decode code 245 = .ok (.aload_n 2, 1) := by decide +kernel
theorem dd_129_246 : decode code 246 = .ok (.invokevirtual 90, 3) := by decide +kernel
theorem dd_129_249 : decode code 249 = .ok (.iload 5, 2) := by decide +kernel
theorem dd_129_251 : decode code 251 = .ok (.if_icmp .eq 5, 3) := by decide +kernel
theorem dd_129_254 : decode code 254 = .ok (.iconst 0, 1) := by decide +kernel
theorem dd_129_255 : decode code 255 = .ok (.ireturn, 1) := by decide +kernel
theorem dd_129_256 : decode code 256 = .ok (.iload 5, 2) := by decide +kernel
theorem dd_129_258 : decode code 258 = .ok (.ifCond .ne 15, 3) := by decide +kernel
theorem dd_129_261 : decode code 261 = .ok (.aload_n 3, 1) := by decide +kernel
theorem dd_129_262 : decode code 262 = .ok (.iconst 0, 1) := by decide +kernel
theorem dd_129_263 : decode code 263 = .ok (.laload, 1) := by decide +kernel
theorem dd_129_264 : decode code 264 = .ok (.iload 6, 2) := by decide +kernel
theorem dd_129_266 : decode code 266 = .ok (.i2l, 1) := by decide +kernel
theorem dd_129_267 : decode code 267 = .ok (.lcmp, 1) := by decide +kernel
theorem dd_129_268 : decode code 268 = .ok (.ifCond .eq 5, 3) := by decide +kernel
theorem dd_129_271 : decode code 271 = .ok (.iconst 0, 1) := by decide +kernel
theorem dd_129_272 : decode code 272 = .ok (.ireturn, 1) := by decide +kernel
theorem dd_129_273 : decode code 273 = .ok (.goto 1056, 3) := by decide +kernel
theorem dd_129_276 : decode code 276 = .ok (.aload_n 1, 1) := by decide +kernel
theorem dd_129_277 : decode code 277 = .ok (.aload_n 0, 1) := by decide +kernel
theorem dd_129_278 : decode code 278 = .ok (.iload 4, 2) := by decide +kernel
theorem dd_129_280 : decode code 280 = .ok (.iconst 1, 1) := by decide +kernel
theorem dd_129_281 : decode code 281 = .ok (.iadd, 1) := by decide +kernel
theorem dd_129_282 : decode code 282 = .ok (.iaload, 1) := by decide +kernel
theorem dd_129_283 : decode code 283 = .ok (.aload_n 0, 1) := by decide +kernel
theorem dd_129_284 : decode code 284 = .ok (.iload 4, 2) := by decide +kernel
theorem dd_129_286 : decode code 286 = .ok (.iconst 2, 1) := by decide +kernel
theorem dd_129_287 : decode code 287 = .ok (.iadd, 1) := by decide +kernel
theorem dd_129_288 : decode code 288 = .ok (.iaload, 1) := by decide +kernel
theorem dd_129_289 : decode code 289 = .ok (.aload_n 3, 1) := by decide +kernel
theorem dd_129_290 : decode code 290 = .ok (.invokestatic 98, 3) := by decide +kernel
theorem dd_129_293 : decode code 293 = .ok (.istore 5, 2) := by decide +kernel
theorem dd_129_295 : decode code 295 = .ok (.aload_n 2, 1) := by decide +kernel
theorem dd_129_296 : decode code 296 = .ok (.aload_n 0, 1) := by decide +kernel
theorem dd_129_297 : decode code 297 = .ok (.iload 4, 2) := by decide +kernel
theorem dd_129_299 : decode code 299 = .ok (.iconst 1, 1) := by decide +kernel
theorem dd_129_300 : decode code 300 = .ok (.iadd, 1) := by decide +kernel
theorem dd_129_301 : decode code 301 = .ok (.iaload, 1) := by decide +kernel
theorem dd_129_302 : decode code 302 = .ok (.aload_n 0, 1) := by decide +kernel
theorem dd_129_303 : decode code 303 = .ok (.iload 4, 2) := by decide +kernel
theorem dd_129_305 : decode code 305 = .ok (.iconst 2, 1) := by decide +kernel
theorem dd_129_306 : decode code 306 = .ok (.iadd, 1) := by decide +kernel
theorem dd_129_307 : decode code 307 = .ok (.iaload, 1) := by decide +kernel
theorem dd_129_308 : decode code 308 = .ok (.invokevirtual 100, 3) := by decide +kernel
theorem dd_129_311 : decode code 311 = .ok (.istore 6, 2) := by decide +kernel
theorem dd_129_313 : decode code 313 = .ok (.aload_n 2, 1) := by decide +kernel
theorem dd_129_314 : decode code 314 = .ok (.invokevirtual 90, 3) := by decide +kernel
theorem dd_129_317 : decode code 317 = .ok (.iload 5, 2) := by decide +kernel
theorem dd_129_319 : decode code 319 = .ok (.if_icmp .eq 5, 3) := by decide +kernel
theorem dd_129_322 : decode code 322 = .ok (.iconst 0, 1) := by decide +kernel
theorem dd_129_323 : decode code 323 = .ok (.ireturn, 1) := by decide +kernel
theorem dd_129_324 : decode code 324 = .ok (.iload 5, 2) := by decide +kernel
theorem dd_129_326 : decode code 326 = .ok (.ifCond .ne 15, 3) := by decide +kernel
theorem dd_129_329 : decode code 329 = .ok (.aload_n 3, 1) := by decide +kernel
theorem dd_129_330 : decode code 330 = .ok (.iconst 0, 1) := by decide +kernel
theorem dd_129_331 : decode code 331 = .ok (.laload, 1) := by decide +kernel
theorem dd_129_332 : decode code 332 = .ok (.iload 6, 2) := by decide +kernel
theorem dd_129_334 : decode code 334 = .ok (.i2l, 1) := by decide +kernel
theorem dd_129_335 : decode code 335 = .ok (.lcmp, 1) := by decide +kernel
theorem dd_129_336 : decode code 336 = .ok (.ifCond .eq 5, 3) := by decide +kernel
theorem dd_129_339 : decode code 339 = .ok (.iconst 0, 1) := by decide +kernel
theorem dd_129_340 : decode code 340 = .ok (.ireturn, 1) := by decide +kernel
theorem dd_129_341 : decode code 341 = .ok (.goto 988, 3) := by decide +kernel
theorem dd_129_344 : decode code 344 = .ok (.aload_n 1, 1) := by decide +kernel
theorem dd_129_345 : decode code 345 = .ok (.aload_n 0, 1) := by decide +kernel
theorem dd_129_346 : decode code 346 = .ok (.iload 4, 2) := by decide +kernel
theorem dd_129_348 : decode code 348 = .ok (.iconst 1, 1) := by decide +kernel
theorem dd_129_349 : decode code 349 = .ok (.iadd, 1) := by decide +kernel
theorem dd_129_350 : decode code 350 = .ok (.iaload, 1) := by decide +kernel
theorem dd_129_351 : decode code 351 = .ok (.aload_n 0, 1) := by decide +kernel
theorem dd_129_352 : decode code 352 = .ok (.iload 4, 2) := by decide +kernel
theorem dd_129_354 : decode code 354 = .ok (.iconst 2, 1) := by decide +kernel
theorem dd_129_355 : decode code 355 = .ok (.iadd, 1) := by decide +kernel
theorem dd_129_356 : decode code 356 = .ok (.iaload, 1) := by decide +kernel
theorem dd_129_357 : decode code 357 = .ok (.aload_n 0, 1) := by decide +kernel
theorem dd_129_358 : decode code 358 = .ok (.iload 4, 2) := by decide +kernel
theorem dd_129_360 : decode code 360 = .ok (.iconst 3, 1) := by decide +kernel
theorem dd_129_361 : decode code 361 = .ok (.iadd, 1) := by decide +kernel
theorem dd_129_362 : decode code 362 = .ok (.iaload, 1) := by decide +kernel
theorem dd_129_363 : decode code 363 = .ok (.ifCond .eq 7, 3) := by decide +kernel
theorem dd_129_366 : decode code 366 = .ok (.iconst 1, 1) := by decide +kernel
theorem dd_129_367 : decode code 367 = .ok (.goto 4, 3) := by decide +kernel
theorem dd_129_370 : decode code 370 = .ok (.iconst 0, 1) := by decide +kernel
theorem dd_129_371 : decode code 371 = .ok (.aload_n 3, 1) := by decide +kernel
theorem dd_129_372 : decode code 372 = .ok (.invokestatic 101, 3) := by decide +kernel
theorem dd_129_375 : decode code 375 = .ok (.istore 5, 2) := by decide +kernel
theorem dd_129_377 : decode code 377 = .ok (.aload_n 2, 1) := by decide +kernel
theorem dd_129_378 : decode code 378 = .ok (.aload_n 0, 1) := by decide +kernel
theorem dd_129_379 : decode code 379 = .ok (.iload 4, 2) := by decide +kernel
theorem dd_129_381 : decode code 381 = .ok (.iconst 1, 1) := by decide +kernel
theorem dd_129_382 : decode code 382 = .ok (.iadd, 1) := by decide +kernel
theorem dd_129_383 : decode code 383 = .ok (.iaload, 1) := by decide +kernel
theorem dd_129_384 : decode code 384 = .ok (.aload_n 0, 1) := by decide +kernel
theorem dd_129_385 : decode code 385 = .ok (.iload 4, 2) := by decide +kernel
theorem dd_129_387 : decode code 387 = .ok (.iconst 2, 1) := by decide +kernel
theorem dd_129_388 : decode code 388 = .ok (.iadd, 1) := by decide +kernel
theorem dd_129_389 : decode code 389 = .ok (.iaload, 1) := by decide +kernel
theorem dd_129_390 : decode code 390 = .ok (.aload_n 0, 1) := by decide +kernel
theorem dd_129_391 : decode code 391 = .ok (.iload 4, 2) := by decide +kernel
theorem dd_129_393 : decode code 393 = .ok (.iconst 3, 1) := by decide +kernel
theorem dd_129_394 : decode code 394 = .ok (.iadd, 1) := by decide +kernel
theorem dd_129_395 : decode code 395 = .ok (.iaload, 1) := by decide +kernel
theorem dd_129_396 : decode code 396 = .ok (.ifCond .eq 7, 3) := by decide +kernel
theorem dd_129_399 : decode code 399 = .ok (.iconst 1, 1) := by decide +kernel
theorem dd_129_400 : decode code 400 = .ok (.goto 4, 3) := by decide +kernel
theorem dd_129_403 : decode code 403 = .ok (.iconst 0, 1) := by decide +kernel
theorem dd_129_404 : decode code 404 = .ok (.invokevirtual 104, 3) := by decide +kernel
theorem dd_129_407 : decode code 407 = .ok (.istore 6, 2) := by decide +kernel
theorem dd_129_409 : decode code 409 = .ok (.aload_n 2, 1) := by decide +kernel
theorem dd_129_410 : decode code 410 = .ok (.invokevirtual 90, 3) := by decide +kernel
theorem dd_129_413 : decode code 413 = .ok (.iload 5, 2) := by decide +kernel
theorem dd_129_415 : decode code 415 = .ok (.if_icmp .eq 5, 3) := by decide +kernel
theorem dd_129_418 : decode code 418 = .ok (.iconst 0, 1) := by decide +kernel
theorem dd_129_419 : decode code 419 = .ok (.ireturn, 1) := by decide +kernel
theorem dd_129_420 : decode code 420 = .ok (.iload 5, 2) := by decide +kernel
theorem dd_129_422 : decode code 422 = .ok (.ifCond .ne 22, 3) := by decide +kernel
theorem dd_129_425 : decode code 425 = .ok (.aload_n 3, 1) := by decide +kernel
theorem dd_129_426 : decode code 426 = .ok (.iconst 0, 1) := by decide +kernel
theorem dd_129_427 : decode code 427 = .ok (.laload, 1) := by decide +kernel
theorem dd_129_428 : decode code 428 = .ok (.iload 6, 2) := by decide +kernel
theorem dd_129_430 : decode code 430 = .ok (.ifCond .eq 7, 3) := by decide +kernel
theorem dd_129_433 : decode code 433 = .ok (.lconst 1, 1) := by decide +kernel
theorem dd_129_434 : decode code 434 = .ok (.goto 4, 3) := by decide +kernel
theorem dd_129_437 : decode code 437 = .ok (.lconst 0, 1) := by decide +kernel
theorem dd_129_438 : decode code 438 = .ok (.lcmp, 1) := by decide +kernel
theorem dd_129_439 : decode code 439 = .ok (.ifCond .eq 5, 3) := by decide +kernel
theorem dd_129_442 : decode code 442 = .ok (.iconst 0, 1) := by decide +kernel
theorem dd_129_443 : decode code 443 = .ok (.ireturn, 1) := by decide +kernel
theorem dd_129_444 : decode code 444 = .ok (.goto 885, 3) := by decide +kernel
theorem dd_129_447 : decode code 447 = .ok (.aload_n 1, 1) := by decide +kernel
theorem dd_129_448 : decode code 448 = .ok (.aload_n 0, 1) := by decide +kernel
theorem dd_129_449 : decode code 449 = .ok (.iload 4, 2) := by decide +kernel
theorem dd_129_451 : decode code 451 = .ok (.iconst 1, 1) := by decide +kernel
theorem dd_129_452 : decode code 452 = .ok (.iadd, 1) := by decide +kernel
theorem dd_129_453 : decode code 453 = .ok (.iaload, 1) := by decide +kernel
theorem dd_129_454 : decode code 454 = .ok (.aload_n 0, 1) := by decide +kernel
theorem dd_129_455 : decode code 455 = .ok (.iload 4, 2) := by decide +kernel
theorem dd_129_457 : decode code 457 = .ok (.iconst 2, 1) := by decide +kernel
theorem dd_129_458 : decode code 458 = .ok (.iadd, 1) := by decide +kernel
theorem dd_129_459 : decode code 459 = .ok (.iaload, 1) := by decide +kernel
theorem dd_129_460 : decode code 460 = .ok (.aload_n 0, 1) := by decide +kernel
theorem dd_129_461 : decode code 461 = .ok (.iload 4, 2) := by decide +kernel
theorem dd_129_463 : decode code 463 = .ok (.iconst 3, 1) := by decide +kernel
theorem dd_129_464 : decode code 464 = .ok (.iadd, 1) := by decide +kernel
theorem dd_129_465 : decode code 465 = .ok (.iaload, 1) := by decide +kernel
theorem dd_129_466 : decode code 466 = .ok (.invokestatic 105, 3) := by decide +kernel
theorem dd_129_469 : decode code 469 = .ok (.istore 5, 2) := by decide +kernel
theorem dd_129_471 : decode code 471 = .ok (.aload_n 2, 1) := by decide +kernel
theorem dd_129_472 : decode code 472 = .ok (.aload_n 0, 1) := by decide +kernel
theorem dd_129_473 : decode code 473 = .ok (.iload 4, 2) := by decide +kernel
theorem dd_129_475 : decode code 475 = .ok (.iconst 1, 1) := by decide +kernel
theorem dd_129_476 : decode code 476 = .ok (.iadd, 1) := by decide +kernel
theorem dd_129_477 : decode code 477 = .ok (.iaload, 1) := by decide +kernel
theorem dd_129_478 : decode code 478 = .ok (.aload_n 0, 1) := by decide +kernel
theorem dd_129_479 : decode code 479 = .ok (.iload 4, 2) := by decide +kernel
theorem dd_129_481 : decode code 481 = .ok (.iconst 2, 1) := by decide +kernel
theorem dd_129_482 : decode code 482 = .ok (.iadd, 1) := by decide +kernel
theorem dd_129_483 : decode code 483 = .ok (.iaload, 1) := by decide +kernel
theorem dd_129_484 : decode code 484 = .ok (.aload_n 0, 1) := by decide +kernel
theorem dd_129_485 : decode code 485 = .ok (.iload 4, 2) := by decide +kernel
theorem dd_129_487 : decode code 487 = .ok (.iconst 3, 1) := by decide +kernel
theorem dd_129_488 : decode code 488 = .ok (.iadd, 1) := by decide +kernel
theorem dd_129_489 : decode code 489 = .ok (.iaload, 1) := by decide +kernel
theorem dd_129_490 : decode code 490 = .ok (.invokevirtual 107, 3) := by decide +kernel
theorem dd_129_493 : decode code 493 = .ok (.aload_n 2, 1) := by decide +kernel
theorem dd_129_494 : decode code 494 = .ok (.invokevirtual 90, 3) := by decide +kernel
theorem dd_129_497 : decode code 497 = .ok (.iload 5, 2) := by decide +kernel
theorem dd_129_499 : decode code 499 = .ok (.if_icmp .eq 5, 3) := by decide +kernel
theorem dd_129_502 : decode code 502 = .ok (.iconst 0, 1) := by decide +kernel
theorem dd_129_503 : decode code 503 = .ok (.ireturn, 1) := by decide +kernel
theorem dd_129_504 : decode code 504 = .ok (.goto 825, 3) := by decide +kernel
theorem dd_129_507 : decode code 507 = .ok (.aload_n 1, 1) := by decide +kernel
theorem dd_129_508 : decode code 508 = .ok (.aload_n 0, 1) := by decide +kernel
theorem dd_129_509 : decode code 509 = .ok (.iload 4, 2) := by decide +kernel
theorem dd_129_511 : decode code 511 = .ok (.iconst 1, 1) := by decide +kernel
theorem dd_129_512 : decode code 512 = .ok (.iadd, 1) := by decide +kernel
theorem dd_129_513 : decode code 513 = .ok (.iaload, 1) := by decide +kernel
theorem dd_129_514 : decode code 514 = .ok (.aload_n 0, 1) := by decide +kernel
theorem dd_129_515 : decode code 515 = .ok (.iload 4, 2) := by decide +kernel
theorem dd_129_517 : decode code 517 = .ok (.iconst 2, 1) := by decide +kernel
theorem dd_129_518 : decode code 518 = .ok (.iadd, 1) := by decide +kernel
theorem dd_129_519 : decode code 519 = .ok (.iaload, 1) := by decide +kernel
theorem dd_129_520 : decode code 520 = .ok (.aload_n 0, 1) := by decide +kernel
theorem dd_129_521 : decode code 521 = .ok (.iload 4, 2) := by decide +kernel
theorem dd_129_523 : decode code 523 = .ok (.iconst 3, 1) := by decide +kernel
theorem dd_129_524 : decode code 524 = .ok (.iadd, 1) := by decide +kernel
theorem dd_129_525 : decode code 525 = .ok (.iaload, 1) := by decide +kernel
theorem dd_129_526 : decode code 526 = .ok (.ifCond .eq 7, 3) := by decide +kernel
theorem dd_129_529 : decode code 529 = .ok (.iconst 1, 1) := by decide +kernel
theorem dd_129_530 : decode code 530 = .ok (.goto 4, 3) := by decide +kernel
theorem dd_129_533 : decode code 533 = .ok (.iconst 0, 1) := by decide +kernel
theorem dd_129_534 : decode code 534 = .ok (.aload_n 3, 1) := by decide +kernel
theorem dd_129_535 : decode code 535 = .ok (.invokestatic 108, 3) := by decide +kernel
theorem dd_129_538 : decode code 538 = .ok (.istore 5, 2) := by decide +kernel
theorem dd_129_540 : decode code 540 = .ok (.aload_n 2, 1) := by decide +kernel
theorem dd_129_541 : decode code 541 = .ok (.aload_n 0, 1) := by decide +kernel
theorem dd_129_542 : decode code 542 = .ok (.iload 4, 2) := by decide +kernel
theorem dd_129_544 : decode code 544 = .ok (.iconst 1, 1) := by decide +kernel
theorem dd_129_545 : decode code 545 = .ok (.iadd, 1) := by decide +kernel
theorem dd_129_546 : decode code 546 = .ok (.iaload, 1) := by decide +kernel
theorem dd_129_547 : decode code 547 = .ok (.aload_n 0, 1) := by decide +kernel
theorem dd_129_548 : decode code 548 = .ok (.iload 4, 2) := by decide +kernel
theorem dd_129_550 : decode code 550 = .ok (.iconst 2, 1) := by decide +kernel
theorem dd_129_551 : decode code 551 = .ok (.iadd, 1) := by decide +kernel
theorem dd_129_552 : decode code 552 = .ok (.iaload, 1) := by decide +kernel
theorem dd_129_553 : decode code 553 = .ok (.aload_n 0, 1) := by decide +kernel
theorem dd_129_554 : decode code 554 = .ok (.iload 4, 2) := by decide +kernel
theorem dd_129_556 : decode code 556 = .ok (.iconst 3, 1) := by decide +kernel
theorem dd_129_557 : decode code 557 = .ok (.iadd, 1) := by decide +kernel
theorem dd_129_558 : decode code 558 = .ok (.iaload, 1) := by decide +kernel
theorem dd_129_559 : decode code 559 = .ok (.ifCond .eq 7, 3) := by decide +kernel
theorem dd_129_562 : decode code 562 = .ok (.iconst 1, 1) := by decide +kernel
theorem dd_129_563 : decode code 563 = .ok (.goto 4, 3) := by decide +kernel
theorem dd_129_566 : decode code 566 = .ok (.iconst 0, 1) := by decide +kernel
theorem dd_129_567 : decode code 567 = .ok (.invokevirtual 110, 3) := by decide +kernel
theorem dd_129_570 : decode code 570 = .ok (.istore 6, 2) := by decide +kernel
theorem dd_129_572 : decode code 572 = .ok (.aload_n 2, 1) := by decide +kernel
theorem dd_129_573 : decode code 573 = .ok (.invokevirtual 90, 3) := by decide +kernel
theorem dd_129_576 : decode code 576 = .ok (.iload 5, 2) := by decide +kernel
theorem dd_129_578 : decode code 578 = .ok (.if_icmp .eq 5, 3) := by decide +kernel
theorem dd_129_581 : decode code 581 = .ok (.iconst 0, 1) := by decide +kernel
theorem dd_129_582 : decode code 582 = .ok (.ireturn, 1) := by decide +kernel
theorem dd_129_583 : decode code 583 = .ok (.iload 5, 2) := by decide +kernel
theorem dd_129_585 : decode code 585 = .ok (.ifCond .ne 22, 3) := by decide +kernel
theorem dd_129_588 : decode code 588 = .ok (.aload_n 3, 1) := by decide +kernel
theorem dd_129_589 : decode code 589 = .ok (.iconst 0, 1) := by decide +kernel
theorem dd_129_590 : decode code 590 = .ok (.laload, 1) := by decide +kernel
theorem dd_129_591 : decode code 591 = .ok (.iload 6, 2) := by decide +kernel
theorem dd_129_593 : decode code 593 = .ok (.ifCond .eq 7, 3) := by decide +kernel
theorem dd_129_596 : decode code 596 = .ok (.lconst 1, 1) := by decide +kernel
theorem dd_129_597 : decode code 597 = .ok (.goto 4, 3) := by decide +kernel
theorem dd_129_600 : decode code 600 = .ok (.lconst 0, 1) := by decide +kernel
theorem dd_129_601 : decode code 601 = .ok (.lcmp, 1) := by decide +kernel
theorem dd_129_602 : decode code 602 = .ok (.ifCond .eq 5, 3) := by decide +kernel
theorem dd_129_605 : decode code 605 = .ok (.iconst 0, 1) := by decide +kernel
theorem dd_129_606 : decode code 606 = .ok (.ireturn, 1) := by decide +kernel
theorem dd_129_607 : decode code 607 = .ok (.goto 722, 3) := by decide +kernel
theorem dd_129_610 : decode code 610 = .ok (.aload_n 1, 1) := by decide +kernel
theorem dd_129_611 : decode code 611 = .ok (.aload_n 0, 1) := by decide +kernel
theorem dd_129_612 : decode code 612 = .ok (.iload 4, 2) := by decide +kernel
theorem dd_129_614 : decode code 614 = .ok (.iconst 1, 1) := by decide +kernel
theorem dd_129_615 : decode code 615 = .ok (.iadd, 1) := by decide +kernel
theorem dd_129_616 : decode code 616 = .ok (.iaload, 1) := by decide +kernel
theorem dd_129_617 : decode code 617 = .ok (.aload_n 0, 1) := by decide +kernel
theorem dd_129_618 : decode code 618 = .ok (.iload 4, 2) := by decide +kernel
theorem dd_129_620 : decode code 620 = .ok (.iconst 2, 1) := by decide +kernel
theorem dd_129_621 : decode code 621 = .ok (.iadd, 1) := by decide +kernel
theorem dd_129_622 : decode code 622 = .ok (.iaload, 1) := by decide +kernel
theorem dd_129_623 : decode code 623 = .ok (.aload_n 0, 1) := by decide +kernel
theorem dd_129_624 : decode code 624 = .ok (.iload 4, 2) := by decide +kernel
theorem dd_129_626 : decode code 626 = .ok (.iconst 3, 1) := by decide +kernel
theorem dd_129_627 : decode code 627 = .ok (.iadd, 1) := by decide +kernel
theorem dd_129_628 : decode code 628 = .ok (.iaload, 1) := by decide +kernel
theorem dd_129_629 : decode code 629 = .ok (.ifCond .eq 7, 3) := by decide +kernel
theorem dd_129_632 : decode code 632 = .ok (.iconst 1, 1) := by decide +kernel
theorem dd_129_633 : decode code 633 = .ok (.goto 4, 3) := by decide +kernel
theorem dd_129_636 : decode code 636 = .ok (.iconst 0, 1) := by decide +kernel
theorem dd_129_637 : decode code 637 = .ok (.aload_n 3, 1) := by decide +kernel
theorem dd_129_638 : decode code 638 = .ok (.invokestatic 111, 3) := by decide +kernel
theorem dd_129_641 : decode code 641 = .ok (.istore 5, 2) := by decide +kernel
theorem dd_129_643 : decode code 643 = .ok (.aload_n 2, 1) := by decide +kernel
theorem dd_129_644 : decode code 644 = .ok (.aload_n 0, 1) := by decide +kernel
theorem dd_129_645 : decode code 645 = .ok (.iload 4, 2) := by decide +kernel
theorem dd_129_647 : decode code 647 = .ok (.iconst 1, 1) := by decide +kernel
theorem dd_129_648 : decode code 648 = .ok (.iadd, 1) := by decide +kernel
theorem dd_129_649 : decode code 649 = .ok (.iaload, 1) := by decide +kernel
theorem dd_129_650 : decode code 650 = .ok (.aload_n 0, 1) := by decide +kernel
theorem dd_129_651 : decode code 651 = .ok (.iload 4, 2) := by decide +kernel
theorem dd_129_653 : decode code 653 = .ok (.iconst 2, 1) := by decide +kernel
theorem dd_129_654 : decode code 654 = .ok (.iadd, 1) := by decide +kernel
theorem dd_129_655 : decode code 655 = .ok (.iaload, 1) := by decide +kernel
theorem dd_129_656 : decode code 656 = .ok (.aload_n 0, 1) := by decide +kernel
theorem dd_129_657 : decode code 657 = .ok (.iload 4, 2) := by decide +kernel
theorem dd_129_659 : decode code 659 = .ok (.iconst 3, 1) := by decide +kernel
theorem dd_129_660 : decode code 660 = .ok (.iadd, 1) := by decide +kernel
theorem dd_129_661 : decode code 661 = .ok (.iaload, 1) := by decide +kernel
theorem dd_129_662 : decode code 662 = .ok (.ifCond .eq 7, 3) := by decide +kernel
theorem dd_129_665 : decode code 665 = .ok (.iconst 1, 1) := by decide +kernel
theorem dd_129_666 : decode code 666 = .ok (.goto 4, 3) := by decide +kernel
theorem dd_129_669 : decode code 669 = .ok (.iconst 0, 1) := by decide +kernel
theorem dd_129_670 : decode code 670 = .ok (.invokevirtual 113, 3) := by decide +kernel
theorem dd_129_673 : decode code 673 = .ok (.istore 6, 2) := by decide +kernel
theorem dd_129_675 : decode code 675 = .ok (.aload_n 2, 1) := by decide +kernel
theorem dd_129_676 : decode code 676 = .ok (.invokevirtual 90, 3) := by decide +kernel
theorem dd_129_679 : decode code 679 = .ok (.iload 5, 2) := by decide +kernel
theorem dd_129_681 : decode code 681 = .ok (.if_icmp .eq 5, 3) := by decide +kernel
theorem dd_129_684 : decode code 684 = .ok (.iconst 0, 1) := by decide +kernel
theorem dd_129_685 : decode code 685 = .ok (.ireturn, 1) := by decide +kernel
theorem dd_129_686 : decode code 686 = .ok (.iload 5, 2) := by decide +kernel
theorem dd_129_688 : decode code 688 = .ok (.ifCond .ne 22, 3) := by decide +kernel
theorem dd_129_691 : decode code 691 = .ok (.aload_n 3, 1) := by decide +kernel
theorem dd_129_692 : decode code 692 = .ok (.iconst 0, 1) := by decide +kernel
theorem dd_129_693 : decode code 693 = .ok (.laload, 1) := by decide +kernel
theorem dd_129_694 : decode code 694 = .ok (.iload 6, 2) := by decide +kernel
theorem dd_129_696 : decode code 696 = .ok (.ifCond .eq 7, 3) := by decide +kernel
theorem dd_129_699 : decode code 699 = .ok (.lconst 1, 1) := by decide +kernel
theorem dd_129_700 : decode code 700 = .ok (.goto 4, 3) := by decide +kernel
theorem dd_129_703 : decode code 703 = .ok (.lconst 0, 1) := by decide +kernel
theorem dd_129_704 : decode code 704 = .ok (.lcmp, 1) := by decide +kernel
theorem dd_129_705 : decode code 705 = .ok (.ifCond .eq 5, 3) := by decide +kernel
theorem dd_129_708 : decode code 708 = .ok (.iconst 0, 1) := by decide +kernel
theorem dd_129_709 : decode code 709 = .ok (.ireturn, 1) := by decide +kernel
theorem dd_129_710 : decode code 710 = .ok (.goto 619, 3) := by decide +kernel
theorem dd_129_713 : decode code 713 = .ok (.aload_n 1, 1) := by decide +kernel
theorem dd_129_714 : decode code 714 = .ok (.aload_n 0, 1) := by decide +kernel
theorem dd_129_715 : decode code 715 = .ok (.iload 4, 2) := by decide +kernel
theorem dd_129_717 : decode code 717 = .ok (.iconst 1, 1) := by decide +kernel
theorem dd_129_718 : decode code 718 = .ok (.iadd, 1) := by decide +kernel
theorem dd_129_719 : decode code 719 = .ok (.iaload, 1) := by decide +kernel
theorem dd_129_720 : decode code 720 = .ok (.aload_n 0, 1) := by decide +kernel
theorem dd_129_721 : decode code 721 = .ok (.iload 4, 2) := by decide +kernel
theorem dd_129_723 : decode code 723 = .ok (.iconst 2, 1) := by decide +kernel
theorem dd_129_724 : decode code 724 = .ok (.iadd, 1) := by decide +kernel
theorem dd_129_725 : decode code 725 = .ok (.iaload, 1) := by decide +kernel
theorem dd_129_726 : decode code 726 = .ok (.aload_n 3, 1) := by decide +kernel
theorem dd_129_727 : decode code 727 = .ok (.invokestatic 114, 3) := by decide +kernel
theorem dd_129_730 : decode code 730 = .ok (.istore 5, 2) := by decide +kernel
theorem dd_129_732 : decode code 732 = .ok (.aload_n 2, 1) := by decide +kernel
theorem dd_129_733 : decode code 733 = .ok (.aload_n 0, 1) := by decide +kernel
theorem dd_129_734 : decode code 734 = .ok (.iload 4, 2) := by decide +kernel
theorem dd_129_736 : decode code 736 = .ok (.iconst 1, 1) := by decide +kernel
theorem dd_129_737 : decode code 737 = .ok (.iadd, 1) := by decide +kernel
theorem dd_129_738 : decode code 738 = .ok (.iaload, 1) := by decide +kernel
theorem dd_129_739 : decode code 739 = .ok (.aload_n 0, 1) := by decide +kernel
theorem dd_129_740 : decode code 740 = .ok (.iload 4, 2) := by decide +kernel
theorem dd_129_742 : decode code 742 = .ok (.iconst 2, 1) := by decide +kernel
theorem dd_129_743 : decode code 743 = .ok (.iadd, 1) := by decide +kernel
theorem dd_129_744 : decode code 744 = .ok (.iaload, 1) := by decide +kernel
theorem dd_129_745 : decode code 745 = .ok (.invokevirtual 116, 3) := by decide +kernel
theorem dd_129_748 : decode code 748 = .ok (.istore 6, 2) := by decide +kernel
theorem dd_129_750 : decode code 750 = .ok (.aload_n 2, 1) := by decide +kernel
theorem dd_129_751 : decode code 751 = .ok (.invokevirtual 90, 3) := by decide +kernel
theorem dd_129_754 : decode code 754 = .ok (.iload 5, 2) := by decide +kernel
theorem dd_129_756 : decode code 756 = .ok (.if_icmp .eq 5, 3) := by decide +kernel
theorem dd_129_759 : decode code 759 = .ok (.iconst 0, 1) := by decide +kernel
theorem dd_129_760 : decode code 760 = .ok (.ireturn, 1) := by decide +kernel
theorem dd_129_761 : decode code 761 = .ok (.iload 5, 2) := by decide +kernel
theorem dd_129_763 : decode code 763 = .ok (.ifCond .ne 15, 3) := by decide +kernel
theorem dd_129_766 : decode code 766 = .ok (.aload_n 3, 1) := by decide +kernel
theorem dd_129_767 : decode code 767 = .ok (.iconst 0, 1) := by decide +kernel
theorem dd_129_768 : decode code 768 = .ok (.laload, 1) := by decide +kernel
theorem dd_129_769 : decode code 769 = .ok (.iload 6, 2) := by decide +kernel
theorem dd_129_771 : decode code 771 = .ok (.i2l, 1) := by decide +kernel
theorem dd_129_772 : decode code 772 = .ok (.lcmp, 1) := by decide +kernel
theorem dd_129_773 : decode code 773 = .ok (.ifCond .eq 5, 3) := by decide +kernel
theorem dd_129_776 : decode code 776 = .ok (.iconst 0, 1) := by decide +kernel
theorem dd_129_777 : decode code 777 = .ok (.ireturn, 1) := by decide +kernel
theorem dd_129_778 : decode code 778 = .ok (.goto 551, 3) := by decide +kernel
theorem dd_129_781 : decode code 781 = .ok (.aload_n 1, 1) := by decide +kernel
theorem dd_129_782 : decode code 782 = .ok (.aload_n 0, 1) := by decide +kernel
theorem dd_129_783 : decode code 783 = .ok (.iload 4, 2) := by decide +kernel
theorem dd_129_785 : decode code 785 = .ok (.iconst 1, 1) := by decide +kernel
theorem dd_129_786 : decode code 786 = .ok (.iadd, 1) := by decide +kernel
theorem dd_129_787 : decode code 787 = .ok (.iaload, 1) := by decide +kernel
theorem dd_129_788 : decode code 788 = .ok (.invokestatic 117, 3) := by decide +kernel
theorem dd_129_791 : decode code 791 = .ok (.istore 5, 2) := by decide +kernel
theorem dd_129_793 : decode code 793 = .ok (.aload_n 2, 1) := by decide +kernel
theorem dd_129_794 : decode code 794 = .ok (.aload_n 0, 1) := by decide +kernel
theorem dd_129_795 : decode code 795 = .ok (.iload 4, 2) := by decide +kernel
theorem dd_129_797 : decode code 797 = .ok (.iconst 1, 1) := by decide +kernel
theorem dd_129_798 : decode code 798 = .ok (.iadd, 1) := by decide +kernel
theorem dd_129_799 : decode code 799 = .ok (.iaload, 1) := by decide +kernel
theorem dd_129_800 : decode code 800 = .ok (.invokevirtual 120, 3) := by decide +kernel
theorem dd_129_803 : decode code 803 = .ok (.aload_n 2, 1) := by decide +kernel
theorem dd_129_804 : decode code 804 = .ok (.invokevirtual 90, 3) := by decide +kernel
theorem dd_129_807 : decode code 807 = .ok (.iload 5, 2) := by decide +kernel
theorem dd_129_809 : decode code 809 = .ok (.if_icmp .eq 5, 3) := by decide +kernel
theorem dd_129_812 : decode code 812 = .ok (.iconst 0, 1) := by decide +kernel
theorem dd_129_813 : decode code 813 = .ok (.ireturn, 1) := by decide +kernel
theorem dd_129_814 : decode code 814 = .ok (.goto 515, 3) := by decide +kernel
theorem dd_129_817 : decode code 817 = .ok (.aload_n 1, 1) := by decide +kernel
theorem dd_129_818 : decode code 818 = .ok (.aload_n 0, 1) := by decide +kernel
theorem dd_129_819 : decode code 819 = .ok (.iload 4, 2) := by decide +kernel
theorem dd_129_821 : decode code 821 = .ok (.iconst 1, 1) := by decide +kernel
theorem dd_129_822 : decode code 822 = .ok (.iadd, 1) := by decide +kernel
theorem dd_129_823 : decode code 823 = .ok (.iaload, 1) := by decide +kernel
theorem dd_129_824 : decode code 824 = .ok (.aload_n 3, 1) := by decide +kernel
theorem dd_129_825 : decode code 825 = .ok (.invokestatic 121, 3) := by decide +kernel
theorem dd_129_828 : decode code 828 = .ok (.istore 5, 2) := by decide +kernel
theorem dd_129_830 : decode code 830 = .ok (.aload_n 2, 1) := by decide +kernel
theorem dd_129_831 : decode code 831 = .ok (.aload_n 0, 1) := by decide +kernel
theorem dd_129_832 : decode code 832 = .ok (.iload 4, 2) := by decide +kernel
theorem dd_129_834 : decode code 834 = .ok (.iconst 1, 1) := by decide +kernel
theorem dd_129_835 : decode code 835 = .ok (.iadd, 1) := by decide +kernel
theorem dd_129_836 : decode code 836 = .ok (.iaload, 1) := by decide +kernel
theorem dd_129_837 : decode code 837 = .ok (.invokevirtual 124, 3) := by decide +kernel
theorem dd_129_840 : decode code 840 = .ok (.istore 6, 2) := by decide +kernel
theorem dd_129_842 : decode code 842 = .ok (.aload_n 2, 1) := by decide +kernel
theorem dd_129_843 : decode code 843 = .ok (.invokevirtual 90, 3) := by decide +kernel
theorem dd_129_846 : decode code 846 = .ok (.iload 5, 2) := by decide +kernel
theorem dd_129_848 : decode code 848 = .ok (.if_icmp .eq 5, 3) := by decide +kernel
theorem dd_129_851 : decode code 851 = .ok (.iconst 0, 1) := by decide +kernel
theorem dd_129_852 : decode code 852 = .ok (.ireturn, 1) := by decide +kernel
theorem dd_129_853 : decode code 853 = .ok (.iload 5, 2) := by decide +kernel
theorem dd_129_855 : decode code 855 = .ok (.ifCond .ne 15, 3) := by decide +kernel
theorem dd_129_858 : decode code 858 = .ok (.aload_n 3, 1) := by decide +kernel
theorem dd_129_859 : decode code 859 = .ok (.iconst 0, 1) := by decide +kernel
theorem dd_129_860 : decode code 860 = .ok (.laload, 1) := by decide +kernel
theorem dd_129_861 : decode code 861 = .ok (.iload 6, 2) := by decide +kernel
theorem dd_129_863 : decode code 863 = .ok (.i2l, 1) := by decide +kernel
theorem dd_129_864 : decode code 864 = .ok (.lcmp, 1) := by decide +kernel
theorem dd_129_865 : decode code 865 = .ok (.ifCond .eq 5, 3) := by decide +kernel
theorem dd_129_868 : decode code 868 = .ok (.iconst 0, 1) := by decide +kernel
theorem dd_129_869 : decode code 869 = .ok (.ireturn, 1) := by decide +kernel
theorem dd_129_870 : decode code 870 = .ok (.goto 459, 3) := by decide +kernel
theorem dd_129_873 : decode code 873 = .ok (.aload_n 1, 1) := by decide +kernel
theorem dd_129_874 : decode code 874 = .ok (.aload_n 0, 1) := by decide +kernel
theorem dd_129_875 : decode code 875 = .ok (.iload 4, 2) := by decide +kernel
theorem dd_129_877 : decode code 877 = .ok (.iconst 1, 1) := by decide +kernel
theorem dd_129_878 : decode code 878 = .ok (.iadd, 1) := by decide +kernel
theorem dd_129_879 : decode code 879 = .ok (.iaload, 1) := by decide +kernel
theorem dd_129_880 : decode code 880 = .ok (.invokevirtual 125, 3) := by decide +kernel
theorem dd_129_883 : decode code 883 = .ok (.aload_n 2, 1) := by decide +kernel
theorem dd_129_884 : decode code 884 = .ok (.aload_n 0, 1) := by decide +kernel
theorem dd_129_885 : decode code 885 = .ok (.iload 4, 2) := by decide +kernel
theorem dd_129_887 : decode code 887 = .ok (.iconst 1, 1) := by decide +kernel
theorem dd_129_888 : decode code 888 = .ok (.iadd, 1) := by decide +kernel
theorem dd_129_889 : decode code 889 = .ok (.iaload, 1) := by decide +kernel
theorem dd_129_890 : decode code 890 = .ok (.invokevirtual 128, 3) := by decide +kernel
theorem dd_129_893 : decode code 893 = .ok (.goto 436, 3) := by decide +kernel
theorem dd_129_896 : decode code 896 = .ok (.aload_n 1, 1) := by decide +kernel
theorem dd_129_897 : decode code 897 = .ok (.aload_n 0, 1) := by decide +kernel
theorem dd_129_898 : decode code 898 = .ok (.iload 4, 2) := by decide +kernel
theorem dd_129_900 : decode code 900 = .ok (.iconst 1, 1) := by decide +kernel
theorem dd_129_901 : decode code 901 = .ok (.iadd, 1) := by decide +kernel
theorem dd_129_902 : decode code 902 = .ok (.iaload, 1) := by decide +kernel
theorem dd_129_903 : decode code 903 = .ok (.aload_n 3, 1) := by decide +kernel
theorem dd_129_904 : decode code 904 = .ok (.invokestatic 129, 3) := by decide +kernel
theorem dd_129_907 : decode code 907 = .ok (.istore 5, 2) := by decide +kernel
theorem dd_129_909 : decode code 909 = .ok (.aload_n 2, 1) := by decide +kernel
theorem dd_129_910 : decode code 910 = .ok (.aload_n 0, 1) := by decide +kernel
theorem dd_129_911 : decode code 911 = .ok (.iload 4, 2) := by decide +kernel
theorem dd_129_913 : decode code 913 = .ok (.iconst 1, 1) := by decide +kernel
theorem dd_129_914 : decode code 914 = .ok (.iadd, 1) := by decide +kernel
theorem dd_129_915 : decode code 915 = .ok (.iaload, 1) := by decide +kernel
theorem dd_129_916 : decode code 916 = .ok (.invokevirtual 131, 3) := by decide +kernel
theorem dd_129_919 : decode code 919 = .ok (.istore 6, 2) := by decide +kernel
theorem dd_129_921 : decode code 921 = .ok (.aload_n 2, 1) := by decide +kernel
theorem dd_129_922 : decode code 922 = .ok (.invokevirtual 90, 3) := by decide +kernel
theorem dd_129_925 : decode code 925 = .ok (.iload 5, 2) := by decide +kernel
theorem dd_129_927 : decode code 927 = .ok (.if_icmp .eq 5, 3) := by decide +kernel
theorem dd_129_930 : decode code 930 = .ok (.iconst 0, 1) := by decide +kernel
theorem dd_129_931 : decode code 931 = .ok (.ireturn, 1) := by decide +kernel
theorem dd_129_932 : decode code 932 = .ok (.iload 5, 2) := by decide +kernel
theorem dd_129_934 : decode code 934 = .ok (.ifCond .ne 15, 3) := by decide +kernel
theorem dd_129_937 : decode code 937 = .ok (.aload_n 3, 1) := by decide +kernel
theorem dd_129_938 : decode code 938 = .ok (.iconst 0, 1) := by decide +kernel
theorem dd_129_939 : decode code 939 = .ok (.laload, 1) := by decide +kernel
theorem dd_129_940 : decode code 940 = .ok (.iload 6, 2) := by decide +kernel
theorem dd_129_942 : decode code 942 = .ok (.i2l, 1) := by decide +kernel
theorem dd_129_943 : decode code 943 = .ok (.lcmp, 1) := by decide +kernel
theorem dd_129_944 : decode code 944 = .ok (.ifCond .eq 5, 3) := by decide +kernel
theorem dd_129_947 : decode code 947 = .ok (.iconst 0, 1) := by decide +kernel
theorem dd_129_948 : decode code 948 = .ok (.ireturn, 1) := by decide +kernel
theorem dd_129_949 : decode code 949 = .ok (.goto 380, 3) := by decide +kernel
theorem dd_129_952 : decode code 952 = .ok (.aload_n 1, 1) := by decide +kernel
theorem dd_129_953 : decode code 953 = .ok (.aload_n 0, 1) := by decide +kernel
theorem dd_129_954 : decode code 954 = .ok (.iload 4, 2) := by decide +kernel
theorem dd_129_956 : decode code 956 = .ok (.iconst 1, 1) := by decide +kernel
theorem dd_129_957 : decode code 957 = .ok (.iadd, 1) := by decide +kernel
theorem dd_129_958 : decode code 958 = .ok (.iaload, 1) := by decide +kernel
theorem dd_129_959 : decode code 959 = .ok (.aload_n 3, 1) := by decide +kernel
theorem dd_129_960 : decode code 960 = .ok (.invokestatic 132, 3) := by decide +kernel
theorem dd_129_963 : decode code 963 = .ok (.istore 5, 2) := by decide +kernel
theorem dd_129_965 : decode code 965 = .ok (.aload_n 2, 1) := by decide +kernel
theorem dd_129_966 : decode code 966 = .ok (.aload_n 0, 1) := by decide +kernel
theorem dd_129_967 : decode code 967 = .ok (.iload 4, 2) := by decide +kernel
theorem dd_129_969 : decode code 969 = .ok (.iconst 1, 1) := by decide +kernel
theorem dd_129_970 : decode code 970 = .ok (.iadd, 1) := by decide +kernel
theorem dd_129_971 : decode code 971 = .ok (.iaload, 1) := by decide +kernel
theorem dd_129_972 : decode code 972 = .ok (.invokevirtual 134, 3) := by decide +kernel
theorem dd_129_975 : decode code 975 = .ok (.istore 6, 2) := by decide +kernel
theorem dd_129_977 : decode code 977 = .ok (.aload_n 2, 1) := by decide +kernel
theorem dd_129_978 : decode code 978 = .ok (.invokevirtual 90, 3) := by decide +kernel
theorem dd_129_981 : decode code 981 = .ok (.iload 5, 2) := by decide +kernel
theorem dd_129_983 : decode code 983 = .ok (.if_icmp .eq 5, 3) := by decide +kernel
theorem dd_129_986 : decode code 986 = .ok (.iconst 0, 1) := by decide +kernel
theorem dd_129_987 : decode code 987 = .ok (.ireturn, 1) := by decide +kernel
theorem dd_129_988 : decode code 988 = .ok (.iload 5, 2) := by decide +kernel
theorem dd_129_990 : decode code 990 = .ok (.ifCond .ne 15, 3) := by decide +kernel
theorem dd_129_993 : decode code 993 = .ok (.aload_n 3, 1) := by decide +kernel
theorem dd_129_994 : decode code 994 = .ok (.iconst 0, 1) := by decide +kernel
theorem dd_129_995 : decode code 995 = .ok (.laload, 1) := by decide +kernel
theorem dd_129_996 : decode code 996 = .ok (.iload 6, 2) := by decide +kernel
theorem dd_129_998 : decode code 998 = .ok (.i2l, 1) := by decide +kernel
theorem dd_129_999 : decode code 999 = .ok (.lcmp, 1) := by decide +kernel
theorem dd_129_1000 : decode code 1000 = .ok (.ifCond .eq 5, 3) := by decide +kernel
theorem dd_129_1003 : decode code 1003 = .ok (.iconst 0, 1) := by decide +kernel
theorem dd_129_1004 : decode code 1004 = .ok (.ireturn, 1) := by decide +kernel
theorem dd_129_1005 : decode code 1005 = .ok (.goto 324, 3) := by decide +kernel
theorem dd_129_1008 : decode code 1008 = .ok (.aload_n 1, 1) := by decide +kernel
theorem dd_129_1009 : decode code 1009 = .ok (.aload_n 0, 1) := by decide +kernel
theorem dd_129_1010 : decode code 1010 = .ok (.iload 4, 2) := by decide +kernel
theorem dd_129_1012 : decode code 1012 = .ok (.iconst 1, 1) := by decide +kernel
theorem dd_129_1013 : decode code 1013 = .ok (.iadd, 1) := by decide +kernel
theorem dd_129_1014 : decode code 1014 = .ok (.iaload, 1) := by decide +kernel
theorem dd_129_1015 : decode code 1015 = .ok (.aload_n 0, 1) := by decide +kernel
theorem dd_129_1016 : decode code 1016 = .ok (.iload 4, 2) := by decide +kernel
theorem dd_129_1018 : decode code 1018 = .ok (.iconst 2, 1) := by decide +kernel
theorem dd_129_1019 : decode code 1019 = .ok (.iadd, 1) := by decide +kernel
theorem dd_129_1020 : decode code 1020 = .ok (.iaload, 1) := by decide +kernel
theorem dd_129_1021 : decode code 1021 = .ok (.aload_n 0, 1) := by decide +kernel
theorem dd_129_1022 : decode code 1022 = .ok (.iload 4, 2) := by decide +kernel
theorem dd_129_1024 : decode code 1024 = .ok (.iconst 3, 1) := by decide +kernel
theorem dd_129_1025 : decode code 1025 = .ok (.iadd, 1) := by decide +kernel
theorem dd_129_1026 : decode code 1026 = .ok (.iaload, 1) := by decide +kernel
theorem dd_129_1027 : decode code 1027 = .ok (.aload_n 0, 1) := by decide +kernel
theorem dd_129_1028 : decode code 1028 = .ok (.iload 4, 2) := by decide +kernel
theorem dd_129_1030 : decode code 1030 = .ok (.iconst 4, 1) := by decide +kernel
theorem dd_129_1031 : decode code 1031 = .ok (.iadd, 1) := by decide +kernel
theorem dd_129_1032 : decode code 1032 = .ok (.iaload, 1) := by decide +kernel
theorem dd_129_1033 : decode code 1033 = .ok (.aload_n 0, 1) := by decide +kernel
theorem dd_129_1034 : decode code 1034 = .ok (.iload 4, 2) := by decide +kernel
theorem dd_129_1036 : decode code 1036 = .ok (.iconst 5, 1) := by decide +kernel
theorem dd_129_1037 : decode code 1037 = .ok (.iadd, 1) := by decide +kernel
theorem dd_129_1038 : decode code 1038 = .ok (.iaload, 1) := by decide +kernel
theorem dd_129_1039 : decode code 1039 = .ok (.aload_n 3, 1) := by decide +kernel
theorem dd_129_1040 : decode code 1040 = .ok (.invokestatic 135, 3) := by decide +kernel
theorem dd_129_1043 : decode code 1043 = .ok (.istore 5, 2) := by decide +kernel
theorem dd_129_1045 : decode code 1045 = .ok (.aload_n 2, 1) := by decide +kernel
theorem dd_129_1046 : decode code 1046 = .ok (.aload_n 0, 1) := by decide +kernel
theorem dd_129_1047 : decode code 1047 = .ok (.iload 4, 2) := by decide +kernel
theorem dd_129_1049 : decode code 1049 = .ok (.iconst 1, 1) := by decide +kernel
theorem dd_129_1050 : decode code 1050 = .ok (.iadd, 1) := by decide +kernel
theorem dd_129_1051 : decode code 1051 = .ok (.iaload, 1) := by decide +kernel
theorem dd_129_1052 : decode code 1052 = .ok (.aload_n 0, 1) := by decide +kernel
theorem dd_129_1053 : decode code 1053 = .ok (.iload 4, 2) := by decide +kernel
theorem dd_129_1055 : decode code 1055 = .ok (.iconst 2, 1) := by decide +kernel
theorem dd_129_1056 : decode code 1056 = .ok (.iadd, 1) := by decide +kernel
theorem dd_129_1057 : decode code 1057 = .ok (.iaload, 1) := by decide +kernel
theorem dd_129_1058 : decode code 1058 = .ok (.aload_n 0, 1) := by decide +kernel
theorem dd_129_1059 : decode code 1059 = .ok (.iload 4, 2) := by decide +kernel
theorem dd_129_1061 : decode code 1061 = .ok (.iconst 3, 1) := by decide +kernel
theorem dd_129_1062 : decode code 1062 = .ok (.iadd, 1) := by decide +kernel
theorem dd_129_1063 : decode code 1063 = .ok (.iaload, 1) := by decide +kernel
theorem dd_129_1064 : decode code 1064 = .ok (.aload_n 0, 1) := by decide +kernel
theorem dd_129_1065 : decode code 1065 = .ok (.iload 4, 2) := by decide +kernel
theorem dd_129_1067 : decode code 1067 = .ok (.iconst 4, 1) := by decide +kernel
theorem dd_129_1068 : decode code 1068 = .ok (.iadd, 1) := by decide +kernel
theorem dd_129_1069 : decode code 1069 = .ok (.iaload, 1) := by decide +kernel
theorem dd_129_1070 : decode code 1070 = .ok (.aload_n 0, 1) := by decide +kernel
theorem dd_129_1071 : decode code 1071 = .ok (.iload 4, 2) := by decide +kernel
theorem dd_129_1073 : decode code 1073 = .ok (.iconst 5, 1) := by decide +kernel
theorem dd_129_1074 : decode code 1074 = .ok (.iadd, 1) := by decide +kernel
theorem dd_129_1075 : decode code 1075 = .ok (.iaload, 1) := by decide +kernel
theorem dd_129_1076 : decode code 1076 = .ok (.invokevirtual 138, 3) := by decide +kernel
theorem dd_129_1079 : decode code 1079 = .ok (.istore 6, 2) := by decide +kernel
theorem dd_129_1081 : decode code 1081 = .ok (.aload_n 2, 1) := by decide +kernel
theorem dd_129_1082 : decode code 1082 = .ok (.invokevirtual 90, 3) := by decide +kernel
theorem dd_129_1085 : decode code 1085 = .ok (.iload 5, 2) := by decide +kernel
theorem dd_129_1087 : decode code 1087 = .ok (.if_icmp .eq 5, 3) := by decide +kernel
theorem dd_129_1090 : decode code 1090 = .ok (.iconst 0, 1) := by decide +kernel
theorem dd_129_1091 : decode code 1091 = .ok (.ireturn, 1) := by decide +kernel
theorem dd_129_1092 : decode code 1092 = .ok (.iload 5, 2) := by decide +kernel
theorem dd_129_1094 : decode code 1094 = .ok (.ifCond .ne 15, 3) := by decide +kernel
theorem dd_129_1097 : decode code 1097 = .ok (.aload_n 3, 1) := by decide +kernel
theorem dd_129_1098 : decode code 1098 = .ok (.iconst 0, 1) := by decide +kernel
theorem dd_129_1099 : decode code 1099 = .ok (.laload, 1) := by decide +kernel
theorem dd_129_1100 : decode code 1100 = .ok (.iload 6, 2) := by decide +kernel
theorem dd_129_1102 : decode code 1102 = .ok (.i2l, 1) := by decide +kernel
theorem dd_129_1103 : decode code 1103 = .ok (.lcmp, 1) := by decide +kernel
theorem dd_129_1104 : decode code 1104 = .ok (.ifCond .eq 5, 3) := by decide +kernel
theorem dd_129_1107 : decode code 1107 = .ok (.iconst 0, 1) := by decide +kernel
theorem dd_129_1108 : decode code 1108 = .ok (.ireturn, 1) := by decide +kernel
theorem dd_129_1109 : decode code 1109 = .ok (.goto 220, 3) := by decide +kernel
theorem dd_129_1112 : decode code 1112 = .ok (.aload_n 1, 1) := by decide +kernel
theorem dd_129_1113 : decode code 1113 = .ok (.aload_n 0, 1) := by decide +kernel
theorem dd_129_1114 : decode code 1114 = .ok (.iload 4, 2) := by decide +kernel
theorem dd_129_1116 : decode code 1116 = .ok (.iconst 1, 1) := by decide +kernel
theorem dd_129_1117 : decode code 1117 = .ok (.iadd, 1) := by decide +kernel
theorem dd_129_1118 : decode code 1118 = .ok (.iaload, 1) := by decide +kernel
theorem dd_129_1119 : decode code 1119 = .ok (.aload_n 0, 1) := by decide +kernel
theorem dd_129_1120 : decode code 1120 = .ok (.iload 4, 2) := by decide +kernel
theorem dd_129_1122 : decode code 1122 = .ok (.iconst 2, 1) := by decide +kernel
theorem dd_129_1123 : decode code 1123 = .ok (.iadd, 1) := by decide +kernel
theorem dd_129_1124 : decode code 1124 = .ok (.iaload, 1) := by decide +kernel
theorem dd_129_1125 : decode code 1125 = .ok (.aload_n 3, 1) := by decide +kernel
theorem dd_129_1126 : decode code 1126 = .ok (.invokestatic 139, 3) := by decide +kernel
theorem dd_129_1129 : decode code 1129 = .ok (.istore 5, 2) := by decide +kernel
theorem dd_129_1131 : decode code 1131 = .ok (.aload_n 2, 1) := by decide +kernel
theorem dd_129_1132 : decode code 1132 = .ok (.aload_n 0, 1) := by decide +kernel
theorem dd_129_1133 : decode code 1133 = .ok (.iload 4, 2) := by decide +kernel
theorem dd_129_1135 : decode code 1135 = .ok (.iconst 1, 1) := by decide +kernel
theorem dd_129_1136 : decode code 1136 = .ok (.iadd, 1) := by decide +kernel
theorem dd_129_1137 : decode code 1137 = .ok (.iaload, 1) := by decide +kernel
theorem dd_129_1138 : decode code 1138 = .ok (.aload_n 0, 1) := by decide +kernel
theorem dd_129_1139 : decode code 1139 = .ok (.iload 4, 2) := by decide +kernel
theorem dd_129_1141 : decode code 1141 = .ok (.iconst 2, 1) := by decide +kernel
theorem dd_129_1142 : decode code 1142 = .ok (.iadd, 1) := by decide +kernel
theorem dd_129_1143 : decode code 1143 = .ok (.iaload, 1) := by decide +kernel
theorem dd_129_1144 : decode code 1144 = .ok (.invokevirtual 141, 3) := by decide +kernel
theorem dd_129_1147 : decode code 1147 = .ok (.istore 6, 2) := by decide +kernel
theorem dd_129_1149 : decode code 1149 = .ok (.aload_n 2, 1) := by decide +kernel
theorem dd_129_1150 : decode code 1150 = .ok (.invokevirtual 90, 3) := by decide +kernel
theorem dd_129_1153 : decode code 1153 = .ok (.iload 5, 2) := by decide +kernel
theorem dd_129_1155 : decode code 1155 = .ok (.if_icmp .eq 5, 3) := by decide +kernel
theorem dd_129_1158 : decode code 1158 = .ok (.iconst 0, 1) := by decide +kernel
theorem dd_129_1159 : decode code 1159 = .ok (.ireturn, 1) := by decide +kernel
theorem dd_129_1160 : decode code 1160 = .ok (.iload 5, 2) := by decide +kernel
theorem dd_129_1162 : decode code 1162 = .ok (.ifCond .ne 15, 3) := by decide +kernel
theorem dd_129_1165 : decode code 1165 = .ok (.aload_n 3, 1) := by decide +kernel
theorem dd_129_1166 : decode code 1166 = .ok (.iconst 0, 1) := by decide +kernel
theorem dd_129_1167 : decode code 1167 = .ok (.laload, 1) := by decide +kernel
theorem dd_129_1168 : decode code 1168 = .ok (.iload 6, 2) := by decide +kernel
theorem dd_129_1170 : decode code 1170 = .ok (.i2l, 1) := by decide +kernel
theorem dd_129_1171 : decode code 1171 = .ok (.lcmp, 1) := by decide +kernel
theorem dd_129_1172 : decode code 1172 = .ok (.ifCond .eq 5, 3) := by decide +kernel
theorem dd_129_1175 : decode code 1175 = .ok (.iconst 0, 1) := by decide +kernel
theorem dd_129_1176 : decode code 1176 = .ok (.ireturn, 1) := by decide +kernel
theorem dd_129_1177 : decode code 1177 = .ok (.goto 152, 3) := by decide +kernel
theorem dd_129_1180 : decode code 1180 = .ok (.aload_n 1, 1) := by decide +kernel
theorem dd_129_1181 : decode code 1181 = .ok (.invokevirtual 142, 3) := by decide +kernel
theorem dd_129_1184 : decode code 1184 = .ok (.aload_n 2, 1) := by decide +kernel
theorem dd_129_1185 : decode code 1185 = .ok (.invokevirtual 145, 3) := by decide +kernel
theorem dd_129_1188 : decode code 1188 = .ok (.if_icmp .eq 141, 3) := by decide +kernel
theorem dd_129_1191 : decode code 1191 = .ok (.iconst 0, 1) := by decide +kernel
theorem dd_129_1192 : decode code 1192 = .ok (.ireturn, 1) := by decide +kernel
theorem dd_129_1193 : decode code 1193 = .ok (.aload_n 1, 1) := by decide +kernel
theorem dd_129_1194 : decode code 1194 = .ok (.aload_n 0, 1) := by decide +kernel
theorem dd_129_1195 : decode code 1195 = .ok (.iload 4, 2) := by decide +kernel
theorem dd_129_1197 : decode code 1197 = .ok (.iconst 1, 1) := by decide +kernel
theorem dd_129_1198 : decode code 1198 = .ok (.iadd, 1) := by decide +kernel
theorem dd_129_1199 : decode code 1199 = .ok (.iaload, 1) := by decide +kernel
theorem dd_129_1200 : decode code 1200 = .ok (.aload_n 0, 1) := by decide +kernel
theorem dd_129_1201 : decode code 1201 = .ok (.iload 4, 2) := by decide +kernel
theorem dd_129_1203 : decode code 1203 = .ok (.iconst 2, 1) := by decide +kernel
theorem dd_129_1204 : decode code 1204 = .ok (.iadd, 1) := by decide +kernel
theorem dd_129_1205 : decode code 1205 = .ok (.iaload, 1) := by decide +kernel
theorem dd_129_1206 : decode code 1206 = .ok (.aload_n 0, 1) := by decide +kernel
theorem dd_129_1207 : decode code 1207 = .ok (.iload 4, 2) := by decide +kernel
theorem dd_129_1209 : decode code 1209 = .ok (.iconst 3, 1) := by decide +kernel
theorem dd_129_1210 : decode code 1210 = .ok (.iadd, 1) := by decide +kernel
theorem dd_129_1211 : decode code 1211 = .ok (.iaload, 1) := by decide +kernel
theorem dd_129_1212 : decode code 1212 = .ok (.aload_n 3, 1) := by decide +kernel
theorem dd_129_1213 : decode code 1213 = .ok (.invokestatic 146, 3) := by decide +kernel
theorem dd_129_1216 : decode code 1216 = .ok (.istore 5, 2) := by decide +kernel
theorem dd_129_1218 : decode code 1218 = .ok (.aload_n 2, 1) := by decide +kernel
theorem dd_129_1219 : decode code 1219 = .ok (.aload_n 0, 1) := by decide +kernel
theorem dd_129_1220 : decode code 1220 = .ok (.iload 4, 2) := by decide +kernel
theorem dd_129_1222 : decode code 1222 = .ok (.iconst 1, 1) := by decide +kernel
theorem dd_129_1223 : decode code 1223 = .ok (.iadd, 1) := by decide +kernel
theorem dd_129_1224 : decode code 1224 = .ok (.iaload, 1) := by decide +kernel
theorem dd_129_1225 : decode code 1225 = .ok (.aload_n 0, 1) := by decide +kernel
theorem dd_129_1226 : decode code 1226 = .ok (.iload 4, 2) := by decide +kernel
theorem dd_129_1228 : decode code 1228 = .ok (.iconst 2, 1) := by decide +kernel
theorem dd_129_1229 : decode code 1229 = .ok (.iadd, 1) := by decide +kernel
theorem dd_129_1230 : decode code 1230 = .ok (.iaload, 1) := by decide +kernel
theorem dd_129_1231 : decode code 1231 = .ok (.aload_n 0, 1) := by decide +kernel
theorem dd_129_1232 : decode code 1232 = .ok (.iload 4, 2) := by decide +kernel
theorem dd_129_1234 : decode code 1234 = .ok (.iconst 3, 1) := by decide +kernel
theorem dd_129_1235 : decode code 1235 = .ok (.iadd, 1) := by decide +kernel
theorem dd_129_1236 : decode code 1236 = .ok (.iaload, 1) := by decide +kernel
theorem dd_129_1237 : decode code 1237 = .ok (.invokevirtual 149, 3) := by decide +kernel
theorem dd_129_1240 : decode code 1240 = .ok (.istore 6, 2) := by decide +kernel
theorem dd_129_1242 : decode code 1242 = .ok (.aload_n 2, 1) := by decide +kernel
theorem dd_129_1243 : decode code 1243 = .ok (.invokevirtual 90, 3) := by decide +kernel
theorem dd_129_1246 : decode code 1246 = .ok (.iload 5, 2) := by decide +kernel
theorem dd_129_1248 : decode code 1248 = .ok (.if_icmp .eq 5, 3) := by decide +kernel
theorem dd_129_1251 : decode code 1251 = .ok (.iconst 0, 1) := by decide +kernel
theorem dd_129_1252 : decode code 1252 = .ok (.ireturn, 1) := by decide +kernel
theorem dd_129_1253 : decode code 1253 = .ok (.iload 5, 2) := by decide +kernel
theorem dd_129_1255 : decode code 1255 = .ok (.ifCond .ne 15, 3) := by decide +kernel
theorem dd_129_1258 : decode code 1258 = .ok (.aload_n 3, 1) := by decide +kernel
theorem dd_129_1259 : decode code 1259 = .ok (.iconst 0, 1) := by decide +kernel
theorem dd_129_1260 : decode code 1260 = .ok (.laload, 1) := by decide +kernel
theorem dd_129_1261 : decode code 1261 = .ok (.iload 6, 2) := by decide +kernel
theorem dd_129_1263 : decode code 1263 = .ok (.i2l, 1) := by decide +kernel
theorem dd_129_1264 : decode code 1264 = .ok (.lcmp, 1) := by decide +kernel
theorem dd_129_1265 : decode code 1265 = .ok (.ifCond .eq 5, 3) := by decide +kernel
theorem dd_129_1268 : decode code 1268 = .ok (.iconst 0, 1) := by decide +kernel
theorem dd_129_1269 : decode code 1269 = .ok (.ireturn, 1) := by decide +kernel
theorem dd_129_1270 : decode code 1270 = .ok (.goto 59, 3) := by decide +kernel
theorem dd_129_1273 : decode code 1273 = .ok (.aload_n 1, 1) := by decide +kernel
theorem dd_129_1274 : decode code 1274 = .ok (.aload_n 0, 1) := by decide +kernel
theorem dd_129_1275 : decode code 1275 = .ok (.iload 4, 2) := by decide +kernel
theorem dd_129_1277 : decode code 1277 = .ok (.iconst 1, 1) := by decide +kernel
theorem dd_129_1278 : decode code 1278 = .ok (.iadd, 1) := by decide +kernel
theorem dd_129_1279 : decode code 1279 = .ok (.iaload, 1) := by decide +kernel
theorem dd_129_1280 : decode code 1280 = .ok (.aload_n 3, 1) := by decide +kernel
theorem dd_129_1281 : decode code 1281 = .ok (.invokestatic 150, 3) := by decide +kernel
theorem dd_129_1284 : decode code 1284 = .ok (.istore 5, 2) := by decide +kernel
theorem dd_129_1286 : decode code 1286 = .ok (.aload_n 2, 1) := by decide +kernel
theorem dd_129_1287 : decode code 1287 = .ok (.aload_n 0, 1) := by decide +kernel
theorem dd_129_1288 : decode code 1288 = .ok (.iload 4, 2) := by decide +kernel
theorem dd_129_1290 : decode code 1290 = .ok (.iconst 1, 1) := by decide +kernel
theorem dd_129_1291 : decode code 1291 = .ok (.iadd, 1) := by decide +kernel
theorem dd_129_1292 : decode code 1292 = .ok (.iaload, 1) := by decide +kernel
theorem dd_129_1293 : decode code 1293 = .ok (.invokevirtual 152, 3) := by decide +kernel
theorem dd_129_1296 : decode code 1296 = .ok (.istore 6, 2) := by decide +kernel
theorem dd_129_1298 : decode code 1298 = .ok (.aload_n 2, 1) := by decide +kernel
theorem dd_129_1299 : decode code 1299 = .ok (.invokevirtual 90, 3) := by decide +kernel
theorem dd_129_1302 : decode code 1302 = .ok (.iload 5, 2) := by decide +kernel
theorem dd_129_1304 : decode code 1304 = .ok (.if_icmp .eq 5, 3) := by decide +kernel
theorem dd_129_1307 : decode code 1307 = .ok (.iconst 0, 1) := by decide +kernel
theorem dd_129_1308 : decode code 1308 = .ok (.ireturn, 1) := by decide +kernel
theorem dd_129_1309 : decode code 1309 = .ok (.iload 5, 2) := by decide +kernel
theorem dd_129_1311 : decode code 1311 = .ok (.ifCond .ne 15, 3) := by decide +kernel
theorem dd_129_1314 : decode code 1314 = .ok (.aload_n 3, 1) := by decide +kernel
theorem dd_129_1315 : decode code 1315 = .ok (.iconst 0, 1) := by decide +kernel
theorem dd_129_1316 : decode code 1316 = .ok (.laload, 1) := by decide +kernel
theorem dd_129_1317 : decode code 1317 = .ok (.iload 6, 2) := by decide +kernel
theorem dd_129_1319 : decode code 1319 = .ok (.i2l, 1) := by decide +kernel
theorem dd_129_1320 : decode code 1320 = .ok (.lcmp, 1) := by decide +kernel
theorem dd_129_1321 : decode code 1321 = .ok (.ifCond .eq 5, 3) := by decide +kernel
theorem dd_129_1324 : decode code 1324 = .ok (.iconst 0, 1) := by decide +kernel
theorem dd_129_1325 : decode code 1325 = .ok (.ireturn, 1) := by decide +kernel
theorem dd_129_1326 : decode code 1326 = .ok (.goto 3, 3) := by decide +kernel
theorem dd_129_1329 : decode code 1329 = .ok (.iinc 4 6, 3) := by decide +kernel
theorem dd_129_1332 : decode code 1332 = .ok (.goto (-1289), 3) := by decide +kernel
theorem dd_129_1335 : decode code 1335 = .ok (.iconst 1, 1) := by decide +kernel
theorem dd_129_1336 : decode code 1336 = .ok (.ireturn, 1) := by decide +kernel
