theorem svV_X6_limitCount : SV RX6 yX6_limitCount cX6_limitCount 1 (some .int) 0 := ⟨kw1258, kw1259, kw2, kw1260, rfl, by decide, by decide, by decide +kernel⟩
theorem svV_X3_size : SV RX3 yX3_size cX3_size 1 (some .int) 0 := ⟨kw1263, kw1264, kw5, kw1265, rfl, by decide, by decide, by decide +kernel⟩
theorem svV_X6_brokenRules : SV RX6 yX6_brokenRules cX6_brokenRules 3 (some .int) 0 := ⟨kw1267, kw1268, kw2, kw1269, rfl, by decide, by decide, by decide +kernel⟩
theorem svV_X10_no : SV RX10 yX10_no cX10_no 2 (some .int) 1 := ⟨kw1355, kw1835, kw16, kw1356, rfl, by decide, by decide, by decide +kernel⟩
theorem svS_X10_in : SS RX10 yX10_in cX10_in 3 (some .boolean) 3 := ⟨kw1365, kw16, kw1366, rfl, by decide, by decide, by decide +kernel⟩
theorem svS_X10_divisor : SS RX10 yX10_divisor cX10_divisor 10 (some .long) 2 := ⟨kw1514, kw16, kw1515, rfl, by decide, by decide, by decide +kernel⟩
theorem svV_X10_fraction : SV RX10 yX10_fraction cX10_fraction 7 none 2 := ⟨kw1511, kw1862, kw16, kw1512, rfl, by decide, by decide, by decide +kernel⟩
theorem svS_X10_markBy : SS RX10 yX10_markBy cX10_markBy 3 (some .int) 3 := ⟨kw1425, kw16, kw1426, rfl, by decide, by decide, by decide +kernel⟩
theorem dX9_count_0 : decode cX9_count 0 = .ok (.iload_n 1, 1) := by decide +kernel
theorem dX9_count_1 : decode cX9_count 1 = .ok (.tableswitch 96 0 6 #[43, 51, 59, 67, 75, 83, 88], 43) := by decide +kernel
theorem dX9_count_44 : decode cX9_count 44 = .ok (.aload_n 0, 1) := by decide +kernel
theorem dX9_count_45 : decode cX9_count 45 = .ok (.getfield 10, 3) := by decide +kernel
theorem dX9_count_48 : decode cX9_count 48 = .ok (.invokevirtual 339, 3) := by decide +kernel
theorem dX9_count_51 : decode cX9_count 51 = .ok (.ireturn, 1) := by decide +kernel
theorem dX9_count_52 : decode cX9_count 52 = .ok (.aload_n 0, 1) := by decide +kernel
theorem dX9_count_53 : decode cX9_count 53 = .ok (.getfield 10, 3) := by decide +kernel
theorem dX9_count_56 : decode cX9_count 56 = .ok (.invokevirtual 257, 3) := by decide +kernel
theorem dX9_count_59 : decode cX9_count 59 = .ok (.ireturn, 1) := by decide +kernel
theorem dX9_count_60 : decode cX9_count 60 = .ok (.aload_n 0, 1) := by decide +kernel
theorem dX9_count_61 : decode cX9_count 61 = .ok (.getfield 10, 3) := by decide +kernel
theorem dX9_count_64 : decode cX9_count 64 = .ok (.invokevirtual 342, 3) := by decide +kernel
theorem dX9_count_67 : decode cX9_count 67 = .ok (.ireturn, 1) := by decide +kernel
theorem dX9_count_68 : decode cX9_count 68 = .ok (.aload_n 0, 1) := by decide +kernel
theorem dX9_count_69 : decode cX9_count 69 = .ok (.getfield 10, 3) := by decide +kernel
theorem dX9_count_72 : decode cX9_count 72 = .ok (.invokevirtual 345, 3) := by decide +kernel
theorem dX9_count_75 : decode cX9_count 75 = .ok (.ireturn, 1) := by decide +kernel
theorem dX9_count_76 : decode cX9_count 76 = .ok (.aload_n 0, 1) := by decide +kernel
theorem dX9_count_77 : decode cX9_count 77 = .ok (.getfield 25, 3) := by decide +kernel
theorem dX9_count_80 : decode cX9_count 80 = .ok (.invokevirtual 348, 3) := by decide +kernel
theorem dX9_count_83 : decode cX9_count 83 = .ok (.ireturn, 1) := by decide +kernel
theorem dX9_count_84 : decode cX9_count 84 = .ok (.aload_n 0, 1) := by decide +kernel
theorem dX9_count_85 : decode cX9_count 85 = .ok (.getfield 287, 3) := by decide +kernel
theorem dX9_count_88 : decode cX9_count 88 = .ok (.ireturn, 1) := by decide +kernel
theorem dX9_count_89 : decode cX9_count 89 = .ok (.aload_n 0, 1) := by decide +kernel
theorem dX9_count_90 : decode cX9_count 90 = .ok (.getfield 10, 3) := by decide +kernel
theorem dX9_count_93 : decode cX9_count 93 = .ok (.invokevirtual 351, 3) := by decide +kernel
theorem dX9_count_96 : decode cX9_count 96 = .ok (.ireturn, 1) := by decide +kernel
theorem dX9_count_97 : decode cX9_count 97 = .ok (.iload_n 1, 1) := by decide +kernel
theorem dX9_count_98 : decode cX9_count 98 = .ok (.bipush 11, 2) := by decide +kernel
theorem dX9_count_100 : decode cX9_count 100 = .ok (.if_icmp .lt 23, 3) := by decide +kernel
theorem dX9_count_123 : decode cX9_count 123 = .ok (.bipush (-9), 2) := by decide +kernel
theorem dX9_count_125 : decode cX9_count 125 = .ok (.ireturn, 1) := by decide +kernel
theorem dX9_count_103 : decode cX9_count 103 = .ok (.iload_n 1, 1) := by decide +kernel
theorem dX9_count_104 : decode cX9_count 104 = .ok (.bipush 16, 2) := by decide +kernel
theorem dX9_count_106 : decode cX9_count 106 = .ok (.if_icmp .gt 17, 3) := by decide +kernel
theorem dX9_count_109 : decode cX9_count 109 = .ok (.aload_n 0, 1) := by decide +kernel
theorem dX9_count_110 : decode cX9_count 110 = .ok (.getfield 45, 3) := by decide +kernel
theorem dX9_count_113 : decode cX9_count 113 = .ok (.iload_n 1, 1) := by decide +kernel
theorem dX9_count_114 : decode cX9_count 114 = .ok (.bipush 10, 2) := by decide +kernel
theorem dX9_count_116 : decode cX9_count 116 = .ok (.isub, 1) := by decide +kernel
theorem dX9_count_117 : decode cX9_count 117 = .ok (.invokevirtual 354, 3) := by decide +kernel
theorem dX9_count_120 : decode cX9_count 120 = .ok (.goto 5, 3) := by decide +kernel
theorem dX10_in_0 : decode cX10_in 0 = .ok (.iload_n 0, 1) := by decide +kernel
theorem dX10_in_1 : decode cX10_in 1 = .ok (.iload_n 1, 1) := by decide +kernel
theorem dX10_in_2 : decode cX10_in 2 = .ok (.if_icmp .lt 12, 3) := by decide +kernel
theorem dX10_in_14 : decode cX10_in 14 = .ok (.iconst 0, 1) := by decide +kernel
theorem dX10_in_15 : decode cX10_in 15 = .ok (.ireturn, 1) := by decide +kernel
theorem dX10_in_5 : decode cX10_in 5 = .ok (.iload_n 0, 1) := by decide +kernel
theorem dX10_in_6 : decode cX10_in 6 = .ok (.iload_n 2, 1) := by decide +kernel
theorem dX10_in_7 : decode cX10_in 7 = .ok (.if_icmp .gt 7, 3) := by decide +kernel
theorem dX10_in_10 : decode cX10_in 10 = .ok (.iconst 1, 1) := by decide +kernel
theorem dX10_in_11 : decode cX10_in 11 = .ok (.goto 4, 3) := by decide +kernel
theorem dX10_has_0 : decode cX10_has 0 = .ok (.iload_n 0, 1) := by decide +kernel
theorem dX10_has_1 : decode cX10_has 1 = .ok (.iload_n 1, 1) := by decide +kernel
theorem dX10_has_2 : decode cX10_has 2 = .ok (.ishr, 1) := by decide +kernel
theorem dX10_has_3 : decode cX10_has 3 = .ok (.iconst 1, 1) := by decide +kernel
theorem dX10_has_4 : decode cX10_has 4 = .ok (.iand, 1) := by decide +kernel
theorem dX10_has_5 : decode cX10_has 5 = .ok (.iconst 1, 1) := by decide +kernel
theorem dX10_has_6 : decode cX10_has 6 = .ok (.if_icmp .ne 7, 3) := by decide +kernel
theorem dX10_has_13 : decode cX10_has 13 = .ok (.iconst 0, 1) := by decide +kernel
theorem dX10_has_14 : decode cX10_has 14 = .ok (.ireturn, 1) := by decide +kernel
theorem dX10_has_9 : decode cX10_has 9 = .ok (.iconst 1, 1) := by decide +kernel
theorem dX10_has_10 : decode cX10_has 10 = .ok (.goto 4, 3) := by decide +kernel
theorem dX10_no_0 : decode cX10_no 0 = .ok (.aload_n 0, 1) := by decide +kernel
theorem dX10_no_1 : decode cX10_no 1 = .ok (.getfield 47, 3) := by decide +kernel
theorem dX10_no_4 : decode cX10_no 4 = .ok (.iload_n 1, 1) := by decide +kernel
theorem dX10_no_5 : decode cX10_no 5 = .ok (.ineg, 1) := by decide +kernel
theorem dX10_no_6 : decode cX10_no 6 = .ok (.dup2, 1) := by decide +kernel
theorem dX10_no_7 : decode cX10_no 7 = .ok (.iaload, 1) := by decide +kernel
theorem dX10_no_8 : decode cX10_no 8 = .ok (.iconst 1, 1) := by decide +kernel
theorem dX10_no_9 : decode cX10_no 9 = .ok (.iadd, 1) := by decide +kernel
theorem dX10_no_10 : decode cX10_no 10 = .ok (.iastore, 1) := by decide +kernel
theorem dX10_no_11 : decode cX10_no 11 = .ok (.iload_n 1, 1) := by decide +kernel
theorem dX10_no_12 : decode cX10_no 12 = .ok (.ireturn, 1) := by decide +kernel
theorem dX10_far_0 : decode cX10_far 0 = .ok (.ldc2_w 74, 3) := by decide +kernel
theorem dX10_far_3 : decode cX10_far 3 = .ok (.aload_n 0, 1) := by decide +kernel
theorem dX10_far_4 : decode cX10_far 4 = .ok (.iload_n 1, 1) := by decide +kernel
theorem dX10_far_5 : decode cX10_far 5 = .ok (.invokevirtual 76, 3) := by decide +kernel
theorem dX10_far_8 : decode cX10_far 8 = .ok (.i2l, 1) := by decide +kernel
theorem dX10_far_9 : decode cX10_far 9 = .ok (.lsub, 1) := by decide +kernel
theorem dX10_far_10 : decode cX10_far 10 = .ok (.lreturn, 1) := by decide +kernel
theorem dX10_isPaper_0 : decode cX10_isPaper 0 = .ok (.iload_n 1, 1) := by decide +kernel
theorem dX10_isPaper_1 : decode cX10_isPaper 1 = .ok (.iconst 0, 1) := by decide +kernel
theorem dX10_isPaper_2 : decode cX10_isPaper 2 = .ok (.aload_n 0, 1) := by decide +kernel
theorem dX10_isPaper_3 : decode cX10_isPaper 3 = .ok (.getfield 80, 3) := by decide +kernel
theorem dX10_isPaper_6 : decode cX10_isPaper 6 = .ok (.iconst 1, 1) := by decide +kernel
theorem dX10_isPaper_7 : decode cX10_isPaper 7 = .ok (.isub, 1) := by decide +kernel
theorem dX10_isPaper_8 : decode cX10_isPaper 8 = .ok (.invokestatic 84, 3) := by decide +kernel
theorem dX10_isPaper_11 : decode cX10_isPaper 11 = .ok (.ireturn, 1) := by decide +kernel
theorem dX10_isRule_0 : decode cX10_isRule 0 = .ok (.iload_n 1, 1) := by decide +kernel
theorem dX10_isRule_1 : decode cX10_isRule 1 = .ok (.iconst 0, 1) := by decide +kernel
theorem dX10_isRule_2 : decode cX10_isRule 2 = .ok (.aload_n 0, 1) := by decide +kernel
theorem dX10_isRule_3 : decode cX10_isRule 3 = .ok (.getfield 88, 3) := by decide +kernel
theorem dX10_isRule_6 : decode cX10_isRule 6 = .ok (.iconst 1, 1) := by decide +kernel
theorem dX10_isRule_7 : decode cX10_isRule 7 = .ok (.isub, 1) := by decide +kernel
theorem dX10_isRule_8 : decode cX10_isRule 8 = .ok (.invokestatic 84, 3) := by decide +kernel
theorem dX10_isRule_11 : decode cX10_isRule 11 = .ok (.ireturn, 1) := by decide +kernel
theorem dX10_isLoss_0 : decode cX10_isLoss 0 = .ok (.iload_n 0, 1) := by decide +kernel
theorem dX10_isLoss_1 : decode cX10_isLoss 1 = .ok (.iconst 0, 1) := by decide +kernel
theorem dX10_isLoss_2 : decode cX10_isLoss 2 = .ok (.iconst 2, 1) := by decide +kernel
theorem dX10_isLoss_3 : decode cX10_isLoss 3 = .ok (.invokestatic 84, 3) := by decide +kernel
theorem dX10_isLoss_6 : decode cX10_isLoss 6 = .ok (.ireturn, 1) := by decide +kernel
theorem dX10_isLine_0 : decode cX10_isLine 0 = .ok (.iload_n 0, 1) := by decide +kernel
theorem dX10_isLine_1 : decode cX10_isLine 1 = .ok (.iconst 0, 1) := by decide +kernel
theorem dX10_isLine_2 : decode cX10_isLine 2 = .ok (.iconst 1, 1) := by decide +kernel
theorem dX10_isLine_3 : decode cX10_isLine 3 = .ok (.invokestatic 84, 3) := by decide +kernel
theorem dX10_isLine_6 : decode cX10_isLine 6 = .ok (.ireturn, 1) := by decide +kernel
theorem dX10_isPart_0 : decode cX10_isPart 0 = .ok (.iload_n 0, 1) := by decide +kernel
theorem dX10_isPart_1 : decode cX10_isPart 1 = .ok (.iconst 0, 1) := by decide +kernel
theorem dX10_isPart_2 : decode cX10_isPart 2 = .ok (.iconst 1, 1) := by decide +kernel
theorem dX10_isPart_3 : decode cX10_isPart 3 = .ok (.invokestatic 84, 3) := by decide +kernel
theorem dX10_isPart_6 : decode cX10_isPart 6 = .ok (.ireturn, 1) := by decide +kernel
theorem dX10_divisor_0 : decode cX10_divisor 0 = .ok (.lload_n 0, 1) := by decide +kernel
theorem dX10_divisor_1 : decode cX10_divisor 1 = .ok (.lconst 0, 1) := by decide +kernel
theorem dX10_divisor_12 : decode cX10_divisor 12 = .ok (.lstore 4, 2) := by decide +kernel
theorem dX10_divisor_14 : decode cX10_divisor 14 = .ok (.lload_n 2, 1) := by decide +kernel
theorem dX10_divisor_15 : decode cX10_divisor 15 = .ok (.lstore 6, 2) := by decide +kernel
theorem dX10_divisor_17 : decode cX10_divisor 17 = .ok (.lload 6, 2) := by decide +kernel
theorem dX10_divisor_19 : decode cX10_divisor 19 = .ok (.lconst 0, 1) := by decide +kernel
theorem dX10_divisor_20 : decode cX10_divisor 20 = .ok (.lcmp, 1) := by decide +kernel
theorem dX10_divisor_21 : decode cX10_divisor 21 = .ok (.ifCond .eq 21, 3) := by decide +kernel
theorem dX10_divisor_24 : decode cX10_divisor 24 = .ok (.lload 4, 2) := by decide +kernel
theorem dX10_divisor_26 : decode cX10_divisor 26 = .ok (.lload 6, 2) := by decide +kernel
theorem dX10_divisor_28 : decode cX10_divisor 28 = .ok (.lrem, 1) := by decide +kernel
theorem dX10_divisor_29 : decode cX10_divisor 29 = .ok (.lstore 8, 2) := by decide +kernel
theorem dX10_divisor_31 : decode cX10_divisor 31 = .ok (.lload 6, 2) := by decide +kernel
theorem dX10_divisor_33 : decode cX10_divisor 33 = .ok (.lstore 4, 2) := by decide +kernel
theorem dX10_divisor_35 : decode cX10_divisor 35 = .ok (.lload 8, 2) := by decide +kernel
theorem dX10_divisor_37 : decode cX10_divisor 37 = .ok (.lstore 6, 2) := by decide +kernel
theorem dX10_divisor_39 : decode cX10_divisor 39 = .ok (.goto (-22), 3) := by decide +kernel
theorem dX10_divisor_42 : decode cX10_divisor 42 = .ok (.lload 4, 2) := by decide +kernel
theorem dX10_divisor_44 : decode cX10_divisor 44 = .ok (.lreturn, 1) := by decide +kernel
theorem dX10_divisor_2 : decode cX10_divisor 2 = .ok (.lcmp, 1) := by decide +kernel
theorem dX10_divisor_3 : decode cX10_divisor 3 = .ok (.ifCond .ge 8, 3) := by decide +kernel
theorem dX10_divisor_11 : decode cX10_divisor 11 = .ok (.lload_n 0, 1) := by decide +kernel
theorem dX10_divisor_6 : decode cX10_divisor 6 = .ok (.lload_n 0, 1) := by decide +kernel
theorem dX10_divisor_7 : decode cX10_divisor 7 = .ok (.lneg, 1) := by decide +kernel
theorem dX10_divisor_8 : decode cX10_divisor 8 = .ok (.goto 4, 3) := by decide +kernel
theorem dX10_fraction_0 : decode cX10_fraction 0 = .ok (.lload_n 1, 1) := by decide +kernel
theorem dX10_fraction_1 : decode cX10_fraction 1 = .ok (.lload_n 3, 1) := by decide +kernel
theorem dX10_fraction_2 : decode cX10_fraction 2 = .ok (.invokestatic 91, 3) := by decide +kernel
theorem dX10_fraction_5 : decode cX10_fraction 5 = .ok (.lstore 5, 2) := by decide +kernel
theorem dX10_fraction_7 : decode cX10_fraction 7 = .ok (.aload_n 0, 1) := by decide +kernel
theorem dX10_fraction_8 : decode cX10_fraction 8 = .ok (.lload_n 1, 1) := by decide +kernel
theorem dX10_fraction_9 : decode cX10_fraction 9 = .ok (.lload 5, 2) := by decide +kernel
theorem dX10_fraction_11 : decode cX10_fraction 11 = .ok (.ldiv, 1) := by decide +kernel
theorem dX10_fraction_12 : decode cX10_fraction 12 = .ok (.putfield 95, 3) := by decide +kernel
theorem dX10_fraction_15 : decode cX10_fraction 15 = .ok (.aload_n 0, 1) := by decide +kernel
theorem dX10_fraction_16 : decode cX10_fraction 16 = .ok (.lload_n 3, 1) := by decide +kernel
theorem dX10_fraction_17 : decode cX10_fraction 17 = .ok (.lload 5, 2) := by decide +kernel
theorem dX10_fraction_19 : decode cX10_fraction 19 = .ok (.ldiv, 1) := by decide +kernel
theorem dX10_fraction_20 : decode cX10_fraction 20 = .ok (.putfield 99, 3) := by decide +kernel
theorem dX10_fraction_23 : decode cX10_fraction 23 = .ok (.return_, 1) := by decide +kernel
theorem dX10_add_0 : decode cX10_add 0 = .ok (.aload_n 0, 1) := by decide +kernel
theorem dX10_add_1 : decode cX10_add 1 = .ok (.getfield 99, 3) := by decide +kernel
theorem dX10_add_4 : decode cX10_add 4 = .ok (.lload_n 3, 1) := by decide +kernel
theorem dX10_add_5 : decode cX10_add 5 = .ok (.invokestatic 91, 3) := by decide +kernel
theorem dX10_add_8 : decode cX10_add 8 = .ok (.lstore 5, 2) := by decide +kernel
theorem dX10_add_10 : decode cX10_add 10 = .ok (.aload_n 0, 1) := by decide +kernel
theorem dX10_add_11 : decode cX10_add 11 = .ok (.aload_n 0, 1) := by decide +kernel
theorem dX10_add_12 : decode cX10_add 12 = .ok (.getfield 95, 3) := by decide +kernel
theorem dX10_add_15 : decode cX10_add 15 = .ok (.lload_n 3, 1) := by decide +kernel
theorem dX10_add_16 : decode cX10_add 16 = .ok (.lload 5, 2) := by decide +kernel
theorem dX10_add_18 : decode cX10_add 18 = .ok (.ldiv, 1) := by decide +kernel
theorem dX10_add_19 : decode cX10_add 19 = .ok (.lmul, 1) := by decide +kernel
theorem dX10_add_20 : decode cX10_add 20 = .ok (.lload_n 1, 1) := by decide +kernel
theorem dX10_add_21 : decode cX10_add 21 = .ok (.aload_n 0, 1) := by decide +kernel
theorem dX10_add_22 : decode cX10_add 22 = .ok (.getfield 99, 3) := by decide +kernel
theorem dX10_add_25 : decode cX10_add 25 = .ok (.lload 5, 2) := by decide +kernel
theorem dX10_add_27 : decode cX10_add 27 = .ok (.ldiv, 1) := by decide +kernel
theorem dX10_add_28 : decode cX10_add 28 = .ok (.lmul, 1) := by decide +kernel
theorem dX10_add_29 : decode cX10_add 29 = .ok (.ladd, 1) := by decide +kernel
theorem dX10_add_30 : decode cX10_add 30 = .ok (.aload_n 0, 1) := by decide +kernel
theorem dX10_add_31 : decode cX10_add 31 = .ok (.getfield 99, 3) := by decide +kernel
theorem dX10_add_34 : decode cX10_add 34 = .ok (.lload 5, 2) := by decide +kernel
theorem dX10_add_36 : decode cX10_add 36 = .ok (.ldiv, 1) := by decide +kernel
theorem dX10_add_37 : decode cX10_add 37 = .ok (.lload_n 3, 1) := by decide +kernel
theorem dX10_add_38 : decode cX10_add 38 = .ok (.lmul, 1) := by decide +kernel
theorem dX10_add_39 : decode cX10_add 39 = .ok (.invokevirtual 102, 3) := by decide +kernel
theorem dX10_add_42 : decode cX10_add 42 = .ok (.return_, 1) := by decide +kernel
theorem dX10_part_0 : decode cX10_part 0 = .ok (.iload_n 1, 1) := by decide +kernel
theorem dX10_part_1 : decode cX10_part 1 = .ok (.ifCond .ne 10, 3) := by decide +kernel
theorem dX10_part_11 : decode cX10_part 11 = .ok (.aload_n 0, 1) := by decide +kernel
theorem dX10_part_12 : decode cX10_part 12 = .ok (.getfield 99, 3) := by decide +kernel
theorem dX10_part_15 : decode cX10_part 15 = .ok (.lreturn, 1) := by decide +kernel
theorem dX10_part_4 : decode cX10_part 4 = .ok (.aload_n 0, 1) := by decide +kernel
theorem dX10_part_5 : decode cX10_part 5 = .ok (.getfield 95, 3) := by decide +kernel
theorem dX10_part_8 : decode cX10_part 8 = .ok (.goto 7, 3) := by decide +kernel
theorem dX10_markBy_0 : decode cX10_markBy 0 = .ok (.iload_n 0, 1) := by decide +kernel
theorem dX10_markBy_1 : decode cX10_markBy 1 = .ok (.tableswitch 77 1 4 #[31, 35, 45, 60], 31) := by decide +kernel
theorem dX10_markBy_32 : decode cX10_markBy 32 = .ok (.iload_n 2, 1) := by decide +kernel
theorem dX10_markBy_33 : decode cX10_markBy 33 = .ok (.iload_n 1, 1) := by decide +kernel
theorem dX10_markBy_34 : decode cX10_markBy 34 = .ok (.iadd, 1) := by decide +kernel
theorem dX10_markBy_35 : decode cX10_markBy 35 = .ok (.ireturn, 1) := by decide +kernel
theorem dX10_markBy_36 : decode cX10_markBy 36 = .ok (.iconst 0, 1) := by decide +kernel
theorem dX10_markBy_37 : decode cX10_markBy 37 = .ok (.iload_n 2, 1) := by decide +kernel
theorem dX10_markBy_38 : decode cX10_markBy 38 = .ok (.iconst 3, 1) := by decide +kernel
theorem dX10_markBy_39 : decode cX10_markBy 39 = .ok (.iload_n 1, 1) := by decide +kernel
theorem dX10_markBy_40 : decode cX10_markBy 40 = .ok (.imul, 1) := by decide +kernel
theorem dX10_markBy_41 : decode cX10_markBy 41 = .ok (.isub, 1) := by decide +kernel
theorem dX10_markBy_42 : decode cX10_markBy 42 = .ok (.invokestatic 106, 3) := by decide +kernel
theorem dX10_markBy_45 : decode cX10_markBy 45 = .ok (.ireturn, 1) := by decide +kernel
theorem dX10_markBy_46 : decode cX10_markBy 46 = .ok (.bipush 50, 2) := by decide +kernel
theorem dX10_markBy_48 : decode cX10_markBy 48 = .ok (.iconst 0, 1) := by decide +kernel
theorem dX10_markBy_49 : decode cX10_markBy 49 = .ok (.iload_n 2, 1) := by decide +kernel
theorem dX10_markBy_50 : decode cX10_markBy 50 = .ok (.iconst 3, 1) := by decide +kernel
theorem dX10_markBy_51 : decode cX10_markBy 51 = .ok (.iload_n 1, 1) := by decide +kernel
theorem dX10_markBy_52 : decode cX10_markBy 52 = .ok (.imul, 1) := by decide +kernel
theorem dX10_markBy_53 : decode cX10_markBy 53 = .ok (.isub, 1) := by decide +kernel
theorem dX10_markBy_54 : decode cX10_markBy 54 = .ok (.invokestatic 106, 3) := by decide +kernel
theorem dX10_markBy_57 : decode cX10_markBy 57 = .ok (.invokestatic 112, 3) := by decide +kernel
theorem dX10_markBy_60 : decode cX10_markBy 60 = .ok (.ireturn, 1) := by decide +kernel
theorem dX10_markBy_61 : decode cX10_markBy 61 = .ok (.iload_n 2, 1) := by decide +kernel
theorem dX10_markBy_62 : decode cX10_markBy 62 = .ok (.iload_n 1, 1) := by decide +kernel
theorem dX10_markBy_63 : decode cX10_markBy 63 = .ok (.iadd, 1) := by decide +kernel
theorem dX10_markBy_64 : decode cX10_markBy 64 = .ok (.iload_n 2, 1) := by decide +kernel
theorem dX10_markBy_65 : decode cX10_markBy 65 = .ok (.bipush 70, 2) := by decide +kernel
theorem dX10_markBy_67 : decode cX10_markBy 67 = .ok (.if_icmp .lt 8, 3) := by decide +kernel
theorem dX10_markBy_75 : decode cX10_markBy 75 = .ok (.iconst 0, 1) := by decide +kernel
theorem dX10_markBy_76 : decode cX10_markBy 76 = .ok (.iadd, 1) := by decide +kernel
theorem dX10_markBy_77 : decode cX10_markBy 77 = .ok (.ireturn, 1) := by decide +kernel
theorem dX10_markBy_70 : decode cX10_markBy 70 = .ok (.bipush 10, 2) := by decide +kernel
theorem dX10_markBy_72 : decode cX10_markBy 72 = .ok (.goto 4, 3) := by decide +kernel
theorem dX10_markBy_78 : decode cX10_markBy 78 = .ok (.iload_n 2, 1) := by decide +kernel
theorem dX10_markBy_79 : decode cX10_markBy 79 = .ok (.ireturn, 1) := by decide +kernel
theorem dX10_mark_0 : decode cX10_mark 0 = .ok (.aload_n 0, 1) := by decide +kernel
theorem dX10_mark_1 : decode cX10_mark 1 = .ok (.getfield 13, 3) := by decide +kernel
theorem dX10_mark_4 : decode cX10_mark 4 = .ok (.iload_n 1, 1) := by decide +kernel
theorem dX10_mark_5 : decode cX10_mark 5 = .ok (.iaload, 1) := by decide +kernel
theorem dX10_mark_6 : decode cX10_mark 6 = .ok (.aload_n 0, 1) := by decide +kernel
theorem dX10_mark_7 : decode cX10_mark 7 = .ok (.getfield 16, 3) := by decide +kernel
theorem dX10_mark_10 : decode cX10_mark 10 = .ok (.iload_n 1, 1) := by decide +kernel
theorem dX10_mark_11 : decode cX10_mark 11 = .ok (.iaload, 1) := by decide +kernel
theorem dX10_mark_12 : decode cX10_mark 12 = .ok (.aload_n 0, 1) := by decide +kernel
theorem dX10_mark_13 : decode cX10_mark 13 = .ok (.getfield 7, 3) := by decide +kernel
theorem dX10_mark_16 : decode cX10_mark 16 = .ok (.iload_n 1, 1) := by decide +kernel
theorem dX10_mark_17 : decode cX10_mark 17 = .ok (.iaload, 1) := by decide +kernel
theorem dX10_mark_18 : decode cX10_mark 18 = .ok (.invokestatic 115, 3) := by decide +kernel
theorem dX10_mark_21 : decode cX10_mark 21 = .ok (.ireturn, 1) := by decide +kernel
theorem dX10_weight_0 : decode cX10_weight 0 = .ok (.aload_n 0, 1) := by decide +kernel
theorem dX10_weight_1 : decode cX10_weight 1 = .ok (.getfield 13, 3) := by decide +kernel
theorem dX10_weight_4 : decode cX10_weight 4 = .ok (.iload_n 1, 1) := by decide +kernel
theorem dX10_weight_5 : decode cX10_weight 5 = .ok (.iaload, 1) := by decide +kernel
theorem dX10_weight_6 : decode cX10_weight 6 = .ok (.tableswitch 63 2 5 #[30, 41, 63, 54], 30) := by decide +kernel
theorem dX10_weight_36 : decode cX10_weight 36 = .ok (.aload_n 0, 1) := by decide +kernel
theorem dX10_weight_37 : decode cX10_weight 37 = .ok (.getfield 19, 3) := by decide +kernel
theorem dX10_weight_40 : decode cX10_weight 40 = .ok (.iload_n 1, 1) := by decide +kernel
theorem dX10_weight_41 : decode cX10_weight 41 = .ok (.iaload, 1) := by decide +kernel
theorem dX10_weight_42 : decode cX10_weight 42 = .ok (.iconst 1, 1) := by decide +kernel
theorem dX10_weight_43 : decode cX10_weight 43 = .ok (.iadd, 1) := by decide +kernel
theorem dX10_weight_44 : decode cX10_weight 44 = .ok (.iconst 2, 1) := by decide +kernel
theorem dX10_weight_45 : decode cX10_weight 45 = .ok (.idiv, 1) := by decide +kernel
theorem dX10_weight_46 : decode cX10_weight 46 = .ok (.ireturn, 1) := by decide +kernel
theorem dX10_weight_47 : decode cX10_weight 47 = .ok (.aload_n 0, 1) := by decide +kernel
theorem dX10_weight_48 : decode cX10_weight 48 = .ok (.getfield 19, 3) := by decide +kernel
theorem dX10_weight_51 : decode cX10_weight 51 = .ok (.iload_n 1, 1) := by decide +kernel
theorem dX10_weight_52 : decode cX10_weight 52 = .ok (.iaload, 1) := by decide +kernel
theorem dX10_weight_53 : decode cX10_weight 53 = .ok (.iconst 1, 1) := by decide +kernel
theorem dX10_weight_54 : decode cX10_weight 54 = .ok (.iadd, 1) := by decide +kernel
theorem dX10_weight_55 : decode cX10_weight 55 = .ok (.iconst 2, 1) := by decide +kernel
theorem dX10_weight_56 : decode cX10_weight 56 = .ok (.idiv, 1) := by decide +kernel
theorem dX10_weight_57 : decode cX10_weight 57 = .ok (.iconst 1, 1) := by decide +kernel
theorem dX10_weight_58 : decode cX10_weight 58 = .ok (.iadd, 1) := by decide +kernel
theorem dX10_weight_59 : decode cX10_weight 59 = .ok (.ireturn, 1) := by decide +kernel
theorem dX10_weight_60 : decode cX10_weight 60 = .ok (.iconst 2, 1) := by decide +kernel
theorem dX10_weight_61 : decode cX10_weight 61 = .ok (.aload_n 0, 1) := by decide +kernel
theorem dX10_weight_62 : decode cX10_weight 62 = .ok (.getfield 19, 3) := by decide +kernel
theorem dX10_weight_65 : decode cX10_weight 65 = .ok (.iload_n 1, 1) := by decide +kernel
theorem dX10_weight_66 : decode cX10_weight 66 = .ok (.iaload, 1) := by decide +kernel
theorem dX10_weight_67 : decode cX10_weight 67 = .ok (.imul, 1) := by decide +kernel
theorem dX10_weight_68 : decode cX10_weight 68 = .ok (.ireturn, 1) := by decide +kernel
theorem dX10_weight_69 : decode cX10_weight 69 = .ok (.aload_n 0, 1) := by decide +kernel
theorem dX10_weight_70 : decode cX10_weight 70 = .ok (.getfield 19, 3) := by decide +kernel
theorem dX10_weight_73 : decode cX10_weight 73 = .ok (.iload_n 1, 1) := by decide +kernel
theorem dX10_weight_74 : decode cX10_weight 74 = .ok (.iaload, 1) := by decide +kernel
theorem dX10_weight_75 : decode cX10_weight 75 = .ok (.ireturn, 1) := by decide +kernel
set_option maxHeartbeats 4000000 in
set_option maxRecDepth 100000 in
theorem c_X9_count (l : Launch) (g : GG) (a0 : Nat → Nat) (v0_now_raws : (Nat → Int32)) (v0_now_kinds : (Nat → Int32)) (v0_now_figures : (Nat → Int32)) (v0_now_heavies : (Nat → Int32)) (v0_now_places : (Nat → Int32)) (v0_now_papers : Int32) (v0_now_lowers : (Nat → Int32)) (v0_now_uppers : (Nat → Int32)) (v0_now_rules : Int32) (v0_now_bounds : (Nat → Int32)) (v0_now_boundCount : Int32) (v0_now_tieWay : Int32) (v0_now_reached : (Nat → Int32)) (v0_kept_raws : (Nat → Int32)) (v0_kept_kinds : (Nat → Int32)) (v0_kept_figures : (Nat → Int32)) (v0_kept_heavies : (Nat → Int32)) (v0_kept_places : (Nat → Int32)) (v0_kept_papers : Int32) (v0_kept_lowers : (Nat → Int32)) (v0_kept_uppers : (Nat → Int32)) (v0_kept_rules : Int32) (v0_kept_bounds : (Nat → Int32)) (v0_kept_boundCount : Int32) (v0_kept_tieWay : Int32) (v0_kept_reached : (Nat → Int32)) (v0_spare_raws : (Nat → Int32)) (v0_spare_kinds : (Nat → Int32)) (v0_spare_figures : (Nat → Int32)) (v0_spare_heavies : (Nat → Int32)) (v0_spare_places : (Nat → Int32)) (v0_spare_papers : Int32) (v0_spare_lowers : (Nat → Int32)) (v0_spare_uppers : (Nat → Int32)) (v0_spare_rules : Int32) (v0_spare_bounds : (Nat → Int32)) (v0_spare_boundCount : Int32) (v0_spare_tieWay : Int32) (v0_spare_reached : (Nat → Int32)) (v0_isKept : Int32) (v0_letters_signs : (Nat → Int32)) (v0_letters_numbers : (Nat → Int32)) (v0_letters_size : Int32) (v0_letters_at : Int32) (v0_letters_word : Int32) (v0_told : (Nat → Int32)) (v0_toldCount : Int32) (v0_shelves_cells : (Nat → Int64)) (v0_shelves_sizes : (Nat → Int32)) (v0_shelves_made : (Nat → Int32)) (v0_refusals : (Nat → Int32)) (v0_order_overs : (Nat → Int32)) (v0_order_unders : (Nat → Int32)) (v0_order_marks : (Nat → Int32)) (v0_order_wrongs : (Nat → Int32)) (v0_order_papers : Int32) (v0_standing_values_marks : (Nat → Int32)) (v0_standing_values_weights : (Nat → Int32)) (v0_standing_values_places : (Nat → Int32)) (v0_standing_values_aboves : (Nat → Int32)) (v0_standing_values_belows : (Nat → Int32)) (v0_standing_values_reduced_above : Int64) (v0_standing_values_reduced_below : Int64) (v0_standing_values_papers : Int32) (v0_standing_blocks : (Nat → Int32)) (v0_standing_tops : (Nat → Int32)) (v0_standing_bottoms : (Nat → Int32)) (v0_standing_blocksNow : Int32) (v0_standing_mergesDone : Int32) (v0_standing_loss : Int32) (v0_byRules_values_marks : (Nat → Int32)) (v0_byRules_values_weights : (Nat → Int32)) (v0_byRules_values_places : (Nat → Int32)) (v0_byRules_values_aboves : (Nat → Int32)) (v0_byRules_values_belows : (Nat → Int32)) (v0_byRules_values_reduced_above : Int64) (v0_byRules_values_reduced_below : Int64) (v0_byRules_values_papers : Int32) (v0_byRules_order_overs : (Nat → Int32)) (v0_byRules_order_unders : (Nat → Int32)) (v0_byRules_order_marks : (Nat → Int32)) (v0_byRules_order_wrongs : (Nat → Int32)) (v0_byRules_order_papers : Int32) (v0_byRules_sums : (Nat → Int32)) (v0_byRules_weighs : (Nat → Int32)) (v0_byRules_downs : (Nat → Int32)) (v0_fraction_above : Int64) (v0_fraction_below : Int64) (v0_said_a : Nat) (v0_said_m : Nat) (v0_said_f : (Nat → Int32)) (v0_said_l : Int32) (v0_said_n : Int32) (p1 : Int32) (hne : (m_X9_count ((v0_now_raws, v0_now_kinds, v0_now_figures, v0_now_heavies, v0_now_places, v0_now_papers, v0_now_lowers, v0_now_uppers, v0_now_rules, v0_now_bounds, v0_now_boundCount, v0_now_tieWay, v0_now_reached), (v0_kept_raws, v0_kept_kinds, v0_kept_figures, v0_kept_heavies, v0_kept_places, v0_kept_papers, v0_kept_lowers, v0_kept_uppers, v0_kept_rules, v0_kept_bounds, v0_kept_boundCount, v0_kept_tieWay, v0_kept_reached), (v0_spare_raws, v0_spare_kinds, v0_spare_figures, v0_spare_heavies, v0_spare_places, v0_spare_papers, v0_spare_lowers, v0_spare_uppers, v0_spare_rules, v0_spare_bounds, v0_spare_boundCount, v0_spare_tieWay, v0_spare_reached), v0_isKept, (v0_letters_signs, v0_letters_numbers, v0_letters_size, v0_letters_at, v0_letters_word), v0_told, v0_toldCount, (v0_shelves_cells, v0_shelves_sizes, v0_shelves_made), v0_refusals, (v0_order_overs, v0_order_unders, v0_order_marks, v0_order_wrongs, v0_order_papers), ((v0_standing_values_marks, v0_standing_values_weights, v0_standing_values_places, v0_standing_values_aboves, v0_standing_values_belows, (v0_standing_values_reduced_above, v0_standing_values_reduced_below), v0_standing_values_papers), v0_standing_blocks, v0_standing_tops, v0_standing_bottoms, v0_standing_blocksNow, v0_standing_mergesDone, v0_standing_loss), ((v0_byRules_values_marks, v0_byRules_values_weights, v0_byRules_values_places, v0_byRules_values_aboves, v0_byRules_values_belows, (v0_byRules_values_reduced_above, v0_byRules_values_reduced_below), v0_byRules_values_papers), (v0_byRules_order_overs, v0_byRules_order_unders, v0_byRules_order_marks, v0_byRules_order_wrongs, v0_byRules_order_papers), v0_byRules_sums, v0_byRules_weighs, v0_byRules_downs), (v0_fraction_above, v0_fraction_below), (v0_said_a, v0_said_m, v0_said_f, v0_said_l, v0_said_n)) p1) ≠ none) : Ct l g yX9_count cX9_count 2 (some .int) ({ frames := 5, cells := 0, slots := 0, locals := 109 } : Room) [.ref (a0 0), .int p1] (wX9 a0 g v0_now_raws v0_now_kinds v0_now_figures v0_now_heavies v0_now_places v0_now_papers v0_now_lowers v0_now_uppers v0_now_rules v0_now_bounds v0_now_boundCount v0_now_tieWay v0_now_reached v0_kept_raws v0_kept_kinds v0_kept_figures v0_kept_heavies v0_kept_places v0_kept_papers v0_kept_lowers v0_kept_uppers v0_kept_rules v0_kept_bounds v0_kept_boundCount v0_kept_tieWay v0_kept_reached v0_spare_raws v0_spare_kinds v0_spare_figures v0_spare_heavies v0_spare_places v0_spare_papers v0_spare_lowers v0_spare_uppers v0_spare_rules v0_spare_bounds v0_spare_boundCount v0_spare_tieWay v0_spare_reached v0_isKept v0_letters_signs v0_letters_numbers v0_letters_size v0_letters_at v0_letters_word v0_told v0_toldCount v0_shelves_cells v0_shelves_sizes v0_shelves_made v0_refusals v0_order_overs v0_order_unders v0_order_marks v0_order_wrongs v0_order_papers v0_standing_values_marks v0_standing_values_weights v0_standing_values_places v0_standing_values_aboves v0_standing_values_belows v0_standing_values_reduced_above v0_standing_values_reduced_below v0_standing_values_papers v0_standing_blocks v0_standing_tops v0_standing_bottoms v0_standing_blocksNow v0_standing_mergesDone v0_standing_loss v0_byRules_values_marks v0_byRules_values_weights v0_byRules_values_places v0_byRules_values_aboves v0_byRules_values_belows v0_byRules_values_reduced_above v0_byRules_values_reduced_below v0_byRules_values_papers v0_byRules_order_overs v0_byRules_order_unders v0_byRules_order_marks v0_byRules_order_wrongs v0_byRules_order_papers v0_byRules_sums v0_byRules_weighs v0_byRules_downs v0_fraction_above v0_fraction_below v0_said_a v0_said_m v0_said_f v0_said_l v0_said_n) (Qi g .int (m_X9_count ((v0_now_raws, v0_now_kinds, v0_now_figures, v0_now_heavies, v0_now_places, v0_now_papers, v0_now_lowers, v0_now_uppers, v0_now_rules, v0_now_bounds, v0_now_boundCount, v0_now_tieWay, v0_now_reached), (v0_kept_raws, v0_kept_kinds, v0_kept_figures, v0_kept_heavies, v0_kept_places, v0_kept_papers, v0_kept_lowers, v0_kept_uppers, v0_kept_rules, v0_kept_bounds, v0_kept_boundCount, v0_kept_tieWay, v0_kept_reached), (v0_spare_raws, v0_spare_kinds, v0_spare_figures, v0_spare_heavies, v0_spare_places, v0_spare_papers, v0_spare_lowers, v0_spare_uppers, v0_spare_rules, v0_spare_bounds, v0_spare_boundCount, v0_spare_tieWay, v0_spare_reached), v0_isKept, (v0_letters_signs, v0_letters_numbers, v0_letters_size, v0_letters_at, v0_letters_word), v0_told, v0_toldCount, (v0_shelves_cells, v0_shelves_sizes, v0_shelves_made), v0_refusals, (v0_order_overs, v0_order_unders, v0_order_marks, v0_order_wrongs, v0_order_papers), ((v0_standing_values_marks, v0_standing_values_weights, v0_standing_values_places, v0_standing_values_aboves, v0_standing_values_belows, (v0_standing_values_reduced_above, v0_standing_values_reduced_below), v0_standing_values_papers), v0_standing_blocks, v0_standing_tops, v0_standing_bottoms, v0_standing_blocksNow, v0_standing_mergesDone, v0_standing_loss), ((v0_byRules_values_marks, v0_byRules_values_weights, v0_byRules_values_places, v0_byRules_values_aboves, v0_byRules_values_belows, (v0_byRules_values_reduced_above, v0_byRules_values_reduced_below), v0_byRules_values_papers), (v0_byRules_order_overs, v0_byRules_order_unders, v0_byRules_order_marks, v0_byRules_order_wrongs, v0_byRules_order_papers), v0_byRules_sums, v0_byRules_weighs, v0_byRules_downs), (v0_fraction_above, v0_fraction_below), (v0_said_a, v0_said_m, v0_said_f, v0_said_l, v0_said_n)) p1) (fun u => u) (fun u => wX9 a0 g v0_now_raws v0_now_kinds v0_now_figures v0_now_heavies v0_now_places v0_now_papers v0_now_lowers v0_now_uppers v0_now_rules v0_now_bounds v0_now_boundCount v0_now_tieWay v0_now_reached v0_kept_raws v0_kept_kinds v0_kept_figures v0_kept_heavies v0_kept_places v0_kept_papers v0_kept_lowers v0_kept_uppers v0_kept_rules v0_kept_bounds v0_kept_boundCount v0_kept_tieWay v0_kept_reached v0_spare_raws v0_spare_kinds v0_spare_figures v0_spare_heavies v0_spare_places v0_spare_papers v0_spare_lowers v0_spare_uppers v0_spare_rules v0_spare_bounds v0_spare_boundCount v0_spare_tieWay v0_spare_reached v0_isKept v0_letters_signs v0_letters_numbers v0_letters_size v0_letters_at v0_letters_word v0_told v0_toldCount v0_shelves_cells v0_shelves_sizes v0_shelves_made v0_refusals v0_order_overs v0_order_unders v0_order_marks v0_order_wrongs v0_order_papers v0_standing_values_marks v0_standing_values_weights v0_standing_values_places v0_standing_values_aboves v0_standing_values_belows v0_standing_values_reduced_above v0_standing_values_reduced_below v0_standing_values_papers v0_standing_blocks v0_standing_tops v0_standing_bottoms v0_standing_blocksNow v0_standing_mergesDone v0_standing_loss v0_byRules_values_marks v0_byRules_values_weights v0_byRules_values_places v0_byRules_values_aboves v0_byRules_values_belows v0_byRules_values_reduced_above v0_byRules_values_reduced_below v0_byRules_values_papers v0_byRules_order_overs v0_byRules_order_unders v0_byRules_order_marks v0_byRules_order_wrongs v0_byRules_order_papers v0_byRules_sums v0_byRules_weighs v0_byRules_downs v0_fraction_above v0_fraction_below v0_said_a v0_said_m v0_said_f v0_said_l v0_said_n)) 0 0 := by
  obtain ⟨out, hf⟩ := ne_ex hne
  have hf0 := hf
  refine Ct.of (own := RX9) (by decide +kernel) rfl (Nat.le_of_ble_eq_true rfl) ?_
  intro p e s m below meth c hx hb hr hml hown hts hlocks hin hK A H locs hA hP hD hS hE ls hl
  have hl : lv_has ls 2 [(0, .ref (a0 0)), (1, .int p1)] := hl
  unfold m_X9_count at hf
  refine lv_iload_n hx hb dX9_count_0 rfl (lv_at hl 1 rfl) ?_
  by_cases c0 : p1 = (0 : Int32)
  · have hf := it_t c0 hf
    refine lv_tableIn (off := 43) (tgt := 44) hx hb dX9_count_1 (by rw [c0]; decide) (by rw [c0]; decide) (by rw [c0]; rfl) (by decide) ?_
    refine lv_aload_n hx hb dX9_count_44 rfl (lv_at hl 0 rfl) ?_
    refine va_get (D := g.1) (ci := 10) (v := .ref (a0 1)) (C := RX9) (T := TX9) (N := 14) hx hb hts layX9 hown hK.1 hP 0 rfl rfl 0 (by decide) (hts _ kw231) (fun _ h9 => h9) rfl dX9_count_45 ?_
    refine cIp hP hD hS hA hE (fun hPc hDc hSc => rV (As := []) (rest := []) hx hb hml hown hts hK (c_X6_paperCount l g (fun i => a0 (i + 1)) v0_now_raws v0_now_kinds v0_now_figures v0_now_heavies v0_now_places v0_now_papers v0_now_lowers v0_now_uppers v0_now_rules v0_now_bounds v0_now_boundCount v0_now_tieWay v0_now_reached (bnd_ne hf)) svV_X6_paperCount kw1169 rfl rfl hPc hDc hSc rfl rfl hl.1 (Nat.le_of_ble_eq_true rfl) dX9_count_48 ⟨Nat.le_of_ble_eq_true rfl, Nat.le_of_ble_eq_true rfl, rfl, rfl, Nat.le_of_ble_eq_true rfl, Nat.le_of_ble_eq_true rfl⟩) [(1, 19)] rfl rfl rfl (fun x1 H locs ex1 nx1 hP hS => ?_)
    have hf := bnd_of hf ex1
    exact retI (v := x1) (u := x1) (val := fun u => u) (W1 := fun u => wX9 a0 g v0_now_raws v0_now_kinds v0_now_figures v0_now_heavies v0_now_places v0_now_papers v0_now_lowers v0_now_uppers v0_now_rules v0_now_bounds v0_now_boundCount v0_now_tieWay v0_now_reached v0_kept_raws v0_kept_kinds v0_kept_figures v0_kept_heavies v0_kept_places v0_kept_papers v0_kept_lowers v0_kept_uppers v0_kept_rules v0_kept_bounds v0_kept_boundCount v0_kept_tieWay v0_kept_reached v0_spare_raws v0_spare_kinds v0_spare_figures v0_spare_heavies v0_spare_places v0_spare_papers v0_spare_lowers v0_spare_uppers v0_spare_rules v0_spare_bounds v0_spare_boundCount v0_spare_tieWay v0_spare_reached v0_isKept v0_letters_signs v0_letters_numbers v0_letters_size v0_letters_at v0_letters_word v0_told v0_toldCount v0_shelves_cells v0_shelves_sizes v0_shelves_made v0_refusals v0_order_overs v0_order_unders v0_order_marks v0_order_wrongs v0_order_papers v0_standing_values_marks v0_standing_values_weights v0_standing_values_places v0_standing_values_aboves v0_standing_values_belows v0_standing_values_reduced_above v0_standing_values_reduced_below v0_standing_values_papers v0_standing_blocks v0_standing_tops v0_standing_bottoms v0_standing_blocksNow v0_standing_mergesDone v0_standing_loss v0_byRules_values_marks v0_byRules_values_weights v0_byRules_values_places v0_byRules_values_aboves v0_byRules_values_belows v0_byRules_values_reduced_above v0_byRules_values_reduced_below v0_byRules_values_papers v0_byRules_order_overs v0_byRules_order_unders v0_byRules_order_marks v0_byRules_order_wrongs v0_byRules_order_papers v0_byRules_sums v0_byRules_weighs v0_byRules_downs v0_fraction_above v0_fraction_below v0_said_a v0_said_m v0_said_f v0_said_l v0_said_n) hx hb hr hlocks hS hP hD (hf0.trans hf.symm) rfl rfl dX9_count_51
  have hf := it_f c0 hf
  by_cases c1 : p1 = (1 : Int32)
  · have hf := it_t c1 hf
    refine lv_tableIn (off := 51) (tgt := 52) hx hb dX9_count_1 (by rw [c1]; decide) (by rw [c1]; decide) (by rw [c1]; rfl) (by decide) ?_
    refine lv_aload_n hx hb dX9_count_52 rfl (lv_at hl 0 rfl) ?_
    refine va_get (D := g.1) (ci := 10) (v := .ref (a0 1)) (C := RX9) (T := TX9) (N := 14) hx hb hts layX9 hown hK.1 hP 0 rfl rfl 0 (by decide) (hts _ kw231) (fun _ h9 => h9) rfl dX9_count_53 ?_
    refine cIp hP hD hS hA hE (fun hPc hDc hSc => rV (As := []) (rest := []) hx hb hml hown hts hK (c_X6_ruleCount l g (fun i => a0 (i + 1)) v0_now_raws v0_now_kinds v0_now_figures v0_now_heavies v0_now_places v0_now_papers v0_now_lowers v0_now_uppers v0_now_rules v0_now_bounds v0_now_boundCount v0_now_tieWay v0_now_reached (bnd_ne hf)) svV_X6_ruleCount kw939 rfl rfl hPc hDc hSc rfl rfl hl.1 (Nat.le_of_ble_eq_true rfl) dX9_count_56 ⟨Nat.le_of_ble_eq_true rfl, Nat.le_of_ble_eq_true rfl, rfl, rfl, Nat.le_of_ble_eq_true rfl, Nat.le_of_ble_eq_true rfl⟩) [(1, 19)] rfl rfl rfl (fun x2 H locs ex2 nx2 hP hS => ?_)
    have hf := bnd_of hf ex2
    exact retI (v := x2) (u := x2) (val := fun u => u) (W1 := fun u => wX9 a0 g v0_now_raws v0_now_kinds v0_now_figures v0_now_heavies v0_now_places v0_now_papers v0_now_lowers v0_now_uppers v0_now_rules v0_now_bounds v0_now_boundCount v0_now_tieWay v0_now_reached v0_kept_raws v0_kept_kinds v0_kept_figures v0_kept_heavies v0_kept_places v0_kept_papers v0_kept_lowers v0_kept_uppers v0_kept_rules v0_kept_bounds v0_kept_boundCount v0_kept_tieWay v0_kept_reached v0_spare_raws v0_spare_kinds v0_spare_figures v0_spare_heavies v0_spare_places v0_spare_papers v0_spare_lowers v0_spare_uppers v0_spare_rules v0_spare_bounds v0_spare_boundCount v0_spare_tieWay v0_spare_reached v0_isKept v0_letters_signs v0_letters_numbers v0_letters_size v0_letters_at v0_letters_word v0_told v0_toldCount v0_shelves_cells v0_shelves_sizes v0_shelves_made v0_refusals v0_order_overs v0_order_unders v0_order_marks v0_order_wrongs v0_order_papers v0_standing_values_marks v0_standing_values_weights v0_standing_values_places v0_standing_values_aboves v0_standing_values_belows v0_standing_values_reduced_above v0_standing_values_reduced_below v0_standing_values_papers v0_standing_blocks v0_standing_tops v0_standing_bottoms v0_standing_blocksNow v0_standing_mergesDone v0_standing_loss v0_byRules_values_marks v0_byRules_values_weights v0_byRules_values_places v0_byRules_values_aboves v0_byRules_values_belows v0_byRules_values_reduced_above v0_byRules_values_reduced_below v0_byRules_values_papers v0_byRules_order_overs v0_byRules_order_unders v0_byRules_order_marks v0_byRules_order_wrongs v0_byRules_order_papers v0_byRules_sums v0_byRules_weighs v0_byRules_downs v0_fraction_above v0_fraction_below v0_said_a v0_said_m v0_said_f v0_said_l v0_said_n) hx hb hr hlocks hS hP hD (hf0.trans hf.symm) rfl rfl dX9_count_59
  have hf := it_f c1 hf
  by_cases c2 : p1 = (2 : Int32)
  · have hf := it_t c2 hf
    refine lv_tableIn (off := 59) (tgt := 60) hx hb dX9_count_1 (by rw [c2]; decide) (by rw [c2]; decide) (by rw [c2]; rfl) (by decide) ?_
    refine lv_aload_n hx hb dX9_count_60 rfl (lv_at hl 0 rfl) ?_
    refine va_get (D := g.1) (ci := 10) (v := .ref (a0 1)) (C := RX9) (T := TX9) (N := 14) hx hb hts layX9 hown hK.1 hP 0 rfl rfl 0 (by decide) (hts _ kw231) (fun _ h9 => h9) rfl dX9_count_61 ?_
    refine cIp hP hD hS hA hE (fun hPc hDc hSc => rV (As := []) (rest := []) hx hb hml hown hts hK (c_X6_limitCount l g (fun i => a0 (i + 1)) v0_now_raws v0_now_kinds v0_now_figures v0_now_heavies v0_now_places v0_now_papers v0_now_lowers v0_now_uppers v0_now_rules v0_now_bounds v0_now_boundCount v0_now_tieWay v0_now_reached (bnd_ne hf)) svV_X6_limitCount kw1257 rfl rfl hPc hDc hSc rfl rfl hl.1 (Nat.le_of_ble_eq_true rfl) dX9_count_64 ⟨Nat.le_of_ble_eq_true rfl, Nat.le_of_ble_eq_true rfl, rfl, rfl, Nat.le_of_ble_eq_true rfl, Nat.le_of_ble_eq_true rfl⟩) [(1, 19)] rfl rfl rfl (fun x3 H locs ex3 nx3 hP hS => ?_)
    have hf := bnd_of hf ex3
    exact retI (v := x3) (u := x3) (val := fun u => u) (W1 := fun u => wX9 a0 g v0_now_raws v0_now_kinds v0_now_figures v0_now_heavies v0_now_places v0_now_papers v0_now_lowers v0_now_uppers v0_now_rules v0_now_bounds v0_now_boundCount v0_now_tieWay v0_now_reached v0_kept_raws v0_kept_kinds v0_kept_figures v0_kept_heavies v0_kept_places v0_kept_papers v0_kept_lowers v0_kept_uppers v0_kept_rules v0_kept_bounds v0_kept_boundCount v0_kept_tieWay v0_kept_reached v0_spare_raws v0_spare_kinds v0_spare_figures v0_spare_heavies v0_spare_places v0_spare_papers v0_spare_lowers v0_spare_uppers v0_spare_rules v0_spare_bounds v0_spare_boundCount v0_spare_tieWay v0_spare_reached v0_isKept v0_letters_signs v0_letters_numbers v0_letters_size v0_letters_at v0_letters_word v0_told v0_toldCount v0_shelves_cells v0_shelves_sizes v0_shelves_made v0_refusals v0_order_overs v0_order_unders v0_order_marks v0_order_wrongs v0_order_papers v0_standing_values_marks v0_standing_values_weights v0_standing_values_places v0_standing_values_aboves v0_standing_values_belows v0_standing_values_reduced_above v0_standing_values_reduced_below v0_standing_values_papers v0_standing_blocks v0_standing_tops v0_standing_bottoms v0_standing_blocksNow v0_standing_mergesDone v0_standing_loss v0_byRules_values_marks v0_byRules_values_weights v0_byRules_values_places v0_byRules_values_aboves v0_byRules_values_belows v0_byRules_values_reduced_above v0_byRules_values_reduced_below v0_byRules_values_papers v0_byRules_order_overs v0_byRules_order_unders v0_byRules_order_marks v0_byRules_order_wrongs v0_byRules_order_papers v0_byRules_sums v0_byRules_weighs v0_byRules_downs v0_fraction_above v0_fraction_below v0_said_a v0_said_m v0_said_f v0_said_l v0_said_n) hx hb hr hlocks hS hP hD (hf0.trans hf.symm) rfl rfl dX9_count_67
  have hf := it_f c2 hf
  by_cases c3 : p1 = (3 : Int32)
  · have hf := it_t c3 hf
    refine lv_tableIn (off := 67) (tgt := 68) hx hb dX9_count_1 (by rw [c3]; decide) (by rw [c3]; decide) (by rw [c3]; rfl) (by decide) ?_
    refine lv_aload_n hx hb dX9_count_68 rfl (lv_at hl 0 rfl) ?_
    refine va_get (D := g.1) (ci := 10) (v := .ref (a0 1)) (C := RX9) (T := TX9) (N := 14) hx hb hts layX9 hown hK.1 hP 0 rfl rfl 0 (by decide) (hts _ kw231) (fun _ h9 => h9) rfl dX9_count_69 ?_
    refine cIp hP hD hS hA hE (fun hPc hDc hSc => rV (As := []) (rest := []) hx hb hml hown hts hK (c_X6_tiesNow l g (fun i => a0 (i + 1)) v0_now_raws v0_now_kinds v0_now_figures v0_now_heavies v0_now_places v0_now_papers v0_now_lowers v0_now_uppers v0_now_rules v0_now_bounds v0_now_boundCount v0_now_tieWay v0_now_reached (bnd_ne hf)) svV_X6_tiesNow kw1261 rfl rfl hPc hDc hSc rfl rfl hl.1 (Nat.le_of_ble_eq_true rfl) dX9_count_72 ⟨Nat.le_of_ble_eq_true rfl, Nat.le_of_ble_eq_true rfl, rfl, rfl, Nat.le_of_ble_eq_true rfl, Nat.le_of_ble_eq_true rfl⟩) [(1, 19)] rfl rfl rfl (fun x4 H locs ex4 nx4 hP hS => ?_)
    have hf := bnd_of hf ex4
    exact retI (v := x4) (u := x4) (val := fun u => u) (W1 := fun u => wX9 a0 g v0_now_raws v0_now_kinds v0_now_figures v0_now_heavies v0_now_places v0_now_papers v0_now_lowers v0_now_uppers v0_now_rules v0_now_bounds v0_now_boundCount v0_now_tieWay v0_now_reached v0_kept_raws v0_kept_kinds v0_kept_figures v0_kept_heavies v0_kept_places v0_kept_papers v0_kept_lowers v0_kept_uppers v0_kept_rules v0_kept_bounds v0_kept_boundCount v0_kept_tieWay v0_kept_reached v0_spare_raws v0_spare_kinds v0_spare_figures v0_spare_heavies v0_spare_places v0_spare_papers v0_spare_lowers v0_spare_uppers v0_spare_rules v0_spare_bounds v0_spare_boundCount v0_spare_tieWay v0_spare_reached v0_isKept v0_letters_signs v0_letters_numbers v0_letters_size v0_letters_at v0_letters_word v0_told v0_toldCount v0_shelves_cells v0_shelves_sizes v0_shelves_made v0_refusals v0_order_overs v0_order_unders v0_order_marks v0_order_wrongs v0_order_papers v0_standing_values_marks v0_standing_values_weights v0_standing_values_places v0_standing_values_aboves v0_standing_values_belows v0_standing_values_reduced_above v0_standing_values_reduced_below v0_standing_values_papers v0_standing_blocks v0_standing_tops v0_standing_bottoms v0_standing_blocksNow v0_standing_mergesDone v0_standing_loss v0_byRules_values_marks v0_byRules_values_weights v0_byRules_values_places v0_byRules_values_aboves v0_byRules_values_belows v0_byRules_values_reduced_above v0_byRules_values_reduced_below v0_byRules_values_papers v0_byRules_order_overs v0_byRules_order_unders v0_byRules_order_marks v0_byRules_order_wrongs v0_byRules_order_papers v0_byRules_sums v0_byRules_weighs v0_byRules_downs v0_fraction_above v0_fraction_below v0_said_a v0_said_m v0_said_f v0_said_l v0_said_n) hx hb hr hlocks hS hP hD (hf0.trans hf.symm) rfl rfl dX9_count_75
  have hf := it_f c3 hf
  by_cases c4 : p1 = (4 : Int32)
  · have hf := it_t c4 hf
    refine lv_tableIn (off := 75) (tgt := 76) hx hb dX9_count_1 (by rw [c4]; decide) (by rw [c4]; decide) (by rw [c4]; rfl) (by decide) ?_
    refine lv_aload_n hx hb dX9_count_76 rfl (lv_at hl 0 rfl) ?_
    refine va_get (D := g.1) (ci := 10) (v := .ref (a0 58)) (C := RX9) (T := TX9) (N := 14) hx hb hts layX9 hown hK.1 hP 0 rfl rfl 4 (by decide) (hts _ kw235) (fun _ h9 => h9) rfl dX9_count_77 ?_
    refine cIp hP hD hS hA hE (fun hPc hDc hSc => rV (As := []) (rest := []) hx hb hml hown hts hK (c_X3_size l g (fun i => a0 (i + 58)) v0_letters_signs v0_letters_numbers v0_letters_size v0_letters_at v0_letters_word (bnd_ne hf)) svV_X3_size kw1262 rfl rfl hPc hDc hSc rfl rfl hl.1 (Nat.le_of_ble_eq_true rfl) dX9_count_80 ⟨Nat.le_of_ble_eq_true rfl, Nat.le_of_ble_eq_true rfl, rfl, rfl, Nat.le_of_ble_eq_true rfl, Nat.le_of_ble_eq_true rfl⟩) [(58, 5)] rfl rfl rfl (fun x5 H locs ex5 nx5 hP hS => ?_)
    have hf := bnd_of hf ex5
    exact retI (v := x5) (u := x5) (val := fun u => u) (W1 := fun u => wX9 a0 g v0_now_raws v0_now_kinds v0_now_figures v0_now_heavies v0_now_places v0_now_papers v0_now_lowers v0_now_uppers v0_now_rules v0_now_bounds v0_now_boundCount v0_now_tieWay v0_now_reached v0_kept_raws v0_kept_kinds v0_kept_figures v0_kept_heavies v0_kept_places v0_kept_papers v0_kept_lowers v0_kept_uppers v0_kept_rules v0_kept_bounds v0_kept_boundCount v0_kept_tieWay v0_kept_reached v0_spare_raws v0_spare_kinds v0_spare_figures v0_spare_heavies v0_spare_places v0_spare_papers v0_spare_lowers v0_spare_uppers v0_spare_rules v0_spare_bounds v0_spare_boundCount v0_spare_tieWay v0_spare_reached v0_isKept v0_letters_signs v0_letters_numbers v0_letters_size v0_letters_at v0_letters_word v0_told v0_toldCount v0_shelves_cells v0_shelves_sizes v0_shelves_made v0_refusals v0_order_overs v0_order_unders v0_order_marks v0_order_wrongs v0_order_papers v0_standing_values_marks v0_standing_values_weights v0_standing_values_places v0_standing_values_aboves v0_standing_values_belows v0_standing_values_reduced_above v0_standing_values_reduced_below v0_standing_values_papers v0_standing_blocks v0_standing_tops v0_standing_bottoms v0_standing_blocksNow v0_standing_mergesDone v0_standing_loss v0_byRules_values_marks v0_byRules_values_weights v0_byRules_values_places v0_byRules_values_aboves v0_byRules_values_belows v0_byRules_values_reduced_above v0_byRules_values_reduced_below v0_byRules_values_papers v0_byRules_order_overs v0_byRules_order_unders v0_byRules_order_marks v0_byRules_order_wrongs v0_byRules_order_papers v0_byRules_sums v0_byRules_weighs v0_byRules_downs v0_fraction_above v0_fraction_below v0_said_a v0_said_m v0_said_f v0_said_l v0_said_n) hx hb hr hlocks hS hP hD (hf0.trans hf.symm) rfl rfl dX9_count_83
  have hf := it_f c4 hf
  by_cases c5 : p1 = (5 : Int32)
  · have hf := it_t c5 hf
    refine lv_tableIn (off := 83) (tgt := 84) hx hb dX9_count_1 (by rw [c5]; decide) (by rw [c5]; decide) (by rw [c5]; rfl) (by decide) ?_
    refine lv_aload_n hx hb dX9_count_84 rfl (lv_at hl 0 rfl) ?_
    refine va_get (D := g.1) (ci := 10) (v := .int v0_toldCount) (C := RX9) (T := TX9) (N := 14) hx hb hts layX9 hown hK.1 hP 0 rfl rfl 6 (by decide) (hts _ kw237) (fun _ h9 => h9) rfl dX9_count_85 ?_
    exact retI (v := v0_toldCount) (u := v0_toldCount) (val := fun u => u) (W1 := fun u => wX9 a0 g v0_now_raws v0_now_kinds v0_now_figures v0_now_heavies v0_now_places v0_now_papers v0_now_lowers v0_now_uppers v0_now_rules v0_now_bounds v0_now_boundCount v0_now_tieWay v0_now_reached v0_kept_raws v0_kept_kinds v0_kept_figures v0_kept_heavies v0_kept_places v0_kept_papers v0_kept_lowers v0_kept_uppers v0_kept_rules v0_kept_bounds v0_kept_boundCount v0_kept_tieWay v0_kept_reached v0_spare_raws v0_spare_kinds v0_spare_figures v0_spare_heavies v0_spare_places v0_spare_papers v0_spare_lowers v0_spare_uppers v0_spare_rules v0_spare_bounds v0_spare_boundCount v0_spare_tieWay v0_spare_reached v0_isKept v0_letters_signs v0_letters_numbers v0_letters_size v0_letters_at v0_letters_word v0_told v0_toldCount v0_shelves_cells v0_shelves_sizes v0_shelves_made v0_refusals v0_order_overs v0_order_unders v0_order_marks v0_order_wrongs v0_order_papers v0_standing_values_marks v0_standing_values_weights v0_standing_values_places v0_standing_values_aboves v0_standing_values_belows v0_standing_values_reduced_above v0_standing_values_reduced_below v0_standing_values_papers v0_standing_blocks v0_standing_tops v0_standing_bottoms v0_standing_blocksNow v0_standing_mergesDone v0_standing_loss v0_byRules_values_marks v0_byRules_values_weights v0_byRules_values_places v0_byRules_values_aboves v0_byRules_values_belows v0_byRules_values_reduced_above v0_byRules_values_reduced_below v0_byRules_values_papers v0_byRules_order_overs v0_byRules_order_unders v0_byRules_order_marks v0_byRules_order_wrongs v0_byRules_order_papers v0_byRules_sums v0_byRules_weighs v0_byRules_downs v0_fraction_above v0_fraction_below v0_said_a v0_said_m v0_said_f v0_said_l v0_said_n) hx hb hr hlocks hS hP hD (hf0.trans hf.symm) rfl rfl dX9_count_88
  have hf := it_f c5 hf
  by_cases c6 : p1 = (6 : Int32)
  · have hf := it_t c6 hf
    refine lv_tableIn (off := 88) (tgt := 89) hx hb dX9_count_1 (by rw [c6]; decide) (by rw [c6]; decide) (by rw [c6]; rfl) (by decide) ?_
    refine lv_aload_n hx hb dX9_count_89 rfl (lv_at hl 0 rfl) ?_
    refine va_get (D := g.1) (ci := 10) (v := .ref (a0 1)) (C := RX9) (T := TX9) (N := 14) hx hb hts layX9 hown hK.1 hP 0 rfl rfl 0 (by decide) (hts _ kw231) (fun _ h9 => h9) rfl dX9_count_90 ?_
    refine cIp hP hD hS hA hE (fun hPc hDc hSc => rV (As := []) (rest := []) hx hb hml hown hts hK (c_X6_brokenRules l g (fun i => a0 (i + 1)) v0_now_raws v0_now_kinds v0_now_figures v0_now_heavies v0_now_places v0_now_papers v0_now_lowers v0_now_uppers v0_now_rules v0_now_bounds v0_now_boundCount v0_now_tieWay v0_now_reached (bnd_ne hf)) svV_X6_brokenRules kw1266 rfl rfl hPc hDc hSc rfl rfl hl.1 (Nat.le_of_ble_eq_true rfl) dX9_count_93 ⟨Nat.le_of_ble_eq_true rfl, Nat.le_of_ble_eq_true rfl, rfl, rfl, Nat.le_of_ble_eq_true rfl, Nat.le_of_ble_eq_true rfl⟩) [(1, 19)] rfl rfl rfl (fun x6 H locs ex6 nx6 hP hS => ?_)
    have hf := bnd_of hf ex6
    exact retI (v := x6) (u := x6) (val := fun u => u) (W1 := fun u => wX9 a0 g v0_now_raws v0_now_kinds v0_now_figures v0_now_heavies v0_now_places v0_now_papers v0_now_lowers v0_now_uppers v0_now_rules v0_now_bounds v0_now_boundCount v0_now_tieWay v0_now_reached v0_kept_raws v0_kept_kinds v0_kept_figures v0_kept_heavies v0_kept_places v0_kept_papers v0_kept_lowers v0_kept_uppers v0_kept_rules v0_kept_bounds v0_kept_boundCount v0_kept_tieWay v0_kept_reached v0_spare_raws v0_spare_kinds v0_spare_figures v0_spare_heavies v0_spare_places v0_spare_papers v0_spare_lowers v0_spare_uppers v0_spare_rules v0_spare_bounds v0_spare_boundCount v0_spare_tieWay v0_spare_reached v0_isKept v0_letters_signs v0_letters_numbers v0_letters_size v0_letters_at v0_letters_word v0_told v0_toldCount v0_shelves_cells v0_shelves_sizes v0_shelves_made v0_refusals v0_order_overs v0_order_unders v0_order_marks v0_order_wrongs v0_order_papers v0_standing_values_marks v0_standing_values_weights v0_standing_values_places v0_standing_values_aboves v0_standing_values_belows v0_standing_values_reduced_above v0_standing_values_reduced_below v0_standing_values_papers v0_standing_blocks v0_standing_tops v0_standing_bottoms v0_standing_blocksNow v0_standing_mergesDone v0_standing_loss v0_byRules_values_marks v0_byRules_values_weights v0_byRules_values_places v0_byRules_values_aboves v0_byRules_values_belows v0_byRules_values_reduced_above v0_byRules_values_reduced_below v0_byRules_values_papers v0_byRules_order_overs v0_byRules_order_unders v0_byRules_order_marks v0_byRules_order_wrongs v0_byRules_order_papers v0_byRules_sums v0_byRules_weighs v0_byRules_downs v0_fraction_above v0_fraction_below v0_said_a v0_said_m v0_said_f v0_said_l v0_said_n) hx hb hr hlocks hS hP hD (hf0.trans hf.symm) rfl rfl dX9_count_96
  have hf := it_f c6 hf
  refine lv_tableOut (tgt := 97) hx hb dX9_count_1 (by have q0 := lv_neT c0 (a := 0) rfl; have q1 := lv_neT c1 (a := 1) rfl; have q2 := lv_neT c2 (a := 2) rfl; have q3 := lv_neT c3 (a := 3) rfl; have q4 := lv_neT c4 (a := 4) rfl; have q5 := lv_neT c5 (a := 5) rfl; have q6 := lv_neT c6 (a := 6) rfl; omega) (by decide) ?_
  refine lv_iload_n hx hb dX9_count_97 rfl (lv_at hl 1 rfl) ?_
  refine lv_bipush (v := 11) hx hb dX9_count_98 (by decide) ?_
  refine lv_icmp_lt (tgt := 123) hx hb dX9_count_100 (by decide) (fun cb => ?_) (fun cb => ?_)
  · have hf := it_t cb hf
    refine lv_bipush (v := (-9)) hx hb dX9_count_123 (by decide) ?_
    exact retI (v := (-9 : Int32)) (u := (-9 : Int32)) (val := fun u => u) (W1 := fun u => wX9 a0 g v0_now_raws v0_now_kinds v0_now_figures v0_now_heavies v0_now_places v0_now_papers v0_now_lowers v0_now_uppers v0_now_rules v0_now_bounds v0_now_boundCount v0_now_tieWay v0_now_reached v0_kept_raws v0_kept_kinds v0_kept_figures v0_kept_heavies v0_kept_places v0_kept_papers v0_kept_lowers v0_kept_uppers v0_kept_rules v0_kept_bounds v0_kept_boundCount v0_kept_tieWay v0_kept_reached v0_spare_raws v0_spare_kinds v0_spare_figures v0_spare_heavies v0_spare_places v0_spare_papers v0_spare_lowers v0_spare_uppers v0_spare_rules v0_spare_bounds v0_spare_boundCount v0_spare_tieWay v0_spare_reached v0_isKept v0_letters_signs v0_letters_numbers v0_letters_size v0_letters_at v0_letters_word v0_told v0_toldCount v0_shelves_cells v0_shelves_sizes v0_shelves_made v0_refusals v0_order_overs v0_order_unders v0_order_marks v0_order_wrongs v0_order_papers v0_standing_values_marks v0_standing_values_weights v0_standing_values_places v0_standing_values_aboves v0_standing_values_belows v0_standing_values_reduced_above v0_standing_values_reduced_below v0_standing_values_papers v0_standing_blocks v0_standing_tops v0_standing_bottoms v0_standing_blocksNow v0_standing_mergesDone v0_standing_loss v0_byRules_values_marks v0_byRules_values_weights v0_byRules_values_places v0_byRules_values_aboves v0_byRules_values_belows v0_byRules_values_reduced_above v0_byRules_values_reduced_below v0_byRules_values_papers v0_byRules_order_overs v0_byRules_order_unders v0_byRules_order_marks v0_byRules_order_wrongs v0_byRules_order_papers v0_byRules_sums v0_byRules_weighs v0_byRules_downs v0_fraction_above v0_fraction_below v0_said_a v0_said_m v0_said_f v0_said_l v0_said_n) hx hb hr hlocks hS hP hD (hf0.trans hf.symm) rfl rfl dX9_count_125
  have hf := it_f cb hf
  refine lv_iload_n hx hb dX9_count_103 rfl (lv_at hl 1 rfl) ?_
  refine lv_bipush (v := 16) hx hb dX9_count_104 (by decide) ?_
  refine lv_icmp_gt (tgt := 123) hx hb dX9_count_106 (by decide) (fun cb => ?_) (fun cb => ?_)
  · have hf := it_t cb hf
    refine lv_bipush (v := (-9)) hx hb dX9_count_123 (by decide) ?_
    exact retI (v := (-9 : Int32)) (u := (-9 : Int32)) (val := fun u => u) (W1 := fun u => wX9 a0 g v0_now_raws v0_now_kinds v0_now_figures v0_now_heavies v0_now_places v0_now_papers v0_now_lowers v0_now_uppers v0_now_rules v0_now_bounds v0_now_boundCount v0_now_tieWay v0_now_reached v0_kept_raws v0_kept_kinds v0_kept_figures v0_kept_heavies v0_kept_places v0_kept_papers v0_kept_lowers v0_kept_uppers v0_kept_rules v0_kept_bounds v0_kept_boundCount v0_kept_tieWay v0_kept_reached v0_spare_raws v0_spare_kinds v0_spare_figures v0_spare_heavies v0_spare_places v0_spare_papers v0_spare_lowers v0_spare_uppers v0_spare_rules v0_spare_bounds v0_spare_boundCount v0_spare_tieWay v0_spare_reached v0_isKept v0_letters_signs v0_letters_numbers v0_letters_size v0_letters_at v0_letters_word v0_told v0_toldCount v0_shelves_cells v0_shelves_sizes v0_shelves_made v0_refusals v0_order_overs v0_order_unders v0_order_marks v0_order_wrongs v0_order_papers v0_standing_values_marks v0_standing_values_weights v0_standing_values_places v0_standing_values_aboves v0_standing_values_belows v0_standing_values_reduced_above v0_standing_values_reduced_below v0_standing_values_papers v0_standing_blocks v0_standing_tops v0_standing_bottoms v0_standing_blocksNow v0_standing_mergesDone v0_standing_loss v0_byRules_values_marks v0_byRules_values_weights v0_byRules_values_places v0_byRules_values_aboves v0_byRules_values_belows v0_byRules_values_reduced_above v0_byRules_values_reduced_below v0_byRules_values_papers v0_byRules_order_overs v0_byRules_order_unders v0_byRules_order_marks v0_byRules_order_wrongs v0_byRules_order_papers v0_byRules_sums v0_byRules_weighs v0_byRules_downs v0_fraction_above v0_fraction_below v0_said_a v0_said_m v0_said_f v0_said_l v0_said_n) hx hb hr hlocks hS hP hD (hf0.trans hf.symm) rfl rfl dX9_count_125
  have hf := it_f cb hf
  refine lv_aload_n hx hb dX9_count_109 rfl (lv_at hl 0 rfl) ?_
  refine va_get (D := g.1) (ci := 10) (v := .ref (a0 71)) (C := RX9) (T := TX9) (N := 14) hx hb hts layX9 hown hK.1 hP 0 rfl rfl 8 (by decide) (hts _ kw239) (fun _ h9 => h9) rfl dX9_count_110 ?_
  refine lv_iload_n hx hb dX9_count_113 rfl (lv_at hl 1 rfl) ?_
  refine lv_bipush (v := 10) hx hb dX9_count_114 (by decide) ?_
  refine lv_isub hx hb dX9_count_116 ?_
  refine cIp hP hD hS hA hE (fun hPc hDc hSc => rV (As := [.int (p1 - (10 : Int32))]) (rest := []) hx hb hml hown hts hK (c_X2_get l g (fun i => a0 (i + 71)) 7 v0_refusals (p1 - (10 : Int32)) (bnd_ne hf)) svV_X2_get kw267 rfl rfl hPc hDc hSc rfl rfl hl.1 (Nat.le_of_ble_eq_true rfl) dX9_count_117 ⟨Nat.le_of_ble_eq_true rfl, Nat.le_of_ble_eq_true rfl, rfl, rfl, Nat.le_of_ble_eq_true rfl, Nat.le_of_ble_eq_true rfl⟩) [(71, 2)] rfl rfl rfl (fun x7 H locs ex7 nx7 hP hS => ?_)
  have hf := bnd_of hf ex7
  refine lv_goto (tgt := 125) hx hb dX9_count_120 (by decide) ?_
  exact retI (v := x7) (u := x7) (val := fun u => u) (W1 := fun u => wX9 a0 g v0_now_raws v0_now_kinds v0_now_figures v0_now_heavies v0_now_places v0_now_papers v0_now_lowers v0_now_uppers v0_now_rules v0_now_bounds v0_now_boundCount v0_now_tieWay v0_now_reached v0_kept_raws v0_kept_kinds v0_kept_figures v0_kept_heavies v0_kept_places v0_kept_papers v0_kept_lowers v0_kept_uppers v0_kept_rules v0_kept_bounds v0_kept_boundCount v0_kept_tieWay v0_kept_reached v0_spare_raws v0_spare_kinds v0_spare_figures v0_spare_heavies v0_spare_places v0_spare_papers v0_spare_lowers v0_spare_uppers v0_spare_rules v0_spare_bounds v0_spare_boundCount v0_spare_tieWay v0_spare_reached v0_isKept v0_letters_signs v0_letters_numbers v0_letters_size v0_letters_at v0_letters_word v0_told v0_toldCount v0_shelves_cells v0_shelves_sizes v0_shelves_made v0_refusals v0_order_overs v0_order_unders v0_order_marks v0_order_wrongs v0_order_papers v0_standing_values_marks v0_standing_values_weights v0_standing_values_places v0_standing_values_aboves v0_standing_values_belows v0_standing_values_reduced_above v0_standing_values_reduced_below v0_standing_values_papers v0_standing_blocks v0_standing_tops v0_standing_bottoms v0_standing_blocksNow v0_standing_mergesDone v0_standing_loss v0_byRules_values_marks v0_byRules_values_weights v0_byRules_values_places v0_byRules_values_aboves v0_byRules_values_belows v0_byRules_values_reduced_above v0_byRules_values_reduced_below v0_byRules_values_papers v0_byRules_order_overs v0_byRules_order_unders v0_byRules_order_marks v0_byRules_order_wrongs v0_byRules_order_papers v0_byRules_sums v0_byRules_weighs v0_byRules_downs v0_fraction_above v0_fraction_below v0_said_a v0_said_m v0_said_f v0_said_l v0_said_n) hx hb hr hlocks hS hP hD (hf0.trans hf.symm) rfl rfl dX9_count_125
set_option maxHeartbeats 4000000 in
set_option maxRecDepth 100000 in
theorem c_X9_pairsIn (l : Launch) (g : GG) (a0 : Nat → Nat) (v0_now_raws : (Nat → Int32)) (v0_now_kinds : (Nat → Int32)) (v0_now_figures : (Nat → Int32)) (v0_now_heavies : (Nat → Int32)) (v0_now_places : (Nat → Int32)) (v0_now_papers : Int32) (v0_now_lowers : (Nat → Int32)) (v0_now_uppers : (Nat → Int32)) (v0_now_rules : Int32) (v0_now_bounds : (Nat → Int32)) (v0_now_boundCount : Int32) (v0_now_tieWay : Int32) (v0_now_reached : (Nat → Int32)) (v0_kept_raws : (Nat → Int32)) (v0_kept_kinds : (Nat → Int32)) (v0_kept_figures : (Nat → Int32)) (v0_kept_heavies : (Nat → Int32)) (v0_kept_places : (Nat → Int32)) (v0_kept_papers : Int32) (v0_kept_lowers : (Nat → Int32)) (v0_kept_uppers : (Nat → Int32)) (v0_kept_rules : Int32) (v0_kept_bounds : (Nat → Int32)) (v0_kept_boundCount : Int32) (v0_kept_tieWay : Int32) (v0_kept_reached : (Nat → Int32)) (v0_spare_raws : (Nat → Int32)) (v0_spare_kinds : (Nat → Int32)) (v0_spare_figures : (Nat → Int32)) (v0_spare_heavies : (Nat → Int32)) (v0_spare_places : (Nat → Int32)) (v0_spare_papers : Int32) (v0_spare_lowers : (Nat → Int32)) (v0_spare_uppers : (Nat → Int32)) (v0_spare_rules : Int32) (v0_spare_bounds : (Nat → Int32)) (v0_spare_boundCount : Int32) (v0_spare_tieWay : Int32) (v0_spare_reached : (Nat → Int32)) (v0_isKept : Int32) (v0_letters_signs : (Nat → Int32)) (v0_letters_numbers : (Nat → Int32)) (v0_letters_size : Int32) (v0_letters_at : Int32) (v0_letters_word : Int32) (v0_told : (Nat → Int32)) (v0_toldCount : Int32) (v0_shelves_cells : (Nat → Int64)) (v0_shelves_sizes : (Nat → Int32)) (v0_shelves_made : (Nat → Int32)) (v0_refusals : (Nat → Int32)) (v0_order_overs : (Nat → Int32)) (v0_order_unders : (Nat → Int32)) (v0_order_marks : (Nat → Int32)) (v0_order_wrongs : (Nat → Int32)) (v0_order_papers : Int32) (v0_standing_values_marks : (Nat → Int32)) (v0_standing_values_weights : (Nat → Int32)) (v0_standing_values_places : (Nat → Int32)) (v0_standing_values_aboves : (Nat → Int32)) (v0_standing_values_belows : (Nat → Int32)) (v0_standing_values_reduced_above : Int64) (v0_standing_values_reduced_below : Int64) (v0_standing_values_papers : Int32) (v0_standing_blocks : (Nat → Int32)) (v0_standing_tops : (Nat → Int32)) (v0_standing_bottoms : (Nat → Int32)) (v0_standing_blocksNow : Int32) (v0_standing_mergesDone : Int32) (v0_standing_loss : Int32) (v0_byRules_values_marks : (Nat → Int32)) (v0_byRules_values_weights : (Nat → Int32)) (v0_byRules_values_places : (Nat → Int32)) (v0_byRules_values_aboves : (Nat → Int32)) (v0_byRules_values_belows : (Nat → Int32)) (v0_byRules_values_reduced_above : Int64) (v0_byRules_values_reduced_below : Int64) (v0_byRules_values_papers : Int32) (v0_byRules_order_overs : (Nat → Int32)) (v0_byRules_order_unders : (Nat → Int32)) (v0_byRules_order_marks : (Nat → Int32)) (v0_byRules_order_wrongs : (Nat → Int32)) (v0_byRules_order_papers : Int32) (v0_byRules_sums : (Nat → Int32)) (v0_byRules_weighs : (Nat → Int32)) (v0_byRules_downs : (Nat → Int32)) (v0_fraction_above : Int64) (v0_fraction_below : Int64) (v0_said_a : Nat) (v0_said_m : Nat) (v0_said_f : (Nat → Int32)) (v0_said_l : Int32) (v0_said_n : Int32) (a1 : Nat → Nat) (v1_raws : (Nat → Int32)) (v1_kinds : (Nat → Int32)) (v1_figures : (Nat → Int32)) (v1_heavies : (Nat → Int32)) (v1_places : (Nat → Int32)) (v1_papers : Int32) (v1_lowers : (Nat → Int32)) (v1_uppers : (Nat → Int32)) (v1_rules : Int32) (v1_bounds : (Nat → Int32)) (v1_boundCount : Int32) (v1_tieWay : Int32) (v1_reached : (Nat → Int32)) (hne : (m_X9_pairsIn ((v0_now_raws, v0_now_kinds, v0_now_figures, v0_now_heavies, v0_now_places, v0_now_papers, v0_now_lowers, v0_now_uppers, v0_now_rules, v0_now_bounds, v0_now_boundCount, v0_now_tieWay, v0_now_reached), (v0_kept_raws, v0_kept_kinds, v0_kept_figures, v0_kept_heavies, v0_kept_places, v0_kept_papers, v0_kept_lowers, v0_kept_uppers, v0_kept_rules, v0_kept_bounds, v0_kept_boundCount, v0_kept_tieWay, v0_kept_reached), (v0_spare_raws, v0_spare_kinds, v0_spare_figures, v0_spare_heavies, v0_spare_places, v0_spare_papers, v0_spare_lowers, v0_spare_uppers, v0_spare_rules, v0_spare_bounds, v0_spare_boundCount, v0_spare_tieWay, v0_spare_reached), v0_isKept, (v0_letters_signs, v0_letters_numbers, v0_letters_size, v0_letters_at, v0_letters_word), v0_told, v0_toldCount, (v0_shelves_cells, v0_shelves_sizes, v0_shelves_made), v0_refusals, (v0_order_overs, v0_order_unders, v0_order_marks, v0_order_wrongs, v0_order_papers), ((v0_standing_values_marks, v0_standing_values_weights, v0_standing_values_places, v0_standing_values_aboves, v0_standing_values_belows, (v0_standing_values_reduced_above, v0_standing_values_reduced_below), v0_standing_values_papers), v0_standing_blocks, v0_standing_tops, v0_standing_bottoms, v0_standing_blocksNow, v0_standing_mergesDone, v0_standing_loss), ((v0_byRules_values_marks, v0_byRules_values_weights, v0_byRules_values_places, v0_byRules_values_aboves, v0_byRules_values_belows, (v0_byRules_values_reduced_above, v0_byRules_values_reduced_below), v0_byRules_values_papers), (v0_byRules_order_overs, v0_byRules_order_unders, v0_byRules_order_marks, v0_byRules_order_wrongs, v0_byRules_order_papers), v0_byRules_sums, v0_byRules_weighs, v0_byRules_downs), (v0_fraction_above, v0_fraction_below), (v0_said_a, v0_said_m, v0_said_f, v0_said_l, v0_said_n)) (v1_raws, v1_kinds, v1_figures, v1_heavies, v1_places, v1_papers, v1_lowers, v1_uppers, v1_rules, v1_bounds, v1_boundCount, v1_tieWay, v1_reached)) ≠ none) : Ct l g yX9_pairsIn cX9_pairsIn 2 (some .int) ({ frames := 4, cells := 0, slots := 0, locals := 90 } : Room) [.ref (a0 0), .ref (a1 0)] (wX9 a0 g v0_now_raws v0_now_kinds v0_now_figures v0_now_heavies v0_now_places v0_now_papers v0_now_lowers v0_now_uppers v0_now_rules v0_now_bounds v0_now_boundCount v0_now_tieWay v0_now_reached v0_kept_raws v0_kept_kinds v0_kept_figures v0_kept_heavies v0_kept_places v0_kept_papers v0_kept_lowers v0_kept_uppers v0_kept_rules v0_kept_bounds v0_kept_boundCount v0_kept_tieWay v0_kept_reached v0_spare_raws v0_spare_kinds v0_spare_figures v0_spare_heavies v0_spare_places v0_spare_papers v0_spare_lowers v0_spare_uppers v0_spare_rules v0_spare_bounds v0_spare_boundCount v0_spare_tieWay v0_spare_reached v0_isKept v0_letters_signs v0_letters_numbers v0_letters_size v0_letters_at v0_letters_word v0_told v0_toldCount v0_shelves_cells v0_shelves_sizes v0_shelves_made v0_refusals v0_order_overs v0_order_unders v0_order_marks v0_order_wrongs v0_order_papers v0_standing_values_marks v0_standing_values_weights v0_standing_values_places v0_standing_values_aboves v0_standing_values_belows v0_standing_values_reduced_above v0_standing_values_reduced_below v0_standing_values_papers v0_standing_blocks v0_standing_tops v0_standing_bottoms v0_standing_blocksNow v0_standing_mergesDone v0_standing_loss v0_byRules_values_marks v0_byRules_values_weights v0_byRules_values_places v0_byRules_values_aboves v0_byRules_values_belows v0_byRules_values_reduced_above v0_byRules_values_reduced_below v0_byRules_values_papers v0_byRules_order_overs v0_byRules_order_unders v0_byRules_order_marks v0_byRules_order_wrongs v0_byRules_order_papers v0_byRules_sums v0_byRules_weighs v0_byRules_downs v0_fraction_above v0_fraction_below v0_said_a v0_said_m v0_said_f v0_said_l v0_said_n ++ wX6 a1 g v1_raws v1_kinds v1_figures v1_heavies v1_places v1_papers v1_lowers v1_uppers v1_rules v1_bounds v1_boundCount v1_tieWay v1_reached) (Qi g .int (m_X9_pairsIn ((v0_now_raws, v0_now_kinds, v0_now_figures, v0_now_heavies, v0_now_places, v0_now_papers, v0_now_lowers, v0_now_uppers, v0_now_rules, v0_now_bounds, v0_now_boundCount, v0_now_tieWay, v0_now_reached), (v0_kept_raws, v0_kept_kinds, v0_kept_figures, v0_kept_heavies, v0_kept_places, v0_kept_papers, v0_kept_lowers, v0_kept_uppers, v0_kept_rules, v0_kept_bounds, v0_kept_boundCount, v0_kept_tieWay, v0_kept_reached), (v0_spare_raws, v0_spare_kinds, v0_spare_figures, v0_spare_heavies, v0_spare_places, v0_spare_papers, v0_spare_lowers, v0_spare_uppers, v0_spare_rules, v0_spare_bounds, v0_spare_boundCount, v0_spare_tieWay, v0_spare_reached), v0_isKept, (v0_letters_signs, v0_letters_numbers, v0_letters_size, v0_letters_at, v0_letters_word), v0_told, v0_toldCount, (v0_shelves_cells, v0_shelves_sizes, v0_shelves_made), v0_refusals, (v0_order_overs, v0_order_unders, v0_order_marks, v0_order_wrongs, v0_order_papers), ((v0_standing_values_marks, v0_standing_values_weights, v0_standing_values_places, v0_standing_values_aboves, v0_standing_values_belows, (v0_standing_values_reduced_above, v0_standing_values_reduced_below), v0_standing_values_papers), v0_standing_blocks, v0_standing_tops, v0_standing_bottoms, v0_standing_blocksNow, v0_standing_mergesDone, v0_standing_loss), ((v0_byRules_values_marks, v0_byRules_values_weights, v0_byRules_values_places, v0_byRules_values_aboves, v0_byRules_values_belows, (v0_byRules_values_reduced_above, v0_byRules_values_reduced_below), v0_byRules_values_papers), (v0_byRules_order_overs, v0_byRules_order_unders, v0_byRules_order_marks, v0_byRules_order_wrongs, v0_byRules_order_papers), v0_byRules_sums, v0_byRules_weighs, v0_byRules_downs), (v0_fraction_above, v0_fraction_below), (v0_said_a, v0_said_m, v0_said_f, v0_said_l, v0_said_n)) (v1_raws, v1_kinds, v1_figures, v1_heavies, v1_places, v1_papers, v1_lowers, v1_uppers, v1_rules, v1_bounds, v1_boundCount, v1_tieWay, v1_reached)) (fun u => u.1) (fun u => wX9 a0 g v0_now_raws v0_now_kinds v0_now_figures v0_now_heavies v0_now_places v0_now_papers v0_now_lowers v0_now_uppers v0_now_rules v0_now_bounds v0_now_boundCount v0_now_tieWay v0_now_reached v0_kept_raws v0_kept_kinds v0_kept_figures v0_kept_heavies v0_kept_places v0_kept_papers v0_kept_lowers v0_kept_uppers v0_kept_rules v0_kept_bounds v0_kept_boundCount v0_kept_tieWay v0_kept_reached v0_spare_raws v0_spare_kinds v0_spare_figures v0_spare_heavies v0_spare_places v0_spare_papers v0_spare_lowers v0_spare_uppers v0_spare_rules v0_spare_bounds v0_spare_boundCount v0_spare_tieWay v0_spare_reached v0_isKept v0_letters_signs v0_letters_numbers v0_letters_size v0_letters_at v0_letters_word v0_told v0_toldCount v0_shelves_cells v0_shelves_sizes v0_shelves_made v0_refusals u.2.1 u.2.2.1 u.2.2.2.1 u.2.2.2.2.1 u.2.2.2.2.2 v0_standing_values_marks v0_standing_values_weights v0_standing_values_places v0_standing_values_aboves v0_standing_values_belows v0_standing_values_reduced_above v0_standing_values_reduced_below v0_standing_values_papers v0_standing_blocks v0_standing_tops v0_standing_bottoms v0_standing_blocksNow v0_standing_mergesDone v0_standing_loss v0_byRules_values_marks v0_byRules_values_weights v0_byRules_values_places v0_byRules_values_aboves v0_byRules_values_belows v0_byRules_values_reduced_above v0_byRules_values_reduced_below v0_byRules_values_papers v0_byRules_order_overs v0_byRules_order_unders v0_byRules_order_marks v0_byRules_order_wrongs v0_byRules_order_papers v0_byRules_sums v0_byRules_weighs v0_byRules_downs v0_fraction_above v0_fraction_below v0_said_a v0_said_m v0_said_f v0_said_l v0_said_n ++ wX6 a1 g v1_raws v1_kinds v1_figures v1_heavies v1_places v1_papers v1_lowers v1_uppers v1_rules v1_bounds v1_boundCount v1_tieWay v1_reached)) 0 0 := by
  obtain ⟨out, hf⟩ := ne_ex hne
  have hf0 := hf
  refine Ct.of (own := RX9) (by decide +kernel) rfl (Nat.le_of_ble_eq_true rfl) ?_
  intro p e s m below meth c hx hb hr hml hown hts hlocks hin hK A H locs hA hP hD hS hE ls hl
  have hl : lv_has ls 2 [(0, .ref (a0 0)), (1, .ref (a1 0))] := hl
  unfold m_X9_pairsIn at hf
  refine lv_aload_n hx hb dX9_pairsIn_0 rfl (lv_at hl 0 rfl) ?_
  refine va_get (D := g.1) (ci := 10) (v := .ref (a0 73)) (C := RX9) (T := TX9) (N := 14) hx hb hts layX9 hown hK.1 hP 0 rfl rfl 9 (by decide) (hts _ kw240) (fun _ h9 => h9) rfl dX9_pairsIn_1 ?_
  refine lv_aload_n hx hb dX9_pairsIn_4 rfl (lv_at hl 1 rfl) ?_
  refine lv_iconst (v := 0) hx hb dX9_pairsIn_5 (by decide) ?_
  refine cV hP hD hS hA hE (fun hPc hDc hSc => rV (As := [.ref (a1 0), .int (0 : Int32)]) (rest := []) hx hb hml hown hts hK (c_X5_work l g (fun i => a0 (i + 73)) v0_order_overs v0_order_unders v0_order_marks v0_order_wrongs v0_order_papers a1 v1_raws v1_kinds v1_figures v1_heavies v1_places v1_papers v1_lowers v1_uppers v1_rules v1_bounds v1_boundCount v1_tieWay v1_reached (0 : Int32) (bnd_ne hf)) svV_X5_work kw610 rfl rfl hPc hDc hSc rfl rfl hl.1 (Nat.le_of_ble_eq_true rfl) dX9_pairsIn_6 ⟨Nat.le_of_ble_eq_true rfl, Nat.le_of_ble_eq_true rfl, rfl, rfl, Nat.le_of_ble_eq_true rfl, Nat.le_of_ble_eq_true rfl⟩) [(73, 9), (132, 19)] rfl rfl rfl (fun _ => rfl) (fun x1 H locs ex1 hP hD hS => ?_)
  have hf := bnd_of hf ex1
  have hP : va_P g.1 vwCl (wX9 a0 g v0_now_raws v0_now_kinds v0_now_figures v0_now_heavies v0_now_places v0_now_papers v0_now_lowers v0_now_uppers v0_now_rules v0_now_bounds v0_now_boundCount v0_now_tieWay v0_now_reached v0_kept_raws v0_kept_kinds v0_kept_figures v0_kept_heavies v0_kept_places v0_kept_papers v0_kept_lowers v0_kept_uppers v0_kept_rules v0_kept_bounds v0_kept_boundCount v0_kept_tieWay v0_kept_reached v0_spare_raws v0_spare_kinds v0_spare_figures v0_spare_heavies v0_spare_places v0_spare_papers v0_spare_lowers v0_spare_uppers v0_spare_rules v0_spare_bounds v0_spare_boundCount v0_spare_tieWay v0_spare_reached v0_isKept v0_letters_signs v0_letters_numbers v0_letters_size v0_letters_at v0_letters_word v0_told v0_toldCount v0_shelves_cells v0_shelves_sizes v0_shelves_made v0_refusals x1.1 x1.2.1 x1.2.2.1 x1.2.2.2.1 x1.2.2.2.2 v0_standing_values_marks v0_standing_values_weights v0_standing_values_places v0_standing_values_aboves v0_standing_values_belows v0_standing_values_reduced_above v0_standing_values_reduced_below v0_standing_values_papers v0_standing_blocks v0_standing_tops v0_standing_bottoms v0_standing_blocksNow v0_standing_mergesDone v0_standing_loss v0_byRules_values_marks v0_byRules_values_weights v0_byRules_values_places v0_byRules_values_aboves v0_byRules_values_belows v0_byRules_values_reduced_above v0_byRules_values_reduced_below v0_byRules_values_papers v0_byRules_order_overs v0_byRules_order_unders v0_byRules_order_marks v0_byRules_order_wrongs v0_byRules_order_papers v0_byRules_sums v0_byRules_weighs v0_byRules_downs v0_fraction_above v0_fraction_below v0_said_a v0_said_m v0_said_f v0_said_l v0_said_n ++ wX6 a1 g v1_raws v1_kinds v1_figures v1_heavies v1_places v1_papers v1_lowers v1_uppers v1_rules v1_bounds v1_boundCount v1_tieWay v1_reached) H := hP
  have hD : va_D A (wX9 a0 g v0_now_raws v0_now_kinds v0_now_figures v0_now_heavies v0_now_places v0_now_papers v0_now_lowers v0_now_uppers v0_now_rules v0_now_bounds v0_now_boundCount v0_now_tieWay v0_now_reached v0_kept_raws v0_kept_kinds v0_kept_figures v0_kept_heavies v0_kept_places v0_kept_papers v0_kept_lowers v0_kept_uppers v0_kept_rules v0_kept_bounds v0_kept_boundCount v0_kept_tieWay v0_kept_reached v0_spare_raws v0_spare_kinds v0_spare_figures v0_spare_heavies v0_spare_places v0_spare_papers v0_spare_lowers v0_spare_uppers v0_spare_rules v0_spare_bounds v0_spare_boundCount v0_spare_tieWay v0_spare_reached v0_isKept v0_letters_signs v0_letters_numbers v0_letters_size v0_letters_at v0_letters_word v0_told v0_toldCount v0_shelves_cells v0_shelves_sizes v0_shelves_made v0_refusals x1.1 x1.2.1 x1.2.2.1 x1.2.2.2.1 x1.2.2.2.2 v0_standing_values_marks v0_standing_values_weights v0_standing_values_places v0_standing_values_aboves v0_standing_values_belows v0_standing_values_reduced_above v0_standing_values_reduced_below v0_standing_values_papers v0_standing_blocks v0_standing_tops v0_standing_bottoms v0_standing_blocksNow v0_standing_mergesDone v0_standing_loss v0_byRules_values_marks v0_byRules_values_weights v0_byRules_values_places v0_byRules_values_aboves v0_byRules_values_belows v0_byRules_values_reduced_above v0_byRules_values_reduced_below v0_byRules_values_papers v0_byRules_order_overs v0_byRules_order_unders v0_byRules_order_marks v0_byRules_order_wrongs v0_byRules_order_papers v0_byRules_sums v0_byRules_weighs v0_byRules_downs v0_fraction_above v0_fraction_below v0_said_a v0_said_m v0_said_f v0_said_l v0_said_n ++ wX6 a1 g v1_raws v1_kinds v1_figures v1_heavies v1_places v1_papers v1_lowers v1_uppers v1_rules v1_bounds v1_boundCount v1_tieWay v1_reached) := hD
  refine lv_aload_n hx hb dX9_pairsIn_9 rfl (lv_at hl 0 rfl) ?_
  refine va_get (D := g.1) (ci := 10) (v := .ref (a0 73)) (C := RX9) (T := TX9) (N := 14) hx hb hts layX9 hown hK.1 hP 0 rfl rfl 9 (by decide) (hts _ kw240) (fun _ h9 => h9) rfl dX9_pairsIn_10 ?_
  refine cIp hP hD hS hA hE (fun hPc hDc hSc => rV (As := []) (rest := []) hx hb hml hown hts hK (c_X5_pairCount l g (fun i => a0 (i + 73)) x1.1 x1.2.1 x1.2.2.1 x1.2.2.2.1 x1.2.2.2.2 (bnd_ne hf)) svV_X5_pairCount kw629 rfl rfl hPc hDc hSc rfl rfl hl.1 (Nat.le_of_ble_eq_true rfl) dX9_pairsIn_13 ⟨Nat.le_of_ble_eq_true rfl, Nat.le_of_ble_eq_true rfl, rfl, rfl, Nat.le_of_ble_eq_true rfl, Nat.le_of_ble_eq_true rfl⟩) [(73, 9)] rfl rfl rfl (fun x2 H locs ex2 nx2 hP hS => ?_)
  have hf := bnd_of hf ex2
  exact retI (v := x2) (u := (x2, x1.1, x1.2.1, x1.2.2.1, x1.2.2.2.1, x1.2.2.2.2)) (val := fun u => u.1) (W1 := fun u => wX9 a0 g v0_now_raws v0_now_kinds v0_now_figures v0_now_heavies v0_now_places v0_now_papers v0_now_lowers v0_now_uppers v0_now_rules v0_now_bounds v0_now_boundCount v0_now_tieWay v0_now_reached v0_kept_raws v0_kept_kinds v0_kept_figures v0_kept_heavies v0_kept_places v0_kept_papers v0_kept_lowers v0_kept_uppers v0_kept_rules v0_kept_bounds v0_kept_boundCount v0_kept_tieWay v0_kept_reached v0_spare_raws v0_spare_kinds v0_spare_figures v0_spare_heavies v0_spare_places v0_spare_papers v0_spare_lowers v0_spare_uppers v0_spare_rules v0_spare_bounds v0_spare_boundCount v0_spare_tieWay v0_spare_reached v0_isKept v0_letters_signs v0_letters_numbers v0_letters_size v0_letters_at v0_letters_word v0_told v0_toldCount v0_shelves_cells v0_shelves_sizes v0_shelves_made v0_refusals u.2.1 u.2.2.1 u.2.2.2.1 u.2.2.2.2.1 u.2.2.2.2.2 v0_standing_values_marks v0_standing_values_weights v0_standing_values_places v0_standing_values_aboves v0_standing_values_belows v0_standing_values_reduced_above v0_standing_values_reduced_below v0_standing_values_papers v0_standing_blocks v0_standing_tops v0_standing_bottoms v0_standing_blocksNow v0_standing_mergesDone v0_standing_loss v0_byRules_values_marks v0_byRules_values_weights v0_byRules_values_places v0_byRules_values_aboves v0_byRules_values_belows v0_byRules_values_reduced_above v0_byRules_values_reduced_below v0_byRules_values_papers v0_byRules_order_overs v0_byRules_order_unders v0_byRules_order_marks v0_byRules_order_wrongs v0_byRules_order_papers v0_byRules_sums v0_byRules_weighs v0_byRules_downs v0_fraction_above v0_fraction_below v0_said_a v0_said_m v0_said_f v0_said_l v0_said_n ++ wX6 a1 g v1_raws v1_kinds v1_figures v1_heavies v1_places v1_papers v1_lowers v1_uppers v1_rules v1_bounds v1_boundCount v1_tieWay v1_reached) hx hb hr hlocks hS hP hD (hf0.trans hf.symm) rfl rfl dX9_pairsIn_16
set_option maxHeartbeats 4000000 in
set_option maxRecDepth 100000 in
theorem c_X10_in (l : Launch) (g : GG) (p0 : Int32) (p1 : Int32) (p2 : Int32) (hne : (m_X10_in p0 p1 p2) ≠ none) : Ct l g yX10_in cX10_in 3 (some .boolean) ({ frames := 0, cells := 0, slots := 0, locals := 0 } : Room) [.int p0, .int p1, .int p2] (([] : va_W)) (Qi g .boolean (m_X10_in p0 p1 p2) (fun u => u) (fun u => ([] : va_W))) 0 0 := by
  obtain ⟨out, hf⟩ := ne_ex hne
  have hf0 := hf
  refine Ct.of (own := RX10) (by decide +kernel) rfl (Nat.le_of_ble_eq_true rfl) ?_
  intro p e s m below meth c hx hb hr hml hown hts hlocks hin hK A H locs hA hP hD hS hE ls hl
  have hl : lv_has ls 3 [(0, .int p0), (1, .int p1), (2, .int p2)] := hl
  unfold m_X10_in at hf
  refine lv_iload_n hx hb dX10_in_0 rfl (lv_at hl 0 rfl) ?_
  refine lv_iload_n hx hb dX10_in_1 rfl (lv_at hl 1 rfl) ?_
  refine lv_icmp_lt (tgt := 14) hx hb dX10_in_2 (by decide) (fun cb => ?_) (fun cb => ?_)
  · have hf := it_t cb hf
    refine lv_iconst (v := 0) hx hb dX10_in_14 (by decide) ?_
    exact retI (v := (0 : Int32)) (u := (0 : Int32)) (val := fun u => u) (W1 := fun u => ([] : va_W)) hx hb hr hlocks hS hP hD (hf0.trans hf.symm) rfl rfl dX10_in_15
  have hf := it_f cb hf
  refine lv_iload_n hx hb dX10_in_5 rfl (lv_at hl 0 rfl) ?_
  refine lv_iload_n hx hb dX10_in_6 rfl (lv_at hl 2 rfl) ?_
  refine lv_icmp_gt (tgt := 14) hx hb dX10_in_7 (by decide) (fun cb => ?_) (fun cb => ?_)
  · have hf := it_t cb hf
    refine lv_iconst (v := 0) hx hb dX10_in_14 (by decide) ?_
    exact retI (v := (0 : Int32)) (u := (0 : Int32)) (val := fun u => u) (W1 := fun u => ([] : va_W)) hx hb hr hlocks hS hP hD (hf0.trans hf.symm) rfl rfl dX10_in_15
  have hf := it_f cb hf
  refine lv_iconst (v := 1) hx hb dX10_in_10 (by decide) ?_
  refine lv_goto (tgt := 15) hx hb dX10_in_11 (by decide) ?_
  exact retI (v := (1 : Int32)) (u := (1 : Int32)) (val := fun u => u) (W1 := fun u => ([] : va_W)) hx hb hr hlocks hS hP hD (hf0.trans hf.symm) rfl rfl dX10_in_15
set_option maxHeartbeats 4000000 in
set_option maxRecDepth 100000 in
theorem c_X10_has (l : Launch) (g : GG) (p0 : Int32) (p1 : Int32) (hne : (m_X10_has p0 p1) ≠ none) : Ct l g yX10_has cX10_has 2 (some .boolean) ({ frames := 0, cells := 0, slots := 0, locals := 0 } : Room) [.int p0, .int p1] (([] : va_W)) (Qi g .boolean (m_X10_has p0 p1) (fun u => u) (fun u => ([] : va_W))) 0 0 := by
  obtain ⟨out, hf⟩ := ne_ex hne
  have hf0 := hf
  refine Ct.of (own := RX10) (by decide +kernel) rfl (Nat.le_of_ble_eq_true rfl) ?_
  intro p e s m below meth c hx hb hr hml hown hts hlocks hin hK A H locs hA hP hD hS hE ls hl
  have hl : lv_has ls 2 [(0, .int p0), (1, .int p1)] := hl
  unfold m_X10_has at hf
  refine lv_iload_n hx hb dX10_has_0 rfl (lv_at hl 0 rfl) ?_
  refine lv_iload_n hx hb dX10_has_1 rfl (lv_at hl 1 rfl) ?_
  refine lv_ishr hx hb dX10_has_2 ?_
  refine lv_iconst (v := 1) hx hb dX10_has_3 (by decide) ?_
  refine lv_iand hx hb dX10_has_4 ?_
  refine lv_iconst (v := 1) hx hb dX10_has_5 (by decide) ?_
  refine lv_icmp_ne (tgt := 13) hx hb dX10_has_6 (by decide) (fun cb => ?_) (fun cb => ?_)
  · have hf := it_f cb hf
    refine lv_iconst (v := 0) hx hb dX10_has_13 (by decide) ?_
    exact retI (v := (0 : Int32)) (u := (0 : Int32)) (val := fun u => u) (W1 := fun u => ([] : va_W)) hx hb hr hlocks hS hP hD (hf0.trans hf.symm) rfl rfl dX10_has_14
  have hf := it_t cb hf
  refine lv_iconst (v := 1) hx hb dX10_has_9 (by decide) ?_
  refine lv_goto (tgt := 14) hx hb dX10_has_10 (by decide) ?_
  exact retI (v := (1 : Int32)) (u := (1 : Int32)) (val := fun u => u) (W1 := fun u => ([] : va_W)) hx hb hr hlocks hS hP hD (hf0.trans hf.symm) rfl rfl dX10_has_14
set_option maxHeartbeats 4000000 in
set_option maxRecDepth 100000 in
theorem c_X10_no (l : Launch) (g : GG) (a0 : Nat → Nat) (v0_papers : Int32) (v0_raw : (Nat → Int32)) (v0_kind : (Nat → Int32)) (v0_figure : (Nat → Int32)) (v0_heavy : (Nat → Int32)) (v0_place : (Nat → Int32)) (v0_rules : Int32) (v0_lower : (Nat → Int32)) (v0_upper : (Nat → Int32)) (v0_limits : Int32) (v0_limit : (Nat → Int32)) (v0_ties : Int32) (v0_letter : (Nat → Int32)) (v0_letters : Int32) (v0_told : (Nat → Int32)) (v0_tolds : Int32) (v0_places : (Nat → Int32)) (v0_cell : (Nat → Int64)) (v0_refusals : (Nat → Int32)) (v0_imaged : (Nat → Int32)) (v0_hasImage : Int32) (v0_before : (Nat → Int32)) (v0_up : Int64) (v0_down : Int64) (v0_beneath : (Nat → Int32)) (v0_numberUp : Int32) (v0_numberDown : Int32) (v0_block : (Nat → Int32)) (v0_blocks : Int32) (v0_merged : Int32) (v0_valueUp : (Nat → Int32)) (v0_valueDown : (Nat → Int32)) (v0_said : (Nat → Int32)) (v0_saids : Int32) (v0_at : Int32) (v0_number : (Nat → Int32)) (p1 : Int32) (hne : (m_X10_no (v0_papers, v0_raw, v0_kind, v0_figure, v0_heavy, v0_place, v0_rules, v0_lower, v0_upper, v0_limits, v0_limit, v0_ties, v0_letter, v0_letters, v0_told, v0_tolds, v0_places, v0_cell, v0_refusals, v0_imaged, v0_hasImage, v0_before, v0_up, v0_down, v0_beneath, v0_numberUp, v0_numberDown, v0_block, v0_blocks, v0_merged, v0_valueUp, v0_valueDown, v0_said, v0_saids, v0_at, v0_number) p1) ≠ none) : Ct l g yX10_no cX10_no 2 (some .int) ({ frames := 0, cells := 0, slots := 0, locals := 0 } : Room) [.ref (a0 0), .int p1] (wX10 a0 g v0_papers v0_raw v0_kind v0_figure v0_heavy v0_place v0_rules v0_lower v0_upper v0_limits v0_limit v0_ties v0_letter v0_letters v0_told v0_tolds v0_places v0_cell v0_refusals v0_imaged v0_hasImage v0_before v0_up v0_down v0_beneath v0_numberUp v0_numberDown v0_block v0_blocks v0_merged v0_valueUp v0_valueDown v0_said v0_saids v0_at v0_number) (Qi g .int (m_X10_no (v0_papers, v0_raw, v0_kind, v0_figure, v0_heavy, v0_place, v0_rules, v0_lower, v0_upper, v0_limits, v0_limit, v0_ties, v0_letter, v0_letters, v0_told, v0_tolds, v0_places, v0_cell, v0_refusals, v0_imaged, v0_hasImage, v0_before, v0_up, v0_down, v0_beneath, v0_numberUp, v0_numberDown, v0_block, v0_blocks, v0_merged, v0_valueUp, v0_valueDown, v0_said, v0_saids, v0_at, v0_number) p1) (fun u => u.1) (fun u => wX10 a0 g v0_papers v0_raw v0_kind v0_figure v0_heavy v0_place v0_rules v0_lower v0_upper v0_limits v0_limit v0_ties v0_letter v0_letters v0_told v0_tolds v0_places v0_cell u.2 v0_imaged v0_hasImage v0_before v0_up v0_down v0_beneath v0_numberUp v0_numberDown v0_block v0_blocks v0_merged v0_valueUp v0_valueDown v0_said v0_saids v0_at v0_number)) 0 0 := by
  obtain ⟨out, hf⟩ := ne_ex hne
  have hf0 := hf
  refine Ct.of (own := RX10) (by decide +kernel) rfl (Nat.le_of_ble_eq_true rfl) ?_
  intro p e s m below meth c hx hb hr hml hown hts hlocks hin hK A H locs hA hP hD hS hE ls hl
  have hl : lv_has ls 2 [(0, .ref (a0 0)), (1, .int p1)] := hl
  unfold m_X10_no at hf
  refine lv_aload_n hx hb dX10_no_0 rfl (lv_at hl 0 rfl) ?_
  refine va_get (D := g.1) (ci := 11) (v := .ref (a0 13)) (C := RX10) (T := TX10) (N := 36) hx hb hts layX10 hown hK.1 hP 0 rfl rfl 18 (by decide) (hts _ kw1295) (fun _ h9 => h9) rfl dX10_no_1 ?_
  refine lv_iload_n hx hb dX10_no_4 rfl (lv_at hl 1 rfl) ?_
  refine lv_ineg hx hb dX10_no_5 ?_
  refine lv_dup2_11 hx hb dX10_no_6 rfl rfl ?_
  have hi := it_n hf
  have hf := it_t hi hf
  refine va_iald hx hb hK.1 hP 13 0 rfl rfl (inb_in hi) dX10_no_7 ?_
  refine lv_iconst (v := 1) hx hb dX10_no_8 (by decide) ?_
  refine lv_iadd hx hb dX10_no_9 ?_
  have hi := it_n hf
  have hf := it_t hi hf
  refine va_iast hx hb hK.1 hP hD hS 13 0 rfl rfl (inb_in hi) dX10_no_10 (fun H locs hP hD hS => ?_)
  have hP : va_P g.1 vwCl (wX10 a0 g v0_papers v0_raw v0_kind v0_figure v0_heavy v0_place v0_rules v0_lower v0_upper v0_limits v0_limit v0_ties v0_letter v0_letters v0_told v0_tolds v0_places v0_cell (upd v0_refusals (-p1).toNatClampNeg ((v0_refusals (-p1).toNatClampNeg) + (1 : Int32))) v0_imaged v0_hasImage v0_before v0_up v0_down v0_beneath v0_numberUp v0_numberDown v0_block v0_blocks v0_merged v0_valueUp v0_valueDown v0_said v0_saids v0_at v0_number) H := hP
  have hD : va_D A (wX10 a0 g v0_papers v0_raw v0_kind v0_figure v0_heavy v0_place v0_rules v0_lower v0_upper v0_limits v0_limit v0_ties v0_letter v0_letters v0_told v0_tolds v0_places v0_cell (upd v0_refusals (-p1).toNatClampNeg ((v0_refusals (-p1).toNatClampNeg) + (1 : Int32))) v0_imaged v0_hasImage v0_before v0_up v0_down v0_beneath v0_numberUp v0_numberDown v0_block v0_blocks v0_merged v0_valueUp v0_valueDown v0_said v0_saids v0_at v0_number) := hD
  refine lv_iload_n hx hb dX10_no_11 rfl (lv_at hl 1 rfl) ?_
  exact retI (v := p1) (u := (p1, (upd v0_refusals (-p1).toNatClampNeg ((v0_refusals (-p1).toNatClampNeg) + (1 : Int32))))) (val := fun u => u.1) (W1 := fun u => wX10 a0 g v0_papers v0_raw v0_kind v0_figure v0_heavy v0_place v0_rules v0_lower v0_upper v0_limits v0_limit v0_ties v0_letter v0_letters v0_told v0_tolds v0_places v0_cell u.2 v0_imaged v0_hasImage v0_before v0_up v0_down v0_beneath v0_numberUp v0_numberDown v0_block v0_blocks v0_merged v0_valueUp v0_valueDown v0_said v0_saids v0_at v0_number) hx hb hr hlocks hS hP hD (hf0.trans hf.symm) rfl rfl dX10_no_12
set_option maxHeartbeats 4000000 in
set_option maxRecDepth 100000 in
theorem c_X10_far (l : Launch) (g : GG) (a0 : Nat → Nat) (v0_papers : Int32) (v0_raw : (Nat → Int32)) (v0_kind : (Nat → Int32)) (v0_figure : (Nat → Int32)) (v0_heavy : (Nat → Int32)) (v0_place : (Nat → Int32)) (v0_rules : Int32) (v0_lower : (Nat → Int32)) (v0_upper : (Nat → Int32)) (v0_limits : Int32) (v0_limit : (Nat → Int32)) (v0_ties : Int32) (v0_letter : (Nat → Int32)) (v0_letters : Int32) (v0_told : (Nat → Int32)) (v0_tolds : Int32) (v0_places : (Nat → Int32)) (v0_cell : (Nat → Int64)) (v0_refusals : (Nat → Int32)) (v0_imaged : (Nat → Int32)) (v0_hasImage : Int32) (v0_before : (Nat → Int32)) (v0_up : Int64) (v0_down : Int64) (v0_beneath : (Nat → Int32)) (v0_numberUp : Int32) (v0_numberDown : Int32) (v0_block : (Nat → Int32)) (v0_blocks : Int32) (v0_merged : Int32) (v0_valueUp : (Nat → Int32)) (v0_valueDown : (Nat → Int32)) (v0_said : (Nat → Int32)) (v0_saids : Int32) (v0_at : Int32) (v0_number : (Nat → Int32)) (p1 : Int32) (hne : (m_X10_far (v0_papers, v0_raw, v0_kind, v0_figure, v0_heavy, v0_place, v0_rules, v0_lower, v0_upper, v0_limits, v0_limit, v0_ties, v0_letter, v0_letters, v0_told, v0_tolds, v0_places, v0_cell, v0_refusals, v0_imaged, v0_hasImage, v0_before, v0_up, v0_down, v0_beneath, v0_numberUp, v0_numberDown, v0_block, v0_blocks, v0_merged, v0_valueUp, v0_valueDown, v0_said, v0_saids, v0_at, v0_number) p1) ≠ none) : Ct l g yX10_far cX10_far 2 (some .long) ({ frames := 1, cells := 0, slots := 0, locals := 21 } : Room) [.ref (a0 0), .int p1] (wX10 a0 g v0_papers v0_raw v0_kind v0_figure v0_heavy v0_place v0_rules v0_lower v0_upper v0_limits v0_limit v0_ties v0_letter v0_letters v0_told v0_tolds v0_places v0_cell v0_refusals v0_imaged v0_hasImage v0_before v0_up v0_down v0_beneath v0_numberUp v0_numberDown v0_block v0_blocks v0_merged v0_valueUp v0_valueDown v0_said v0_saids v0_at v0_number) (Ql g (m_X10_far (v0_papers, v0_raw, v0_kind, v0_figure, v0_heavy, v0_place, v0_rules, v0_lower, v0_upper, v0_limits, v0_limit, v0_ties, v0_letter, v0_letters, v0_told, v0_tolds, v0_places, v0_cell, v0_refusals, v0_imaged, v0_hasImage, v0_before, v0_up, v0_down, v0_beneath, v0_numberUp, v0_numberDown, v0_block, v0_blocks, v0_merged, v0_valueUp, v0_valueDown, v0_said, v0_saids, v0_at, v0_number) p1) (fun u => u.1) (fun u => wX10 a0 g v0_papers v0_raw v0_kind v0_figure v0_heavy v0_place v0_rules v0_lower v0_upper v0_limits v0_limit v0_ties v0_letter v0_letters v0_told v0_tolds v0_places v0_cell u.2 v0_imaged v0_hasImage v0_before v0_up v0_down v0_beneath v0_numberUp v0_numberDown v0_block v0_blocks v0_merged v0_valueUp v0_valueDown v0_said v0_saids v0_at v0_number)) 0 0 := by
  obtain ⟨out, hf⟩ := ne_ex hne
  have hf0 := hf
  refine Ct.of (own := RX10) (by decide +kernel) rfl (Nat.le_of_ble_eq_true rfl) ?_
  intro p e s m below meth c hx hb hr hml hown hts hlocks hin hK A H locs hA hP hD hS hE ls hl
  have hl : lv_has ls 2 [(0, .ref (a0 0)), (1, .int p1)] := hl
  unfold m_X10_far at hf
  refine lv_ldc2 hx hb hown (hts _ kw1470) dX10_far_0 ?_
  refine lv_aload_n hx hb dX10_far_3 rfl (lv_at hl 0 rfl) ?_
  refine lv_iload_n hx hb dX10_far_4 rfl (lv_at hl 1 rfl) ?_
  refine cI hP hD hS hA hE (fun hPc hDc hSc => rV (As := [.int p1]) (rest := [.long (4000000000000000000 : Int64)]) hx hb hml hown hts hK (c_X10_no l g a0 v0_papers v0_raw v0_kind v0_figure v0_heavy v0_place v0_rules v0_lower v0_upper v0_limits v0_limit v0_ties v0_letter v0_letters v0_told v0_tolds v0_places v0_cell v0_refusals v0_imaged v0_hasImage v0_before v0_up v0_down v0_beneath v0_numberUp v0_numberDown v0_block v0_blocks v0_merged v0_valueUp v0_valueDown v0_said v0_saids v0_at v0_number p1 (bnd_ne hf)) svV_X10_no kw1354 rfl rfl hPc hDc hSc rfl rfl hl.1 (Nat.le_of_ble_eq_true rfl) dX10_far_5 ⟨Nat.le_of_ble_eq_true rfl, Nat.le_of_ble_eq_true rfl, rfl, rfl, Nat.le_of_ble_eq_true rfl, Nat.le_of_ble_eq_true rfl⟩) [(0, 22)] rfl rfl rfl (fun _ => rfl) (fun x1 H locs ex1 nx1 hP hD hS => ?_)
  have hf := bnd_of hf ex1
  have hP : va_P g.1 vwCl (wX10 a0 g v0_papers v0_raw v0_kind v0_figure v0_heavy v0_place v0_rules v0_lower v0_upper v0_limits v0_limit v0_ties v0_letter v0_letters v0_told v0_tolds v0_places v0_cell x1.2 v0_imaged v0_hasImage v0_before v0_up v0_down v0_beneath v0_numberUp v0_numberDown v0_block v0_blocks v0_merged v0_valueUp v0_valueDown v0_said v0_saids v0_at v0_number) H := hP
  have hD : va_D A (wX10 a0 g v0_papers v0_raw v0_kind v0_figure v0_heavy v0_place v0_rules v0_lower v0_upper v0_limits v0_limit v0_ties v0_letter v0_letters v0_told v0_tolds v0_places v0_cell x1.2 v0_imaged v0_hasImage v0_before v0_up v0_down v0_beneath v0_numberUp v0_numberDown v0_block v0_blocks v0_merged v0_valueUp v0_valueDown v0_said v0_saids v0_at v0_number) := hD
  refine lv_i2l (v := x1.1.toInt64) hx hb dX10_far_8 rfl ?_
  refine lv_lsub hx hb dX10_far_9 ?_
  exact retL (u := (((4000000000000000000 : Int64) - x1.1.toInt64), x1.2)) (val := fun u => u.1) (W1 := fun u => wX10 a0 g v0_papers v0_raw v0_kind v0_figure v0_heavy v0_place v0_rules v0_lower v0_upper v0_limits v0_limit v0_ties v0_letter v0_letters v0_told v0_tolds v0_places v0_cell u.2 v0_imaged v0_hasImage v0_before v0_up v0_down v0_beneath v0_numberUp v0_numberDown v0_block v0_blocks v0_merged v0_valueUp v0_valueDown v0_said v0_saids v0_at v0_number) hx hb hr hlocks hS hP hD (hf0.trans hf.symm) rfl dX10_far_10
set_option maxHeartbeats 4000000 in
set_option maxRecDepth 100000 in
theorem c_X10_isPaper (l : Launch) (g : GG) (a0 : Nat → Nat) (v0_papers : Int32) (v0_raw : (Nat → Int32)) (v0_kind : (Nat → Int32)) (v0_figure : (Nat → Int32)) (v0_heavy : (Nat → Int32)) (v0_place : (Nat → Int32)) (v0_rules : Int32) (v0_lower : (Nat → Int32)) (v0_upper : (Nat → Int32)) (v0_limits : Int32) (v0_limit : (Nat → Int32)) (v0_ties : Int32) (v0_letter : (Nat → Int32)) (v0_letters : Int32) (v0_told : (Nat → Int32)) (v0_tolds : Int32) (v0_places : (Nat → Int32)) (v0_cell : (Nat → Int64)) (v0_refusals : (Nat → Int32)) (v0_imaged : (Nat → Int32)) (v0_hasImage : Int32) (v0_before : (Nat → Int32)) (v0_up : Int64) (v0_down : Int64) (v0_beneath : (Nat → Int32)) (v0_numberUp : Int32) (v0_numberDown : Int32) (v0_block : (Nat → Int32)) (v0_blocks : Int32) (v0_merged : Int32) (v0_valueUp : (Nat → Int32)) (v0_valueDown : (Nat → Int32)) (v0_said : (Nat → Int32)) (v0_saids : Int32) (v0_at : Int32) (v0_number : (Nat → Int32)) (p1 : Int32) (hne : (m_X10_isPaper (v0_papers, v0_raw, v0_kind, v0_figure, v0_heavy, v0_place, v0_rules, v0_lower, v0_upper, v0_limits, v0_limit, v0_ties, v0_letter, v0_letters, v0_told, v0_tolds, v0_places, v0_cell, v0_refusals, v0_imaged, v0_hasImage, v0_before, v0_up, v0_down, v0_beneath, v0_numberUp, v0_numberDown, v0_block, v0_blocks, v0_merged, v0_valueUp, v0_valueDown, v0_said, v0_saids, v0_at, v0_number) p1) ≠ none) : Ct l g yX10_isPaper cX10_isPaper 2 (some .boolean) ({ frames := 1, cells := 0, slots := 0, locals := 22 } : Room) [.ref (a0 0), .int p1] (wX10 a0 g v0_papers v0_raw v0_kind v0_figure v0_heavy v0_place v0_rules v0_lower v0_upper v0_limits v0_limit v0_ties v0_letter v0_letters v0_told v0_tolds v0_places v0_cell v0_refusals v0_imaged v0_hasImage v0_before v0_up v0_down v0_beneath v0_numberUp v0_numberDown v0_block v0_blocks v0_merged v0_valueUp v0_valueDown v0_said v0_saids v0_at v0_number) (Qi g .boolean (m_X10_isPaper (v0_papers, v0_raw, v0_kind, v0_figure, v0_heavy, v0_place, v0_rules, v0_lower, v0_upper, v0_limits, v0_limit, v0_ties, v0_letter, v0_letters, v0_told, v0_tolds, v0_places, v0_cell, v0_refusals, v0_imaged, v0_hasImage, v0_before, v0_up, v0_down, v0_beneath, v0_numberUp, v0_numberDown, v0_block, v0_blocks, v0_merged, v0_valueUp, v0_valueDown, v0_said, v0_saids, v0_at, v0_number) p1) (fun u => u) (fun u => wX10 a0 g v0_papers v0_raw v0_kind v0_figure v0_heavy v0_place v0_rules v0_lower v0_upper v0_limits v0_limit v0_ties v0_letter v0_letters v0_told v0_tolds v0_places v0_cell v0_refusals v0_imaged v0_hasImage v0_before v0_up v0_down v0_beneath v0_numberUp v0_numberDown v0_block v0_blocks v0_merged v0_valueUp v0_valueDown v0_said v0_saids v0_at v0_number)) 0 0 := by
  obtain ⟨out, hf⟩ := ne_ex hne
  have hf0 := hf
  refine Ct.of (own := RX10) (by decide +kernel) rfl (Nat.le_of_ble_eq_true rfl) ?_
  intro p e s m below meth c hx hb hr hml hown hts hlocks hin hK A H locs hA hP hD hS hE ls hl
  have hl : lv_has ls 2 [(0, .ref (a0 0)), (1, .int p1)] := hl
  unfold m_X10_isPaper at hf
  refine lv_iload_n hx hb dX10_isPaper_0 rfl (lv_at hl 1 rfl) ?_
  refine lv_iconst (v := 0) hx hb dX10_isPaper_1 (by decide) ?_
  refine lv_aload_n hx hb dX10_isPaper_2 rfl (lv_at hl 0 rfl) ?_
  refine va_get (D := g.1) (ci := 11) (v := .int v0_papers) (C := RX10) (T := TX10) (N := 36) hx hb hts layX10 hown hK.1 hP 0 rfl rfl 0 (by decide) (hts _ kw1277) (fun _ h9 => h9) rfl dX10_isPaper_3 ?_
  refine lv_iconst (v := 1) hx hb dX10_isPaper_6 (by decide) ?_
  refine lv_isub hx hb dX10_isPaper_7 ?_
  refine cIp hP hD hS hA hE (fun hPc hDc hSc => rS (As := [.int p1, .int (0 : Int32), .int (v0_papers - (1 : Int32))]) (rest := []) hx hb hml hown hts hK (c_X10_in l g p1 (0 : Int32) (v0_papers - (1 : Int32)) (bnd_ne hf)) svS_X10_in kw1364 hPc hDc hSc rfl rfl hl.1 (Nat.le_of_ble_eq_true rfl) dX10_isPaper_8 ⟨Nat.le_of_ble_eq_true rfl, Nat.le_of_ble_eq_true rfl, rfl, rfl, Nat.le_of_ble_eq_true rfl, Nat.le_of_ble_eq_true rfl⟩) [] rfl rfl rfl (fun x1 H locs ex1 nx1 hP hS => ?_)
  have hf := bnd_of hf ex1
  exact retI (v := x1) (u := x1) (val := fun u => u) (W1 := fun u => wX10 a0 g v0_papers v0_raw v0_kind v0_figure v0_heavy v0_place v0_rules v0_lower v0_upper v0_limits v0_limit v0_ties v0_letter v0_letters v0_told v0_tolds v0_places v0_cell v0_refusals v0_imaged v0_hasImage v0_before v0_up v0_down v0_beneath v0_numberUp v0_numberDown v0_block v0_blocks v0_merged v0_valueUp v0_valueDown v0_said v0_saids v0_at v0_number) hx hb hr hlocks hS hP hD (hf0.trans hf.symm) rfl nx1 dX10_isPaper_11
set_option maxHeartbeats 4000000 in
set_option maxRecDepth 100000 in
theorem c_X10_isRule (l : Launch) (g : GG) (a0 : Nat → Nat) (v0_papers : Int32) (v0_raw : (Nat → Int32)) (v0_kind : (Nat → Int32)) (v0_figure : (Nat → Int32)) (v0_heavy : (Nat → Int32)) (v0_place : (Nat → Int32)) (v0_rules : Int32) (v0_lower : (Nat → Int32)) (v0_upper : (Nat → Int32)) (v0_limits : Int32) (v0_limit : (Nat → Int32)) (v0_ties : Int32) (v0_letter : (Nat → Int32)) (v0_letters : Int32) (v0_told : (Nat → Int32)) (v0_tolds : Int32) (v0_places : (Nat → Int32)) (v0_cell : (Nat → Int64)) (v0_refusals : (Nat → Int32)) (v0_imaged : (Nat → Int32)) (v0_hasImage : Int32) (v0_before : (Nat → Int32)) (v0_up : Int64) (v0_down : Int64) (v0_beneath : (Nat → Int32)) (v0_numberUp : Int32) (v0_numberDown : Int32) (v0_block : (Nat → Int32)) (v0_blocks : Int32) (v0_merged : Int32) (v0_valueUp : (Nat → Int32)) (v0_valueDown : (Nat → Int32)) (v0_said : (Nat → Int32)) (v0_saids : Int32) (v0_at : Int32) (v0_number : (Nat → Int32)) (p1 : Int32) (hne : (m_X10_isRule (v0_papers, v0_raw, v0_kind, v0_figure, v0_heavy, v0_place, v0_rules, v0_lower, v0_upper, v0_limits, v0_limit, v0_ties, v0_letter, v0_letters, v0_told, v0_tolds, v0_places, v0_cell, v0_refusals, v0_imaged, v0_hasImage, v0_before, v0_up, v0_down, v0_beneath, v0_numberUp, v0_numberDown, v0_block, v0_blocks, v0_merged, v0_valueUp, v0_valueDown, v0_said, v0_saids, v0_at, v0_number) p1) ≠ none) : Ct l g yX10_isRule cX10_isRule 2 (some .boolean) ({ frames := 1, cells := 0, slots := 0, locals := 22 } : Room) [.ref (a0 0), .int p1] (wX10 a0 g v0_papers v0_raw v0_kind v0_figure v0_heavy v0_place v0_rules v0_lower v0_upper v0_limits v0_limit v0_ties v0_letter v0_letters v0_told v0_tolds v0_places v0_cell v0_refusals v0_imaged v0_hasImage v0_before v0_up v0_down v0_beneath v0_numberUp v0_numberDown v0_block v0_blocks v0_merged v0_valueUp v0_valueDown v0_said v0_saids v0_at v0_number) (Qi g .boolean (m_X10_isRule (v0_papers, v0_raw, v0_kind, v0_figure, v0_heavy, v0_place, v0_rules, v0_lower, v0_upper, v0_limits, v0_limit, v0_ties, v0_letter, v0_letters, v0_told, v0_tolds, v0_places, v0_cell, v0_refusals, v0_imaged, v0_hasImage, v0_before, v0_up, v0_down, v0_beneath, v0_numberUp, v0_numberDown, v0_block, v0_blocks, v0_merged, v0_valueUp, v0_valueDown, v0_said, v0_saids, v0_at, v0_number) p1) (fun u => u) (fun u => wX10 a0 g v0_papers v0_raw v0_kind v0_figure v0_heavy v0_place v0_rules v0_lower v0_upper v0_limits v0_limit v0_ties v0_letter v0_letters v0_told v0_tolds v0_places v0_cell v0_refusals v0_imaged v0_hasImage v0_before v0_up v0_down v0_beneath v0_numberUp v0_numberDown v0_block v0_blocks v0_merged v0_valueUp v0_valueDown v0_said v0_saids v0_at v0_number)) 0 0 := by
  obtain ⟨out, hf⟩ := ne_ex hne
  have hf0 := hf
  refine Ct.of (own := RX10) (by decide +kernel) rfl (Nat.le_of_ble_eq_true rfl) ?_
  intro p e s m below meth c hx hb hr hml hown hts hlocks hin hK A H locs hA hP hD hS hE ls hl
  have hl : lv_has ls 2 [(0, .ref (a0 0)), (1, .int p1)] := hl
  unfold m_X10_isRule at hf
  refine lv_iload_n hx hb dX10_isRule_0 rfl (lv_at hl 1 rfl) ?_
  refine lv_iconst (v := 0) hx hb dX10_isRule_1 (by decide) ?_
  refine lv_aload_n hx hb dX10_isRule_2 rfl (lv_at hl 0 rfl) ?_
  refine va_get (D := g.1) (ci := 11) (v := .int v0_rules) (C := RX10) (T := TX10) (N := 36) hx hb hts layX10 hown hK.1 hP 0 rfl rfl 6 (by decide) (hts _ kw1283) (fun _ h9 => h9) rfl dX10_isRule_3 ?_
  refine lv_iconst (v := 1) hx hb dX10_isRule_6 (by decide) ?_
  refine lv_isub hx hb dX10_isRule_7 ?_
  refine cIp hP hD hS hA hE (fun hPc hDc hSc => rS (As := [.int p1, .int (0 : Int32), .int (v0_rules - (1 : Int32))]) (rest := []) hx hb hml hown hts hK (c_X10_in l g p1 (0 : Int32) (v0_rules - (1 : Int32)) (bnd_ne hf)) svS_X10_in kw1364 hPc hDc hSc rfl rfl hl.1 (Nat.le_of_ble_eq_true rfl) dX10_isRule_8 ⟨Nat.le_of_ble_eq_true rfl, Nat.le_of_ble_eq_true rfl, rfl, rfl, Nat.le_of_ble_eq_true rfl, Nat.le_of_ble_eq_true rfl⟩) [] rfl rfl rfl (fun x1 H locs ex1 nx1 hP hS => ?_)
  have hf := bnd_of hf ex1
  exact retI (v := x1) (u := x1) (val := fun u => u) (W1 := fun u => wX10 a0 g v0_papers v0_raw v0_kind v0_figure v0_heavy v0_place v0_rules v0_lower v0_upper v0_limits v0_limit v0_ties v0_letter v0_letters v0_told v0_tolds v0_places v0_cell v0_refusals v0_imaged v0_hasImage v0_before v0_up v0_down v0_beneath v0_numberUp v0_numberDown v0_block v0_blocks v0_merged v0_valueUp v0_valueDown v0_said v0_saids v0_at v0_number) hx hb hr hlocks hS hP hD (hf0.trans hf.symm) rfl nx1 dX10_isRule_11
set_option maxHeartbeats 4000000 in
set_option maxRecDepth 100000 in
theorem c_X10_isLoss (l : Launch) (g : GG) (p0 : Int32) (hne : (m_X10_isLoss p0) ≠ none) : Ct l g yX10_isLoss cX10_isLoss 1 (some .boolean) ({ frames := 1, cells := 0, slots := 0, locals := 22 } : Room) [.int p0] (([] : va_W)) (Qi g .boolean (m_X10_isLoss p0) (fun u => u) (fun u => ([] : va_W))) 0 0 := by
  obtain ⟨out, hf⟩ := ne_ex hne
  have hf0 := hf
  refine Ct.of (own := RX10) (by decide +kernel) rfl (Nat.le_of_ble_eq_true rfl) ?_
  intro p e s m below meth c hx hb hr hml hown hts hlocks hin hK A H locs hA hP hD hS hE ls hl
  have hl : lv_has ls 1 [(0, .int p0)] := hl
  unfold m_X10_isLoss at hf
  refine lv_iload_n hx hb dX10_isLoss_0 rfl (lv_at hl 0 rfl) ?_
  refine lv_iconst (v := 0) hx hb dX10_isLoss_1 (by decide) ?_
  refine lv_iconst (v := 2) hx hb dX10_isLoss_2 (by decide) ?_
  refine cIp hP hD hS hA hE (fun hPc hDc hSc => rS (As := [.int p0, .int (0 : Int32), .int (2 : Int32)]) (rest := []) hx hb hml hown hts hK (c_X10_in l g p0 (0 : Int32) (2 : Int32) (bnd_ne hf)) svS_X10_in kw1364 hPc hDc hSc rfl rfl hl.1 (Nat.le_of_ble_eq_true rfl) dX10_isLoss_3 ⟨Nat.le_of_ble_eq_true rfl, Nat.le_of_ble_eq_true rfl, rfl, rfl, Nat.le_of_ble_eq_true rfl, Nat.le_of_ble_eq_true rfl⟩) [] rfl rfl rfl (fun x1 H locs ex1 nx1 hP hS => ?_)
  have hf := bnd_of hf ex1
  exact retI (v := x1) (u := x1) (val := fun u => u) (W1 := fun u => ([] : va_W)) hx hb hr hlocks hS hP hD (hf0.trans hf.symm) rfl nx1 dX10_isLoss_6
set_option maxHeartbeats 4000000 in
set_option maxRecDepth 100000 in
theorem c_X10_isLine (l : Launch) (g : GG) (p0 : Int32) (hne : (m_X10_isLine p0) ≠ none) : Ct l g yX10_isLine cX10_isLine 1 (some .boolean) ({ frames := 1, cells := 0, slots := 0, locals := 22 } : Room) [.int p0] (([] : va_W)) (Qi g .boolean (m_X10_isLine p0) (fun u => u) (fun u => ([] : va_W))) 0 0 := by
  obtain ⟨out, hf⟩ := ne_ex hne
  have hf0 := hf
  refine Ct.of (own := RX10) (by decide +kernel) rfl (Nat.le_of_ble_eq_true rfl) ?_
  intro p e s m below meth c hx hb hr hml hown hts hlocks hin hK A H locs hA hP hD hS hE ls hl
  have hl : lv_has ls 1 [(0, .int p0)] := hl
  unfold m_X10_isLine at hf
  refine lv_iload_n hx hb dX10_isLine_0 rfl (lv_at hl 0 rfl) ?_
  refine lv_iconst (v := 0) hx hb dX10_isLine_1 (by decide) ?_
  refine lv_iconst (v := 1) hx hb dX10_isLine_2 (by decide) ?_
  refine cIp hP hD hS hA hE (fun hPc hDc hSc => rS (As := [.int p0, .int (0 : Int32), .int (1 : Int32)]) (rest := []) hx hb hml hown hts hK (c_X10_in l g p0 (0 : Int32) (1 : Int32) (bnd_ne hf)) svS_X10_in kw1364 hPc hDc hSc rfl rfl hl.1 (Nat.le_of_ble_eq_true rfl) dX10_isLine_3 ⟨Nat.le_of_ble_eq_true rfl, Nat.le_of_ble_eq_true rfl, rfl, rfl, Nat.le_of_ble_eq_true rfl, Nat.le_of_ble_eq_true rfl⟩) [] rfl rfl rfl (fun x1 H locs ex1 nx1 hP hS => ?_)
  have hf := bnd_of hf ex1
  exact retI (v := x1) (u := x1) (val := fun u => u) (W1 := fun u => ([] : va_W)) hx hb hr hlocks hS hP hD (hf0.trans hf.symm) rfl nx1 dX10_isLine_6
set_option maxHeartbeats 4000000 in
set_option maxRecDepth 100000 in
theorem c_X10_isPart (l : Launch) (g : GG) (p0 : Int32) (hne : (m_X10_isPart p0) ≠ none) : Ct l g yX10_isPart cX10_isPart 1 (some .boolean) ({ frames := 1, cells := 0, slots := 0, locals := 22 } : Room) [.int p0] (([] : va_W)) (Qi g .boolean (m_X10_isPart p0) (fun u => u) (fun u => ([] : va_W))) 0 0 := by
  obtain ⟨out, hf⟩ := ne_ex hne
  have hf0 := hf
  refine Ct.of (own := RX10) (by decide +kernel) rfl (Nat.le_of_ble_eq_true rfl) ?_
  intro p e s m below meth c hx hb hr hml hown hts hlocks hin hK A H locs hA hP hD hS hE ls hl
  have hl : lv_has ls 1 [(0, .int p0)] := hl
  unfold m_X10_isPart at hf
  refine lv_iload_n hx hb dX10_isPart_0 rfl (lv_at hl 0 rfl) ?_
  refine lv_iconst (v := 0) hx hb dX10_isPart_1 (by decide) ?_
  refine lv_iconst (v := 1) hx hb dX10_isPart_2 (by decide) ?_
  refine cIp hP hD hS hA hE (fun hPc hDc hSc => rS (As := [.int p0, .int (0 : Int32), .int (1 : Int32)]) (rest := []) hx hb hml hown hts hK (c_X10_in l g p0 (0 : Int32) (1 : Int32) (bnd_ne hf)) svS_X10_in kw1364 hPc hDc hSc rfl rfl hl.1 (Nat.le_of_ble_eq_true rfl) dX10_isPart_3 ⟨Nat.le_of_ble_eq_true rfl, Nat.le_of_ble_eq_true rfl, rfl, rfl, Nat.le_of_ble_eq_true rfl, Nat.le_of_ble_eq_true rfl⟩) [] rfl rfl rfl (fun x1 H locs ex1 nx1 hP hS => ?_)
  have hf := bnd_of hf ex1
  exact retI (v := x1) (u := x1) (val := fun u => u) (W1 := fun u => ([] : va_W)) hx hb hr hlocks hS hP hD (hf0.trans hf.symm) rfl nx1 dX10_isPart_6
set_option maxHeartbeats 4000000 in
set_option maxRecDepth 100000 in
theorem c_X10_divisor (l : Launch) (g : GG) (p0 : Int64) (p2 : Int64) (hne : (m_X10_divisor p0 p2) ≠ none) : Ct l g yX10_divisor cX10_divisor 10 (some .long) ({ frames := 0, cells := 0, slots := 0, locals := 0 } : Room) [.long p0, .long p2] (([] : va_W)) (Ql g (m_X10_divisor p0 p2) (fun u => u) (fun u => ([] : va_W))) 0 0 := by
  obtain ⟨out, hf⟩ := ne_ex hne
  have hf0 := hf
  refine Ct.of (own := RX10) (by decide +kernel) rfl (Nat.le_of_ble_eq_true rfl) ?_
  intro p e s m below meth c hx hb hr hml hown hts hlocks hin hK A H locs hA hP hD hS hE ls hl
  have hl : lv_has ls 10 [(0, .long p0), (2, .long p2)] := hl
  unfold m_X10_divisor at hf
  refine lv_lload_n hx hb dX10_divisor_0 rfl (lv_at hl 0 rfl) ?_
  refine lv_lconst (v := 0) hx hb dX10_divisor_1 (by decide) ?_
  obtain ⟨r1, er1, hf⟩ := bnd hf
  have K : ∀ (H : Heap) (locs : List Loc) (ls : Array Slot), va_P g.1 vwCl (([] : va_W)) H → va_D A (([] : va_W)) → va_S A s.heap H locs → lv_has ls 10 [(2, .long p2)] → W p l e { frames := 0, cells := 0, slots := 0, locals := 0 } s m [.long p0, .long p2].toArray below meth c H locs 0 0 (MQ below (Ql g (m_X10_divisor p0 p2) (fun u => u) (fun u => ([] : va_W)) A) [.long p0, .long p2].toArray s 0 0 A) (F0 m 12 ls [.long r1]) := by
    intro H locs ls hP hD hS hl
    refine lv_lstore (lv' := [(4, .long r1), (2, .long p2)]) hx hb dX10_divisor_12 hl (by decide) rfl (fun ls hl => ?_)
    refine lv_lload_n hx hb dX10_divisor_14 rfl (lv_at hl 1 rfl) ?_
    refine lv_lstore (lv' := [(6, .long p2), (4, .long r1), (2, .long p2)]) hx hb dX10_divisor_15 hl (by decide) rfl (fun ls hl => ?_)
    obtain ⟨r4, er4, hf⟩ := bnd hf
    refine lp_W (P := fun z => ∀ (H : Heap) (locs : List Loc) (ls : Array Slot), va_P g.1 vwCl (([] : va_W)) H → va_D A (([] : va_W)) → va_S A s.heap H locs → lv_has ls 10 [(4, .long z.1), (6, .long z.2)] → W p l e { frames := 0, cells := 0, slots := 0, locals := 0 } s m [.long p0, .long p2].toArray below meth c H locs 0 0 (MQ below (Ql g (m_X10_divisor p0 p2) (fun u => u) (fun u => ([] : va_W)) A) [.long p0, .long p2].toArray s 0 0 A) (F0 m 17 ls [])) (E := fun r4 => ∀ (H : Heap) (locs : List Loc) (ls : Array Slot), va_P g.1 vwCl (([] : va_W)) H → va_D A (([] : va_W)) → va_S A s.heap H locs → lv_has ls 10 [(4, .long r4)] → W p l e { frames := 0, cells := 0, slots := 0, locals := 0 } s m [.long p0, .long p2].toArray below meth c H locs 0 0 (MQ below (Ql g (m_X10_divisor p0 p2) (fun u => u) (fun u => ([] : va_W)) A) [.long p0, .long p2].toArray s 0 0 A) (F0 m 42 ls [])) ?_ fu _ r4 er4 ?_ _ _ _ hP hD hS (lv_sub hl [1, 0] rfl)
    · rintro ⟨x2, x3⟩ y hf hB hXt H locs ls hP hD hS hl
      have hP : va_P g.1 vwCl (([] : va_W)) H := hP
      have hD : va_D A (([] : va_W)) := hD
      have hl : lv_has ls 10 [(4, .long x2), (6, .long x3)] := hl
      have hf : m_X10_divisor_l17 x2 x3 = some y := hf
      unfold m_X10_divisor_l17 at hf
      refine lv_lload hx hb dX10_divisor_17 (lv_at hl 1 rfl) ?_
      refine lv_lconst (v := 0) hx hb dX10_divisor_19 (by decide) ?_
      refine lc_eq (tgt := 42) hx hb dX10_divisor_20 dX10_divisor_21 (by decide) (fun cb => ?_) (fun cb => ?_)
      · have hf := it_t cb hf
        exact hXt _ (Option.some.inj hf).symm _ _ _ hP hD hS (lv_sub hl [0] rfl)
      have hf := it_f cb hf
      refine lv_lload hx hb dX10_divisor_24 (lv_at hl 0 rfl) ?_
      refine lv_lload hx hb dX10_divisor_26 (lv_at hl 1 rfl) ?_
      have hi := it_n hf
      have hf := it_t hi hf
      refine lv_lrem hx hb dX10_divisor_28 hi ?_
      refine lv_lstore (lv' := [(8, .long (x2 - x2 / x3 * x3)), (4, .long x2), (6, .long x3)]) hx hb dX10_divisor_29 hl (by decide) rfl (fun ls hl => ?_)
      refine lv_lload hx hb dX10_divisor_31 (lv_at hl 2 rfl) ?_
      refine lv_lstore (lv' := [(4, .long x3), (8, .long (x2 - x2 / x3 * x3)), (6, .long x3)]) hx hb dX10_divisor_33 hl (by decide) rfl (fun ls hl => ?_)
      refine lv_lload hx hb dX10_divisor_35 (lv_at hl 1 rfl) ?_
      refine lv_lstore (lv' := [(6, .long (x2 - x2 / x3 * x3)), (4, .long x3), (8, .long (x2 - x2 / x3 * x3))]) hx hb dX10_divisor_37 hl (by decide) rfl (fun ls hl => ?_)
      refine lv_goto (tgt := 17) hx hb dX10_divisor_39 (by decide) ?_
      exact hB _ (Option.some.inj hf).symm _ _ _ hP hD hS (lv_sub hl [1, 0] rfl)
    intro H locs ls hP hD hS hl
    have hP : va_P g.1 vwCl (([] : va_W)) H := hP
    have hD : va_D A (([] : va_W)) := hD
    have hl : lv_has ls 10 [(4, .long r4)] := hl
    refine lv_lload hx hb dX10_divisor_42 (lv_at hl 0 rfl) ?_
    exact retL (u := r4) (val := fun u => u) (W1 := fun u => ([] : va_W)) hx hb hr hlocks hS hP hD (hf0.trans hf.symm) rfl dX10_divisor_44
  have hf := er1
  refine lc_ge (tgt := 11) hx hb dX10_divisor_2 dX10_divisor_3 (by decide) (fun cb => ?_) (fun cb => ?_)
  · have hf := it_t cb hf
    refine lv_lload_n hx hb dX10_divisor_11 rfl (lv_at hl 0 rfl) ?_
    have hq := Option.some.inj hf
    subst hq
    exact K _ _ _ hP hD hS (lv_sub hl [1] rfl)
  have hf := it_f cb hf
  refine lv_lload_n hx hb dX10_divisor_6 rfl (lv_at hl 0 rfl) ?_
  refine lv_lneg hx hb dX10_divisor_7 ?_
  refine lv_goto (tgt := 12) hx hb dX10_divisor_8 (by decide) ?_
  have hq := Option.some.inj hf
  subst hq
  exact K _ _ _ hP hD hS (lv_sub hl [1] rfl)
set_option maxHeartbeats 4000000 in
set_option maxRecDepth 100000 in
theorem c_X10_fraction (l : Launch) (g : GG) (a0 : Nat → Nat) (v0_papers : Int32) (v0_raw : (Nat → Int32)) (v0_kind : (Nat → Int32)) (v0_figure : (Nat → Int32)) (v0_heavy : (Nat → Int32)) (v0_place : (Nat → Int32)) (v0_rules : Int32) (v0_lower : (Nat → Int32)) (v0_upper : (Nat → Int32)) (v0_limits : Int32) (v0_limit : (Nat → Int32)) (v0_ties : Int32) (v0_letter : (Nat → Int32)) (v0_letters : Int32) (v0_told : (Nat → Int32)) (v0_tolds : Int32) (v0_places : (Nat → Int32)) (v0_cell : (Nat → Int64)) (v0_refusals : (Nat → Int32)) (v0_imaged : (Nat → Int32)) (v0_hasImage : Int32) (v0_before : (Nat → Int32)) (v0_up : Int64) (v0_down : Int64) (v0_beneath : (Nat → Int32)) (v0_numberUp : Int32) (v0_numberDown : Int32) (v0_block : (Nat → Int32)) (v0_blocks : Int32) (v0_merged : Int32) (v0_valueUp : (Nat → Int32)) (v0_valueDown : (Nat → Int32)) (v0_said : (Nat → Int32)) (v0_saids : Int32) (v0_at : Int32) (v0_number : (Nat → Int32)) (p1 : Int64) (p3 : Int64) (hne : (m_X10_fraction (v0_papers, v0_raw, v0_kind, v0_figure, v0_heavy, v0_place, v0_rules, v0_lower, v0_upper, v0_limits, v0_limit, v0_ties, v0_letter, v0_letters, v0_told, v0_tolds, v0_places, v0_cell, v0_refusals, v0_imaged, v0_hasImage, v0_before, v0_up, v0_down, v0_beneath, v0_numberUp, v0_numberDown, v0_block, v0_blocks, v0_merged, v0_valueUp, v0_valueDown, v0_said, v0_saids, v0_at, v0_number) p1 p3) ≠ none) : Ct l g yX10_fraction cX10_fraction 7 none ({ frames := 1, cells := 0, slots := 0, locals := 29 } : Room) [.ref (a0 0), .long p1, .long p3] (wX10 a0 g v0_papers v0_raw v0_kind v0_figure v0_heavy v0_place v0_rules v0_lower v0_upper v0_limits v0_limit v0_ties v0_letter v0_letters v0_told v0_tolds v0_places v0_cell v0_refusals v0_imaged v0_hasImage v0_before v0_up v0_down v0_beneath v0_numberUp v0_numberDown v0_block v0_blocks v0_merged v0_valueUp v0_valueDown v0_said v0_saids v0_at v0_number) (Qv g (m_X10_fraction (v0_papers, v0_raw, v0_kind, v0_figure, v0_heavy, v0_place, v0_rules, v0_lower, v0_upper, v0_limits, v0_limit, v0_ties, v0_letter, v0_letters, v0_told, v0_tolds, v0_places, v0_cell, v0_refusals, v0_imaged, v0_hasImage, v0_before, v0_up, v0_down, v0_beneath, v0_numberUp, v0_numberDown, v0_block, v0_blocks, v0_merged, v0_valueUp, v0_valueDown, v0_said, v0_saids, v0_at, v0_number) p1 p3) (fun u => wX10 a0 g v0_papers v0_raw v0_kind v0_figure v0_heavy v0_place v0_rules v0_lower v0_upper v0_limits v0_limit v0_ties v0_letter v0_letters v0_told v0_tolds v0_places v0_cell v0_refusals v0_imaged v0_hasImage v0_before u.1 u.2 v0_beneath v0_numberUp v0_numberDown v0_block v0_blocks v0_merged v0_valueUp v0_valueDown v0_said v0_saids v0_at v0_number)) 0 0 := by
  obtain ⟨out, hf⟩ := ne_ex hne
  have hf0 := hf
  refine Ct.of (own := RX10) (by decide +kernel) rfl (Nat.le_of_ble_eq_true rfl) ?_
  intro p e s m below meth c hx hb hr hml hown hts hlocks hin hK A H locs hA hP hD hS hE ls hl
  have hl : lv_has ls 7 [(0, .ref (a0 0)), (1, .long p1), (3, .long p3)] := hl
  unfold m_X10_fraction at hf
  refine lv_lload_n hx hb dX10_fraction_0 rfl (lv_at hl 1 rfl) ?_
  refine lv_lload_n hx hb dX10_fraction_1 rfl (lv_at hl 2 rfl) ?_
  refine cLp hP hD hS hA hE (fun hPc hDc hSc => rS (As := [.long p1, .long p3]) (rest := []) hx hb hml hown hts hK (c_X10_divisor l g p1 p3 (bnd_ne hf)) svS_X10_divisor kw1513 hPc hDc hSc rfl rfl hl.1 (Nat.le_of_ble_eq_true rfl) dX10_fraction_2 ⟨Nat.le_of_ble_eq_true rfl, Nat.le_of_ble_eq_true rfl, rfl, rfl, Nat.le_of_ble_eq_true rfl, Nat.le_of_ble_eq_true rfl⟩) [] rfl rfl rfl (fun x1 H locs ex1 hP hS => ?_)
  have hf := bnd_of hf ex1
  refine lv_lstore (lv' := [(5, .long x1), (0, .ref (a0 0)), (1, .long p1), (3, .long p3)]) hx hb dX10_fraction_5 hl (by decide) rfl (fun ls hl => ?_)
  refine lv_aload_n hx hb dX10_fraction_7 rfl (lv_at hl 1 rfl) ?_
  refine lv_lload_n hx hb dX10_fraction_8 rfl (lv_at hl 2 rfl) ?_
  refine lv_lload hx hb dX10_fraction_9 (lv_at hl 0 rfl) ?_
  have hi := it_n hf
  have hf := it_t hi hf
  refine lv_ldiv hx hb dX10_fraction_11 hi ?_
  refine va_put (D := g.1) (ci := 11) (v := .long (p1 / x1)) (ty := .long) (C := RX10) (T := TX10) (N := 36) hx hb hts layX10 tyX10 tyX10_ok nmX10 hown hK.1 hP hD hS 0 rfl rfl 22 (by decide) (hts _ kw1299) (fun _ h9 => h9) rfl (tyX10_ok 22 (by decide)) rfl rfl (Nat.le_of_ble_eq_true rfl) dX10_fraction_12 (fun H locs hP hD hS => ?_)
  have hP : va_P g.1 vwCl (wX10 a0 g v0_papers v0_raw v0_kind v0_figure v0_heavy v0_place v0_rules v0_lower v0_upper v0_limits v0_limit v0_ties v0_letter v0_letters v0_told v0_tolds v0_places v0_cell v0_refusals v0_imaged v0_hasImage v0_before (p1 / x1) v0_down v0_beneath v0_numberUp v0_numberDown v0_block v0_blocks v0_merged v0_valueUp v0_valueDown v0_said v0_saids v0_at v0_number) H := hP
  have hD : va_D A (wX10 a0 g v0_papers v0_raw v0_kind v0_figure v0_heavy v0_place v0_rules v0_lower v0_upper v0_limits v0_limit v0_ties v0_letter v0_letters v0_told v0_tolds v0_places v0_cell v0_refusals v0_imaged v0_hasImage v0_before (p1 / x1) v0_down v0_beneath v0_numberUp v0_numberDown v0_block v0_blocks v0_merged v0_valueUp v0_valueDown v0_said v0_saids v0_at v0_number) := hD
  refine lv_aload_n hx hb dX10_fraction_15 rfl (lv_at hl 1 rfl) ?_
  refine lv_lload_n hx hb dX10_fraction_16 rfl (lv_at hl 3 rfl) ?_
  refine lv_lload hx hb dX10_fraction_17 (lv_at hl 0 rfl) ?_
  have hi := it_n hf
  have hf := it_t hi hf
  refine lv_ldiv hx hb dX10_fraction_19 hi ?_
  refine va_put (D := g.1) (ci := 11) (v := .long (p3 / x1)) (ty := .long) (C := RX10) (T := TX10) (N := 36) hx hb hts layX10 tyX10 tyX10_ok nmX10 hown hK.1 hP hD hS 0 rfl rfl 23 (by decide) (hts _ kw1300) (fun _ h9 => h9) rfl (tyX10_ok 23 (by decide)) rfl rfl (Nat.le_of_ble_eq_true rfl) dX10_fraction_20 (fun H locs hP hD hS => ?_)
  have hP : va_P g.1 vwCl (wX10 a0 g v0_papers v0_raw v0_kind v0_figure v0_heavy v0_place v0_rules v0_lower v0_upper v0_limits v0_limit v0_ties v0_letter v0_letters v0_told v0_tolds v0_places v0_cell v0_refusals v0_imaged v0_hasImage v0_before (p1 / x1) (p3 / x1) v0_beneath v0_numberUp v0_numberDown v0_block v0_blocks v0_merged v0_valueUp v0_valueDown v0_said v0_saids v0_at v0_number) H := hP
  have hD : va_D A (wX10 a0 g v0_papers v0_raw v0_kind v0_figure v0_heavy v0_place v0_rules v0_lower v0_upper v0_limits v0_limit v0_ties v0_letter v0_letters v0_told v0_tolds v0_places v0_cell v0_refusals v0_imaged v0_hasImage v0_before (p1 / x1) (p3 / x1) v0_beneath v0_numberUp v0_numberDown v0_block v0_blocks v0_merged v0_valueUp v0_valueDown v0_said v0_saids v0_at v0_number) := hD
  exact retV (u := ((p1 / x1), (p3 / x1))) (W1 := fun u => wX10 a0 g v0_papers v0_raw v0_kind v0_figure v0_heavy v0_place v0_rules v0_lower v0_upper v0_limits v0_limit v0_ties v0_letter v0_letters v0_told v0_tolds v0_places v0_cell v0_refusals v0_imaged v0_hasImage v0_before u.1 u.2 v0_beneath v0_numberUp v0_numberDown v0_block v0_blocks v0_merged v0_valueUp v0_valueDown v0_said v0_saids v0_at v0_number) hx hb hr hlocks hS hP hD (hf0.trans hf.symm) dX10_fraction_23
set_option maxHeartbeats 4000000 in
set_option maxRecDepth 100000 in
theorem c_X10_add (l : Launch) (g : GG) (a0 : Nat → Nat) (v0_papers : Int32) (v0_raw : (Nat → Int32)) (v0_kind : (Nat → Int32)) (v0_figure : (Nat → Int32)) (v0_heavy : (Nat → Int32)) (v0_place : (Nat → Int32)) (v0_rules : Int32) (v0_lower : (Nat → Int32)) (v0_upper : (Nat → Int32)) (v0_limits : Int32) (v0_limit : (Nat → Int32)) (v0_ties : Int32) (v0_letter : (Nat → Int32)) (v0_letters : Int32) (v0_told : (Nat → Int32)) (v0_tolds : Int32) (v0_places : (Nat → Int32)) (v0_cell : (Nat → Int64)) (v0_refusals : (Nat → Int32)) (v0_imaged : (Nat → Int32)) (v0_hasImage : Int32) (v0_before : (Nat → Int32)) (v0_up : Int64) (v0_down : Int64) (v0_beneath : (Nat → Int32)) (v0_numberUp : Int32) (v0_numberDown : Int32) (v0_block : (Nat → Int32)) (v0_blocks : Int32) (v0_merged : Int32) (v0_valueUp : (Nat → Int32)) (v0_valueDown : (Nat → Int32)) (v0_said : (Nat → Int32)) (v0_saids : Int32) (v0_at : Int32) (v0_number : (Nat → Int32)) (p1 : Int64) (p3 : Int64) (hne : (m_X10_add (v0_papers, v0_raw, v0_kind, v0_figure, v0_heavy, v0_place, v0_rules, v0_lower, v0_upper, v0_limits, v0_limit, v0_ties, v0_letter, v0_letters, v0_told, v0_tolds, v0_places, v0_cell, v0_refusals, v0_imaged, v0_hasImage, v0_before, v0_up, v0_down, v0_beneath, v0_numberUp, v0_numberDown, v0_block, v0_blocks, v0_merged, v0_valueUp, v0_valueDown, v0_said, v0_saids, v0_at, v0_number) p1 p3) ≠ none) : Ct l g yX10_add cX10_add 7 none ({ frames := 2, cells := 0, slots := 0, locals := 55 } : Room) [.ref (a0 0), .long p1, .long p3] (wX10 a0 g v0_papers v0_raw v0_kind v0_figure v0_heavy v0_place v0_rules v0_lower v0_upper v0_limits v0_limit v0_ties v0_letter v0_letters v0_told v0_tolds v0_places v0_cell v0_refusals v0_imaged v0_hasImage v0_before v0_up v0_down v0_beneath v0_numberUp v0_numberDown v0_block v0_blocks v0_merged v0_valueUp v0_valueDown v0_said v0_saids v0_at v0_number) (Qv g (m_X10_add (v0_papers, v0_raw, v0_kind, v0_figure, v0_heavy, v0_place, v0_rules, v0_lower, v0_upper, v0_limits, v0_limit, v0_ties, v0_letter, v0_letters, v0_told, v0_tolds, v0_places, v0_cell, v0_refusals, v0_imaged, v0_hasImage, v0_before, v0_up, v0_down, v0_beneath, v0_numberUp, v0_numberDown, v0_block, v0_blocks, v0_merged, v0_valueUp, v0_valueDown, v0_said, v0_saids, v0_at, v0_number) p1 p3) (fun u => wX10 a0 g v0_papers v0_raw v0_kind v0_figure v0_heavy v0_place v0_rules v0_lower v0_upper v0_limits v0_limit v0_ties v0_letter v0_letters v0_told v0_tolds v0_places v0_cell v0_refusals v0_imaged v0_hasImage v0_before u.1 u.2 v0_beneath v0_numberUp v0_numberDown v0_block v0_blocks v0_merged v0_valueUp v0_valueDown v0_said v0_saids v0_at v0_number)) 0 0 := by
  obtain ⟨out, hf⟩ := ne_ex hne
  have hf0 := hf
  refine Ct.of (own := RX10) (by decide +kernel) rfl (Nat.le_of_ble_eq_true rfl) ?_
  intro p e s m below meth c hx hb hr hml hown hts hlocks hin hK A H locs hA hP hD hS hE ls hl
  have hl : lv_has ls 7 [(0, .ref (a0 0)), (1, .long p1), (3, .long p3)] := hl
  unfold m_X10_add at hf
  refine lv_aload_n hx hb dX10_add_0 rfl (lv_at hl 0 rfl) ?_
  refine va_get (D := g.1) (ci := 11) (v := .long v0_down) (C := RX10) (T := TX10) (N := 36) hx hb hts layX10 hown hK.1 hP 0 rfl rfl 23 (by decide) (hts _ kw1300) (fun _ h9 => h9) rfl dX10_add_1 ?_
  refine lv_lload_n hx hb dX10_add_4 rfl (lv_at hl 2 rfl) ?_
  refine cLp hP hD hS hA hE (fun hPc hDc hSc => rS (As := [.long v0_down, .long p3]) (rest := []) hx hb hml hown hts hK (c_X10_divisor l g v0_down p3 (bnd_ne hf)) svS_X10_divisor kw1513 hPc hDc hSc rfl rfl hl.1 (Nat.le_of_ble_eq_true rfl) dX10_add_5 ⟨Nat.le_of_ble_eq_true rfl, Nat.le_of_ble_eq_true rfl, rfl, rfl, Nat.le_of_ble_eq_true rfl, Nat.le_of_ble_eq_true rfl⟩) [] rfl rfl rfl (fun x1 H locs ex1 hP hS => ?_)
  have hf := bnd_of hf ex1
  refine lv_lstore (lv' := [(5, .long x1), (0, .ref (a0 0)), (1, .long p1), (3, .long p3)]) hx hb dX10_add_8 hl (by decide) rfl (fun ls hl => ?_)
  refine lv_aload_n hx hb dX10_add_10 rfl (lv_at hl 1 rfl) ?_
  refine lv_aload_n hx hb dX10_add_11 rfl (lv_at hl 1 rfl) ?_
  refine va_get (D := g.1) (ci := 11) (v := .long v0_up) (C := RX10) (T := TX10) (N := 36) hx hb hts layX10 hown hK.1 hP 0 rfl rfl 22 (by decide) (hts _ kw1299) (fun _ h9 => h9) rfl dX10_add_12 ?_
  refine lv_lload_n hx hb dX10_add_15 rfl (lv_at hl 3 rfl) ?_
  refine lv_lload hx hb dX10_add_16 (lv_at hl 0 rfl) ?_
  have hi := it_n hf
  have hf := it_t hi hf
  refine lv_ldiv hx hb dX10_add_18 hi ?_
  refine lv_lmul hx hb dX10_add_19 ?_
  refine lv_lload_n hx hb dX10_add_20 rfl (lv_at hl 2 rfl) ?_
  refine lv_aload_n hx hb dX10_add_21 rfl (lv_at hl 1 rfl) ?_
  refine va_get (D := g.1) (ci := 11) (v := .long v0_down) (C := RX10) (T := TX10) (N := 36) hx hb hts layX10 hown hK.1 hP 0 rfl rfl 23 (by decide) (hts _ kw1300) (fun _ h9 => h9) rfl dX10_add_22 ?_
  refine lv_lload hx hb dX10_add_25 (lv_at hl 0 rfl) ?_
  have hi := it_n hf
  have hf := it_t hi hf
  refine lv_ldiv hx hb dX10_add_27 hi ?_
  refine lv_lmul hx hb dX10_add_28 ?_
  refine lv_ladd hx hb dX10_add_29 ?_
  refine lv_aload_n hx hb dX10_add_30 rfl (lv_at hl 1 rfl) ?_
  refine va_get (D := g.1) (ci := 11) (v := .long v0_down) (C := RX10) (T := TX10) (N := 36) hx hb hts layX10 hown hK.1 hP 0 rfl rfl 23 (by decide) (hts _ kw1300) (fun _ h9 => h9) rfl dX10_add_31 ?_
  refine lv_lload hx hb dX10_add_34 (lv_at hl 0 rfl) ?_
  have hi := it_n hf
  have hf := it_t hi hf
  refine lv_ldiv hx hb dX10_add_36 hi ?_
  refine lv_lload_n hx hb dX10_add_37 rfl (lv_at hl 3 rfl) ?_
  refine lv_lmul hx hb dX10_add_38 ?_
  refine cV hP hD hS hA hE (fun hPc hDc hSc => rV (As := [.long ((v0_up * (p3 / x1)) + (p1 * (v0_down / x1))), .long ((v0_down / x1) * p3)]) (rest := []) hx hb hml hown hts hK (c_X10_fraction l g a0 v0_papers v0_raw v0_kind v0_figure v0_heavy v0_place v0_rules v0_lower v0_upper v0_limits v0_limit v0_ties v0_letter v0_letters v0_told v0_tolds v0_places v0_cell v0_refusals v0_imaged v0_hasImage v0_before v0_up v0_down v0_beneath v0_numberUp v0_numberDown v0_block v0_blocks v0_merged v0_valueUp v0_valueDown v0_said v0_saids v0_at v0_number ((v0_up * (p3 / x1)) + (p1 * (v0_down / x1))) ((v0_down / x1) * p3) (bnd_ne hf)) svV_X10_fraction kw1510 rfl rfl hPc hDc hSc rfl rfl hl.1 (Nat.le_of_ble_eq_true rfl) dX10_add_39 ⟨Nat.le_of_ble_eq_true rfl, Nat.le_of_ble_eq_true rfl, rfl, rfl, Nat.le_of_ble_eq_true rfl, Nat.le_of_ble_eq_true rfl⟩) [(0, 22)] rfl rfl rfl (fun _ => rfl) (fun x2 H locs ex2 hP hD hS => ?_)
  have hf := bnd_of hf ex2
  have hP : va_P g.1 vwCl (wX10 a0 g v0_papers v0_raw v0_kind v0_figure v0_heavy v0_place v0_rules v0_lower v0_upper v0_limits v0_limit v0_ties v0_letter v0_letters v0_told v0_tolds v0_places v0_cell v0_refusals v0_imaged v0_hasImage v0_before x2.1 x2.2 v0_beneath v0_numberUp v0_numberDown v0_block v0_blocks v0_merged v0_valueUp v0_valueDown v0_said v0_saids v0_at v0_number) H := hP
  have hD : va_D A (wX10 a0 g v0_papers v0_raw v0_kind v0_figure v0_heavy v0_place v0_rules v0_lower v0_upper v0_limits v0_limit v0_ties v0_letter v0_letters v0_told v0_tolds v0_places v0_cell v0_refusals v0_imaged v0_hasImage v0_before x2.1 x2.2 v0_beneath v0_numberUp v0_numberDown v0_block v0_blocks v0_merged v0_valueUp v0_valueDown v0_said v0_saids v0_at v0_number) := hD
  exact retV (u := (x2.1, x2.2)) (W1 := fun u => wX10 a0 g v0_papers v0_raw v0_kind v0_figure v0_heavy v0_place v0_rules v0_lower v0_upper v0_limits v0_limit v0_ties v0_letter v0_letters v0_told v0_tolds v0_places v0_cell v0_refusals v0_imaged v0_hasImage v0_before u.1 u.2 v0_beneath v0_numberUp v0_numberDown v0_block v0_blocks v0_merged v0_valueUp v0_valueDown v0_said v0_saids v0_at v0_number) hx hb hr hlocks hS hP hD (hf0.trans hf.symm) dX10_add_42
set_option maxHeartbeats 4000000 in
set_option maxRecDepth 100000 in
theorem c_X10_part (l : Launch) (g : GG) (a0 : Nat → Nat) (v0_papers : Int32) (v0_raw : (Nat → Int32)) (v0_kind : (Nat → Int32)) (v0_figure : (Nat → Int32)) (v0_heavy : (Nat → Int32)) (v0_place : (Nat → Int32)) (v0_rules : Int32) (v0_lower : (Nat → Int32)) (v0_upper : (Nat → Int32)) (v0_limits : Int32) (v0_limit : (Nat → Int32)) (v0_ties : Int32) (v0_letter : (Nat → Int32)) (v0_letters : Int32) (v0_told : (Nat → Int32)) (v0_tolds : Int32) (v0_places : (Nat → Int32)) (v0_cell : (Nat → Int64)) (v0_refusals : (Nat → Int32)) (v0_imaged : (Nat → Int32)) (v0_hasImage : Int32) (v0_before : (Nat → Int32)) (v0_up : Int64) (v0_down : Int64) (v0_beneath : (Nat → Int32)) (v0_numberUp : Int32) (v0_numberDown : Int32) (v0_block : (Nat → Int32)) (v0_blocks : Int32) (v0_merged : Int32) (v0_valueUp : (Nat → Int32)) (v0_valueDown : (Nat → Int32)) (v0_said : (Nat → Int32)) (v0_saids : Int32) (v0_at : Int32) (v0_number : (Nat → Int32)) (p1 : Int32) (hne : (m_X10_part (v0_papers, v0_raw, v0_kind, v0_figure, v0_heavy, v0_place, v0_rules, v0_lower, v0_upper, v0_limits, v0_limit, v0_ties, v0_letter, v0_letters, v0_told, v0_tolds, v0_places, v0_cell, v0_refusals, v0_imaged, v0_hasImage, v0_before, v0_up, v0_down, v0_beneath, v0_numberUp, v0_numberDown, v0_block, v0_blocks, v0_merged, v0_valueUp, v0_valueDown, v0_said, v0_saids, v0_at, v0_number) p1) ≠ none) : Ct l g yX10_part cX10_part 2 (some .long) ({ frames := 0, cells := 0, slots := 0, locals := 0 } : Room) [.ref (a0 0), .int p1] (wX10 a0 g v0_papers v0_raw v0_kind v0_figure v0_heavy v0_place v0_rules v0_lower v0_upper v0_limits v0_limit v0_ties v0_letter v0_letters v0_told v0_tolds v0_places v0_cell v0_refusals v0_imaged v0_hasImage v0_before v0_up v0_down v0_beneath v0_numberUp v0_numberDown v0_block v0_blocks v0_merged v0_valueUp v0_valueDown v0_said v0_saids v0_at v0_number) (Ql g (m_X10_part (v0_papers, v0_raw, v0_kind, v0_figure, v0_heavy, v0_place, v0_rules, v0_lower, v0_upper, v0_limits, v0_limit, v0_ties, v0_letter, v0_letters, v0_told, v0_tolds, v0_places, v0_cell, v0_refusals, v0_imaged, v0_hasImage, v0_before, v0_up, v0_down, v0_beneath, v0_numberUp, v0_numberDown, v0_block, v0_blocks, v0_merged, v0_valueUp, v0_valueDown, v0_said, v0_saids, v0_at, v0_number) p1) (fun u => u) (fun u => wX10 a0 g v0_papers v0_raw v0_kind v0_figure v0_heavy v0_place v0_rules v0_lower v0_upper v0_limits v0_limit v0_ties v0_letter v0_letters v0_told v0_tolds v0_places v0_cell v0_refusals v0_imaged v0_hasImage v0_before v0_up v0_down v0_beneath v0_numberUp v0_numberDown v0_block v0_blocks v0_merged v0_valueUp v0_valueDown v0_said v0_saids v0_at v0_number)) 0 0 := by
  obtain ⟨out, hf⟩ := ne_ex hne
  have hf0 := hf
  refine Ct.of (own := RX10) (by decide +kernel) rfl (Nat.le_of_ble_eq_true rfl) ?_
  intro p e s m below meth c hx hb hr hml hown hts hlocks hin hK A H locs hA hP hD hS hE ls hl
  have hl : lv_has ls 2 [(0, .ref (a0 0)), (1, .int p1)] := hl
  unfold m_X10_part at hf
  refine lv_iload_n hx hb dX10_part_0 rfl (lv_at hl 1 rfl) ?_
  refine lv_if_ne (tgt := 11) hx hb dX10_part_1 (by decide) (fun cb => ?_) (fun cb => ?_)
  · have hf := it_f cb hf
    refine lv_aload_n hx hb dX10_part_11 rfl (lv_at hl 0 rfl) ?_
    refine va_get (D := g.1) (ci := 11) (v := .long v0_down) (C := RX10) (T := TX10) (N := 36) hx hb hts layX10 hown hK.1 hP 0 rfl rfl 23 (by decide) (hts _ kw1300) (fun _ h9 => h9) rfl dX10_part_12 ?_
    exact retL (u := v0_down) (val := fun u => u) (W1 := fun u => wX10 a0 g v0_papers v0_raw v0_kind v0_figure v0_heavy v0_place v0_rules v0_lower v0_upper v0_limits v0_limit v0_ties v0_letter v0_letters v0_told v0_tolds v0_places v0_cell v0_refusals v0_imaged v0_hasImage v0_before v0_up v0_down v0_beneath v0_numberUp v0_numberDown v0_block v0_blocks v0_merged v0_valueUp v0_valueDown v0_said v0_saids v0_at v0_number) hx hb hr hlocks hS hP hD (hf0.trans hf.symm) rfl dX10_part_15
  have hf := it_t cb hf
  refine lv_aload_n hx hb dX10_part_4 rfl (lv_at hl 0 rfl) ?_
  refine va_get (D := g.1) (ci := 11) (v := .long v0_up) (C := RX10) (T := TX10) (N := 36) hx hb hts layX10 hown hK.1 hP 0 rfl rfl 22 (by decide) (hts _ kw1299) (fun _ h9 => h9) rfl dX10_part_5 ?_
  refine lv_goto (tgt := 15) hx hb dX10_part_8 (by decide) ?_
  exact retL (u := v0_up) (val := fun u => u) (W1 := fun u => wX10 a0 g v0_papers v0_raw v0_kind v0_figure v0_heavy v0_place v0_rules v0_lower v0_upper v0_limits v0_limit v0_ties v0_letter v0_letters v0_told v0_tolds v0_places v0_cell v0_refusals v0_imaged v0_hasImage v0_before v0_up v0_down v0_beneath v0_numberUp v0_numberDown v0_block v0_blocks v0_merged v0_valueUp v0_valueDown v0_said v0_saids v0_at v0_number) hx hb hr hlocks hS hP hD (hf0.trans hf.symm) rfl dX10_part_15
set_option maxHeartbeats 4000000 in
set_option maxRecDepth 100000 in
theorem c_X10_markBy (l : Launch) (g : GG) (p0 : Int32) (p1 : Int32) (p2 : Int32) (hne : (m_X10_markBy p0 p1 p2) ≠ none) : Ct l g yX10_markBy cX10_markBy 3 (some .int) ({ frames := 1, cells := 0, slots := 0, locals := 23 } : Room) [.int p0, .int p1, .int p2] (([] : va_W)) (Qi g .int (m_X10_markBy p0 p1 p2) (fun u => u) (fun u => ([] : va_W))) 0 0 := by
  obtain ⟨out, hf⟩ := ne_ex hne
  have hf0 := hf
  refine Ct.of (own := RX10) (by decide +kernel) rfl (Nat.le_of_ble_eq_true rfl) ?_
  intro p e s m below meth c hx hb hr hml hown hts hlocks hin hK A H locs hA hP hD hS hE ls hl
  have hl : lv_has ls 3 [(0, .int p0), (1, .int p1), (2, .int p2)] := hl
  unfold m_X10_markBy at hf
  refine lv_iload_n hx hb dX10_markBy_0 rfl (lv_at hl 0 rfl) ?_
  by_cases c1 : p0 = (1 : Int32)
  · have hf := it_t c1 hf
    refine lv_tableIn (off := 31) (tgt := 32) hx hb dX10_markBy_1 (by rw [c1]; decide) (by rw [c1]; decide) (by rw [c1]; rfl) (by decide) ?_
    refine lv_iload_n hx hb dX10_markBy_32 rfl (lv_at hl 2 rfl) ?_
    refine lv_iload_n hx hb dX10_markBy_33 rfl (lv_at hl 1 rfl) ?_
    refine lv_iadd hx hb dX10_markBy_34 ?_
    exact retI (v := (p2 + p1)) (u := (p2 + p1)) (val := fun u => u) (W1 := fun u => ([] : va_W)) hx hb hr hlocks hS hP hD (hf0.trans hf.symm) rfl rfl dX10_markBy_35
  have hf := it_f c1 hf
  by_cases c2 : p0 = (2 : Int32)
  · have hf := it_t c2 hf
    refine lv_tableIn (off := 35) (tgt := 36) hx hb dX10_markBy_1 (by rw [c2]; decide) (by rw [c2]; decide) (by rw [c2]; rfl) (by decide) ?_
    refine lv_iconst (v := 0) hx hb dX10_markBy_36 (by decide) ?_
    refine lv_iload_n hx hb dX10_markBy_37 rfl (lv_at hl 2 rfl) ?_
    refine lv_iconst (v := 3) hx hb dX10_markBy_38 (by decide) ?_
    refine lv_iload_n hx hb dX10_markBy_39 rfl (lv_at hl 1 rfl) ?_
    refine lv_imul hx hb dX10_markBy_40 ?_
    refine lv_isub hx hb dX10_markBy_41 ?_
    refine va_mmax hx hb (hml.trans hl.1.symm) hown (hts _ kw1427) (hts _ kw43) (hts _ kw4) (hts _ kw44) (Nat.le_of_ble_eq_true rfl) (Nat.le_of_ble_eq_true rfl) (Nat.zero_le _) (Nat.zero_le _) dX10_markBy_42 ?_
    obtain ⟨x1, ex1, hf⟩ := bnd hf
    refine nmI (Option.some.inj ex1) ?_
    exact retI (v := x1) (u := x1) (val := fun u => u) (W1 := fun u => ([] : va_W)) hx hb hr hlocks hS hP hD (hf0.trans hf.symm) rfl rfl dX10_markBy_45
  have hf := it_f c2 hf
  by_cases c3 : p0 = (3 : Int32)
  · have hf := it_t c3 hf
    refine lv_tableIn (off := 45) (tgt := 46) hx hb dX10_markBy_1 (by rw [c3]; decide) (by rw [c3]; decide) (by rw [c3]; rfl) (by decide) ?_
    refine lv_bipush (v := 50) hx hb dX10_markBy_46 (by decide) ?_
    refine lv_iconst (v := 0) hx hb dX10_markBy_48 (by decide) ?_
    refine lv_iload_n hx hb dX10_markBy_49 rfl (lv_at hl 2 rfl) ?_
    refine lv_iconst (v := 3) hx hb dX10_markBy_50 (by decide) ?_
    refine lv_iload_n hx hb dX10_markBy_51 rfl (lv_at hl 1 rfl) ?_
    refine lv_imul hx hb dX10_markBy_52 ?_
    refine lv_isub hx hb dX10_markBy_53 ?_
    refine va_mmax hx hb (hml.trans hl.1.symm) hown (hts _ kw1427) (hts _ kw43) (hts _ kw4) (hts _ kw44) (Nat.le_of_ble_eq_true rfl) (Nat.le_of_ble_eq_true rfl) (Nat.zero_le _) (Nat.zero_le _) dX10_markBy_54 ?_
    obtain ⟨x2, ex2, hf⟩ := bnd hf
    refine nmI (Option.some.inj ex2) ?_
    refine va_mmin hx hb (hml.trans hl.1.symm) hown (hts _ kw1428) (hts _ kw567) (hts _ kw4) (hts _ kw568) (Nat.le_of_ble_eq_true rfl) (Nat.le_of_ble_eq_true rfl) (Nat.zero_le _) (Nat.zero_le _) dX10_markBy_57 ?_
    obtain ⟨x3, ex3, hf⟩ := bnd hf
    refine nmI (Option.some.inj ex3) ?_
    exact retI (v := x3) (u := x3) (val := fun u => u) (W1 := fun u => ([] : va_W)) hx hb hr hlocks hS hP hD (hf0.trans hf.symm) rfl rfl dX10_markBy_60
  have hf := it_f c3 hf
  by_cases c4 : p0 = (4 : Int32)
  · have hf := it_t c4 hf
    refine lv_tableIn (off := 60) (tgt := 61) hx hb dX10_markBy_1 (by rw [c4]; decide) (by rw [c4]; decide) (by rw [c4]; rfl) (by decide) ?_
    refine lv_iload_n hx hb dX10_markBy_61 rfl (lv_at hl 2 rfl) ?_
    refine lv_iload_n hx hb dX10_markBy_62 rfl (lv_at hl 1 rfl) ?_
    refine lv_iadd hx hb dX10_markBy_63 ?_
    refine lv_iload_n hx hb dX10_markBy_64 rfl (lv_at hl 2 rfl) ?_
    refine lv_bipush (v := 70) hx hb dX10_markBy_65 (by decide) ?_
    refine lv_icmp_lt (tgt := 75) hx hb dX10_markBy_67 (by decide) (fun cb => ?_) (fun cb => ?_)
    · have hf := it_t cb hf
      refine lv_iconst (v := 0) hx hb dX10_markBy_75 (by decide) ?_
      refine lv_iadd hx hb dX10_markBy_76 ?_
      exact retI (v := ((p2 + p1) + (0 : Int32))) (u := ((p2 + p1) + (0 : Int32))) (val := fun u => u) (W1 := fun u => ([] : va_W)) hx hb hr hlocks hS hP hD (hf0.trans hf.symm) rfl rfl dX10_markBy_77
    have hf := it_f cb hf
    refine lv_bipush (v := 10) hx hb dX10_markBy_70 (by decide) ?_
    refine lv_goto (tgt := 76) hx hb dX10_markBy_72 (by decide) ?_
    refine lv_iadd hx hb dX10_markBy_76 ?_
    exact retI (v := ((p2 + p1) + (10 : Int32))) (u := ((p2 + p1) + (10 : Int32))) (val := fun u => u) (W1 := fun u => ([] : va_W)) hx hb hr hlocks hS hP hD (hf0.trans hf.symm) rfl rfl dX10_markBy_77
  have hf := it_f c4 hf
  refine lv_tableOut (tgt := 78) hx hb dX10_markBy_1 (by have q1 := lv_neT c1 (a := 1) rfl; have q2 := lv_neT c2 (a := 2) rfl; have q3 := lv_neT c3 (a := 3) rfl; have q4 := lv_neT c4 (a := 4) rfl; omega) (by decide) ?_
  refine lv_iload_n hx hb dX10_markBy_78 rfl (lv_at hl 2 rfl) ?_
  exact retI (v := p2) (u := p2) (val := fun u => u) (W1 := fun u => ([] : va_W)) hx hb hr hlocks hS hP hD (hf0.trans hf.symm) rfl rfl dX10_markBy_79
set_option maxHeartbeats 4000000 in
set_option maxRecDepth 100000 in
theorem c_X10_mark (l : Launch) (g : GG) (a0 : Nat → Nat) (v0_papers : Int32) (v0_raw : (Nat → Int32)) (v0_kind : (Nat → Int32)) (v0_figure : (Nat → Int32)) (v0_heavy : (Nat → Int32)) (v0_place : (Nat → Int32)) (v0_rules : Int32) (v0_lower : (Nat → Int32)) (v0_upper : (Nat → Int32)) (v0_limits : Int32) (v0_limit : (Nat → Int32)) (v0_ties : Int32) (v0_letter : (Nat → Int32)) (v0_letters : Int32) (v0_told : (Nat → Int32)) (v0_tolds : Int32) (v0_places : (Nat → Int32)) (v0_cell : (Nat → Int64)) (v0_refusals : (Nat → Int32)) (v0_imaged : (Nat → Int32)) (v0_hasImage : Int32) (v0_before : (Nat → Int32)) (v0_up : Int64) (v0_down : Int64) (v0_beneath : (Nat → Int32)) (v0_numberUp : Int32) (v0_numberDown : Int32) (v0_block : (Nat → Int32)) (v0_blocks : Int32) (v0_merged : Int32) (v0_valueUp : (Nat → Int32)) (v0_valueDown : (Nat → Int32)) (v0_said : (Nat → Int32)) (v0_saids : Int32) (v0_at : Int32) (v0_number : (Nat → Int32)) (p1 : Int32) (hne : (m_X10_mark (v0_papers, v0_raw, v0_kind, v0_figure, v0_heavy, v0_place, v0_rules, v0_lower, v0_upper, v0_limits, v0_limit, v0_ties, v0_letter, v0_letters, v0_told, v0_tolds, v0_places, v0_cell, v0_refusals, v0_imaged, v0_hasImage, v0_before, v0_up, v0_down, v0_beneath, v0_numberUp, v0_numberDown, v0_block, v0_blocks, v0_merged, v0_valueUp, v0_valueDown, v0_said, v0_saids, v0_at, v0_number) p1) ≠ none) : Ct l g yX10_mark cX10_mark 2 (some .int) ({ frames := 2, cells := 0, slots := 0, locals := 45 } : Room) [.ref (a0 0), .int p1] (wX10 a0 g v0_papers v0_raw v0_kind v0_figure v0_heavy v0_place v0_rules v0_lower v0_upper v0_limits v0_limit v0_ties v0_letter v0_letters v0_told v0_tolds v0_places v0_cell v0_refusals v0_imaged v0_hasImage v0_before v0_up v0_down v0_beneath v0_numberUp v0_numberDown v0_block v0_blocks v0_merged v0_valueUp v0_valueDown v0_said v0_saids v0_at v0_number) (Qi g .int (m_X10_mark (v0_papers, v0_raw, v0_kind, v0_figure, v0_heavy, v0_place, v0_rules, v0_lower, v0_upper, v0_limits, v0_limit, v0_ties, v0_letter, v0_letters, v0_told, v0_tolds, v0_places, v0_cell, v0_refusals, v0_imaged, v0_hasImage, v0_before, v0_up, v0_down, v0_beneath, v0_numberUp, v0_numberDown, v0_block, v0_blocks, v0_merged, v0_valueUp, v0_valueDown, v0_said, v0_saids, v0_at, v0_number) p1) (fun u => u) (fun u => wX10 a0 g v0_papers v0_raw v0_kind v0_figure v0_heavy v0_place v0_rules v0_lower v0_upper v0_limits v0_limit v0_ties v0_letter v0_letters v0_told v0_tolds v0_places v0_cell v0_refusals v0_imaged v0_hasImage v0_before v0_up v0_down v0_beneath v0_numberUp v0_numberDown v0_block v0_blocks v0_merged v0_valueUp v0_valueDown v0_said v0_saids v0_at v0_number)) 0 0 := by
  obtain ⟨out, hf⟩ := ne_ex hne
  have hf0 := hf
  refine Ct.of (own := RX10) (by decide +kernel) rfl (Nat.le_of_ble_eq_true rfl) ?_
  intro p e s m below meth c hx hb hr hml hown hts hlocks hin hK A H locs hA hP hD hS hE ls hl
  have hl : lv_has ls 2 [(0, .ref (a0 0)), (1, .int p1)] := hl
  unfold m_X10_mark at hf
  refine lv_aload_n hx hb dX10_mark_0 rfl (lv_at hl 0 rfl) ?_
  refine va_get (D := g.1) (ci := 11) (v := .ref (a0 2)) (C := RX10) (T := TX10) (N := 36) hx hb hts layX10 hown hK.1 hP 0 rfl rfl 2 (by decide) (hts _ kw1279) (fun _ h9 => h9) rfl dX10_mark_1 ?_
  refine lv_iload_n hx hb dX10_mark_4 rfl (lv_at hl 1 rfl) ?_
  have hi := it_n hf
  have hf := it_t hi hf
  refine va_iald hx hb hK.1 hP 2 0 rfl rfl (inb_in hi) dX10_mark_5 ?_
  refine lv_aload_n hx hb dX10_mark_6 rfl (lv_at hl 0 rfl) ?_
  refine va_get (D := g.1) (ci := 11) (v := .ref (a0 3)) (C := RX10) (T := TX10) (N := 36) hx hb hts layX10 hown hK.1 hP 0 rfl rfl 3 (by decide) (hts _ kw1280) (fun _ h9 => h9) rfl dX10_mark_7 ?_
  refine lv_iload_n hx hb dX10_mark_10 rfl (lv_at hl 1 rfl) ?_
  have hi := it_n hf
  have hf := it_t hi hf
  refine va_iald hx hb hK.1 hP 3 0 rfl rfl (inb_in hi) dX10_mark_11 ?_
  refine lv_aload_n hx hb dX10_mark_12 rfl (lv_at hl 0 rfl) ?_
  refine va_get (D := g.1) (ci := 11) (v := .ref (a0 1)) (C := RX10) (T := TX10) (N := 36) hx hb hts layX10 hown hK.1 hP 0 rfl rfl 1 (by decide) (hts _ kw1278) (fun _ h9 => h9) rfl dX10_mark_13 ?_
  refine lv_iload_n hx hb dX10_mark_16 rfl (lv_at hl 1 rfl) ?_
  have hi := it_n hf
  have hf := it_t hi hf
  refine va_iald hx hb hK.1 hP 1 0 rfl rfl (inb_in hi) dX10_mark_17 ?_
  refine cIp hP hD hS hA hE (fun hPc hDc hSc => rS (As := [.int (v0_kind p1.toNatClampNeg), .int (v0_figure p1.toNatClampNeg), .int (v0_raw p1.toNatClampNeg)]) (rest := []) hx hb hml hown hts hK (c_X10_markBy l g (v0_kind p1.toNatClampNeg) (v0_figure p1.toNatClampNeg) (v0_raw p1.toNatClampNeg) (bnd_ne hf)) svS_X10_markBy kw1424 hPc hDc hSc rfl rfl hl.1 (Nat.le_of_ble_eq_true rfl) dX10_mark_18 ⟨Nat.le_of_ble_eq_true rfl, Nat.le_of_ble_eq_true rfl, rfl, rfl, Nat.le_of_ble_eq_true rfl, Nat.le_of_ble_eq_true rfl⟩) [] rfl rfl rfl (fun x1 H locs ex1 nx1 hP hS => ?_)
  have hf := bnd_of hf ex1
  exact retI (v := x1) (u := x1) (val := fun u => u) (W1 := fun u => wX10 a0 g v0_papers v0_raw v0_kind v0_figure v0_heavy v0_place v0_rules v0_lower v0_upper v0_limits v0_limit v0_ties v0_letter v0_letters v0_told v0_tolds v0_places v0_cell v0_refusals v0_imaged v0_hasImage v0_before v0_up v0_down v0_beneath v0_numberUp v0_numberDown v0_block v0_blocks v0_merged v0_valueUp v0_valueDown v0_said v0_saids v0_at v0_number) hx hb hr hlocks hS hP hD (hf0.trans hf.symm) rfl rfl dX10_mark_21
set_option maxHeartbeats 4000000 in
set_option maxRecDepth 100000 in
theorem c_X10_weight (l : Launch) (g : GG) (a0 : Nat → Nat) (v0_papers : Int32) (v0_raw : (Nat → Int32)) (v0_kind : (Nat → Int32)) (v0_figure : (Nat → Int32)) (v0_heavy : (Nat → Int32)) (v0_place : (Nat → Int32)) (v0_rules : Int32) (v0_lower : (Nat → Int32)) (v0_upper : (Nat → Int32)) (v0_limits : Int32) (v0_limit : (Nat → Int32)) (v0_ties : Int32) (v0_letter : (Nat → Int32)) (v0_letters : Int32) (v0_told : (Nat → Int32)) (v0_tolds : Int32) (v0_places : (Nat → Int32)) (v0_cell : (Nat → Int64)) (v0_refusals : (Nat → Int32)) (v0_imaged : (Nat → Int32)) (v0_hasImage : Int32) (v0_before : (Nat → Int32)) (v0_up : Int64) (v0_down : Int64) (v0_beneath : (Nat → Int32)) (v0_numberUp : Int32) (v0_numberDown : Int32) (v0_block : (Nat → Int32)) (v0_blocks : Int32) (v0_merged : Int32) (v0_valueUp : (Nat → Int32)) (v0_valueDown : (Nat → Int32)) (v0_said : (Nat → Int32)) (v0_saids : Int32) (v0_at : Int32) (v0_number : (Nat → Int32)) (p1 : Int32) (hne : (m_X10_weight (v0_papers, v0_raw, v0_kind, v0_figure, v0_heavy, v0_place, v0_rules, v0_lower, v0_upper, v0_limits, v0_limit, v0_ties, v0_letter, v0_letters, v0_told, v0_tolds, v0_places, v0_cell, v0_refusals, v0_imaged, v0_hasImage, v0_before, v0_up, v0_down, v0_beneath, v0_numberUp, v0_numberDown, v0_block, v0_blocks, v0_merged, v0_valueUp, v0_valueDown, v0_said, v0_saids, v0_at, v0_number) p1) ≠ none) : Ct l g yX10_weight cX10_weight 2 (some .int) ({ frames := 0, cells := 0, slots := 0, locals := 0 } : Room) [.ref (a0 0), .int p1] (wX10 a0 g v0_papers v0_raw v0_kind v0_figure v0_heavy v0_place v0_rules v0_lower v0_upper v0_limits v0_limit v0_ties v0_letter v0_letters v0_told v0_tolds v0_places v0_cell v0_refusals v0_imaged v0_hasImage v0_before v0_up v0_down v0_beneath v0_numberUp v0_numberDown v0_block v0_blocks v0_merged v0_valueUp v0_valueDown v0_said v0_saids v0_at v0_number) (Qi g .int (m_X10_weight (v0_papers, v0_raw, v0_kind, v0_figure, v0_heavy, v0_place, v0_rules, v0_lower, v0_upper, v0_limits, v0_limit, v0_ties, v0_letter, v0_letters, v0_told, v0_tolds, v0_places, v0_cell, v0_refusals, v0_imaged, v0_hasImage, v0_before, v0_up, v0_down, v0_beneath, v0_numberUp, v0_numberDown, v0_block, v0_blocks, v0_merged, v0_valueUp, v0_valueDown, v0_said, v0_saids, v0_at, v0_number) p1) (fun u => u) (fun u => wX10 a0 g v0_papers v0_raw v0_kind v0_figure v0_heavy v0_place v0_rules v0_lower v0_upper v0_limits v0_limit v0_ties v0_letter v0_letters v0_told v0_tolds v0_places v0_cell v0_refusals v0_imaged v0_hasImage v0_before v0_up v0_down v0_beneath v0_numberUp v0_numberDown v0_block v0_blocks v0_merged v0_valueUp v0_valueDown v0_said v0_saids v0_at v0_number)) 0 0 := by
  obtain ⟨out, hf⟩ := ne_ex hne
  have hf0 := hf
  refine Ct.of (own := RX10) (by decide +kernel) rfl (Nat.le_of_ble_eq_true rfl) ?_
  intro p e s m below meth c hx hb hr hml hown hts hlocks hin hK A H locs hA hP hD hS hE ls hl
  have hl : lv_has ls 2 [(0, .ref (a0 0)), (1, .int p1)] := hl
  unfold m_X10_weight at hf
  refine lv_aload_n hx hb dX10_weight_0 rfl (lv_at hl 0 rfl) ?_
  refine va_get (D := g.1) (ci := 11) (v := .ref (a0 2)) (C := RX10) (T := TX10) (N := 36) hx hb hts layX10 hown hK.1 hP 0 rfl rfl 2 (by decide) (hts _ kw1279) (fun _ h9 => h9) rfl dX10_weight_1 ?_
  refine lv_iload_n hx hb dX10_weight_4 rfl (lv_at hl 1 rfl) ?_
  have hi := it_n hf
  have hf := it_t hi hf
  refine va_iald hx hb hK.1 hP 2 0 rfl rfl (inb_in hi) dX10_weight_5 ?_
  by_cases c2 : (v0_kind p1.toNatClampNeg) = (2 : Int32)
  · have hf := it_t c2 hf
    refine lv_tableIn (off := 30) (tgt := 36) hx hb dX10_weight_6 (by rw [c2]; decide) (by rw [c2]; decide) (by rw [c2]; rfl) (by decide) ?_
    refine lv_aload_n hx hb dX10_weight_36 rfl (lv_at hl 0 rfl) ?_
    refine va_get (D := g.1) (ci := 11) (v := .ref (a0 4)) (C := RX10) (T := TX10) (N := 36) hx hb hts layX10 hown hK.1 hP 0 rfl rfl 4 (by decide) (hts _ kw1281) (fun _ h9 => h9) rfl dX10_weight_37 ?_
    refine lv_iload_n hx hb dX10_weight_40 rfl (lv_at hl 1 rfl) ?_
    have hi := it_n hf
    have hf := it_t hi hf
    refine va_iald hx hb hK.1 hP 4 0 rfl rfl (inb_in hi) dX10_weight_41 ?_
    refine lv_iconst (v := 1) hx hb dX10_weight_42 (by decide) ?_
    refine lv_iadd hx hb dX10_weight_43 ?_
    refine lv_iconst (v := 2) hx hb dX10_weight_44 (by decide) ?_
    refine lv_idiv hx hb dX10_weight_45 (by decide) ?_
    exact retI (v := (((v0_heavy p1.toNatClampNeg) + (1 : Int32)) / (2 : Int32))) (u := (((v0_heavy p1.toNatClampNeg) + (1 : Int32)) / (2 : Int32))) (val := fun u => u) (W1 := fun u => wX10 a0 g v0_papers v0_raw v0_kind v0_figure v0_heavy v0_place v0_rules v0_lower v0_upper v0_limits v0_limit v0_ties v0_letter v0_letters v0_told v0_tolds v0_places v0_cell v0_refusals v0_imaged v0_hasImage v0_before v0_up v0_down v0_beneath v0_numberUp v0_numberDown v0_block v0_blocks v0_merged v0_valueUp v0_valueDown v0_said v0_saids v0_at v0_number) hx hb hr hlocks hS hP hD (hf0.trans hf.symm) rfl rfl dX10_weight_46
  have hf := it_f c2 hf
  by_cases c3 : (v0_kind p1.toNatClampNeg) = (3 : Int32)
  · have hf := it_t c3 hf
    refine lv_tableIn (off := 41) (tgt := 47) hx hb dX10_weight_6 (by rw [c3]; decide) (by rw [c3]; decide) (by rw [c3]; rfl) (by decide) ?_
    refine lv_aload_n hx hb dX10_weight_47 rfl (lv_at hl 0 rfl) ?_
    refine va_get (D := g.1) (ci := 11) (v := .ref (a0 4)) (C := RX10) (T := TX10) (N := 36) hx hb hts layX10 hown hK.1 hP 0 rfl rfl 4 (by decide) (hts _ kw1281) (fun _ h9 => h9) rfl dX10_weight_48 ?_
    refine lv_iload_n hx hb dX10_weight_51 rfl (lv_at hl 1 rfl) ?_
    have hi := it_n hf
    have hf := it_t hi hf
    refine va_iald hx hb hK.1 hP 4 0 rfl rfl (inb_in hi) dX10_weight_52 ?_
    refine lv_iconst (v := 1) hx hb dX10_weight_53 (by decide) ?_
    refine lv_iadd hx hb dX10_weight_54 ?_
    refine lv_iconst (v := 2) hx hb dX10_weight_55 (by decide) ?_
    refine lv_idiv hx hb dX10_weight_56 (by decide) ?_
    refine lv_iconst (v := 1) hx hb dX10_weight_57 (by decide) ?_
    refine lv_iadd hx hb dX10_weight_58 ?_
    exact retI (v := ((((v0_heavy p1.toNatClampNeg) + (1 : Int32)) / (2 : Int32)) + (1 : Int32))) (u := ((((v0_heavy p1.toNatClampNeg) + (1 : Int32)) / (2 : Int32)) + (1 : Int32))) (val := fun u => u) (W1 := fun u => wX10 a0 g v0_papers v0_raw v0_kind v0_figure v0_heavy v0_place v0_rules v0_lower v0_upper v0_limits v0_limit v0_ties v0_letter v0_letters v0_told v0_tolds v0_places v0_cell v0_refusals v0_imaged v0_hasImage v0_before v0_up v0_down v0_beneath v0_numberUp v0_numberDown v0_block v0_blocks v0_merged v0_valueUp v0_valueDown v0_said v0_saids v0_at v0_number) hx hb hr hlocks hS hP hD (hf0.trans hf.symm) rfl rfl dX10_weight_59
  have hf := it_f c3 hf
  by_cases c5 : (v0_kind p1.toNatClampNeg) = (5 : Int32)
  · have hf := it_t c5 hf
    refine lv_tableIn (off := 54) (tgt := 60) hx hb dX10_weight_6 (by rw [c5]; decide) (by rw [c5]; decide) (by rw [c5]; rfl) (by decide) ?_
    refine lv_iconst (v := 2) hx hb dX10_weight_60 (by decide) ?_
    refine lv_aload_n hx hb dX10_weight_61 rfl (lv_at hl 0 rfl) ?_
    refine va_get (D := g.1) (ci := 11) (v := .ref (a0 4)) (C := RX10) (T := TX10) (N := 36) hx hb hts layX10 hown hK.1 hP 0 rfl rfl 4 (by decide) (hts _ kw1281) (fun _ h9 => h9) rfl dX10_weight_62 ?_
    refine lv_iload_n hx hb dX10_weight_65 rfl (lv_at hl 1 rfl) ?_
    have hi := it_n hf
    have hf := it_t hi hf
    refine va_iald hx hb hK.1 hP 4 0 rfl rfl (inb_in hi) dX10_weight_66 ?_
    refine lv_imul hx hb dX10_weight_67 ?_
    exact retI (v := ((2 : Int32) * (v0_heavy p1.toNatClampNeg))) (u := ((2 : Int32) * (v0_heavy p1.toNatClampNeg))) (val := fun u => u) (W1 := fun u => wX10 a0 g v0_papers v0_raw v0_kind v0_figure v0_heavy v0_place v0_rules v0_lower v0_upper v0_limits v0_limit v0_ties v0_letter v0_letters v0_told v0_tolds v0_places v0_cell v0_refusals v0_imaged v0_hasImage v0_before v0_up v0_down v0_beneath v0_numberUp v0_numberDown v0_block v0_blocks v0_merged v0_valueUp v0_valueDown v0_said v0_saids v0_at v0_number) hx hb hr hlocks hS hP hD (hf0.trans hf.symm) rfl rfl dX10_weight_68
  have hf := it_f c5 hf
  have KD : W p l e { frames := 0, cells := 0, slots := 0, locals := 0 } s m [.ref (a0 0), .int p1].toArray below meth c H locs 0 0 (MQ below (Qi g .int (m_X10_weight (v0_papers, v0_raw, v0_kind, v0_figure, v0_heavy, v0_place, v0_rules, v0_lower, v0_upper, v0_limits, v0_limit, v0_ties, v0_letter, v0_letters, v0_told, v0_tolds, v0_places, v0_cell, v0_refusals, v0_imaged, v0_hasImage, v0_before, v0_up, v0_down, v0_beneath, v0_numberUp, v0_numberDown, v0_block, v0_blocks, v0_merged, v0_valueUp, v0_valueDown, v0_said, v0_saids, v0_at, v0_number) p1) (fun u => u) (fun u => wX10 a0 g v0_papers v0_raw v0_kind v0_figure v0_heavy v0_place v0_rules v0_lower v0_upper v0_limits v0_limit v0_ties v0_letter v0_letters v0_told v0_tolds v0_places v0_cell v0_refusals v0_imaged v0_hasImage v0_before v0_up v0_down v0_beneath v0_numberUp v0_numberDown v0_block v0_blocks v0_merged v0_valueUp v0_valueDown v0_said v0_saids v0_at v0_number) A) [.ref (a0 0), .int p1].toArray s 0 0 A) (F0 m 69 ls []) := by
    refine lv_aload_n hx hb dX10_weight_69 rfl (lv_at hl 0 rfl) ?_
    refine va_get (D := g.1) (ci := 11) (v := .ref (a0 4)) (C := RX10) (T := TX10) (N := 36) hx hb hts layX10 hown hK.1 hP 0 rfl rfl 4 (by decide) (hts _ kw1281) (fun _ h9 => h9) rfl dX10_weight_70 ?_
    refine lv_iload_n hx hb dX10_weight_73 rfl (lv_at hl 1 rfl) ?_
    have hi := it_n hf
    have hf := it_t hi hf
    refine va_iald hx hb hK.1 hP 4 0 rfl rfl (inb_in hi) dX10_weight_74 ?_
    exact retI (v := (v0_heavy p1.toNatClampNeg)) (u := (v0_heavy p1.toNatClampNeg)) (val := fun u => u) (W1 := fun u => wX10 a0 g v0_papers v0_raw v0_kind v0_figure v0_heavy v0_place v0_rules v0_lower v0_upper v0_limits v0_limit v0_ties v0_letter v0_letters v0_told v0_tolds v0_places v0_cell v0_refusals v0_imaged v0_hasImage v0_before v0_up v0_down v0_beneath v0_numberUp v0_numberDown v0_block v0_blocks v0_merged v0_valueUp v0_valueDown v0_said v0_saids v0_at v0_number) hx hb hr hlocks hS hP hD (hf0.trans hf.symm) rfl rfl dX10_weight_75
  by_cases c4 : (v0_kind p1.toNatClampNeg) = (4 : Int32)
  · exact lv_tableIn (off := 63) (tgt := 69) hx hb dX10_weight_6 (by rw [c4]; decide) (by rw [c4]; decide) (by rw [c4]; rfl) (by decide) KD
  exact lv_tableOut (tgt := 69) hx hb dX10_weight_6 (by have q2 := lv_neT c2 (a := 2) rfl; have q3 := lv_neT c3 (a := 3) rfl; have q4 := lv_neT c4 (a := 4) rfl; have q5 := lv_neT c5 (a := 5) rfl; omega) (by decide) KD
