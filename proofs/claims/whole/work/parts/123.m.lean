theorem svV_X10_leastWorst : SV RX10 yX10_leastWorst cX10_leastWorst 5 none 0 := ⟨kw1576, kw1876, kw16, kw1577, rfl, by decide, by decide, by decide +kernel⟩
theorem svV_X10_isMark : SV RX10 yX10_isMark cX10_isMark 3 (some .boolean) 1 := ⟨kw1567, kw1873, kw16, kw1568, rfl, by decide, by decide, by decide +kernel⟩
theorem svV_X10_isLow : SV RX10 yX10_isLow cX10_isLow 4 (some .boolean) 2 := ⟨kw1558, kw1870, kw16, kw1559, rfl, by decide, by decide, by decide +kernel⟩
theorem svV_X10_costOf : SV RX10 yX10_costOf cX10_costOf 5 (some .int) 2 := ⟨kw1573, kw1875, kw16, kw1574, rfl, by decide, by decide, by decide +kernel⟩
theorem svV_X10_above : SV RX10 yX10_above cX10_above 6 (some .int) 1 := ⟨kw1570, kw1874, kw16, kw1571, rfl, by decide, by decide, by decide +kernel⟩
theorem svV_X10_leastSums : SV RX10 yX10_leastSums cX10_leastSums 5 none 0 := ⟨kw1564, kw1872, kw16, kw1565, rfl, by decide, by decide, by decide +kernel⟩
theorem svV_X10_leastSquares : SV RX10 yX10_leastSquares cX10_leastSquares 12 none 0 := ⟨kw1555, kw1869, kw16, kw1556, rfl, by decide, by decide, by decide +kernel⟩
theorem dX10_isLow_0 : decode cX10_isLow 0 = .ok (.iconst 0, 1) := by decide +kernel
theorem dX10_isLow_1 : decode cX10_isLow 1 = .ok (.istore_n 3, 1) := by decide +kernel
theorem dX10_isLow_2 : decode cX10_isLow 2 = .ok (.iload_n 3, 1) := by decide +kernel
theorem dX10_isLow_3 : decode cX10_isLow 3 = .ok (.aload_n 0, 1) := by decide +kernel
theorem dX10_isLow_4 : decode cX10_isLow 4 = .ok (.getfield 80, 3) := by decide +kernel
theorem dX10_isLow_7 : decode cX10_isLow 7 = .ok (.if_icmp .ge 34, 3) := by decide +kernel
theorem dX10_isLow_10 : decode cX10_isLow 10 = .ok (.iload_n 1, 1) := by decide +kernel
theorem dX10_isLow_11 : decode cX10_isLow 11 = .ok (.iload_n 3, 1) := by decide +kernel
theorem dX10_isLow_12 : decode cX10_isLow 12 = .ok (.invokestatic 130, 3) := by decide +kernel
theorem dX10_isLow_15 : decode cX10_isLow 15 = .ok (.ifCond .eq 20, 3) := by decide +kernel
theorem dX10_isLow_35 : decode cX10_isLow 35 = .ok (.iinc 3 1, 3) := by decide +kernel
theorem dX10_isLow_38 : decode cX10_isLow 38 = .ok (.goto (-36), 3) := by decide +kernel
theorem dX10_isLow_18 : decode cX10_isLow 18 = .ok (.aload_n 0, 1) := by decide +kernel
theorem dX10_isLow_19 : decode cX10_isLow 19 = .ok (.getfield 56, 3) := by decide +kernel
theorem dX10_isLow_22 : decode cX10_isLow 22 = .ok (.iload_n 3, 1) := by decide +kernel
theorem dX10_isLow_23 : decode cX10_isLow 23 = .ok (.iaload, 1) := by decide +kernel
theorem dX10_isLow_24 : decode cX10_isLow 24 = .ok (.iload_n 2, 1) := by decide +kernel
theorem dX10_isLow_25 : decode cX10_isLow 25 = .ok (.iand, 1) := by decide +kernel
theorem dX10_isLow_26 : decode cX10_isLow 26 = .ok (.iload_n 1, 1) := by decide +kernel
theorem dX10_isLow_27 : decode cX10_isLow 27 = .ok (.iconst (-1), 1) := by decide +kernel
theorem dX10_isLow_28 : decode cX10_isLow 28 = .ok (.ixor, 1) := by decide +kernel
theorem dX10_isLow_29 : decode cX10_isLow 29 = .ok (.iand, 1) := by decide +kernel
theorem dX10_isLow_30 : decode cX10_isLow 30 = .ok (.ifCond .eq 5, 3) := by decide +kernel
theorem dX10_isLow_33 : decode cX10_isLow 33 = .ok (.iconst 0, 1) := by decide +kernel
theorem dX10_isLow_34 : decode cX10_isLow 34 = .ok (.ireturn, 1) := by decide +kernel
theorem dX10_isLow_41 : decode cX10_isLow 41 = .ok (.iconst 1, 1) := by decide +kernel
theorem dX10_isLow_42 : decode cX10_isLow 42 = .ok (.ireturn, 1) := by decide +kernel
theorem dX10_costOf_0 : decode cX10_costOf 0 = .ok (.iconst 0, 1) := by decide +kernel
theorem dX10_costOf_1 : decode cX10_costOf 1 = .ok (.istore_n 3, 1) := by decide +kernel
theorem dX10_costOf_2 : decode cX10_costOf 2 = .ok (.iconst 0, 1) := by decide +kernel
theorem dX10_costOf_3 : decode cX10_costOf 3 = .ok (.istore 4, 2) := by decide +kernel
theorem dX10_costOf_5 : decode cX10_costOf 5 = .ok (.iload 4, 2) := by decide +kernel
theorem dX10_costOf_7 : decode cX10_costOf 7 = .ok (.aload_n 0, 1) := by decide +kernel
theorem dX10_costOf_8 : decode cX10_costOf 8 = .ok (.getfield 80, 3) := by decide +kernel
theorem dX10_costOf_11 : decode cX10_costOf 11 = .ok (.if_icmp .ge 46, 3) := by decide +kernel
theorem dX10_costOf_14 : decode cX10_costOf 14 = .ok (.iload_n 3, 1) := by decide +kernel
theorem dX10_costOf_15 : decode cX10_costOf 15 = .ok (.iload_n 1, 1) := by decide +kernel
theorem dX10_costOf_16 : decode cX10_costOf 16 = .ok (.iload 4, 2) := by decide +kernel
theorem dX10_costOf_18 : decode cX10_costOf 18 = .ok (.invokestatic 130, 3) := by decide +kernel
theorem dX10_costOf_21 : decode cX10_costOf 21 = .ok (.aload_n 0, 1) := by decide +kernel
theorem dX10_costOf_22 : decode cX10_costOf 22 = .ok (.iload 4, 2) := by decide +kernel
theorem dX10_costOf_24 : decode cX10_costOf 24 = .ok (.invokevirtual 151, 3) := by decide +kernel
theorem dX10_costOf_27 : decode cX10_costOf 27 = .ok (.iload_n 2, 1) := by decide +kernel
theorem dX10_costOf_36 : decode cX10_costOf 36 = .ok (.if_icmp .eq 12, 3) := by decide +kernel
theorem dX10_costOf_48 : decode cX10_costOf 48 = .ok (.iconst 0, 1) := by decide +kernel
theorem dX10_costOf_49 : decode cX10_costOf 49 = .ok (.iadd, 1) := by decide +kernel
theorem dX10_costOf_50 : decode cX10_costOf 50 = .ok (.istore_n 3, 1) := by decide +kernel
theorem dX10_costOf_51 : decode cX10_costOf 51 = .ok (.iinc 4 1, 3) := by decide +kernel
theorem dX10_costOf_54 : decode cX10_costOf 54 = .ok (.goto (-49), 3) := by decide +kernel
theorem dX10_costOf_39 : decode cX10_costOf 39 = .ok (.aload_n 0, 1) := by decide +kernel
theorem dX10_costOf_40 : decode cX10_costOf 40 = .ok (.iload 4, 2) := by decide +kernel
theorem dX10_costOf_42 : decode cX10_costOf 42 = .ok (.invokevirtual 154, 3) := by decide +kernel
theorem dX10_costOf_45 : decode cX10_costOf 45 = .ok (.goto 4, 3) := by decide +kernel
theorem dX10_costOf_28 : decode cX10_costOf 28 = .ok (.if_icmp .le 7, 3) := by decide +kernel
theorem dX10_costOf_35 : decode cX10_costOf 35 = .ok (.iconst 0, 1) := by decide +kernel
theorem dX10_costOf_31 : decode cX10_costOf 31 = .ok (.iconst 1, 1) := by decide +kernel
theorem dX10_costOf_32 : decode cX10_costOf 32 = .ok (.goto 4, 3) := by decide +kernel
theorem dX10_costOf_57 : decode cX10_costOf 57 = .ok (.iload_n 3, 1) := by decide +kernel
theorem dX10_costOf_58 : decode cX10_costOf 58 = .ok (.ireturn, 1) := by decide +kernel
theorem dX10_above_0 : decode cX10_above 0 = .ok (.iconst 1, 1) := by decide +kernel
theorem dX10_above_1 : decode cX10_above 1 = .ok (.aload_n 0, 1) := by decide +kernel
theorem dX10_above_2 : decode cX10_above 2 = .ok (.getfield 80, 3) := by decide +kernel
theorem dX10_above_5 : decode cX10_above 5 = .ok (.ishl, 1) := by decide +kernel
theorem dX10_above_6 : decode cX10_above 6 = .ok (.iconst 1, 1) := by decide +kernel
theorem dX10_above_7 : decode cX10_above 7 = .ok (.isub, 1) := by decide +kernel
theorem dX10_above_8 : decode cX10_above 8 = .ok (.istore_n 2, 1) := by decide +kernel
theorem dX10_above_9 : decode cX10_above 9 = .ok (.iload_n 2, 1) := by decide +kernel
theorem dX10_above_10 : decode cX10_above 10 = .ok (.istore_n 3, 1) := by decide +kernel
theorem dX10_above_11 : decode cX10_above 11 = .ok (.iconst 0, 1) := by decide +kernel
theorem dX10_above_12 : decode cX10_above 12 = .ok (.istore 4, 2) := by decide +kernel
theorem dX10_above_14 : decode cX10_above 14 = .ok (.iload 4, 2) := by decide +kernel
theorem dX10_above_16 : decode cX10_above 16 = .ok (.iconst 1, 1) := by decide +kernel
theorem dX10_above_17 : decode cX10_above 17 = .ok (.aload_n 0, 1) := by decide +kernel
theorem dX10_above_18 : decode cX10_above 18 = .ok (.getfield 80, 3) := by decide +kernel
theorem dX10_above_21 : decode cX10_above 21 = .ok (.ishl, 1) := by decide +kernel
theorem dX10_above_22 : decode cX10_above 22 = .ok (.if_icmp .ge 71, 3) := by decide +kernel
theorem dX10_above_25 : decode cX10_above 25 = .ok (.aload_n 0, 1) := by decide +kernel
theorem dX10_above_26 : decode cX10_above 26 = .ok (.iload_n 2, 1) := by decide +kernel
theorem dX10_above_27 : decode cX10_above 27 = .ok (.iload 4, 2) := by decide +kernel
theorem dX10_above_29 : decode cX10_above 29 = .ok (.iconst (-1), 1) := by decide +kernel
theorem dX10_above_30 : decode cX10_above 30 = .ok (.ixor, 1) := by decide +kernel
theorem dX10_above_31 : decode cX10_above 31 = .ok (.iand, 1) := by decide +kernel
theorem dX10_above_32 : decode cX10_above 32 = .ok (.iload_n 2, 1) := by decide +kernel
theorem dX10_above_33 : decode cX10_above 33 = .ok (.invokevirtual 264, 3) := by decide +kernel
theorem dX10_above_36 : decode cX10_above 36 = .ok (.ifCond .ne 6, 3) := by decide +kernel
theorem dX10_above_42 : decode cX10_above 42 = .ok (.aload_n 0, 1) := by decide +kernel
theorem dX10_above_43 : decode cX10_above 43 = .ok (.iload 4, 2) := by decide +kernel
theorem dX10_above_45 : decode cX10_above 45 = .ok (.iload_n 1, 1) := by decide +kernel
theorem dX10_above_46 : decode cX10_above 46 = .ok (.invokevirtual 271, 3) := by decide +kernel
theorem dX10_above_49 : decode cX10_above 49 = .ok (.aload_n 0, 1) := by decide +kernel
theorem dX10_above_50 : decode cX10_above 50 = .ok (.iload_n 3, 1) := by decide +kernel
theorem dX10_above_51 : decode cX10_above 51 = .ok (.iload_n 1, 1) := by decide +kernel
theorem dX10_above_52 : decode cX10_above 52 = .ok (.invokevirtual 271, 3) := by decide +kernel
theorem dX10_above_55 : decode cX10_above 55 = .ok (.isub, 1) := by decide +kernel
theorem dX10_above_56 : decode cX10_above 56 = .ok (.istore 5, 2) := by decide +kernel
theorem dX10_above_58 : decode cX10_above 58 = .ok (.iload 5, 2) := by decide +kernel
theorem dX10_above_60 : decode cX10_above 60 = .ok (.ifCond .lt 20, 3) := by decide +kernel
theorem dX10_above_80 : decode cX10_above 80 = .ok (.iload 4, 2) := by decide +kernel
theorem dX10_above_82 : decode cX10_above 82 = .ok (.goto 4, 3) := by decide +kernel
theorem dX10_above_86 : decode cX10_above 86 = .ok (.istore_n 3, 1) := by decide +kernel
theorem dX10_above_87 : decode cX10_above 87 = .ok (.iinc 4 1, 3) := by decide +kernel
theorem dX10_above_90 : decode cX10_above 90 = .ok (.goto (-76), 3) := by decide +kernel
theorem dX10_above_63 : decode cX10_above 63 = .ok (.iload 5, 2) := by decide +kernel
theorem dX10_above_65 : decode cX10_above 65 = .ok (.ifCond .ne 20, 3) := by decide +kernel
theorem dX10_above_85 : decode cX10_above 85 = .ok (.iload_n 3, 1) := by decide +kernel
theorem dX10_above_68 : decode cX10_above 68 = .ok (.iload 4, 2) := by decide +kernel
theorem dX10_above_70 : decode cX10_above 70 = .ok (.invokestatic 170, 3) := by decide +kernel
theorem dX10_above_73 : decode cX10_above 73 = .ok (.iload_n 3, 1) := by decide +kernel
theorem dX10_above_74 : decode cX10_above 74 = .ok (.invokestatic 170, 3) := by decide +kernel
theorem dX10_above_77 : decode cX10_above 77 = .ok (.if_icmp .ge 8, 3) := by decide +kernel
theorem dX10_above_39 : decode cX10_above 39 = .ok (.goto 48, 3) := by decide +kernel
theorem dX10_above_93 : decode cX10_above 93 = .ok (.iload_n 3, 1) := by decide +kernel
theorem dX10_above_94 : decode cX10_above 94 = .ok (.ireturn, 1) := by decide +kernel
theorem dX10_leastSums_0 : decode cX10_leastSums 0 = .ok (.iconst 1, 1) := by decide +kernel
theorem dX10_leastSums_1 : decode cX10_leastSums 1 = .ok (.aload_n 0, 1) := by decide +kernel
theorem dX10_leastSums_2 : decode cX10_leastSums 2 = .ok (.getfield 80, 3) := by decide +kernel
theorem dX10_leastSums_5 : decode cX10_leastSums 5 = .ok (.ishl, 1) := by decide +kernel
theorem dX10_leastSums_6 : decode cX10_leastSums 6 = .ok (.iconst 1, 1) := by decide +kernel
theorem dX10_leastSums_7 : decode cX10_leastSums 7 = .ok (.isub, 1) := by decide +kernel
theorem dX10_leastSums_8 : decode cX10_leastSums 8 = .ok (.istore_n 1, 1) := by decide +kernel
theorem dX10_leastSums_9 : decode cX10_leastSums 9 = .ok (.iconst 0, 1) := by decide +kernel
theorem dX10_leastSums_10 : decode cX10_leastSums 10 = .ok (.istore_n 2, 1) := by decide +kernel
theorem dX10_leastSums_11 : decode cX10_leastSums 11 = .ok (.iload_n 1, 1) := by decide +kernel
theorem dX10_leastSums_12 : decode cX10_leastSums 12 = .ok (.ifCond .eq 70, 3) := by decide +kernel
theorem dX10_leastSums_15 : decode cX10_leastSums 15 = .ok (.aload_n 0, 1) := by decide +kernel
theorem dX10_leastSums_16 : decode cX10_leastSums 16 = .ok (.iload_n 2, 1) := by decide +kernel
theorem dX10_leastSums_17 : decode cX10_leastSums 17 = .ok (.invokevirtual 274, 3) := by decide +kernel
theorem dX10_leastSums_20 : decode cX10_leastSums 20 = .ok (.ifCond .ne 6, 3) := by decide +kernel
theorem dX10_leastSums_26 : decode cX10_leastSums 26 = .ok (.aload_n 0, 1) := by decide +kernel
theorem dX10_leastSums_27 : decode cX10_leastSums 27 = .ok (.iload_n 2, 1) := by decide +kernel
theorem dX10_leastSums_28 : decode cX10_leastSums 28 = .ok (.invokevirtual 277, 3) := by decide +kernel
theorem dX10_leastSums_31 : decode cX10_leastSums 31 = .ok (.istore_n 3, 1) := by decide +kernel
theorem dX10_leastSums_32 : decode cX10_leastSums 32 = .ok (.iconst 0, 1) := by decide +kernel
theorem dX10_leastSums_33 : decode cX10_leastSums 33 = .ok (.istore 4, 2) := by decide +kernel
theorem dX10_leastSums_35 : decode cX10_leastSums 35 = .ok (.iload 4, 2) := by decide +kernel
theorem dX10_leastSums_37 : decode cX10_leastSums 37 = .ok (.aload_n 0, 1) := by decide +kernel
theorem dX10_leastSums_38 : decode cX10_leastSums 38 = .ok (.getfield 80, 3) := by decide +kernel
theorem dX10_leastSums_41 : decode cX10_leastSums 41 = .ok (.if_icmp .ge 31, 3) := by decide +kernel
theorem dX10_leastSums_44 : decode cX10_leastSums 44 = .ok (.iload_n 1, 1) := by decide +kernel
theorem dX10_leastSums_45 : decode cX10_leastSums 45 = .ok (.iload_n 3, 1) := by decide +kernel
theorem dX10_leastSums_46 : decode cX10_leastSums 46 = .ok (.iconst (-1), 1) := by decide +kernel
theorem dX10_leastSums_47 : decode cX10_leastSums 47 = .ok (.ixor, 1) := by decide +kernel
theorem dX10_leastSums_48 : decode cX10_leastSums 48 = .ok (.iand, 1) := by decide +kernel
theorem dX10_leastSums_49 : decode cX10_leastSums 49 = .ok (.iload 4, 2) := by decide +kernel
theorem dX10_leastSums_51 : decode cX10_leastSums 51 = .ok (.invokestatic 130, 3) := by decide +kernel
theorem dX10_leastSums_54 : decode cX10_leastSums 54 = .ok (.ifCond .eq 12, 3) := by decide +kernel
theorem dX10_leastSums_66 : decode cX10_leastSums 66 = .ok (.iinc 4 1, 3) := by decide +kernel
theorem dX10_leastSums_69 : decode cX10_leastSums 69 = .ok (.goto (-34), 3) := by decide +kernel
theorem dX10_leastSums_57 : decode cX10_leastSums 57 = .ok (.aload_n 0, 1) := by decide +kernel
theorem dX10_leastSums_58 : decode cX10_leastSums 58 = .ok (.iload 4, 2) := by decide +kernel
theorem dX10_leastSums_60 : decode cX10_leastSums 60 = .ok (.iload_n 2, 1) := by decide +kernel
theorem dX10_leastSums_61 : decode cX10_leastSums 61 = .ok (.i2l, 1) := by decide +kernel
theorem dX10_leastSums_62 : decode cX10_leastSums 62 = .ok (.lconst 1, 1) := by decide +kernel
theorem dX10_leastSums_63 : decode cX10_leastSums 63 = .ok (.invokevirtual 267, 3) := by decide +kernel
theorem dX10_leastSums_72 : decode cX10_leastSums 72 = .ok (.iload_n 1, 1) := by decide +kernel
theorem dX10_leastSums_73 : decode cX10_leastSums 73 = .ok (.iload_n 3, 1) := by decide +kernel
theorem dX10_leastSums_74 : decode cX10_leastSums 74 = .ok (.iand, 1) := by decide +kernel
theorem dX10_leastSums_75 : decode cX10_leastSums 75 = .ok (.istore_n 1, 1) := by decide +kernel
theorem dX10_leastSums_76 : decode cX10_leastSums 76 = .ok (.iinc 2 1, 3) := by decide +kernel
theorem dX10_leastSums_79 : decode cX10_leastSums 79 = .ok (.goto (-68), 3) := by decide +kernel
theorem dX10_leastSums_23 : decode cX10_leastSums 23 = .ok (.goto 53, 3) := by decide +kernel
theorem dX10_leastSums_82 : decode cX10_leastSums 82 = .ok (.return_, 1) := by decide +kernel
theorem dX10_leastSquares_0 : decode cX10_leastSquares 0 = .ok (.iconst 1, 1) := by decide +kernel
theorem dX10_leastSquares_1 : decode cX10_leastSquares 1 = .ok (.aload_n 0, 1) := by decide +kernel
theorem dX10_leastSquares_2 : decode cX10_leastSquares 2 = .ok (.getfield 80, 3) := by decide +kernel
theorem dX10_leastSquares_5 : decode cX10_leastSquares 5 = .ok (.ishl, 1) := by decide +kernel
theorem dX10_leastSquares_6 : decode cX10_leastSquares 6 = .ok (.iconst 1, 1) := by decide +kernel
theorem dX10_leastSquares_7 : decode cX10_leastSquares 7 = .ok (.isub, 1) := by decide +kernel
theorem dX10_leastSquares_8 : decode cX10_leastSquares 8 = .ok (.istore_n 1, 1) := by decide +kernel
theorem dX10_leastSquares_9 : decode cX10_leastSquares 9 = .ok (.iload_n 1, 1) := by decide +kernel
theorem dX10_leastSquares_10 : decode cX10_leastSquares 10 = .ok (.ifCond .eq 178, 3) := by decide +kernel
theorem dX10_leastSquares_13 : decode cX10_leastSquares 13 = .ok (.iload_n 1, 1) := by decide +kernel
theorem dX10_leastSquares_14 : decode cX10_leastSquares 14 = .ok (.istore_n 2, 1) := by decide +kernel
theorem dX10_leastSquares_15 : decode cX10_leastSquares 15 = .ok (.aload_n 0, 1) := by decide +kernel
theorem dX10_leastSquares_16 : decode cX10_leastSquares 16 = .ok (.iload_n 1, 1) := by decide +kernel
theorem dX10_leastSquares_17 : decode cX10_leastSquares 17 = .ok (.invokevirtual 184, 3) := by decide +kernel
theorem dX10_leastSquares_20 : decode cX10_leastSquares 20 = .ok (.i2l, 1) := by decide +kernel
theorem dX10_leastSquares_21 : decode cX10_leastSquares 21 = .ok (.lstore_n 3, 1) := by decide +kernel
theorem dX10_leastSquares_22 : decode cX10_leastSquares 22 = .ok (.aload_n 0, 1) := by decide +kernel
theorem dX10_leastSquares_23 : decode cX10_leastSquares 23 = .ok (.iload_n 1, 1) := by decide +kernel
theorem dX10_leastSquares_24 : decode cX10_leastSquares 24 = .ok (.invokevirtual 178, 3) := by decide +kernel
theorem dX10_leastSquares_27 : decode cX10_leastSquares 27 = .ok (.i2l, 1) := by decide +kernel
theorem dX10_leastSquares_28 : decode cX10_leastSquares 28 = .ok (.lstore 5, 2) := by decide +kernel
theorem dX10_leastSquares_30 : decode cX10_leastSquares 30 = .ok (.iconst 1, 1) := by decide +kernel
theorem dX10_leastSquares_31 : decode cX10_leastSquares 31 = .ok (.istore 7, 2) := by decide +kernel
theorem dX10_leastSquares_33 : decode cX10_leastSquares 33 = .ok (.iload 7, 2) := by decide +kernel
theorem dX10_leastSquares_35 : decode cX10_leastSquares 35 = .ok (.iconst 1, 1) := by decide +kernel
theorem dX10_leastSquares_36 : decode cX10_leastSquares 36 = .ok (.aload_n 0, 1) := by decide +kernel
theorem dX10_leastSquares_37 : decode cX10_leastSquares 37 = .ok (.getfield 80, 3) := by decide +kernel
theorem dX10_leastSquares_40 : decode cX10_leastSquares 40 = .ok (.ishl, 1) := by decide +kernel
theorem dX10_leastSquares_41 : decode cX10_leastSquares 41 = .ok (.if_icmp .ge 102, 3) := by decide +kernel
theorem dX10_leastSquares_44 : decode cX10_leastSquares 44 = .ok (.iload 7, 2) := by decide +kernel
theorem dX10_leastSquares_46 : decode cX10_leastSquares 46 = .ok (.iload_n 1, 1) := by decide +kernel
theorem dX10_leastSquares_47 : decode cX10_leastSquares 47 = .ok (.iconst (-1), 1) := by decide +kernel
theorem dX10_leastSquares_48 : decode cX10_leastSquares 48 = .ok (.ixor, 1) := by decide +kernel
theorem dX10_leastSquares_49 : decode cX10_leastSquares 49 = .ok (.iand, 1) := by decide +kernel
theorem dX10_leastSquares_50 : decode cX10_leastSquares 50 = .ok (.ifCond .ne 87, 3) := by decide +kernel
theorem dX10_leastSquares_137 : decode cX10_leastSquares 137 = .ok (.iinc 7 1, 3) := by decide +kernel
theorem dX10_leastSquares_140 : decode cX10_leastSquares 140 = .ok (.goto (-107), 3) := by decide +kernel
theorem dX10_leastSquares_53 : decode cX10_leastSquares 53 = .ok (.aload_n 0, 1) := by decide +kernel
theorem dX10_leastSquares_54 : decode cX10_leastSquares 54 = .ok (.iload 7, 2) := by decide +kernel
theorem dX10_leastSquares_56 : decode cX10_leastSquares 56 = .ok (.iload_n 1, 1) := by decide +kernel
theorem dX10_leastSquares_57 : decode cX10_leastSquares 57 = .ok (.invokevirtual 264, 3) := by decide +kernel
theorem dX10_leastSquares_60 : decode cX10_leastSquares 60 = .ok (.ifCond .ne 6, 3) := by decide +kernel
theorem dX10_leastSquares_66 : decode cX10_leastSquares 66 = .ok (.aload_n 0, 1) := by decide +kernel
theorem dX10_leastSquares_67 : decode cX10_leastSquares 67 = .ok (.iload 7, 2) := by decide +kernel
theorem dX10_leastSquares_69 : decode cX10_leastSquares 69 = .ok (.invokevirtual 184, 3) := by decide +kernel
theorem dX10_leastSquares_72 : decode cX10_leastSquares 72 = .ok (.i2l, 1) := by decide +kernel
theorem dX10_leastSquares_73 : decode cX10_leastSquares 73 = .ok (.lload 5, 2) := by decide +kernel
theorem dX10_leastSquares_75 : decode cX10_leastSquares 75 = .ok (.lmul, 1) := by decide +kernel
theorem dX10_leastSquares_76 : decode cX10_leastSquares 76 = .ok (.lstore 8, 2) := by decide +kernel
theorem dX10_leastSquares_78 : decode cX10_leastSquares 78 = .ok (.lload_n 3, 1) := by decide +kernel
theorem dX10_leastSquares_79 : decode cX10_leastSquares 79 = .ok (.aload_n 0, 1) := by decide +kernel
theorem dX10_leastSquares_80 : decode cX10_leastSquares 80 = .ok (.iload 7, 2) := by decide +kernel
theorem dX10_leastSquares_82 : decode cX10_leastSquares 82 = .ok (.invokevirtual 178, 3) := by decide +kernel
theorem dX10_leastSquares_85 : decode cX10_leastSquares 85 = .ok (.i2l, 1) := by decide +kernel
theorem dX10_leastSquares_86 : decode cX10_leastSquares 86 = .ok (.lmul, 1) := by decide +kernel
theorem dX10_leastSquares_87 : decode cX10_leastSquares 87 = .ok (.lstore 10, 2) := by decide +kernel
theorem dX10_leastSquares_89 : decode cX10_leastSquares 89 = .ok (.lload 8, 2) := by decide +kernel
theorem dX10_leastSquares_91 : decode cX10_leastSquares 91 = .ok (.lload 10, 2) := by decide +kernel
theorem dX10_leastSquares_93 : decode cX10_leastSquares 93 = .ok (.lcmp, 1) := by decide +kernel
theorem dX10_leastSquares_94 : decode cX10_leastSquares 94 = .ok (.ifCond .lt 23, 3) := by decide +kernel
theorem dX10_leastSquares_117 : decode cX10_leastSquares 117 = .ok (.iload 7, 2) := by decide +kernel
theorem dX10_leastSquares_119 : decode cX10_leastSquares 119 = .ok (.istore_n 2, 1) := by decide +kernel
theorem dX10_leastSquares_120 : decode cX10_leastSquares 120 = .ok (.aload_n 0, 1) := by decide +kernel
theorem dX10_leastSquares_121 : decode cX10_leastSquares 121 = .ok (.iload 7, 2) := by decide +kernel
theorem dX10_leastSquares_123 : decode cX10_leastSquares 123 = .ok (.invokevirtual 184, 3) := by decide +kernel
theorem dX10_leastSquares_126 : decode cX10_leastSquares 126 = .ok (.i2l, 1) := by decide +kernel
theorem dX10_leastSquares_127 : decode cX10_leastSquares 127 = .ok (.lstore_n 3, 1) := by decide +kernel
theorem dX10_leastSquares_128 : decode cX10_leastSquares 128 = .ok (.aload_n 0, 1) := by decide +kernel
theorem dX10_leastSquares_129 : decode cX10_leastSquares 129 = .ok (.iload 7, 2) := by decide +kernel
theorem dX10_leastSquares_131 : decode cX10_leastSquares 131 = .ok (.invokevirtual 178, 3) := by decide +kernel
theorem dX10_leastSquares_134 : decode cX10_leastSquares 134 = .ok (.i2l, 1) := by decide +kernel
theorem dX10_leastSquares_135 : decode cX10_leastSquares 135 = .ok (.lstore 5, 2) := by decide +kernel
theorem dX10_leastSquares_97 : decode cX10_leastSquares 97 = .ok (.lload 8, 2) := by decide +kernel
theorem dX10_leastSquares_99 : decode cX10_leastSquares 99 = .ok (.lload 10, 2) := by decide +kernel
theorem dX10_leastSquares_101 : decode cX10_leastSquares 101 = .ok (.lcmp, 1) := by decide +kernel
theorem dX10_leastSquares_102 : decode cX10_leastSquares 102 = .ok (.ifCond .ne 35, 3) := by decide +kernel
theorem dX10_leastSquares_105 : decode cX10_leastSquares 105 = .ok (.iload 7, 2) := by decide +kernel
theorem dX10_leastSquares_107 : decode cX10_leastSquares 107 = .ok (.invokestatic 170, 3) := by decide +kernel
theorem dX10_leastSquares_110 : decode cX10_leastSquares 110 = .ok (.iload_n 2, 1) := by decide +kernel
theorem dX10_leastSquares_111 : decode cX10_leastSquares 111 = .ok (.invokestatic 170, 3) := by decide +kernel
theorem dX10_leastSquares_114 : decode cX10_leastSquares 114 = .ok (.if_icmp .le 23, 3) := by decide +kernel
theorem dX10_leastSquares_63 : decode cX10_leastSquares 63 = .ok (.goto 74, 3) := by decide +kernel
theorem dX10_leastSquares_143 : decode cX10_leastSquares 143 = .ok (.iconst 0, 1) := by decide +kernel
theorem dX10_leastSquares_144 : decode cX10_leastSquares 144 = .ok (.istore 7, 2) := by decide +kernel
theorem dX10_leastSquares_146 : decode cX10_leastSquares 146 = .ok (.iload 7, 2) := by decide +kernel
theorem dX10_leastSquares_148 : decode cX10_leastSquares 148 = .ok (.aload_n 0, 1) := by decide +kernel
theorem dX10_leastSquares_149 : decode cX10_leastSquares 149 = .ok (.getfield 80, 3) := by decide +kernel
theorem dX10_leastSquares_152 : decode cX10_leastSquares 152 = .ok (.if_icmp .ge 27, 3) := by decide +kernel
theorem dX10_leastSquares_155 : decode cX10_leastSquares 155 = .ok (.iload_n 2, 1) := by decide +kernel
theorem dX10_leastSquares_156 : decode cX10_leastSquares 156 = .ok (.iload 7, 2) := by decide +kernel
theorem dX10_leastSquares_158 : decode cX10_leastSquares 158 = .ok (.invokestatic 130, 3) := by decide +kernel
theorem dX10_leastSquares_161 : decode cX10_leastSquares 161 = .ok (.ifCond .eq 12, 3) := by decide +kernel
theorem dX10_leastSquares_173 : decode cX10_leastSquares 173 = .ok (.iinc 7 1, 3) := by decide +kernel
theorem dX10_leastSquares_176 : decode cX10_leastSquares 176 = .ok (.goto (-30), 3) := by decide +kernel
theorem dX10_leastSquares_164 : decode cX10_leastSquares 164 = .ok (.aload_n 0, 1) := by decide +kernel
theorem dX10_leastSquares_165 : decode cX10_leastSquares 165 = .ok (.iload 7, 2) := by decide +kernel
theorem dX10_leastSquares_167 : decode cX10_leastSquares 167 = .ok (.lload_n 3, 1) := by decide +kernel
theorem dX10_leastSquares_168 : decode cX10_leastSquares 168 = .ok (.lload 5, 2) := by decide +kernel
theorem dX10_leastSquares_170 : decode cX10_leastSquares 170 = .ok (.invokevirtual 267, 3) := by decide +kernel
theorem dX10_leastSquares_179 : decode cX10_leastSquares 179 = .ok (.iload_n 1, 1) := by decide +kernel
theorem dX10_leastSquares_180 : decode cX10_leastSquares 180 = .ok (.iload_n 2, 1) := by decide +kernel
theorem dX10_leastSquares_181 : decode cX10_leastSquares 181 = .ok (.iconst (-1), 1) := by decide +kernel
theorem dX10_leastSquares_182 : decode cX10_leastSquares 182 = .ok (.ixor, 1) := by decide +kernel
theorem dX10_leastSquares_183 : decode cX10_leastSquares 183 = .ok (.iand, 1) := by decide +kernel
theorem dX10_leastSquares_184 : decode cX10_leastSquares 184 = .ok (.istore_n 1, 1) := by decide +kernel
theorem dX10_leastSquares_185 : decode cX10_leastSquares 185 = .ok (.goto (-176), 3) := by decide +kernel
theorem dX10_leastSquares_188 : decode cX10_leastSquares 188 = .ok (.return_, 1) := by decide +kernel
theorem dX10_values_0 : decode cX10_values 0 = .ok (.aload_n 0, 1) := by decide +kernel
theorem dX10_values_1 : decode cX10_values 1 = .ok (.iload_n 2, 1) := by decide +kernel
theorem dX10_values_2 : decode cX10_values 2 = .ok (.invokevirtual 138, 3) := by decide +kernel
theorem dX10_values_5 : decode cX10_values 5 = .ok (.iload_n 1, 1) := by decide +kernel
theorem dX10_values_6 : decode cX10_values 6 = .ok (.ifCond .ne 10, 3) := by decide +kernel
theorem dX10_values_16 : decode cX10_values 16 = .ok (.iload_n 1, 1) := by decide +kernel
theorem dX10_values_17 : decode cX10_values 17 = .ok (.iconst 1, 1) := by decide +kernel
theorem dX10_values_18 : decode cX10_values 18 = .ok (.if_icmp .ne 10, 3) := by decide +kernel
theorem dX10_values_28 : decode cX10_values 28 = .ok (.aload_n 0, 1) := by decide +kernel
theorem dX10_values_29 : decode cX10_values 29 = .ok (.invokevirtual 261, 3) := by decide +kernel
theorem dX10_values_32 : decode cX10_values 32 = .ok (.return_, 1) := by decide +kernel
theorem dX10_values_21 : decode cX10_values 21 = .ok (.aload_n 0, 1) := by decide +kernel
theorem dX10_values_22 : decode cX10_values 22 = .ok (.invokevirtual 258, 3) := by decide +kernel
theorem dX10_values_25 : decode cX10_values 25 = .ok (.goto 7, 3) := by decide +kernel
theorem dX10_values_9 : decode cX10_values 9 = .ok (.aload_n 0, 1) := by decide +kernel
theorem dX10_values_10 : decode cX10_values 10 = .ok (.invokevirtual 255, 3) := by decide +kernel
theorem dX10_values_13 : decode cX10_values 13 = .ok (.goto 19, 3) := by decide +kernel
set_option maxHeartbeats 4000000 in
set_option maxRecDepth 100000 in
theorem c_X10_isLow (l : Launch) (g : GG) (a0 : Nat → Nat) (v0_papers : Int32) (v0_raw : (Nat → Int32)) (v0_kind : (Nat → Int32)) (v0_figure : (Nat → Int32)) (v0_heavy : (Nat → Int32)) (v0_place : (Nat → Int32)) (v0_rules : Int32) (v0_lower : (Nat → Int32)) (v0_upper : (Nat → Int32)) (v0_limits : Int32) (v0_limit : (Nat → Int32)) (v0_ties : Int32) (v0_letter : (Nat → Int32)) (v0_letters : Int32) (v0_told : (Nat → Int32)) (v0_tolds : Int32) (v0_places : (Nat → Int32)) (v0_cell : (Nat → Int64)) (v0_refusals : (Nat → Int32)) (v0_imaged : (Nat → Int32)) (v0_hasImage : Int32) (v0_before : (Nat → Int32)) (v0_up : Int64) (v0_down : Int64) (v0_beneath : (Nat → Int32)) (v0_numberUp : Int32) (v0_numberDown : Int32) (v0_block : (Nat → Int32)) (v0_blocks : Int32) (v0_merged : Int32) (v0_valueUp : (Nat → Int32)) (v0_valueDown : (Nat → Int32)) (v0_said : (Nat → Int32)) (v0_saids : Int32) (v0_at : Int32) (v0_number : (Nat → Int32)) (p1 : Int32) (p2 : Int32) (hne : (m_X10_isLow (v0_papers, v0_raw, v0_kind, v0_figure, v0_heavy, v0_place, v0_rules, v0_lower, v0_upper, v0_limits, v0_limit, v0_ties, v0_letter, v0_letters, v0_told, v0_tolds, v0_places, v0_cell, v0_refusals, v0_imaged, v0_hasImage, v0_before, v0_up, v0_down, v0_beneath, v0_numberUp, v0_numberDown, v0_block, v0_blocks, v0_merged, v0_valueUp, v0_valueDown, v0_said, v0_saids, v0_at, v0_number) p1 p2) ≠ none) : Ct l g yX10_isLow cX10_isLow 4 (some .boolean) ({ frames := 1, cells := 0, slots := 0, locals := 21 } : Room) [.ref (a0 0), .int p1, .int p2] (wX10 a0 g v0_papers v0_raw v0_kind v0_figure v0_heavy v0_place v0_rules v0_lower v0_upper v0_limits v0_limit v0_ties v0_letter v0_letters v0_told v0_tolds v0_places v0_cell v0_refusals v0_imaged v0_hasImage v0_before v0_up v0_down v0_beneath v0_numberUp v0_numberDown v0_block v0_blocks v0_merged v0_valueUp v0_valueDown v0_said v0_saids v0_at v0_number) (Qi g .boolean (m_X10_isLow (v0_papers, v0_raw, v0_kind, v0_figure, v0_heavy, v0_place, v0_rules, v0_lower, v0_upper, v0_limits, v0_limit, v0_ties, v0_letter, v0_letters, v0_told, v0_tolds, v0_places, v0_cell, v0_refusals, v0_imaged, v0_hasImage, v0_before, v0_up, v0_down, v0_beneath, v0_numberUp, v0_numberDown, v0_block, v0_blocks, v0_merged, v0_valueUp, v0_valueDown, v0_said, v0_saids, v0_at, v0_number) p1 p2) (fun u => u) (fun u => wX10 a0 g v0_papers v0_raw v0_kind v0_figure v0_heavy v0_place v0_rules v0_lower v0_upper v0_limits v0_limit v0_ties v0_letter v0_letters v0_told v0_tolds v0_places v0_cell v0_refusals v0_imaged v0_hasImage v0_before v0_up v0_down v0_beneath v0_numberUp v0_numberDown v0_block v0_blocks v0_merged v0_valueUp v0_valueDown v0_said v0_saids v0_at v0_number)) 0 0 := by
  obtain ⟨out, hf⟩ := ne_ex hne
  have hf0 := hf
  refine Ct.of (own := RX10) (by decide +kernel) rfl (Nat.le_of_ble_eq_true rfl) ?_
  intro p e s m below meth c hx hb hr hml hown hts hlocks hin hK A H locs hA hP hD hS hE ls hl
  have hl : lv_has ls 4 [(0, .ref (a0 0)), (1, .int p1), (2, .int p2)] := hl
  unfold m_X10_isLow at hf
  refine lv_iconst (v := 0) hx hb dX10_isLow_0 (by decide) ?_
  refine lv_istore_n (lv' := [(3, .int (0 : Int32)), (0, .ref (a0 0)), (1, .int p1), (2, .int p2)]) hx hb dX10_isLow_1 rfl hl (by decide) rfl (fun ls hl => ?_)
  obtain ⟨r4, er4, hf⟩ := bnd hf
  refine lp_W (P := fun z => ∀ (H : Heap) (locs : List Loc) (ls : Array Slot), va_P g.1 vwCl (wX10 a0 g v0_papers v0_raw v0_kind v0_figure v0_heavy v0_place v0_rules v0_lower v0_upper v0_limits v0_limit v0_ties v0_letter v0_letters v0_told v0_tolds v0_places v0_cell v0_refusals v0_imaged v0_hasImage v0_before v0_up v0_down v0_beneath v0_numberUp v0_numberDown v0_block v0_blocks v0_merged v0_valueUp v0_valueDown v0_said v0_saids v0_at v0_number) H → va_D A (wX10 a0 g v0_papers v0_raw v0_kind v0_figure v0_heavy v0_place v0_rules v0_lower v0_upper v0_limits v0_limit v0_ties v0_letter v0_letters v0_told v0_tolds v0_places v0_cell v0_refusals v0_imaged v0_hasImage v0_before v0_up v0_down v0_beneath v0_numberUp v0_numberDown v0_block v0_blocks v0_merged v0_valueUp v0_valueDown v0_said v0_saids v0_at v0_number) → va_S A s.heap H locs → lv_has ls 4 [(0, .ref (a0 0)), (1, .int p1), (2, .int p2), (3, .int z)] → W p l e { frames := 1, cells := 0, slots := 0, locals := 21 } s m [.ref (a0 0), .int p1, .int p2].toArray below meth c H locs 0 0 (MQ below (Qi g .boolean (m_X10_isLow (v0_papers, v0_raw, v0_kind, v0_figure, v0_heavy, v0_place, v0_rules, v0_lower, v0_upper, v0_limits, v0_limit, v0_ties, v0_letter, v0_letters, v0_told, v0_tolds, v0_places, v0_cell, v0_refusals, v0_imaged, v0_hasImage, v0_before, v0_up, v0_down, v0_beneath, v0_numberUp, v0_numberDown, v0_block, v0_blocks, v0_merged, v0_valueUp, v0_valueDown, v0_said, v0_saids, v0_at, v0_number) p1 p2) (fun u => u) (fun u => wX10 a0 g v0_papers v0_raw v0_kind v0_figure v0_heavy v0_place v0_rules v0_lower v0_upper v0_limits v0_limit v0_ties v0_letter v0_letters v0_told v0_tolds v0_places v0_cell v0_refusals v0_imaged v0_hasImage v0_before v0_up v0_down v0_beneath v0_numberUp v0_numberDown v0_block v0_blocks v0_merged v0_valueUp v0_valueDown v0_said v0_saids v0_at v0_number) A) [.ref (a0 0), .int p1, .int p2].toArray s 0 0 A) (F0 m 2 ls [])) (E := fun r4 => match r4 with | .inl x5 => (∀ (H : Heap) (locs : List Loc) (ls : Array Slot), va_P g.1 vwCl (wX10 a0 g v0_papers v0_raw v0_kind v0_figure v0_heavy v0_place v0_rules v0_lower v0_upper v0_limits v0_limit v0_ties v0_letter v0_letters v0_told v0_tolds v0_places v0_cell v0_refusals v0_imaged v0_hasImage v0_before v0_up v0_down v0_beneath v0_numberUp v0_numberDown v0_block v0_blocks v0_merged v0_valueUp v0_valueDown v0_said v0_saids v0_at v0_number) H → va_D A (wX10 a0 g v0_papers v0_raw v0_kind v0_figure v0_heavy v0_place v0_rules v0_lower v0_upper v0_limits v0_limit v0_ties v0_letter v0_letters v0_told v0_tolds v0_places v0_cell v0_refusals v0_imaged v0_hasImage v0_before v0_up v0_down v0_beneath v0_numberUp v0_numberDown v0_block v0_blocks v0_merged v0_valueUp v0_valueDown v0_said v0_saids v0_at v0_number) → va_S A s.heap H locs → lv_has ls 4 [] → W p l e { frames := 1, cells := 0, slots := 0, locals := 21 } s m [.ref (a0 0), .int p1, .int p2].toArray below meth c H locs 0 0 (MQ below (Qi g .boolean (m_X10_isLow (v0_papers, v0_raw, v0_kind, v0_figure, v0_heavy, v0_place, v0_rules, v0_lower, v0_upper, v0_limits, v0_limit, v0_ties, v0_letter, v0_letters, v0_told, v0_tolds, v0_places, v0_cell, v0_refusals, v0_imaged, v0_hasImage, v0_before, v0_up, v0_down, v0_beneath, v0_numberUp, v0_numberDown, v0_block, v0_blocks, v0_merged, v0_valueUp, v0_valueDown, v0_said, v0_saids, v0_at, v0_number) p1 p2) (fun u => u) (fun u => wX10 a0 g v0_papers v0_raw v0_kind v0_figure v0_heavy v0_place v0_rules v0_lower v0_upper v0_limits v0_limit v0_ties v0_letter v0_letters v0_told v0_tolds v0_places v0_cell v0_refusals v0_imaged v0_hasImage v0_before v0_up v0_down v0_beneath v0_numberUp v0_numberDown v0_block v0_blocks v0_merged v0_valueUp v0_valueDown v0_said v0_saids v0_at v0_number) A) [.ref (a0 0), .int p1, .int p2].toArray s 0 0 A) (F0 m 33 ls [])) | .inr x6 => (∀ (H : Heap) (locs : List Loc) (ls : Array Slot), va_P g.1 vwCl (wX10 a0 g v0_papers v0_raw v0_kind v0_figure v0_heavy v0_place v0_rules v0_lower v0_upper v0_limits v0_limit v0_ties v0_letter v0_letters v0_told v0_tolds v0_places v0_cell v0_refusals v0_imaged v0_hasImage v0_before v0_up v0_down v0_beneath v0_numberUp v0_numberDown v0_block v0_blocks v0_merged v0_valueUp v0_valueDown v0_said v0_saids v0_at v0_number) H → va_D A (wX10 a0 g v0_papers v0_raw v0_kind v0_figure v0_heavy v0_place v0_rules v0_lower v0_upper v0_limits v0_limit v0_ties v0_letter v0_letters v0_told v0_tolds v0_places v0_cell v0_refusals v0_imaged v0_hasImage v0_before v0_up v0_down v0_beneath v0_numberUp v0_numberDown v0_block v0_blocks v0_merged v0_valueUp v0_valueDown v0_said v0_saids v0_at v0_number) → va_S A s.heap H locs → lv_has ls 4 [] → W p l e { frames := 1, cells := 0, slots := 0, locals := 21 } s m [.ref (a0 0), .int p1, .int p2].toArray below meth c H locs 0 0 (MQ below (Qi g .boolean (m_X10_isLow (v0_papers, v0_raw, v0_kind, v0_figure, v0_heavy, v0_place, v0_rules, v0_lower, v0_upper, v0_limits, v0_limit, v0_ties, v0_letter, v0_letters, v0_told, v0_tolds, v0_places, v0_cell, v0_refusals, v0_imaged, v0_hasImage, v0_before, v0_up, v0_down, v0_beneath, v0_numberUp, v0_numberDown, v0_block, v0_blocks, v0_merged, v0_valueUp, v0_valueDown, v0_said, v0_saids, v0_at, v0_number) p1 p2) (fun u => u) (fun u => wX10 a0 g v0_papers v0_raw v0_kind v0_figure v0_heavy v0_place v0_rules v0_lower v0_upper v0_limits v0_limit v0_ties v0_letter v0_letters v0_told v0_tolds v0_places v0_cell v0_refusals v0_imaged v0_hasImage v0_before v0_up v0_down v0_beneath v0_numberUp v0_numberDown v0_block v0_blocks v0_merged v0_valueUp v0_valueDown v0_said v0_saids v0_at v0_number) A) [.ref (a0 0), .int p1, .int p2].toArray s 0 0 A) (F0 m 41 ls []))) ?_ fu _ r4 er4 ?_ _ _ _ hP hD hS (lv_sub hl [1, 2, 3, 0] rfl)
  · rintro x2 y hf hB hXt H locs ls hP hD hS hl
    have hP : va_P g.1 vwCl (wX10 a0 g v0_papers v0_raw v0_kind v0_figure v0_heavy v0_place v0_rules v0_lower v0_upper v0_limits v0_limit v0_ties v0_letter v0_letters v0_told v0_tolds v0_places v0_cell v0_refusals v0_imaged v0_hasImage v0_before v0_up v0_down v0_beneath v0_numberUp v0_numberDown v0_block v0_blocks v0_merged v0_valueUp v0_valueDown v0_said v0_saids v0_at v0_number) H := hP
    have hD : va_D A (wX10 a0 g v0_papers v0_raw v0_kind v0_figure v0_heavy v0_place v0_rules v0_lower v0_upper v0_limits v0_limit v0_ties v0_letter v0_letters v0_told v0_tolds v0_places v0_cell v0_refusals v0_imaged v0_hasImage v0_before v0_up v0_down v0_beneath v0_numberUp v0_numberDown v0_block v0_blocks v0_merged v0_valueUp v0_valueDown v0_said v0_saids v0_at v0_number) := hD
    have hl : lv_has ls 4 [(0, .ref (a0 0)), (1, .int p1), (2, .int p2), (3, .int x2)] := hl
    have hf : m_X10_isLow_l2 (v0_papers, v0_raw, v0_kind, v0_figure, v0_heavy, v0_place, v0_rules, v0_lower, v0_upper, v0_limits, v0_limit, v0_ties, v0_letter, v0_letters, v0_told, v0_tolds, v0_places, v0_cell, v0_refusals, v0_imaged, v0_hasImage, v0_before, v0_up, v0_down, v0_beneath, v0_numberUp, v0_numberDown, v0_block, v0_blocks, v0_merged, v0_valueUp, v0_valueDown, v0_said, v0_saids, v0_at, v0_number) p1 p2 x2 = some y := hf
    unfold m_X10_isLow_l2 at hf
    refine lv_iload_n hx hb dX10_isLow_2 rfl (lv_at hl 3 rfl) ?_
    refine lv_aload_n hx hb dX10_isLow_3 rfl (lv_at hl 0 rfl) ?_
    refine va_get (D := g.1) (ci := 11) (v := .int v0_papers) (C := RX10) (T := TX10) (N := 36) hx hb hts layX10 hown hK.1 hP 0 rfl rfl 0 (by decide) (hts _ kw1277) (fun _ h9 => h9) rfl dX10_isLow_4 ?_
    refine lv_icmp_ge (tgt := 41) hx hb dX10_isLow_7 (by decide) (fun cb => ?_) (fun cb => ?_)
    · have hf := it_t cb hf
      exact hXt _ (Option.some.inj hf).symm _ _ _ hP hD hS (lv_sub hl [] rfl)
    have hf := it_f cb hf
    refine lv_iload_n hx hb dX10_isLow_10 rfl (lv_at hl 1 rfl) ?_
    refine lv_iload_n hx hb dX10_isLow_11 rfl (lv_at hl 3 rfl) ?_
    refine cIp hP hD hS hA hE (fun hPc hDc hSc => rS (As := [.int p1, .int x2]) (rest := []) hx hb hml hown hts hK (c_X10_has l g p1 x2 (bnd_ne hf)) svS_X10_has kw1395 hPc hDc hSc rfl rfl hl.1 (Nat.le_of_ble_eq_true rfl) dX10_isLow_12 ⟨Nat.le_of_ble_eq_true rfl, Nat.le_of_ble_eq_true rfl, rfl, rfl, Nat.le_of_ble_eq_true rfl, Nat.le_of_ble_eq_true rfl⟩) [] rfl rfl rfl (fun x3 H locs ex3 nx3 hP hS => ?_)
    have hf := bnd_of hf ex3
    refine lv_if_eq (tgt := 35) hx hb dX10_isLow_15 (by decide) (fun cb => ?_) (fun cb => ?_)
    · have hf := it_t cb hf
      refine lv_iinc (v := (x2 + 1)) (lv' := [(3, .int (x2 + 1)), (0, .ref (a0 0)), (1, .int p1), (2, .int p2)]) hx hb dX10_isLow_35 hl (k := 3) rfl (by rfl) (by decide) rfl (fun ls hl => ?_)
      refine lv_goto (tgt := 2) hx hb dX10_isLow_38 (by decide) ?_
      exact hB _ (Option.some.inj hf).symm _ _ _ hP hD hS (lv_sub hl [1, 2, 3, 0] rfl)
    have hf := it_f cb hf
    refine lv_aload_n hx hb dX10_isLow_18 rfl (lv_at hl 0 rfl) ?_
    refine va_get (D := g.1) (ci := 11) (v := .ref (a0 16)) (C := RX10) (T := TX10) (N := 36) hx hb hts layX10 hown hK.1 hP 0 rfl rfl 24 (by decide) (hts _ kw1301) (fun _ h9 => h9) rfl dX10_isLow_19 ?_
    refine lv_iload_n hx hb dX10_isLow_22 rfl (lv_at hl 3 rfl) ?_
    have hi := it_n hf
    have hf := it_t hi hf
    refine va_iald hx hb hK.1 hP 16 0 rfl rfl (inb_in hi) dX10_isLow_23 ?_
    refine lv_iload_n hx hb dX10_isLow_24 rfl (lv_at hl 2 rfl) ?_
    refine lv_iand hx hb dX10_isLow_25 ?_
    refine lv_iload_n hx hb dX10_isLow_26 rfl (lv_at hl 1 rfl) ?_
    refine lv_iconst (v := (-1)) hx hb dX10_isLow_27 (by decide) ?_
    refine lv_ixor hx hb dX10_isLow_28 ?_
    refine lv_iand hx hb dX10_isLow_29 ?_
    refine lv_if_eq (tgt := 35) hx hb dX10_isLow_30 (by decide) (fun cb => ?_) (fun cb => ?_)
    · have hf := it_t cb hf
      refine lv_iinc (v := (x2 + 1)) (lv' := [(3, .int (x2 + 1)), (0, .ref (a0 0)), (1, .int p1), (2, .int p2)]) hx hb dX10_isLow_35 hl (k := 3) rfl (by rfl) (by decide) rfl (fun ls hl => ?_)
      refine lv_goto (tgt := 2) hx hb dX10_isLow_38 (by decide) ?_
      exact hB _ (Option.some.inj hf).symm _ _ _ hP hD hS (lv_sub hl [1, 2, 3, 0] rfl)
    have hf := it_f cb hf
    exact hXt _ (Option.some.inj hf).symm _ _ _ hP hD hS (lv_sub hl [] rfl)
  rcases r4 with x5 | x6
  · intro H locs ls hP hD hS hl
    have hP : va_P g.1 vwCl (wX10 a0 g v0_papers v0_raw v0_kind v0_figure v0_heavy v0_place v0_rules v0_lower v0_upper v0_limits v0_limit v0_ties v0_letter v0_letters v0_told v0_tolds v0_places v0_cell v0_refusals v0_imaged v0_hasImage v0_before v0_up v0_down v0_beneath v0_numberUp v0_numberDown v0_block v0_blocks v0_merged v0_valueUp v0_valueDown v0_said v0_saids v0_at v0_number) H := hP
    have hD : va_D A (wX10 a0 g v0_papers v0_raw v0_kind v0_figure v0_heavy v0_place v0_rules v0_lower v0_upper v0_limits v0_limit v0_ties v0_letter v0_letters v0_told v0_tolds v0_places v0_cell v0_refusals v0_imaged v0_hasImage v0_before v0_up v0_down v0_beneath v0_numberUp v0_numberDown v0_block v0_blocks v0_merged v0_valueUp v0_valueDown v0_said v0_saids v0_at v0_number) := hD
    have hl : lv_has ls 4 [] := hl
    refine lv_iconst (v := 0) hx hb dX10_isLow_33 (by decide) ?_
    exact retI (v := (0 : Int32)) (u := (0 : Int32)) (val := fun u => u) (W1 := fun u => wX10 a0 g v0_papers v0_raw v0_kind v0_figure v0_heavy v0_place v0_rules v0_lower v0_upper v0_limits v0_limit v0_ties v0_letter v0_letters v0_told v0_tolds v0_places v0_cell v0_refusals v0_imaged v0_hasImage v0_before v0_up v0_down v0_beneath v0_numberUp v0_numberDown v0_block v0_blocks v0_merged v0_valueUp v0_valueDown v0_said v0_saids v0_at v0_number) hx hb hr hlocks hS hP hD (hf0.trans hf.symm) rfl rfl dX10_isLow_34
  · intro H locs ls hP hD hS hl
    have hP : va_P g.1 vwCl (wX10 a0 g v0_papers v0_raw v0_kind v0_figure v0_heavy v0_place v0_rules v0_lower v0_upper v0_limits v0_limit v0_ties v0_letter v0_letters v0_told v0_tolds v0_places v0_cell v0_refusals v0_imaged v0_hasImage v0_before v0_up v0_down v0_beneath v0_numberUp v0_numberDown v0_block v0_blocks v0_merged v0_valueUp v0_valueDown v0_said v0_saids v0_at v0_number) H := hP
    have hD : va_D A (wX10 a0 g v0_papers v0_raw v0_kind v0_figure v0_heavy v0_place v0_rules v0_lower v0_upper v0_limits v0_limit v0_ties v0_letter v0_letters v0_told v0_tolds v0_places v0_cell v0_refusals v0_imaged v0_hasImage v0_before v0_up v0_down v0_beneath v0_numberUp v0_numberDown v0_block v0_blocks v0_merged v0_valueUp v0_valueDown v0_said v0_saids v0_at v0_number) := hD
    have hl : lv_has ls 4 [] := hl
    refine lv_iconst (v := 1) hx hb dX10_isLow_41 (by decide) ?_
    exact retI (v := (1 : Int32)) (u := (1 : Int32)) (val := fun u => u) (W1 := fun u => wX10 a0 g v0_papers v0_raw v0_kind v0_figure v0_heavy v0_place v0_rules v0_lower v0_upper v0_limits v0_limit v0_ties v0_letter v0_letters v0_told v0_tolds v0_places v0_cell v0_refusals v0_imaged v0_hasImage v0_before v0_up v0_down v0_beneath v0_numberUp v0_numberDown v0_block v0_blocks v0_merged v0_valueUp v0_valueDown v0_said v0_saids v0_at v0_number) hx hb hr hlocks hS hP hD (hf0.trans hf.symm) rfl rfl dX10_isLow_42
set_option maxHeartbeats 4000000 in
set_option maxRecDepth 100000 in
theorem c_X10_costOf (l : Launch) (g : GG) (a0 : Nat → Nat) (v0_papers : Int32) (v0_raw : (Nat → Int32)) (v0_kind : (Nat → Int32)) (v0_figure : (Nat → Int32)) (v0_heavy : (Nat → Int32)) (v0_place : (Nat → Int32)) (v0_rules : Int32) (v0_lower : (Nat → Int32)) (v0_upper : (Nat → Int32)) (v0_limits : Int32) (v0_limit : (Nat → Int32)) (v0_ties : Int32) (v0_letter : (Nat → Int32)) (v0_letters : Int32) (v0_told : (Nat → Int32)) (v0_tolds : Int32) (v0_places : (Nat → Int32)) (v0_cell : (Nat → Int64)) (v0_refusals : (Nat → Int32)) (v0_imaged : (Nat → Int32)) (v0_hasImage : Int32) (v0_before : (Nat → Int32)) (v0_up : Int64) (v0_down : Int64) (v0_beneath : (Nat → Int32)) (v0_numberUp : Int32) (v0_numberDown : Int32) (v0_block : (Nat → Int32)) (v0_blocks : Int32) (v0_merged : Int32) (v0_valueUp : (Nat → Int32)) (v0_valueDown : (Nat → Int32)) (v0_said : (Nat → Int32)) (v0_saids : Int32) (v0_at : Int32) (v0_number : (Nat → Int32)) (p1 : Int32) (p2 : Int32) (hne : (m_X10_costOf (v0_papers, v0_raw, v0_kind, v0_figure, v0_heavy, v0_place, v0_rules, v0_lower, v0_upper, v0_limits, v0_limit, v0_ties, v0_letter, v0_letters, v0_told, v0_tolds, v0_places, v0_cell, v0_refusals, v0_imaged, v0_hasImage, v0_before, v0_up, v0_down, v0_beneath, v0_numberUp, v0_numberDown, v0_block, v0_blocks, v0_merged, v0_valueUp, v0_valueDown, v0_said, v0_saids, v0_at, v0_number) p1 p2) ≠ none) : Ct l g yX10_costOf cX10_costOf 5 (some .int) ({ frames := 3, cells := 0, slots := 0, locals := 66 } : Room) [.ref (a0 0), .int p1, .int p2] (wX10 a0 g v0_papers v0_raw v0_kind v0_figure v0_heavy v0_place v0_rules v0_lower v0_upper v0_limits v0_limit v0_ties v0_letter v0_letters v0_told v0_tolds v0_places v0_cell v0_refusals v0_imaged v0_hasImage v0_before v0_up v0_down v0_beneath v0_numberUp v0_numberDown v0_block v0_blocks v0_merged v0_valueUp v0_valueDown v0_said v0_saids v0_at v0_number) (Qi g .int (m_X10_costOf (v0_papers, v0_raw, v0_kind, v0_figure, v0_heavy, v0_place, v0_rules, v0_lower, v0_upper, v0_limits, v0_limit, v0_ties, v0_letter, v0_letters, v0_told, v0_tolds, v0_places, v0_cell, v0_refusals, v0_imaged, v0_hasImage, v0_before, v0_up, v0_down, v0_beneath, v0_numberUp, v0_numberDown, v0_block, v0_blocks, v0_merged, v0_valueUp, v0_valueDown, v0_said, v0_saids, v0_at, v0_number) p1 p2) (fun u => u) (fun u => wX10 a0 g v0_papers v0_raw v0_kind v0_figure v0_heavy v0_place v0_rules v0_lower v0_upper v0_limits v0_limit v0_ties v0_letter v0_letters v0_told v0_tolds v0_places v0_cell v0_refusals v0_imaged v0_hasImage v0_before v0_up v0_down v0_beneath v0_numberUp v0_numberDown v0_block v0_blocks v0_merged v0_valueUp v0_valueDown v0_said v0_saids v0_at v0_number)) 0 0 := by
  obtain ⟨out, hf⟩ := ne_ex hne
  have hf0 := hf
  refine Ct.of (own := RX10) (by decide +kernel) rfl (Nat.le_of_ble_eq_true rfl) ?_
  intro p e s m below meth c hx hb hr hml hown hts hlocks hin hK A H locs hA hP hD hS hE ls hl
  have hl : lv_has ls 5 [(0, .ref (a0 0)), (1, .int p1), (2, .int p2)] := hl
  unfold m_X10_costOf at hf
  refine lv_iconst (v := 0) hx hb dX10_costOf_0 (by decide) ?_
  refine lv_istore_n (lv' := [(3, .int (0 : Int32)), (0, .ref (a0 0)), (1, .int p1), (2, .int p2)]) hx hb dX10_costOf_1 rfl hl (by decide) rfl (fun ls hl => ?_)
  refine lv_iconst (v := 0) hx hb dX10_costOf_2 (by decide) ?_
  refine lv_istore (lv' := [(4, .int (0 : Int32)), (3, .int (0 : Int32)), (0, .ref (a0 0)), (1, .int p1), (2, .int p2)]) hx hb dX10_costOf_3 hl (by decide) rfl (fun ls hl => ?_)
  obtain ⟨r11, er11, hf⟩ := bnd hf
  refine lp_W (P := fun z => ∀ (H : Heap) (locs : List Loc) (ls : Array Slot), va_P g.1 vwCl (wX10 a0 g v0_papers v0_raw v0_kind v0_figure v0_heavy v0_place v0_rules v0_lower v0_upper v0_limits v0_limit v0_ties v0_letter v0_letters v0_told v0_tolds v0_places v0_cell v0_refusals v0_imaged v0_hasImage v0_before v0_up v0_down v0_beneath v0_numberUp v0_numberDown v0_block v0_blocks v0_merged v0_valueUp v0_valueDown v0_said v0_saids v0_at v0_number) H → va_D A (wX10 a0 g v0_papers v0_raw v0_kind v0_figure v0_heavy v0_place v0_rules v0_lower v0_upper v0_limits v0_limit v0_ties v0_letter v0_letters v0_told v0_tolds v0_places v0_cell v0_refusals v0_imaged v0_hasImage v0_before v0_up v0_down v0_beneath v0_numberUp v0_numberDown v0_block v0_blocks v0_merged v0_valueUp v0_valueDown v0_said v0_saids v0_at v0_number) → va_S A s.heap H locs → lv_has ls 5 [(0, .ref (a0 0)), (1, .int p1), (2, .int p2), (3, .int z.1), (4, .int z.2)] → W p l e { frames := 3, cells := 0, slots := 0, locals := 66 } s m [.ref (a0 0), .int p1, .int p2].toArray below meth c H locs 0 0 (MQ below (Qi g .int (m_X10_costOf (v0_papers, v0_raw, v0_kind, v0_figure, v0_heavy, v0_place, v0_rules, v0_lower, v0_upper, v0_limits, v0_limit, v0_ties, v0_letter, v0_letters, v0_told, v0_tolds, v0_places, v0_cell, v0_refusals, v0_imaged, v0_hasImage, v0_before, v0_up, v0_down, v0_beneath, v0_numberUp, v0_numberDown, v0_block, v0_blocks, v0_merged, v0_valueUp, v0_valueDown, v0_said, v0_saids, v0_at, v0_number) p1 p2) (fun u => u) (fun u => wX10 a0 g v0_papers v0_raw v0_kind v0_figure v0_heavy v0_place v0_rules v0_lower v0_upper v0_limits v0_limit v0_ties v0_letter v0_letters v0_told v0_tolds v0_places v0_cell v0_refusals v0_imaged v0_hasImage v0_before v0_up v0_down v0_beneath v0_numberUp v0_numberDown v0_block v0_blocks v0_merged v0_valueUp v0_valueDown v0_said v0_saids v0_at v0_number) A) [.ref (a0 0), .int p1, .int p2].toArray s 0 0 A) (F0 m 5 ls [])) (E := fun r11 => ∀ (H : Heap) (locs : List Loc) (ls : Array Slot), va_P g.1 vwCl (wX10 a0 g v0_papers v0_raw v0_kind v0_figure v0_heavy v0_place v0_rules v0_lower v0_upper v0_limits v0_limit v0_ties v0_letter v0_letters v0_told v0_tolds v0_places v0_cell v0_refusals v0_imaged v0_hasImage v0_before v0_up v0_down v0_beneath v0_numberUp v0_numberDown v0_block v0_blocks v0_merged v0_valueUp v0_valueDown v0_said v0_saids v0_at v0_number) H → va_D A (wX10 a0 g v0_papers v0_raw v0_kind v0_figure v0_heavy v0_place v0_rules v0_lower v0_upper v0_limits v0_limit v0_ties v0_letter v0_letters v0_told v0_tolds v0_places v0_cell v0_refusals v0_imaged v0_hasImage v0_before v0_up v0_down v0_beneath v0_numberUp v0_numberDown v0_block v0_blocks v0_merged v0_valueUp v0_valueDown v0_said v0_saids v0_at v0_number) → va_S A s.heap H locs → lv_has ls 5 [(3, .int r11)] → W p l e { frames := 3, cells := 0, slots := 0, locals := 66 } s m [.ref (a0 0), .int p1, .int p2].toArray below meth c H locs 0 0 (MQ below (Qi g .int (m_X10_costOf (v0_papers, v0_raw, v0_kind, v0_figure, v0_heavy, v0_place, v0_rules, v0_lower, v0_upper, v0_limits, v0_limit, v0_ties, v0_letter, v0_letters, v0_told, v0_tolds, v0_places, v0_cell, v0_refusals, v0_imaged, v0_hasImage, v0_before, v0_up, v0_down, v0_beneath, v0_numberUp, v0_numberDown, v0_block, v0_blocks, v0_merged, v0_valueUp, v0_valueDown, v0_said, v0_saids, v0_at, v0_number) p1 p2) (fun u => u) (fun u => wX10 a0 g v0_papers v0_raw v0_kind v0_figure v0_heavy v0_place v0_rules v0_lower v0_upper v0_limits v0_limit v0_ties v0_letter v0_letters v0_told v0_tolds v0_places v0_cell v0_refusals v0_imaged v0_hasImage v0_before v0_up v0_down v0_beneath v0_numberUp v0_numberDown v0_block v0_blocks v0_merged v0_valueUp v0_valueDown v0_said v0_saids v0_at v0_number) A) [.ref (a0 0), .int p1, .int p2].toArray s 0 0 A) (F0 m 57 ls [])) ?_ fu _ r11 er11 ?_ _ _ _ hP hD hS (lv_sub hl [2, 3, 4, 1, 0] rfl)
  · rintro ⟨x5, x6⟩ y hf hB hXt H locs ls hP hD hS hl
    have hP : va_P g.1 vwCl (wX10 a0 g v0_papers v0_raw v0_kind v0_figure v0_heavy v0_place v0_rules v0_lower v0_upper v0_limits v0_limit v0_ties v0_letter v0_letters v0_told v0_tolds v0_places v0_cell v0_refusals v0_imaged v0_hasImage v0_before v0_up v0_down v0_beneath v0_numberUp v0_numberDown v0_block v0_blocks v0_merged v0_valueUp v0_valueDown v0_said v0_saids v0_at v0_number) H := hP
    have hD : va_D A (wX10 a0 g v0_papers v0_raw v0_kind v0_figure v0_heavy v0_place v0_rules v0_lower v0_upper v0_limits v0_limit v0_ties v0_letter v0_letters v0_told v0_tolds v0_places v0_cell v0_refusals v0_imaged v0_hasImage v0_before v0_up v0_down v0_beneath v0_numberUp v0_numberDown v0_block v0_blocks v0_merged v0_valueUp v0_valueDown v0_said v0_saids v0_at v0_number) := hD
    have hl : lv_has ls 5 [(0, .ref (a0 0)), (1, .int p1), (2, .int p2), (3, .int x5), (4, .int x6)] := hl
    have hf : m_X10_costOf_l5 (v0_papers, v0_raw, v0_kind, v0_figure, v0_heavy, v0_place, v0_rules, v0_lower, v0_upper, v0_limits, v0_limit, v0_ties, v0_letter, v0_letters, v0_told, v0_tolds, v0_places, v0_cell, v0_refusals, v0_imaged, v0_hasImage, v0_before, v0_up, v0_down, v0_beneath, v0_numberUp, v0_numberDown, v0_block, v0_blocks, v0_merged, v0_valueUp, v0_valueDown, v0_said, v0_saids, v0_at, v0_number) p1 p2 x5 x6 = some y := hf
    unfold m_X10_costOf_l5 at hf
    refine lv_iload hx hb dX10_costOf_5 (lv_at hl 4 rfl) ?_
    refine lv_aload_n hx hb dX10_costOf_7 rfl (lv_at hl 0 rfl) ?_
    refine va_get (D := g.1) (ci := 11) (v := .int v0_papers) (C := RX10) (T := TX10) (N := 36) hx hb hts layX10 hown hK.1 hP 0 rfl rfl 0 (by decide) (hts _ kw1277) (fun _ h9 => h9) rfl dX10_costOf_8 ?_
    refine lv_icmp_ge (tgt := 57) hx hb dX10_costOf_11 (by decide) (fun cb => ?_) (fun cb => ?_)
    · have hf := it_t cb hf
      exact hXt _ (Option.some.inj hf).symm _ _ _ hP hD hS (lv_sub hl [3] rfl)
    have hf := it_f cb hf
    refine lv_iload_n hx hb dX10_costOf_14 rfl (lv_at hl 3 rfl) ?_
    refine lv_iload_n hx hb dX10_costOf_15 rfl (lv_at hl 1 rfl) ?_
    refine lv_iload hx hb dX10_costOf_16 (lv_at hl 4 rfl) ?_
    refine cIp hP hD hS hA hE (fun hPc hDc hSc => rS (As := [.int p1, .int x6]) (rest := [.int x5]) hx hb hml hown hts hK (c_X10_has l g p1 x6 (bnd_ne hf)) svS_X10_has kw1395 hPc hDc hSc rfl rfl hl.1 (Nat.le_of_ble_eq_true rfl) dX10_costOf_18 ⟨Nat.le_of_ble_eq_true rfl, Nat.le_of_ble_eq_true rfl, rfl, rfl, Nat.le_of_ble_eq_true rfl, Nat.le_of_ble_eq_true rfl⟩) [] rfl rfl rfl (fun x7 H locs ex7 nx7 hP hS => ?_)
    have hf := bnd_of hf ex7
    refine lv_aload_n hx hb dX10_costOf_21 rfl (lv_at hl 0 rfl) ?_
    refine lv_iload hx hb dX10_costOf_22 (lv_at hl 4 rfl) ?_
    refine cIp hP hD hS hA hE (fun hPc hDc hSc => rV (As := [.int x6]) (rest := [.int x7, .int x5]) hx hb hml hown hts hK (c_X10_mark l g a0 v0_papers v0_raw v0_kind v0_figure v0_heavy v0_place v0_rules v0_lower v0_upper v0_limits v0_limit v0_ties v0_letter v0_letters v0_told v0_tolds v0_places v0_cell v0_refusals v0_imaged v0_hasImage v0_before v0_up v0_down v0_beneath v0_numberUp v0_numberDown v0_block v0_blocks v0_merged v0_valueUp v0_valueDown v0_said v0_saids v0_at v0_number x6 (bnd_ne hf)) svV_X10_mark kw1421 rfl rfl hPc hDc hSc rfl rfl hl.1 (Nat.le_of_ble_eq_true rfl) dX10_costOf_24 ⟨Nat.le_of_ble_eq_true rfl, Nat.le_of_ble_eq_true rfl, rfl, rfl, Nat.le_of_ble_eq_true rfl, Nat.le_of_ble_eq_true rfl⟩) [(0, 22)] rfl rfl rfl (fun x8 H locs ex8 nx8 hP hS => ?_)
    have hf := bnd_of hf ex8
    refine lv_iload_n hx hb dX10_costOf_27 rfl (lv_at hl 2 rfl) ?_
    obtain ⟨r9, er9, hf⟩ := bnd hf
    have K : ∀ (H : Heap) (locs : List Loc) (ls : Array Slot), va_P g.1 vwCl (wX10 a0 g v0_papers v0_raw v0_kind v0_figure v0_heavy v0_place v0_rules v0_lower v0_upper v0_limits v0_limit v0_ties v0_letter v0_letters v0_told v0_tolds v0_places v0_cell v0_refusals v0_imaged v0_hasImage v0_before v0_up v0_down v0_beneath v0_numberUp v0_numberDown v0_block v0_blocks v0_merged v0_valueUp v0_valueDown v0_said v0_saids v0_at v0_number) H → va_D A (wX10 a0 g v0_papers v0_raw v0_kind v0_figure v0_heavy v0_place v0_rules v0_lower v0_upper v0_limits v0_limit v0_ties v0_letter v0_letters v0_told v0_tolds v0_places v0_cell v0_refusals v0_imaged v0_hasImage v0_before v0_up v0_down v0_beneath v0_numberUp v0_numberDown v0_block v0_blocks v0_merged v0_valueUp v0_valueDown v0_said v0_saids v0_at v0_number) → va_S A s.heap H locs → lv_has ls 5 [(0, .ref (a0 0)), (1, .int p1), (2, .int p2), (4, .int x6)] → W p l e { frames := 3, cells := 0, slots := 0, locals := 66 } s m [.ref (a0 0), .int p1, .int p2].toArray below meth c H locs 0 0 (MQ below (Qi g .int (m_X10_costOf (v0_papers, v0_raw, v0_kind, v0_figure, v0_heavy, v0_place, v0_rules, v0_lower, v0_upper, v0_limits, v0_limit, v0_ties, v0_letter, v0_letters, v0_told, v0_tolds, v0_places, v0_cell, v0_refusals, v0_imaged, v0_hasImage, v0_before, v0_up, v0_down, v0_beneath, v0_numberUp, v0_numberDown, v0_block, v0_blocks, v0_merged, v0_valueUp, v0_valueDown, v0_said, v0_saids, v0_at, v0_number) p1 p2) (fun u => u) (fun u => wX10 a0 g v0_papers v0_raw v0_kind v0_figure v0_heavy v0_place v0_rules v0_lower v0_upper v0_limits v0_limit v0_ties v0_letter v0_letters v0_told v0_tolds v0_places v0_cell v0_refusals v0_imaged v0_hasImage v0_before v0_up v0_down v0_beneath v0_numberUp v0_numberDown v0_block v0_blocks v0_merged v0_valueUp v0_valueDown v0_said v0_saids v0_at v0_number) A) [.ref (a0 0), .int p1, .int p2].toArray s 0 0 A) (F0 m 36 ls [.int r9, .int x7, .int x5]) := by
      intro H locs ls hP hD hS hl
      refine lv_icmp_eq (tgt := 48) hx hb dX10_costOf_36 (by decide) (fun cb => ?_) (fun cb => ?_)
      · have hf := it_t cb hf
        refine lv_iconst (v := 0) hx hb dX10_costOf_48 (by decide) ?_
        refine lv_iadd hx hb dX10_costOf_49 ?_
        refine lv_istore_n (lv' := [(3, .int (x5 + (0 : Int32))), (0, .ref (a0 0)), (1, .int p1), (2, .int p2), (4, .int x6)]) hx hb dX10_costOf_50 rfl hl (by decide) rfl (fun ls hl => ?_)
        refine lv_iinc (v := (x6 + 1)) (lv' := [(4, .int (x6 + 1)), (3, .int (x5 + (0 : Int32))), (0, .ref (a0 0)), (1, .int p1), (2, .int p2)]) hx hb dX10_costOf_51 hl (k := 4) rfl (by rfl) (by decide) rfl (fun ls hl => ?_)
        refine lv_goto (tgt := 5) hx hb dX10_costOf_54 (by decide) ?_
        exact hB _ (Option.some.inj hf).symm _ _ _ hP hD hS (lv_sub hl [2, 3, 4, 1, 0] rfl)
      have hf := it_f cb hf
      refine lv_aload_n hx hb dX10_costOf_39 rfl (lv_at hl 0 rfl) ?_
      refine lv_iload hx hb dX10_costOf_40 (lv_at hl 3 rfl) ?_
      refine cIp hP hD hS hA hE (fun hPc hDc hSc => rV (As := [.int x6]) (rest := [.int x5]) hx hb hml hown hts hK (c_X10_weight l g a0 v0_papers v0_raw v0_kind v0_figure v0_heavy v0_place v0_rules v0_lower v0_upper v0_limits v0_limit v0_ties v0_letter v0_letters v0_told v0_tolds v0_places v0_cell v0_refusals v0_imaged v0_hasImage v0_before v0_up v0_down v0_beneath v0_numberUp v0_numberDown v0_block v0_blocks v0_merged v0_valueUp v0_valueDown v0_said v0_saids v0_at v0_number x6 (bnd_ne hf)) svV_X10_weight kw1429 rfl rfl hPc hDc hSc rfl rfl hl.1 (Nat.le_of_ble_eq_true rfl) dX10_costOf_42 ⟨Nat.le_of_ble_eq_true rfl, Nat.le_of_ble_eq_true rfl, rfl, rfl, Nat.le_of_ble_eq_true rfl, Nat.le_of_ble_eq_true rfl⟩) [(0, 22)] rfl rfl rfl (fun x10 H locs ex10 nx10 hP hS => ?_)
      have hf := bnd_of hf ex10
      refine lv_goto (tgt := 49) hx hb dX10_costOf_45 (by decide) ?_
      refine lv_iadd hx hb dX10_costOf_49 ?_
      refine lv_istore_n (lv' := [(3, .int (x5 + x10)), (0, .ref (a0 0)), (1, .int p1), (2, .int p2), (4, .int x6)]) hx hb dX10_costOf_50 rfl hl (by decide) rfl (fun ls hl => ?_)
      refine lv_iinc (v := (x6 + 1)) (lv' := [(4, .int (x6 + 1)), (3, .int (x5 + x10)), (0, .ref (a0 0)), (1, .int p1), (2, .int p2)]) hx hb dX10_costOf_51 hl (k := 4) rfl (by rfl) (by decide) rfl (fun ls hl => ?_)
      refine lv_goto (tgt := 5) hx hb dX10_costOf_54 (by decide) ?_
      exact hB _ (Option.some.inj hf).symm _ _ _ hP hD hS (lv_sub hl [2, 3, 4, 1, 0] rfl)
    have hf := er9
    refine lv_icmp_le (tgt := 35) hx hb dX10_costOf_28 (by decide) (fun cb => ?_) (fun cb => ?_)
    · have hf := it_t cb hf
      refine lv_iconst (v := 0) hx hb dX10_costOf_35 (by decide) ?_
      have hq := Option.some.inj hf
      subst hq
      exact K _ _ _ hP hD hS (lv_sub hl [0, 1, 2, 4] rfl)
    have hf := it_f cb hf
    refine lv_iconst (v := 1) hx hb dX10_costOf_31 (by decide) ?_
    refine lv_goto (tgt := 36) hx hb dX10_costOf_32 (by decide) ?_
    have hq := Option.some.inj hf
    subst hq
    exact K _ _ _ hP hD hS (lv_sub hl [0, 1, 2, 4] rfl)
  intro H locs ls hP hD hS hl
  have hP : va_P g.1 vwCl (wX10 a0 g v0_papers v0_raw v0_kind v0_figure v0_heavy v0_place v0_rules v0_lower v0_upper v0_limits v0_limit v0_ties v0_letter v0_letters v0_told v0_tolds v0_places v0_cell v0_refusals v0_imaged v0_hasImage v0_before v0_up v0_down v0_beneath v0_numberUp v0_numberDown v0_block v0_blocks v0_merged v0_valueUp v0_valueDown v0_said v0_saids v0_at v0_number) H := hP
  have hD : va_D A (wX10 a0 g v0_papers v0_raw v0_kind v0_figure v0_heavy v0_place v0_rules v0_lower v0_upper v0_limits v0_limit v0_ties v0_letter v0_letters v0_told v0_tolds v0_places v0_cell v0_refusals v0_imaged v0_hasImage v0_before v0_up v0_down v0_beneath v0_numberUp v0_numberDown v0_block v0_blocks v0_merged v0_valueUp v0_valueDown v0_said v0_saids v0_at v0_number) := hD
  have hl : lv_has ls 5 [(3, .int r11)] := hl
  refine lv_iload_n hx hb dX10_costOf_57 rfl (lv_at hl 0 rfl) ?_
  exact retI (v := r11) (u := r11) (val := fun u => u) (W1 := fun u => wX10 a0 g v0_papers v0_raw v0_kind v0_figure v0_heavy v0_place v0_rules v0_lower v0_upper v0_limits v0_limit v0_ties v0_letter v0_letters v0_told v0_tolds v0_places v0_cell v0_refusals v0_imaged v0_hasImage v0_before v0_up v0_down v0_beneath v0_numberUp v0_numberDown v0_block v0_blocks v0_merged v0_valueUp v0_valueDown v0_said v0_saids v0_at v0_number) hx hb hr hlocks hS hP hD (hf0.trans hf.symm) rfl rfl dX10_costOf_58
set_option maxHeartbeats 4000000 in
set_option maxRecDepth 100000 in
theorem c_X10_above (l : Launch) (g : GG) (a0 : Nat → Nat) (v0_papers : Int32) (v0_raw : (Nat → Int32)) (v0_kind : (Nat → Int32)) (v0_figure : (Nat → Int32)) (v0_heavy : (Nat → Int32)) (v0_place : (Nat → Int32)) (v0_rules : Int32) (v0_lower : (Nat → Int32)) (v0_upper : (Nat → Int32)) (v0_limits : Int32) (v0_limit : (Nat → Int32)) (v0_ties : Int32) (v0_letter : (Nat → Int32)) (v0_letters : Int32) (v0_told : (Nat → Int32)) (v0_tolds : Int32) (v0_places : (Nat → Int32)) (v0_cell : (Nat → Int64)) (v0_refusals : (Nat → Int32)) (v0_imaged : (Nat → Int32)) (v0_hasImage : Int32) (v0_before : (Nat → Int32)) (v0_up : Int64) (v0_down : Int64) (v0_beneath : (Nat → Int32)) (v0_numberUp : Int32) (v0_numberDown : Int32) (v0_block : (Nat → Int32)) (v0_blocks : Int32) (v0_merged : Int32) (v0_valueUp : (Nat → Int32)) (v0_valueDown : (Nat → Int32)) (v0_said : (Nat → Int32)) (v0_saids : Int32) (v0_at : Int32) (v0_number : (Nat → Int32)) (p1 : Int32) (hne : (m_X10_above (v0_papers, v0_raw, v0_kind, v0_figure, v0_heavy, v0_place, v0_rules, v0_lower, v0_upper, v0_limits, v0_limit, v0_ties, v0_letter, v0_letters, v0_told, v0_tolds, v0_places, v0_cell, v0_refusals, v0_imaged, v0_hasImage, v0_before, v0_up, v0_down, v0_beneath, v0_numberUp, v0_numberDown, v0_block, v0_blocks, v0_merged, v0_valueUp, v0_valueDown, v0_said, v0_saids, v0_at, v0_number) p1) ≠ none) : Ct l g yX10_above cX10_above 6 (some .int) ({ frames := 4, cells := 0, slots := 0, locals := 90 } : Room) [.ref (a0 0), .int p1] (wX10 a0 g v0_papers v0_raw v0_kind v0_figure v0_heavy v0_place v0_rules v0_lower v0_upper v0_limits v0_limit v0_ties v0_letter v0_letters v0_told v0_tolds v0_places v0_cell v0_refusals v0_imaged v0_hasImage v0_before v0_up v0_down v0_beneath v0_numberUp v0_numberDown v0_block v0_blocks v0_merged v0_valueUp v0_valueDown v0_said v0_saids v0_at v0_number) (Qi g .int (m_X10_above (v0_papers, v0_raw, v0_kind, v0_figure, v0_heavy, v0_place, v0_rules, v0_lower, v0_upper, v0_limits, v0_limit, v0_ties, v0_letter, v0_letters, v0_told, v0_tolds, v0_places, v0_cell, v0_refusals, v0_imaged, v0_hasImage, v0_before, v0_up, v0_down, v0_beneath, v0_numberUp, v0_numberDown, v0_block, v0_blocks, v0_merged, v0_valueUp, v0_valueDown, v0_said, v0_saids, v0_at, v0_number) p1) (fun u => u) (fun u => wX10 a0 g v0_papers v0_raw v0_kind v0_figure v0_heavy v0_place v0_rules v0_lower v0_upper v0_limits v0_limit v0_ties v0_letter v0_letters v0_told v0_tolds v0_places v0_cell v0_refusals v0_imaged v0_hasImage v0_before v0_up v0_down v0_beneath v0_numberUp v0_numberDown v0_block v0_blocks v0_merged v0_valueUp v0_valueDown v0_said v0_saids v0_at v0_number)) 0 0 := by
  obtain ⟨out, hf⟩ := ne_ex hne
  have hf0 := hf
  refine Ct.of (own := RX10) (by decide +kernel) rfl (Nat.le_of_ble_eq_true rfl) ?_
  intro p e s m below meth c hx hb hr hml hown hts hlocks hin hK A H locs hA hP hD hS hE ls hl
  have hl : lv_has ls 6 [(0, .ref (a0 0)), (1, .int p1)] := hl
  unfold m_X10_above at hf
  refine lv_iconst (v := 1) hx hb dX10_above_0 (by decide) ?_
  refine lv_aload_n hx hb dX10_above_1 rfl (lv_at hl 0 rfl) ?_
  refine va_get (D := g.1) (ci := 11) (v := .int v0_papers) (C := RX10) (T := TX10) (N := 36) hx hb hts layX10 hown hK.1 hP 0 rfl rfl 0 (by decide) (hts _ kw1277) (fun _ h9 => h9) rfl dX10_above_2 ?_
  refine lv_ishl hx hb dX10_above_5 ?_
  refine lv_iconst (v := 1) hx hb dX10_above_6 (by decide) ?_
  refine lv_isub hx hb dX10_above_7 ?_
  obtain ⟨x1, ex1, hf⟩ := bnd hf
  refine nmI (Option.some.inj ex1) ?_
  refine lv_istore_n (lv' := [(2, .int x1), (0, .ref (a0 0)), (1, .int p1)]) hx hb dX10_above_8 rfl hl (by decide) rfl (fun ls hl => ?_)
  refine lv_iload_n hx hb dX10_above_9 rfl (lv_at hl 0 rfl) ?_
  refine lv_istore_n (lv' := [(3, .int x1), (2, .int x1), (0, .ref (a0 0)), (1, .int p1)]) hx hb dX10_above_10 rfl hl (by decide) rfl (fun ls hl => ?_)
  refine lv_iconst (v := 0) hx hb dX10_above_11 (by decide) ?_
  refine lv_istore (lv' := [(4, .int (0 : Int32)), (3, .int x1), (2, .int x1), (0, .ref (a0 0)), (1, .int p1)]) hx hb dX10_above_12 hl (by decide) rfl (fun ls hl => ?_)
  obtain ⟨r14, er14, hf⟩ := bnd hf
  refine lp_W (P := fun z => ∀ (H : Heap) (locs : List Loc) (ls : Array Slot), va_P g.1 vwCl (wX10 a0 g v0_papers v0_raw v0_kind v0_figure v0_heavy v0_place v0_rules v0_lower v0_upper v0_limits v0_limit v0_ties v0_letter v0_letters v0_told v0_tolds v0_places v0_cell v0_refusals v0_imaged v0_hasImage v0_before v0_up v0_down v0_beneath v0_numberUp v0_numberDown v0_block v0_blocks v0_merged v0_valueUp v0_valueDown v0_said v0_saids v0_at v0_number) H → va_D A (wX10 a0 g v0_papers v0_raw v0_kind v0_figure v0_heavy v0_place v0_rules v0_lower v0_upper v0_limits v0_limit v0_ties v0_letter v0_letters v0_told v0_tolds v0_places v0_cell v0_refusals v0_imaged v0_hasImage v0_before v0_up v0_down v0_beneath v0_numberUp v0_numberDown v0_block v0_blocks v0_merged v0_valueUp v0_valueDown v0_said v0_saids v0_at v0_number) → va_S A s.heap H locs → lv_has ls 6 [(0, .ref (a0 0)), (1, .int p1), (2, .int x1), (3, .int z.1), (4, .int z.2)] → W p l e { frames := 4, cells := 0, slots := 0, locals := 90 } s m [.ref (a0 0), .int p1].toArray below meth c H locs 0 0 (MQ below (Qi g .int (m_X10_above (v0_papers, v0_raw, v0_kind, v0_figure, v0_heavy, v0_place, v0_rules, v0_lower, v0_upper, v0_limits, v0_limit, v0_ties, v0_letter, v0_letters, v0_told, v0_tolds, v0_places, v0_cell, v0_refusals, v0_imaged, v0_hasImage, v0_before, v0_up, v0_down, v0_beneath, v0_numberUp, v0_numberDown, v0_block, v0_blocks, v0_merged, v0_valueUp, v0_valueDown, v0_said, v0_saids, v0_at, v0_number) p1) (fun u => u) (fun u => wX10 a0 g v0_papers v0_raw v0_kind v0_figure v0_heavy v0_place v0_rules v0_lower v0_upper v0_limits v0_limit v0_ties v0_letter v0_letters v0_told v0_tolds v0_places v0_cell v0_refusals v0_imaged v0_hasImage v0_before v0_up v0_down v0_beneath v0_numberUp v0_numberDown v0_block v0_blocks v0_merged v0_valueUp v0_valueDown v0_said v0_saids v0_at v0_number) A) [.ref (a0 0), .int p1].toArray s 0 0 A) (F0 m 14 ls [])) (E := fun r14 => ∀ (H : Heap) (locs : List Loc) (ls : Array Slot), va_P g.1 vwCl (wX10 a0 g v0_papers v0_raw v0_kind v0_figure v0_heavy v0_place v0_rules v0_lower v0_upper v0_limits v0_limit v0_ties v0_letter v0_letters v0_told v0_tolds v0_places v0_cell v0_refusals v0_imaged v0_hasImage v0_before v0_up v0_down v0_beneath v0_numberUp v0_numberDown v0_block v0_blocks v0_merged v0_valueUp v0_valueDown v0_said v0_saids v0_at v0_number) H → va_D A (wX10 a0 g v0_papers v0_raw v0_kind v0_figure v0_heavy v0_place v0_rules v0_lower v0_upper v0_limits v0_limit v0_ties v0_letter v0_letters v0_told v0_tolds v0_places v0_cell v0_refusals v0_imaged v0_hasImage v0_before v0_up v0_down v0_beneath v0_numberUp v0_numberDown v0_block v0_blocks v0_merged v0_valueUp v0_valueDown v0_said v0_saids v0_at v0_number) → va_S A s.heap H locs → lv_has ls 6 [(3, .int r14)] → W p l e { frames := 4, cells := 0, slots := 0, locals := 90 } s m [.ref (a0 0), .int p1].toArray below meth c H locs 0 0 (MQ below (Qi g .int (m_X10_above (v0_papers, v0_raw, v0_kind, v0_figure, v0_heavy, v0_place, v0_rules, v0_lower, v0_upper, v0_limits, v0_limit, v0_ties, v0_letter, v0_letters, v0_told, v0_tolds, v0_places, v0_cell, v0_refusals, v0_imaged, v0_hasImage, v0_before, v0_up, v0_down, v0_beneath, v0_numberUp, v0_numberDown, v0_block, v0_blocks, v0_merged, v0_valueUp, v0_valueDown, v0_said, v0_saids, v0_at, v0_number) p1) (fun u => u) (fun u => wX10 a0 g v0_papers v0_raw v0_kind v0_figure v0_heavy v0_place v0_rules v0_lower v0_upper v0_limits v0_limit v0_ties v0_letter v0_letters v0_told v0_tolds v0_places v0_cell v0_refusals v0_imaged v0_hasImage v0_before v0_up v0_down v0_beneath v0_numberUp v0_numberDown v0_block v0_blocks v0_merged v0_valueUp v0_valueDown v0_said v0_saids v0_at v0_number) A) [.ref (a0 0), .int p1].toArray s 0 0 A) (F0 m 93 ls [])) ?_ fu _ r14 er14 ?_ _ _ _ hP hD hS (lv_sub hl [3, 4, 2, 1, 0] rfl)
  · rintro ⟨x7, x8⟩ y hf hB hXt H locs ls hP hD hS hl
    have hP : va_P g.1 vwCl (wX10 a0 g v0_papers v0_raw v0_kind v0_figure v0_heavy v0_place v0_rules v0_lower v0_upper v0_limits v0_limit v0_ties v0_letter v0_letters v0_told v0_tolds v0_places v0_cell v0_refusals v0_imaged v0_hasImage v0_before v0_up v0_down v0_beneath v0_numberUp v0_numberDown v0_block v0_blocks v0_merged v0_valueUp v0_valueDown v0_said v0_saids v0_at v0_number) H := hP
    have hD : va_D A (wX10 a0 g v0_papers v0_raw v0_kind v0_figure v0_heavy v0_place v0_rules v0_lower v0_upper v0_limits v0_limit v0_ties v0_letter v0_letters v0_told v0_tolds v0_places v0_cell v0_refusals v0_imaged v0_hasImage v0_before v0_up v0_down v0_beneath v0_numberUp v0_numberDown v0_block v0_blocks v0_merged v0_valueUp v0_valueDown v0_said v0_saids v0_at v0_number) := hD
    have hl : lv_has ls 6 [(0, .ref (a0 0)), (1, .int p1), (2, .int x1), (3, .int x7), (4, .int x8)] := hl
    have hf : m_X10_above_l14 (v0_papers, v0_raw, v0_kind, v0_figure, v0_heavy, v0_place, v0_rules, v0_lower, v0_upper, v0_limits, v0_limit, v0_ties, v0_letter, v0_letters, v0_told, v0_tolds, v0_places, v0_cell, v0_refusals, v0_imaged, v0_hasImage, v0_before, v0_up, v0_down, v0_beneath, v0_numberUp, v0_numberDown, v0_block, v0_blocks, v0_merged, v0_valueUp, v0_valueDown, v0_said, v0_saids, v0_at, v0_number) p1 x1 x7 x8 = some y := hf
    unfold m_X10_above_l14 at hf
    refine lv_iload hx hb dX10_above_14 (lv_at hl 4 rfl) ?_
    refine lv_iconst (v := 1) hx hb dX10_above_16 (by decide) ?_
    refine lv_aload_n hx hb dX10_above_17 rfl (lv_at hl 0 rfl) ?_
    refine va_get (D := g.1) (ci := 11) (v := .int v0_papers) (C := RX10) (T := TX10) (N := 36) hx hb hts layX10 hown hK.1 hP 0 rfl rfl 0 (by decide) (hts _ kw1277) (fun _ h9 => h9) rfl dX10_above_18 ?_
    refine lv_ishl hx hb dX10_above_21 ?_
    refine lv_icmp_ge (tgt := 93) hx hb dX10_above_22 (by decide) (fun cb => ?_) (fun cb => ?_)
    · have hf := it_t cb hf
      exact hXt _ (Option.some.inj hf).symm _ _ _ hP hD hS (lv_sub hl [3] rfl)
    have hf := it_f cb hf
    refine lv_aload_n hx hb dX10_above_25 rfl (lv_at hl 0 rfl) ?_
    refine lv_iload_n hx hb dX10_above_26 rfl (lv_at hl 2 rfl) ?_
    refine lv_iload hx hb dX10_above_27 (lv_at hl 4 rfl) ?_
    refine lv_iconst (v := (-1)) hx hb dX10_above_29 (by decide) ?_
    refine lv_ixor hx hb dX10_above_30 ?_
    refine lv_iand hx hb dX10_above_31 ?_
    refine lv_iload_n hx hb dX10_above_32 rfl (lv_at hl 2 rfl) ?_
    refine cIp hP hD hS hA hE (fun hPc hDc hSc => rV (As := [.int (x1 &&& (x8 ^^^ (-1 : Int32))), .int x1]) (rest := []) hx hb hml hown hts hK (c_X10_isLow l g a0 v0_papers v0_raw v0_kind v0_figure v0_heavy v0_place v0_rules v0_lower v0_upper v0_limits v0_limit v0_ties v0_letter v0_letters v0_told v0_tolds v0_places v0_cell v0_refusals v0_imaged v0_hasImage v0_before v0_up v0_down v0_beneath v0_numberUp v0_numberDown v0_block v0_blocks v0_merged v0_valueUp v0_valueDown v0_said v0_saids v0_at v0_number (x1 &&& (x8 ^^^ (-1 : Int32))) x1 (bnd_ne hf)) svV_X10_isLow kw1557 rfl rfl hPc hDc hSc rfl rfl hl.1 (Nat.le_of_ble_eq_true rfl) dX10_above_33 ⟨Nat.le_of_ble_eq_true rfl, Nat.le_of_ble_eq_true rfl, rfl, rfl, Nat.le_of_ble_eq_true rfl, Nat.le_of_ble_eq_true rfl⟩) [(0, 22)] rfl rfl rfl (fun x9 H locs ex9 nx9 hP hS => ?_)
    have hf := bnd_of hf ex9
    refine lv_if_ne (tgt := 42) hx hb dX10_above_36 (by decide) (fun cb => ?_) (fun cb => ?_)
    · have hf := it_f cb hf
      refine lv_aload_n hx hb dX10_above_42 rfl (lv_at hl 0 rfl) ?_
      refine lv_iload hx hb dX10_above_43 (lv_at hl 4 rfl) ?_
      refine lv_iload_n hx hb dX10_above_45 rfl (lv_at hl 1 rfl) ?_
      refine cIp hP hD hS hA hE (fun hPc hDc hSc => rV (As := [.int x8, .int p1]) (rest := []) hx hb hml hown hts hK (c_X10_costOf l g a0 v0_papers v0_raw v0_kind v0_figure v0_heavy v0_place v0_rules v0_lower v0_upper v0_limits v0_limit v0_ties v0_letter v0_letters v0_told v0_tolds v0_places v0_cell v0_refusals v0_imaged v0_hasImage v0_before v0_up v0_down v0_beneath v0_numberUp v0_numberDown v0_block v0_blocks v0_merged v0_valueUp v0_valueDown v0_said v0_saids v0_at v0_number x8 p1 (bnd_ne hf)) svV_X10_costOf kw1572 rfl rfl hPc hDc hSc rfl rfl hl.1 (Nat.le_of_ble_eq_true rfl) dX10_above_46 ⟨Nat.le_of_ble_eq_true rfl, Nat.le_of_ble_eq_true rfl, rfl, rfl, Nat.le_of_ble_eq_true rfl, Nat.le_of_ble_eq_true rfl⟩) [(0, 22)] rfl rfl rfl (fun x10 H locs ex10 nx10 hP hS => ?_)
      have hf := bnd_of hf ex10
      refine lv_aload_n hx hb dX10_above_49 rfl (lv_at hl 0 rfl) ?_
      refine lv_iload_n hx hb dX10_above_50 rfl (lv_at hl 3 rfl) ?_
      refine lv_iload_n hx hb dX10_above_51 rfl (lv_at hl 1 rfl) ?_
      refine cIp hP hD hS hA hE (fun hPc hDc hSc => rV (As := [.int x7, .int p1]) (rest := [.int x10]) hx hb hml hown hts hK (c_X10_costOf l g a0 v0_papers v0_raw v0_kind v0_figure v0_heavy v0_place v0_rules v0_lower v0_upper v0_limits v0_limit v0_ties v0_letter v0_letters v0_told v0_tolds v0_places v0_cell v0_refusals v0_imaged v0_hasImage v0_before v0_up v0_down v0_beneath v0_numberUp v0_numberDown v0_block v0_blocks v0_merged v0_valueUp v0_valueDown v0_said v0_saids v0_at v0_number x7 p1 (bnd_ne hf)) svV_X10_costOf kw1572 rfl rfl hPc hDc hSc rfl rfl hl.1 (Nat.le_of_ble_eq_true rfl) dX10_above_52 ⟨Nat.le_of_ble_eq_true rfl, Nat.le_of_ble_eq_true rfl, rfl, rfl, Nat.le_of_ble_eq_true rfl, Nat.le_of_ble_eq_true rfl⟩) [(0, 22)] rfl rfl rfl (fun x11 H locs ex11 nx11 hP hS => ?_)
      have hf := bnd_of hf ex11
      refine lv_isub hx hb dX10_above_55 ?_
      refine lv_istore (lv' := [(5, .int (x10 - x11)), (0, .ref (a0 0)), (1, .int p1), (2, .int x1), (3, .int x7), (4, .int x8)]) hx hb dX10_above_56 hl (by decide) rfl (fun ls hl => ?_)
      refine lv_iload hx hb dX10_above_58 (lv_at hl 0 rfl) ?_
      refine lv_if_lt (tgt := 80) hx hb dX10_above_60 (by decide) (fun cb => ?_) (fun cb => ?_)
      · have hf := it_t cb hf
        refine lv_iload hx hb dX10_above_80 (lv_at hl 5 rfl) ?_
        refine lv_goto (tgt := 86) hx hb dX10_above_82 (by decide) ?_
        refine lv_istore_n (lv' := [(3, .int x8), (5, .int (x10 - x11)), (0, .ref (a0 0)), (1, .int p1), (2, .int x1), (4, .int x8)]) hx hb dX10_above_86 rfl hl (by decide) rfl (fun ls hl => ?_)
        refine lv_iinc (v := (x8 + 1)) (lv' := [(4, .int (x8 + 1)), (3, .int x8), (5, .int (x10 - x11)), (0, .ref (a0 0)), (1, .int p1), (2, .int x1)]) hx hb dX10_above_87 hl (k := 5) rfl (by rfl) (by decide) rfl (fun ls hl => ?_)
        refine lv_goto (tgt := 14) hx hb dX10_above_90 (by decide) ?_
        exact hB _ (Option.some.inj hf).symm _ _ _ hP hD hS (lv_sub hl [3, 4, 5, 1, 0] rfl)
      have hf := it_f cb hf
      refine lv_iload hx hb dX10_above_63 (lv_at hl 0 rfl) ?_
      refine lv_if_ne (tgt := 85) hx hb dX10_above_65 (by decide) (fun cb => ?_) (fun cb => ?_)
      · have hf := it_f cb hf
        refine lv_iload_n hx hb dX10_above_85 rfl (lv_at hl 4 rfl) ?_
        refine lv_istore_n (lv' := [(3, .int x7), (5, .int (x10 - x11)), (0, .ref (a0 0)), (1, .int p1), (2, .int x1), (4, .int x8)]) hx hb dX10_above_86 rfl hl (by decide) rfl (fun ls hl => ?_)
        refine lv_iinc (v := (x8 + 1)) (lv' := [(4, .int (x8 + 1)), (3, .int x7), (5, .int (x10 - x11)), (0, .ref (a0 0)), (1, .int p1), (2, .int x1)]) hx hb dX10_above_87 hl (k := 5) rfl (by rfl) (by decide) rfl (fun ls hl => ?_)
        refine lv_goto (tgt := 14) hx hb dX10_above_90 (by decide) ?_
        exact hB _ (Option.some.inj hf).symm _ _ _ hP hD hS (lv_sub hl [3, 4, 5, 1, 0] rfl)
      have hf := it_t cb hf
      refine lv_iload hx hb dX10_above_68 (lv_at hl 5 rfl) ?_
      refine cIp hP hD hS hA hE (fun hPc hDc hSc => rS (As := [.int x8]) (rest := []) hx hb hml hown hts hK (c_J6_bitCount_0f7a4 l g x8 (bnd_ne hf)) svS_J6_bitCount_0f7a4 kw1456 hPc hDc hSc rfl rfl hl.1 (Nat.le_of_ble_eq_true rfl) dX10_above_70 ⟨Nat.le_of_ble_eq_true rfl, Nat.le_of_ble_eq_true rfl, rfl, rfl, Nat.le_of_ble_eq_true rfl, Nat.le_of_ble_eq_true rfl⟩) [] rfl rfl rfl (fun x12 H locs ex12 nx12 hP hS => ?_)
      have hf := bnd_of hf ex12
      refine lv_iload_n hx hb dX10_above_73 rfl (lv_at hl 4 rfl) ?_
      refine cIp hP hD hS hA hE (fun hPc hDc hSc => rS (As := [.int x7]) (rest := [.int x12]) hx hb hml hown hts hK (c_J6_bitCount_0f7a4 l g x7 (bnd_ne hf)) svS_J6_bitCount_0f7a4 kw1456 hPc hDc hSc rfl rfl hl.1 (Nat.le_of_ble_eq_true rfl) dX10_above_74 ⟨Nat.le_of_ble_eq_true rfl, Nat.le_of_ble_eq_true rfl, rfl, rfl, Nat.le_of_ble_eq_true rfl, Nat.le_of_ble_eq_true rfl⟩) [] rfl rfl rfl (fun x13 H locs ex13 nx13 hP hS => ?_)
      have hf := bnd_of hf ex13
      refine lv_icmp_ge (tgt := 85) hx hb dX10_above_77 (by decide) (fun cb => ?_) (fun cb => ?_)
      · have hf := it_t cb hf
        refine lv_iload_n hx hb dX10_above_85 rfl (lv_at hl 4 rfl) ?_
        refine lv_istore_n (lv' := [(3, .int x7), (5, .int (x10 - x11)), (0, .ref (a0 0)), (1, .int p1), (2, .int x1), (4, .int x8)]) hx hb dX10_above_86 rfl hl (by decide) rfl (fun ls hl => ?_)
        refine lv_iinc (v := (x8 + 1)) (lv' := [(4, .int (x8 + 1)), (3, .int x7), (5, .int (x10 - x11)), (0, .ref (a0 0)), (1, .int p1), (2, .int x1)]) hx hb dX10_above_87 hl (k := 5) rfl (by rfl) (by decide) rfl (fun ls hl => ?_)
        refine lv_goto (tgt := 14) hx hb dX10_above_90 (by decide) ?_
        exact hB _ (Option.some.inj hf).symm _ _ _ hP hD hS (lv_sub hl [3, 4, 5, 1, 0] rfl)
      have hf := it_f cb hf
      refine lv_iload hx hb dX10_above_80 (lv_at hl 5 rfl) ?_
      refine lv_goto (tgt := 86) hx hb dX10_above_82 (by decide) ?_
      refine lv_istore_n (lv' := [(3, .int x8), (5, .int (x10 - x11)), (0, .ref (a0 0)), (1, .int p1), (2, .int x1), (4, .int x8)]) hx hb dX10_above_86 rfl hl (by decide) rfl (fun ls hl => ?_)
      refine lv_iinc (v := (x8 + 1)) (lv' := [(4, .int (x8 + 1)), (3, .int x8), (5, .int (x10 - x11)), (0, .ref (a0 0)), (1, .int p1), (2, .int x1)]) hx hb dX10_above_87 hl (k := 5) rfl (by rfl) (by decide) rfl (fun ls hl => ?_)
      refine lv_goto (tgt := 14) hx hb dX10_above_90 (by decide) ?_
      exact hB _ (Option.some.inj hf).symm _ _ _ hP hD hS (lv_sub hl [3, 4, 5, 1, 0] rfl)
    have hf := it_t cb hf
    refine lv_goto (tgt := 87) hx hb dX10_above_39 (by decide) ?_
    refine lv_iinc (v := (x8 + 1)) (lv' := [(4, .int (x8 + 1)), (0, .ref (a0 0)), (1, .int p1), (2, .int x1), (3, .int x7)]) hx hb dX10_above_87 hl (k := 4) rfl (by rfl) (by decide) rfl (fun ls hl => ?_)
    refine lv_goto (tgt := 14) hx hb dX10_above_90 (by decide) ?_
    exact hB _ (Option.some.inj hf).symm _ _ _ hP hD hS (lv_sub hl [1, 2, 3, 4, 0] rfl)
  intro H locs ls hP hD hS hl
  have hP : va_P g.1 vwCl (wX10 a0 g v0_papers v0_raw v0_kind v0_figure v0_heavy v0_place v0_rules v0_lower v0_upper v0_limits v0_limit v0_ties v0_letter v0_letters v0_told v0_tolds v0_places v0_cell v0_refusals v0_imaged v0_hasImage v0_before v0_up v0_down v0_beneath v0_numberUp v0_numberDown v0_block v0_blocks v0_merged v0_valueUp v0_valueDown v0_said v0_saids v0_at v0_number) H := hP
  have hD : va_D A (wX10 a0 g v0_papers v0_raw v0_kind v0_figure v0_heavy v0_place v0_rules v0_lower v0_upper v0_limits v0_limit v0_ties v0_letter v0_letters v0_told v0_tolds v0_places v0_cell v0_refusals v0_imaged v0_hasImage v0_before v0_up v0_down v0_beneath v0_numberUp v0_numberDown v0_block v0_blocks v0_merged v0_valueUp v0_valueDown v0_said v0_saids v0_at v0_number) := hD
  have hl : lv_has ls 6 [(3, .int r14)] := hl
  refine lv_iload_n hx hb dX10_above_93 rfl (lv_at hl 0 rfl) ?_
  exact retI (v := r14) (u := r14) (val := fun u => u) (W1 := fun u => wX10 a0 g v0_papers v0_raw v0_kind v0_figure v0_heavy v0_place v0_rules v0_lower v0_upper v0_limits v0_limit v0_ties v0_letter v0_letters v0_told v0_tolds v0_places v0_cell v0_refusals v0_imaged v0_hasImage v0_before v0_up v0_down v0_beneath v0_numberUp v0_numberDown v0_block v0_blocks v0_merged v0_valueUp v0_valueDown v0_said v0_saids v0_at v0_number) hx hb hr hlocks hS hP hD (hf0.trans hf.symm) rfl rfl dX10_above_94
set_option maxHeartbeats 4000000 in
set_option maxRecDepth 100000 in
theorem c_X10_leastSums (l : Launch) (g : GG) (a0 : Nat → Nat) (v0_papers : Int32) (v0_raw : (Nat → Int32)) (v0_kind : (Nat → Int32)) (v0_figure : (Nat → Int32)) (v0_heavy : (Nat → Int32)) (v0_place : (Nat → Int32)) (v0_rules : Int32) (v0_lower : (Nat → Int32)) (v0_upper : (Nat → Int32)) (v0_limits : Int32) (v0_limit : (Nat → Int32)) (v0_ties : Int32) (v0_letter : (Nat → Int32)) (v0_letters : Int32) (v0_told : (Nat → Int32)) (v0_tolds : Int32) (v0_places : (Nat → Int32)) (v0_cell : (Nat → Int64)) (v0_refusals : (Nat → Int32)) (v0_imaged : (Nat → Int32)) (v0_hasImage : Int32) (v0_before : (Nat → Int32)) (v0_up : Int64) (v0_down : Int64) (v0_beneath : (Nat → Int32)) (v0_numberUp : Int32) (v0_numberDown : Int32) (v0_block : (Nat → Int32)) (v0_blocks : Int32) (v0_merged : Int32) (v0_valueUp : (Nat → Int32)) (v0_valueDown : (Nat → Int32)) (v0_said : (Nat → Int32)) (v0_saids : Int32) (v0_at : Int32) (v0_number : (Nat → Int32)) (hne : (m_X10_leastSums (v0_papers, v0_raw, v0_kind, v0_figure, v0_heavy, v0_place, v0_rules, v0_lower, v0_upper, v0_limits, v0_limit, v0_ties, v0_letter, v0_letters, v0_told, v0_tolds, v0_places, v0_cell, v0_refusals, v0_imaged, v0_hasImage, v0_before, v0_up, v0_down, v0_beneath, v0_numberUp, v0_numberDown, v0_block, v0_blocks, v0_merged, v0_valueUp, v0_valueDown, v0_said, v0_saids, v0_at, v0_number)) ≠ none) : Ct l g yX10_leastSums cX10_leastSums 5 none ({ frames := 5, cells := 0, slots := 0, locals := 115 } : Room) [.ref (a0 0)] (wX10 a0 g v0_papers v0_raw v0_kind v0_figure v0_heavy v0_place v0_rules v0_lower v0_upper v0_limits v0_limit v0_ties v0_letter v0_letters v0_told v0_tolds v0_places v0_cell v0_refusals v0_imaged v0_hasImage v0_before v0_up v0_down v0_beneath v0_numberUp v0_numberDown v0_block v0_blocks v0_merged v0_valueUp v0_valueDown v0_said v0_saids v0_at v0_number) (Qv g (m_X10_leastSums (v0_papers, v0_raw, v0_kind, v0_figure, v0_heavy, v0_place, v0_rules, v0_lower, v0_upper, v0_limits, v0_limit, v0_ties, v0_letter, v0_letters, v0_told, v0_tolds, v0_places, v0_cell, v0_refusals, v0_imaged, v0_hasImage, v0_before, v0_up, v0_down, v0_beneath, v0_numberUp, v0_numberDown, v0_block, v0_blocks, v0_merged, v0_valueUp, v0_valueDown, v0_said, v0_saids, v0_at, v0_number)) (fun u => wX10 a0 g v0_papers v0_raw v0_kind v0_figure v0_heavy v0_place v0_rules v0_lower v0_upper v0_limits v0_limit v0_ties v0_letter v0_letters v0_told v0_tolds v0_places v0_cell v0_refusals v0_imaged v0_hasImage v0_before u.1 u.2.1 v0_beneath v0_numberUp v0_numberDown v0_block v0_blocks v0_merged u.2.2.1 u.2.2.2 v0_said v0_saids v0_at v0_number)) 0 0 := by
  obtain ⟨out, hf⟩ := ne_ex hne
  have hf0 := hf
  refine Ct.of (own := RX10) (by decide +kernel) rfl (Nat.le_of_ble_eq_true rfl) ?_
  intro p e s m below meth c hx hb hr hml hown hts hlocks hin hK A H locs hA hP hD hS hE ls hl
  have hl : lv_has ls 5 [(0, .ref (a0 0))] := hl
  unfold m_X10_leastSums at hf
  refine lv_iconst (v := 1) hx hb dX10_leastSums_0 (by decide) ?_
  refine lv_aload_n hx hb dX10_leastSums_1 rfl (lv_at hl 0 rfl) ?_
  refine va_get (D := g.1) (ci := 11) (v := .int v0_papers) (C := RX10) (T := TX10) (N := 36) hx hb hts layX10 hown hK.1 hP 0 rfl rfl 0 (by decide) (hts _ kw1277) (fun _ h9 => h9) rfl dX10_leastSums_2 ?_
  refine lv_ishl hx hb dX10_leastSums_5 ?_
  refine lv_iconst (v := 1) hx hb dX10_leastSums_6 (by decide) ?_
  refine lv_isub hx hb dX10_leastSums_7 ?_
  obtain ⟨x1, ex1, hf⟩ := bnd hf
  refine nmI (Option.some.inj ex1) ?_
  refine lv_istore_n (lv' := [(1, .int x1), (0, .ref (a0 0))]) hx hb dX10_leastSums_8 rfl hl (by decide) rfl (fun ls hl => ?_)
  refine lv_iconst (v := 0) hx hb dX10_leastSums_9 (by decide) ?_
  refine lv_istore_n (lv' := [(2, .int (0 : Int32)), (1, .int x1), (0, .ref (a0 0))]) hx hb dX10_leastSums_10 rfl hl (by decide) rfl (fun ls hl => ?_)
  obtain ⟨r32, er32, hf⟩ := bnd hf
  refine lp_W (P := fun z => ∀ (H : Heap) (locs : List Loc) (ls : Array Slot), va_P g.1 vwCl (wX10 a0 g v0_papers v0_raw v0_kind v0_figure v0_heavy v0_place v0_rules v0_lower v0_upper v0_limits v0_limit v0_ties v0_letter v0_letters v0_told v0_tolds v0_places v0_cell v0_refusals v0_imaged v0_hasImage v0_before z.2.2.1 z.2.2.2.1 v0_beneath v0_numberUp v0_numberDown v0_block v0_blocks v0_merged z.2.2.2.2.1 z.2.2.2.2.2 v0_said v0_saids v0_at v0_number) H → va_D A (wX10 a0 g v0_papers v0_raw v0_kind v0_figure v0_heavy v0_place v0_rules v0_lower v0_upper v0_limits v0_limit v0_ties v0_letter v0_letters v0_told v0_tolds v0_places v0_cell v0_refusals v0_imaged v0_hasImage v0_before z.2.2.1 z.2.2.2.1 v0_beneath v0_numberUp v0_numberDown v0_block v0_blocks v0_merged z.2.2.2.2.1 z.2.2.2.2.2 v0_said v0_saids v0_at v0_number) → va_S A s.heap H locs → lv_has ls 5 [(0, .ref (a0 0)), (1, .int z.1), (2, .int z.2.1)] → W p l e { frames := 5, cells := 0, slots := 0, locals := 115 } s m [.ref (a0 0)].toArray below meth c H locs 0 0 (MQ below (Qv g (m_X10_leastSums (v0_papers, v0_raw, v0_kind, v0_figure, v0_heavy, v0_place, v0_rules, v0_lower, v0_upper, v0_limits, v0_limit, v0_ties, v0_letter, v0_letters, v0_told, v0_tolds, v0_places, v0_cell, v0_refusals, v0_imaged, v0_hasImage, v0_before, v0_up, v0_down, v0_beneath, v0_numberUp, v0_numberDown, v0_block, v0_blocks, v0_merged, v0_valueUp, v0_valueDown, v0_said, v0_saids, v0_at, v0_number)) (fun u => wX10 a0 g v0_papers v0_raw v0_kind v0_figure v0_heavy v0_place v0_rules v0_lower v0_upper v0_limits v0_limit v0_ties v0_letter v0_letters v0_told v0_tolds v0_places v0_cell v0_refusals v0_imaged v0_hasImage v0_before u.1 u.2.1 v0_beneath v0_numberUp v0_numberDown v0_block v0_blocks v0_merged u.2.2.1 u.2.2.2 v0_said v0_saids v0_at v0_number) A) [.ref (a0 0)].toArray s 0 0 A) (F0 m 11 ls [])) (E := fun r32 => ∀ (H : Heap) (locs : List Loc) (ls : Array Slot), va_P g.1 vwCl (wX10 a0 g v0_papers v0_raw v0_kind v0_figure v0_heavy v0_place v0_rules v0_lower v0_upper v0_limits v0_limit v0_ties v0_letter v0_letters v0_told v0_tolds v0_places v0_cell v0_refusals v0_imaged v0_hasImage v0_before r32.1 r32.2.1 v0_beneath v0_numberUp v0_numberDown v0_block v0_blocks v0_merged r32.2.2.1 r32.2.2.2 v0_said v0_saids v0_at v0_number) H → va_D A (wX10 a0 g v0_papers v0_raw v0_kind v0_figure v0_heavy v0_place v0_rules v0_lower v0_upper v0_limits v0_limit v0_ties v0_letter v0_letters v0_told v0_tolds v0_places v0_cell v0_refusals v0_imaged v0_hasImage v0_before r32.1 r32.2.1 v0_beneath v0_numberUp v0_numberDown v0_block v0_blocks v0_merged r32.2.2.1 r32.2.2.2 v0_said v0_saids v0_at v0_number) → va_S A s.heap H locs → lv_has ls 5 [] → W p l e { frames := 5, cells := 0, slots := 0, locals := 115 } s m [.ref (a0 0)].toArray below meth c H locs 0 0 (MQ below (Qv g (m_X10_leastSums (v0_papers, v0_raw, v0_kind, v0_figure, v0_heavy, v0_place, v0_rules, v0_lower, v0_upper, v0_limits, v0_limit, v0_ties, v0_letter, v0_letters, v0_told, v0_tolds, v0_places, v0_cell, v0_refusals, v0_imaged, v0_hasImage, v0_before, v0_up, v0_down, v0_beneath, v0_numberUp, v0_numberDown, v0_block, v0_blocks, v0_merged, v0_valueUp, v0_valueDown, v0_said, v0_saids, v0_at, v0_number)) (fun u => wX10 a0 g v0_papers v0_raw v0_kind v0_figure v0_heavy v0_place v0_rules v0_lower v0_upper v0_limits v0_limit v0_ties v0_letter v0_letters v0_told v0_tolds v0_places v0_cell v0_refusals v0_imaged v0_hasImage v0_before u.1 u.2.1 v0_beneath v0_numberUp v0_numberDown v0_block v0_blocks v0_merged u.2.2.1 u.2.2.2 v0_said v0_saids v0_at v0_number) A) [.ref (a0 0)].toArray s 0 0 A) (F0 m 82 ls [])) ?_ fu _ r32 er32 ?_ _ _ _ hP hD hS (lv_sub hl [2, 1, 0] rfl)
  · rintro ⟨x14, x15, x16, x17, x18, x19⟩ y hf hB hXt H locs ls hP hD hS hl
    have hP : va_P g.1 vwCl (wX10 a0 g v0_papers v0_raw v0_kind v0_figure v0_heavy v0_place v0_rules v0_lower v0_upper v0_limits v0_limit v0_ties v0_letter v0_letters v0_told v0_tolds v0_places v0_cell v0_refusals v0_imaged v0_hasImage v0_before x16 x17 v0_beneath v0_numberUp v0_numberDown v0_block v0_blocks v0_merged x18 x19 v0_said v0_saids v0_at v0_number) H := hP
    have hD : va_D A (wX10 a0 g v0_papers v0_raw v0_kind v0_figure v0_heavy v0_place v0_rules v0_lower v0_upper v0_limits v0_limit v0_ties v0_letter v0_letters v0_told v0_tolds v0_places v0_cell v0_refusals v0_imaged v0_hasImage v0_before x16 x17 v0_beneath v0_numberUp v0_numberDown v0_block v0_blocks v0_merged x18 x19 v0_said v0_saids v0_at v0_number) := hD
    have hl : lv_has ls 5 [(0, .ref (a0 0)), (1, .int x14), (2, .int x15)] := hl
    have hf : m_X10_leastSums_l11 (v0_papers, v0_raw, v0_kind, v0_figure, v0_heavy, v0_place, v0_rules, v0_lower, v0_upper, v0_limits, v0_limit, v0_ties, v0_letter, v0_letters, v0_told, v0_tolds, v0_places, v0_cell, v0_refusals, v0_imaged, v0_hasImage, v0_before, v0_up, v0_down, v0_beneath, v0_numberUp, v0_numberDown, v0_block, v0_blocks, v0_merged, v0_valueUp, v0_valueDown, v0_said, v0_saids, v0_at, v0_number) x14 x15 x16 x17 x18 x19 = some y := hf
    unfold m_X10_leastSums_l11 at hf
    refine lv_iload_n hx hb dX10_leastSums_11 rfl (lv_at hl 1 rfl) ?_
    refine lv_if_eq (tgt := 82) hx hb dX10_leastSums_12 (by decide) (fun cb => ?_) (fun cb => ?_)
    · have hf := it_t cb hf
      exact hXt _ (Option.some.inj hf).symm _ _ _ hP hD hS (lv_sub hl [] rfl)
    have hf := it_f cb hf
    refine lv_aload_n hx hb dX10_leastSums_15 rfl (lv_at hl 0 rfl) ?_
    refine lv_iload_n hx hb dX10_leastSums_16 rfl (lv_at hl 2 rfl) ?_
    refine cIp hP hD hS hA hE (fun hPc hDc hSc => rV (As := [.int x15]) (rest := []) hx hb hml hown hts hK (c_X10_isMark l g a0 v0_papers v0_raw v0_kind v0_figure v0_heavy v0_place v0_rules v0_lower v0_upper v0_limits v0_limit v0_ties v0_letter v0_letters v0_told v0_tolds v0_places v0_cell v0_refusals v0_imaged v0_hasImage v0_before x16 x17 v0_beneath v0_numberUp v0_numberDown v0_block v0_blocks v0_merged x18 x19 v0_said v0_saids v0_at v0_number x15 (bnd_ne hf)) svV_X10_isMark kw1566 rfl rfl hPc hDc hSc rfl rfl hl.1 (Nat.le_of_ble_eq_true rfl) dX10_leastSums_17 ⟨Nat.le_of_ble_eq_true rfl, Nat.le_of_ble_eq_true rfl, rfl, rfl, Nat.le_of_ble_eq_true rfl, Nat.le_of_ble_eq_true rfl⟩) [(0, 22)] rfl rfl rfl (fun x20 H locs ex20 nx20 hP hS => ?_)
    have hf := bnd_of hf ex20
    refine lv_if_ne (tgt := 26) hx hb dX10_leastSums_20 (by decide) (fun cb => ?_) (fun cb => ?_)
    · have hf := it_f cb hf
      refine lv_aload_n hx hb dX10_leastSums_26 rfl (lv_at hl 0 rfl) ?_
      refine lv_iload_n hx hb dX10_leastSums_27 rfl (lv_at hl 2 rfl) ?_
      refine cIp hP hD hS hA hE (fun hPc hDc hSc => rV (As := [.int x15]) (rest := []) hx hb hml hown hts hK (c_X10_above l g a0 v0_papers v0_raw v0_kind v0_figure v0_heavy v0_place v0_rules v0_lower v0_upper v0_limits v0_limit v0_ties v0_letter v0_letters v0_told v0_tolds v0_places v0_cell v0_refusals v0_imaged v0_hasImage v0_before x16 x17 v0_beneath v0_numberUp v0_numberDown v0_block v0_blocks v0_merged x18 x19 v0_said v0_saids v0_at v0_number x15 (bnd_ne hf)) svV_X10_above kw1569 rfl rfl hPc hDc hSc rfl rfl hl.1 (Nat.le_of_ble_eq_true rfl) dX10_leastSums_28 ⟨Nat.le_of_ble_eq_true rfl, Nat.le_of_ble_eq_true rfl, rfl, rfl, Nat.le_of_ble_eq_true rfl, Nat.le_of_ble_eq_true rfl⟩) [(0, 22)] rfl rfl rfl (fun x21 H locs ex21 nx21 hP hS => ?_)
      have hf := bnd_of hf ex21
      refine lv_istore_n (lv' := [(3, .int x21), (0, .ref (a0 0)), (1, .int x14), (2, .int x15)]) hx hb dX10_leastSums_31 rfl hl (by decide) rfl (fun ls hl => ?_)
      refine lv_iconst (v := 0) hx hb dX10_leastSums_32 (by decide) ?_
      refine lv_istore (lv' := [(4, .int (0 : Int32)), (3, .int x21), (0, .ref (a0 0)), (1, .int x14), (2, .int x15)]) hx hb dX10_leastSums_33 hl (by decide) rfl (fun ls hl => ?_)
      obtain ⟨r31, er31, hf⟩ := bnd hf
      refine lp_W (P := fun z => ∀ (H : Heap) (locs : List Loc) (ls : Array Slot), va_P g.1 vwCl (wX10 a0 g v0_papers v0_raw v0_kind v0_figure v0_heavy v0_place v0_rules v0_lower v0_upper v0_limits v0_limit v0_ties v0_letter v0_letters v0_told v0_tolds v0_places v0_cell v0_refusals v0_imaged v0_hasImage v0_before z.2.1 z.2.2.1 v0_beneath v0_numberUp v0_numberDown v0_block v0_blocks v0_merged z.2.2.2.1 z.2.2.2.2 v0_said v0_saids v0_at v0_number) H → va_D A (wX10 a0 g v0_papers v0_raw v0_kind v0_figure v0_heavy v0_place v0_rules v0_lower v0_upper v0_limits v0_limit v0_ties v0_letter v0_letters v0_told v0_tolds v0_places v0_cell v0_refusals v0_imaged v0_hasImage v0_before z.2.1 z.2.2.1 v0_beneath v0_numberUp v0_numberDown v0_block v0_blocks v0_merged z.2.2.2.1 z.2.2.2.2 v0_said v0_saids v0_at v0_number) → va_S A s.heap H locs → lv_has ls 5 [(0, .ref (a0 0)), (1, .int x14), (2, .int x15), (3, .int x21), (4, .int z.1)] → W p l e { frames := 5, cells := 0, slots := 0, locals := 115 } s m [.ref (a0 0)].toArray below meth c H locs 0 0 (MQ below (Qv g (m_X10_leastSums (v0_papers, v0_raw, v0_kind, v0_figure, v0_heavy, v0_place, v0_rules, v0_lower, v0_upper, v0_limits, v0_limit, v0_ties, v0_letter, v0_letters, v0_told, v0_tolds, v0_places, v0_cell, v0_refusals, v0_imaged, v0_hasImage, v0_before, v0_up, v0_down, v0_beneath, v0_numberUp, v0_numberDown, v0_block, v0_blocks, v0_merged, v0_valueUp, v0_valueDown, v0_said, v0_saids, v0_at, v0_number)) (fun u => wX10 a0 g v0_papers v0_raw v0_kind v0_figure v0_heavy v0_place v0_rules v0_lower v0_upper v0_limits v0_limit v0_ties v0_letter v0_letters v0_told v0_tolds v0_places v0_cell v0_refusals v0_imaged v0_hasImage v0_before u.1 u.2.1 v0_beneath v0_numberUp v0_numberDown v0_block v0_blocks v0_merged u.2.2.1 u.2.2.2 v0_said v0_saids v0_at v0_number) A) [.ref (a0 0)].toArray s 0 0 A) (F0 m 35 ls [])) (E := fun r31 => ∀ (H : Heap) (locs : List Loc) (ls : Array Slot), va_P g.1 vwCl (wX10 a0 g v0_papers v0_raw v0_kind v0_figure v0_heavy v0_place v0_rules v0_lower v0_upper v0_limits v0_limit v0_ties v0_letter v0_letters v0_told v0_tolds v0_places v0_cell v0_refusals v0_imaged v0_hasImage v0_before r31.1 r31.2.1 v0_beneath v0_numberUp v0_numberDown v0_block v0_blocks v0_merged r31.2.2.1 r31.2.2.2 v0_said v0_saids v0_at v0_number) H → va_D A (wX10 a0 g v0_papers v0_raw v0_kind v0_figure v0_heavy v0_place v0_rules v0_lower v0_upper v0_limits v0_limit v0_ties v0_letter v0_letters v0_told v0_tolds v0_places v0_cell v0_refusals v0_imaged v0_hasImage v0_before r31.1 r31.2.1 v0_beneath v0_numberUp v0_numberDown v0_block v0_blocks v0_merged r31.2.2.1 r31.2.2.2 v0_said v0_saids v0_at v0_number) → va_S A s.heap H locs → lv_has ls 5 [(0, .ref (a0 0)), (1, .int x14), (2, .int x15), (3, .int x21)] → W p l e { frames := 5, cells := 0, slots := 0, locals := 115 } s m [.ref (a0 0)].toArray below meth c H locs 0 0 (MQ below (Qv g (m_X10_leastSums (v0_papers, v0_raw, v0_kind, v0_figure, v0_heavy, v0_place, v0_rules, v0_lower, v0_upper, v0_limits, v0_limit, v0_ties, v0_letter, v0_letters, v0_told, v0_tolds, v0_places, v0_cell, v0_refusals, v0_imaged, v0_hasImage, v0_before, v0_up, v0_down, v0_beneath, v0_numberUp, v0_numberDown, v0_block, v0_blocks, v0_merged, v0_valueUp, v0_valueDown, v0_said, v0_saids, v0_at, v0_number)) (fun u => wX10 a0 g v0_papers v0_raw v0_kind v0_figure v0_heavy v0_place v0_rules v0_lower v0_upper v0_limits v0_limit v0_ties v0_letter v0_letters v0_told v0_tolds v0_places v0_cell v0_refusals v0_imaged v0_hasImage v0_before u.1 u.2.1 v0_beneath v0_numberUp v0_numberDown v0_block v0_blocks v0_merged u.2.2.1 u.2.2.2 v0_said v0_saids v0_at v0_number) A) [.ref (a0 0)].toArray s 0 0 A) (F0 m 72 ls [])) ?_ fu _ r31 er31 ?_ _ _ _ hP hD hS (lv_sub hl [2, 3, 4, 1, 0] rfl)
      · rintro ⟨x24, x25, x26, x27, x28⟩ y hf hB hXt H locs ls hP hD hS hl
        have hP : va_P g.1 vwCl (wX10 a0 g v0_papers v0_raw v0_kind v0_figure v0_heavy v0_place v0_rules v0_lower v0_upper v0_limits v0_limit v0_ties v0_letter v0_letters v0_told v0_tolds v0_places v0_cell v0_refusals v0_imaged v0_hasImage v0_before x25 x26 v0_beneath v0_numberUp v0_numberDown v0_block v0_blocks v0_merged x27 x28 v0_said v0_saids v0_at v0_number) H := hP
        have hD : va_D A (wX10 a0 g v0_papers v0_raw v0_kind v0_figure v0_heavy v0_place v0_rules v0_lower v0_upper v0_limits v0_limit v0_ties v0_letter v0_letters v0_told v0_tolds v0_places v0_cell v0_refusals v0_imaged v0_hasImage v0_before x25 x26 v0_beneath v0_numberUp v0_numberDown v0_block v0_blocks v0_merged x27 x28 v0_said v0_saids v0_at v0_number) := hD
        have hl : lv_has ls 5 [(0, .ref (a0 0)), (1, .int x14), (2, .int x15), (3, .int x21), (4, .int x24)] := hl
        have hf : m_X10_leastSums_l35_2 (v0_papers, v0_raw, v0_kind, v0_figure, v0_heavy, v0_place, v0_rules, v0_lower, v0_upper, v0_limits, v0_limit, v0_ties, v0_letter, v0_letters, v0_told, v0_tolds, v0_places, v0_cell, v0_refusals, v0_imaged, v0_hasImage, v0_before, v0_up, v0_down, v0_beneath, v0_numberUp, v0_numberDown, v0_block, v0_blocks, v0_merged, v0_valueUp, v0_valueDown, v0_said, v0_saids, v0_at, v0_number) x14 x15 x21 x24 x25 x26 x27 x28 = some y := hf
        unfold m_X10_leastSums_l35_2 at hf
        refine lv_iload hx hb dX10_leastSums_35 (lv_at hl 4 rfl) ?_
        refine lv_aload_n hx hb dX10_leastSums_37 rfl (lv_at hl 0 rfl) ?_
        refine va_get (D := g.1) (ci := 11) (v := .int v0_papers) (C := RX10) (T := TX10) (N := 36) hx hb hts layX10 hown hK.1 hP 0 rfl rfl 0 (by decide) (hts _ kw1277) (fun _ h9 => h9) rfl dX10_leastSums_38 ?_
        refine lv_icmp_ge (tgt := 72) hx hb dX10_leastSums_41 (by decide) (fun cb => ?_) (fun cb => ?_)
        · have hf := it_t cb hf
          exact hXt _ (Option.some.inj hf).symm _ _ _ hP hD hS (lv_sub hl [0, 1, 2, 3] rfl)
        have hf := it_f cb hf
        refine lv_iload_n hx hb dX10_leastSums_44 rfl (lv_at hl 1 rfl) ?_
        refine lv_iload_n hx hb dX10_leastSums_45 rfl (lv_at hl 3 rfl) ?_
        refine lv_iconst (v := (-1)) hx hb dX10_leastSums_46 (by decide) ?_
        refine lv_ixor hx hb dX10_leastSums_47 ?_
        refine lv_iand hx hb dX10_leastSums_48 ?_
        refine lv_iload hx hb dX10_leastSums_49 (lv_at hl 4 rfl) ?_
        refine cIp hP hD hS hA hE (fun hPc hDc hSc => rS (As := [.int (x14 &&& (x21 ^^^ (-1 : Int32))), .int x24]) (rest := []) hx hb hml hown hts hK (c_X10_has l g (x14 &&& (x21 ^^^ (-1 : Int32))) x24 (bnd_ne hf)) svS_X10_has kw1395 hPc hDc hSc rfl rfl hl.1 (Nat.le_of_ble_eq_true rfl) dX10_leastSums_51 ⟨Nat.le_of_ble_eq_true rfl, Nat.le_of_ble_eq_true rfl, rfl, rfl, Nat.le_of_ble_eq_true rfl, Nat.le_of_ble_eq_true rfl⟩) [] rfl rfl rfl (fun x29 H locs ex29 nx29 hP hS => ?_)
        have hf := bnd_of hf ex29
        refine lv_if_eq (tgt := 66) hx hb dX10_leastSums_54 (by decide) (fun cb => ?_) (fun cb => ?_)
        · have hf := it_t cb hf
          refine lv_iinc (v := (x24 + 1)) (lv' := [(4, .int (x24 + 1)), (0, .ref (a0 0)), (1, .int x14), (2, .int x15), (3, .int x21)]) hx hb dX10_leastSums_66 hl (k := 4) rfl (by rfl) (by decide) rfl (fun ls hl => ?_)
          refine lv_goto (tgt := 35) hx hb dX10_leastSums_69 (by decide) ?_
          exact hB _ (Option.some.inj hf).symm _ _ _ hP hD hS (lv_sub hl [1, 2, 3, 4, 0] rfl)
        have hf := it_f cb hf
        refine lv_aload_n hx hb dX10_leastSums_57 rfl (lv_at hl 0 rfl) ?_
        refine lv_iload hx hb dX10_leastSums_58 (lv_at hl 4 rfl) ?_
        refine lv_iload_n hx hb dX10_leastSums_60 rfl (lv_at hl 2 rfl) ?_
        refine lv_i2l (v := x15.toInt64) hx hb dX10_leastSums_61 rfl ?_
        refine lv_lconst (v := 1) hx hb dX10_leastSums_62 (by decide) ?_
        refine cV hP hD hS hA hE (fun hPc hDc hSc => rV (As := [.int x24, .long x15.toInt64, .long (1 : Int64)]) (rest := []) hx hb hml hown hts hK (c_X10_gets l g a0 v0_papers v0_raw v0_kind v0_figure v0_heavy v0_place v0_rules v0_lower v0_upper v0_limits v0_limit v0_ties v0_letter v0_letters v0_told v0_tolds v0_places v0_cell v0_refusals v0_imaged v0_hasImage v0_before x25 x26 v0_beneath v0_numberUp v0_numberDown v0_block v0_blocks v0_merged x27 x28 v0_said v0_saids v0_at v0_number x24 x15.toInt64 (1 : Int64) (bnd_ne hf)) svV_X10_gets kw1560 rfl rfl hPc hDc hSc rfl rfl hl.1 (Nat.le_of_ble_eq_true rfl) dX10_leastSums_63 ⟨Nat.le_of_ble_eq_true rfl, Nat.le_of_ble_eq_true rfl, rfl, rfl, Nat.le_of_ble_eq_true rfl, Nat.le_of_ble_eq_true rfl⟩) [(0, 22)] rfl rfl rfl (fun _ => rfl) (fun x30 H locs ex30 hP hD hS => ?_)
        have hf := bnd_of hf ex30
        have hP : va_P g.1 vwCl (wX10 a0 g v0_papers v0_raw v0_kind v0_figure v0_heavy v0_place v0_rules v0_lower v0_upper v0_limits v0_limit v0_ties v0_letter v0_letters v0_told v0_tolds v0_places v0_cell v0_refusals v0_imaged v0_hasImage v0_before x30.1 x30.2.1 v0_beneath v0_numberUp v0_numberDown v0_block v0_blocks v0_merged x30.2.2.1 x30.2.2.2 v0_said v0_saids v0_at v0_number) H := hP
        have hD : va_D A (wX10 a0 g v0_papers v0_raw v0_kind v0_figure v0_heavy v0_place v0_rules v0_lower v0_upper v0_limits v0_limit v0_ties v0_letter v0_letters v0_told v0_tolds v0_places v0_cell v0_refusals v0_imaged v0_hasImage v0_before x30.1 x30.2.1 v0_beneath v0_numberUp v0_numberDown v0_block v0_blocks v0_merged x30.2.2.1 x30.2.2.2 v0_said v0_saids v0_at v0_number) := hD
        refine lv_iinc (v := (x24 + 1)) (lv' := [(4, .int (x24 + 1)), (0, .ref (a0 0)), (1, .int x14), (2, .int x15), (3, .int x21)]) hx hb dX10_leastSums_66 hl (k := 4) rfl (by rfl) (by decide) rfl (fun ls hl => ?_)
        refine lv_goto (tgt := 35) hx hb dX10_leastSums_69 (by decide) ?_
        exact hB _ (Option.some.inj hf).symm _ _ _ hP hD hS (lv_sub hl [1, 2, 3, 4, 0] rfl)
      intro H locs ls hP hD hS hl
      have hP : va_P g.1 vwCl (wX10 a0 g v0_papers v0_raw v0_kind v0_figure v0_heavy v0_place v0_rules v0_lower v0_upper v0_limits v0_limit v0_ties v0_letter v0_letters v0_told v0_tolds v0_places v0_cell v0_refusals v0_imaged v0_hasImage v0_before r31.1 r31.2.1 v0_beneath v0_numberUp v0_numberDown v0_block v0_blocks v0_merged r31.2.2.1 r31.2.2.2 v0_said v0_saids v0_at v0_number) H := hP
      have hD : va_D A (wX10 a0 g v0_papers v0_raw v0_kind v0_figure v0_heavy v0_place v0_rules v0_lower v0_upper v0_limits v0_limit v0_ties v0_letter v0_letters v0_told v0_tolds v0_places v0_cell v0_refusals v0_imaged v0_hasImage v0_before r31.1 r31.2.1 v0_beneath v0_numberUp v0_numberDown v0_block v0_blocks v0_merged r31.2.2.1 r31.2.2.2 v0_said v0_saids v0_at v0_number) := hD
      have hl : lv_has ls 5 [(0, .ref (a0 0)), (1, .int x14), (2, .int x15), (3, .int x21)] := hl
      refine lv_iload_n hx hb dX10_leastSums_72 rfl (lv_at hl 1 rfl) ?_
      refine lv_iload_n hx hb dX10_leastSums_73 rfl (lv_at hl 3 rfl) ?_
      refine lv_iand hx hb dX10_leastSums_74 ?_
      refine lv_istore_n (lv' := [(1, .int (x14 &&& x21)), (0, .ref (a0 0)), (2, .int x15), (3, .int x21)]) hx hb dX10_leastSums_75 rfl hl (by decide) rfl (fun ls hl => ?_)
      refine lv_iinc (v := (x15 + 1)) (lv' := [(2, .int (x15 + 1)), (1, .int (x14 &&& x21)), (0, .ref (a0 0)), (3, .int x21)]) hx hb dX10_leastSums_76 hl (k := 2) rfl (by rfl) (by decide) rfl (fun ls hl => ?_)
      refine lv_goto (tgt := 11) hx hb dX10_leastSums_79 (by decide) ?_
      exact hB _ (Option.some.inj hf).symm _ _ _ hP hD hS (lv_sub hl [2, 1, 0] rfl)
    have hf := it_t cb hf
    refine lv_goto (tgt := 76) hx hb dX10_leastSums_23 (by decide) ?_
    refine lv_iinc (v := (x15 + 1)) (lv' := [(2, .int (x15 + 1)), (0, .ref (a0 0)), (1, .int x14)]) hx hb dX10_leastSums_76 hl (k := 2) rfl (by rfl) (by decide) rfl (fun ls hl => ?_)
    refine lv_goto (tgt := 11) hx hb dX10_leastSums_79 (by decide) ?_
    exact hB _ (Option.some.inj hf).symm _ _ _ hP hD hS (lv_sub hl [1, 2, 0] rfl)
  intro H locs ls hP hD hS hl
  have hP : va_P g.1 vwCl (wX10 a0 g v0_papers v0_raw v0_kind v0_figure v0_heavy v0_place v0_rules v0_lower v0_upper v0_limits v0_limit v0_ties v0_letter v0_letters v0_told v0_tolds v0_places v0_cell v0_refusals v0_imaged v0_hasImage v0_before r32.1 r32.2.1 v0_beneath v0_numberUp v0_numberDown v0_block v0_blocks v0_merged r32.2.2.1 r32.2.2.2 v0_said v0_saids v0_at v0_number) H := hP
  have hD : va_D A (wX10 a0 g v0_papers v0_raw v0_kind v0_figure v0_heavy v0_place v0_rules v0_lower v0_upper v0_limits v0_limit v0_ties v0_letter v0_letters v0_told v0_tolds v0_places v0_cell v0_refusals v0_imaged v0_hasImage v0_before r32.1 r32.2.1 v0_beneath v0_numberUp v0_numberDown v0_block v0_blocks v0_merged r32.2.2.1 r32.2.2.2 v0_said v0_saids v0_at v0_number) := hD
  have hl : lv_has ls 5 [] := hl
  exact retV (u := (r32.1, r32.2.1, r32.2.2.1, r32.2.2.2)) (W1 := fun u => wX10 a0 g v0_papers v0_raw v0_kind v0_figure v0_heavy v0_place v0_rules v0_lower v0_upper v0_limits v0_limit v0_ties v0_letter v0_letters v0_told v0_tolds v0_places v0_cell v0_refusals v0_imaged v0_hasImage v0_before u.1 u.2.1 v0_beneath v0_numberUp v0_numberDown v0_block v0_blocks v0_merged u.2.2.1 u.2.2.2 v0_said v0_saids v0_at v0_number) hx hb hr hlocks hS hP hD (hf0.trans hf.symm) dX10_leastSums_82
set_option maxHeartbeats 4000000 in
set_option maxRecDepth 100000 in
theorem c_X10_leastSquares (l : Launch) (g : GG) (a0 : Nat → Nat) (v0_papers : Int32) (v0_raw : (Nat → Int32)) (v0_kind : (Nat → Int32)) (v0_figure : (Nat → Int32)) (v0_heavy : (Nat → Int32)) (v0_place : (Nat → Int32)) (v0_rules : Int32) (v0_lower : (Nat → Int32)) (v0_upper : (Nat → Int32)) (v0_limits : Int32) (v0_limit : (Nat → Int32)) (v0_ties : Int32) (v0_letter : (Nat → Int32)) (v0_letters : Int32) (v0_told : (Nat → Int32)) (v0_tolds : Int32) (v0_places : (Nat → Int32)) (v0_cell : (Nat → Int64)) (v0_refusals : (Nat → Int32)) (v0_imaged : (Nat → Int32)) (v0_hasImage : Int32) (v0_before : (Nat → Int32)) (v0_up : Int64) (v0_down : Int64) (v0_beneath : (Nat → Int32)) (v0_numberUp : Int32) (v0_numberDown : Int32) (v0_block : (Nat → Int32)) (v0_blocks : Int32) (v0_merged : Int32) (v0_valueUp : (Nat → Int32)) (v0_valueDown : (Nat → Int32)) (v0_said : (Nat → Int32)) (v0_saids : Int32) (v0_at : Int32) (v0_number : (Nat → Int32)) (hne : (m_X10_leastSquares (v0_papers, v0_raw, v0_kind, v0_figure, v0_heavy, v0_place, v0_rules, v0_lower, v0_upper, v0_limits, v0_limit, v0_ties, v0_letter, v0_letters, v0_told, v0_tolds, v0_places, v0_cell, v0_refusals, v0_imaged, v0_hasImage, v0_before, v0_up, v0_down, v0_beneath, v0_numberUp, v0_numberDown, v0_block, v0_blocks, v0_merged, v0_valueUp, v0_valueDown, v0_said, v0_saids, v0_at, v0_number)) ≠ none) : Ct l g yX10_leastSquares cX10_leastSquares 12 none ({ frames := 4, cells := 0, slots := 0, locals := 89 } : Room) [.ref (a0 0)] (wX10 a0 g v0_papers v0_raw v0_kind v0_figure v0_heavy v0_place v0_rules v0_lower v0_upper v0_limits v0_limit v0_ties v0_letter v0_letters v0_told v0_tolds v0_places v0_cell v0_refusals v0_imaged v0_hasImage v0_before v0_up v0_down v0_beneath v0_numberUp v0_numberDown v0_block v0_blocks v0_merged v0_valueUp v0_valueDown v0_said v0_saids v0_at v0_number) (Qv g (m_X10_leastSquares (v0_papers, v0_raw, v0_kind, v0_figure, v0_heavy, v0_place, v0_rules, v0_lower, v0_upper, v0_limits, v0_limit, v0_ties, v0_letter, v0_letters, v0_told, v0_tolds, v0_places, v0_cell, v0_refusals, v0_imaged, v0_hasImage, v0_before, v0_up, v0_down, v0_beneath, v0_numberUp, v0_numberDown, v0_block, v0_blocks, v0_merged, v0_valueUp, v0_valueDown, v0_said, v0_saids, v0_at, v0_number)) (fun u => wX10 a0 g v0_papers v0_raw v0_kind v0_figure v0_heavy v0_place v0_rules v0_lower v0_upper v0_limits v0_limit v0_ties v0_letter v0_letters v0_told v0_tolds v0_places v0_cell v0_refusals v0_imaged v0_hasImage v0_before u.1 u.2.1 v0_beneath v0_numberUp v0_numberDown v0_block v0_blocks v0_merged u.2.2.1 u.2.2.2 v0_said v0_saids v0_at v0_number)) 0 0 := by
  obtain ⟨out, hf⟩ := ne_ex hne
  have hf0 := hf
  refine Ct.of (own := RX10) (by decide +kernel) rfl (Nat.le_of_ble_eq_true rfl) ?_
  intro p e s m below meth c hx hb hr hml hown hts hlocks hin hK A H locs hA hP hD hS hE ls hl
  have hl : lv_has ls 12 [(0, .ref (a0 0))] := hl
  unfold m_X10_leastSquares at hf
  refine lv_iconst (v := 1) hx hb dX10_leastSquares_0 (by decide) ?_
  refine lv_aload_n hx hb dX10_leastSquares_1 rfl (lv_at hl 0 rfl) ?_
  refine va_get (D := g.1) (ci := 11) (v := .int v0_papers) (C := RX10) (T := TX10) (N := 36) hx hb hts layX10 hown hK.1 hP 0 rfl rfl 0 (by decide) (hts _ kw1277) (fun _ h9 => h9) rfl dX10_leastSquares_2 ?_
  refine lv_ishl hx hb dX10_leastSquares_5 ?_
  refine lv_iconst (v := 1) hx hb dX10_leastSquares_6 (by decide) ?_
  refine lv_isub hx hb dX10_leastSquares_7 ?_
  obtain ⟨x1, ex1, hf⟩ := bnd hf
  refine nmI (Option.some.inj ex1) ?_
  refine lv_istore_n (lv' := [(1, .int x1), (0, .ref (a0 0))]) hx hb dX10_leastSquares_8 rfl hl (by decide) rfl (fun ls hl => ?_)
  obtain ⟨r77, er77, hf⟩ := bnd hf
  refine lp_W (P := fun z => ∀ (H : Heap) (locs : List Loc) (ls : Array Slot), va_P g.1 vwCl (wX10 a0 g v0_papers v0_raw v0_kind v0_figure v0_heavy v0_place v0_rules v0_lower v0_upper v0_limits v0_limit v0_ties v0_letter v0_letters v0_told v0_tolds v0_places v0_cell v0_refusals v0_imaged v0_hasImage v0_before z.2.1 z.2.2.1 v0_beneath v0_numberUp v0_numberDown v0_block v0_blocks v0_merged z.2.2.2.1 z.2.2.2.2 v0_said v0_saids v0_at v0_number) H → va_D A (wX10 a0 g v0_papers v0_raw v0_kind v0_figure v0_heavy v0_place v0_rules v0_lower v0_upper v0_limits v0_limit v0_ties v0_letter v0_letters v0_told v0_tolds v0_places v0_cell v0_refusals v0_imaged v0_hasImage v0_before z.2.1 z.2.2.1 v0_beneath v0_numberUp v0_numberDown v0_block v0_blocks v0_merged z.2.2.2.1 z.2.2.2.2 v0_said v0_saids v0_at v0_number) → va_S A s.heap H locs → lv_has ls 12 [(0, .ref (a0 0)), (1, .int z.1)] → W p l e { frames := 4, cells := 0, slots := 0, locals := 89 } s m [.ref (a0 0)].toArray below meth c H locs 0 0 (MQ below (Qv g (m_X10_leastSquares (v0_papers, v0_raw, v0_kind, v0_figure, v0_heavy, v0_place, v0_rules, v0_lower, v0_upper, v0_limits, v0_limit, v0_ties, v0_letter, v0_letters, v0_told, v0_tolds, v0_places, v0_cell, v0_refusals, v0_imaged, v0_hasImage, v0_before, v0_up, v0_down, v0_beneath, v0_numberUp, v0_numberDown, v0_block, v0_blocks, v0_merged, v0_valueUp, v0_valueDown, v0_said, v0_saids, v0_at, v0_number)) (fun u => wX10 a0 g v0_papers v0_raw v0_kind v0_figure v0_heavy v0_place v0_rules v0_lower v0_upper v0_limits v0_limit v0_ties v0_letter v0_letters v0_told v0_tolds v0_places v0_cell v0_refusals v0_imaged v0_hasImage v0_before u.1 u.2.1 v0_beneath v0_numberUp v0_numberDown v0_block v0_blocks v0_merged u.2.2.1 u.2.2.2 v0_said v0_saids v0_at v0_number) A) [.ref (a0 0)].toArray s 0 0 A) (F0 m 9 ls [])) (E := fun r77 => ∀ (H : Heap) (locs : List Loc) (ls : Array Slot), va_P g.1 vwCl (wX10 a0 g v0_papers v0_raw v0_kind v0_figure v0_heavy v0_place v0_rules v0_lower v0_upper v0_limits v0_limit v0_ties v0_letter v0_letters v0_told v0_tolds v0_places v0_cell v0_refusals v0_imaged v0_hasImage v0_before r77.1 r77.2.1 v0_beneath v0_numberUp v0_numberDown v0_block v0_blocks v0_merged r77.2.2.1 r77.2.2.2 v0_said v0_saids v0_at v0_number) H → va_D A (wX10 a0 g v0_papers v0_raw v0_kind v0_figure v0_heavy v0_place v0_rules v0_lower v0_upper v0_limits v0_limit v0_ties v0_letter v0_letters v0_told v0_tolds v0_places v0_cell v0_refusals v0_imaged v0_hasImage v0_before r77.1 r77.2.1 v0_beneath v0_numberUp v0_numberDown v0_block v0_blocks v0_merged r77.2.2.1 r77.2.2.2 v0_said v0_saids v0_at v0_number) → va_S A s.heap H locs → lv_has ls 12 [] → W p l e { frames := 4, cells := 0, slots := 0, locals := 89 } s m [.ref (a0 0)].toArray below meth c H locs 0 0 (MQ below (Qv g (m_X10_leastSquares (v0_papers, v0_raw, v0_kind, v0_figure, v0_heavy, v0_place, v0_rules, v0_lower, v0_upper, v0_limits, v0_limit, v0_ties, v0_letter, v0_letters, v0_told, v0_tolds, v0_places, v0_cell, v0_refusals, v0_imaged, v0_hasImage, v0_before, v0_up, v0_down, v0_beneath, v0_numberUp, v0_numberDown, v0_block, v0_blocks, v0_merged, v0_valueUp, v0_valueDown, v0_said, v0_saids, v0_at, v0_number)) (fun u => wX10 a0 g v0_papers v0_raw v0_kind v0_figure v0_heavy v0_place v0_rules v0_lower v0_upper v0_limits v0_limit v0_ties v0_letter v0_letters v0_told v0_tolds v0_places v0_cell v0_refusals v0_imaged v0_hasImage v0_before u.1 u.2.1 v0_beneath v0_numberUp v0_numberDown v0_block v0_blocks v0_merged u.2.2.1 u.2.2.2 v0_said v0_saids v0_at v0_number) A) [.ref (a0 0)].toArray s 0 0 A) (F0 m 188 ls [])) ?_ fu _ r77 er77 ?_ _ _ _ hP hD hS (lv_sub hl [1, 0] rfl)
  · rintro ⟨x37, x38, x39, x40, x41⟩ y hf hB hXt H locs ls hP hD hS hl
    have hP : va_P g.1 vwCl (wX10 a0 g v0_papers v0_raw v0_kind v0_figure v0_heavy v0_place v0_rules v0_lower v0_upper v0_limits v0_limit v0_ties v0_letter v0_letters v0_told v0_tolds v0_places v0_cell v0_refusals v0_imaged v0_hasImage v0_before x38 x39 v0_beneath v0_numberUp v0_numberDown v0_block v0_blocks v0_merged x40 x41 v0_said v0_saids v0_at v0_number) H := hP
    have hD : va_D A (wX10 a0 g v0_papers v0_raw v0_kind v0_figure v0_heavy v0_place v0_rules v0_lower v0_upper v0_limits v0_limit v0_ties v0_letter v0_letters v0_told v0_tolds v0_places v0_cell v0_refusals v0_imaged v0_hasImage v0_before x38 x39 v0_beneath v0_numberUp v0_numberDown v0_block v0_blocks v0_merged x40 x41 v0_said v0_saids v0_at v0_number) := hD
    have hl : lv_has ls 12 [(0, .ref (a0 0)), (1, .int x37)] := hl
    have hf : m_X10_leastSquares_l9 (v0_papers, v0_raw, v0_kind, v0_figure, v0_heavy, v0_place, v0_rules, v0_lower, v0_upper, v0_limits, v0_limit, v0_ties, v0_letter, v0_letters, v0_told, v0_tolds, v0_places, v0_cell, v0_refusals, v0_imaged, v0_hasImage, v0_before, v0_up, v0_down, v0_beneath, v0_numberUp, v0_numberDown, v0_block, v0_blocks, v0_merged, v0_valueUp, v0_valueDown, v0_said, v0_saids, v0_at, v0_number) x37 x38 x39 x40 x41 = some y := hf
    unfold m_X10_leastSquares_l9 at hf
    refine lv_iload_n hx hb dX10_leastSquares_9 rfl (lv_at hl 1 rfl) ?_
    refine lv_if_eq (tgt := 188) hx hb dX10_leastSquares_10 (by decide) (fun cb => ?_) (fun cb => ?_)
    · have hf := it_t cb hf
      exact hXt _ (Option.some.inj hf).symm _ _ _ hP hD hS (lv_sub hl [] rfl)
    have hf := it_f cb hf
    refine lv_iload_n hx hb dX10_leastSquares_13 rfl (lv_at hl 1 rfl) ?_
    refine lv_istore_n (lv' := [(2, .int x37), (0, .ref (a0 0)), (1, .int x37)]) hx hb dX10_leastSquares_14 rfl hl (by decide) rfl (fun ls hl => ?_)
    refine lv_aload_n hx hb dX10_leastSquares_15 rfl (lv_at hl 1 rfl) ?_
    refine lv_iload_n hx hb dX10_leastSquares_16 rfl (lv_at hl 2 rfl) ?_
    refine cIp hP hD hS hA hE (fun hPc hDc hSc => rV (As := [.int x37]) (rest := []) hx hb hml hown hts hK (c_X10_sumOf l g a0 v0_papers v0_raw v0_kind v0_figure v0_heavy v0_place v0_rules v0_lower v0_upper v0_limits v0_limit v0_ties v0_letter v0_letters v0_told v0_tolds v0_places v0_cell v0_refusals v0_imaged v0_hasImage v0_before x38 x39 v0_beneath v0_numberUp v0_numberDown v0_block v0_blocks v0_merged x40 x41 v0_said v0_saids v0_at v0_number x37 (bnd_ne hf)) svV_X10_sumOf kw1492 rfl rfl hPc hDc hSc rfl rfl hl.1 (Nat.le_of_ble_eq_true rfl) dX10_leastSquares_17 ⟨Nat.le_of_ble_eq_true rfl, Nat.le_of_ble_eq_true rfl, rfl, rfl, Nat.le_of_ble_eq_true rfl, Nat.le_of_ble_eq_true rfl⟩) [(0, 22)] rfl rfl rfl (fun x42 H locs ex42 nx42 hP hS => ?_)
    have hf := bnd_of hf ex42
    refine lv_i2l (v := x42.toInt64) hx hb dX10_leastSquares_20 rfl ?_
    refine lv_lstore_n (lv' := [(3, .long x42.toInt64), (2, .int x37), (0, .ref (a0 0)), (1, .int x37)]) hx hb dX10_leastSquares_21 rfl hl (by decide) rfl (fun ls hl => ?_)
    refine lv_aload_n hx hb dX10_leastSquares_22 rfl (lv_at hl 2 rfl) ?_
    refine lv_iload_n hx hb dX10_leastSquares_23 rfl (lv_at hl 3 rfl) ?_
    refine cIp hP hD hS hA hE (fun hPc hDc hSc => rV (As := [.int x37]) (rest := []) hx hb hml hown hts hK (c_X10_weightOf l g a0 v0_papers v0_raw v0_kind v0_figure v0_heavy v0_place v0_rules v0_lower v0_upper v0_limits v0_limit v0_ties v0_letter v0_letters v0_told v0_tolds v0_places v0_cell v0_refusals v0_imaged v0_hasImage v0_before x38 x39 v0_beneath v0_numberUp v0_numberDown v0_block v0_blocks v0_merged x40 x41 v0_said v0_saids v0_at v0_number x37 (bnd_ne hf)) svV_X10_weightOf kw1498 rfl rfl hPc hDc hSc rfl rfl hl.1 (Nat.le_of_ble_eq_true rfl) dX10_leastSquares_24 ⟨Nat.le_of_ble_eq_true rfl, Nat.le_of_ble_eq_true rfl, rfl, rfl, Nat.le_of_ble_eq_true rfl, Nat.le_of_ble_eq_true rfl⟩) [(0, 22)] rfl rfl rfl (fun x43 H locs ex43 nx43 hP hS => ?_)
    have hf := bnd_of hf ex43
    refine lv_i2l (v := x43.toInt64) hx hb dX10_leastSquares_27 rfl ?_
    refine lv_lstore (lv' := [(5, .long x43.toInt64), (3, .long x42.toInt64), (2, .int x37), (0, .ref (a0 0)), (1, .int x37)]) hx hb dX10_leastSquares_28 hl (by decide) rfl (fun ls hl => ?_)
    refine lv_iconst (v := 1) hx hb dX10_leastSquares_30 (by decide) ?_
    refine lv_istore (lv' := [(7, .int (1 : Int32)), (5, .long x43.toInt64), (3, .long x42.toInt64), (2, .int x37), (0, .ref (a0 0)), (1, .int x37)]) hx hb dX10_leastSquares_31 hl (by decide) rfl (fun ls hl => ?_)
    obtain ⟨r66, er66, hf⟩ := bnd hf
    refine lp_W (P := fun z => ∀ (H : Heap) (locs : List Loc) (ls : Array Slot), va_P g.1 vwCl (wX10 a0 g v0_papers v0_raw v0_kind v0_figure v0_heavy v0_place v0_rules v0_lower v0_upper v0_limits v0_limit v0_ties v0_letter v0_letters v0_told v0_tolds v0_places v0_cell v0_refusals v0_imaged v0_hasImage v0_before x38 x39 v0_beneath v0_numberUp v0_numberDown v0_block v0_blocks v0_merged x40 x41 v0_said v0_saids v0_at v0_number) H → va_D A (wX10 a0 g v0_papers v0_raw v0_kind v0_figure v0_heavy v0_place v0_rules v0_lower v0_upper v0_limits v0_limit v0_ties v0_letter v0_letters v0_told v0_tolds v0_places v0_cell v0_refusals v0_imaged v0_hasImage v0_before x38 x39 v0_beneath v0_numberUp v0_numberDown v0_block v0_blocks v0_merged x40 x41 v0_said v0_saids v0_at v0_number) → va_S A s.heap H locs → lv_has ls 12 [(0, .ref (a0 0)), (1, .int x37), (2, .int z.1), (3, .long z.2.1), (5, .long z.2.2.1), (7, .int z.2.2.2)] → W p l e { frames := 4, cells := 0, slots := 0, locals := 89 } s m [.ref (a0 0)].toArray below meth c H locs 0 0 (MQ below (Qv g (m_X10_leastSquares (v0_papers, v0_raw, v0_kind, v0_figure, v0_heavy, v0_place, v0_rules, v0_lower, v0_upper, v0_limits, v0_limit, v0_ties, v0_letter, v0_letters, v0_told, v0_tolds, v0_places, v0_cell, v0_refusals, v0_imaged, v0_hasImage, v0_before, v0_up, v0_down, v0_beneath, v0_numberUp, v0_numberDown, v0_block, v0_blocks, v0_merged, v0_valueUp, v0_valueDown, v0_said, v0_saids, v0_at, v0_number)) (fun u => wX10 a0 g v0_papers v0_raw v0_kind v0_figure v0_heavy v0_place v0_rules v0_lower v0_upper v0_limits v0_limit v0_ties v0_letter v0_letters v0_told v0_tolds v0_places v0_cell v0_refusals v0_imaged v0_hasImage v0_before u.1 u.2.1 v0_beneath v0_numberUp v0_numberDown v0_block v0_blocks v0_merged u.2.2.1 u.2.2.2 v0_said v0_saids v0_at v0_number) A) [.ref (a0 0)].toArray s 0 0 A) (F0 m 33 ls [])) (E := fun r66 => ∀ (H : Heap) (locs : List Loc) (ls : Array Slot), va_P g.1 vwCl (wX10 a0 g v0_papers v0_raw v0_kind v0_figure v0_heavy v0_place v0_rules v0_lower v0_upper v0_limits v0_limit v0_ties v0_letter v0_letters v0_told v0_tolds v0_places v0_cell v0_refusals v0_imaged v0_hasImage v0_before x38 x39 v0_beneath v0_numberUp v0_numberDown v0_block v0_blocks v0_merged x40 x41 v0_said v0_saids v0_at v0_number) H → va_D A (wX10 a0 g v0_papers v0_raw v0_kind v0_figure v0_heavy v0_place v0_rules v0_lower v0_upper v0_limits v0_limit v0_ties v0_letter v0_letters v0_told v0_tolds v0_places v0_cell v0_refusals v0_imaged v0_hasImage v0_before x38 x39 v0_beneath v0_numberUp v0_numberDown v0_block v0_blocks v0_merged x40 x41 v0_said v0_saids v0_at v0_number) → va_S A s.heap H locs → lv_has ls 12 [(0, .ref (a0 0)), (1, .int x37), (2, .int r66.1), (3, .long r66.2.1), (5, .long r66.2.2)] → W p l e { frames := 4, cells := 0, slots := 0, locals := 89 } s m [.ref (a0 0)].toArray below meth c H locs 0 0 (MQ below (Qv g (m_X10_leastSquares (v0_papers, v0_raw, v0_kind, v0_figure, v0_heavy, v0_place, v0_rules, v0_lower, v0_upper, v0_limits, v0_limit, v0_ties, v0_letter, v0_letters, v0_told, v0_tolds, v0_places, v0_cell, v0_refusals, v0_imaged, v0_hasImage, v0_before, v0_up, v0_down, v0_beneath, v0_numberUp, v0_numberDown, v0_block, v0_blocks, v0_merged, v0_valueUp, v0_valueDown, v0_said, v0_saids, v0_at, v0_number)) (fun u => wX10 a0 g v0_papers v0_raw v0_kind v0_figure v0_heavy v0_place v0_rules v0_lower v0_upper v0_limits v0_limit v0_ties v0_letter v0_letters v0_told v0_tolds v0_places v0_cell v0_refusals v0_imaged v0_hasImage v0_before u.1 u.2.1 v0_beneath v0_numberUp v0_numberDown v0_block v0_blocks v0_merged u.2.2.1 u.2.2.2 v0_said v0_saids v0_at v0_number) A) [.ref (a0 0)].toArray s 0 0 A) (F0 m 143 ls [])) ?_ fu _ r66 er66 ?_ _ _ _ hP hD hS (lv_sub hl [4, 5, 3, 2, 1, 0] rfl)
    · rintro ⟨x53, x54, x55, x56⟩ y hf hB hXt H locs ls hP hD hS hl
      have hP : va_P g.1 vwCl (wX10 a0 g v0_papers v0_raw v0_kind v0_figure v0_heavy v0_place v0_rules v0_lower v0_upper v0_limits v0_limit v0_ties v0_letter v0_letters v0_told v0_tolds v0_places v0_cell v0_refusals v0_imaged v0_hasImage v0_before x38 x39 v0_beneath v0_numberUp v0_numberDown v0_block v0_blocks v0_merged x40 x41 v0_said v0_saids v0_at v0_number) H := hP
      have hD : va_D A (wX10 a0 g v0_papers v0_raw v0_kind v0_figure v0_heavy v0_place v0_rules v0_lower v0_upper v0_limits v0_limit v0_ties v0_letter v0_letters v0_told v0_tolds v0_places v0_cell v0_refusals v0_imaged v0_hasImage v0_before x38 x39 v0_beneath v0_numberUp v0_numberDown v0_block v0_blocks v0_merged x40 x41 v0_said v0_saids v0_at v0_number) := hD
      have hl : lv_has ls 12 [(0, .ref (a0 0)), (1, .int x37), (2, .int x53), (3, .long x54), (5, .long x55), (7, .int x56)] := hl
      have hf : m_X10_leastSquares_l33_2 (v0_papers, v0_raw, v0_kind, v0_figure, v0_heavy, v0_place, v0_rules, v0_lower, v0_upper, v0_limits, v0_limit, v0_ties, v0_letter, v0_letters, v0_told, v0_tolds, v0_places, v0_cell, v0_refusals, v0_imaged, v0_hasImage, v0_before, v0_up, v0_down, v0_beneath, v0_numberUp, v0_numberDown, v0_block, v0_blocks, v0_merged, v0_valueUp, v0_valueDown, v0_said, v0_saids, v0_at, v0_number) x37 x38 x39 x40 x41 x53 x54 x55 x56 = some y := hf
      unfold m_X10_leastSquares_l33_2 at hf
      refine lv_iload hx hb dX10_leastSquares_33 (lv_at hl 5 rfl) ?_
      refine lv_iconst (v := 1) hx hb dX10_leastSquares_35 (by decide) ?_
      refine lv_aload_n hx hb dX10_leastSquares_36 rfl (lv_at hl 0 rfl) ?_
      refine va_get (D := g.1) (ci := 11) (v := .int v0_papers) (C := RX10) (T := TX10) (N := 36) hx hb hts layX10 hown hK.1 hP 0 rfl rfl 0 (by decide) (hts _ kw1277) (fun _ h9 => h9) rfl dX10_leastSquares_37 ?_
      refine lv_ishl hx hb dX10_leastSquares_40 ?_
      refine lv_icmp_ge (tgt := 143) hx hb dX10_leastSquares_41 (by decide) (fun cb => ?_) (fun cb => ?_)
      · have hf := it_t cb hf
        exact hXt _ (Option.some.inj hf).symm _ _ _ hP hD hS (lv_sub hl [0, 1, 2, 3, 4] rfl)
      have hf := it_f cb hf
      refine lv_iload hx hb dX10_leastSquares_44 (lv_at hl 5 rfl) ?_
      refine lv_iload_n hx hb dX10_leastSquares_46 rfl (lv_at hl 1 rfl) ?_
      refine lv_iconst (v := (-1)) hx hb dX10_leastSquares_47 (by decide) ?_
      refine lv_ixor hx hb dX10_leastSquares_48 ?_
      refine lv_iand hx hb dX10_leastSquares_49 ?_
      refine lv_if_ne (tgt := 137) hx hb dX10_leastSquares_50 (by decide) (fun cb => ?_) (fun cb => ?_)
      · have hf := it_f cb hf
        refine lv_iinc (v := (x56 + 1)) (lv' := [(7, .int (x56 + 1)), (0, .ref (a0 0)), (1, .int x37), (2, .int x53), (3, .long x54), (5, .long x55)]) hx hb dX10_leastSquares_137 hl (k := 5) rfl (by rfl) (by decide) rfl (fun ls hl => ?_)
        refine lv_goto (tgt := 33) hx hb dX10_leastSquares_140 (by decide) ?_
        exact hB _ (Option.some.inj hf).symm _ _ _ hP hD hS (lv_sub hl [1, 2, 3, 4, 5, 0] rfl)
      have hf := it_t cb hf
      refine lv_aload_n hx hb dX10_leastSquares_53 rfl (lv_at hl 0 rfl) ?_
      refine lv_iload hx hb dX10_leastSquares_54 (lv_at hl 5 rfl) ?_
      refine lv_iload_n hx hb dX10_leastSquares_56 rfl (lv_at hl 1 rfl) ?_
      refine cIp hP hD hS hA hE (fun hPc hDc hSc => rV (As := [.int x56, .int x37]) (rest := []) hx hb hml hown hts hK (c_X10_isLow l g a0 v0_papers v0_raw v0_kind v0_figure v0_heavy v0_place v0_rules v0_lower v0_upper v0_limits v0_limit v0_ties v0_letter v0_letters v0_told v0_tolds v0_places v0_cell v0_refusals v0_imaged v0_hasImage v0_before x38 x39 v0_beneath v0_numberUp v0_numberDown v0_block v0_blocks v0_merged x40 x41 v0_said v0_saids v0_at v0_number x56 x37 (bnd_ne hf)) svV_X10_isLow kw1557 rfl rfl hPc hDc hSc rfl rfl hl.1 (Nat.le_of_ble_eq_true rfl) dX10_leastSquares_57 ⟨Nat.le_of_ble_eq_true rfl, Nat.le_of_ble_eq_true rfl, rfl, rfl, Nat.le_of_ble_eq_true rfl, Nat.le_of_ble_eq_true rfl⟩) [(0, 22)] rfl rfl rfl (fun x57 H locs ex57 nx57 hP hS => ?_)
      have hf := bnd_of hf ex57
      refine lv_if_ne (tgt := 66) hx hb dX10_leastSquares_60 (by decide) (fun cb => ?_) (fun cb => ?_)
      · have hf := it_f cb hf
        refine lv_aload_n hx hb dX10_leastSquares_66 rfl (lv_at hl 0 rfl) ?_
        refine lv_iload hx hb dX10_leastSquares_67 (lv_at hl 5 rfl) ?_
        refine cIp hP hD hS hA hE (fun hPc hDc hSc => rV (As := [.int x56]) (rest := []) hx hb hml hown hts hK (c_X10_sumOf l g a0 v0_papers v0_raw v0_kind v0_figure v0_heavy v0_place v0_rules v0_lower v0_upper v0_limits v0_limit v0_ties v0_letter v0_letters v0_told v0_tolds v0_places v0_cell v0_refusals v0_imaged v0_hasImage v0_before x38 x39 v0_beneath v0_numberUp v0_numberDown v0_block v0_blocks v0_merged x40 x41 v0_said v0_saids v0_at v0_number x56 (bnd_ne hf)) svV_X10_sumOf kw1492 rfl rfl hPc hDc hSc rfl rfl hl.1 (Nat.le_of_ble_eq_true rfl) dX10_leastSquares_69 ⟨Nat.le_of_ble_eq_true rfl, Nat.le_of_ble_eq_true rfl, rfl, rfl, Nat.le_of_ble_eq_true rfl, Nat.le_of_ble_eq_true rfl⟩) [(0, 22)] rfl rfl rfl (fun x58 H locs ex58 nx58 hP hS => ?_)
        have hf := bnd_of hf ex58
        refine lv_i2l (v := x58.toInt64) hx hb dX10_leastSquares_72 rfl ?_
        refine lv_lload hx hb dX10_leastSquares_73 (lv_at hl 4 rfl) ?_
        refine lv_lmul hx hb dX10_leastSquares_75 ?_
        refine lv_lstore (lv' := [(8, .long (x58.toInt64 * x55)), (0, .ref (a0 0)), (1, .int x37), (2, .int x53), (3, .long x54), (5, .long x55), (7, .int x56)]) hx hb dX10_leastSquares_76 hl (by decide) rfl (fun ls hl => ?_)
        refine lv_lload_n hx hb dX10_leastSquares_78 rfl (lv_at hl 4 rfl) ?_
        refine lv_aload_n hx hb dX10_leastSquares_79 rfl (lv_at hl 1 rfl) ?_
        refine lv_iload hx hb dX10_leastSquares_80 (lv_at hl 6 rfl) ?_
        refine cIp hP hD hS hA hE (fun hPc hDc hSc => rV (As := [.int x56]) (rest := [.long x54]) hx hb hml hown hts hK (c_X10_weightOf l g a0 v0_papers v0_raw v0_kind v0_figure v0_heavy v0_place v0_rules v0_lower v0_upper v0_limits v0_limit v0_ties v0_letter v0_letters v0_told v0_tolds v0_places v0_cell v0_refusals v0_imaged v0_hasImage v0_before x38 x39 v0_beneath v0_numberUp v0_numberDown v0_block v0_blocks v0_merged x40 x41 v0_said v0_saids v0_at v0_number x56 (bnd_ne hf)) svV_X10_weightOf kw1498 rfl rfl hPc hDc hSc rfl rfl hl.1 (Nat.le_of_ble_eq_true rfl) dX10_leastSquares_82 ⟨Nat.le_of_ble_eq_true rfl, Nat.le_of_ble_eq_true rfl, rfl, rfl, Nat.le_of_ble_eq_true rfl, Nat.le_of_ble_eq_true rfl⟩) [(0, 22)] rfl rfl rfl (fun x59 H locs ex59 nx59 hP hS => ?_)
        have hf := bnd_of hf ex59
        refine lv_i2l (v := x59.toInt64) hx hb dX10_leastSquares_85 rfl ?_
        refine lv_lmul hx hb dX10_leastSquares_86 ?_
        refine lv_lstore (lv' := [(10, .long (x54 * x59.toInt64)), (8, .long (x58.toInt64 * x55)), (0, .ref (a0 0)), (1, .int x37), (2, .int x53), (3, .long x54), (5, .long x55), (7, .int x56)]) hx hb dX10_leastSquares_87 hl (by decide) rfl (fun ls hl => ?_)
        refine lv_lload hx hb dX10_leastSquares_89 (lv_at hl 1 rfl) ?_
        refine lv_lload hx hb dX10_leastSquares_91 (lv_at hl 0 rfl) ?_
        refine lc_lt (tgt := 117) hx hb dX10_leastSquares_93 dX10_leastSquares_94 (by decide) (fun cb => ?_) (fun cb => ?_)
        · have hf := it_t cb hf
          refine lv_iload hx hb dX10_leastSquares_117 (lv_at hl 7 rfl) ?_
          refine lv_istore_n (lv' := [(2, .int x56), (10, .long (x54 * x59.toInt64)), (8, .long (x58.toInt64 * x55)), (0, .ref (a0 0)), (1, .int x37), (3, .long x54), (5, .long x55), (7, .int x56)]) hx hb dX10_leastSquares_119 rfl hl (by decide) rfl (fun ls hl => ?_)
          refine lv_aload_n hx hb dX10_leastSquares_120 rfl (lv_at hl 3 rfl) ?_
          refine lv_iload hx hb dX10_leastSquares_121 (lv_at hl 7 rfl) ?_
          refine cIp hP hD hS hA hE (fun hPc hDc hSc => rV (As := [.int x56]) (rest := []) hx hb hml hown hts hK (c_X10_sumOf l g a0 v0_papers v0_raw v0_kind v0_figure v0_heavy v0_place v0_rules v0_lower v0_upper v0_limits v0_limit v0_ties v0_letter v0_letters v0_told v0_tolds v0_places v0_cell v0_refusals v0_imaged v0_hasImage v0_before x38 x39 v0_beneath v0_numberUp v0_numberDown v0_block v0_blocks v0_merged x40 x41 v0_said v0_saids v0_at v0_number x56 (bnd_ne hf)) svV_X10_sumOf kw1492 rfl rfl hPc hDc hSc rfl rfl hl.1 (Nat.le_of_ble_eq_true rfl) dX10_leastSquares_123 ⟨Nat.le_of_ble_eq_true rfl, Nat.le_of_ble_eq_true rfl, rfl, rfl, Nat.le_of_ble_eq_true rfl, Nat.le_of_ble_eq_true rfl⟩) [(0, 22)] rfl rfl rfl (fun x60 H locs ex60 nx60 hP hS => ?_)
          have hf := bnd_of hf ex60
          refine lv_i2l (v := x60.toInt64) hx hb dX10_leastSquares_126 rfl ?_
          refine lv_lstore_n (lv' := [(3, .long x60.toInt64), (2, .int x56), (10, .long (x54 * x59.toInt64)), (8, .long (x58.toInt64 * x55)), (0, .ref (a0 0)), (1, .int x37), (5, .long x55), (7, .int x56)]) hx hb dX10_leastSquares_127 rfl hl (by decide) rfl (fun ls hl => ?_)
          refine lv_aload_n hx hb dX10_leastSquares_128 rfl (lv_at hl 4 rfl) ?_
          refine lv_iload hx hb dX10_leastSquares_129 (lv_at hl 7 rfl) ?_
          refine cIp hP hD hS hA hE (fun hPc hDc hSc => rV (As := [.int x56]) (rest := []) hx hb hml hown hts hK (c_X10_weightOf l g a0 v0_papers v0_raw v0_kind v0_figure v0_heavy v0_place v0_rules v0_lower v0_upper v0_limits v0_limit v0_ties v0_letter v0_letters v0_told v0_tolds v0_places v0_cell v0_refusals v0_imaged v0_hasImage v0_before x38 x39 v0_beneath v0_numberUp v0_numberDown v0_block v0_blocks v0_merged x40 x41 v0_said v0_saids v0_at v0_number x56 (bnd_ne hf)) svV_X10_weightOf kw1498 rfl rfl hPc hDc hSc rfl rfl hl.1 (Nat.le_of_ble_eq_true rfl) dX10_leastSquares_131 ⟨Nat.le_of_ble_eq_true rfl, Nat.le_of_ble_eq_true rfl, rfl, rfl, Nat.le_of_ble_eq_true rfl, Nat.le_of_ble_eq_true rfl⟩) [(0, 22)] rfl rfl rfl (fun x61 H locs ex61 nx61 hP hS => ?_)
          have hf := bnd_of hf ex61
          refine lv_i2l (v := x61.toInt64) hx hb dX10_leastSquares_134 rfl ?_
          refine lv_lstore (lv' := [(5, .long x61.toInt64), (3, .long x60.toInt64), (2, .int x56), (10, .long (x54 * x59.toInt64)), (8, .long (x58.toInt64 * x55)), (0, .ref (a0 0)), (1, .int x37), (7, .int x56)]) hx hb dX10_leastSquares_135 hl (by decide) rfl (fun ls hl => ?_)
          refine lv_iinc (v := (x56 + 1)) (lv' := [(7, .int (x56 + 1)), (5, .long x61.toInt64), (3, .long x60.toInt64), (2, .int x56), (10, .long (x54 * x59.toInt64)), (8, .long (x58.toInt64 * x55)), (0, .ref (a0 0)), (1, .int x37)]) hx hb dX10_leastSquares_137 hl (k := 7) rfl (by rfl) (by decide) rfl (fun ls hl => ?_)
          refine lv_goto (tgt := 33) hx hb dX10_leastSquares_140 (by decide) ?_
          exact hB _ (Option.some.inj hf).symm _ _ _ hP hD hS (lv_sub hl [6, 7, 3, 2, 1, 0] rfl)
        have hf := it_f cb hf
        refine lv_lload hx hb dX10_leastSquares_97 (lv_at hl 1 rfl) ?_
        refine lv_lload hx hb dX10_leastSquares_99 (lv_at hl 0 rfl) ?_
        refine lc_ne (tgt := 137) hx hb dX10_leastSquares_101 dX10_leastSquares_102 (by decide) (fun cb => ?_) (fun cb => ?_)
        · have hf := it_f cb hf
          refine lv_iinc (v := (x56 + 1)) (lv' := [(7, .int (x56 + 1)), (10, .long (x54 * x59.toInt64)), (8, .long (x58.toInt64 * x55)), (0, .ref (a0 0)), (1, .int x37), (2, .int x53), (3, .long x54), (5, .long x55)]) hx hb dX10_leastSquares_137 hl (k := 7) rfl (by rfl) (by decide) rfl (fun ls hl => ?_)
          refine lv_goto (tgt := 33) hx hb dX10_leastSquares_140 (by decide) ?_
          exact hB _ (Option.some.inj hf).symm _ _ _ hP hD hS (lv_sub hl [3, 4, 5, 6, 7, 0] rfl)
        have hf := it_t cb hf
        refine lv_iload hx hb dX10_leastSquares_105 (lv_at hl 7 rfl) ?_
        refine cIp hP hD hS hA hE (fun hPc hDc hSc => rS (As := [.int x56]) (rest := []) hx hb hml hown hts hK (c_J6_bitCount_0f7a4 l g x56 (bnd_ne hf)) svS_J6_bitCount_0f7a4 kw1456 hPc hDc hSc rfl rfl hl.1 (Nat.le_of_ble_eq_true rfl) dX10_leastSquares_107 ⟨Nat.le_of_ble_eq_true rfl, Nat.le_of_ble_eq_true rfl, rfl, rfl, Nat.le_of_ble_eq_true rfl, Nat.le_of_ble_eq_true rfl⟩) [] rfl rfl rfl (fun x62 H locs ex62 nx62 hP hS => ?_)
        have hf := bnd_of hf ex62
        refine lv_iload_n hx hb dX10_leastSquares_110 rfl (lv_at hl 4 rfl) ?_
        refine cIp hP hD hS hA hE (fun hPc hDc hSc => rS (As := [.int x53]) (rest := [.int x62]) hx hb hml hown hts hK (c_J6_bitCount_0f7a4 l g x53 (bnd_ne hf)) svS_J6_bitCount_0f7a4 kw1456 hPc hDc hSc rfl rfl hl.1 (Nat.le_of_ble_eq_true rfl) dX10_leastSquares_111 ⟨Nat.le_of_ble_eq_true rfl, Nat.le_of_ble_eq_true rfl, rfl, rfl, Nat.le_of_ble_eq_true rfl, Nat.le_of_ble_eq_true rfl⟩) [] rfl rfl rfl (fun x63 H locs ex63 nx63 hP hS => ?_)
        have hf := bnd_of hf ex63
        refine lv_icmp_le (tgt := 137) hx hb dX10_leastSquares_114 (by decide) (fun cb => ?_) (fun cb => ?_)
        · have hf := it_t cb hf
          refine lv_iinc (v := (x56 + 1)) (lv' := [(7, .int (x56 + 1)), (10, .long (x54 * x59.toInt64)), (8, .long (x58.toInt64 * x55)), (0, .ref (a0 0)), (1, .int x37), (2, .int x53), (3, .long x54), (5, .long x55)]) hx hb dX10_leastSquares_137 hl (k := 7) rfl (by rfl) (by decide) rfl (fun ls hl => ?_)
          refine lv_goto (tgt := 33) hx hb dX10_leastSquares_140 (by decide) ?_
          exact hB _ (Option.some.inj hf).symm _ _ _ hP hD hS (lv_sub hl [3, 4, 5, 6, 7, 0] rfl)
        have hf := it_f cb hf
        refine lv_iload hx hb dX10_leastSquares_117 (lv_at hl 7 rfl) ?_
        refine lv_istore_n (lv' := [(2, .int x56), (10, .long (x54 * x59.toInt64)), (8, .long (x58.toInt64 * x55)), (0, .ref (a0 0)), (1, .int x37), (3, .long x54), (5, .long x55), (7, .int x56)]) hx hb dX10_leastSquares_119 rfl hl (by decide) rfl (fun ls hl => ?_)
        refine lv_aload_n hx hb dX10_leastSquares_120 rfl (lv_at hl 3 rfl) ?_
        refine lv_iload hx hb dX10_leastSquares_121 (lv_at hl 7 rfl) ?_
        refine cIp hP hD hS hA hE (fun hPc hDc hSc => rV (As := [.int x56]) (rest := []) hx hb hml hown hts hK (c_X10_sumOf l g a0 v0_papers v0_raw v0_kind v0_figure v0_heavy v0_place v0_rules v0_lower v0_upper v0_limits v0_limit v0_ties v0_letter v0_letters v0_told v0_tolds v0_places v0_cell v0_refusals v0_imaged v0_hasImage v0_before x38 x39 v0_beneath v0_numberUp v0_numberDown v0_block v0_blocks v0_merged x40 x41 v0_said v0_saids v0_at v0_number x56 (bnd_ne hf)) svV_X10_sumOf kw1492 rfl rfl hPc hDc hSc rfl rfl hl.1 (Nat.le_of_ble_eq_true rfl) dX10_leastSquares_123 ⟨Nat.le_of_ble_eq_true rfl, Nat.le_of_ble_eq_true rfl, rfl, rfl, Nat.le_of_ble_eq_true rfl, Nat.le_of_ble_eq_true rfl⟩) [(0, 22)] rfl rfl rfl (fun x64 H locs ex64 nx64 hP hS => ?_)
        have hf := bnd_of hf ex64
        refine lv_i2l (v := x64.toInt64) hx hb dX10_leastSquares_126 rfl ?_
        refine lv_lstore_n (lv' := [(3, .long x64.toInt64), (2, .int x56), (10, .long (x54 * x59.toInt64)), (8, .long (x58.toInt64 * x55)), (0, .ref (a0 0)), (1, .int x37), (5, .long x55), (7, .int x56)]) hx hb dX10_leastSquares_127 rfl hl (by decide) rfl (fun ls hl => ?_)
        refine lv_aload_n hx hb dX10_leastSquares_128 rfl (lv_at hl 4 rfl) ?_
        refine lv_iload hx hb dX10_leastSquares_129 (lv_at hl 7 rfl) ?_
        refine cIp hP hD hS hA hE (fun hPc hDc hSc => rV (As := [.int x56]) (rest := []) hx hb hml hown hts hK (c_X10_weightOf l g a0 v0_papers v0_raw v0_kind v0_figure v0_heavy v0_place v0_rules v0_lower v0_upper v0_limits v0_limit v0_ties v0_letter v0_letters v0_told v0_tolds v0_places v0_cell v0_refusals v0_imaged v0_hasImage v0_before x38 x39 v0_beneath v0_numberUp v0_numberDown v0_block v0_blocks v0_merged x40 x41 v0_said v0_saids v0_at v0_number x56 (bnd_ne hf)) svV_X10_weightOf kw1498 rfl rfl hPc hDc hSc rfl rfl hl.1 (Nat.le_of_ble_eq_true rfl) dX10_leastSquares_131 ⟨Nat.le_of_ble_eq_true rfl, Nat.le_of_ble_eq_true rfl, rfl, rfl, Nat.le_of_ble_eq_true rfl, Nat.le_of_ble_eq_true rfl⟩) [(0, 22)] rfl rfl rfl (fun x65 H locs ex65 nx65 hP hS => ?_)
        have hf := bnd_of hf ex65
        refine lv_i2l (v := x65.toInt64) hx hb dX10_leastSquares_134 rfl ?_
        refine lv_lstore (lv' := [(5, .long x65.toInt64), (3, .long x64.toInt64), (2, .int x56), (10, .long (x54 * x59.toInt64)), (8, .long (x58.toInt64 * x55)), (0, .ref (a0 0)), (1, .int x37), (7, .int x56)]) hx hb dX10_leastSquares_135 hl (by decide) rfl (fun ls hl => ?_)
        refine lv_iinc (v := (x56 + 1)) (lv' := [(7, .int (x56 + 1)), (5, .long x65.toInt64), (3, .long x64.toInt64), (2, .int x56), (10, .long (x54 * x59.toInt64)), (8, .long (x58.toInt64 * x55)), (0, .ref (a0 0)), (1, .int x37)]) hx hb dX10_leastSquares_137 hl (k := 7) rfl (by rfl) (by decide) rfl (fun ls hl => ?_)
        refine lv_goto (tgt := 33) hx hb dX10_leastSquares_140 (by decide) ?_
        exact hB _ (Option.some.inj hf).symm _ _ _ hP hD hS (lv_sub hl [6, 7, 3, 2, 1, 0] rfl)
      have hf := it_t cb hf
      refine lv_goto (tgt := 137) hx hb dX10_leastSquares_63 (by decide) ?_
      refine lv_iinc (v := (x56 + 1)) (lv' := [(7, .int (x56 + 1)), (0, .ref (a0 0)), (1, .int x37), (2, .int x53), (3, .long x54), (5, .long x55)]) hx hb dX10_leastSquares_137 hl (k := 5) rfl (by rfl) (by decide) rfl (fun ls hl => ?_)
      refine lv_goto (tgt := 33) hx hb dX10_leastSquares_140 (by decide) ?_
      exact hB _ (Option.some.inj hf).symm _ _ _ hP hD hS (lv_sub hl [1, 2, 3, 4, 5, 0] rfl)
    intro H locs ls hP hD hS hl
    have hP : va_P g.1 vwCl (wX10 a0 g v0_papers v0_raw v0_kind v0_figure v0_heavy v0_place v0_rules v0_lower v0_upper v0_limits v0_limit v0_ties v0_letter v0_letters v0_told v0_tolds v0_places v0_cell v0_refusals v0_imaged v0_hasImage v0_before x38 x39 v0_beneath v0_numberUp v0_numberDown v0_block v0_blocks v0_merged x40 x41 v0_said v0_saids v0_at v0_number) H := hP
    have hD : va_D A (wX10 a0 g v0_papers v0_raw v0_kind v0_figure v0_heavy v0_place v0_rules v0_lower v0_upper v0_limits v0_limit v0_ties v0_letter v0_letters v0_told v0_tolds v0_places v0_cell v0_refusals v0_imaged v0_hasImage v0_before x38 x39 v0_beneath v0_numberUp v0_numberDown v0_block v0_blocks v0_merged x40 x41 v0_said v0_saids v0_at v0_number) := hD
    have hl : lv_has ls 12 [(0, .ref (a0 0)), (1, .int x37), (2, .int r66.1), (3, .long r66.2.1), (5, .long r66.2.2)] := hl
    refine lv_iconst (v := 0) hx hb dX10_leastSquares_143 (by decide) ?_
    refine lv_istore (lv' := [(7, .int (0 : Int32)), (0, .ref (a0 0)), (1, .int x37), (2, .int r66.1), (3, .long r66.2.1), (5, .long r66.2.2)]) hx hb dX10_leastSquares_144 hl (by decide) rfl (fun ls hl => ?_)
    obtain ⟨r76, er76, hf⟩ := bnd hf
    refine lp_W (P := fun z => ∀ (H : Heap) (locs : List Loc) (ls : Array Slot), va_P g.1 vwCl (wX10 a0 g v0_papers v0_raw v0_kind v0_figure v0_heavy v0_place v0_rules v0_lower v0_upper v0_limits v0_limit v0_ties v0_letter v0_letters v0_told v0_tolds v0_places v0_cell v0_refusals v0_imaged v0_hasImage v0_before z.2.1 z.2.2.1 v0_beneath v0_numberUp v0_numberDown v0_block v0_blocks v0_merged z.2.2.2.1 z.2.2.2.2 v0_said v0_saids v0_at v0_number) H → va_D A (wX10 a0 g v0_papers v0_raw v0_kind v0_figure v0_heavy v0_place v0_rules v0_lower v0_upper v0_limits v0_limit v0_ties v0_letter v0_letters v0_told v0_tolds v0_places v0_cell v0_refusals v0_imaged v0_hasImage v0_before z.2.1 z.2.2.1 v0_beneath v0_numberUp v0_numberDown v0_block v0_blocks v0_merged z.2.2.2.1 z.2.2.2.2 v0_said v0_saids v0_at v0_number) → va_S A s.heap H locs → lv_has ls 12 [(0, .ref (a0 0)), (1, .int x37), (2, .int r66.1), (3, .long r66.2.1), (5, .long r66.2.2), (7, .int z.1)] → W p l e { frames := 4, cells := 0, slots := 0, locals := 89 } s m [.ref (a0 0)].toArray below meth c H locs 0 0 (MQ below (Qv g (m_X10_leastSquares (v0_papers, v0_raw, v0_kind, v0_figure, v0_heavy, v0_place, v0_rules, v0_lower, v0_upper, v0_limits, v0_limit, v0_ties, v0_letter, v0_letters, v0_told, v0_tolds, v0_places, v0_cell, v0_refusals, v0_imaged, v0_hasImage, v0_before, v0_up, v0_down, v0_beneath, v0_numberUp, v0_numberDown, v0_block, v0_blocks, v0_merged, v0_valueUp, v0_valueDown, v0_said, v0_saids, v0_at, v0_number)) (fun u => wX10 a0 g v0_papers v0_raw v0_kind v0_figure v0_heavy v0_place v0_rules v0_lower v0_upper v0_limits v0_limit v0_ties v0_letter v0_letters v0_told v0_tolds v0_places v0_cell v0_refusals v0_imaged v0_hasImage v0_before u.1 u.2.1 v0_beneath v0_numberUp v0_numberDown v0_block v0_blocks v0_merged u.2.2.1 u.2.2.2 v0_said v0_saids v0_at v0_number) A) [.ref (a0 0)].toArray s 0 0 A) (F0 m 146 ls [])) (E := fun r76 => ∀ (H : Heap) (locs : List Loc) (ls : Array Slot), va_P g.1 vwCl (wX10 a0 g v0_papers v0_raw v0_kind v0_figure v0_heavy v0_place v0_rules v0_lower v0_upper v0_limits v0_limit v0_ties v0_letter v0_letters v0_told v0_tolds v0_places v0_cell v0_refusals v0_imaged v0_hasImage v0_before r76.1 r76.2.1 v0_beneath v0_numberUp v0_numberDown v0_block v0_blocks v0_merged r76.2.2.1 r76.2.2.2 v0_said v0_saids v0_at v0_number) H → va_D A (wX10 a0 g v0_papers v0_raw v0_kind v0_figure v0_heavy v0_place v0_rules v0_lower v0_upper v0_limits v0_limit v0_ties v0_letter v0_letters v0_told v0_tolds v0_places v0_cell v0_refusals v0_imaged v0_hasImage v0_before r76.1 r76.2.1 v0_beneath v0_numberUp v0_numberDown v0_block v0_blocks v0_merged r76.2.2.1 r76.2.2.2 v0_said v0_saids v0_at v0_number) → va_S A s.heap H locs → lv_has ls 12 [(0, .ref (a0 0)), (1, .int x37), (2, .int r66.1)] → W p l e { frames := 4, cells := 0, slots := 0, locals := 89 } s m [.ref (a0 0)].toArray below meth c H locs 0 0 (MQ below (Qv g (m_X10_leastSquares (v0_papers, v0_raw, v0_kind, v0_figure, v0_heavy, v0_place, v0_rules, v0_lower, v0_upper, v0_limits, v0_limit, v0_ties, v0_letter, v0_letters, v0_told, v0_tolds, v0_places, v0_cell, v0_refusals, v0_imaged, v0_hasImage, v0_before, v0_up, v0_down, v0_beneath, v0_numberUp, v0_numberDown, v0_block, v0_blocks, v0_merged, v0_valueUp, v0_valueDown, v0_said, v0_saids, v0_at, v0_number)) (fun u => wX10 a0 g v0_papers v0_raw v0_kind v0_figure v0_heavy v0_place v0_rules v0_lower v0_upper v0_limits v0_limit v0_ties v0_letter v0_letters v0_told v0_tolds v0_places v0_cell v0_refusals v0_imaged v0_hasImage v0_before u.1 u.2.1 v0_beneath v0_numberUp v0_numberDown v0_block v0_blocks v0_merged u.2.2.1 u.2.2.2 v0_said v0_saids v0_at v0_number) A) [.ref (a0 0)].toArray s 0 0 A) (F0 m 179 ls [])) ?_ fu _ r76 er76 ?_ _ _ _ hP hD hS (lv_sub hl [1, 2, 3, 4, 5, 0] rfl)
    · rintro ⟨x69, x70, x71, x72, x73⟩ y hf hB hXt H locs ls hP hD hS hl
      have hP : va_P g.1 vwCl (wX10 a0 g v0_papers v0_raw v0_kind v0_figure v0_heavy v0_place v0_rules v0_lower v0_upper v0_limits v0_limit v0_ties v0_letter v0_letters v0_told v0_tolds v0_places v0_cell v0_refusals v0_imaged v0_hasImage v0_before x70 x71 v0_beneath v0_numberUp v0_numberDown v0_block v0_blocks v0_merged x72 x73 v0_said v0_saids v0_at v0_number) H := hP
      have hD : va_D A (wX10 a0 g v0_papers v0_raw v0_kind v0_figure v0_heavy v0_place v0_rules v0_lower v0_upper v0_limits v0_limit v0_ties v0_letter v0_letters v0_told v0_tolds v0_places v0_cell v0_refusals v0_imaged v0_hasImage v0_before x70 x71 v0_beneath v0_numberUp v0_numberDown v0_block v0_blocks v0_merged x72 x73 v0_said v0_saids v0_at v0_number) := hD
      have hl : lv_has ls 12 [(0, .ref (a0 0)), (1, .int x37), (2, .int r66.1), (3, .long r66.2.1), (5, .long r66.2.2), (7, .int x69)] := hl
      have hf : m_X10_leastSquares_l146_2 (v0_papers, v0_raw, v0_kind, v0_figure, v0_heavy, v0_place, v0_rules, v0_lower, v0_upper, v0_limits, v0_limit, v0_ties, v0_letter, v0_letters, v0_told, v0_tolds, v0_places, v0_cell, v0_refusals, v0_imaged, v0_hasImage, v0_before, v0_up, v0_down, v0_beneath, v0_numberUp, v0_numberDown, v0_block, v0_blocks, v0_merged, v0_valueUp, v0_valueDown, v0_said, v0_saids, v0_at, v0_number) r66 x69 x70 x71 x72 x73 = some y := hf
      unfold m_X10_leastSquares_l146_2 at hf
      refine lv_iload hx hb dX10_leastSquares_146 (lv_at hl 5 rfl) ?_
      refine lv_aload_n hx hb dX10_leastSquares_148 rfl (lv_at hl 0 rfl) ?_
      refine va_get (D := g.1) (ci := 11) (v := .int v0_papers) (C := RX10) (T := TX10) (N := 36) hx hb hts layX10 hown hK.1 hP 0 rfl rfl 0 (by decide) (hts _ kw1277) (fun _ h9 => h9) rfl dX10_leastSquares_149 ?_
      refine lv_icmp_ge (tgt := 179) hx hb dX10_leastSquares_152 (by decide) (fun cb => ?_) (fun cb => ?_)
      · have hf := it_t cb hf
        exact hXt _ (Option.some.inj hf).symm _ _ _ hP hD hS (lv_sub hl [0, 1, 2] rfl)
      have hf := it_f cb hf
      refine lv_iload_n hx hb dX10_leastSquares_155 rfl (lv_at hl 2 rfl) ?_
      refine lv_iload hx hb dX10_leastSquares_156 (lv_at hl 5 rfl) ?_
      refine cIp hP hD hS hA hE (fun hPc hDc hSc => rS (As := [.int r66.1, .int x69]) (rest := []) hx hb hml hown hts hK (c_X10_has l g r66.1 x69 (bnd_ne hf)) svS_X10_has kw1395 hPc hDc hSc rfl rfl hl.1 (Nat.le_of_ble_eq_true rfl) dX10_leastSquares_158 ⟨Nat.le_of_ble_eq_true rfl, Nat.le_of_ble_eq_true rfl, rfl, rfl, Nat.le_of_ble_eq_true rfl, Nat.le_of_ble_eq_true rfl⟩) [] rfl rfl rfl (fun x74 H locs ex74 nx74 hP hS => ?_)
      have hf := bnd_of hf ex74
      refine lv_if_eq (tgt := 173) hx hb dX10_leastSquares_161 (by decide) (fun cb => ?_) (fun cb => ?_)
      · have hf := it_t cb hf
        refine lv_iinc (v := (x69 + 1)) (lv' := [(7, .int (x69 + 1)), (0, .ref (a0 0)), (1, .int x37), (2, .int r66.1), (3, .long r66.2.1), (5, .long r66.2.2)]) hx hb dX10_leastSquares_173 hl (k := 5) rfl (by rfl) (by decide) rfl (fun ls hl => ?_)
        refine lv_goto (tgt := 146) hx hb dX10_leastSquares_176 (by decide) ?_
        exact hB _ (Option.some.inj hf).symm _ _ _ hP hD hS (lv_sub hl [1, 2, 3, 4, 5, 0] rfl)
      have hf := it_f cb hf
      refine lv_aload_n hx hb dX10_leastSquares_164 rfl (lv_at hl 0 rfl) ?_
      refine lv_iload hx hb dX10_leastSquares_165 (lv_at hl 5 rfl) ?_
      refine lv_lload_n hx hb dX10_leastSquares_167 rfl (lv_at hl 3 rfl) ?_
      refine lv_lload hx hb dX10_leastSquares_168 (lv_at hl 4 rfl) ?_
      refine cV hP hD hS hA hE (fun hPc hDc hSc => rV (As := [.int x69, .long r66.2.1, .long r66.2.2]) (rest := []) hx hb hml hown hts hK (c_X10_gets l g a0 v0_papers v0_raw v0_kind v0_figure v0_heavy v0_place v0_rules v0_lower v0_upper v0_limits v0_limit v0_ties v0_letter v0_letters v0_told v0_tolds v0_places v0_cell v0_refusals v0_imaged v0_hasImage v0_before x70 x71 v0_beneath v0_numberUp v0_numberDown v0_block v0_blocks v0_merged x72 x73 v0_said v0_saids v0_at v0_number x69 r66.2.1 r66.2.2 (bnd_ne hf)) svV_X10_gets kw1560 rfl rfl hPc hDc hSc rfl rfl hl.1 (Nat.le_of_ble_eq_true rfl) dX10_leastSquares_170 ⟨Nat.le_of_ble_eq_true rfl, Nat.le_of_ble_eq_true rfl, rfl, rfl, Nat.le_of_ble_eq_true rfl, Nat.le_of_ble_eq_true rfl⟩) [(0, 22)] rfl rfl rfl (fun _ => rfl) (fun x75 H locs ex75 hP hD hS => ?_)
      have hf := bnd_of hf ex75
      have hP : va_P g.1 vwCl (wX10 a0 g v0_papers v0_raw v0_kind v0_figure v0_heavy v0_place v0_rules v0_lower v0_upper v0_limits v0_limit v0_ties v0_letter v0_letters v0_told v0_tolds v0_places v0_cell v0_refusals v0_imaged v0_hasImage v0_before x75.1 x75.2.1 v0_beneath v0_numberUp v0_numberDown v0_block v0_blocks v0_merged x75.2.2.1 x75.2.2.2 v0_said v0_saids v0_at v0_number) H := hP
      have hD : va_D A (wX10 a0 g v0_papers v0_raw v0_kind v0_figure v0_heavy v0_place v0_rules v0_lower v0_upper v0_limits v0_limit v0_ties v0_letter v0_letters v0_told v0_tolds v0_places v0_cell v0_refusals v0_imaged v0_hasImage v0_before x75.1 x75.2.1 v0_beneath v0_numberUp v0_numberDown v0_block v0_blocks v0_merged x75.2.2.1 x75.2.2.2 v0_said v0_saids v0_at v0_number) := hD
      refine lv_iinc (v := (x69 + 1)) (lv' := [(7, .int (x69 + 1)), (0, .ref (a0 0)), (1, .int x37), (2, .int r66.1), (3, .long r66.2.1), (5, .long r66.2.2)]) hx hb dX10_leastSquares_173 hl (k := 5) rfl (by rfl) (by decide) rfl (fun ls hl => ?_)
      refine lv_goto (tgt := 146) hx hb dX10_leastSquares_176 (by decide) ?_
      exact hB _ (Option.some.inj hf).symm _ _ _ hP hD hS (lv_sub hl [1, 2, 3, 4, 5, 0] rfl)
    intro H locs ls hP hD hS hl
    have hP : va_P g.1 vwCl (wX10 a0 g v0_papers v0_raw v0_kind v0_figure v0_heavy v0_place v0_rules v0_lower v0_upper v0_limits v0_limit v0_ties v0_letter v0_letters v0_told v0_tolds v0_places v0_cell v0_refusals v0_imaged v0_hasImage v0_before r76.1 r76.2.1 v0_beneath v0_numberUp v0_numberDown v0_block v0_blocks v0_merged r76.2.2.1 r76.2.2.2 v0_said v0_saids v0_at v0_number) H := hP
    have hD : va_D A (wX10 a0 g v0_papers v0_raw v0_kind v0_figure v0_heavy v0_place v0_rules v0_lower v0_upper v0_limits v0_limit v0_ties v0_letter v0_letters v0_told v0_tolds v0_places v0_cell v0_refusals v0_imaged v0_hasImage v0_before r76.1 r76.2.1 v0_beneath v0_numberUp v0_numberDown v0_block v0_blocks v0_merged r76.2.2.1 r76.2.2.2 v0_said v0_saids v0_at v0_number) := hD
    have hl : lv_has ls 12 [(0, .ref (a0 0)), (1, .int x37), (2, .int r66.1)] := hl
    refine lv_iload_n hx hb dX10_leastSquares_179 rfl (lv_at hl 1 rfl) ?_
    refine lv_iload_n hx hb dX10_leastSquares_180 rfl (lv_at hl 2 rfl) ?_
    refine lv_iconst (v := (-1)) hx hb dX10_leastSquares_181 (by decide) ?_
    refine lv_ixor hx hb dX10_leastSquares_182 ?_
    refine lv_iand hx hb dX10_leastSquares_183 ?_
    refine lv_istore_n (lv' := [(1, .int (x37 &&& (r66.1 ^^^ (-1 : Int32)))), (0, .ref (a0 0)), (2, .int r66.1)]) hx hb dX10_leastSquares_184 rfl hl (by decide) rfl (fun ls hl => ?_)
    refine lv_goto (tgt := 9) hx hb dX10_leastSquares_185 (by decide) ?_
    exact hB _ (Option.some.inj hf).symm _ _ _ hP hD hS (lv_sub hl [1, 0] rfl)
  intro H locs ls hP hD hS hl
  have hP : va_P g.1 vwCl (wX10 a0 g v0_papers v0_raw v0_kind v0_figure v0_heavy v0_place v0_rules v0_lower v0_upper v0_limits v0_limit v0_ties v0_letter v0_letters v0_told v0_tolds v0_places v0_cell v0_refusals v0_imaged v0_hasImage v0_before r77.1 r77.2.1 v0_beneath v0_numberUp v0_numberDown v0_block v0_blocks v0_merged r77.2.2.1 r77.2.2.2 v0_said v0_saids v0_at v0_number) H := hP
  have hD : va_D A (wX10 a0 g v0_papers v0_raw v0_kind v0_figure v0_heavy v0_place v0_rules v0_lower v0_upper v0_limits v0_limit v0_ties v0_letter v0_letters v0_told v0_tolds v0_places v0_cell v0_refusals v0_imaged v0_hasImage v0_before r77.1 r77.2.1 v0_beneath v0_numberUp v0_numberDown v0_block v0_blocks v0_merged r77.2.2.1 r77.2.2.2 v0_said v0_saids v0_at v0_number) := hD
  have hl : lv_has ls 12 [] := hl
  exact retV (u := (r77.1, r77.2.1, r77.2.2.1, r77.2.2.2)) (W1 := fun u => wX10 a0 g v0_papers v0_raw v0_kind v0_figure v0_heavy v0_place v0_rules v0_lower v0_upper v0_limits v0_limit v0_ties v0_letter v0_letters v0_told v0_tolds v0_places v0_cell v0_refusals v0_imaged v0_hasImage v0_before u.1 u.2.1 v0_beneath v0_numberUp v0_numberDown v0_block v0_blocks v0_merged u.2.2.1 u.2.2.2 v0_said v0_saids v0_at v0_number) hx hb hr hlocks hS hP hD (hf0.trans hf.symm) dX10_leastSquares_188
set_option maxHeartbeats 4000000 in
set_option maxRecDepth 100000 in
theorem c_X10_values (l : Launch) (g : GG) (a0 : Nat → Nat) (v0_papers : Int32) (v0_raw : (Nat → Int32)) (v0_kind : (Nat → Int32)) (v0_figure : (Nat → Int32)) (v0_heavy : (Nat → Int32)) (v0_place : (Nat → Int32)) (v0_rules : Int32) (v0_lower : (Nat → Int32)) (v0_upper : (Nat → Int32)) (v0_limits : Int32) (v0_limit : (Nat → Int32)) (v0_ties : Int32) (v0_letter : (Nat → Int32)) (v0_letters : Int32) (v0_told : (Nat → Int32)) (v0_tolds : Int32) (v0_places : (Nat → Int32)) (v0_cell : (Nat → Int64)) (v0_refusals : (Nat → Int32)) (v0_imaged : (Nat → Int32)) (v0_hasImage : Int32) (v0_before : (Nat → Int32)) (v0_up : Int64) (v0_down : Int64) (v0_beneath : (Nat → Int32)) (v0_numberUp : Int32) (v0_numberDown : Int32) (v0_block : (Nat → Int32)) (v0_blocks : Int32) (v0_merged : Int32) (v0_valueUp : (Nat → Int32)) (v0_valueDown : (Nat → Int32)) (v0_said : (Nat → Int32)) (v0_saids : Int32) (v0_at : Int32) (v0_number : (Nat → Int32)) (p1 : Int32) (p2 : Int32) (hne : (m_X10_values (v0_papers, v0_raw, v0_kind, v0_figure, v0_heavy, v0_place, v0_rules, v0_lower, v0_upper, v0_limits, v0_limit, v0_ties, v0_letter, v0_letters, v0_told, v0_tolds, v0_places, v0_cell, v0_refusals, v0_imaged, v0_hasImage, v0_before, v0_up, v0_down, v0_beneath, v0_numberUp, v0_numberDown, v0_block, v0_blocks, v0_merged, v0_valueUp, v0_valueDown, v0_said, v0_saids, v0_at, v0_number) p1 p2) ≠ none) : Ct l g yX10_values cX10_values 3 none ({ frames := 6, cells := 0, slots := 0, locals := 139 } : Room) [.ref (a0 0), .int p1, .int p2] (wX10 a0 g v0_papers v0_raw v0_kind v0_figure v0_heavy v0_place v0_rules v0_lower v0_upper v0_limits v0_limit v0_ties v0_letter v0_letters v0_told v0_tolds v0_places v0_cell v0_refusals v0_imaged v0_hasImage v0_before v0_up v0_down v0_beneath v0_numberUp v0_numberDown v0_block v0_blocks v0_merged v0_valueUp v0_valueDown v0_said v0_saids v0_at v0_number) (Qv g (m_X10_values (v0_papers, v0_raw, v0_kind, v0_figure, v0_heavy, v0_place, v0_rules, v0_lower, v0_upper, v0_limits, v0_limit, v0_ties, v0_letter, v0_letters, v0_told, v0_tolds, v0_places, v0_cell, v0_refusals, v0_imaged, v0_hasImage, v0_before, v0_up, v0_down, v0_beneath, v0_numberUp, v0_numberDown, v0_block, v0_blocks, v0_merged, v0_valueUp, v0_valueDown, v0_said, v0_saids, v0_at, v0_number) p1 p2) (fun u => wX10 a0 g v0_papers v0_raw v0_kind v0_figure v0_heavy v0_place v0_rules v0_lower v0_upper v0_limits v0_limit v0_ties v0_letter v0_letters v0_told v0_tolds v0_places v0_cell v0_refusals v0_imaged v0_hasImage v0_before u.1 u.2.1 u.2.2.1 v0_numberUp v0_numberDown v0_block v0_blocks v0_merged u.2.2.2.1 u.2.2.2.2 v0_said v0_saids v0_at v0_number)) 0 0 := by
  obtain ⟨out, hf⟩ := ne_ex hne
  have hf0 := hf
  refine Ct.of (own := RX10) (by decide +kernel) rfl (Nat.le_of_ble_eq_true rfl) ?_
  intro p e s m below meth c hx hb hr hml hown hts hlocks hin hK A H locs hA hP hD hS hE ls hl
  have hl : lv_has ls 3 [(0, .ref (a0 0)), (1, .int p1), (2, .int p2)] := hl
  unfold m_X10_values at hf
  refine lv_aload_n hx hb dX10_values_0 rfl (lv_at hl 0 rfl) ?_
  refine lv_iload_n hx hb dX10_values_1 rfl (lv_at hl 2 rfl) ?_
  refine cV hP hD hS hA hE (fun hPc hDc hSc => rV (As := [.int p2]) (rest := []) hx hb hml hown hts hK (c_X10_reach l g a0 v0_papers v0_raw v0_kind v0_figure v0_heavy v0_place v0_rules v0_lower v0_upper v0_limits v0_limit v0_ties v0_letter v0_letters v0_told v0_tolds v0_places v0_cell v0_refusals v0_imaged v0_hasImage v0_before v0_up v0_down v0_beneath v0_numberUp v0_numberDown v0_block v0_blocks v0_merged v0_valueUp v0_valueDown v0_said v0_saids v0_at v0_number p2 (bnd_ne hf)) svV_X10_reach kw1392 rfl rfl hPc hDc hSc rfl rfl hl.1 (Nat.le_of_ble_eq_true rfl) dX10_values_2 ⟨Nat.le_of_ble_eq_true rfl, Nat.le_of_ble_eq_true rfl, rfl, rfl, Nat.le_of_ble_eq_true rfl, Nat.le_of_ble_eq_true rfl⟩) [(0, 22)] rfl rfl rfl (fun _ => rfl) (fun x1 H locs ex1 hP hD hS => ?_)
  have hf := bnd_of hf ex1
  have hP : va_P g.1 vwCl (wX10 a0 g v0_papers v0_raw v0_kind v0_figure v0_heavy v0_place v0_rules v0_lower v0_upper v0_limits v0_limit v0_ties v0_letter v0_letters v0_told v0_tolds v0_places v0_cell v0_refusals v0_imaged v0_hasImage v0_before v0_up v0_down x1 v0_numberUp v0_numberDown v0_block v0_blocks v0_merged v0_valueUp v0_valueDown v0_said v0_saids v0_at v0_number) H := hP
  have hD : va_D A (wX10 a0 g v0_papers v0_raw v0_kind v0_figure v0_heavy v0_place v0_rules v0_lower v0_upper v0_limits v0_limit v0_ties v0_letter v0_letters v0_told v0_tolds v0_places v0_cell v0_refusals v0_imaged v0_hasImage v0_before v0_up v0_down x1 v0_numberUp v0_numberDown v0_block v0_blocks v0_merged v0_valueUp v0_valueDown v0_said v0_saids v0_at v0_number) := hD
  refine lv_iload_n hx hb dX10_values_5 rfl (lv_at hl 1 rfl) ?_
  refine lv_if_ne (tgt := 16) hx hb dX10_values_6 (by decide) (fun cb => ?_) (fun cb => ?_)
  · have hf := it_f cb hf
    refine lv_iload_n hx hb dX10_values_16 rfl (lv_at hl 1 rfl) ?_
    refine lv_iconst (v := 1) hx hb dX10_values_17 (by decide) ?_
    refine lv_icmp_ne (tgt := 28) hx hb dX10_values_18 (by decide) (fun cb => ?_) (fun cb => ?_)
    · have hf := it_f cb hf
      refine lv_aload_n hx hb dX10_values_28 rfl (lv_at hl 0 rfl) ?_
      refine cV hP hD hS hA hE (fun hPc hDc hSc => rV (As := []) (rest := []) hx hb hml hown hts hK (c_X10_leastWorst l g a0 v0_papers v0_raw v0_kind v0_figure v0_heavy v0_place v0_rules v0_lower v0_upper v0_limits v0_limit v0_ties v0_letter v0_letters v0_told v0_tolds v0_places v0_cell v0_refusals v0_imaged v0_hasImage v0_before v0_up v0_down x1 v0_numberUp v0_numberDown v0_block v0_blocks v0_merged v0_valueUp v0_valueDown v0_said v0_saids v0_at v0_number (bnd_ne hf)) svV_X10_leastWorst kw1575 rfl rfl hPc hDc hSc rfl rfl hl.1 (Nat.le_of_ble_eq_true rfl) dX10_values_29 ⟨Nat.le_of_ble_eq_true rfl, Nat.le_of_ble_eq_true rfl, rfl, rfl, Nat.le_of_ble_eq_true rfl, Nat.le_of_ble_eq_true rfl⟩) [(0, 22)] rfl rfl rfl (fun _ => rfl) (fun x2 H locs ex2 hP hD hS => ?_)
      have hf := bnd_of hf ex2
      have hP : va_P g.1 vwCl (wX10 a0 g v0_papers v0_raw v0_kind v0_figure v0_heavy v0_place v0_rules v0_lower v0_upper v0_limits v0_limit v0_ties v0_letter v0_letters v0_told v0_tolds v0_places v0_cell v0_refusals v0_imaged v0_hasImage v0_before x2.1 x2.2.1 x1 v0_numberUp v0_numberDown v0_block v0_blocks v0_merged x2.2.2.1 x2.2.2.2 v0_said v0_saids v0_at v0_number) H := hP
      have hD : va_D A (wX10 a0 g v0_papers v0_raw v0_kind v0_figure v0_heavy v0_place v0_rules v0_lower v0_upper v0_limits v0_limit v0_ties v0_letter v0_letters v0_told v0_tolds v0_places v0_cell v0_refusals v0_imaged v0_hasImage v0_before x2.1 x2.2.1 x1 v0_numberUp v0_numberDown v0_block v0_blocks v0_merged x2.2.2.1 x2.2.2.2 v0_said v0_saids v0_at v0_number) := hD
      exact retV (u := (x2.1, x2.2.1, x1, x2.2.2.1, x2.2.2.2)) (W1 := fun u => wX10 a0 g v0_papers v0_raw v0_kind v0_figure v0_heavy v0_place v0_rules v0_lower v0_upper v0_limits v0_limit v0_ties v0_letter v0_letters v0_told v0_tolds v0_places v0_cell v0_refusals v0_imaged v0_hasImage v0_before u.1 u.2.1 u.2.2.1 v0_numberUp v0_numberDown v0_block v0_blocks v0_merged u.2.2.2.1 u.2.2.2.2 v0_said v0_saids v0_at v0_number) hx hb hr hlocks hS hP hD (hf0.trans hf.symm) dX10_values_32
    have hf := it_t cb hf
    refine lv_aload_n hx hb dX10_values_21 rfl (lv_at hl 0 rfl) ?_
    refine cV hP hD hS hA hE (fun hPc hDc hSc => rV (As := []) (rest := []) hx hb hml hown hts hK (c_X10_leastSums l g a0 v0_papers v0_raw v0_kind v0_figure v0_heavy v0_place v0_rules v0_lower v0_upper v0_limits v0_limit v0_ties v0_letter v0_letters v0_told v0_tolds v0_places v0_cell v0_refusals v0_imaged v0_hasImage v0_before v0_up v0_down x1 v0_numberUp v0_numberDown v0_block v0_blocks v0_merged v0_valueUp v0_valueDown v0_said v0_saids v0_at v0_number (bnd_ne hf)) svV_X10_leastSums kw1563 rfl rfl hPc hDc hSc rfl rfl hl.1 (Nat.le_of_ble_eq_true rfl) dX10_values_22 ⟨Nat.le_of_ble_eq_true rfl, Nat.le_of_ble_eq_true rfl, rfl, rfl, Nat.le_of_ble_eq_true rfl, Nat.le_of_ble_eq_true rfl⟩) [(0, 22)] rfl rfl rfl (fun _ => rfl) (fun x3 H locs ex3 hP hD hS => ?_)
    have hf := bnd_of hf ex3
    have hP : va_P g.1 vwCl (wX10 a0 g v0_papers v0_raw v0_kind v0_figure v0_heavy v0_place v0_rules v0_lower v0_upper v0_limits v0_limit v0_ties v0_letter v0_letters v0_told v0_tolds v0_places v0_cell v0_refusals v0_imaged v0_hasImage v0_before x3.1 x3.2.1 x1 v0_numberUp v0_numberDown v0_block v0_blocks v0_merged x3.2.2.1 x3.2.2.2 v0_said v0_saids v0_at v0_number) H := hP
    have hD : va_D A (wX10 a0 g v0_papers v0_raw v0_kind v0_figure v0_heavy v0_place v0_rules v0_lower v0_upper v0_limits v0_limit v0_ties v0_letter v0_letters v0_told v0_tolds v0_places v0_cell v0_refusals v0_imaged v0_hasImage v0_before x3.1 x3.2.1 x1 v0_numberUp v0_numberDown v0_block v0_blocks v0_merged x3.2.2.1 x3.2.2.2 v0_said v0_saids v0_at v0_number) := hD
    refine lv_goto (tgt := 32) hx hb dX10_values_25 (by decide) ?_
    exact retV (u := (x3.1, x3.2.1, x1, x3.2.2.1, x3.2.2.2)) (W1 := fun u => wX10 a0 g v0_papers v0_raw v0_kind v0_figure v0_heavy v0_place v0_rules v0_lower v0_upper v0_limits v0_limit v0_ties v0_letter v0_letters v0_told v0_tolds v0_places v0_cell v0_refusals v0_imaged v0_hasImage v0_before u.1 u.2.1 u.2.2.1 v0_numberUp v0_numberDown v0_block v0_blocks v0_merged u.2.2.2.1 u.2.2.2.2 v0_said v0_saids v0_at v0_number) hx hb hr hlocks hS hP hD (hf0.trans hf.symm) dX10_values_32
  have hf := it_t cb hf
  refine lv_aload_n hx hb dX10_values_9 rfl (lv_at hl 0 rfl) ?_
  refine cV hP hD hS hA hE (fun hPc hDc hSc => rV (As := []) (rest := []) hx hb hml hown hts hK (c_X10_leastSquares l g a0 v0_papers v0_raw v0_kind v0_figure v0_heavy v0_place v0_rules v0_lower v0_upper v0_limits v0_limit v0_ties v0_letter v0_letters v0_told v0_tolds v0_places v0_cell v0_refusals v0_imaged v0_hasImage v0_before v0_up v0_down x1 v0_numberUp v0_numberDown v0_block v0_blocks v0_merged v0_valueUp v0_valueDown v0_said v0_saids v0_at v0_number (bnd_ne hf)) svV_X10_leastSquares kw1554 rfl rfl hPc hDc hSc rfl rfl hl.1 (Nat.le_of_ble_eq_true rfl) dX10_values_10 ⟨Nat.le_of_ble_eq_true rfl, Nat.le_of_ble_eq_true rfl, rfl, rfl, Nat.le_of_ble_eq_true rfl, Nat.le_of_ble_eq_true rfl⟩) [(0, 22)] rfl rfl rfl (fun _ => rfl) (fun x4 H locs ex4 hP hD hS => ?_)
  have hf := bnd_of hf ex4
  have hP : va_P g.1 vwCl (wX10 a0 g v0_papers v0_raw v0_kind v0_figure v0_heavy v0_place v0_rules v0_lower v0_upper v0_limits v0_limit v0_ties v0_letter v0_letters v0_told v0_tolds v0_places v0_cell v0_refusals v0_imaged v0_hasImage v0_before x4.1 x4.2.1 x1 v0_numberUp v0_numberDown v0_block v0_blocks v0_merged x4.2.2.1 x4.2.2.2 v0_said v0_saids v0_at v0_number) H := hP
  have hD : va_D A (wX10 a0 g v0_papers v0_raw v0_kind v0_figure v0_heavy v0_place v0_rules v0_lower v0_upper v0_limits v0_limit v0_ties v0_letter v0_letters v0_told v0_tolds v0_places v0_cell v0_refusals v0_imaged v0_hasImage v0_before x4.1 x4.2.1 x1 v0_numberUp v0_numberDown v0_block v0_blocks v0_merged x4.2.2.1 x4.2.2.2 v0_said v0_saids v0_at v0_number) := hD
  refine lv_goto (tgt := 32) hx hb dX10_values_13 (by decide) ?_
  exact retV (u := (x4.1, x4.2.1, x1, x4.2.2.1, x4.2.2.2)) (W1 := fun u => wX10 a0 g v0_papers v0_raw v0_kind v0_figure v0_heavy v0_place v0_rules v0_lower v0_upper v0_limits v0_limit v0_ties v0_letter v0_letters v0_told v0_tolds v0_places v0_cell v0_refusals v0_imaged v0_hasImage v0_before u.1 u.2.1 u.2.2.1 v0_numberUp v0_numberDown v0_block v0_blocks v0_merged u.2.2.2.1 u.2.2.2.2 v0_said v0_saids v0_at v0_number) hx hb hr hlocks hS hP hD (hf0.trans hf.symm) dX10_values_32
