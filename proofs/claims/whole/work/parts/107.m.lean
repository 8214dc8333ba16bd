theorem svV_X8_begin : SV RX8 yX8_begin cX8_begin 4 none 1 := ⟨kw665, kw666, kw9, kw667, rfl, by decide, by decide, by decide +kernel⟩
theorem svV_X8_breakAny : SV RX8 yX8_breakAny cX8_breakAny 4 (some .boolean) 2 := ⟨kw841, kw842, kw9, kw843, rfl, by decide, by decide, by decide +kernel⟩
theorem svV_X5_work : SV RX5 yX5_work cX5_work 4 none 2 := ⟨kw611, kw612, kw7, kw613, rfl, by decide, by decide, by decide +kernel⟩
theorem svV_X0_fillSets : SV RX0 yX0_fillSets cX0_fillSets 5 none 0 := ⟨kw869, kw1817, kw11, kw870, rfl, by decide, by decide, by decide +kernel⟩
theorem svV_X8_allPapers : SV RX8 yX8_allPapers cX8_allPapers 1 (some .int) 0 := ⟨kw681, kw682, kw9, kw683, rfl, by decide, by decide, by decide +kernel⟩
theorem svV_X0_leastMarkAbove : SV RX0 yX0_leastMarkAbove cX0_leastMarkAbove 5 (some .int) 1 := ⟨kw891, kw1822, kw11, kw892, rfl, by decide, by decide, by decide +kernel⟩
theorem svV_X0_cheapest : SV RX0 yX0_cheapest cX0_cheapest 7 (some .int) 2 := ⟨kw895, kw1823, kw11, kw896, rfl, by decide, by decide, by decide +kernel⟩
theorem svV_X8_lay : SV RX8 yX8_lay cX8_lay 7 none 3 := ⟨kw763, kw764, kw9, kw765, rfl, by decide, by decide, by decide +kernel⟩
theorem svV_X0_layLeastAbsolutes : SV RX0 yX0_layLeastAbsolutes cX0_layLeastAbsolutes 6 none 0 := ⟨kw888, kw1821, kw11, kw889, rfl, by decide, by decide, by decide +kernel⟩
theorem svV_X0_leastByMean : SV RX0 yX0_leastByMean cX0_leastByMean 4 (some .int) 1 := ⟨kw882, kw1819, kw11, kw883, rfl, by decide, by decide, by decide +kernel⟩
theorem svV_X0_layLeastSquares : SV RX0 yX0_layLeastSquares cX0_layLeastSquares 4 none 0 := ⟨kw878, kw1818, kw11, kw879, rfl, by decide, by decide, by decide +kernel⟩
theorem svV_X5_oversOf : SV RX5 yX5_oversOf cX5_oversOf 2 (some .int) 1 := ⟨kw862, kw863, kw7, kw864, rfl, by decide, by decide, by decide +kernel⟩
theorem svV_X0_layHalfways : SV RX0 yX0_layHalfways cX0_layHalfways 5 none 0 := ⟨kw852, kw1816, kw11, kw853, rfl, by decide, by decide, by decide +kernel⟩
theorem svV_X8_papersAt : SV RX8 yX8_papersAt cX8_papersAt 4 (some .int) 1 := ⟨kw715, kw716, kw9, kw717, rfl, by decide, by decide, by decide +kernel⟩
theorem svV_X4_standBehind : SV RX4 yX4_standBehind cX4_standBehind 2 none 1 := ⟨kw708, kw1804, kw8, kw709, rfl, by decide, by decide, by decide +kernel⟩
theorem svV_X8_placeAt : SV RX8 yX8_placeAt cX8_placeAt 2 (some .int) 1 := ⟨kw695, kw696, kw9, kw697, rfl, by decide, by decide, by decide +kernel⟩
theorem svS_J6_compare_7cf53 : SS RJ6 yJ6_compare_7cf53 cJ6_compare_7cf53 2 (some .int) 2 := ⟨kw700, kw19, kw701, rfl, by decide, by decide, by decide +kernel⟩
theorem dX0_layLeastAbsolutes_0 : decode cX0_layLeastAbsolutes 0 = .ok (.aload_n 0, 1) := by decide +kernel
theorem dX0_layLeastAbsolutes_1 : decode cX0_layLeastAbsolutes 1 = .ok (.getfield 12, 3) := by decide +kernel
theorem dX0_layLeastAbsolutes_4 : decode cX0_layLeastAbsolutes 4 = .ok (.invokevirtual 107, 3) := by decide +kernel
theorem dX0_layLeastAbsolutes_7 : decode cX0_layLeastAbsolutes 7 = .ok (.istore_n 1, 1) := by decide +kernel
theorem dX0_layLeastAbsolutes_8 : decode cX0_layLeastAbsolutes 8 = .ok (.aload_n 0, 1) := by decide +kernel
theorem dX0_layLeastAbsolutes_9 : decode cX0_layLeastAbsolutes 9 = .ok (.iconst (-1), 1) := by decide +kernel
theorem dX0_layLeastAbsolutes_10 : decode cX0_layLeastAbsolutes 10 = .ok (.invokevirtual 116, 3) := by decide +kernel
theorem dX0_layLeastAbsolutes_13 : decode cX0_layLeastAbsolutes 13 = .ok (.istore_n 2, 1) := by decide +kernel
theorem dX0_layLeastAbsolutes_14 : decode cX0_layLeastAbsolutes 14 = .ok (.iconst 0, 1) := by decide +kernel
theorem dX0_layLeastAbsolutes_15 : decode cX0_layLeastAbsolutes 15 = .ok (.istore_n 3, 1) := by decide +kernel
theorem dX0_layLeastAbsolutes_16 : decode cX0_layLeastAbsolutes 16 = .ok (.iload_n 3, 1) := by decide +kernel
theorem dX0_layLeastAbsolutes_17 : decode cX0_layLeastAbsolutes 17 = .ok (.bipush 7, 2) := by decide +kernel
theorem dX0_layLeastAbsolutes_19 : decode cX0_layLeastAbsolutes 19 = .ok (.if_icmp .ge 67, 3) := by decide +kernel
theorem dX0_layLeastAbsolutes_22 : decode cX0_layLeastAbsolutes 22 = .ok (.iload_n 1, 1) := by decide +kernel
theorem dX0_layLeastAbsolutes_23 : decode cX0_layLeastAbsolutes 23 = .ok (.ifCond .eq 63, 3) := by decide +kernel
theorem dX0_layLeastAbsolutes_26 : decode cX0_layLeastAbsolutes 26 = .ok (.aload_n 0, 1) := by decide +kernel
theorem dX0_layLeastAbsolutes_27 : decode cX0_layLeastAbsolutes 27 = .ok (.iload_n 2, 1) := by decide +kernel
theorem dX0_layLeastAbsolutes_28 : decode cX0_layLeastAbsolutes 28 = .ok (.invokevirtual 116, 3) := by decide +kernel
theorem dX0_layLeastAbsolutes_31 : decode cX0_layLeastAbsolutes 31 = .ok (.istore 4, 2) := by decide +kernel
theorem dX0_layLeastAbsolutes_33 : decode cX0_layLeastAbsolutes 33 = .ok (.iload 4, 2) := by decide +kernel
theorem dX0_layLeastAbsolutes_35 : decode cX0_layLeastAbsolutes 35 = .ok (.iload_n 2, 1) := by decide +kernel
theorem dX0_layLeastAbsolutes_56 : decode cX0_layLeastAbsolutes 56 = .ok (.istore 5, 2) := by decide +kernel
theorem dX0_layLeastAbsolutes_58 : decode cX0_layLeastAbsolutes 58 = .ok (.aload_n 0, 1) := by decide +kernel
theorem dX0_layLeastAbsolutes_59 : decode cX0_layLeastAbsolutes 59 = .ok (.getfield 12, 3) := by decide +kernel
theorem dX0_layLeastAbsolutes_62 : decode cX0_layLeastAbsolutes 62 = .ok (.iload 5, 2) := by decide +kernel
theorem dX0_layLeastAbsolutes_64 : decode cX0_layLeastAbsolutes 64 = .ok (.iload_n 2, 1) := by decide +kernel
theorem dX0_layLeastAbsolutes_65 : decode cX0_layLeastAbsolutes 65 = .ok (.i2l, 1) := by decide +kernel
theorem dX0_layLeastAbsolutes_66 : decode cX0_layLeastAbsolutes 66 = .ok (.lconst 1, 1) := by decide +kernel
theorem dX0_layLeastAbsolutes_67 : decode cX0_layLeastAbsolutes 67 = .ok (.invokevirtual 93, 3) := by decide +kernel
theorem dX0_layLeastAbsolutes_70 : decode cX0_layLeastAbsolutes 70 = .ok (.iload_n 1, 1) := by decide +kernel
theorem dX0_layLeastAbsolutes_71 : decode cX0_layLeastAbsolutes 71 = .ok (.iload 5, 2) := by decide +kernel
theorem dX0_layLeastAbsolutes_73 : decode cX0_layLeastAbsolutes 73 = .ok (.iconst (-1), 1) := by decide +kernel
theorem dX0_layLeastAbsolutes_74 : decode cX0_layLeastAbsolutes 74 = .ok (.ixor, 1) := by decide +kernel
theorem dX0_layLeastAbsolutes_75 : decode cX0_layLeastAbsolutes 75 = .ok (.iand, 1) := by decide +kernel
theorem dX0_layLeastAbsolutes_76 : decode cX0_layLeastAbsolutes 76 = .ok (.istore_n 1, 1) := by decide +kernel
theorem dX0_layLeastAbsolutes_77 : decode cX0_layLeastAbsolutes 77 = .ok (.iload 4, 2) := by decide +kernel
theorem dX0_layLeastAbsolutes_79 : decode cX0_layLeastAbsolutes 79 = .ok (.istore_n 2, 1) := by decide +kernel
theorem dX0_layLeastAbsolutes_80 : decode cX0_layLeastAbsolutes 80 = .ok (.iinc 3 1, 3) := by decide +kernel
theorem dX0_layLeastAbsolutes_83 : decode cX0_layLeastAbsolutes 83 = .ok (.goto (-67), 3) := by decide +kernel
theorem dX0_layLeastAbsolutes_36 : decode cX0_layLeastAbsolutes 36 = .ok (.if_icmp .le 19, 3) := by decide +kernel
theorem dX0_layLeastAbsolutes_55 : decode cX0_layLeastAbsolutes 55 = .ok (.iload_n 1, 1) := by decide +kernel
theorem dX0_layLeastAbsolutes_39 : decode cX0_layLeastAbsolutes 39 = .ok (.aload_n 0, 1) := by decide +kernel
theorem dX0_layLeastAbsolutes_40 : decode cX0_layLeastAbsolutes 40 = .ok (.aload_n 0, 1) := by decide +kernel
theorem dX0_layLeastAbsolutes_41 : decode cX0_layLeastAbsolutes 41 = .ok (.getfield 12, 3) := by decide +kernel
theorem dX0_layLeastAbsolutes_44 : decode cX0_layLeastAbsolutes 44 = .ok (.iload_n 2, 1) := by decide +kernel
theorem dX0_layLeastAbsolutes_45 : decode cX0_layLeastAbsolutes 45 = .ok (.invokevirtual 119, 3) := by decide +kernel
theorem dX0_layLeastAbsolutes_48 : decode cX0_layLeastAbsolutes 48 = .ok (.iload_n 1, 1) := by decide +kernel
theorem dX0_layLeastAbsolutes_49 : decode cX0_layLeastAbsolutes 49 = .ok (.invokevirtual 122, 3) := by decide +kernel
theorem dX0_layLeastAbsolutes_52 : decode cX0_layLeastAbsolutes 52 = .ok (.goto 4, 3) := by decide +kernel
theorem dX0_layLeastAbsolutes_86 : decode cX0_layLeastAbsolutes 86 = .ok (.return_, 1) := by decide +kernel
theorem dX0_leastByMean_0 : decode cX0_leastByMean 0 = .ok (.iload_n 1, 1) := by decide +kernel
theorem dX0_leastByMean_1 : decode cX0_leastByMean 1 = .ok (.istore_n 2, 1) := by decide +kernel
theorem dX0_leastByMean_2 : decode cX0_leastByMean 2 = .ok (.iload_n 1, 1) := by decide +kernel
theorem dX0_leastByMean_3 : decode cX0_leastByMean 3 = .ok (.istore_n 3, 1) := by decide +kernel
theorem dX0_leastByMean_4 : decode cX0_leastByMean 4 = .ok (.iload_n 3, 1) := by decide +kernel
theorem dX0_leastByMean_5 : decode cX0_leastByMean 5 = .ok (.ifCond .le 60, 3) := by decide +kernel
theorem dX0_leastByMean_8 : decode cX0_leastByMean 8 = .ok (.aload_n 0, 1) := by decide +kernel
theorem dX0_leastByMean_9 : decode cX0_leastByMean 9 = .ok (.iload_n 3, 1) := by decide +kernel
theorem dX0_leastByMean_10 : decode cX0_leastByMean 10 = .ok (.iload_n 1, 1) := by decide +kernel
theorem dX0_leastByMean_11 : decode cX0_leastByMean 11 = .ok (.invokevirtual 113, 3) := by decide +kernel
theorem dX0_leastByMean_14 : decode cX0_leastByMean 14 = .ok (.ifCond .eq 42, 3) := by decide +kernel
theorem dX0_leastByMean_56 : decode cX0_leastByMean 56 = .ok (.iload_n 3, 1) := by decide +kernel
theorem dX0_leastByMean_57 : decode cX0_leastByMean 57 = .ok (.iconst 1, 1) := by decide +kernel
theorem dX0_leastByMean_58 : decode cX0_leastByMean 58 = .ok (.isub, 1) := by decide +kernel
theorem dX0_leastByMean_59 : decode cX0_leastByMean 59 = .ok (.iload_n 1, 1) := by decide +kernel
theorem dX0_leastByMean_60 : decode cX0_leastByMean 60 = .ok (.iand, 1) := by decide +kernel
theorem dX0_leastByMean_61 : decode cX0_leastByMean 61 = .ok (.istore_n 3, 1) := by decide +kernel
theorem dX0_leastByMean_62 : decode cX0_leastByMean 62 = .ok (.goto (-58), 3) := by decide +kernel
theorem dX0_leastByMean_17 : decode cX0_leastByMean 17 = .ok (.aload_n 0, 1) := by decide +kernel
theorem dX0_leastByMean_18 : decode cX0_leastByMean 18 = .ok (.getfield 30, 3) := by decide +kernel
theorem dX0_leastByMean_21 : decode cX0_leastByMean 21 = .ok (.iload_n 3, 1) := by decide +kernel
theorem dX0_leastByMean_22 : decode cX0_leastByMean 22 = .ok (.invokevirtual 100, 3) := by decide +kernel
theorem dX0_leastByMean_25 : decode cX0_leastByMean 25 = .ok (.aload_n 0, 1) := by decide +kernel
theorem dX0_leastByMean_26 : decode cX0_leastByMean 26 = .ok (.getfield 34, 3) := by decide +kernel
theorem dX0_leastByMean_29 : decode cX0_leastByMean 29 = .ok (.iload_n 2, 1) := by decide +kernel
theorem dX0_leastByMean_30 : decode cX0_leastByMean 30 = .ok (.invokevirtual 100, 3) := by decide +kernel
theorem dX0_leastByMean_33 : decode cX0_leastByMean 33 = .ok (.imul, 1) := by decide +kernel
theorem dX0_leastByMean_34 : decode cX0_leastByMean 34 = .ok (.aload_n 0, 1) := by decide +kernel
theorem dX0_leastByMean_35 : decode cX0_leastByMean 35 = .ok (.getfield 30, 3) := by decide +kernel
theorem dX0_leastByMean_38 : decode cX0_leastByMean 38 = .ok (.iload_n 2, 1) := by decide +kernel
theorem dX0_leastByMean_39 : decode cX0_leastByMean 39 = .ok (.invokevirtual 100, 3) := by decide +kernel
theorem dX0_leastByMean_42 : decode cX0_leastByMean 42 = .ok (.aload_n 0, 1) := by decide +kernel
theorem dX0_leastByMean_43 : decode cX0_leastByMean 43 = .ok (.getfield 34, 3) := by decide +kernel
theorem dX0_leastByMean_46 : decode cX0_leastByMean 46 = .ok (.iload_n 3, 1) := by decide +kernel
theorem dX0_leastByMean_47 : decode cX0_leastByMean 47 = .ok (.invokevirtual 100, 3) := by decide +kernel
theorem dX0_leastByMean_50 : decode cX0_leastByMean 50 = .ok (.imul, 1) := by decide +kernel
theorem dX0_leastByMean_51 : decode cX0_leastByMean 51 = .ok (.if_icmp .ge 5, 3) := by decide +kernel
theorem dX0_leastByMean_54 : decode cX0_leastByMean 54 = .ok (.iload_n 3, 1) := by decide +kernel
theorem dX0_leastByMean_55 : decode cX0_leastByMean 55 = .ok (.istore_n 2, 1) := by decide +kernel
theorem dX0_leastByMean_65 : decode cX0_leastByMean 65 = .ok (.iload_n 2, 1) := by decide +kernel
theorem dX0_leastByMean_66 : decode cX0_leastByMean 66 = .ok (.ireturn, 1) := by decide +kernel
theorem dX0_layLeastSquares_0 : decode cX0_layLeastSquares 0 = .ok (.aload_n 0, 1) := by decide +kernel
theorem dX0_layLeastSquares_1 : decode cX0_layLeastSquares 1 = .ok (.getfield 12, 3) := by decide +kernel
theorem dX0_layLeastSquares_4 : decode cX0_layLeastSquares 4 = .ok (.invokevirtual 107, 3) := by decide +kernel
theorem dX0_layLeastSquares_7 : decode cX0_layLeastSquares 7 = .ok (.istore_n 1, 1) := by decide +kernel
theorem dX0_layLeastSquares_8 : decode cX0_layLeastSquares 8 = .ok (.iconst 0, 1) := by decide +kernel
theorem dX0_layLeastSquares_9 : decode cX0_layLeastSquares 9 = .ok (.istore_n 2, 1) := by decide +kernel
theorem dX0_layLeastSquares_10 : decode cX0_layLeastSquares 10 = .ok (.iload_n 2, 1) := by decide +kernel
theorem dX0_layLeastSquares_11 : decode cX0_layLeastSquares 11 = .ok (.bipush 7, 2) := by decide +kernel
theorem dX0_layLeastSquares_13 : decode cX0_layLeastSquares 13 = .ok (.if_icmp .ge 51, 3) := by decide +kernel
theorem dX0_layLeastSquares_16 : decode cX0_layLeastSquares 16 = .ok (.iload_n 1, 1) := by decide +kernel
theorem dX0_layLeastSquares_17 : decode cX0_layLeastSquares 17 = .ok (.ifCond .eq 47, 3) := by decide +kernel
theorem dX0_layLeastSquares_20 : decode cX0_layLeastSquares 20 = .ok (.aload_n 0, 1) := by decide +kernel
theorem dX0_layLeastSquares_21 : decode cX0_layLeastSquares 21 = .ok (.iload_n 1, 1) := by decide +kernel
theorem dX0_layLeastSquares_22 : decode cX0_layLeastSquares 22 = .ok (.invokevirtual 110, 3) := by decide +kernel
theorem dX0_layLeastSquares_25 : decode cX0_layLeastSquares 25 = .ok (.istore_n 3, 1) := by decide +kernel
theorem dX0_layLeastSquares_26 : decode cX0_layLeastSquares 26 = .ok (.aload_n 0, 1) := by decide +kernel
theorem dX0_layLeastSquares_27 : decode cX0_layLeastSquares 27 = .ok (.getfield 12, 3) := by decide +kernel
theorem dX0_layLeastSquares_30 : decode cX0_layLeastSquares 30 = .ok (.iload_n 3, 1) := by decide +kernel
theorem dX0_layLeastSquares_31 : decode cX0_layLeastSquares 31 = .ok (.aload_n 0, 1) := by decide +kernel
theorem dX0_layLeastSquares_32 : decode cX0_layLeastSquares 32 = .ok (.getfield 30, 3) := by decide +kernel
theorem dX0_layLeastSquares_35 : decode cX0_layLeastSquares 35 = .ok (.iload_n 3, 1) := by decide +kernel
theorem dX0_layLeastSquares_36 : decode cX0_layLeastSquares 36 = .ok (.invokevirtual 100, 3) := by decide +kernel
theorem dX0_layLeastSquares_39 : decode cX0_layLeastSquares 39 = .ok (.i2l, 1) := by decide +kernel
theorem dX0_layLeastSquares_40 : decode cX0_layLeastSquares 40 = .ok (.aload_n 0, 1) := by decide +kernel
theorem dX0_layLeastSquares_41 : decode cX0_layLeastSquares 41 = .ok (.getfield 34, 3) := by decide +kernel
theorem dX0_layLeastSquares_44 : decode cX0_layLeastSquares 44 = .ok (.iload_n 3, 1) := by decide +kernel
theorem dX0_layLeastSquares_45 : decode cX0_layLeastSquares 45 = .ok (.invokevirtual 100, 3) := by decide +kernel
theorem dX0_layLeastSquares_48 : decode cX0_layLeastSquares 48 = .ok (.i2l, 1) := by decide +kernel
theorem dX0_layLeastSquares_49 : decode cX0_layLeastSquares 49 = .ok (.invokevirtual 93, 3) := by decide +kernel
theorem dX0_layLeastSquares_52 : decode cX0_layLeastSquares 52 = .ok (.iload_n 1, 1) := by decide +kernel
theorem dX0_layLeastSquares_53 : decode cX0_layLeastSquares 53 = .ok (.iload_n 3, 1) := by decide +kernel
theorem dX0_layLeastSquares_54 : decode cX0_layLeastSquares 54 = .ok (.iconst (-1), 1) := by decide +kernel
theorem dX0_layLeastSquares_55 : decode cX0_layLeastSquares 55 = .ok (.ixor, 1) := by decide +kernel
theorem dX0_layLeastSquares_56 : decode cX0_layLeastSquares 56 = .ok (.iand, 1) := by decide +kernel
theorem dX0_layLeastSquares_57 : decode cX0_layLeastSquares 57 = .ok (.istore_n 1, 1) := by decide +kernel
theorem dX0_layLeastSquares_58 : decode cX0_layLeastSquares 58 = .ok (.iinc 2 1, 3) := by decide +kernel
theorem dX0_layLeastSquares_61 : decode cX0_layLeastSquares 61 = .ok (.goto (-51), 3) := by decide +kernel
theorem dX0_layLeastSquares_64 : decode cX0_layLeastSquares 64 = .ok (.return_, 1) := by decide +kernel
theorem dX0_layHalfways_0 : decode cX0_layHalfways 0 = .ok (.iconst 0, 1) := by decide +kernel
theorem dX0_layHalfways_1 : decode cX0_layHalfways 1 = .ok (.istore_n 1, 1) := by decide +kernel
theorem dX0_layHalfways_2 : decode cX0_layHalfways 2 = .ok (.iload_n 1, 1) := by decide +kernel
theorem dX0_layHalfways_3 : decode cX0_layHalfways 3 = .ok (.aload_n 0, 1) := by decide +kernel
theorem dX0_layHalfways_4 : decode cX0_layHalfways 4 = .ok (.getfield 12, 3) := by decide +kernel
theorem dX0_layHalfways_7 : decode cX0_layHalfways 7 = .ok (.invokevirtual 64, 3) := by decide +kernel
theorem dX0_layHalfways_10 : decode cX0_layHalfways 10 = .ok (.if_icmp .ge 118, 3) := by decide +kernel
theorem dX0_layHalfways_13 : decode cX0_layHalfways 13 = .ok (.aload_n 0, 1) := by decide +kernel
theorem dX0_layHalfways_14 : decode cX0_layHalfways 14 = .ok (.getfield 12, 3) := by decide +kernel
theorem dX0_layHalfways_17 : decode cX0_layHalfways 17 = .ok (.iload_n 1, 1) := by decide +kernel
theorem dX0_layHalfways_18 : decode cX0_layHalfways 18 = .ok (.invokevirtual 68, 3) := by decide +kernel
theorem dX0_layHalfways_21 : decode cX0_layHalfways 21 = .ok (.istore_n 2, 1) := by decide +kernel
theorem dX0_layHalfways_22 : decode cX0_layHalfways 22 = .ok (.iload_n 2, 1) := by decide +kernel
theorem dX0_layHalfways_23 : decode cX0_layHalfways 23 = .ok (.istore_n 3, 1) := by decide +kernel
theorem dX0_layHalfways_24 : decode cX0_layHalfways 24 = .ok (.iconst 0, 1) := by decide +kernel
theorem dX0_layHalfways_25 : decode cX0_layHalfways 25 = .ok (.istore 4, 2) := by decide +kernel
theorem dX0_layHalfways_27 : decode cX0_layHalfways 27 = .ok (.iload 4, 2) := by decide +kernel
theorem dX0_layHalfways_29 : decode cX0_layHalfways 29 = .ok (.aload_n 0, 1) := by decide +kernel
theorem dX0_layHalfways_30 : decode cX0_layHalfways 30 = .ok (.getfield 12, 3) := by decide +kernel
theorem dX0_layHalfways_33 : decode cX0_layHalfways 33 = .ok (.invokevirtual 64, 3) := by decide +kernel
theorem dX0_layHalfways_36 : decode cX0_layHalfways 36 = .ok (.if_icmp .ge 69, 3) := by decide +kernel
theorem dX0_layHalfways_39 : decode cX0_layHalfways 39 = .ok (.aload_n 0, 1) := by decide +kernel
theorem dX0_layHalfways_40 : decode cX0_layHalfways 40 = .ok (.getfield 21, 3) := by decide +kernel
theorem dX0_layHalfways_43 : decode cX0_layHalfways 43 = .ok (.iload_n 1, 1) := by decide +kernel
theorem dX0_layHalfways_44 : decode cX0_layHalfways 44 = .ok (.invokevirtual 72, 3) := by decide +kernel
theorem dX0_layHalfways_47 : decode cX0_layHalfways 47 = .ok (.iload 4, 2) := by decide +kernel
theorem dX0_layHalfways_49 : decode cX0_layHalfways 49 = .ok (.invokestatic 75, 3) := by decide +kernel
theorem dX0_layHalfways_69 : decode cX0_layHalfways 69 = .ok (.aload_n 0, 1) := by decide +kernel
theorem dX0_layHalfways_70 : decode cX0_layHalfways 70 = .ok (.getfield 21, 3) := by decide +kernel
theorem dX0_layHalfways_73 : decode cX0_layHalfways 73 = .ok (.iload_n 1, 1) := by decide +kernel
theorem dX0_layHalfways_74 : decode cX0_layHalfways 74 = .ok (.invokevirtual 85, 3) := by decide +kernel
theorem dX0_layHalfways_77 : decode cX0_layHalfways 77 = .ok (.iload 4, 2) := by decide +kernel
theorem dX0_layHalfways_79 : decode cX0_layHalfways 79 = .ok (.invokestatic 75, 3) := by decide +kernel
theorem dX0_layHalfways_82 : decode cX0_layHalfways 82 = .ok (.ifCond .eq 17, 3) := by decide +kernel
theorem dX0_layHalfways_99 : decode cX0_layHalfways 99 = .ok (.iinc 4 1, 3) := by decide +kernel
theorem dX0_layHalfways_102 : decode cX0_layHalfways 102 = .ok (.goto (-75), 3) := by decide +kernel
theorem dX0_layHalfways_85 : decode cX0_layHalfways 85 = .ok (.iload_n 3, 1) := by decide +kernel
theorem dX0_layHalfways_86 : decode cX0_layHalfways 86 = .ok (.aload_n 0, 1) := by decide +kernel
theorem dX0_layHalfways_87 : decode cX0_layHalfways 87 = .ok (.getfield 12, 3) := by decide +kernel
theorem dX0_layHalfways_90 : decode cX0_layHalfways 90 = .ok (.iload 4, 2) := by decide +kernel
theorem dX0_layHalfways_92 : decode cX0_layHalfways 92 = .ok (.invokevirtual 68, 3) := by decide +kernel
theorem dX0_layHalfways_95 : decode cX0_layHalfways 95 = .ok (.invokestatic 88, 3) := by decide +kernel
theorem dX0_layHalfways_98 : decode cX0_layHalfways 98 = .ok (.istore_n 3, 1) := by decide +kernel
theorem dX0_layHalfways_52 : decode cX0_layHalfways 52 = .ok (.ifCond .eq 17, 3) := by decide +kernel
theorem dX0_layHalfways_55 : decode cX0_layHalfways 55 = .ok (.iload_n 2, 1) := by decide +kernel
theorem dX0_layHalfways_56 : decode cX0_layHalfways 56 = .ok (.aload_n 0, 1) := by decide +kernel
theorem dX0_layHalfways_57 : decode cX0_layHalfways 57 = .ok (.getfield 12, 3) := by decide +kernel
theorem dX0_layHalfways_60 : decode cX0_layHalfways 60 = .ok (.iload 4, 2) := by decide +kernel
theorem dX0_layHalfways_62 : decode cX0_layHalfways 62 = .ok (.invokevirtual 68, 3) := by decide +kernel
theorem dX0_layHalfways_65 : decode cX0_layHalfways 65 = .ok (.invokestatic 79, 3) := by decide +kernel
theorem dX0_layHalfways_68 : decode cX0_layHalfways 68 = .ok (.istore_n 2, 1) := by decide +kernel
theorem dX0_layHalfways_105 : decode cX0_layHalfways 105 = .ok (.aload_n 0, 1) := by decide +kernel
theorem dX0_layHalfways_106 : decode cX0_layHalfways 106 = .ok (.getfield 12, 3) := by decide +kernel
theorem dX0_layHalfways_109 : decode cX0_layHalfways 109 = .ok (.iconst 1, 1) := by decide +kernel
theorem dX0_layHalfways_110 : decode cX0_layHalfways 110 = .ok (.iload_n 1, 1) := by decide +kernel
theorem dX0_layHalfways_111 : decode cX0_layHalfways 111 = .ok (.ishl, 1) := by decide +kernel
theorem dX0_layHalfways_112 : decode cX0_layHalfways 112 = .ok (.iload_n 2, 1) := by decide +kernel
theorem dX0_layHalfways_113 : decode cX0_layHalfways 113 = .ok (.iload_n 3, 1) := by decide +kernel
theorem dX0_layHalfways_114 : decode cX0_layHalfways 114 = .ok (.iadd, 1) := by decide +kernel
theorem dX0_layHalfways_115 : decode cX0_layHalfways 115 = .ok (.i2l, 1) := by decide +kernel
theorem dX0_layHalfways_116 : decode cX0_layHalfways 116 = .ok (.ldc2_w 91, 3) := by decide +kernel
theorem dX0_layHalfways_119 : decode cX0_layHalfways 119 = .ok (.invokevirtual 93, 3) := by decide +kernel
theorem dX0_layHalfways_122 : decode cX0_layHalfways 122 = .ok (.iinc 1 1, 3) := by decide +kernel
theorem dX0_layHalfways_125 : decode cX0_layHalfways 125 = .ok (.goto (-123), 3) := by decide +kernel
theorem dX0_layHalfways_128 : decode cX0_layHalfways 128 = .ok (.return_, 1) := by decide +kernel
theorem dX0_work_0 : decode cX0_work 0 = .ok (.aload_n 0, 1) := by decide +kernel
theorem dX0_work_1 : decode cX0_work 1 = .ok (.getfield 12, 3) := by decide +kernel
theorem dX0_work_4 : decode cX0_work 4 = .ok (.aload_n 1, 1) := by decide +kernel
theorem dX0_work_5 : decode cX0_work 5 = .ok (.invokevirtual 40, 3) := by decide +kernel
theorem dX0_work_8 : decode cX0_work 8 = .ok (.aload_n 0, 1) := by decide +kernel
theorem dX0_work_9 : decode cX0_work 9 = .ok (.getfield 12, 3) := by decide +kernel
theorem dX0_work_12 : decode cX0_work 12 = .ok (.aload_n 1, 1) := by decide +kernel
theorem dX0_work_13 : decode cX0_work 13 = .ok (.iload_n 3, 1) := by decide +kernel
theorem dX0_work_14 : decode cX0_work 14 = .ok (.invokevirtual 44, 3) := by decide +kernel
theorem dX0_work_17 : decode cX0_work 17 = .ok (.ifCond .ne 8, 3) := by decide +kernel
theorem dX0_work_25 : decode cX0_work 25 = .ok (.aload_n 0, 1) := by decide +kernel
theorem dX0_work_26 : decode cX0_work 26 = .ok (.getfield 21, 3) := by decide +kernel
theorem dX0_work_29 : decode cX0_work 29 = .ok (.aload_n 1, 1) := by decide +kernel
theorem dX0_work_30 : decode cX0_work 30 = .ok (.iload_n 3, 1) := by decide +kernel
theorem dX0_work_31 : decode cX0_work 31 = .ok (.invokevirtual 48, 3) := by decide +kernel
theorem dX0_work_34 : decode cX0_work 34 = .ok (.iload_n 2, 1) := by decide +kernel
theorem dX0_work_35 : decode cX0_work 35 = .ok (.iconst 2, 1) := by decide +kernel
theorem dX0_work_36 : decode cX0_work 36 = .ok (.if_icmp .ne 12, 3) := by decide +kernel
theorem dX0_work_48 : decode cX0_work 48 = .ok (.aload_n 0, 1) := by decide +kernel
theorem dX0_work_49 : decode cX0_work 49 = .ok (.invokevirtual 55, 3) := by decide +kernel
theorem dX0_work_52 : decode cX0_work 52 = .ok (.iload_n 2, 1) := by decide +kernel
theorem dX0_work_53 : decode cX0_work 53 = .ok (.ifCond .ne 10, 3) := by decide +kernel
theorem dX0_work_63 : decode cX0_work 63 = .ok (.aload_n 0, 1) := by decide +kernel
theorem dX0_work_64 : decode cX0_work 64 = .ok (.invokevirtual 61, 3) := by decide +kernel
theorem dX0_work_67 : decode cX0_work 67 = .ok (.aload_n 0, 1) := by decide +kernel
theorem dX0_work_68 : decode cX0_work 68 = .ok (.getfield 12, 3) := by decide +kernel
theorem dX0_work_71 : decode cX0_work 71 = .ok (.areturn, 1) := by decide +kernel
theorem dX0_work_56 : decode cX0_work 56 = .ok (.aload_n 0, 1) := by decide +kernel
theorem dX0_work_57 : decode cX0_work 57 = .ok (.invokevirtual 58, 3) := by decide +kernel
theorem dX0_work_60 : decode cX0_work 60 = .ok (.goto 7, 3) := by decide +kernel
theorem dX0_work_39 : decode cX0_work 39 = .ok (.aload_n 0, 1) := by decide +kernel
theorem dX0_work_40 : decode cX0_work 40 = .ok (.invokevirtual 52, 3) := by decide +kernel
theorem dX0_work_43 : decode cX0_work 43 = .ok (.aload_n 0, 1) := by decide +kernel
theorem dX0_work_44 : decode cX0_work 44 = .ok (.getfield 12, 3) := by decide +kernel
theorem dX0_work_47 : decode cX0_work 47 = .ok (.areturn, 1) := by decide +kernel
theorem dX0_work_20 : decode cX0_work 20 = .ok (.aload_n 0, 1) := by decide +kernel
theorem dX0_work_21 : decode cX0_work 21 = .ok (.getfield 12, 3) := by decide +kernel
theorem dX0_work_24 : decode cX0_work 24 = .ok (.areturn, 1) := by decide +kernel
theorem dX4_standBehind_0 : decode cX4_standBehind 0 = .ok (.aload_n 0, 1) := by decide +kernel
theorem dX4_standBehind_1 : decode cX4_standBehind 1 = .ok (.getfield 23, 3) := by decide +kernel
theorem dX4_standBehind_4 : decode cX4_standBehind 4 = .ok (.aload_n 0, 1) := by decide +kernel
theorem dX4_standBehind_5 : decode cX4_standBehind 5 = .ok (.getfield 37, 3) := by decide +kernel
theorem dX4_standBehind_8 : decode cX4_standBehind 8 = .ok (.iload_n 1, 1) := by decide +kernel
theorem dX4_standBehind_9 : decode cX4_standBehind 9 = .ok (.invokevirtual 109, 3) := by decide +kernel
theorem dX4_standBehind_12 : decode cX4_standBehind 12 = .ok (.aload_n 0, 1) := by decide +kernel
theorem dX4_standBehind_13 : decode cX4_standBehind 13 = .ok (.dup, 1) := by decide +kernel
theorem dX4_standBehind_14 : decode cX4_standBehind 14 = .ok (.getfield 37, 3) := by decide +kernel
theorem dX4_standBehind_17 : decode cX4_standBehind 17 = .ok (.iconst 1, 1) := by decide +kernel
theorem dX4_standBehind_18 : decode cX4_standBehind 18 = .ok (.iadd, 1) := by decide +kernel
theorem dX4_standBehind_19 : decode cX4_standBehind 19 = .ok (.putfield 37, 3) := by decide +kernel
theorem dX4_standBehind_22 : decode cX4_standBehind 22 = .ok (.return_, 1) := by decide +kernel
theorem dX4_standByPlaces_0 : decode cX4_standByPlaces 0 = .ok (.iconst 0, 1) := by decide +kernel
theorem dX4_standByPlaces_1 : decode cX4_standByPlaces 1 = .ok (.istore_n 1, 1) := by decide +kernel
theorem dX4_standByPlaces_2 : decode cX4_standByPlaces 2 = .ok (.iload_n 1, 1) := by decide +kernel
theorem dX4_standByPlaces_3 : decode cX4_standByPlaces 3 = .ok (.bipush 9, 2) := by decide +kernel
theorem dX4_standByPlaces_5 : decode cX4_standByPlaces 5 = .ok (.if_icmp .gt 27, 3) := by decide +kernel
theorem dX4_standByPlaces_8 : decode cX4_standByPlaces 8 = .ok (.aload_n 0, 1) := by decide +kernel
theorem dX4_standByPlaces_9 : decode cX4_standByPlaces 9 = .ok (.getfield 12, 3) := by decide +kernel
theorem dX4_standByPlaces_12 : decode cX4_standByPlaces 12 = .ok (.iload_n 1, 1) := by decide +kernel
theorem dX4_standByPlaces_13 : decode cX4_standByPlaces 13 = .ok (.invokevirtual 106, 3) := by decide +kernel
theorem dX4_standByPlaces_16 : decode cX4_standByPlaces 16 = .ok (.istore_n 2, 1) := by decide +kernel
theorem dX4_standByPlaces_17 : decode cX4_standByPlaces 17 = .ok (.iload_n 2, 1) := by decide +kernel
theorem dX4_standByPlaces_18 : decode cX4_standByPlaces 18 = .ok (.ifCond .eq 8, 3) := by decide +kernel
theorem dX4_standByPlaces_26 : decode cX4_standByPlaces 26 = .ok (.iinc 1 1, 3) := by decide +kernel
theorem dX4_standByPlaces_29 : decode cX4_standByPlaces 29 = .ok (.goto (-27), 3) := by decide +kernel
theorem dX4_standByPlaces_21 : decode cX4_standByPlaces 21 = .ok (.aload_n 0, 1) := by decide +kernel
theorem dX4_standByPlaces_22 : decode cX4_standByPlaces 22 = .ok (.iload_n 2, 1) := by decide +kernel
theorem dX4_standByPlaces_23 : decode cX4_standByPlaces 23 = .ok (.invokevirtual 79, 3) := by decide +kernel
theorem dX4_standByPlaces_32 : decode cX4_standByPlaces 32 = .ok (.return_, 1) := by decide +kernel
theorem dJ6_compare_7cf53_0 : decode cJ6_compare_7cf53 0 = .ok (.iload_n 0, 1) := by decide +kernel
theorem dJ6_compare_7cf53_1 : decode cJ6_compare_7cf53 1 = .ok (.iload_n 1, 1) := by decide +kernel
theorem dJ6_compare_7cf53_2 : decode cJ6_compare_7cf53 2 = .ok (.if_icmp .ge 7, 3) := by decide +kernel
theorem dJ6_compare_7cf53_9 : decode cJ6_compare_7cf53 9 = .ok (.iload_n 0, 1) := by decide +kernel
theorem dJ6_compare_7cf53_10 : decode cJ6_compare_7cf53 10 = .ok (.iload_n 1, 1) := by decide +kernel
theorem dJ6_compare_7cf53_11 : decode cJ6_compare_7cf53 11 = .ok (.if_icmp .ne 7, 3) := by decide +kernel
theorem dJ6_compare_7cf53_18 : decode cJ6_compare_7cf53 18 = .ok (.iconst 1, 1) := by decide +kernel
theorem dJ6_compare_7cf53_19 : decode cJ6_compare_7cf53 19 = .ok (.ireturn, 1) := by decide +kernel
theorem dJ6_compare_7cf53_14 : decode cJ6_compare_7cf53 14 = .ok (.iconst 0, 1) := by decide +kernel
theorem dJ6_compare_7cf53_15 : decode cJ6_compare_7cf53 15 = .ok (.goto 4, 3) := by decide +kernel
theorem dJ6_compare_7cf53_5 : decode cJ6_compare_7cf53 5 = .ok (.iconst (-1), 1) := by decide +kernel
theorem dJ6_compare_7cf53_6 : decode cJ6_compare_7cf53 6 = .ok (.goto 13, 3) := by decide +kernel
theorem dX4_isAhead_0 : decode cX4_isAhead 0 = .ok (.aload_n 0, 1) := by decide +kernel
theorem dX4_isAhead_1 : decode cX4_isAhead 1 = .ok (.getfield 12, 3) := by decide +kernel
theorem dX4_isAhead_4 : decode cX4_isAhead 4 = .ok (.iload_n 1, 1) := by decide +kernel
theorem dX4_isAhead_5 : decode cX4_isAhead 5 = .ok (.invokevirtual 95, 3) := by decide +kernel
theorem dX4_isAhead_8 : decode cX4_isAhead 8 = .ok (.aload_n 0, 1) := by decide +kernel
theorem dX4_isAhead_9 : decode cX4_isAhead 9 = .ok (.getfield 12, 3) := by decide +kernel
theorem dX4_isAhead_12 : decode cX4_isAhead 12 = .ok (.iload_n 2, 1) := by decide +kernel
theorem dX4_isAhead_13 : decode cX4_isAhead 13 = .ok (.invokevirtual 95, 3) := by decide +kernel
theorem dX4_isAhead_16 : decode cX4_isAhead 16 = .ok (.invokestatic 98, 3) := by decide +kernel
theorem dX4_isAhead_19 : decode cX4_isAhead 19 = .ok (.istore_n 3, 1) := by decide +kernel
theorem dX4_isAhead_20 : decode cX4_isAhead 20 = .ok (.iload_n 3, 1) := by decide +kernel
theorem dX4_isAhead_21 : decode cX4_isAhead 21 = .ok (.ifCond .lt 26, 3) := by decide +kernel
theorem dX4_isAhead_47 : decode cX4_isAhead 47 = .ok (.iconst 1, 1) := by decide +kernel
theorem dX4_isAhead_48 : decode cX4_isAhead 48 = .ok (.goto 4, 3) := by decide +kernel
theorem dX4_isAhead_52 : decode cX4_isAhead 52 = .ok (.ireturn, 1) := by decide +kernel
theorem dX4_isAhead_24 : decode cX4_isAhead 24 = .ok (.iload_n 3, 1) := by decide +kernel
theorem dX4_isAhead_25 : decode cX4_isAhead 25 = .ok (.ifCond .ne 26, 3) := by decide +kernel
theorem dX4_isAhead_51 : decode cX4_isAhead 51 = .ok (.iconst 0, 1) := by decide +kernel
theorem dX4_isAhead_28 : decode cX4_isAhead 28 = .ok (.aload_n 0, 1) := by decide +kernel
theorem dX4_isAhead_29 : decode cX4_isAhead 29 = .ok (.getfield 12, 3) := by decide +kernel
theorem dX4_isAhead_32 : decode cX4_isAhead 32 = .ok (.iload_n 1, 1) := by decide +kernel
theorem dX4_isAhead_33 : decode cX4_isAhead 33 = .ok (.invokevirtual 103, 3) := by decide +kernel
theorem dX4_isAhead_36 : decode cX4_isAhead 36 = .ok (.aload_n 0, 1) := by decide +kernel
theorem dX4_isAhead_37 : decode cX4_isAhead 37 = .ok (.getfield 12, 3) := by decide +kernel
theorem dX4_isAhead_40 : decode cX4_isAhead 40 = .ok (.iload_n 2, 1) := by decide +kernel
theorem dX4_isAhead_41 : decode cX4_isAhead 41 = .ok (.invokevirtual 103, 3) := by decide +kernel
theorem dX4_isAhead_44 : decode cX4_isAhead 44 = .ok (.if_icmp .ge 7, 3) := by decide +kernel
set_option maxHeartbeats 4000000 in
set_option maxRecDepth 100000 in
theorem c_X0_layLeastAbsolutes (l : Launch) (g : GG) (a0 : Nat → Nat) (v0_values_marks : (Nat → Int32)) (v0_values_weights : (Nat → Int32)) (v0_values_places : (Nat → Int32)) (v0_values_aboves : (Nat → Int32)) (v0_values_belows : (Nat → Int32)) (v0_values_reduced_above : Int64) (v0_values_reduced_below : Int64) (v0_values_papers : Int32) (v0_order_overs : (Nat → Int32)) (v0_order_unders : (Nat → Int32)) (v0_order_marks : (Nat → Int32)) (v0_order_wrongs : (Nat → Int32)) (v0_order_papers : Int32) (v0_sums : (Nat → Int32)) (v0_weighs : (Nat → Int32)) (v0_downs : (Nat → Int32)) (hne : (m_X0_layLeastAbsolutes ((v0_values_marks, v0_values_weights, v0_values_places, v0_values_aboves, v0_values_belows, (v0_values_reduced_above, v0_values_reduced_below), v0_values_papers), (v0_order_overs, v0_order_unders, v0_order_marks, v0_order_wrongs, v0_order_papers), v0_sums, v0_weighs, v0_downs)) ≠ none) : Ct l g yX0_layLeastAbsolutes cX0_layLeastAbsolutes 6 none ({ frames := 3, cells := 0, slots := 0, locals := 82 } : Room) [.ref (a0 0)] (wX0 a0 g v0_values_marks v0_values_weights v0_values_places v0_values_aboves v0_values_belows v0_values_reduced_above v0_values_reduced_below v0_values_papers v0_order_overs v0_order_unders v0_order_marks v0_order_wrongs v0_order_papers v0_sums v0_weighs v0_downs) (Qv g (m_X0_layLeastAbsolutes ((v0_values_marks, v0_values_weights, v0_values_places, v0_values_aboves, v0_values_belows, (v0_values_reduced_above, v0_values_reduced_below), v0_values_papers), (v0_order_overs, v0_order_unders, v0_order_marks, v0_order_wrongs, v0_order_papers), v0_sums, v0_weighs, v0_downs)) (fun u => wX0 a0 g v0_values_marks v0_values_weights v0_values_places u.1 u.2.1 u.2.2.1 u.2.2.2 v0_values_papers v0_order_overs v0_order_unders v0_order_marks v0_order_wrongs v0_order_papers v0_sums v0_weighs v0_downs)) 0 0 := by
  obtain ⟨out, hf⟩ := ne_ex hne
  have hf0 := hf
  refine Ct.of (own := RX0) (by decide +kernel) rfl (Nat.le_of_ble_eq_true rfl) ?_
  intro p e s m below meth c hx hb hr hml hown hts hlocks hin hK A H locs hA hP hD hS hE ls hl
  have hl : lv_has ls 6 [(0, .ref (a0 0))] := hl
  unfold m_X0_layLeastAbsolutes at hf
  refine lv_aload_n hx hb dX0_layLeastAbsolutes_0 rfl (lv_at hl 0 rfl) ?_
  refine va_get (D := g.1) (ci := 1) (v := .ref (a0 1)) (C := RX0) (T := TX0) (N := 5) hx hb hts layX0 hown hK.1 hP 0 rfl rfl 0 (by decide) (hts _ kw192) (fun _ h9 => h9) rfl dX0_layLeastAbsolutes_1 ?_
  refine cIp hP hD hS hA hE (fun hPc hDc hSc => rV (As := []) (rest := []) hx hb hml hown hts hK (c_X8_allPapers l g (fun i => a0 (i + 1)) v0_values_marks v0_values_weights v0_values_places v0_values_aboves v0_values_belows v0_values_reduced_above v0_values_reduced_below v0_values_papers (bnd_ne hf)) svV_X8_allPapers kw880 rfl rfl hPc hDc hSc rfl rfl hl.1 (Nat.le_of_ble_eq_true rfl) dX0_layLeastAbsolutes_4 ⟨Nat.le_of_ble_eq_true rfl, Nat.le_of_ble_eq_true rfl, rfl, rfl, Nat.le_of_ble_eq_true rfl, Nat.le_of_ble_eq_true rfl⟩) [(1, 12)] rfl rfl rfl (fun x1 H locs ex1 nx1 hP hS => ?_)
  have hf := bnd_of hf ex1
  refine lv_istore_n (lv' := [(1, .int x1), (0, .ref (a0 0))]) hx hb dX0_layLeastAbsolutes_7 rfl hl (by decide) rfl (fun ls hl => ?_)
  refine lv_aload_n hx hb dX0_layLeastAbsolutes_8 rfl (lv_at hl 1 rfl) ?_
  refine lv_iconst (v := (-1)) hx hb dX0_layLeastAbsolutes_9 (by decide) ?_
  refine cIp hP hD hS hA hE (fun hPc hDc hSc => rV (As := [.int (-1 : Int32)]) (rest := []) hx hb hml hown hts hK (c_X0_leastMarkAbove l g a0 v0_values_marks v0_values_weights v0_values_places v0_values_aboves v0_values_belows v0_values_reduced_above v0_values_reduced_below v0_values_papers v0_order_overs v0_order_unders v0_order_marks v0_order_wrongs v0_order_papers v0_sums v0_weighs v0_downs (-1 : Int32) (bnd_ne hf)) svV_X0_leastMarkAbove kw890 rfl rfl hPc hDc hSc rfl rfl hl.1 (Nat.le_of_ble_eq_true rfl) dX0_layLeastAbsolutes_10 ⟨Nat.le_of_ble_eq_true rfl, Nat.le_of_ble_eq_true rfl, rfl, rfl, Nat.le_of_ble_eq_true rfl, Nat.le_of_ble_eq_true rfl⟩) [(0, 28)] rfl rfl rfl (fun x2 H locs ex2 nx2 hP hS => ?_)
  have hf := bnd_of hf ex2
  refine lv_istore_n (lv' := [(2, .int x2), (1, .int x1), (0, .ref (a0 0))]) hx hb dX0_layLeastAbsolutes_13 rfl hl (by decide) rfl (fun ls hl => ?_)
  refine lv_iconst (v := 0) hx hb dX0_layLeastAbsolutes_14 (by decide) ?_
  refine lv_istore_n (lv' := [(3, .int (0 : Int32)), (2, .int x2), (1, .int x1), (0, .ref (a0 0))]) hx hb dX0_layLeastAbsolutes_15 rfl hl (by decide) rfl (fun ls hl => ?_)
  obtain ⟨r24, er24, hf⟩ := bnd hf
  refine lp_W (P := fun z => ∀ (H : Heap) (locs : List Loc) (ls : Array Slot), va_P g.1 vwCl (wX0 a0 g v0_values_marks v0_values_weights v0_values_places z.2.2.2.1 z.2.2.2.2.1 z.2.2.2.2.2.1 z.2.2.2.2.2.2 v0_values_papers v0_order_overs v0_order_unders v0_order_marks v0_order_wrongs v0_order_papers v0_sums v0_weighs v0_downs) H → va_D A (wX0 a0 g v0_values_marks v0_values_weights v0_values_places z.2.2.2.1 z.2.2.2.2.1 z.2.2.2.2.2.1 z.2.2.2.2.2.2 v0_values_papers v0_order_overs v0_order_unders v0_order_marks v0_order_wrongs v0_order_papers v0_sums v0_weighs v0_downs) → va_S A s.heap H locs → lv_has ls 6 [(0, .ref (a0 0)), (1, .int z.1), (2, .int z.2.1), (3, .int z.2.2.1)] → W p l e { frames := 3, cells := 0, slots := 0, locals := 82 } s m [.ref (a0 0)].toArray below meth c H locs 0 0 (MQ below (Qv g (m_X0_layLeastAbsolutes ((v0_values_marks, v0_values_weights, v0_values_places, v0_values_aboves, v0_values_belows, (v0_values_reduced_above, v0_values_reduced_below), v0_values_papers), (v0_order_overs, v0_order_unders, v0_order_marks, v0_order_wrongs, v0_order_papers), v0_sums, v0_weighs, v0_downs)) (fun u => wX0 a0 g v0_values_marks v0_values_weights v0_values_places u.1 u.2.1 u.2.2.1 u.2.2.2 v0_values_papers v0_order_overs v0_order_unders v0_order_marks v0_order_wrongs v0_order_papers v0_sums v0_weighs v0_downs) A) [.ref (a0 0)].toArray s 0 0 A) (F0 m 16 ls [])) (E := fun r24 => ∀ (H : Heap) (locs : List Loc) (ls : Array Slot), va_P g.1 vwCl (wX0 a0 g v0_values_marks v0_values_weights v0_values_places r24.1 r24.2.1 r24.2.2.1 r24.2.2.2 v0_values_papers v0_order_overs v0_order_unders v0_order_marks v0_order_wrongs v0_order_papers v0_sums v0_weighs v0_downs) H → va_D A (wX0 a0 g v0_values_marks v0_values_weights v0_values_places r24.1 r24.2.1 r24.2.2.1 r24.2.2.2 v0_values_papers v0_order_overs v0_order_unders v0_order_marks v0_order_wrongs v0_order_papers v0_sums v0_weighs v0_downs) → va_S A s.heap H locs → lv_has ls 6 [] → W p l e { frames := 3, cells := 0, slots := 0, locals := 82 } s m [.ref (a0 0)].toArray below meth c H locs 0 0 (MQ below (Qv g (m_X0_layLeastAbsolutes ((v0_values_marks, v0_values_weights, v0_values_places, v0_values_aboves, v0_values_belows, (v0_values_reduced_above, v0_values_reduced_below), v0_values_papers), (v0_order_overs, v0_order_unders, v0_order_marks, v0_order_wrongs, v0_order_papers), v0_sums, v0_weighs, v0_downs)) (fun u => wX0 a0 g v0_values_marks v0_values_weights v0_values_places u.1 u.2.1 u.2.2.1 u.2.2.2 v0_values_papers v0_order_overs v0_order_unders v0_order_marks v0_order_wrongs v0_order_papers v0_sums v0_weighs v0_downs) A) [.ref (a0 0)].toArray s 0 0 A) (F0 m 86 ls [])) ?_ fu _ r24 er24 ?_ _ _ _ hP hD hS (lv_sub hl [3, 2, 1, 0] rfl)
  · rintro ⟨x10, x11, x12, x13, x14, x15, x16⟩ y hf hB hXt H locs ls hP hD hS hl
    have hP : va_P g.1 vwCl (wX0 a0 g v0_values_marks v0_values_weights v0_values_places x13 x14 x15 x16 v0_values_papers v0_order_overs v0_order_unders v0_order_marks v0_order_wrongs v0_order_papers v0_sums v0_weighs v0_downs) H := hP
    have hD : va_D A (wX0 a0 g v0_values_marks v0_values_weights v0_values_places x13 x14 x15 x16 v0_values_papers v0_order_overs v0_order_unders v0_order_marks v0_order_wrongs v0_order_papers v0_sums v0_weighs v0_downs) := hD
    have hl : lv_has ls 6 [(0, .ref (a0 0)), (1, .int x10), (2, .int x11), (3, .int x12)] := hl
    have hf : m_X0_layLeastAbsolutes_l16 ((v0_values_marks, v0_values_weights, v0_values_places, v0_values_aboves, v0_values_belows, (v0_values_reduced_above, v0_values_reduced_below), v0_values_papers), (v0_order_overs, v0_order_unders, v0_order_marks, v0_order_wrongs, v0_order_papers), v0_sums, v0_weighs, v0_downs) x10 x11 x12 x13 x14 x15 x16 = some y := hf
    unfold m_X0_layLeastAbsolutes_l16 at hf
    refine lv_iload_n hx hb dX0_layLeastAbsolutes_16 rfl (lv_at hl 3 rfl) ?_
    refine lv_bipush (v := 7) hx hb dX0_layLeastAbsolutes_17 (by decide) ?_
    refine lv_icmp_ge (tgt := 86) hx hb dX0_layLeastAbsolutes_19 (by decide) (fun cb => ?_) (fun cb => ?_)
    · have hf := it_t cb hf
      exact hXt _ (Option.some.inj hf).symm _ _ _ hP hD hS (lv_sub hl [] rfl)
    have hf := it_f cb hf
    refine lv_iload_n hx hb dX0_layLeastAbsolutes_22 rfl (lv_at hl 1 rfl) ?_
    refine lv_if_eq (tgt := 86) hx hb dX0_layLeastAbsolutes_23 (by decide) (fun cb => ?_) (fun cb => ?_)
    · have hf := it_t cb hf
      exact hXt _ (Option.some.inj hf).symm _ _ _ hP hD hS (lv_sub hl [] rfl)
    have hf := it_f cb hf
    refine lv_aload_n hx hb dX0_layLeastAbsolutes_26 rfl (lv_at hl 0 rfl) ?_
    refine lv_iload_n hx hb dX0_layLeastAbsolutes_27 rfl (lv_at hl 2 rfl) ?_
    refine cIp hP hD hS hA hE (fun hPc hDc hSc => rV (As := [.int x11]) (rest := []) hx hb hml hown hts hK (c_X0_leastMarkAbove l g a0 v0_values_marks v0_values_weights v0_values_places x13 x14 x15 x16 v0_values_papers v0_order_overs v0_order_unders v0_order_marks v0_order_wrongs v0_order_papers v0_sums v0_weighs v0_downs x11 (bnd_ne hf)) svV_X0_leastMarkAbove kw890 rfl rfl hPc hDc hSc rfl rfl hl.1 (Nat.le_of_ble_eq_true rfl) dX0_layLeastAbsolutes_28 ⟨Nat.le_of_ble_eq_true rfl, Nat.le_of_ble_eq_true rfl, rfl, rfl, Nat.le_of_ble_eq_true rfl, Nat.le_of_ble_eq_true rfl⟩) [(0, 28)] rfl rfl rfl (fun x17 H locs ex17 nx17 hP hS => ?_)
    have hf := bnd_of hf ex17
    refine lv_istore (lv' := [(4, .int x17), (0, .ref (a0 0)), (1, .int x10), (2, .int x11), (3, .int x12)]) hx hb dX0_layLeastAbsolutes_31 hl (by decide) rfl (fun ls hl => ?_)
    refine lv_iload hx hb dX0_layLeastAbsolutes_33 (lv_at hl 0 rfl) ?_
    refine lv_iload_n hx hb dX0_layLeastAbsolutes_35 rfl (lv_at hl 3 rfl) ?_
    obtain ⟨r20, er20, hf⟩ := bnd hf
    have K : ∀ (H : Heap) (locs : List Loc) (ls : Array Slot), va_P g.1 vwCl (wX0 a0 g v0_values_marks v0_values_weights v0_values_places x13 x14 x15 x16 v0_values_papers v0_order_overs v0_order_unders v0_order_marks v0_order_wrongs v0_order_papers v0_sums v0_weighs v0_downs) H → va_D A (wX0 a0 g v0_values_marks v0_values_weights v0_values_places x13 x14 x15 x16 v0_values_papers v0_order_overs v0_order_unders v0_order_marks v0_order_wrongs v0_order_papers v0_sums v0_weighs v0_downs) → va_S A s.heap H locs → lv_has ls 6 [(0, .ref (a0 0)), (1, .int x10), (2, .int x11), (3, .int x12), (4, .int x17)] → W p l e { frames := 3, cells := 0, slots := 0, locals := 82 } s m [.ref (a0 0)].toArray below meth c H locs 0 0 (MQ below (Qv g (m_X0_layLeastAbsolutes ((v0_values_marks, v0_values_weights, v0_values_places, v0_values_aboves, v0_values_belows, (v0_values_reduced_above, v0_values_reduced_below), v0_values_papers), (v0_order_overs, v0_order_unders, v0_order_marks, v0_order_wrongs, v0_order_papers), v0_sums, v0_weighs, v0_downs)) (fun u => wX0 a0 g v0_values_marks v0_values_weights v0_values_places u.1 u.2.1 u.2.2.1 u.2.2.2 v0_values_papers v0_order_overs v0_order_unders v0_order_marks v0_order_wrongs v0_order_papers v0_sums v0_weighs v0_downs) A) [.ref (a0 0)].toArray s 0 0 A) (F0 m 56 ls [.int r20]) := by
      intro H locs ls hP hD hS hl
      refine lv_istore (lv' := [(5, .int r20), (0, .ref (a0 0)), (1, .int x10), (2, .int x11), (3, .int x12), (4, .int x17)]) hx hb dX0_layLeastAbsolutes_56 hl (by decide) rfl (fun ls hl => ?_)
      refine lv_aload_n hx hb dX0_layLeastAbsolutes_58 rfl (lv_at hl 1 rfl) ?_
      refine va_get (D := g.1) (ci := 1) (v := .ref (a0 1)) (C := RX0) (T := TX0) (N := 5) hx hb hts layX0 hown hK.1 hP 0 rfl rfl 0 (by decide) (hts _ kw192) (fun _ h9 => h9) rfl dX0_layLeastAbsolutes_59 ?_
      refine lv_iload hx hb dX0_layLeastAbsolutes_62 (lv_at hl 0 rfl) ?_
      refine lv_iload_n hx hb dX0_layLeastAbsolutes_64 rfl (lv_at hl 3 rfl) ?_
      refine lv_i2l (v := x11.toInt64) hx hb dX0_layLeastAbsolutes_65 rfl ?_
      refine lv_lconst (v := 1) hx hb dX0_layLeastAbsolutes_66 (by decide) ?_
      refine cV hP hD hS hA hE (fun hPc hDc hSc => rV (As := [.int r20, .long x11.toInt64, .long (1 : Int64)]) (rest := []) hx hb hml hown hts hK (c_X8_lay l g (fun i => a0 (i + 1)) v0_values_marks v0_values_weights v0_values_places x13 x14 x15 x16 v0_values_papers r20 x11.toInt64 (1 : Int64) (bnd_ne hf)) svV_X8_lay kw867 rfl rfl hPc hDc hSc rfl rfl hl.1 (Nat.le_of_ble_eq_true rfl) dX0_layLeastAbsolutes_67 ⟨Nat.le_of_ble_eq_true rfl, Nat.le_of_ble_eq_true rfl, rfl, rfl, Nat.le_of_ble_eq_true rfl, Nat.le_of_ble_eq_true rfl⟩) [(1, 12)] rfl rfl rfl (fun _ => rfl) (fun x21 H locs ex21 hP hD hS => ?_)
      have hf := bnd_of hf ex21
      have hP : va_P g.1 vwCl (wX0 a0 g v0_values_marks v0_values_weights v0_values_places x21.1 x21.2.1 x21.2.2.1 x21.2.2.2 v0_values_papers v0_order_overs v0_order_unders v0_order_marks v0_order_wrongs v0_order_papers v0_sums v0_weighs v0_downs) H := hP
      have hD : va_D A (wX0 a0 g v0_values_marks v0_values_weights v0_values_places x21.1 x21.2.1 x21.2.2.1 x21.2.2.2 v0_values_papers v0_order_overs v0_order_unders v0_order_marks v0_order_wrongs v0_order_papers v0_sums v0_weighs v0_downs) := hD
      refine lv_iload_n hx hb dX0_layLeastAbsolutes_70 rfl (lv_at hl 2 rfl) ?_
      refine lv_iload hx hb dX0_layLeastAbsolutes_71 (lv_at hl 0 rfl) ?_
      refine lv_iconst (v := (-1)) hx hb dX0_layLeastAbsolutes_73 (by decide) ?_
      refine lv_ixor hx hb dX0_layLeastAbsolutes_74 ?_
      refine lv_iand hx hb dX0_layLeastAbsolutes_75 ?_
      refine lv_istore_n (lv' := [(1, .int (x10 &&& (r20 ^^^ (-1 : Int32)))), (5, .int r20), (0, .ref (a0 0)), (2, .int x11), (3, .int x12), (4, .int x17)]) hx hb dX0_layLeastAbsolutes_76 rfl hl (by decide) rfl (fun ls hl => ?_)
      refine lv_iload hx hb dX0_layLeastAbsolutes_77 (lv_at hl 5 rfl) ?_
      refine lv_istore_n (lv' := [(2, .int x17), (1, .int (x10 &&& (r20 ^^^ (-1 : Int32)))), (5, .int r20), (0, .ref (a0 0)), (3, .int x12), (4, .int x17)]) hx hb dX0_layLeastAbsolutes_79 rfl hl (by decide) rfl (fun ls hl => ?_)
      refine lv_iinc (v := (x12 + 1)) (lv' := [(3, .int (x12 + 1)), (2, .int x17), (1, .int (x10 &&& (r20 ^^^ (-1 : Int32)))), (5, .int r20), (0, .ref (a0 0)), (4, .int x17)]) hx hb dX0_layLeastAbsolutes_80 hl (k := 4) rfl (by rfl) (by decide) rfl (fun ls hl => ?_)
      refine lv_goto (tgt := 16) hx hb dX0_layLeastAbsolutes_83 (by decide) ?_
      exact hB _ (Option.some.inj hf).symm _ _ _ hP hD hS (lv_sub hl [4, 2, 1, 0] rfl)
    have hf := er20
    refine lv_icmp_le (tgt := 55) hx hb dX0_layLeastAbsolutes_36 (by decide) (fun cb => ?_) (fun cb => ?_)
    · have hf := it_t cb hf
      refine lv_iload_n hx hb dX0_layLeastAbsolutes_55 rfl (lv_at hl 2 rfl) ?_
      have hq := Option.some.inj hf
      subst hq
      exact K _ _ _ hP hD hS (lv_sub hl [1, 2, 3, 4, 0] rfl)
    have hf := it_f cb hf
    refine lv_aload_n hx hb dX0_layLeastAbsolutes_39 rfl (lv_at hl 1 rfl) ?_
    refine lv_aload_n hx hb dX0_layLeastAbsolutes_40 rfl (lv_at hl 1 rfl) ?_
    refine va_get (D := g.1) (ci := 1) (v := .ref (a0 1)) (C := RX0) (T := TX0) (N := 5) hx hb hts layX0 hown hK.1 hP 0 rfl rfl 0 (by decide) (hts _ kw192) (fun _ h9 => h9) rfl dX0_layLeastAbsolutes_41 ?_
    refine lv_iload_n hx hb dX0_layLeastAbsolutes_44 rfl (lv_at hl 3 rfl) ?_
    refine cIp hP hD hS hA hE (fun hPc hDc hSc => rV (As := [.int x11]) (rest := [.ref (a0 0)]) hx hb hml hown hts hK (c_X8_papersUpTo l g (fun i => a0 (i + 1)) v0_values_marks v0_values_weights v0_values_places x13 x14 x15 x16 v0_values_papers x11 (bnd_ne hf)) svV_X8_papersUpTo kw893 rfl rfl hPc hDc hSc rfl rfl hl.1 (Nat.le_of_ble_eq_true rfl) dX0_layLeastAbsolutes_45 ⟨Nat.le_of_ble_eq_true rfl, Nat.le_of_ble_eq_true rfl, rfl, rfl, Nat.le_of_ble_eq_true rfl, Nat.le_of_ble_eq_true rfl⟩) [(1, 12)] rfl rfl rfl (fun x22 H locs ex22 nx22 hP hS => ?_)
    have hf := bnd_of hf ex22
    refine lv_iload_n hx hb dX0_layLeastAbsolutes_48 rfl (lv_at hl 2 rfl) ?_
    refine cIp hP hD hS hA hE (fun hPc hDc hSc => rV (As := [.int x22, .int x10]) (rest := []) hx hb hml hown hts hK (c_X0_cheapest l g a0 v0_values_marks v0_values_weights v0_values_places x13 x14 x15 x16 v0_values_papers v0_order_overs v0_order_unders v0_order_marks v0_order_wrongs v0_order_papers v0_sums v0_weighs v0_downs x22 x10 (bnd_ne hf)) svV_X0_cheapest kw894 rfl rfl hPc hDc hSc rfl rfl hl.1 (Nat.le_of_ble_eq_true rfl) dX0_layLeastAbsolutes_49 ⟨Nat.le_of_ble_eq_true rfl, Nat.le_of_ble_eq_true rfl, rfl, rfl, Nat.le_of_ble_eq_true rfl, Nat.le_of_ble_eq_true rfl⟩) [(0, 28)] rfl rfl rfl (fun x23 H locs ex23 nx23 hP hS => ?_)
    have hf := bnd_of hf ex23
    refine lv_goto (tgt := 56) hx hb dX0_layLeastAbsolutes_52 (by decide) ?_
    have hq := Option.some.inj hf
    subst hq
    exact K _ _ _ hP hD hS (lv_sub hl [1, 2, 3, 4, 0] rfl)
  intro H locs ls hP hD hS hl
  have hP : va_P g.1 vwCl (wX0 a0 g v0_values_marks v0_values_weights v0_values_places r24.1 r24.2.1 r24.2.2.1 r24.2.2.2 v0_values_papers v0_order_overs v0_order_unders v0_order_marks v0_order_wrongs v0_order_papers v0_sums v0_weighs v0_downs) H := hP
  have hD : va_D A (wX0 a0 g v0_values_marks v0_values_weights v0_values_places r24.1 r24.2.1 r24.2.2.1 r24.2.2.2 v0_values_papers v0_order_overs v0_order_unders v0_order_marks v0_order_wrongs v0_order_papers v0_sums v0_weighs v0_downs) := hD
  have hl : lv_has ls 6 [] := hl
  exact retV (u := (r24.1, r24.2.1, r24.2.2.1, r24.2.2.2)) (W1 := fun u => wX0 a0 g v0_values_marks v0_values_weights v0_values_places u.1 u.2.1 u.2.2.1 u.2.2.2 v0_values_papers v0_order_overs v0_order_unders v0_order_marks v0_order_wrongs v0_order_papers v0_sums v0_weighs v0_downs) hx hb hr hlocks hS hP hD (hf0.trans hf.symm) dX0_layLeastAbsolutes_86
set_option maxHeartbeats 4000000 in
set_option maxRecDepth 100000 in
theorem c_X0_leastByMean (l : Launch) (g : GG) (a0 : Nat → Nat) (v0_values_marks : (Nat → Int32)) (v0_values_weights : (Nat → Int32)) (v0_values_places : (Nat → Int32)) (v0_values_aboves : (Nat → Int32)) (v0_values_belows : (Nat → Int32)) (v0_values_reduced_above : Int64) (v0_values_reduced_below : Int64) (v0_values_papers : Int32) (v0_order_overs : (Nat → Int32)) (v0_order_unders : (Nat → Int32)) (v0_order_marks : (Nat → Int32)) (v0_order_wrongs : (Nat → Int32)) (v0_order_papers : Int32) (v0_sums : (Nat → Int32)) (v0_weighs : (Nat → Int32)) (v0_downs : (Nat → Int32)) (p1 : Int32) (hne : (m_X0_leastByMean ((v0_values_marks, v0_values_weights, v0_values_places, v0_values_aboves, v0_values_belows, (v0_values_reduced_above, v0_values_reduced_below), v0_values_papers), (v0_order_overs, v0_order_unders, v0_order_marks, v0_order_wrongs, v0_order_papers), v0_sums, v0_weighs, v0_downs) p1) ≠ none) : Ct l g yX0_leastByMean cX0_leastByMean 4 (some .int) ({ frames := 2, cells := 0, slots := 0, locals := 43 } : Room) [.ref (a0 0), .int p1] (wX0 a0 g v0_values_marks v0_values_weights v0_values_places v0_values_aboves v0_values_belows v0_values_reduced_above v0_values_reduced_below v0_values_papers v0_order_overs v0_order_unders v0_order_marks v0_order_wrongs v0_order_papers v0_sums v0_weighs v0_downs) (Qi g .int (m_X0_leastByMean ((v0_values_marks, v0_values_weights, v0_values_places, v0_values_aboves, v0_values_belows, (v0_values_reduced_above, v0_values_reduced_below), v0_values_papers), (v0_order_overs, v0_order_unders, v0_order_marks, v0_order_wrongs, v0_order_papers), v0_sums, v0_weighs, v0_downs) p1) (fun u => u) (fun u => wX0 a0 g v0_values_marks v0_values_weights v0_values_places v0_values_aboves v0_values_belows v0_values_reduced_above v0_values_reduced_below v0_values_papers v0_order_overs v0_order_unders v0_order_marks v0_order_wrongs v0_order_papers v0_sums v0_weighs v0_downs)) 0 0 := by
  obtain ⟨out, hf⟩ := ne_ex hne
  have hf0 := hf
  refine Ct.of (own := RX0) (by decide +kernel) rfl (Nat.le_of_ble_eq_true rfl) ?_
  intro p e s m below meth c hx hb hr hml hown hts hlocks hin hK A H locs hA hP hD hS hE ls hl
  have hl : lv_has ls 4 [(0, .ref (a0 0)), (1, .int p1)] := hl
  unfold m_X0_leastByMean at hf
  refine lv_iload_n hx hb dX0_leastByMean_0 rfl (lv_at hl 1 rfl) ?_
  refine lv_istore_n (lv' := [(2, .int p1), (0, .ref (a0 0)), (1, .int p1)]) hx hb dX0_leastByMean_1 rfl hl (by decide) rfl (fun ls hl => ?_)
  refine lv_iload_n hx hb dX0_leastByMean_2 rfl (lv_at hl 2 rfl) ?_
  refine lv_istore_n (lv' := [(3, .int p1), (2, .int p1), (0, .ref (a0 0)), (1, .int p1)]) hx hb dX0_leastByMean_3 rfl hl (by decide) rfl (fun ls hl => ?_)
  obtain ⟨r13, er13, hf⟩ := bnd hf
  refine lp_W (P := fun z => ∀ (H : Heap) (locs : List Loc) (ls : Array Slot), va_P g.1 vwCl (wX0 a0 g v0_values_marks v0_values_weights v0_values_places v0_values_aboves v0_values_belows v0_values_reduced_above v0_values_reduced_below v0_values_papers v0_order_overs v0_order_unders v0_order_marks v0_order_wrongs v0_order_papers v0_sums v0_weighs v0_downs) H → va_D A (wX0 a0 g v0_values_marks v0_values_weights v0_values_places v0_values_aboves v0_values_belows v0_values_reduced_above v0_values_reduced_below v0_values_papers v0_order_overs v0_order_unders v0_order_marks v0_order_wrongs v0_order_papers v0_sums v0_weighs v0_downs) → va_S A s.heap H locs → lv_has ls 4 [(0, .ref (a0 0)), (1, .int p1), (2, .int z.1), (3, .int z.2)] → W p l e { frames := 2, cells := 0, slots := 0, locals := 43 } s m [.ref (a0 0), .int p1].toArray below meth c H locs 0 0 (MQ below (Qi g .int (m_X0_leastByMean ((v0_values_marks, v0_values_weights, v0_values_places, v0_values_aboves, v0_values_belows, (v0_values_reduced_above, v0_values_reduced_below), v0_values_papers), (v0_order_overs, v0_order_unders, v0_order_marks, v0_order_wrongs, v0_order_papers), v0_sums, v0_weighs, v0_downs) p1) (fun u => u) (fun u => wX0 a0 g v0_values_marks v0_values_weights v0_values_places v0_values_aboves v0_values_belows v0_values_reduced_above v0_values_reduced_below v0_values_papers v0_order_overs v0_order_unders v0_order_marks v0_order_wrongs v0_order_papers v0_sums v0_weighs v0_downs) A) [.ref (a0 0), .int p1].toArray s 0 0 A) (F0 m 4 ls [])) (E := fun r13 => ∀ (H : Heap) (locs : List Loc) (ls : Array Slot), va_P g.1 vwCl (wX0 a0 g v0_values_marks v0_values_weights v0_values_places v0_values_aboves v0_values_belows v0_values_reduced_above v0_values_reduced_below v0_values_papers v0_order_overs v0_order_unders v0_order_marks v0_order_wrongs v0_order_papers v0_sums v0_weighs v0_downs) H → va_D A (wX0 a0 g v0_values_marks v0_values_weights v0_values_places v0_values_aboves v0_values_belows v0_values_reduced_above v0_values_reduced_below v0_values_papers v0_order_overs v0_order_unders v0_order_marks v0_order_wrongs v0_order_papers v0_sums v0_weighs v0_downs) → va_S A s.heap H locs → lv_has ls 4 [(2, .int r13)] → W p l e { frames := 2, cells := 0, slots := 0, locals := 43 } s m [.ref (a0 0), .int p1].toArray below meth c H locs 0 0 (MQ below (Qi g .int (m_X0_leastByMean ((v0_values_marks, v0_values_weights, v0_values_places, v0_values_aboves, v0_values_belows, (v0_values_reduced_above, v0_values_reduced_below), v0_values_papers), (v0_order_overs, v0_order_unders, v0_order_marks, v0_order_wrongs, v0_order_papers), v0_sums, v0_weighs, v0_downs) p1) (fun u => u) (fun u => wX0 a0 g v0_values_marks v0_values_weights v0_values_places v0_values_aboves v0_values_belows v0_values_reduced_above v0_values_reduced_below v0_values_papers v0_order_overs v0_order_unders v0_order_marks v0_order_wrongs v0_order_papers v0_sums v0_weighs v0_downs) A) [.ref (a0 0), .int p1].toArray s 0 0 A) (F0 m 65 ls [])) ?_ fu _ r13 er13 ?_ _ _ _ hP hD hS (lv_sub hl [2, 3, 1, 0] rfl)
  · rintro ⟨x6, x7⟩ y hf hB hXt H locs ls hP hD hS hl
    have hP : va_P g.1 vwCl (wX0 a0 g v0_values_marks v0_values_weights v0_values_places v0_values_aboves v0_values_belows v0_values_reduced_above v0_values_reduced_below v0_values_papers v0_order_overs v0_order_unders v0_order_marks v0_order_wrongs v0_order_papers v0_sums v0_weighs v0_downs) H := hP
    have hD : va_D A (wX0 a0 g v0_values_marks v0_values_weights v0_values_places v0_values_aboves v0_values_belows v0_values_reduced_above v0_values_reduced_below v0_values_papers v0_order_overs v0_order_unders v0_order_marks v0_order_wrongs v0_order_papers v0_sums v0_weighs v0_downs) := hD
    have hl : lv_has ls 4 [(0, .ref (a0 0)), (1, .int p1), (2, .int x6), (3, .int x7)] := hl
    have hf : m_X0_leastByMean_l4 ((v0_values_marks, v0_values_weights, v0_values_places, v0_values_aboves, v0_values_belows, (v0_values_reduced_above, v0_values_reduced_below), v0_values_papers), (v0_order_overs, v0_order_unders, v0_order_marks, v0_order_wrongs, v0_order_papers), v0_sums, v0_weighs, v0_downs) p1 x6 x7 = some y := hf
    unfold m_X0_leastByMean_l4 at hf
    refine lv_iload_n hx hb dX0_leastByMean_4 rfl (lv_at hl 3 rfl) ?_
    refine lv_if_le (tgt := 65) hx hb dX0_leastByMean_5 (by decide) (fun cb => ?_) (fun cb => ?_)
    · have hf := it_t cb hf
      exact hXt _ (Option.some.inj hf).symm _ _ _ hP hD hS (lv_sub hl [2] rfl)
    have hf := it_f cb hf
    refine lv_aload_n hx hb dX0_leastByMean_8 rfl (lv_at hl 0 rfl) ?_
    refine lv_iload_n hx hb dX0_leastByMean_9 rfl (lv_at hl 3 rfl) ?_
    refine lv_iload_n hx hb dX0_leastByMean_10 rfl (lv_at hl 1 rfl) ?_
    refine cIp hP hD hS hA hE (fun hPc hDc hSc => rV (As := [.int x7, .int p1]) (rest := []) hx hb hml hown hts hK (c_X0_isLow l g a0 v0_values_marks v0_values_weights v0_values_places v0_values_aboves v0_values_belows v0_values_reduced_above v0_values_reduced_below v0_values_papers v0_order_overs v0_order_unders v0_order_marks v0_order_wrongs v0_order_papers v0_sums v0_weighs v0_downs x7 p1 (bnd_ne hf)) svV_X0_isLow kw884 rfl rfl hPc hDc hSc rfl rfl hl.1 (Nat.le_of_ble_eq_true rfl) dX0_leastByMean_11 ⟨Nat.le_of_ble_eq_true rfl, Nat.le_of_ble_eq_true rfl, rfl, rfl, Nat.le_of_ble_eq_true rfl, Nat.le_of_ble_eq_true rfl⟩) [(0, 28)] rfl rfl rfl (fun x8 H locs ex8 nx8 hP hS => ?_)
    have hf := bnd_of hf ex8
    refine lv_if_eq (tgt := 56) hx hb dX0_leastByMean_14 (by decide) (fun cb => ?_) (fun cb => ?_)
    · have hf := it_t cb hf
      refine lv_iload_n hx hb dX0_leastByMean_56 rfl (lv_at hl 3 rfl) ?_
      refine lv_iconst (v := 1) hx hb dX0_leastByMean_57 (by decide) ?_
      refine lv_isub hx hb dX0_leastByMean_58 ?_
      refine lv_iload_n hx hb dX0_leastByMean_59 rfl (lv_at hl 1 rfl) ?_
      refine lv_iand hx hb dX0_leastByMean_60 ?_
      refine lv_istore_n (lv' := [(3, .int ((x7 - (1 : Int32)) &&& p1)), (0, .ref (a0 0)), (1, .int p1), (2, .int x6)]) hx hb dX0_leastByMean_61 rfl hl (by decide) rfl (fun ls hl => ?_)
      refine lv_goto (tgt := 4) hx hb dX0_leastByMean_62 (by decide) ?_
      exact hB _ (Option.some.inj hf).symm _ _ _ hP hD hS (lv_sub hl [1, 2, 3, 0] rfl)
    have hf := it_f cb hf
    refine lv_aload_n hx hb dX0_leastByMean_17 rfl (lv_at hl 0 rfl) ?_
    refine va_get (D := g.1) (ci := 1) (v := .ref (a0 22)) (C := RX0) (T := TX0) (N := 5) hx hb hts layX0 hown hK.1 hP 0 rfl rfl 2 (by decide) (hts _ kw194) (fun _ h9 => h9) rfl dX0_leastByMean_18 ?_
    refine lv_iload_n hx hb dX0_leastByMean_21 rfl (lv_at hl 3 rfl) ?_
    refine cIp hP hD hS hA hE (fun hPc hDc hSc => rV (As := [.int x7]) (rest := []) hx hb hml hown hts hK (c_X2_get l g (fun i => a0 (i + 22)) 128 v0_sums x7 (bnd_ne hf)) svV_X2_get kw875 rfl rfl hPc hDc hSc rfl rfl hl.1 (Nat.le_of_ble_eq_true rfl) dX0_leastByMean_22 ⟨Nat.le_of_ble_eq_true rfl, Nat.le_of_ble_eq_true rfl, rfl, rfl, Nat.le_of_ble_eq_true rfl, Nat.le_of_ble_eq_true rfl⟩) [(22, 2)] rfl rfl rfl (fun x9 H locs ex9 nx9 hP hS => ?_)
    have hf := bnd_of hf ex9
    refine lv_aload_n hx hb dX0_leastByMean_25 rfl (lv_at hl 0 rfl) ?_
    refine va_get (D := g.1) (ci := 1) (v := .ref (a0 24)) (C := RX0) (T := TX0) (N := 5) hx hb hts layX0 hown hK.1 hP 0 rfl rfl 3 (by decide) (hts _ kw195) (fun _ h9 => h9) rfl dX0_leastByMean_26 ?_
    refine lv_iload_n hx hb dX0_leastByMean_29 rfl (lv_at hl 2 rfl) ?_
    refine cIp hP hD hS hA hE (fun hPc hDc hSc => rV (As := [.int x6]) (rest := [.int x9]) hx hb hml hown hts hK (c_X2_get l g (fun i => a0 (i + 24)) 128 v0_weighs x6 (bnd_ne hf)) svV_X2_get kw875 rfl rfl hPc hDc hSc rfl rfl hl.1 (Nat.le_of_ble_eq_true rfl) dX0_leastByMean_30 ⟨Nat.le_of_ble_eq_true rfl, Nat.le_of_ble_eq_true rfl, rfl, rfl, Nat.le_of_ble_eq_true rfl, Nat.le_of_ble_eq_true rfl⟩) [(24, 2)] rfl rfl rfl (fun x10 H locs ex10 nx10 hP hS => ?_)
    have hf := bnd_of hf ex10
    refine lv_imul hx hb dX0_leastByMean_33 ?_
    refine lv_aload_n hx hb dX0_leastByMean_34 rfl (lv_at hl 0 rfl) ?_
    refine va_get (D := g.1) (ci := 1) (v := .ref (a0 22)) (C := RX0) (T := TX0) (N := 5) hx hb hts layX0 hown hK.1 hP 0 rfl rfl 2 (by decide) (hts _ kw194) (fun _ h9 => h9) rfl dX0_leastByMean_35 ?_
    refine lv_iload_n hx hb dX0_leastByMean_38 rfl (lv_at hl 2 rfl) ?_
    refine cIp hP hD hS hA hE (fun hPc hDc hSc => rV (As := [.int x6]) (rest := [.int (x9 * x10)]) hx hb hml hown hts hK (c_X2_get l g (fun i => a0 (i + 22)) 128 v0_sums x6 (bnd_ne hf)) svV_X2_get kw875 rfl rfl hPc hDc hSc rfl rfl hl.1 (Nat.le_of_ble_eq_true rfl) dX0_leastByMean_39 ⟨Nat.le_of_ble_eq_true rfl, Nat.le_of_ble_eq_true rfl, rfl, rfl, Nat.le_of_ble_eq_true rfl, Nat.le_of_ble_eq_true rfl⟩) [(22, 2)] rfl rfl rfl (fun x11 H locs ex11 nx11 hP hS => ?_)
    have hf := bnd_of hf ex11
    refine lv_aload_n hx hb dX0_leastByMean_42 rfl (lv_at hl 0 rfl) ?_
    refine va_get (D := g.1) (ci := 1) (v := .ref (a0 24)) (C := RX0) (T := TX0) (N := 5) hx hb hts layX0 hown hK.1 hP 0 rfl rfl 3 (by decide) (hts _ kw195) (fun _ h9 => h9) rfl dX0_leastByMean_43 ?_
    refine lv_iload_n hx hb dX0_leastByMean_46 rfl (lv_at hl 3 rfl) ?_
    refine cIp hP hD hS hA hE (fun hPc hDc hSc => rV (As := [.int x7]) (rest := [.int x11, .int (x9 * x10)]) hx hb hml hown hts hK (c_X2_get l g (fun i => a0 (i + 24)) 128 v0_weighs x7 (bnd_ne hf)) svV_X2_get kw875 rfl rfl hPc hDc hSc rfl rfl hl.1 (Nat.le_of_ble_eq_true rfl) dX0_leastByMean_47 ⟨Nat.le_of_ble_eq_true rfl, Nat.le_of_ble_eq_true rfl, rfl, rfl, Nat.le_of_ble_eq_true rfl, Nat.le_of_ble_eq_true rfl⟩) [(24, 2)] rfl rfl rfl (fun x12 H locs ex12 nx12 hP hS => ?_)
    have hf := bnd_of hf ex12
    refine lv_imul hx hb dX0_leastByMean_50 ?_
    refine lv_icmp_ge (tgt := 56) hx hb dX0_leastByMean_51 (by decide) (fun cb => ?_) (fun cb => ?_)
    · have hf := it_t cb hf
      refine lv_iload_n hx hb dX0_leastByMean_56 rfl (lv_at hl 3 rfl) ?_
      refine lv_iconst (v := 1) hx hb dX0_leastByMean_57 (by decide) ?_
      refine lv_isub hx hb dX0_leastByMean_58 ?_
      refine lv_iload_n hx hb dX0_leastByMean_59 rfl (lv_at hl 1 rfl) ?_
      refine lv_iand hx hb dX0_leastByMean_60 ?_
      refine lv_istore_n (lv' := [(3, .int ((x7 - (1 : Int32)) &&& p1)), (0, .ref (a0 0)), (1, .int p1), (2, .int x6)]) hx hb dX0_leastByMean_61 rfl hl (by decide) rfl (fun ls hl => ?_)
      refine lv_goto (tgt := 4) hx hb dX0_leastByMean_62 (by decide) ?_
      exact hB _ (Option.some.inj hf).symm _ _ _ hP hD hS (lv_sub hl [1, 2, 3, 0] rfl)
    have hf := it_f cb hf
    refine lv_iload_n hx hb dX0_leastByMean_54 rfl (lv_at hl 3 rfl) ?_
    refine lv_istore_n (lv' := [(2, .int x7), (0, .ref (a0 0)), (1, .int p1), (3, .int x7)]) hx hb dX0_leastByMean_55 rfl hl (by decide) rfl (fun ls hl => ?_)
    refine lv_iload_n hx hb dX0_leastByMean_56 rfl (lv_at hl 3 rfl) ?_
    refine lv_iconst (v := 1) hx hb dX0_leastByMean_57 (by decide) ?_
    refine lv_isub hx hb dX0_leastByMean_58 ?_
    refine lv_iload_n hx hb dX0_leastByMean_59 rfl (lv_at hl 2 rfl) ?_
    refine lv_iand hx hb dX0_leastByMean_60 ?_
    refine lv_istore_n (lv' := [(3, .int ((x7 - (1 : Int32)) &&& p1)), (2, .int x7), (0, .ref (a0 0)), (1, .int p1)]) hx hb dX0_leastByMean_61 rfl hl (by decide) rfl (fun ls hl => ?_)
    refine lv_goto (tgt := 4) hx hb dX0_leastByMean_62 (by decide) ?_
    exact hB _ (Option.some.inj hf).symm _ _ _ hP hD hS (lv_sub hl [2, 3, 1, 0] rfl)
  intro H locs ls hP hD hS hl
  have hP : va_P g.1 vwCl (wX0 a0 g v0_values_marks v0_values_weights v0_values_places v0_values_aboves v0_values_belows v0_values_reduced_above v0_values_reduced_below v0_values_papers v0_order_overs v0_order_unders v0_order_marks v0_order_wrongs v0_order_papers v0_sums v0_weighs v0_downs) H := hP
  have hD : va_D A (wX0 a0 g v0_values_marks v0_values_weights v0_values_places v0_values_aboves v0_values_belows v0_values_reduced_above v0_values_reduced_below v0_values_papers v0_order_overs v0_order_unders v0_order_marks v0_order_wrongs v0_order_papers v0_sums v0_weighs v0_downs) := hD
  have hl : lv_has ls 4 [(2, .int r13)] := hl
  refine lv_iload_n hx hb dX0_leastByMean_65 rfl (lv_at hl 0 rfl) ?_
  exact retI (v := r13) (u := r13) (val := fun u => u) (W1 := fun u => wX0 a0 g v0_values_marks v0_values_weights v0_values_places v0_values_aboves v0_values_belows v0_values_reduced_above v0_values_reduced_below v0_values_papers v0_order_overs v0_order_unders v0_order_marks v0_order_wrongs v0_order_papers v0_sums v0_weighs v0_downs) hx hb hr hlocks hS hP hD (hf0.trans hf.symm) rfl rfl dX0_leastByMean_66
set_option maxHeartbeats 4000000 in
set_option maxRecDepth 100000 in
theorem c_X0_layLeastSquares (l : Launch) (g : GG) (a0 : Nat → Nat) (v0_values_marks : (Nat → Int32)) (v0_values_weights : (Nat → Int32)) (v0_values_places : (Nat → Int32)) (v0_values_aboves : (Nat → Int32)) (v0_values_belows : (Nat → Int32)) (v0_values_reduced_above : Int64) (v0_values_reduced_below : Int64) (v0_values_papers : Int32) (v0_order_overs : (Nat → Int32)) (v0_order_unders : (Nat → Int32)) (v0_order_marks : (Nat → Int32)) (v0_order_wrongs : (Nat → Int32)) (v0_order_papers : Int32) (v0_sums : (Nat → Int32)) (v0_weighs : (Nat → Int32)) (v0_downs : (Nat → Int32)) (hne : (m_X0_layLeastSquares ((v0_values_marks, v0_values_weights, v0_values_places, v0_values_aboves, v0_values_belows, (v0_values_reduced_above, v0_values_reduced_below), v0_values_papers), (v0_order_overs, v0_order_unders, v0_order_marks, v0_order_wrongs, v0_order_papers), v0_sums, v0_weighs, v0_downs)) ≠ none) : Ct l g yX0_layLeastSquares cX0_layLeastSquares 4 none ({ frames := 3, cells := 0, slots := 0, locals := 82 } : Room) [.ref (a0 0)] (wX0 a0 g v0_values_marks v0_values_weights v0_values_places v0_values_aboves v0_values_belows v0_values_reduced_above v0_values_reduced_below v0_values_papers v0_order_overs v0_order_unders v0_order_marks v0_order_wrongs v0_order_papers v0_sums v0_weighs v0_downs) (Qv g (m_X0_layLeastSquares ((v0_values_marks, v0_values_weights, v0_values_places, v0_values_aboves, v0_values_belows, (v0_values_reduced_above, v0_values_reduced_below), v0_values_papers), (v0_order_overs, v0_order_unders, v0_order_marks, v0_order_wrongs, v0_order_papers), v0_sums, v0_weighs, v0_downs)) (fun u => wX0 a0 g v0_values_marks v0_values_weights v0_values_places u.1 u.2.1 u.2.2.1 u.2.2.2 v0_values_papers v0_order_overs v0_order_unders v0_order_marks v0_order_wrongs v0_order_papers v0_sums v0_weighs v0_downs)) 0 0 := by
  obtain ⟨out, hf⟩ := ne_ex hne
  have hf0 := hf
  refine Ct.of (own := RX0) (by decide +kernel) rfl (Nat.le_of_ble_eq_true rfl) ?_
  intro p e s m below meth c hx hb hr hml hown hts hlocks hin hK A H locs hA hP hD hS hE ls hl
  have hl : lv_has ls 4 [(0, .ref (a0 0))] := hl
  unfold m_X0_layLeastSquares at hf
  refine lv_aload_n hx hb dX0_layLeastSquares_0 rfl (lv_at hl 0 rfl) ?_
  refine va_get (D := g.1) (ci := 1) (v := .ref (a0 1)) (C := RX0) (T := TX0) (N := 5) hx hb hts layX0 hown hK.1 hP 0 rfl rfl 0 (by decide) (hts _ kw192) (fun _ h9 => h9) rfl dX0_layLeastSquares_1 ?_
  refine cIp hP hD hS hA hE (fun hPc hDc hSc => rV (As := []) (rest := []) hx hb hml hown hts hK (c_X8_allPapers l g (fun i => a0 (i + 1)) v0_values_marks v0_values_weights v0_values_places v0_values_aboves v0_values_belows v0_values_reduced_above v0_values_reduced_below v0_values_papers (bnd_ne hf)) svV_X8_allPapers kw880 rfl rfl hPc hDc hSc rfl rfl hl.1 (Nat.le_of_ble_eq_true rfl) dX0_layLeastSquares_4 ⟨Nat.le_of_ble_eq_true rfl, Nat.le_of_ble_eq_true rfl, rfl, rfl, Nat.le_of_ble_eq_true rfl, Nat.le_of_ble_eq_true rfl⟩) [(1, 12)] rfl rfl rfl (fun x1 H locs ex1 nx1 hP hS => ?_)
  have hf := bnd_of hf ex1
  refine lv_istore_n (lv' := [(1, .int x1), (0, .ref (a0 0))]) hx hb dX0_layLeastSquares_7 rfl hl (by decide) rfl (fun ls hl => ?_)
  refine lv_iconst (v := 0) hx hb dX0_layLeastSquares_8 (by decide) ?_
  refine lv_istore_n (lv' := [(2, .int (0 : Int32)), (1, .int x1), (0, .ref (a0 0))]) hx hb dX0_layLeastSquares_9 rfl hl (by decide) rfl (fun ls hl => ?_)
  obtain ⟨r16, er16, hf⟩ := bnd hf
  refine lp_W (P := fun z => ∀ (H : Heap) (locs : List Loc) (ls : Array Slot), va_P g.1 vwCl (wX0 a0 g v0_values_marks v0_values_weights v0_values_places z.2.2.1 z.2.2.2.1 z.2.2.2.2.1 z.2.2.2.2.2 v0_values_papers v0_order_overs v0_order_unders v0_order_marks v0_order_wrongs v0_order_papers v0_sums v0_weighs v0_downs) H → va_D A (wX0 a0 g v0_values_marks v0_values_weights v0_values_places z.2.2.1 z.2.2.2.1 z.2.2.2.2.1 z.2.2.2.2.2 v0_values_papers v0_order_overs v0_order_unders v0_order_marks v0_order_wrongs v0_order_papers v0_sums v0_weighs v0_downs) → va_S A s.heap H locs → lv_has ls 4 [(0, .ref (a0 0)), (1, .int z.1), (2, .int z.2.1)] → W p l e { frames := 3, cells := 0, slots := 0, locals := 82 } s m [.ref (a0 0)].toArray below meth c H locs 0 0 (MQ below (Qv g (m_X0_layLeastSquares ((v0_values_marks, v0_values_weights, v0_values_places, v0_values_aboves, v0_values_belows, (v0_values_reduced_above, v0_values_reduced_below), v0_values_papers), (v0_order_overs, v0_order_unders, v0_order_marks, v0_order_wrongs, v0_order_papers), v0_sums, v0_weighs, v0_downs)) (fun u => wX0 a0 g v0_values_marks v0_values_weights v0_values_places u.1 u.2.1 u.2.2.1 u.2.2.2 v0_values_papers v0_order_overs v0_order_unders v0_order_marks v0_order_wrongs v0_order_papers v0_sums v0_weighs v0_downs) A) [.ref (a0 0)].toArray s 0 0 A) (F0 m 10 ls [])) (E := fun r16 => ∀ (H : Heap) (locs : List Loc) (ls : Array Slot), va_P g.1 vwCl (wX0 a0 g v0_values_marks v0_values_weights v0_values_places r16.1 r16.2.1 r16.2.2.1 r16.2.2.2 v0_values_papers v0_order_overs v0_order_unders v0_order_marks v0_order_wrongs v0_order_papers v0_sums v0_weighs v0_downs) H → va_D A (wX0 a0 g v0_values_marks v0_values_weights v0_values_places r16.1 r16.2.1 r16.2.2.1 r16.2.2.2 v0_values_papers v0_order_overs v0_order_unders v0_order_marks v0_order_wrongs v0_order_papers v0_sums v0_weighs v0_downs) → va_S A s.heap H locs → lv_has ls 4 [] → W p l e { frames := 3, cells := 0, slots := 0, locals := 82 } s m [.ref (a0 0)].toArray below meth c H locs 0 0 (MQ below (Qv g (m_X0_layLeastSquares ((v0_values_marks, v0_values_weights, v0_values_places, v0_values_aboves, v0_values_belows, (v0_values_reduced_above, v0_values_reduced_below), v0_values_papers), (v0_order_overs, v0_order_unders, v0_order_marks, v0_order_wrongs, v0_order_papers), v0_sums, v0_weighs, v0_downs)) (fun u => wX0 a0 g v0_values_marks v0_values_weights v0_values_places u.1 u.2.1 u.2.2.1 u.2.2.2 v0_values_papers v0_order_overs v0_order_unders v0_order_marks v0_order_wrongs v0_order_papers v0_sums v0_weighs v0_downs) A) [.ref (a0 0)].toArray s 0 0 A) (F0 m 64 ls [])) ?_ fu _ r16 er16 ?_ _ _ _ hP hD hS (lv_sub hl [2, 1, 0] rfl)
  · rintro ⟨x6, x7, x8, x9, x10, x11⟩ y hf hB hXt H locs ls hP hD hS hl
    have hP : va_P g.1 vwCl (wX0 a0 g v0_values_marks v0_values_weights v0_values_places x8 x9 x10 x11 v0_values_papers v0_order_overs v0_order_unders v0_order_marks v0_order_wrongs v0_order_papers v0_sums v0_weighs v0_downs) H := hP
    have hD : va_D A (wX0 a0 g v0_values_marks v0_values_weights v0_values_places x8 x9 x10 x11 v0_values_papers v0_order_overs v0_order_unders v0_order_marks v0_order_wrongs v0_order_papers v0_sums v0_weighs v0_downs) := hD
    have hl : lv_has ls 4 [(0, .ref (a0 0)), (1, .int x6), (2, .int x7)] := hl
    have hf : m_X0_layLeastSquares_l10 ((v0_values_marks, v0_values_weights, v0_values_places, v0_values_aboves, v0_values_belows, (v0_values_reduced_above, v0_values_reduced_below), v0_values_papers), (v0_order_overs, v0_order_unders, v0_order_marks, v0_order_wrongs, v0_order_papers), v0_sums, v0_weighs, v0_downs) x6 x7 x8 x9 x10 x11 = some y := hf
    unfold m_X0_layLeastSquares_l10 at hf
    refine lv_iload_n hx hb dX0_layLeastSquares_10 rfl (lv_at hl 2 rfl) ?_
    refine lv_bipush (v := 7) hx hb dX0_layLeastSquares_11 (by decide) ?_
    refine lv_icmp_ge (tgt := 64) hx hb dX0_layLeastSquares_13 (by decide) (fun cb => ?_) (fun cb => ?_)
    · have hf := it_t cb hf
      exact hXt _ (Option.some.inj hf).symm _ _ _ hP hD hS (lv_sub hl [] rfl)
    have hf := it_f cb hf
    refine lv_iload_n hx hb dX0_layLeastSquares_16 rfl (lv_at hl 1 rfl) ?_
    refine lv_if_eq (tgt := 64) hx hb dX0_layLeastSquares_17 (by decide) (fun cb => ?_) (fun cb => ?_)
    · have hf := it_t cb hf
      exact hXt _ (Option.some.inj hf).symm _ _ _ hP hD hS (lv_sub hl [] rfl)
    have hf := it_f cb hf
    refine lv_aload_n hx hb dX0_layLeastSquares_20 rfl (lv_at hl 0 rfl) ?_
    refine lv_iload_n hx hb dX0_layLeastSquares_21 rfl (lv_at hl 1 rfl) ?_
    refine cIp hP hD hS hA hE (fun hPc hDc hSc => rV (As := [.int x6]) (rest := []) hx hb hml hown hts hK (c_X0_leastByMean l g a0 v0_values_marks v0_values_weights v0_values_places x8 x9 x10 x11 v0_values_papers v0_order_overs v0_order_unders v0_order_marks v0_order_wrongs v0_order_papers v0_sums v0_weighs v0_downs x6 (bnd_ne hf)) svV_X0_leastByMean kw881 rfl rfl hPc hDc hSc rfl rfl hl.1 (Nat.le_of_ble_eq_true rfl) dX0_layLeastSquares_22 ⟨Nat.le_of_ble_eq_true rfl, Nat.le_of_ble_eq_true rfl, rfl, rfl, Nat.le_of_ble_eq_true rfl, Nat.le_of_ble_eq_true rfl⟩) [(0, 28)] rfl rfl rfl (fun x12 H locs ex12 nx12 hP hS => ?_)
    have hf := bnd_of hf ex12
    refine lv_istore_n (lv' := [(3, .int x12), (0, .ref (a0 0)), (1, .int x6), (2, .int x7)]) hx hb dX0_layLeastSquares_25 rfl hl (by decide) rfl (fun ls hl => ?_)
    refine lv_aload_n hx hb dX0_layLeastSquares_26 rfl (lv_at hl 1 rfl) ?_
    refine va_get (D := g.1) (ci := 1) (v := .ref (a0 1)) (C := RX0) (T := TX0) (N := 5) hx hb hts layX0 hown hK.1 hP 0 rfl rfl 0 (by decide) (hts _ kw192) (fun _ h9 => h9) rfl dX0_layLeastSquares_27 ?_
    refine lv_iload_n hx hb dX0_layLeastSquares_30 rfl (lv_at hl 0 rfl) ?_
    refine lv_aload_n hx hb dX0_layLeastSquares_31 rfl (lv_at hl 1 rfl) ?_
    refine va_get (D := g.1) (ci := 1) (v := .ref (a0 22)) (C := RX0) (T := TX0) (N := 5) hx hb hts layX0 hown hK.1 hP 0 rfl rfl 2 (by decide) (hts _ kw194) (fun _ h9 => h9) rfl dX0_layLeastSquares_32 ?_
    refine lv_iload_n hx hb dX0_layLeastSquares_35 rfl (lv_at hl 0 rfl) ?_
    refine cIp hP hD hS hA hE (fun hPc hDc hSc => rV (As := [.int x12]) (rest := [.int x12, .ref (a0 1)]) hx hb hml hown hts hK (c_X2_get l g (fun i => a0 (i + 22)) 128 v0_sums x12 (bnd_ne hf)) svV_X2_get kw875 rfl rfl hPc hDc hSc rfl rfl hl.1 (Nat.le_of_ble_eq_true rfl) dX0_layLeastSquares_36 ⟨Nat.le_of_ble_eq_true rfl, Nat.le_of_ble_eq_true rfl, rfl, rfl, Nat.le_of_ble_eq_true rfl, Nat.le_of_ble_eq_true rfl⟩) [(22, 2)] rfl rfl rfl (fun x13 H locs ex13 nx13 hP hS => ?_)
    have hf := bnd_of hf ex13
    refine lv_i2l (v := x13.toInt64) hx hb dX0_layLeastSquares_39 rfl ?_
    refine lv_aload_n hx hb dX0_layLeastSquares_40 rfl (lv_at hl 1 rfl) ?_
    refine va_get (D := g.1) (ci := 1) (v := .ref (a0 24)) (C := RX0) (T := TX0) (N := 5) hx hb hts layX0 hown hK.1 hP 0 rfl rfl 3 (by decide) (hts _ kw195) (fun _ h9 => h9) rfl dX0_layLeastSquares_41 ?_
    refine lv_iload_n hx hb dX0_layLeastSquares_44 rfl (lv_at hl 0 rfl) ?_
    refine cIp hP hD hS hA hE (fun hPc hDc hSc => rV (As := [.int x12]) (rest := [.long x13.toInt64, .int x12, .ref (a0 1)]) hx hb hml hown hts hK (c_X2_get l g (fun i => a0 (i + 24)) 128 v0_weighs x12 (bnd_ne hf)) svV_X2_get kw875 rfl rfl hPc hDc hSc rfl rfl hl.1 (Nat.le_of_ble_eq_true rfl) dX0_layLeastSquares_45 ⟨Nat.le_of_ble_eq_true rfl, Nat.le_of_ble_eq_true rfl, rfl, rfl, Nat.le_of_ble_eq_true rfl, Nat.le_of_ble_eq_true rfl⟩) [(24, 2)] rfl rfl rfl (fun x14 H locs ex14 nx14 hP hS => ?_)
    have hf := bnd_of hf ex14
    refine lv_i2l (v := x14.toInt64) hx hb dX0_layLeastSquares_48 rfl ?_
    refine cV hP hD hS hA hE (fun hPc hDc hSc => rV (As := [.int x12, .long x13.toInt64, .long x14.toInt64]) (rest := []) hx hb hml hown hts hK (c_X8_lay l g (fun i => a0 (i + 1)) v0_values_marks v0_values_weights v0_values_places x8 x9 x10 x11 v0_values_papers x12 x13.toInt64 x14.toInt64 (bnd_ne hf)) svV_X8_lay kw867 rfl rfl hPc hDc hSc rfl rfl hl.1 (Nat.le_of_ble_eq_true rfl) dX0_layLeastSquares_49 ⟨Nat.le_of_ble_eq_true rfl, Nat.le_of_ble_eq_true rfl, rfl, rfl, Nat.le_of_ble_eq_true rfl, Nat.le_of_ble_eq_true rfl⟩) [(1, 12)] rfl rfl rfl (fun _ => rfl) (fun x15 H locs ex15 hP hD hS => ?_)
    have hf := bnd_of hf ex15
    have hP : va_P g.1 vwCl (wX0 a0 g v0_values_marks v0_values_weights v0_values_places x15.1 x15.2.1 x15.2.2.1 x15.2.2.2 v0_values_papers v0_order_overs v0_order_unders v0_order_marks v0_order_wrongs v0_order_papers v0_sums v0_weighs v0_downs) H := hP
    have hD : va_D A (wX0 a0 g v0_values_marks v0_values_weights v0_values_places x15.1 x15.2.1 x15.2.2.1 x15.2.2.2 v0_values_papers v0_order_overs v0_order_unders v0_order_marks v0_order_wrongs v0_order_papers v0_sums v0_weighs v0_downs) := hD
    refine lv_iload_n hx hb dX0_layLeastSquares_52 rfl (lv_at hl 2 rfl) ?_
    refine lv_iload_n hx hb dX0_layLeastSquares_53 rfl (lv_at hl 0 rfl) ?_
    refine lv_iconst (v := (-1)) hx hb dX0_layLeastSquares_54 (by decide) ?_
    refine lv_ixor hx hb dX0_layLeastSquares_55 ?_
    refine lv_iand hx hb dX0_layLeastSquares_56 ?_
    refine lv_istore_n (lv' := [(1, .int (x6 &&& (x12 ^^^ (-1 : Int32)))), (3, .int x12), (0, .ref (a0 0)), (2, .int x7)]) hx hb dX0_layLeastSquares_57 rfl hl (by decide) rfl (fun ls hl => ?_)
    refine lv_iinc (v := (x7 + 1)) (lv' := [(2, .int (x7 + 1)), (1, .int (x6 &&& (x12 ^^^ (-1 : Int32)))), (3, .int x12), (0, .ref (a0 0))]) hx hb dX0_layLeastSquares_58 hl (k := 3) rfl (by rfl) (by decide) rfl (fun ls hl => ?_)
    refine lv_goto (tgt := 10) hx hb dX0_layLeastSquares_61 (by decide) ?_
    exact hB _ (Option.some.inj hf).symm _ _ _ hP hD hS (lv_sub hl [3, 1, 0] rfl)
  intro H locs ls hP hD hS hl
  have hP : va_P g.1 vwCl (wX0 a0 g v0_values_marks v0_values_weights v0_values_places r16.1 r16.2.1 r16.2.2.1 r16.2.2.2 v0_values_papers v0_order_overs v0_order_unders v0_order_marks v0_order_wrongs v0_order_papers v0_sums v0_weighs v0_downs) H := hP
  have hD : va_D A (wX0 a0 g v0_values_marks v0_values_weights v0_values_places r16.1 r16.2.1 r16.2.2.1 r16.2.2.2 v0_values_papers v0_order_overs v0_order_unders v0_order_marks v0_order_wrongs v0_order_papers v0_sums v0_weighs v0_downs) := hD
  have hl : lv_has ls 4 [] := hl
  exact retV (u := (r16.1, r16.2.1, r16.2.2.1, r16.2.2.2)) (W1 := fun u => wX0 a0 g v0_values_marks v0_values_weights v0_values_places u.1 u.2.1 u.2.2.1 u.2.2.2 v0_values_papers v0_order_overs v0_order_unders v0_order_marks v0_order_wrongs v0_order_papers v0_sums v0_weighs v0_downs) hx hb hr hlocks hS hP hD (hf0.trans hf.symm) dX0_layLeastSquares_64
set_option maxHeartbeats 4000000 in
set_option maxRecDepth 100000 in
theorem c_X0_layHalfways (l : Launch) (g : GG) (a0 : Nat → Nat) (v0_values_marks : (Nat → Int32)) (v0_values_weights : (Nat → Int32)) (v0_values_places : (Nat → Int32)) (v0_values_aboves : (Nat → Int32)) (v0_values_belows : (Nat → Int32)) (v0_values_reduced_above : Int64) (v0_values_reduced_below : Int64) (v0_values_papers : Int32) (v0_order_overs : (Nat → Int32)) (v0_order_unders : (Nat → Int32)) (v0_order_marks : (Nat → Int32)) (v0_order_wrongs : (Nat → Int32)) (v0_order_papers : Int32) (v0_sums : (Nat → Int32)) (v0_weighs : (Nat → Int32)) (v0_downs : (Nat → Int32)) (hne : (m_X0_layHalfways ((v0_values_marks, v0_values_weights, v0_values_places, v0_values_aboves, v0_values_belows, (v0_values_reduced_above, v0_values_reduced_below), v0_values_papers), (v0_order_overs, v0_order_unders, v0_order_marks, v0_order_wrongs, v0_order_papers), v0_sums, v0_weighs, v0_downs)) ≠ none) : Ct l g yX0_layHalfways cX0_layHalfways 5 none ({ frames := 3, cells := 0, slots := 0, locals := 82 } : Room) [.ref (a0 0)] (wX0 a0 g v0_values_marks v0_values_weights v0_values_places v0_values_aboves v0_values_belows v0_values_reduced_above v0_values_reduced_below v0_values_papers v0_order_overs v0_order_unders v0_order_marks v0_order_wrongs v0_order_papers v0_sums v0_weighs v0_downs) (Qv g (m_X0_layHalfways ((v0_values_marks, v0_values_weights, v0_values_places, v0_values_aboves, v0_values_belows, (v0_values_reduced_above, v0_values_reduced_below), v0_values_papers), (v0_order_overs, v0_order_unders, v0_order_marks, v0_order_wrongs, v0_order_papers), v0_sums, v0_weighs, v0_downs)) (fun u => wX0 a0 g v0_values_marks v0_values_weights v0_values_places u.1 u.2.1 u.2.2.1 u.2.2.2 v0_values_papers v0_order_overs v0_order_unders v0_order_marks v0_order_wrongs v0_order_papers v0_sums v0_weighs v0_downs)) 0 0 := by
  obtain ⟨out, hf⟩ := ne_ex hne
  have hf0 := hf
  refine Ct.of (own := RX0) (by decide +kernel) rfl (Nat.le_of_ble_eq_true rfl) ?_
  intro p e s m below meth c hx hb hr hml hown hts hlocks hin hK A H locs hA hP hD hS hE ls hl
  have hl : lv_has ls 5 [(0, .ref (a0 0))] := hl
  unfold m_X0_layHalfways at hf
  refine lv_iconst (v := 0) hx hb dX0_layHalfways_0 (by decide) ?_
  refine lv_istore_n (lv' := [(1, .int (0 : Int32)), (0, .ref (a0 0))]) hx hb dX0_layHalfways_1 rfl hl (by decide) rfl (fun ls hl => ?_)
  obtain ⟨r68, er68, hf⟩ := bnd hf
  refine lp_W (P := fun z => ∀ (H : Heap) (locs : List Loc) (ls : Array Slot), va_P g.1 vwCl (wX0 a0 g v0_values_marks v0_values_weights v0_values_places z.2.1 z.2.2.1 z.2.2.2.1 z.2.2.2.2 v0_values_papers v0_order_overs v0_order_unders v0_order_marks v0_order_wrongs v0_order_papers v0_sums v0_weighs v0_downs) H → va_D A (wX0 a0 g v0_values_marks v0_values_weights v0_values_places z.2.1 z.2.2.1 z.2.2.2.1 z.2.2.2.2 v0_values_papers v0_order_overs v0_order_unders v0_order_marks v0_order_wrongs v0_order_papers v0_sums v0_weighs v0_downs) → va_S A s.heap H locs → lv_has ls 5 [(0, .ref (a0 0)), (1, .int z.1)] → W p l e { frames := 3, cells := 0, slots := 0, locals := 82 } s m [.ref (a0 0)].toArray below meth c H locs 0 0 (MQ below (Qv g (m_X0_layHalfways ((v0_values_marks, v0_values_weights, v0_values_places, v0_values_aboves, v0_values_belows, (v0_values_reduced_above, v0_values_reduced_below), v0_values_papers), (v0_order_overs, v0_order_unders, v0_order_marks, v0_order_wrongs, v0_order_papers), v0_sums, v0_weighs, v0_downs)) (fun u => wX0 a0 g v0_values_marks v0_values_weights v0_values_places u.1 u.2.1 u.2.2.1 u.2.2.2 v0_values_papers v0_order_overs v0_order_unders v0_order_marks v0_order_wrongs v0_order_papers v0_sums v0_weighs v0_downs) A) [.ref (a0 0)].toArray s 0 0 A) (F0 m 2 ls [])) (E := fun r68 => ∀ (H : Heap) (locs : List Loc) (ls : Array Slot), va_P g.1 vwCl (wX0 a0 g v0_values_marks v0_values_weights v0_values_places r68.1 r68.2.1 r68.2.2.1 r68.2.2.2 v0_values_papers v0_order_overs v0_order_unders v0_order_marks v0_order_wrongs v0_order_papers v0_sums v0_weighs v0_downs) H → va_D A (wX0 a0 g v0_values_marks v0_values_weights v0_values_places r68.1 r68.2.1 r68.2.2.1 r68.2.2.2 v0_values_papers v0_order_overs v0_order_unders v0_order_marks v0_order_wrongs v0_order_papers v0_sums v0_weighs v0_downs) → va_S A s.heap H locs → lv_has ls 5 [] → W p l e { frames := 3, cells := 0, slots := 0, locals := 82 } s m [.ref (a0 0)].toArray below meth c H locs 0 0 (MQ below (Qv g (m_X0_layHalfways ((v0_values_marks, v0_values_weights, v0_values_places, v0_values_aboves, v0_values_belows, (v0_values_reduced_above, v0_values_reduced_below), v0_values_papers), (v0_order_overs, v0_order_unders, v0_order_marks, v0_order_wrongs, v0_order_papers), v0_sums, v0_weighs, v0_downs)) (fun u => wX0 a0 g v0_values_marks v0_values_weights v0_values_places u.1 u.2.1 u.2.2.1 u.2.2.2 v0_values_papers v0_order_overs v0_order_unders v0_order_marks v0_order_wrongs v0_order_papers v0_sums v0_weighs v0_downs) A) [.ref (a0 0)].toArray s 0 0 A) (F0 m 128 ls [])) ?_ fu _ r68 er68 ?_ _ _ _ hP hD hS (lv_sub hl [1, 0] rfl)
  · rintro ⟨x32, x33, x34, x35, x36⟩ y hf hB hXt H locs ls hP hD hS hl
    have hP : va_P g.1 vwCl (wX0 a0 g v0_values_marks v0_values_weights v0_values_places x33 x34 x35 x36 v0_values_papers v0_order_overs v0_order_unders v0_order_marks v0_order_wrongs v0_order_papers v0_sums v0_weighs v0_downs) H := hP
    have hD : va_D A (wX0 a0 g v0_values_marks v0_values_weights v0_values_places x33 x34 x35 x36 v0_values_papers v0_order_overs v0_order_unders v0_order_marks v0_order_wrongs v0_order_papers v0_sums v0_weighs v0_downs) := hD
    have hl : lv_has ls 5 [(0, .ref (a0 0)), (1, .int x32)] := hl
    have hf : m_X0_layHalfways_l2 ((v0_values_marks, v0_values_weights, v0_values_places, v0_values_aboves, v0_values_belows, (v0_values_reduced_above, v0_values_reduced_below), v0_values_papers), (v0_order_overs, v0_order_unders, v0_order_marks, v0_order_wrongs, v0_order_papers), v0_sums, v0_weighs, v0_downs) x32 x33 x34 x35 x36 = some y := hf
    unfold m_X0_layHalfways_l2 at hf
    refine lv_iload_n hx hb dX0_layHalfways_2 rfl (lv_at hl 1 rfl) ?_
    refine lv_aload_n hx hb dX0_layHalfways_3 rfl (lv_at hl 0 rfl) ?_
    refine va_get (D := g.1) (ci := 1) (v := .ref (a0 1)) (C := RX0) (T := TX0) (N := 5) hx hb hts layX0 hown hK.1 hP 0 rfl rfl 0 (by decide) (hts _ kw192) (fun _ h9 => h9) rfl dX0_layHalfways_4 ?_
    refine cIp hP hD hS hA hE (fun hPc hDc hSc => rV (As := []) (rest := [.int x32]) hx hb hml hown hts hK (c_X8_paperCount l g (fun i => a0 (i + 1)) v0_values_marks v0_values_weights v0_values_places x33 x34 x35 x36 v0_values_papers (bnd_ne hf)) svV_X8_paperCount kw854 rfl rfl hPc hDc hSc rfl rfl hl.1 (Nat.le_of_ble_eq_true rfl) dX0_layHalfways_7 ⟨Nat.le_of_ble_eq_true rfl, Nat.le_of_ble_eq_true rfl, rfl, rfl, Nat.le_of_ble_eq_true rfl, Nat.le_of_ble_eq_true rfl⟩) [(1, 12)] rfl rfl rfl (fun x37 H locs ex37 nx37 hP hS => ?_)
    have hf := bnd_of hf ex37
    refine lv_icmp_ge (tgt := 128) hx hb dX0_layHalfways_10 (by decide) (fun cb => ?_) (fun cb => ?_)
    · have hf := it_t cb hf
      exact hXt _ (Option.some.inj hf).symm _ _ _ hP hD hS (lv_sub hl [] rfl)
    have hf := it_f cb hf
    refine lv_aload_n hx hb dX0_layHalfways_13 rfl (lv_at hl 0 rfl) ?_
    refine va_get (D := g.1) (ci := 1) (v := .ref (a0 1)) (C := RX0) (T := TX0) (N := 5) hx hb hts layX0 hown hK.1 hP 0 rfl rfl 0 (by decide) (hts _ kw192) (fun _ h9 => h9) rfl dX0_layHalfways_14 ?_
    refine lv_iload_n hx hb dX0_layHalfways_17 rfl (lv_at hl 1 rfl) ?_
    refine cIp hP hD hS hA hE (fun hPc hDc hSc => rV (As := [.int x32]) (rest := []) hx hb hml hown hts hK (c_X8_markAt l g (fun i => a0 (i + 1)) v0_values_marks v0_values_weights v0_values_places x33 x34 x35 x36 v0_values_papers x32 (bnd_ne hf)) svV_X8_markAt kw855 rfl rfl hPc hDc hSc rfl rfl hl.1 (Nat.le_of_ble_eq_true rfl) dX0_layHalfways_18 ⟨Nat.le_of_ble_eq_true rfl, Nat.le_of_ble_eq_true rfl, rfl, rfl, Nat.le_of_ble_eq_true rfl, Nat.le_of_ble_eq_true rfl⟩) [(1, 12)] rfl rfl rfl (fun x38 H locs ex38 nx38 hP hS => ?_)
    have hf := bnd_of hf ex38
    refine lv_istore_n (lv' := [(2, .int x38), (0, .ref (a0 0)), (1, .int x32)]) hx hb dX0_layHalfways_21 rfl hl (by decide) rfl (fun ls hl => ?_)
    refine lv_iload_n hx hb dX0_layHalfways_22 rfl (lv_at hl 0 rfl) ?_
    refine lv_istore_n (lv' := [(3, .int x38), (2, .int x38), (0, .ref (a0 0)), (1, .int x32)]) hx hb dX0_layHalfways_23 rfl hl (by decide) rfl (fun ls hl => ?_)
    refine lv_iconst (v := 0) hx hb dX0_layHalfways_24 (by decide) ?_
    refine lv_istore (lv' := [(4, .int (0 : Int32)), (3, .int x38), (2, .int x38), (0, .ref (a0 0)), (1, .int x32)]) hx hb dX0_layHalfways_25 hl (by decide) rfl (fun ls hl => ?_)
    obtain ⟨r66, er66, hf⟩ := bnd hf
    refine lp_W (P := fun z => ∀ (H : Heap) (locs : List Loc) (ls : Array Slot), va_P g.1 vwCl (wX0 a0 g v0_values_marks v0_values_weights v0_values_places x33 x34 x35 x36 v0_values_papers v0_order_overs v0_order_unders v0_order_marks v0_order_wrongs v0_order_papers v0_sums v0_weighs v0_downs) H → va_D A (wX0 a0 g v0_values_marks v0_values_weights v0_values_places x33 x34 x35 x36 v0_values_papers v0_order_overs v0_order_unders v0_order_marks v0_order_wrongs v0_order_papers v0_sums v0_weighs v0_downs) → va_S A s.heap H locs → lv_has ls 5 [(0, .ref (a0 0)), (1, .int x32), (2, .int z.1), (3, .int z.2.1), (4, .int z.2.2)] → W p l e { frames := 3, cells := 0, slots := 0, locals := 82 } s m [.ref (a0 0)].toArray below meth c H locs 0 0 (MQ below (Qv g (m_X0_layHalfways ((v0_values_marks, v0_values_weights, v0_values_places, v0_values_aboves, v0_values_belows, (v0_values_reduced_above, v0_values_reduced_below), v0_values_papers), (v0_order_overs, v0_order_unders, v0_order_marks, v0_order_wrongs, v0_order_papers), v0_sums, v0_weighs, v0_downs)) (fun u => wX0 a0 g v0_values_marks v0_values_weights v0_values_places u.1 u.2.1 u.2.2.1 u.2.2.2 v0_values_papers v0_order_overs v0_order_unders v0_order_marks v0_order_wrongs v0_order_papers v0_sums v0_weighs v0_downs) A) [.ref (a0 0)].toArray s 0 0 A) (F0 m 27 ls [])) (E := fun r66 => ∀ (H : Heap) (locs : List Loc) (ls : Array Slot), va_P g.1 vwCl (wX0 a0 g v0_values_marks v0_values_weights v0_values_places x33 x34 x35 x36 v0_values_papers v0_order_overs v0_order_unders v0_order_marks v0_order_wrongs v0_order_papers v0_sums v0_weighs v0_downs) H → va_D A (wX0 a0 g v0_values_marks v0_values_weights v0_values_places x33 x34 x35 x36 v0_values_papers v0_order_overs v0_order_unders v0_order_marks v0_order_wrongs v0_order_papers v0_sums v0_weighs v0_downs) → va_S A s.heap H locs → lv_has ls 5 [(0, .ref (a0 0)), (1, .int x32), (2, .int r66.1), (3, .int r66.2)] → W p l e { frames := 3, cells := 0, slots := 0, locals := 82 } s m [.ref (a0 0)].toArray below meth c H locs 0 0 (MQ below (Qv g (m_X0_layHalfways ((v0_values_marks, v0_values_weights, v0_values_places, v0_values_aboves, v0_values_belows, (v0_values_reduced_above, v0_values_reduced_below), v0_values_papers), (v0_order_overs, v0_order_unders, v0_order_marks, v0_order_wrongs, v0_order_papers), v0_sums, v0_weighs, v0_downs)) (fun u => wX0 a0 g v0_values_marks v0_values_weights v0_values_places u.1 u.2.1 u.2.2.1 u.2.2.2 v0_values_papers v0_order_overs v0_order_unders v0_order_marks v0_order_wrongs v0_order_papers v0_sums v0_weighs v0_downs) A) [.ref (a0 0)].toArray s 0 0 A) (F0 m 105 ls [])) ?_ fu _ r66 er66 ?_ _ _ _ hP hD hS (lv_sub hl [3, 4, 2, 1, 0] rfl)
    · rintro ⟨x51, x52, x53⟩ y hf hB hXt H locs ls hP hD hS hl
      have hP : va_P g.1 vwCl (wX0 a0 g v0_values_marks v0_values_weights v0_values_places x33 x34 x35 x36 v0_values_papers v0_order_overs v0_order_unders v0_order_marks v0_order_wrongs v0_order_papers v0_sums v0_weighs v0_downs) H := hP
      have hD : va_D A (wX0 a0 g v0_values_marks v0_values_weights v0_values_places x33 x34 x35 x36 v0_values_papers v0_order_overs v0_order_unders v0_order_marks v0_order_wrongs v0_order_papers v0_sums v0_weighs v0_downs) := hD
      have hl : lv_has ls 5 [(0, .ref (a0 0)), (1, .int x32), (2, .int x51), (3, .int x52), (4, .int x53)] := hl
      have hf : m_X0_layHalfways_l27_2 ((v0_values_marks, v0_values_weights, v0_values_places, v0_values_aboves, v0_values_belows, (v0_values_reduced_above, v0_values_reduced_below), v0_values_papers), (v0_order_overs, v0_order_unders, v0_order_marks, v0_order_wrongs, v0_order_papers), v0_sums, v0_weighs, v0_downs) x32 x33 x34 x35 x36 x51 x52 x53 = some y := hf
      unfold m_X0_layHalfways_l27_2 at hf
      refine lv_iload hx hb dX0_layHalfways_27 (lv_at hl 4 rfl) ?_
      refine lv_aload_n hx hb dX0_layHalfways_29 rfl (lv_at hl 0 rfl) ?_
      refine va_get (D := g.1) (ci := 1) (v := .ref (a0 1)) (C := RX0) (T := TX0) (N := 5) hx hb hts layX0 hown hK.1 hP 0 rfl rfl 0 (by decide) (hts _ kw192) (fun _ h9 => h9) rfl dX0_layHalfways_30 ?_
      refine cIp hP hD hS hA hE (fun hPc hDc hSc => rV (As := []) (rest := [.int x53]) hx hb hml hown hts hK (c_X8_paperCount l g (fun i => a0 (i + 1)) v0_values_marks v0_values_weights v0_values_places x33 x34 x35 x36 v0_values_papers (bnd_ne hf)) svV_X8_paperCount kw854 rfl rfl hPc hDc hSc rfl rfl hl.1 (Nat.le_of_ble_eq_true rfl) dX0_layHalfways_33 ⟨Nat.le_of_ble_eq_true rfl, Nat.le_of_ble_eq_true rfl, rfl, rfl, Nat.le_of_ble_eq_true rfl, Nat.le_of_ble_eq_true rfl⟩) [(1, 12)] rfl rfl rfl (fun x54 H locs ex54 nx54 hP hS => ?_)
      have hf := bnd_of hf ex54
      refine lv_icmp_ge (tgt := 105) hx hb dX0_layHalfways_36 (by decide) (fun cb => ?_) (fun cb => ?_)
      · have hf := it_t cb hf
        exact hXt _ (Option.some.inj hf).symm _ _ _ hP hD hS (lv_sub hl [0, 1, 2, 3] rfl)
      have hf := it_f cb hf
      refine lv_aload_n hx hb dX0_layHalfways_39 rfl (lv_at hl 0 rfl) ?_
      refine va_get (D := g.1) (ci := 1) (v := .ref (a0 13)) (C := RX0) (T := TX0) (N := 5) hx hb hts layX0 hown hK.1 hP 0 rfl rfl 1 (by decide) (hts _ kw193) (fun _ h9 => h9) rfl dX0_layHalfways_40 ?_
      refine lv_iload_n hx hb dX0_layHalfways_43 rfl (lv_at hl 1 rfl) ?_
      refine cIp hP hD hS hA hE (fun hPc hDc hSc => rV (As := [.int x32]) (rest := []) hx hb hml hown hts hK (c_X5_undersOf l g (fun i => a0 (i + 13)) v0_order_overs v0_order_unders v0_order_marks v0_order_wrongs v0_order_papers x32 (bnd_ne hf)) svV_X5_undersOf kw856 rfl rfl hPc hDc hSc rfl rfl hl.1 (Nat.le_of_ble_eq_true rfl) dX0_layHalfways_44 ⟨Nat.le_of_ble_eq_true rfl, Nat.le_of_ble_eq_true rfl, rfl, rfl, Nat.le_of_ble_eq_true rfl, Nat.le_of_ble_eq_true rfl⟩) [(13, 9)] rfl rfl rfl (fun x55 H locs ex55 nx55 hP hS => ?_)
      have hf := bnd_of hf ex55
      refine lv_iload hx hb dX0_layHalfways_47 (lv_at hl 4 rfl) ?_
      refine cIp hP hD hS hA hE (fun hPc hDc hSc => rSN (As := [.int x55, .int x53]) (rest := []) hx hb hml hown hts hK (c_X9_hasBit l g x55 x53 (bnd_ne hf)) svS_X9_hasBit nw17 hPc hDc hSc rfl rfl hl.1 (Nat.le_of_ble_eq_true rfl) dX0_layHalfways_49 ⟨Nat.le_of_ble_eq_true rfl, Nat.le_of_ble_eq_true rfl, rfl, rfl, Nat.le_of_ble_eq_true rfl, Nat.le_of_ble_eq_true rfl⟩) [] rfl rfl rfl (fun x56 H locs ex56 nx56 hP hS => ?_)
      have hf := bnd_of hf ex56
      obtain ⟨r59, er59, hf⟩ := bnd hf
      have K : ∀ (H : Heap) (locs : List Loc) (ls : Array Slot), va_P g.1 vwCl (wX0 a0 g v0_values_marks v0_values_weights v0_values_places x33 x34 x35 x36 v0_values_papers v0_order_overs v0_order_unders v0_order_marks v0_order_wrongs v0_order_papers v0_sums v0_weighs v0_downs) H → va_D A (wX0 a0 g v0_values_marks v0_values_weights v0_values_places x33 x34 x35 x36 v0_values_papers v0_order_overs v0_order_unders v0_order_marks v0_order_wrongs v0_order_papers v0_sums v0_weighs v0_downs) → va_S A s.heap H locs → lv_has ls 5 [(0, .ref (a0 0)), (1, .int x32), (2, .int r59), (3, .int x52), (4, .int x53)] → W p l e { frames := 3, cells := 0, slots := 0, locals := 82 } s m [.ref (a0 0)].toArray below meth c H locs 0 0 (MQ below (Qv g (m_X0_layHalfways ((v0_values_marks, v0_values_weights, v0_values_places, v0_values_aboves, v0_values_belows, (v0_values_reduced_above, v0_values_reduced_below), v0_values_papers), (v0_order_overs, v0_order_unders, v0_order_marks, v0_order_wrongs, v0_order_papers), v0_sums, v0_weighs, v0_downs)) (fun u => wX0 a0 g v0_values_marks v0_values_weights v0_values_places u.1 u.2.1 u.2.2.1 u.2.2.2 v0_values_papers v0_order_overs v0_order_unders v0_order_marks v0_order_wrongs v0_order_papers v0_sums v0_weighs v0_downs) A) [.ref (a0 0)].toArray s 0 0 A) (F0 m 69 ls []) := by
        intro H locs ls hP hD hS hl
        refine lv_aload_n hx hb dX0_layHalfways_69 rfl (lv_at hl 0 rfl) ?_
        refine va_get (D := g.1) (ci := 1) (v := .ref (a0 13)) (C := RX0) (T := TX0) (N := 5) hx hb hts layX0 hown hK.1 hP 0 rfl rfl 1 (by decide) (hts _ kw193) (fun _ h9 => h9) rfl dX0_layHalfways_70 ?_
        refine lv_iload_n hx hb dX0_layHalfways_73 rfl (lv_at hl 1 rfl) ?_
        refine cIp hP hD hS hA hE (fun hPc hDc hSc => rV (As := [.int x32]) (rest := []) hx hb hml hown hts hK (c_X5_oversOf l g (fun i => a0 (i + 13)) v0_order_overs v0_order_unders v0_order_marks v0_order_wrongs v0_order_papers x32 (bnd_ne hf)) svV_X5_oversOf kw861 rfl rfl hPc hDc hSc rfl rfl hl.1 (Nat.le_of_ble_eq_true rfl) dX0_layHalfways_74 ⟨Nat.le_of_ble_eq_true rfl, Nat.le_of_ble_eq_true rfl, rfl, rfl, Nat.le_of_ble_eq_true rfl, Nat.le_of_ble_eq_true rfl⟩) [(13, 9)] rfl rfl rfl (fun x60 H locs ex60 nx60 hP hS => ?_)
        have hf := bnd_of hf ex60
        refine lv_iload hx hb dX0_layHalfways_77 (lv_at hl 4 rfl) ?_
        refine cIp hP hD hS hA hE (fun hPc hDc hSc => rSN (As := [.int x60, .int x53]) (rest := []) hx hb hml hown hts hK (c_X9_hasBit l g x60 x53 (bnd_ne hf)) svS_X9_hasBit nw17 hPc hDc hSc rfl rfl hl.1 (Nat.le_of_ble_eq_true rfl) dX0_layHalfways_79 ⟨Nat.le_of_ble_eq_true rfl, Nat.le_of_ble_eq_true rfl, rfl, rfl, Nat.le_of_ble_eq_true rfl, Nat.le_of_ble_eq_true rfl⟩) [] rfl rfl rfl (fun x61 H locs ex61 nx61 hP hS => ?_)
        have hf := bnd_of hf ex61
        refine lv_if_eq (tgt := 99) hx hb dX0_layHalfways_82 (by decide) (fun cb => ?_) (fun cb => ?_)
        · have hf := it_t cb hf
          refine lv_iinc (v := (x53 + 1)) (lv' := [(4, .int (x53 + 1)), (0, .ref (a0 0)), (1, .int x32), (2, .int r59), (3, .int x52)]) hx hb dX0_layHalfways_99 hl (k := 4) rfl (by rfl) (by decide) rfl (fun ls hl => ?_)
          refine lv_goto (tgt := 27) hx hb dX0_layHalfways_102 (by decide) ?_
          exact hB _ (Option.some.inj hf).symm _ _ _ hP hD hS (lv_sub hl [1, 2, 3, 4, 0] rfl)
        have hf := it_f cb hf
        refine lv_iload_n hx hb dX0_layHalfways_85 rfl (lv_at hl 3 rfl) ?_
        refine lv_aload_n hx hb dX0_layHalfways_86 rfl (lv_at hl 0 rfl) ?_
        refine va_get (D := g.1) (ci := 1) (v := .ref (a0 1)) (C := RX0) (T := TX0) (N := 5) hx hb hts layX0 hown hK.1 hP 0 rfl rfl 0 (by decide) (hts _ kw192) (fun _ h9 => h9) rfl dX0_layHalfways_87 ?_
        refine lv_iload hx hb dX0_layHalfways_90 (lv_at hl 4 rfl) ?_
        refine cIp hP hD hS hA hE (fun hPc hDc hSc => rV (As := [.int x53]) (rest := [.int x52]) hx hb hml hown hts hK (c_X8_markAt l g (fun i => a0 (i + 1)) v0_values_marks v0_values_weights v0_values_places x33 x34 x35 x36 v0_values_papers x53 (bnd_ne hf)) svV_X8_markAt kw855 rfl rfl hPc hDc hSc rfl rfl hl.1 (Nat.le_of_ble_eq_true rfl) dX0_layHalfways_92 ⟨Nat.le_of_ble_eq_true rfl, Nat.le_of_ble_eq_true rfl, rfl, rfl, Nat.le_of_ble_eq_true rfl, Nat.le_of_ble_eq_true rfl⟩) [(1, 12)] rfl rfl rfl (fun x62 H locs ex62 nx62 hP hS => ?_)
        have hf := bnd_of hf ex62
        refine va_mmin hx hb (hml.trans hl.1.symm) hown (hts _ kw865) (hts _ kw567) (hts _ kw4) (hts _ kw568) (Nat.le_of_ble_eq_true rfl) (Nat.le_of_ble_eq_true rfl) (Nat.zero_le _) (Nat.zero_le _) dX0_layHalfways_95 ?_
        obtain ⟨x63, ex63, hf⟩ := bnd hf
        refine nmI (Option.some.inj ex63) ?_
        refine lv_istore_n (lv' := [(3, .int x63), (0, .ref (a0 0)), (1, .int x32), (2, .int r59), (4, .int x53)]) hx hb dX0_layHalfways_98 rfl hl (by decide) rfl (fun ls hl => ?_)
        refine lv_iinc (v := (x53 + 1)) (lv' := [(4, .int (x53 + 1)), (3, .int x63), (0, .ref (a0 0)), (1, .int x32), (2, .int r59)]) hx hb dX0_layHalfways_99 hl (k := 4) rfl (by rfl) (by decide) rfl (fun ls hl => ?_)
        refine lv_goto (tgt := 27) hx hb dX0_layHalfways_102 (by decide) ?_
        exact hB _ (Option.some.inj hf).symm _ _ _ hP hD hS (lv_sub hl [2, 3, 4, 1, 0] rfl)
      have hf := er59
      refine lv_if_eq (tgt := 69) hx hb dX0_layHalfways_52 (by decide) (fun cb => ?_) (fun cb => ?_)
      · have hf := it_t cb hf
        have hq := Option.some.inj hf
        subst hq
        exact K _ _ _ hP hD hS (lv_sub hl [0, 1, 2, 3, 4] rfl)
      have hf := it_f cb hf
      refine lv_iload_n hx hb dX0_layHalfways_55 rfl (lv_at hl 2 rfl) ?_
      refine lv_aload_n hx hb dX0_layHalfways_56 rfl (lv_at hl 0 rfl) ?_
      refine va_get (D := g.1) (ci := 1) (v := .ref (a0 1)) (C := RX0) (T := TX0) (N := 5) hx hb hts layX0 hown hK.1 hP 0 rfl rfl 0 (by decide) (hts _ kw192) (fun _ h9 => h9) rfl dX0_layHalfways_57 ?_
      refine lv_iload hx hb dX0_layHalfways_60 (lv_at hl 4 rfl) ?_
      refine cIp hP hD hS hA hE (fun hPc hDc hSc => rV (As := [.int x53]) (rest := [.int x51]) hx hb hml hown hts hK (c_X8_markAt l g (fun i => a0 (i + 1)) v0_values_marks v0_values_weights v0_values_places x33 x34 x35 x36 v0_values_papers x53 (bnd_ne hf)) svV_X8_markAt kw855 rfl rfl hPc hDc hSc rfl rfl hl.1 (Nat.le_of_ble_eq_true rfl) dX0_layHalfways_62 ⟨Nat.le_of_ble_eq_true rfl, Nat.le_of_ble_eq_true rfl, rfl, rfl, Nat.le_of_ble_eq_true rfl, Nat.le_of_ble_eq_true rfl⟩) [(1, 12)] rfl rfl rfl (fun x64 H locs ex64 nx64 hP hS => ?_)
      have hf := bnd_of hf ex64
      refine va_mmax hx hb (hml.trans hl.1.symm) hown (hts _ kw860) (hts _ kw43) (hts _ kw4) (hts _ kw44) (Nat.le_of_ble_eq_true rfl) (Nat.le_of_ble_eq_true rfl) (Nat.zero_le _) (Nat.zero_le _) dX0_layHalfways_65 ?_
      obtain ⟨x65, ex65, hf⟩ := bnd hf
      refine nmI (Option.some.inj ex65) ?_
      refine lv_istore_n (lv' := [(2, .int x65), (0, .ref (a0 0)), (1, .int x32), (3, .int x52), (4, .int x53)]) hx hb dX0_layHalfways_68 rfl hl (by decide) rfl (fun ls hl => ?_)
      have hq := Option.some.inj hf
      subst hq
      exact K _ _ _ hP hD hS (lv_sub hl [1, 2, 0, 3, 4] rfl)
    intro H locs ls hP hD hS hl
    have hP : va_P g.1 vwCl (wX0 a0 g v0_values_marks v0_values_weights v0_values_places x33 x34 x35 x36 v0_values_papers v0_order_overs v0_order_unders v0_order_marks v0_order_wrongs v0_order_papers v0_sums v0_weighs v0_downs) H := hP
    have hD : va_D A (wX0 a0 g v0_values_marks v0_values_weights v0_values_places x33 x34 x35 x36 v0_values_papers v0_order_overs v0_order_unders v0_order_marks v0_order_wrongs v0_order_papers v0_sums v0_weighs v0_downs) := hD
    have hl : lv_has ls 5 [(0, .ref (a0 0)), (1, .int x32), (2, .int r66.1), (3, .int r66.2)] := hl
    refine lv_aload_n hx hb dX0_layHalfways_105 rfl (lv_at hl 0 rfl) ?_
    refine va_get (D := g.1) (ci := 1) (v := .ref (a0 1)) (C := RX0) (T := TX0) (N := 5) hx hb hts layX0 hown hK.1 hP 0 rfl rfl 0 (by decide) (hts _ kw192) (fun _ h9 => h9) rfl dX0_layHalfways_106 ?_
    refine lv_iconst (v := 1) hx hb dX0_layHalfways_109 (by decide) ?_
    refine lv_iload_n hx hb dX0_layHalfways_110 rfl (lv_at hl 1 rfl) ?_
    refine lv_ishl hx hb dX0_layHalfways_111 ?_
    refine lv_iload_n hx hb dX0_layHalfways_112 rfl (lv_at hl 2 rfl) ?_
    refine lv_iload_n hx hb dX0_layHalfways_113 rfl (lv_at hl 3 rfl) ?_
    refine lv_iadd hx hb dX0_layHalfways_114 ?_
    refine lv_i2l (v := (r66.1 + r66.2).toInt64) hx hb dX0_layHalfways_115 rfl ?_
    refine lv_ldc2 hx hb hown (hts _ kw866) dX0_layHalfways_116 ?_
    refine cV hP hD hS hA hE (fun hPc hDc hSc => rV (As := [.int ((1 : Int32) <<< (x32 &&& 31)), .long (r66.1 + r66.2).toInt64, .long (2 : Int64)]) (rest := []) hx hb hml hown hts hK (c_X8_lay l g (fun i => a0 (i + 1)) v0_values_marks v0_values_weights v0_values_places x33 x34 x35 x36 v0_values_papers ((1 : Int32) <<< (x32 &&& 31)) (r66.1 + r66.2).toInt64 (2 : Int64) (bnd_ne hf)) svV_X8_lay kw867 rfl rfl hPc hDc hSc rfl rfl hl.1 (Nat.le_of_ble_eq_true rfl) dX0_layHalfways_119 ⟨Nat.le_of_ble_eq_true rfl, Nat.le_of_ble_eq_true rfl, rfl, rfl, Nat.le_of_ble_eq_true rfl, Nat.le_of_ble_eq_true rfl⟩) [(1, 12)] rfl rfl rfl (fun _ => rfl) (fun x67 H locs ex67 hP hD hS => ?_)
    have hf := bnd_of hf ex67
    have hP : va_P g.1 vwCl (wX0 a0 g v0_values_marks v0_values_weights v0_values_places x67.1 x67.2.1 x67.2.2.1 x67.2.2.2 v0_values_papers v0_order_overs v0_order_unders v0_order_marks v0_order_wrongs v0_order_papers v0_sums v0_weighs v0_downs) H := hP
    have hD : va_D A (wX0 a0 g v0_values_marks v0_values_weights v0_values_places x67.1 x67.2.1 x67.2.2.1 x67.2.2.2 v0_values_papers v0_order_overs v0_order_unders v0_order_marks v0_order_wrongs v0_order_papers v0_sums v0_weighs v0_downs) := hD
    refine lv_iinc (v := (x32 + 1)) (lv' := [(1, .int (x32 + 1)), (0, .ref (a0 0)), (2, .int r66.1), (3, .int r66.2)]) hx hb dX0_layHalfways_122 hl (k := 1) rfl (by rfl) (by decide) rfl (fun ls hl => ?_)
    refine lv_goto (tgt := 2) hx hb dX0_layHalfways_125 (by decide) ?_
    exact hB _ (Option.some.inj hf).symm _ _ _ hP hD hS (lv_sub hl [1, 0] rfl)
  intro H locs ls hP hD hS hl
  have hP : va_P g.1 vwCl (wX0 a0 g v0_values_marks v0_values_weights v0_values_places r68.1 r68.2.1 r68.2.2.1 r68.2.2.2 v0_values_papers v0_order_overs v0_order_unders v0_order_marks v0_order_wrongs v0_order_papers v0_sums v0_weighs v0_downs) H := hP
  have hD : va_D A (wX0 a0 g v0_values_marks v0_values_weights v0_values_places r68.1 r68.2.1 r68.2.2.1 r68.2.2.2 v0_values_papers v0_order_overs v0_order_unders v0_order_marks v0_order_wrongs v0_order_papers v0_sums v0_weighs v0_downs) := hD
  have hl : lv_has ls 5 [] := hl
  exact retV (u := (r68.1, r68.2.1, r68.2.2.1, r68.2.2.2)) (W1 := fun u => wX0 a0 g v0_values_marks v0_values_weights v0_values_places u.1 u.2.1 u.2.2.1 u.2.2.2 v0_values_papers v0_order_overs v0_order_unders v0_order_marks v0_order_wrongs v0_order_papers v0_sums v0_weighs v0_downs) hx hb hr hlocks hS hP hD (hf0.trans hf.symm) dX0_layHalfways_128
set_option maxHeartbeats 4000000 in
set_option maxRecDepth 100000 in
theorem c_X0_work (l : Launch) (g : GG) (a0 : Nat → Nat) (v0_values_marks : (Nat → Int32)) (v0_values_weights : (Nat → Int32)) (v0_values_places : (Nat → Int32)) (v0_values_aboves : (Nat → Int32)) (v0_values_belows : (Nat → Int32)) (v0_values_reduced_above : Int64) (v0_values_reduced_below : Int64) (v0_values_papers : Int32) (v0_order_overs : (Nat → Int32)) (v0_order_unders : (Nat → Int32)) (v0_order_marks : (Nat → Int32)) (v0_order_wrongs : (Nat → Int32)) (v0_order_papers : Int32) (v0_sums : (Nat → Int32)) (v0_weighs : (Nat → Int32)) (v0_downs : (Nat → Int32)) (a1 : Nat → Nat) (v1_raws : (Nat → Int32)) (v1_kinds : (Nat → Int32)) (v1_figures : (Nat → Int32)) (v1_heavies : (Nat → Int32)) (v1_places : (Nat → Int32)) (v1_papers : Int32) (v1_lowers : (Nat → Int32)) (v1_uppers : (Nat → Int32)) (v1_rules : Int32) (v1_bounds : (Nat → Int32)) (v1_boundCount : Int32) (v1_tieWay : Int32) (v1_reached : (Nat → Int32)) (p2 : Int32) (p3 : Int32) (hne : (m_X0_work ((v0_values_marks, v0_values_weights, v0_values_places, v0_values_aboves, v0_values_belows, (v0_values_reduced_above, v0_values_reduced_below), v0_values_papers), (v0_order_overs, v0_order_unders, v0_order_marks, v0_order_wrongs, v0_order_papers), v0_sums, v0_weighs, v0_downs) (v1_raws, v1_kinds, v1_figures, v1_heavies, v1_places, v1_papers, v1_lowers, v1_uppers, v1_rules, v1_bounds, v1_boundCount, v1_tieWay, v1_reached) p2 p3) ≠ none) : Ct l g yX0_work cX0_work 4 (Option.some (Jvm.ClassFile.FieldType.object RX8)) ({ frames := 4, cells := 0, slots := 0, locals := 107 } : Room) [.ref (a0 0), .ref (a1 0), .int p2, .int p3] (wX0 a0 g v0_values_marks v0_values_weights v0_values_places v0_values_aboves v0_values_belows v0_values_reduced_above v0_values_reduced_below v0_values_papers v0_order_overs v0_order_unders v0_order_marks v0_order_wrongs v0_order_papers v0_sums v0_weighs v0_downs ++ wX6 a1 g v1_raws v1_kinds v1_figures v1_heavies v1_places v1_papers v1_lowers v1_uppers v1_rules v1_bounds v1_boundCount v1_tieWay v1_reached) (Qr g (m_X0_work ((v0_values_marks, v0_values_weights, v0_values_places, v0_values_aboves, v0_values_belows, (v0_values_reduced_above, v0_values_reduced_below), v0_values_papers), (v0_order_overs, v0_order_unders, v0_order_marks, v0_order_wrongs, v0_order_papers), v0_sums, v0_weighs, v0_downs) (v1_raws, v1_kinds, v1_figures, v1_heavies, v1_places, v1_papers, v1_lowers, v1_uppers, v1_rules, v1_bounds, v1_boundCount, v1_tieWay, v1_reached) p2 p3) (fun _ => (a0 1)) (fun u => wX0 a0 g u.1 u.2.1 u.2.2.1 u.2.2.2.1 u.2.2.2.2.1 u.2.2.2.2.2.1 u.2.2.2.2.2.2.1 u.2.2.2.2.2.2.2.1 u.2.2.2.2.2.2.2.2.1 u.2.2.2.2.2.2.2.2.2.1 u.2.2.2.2.2.2.2.2.2.2.1 u.2.2.2.2.2.2.2.2.2.2.2.1 u.2.2.2.2.2.2.2.2.2.2.2.2.1 u.2.2.2.2.2.2.2.2.2.2.2.2.2.1 u.2.2.2.2.2.2.2.2.2.2.2.2.2.2.1 u.2.2.2.2.2.2.2.2.2.2.2.2.2.2.2 ++ wX6 a1 g v1_raws v1_kinds v1_figures v1_heavies v1_places v1_papers v1_lowers v1_uppers v1_rules v1_bounds v1_boundCount v1_tieWay v1_reached)) 0 0 := by
  obtain ⟨out, hf⟩ := ne_ex hne
  have hf0 := hf
  refine Ct.of (own := RX0) (by decide +kernel) rfl (Nat.le_of_ble_eq_true rfl) ?_
  intro p e s m below meth c hx hb hr hml hown hts hlocks hin hK A H locs hA hP hD hS hE ls hl
  have hl : lv_has ls 4 [(0, .ref (a0 0)), (1, .ref (a1 0)), (2, .int p2), (3, .int p3)] := hl
  unfold m_X0_work at hf
  refine lv_aload_n hx hb dX0_work_0 rfl (lv_at hl 0 rfl) ?_
  refine va_get (D := g.1) (ci := 1) (v := .ref (a0 1)) (C := RX0) (T := TX0) (N := 5) hx hb hts layX0 hown hK.1 hP 0 rfl rfl 0 (by decide) (hts _ kw192) (fun _ h9 => h9) rfl dX0_work_1 ?_
  refine lv_aload_n hx hb dX0_work_4 rfl (lv_at hl 1 rfl) ?_
  refine cV hP hD hS hA hE (fun hPc hDc hSc => rV (As := [.ref (a1 0)]) (rest := []) hx hb hml hown hts hK (c_X8_begin l g (fun i => a0 (i + 1)) v0_values_marks v0_values_weights v0_values_places v0_values_aboves v0_values_belows v0_values_reduced_above v0_values_reduced_below v0_values_papers a1 v1_raws v1_kinds v1_figures v1_heavies v1_places v1_papers v1_lowers v1_uppers v1_rules v1_bounds v1_boundCount v1_tieWay v1_reached (bnd_ne hf)) svV_X8_begin kw839 rfl rfl hPc hDc hSc rfl rfl hl.1 (Nat.le_of_ble_eq_true rfl) dX0_work_5 ⟨Nat.le_of_ble_eq_true rfl, Nat.le_of_ble_eq_true rfl, rfl, rfl, Nat.le_of_ble_eq_true rfl, Nat.le_of_ble_eq_true rfl⟩) [(1, 12), (28, 19)] rfl rfl rfl (fun _ => rfl) (fun x1 H locs ex1 hP hD hS => ?_)
  have hf := bnd_of hf ex1
  have hP : va_P g.1 vwCl (wX0 a0 g x1.1 x1.2.1 x1.2.2.1 x1.2.2.2.1 x1.2.2.2.2.1 v0_values_reduced_above v0_values_reduced_below x1.2.2.2.2.2 v0_order_overs v0_order_unders v0_order_marks v0_order_wrongs v0_order_papers v0_sums v0_weighs v0_downs ++ wX6 a1 g v1_raws v1_kinds v1_figures v1_heavies v1_places v1_papers v1_lowers v1_uppers v1_rules v1_bounds v1_boundCount v1_tieWay v1_reached) H := hP
  have hD : va_D A (wX0 a0 g x1.1 x1.2.1 x1.2.2.1 x1.2.2.2.1 x1.2.2.2.2.1 v0_values_reduced_above v0_values_reduced_below x1.2.2.2.2.2 v0_order_overs v0_order_unders v0_order_marks v0_order_wrongs v0_order_papers v0_sums v0_weighs v0_downs ++ wX6 a1 g v1_raws v1_kinds v1_figures v1_heavies v1_places v1_papers v1_lowers v1_uppers v1_rules v1_bounds v1_boundCount v1_tieWay v1_reached) := hD
  refine lv_aload_n hx hb dX0_work_8 rfl (lv_at hl 0 rfl) ?_
  refine va_get (D := g.1) (ci := 1) (v := .ref (a0 1)) (C := RX0) (T := TX0) (N := 5) hx hb hts layX0 hown hK.1 hP 0 rfl rfl 0 (by decide) (hts _ kw192) (fun _ h9 => h9) rfl dX0_work_9 ?_
  refine lv_aload_n hx hb dX0_work_12 rfl (lv_at hl 1 rfl) ?_
  refine lv_iload_n hx hb dX0_work_13 rfl (lv_at hl 3 rfl) ?_
  refine cIp hP hD hS hA hE (fun hPc hDc hSc => rV (As := [.ref (a1 0), .int p3]) (rest := []) hx hb hml hown hts hK (c_X8_breakAny l g (fun i => a0 (i + 1)) x1.1 x1.2.1 x1.2.2.1 x1.2.2.2.1 x1.2.2.2.2.1 v0_values_reduced_above v0_values_reduced_below x1.2.2.2.2.2 a1 v1_raws v1_kinds v1_figures v1_heavies v1_places v1_papers v1_lowers v1_uppers v1_rules v1_bounds v1_boundCount v1_tieWay v1_reached p3 (bnd_ne hf)) svV_X8_breakAny kw840 rfl rfl hPc hDc hSc rfl rfl hl.1 (Nat.le_of_ble_eq_true rfl) dX0_work_14 ⟨Nat.le_of_ble_eq_true rfl, Nat.le_of_ble_eq_true rfl, rfl, rfl, Nat.le_of_ble_eq_true rfl, Nat.le_of_ble_eq_true rfl⟩) [(1, 12), (28, 19)] rfl rfl rfl (fun x2 H locs ex2 nx2 hP hS => ?_)
  have hf := bnd_of hf ex2
  refine lv_if_ne (tgt := 25) hx hb dX0_work_17 (by decide) (fun cb => ?_) (fun cb => ?_)
  · have hf := it_f cb hf
    refine lv_aload_n hx hb dX0_work_25 rfl (lv_at hl 0 rfl) ?_
    refine va_get (D := g.1) (ci := 1) (v := .ref (a0 13)) (C := RX0) (T := TX0) (N := 5) hx hb hts layX0 hown hK.1 hP 0 rfl rfl 1 (by decide) (hts _ kw193) (fun _ h9 => h9) rfl dX0_work_26 ?_
    refine lv_aload_n hx hb dX0_work_29 rfl (lv_at hl 1 rfl) ?_
    refine lv_iload_n hx hb dX0_work_30 rfl (lv_at hl 3 rfl) ?_
    refine cV hP hD hS hA hE (fun hPc hDc hSc => rV (As := [.ref (a1 0), .int p3]) (rest := []) hx hb hml hown hts hK (c_X5_work l g (fun i => a0 (i + 13)) v0_order_overs v0_order_unders v0_order_marks v0_order_wrongs v0_order_papers a1 v1_raws v1_kinds v1_figures v1_heavies v1_places v1_papers v1_lowers v1_uppers v1_rules v1_bounds v1_boundCount v1_tieWay v1_reached p3 (bnd_ne hf)) svV_X5_work kw850 rfl rfl hPc hDc hSc rfl rfl hl.1 (Nat.le_of_ble_eq_true rfl) dX0_work_31 ⟨Nat.le_of_ble_eq_true rfl, Nat.le_of_ble_eq_true rfl, rfl, rfl, Nat.le_of_ble_eq_true rfl, Nat.le_of_ble_eq_true rfl⟩) [(13, 9), (28, 19)] rfl rfl rfl (fun _ => rfl) (fun x3 H locs ex3 hP hD hS => ?_)
    have hf := bnd_of hf ex3
    have hP : va_P g.1 vwCl (wX0 a0 g x1.1 x1.2.1 x1.2.2.1 x1.2.2.2.1 x1.2.2.2.2.1 v0_values_reduced_above v0_values_reduced_below x1.2.2.2.2.2 x3.1 x3.2.1 x3.2.2.1 x3.2.2.2.1 x3.2.2.2.2 v0_sums v0_weighs v0_downs ++ wX6 a1 g v1_raws v1_kinds v1_figures v1_heavies v1_places v1_papers v1_lowers v1_uppers v1_rules v1_bounds v1_boundCount v1_tieWay v1_reached) H := hP
    have hD : va_D A (wX0 a0 g x1.1 x1.2.1 x1.2.2.1 x1.2.2.2.1 x1.2.2.2.2.1 v0_values_reduced_above v0_values_reduced_below x1.2.2.2.2.2 x3.1 x3.2.1 x3.2.2.1 x3.2.2.2.1 x3.2.2.2.2 v0_sums v0_weighs v0_downs ++ wX6 a1 g v1_raws v1_kinds v1_figures v1_heavies v1_places v1_papers v1_lowers v1_uppers v1_rules v1_bounds v1_boundCount v1_tieWay v1_reached) := hD
    refine lv_iload_n hx hb dX0_work_34 rfl (lv_at hl 2 rfl) ?_
    refine lv_iconst (v := 2) hx hb dX0_work_35 (by decide) ?_
    refine lv_icmp_ne (tgt := 48) hx hb dX0_work_36 (by decide) (fun cb => ?_) (fun cb => ?_)
    · have hf := it_f cb hf
      refine lv_aload_n hx hb dX0_work_48 rfl (lv_at hl 0 rfl) ?_
      refine cV hP hD hS hA hE (fun hPc hDc hSc => rV (As := []) (rest := []) hx hb hml hown hts hK (c_X0_fillSets l g a0 x1.1 x1.2.1 x1.2.2.1 x1.2.2.2.1 x1.2.2.2.2.1 v0_values_reduced_above v0_values_reduced_below x1.2.2.2.2.2 x3.1 x3.2.1 x3.2.2.1 x3.2.2.2.1 x3.2.2.2.2 v0_sums v0_weighs v0_downs (bnd_ne hf)) svV_X0_fillSets kw868 rfl rfl hPc hDc hSc rfl rfl hl.1 (Nat.le_of_ble_eq_true rfl) dX0_work_49 ⟨Nat.le_of_ble_eq_true rfl, Nat.le_of_ble_eq_true rfl, rfl, rfl, Nat.le_of_ble_eq_true rfl, Nat.le_of_ble_eq_true rfl⟩) [(0, 28)] rfl rfl rfl (fun _ => rfl) (fun x4 H locs ex4 hP hD hS => ?_)
      have hf := bnd_of hf ex4
      have hP : va_P g.1 vwCl (wX0 a0 g x1.1 x1.2.1 x1.2.2.1 x1.2.2.2.1 x1.2.2.2.2.1 v0_values_reduced_above v0_values_reduced_below x1.2.2.2.2.2 x3.1 x3.2.1 x3.2.2.1 x3.2.2.2.1 x3.2.2.2.2 x4.1 x4.2.1 x4.2.2 ++ wX6 a1 g v1_raws v1_kinds v1_figures v1_heavies v1_places v1_papers v1_lowers v1_uppers v1_rules v1_bounds v1_boundCount v1_tieWay v1_reached) H := hP
      have hD : va_D A (wX0 a0 g x1.1 x1.2.1 x1.2.2.1 x1.2.2.2.1 x1.2.2.2.2.1 v0_values_reduced_above v0_values_reduced_below x1.2.2.2.2.2 x3.1 x3.2.1 x3.2.2.1 x3.2.2.2.1 x3.2.2.2.2 x4.1 x4.2.1 x4.2.2 ++ wX6 a1 g v1_raws v1_kinds v1_figures v1_heavies v1_places v1_papers v1_lowers v1_uppers v1_rules v1_bounds v1_boundCount v1_tieWay v1_reached) := hD
      refine lv_iload_n hx hb dX0_work_52 rfl (lv_at hl 2 rfl) ?_
      refine lv_if_ne (tgt := 63) hx hb dX0_work_53 (by decide) (fun cb => ?_) (fun cb => ?_)
      · have hf := it_f cb hf
        refine lv_aload_n hx hb dX0_work_63 rfl (lv_at hl 0 rfl) ?_
        refine cV hP hD hS hA hE (fun hPc hDc hSc => rV (As := []) (rest := []) hx hb hml hown hts hK (c_X0_layLeastAbsolutes l g a0 x1.1 x1.2.1 x1.2.2.1 x1.2.2.2.1 x1.2.2.2.2.1 v0_values_reduced_above v0_values_reduced_below x1.2.2.2.2.2 x3.1 x3.2.1 x3.2.2.1 x3.2.2.2.1 x3.2.2.2.2 x4.1 x4.2.1 x4.2.2 (bnd_ne hf)) svV_X0_layLeastAbsolutes kw887 rfl rfl hPc hDc hSc rfl rfl hl.1 (Nat.le_of_ble_eq_true rfl) dX0_work_64 ⟨Nat.le_of_ble_eq_true rfl, Nat.le_of_ble_eq_true rfl, rfl, rfl, Nat.le_of_ble_eq_true rfl, Nat.le_of_ble_eq_true rfl⟩) [(0, 28)] rfl rfl rfl (fun _ => rfl) (fun x5 H locs ex5 hP hD hS => ?_)
        have hf := bnd_of hf ex5
        have hP : va_P g.1 vwCl (wX0 a0 g x1.1 x1.2.1 x1.2.2.1 x5.1 x5.2.1 x5.2.2.1 x5.2.2.2 x1.2.2.2.2.2 x3.1 x3.2.1 x3.2.2.1 x3.2.2.2.1 x3.2.2.2.2 x4.1 x4.2.1 x4.2.2 ++ wX6 a1 g v1_raws v1_kinds v1_figures v1_heavies v1_places v1_papers v1_lowers v1_uppers v1_rules v1_bounds v1_boundCount v1_tieWay v1_reached) H := hP
        have hD : va_D A (wX0 a0 g x1.1 x1.2.1 x1.2.2.1 x5.1 x5.2.1 x5.2.2.1 x5.2.2.2 x1.2.2.2.2.2 x3.1 x3.2.1 x3.2.2.1 x3.2.2.2.1 x3.2.2.2.2 x4.1 x4.2.1 x4.2.2 ++ wX6 a1 g v1_raws v1_kinds v1_figures v1_heavies v1_places v1_papers v1_lowers v1_uppers v1_rules v1_bounds v1_boundCount v1_tieWay v1_reached) := hD
        refine lv_aload_n hx hb dX0_work_67 rfl (lv_at hl 0 rfl) ?_
        refine va_get (D := g.1) (ci := 1) (v := .ref (a0 1)) (C := RX0) (T := TX0) (N := 5) hx hb hts layX0 hown hK.1 hP 0 rfl rfl 0 (by decide) (hts _ kw192) (fun _ h9 => h9) rfl dX0_work_68 ?_
        exact retR (u := (x1.1, x1.2.1, x1.2.2.1, x5.1, x5.2.1, x5.2.2.1, x5.2.2.2, x1.2.2.2.2.2, x3.1, x3.2.1, x3.2.2.1, x3.2.2.2.1, x3.2.2.2.2, x4.1, x4.2.1, x4.2.2)) (ad := fun _ => (a0 1)) (W1 := fun u => wX0 a0 g u.1 u.2.1 u.2.2.1 u.2.2.2.1 u.2.2.2.2.1 u.2.2.2.2.2.1 u.2.2.2.2.2.2.1 u.2.2.2.2.2.2.2.1 u.2.2.2.2.2.2.2.2.1 u.2.2.2.2.2.2.2.2.2.1 u.2.2.2.2.2.2.2.2.2.2.1 u.2.2.2.2.2.2.2.2.2.2.2.1 u.2.2.2.2.2.2.2.2.2.2.2.2.1 u.2.2.2.2.2.2.2.2.2.2.2.2.2.1 u.2.2.2.2.2.2.2.2.2.2.2.2.2.2.1 u.2.2.2.2.2.2.2.2.2.2.2.2.2.2.2 ++ wX6 a1 g v1_raws v1_kinds v1_figures v1_heavies v1_places v1_papers v1_lowers v1_uppers v1_rules v1_bounds v1_boundCount v1_tieWay v1_reached) hx hb hr (Or.inl ⟨_, rfl⟩) hlocks hS hP hD (hf0.trans hf.symm) rfl dX0_work_71
      have hf := it_t cb hf
      refine lv_aload_n hx hb dX0_work_56 rfl (lv_at hl 0 rfl) ?_
      refine cV hP hD hS hA hE (fun hPc hDc hSc => rV (As := []) (rest := []) hx hb hml hown hts hK (c_X0_layLeastSquares l g a0 x1.1 x1.2.1 x1.2.2.1 x1.2.2.2.1 x1.2.2.2.2.1 v0_values_reduced_above v0_values_reduced_below x1.2.2.2.2.2 x3.1 x3.2.1 x3.2.2.1 x3.2.2.2.1 x3.2.2.2.2 x4.1 x4.2.1 x4.2.2 (bnd_ne hf)) svV_X0_layLeastSquares kw877 rfl rfl hPc hDc hSc rfl rfl hl.1 (Nat.le_of_ble_eq_true rfl) dX0_work_57 ⟨Nat.le_of_ble_eq_true rfl, Nat.le_of_ble_eq_true rfl, rfl, rfl, Nat.le_of_ble_eq_true rfl, Nat.le_of_ble_eq_true rfl⟩) [(0, 28)] rfl rfl rfl (fun _ => rfl) (fun x6 H locs ex6 hP hD hS => ?_)
      have hf := bnd_of hf ex6
      have hP : va_P g.1 vwCl (wX0 a0 g x1.1 x1.2.1 x1.2.2.1 x6.1 x6.2.1 x6.2.2.1 x6.2.2.2 x1.2.2.2.2.2 x3.1 x3.2.1 x3.2.2.1 x3.2.2.2.1 x3.2.2.2.2 x4.1 x4.2.1 x4.2.2 ++ wX6 a1 g v1_raws v1_kinds v1_figures v1_heavies v1_places v1_papers v1_lowers v1_uppers v1_rules v1_bounds v1_boundCount v1_tieWay v1_reached) H := hP
      have hD : va_D A (wX0 a0 g x1.1 x1.2.1 x1.2.2.1 x6.1 x6.2.1 x6.2.2.1 x6.2.2.2 x1.2.2.2.2.2 x3.1 x3.2.1 x3.2.2.1 x3.2.2.2.1 x3.2.2.2.2 x4.1 x4.2.1 x4.2.2 ++ wX6 a1 g v1_raws v1_kinds v1_figures v1_heavies v1_places v1_papers v1_lowers v1_uppers v1_rules v1_bounds v1_boundCount v1_tieWay v1_reached) := hD
      refine lv_goto (tgt := 67) hx hb dX0_work_60 (by decide) ?_
      refine lv_aload_n hx hb dX0_work_67 rfl (lv_at hl 0 rfl) ?_
      refine va_get (D := g.1) (ci := 1) (v := .ref (a0 1)) (C := RX0) (T := TX0) (N := 5) hx hb hts layX0 hown hK.1 hP 0 rfl rfl 0 (by decide) (hts _ kw192) (fun _ h9 => h9) rfl dX0_work_68 ?_
      exact retR (u := (x1.1, x1.2.1, x1.2.2.1, x6.1, x6.2.1, x6.2.2.1, x6.2.2.2, x1.2.2.2.2.2, x3.1, x3.2.1, x3.2.2.1, x3.2.2.2.1, x3.2.2.2.2, x4.1, x4.2.1, x4.2.2)) (ad := fun _ => (a0 1)) (W1 := fun u => wX0 a0 g u.1 u.2.1 u.2.2.1 u.2.2.2.1 u.2.2.2.2.1 u.2.2.2.2.2.1 u.2.2.2.2.2.2.1 u.2.2.2.2.2.2.2.1 u.2.2.2.2.2.2.2.2.1 u.2.2.2.2.2.2.2.2.2.1 u.2.2.2.2.2.2.2.2.2.2.1 u.2.2.2.2.2.2.2.2.2.2.2.1 u.2.2.2.2.2.2.2.2.2.2.2.2.1 u.2.2.2.2.2.2.2.2.2.2.2.2.2.1 u.2.2.2.2.2.2.2.2.2.2.2.2.2.2.1 u.2.2.2.2.2.2.2.2.2.2.2.2.2.2.2 ++ wX6 a1 g v1_raws v1_kinds v1_figures v1_heavies v1_places v1_papers v1_lowers v1_uppers v1_rules v1_bounds v1_boundCount v1_tieWay v1_reached) hx hb hr (Or.inl ⟨_, rfl⟩) hlocks hS hP hD (hf0.trans hf.symm) rfl dX0_work_71
    have hf := it_t cb hf
    refine lv_aload_n hx hb dX0_work_39 rfl (lv_at hl 0 rfl) ?_
    refine cV hP hD hS hA hE (fun hPc hDc hSc => rV (As := []) (rest := []) hx hb hml hown hts hK (c_X0_layHalfways l g a0 x1.1 x1.2.1 x1.2.2.1 x1.2.2.2.1 x1.2.2.2.2.1 v0_values_reduced_above v0_values_reduced_below x1.2.2.2.2.2 x3.1 x3.2.1 x3.2.2.1 x3.2.2.2.1 x3.2.2.2.2 v0_sums v0_weighs v0_downs (bnd_ne hf)) svV_X0_layHalfways kw851 rfl rfl hPc hDc hSc rfl rfl hl.1 (Nat.le_of_ble_eq_true rfl) dX0_work_40 ⟨Nat.le_of_ble_eq_true rfl, Nat.le_of_ble_eq_true rfl, rfl, rfl, Nat.le_of_ble_eq_true rfl, Nat.le_of_ble_eq_true rfl⟩) [(0, 28)] rfl rfl rfl (fun _ => rfl) (fun x7 H locs ex7 hP hD hS => ?_)
    have hf := bnd_of hf ex7
    have hP : va_P g.1 vwCl (wX0 a0 g x1.1 x1.2.1 x1.2.2.1 x7.1 x7.2.1 x7.2.2.1 x7.2.2.2 x1.2.2.2.2.2 x3.1 x3.2.1 x3.2.2.1 x3.2.2.2.1 x3.2.2.2.2 v0_sums v0_weighs v0_downs ++ wX6 a1 g v1_raws v1_kinds v1_figures v1_heavies v1_places v1_papers v1_lowers v1_uppers v1_rules v1_bounds v1_boundCount v1_tieWay v1_reached) H := hP
    have hD : va_D A (wX0 a0 g x1.1 x1.2.1 x1.2.2.1 x7.1 x7.2.1 x7.2.2.1 x7.2.2.2 x1.2.2.2.2.2 x3.1 x3.2.1 x3.2.2.1 x3.2.2.2.1 x3.2.2.2.2 v0_sums v0_weighs v0_downs ++ wX6 a1 g v1_raws v1_kinds v1_figures v1_heavies v1_places v1_papers v1_lowers v1_uppers v1_rules v1_bounds v1_boundCount v1_tieWay v1_reached) := hD
    refine lv_aload_n hx hb dX0_work_43 rfl (lv_at hl 0 rfl) ?_
    refine va_get (D := g.1) (ci := 1) (v := .ref (a0 1)) (C := RX0) (T := TX0) (N := 5) hx hb hts layX0 hown hK.1 hP 0 rfl rfl 0 (by decide) (hts _ kw192) (fun _ h9 => h9) rfl dX0_work_44 ?_
    exact retR (u := (x1.1, x1.2.1, x1.2.2.1, x7.1, x7.2.1, x7.2.2.1, x7.2.2.2, x1.2.2.2.2.2, x3.1, x3.2.1, x3.2.2.1, x3.2.2.2.1, x3.2.2.2.2, v0_sums, v0_weighs, v0_downs)) (ad := fun _ => (a0 1)) (W1 := fun u => wX0 a0 g u.1 u.2.1 u.2.2.1 u.2.2.2.1 u.2.2.2.2.1 u.2.2.2.2.2.1 u.2.2.2.2.2.2.1 u.2.2.2.2.2.2.2.1 u.2.2.2.2.2.2.2.2.1 u.2.2.2.2.2.2.2.2.2.1 u.2.2.2.2.2.2.2.2.2.2.1 u.2.2.2.2.2.2.2.2.2.2.2.1 u.2.2.2.2.2.2.2.2.2.2.2.2.1 u.2.2.2.2.2.2.2.2.2.2.2.2.2.1 u.2.2.2.2.2.2.2.2.2.2.2.2.2.2.1 u.2.2.2.2.2.2.2.2.2.2.2.2.2.2.2 ++ wX6 a1 g v1_raws v1_kinds v1_figures v1_heavies v1_places v1_papers v1_lowers v1_uppers v1_rules v1_bounds v1_boundCount v1_tieWay v1_reached) hx hb hr (Or.inl ⟨_, rfl⟩) hlocks hS hP hD (hf0.trans hf.symm) rfl dX0_work_47
  have hf := it_t cb hf
  refine lv_aload_n hx hb dX0_work_20 rfl (lv_at hl 0 rfl) ?_
  refine va_get (D := g.1) (ci := 1) (v := .ref (a0 1)) (C := RX0) (T := TX0) (N := 5) hx hb hts layX0 hown hK.1 hP 0 rfl rfl 0 (by decide) (hts _ kw192) (fun _ h9 => h9) rfl dX0_work_21 ?_
  exact retR (u := (x1.1, x1.2.1, x1.2.2.1, x1.2.2.2.1, x1.2.2.2.2.1, v0_values_reduced_above, v0_values_reduced_below, x1.2.2.2.2.2, v0_order_overs, v0_order_unders, v0_order_marks, v0_order_wrongs, v0_order_papers, v0_sums, v0_weighs, v0_downs)) (ad := fun _ => (a0 1)) (W1 := fun u => wX0 a0 g u.1 u.2.1 u.2.2.1 u.2.2.2.1 u.2.2.2.2.1 u.2.2.2.2.2.1 u.2.2.2.2.2.2.1 u.2.2.2.2.2.2.2.1 u.2.2.2.2.2.2.2.2.1 u.2.2.2.2.2.2.2.2.2.1 u.2.2.2.2.2.2.2.2.2.2.1 u.2.2.2.2.2.2.2.2.2.2.2.1 u.2.2.2.2.2.2.2.2.2.2.2.2.1 u.2.2.2.2.2.2.2.2.2.2.2.2.2.1 u.2.2.2.2.2.2.2.2.2.2.2.2.2.2.1 u.2.2.2.2.2.2.2.2.2.2.2.2.2.2.2 ++ wX6 a1 g v1_raws v1_kinds v1_figures v1_heavies v1_places v1_papers v1_lowers v1_uppers v1_rules v1_bounds v1_boundCount v1_tieWay v1_reached) hx hb hr (Or.inl ⟨_, rfl⟩) hlocks hS hP hD (hf0.trans hf.symm) rfl dX0_work_24
set_option maxHeartbeats 4000000 in
set_option maxRecDepth 100000 in
theorem c_X4_standBehind (l : Launch) (g : GG) (a0 : Nat → Nat) (v0_values_marks : (Nat → Int32)) (v0_values_weights : (Nat → Int32)) (v0_values_places : (Nat → Int32)) (v0_values_aboves : (Nat → Int32)) (v0_values_belows : (Nat → Int32)) (v0_values_reduced_above : Int64) (v0_values_reduced_below : Int64) (v0_values_papers : Int32) (v0_blocks : (Nat → Int32)) (v0_tops : (Nat → Int32)) (v0_bottoms : (Nat → Int32)) (v0_blocksNow : Int32) (v0_mergesDone : Int32) (v0_loss : Int32) (p1 : Int32) (hne : (m_X4_standBehind ((v0_values_marks, v0_values_weights, v0_values_places, v0_values_aboves, v0_values_belows, (v0_values_reduced_above, v0_values_reduced_below), v0_values_papers), v0_blocks, v0_tops, v0_bottoms, v0_blocksNow, v0_mergesDone, v0_loss) p1) ≠ none) : Ct l g yX4_standBehind cX4_standBehind 2 none ({ frames := 1, cells := 0, slots := 0, locals := 22 } : Room) [.ref (a0 0), .int p1] (wX4 a0 g v0_values_marks v0_values_weights v0_values_places v0_values_aboves v0_values_belows v0_values_reduced_above v0_values_reduced_below v0_values_papers v0_blocks v0_tops v0_bottoms v0_blocksNow v0_mergesDone v0_loss) (Qv g (m_X4_standBehind ((v0_values_marks, v0_values_weights, v0_values_places, v0_values_aboves, v0_values_belows, (v0_values_reduced_above, v0_values_reduced_below), v0_values_papers), v0_blocks, v0_tops, v0_bottoms, v0_blocksNow, v0_mergesDone, v0_loss) p1) (fun u => wX4 a0 g v0_values_marks v0_values_weights v0_values_places v0_values_aboves v0_values_belows v0_values_reduced_above v0_values_reduced_below v0_values_papers u.1 v0_tops v0_bottoms u.2 v0_mergesDone v0_loss)) 0 0 := by
  obtain ⟨out, hf⟩ := ne_ex hne
  have hf0 := hf
  refine Ct.of (own := RX4) (by decide +kernel) rfl (Nat.le_of_ble_eq_true rfl) ?_
  intro p e s m below meth c hx hb hr hml hown hts hlocks hin hK A H locs hA hP hD hS hE ls hl
  have hl : lv_has ls 2 [(0, .ref (a0 0)), (1, .int p1)] := hl
  unfold m_X4_standBehind at hf
  refine lv_aload_n hx hb dX4_standBehind_0 rfl (lv_at hl 0 rfl) ?_
  refine va_get (D := g.1) (ci := 5) (v := .ref (a0 13)) (C := RX4) (T := TX4) (N := 7) hx hb hts layX4 hown hK.1 hP 0 rfl rfl 1 (by decide) (hts _ kw169) (fun _ h9 => h9) rfl dX4_standBehind_1 ?_
  refine lv_aload_n hx hb dX4_standBehind_4 rfl (lv_at hl 0 rfl) ?_
  refine va_get (D := g.1) (ci := 5) (v := .int v0_blocksNow) (C := RX4) (T := TX4) (N := 7) hx hb hts layX4 hown hK.1 hP 0 rfl rfl 4 (by decide) (hts _ kw172) (fun _ h9 => h9) rfl dX4_standBehind_5 ?_
  refine lv_iload_n hx hb dX4_standBehind_8 rfl (lv_at hl 1 rfl) ?_
  refine cV hP hD hS hA hE (fun hPc hDc hSc => rV (As := [.int v0_blocksNow, .int p1]) (rest := []) hx hb hml hown hts hK (c_X2_set l g (fun i => a0 (i + 13)) 7 v0_blocks v0_blocksNow p1 (bnd_ne hf)) svV_X2_set kw710 rfl rfl hPc hDc hSc rfl rfl hl.1 (Nat.le_of_ble_eq_true rfl) dX4_standBehind_9 ⟨Nat.le_of_ble_eq_true rfl, Nat.le_of_ble_eq_true rfl, rfl, rfl, Nat.le_of_ble_eq_true rfl, Nat.le_of_ble_eq_true rfl⟩) [(13, 2)] rfl rfl rfl (fun _ => rfl) (fun x1 H locs ex1 hP hD hS => ?_)
  have hf := bnd_of hf ex1
  have hP : va_P g.1 vwCl (wX4 a0 g v0_values_marks v0_values_weights v0_values_places v0_values_aboves v0_values_belows v0_values_reduced_above v0_values_reduced_below v0_values_papers x1 v0_tops v0_bottoms v0_blocksNow v0_mergesDone v0_loss) H := hP
  have hD : va_D A (wX4 a0 g v0_values_marks v0_values_weights v0_values_places v0_values_aboves v0_values_belows v0_values_reduced_above v0_values_reduced_below v0_values_papers x1 v0_tops v0_bottoms v0_blocksNow v0_mergesDone v0_loss) := hD
  refine lv_aload_n hx hb dX4_standBehind_12 rfl (lv_at hl 0 rfl) ?_
  refine lv_dup hx hb dX4_standBehind_13 rfl ?_
  refine va_get (D := g.1) (ci := 5) (v := .int v0_blocksNow) (C := RX4) (T := TX4) (N := 7) hx hb hts layX4 hown hK.1 hP 0 rfl rfl 4 (by decide) (hts _ kw172) (fun _ h9 => h9) rfl dX4_standBehind_14 ?_
  refine lv_iconst (v := 1) hx hb dX4_standBehind_17 (by decide) ?_
  refine lv_iadd hx hb dX4_standBehind_18 ?_
  refine va_put (D := g.1) (ci := 5) (v := .int (v0_blocksNow + (1 : Int32))) (ty := .int) (C := RX4) (T := TX4) (N := 7) hx hb hts layX4 tyX4 tyX4_ok nmX4 hown hK.1 hP hD hS 0 rfl rfl 4 (by decide) (hts _ kw172) (fun _ h9 => h9) rfl (tyX4_ok 4 (by decide)) rfl rfl (Nat.le_of_ble_eq_true rfl) dX4_standBehind_19 (fun H locs hP hD hS => ?_)
  have hP : va_P g.1 vwCl (wX4 a0 g v0_values_marks v0_values_weights v0_values_places v0_values_aboves v0_values_belows v0_values_reduced_above v0_values_reduced_below v0_values_papers x1 v0_tops v0_bottoms (v0_blocksNow + (1 : Int32)) v0_mergesDone v0_loss) H := hP
  have hD : va_D A (wX4 a0 g v0_values_marks v0_values_weights v0_values_places v0_values_aboves v0_values_belows v0_values_reduced_above v0_values_reduced_below v0_values_papers x1 v0_tops v0_bottoms (v0_blocksNow + (1 : Int32)) v0_mergesDone v0_loss) := hD
  exact retV (u := (x1, (v0_blocksNow + (1 : Int32)))) (W1 := fun u => wX4 a0 g v0_values_marks v0_values_weights v0_values_places v0_values_aboves v0_values_belows v0_values_reduced_above v0_values_reduced_below v0_values_papers u.1 v0_tops v0_bottoms u.2 v0_mergesDone v0_loss) hx hb hr hlocks hS hP hD (hf0.trans hf.symm) dX4_standBehind_22
set_option maxHeartbeats 4000000 in
set_option maxRecDepth 100000 in
theorem c_X4_standByPlaces (l : Launch) (g : GG) (a0 : Nat → Nat) (v0_values_marks : (Nat → Int32)) (v0_values_weights : (Nat → Int32)) (v0_values_places : (Nat → Int32)) (v0_values_aboves : (Nat → Int32)) (v0_values_belows : (Nat → Int32)) (v0_values_reduced_above : Int64) (v0_values_reduced_below : Int64) (v0_values_papers : Int32) (v0_blocks : (Nat → Int32)) (v0_tops : (Nat → Int32)) (v0_bottoms : (Nat → Int32)) (v0_blocksNow : Int32) (v0_mergesDone : Int32) (v0_loss : Int32) (hne : (m_X4_standByPlaces ((v0_values_marks, v0_values_weights, v0_values_places, v0_values_aboves, v0_values_belows, (v0_values_reduced_above, v0_values_reduced_below), v0_values_papers), v0_blocks, v0_tops, v0_bottoms, v0_blocksNow, v0_mergesDone, v0_loss)) ≠ none) : Ct l g yX4_standByPlaces cX4_standByPlaces 3 none ({ frames := 2, cells := 0, slots := 0, locals := 44 } : Room) [.ref (a0 0)] (wX4 a0 g v0_values_marks v0_values_weights v0_values_places v0_values_aboves v0_values_belows v0_values_reduced_above v0_values_reduced_below v0_values_papers v0_blocks v0_tops v0_bottoms v0_blocksNow v0_mergesDone v0_loss) (Qv g (m_X4_standByPlaces ((v0_values_marks, v0_values_weights, v0_values_places, v0_values_aboves, v0_values_belows, (v0_values_reduced_above, v0_values_reduced_below), v0_values_papers), v0_blocks, v0_tops, v0_bottoms, v0_blocksNow, v0_mergesDone, v0_loss)) (fun u => wX4 a0 g v0_values_marks v0_values_weights v0_values_places v0_values_aboves v0_values_belows v0_values_reduced_above v0_values_reduced_below v0_values_papers u.1 v0_tops v0_bottoms u.2 v0_mergesDone v0_loss)) 0 0 := by
  obtain ⟨out, hf⟩ := ne_ex hne
  have hf0 := hf
  refine Ct.of (own := RX4) (by decide +kernel) rfl (Nat.le_of_ble_eq_true rfl) ?_
  intro p e s m below meth c hx hb hr hml hown hts hlocks hin hK A H locs hA hP hD hS hE ls hl
  have hl : lv_has ls 3 [(0, .ref (a0 0))] := hl
  unfold m_X4_standByPlaces at hf
  refine lv_iconst (v := 0) hx hb dX4_standByPlaces_0 (by decide) ?_
  refine lv_istore_n (lv' := [(1, .int (0 : Int32)), (0, .ref (a0 0))]) hx hb dX4_standByPlaces_1 rfl hl (by decide) rfl (fun ls hl => ?_)
  obtain ⟨r8, er8, hf⟩ := bnd hf
  refine lp_W (P := fun z => ∀ (H : Heap) (locs : List Loc) (ls : Array Slot), va_P g.1 vwCl (wX4 a0 g v0_values_marks v0_values_weights v0_values_places v0_values_aboves v0_values_belows v0_values_reduced_above v0_values_reduced_below v0_values_papers z.2.1 v0_tops v0_bottoms z.2.2 v0_mergesDone v0_loss) H → va_D A (wX4 a0 g v0_values_marks v0_values_weights v0_values_places v0_values_aboves v0_values_belows v0_values_reduced_above v0_values_reduced_below v0_values_papers z.2.1 v0_tops v0_bottoms z.2.2 v0_mergesDone v0_loss) → va_S A s.heap H locs → lv_has ls 3 [(0, .ref (a0 0)), (1, .int z.1)] → W p l e { frames := 2, cells := 0, slots := 0, locals := 44 } s m [.ref (a0 0)].toArray below meth c H locs 0 0 (MQ below (Qv g (m_X4_standByPlaces ((v0_values_marks, v0_values_weights, v0_values_places, v0_values_aboves, v0_values_belows, (v0_values_reduced_above, v0_values_reduced_below), v0_values_papers), v0_blocks, v0_tops, v0_bottoms, v0_blocksNow, v0_mergesDone, v0_loss)) (fun u => wX4 a0 g v0_values_marks v0_values_weights v0_values_places v0_values_aboves v0_values_belows v0_values_reduced_above v0_values_reduced_below v0_values_papers u.1 v0_tops v0_bottoms u.2 v0_mergesDone v0_loss) A) [.ref (a0 0)].toArray s 0 0 A) (F0 m 2 ls [])) (E := fun r8 => ∀ (H : Heap) (locs : List Loc) (ls : Array Slot), va_P g.1 vwCl (wX4 a0 g v0_values_marks v0_values_weights v0_values_places v0_values_aboves v0_values_belows v0_values_reduced_above v0_values_reduced_below v0_values_papers r8.1 v0_tops v0_bottoms r8.2 v0_mergesDone v0_loss) H → va_D A (wX4 a0 g v0_values_marks v0_values_weights v0_values_places v0_values_aboves v0_values_belows v0_values_reduced_above v0_values_reduced_below v0_values_papers r8.1 v0_tops v0_bottoms r8.2 v0_mergesDone v0_loss) → va_S A s.heap H locs → lv_has ls 3 [] → W p l e { frames := 2, cells := 0, slots := 0, locals := 44 } s m [.ref (a0 0)].toArray below meth c H locs 0 0 (MQ below (Qv g (m_X4_standByPlaces ((v0_values_marks, v0_values_weights, v0_values_places, v0_values_aboves, v0_values_belows, (v0_values_reduced_above, v0_values_reduced_below), v0_values_papers), v0_blocks, v0_tops, v0_bottoms, v0_blocksNow, v0_mergesDone, v0_loss)) (fun u => wX4 a0 g v0_values_marks v0_values_weights v0_values_places v0_values_aboves v0_values_belows v0_values_reduced_above v0_values_reduced_below v0_values_papers u.1 v0_tops v0_bottoms u.2 v0_mergesDone v0_loss) A) [.ref (a0 0)].toArray s 0 0 A) (F0 m 32 ls [])) ?_ fu _ r8 er8 ?_ _ _ _ hP hD hS (lv_sub hl [1, 0] rfl)
  · rintro ⟨x3, x4, x5⟩ y hf hB hXt H locs ls hP hD hS hl
    have hP : va_P g.1 vwCl (wX4 a0 g v0_values_marks v0_values_weights v0_values_places v0_values_aboves v0_values_belows v0_values_reduced_above v0_values_reduced_below v0_values_papers x4 v0_tops v0_bottoms x5 v0_mergesDone v0_loss) H := hP
    have hD : va_D A (wX4 a0 g v0_values_marks v0_values_weights v0_values_places v0_values_aboves v0_values_belows v0_values_reduced_above v0_values_reduced_below v0_values_papers x4 v0_tops v0_bottoms x5 v0_mergesDone v0_loss) := hD
    have hl : lv_has ls 3 [(0, .ref (a0 0)), (1, .int x3)] := hl
    have hf : m_X4_standByPlaces_l2 ((v0_values_marks, v0_values_weights, v0_values_places, v0_values_aboves, v0_values_belows, (v0_values_reduced_above, v0_values_reduced_below), v0_values_papers), v0_blocks, v0_tops, v0_bottoms, v0_blocksNow, v0_mergesDone, v0_loss) x3 x4 x5 = some y := hf
    unfold m_X4_standByPlaces_l2 at hf
    refine lv_iload_n hx hb dX4_standByPlaces_2 rfl (lv_at hl 1 rfl) ?_
    refine lv_bipush (v := 9) hx hb dX4_standByPlaces_3 (by decide) ?_
    refine lv_icmp_gt (tgt := 32) hx hb dX4_standByPlaces_5 (by decide) (fun cb => ?_) (fun cb => ?_)
    · have hf := it_t cb hf
      exact hXt _ (Option.some.inj hf).symm _ _ _ hP hD hS (lv_sub hl [] rfl)
    have hf := it_f cb hf
    refine lv_aload_n hx hb dX4_standByPlaces_8 rfl (lv_at hl 0 rfl) ?_
    refine va_get (D := g.1) (ci := 5) (v := .ref (a0 1)) (C := RX4) (T := TX4) (N := 7) hx hb hts layX4 hown hK.1 hP 0 rfl rfl 0 (by decide) (hts _ kw168) (fun _ h9 => h9) rfl dX4_standByPlaces_9 ?_
    refine lv_iload_n hx hb dX4_standByPlaces_12 rfl (lv_at hl 1 rfl) ?_
    refine cIp hP hD hS hA hE (fun hPc hDc hSc => rV (As := [.int x3]) (rest := []) hx hb hml hown hts hK (c_X8_papersAt l g (fun i => a0 (i + 1)) v0_values_marks v0_values_weights v0_values_places v0_values_aboves v0_values_belows v0_values_reduced_above v0_values_reduced_below v0_values_papers x3 (bnd_ne hf)) svV_X8_papersAt kw714 rfl rfl hPc hDc hSc rfl rfl hl.1 (Nat.le_of_ble_eq_true rfl) dX4_standByPlaces_13 ⟨Nat.le_of_ble_eq_true rfl, Nat.le_of_ble_eq_true rfl, rfl, rfl, Nat.le_of_ble_eq_true rfl, Nat.le_of_ble_eq_true rfl⟩) [(1, 12)] rfl rfl rfl (fun x6 H locs ex6 nx6 hP hS => ?_)
    have hf := bnd_of hf ex6
    refine lv_istore_n (lv' := [(2, .int x6), (0, .ref (a0 0)), (1, .int x3)]) hx hb dX4_standByPlaces_16 rfl hl (by decide) rfl (fun ls hl => ?_)
    refine lv_iload_n hx hb dX4_standByPlaces_17 rfl (lv_at hl 0 rfl) ?_
    refine lv_if_eq (tgt := 26) hx hb dX4_standByPlaces_18 (by decide) (fun cb => ?_) (fun cb => ?_)
    · have hf := it_t cb hf
      refine lv_iinc (v := (x3 + 1)) (lv' := [(1, .int (x3 + 1)), (2, .int x6), (0, .ref (a0 0))]) hx hb dX4_standByPlaces_26 hl (k := 2) rfl (by rfl) (by decide) rfl (fun ls hl => ?_)
      refine lv_goto (tgt := 2) hx hb dX4_standByPlaces_29 (by decide) ?_
      exact hB _ (Option.some.inj hf).symm _ _ _ hP hD hS (lv_sub hl [2, 0] rfl)
    have hf := it_f cb hf
    refine lv_aload_n hx hb dX4_standByPlaces_21 rfl (lv_at hl 1 rfl) ?_
    refine lv_iload_n hx hb dX4_standByPlaces_22 rfl (lv_at hl 0 rfl) ?_
    refine cV hP hD hS hA hE (fun hPc hDc hSc => rV (As := [.int x6]) (rest := []) hx hb hml hown hts hK (c_X4_standBehind l g a0 v0_values_marks v0_values_weights v0_values_places v0_values_aboves v0_values_belows v0_values_reduced_above v0_values_reduced_below v0_values_papers x4 v0_tops v0_bottoms x5 v0_mergesDone v0_loss x6 (bnd_ne hf)) svV_X4_standBehind kw707 rfl rfl hPc hDc hSc rfl rfl hl.1 (Nat.le_of_ble_eq_true rfl) dX4_standByPlaces_23 ⟨Nat.le_of_ble_eq_true rfl, Nat.le_of_ble_eq_true rfl, rfl, rfl, Nat.le_of_ble_eq_true rfl, Nat.le_of_ble_eq_true rfl⟩) [(0, 19)] rfl rfl rfl (fun _ => rfl) (fun x7 H locs ex7 hP hD hS => ?_)
    have hf := bnd_of hf ex7
    have hP : va_P g.1 vwCl (wX4 a0 g v0_values_marks v0_values_weights v0_values_places v0_values_aboves v0_values_belows v0_values_reduced_above v0_values_reduced_below v0_values_papers x7.1 v0_tops v0_bottoms x7.2 v0_mergesDone v0_loss) H := hP
    have hD : va_D A (wX4 a0 g v0_values_marks v0_values_weights v0_values_places v0_values_aboves v0_values_belows v0_values_reduced_above v0_values_reduced_below v0_values_papers x7.1 v0_tops v0_bottoms x7.2 v0_mergesDone v0_loss) := hD
    refine lv_iinc (v := (x3 + 1)) (lv' := [(1, .int (x3 + 1)), (2, .int x6), (0, .ref (a0 0))]) hx hb dX4_standByPlaces_26 hl (k := 2) rfl (by rfl) (by decide) rfl (fun ls hl => ?_)
    refine lv_goto (tgt := 2) hx hb dX4_standByPlaces_29 (by decide) ?_
    exact hB _ (Option.some.inj hf).symm _ _ _ hP hD hS (lv_sub hl [2, 0] rfl)
  intro H locs ls hP hD hS hl
  have hP : va_P g.1 vwCl (wX4 a0 g v0_values_marks v0_values_weights v0_values_places v0_values_aboves v0_values_belows v0_values_reduced_above v0_values_reduced_below v0_values_papers r8.1 v0_tops v0_bottoms r8.2 v0_mergesDone v0_loss) H := hP
  have hD : va_D A (wX4 a0 g v0_values_marks v0_values_weights v0_values_places v0_values_aboves v0_values_belows v0_values_reduced_above v0_values_reduced_below v0_values_papers r8.1 v0_tops v0_bottoms r8.2 v0_mergesDone v0_loss) := hD
  have hl : lv_has ls 3 [] := hl
  exact retV (u := (r8.1, r8.2)) (W1 := fun u => wX4 a0 g v0_values_marks v0_values_weights v0_values_places v0_values_aboves v0_values_belows v0_values_reduced_above v0_values_reduced_below v0_values_papers u.1 v0_tops v0_bottoms u.2 v0_mergesDone v0_loss) hx hb hr hlocks hS hP hD (hf0.trans hf.symm) dX4_standByPlaces_32
set_option maxHeartbeats 4000000 in
set_option maxRecDepth 100000 in
theorem c_J6_compare_7cf53 (l : Launch) (g : GG) (p0 : Int32) (p1 : Int32) (hne : (m_J6_compare_7cf53 p0 p1) ≠ none) : Ct l g yJ6_compare_7cf53 cJ6_compare_7cf53 2 (some .int) ({ frames := 0, cells := 0, slots := 0, locals := 0 } : Room) [.int p0, .int p1] (([] : va_W)) (Qi g .int (m_J6_compare_7cf53 p0 p1) (fun u => u) (fun u => ([] : va_W))) 0 0 := by
  obtain ⟨out, hf⟩ := ne_ex hne
  have hf0 := hf
  refine Ct.of (own := RJ6) (by decide +kernel) rfl (Nat.le_of_ble_eq_true rfl) ?_
  intro p e s m below meth c hx hb hr hml hown hts hlocks hin hK A H locs hA hP hD hS hE ls hl
  have hl : lv_has ls 2 [(0, .int p0), (1, .int p1)] := hl
  unfold m_J6_compare_7cf53 at hf
  refine lv_iload_n hx hb dJ6_compare_7cf53_0 rfl (lv_at hl 0 rfl) ?_
  refine lv_iload_n hx hb dJ6_compare_7cf53_1 rfl (lv_at hl 1 rfl) ?_
  refine lv_icmp_ge (tgt := 9) hx hb dJ6_compare_7cf53_2 (by decide) (fun cb => ?_) (fun cb => ?_)
  · have hf := it_t cb hf
    refine lv_iload_n hx hb dJ6_compare_7cf53_9 rfl (lv_at hl 0 rfl) ?_
    refine lv_iload_n hx hb dJ6_compare_7cf53_10 rfl (lv_at hl 1 rfl) ?_
    refine lv_icmp_ne (tgt := 18) hx hb dJ6_compare_7cf53_11 (by decide) (fun cb => ?_) (fun cb => ?_)
    · have hf := it_f cb hf
      refine lv_iconst (v := 1) hx hb dJ6_compare_7cf53_18 (by decide) ?_
      exact retI (v := (1 : Int32)) (u := (1 : Int32)) (val := fun u => u) (W1 := fun u => ([] : va_W)) hx hb hr hlocks hS hP hD (hf0.trans hf.symm) rfl rfl dJ6_compare_7cf53_19
    have hf := it_t cb hf
    refine lv_iconst (v := 0) hx hb dJ6_compare_7cf53_14 (by decide) ?_
    refine lv_goto (tgt := 19) hx hb dJ6_compare_7cf53_15 (by decide) ?_
    exact retI (v := (0 : Int32)) (u := (0 : Int32)) (val := fun u => u) (W1 := fun u => ([] : va_W)) hx hb hr hlocks hS hP hD (hf0.trans hf.symm) rfl rfl dJ6_compare_7cf53_19
  have hf := it_f cb hf
  refine lv_iconst (v := (-1)) hx hb dJ6_compare_7cf53_5 (by decide) ?_
  refine lv_goto (tgt := 19) hx hb dJ6_compare_7cf53_6 (by decide) ?_
  exact retI (v := (-1 : Int32)) (u := (-1 : Int32)) (val := fun u => u) (W1 := fun u => ([] : va_W)) hx hb hr hlocks hS hP hD (hf0.trans hf.symm) rfl rfl dJ6_compare_7cf53_19
set_option maxHeartbeats 4000000 in
set_option maxRecDepth 100000 in
theorem c_X4_isAhead (l : Launch) (g : GG) (a0 : Nat → Nat) (v0_values_marks : (Nat → Int32)) (v0_values_weights : (Nat → Int32)) (v0_values_places : (Nat → Int32)) (v0_values_aboves : (Nat → Int32)) (v0_values_belows : (Nat → Int32)) (v0_values_reduced_above : Int64) (v0_values_reduced_below : Int64) (v0_values_papers : Int32) (v0_blocks : (Nat → Int32)) (v0_tops : (Nat → Int32)) (v0_bottoms : (Nat → Int32)) (v0_blocksNow : Int32) (v0_mergesDone : Int32) (v0_loss : Int32) (p1 : Int32) (p2 : Int32) (hne : (m_X4_isAhead ((v0_values_marks, v0_values_weights, v0_values_places, v0_values_aboves, v0_values_belows, (v0_values_reduced_above, v0_values_reduced_below), v0_values_papers), v0_blocks, v0_tops, v0_bottoms, v0_blocksNow, v0_mergesDone, v0_loss) p1 p2) ≠ none) : Ct l g yX4_isAhead cX4_isAhead 4 (some .boolean) ({ frames := 2, cells := 0, slots := 0, locals := 42 } : Room) [.ref (a0 0), .int p1, .int p2] (wX4 a0 g v0_values_marks v0_values_weights v0_values_places v0_values_aboves v0_values_belows v0_values_reduced_above v0_values_reduced_below v0_values_papers v0_blocks v0_tops v0_bottoms v0_blocksNow v0_mergesDone v0_loss) (Qi g .boolean (m_X4_isAhead ((v0_values_marks, v0_values_weights, v0_values_places, v0_values_aboves, v0_values_belows, (v0_values_reduced_above, v0_values_reduced_below), v0_values_papers), v0_blocks, v0_tops, v0_bottoms, v0_blocksNow, v0_mergesDone, v0_loss) p1 p2) (fun u => u) (fun u => wX4 a0 g v0_values_marks v0_values_weights v0_values_places v0_values_aboves v0_values_belows v0_values_reduced_above v0_values_reduced_below v0_values_papers v0_blocks v0_tops v0_bottoms v0_blocksNow v0_mergesDone v0_loss)) 0 0 := by
  obtain ⟨out, hf⟩ := ne_ex hne
  have hf0 := hf
  refine Ct.of (own := RX4) (by decide +kernel) rfl (Nat.le_of_ble_eq_true rfl) ?_
  intro p e s m below meth c hx hb hr hml hown hts hlocks hin hK A H locs hA hP hD hS hE ls hl
  have hl : lv_has ls 4 [(0, .ref (a0 0)), (1, .int p1), (2, .int p2)] := hl
  unfold m_X4_isAhead at hf
  refine lv_aload_n hx hb dX4_isAhead_0 rfl (lv_at hl 0 rfl) ?_
  refine va_get (D := g.1) (ci := 5) (v := .ref (a0 1)) (C := RX4) (T := TX4) (N := 7) hx hb hts layX4 hown hK.1 hP 0 rfl rfl 0 (by decide) (hts _ kw168) (fun _ h9 => h9) rfl dX4_isAhead_1 ?_
  refine lv_iload_n hx hb dX4_isAhead_4 rfl (lv_at hl 1 rfl) ?_
  refine cIp hP hD hS hA hE (fun hPc hDc hSc => rV (As := [.int p1]) (rest := []) hx hb hml hown hts hK (c_X8_placeAt l g (fun i => a0 (i + 1)) v0_values_marks v0_values_weights v0_values_places v0_values_aboves v0_values_belows v0_values_reduced_above v0_values_reduced_below v0_values_papers p1 (bnd_ne hf)) svV_X8_placeAt kw694 rfl rfl hPc hDc hSc rfl rfl hl.1 (Nat.le_of_ble_eq_true rfl) dX4_isAhead_5 ⟨Nat.le_of_ble_eq_true rfl, Nat.le_of_ble_eq_true rfl, rfl, rfl, Nat.le_of_ble_eq_true rfl, Nat.le_of_ble_eq_true rfl⟩) [(1, 12)] rfl rfl rfl (fun x1 H locs ex1 nx1 hP hS => ?_)
  have hf := bnd_of hf ex1
  refine lv_aload_n hx hb dX4_isAhead_8 rfl (lv_at hl 0 rfl) ?_
  refine va_get (D := g.1) (ci := 5) (v := .ref (a0 1)) (C := RX4) (T := TX4) (N := 7) hx hb hts layX4 hown hK.1 hP 0 rfl rfl 0 (by decide) (hts _ kw168) (fun _ h9 => h9) rfl dX4_isAhead_9 ?_
  refine lv_iload_n hx hb dX4_isAhead_12 rfl (lv_at hl 2 rfl) ?_
  refine cIp hP hD hS hA hE (fun hPc hDc hSc => rV (As := [.int p2]) (rest := [.int x1]) hx hb hml hown hts hK (c_X8_placeAt l g (fun i => a0 (i + 1)) v0_values_marks v0_values_weights v0_values_places v0_values_aboves v0_values_belows v0_values_reduced_above v0_values_reduced_below v0_values_papers p2 (bnd_ne hf)) svV_X8_placeAt kw694 rfl rfl hPc hDc hSc rfl rfl hl.1 (Nat.le_of_ble_eq_true rfl) dX4_isAhead_13 ⟨Nat.le_of_ble_eq_true rfl, Nat.le_of_ble_eq_true rfl, rfl, rfl, Nat.le_of_ble_eq_true rfl, Nat.le_of_ble_eq_true rfl⟩) [(1, 12)] rfl rfl rfl (fun x2 H locs ex2 nx2 hP hS => ?_)
  have hf := bnd_of hf ex2
  refine cIp hP hD hS hA hE (fun hPc hDc hSc => rS (As := [.int x1, .int x2]) (rest := []) hx hb hml hown hts hK (c_J6_compare_7cf53 l g x1 x2 (bnd_ne hf)) svS_J6_compare_7cf53 kw699 hPc hDc hSc rfl rfl hl.1 (Nat.le_of_ble_eq_true rfl) dX4_isAhead_16 ⟨Nat.le_of_ble_eq_true rfl, Nat.le_of_ble_eq_true rfl, rfl, rfl, Nat.le_of_ble_eq_true rfl, Nat.le_of_ble_eq_true rfl⟩) [] rfl rfl rfl (fun x3 H locs ex3 nx3 hP hS => ?_)
  have hf := bnd_of hf ex3
  refine lv_istore_n (lv' := [(3, .int x3), (0, .ref (a0 0)), (1, .int p1), (2, .int p2)]) hx hb dX4_isAhead_19 rfl hl (by decide) rfl (fun ls hl => ?_)
  refine lv_iload_n hx hb dX4_isAhead_20 rfl (lv_at hl 0 rfl) ?_
  refine lv_if_lt (tgt := 47) hx hb dX4_isAhead_21 (by decide) (fun cb => ?_) (fun cb => ?_)
  · have hf := it_t cb hf
    refine lv_iconst (v := 1) hx hb dX4_isAhead_47 (by decide) ?_
    refine lv_goto (tgt := 52) hx hb dX4_isAhead_48 (by decide) ?_
    exact retI (v := (1 : Int32)) (u := (1 : Int32)) (val := fun u => u) (W1 := fun u => wX4 a0 g v0_values_marks v0_values_weights v0_values_places v0_values_aboves v0_values_belows v0_values_reduced_above v0_values_reduced_below v0_values_papers v0_blocks v0_tops v0_bottoms v0_blocksNow v0_mergesDone v0_loss) hx hb hr hlocks hS hP hD (hf0.trans hf.symm) rfl rfl dX4_isAhead_52
  have hf := it_f cb hf
  refine lv_iload_n hx hb dX4_isAhead_24 rfl (lv_at hl 0 rfl) ?_
  refine lv_if_ne (tgt := 51) hx hb dX4_isAhead_25 (by decide) (fun cb => ?_) (fun cb => ?_)
  · have hf := it_f cb hf
    refine lv_iconst (v := 0) hx hb dX4_isAhead_51 (by decide) ?_
    exact retI (v := (0 : Int32)) (u := (0 : Int32)) (val := fun u => u) (W1 := fun u => wX4 a0 g v0_values_marks v0_values_weights v0_values_places v0_values_aboves v0_values_belows v0_values_reduced_above v0_values_reduced_below v0_values_papers v0_blocks v0_tops v0_bottoms v0_blocksNow v0_mergesDone v0_loss) hx hb hr hlocks hS hP hD (hf0.trans hf.symm) rfl rfl dX4_isAhead_52
  have hf := it_t cb hf
  refine lv_aload_n hx hb dX4_isAhead_28 rfl (lv_at hl 1 rfl) ?_
  refine va_get (D := g.1) (ci := 5) (v := .ref (a0 1)) (C := RX4) (T := TX4) (N := 7) hx hb hts layX4 hown hK.1 hP 0 rfl rfl 0 (by decide) (hts _ kw168) (fun _ h9 => h9) rfl dX4_isAhead_29 ?_
  refine lv_iload_n hx hb dX4_isAhead_32 rfl (lv_at hl 2 rfl) ?_
  refine cIp hP hD hS hA hE (fun hPc hDc hSc => rV (As := [.int p1]) (rest := []) hx hb hml hown hts hK (c_X8_markAt l g (fun i => a0 (i + 1)) v0_values_marks v0_values_weights v0_values_places v0_values_aboves v0_values_belows v0_values_reduced_above v0_values_reduced_below v0_values_papers p1 (bnd_ne hf)) svV_X8_markAt kw702 rfl rfl hPc hDc hSc rfl rfl hl.1 (Nat.le_of_ble_eq_true rfl) dX4_isAhead_33 ⟨Nat.le_of_ble_eq_true rfl, Nat.le_of_ble_eq_true rfl, rfl, rfl, Nat.le_of_ble_eq_true rfl, Nat.le_of_ble_eq_true rfl⟩) [(1, 12)] rfl rfl rfl (fun x4 H locs ex4 nx4 hP hS => ?_)
  have hf := bnd_of hf ex4
  refine lv_aload_n hx hb dX4_isAhead_36 rfl (lv_at hl 1 rfl) ?_
  refine va_get (D := g.1) (ci := 5) (v := .ref (a0 1)) (C := RX4) (T := TX4) (N := 7) hx hb hts layX4 hown hK.1 hP 0 rfl rfl 0 (by decide) (hts _ kw168) (fun _ h9 => h9) rfl dX4_isAhead_37 ?_
  refine lv_iload_n hx hb dX4_isAhead_40 rfl (lv_at hl 3 rfl) ?_
  refine cIp hP hD hS hA hE (fun hPc hDc hSc => rV (As := [.int p2]) (rest := [.int x4]) hx hb hml hown hts hK (c_X8_markAt l g (fun i => a0 (i + 1)) v0_values_marks v0_values_weights v0_values_places v0_values_aboves v0_values_belows v0_values_reduced_above v0_values_reduced_below v0_values_papers p2 (bnd_ne hf)) svV_X8_markAt kw702 rfl rfl hPc hDc hSc rfl rfl hl.1 (Nat.le_of_ble_eq_true rfl) dX4_isAhead_41 ⟨Nat.le_of_ble_eq_true rfl, Nat.le_of_ble_eq_true rfl, rfl, rfl, Nat.le_of_ble_eq_true rfl, Nat.le_of_ble_eq_true rfl⟩) [(1, 12)] rfl rfl rfl (fun x5 H locs ex5 nx5 hP hS => ?_)
  have hf := bnd_of hf ex5
  refine lv_icmp_ge (tgt := 51) hx hb dX4_isAhead_44 (by decide) (fun cb => ?_) (fun cb => ?_)
  · have hf := it_t cb hf
    refine lv_iconst (v := 0) hx hb dX4_isAhead_51 (by decide) ?_
    exact retI (v := (0 : Int32)) (u := (0 : Int32)) (val := fun u => u) (W1 := fun u => wX4 a0 g v0_values_marks v0_values_weights v0_values_places v0_values_aboves v0_values_belows v0_values_reduced_above v0_values_reduced_below v0_values_papers v0_blocks v0_tops v0_bottoms v0_blocksNow v0_mergesDone v0_loss) hx hb hr hlocks hS hP hD (hf0.trans hf.symm) rfl rfl dX4_isAhead_52
  have hf := it_f cb hf
  refine lv_iconst (v := 1) hx hb dX4_isAhead_47 (by decide) ?_
  refine lv_goto (tgt := 52) hx hb dX4_isAhead_48 (by decide) ?_
  exact retI (v := (1 : Int32)) (u := (1 : Int32)) (val := fun u => u) (W1 := fun u => wX4 a0 g v0_values_marks v0_values_weights v0_values_places v0_values_aboves v0_values_belows v0_values_reduced_above v0_values_reduced_below v0_values_papers v0_blocks v0_tops v0_bottoms v0_blocksNow v0_mergesDone v0_loss) hx hb hr hlocks hS hP hD (hf0.trans hf.symm) rfl rfl dX4_isAhead_52
