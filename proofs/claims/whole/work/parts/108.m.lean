theorem svV_X4_isAhead : SV RX4 yX4_isAhead cX4_isAhead 4 (some .boolean) 2 := ⟨kw692, kw1803, kw8, kw693, rfl, by decide, by decide, by decide +kernel⟩
theorem svV_X4_firstOf : SV RX4 yX4_firstOf cX4_firstOf 4 (some .int) 1 := ⟨kw689, kw1802, kw8, kw690, rfl, by decide, by decide, by decide +kernel⟩
theorem svV_X8_sumOf : SV RX8 yX8_sumOf cX8_sumOf 4 (some .int) 1 := ⟨kw741, kw742, kw9, kw743, rfl, by decide, by decide, by decide +kernel⟩
theorem svV_X8_middleOf : SV RX8 yX8_middleOf cX8_middleOf 7 (some .int) 1 := ⟨kw729, kw730, kw9, kw731, rfl, by decide, by decide, by decide +kernel⟩
theorem svV_X4_numberTop : SV RX4 yX4_numberTop cX4_numberTop 2 (some .int) 1 := ⟨kw726, kw1808, kw8, kw727, rfl, by decide, by decide, by decide +kernel⟩
theorem svV_X4_numberBottom : SV RX4 yX4_numberBottom cX4_numberBottom 2 (some .int) 1 := ⟨kw745, kw1809, kw8, kw746, rfl, by decide, by decide, by decide +kernel⟩
theorem svV_X4_measure : SV RX4 yX4_measure cX4_measure 2 none 1 := ⟨kw722, kw1807, kw8, kw723, rfl, by decide, by decide, by decide +kernel⟩
theorem svV_X4_firstToMerge : SV RX4 yX4_firstToMerge cX4_firstToMerge 2 (some .int) 0 := ⟨kw749, kw1810, kw8, kw750, rfl, by decide, by decide, by decide +kernel⟩
theorem svV_X4_mergeWithNext : SV RX4 yX4_mergeWithNext cX4_mergeWithNext 2 none 1 := ⟨kw752, kw1811, kw8, kw753, rfl, by decide, by decide, by decide +kernel⟩
theorem svV_X4_layByMeans : SV RX4 yX4_layByMeans cX4_layByMeans 14 none 1 := ⟨kw760, kw1813, kw8, kw761, rfl, by decide, by decide, by decide +kernel⟩
theorem dX4_firstOf_0 : decode cX4_firstOf 0 = .ok (.iconst (-1), 1) := by decide +kernel
theorem dX4_firstOf_1 : decode cX4_firstOf 1 = .ok (.istore_n 2, 1) := by decide +kernel
theorem dX4_firstOf_2 : decode cX4_firstOf 2 = .ok (.iconst 0, 1) := by decide +kernel
theorem dX4_firstOf_3 : decode cX4_firstOf 3 = .ok (.istore_n 3, 1) := by decide +kernel
theorem dX4_firstOf_4 : decode cX4_firstOf 4 = .ok (.iload_n 3, 1) := by decide +kernel
theorem dX4_firstOf_5 : decode cX4_firstOf 5 = .ok (.aload_n 0, 1) := by decide +kernel
theorem dX4_firstOf_6 : decode cX4_firstOf 6 = .ok (.getfield 12, 3) := by decide +kernel
theorem dX4_firstOf_9 : decode cX4_firstOf 9 = .ok (.invokevirtual 73, 3) := by decide +kernel
theorem dX4_firstOf_12 : decode cX4_firstOf 12 = .ok (.if_icmp .ge 32, 3) := by decide +kernel
theorem dX4_firstOf_15 : decode cX4_firstOf 15 = .ok (.iload_n 1, 1) := by decide +kernel
theorem dX4_firstOf_16 : decode cX4_firstOf 16 = .ok (.iload_n 3, 1) := by decide +kernel
theorem dX4_firstOf_17 : decode cX4_firstOf 17 = .ok (.invokestatic 82, 3) := by decide +kernel
theorem dX4_firstOf_20 : decode cX4_firstOf 20 = .ok (.ifCond .eq 18, 3) := by decide +kernel
theorem dX4_firstOf_38 : decode cX4_firstOf 38 = .ok (.iinc 3 1, 3) := by decide +kernel
theorem dX4_firstOf_41 : decode cX4_firstOf 41 = .ok (.goto (-37), 3) := by decide +kernel
theorem dX4_firstOf_23 : decode cX4_firstOf 23 = .ok (.iload_n 2, 1) := by decide +kernel
theorem dX4_firstOf_24 : decode cX4_firstOf 24 = .ok (.ifCond .lt 12, 3) := by decide +kernel
theorem dX4_firstOf_36 : decode cX4_firstOf 36 = .ok (.iload_n 3, 1) := by decide +kernel
theorem dX4_firstOf_37 : decode cX4_firstOf 37 = .ok (.istore_n 2, 1) := by decide +kernel
theorem dX4_firstOf_27 : decode cX4_firstOf 27 = .ok (.aload_n 0, 1) := by decide +kernel
theorem dX4_firstOf_28 : decode cX4_firstOf 28 = .ok (.iload_n 3, 1) := by decide +kernel
theorem dX4_firstOf_29 : decode cX4_firstOf 29 = .ok (.iload_n 2, 1) := by decide +kernel
theorem dX4_firstOf_30 : decode cX4_firstOf 30 = .ok (.invokevirtual 86, 3) := by decide +kernel
theorem dX4_firstOf_33 : decode cX4_firstOf 33 = .ok (.ifCond .eq 5, 3) := by decide +kernel
theorem dX4_firstOf_44 : decode cX4_firstOf 44 = .ok (.iload_n 2, 1) := by decide +kernel
theorem dX4_firstOf_45 : decode cX4_firstOf 45 = .ok (.iconst 0, 1) := by decide +kernel
theorem dX4_firstOf_46 : decode cX4_firstOf 46 = .ok (.invokestatic 89, 3) := by decide +kernel
theorem dX4_firstOf_49 : decode cX4_firstOf 49 = .ok (.ireturn, 1) := by decide +kernel
theorem dX4_standOneByOne_0 : decode cX4_standOneByOne 0 = .ok (.aload_n 0, 1) := by decide +kernel
theorem dX4_standOneByOne_1 : decode cX4_standOneByOne 1 = .ok (.getfield 12, 3) := by decide +kernel
theorem dX4_standOneByOne_4 : decode cX4_standOneByOne 4 = .ok (.invokevirtual 70, 3) := by decide +kernel
theorem dX4_standOneByOne_7 : decode cX4_standOneByOne 7 = .ok (.istore_n 1, 1) := by decide +kernel
theorem dX4_standOneByOne_8 : decode cX4_standOneByOne 8 = .ok (.iconst 0, 1) := by decide +kernel
theorem dX4_standOneByOne_9 : decode cX4_standOneByOne 9 = .ok (.istore_n 2, 1) := by decide +kernel
theorem dX4_standOneByOne_10 : decode cX4_standOneByOne 10 = .ok (.iload_n 2, 1) := by decide +kernel
theorem dX4_standOneByOne_11 : decode cX4_standOneByOne 11 = .ok (.aload_n 0, 1) := by decide +kernel
theorem dX4_standOneByOne_12 : decode cX4_standOneByOne 12 = .ok (.getfield 12, 3) := by decide +kernel
theorem dX4_standOneByOne_15 : decode cX4_standOneByOne 15 = .ok (.invokevirtual 73, 3) := by decide +kernel
theorem dX4_standOneByOne_18 : decode cX4_standOneByOne 18 = .ok (.if_icmp .ge 28, 3) := by decide +kernel
theorem dX4_standOneByOne_21 : decode cX4_standOneByOne 21 = .ok (.iconst 1, 1) := by decide +kernel
theorem dX4_standOneByOne_22 : decode cX4_standOneByOne 22 = .ok (.aload_n 0, 1) := by decide +kernel
theorem dX4_standOneByOne_23 : decode cX4_standOneByOne 23 = .ok (.iload_n 1, 1) := by decide +kernel
theorem dX4_standOneByOne_24 : decode cX4_standOneByOne 24 = .ok (.invokevirtual 76, 3) := by decide +kernel
theorem dX4_standOneByOne_27 : decode cX4_standOneByOne 27 = .ok (.ishl, 1) := by decide +kernel
theorem dX4_standOneByOne_28 : decode cX4_standOneByOne 28 = .ok (.istore_n 3, 1) := by decide +kernel
theorem dX4_standOneByOne_29 : decode cX4_standOneByOne 29 = .ok (.aload_n 0, 1) := by decide +kernel
theorem dX4_standOneByOne_30 : decode cX4_standOneByOne 30 = .ok (.iload_n 3, 1) := by decide +kernel
theorem dX4_standOneByOne_31 : decode cX4_standOneByOne 31 = .ok (.invokevirtual 79, 3) := by decide +kernel
theorem dX4_standOneByOne_34 : decode cX4_standOneByOne 34 = .ok (.iload_n 1, 1) := by decide +kernel
theorem dX4_standOneByOne_35 : decode cX4_standOneByOne 35 = .ok (.iload_n 3, 1) := by decide +kernel
theorem dX4_standOneByOne_36 : decode cX4_standOneByOne 36 = .ok (.iconst (-1), 1) := by decide +kernel
theorem dX4_standOneByOne_37 : decode cX4_standOneByOne 37 = .ok (.ixor, 1) := by decide +kernel
theorem dX4_standOneByOne_38 : decode cX4_standOneByOne 38 = .ok (.iand, 1) := by decide +kernel
theorem dX4_standOneByOne_39 : decode cX4_standOneByOne 39 = .ok (.istore_n 1, 1) := by decide +kernel
theorem dX4_standOneByOne_40 : decode cX4_standOneByOne 40 = .ok (.iinc 2 1, 3) := by decide +kernel
theorem dX4_standOneByOne_43 : decode cX4_standOneByOne 43 = .ok (.goto (-33), 3) := by decide +kernel
theorem dX4_standOneByOne_46 : decode cX4_standOneByOne 46 = .ok (.return_, 1) := by decide +kernel
theorem dX4_numberTop_0 : decode cX4_numberTop 0 = .ok (.aload_n 0, 1) := by decide +kernel
theorem dX4_numberTop_1 : decode cX4_numberTop 1 = .ok (.getfield 33, 3) := by decide +kernel
theorem dX4_numberTop_4 : decode cX4_numberTop 4 = .ok (.iconst 1, 1) := by decide +kernel
theorem dX4_numberTop_5 : decode cX4_numberTop 5 = .ok (.if_icmp .ne 14, 3) := by decide +kernel
theorem dX4_numberTop_19 : decode cX4_numberTop 19 = .ok (.aload_n 0, 1) := by decide +kernel
theorem dX4_numberTop_20 : decode cX4_numberTop 20 = .ok (.getfield 12, 3) := by decide +kernel
theorem dX4_numberTop_23 : decode cX4_numberTop 23 = .ok (.iload_n 1, 1) := by decide +kernel
theorem dX4_numberTop_24 : decode cX4_numberTop 24 = .ok (.invokevirtual 144, 3) := by decide +kernel
theorem dX4_numberTop_27 : decode cX4_numberTop 27 = .ok (.ireturn, 1) := by decide +kernel
theorem dX4_numberTop_8 : decode cX4_numberTop 8 = .ok (.aload_n 0, 1) := by decide +kernel
theorem dX4_numberTop_9 : decode cX4_numberTop 9 = .ok (.getfield 12, 3) := by decide +kernel
theorem dX4_numberTop_12 : decode cX4_numberTop 12 = .ok (.iload_n 1, 1) := by decide +kernel
theorem dX4_numberTop_13 : decode cX4_numberTop 13 = .ok (.invokevirtual 141, 3) := by decide +kernel
theorem dX4_numberTop_16 : decode cX4_numberTop 16 = .ok (.goto 11, 3) := by decide +kernel
theorem dX4_numberBottom_0 : decode cX4_numberBottom 0 = .ok (.aload_n 0, 1) := by decide +kernel
theorem dX4_numberBottom_1 : decode cX4_numberBottom 1 = .ok (.getfield 33, 3) := by decide +kernel
theorem dX4_numberBottom_4 : decode cX4_numberBottom 4 = .ok (.iconst 1, 1) := by decide +kernel
theorem dX4_numberBottom_5 : decode cX4_numberBottom 5 = .ok (.if_icmp .ne 7, 3) := by decide +kernel
theorem dX4_numberBottom_12 : decode cX4_numberBottom 12 = .ok (.aload_n 0, 1) := by decide +kernel
theorem dX4_numberBottom_13 : decode cX4_numberBottom 13 = .ok (.getfield 12, 3) := by decide +kernel
theorem dX4_numberBottom_16 : decode cX4_numberBottom 16 = .ok (.iload_n 1, 1) := by decide +kernel
theorem dX4_numberBottom_17 : decode cX4_numberBottom 17 = .ok (.invokevirtual 147, 3) := by decide +kernel
theorem dX4_numberBottom_20 : decode cX4_numberBottom 20 = .ok (.ireturn, 1) := by decide +kernel
theorem dX4_numberBottom_8 : decode cX4_numberBottom 8 = .ok (.iconst 1, 1) := by decide +kernel
theorem dX4_numberBottom_9 : decode cX4_numberBottom 9 = .ok (.goto 11, 3) := by decide +kernel
theorem dX4_measure_0 : decode cX4_measure 0 = .ok (.aload_n 0, 1) := by decide +kernel
theorem dX4_measure_1 : decode cX4_measure 1 = .ok (.getfield 27, 3) := by decide +kernel
theorem dX4_measure_4 : decode cX4_measure 4 = .ok (.iload_n 1, 1) := by decide +kernel
theorem dX4_measure_5 : decode cX4_measure 5 = .ok (.aload_n 0, 1) := by decide +kernel
theorem dX4_measure_6 : decode cX4_measure 6 = .ok (.aload_n 0, 1) := by decide +kernel
theorem dX4_measure_7 : decode cX4_measure 7 = .ok (.getfield 23, 3) := by decide +kernel
theorem dX4_measure_10 : decode cX4_measure 10 = .ok (.iload_n 1, 1) := by decide +kernel
theorem dX4_measure_11 : decode cX4_measure 11 = .ok (.invokevirtual 66, 3) := by decide +kernel
theorem dX4_measure_14 : decode cX4_measure 14 = .ok (.invokevirtual 113, 3) := by decide +kernel
theorem dX4_measure_17 : decode cX4_measure 17 = .ok (.invokevirtual 109, 3) := by decide +kernel
theorem dX4_measure_20 : decode cX4_measure 20 = .ok (.aload_n 0, 1) := by decide +kernel
theorem dX4_measure_21 : decode cX4_measure 21 = .ok (.getfield 30, 3) := by decide +kernel
theorem dX4_measure_24 : decode cX4_measure 24 = .ok (.iload_n 1, 1) := by decide +kernel
theorem dX4_measure_25 : decode cX4_measure 25 = .ok (.aload_n 0, 1) := by decide +kernel
theorem dX4_measure_26 : decode cX4_measure 26 = .ok (.aload_n 0, 1) := by decide +kernel
theorem dX4_measure_27 : decode cX4_measure 27 = .ok (.getfield 23, 3) := by decide +kernel
theorem dX4_measure_30 : decode cX4_measure 30 = .ok (.iload_n 1, 1) := by decide +kernel
theorem dX4_measure_31 : decode cX4_measure 31 = .ok (.invokevirtual 66, 3) := by decide +kernel
theorem dX4_measure_34 : decode cX4_measure 34 = .ok (.invokevirtual 116, 3) := by decide +kernel
theorem dX4_measure_37 : decode cX4_measure 37 = .ok (.invokevirtual 109, 3) := by decide +kernel
theorem dX4_measure_40 : decode cX4_measure 40 = .ok (.return_, 1) := by decide +kernel
theorem dX4_firstToMerge_0 : decode cX4_firstToMerge 0 = .ok (.iconst 0, 1) := by decide +kernel
theorem dX4_firstToMerge_1 : decode cX4_firstToMerge 1 = .ok (.istore_n 1, 1) := by decide +kernel
theorem dX4_firstToMerge_2 : decode cX4_firstToMerge 2 = .ok (.iload_n 1, 1) := by decide +kernel
theorem dX4_firstToMerge_3 : decode cX4_firstToMerge 3 = .ok (.iconst 1, 1) := by decide +kernel
theorem dX4_firstToMerge_4 : decode cX4_firstToMerge 4 = .ok (.iadd, 1) := by decide +kernel
theorem dX4_firstToMerge_5 : decode cX4_firstToMerge 5 = .ok (.aload_n 0, 1) := by decide +kernel
theorem dX4_firstToMerge_6 : decode cX4_firstToMerge 6 = .ok (.getfield 37, 3) := by decide +kernel
theorem dX4_firstToMerge_9 : decode cX4_firstToMerge 9 = .ok (.if_icmp .ge 52, 3) := by decide +kernel
theorem dX4_firstToMerge_12 : decode cX4_firstToMerge 12 = .ok (.aload_n 0, 1) := by decide +kernel
theorem dX4_firstToMerge_13 : decode cX4_firstToMerge 13 = .ok (.getfield 27, 3) := by decide +kernel
theorem dX4_firstToMerge_16 : decode cX4_firstToMerge 16 = .ok (.iload_n 1, 1) := by decide +kernel
theorem dX4_firstToMerge_17 : decode cX4_firstToMerge 17 = .ok (.invokevirtual 66, 3) := by decide +kernel
theorem dX4_firstToMerge_20 : decode cX4_firstToMerge 20 = .ok (.aload_n 0, 1) := by decide +kernel
theorem dX4_firstToMerge_21 : decode cX4_firstToMerge 21 = .ok (.getfield 30, 3) := by decide +kernel
theorem dX4_firstToMerge_24 : decode cX4_firstToMerge 24 = .ok (.iload_n 1, 1) := by decide +kernel
theorem dX4_firstToMerge_25 : decode cX4_firstToMerge 25 = .ok (.iconst 1, 1) := by decide +kernel
theorem dX4_firstToMerge_26 : decode cX4_firstToMerge 26 = .ok (.iadd, 1) := by decide +kernel
theorem dX4_firstToMerge_27 : decode cX4_firstToMerge 27 = .ok (.invokevirtual 66, 3) := by decide +kernel
theorem dX4_firstToMerge_30 : decode cX4_firstToMerge 30 = .ok (.imul, 1) := by decide +kernel
theorem dX4_firstToMerge_31 : decode cX4_firstToMerge 31 = .ok (.aload_n 0, 1) := by decide +kernel
theorem dX4_firstToMerge_32 : decode cX4_firstToMerge 32 = .ok (.getfield 27, 3) := by decide +kernel
theorem dX4_firstToMerge_35 : decode cX4_firstToMerge 35 = .ok (.iload_n 1, 1) := by decide +kernel
theorem dX4_firstToMerge_36 : decode cX4_firstToMerge 36 = .ok (.iconst 1, 1) := by decide +kernel
theorem dX4_firstToMerge_37 : decode cX4_firstToMerge 37 = .ok (.iadd, 1) := by decide +kernel
theorem dX4_firstToMerge_38 : decode cX4_firstToMerge 38 = .ok (.invokevirtual 66, 3) := by decide +kernel
theorem dX4_firstToMerge_41 : decode cX4_firstToMerge 41 = .ok (.aload_n 0, 1) := by decide +kernel
theorem dX4_firstToMerge_42 : decode cX4_firstToMerge 42 = .ok (.getfield 30, 3) := by decide +kernel
theorem dX4_firstToMerge_45 : decode cX4_firstToMerge 45 = .ok (.iload_n 1, 1) := by decide +kernel
theorem dX4_firstToMerge_46 : decode cX4_firstToMerge 46 = .ok (.invokevirtual 66, 3) := by decide +kernel
theorem dX4_firstToMerge_49 : decode cX4_firstToMerge 49 = .ok (.imul, 1) := by decide +kernel
theorem dX4_firstToMerge_50 : decode cX4_firstToMerge 50 = .ok (.if_icmp .lt 5, 3) := by decide +kernel
theorem dX4_firstToMerge_55 : decode cX4_firstToMerge 55 = .ok (.iinc 1 1, 3) := by decide +kernel
theorem dX4_firstToMerge_58 : decode cX4_firstToMerge 58 = .ok (.goto (-56), 3) := by decide +kernel
theorem dX4_firstToMerge_53 : decode cX4_firstToMerge 53 = .ok (.iload_n 1, 1) := by decide +kernel
theorem dX4_firstToMerge_54 : decode cX4_firstToMerge 54 = .ok (.ireturn, 1) := by decide +kernel
theorem dX4_firstToMerge_61 : decode cX4_firstToMerge 61 = .ok (.iconst (-1), 1) := by decide +kernel
theorem dX4_firstToMerge_62 : decode cX4_firstToMerge 62 = .ok (.ireturn, 1) := by decide +kernel
theorem dX4_mergeWithNext_0 : decode cX4_mergeWithNext 0 = .ok (.aload_n 0, 1) := by decide +kernel
theorem dX4_mergeWithNext_1 : decode cX4_mergeWithNext 1 = .ok (.getfield 23, 3) := by decide +kernel
theorem dX4_mergeWithNext_4 : decode cX4_mergeWithNext 4 = .ok (.iload_n 1, 1) := by decide +kernel
theorem dX4_mergeWithNext_5 : decode cX4_mergeWithNext 5 = .ok (.aload_n 0, 1) := by decide +kernel
theorem dX4_mergeWithNext_6 : decode cX4_mergeWithNext 6 = .ok (.getfield 23, 3) := by decide +kernel
theorem dX4_mergeWithNext_9 : decode cX4_mergeWithNext 9 = .ok (.iload_n 1, 1) := by decide +kernel
theorem dX4_mergeWithNext_10 : decode cX4_mergeWithNext 10 = .ok (.iconst 1, 1) := by decide +kernel
theorem dX4_mergeWithNext_11 : decode cX4_mergeWithNext 11 = .ok (.iadd, 1) := by decide +kernel
theorem dX4_mergeWithNext_12 : decode cX4_mergeWithNext 12 = .ok (.invokevirtual 66, 3) := by decide +kernel
theorem dX4_mergeWithNext_15 : decode cX4_mergeWithNext 15 = .ok (.invokevirtual 128, 3) := by decide +kernel
theorem dX4_mergeWithNext_18 : decode cX4_mergeWithNext 18 = .ok (.aload_n 0, 1) := by decide +kernel
theorem dX4_mergeWithNext_19 : decode cX4_mergeWithNext 19 = .ok (.getfield 23, 3) := by decide +kernel
theorem dX4_mergeWithNext_22 : decode cX4_mergeWithNext 22 = .ok (.iload_n 1, 1) := by decide +kernel
theorem dX4_mergeWithNext_23 : decode cX4_mergeWithNext 23 = .ok (.iconst 1, 1) := by decide +kernel
theorem dX4_mergeWithNext_24 : decode cX4_mergeWithNext 24 = .ok (.iadd, 1) := by decide +kernel
theorem dX4_mergeWithNext_25 : decode cX4_mergeWithNext 25 = .ok (.invokevirtual 131, 3) := by decide +kernel
theorem dX4_mergeWithNext_28 : decode cX4_mergeWithNext 28 = .ok (.aload_n 0, 1) := by decide +kernel
theorem dX4_mergeWithNext_29 : decode cX4_mergeWithNext 29 = .ok (.getfield 27, 3) := by decide +kernel
theorem dX4_mergeWithNext_32 : decode cX4_mergeWithNext 32 = .ok (.iload_n 1, 1) := by decide +kernel
theorem dX4_mergeWithNext_33 : decode cX4_mergeWithNext 33 = .ok (.iconst 1, 1) := by decide +kernel
theorem dX4_mergeWithNext_34 : decode cX4_mergeWithNext 34 = .ok (.iadd, 1) := by decide +kernel
theorem dX4_mergeWithNext_35 : decode cX4_mergeWithNext 35 = .ok (.invokevirtual 131, 3) := by decide +kernel
theorem dX4_mergeWithNext_38 : decode cX4_mergeWithNext 38 = .ok (.aload_n 0, 1) := by decide +kernel
theorem dX4_mergeWithNext_39 : decode cX4_mergeWithNext 39 = .ok (.getfield 30, 3) := by decide +kernel
theorem dX4_mergeWithNext_42 : decode cX4_mergeWithNext 42 = .ok (.iload_n 1, 1) := by decide +kernel
theorem dX4_mergeWithNext_43 : decode cX4_mergeWithNext 43 = .ok (.iconst 1, 1) := by decide +kernel
theorem dX4_mergeWithNext_44 : decode cX4_mergeWithNext 44 = .ok (.iadd, 1) := by decide +kernel
theorem dX4_mergeWithNext_45 : decode cX4_mergeWithNext 45 = .ok (.invokevirtual 131, 3) := by decide +kernel
theorem dX4_mergeWithNext_48 : decode cX4_mergeWithNext 48 = .ok (.aload_n 0, 1) := by decide +kernel
theorem dX4_mergeWithNext_49 : decode cX4_mergeWithNext 49 = .ok (.dup, 1) := by decide +kernel
theorem dX4_mergeWithNext_50 : decode cX4_mergeWithNext 50 = .ok (.getfield 37, 3) := by decide +kernel
theorem dX4_mergeWithNext_53 : decode cX4_mergeWithNext 53 = .ok (.iconst 1, 1) := by decide +kernel
theorem dX4_mergeWithNext_54 : decode cX4_mergeWithNext 54 = .ok (.isub, 1) := by decide +kernel
theorem dX4_mergeWithNext_55 : decode cX4_mergeWithNext 55 = .ok (.putfield 37, 3) := by decide +kernel
theorem dX4_mergeWithNext_58 : decode cX4_mergeWithNext 58 = .ok (.aload_n 0, 1) := by decide +kernel
theorem dX4_mergeWithNext_59 : decode cX4_mergeWithNext 59 = .ok (.dup, 1) := by decide +kernel
theorem dX4_mergeWithNext_60 : decode cX4_mergeWithNext 60 = .ok (.getfield 40, 3) := by decide +kernel
theorem dX4_mergeWithNext_63 : decode cX4_mergeWithNext 63 = .ok (.iconst 1, 1) := by decide +kernel
theorem dX4_mergeWithNext_64 : decode cX4_mergeWithNext 64 = .ok (.iadd, 1) := by decide +kernel
theorem dX4_mergeWithNext_65 : decode cX4_mergeWithNext 65 = .ok (.putfield 40, 3) := by decide +kernel
theorem dX4_mergeWithNext_68 : decode cX4_mergeWithNext 68 = .ok (.return_, 1) := by decide +kernel
theorem dX4_mergeAll_0 : decode cX4_mergeAll 0 = .ok (.iconst 0, 1) := by decide +kernel
theorem dX4_mergeAll_1 : decode cX4_mergeAll 1 = .ok (.istore_n 1, 1) := by decide +kernel
theorem dX4_mergeAll_2 : decode cX4_mergeAll 2 = .ok (.iload_n 1, 1) := by decide +kernel
theorem dX4_mergeAll_3 : decode cX4_mergeAll 3 = .ok (.aload_n 0, 1) := by decide +kernel
theorem dX4_mergeAll_4 : decode cX4_mergeAll 4 = .ok (.getfield 37, 3) := by decide +kernel
theorem dX4_mergeAll_7 : decode cX4_mergeAll 7 = .ok (.if_icmp .ge 14, 3) := by decide +kernel
theorem dX4_mergeAll_10 : decode cX4_mergeAll 10 = .ok (.aload_n 0, 1) := by decide +kernel
theorem dX4_mergeAll_11 : decode cX4_mergeAll 11 = .ok (.iload_n 1, 1) := by decide +kernel
theorem dX4_mergeAll_12 : decode cX4_mergeAll 12 = .ok (.invokevirtual 119, 3) := by decide +kernel
theorem dX4_mergeAll_15 : decode cX4_mergeAll 15 = .ok (.iinc 1 1, 3) := by decide +kernel
theorem dX4_mergeAll_18 : decode cX4_mergeAll 18 = .ok (.goto (-16), 3) := by decide +kernel
theorem dX4_mergeAll_21 : decode cX4_mergeAll 21 = .ok (.aload_n 0, 1) := by decide +kernel
theorem dX4_mergeAll_22 : decode cX4_mergeAll 22 = .ok (.invokevirtual 122, 3) := by decide +kernel
theorem dX4_mergeAll_25 : decode cX4_mergeAll 25 = .ok (.istore_n 1, 1) := by decide +kernel
theorem dX4_mergeAll_26 : decode cX4_mergeAll 26 = .ok (.iconst 0, 1) := by decide +kernel
theorem dX4_mergeAll_27 : decode cX4_mergeAll 27 = .ok (.istore_n 2, 1) := by decide +kernel
theorem dX4_mergeAll_28 : decode cX4_mergeAll 28 = .ok (.iload_n 2, 1) := by decide +kernel
theorem dX4_mergeAll_29 : decode cX4_mergeAll 29 = .ok (.bipush 7, 2) := by decide +kernel
theorem dX4_mergeAll_31 : decode cX4_mergeAll 31 = .ok (.if_icmp .ge 28, 3) := by decide +kernel
theorem dX4_mergeAll_34 : decode cX4_mergeAll 34 = .ok (.iload_n 1, 1) := by decide +kernel
theorem dX4_mergeAll_35 : decode cX4_mergeAll 35 = .ok (.ifCond .lt 24, 3) := by decide +kernel
theorem dX4_mergeAll_38 : decode cX4_mergeAll 38 = .ok (.aload_n 0, 1) := by decide +kernel
theorem dX4_mergeAll_39 : decode cX4_mergeAll 39 = .ok (.iload_n 1, 1) := by decide +kernel
theorem dX4_mergeAll_40 : decode cX4_mergeAll 40 = .ok (.invokevirtual 125, 3) := by decide +kernel
theorem dX4_mergeAll_43 : decode cX4_mergeAll 43 = .ok (.aload_n 0, 1) := by decide +kernel
theorem dX4_mergeAll_44 : decode cX4_mergeAll 44 = .ok (.iload_n 1, 1) := by decide +kernel
theorem dX4_mergeAll_45 : decode cX4_mergeAll 45 = .ok (.invokevirtual 119, 3) := by decide +kernel
theorem dX4_mergeAll_48 : decode cX4_mergeAll 48 = .ok (.aload_n 0, 1) := by decide +kernel
theorem dX4_mergeAll_49 : decode cX4_mergeAll 49 = .ok (.invokevirtual 122, 3) := by decide +kernel
theorem dX4_mergeAll_52 : decode cX4_mergeAll 52 = .ok (.istore_n 1, 1) := by decide +kernel
theorem dX4_mergeAll_53 : decode cX4_mergeAll 53 = .ok (.iinc 2 1, 3) := by decide +kernel
theorem dX4_mergeAll_56 : decode cX4_mergeAll 56 = .ok (.goto (-28), 3) := by decide +kernel
theorem dX4_mergeAll_59 : decode cX4_mergeAll 59 = .ok (.return_, 1) := by decide +kernel
theorem dX4_layByMeans_0 : decode cX4_layByMeans 0 = .ok (.aload_n 0, 1) := by decide +kernel
theorem dX4_layByMeans_1 : decode cX4_layByMeans 1 = .ok (.getfield 27, 3) := by decide +kernel
theorem dX4_layByMeans_4 : decode cX4_layByMeans 4 = .ok (.iload_n 1, 1) := by decide +kernel
theorem dX4_layByMeans_5 : decode cX4_layByMeans 5 = .ok (.invokevirtual 66, 3) := by decide +kernel
theorem dX4_layByMeans_8 : decode cX4_layByMeans 8 = .ok (.i2l, 1) := by decide +kernel
theorem dX4_layByMeans_9 : decode cX4_layByMeans 9 = .ok (.lstore_n 2, 1) := by decide +kernel
theorem dX4_layByMeans_10 : decode cX4_layByMeans 10 = .ok (.aload_n 0, 1) := by decide +kernel
theorem dX4_layByMeans_11 : decode cX4_layByMeans 11 = .ok (.getfield 30, 3) := by decide +kernel
theorem dX4_layByMeans_14 : decode cX4_layByMeans 14 = .ok (.iload_n 1, 1) := by decide +kernel
theorem dX4_layByMeans_15 : decode cX4_layByMeans 15 = .ok (.invokevirtual 66, 3) := by decide +kernel
theorem dX4_layByMeans_18 : decode cX4_layByMeans 18 = .ok (.i2l, 1) := by decide +kernel
theorem dX4_layByMeans_19 : decode cX4_layByMeans 19 = .ok (.lstore 4, 2) := by decide +kernel
theorem dX4_layByMeans_21 : decode cX4_layByMeans 21 = .ok (.iconst 0, 1) := by decide +kernel
theorem dX4_layByMeans_22 : decode cX4_layByMeans 22 = .ok (.istore 6, 2) := by decide +kernel
theorem dX4_layByMeans_24 : decode cX4_layByMeans 24 = .ok (.iload 6, 2) := by decide +kernel
theorem dX4_layByMeans_26 : decode cX4_layByMeans 26 = .ok (.aload_n 0, 1) := by decide +kernel
theorem dX4_layByMeans_27 : decode cX4_layByMeans 27 = .ok (.getfield 12, 3) := by decide +kernel
theorem dX4_layByMeans_30 : decode cX4_layByMeans 30 = .ok (.invokevirtual 73, 3) := by decide +kernel
theorem dX4_layByMeans_33 : decode cX4_layByMeans 33 = .ok (.if_icmp .ge 105, 3) := by decide +kernel
theorem dX4_layByMeans_36 : decode cX4_layByMeans 36 = .ok (.aload_n 0, 1) := by decide +kernel
theorem dX4_layByMeans_37 : decode cX4_layByMeans 37 = .ok (.getfield 23, 3) := by decide +kernel
theorem dX4_layByMeans_40 : decode cX4_layByMeans 40 = .ok (.iload_n 1, 1) := by decide +kernel
theorem dX4_layByMeans_41 : decode cX4_layByMeans 41 = .ok (.invokevirtual 66, 3) := by decide +kernel
theorem dX4_layByMeans_44 : decode cX4_layByMeans 44 = .ok (.iload 6, 2) := by decide +kernel
theorem dX4_layByMeans_46 : decode cX4_layByMeans 46 = .ok (.invokestatic 82, 3) := by decide +kernel
theorem dX4_layByMeans_49 : decode cX4_layByMeans 49 = .ok (.ifCond .eq 83, 3) := by decide +kernel
theorem dX4_layByMeans_132 : decode cX4_layByMeans 132 = .ok (.iinc 6 1, 3) := by decide +kernel
theorem dX4_layByMeans_135 : decode cX4_layByMeans 135 = .ok (.goto (-111), 3) := by decide +kernel
theorem dX4_layByMeans_52 : decode cX4_layByMeans 52 = .ok (.aload_n 0, 1) := by decide +kernel
theorem dX4_layByMeans_53 : decode cX4_layByMeans 53 = .ok (.getfield 12, 3) := by decide +kernel
theorem dX4_layByMeans_56 : decode cX4_layByMeans 56 = .ok (.aload_n 0, 1) := by decide +kernel
theorem dX4_layByMeans_57 : decode cX4_layByMeans 57 = .ok (.getfield 12, 3) := by decide +kernel
theorem dX4_layByMeans_60 : decode cX4_layByMeans 60 = .ok (.iload 6, 2) := by decide +kernel
theorem dX4_layByMeans_62 : decode cX4_layByMeans 62 = .ok (.invokevirtual 95, 3) := by decide +kernel
theorem dX4_layByMeans_65 : decode cX4_layByMeans 65 = .ok (.invokevirtual 106, 3) := by decide +kernel
theorem dX4_layByMeans_68 : decode cX4_layByMeans 68 = .ok (.istore 7, 2) := by decide +kernel
theorem dX4_layByMeans_70 : decode cX4_layByMeans 70 = .ok (.aload_n 0, 1) := by decide +kernel
theorem dX4_layByMeans_71 : decode cX4_layByMeans 71 = .ok (.iload 7, 2) := by decide +kernel
theorem dX4_layByMeans_73 : decode cX4_layByMeans 73 = .ok (.invokevirtual 113, 3) := by decide +kernel
theorem dX4_layByMeans_76 : decode cX4_layByMeans 76 = .ok (.i2l, 1) := by decide +kernel
theorem dX4_layByMeans_77 : decode cX4_layByMeans 77 = .ok (.lstore 8, 2) := by decide +kernel
theorem dX4_layByMeans_79 : decode cX4_layByMeans 79 = .ok (.aload_n 0, 1) := by decide +kernel
theorem dX4_layByMeans_80 : decode cX4_layByMeans 80 = .ok (.iload 7, 2) := by decide +kernel
theorem dX4_layByMeans_82 : decode cX4_layByMeans 82 = .ok (.invokevirtual 116, 3) := by decide +kernel
theorem dX4_layByMeans_85 : decode cX4_layByMeans 85 = .ok (.i2l, 1) := by decide +kernel
theorem dX4_layByMeans_86 : decode cX4_layByMeans 86 = .ok (.lstore 10, 2) := by decide +kernel
theorem dX4_layByMeans_88 : decode cX4_layByMeans 88 = .ok (.aload_n 0, 1) := by decide +kernel
theorem dX4_layByMeans_89 : decode cX4_layByMeans 89 = .ok (.getfield 12, 3) := by decide +kernel
theorem dX4_layByMeans_92 : decode cX4_layByMeans 92 = .ok (.iload 6, 2) := by decide +kernel
theorem dX4_layByMeans_94 : decode cX4_layByMeans 94 = .ok (.invokevirtual 103, 3) := by decide +kernel
theorem dX4_layByMeans_97 : decode cX4_layByMeans 97 = .ok (.i2l, 1) := by decide +kernel
theorem dX4_layByMeans_98 : decode cX4_layByMeans 98 = .ok (.lload 4, 2) := by decide +kernel
theorem dX4_layByMeans_100 : decode cX4_layByMeans 100 = .ok (.lmul, 1) := by decide +kernel
theorem dX4_layByMeans_101 : decode cX4_layByMeans 101 = .ok (.lload_n 2, 1) := by decide +kernel
theorem dX4_layByMeans_102 : decode cX4_layByMeans 102 = .ok (.ladd, 1) := by decide +kernel
theorem dX4_layByMeans_103 : decode cX4_layByMeans 103 = .ok (.lload 10, 2) := by decide +kernel
theorem dX4_layByMeans_105 : decode cX4_layByMeans 105 = .ok (.lmul, 1) := by decide +kernel
theorem dX4_layByMeans_106 : decode cX4_layByMeans 106 = .ok (.lload 8, 2) := by decide +kernel
theorem dX4_layByMeans_108 : decode cX4_layByMeans 108 = .ok (.lload 4, 2) := by decide +kernel
theorem dX4_layByMeans_110 : decode cX4_layByMeans 110 = .ok (.lmul, 1) := by decide +kernel
theorem dX4_layByMeans_111 : decode cX4_layByMeans 111 = .ok (.lsub, 1) := by decide +kernel
theorem dX4_layByMeans_112 : decode cX4_layByMeans 112 = .ok (.lstore 12, 2) := by decide +kernel
theorem dX4_layByMeans_114 : decode cX4_layByMeans 114 = .ok (.aload_n 0, 1) := by decide +kernel
theorem dX4_layByMeans_115 : decode cX4_layByMeans 115 = .ok (.getfield 12, 3) := by decide +kernel
theorem dX4_layByMeans_118 : decode cX4_layByMeans 118 = .ok (.iconst 1, 1) := by decide +kernel
theorem dX4_layByMeans_119 : decode cX4_layByMeans 119 = .ok (.iload 6, 2) := by decide +kernel
theorem dX4_layByMeans_121 : decode cX4_layByMeans 121 = .ok (.ishl, 1) := by decide +kernel
theorem dX4_layByMeans_122 : decode cX4_layByMeans 122 = .ok (.lload 12, 2) := by decide +kernel
theorem dX4_layByMeans_124 : decode cX4_layByMeans 124 = .ok (.lload 4, 2) := by decide +kernel
theorem dX4_layByMeans_126 : decode cX4_layByMeans 126 = .ok (.lload 10, 2) := by decide +kernel
theorem dX4_layByMeans_128 : decode cX4_layByMeans 128 = .ok (.lmul, 1) := by decide +kernel
theorem dX4_layByMeans_129 : decode cX4_layByMeans 129 = .ok (.invokevirtual 137, 3) := by decide +kernel
theorem dX4_layByMeans_138 : decode cX4_layByMeans 138 = .ok (.return_, 1) := by decide +kernel
theorem dX4_layAll_0 : decode cX4_layAll 0 = .ok (.iconst 0, 1) := by decide +kernel
theorem dX4_layAll_1 : decode cX4_layAll 1 = .ok (.istore_n 2, 1) := by decide +kernel
theorem dX4_layAll_2 : decode cX4_layAll 2 = .ok (.iload_n 2, 1) := by decide +kernel
theorem dX4_layAll_3 : decode cX4_layAll 3 = .ok (.aload_n 0, 1) := by decide +kernel
theorem dX4_layAll_4 : decode cX4_layAll 4 = .ok (.getfield 37, 3) := by decide +kernel
theorem dX4_layAll_7 : decode cX4_layAll 7 = .ok (.if_icmp .ge 54, 3) := by decide +kernel
theorem dX4_layAll_10 : decode cX4_layAll 10 = .ok (.iload_n 1, 1) := by decide +kernel
theorem dX4_layAll_11 : decode cX4_layAll 11 = .ok (.ifCond .eq 11, 3) := by decide +kernel
theorem dX4_layAll_22 : decode cX4_layAll 22 = .ok (.aload_n 0, 1) := by decide +kernel
theorem dX4_layAll_23 : decode cX4_layAll 23 = .ok (.getfield 12, 3) := by decide +kernel
theorem dX4_layAll_26 : decode cX4_layAll 26 = .ok (.aload_n 0, 1) := by decide +kernel
theorem dX4_layAll_27 : decode cX4_layAll 27 = .ok (.getfield 23, 3) := by decide +kernel
theorem dX4_layAll_30 : decode cX4_layAll 30 = .ok (.iload_n 2, 1) := by decide +kernel
theorem dX4_layAll_31 : decode cX4_layAll 31 = .ok (.invokevirtual 66, 3) := by decide +kernel
theorem dX4_layAll_34 : decode cX4_layAll 34 = .ok (.aload_n 0, 1) := by decide +kernel
theorem dX4_layAll_35 : decode cX4_layAll 35 = .ok (.getfield 27, 3) := by decide +kernel
theorem dX4_layAll_38 : decode cX4_layAll 38 = .ok (.iload_n 2, 1) := by decide +kernel
theorem dX4_layAll_39 : decode cX4_layAll 39 = .ok (.invokevirtual 66, 3) := by decide +kernel
theorem dX4_layAll_42 : decode cX4_layAll 42 = .ok (.i2l, 1) := by decide +kernel
theorem dX4_layAll_43 : decode cX4_layAll 43 = .ok (.aload_n 0, 1) := by decide +kernel
theorem dX4_layAll_44 : decode cX4_layAll 44 = .ok (.getfield 30, 3) := by decide +kernel
theorem dX4_layAll_47 : decode cX4_layAll 47 = .ok (.iload_n 2, 1) := by decide +kernel
theorem dX4_layAll_48 : decode cX4_layAll 48 = .ok (.invokevirtual 66, 3) := by decide +kernel
theorem dX4_layAll_51 : decode cX4_layAll 51 = .ok (.i2l, 1) := by decide +kernel
theorem dX4_layAll_52 : decode cX4_layAll 52 = .ok (.invokevirtual 137, 3) := by decide +kernel
theorem dX4_layAll_55 : decode cX4_layAll 55 = .ok (.iinc 2 1, 3) := by decide +kernel
theorem dX4_layAll_58 : decode cX4_layAll 58 = .ok (.goto (-56), 3) := by decide +kernel
theorem dX4_layAll_14 : decode cX4_layAll 14 = .ok (.aload_n 0, 1) := by decide +kernel
theorem dX4_layAll_15 : decode cX4_layAll 15 = .ok (.iload_n 2, 1) := by decide +kernel
theorem dX4_layAll_16 : decode cX4_layAll 16 = .ok (.invokevirtual 134, 3) := by decide +kernel
theorem dX4_layAll_19 : decode cX4_layAll 19 = .ok (.goto 36, 3) := by decide +kernel
theorem dX4_layAll_61 : decode cX4_layAll 61 = .ok (.return_, 1) := by decide +kernel
set_option maxHeartbeats 4000000 in
set_option maxRecDepth 100000 in
theorem c_X4_firstOf (l : Launch) (g : GG) (a0 : Nat → Nat) (v0_values_marks : (Nat → Int32)) (v0_values_weights : (Nat → Int32)) (v0_values_places : (Nat → Int32)) (v0_values_aboves : (Nat → Int32)) (v0_values_belows : (Nat → Int32)) (v0_values_reduced_above : Int64) (v0_values_reduced_below : Int64) (v0_values_papers : Int32) (v0_blocks : (Nat → Int32)) (v0_tops : (Nat → Int32)) (v0_bottoms : (Nat → Int32)) (v0_blocksNow : Int32) (v0_mergesDone : Int32) (v0_loss : Int32) (p1 : Int32) (hne : (m_X4_firstOf ((v0_values_marks, v0_values_weights, v0_values_places, v0_values_aboves, v0_values_belows, (v0_values_reduced_above, v0_values_reduced_below), v0_values_papers), v0_blocks, v0_tops, v0_bottoms, v0_blocksNow, v0_mergesDone, v0_loss) p1) ≠ none) : Ct l g yX4_firstOf cX4_firstOf 4 (some .int) ({ frames := 3, cells := 0, slots := 0, locals := 65 } : Room) [.ref (a0 0), .int p1] (wX4 a0 g v0_values_marks v0_values_weights v0_values_places v0_values_aboves v0_values_belows v0_values_reduced_above v0_values_reduced_below v0_values_papers v0_blocks v0_tops v0_bottoms v0_blocksNow v0_mergesDone v0_loss) (Qi g .int (m_X4_firstOf ((v0_values_marks, v0_values_weights, v0_values_places, v0_values_aboves, v0_values_belows, (v0_values_reduced_above, v0_values_reduced_below), v0_values_papers), v0_blocks, v0_tops, v0_bottoms, v0_blocksNow, v0_mergesDone, v0_loss) p1) (fun u => u) (fun u => wX4 a0 g v0_values_marks v0_values_weights v0_values_places v0_values_aboves v0_values_belows v0_values_reduced_above v0_values_reduced_below v0_values_papers v0_blocks v0_tops v0_bottoms v0_blocksNow v0_mergesDone v0_loss)) 0 0 := by
  obtain ⟨out, hf⟩ := ne_ex hne
  have hf0 := hf
  refine Ct.of (own := RX4) (by decide +kernel) rfl (Nat.le_of_ble_eq_true rfl) ?_
  intro p e s m below meth c hx hb hr hml hown hts hlocks hin hK A H locs hA hP hD hS hE ls hl
  have hl : lv_has ls 4 [(0, .ref (a0 0)), (1, .int p1)] := hl
  unfold m_X4_firstOf at hf
  refine lv_iconst (v := (-1)) hx hb dX4_firstOf_0 (by decide) ?_
  refine lv_istore_n (lv' := [(2, .int (-1 : Int32)), (0, .ref (a0 0)), (1, .int p1)]) hx hb dX4_firstOf_1 rfl hl (by decide) rfl (fun ls hl => ?_)
  refine lv_iconst (v := 0) hx hb dX4_firstOf_2 (by decide) ?_
  refine lv_istore_n (lv' := [(3, .int (0 : Int32)), (2, .int (-1 : Int32)), (0, .ref (a0 0)), (1, .int p1)]) hx hb dX4_firstOf_3 rfl hl (by decide) rfl (fun ls hl => ?_)
  obtain ⟨r9, er9, hf⟩ := bnd hf
  refine lp_W (P := fun z => ∀ (H : Heap) (locs : List Loc) (ls : Array Slot), va_P g.1 vwCl (wX4 a0 g v0_values_marks v0_values_weights v0_values_places v0_values_aboves v0_values_belows v0_values_reduced_above v0_values_reduced_below v0_values_papers v0_blocks v0_tops v0_bottoms v0_blocksNow v0_mergesDone v0_loss) H → va_D A (wX4 a0 g v0_values_marks v0_values_weights v0_values_places v0_values_aboves v0_values_belows v0_values_reduced_above v0_values_reduced_below v0_values_papers v0_blocks v0_tops v0_bottoms v0_blocksNow v0_mergesDone v0_loss) → va_S A s.heap H locs → lv_has ls 4 [(0, .ref (a0 0)), (1, .int p1), (2, .int z.1), (3, .int z.2)] → W p l e { frames := 3, cells := 0, slots := 0, locals := 65 } s m [.ref (a0 0), .int p1].toArray below meth c H locs 0 0 (MQ below (Qi g .int (m_X4_firstOf ((v0_values_marks, v0_values_weights, v0_values_places, v0_values_aboves, v0_values_belows, (v0_values_reduced_above, v0_values_reduced_below), v0_values_papers), v0_blocks, v0_tops, v0_bottoms, v0_blocksNow, v0_mergesDone, v0_loss) p1) (fun u => u) (fun u => wX4 a0 g v0_values_marks v0_values_weights v0_values_places v0_values_aboves v0_values_belows v0_values_reduced_above v0_values_reduced_below v0_values_papers v0_blocks v0_tops v0_bottoms v0_blocksNow v0_mergesDone v0_loss) A) [.ref (a0 0), .int p1].toArray s 0 0 A) (F0 m 4 ls [])) (E := fun r9 => ∀ (H : Heap) (locs : List Loc) (ls : Array Slot), va_P g.1 vwCl (wX4 a0 g v0_values_marks v0_values_weights v0_values_places v0_values_aboves v0_values_belows v0_values_reduced_above v0_values_reduced_below v0_values_papers v0_blocks v0_tops v0_bottoms v0_blocksNow v0_mergesDone v0_loss) H → va_D A (wX4 a0 g v0_values_marks v0_values_weights v0_values_places v0_values_aboves v0_values_belows v0_values_reduced_above v0_values_reduced_below v0_values_papers v0_blocks v0_tops v0_bottoms v0_blocksNow v0_mergesDone v0_loss) → va_S A s.heap H locs → lv_has ls 4 [(2, .int r9)] → W p l e { frames := 3, cells := 0, slots := 0, locals := 65 } s m [.ref (a0 0), .int p1].toArray below meth c H locs 0 0 (MQ below (Qi g .int (m_X4_firstOf ((v0_values_marks, v0_values_weights, v0_values_places, v0_values_aboves, v0_values_belows, (v0_values_reduced_above, v0_values_reduced_below), v0_values_papers), v0_blocks, v0_tops, v0_bottoms, v0_blocksNow, v0_mergesDone, v0_loss) p1) (fun u => u) (fun u => wX4 a0 g v0_values_marks v0_values_weights v0_values_places v0_values_aboves v0_values_belows v0_values_reduced_above v0_values_reduced_below v0_values_papers v0_blocks v0_tops v0_bottoms v0_blocksNow v0_mergesDone v0_loss) A) [.ref (a0 0), .int p1].toArray s 0 0 A) (F0 m 44 ls [])) ?_ fu _ r9 er9 ?_ _ _ _ hP hD hS (lv_sub hl [2, 3, 1, 0] rfl)
  · rintro ⟨x4, x5⟩ y hf hB hXt H locs ls hP hD hS hl
    have hP : va_P g.1 vwCl (wX4 a0 g v0_values_marks v0_values_weights v0_values_places v0_values_aboves v0_values_belows v0_values_reduced_above v0_values_reduced_below v0_values_papers v0_blocks v0_tops v0_bottoms v0_blocksNow v0_mergesDone v0_loss) H := hP
    have hD : va_D A (wX4 a0 g v0_values_marks v0_values_weights v0_values_places v0_values_aboves v0_values_belows v0_values_reduced_above v0_values_reduced_below v0_values_papers v0_blocks v0_tops v0_bottoms v0_blocksNow v0_mergesDone v0_loss) := hD
    have hl : lv_has ls 4 [(0, .ref (a0 0)), (1, .int p1), (2, .int x4), (3, .int x5)] := hl
    have hf : m_X4_firstOf_l4 ((v0_values_marks, v0_values_weights, v0_values_places, v0_values_aboves, v0_values_belows, (v0_values_reduced_above, v0_values_reduced_below), v0_values_papers), v0_blocks, v0_tops, v0_bottoms, v0_blocksNow, v0_mergesDone, v0_loss) p1 x4 x5 = some y := hf
    unfold m_X4_firstOf_l4 at hf
    refine lv_iload_n hx hb dX4_firstOf_4 rfl (lv_at hl 3 rfl) ?_
    refine lv_aload_n hx hb dX4_firstOf_5 rfl (lv_at hl 0 rfl) ?_
    refine va_get (D := g.1) (ci := 5) (v := .ref (a0 1)) (C := RX4) (T := TX4) (N := 7) hx hb hts layX4 hown hK.1 hP 0 rfl rfl 0 (by decide) (hts _ kw168) (fun _ h9 => h9) rfl dX4_firstOf_6 ?_
    refine cIp hP hD hS hA hE (fun hPc hDc hSc => rV (As := []) (rest := [.int x5]) hx hb hml hown hts hK (c_X8_paperCount l g (fun i => a0 (i + 1)) v0_values_marks v0_values_weights v0_values_places v0_values_aboves v0_values_belows v0_values_reduced_above v0_values_reduced_below v0_values_papers (bnd_ne hf)) svV_X8_paperCount kw684 rfl rfl hPc hDc hSc rfl rfl hl.1 (Nat.le_of_ble_eq_true rfl) dX4_firstOf_9 ⟨Nat.le_of_ble_eq_true rfl, Nat.le_of_ble_eq_true rfl, rfl, rfl, Nat.le_of_ble_eq_true rfl, Nat.le_of_ble_eq_true rfl⟩) [(1, 12)] rfl rfl rfl (fun x6 H locs ex6 nx6 hP hS => ?_)
    have hf := bnd_of hf ex6
    refine lv_icmp_ge (tgt := 44) hx hb dX4_firstOf_12 (by decide) (fun cb => ?_) (fun cb => ?_)
    · have hf := it_t cb hf
      exact hXt _ (Option.some.inj hf).symm _ _ _ hP hD hS (lv_sub hl [2] rfl)
    have hf := it_f cb hf
    refine lv_iload_n hx hb dX4_firstOf_15 rfl (lv_at hl 1 rfl) ?_
    refine lv_iload_n hx hb dX4_firstOf_16 rfl (lv_at hl 3 rfl) ?_
    refine cIp hP hD hS hA hE (fun hPc hDc hSc => rSN (As := [.int p1, .int x5]) (rest := []) hx hb hml hown hts hK (c_X9_hasBit l g p1 x5 (bnd_ne hf)) svS_X9_hasBit nw15 hPc hDc hSc rfl rfl hl.1 (Nat.le_of_ble_eq_true rfl) dX4_firstOf_17 ⟨Nat.le_of_ble_eq_true rfl, Nat.le_of_ble_eq_true rfl, rfl, rfl, Nat.le_of_ble_eq_true rfl, Nat.le_of_ble_eq_true rfl⟩) [] rfl rfl rfl (fun x7 H locs ex7 nx7 hP hS => ?_)
    have hf := bnd_of hf ex7
    refine lv_if_eq (tgt := 38) hx hb dX4_firstOf_20 (by decide) (fun cb => ?_) (fun cb => ?_)
    · have hf := it_t cb hf
      refine lv_iinc (v := (x5 + 1)) (lv' := [(3, .int (x5 + 1)), (0, .ref (a0 0)), (1, .int p1), (2, .int x4)]) hx hb dX4_firstOf_38 hl (k := 3) rfl (by rfl) (by decide) rfl (fun ls hl => ?_)
      refine lv_goto (tgt := 4) hx hb dX4_firstOf_41 (by decide) ?_
      exact hB _ (Option.some.inj hf).symm _ _ _ hP hD hS (lv_sub hl [1, 2, 3, 0] rfl)
    have hf := it_f cb hf
    refine lv_iload_n hx hb dX4_firstOf_23 rfl (lv_at hl 2 rfl) ?_
    refine lv_if_lt (tgt := 36) hx hb dX4_firstOf_24 (by decide) (fun cb => ?_) (fun cb => ?_)
    · have hf := it_t cb hf
      refine lv_iload_n hx hb dX4_firstOf_36 rfl (lv_at hl 3 rfl) ?_
      refine lv_istore_n (lv' := [(2, .int x5), (0, .ref (a0 0)), (1, .int p1), (3, .int x5)]) hx hb dX4_firstOf_37 rfl hl (by decide) rfl (fun ls hl => ?_)
      refine lv_iinc (v := (x5 + 1)) (lv' := [(3, .int (x5 + 1)), (2, .int x5), (0, .ref (a0 0)), (1, .int p1)]) hx hb dX4_firstOf_38 hl (k := 3) rfl (by rfl) (by decide) rfl (fun ls hl => ?_)
      refine lv_goto (tgt := 4) hx hb dX4_firstOf_41 (by decide) ?_
      exact hB _ (Option.some.inj hf).symm _ _ _ hP hD hS (lv_sub hl [2, 3, 1, 0] rfl)
    have hf := it_f cb hf
    refine lv_aload_n hx hb dX4_firstOf_27 rfl (lv_at hl 0 rfl) ?_
    refine lv_iload_n hx hb dX4_firstOf_28 rfl (lv_at hl 3 rfl) ?_
    refine lv_iload_n hx hb dX4_firstOf_29 rfl (lv_at hl 2 rfl) ?_
    refine cIp hP hD hS hA hE (fun hPc hDc hSc => rV (As := [.int x5, .int x4]) (rest := []) hx hb hml hown hts hK (c_X4_isAhead l g a0 v0_values_marks v0_values_weights v0_values_places v0_values_aboves v0_values_belows v0_values_reduced_above v0_values_reduced_below v0_values_papers v0_blocks v0_tops v0_bottoms v0_blocksNow v0_mergesDone v0_loss x5 x4 (bnd_ne hf)) svV_X4_isAhead kw691 rfl rfl hPc hDc hSc rfl rfl hl.1 (Nat.le_of_ble_eq_true rfl) dX4_firstOf_30 ⟨Nat.le_of_ble_eq_true rfl, Nat.le_of_ble_eq_true rfl, rfl, rfl, Nat.le_of_ble_eq_true rfl, Nat.le_of_ble_eq_true rfl⟩) [(0, 19)] rfl rfl rfl (fun x8 H locs ex8 nx8 hP hS => ?_)
    have hf := bnd_of hf ex8
    refine lv_if_eq (tgt := 38) hx hb dX4_firstOf_33 (by decide) (fun cb => ?_) (fun cb => ?_)
    · have hf := it_t cb hf
      refine lv_iinc (v := (x5 + 1)) (lv' := [(3, .int (x5 + 1)), (0, .ref (a0 0)), (1, .int p1), (2, .int x4)]) hx hb dX4_firstOf_38 hl (k := 3) rfl (by rfl) (by decide) rfl (fun ls hl => ?_)
      refine lv_goto (tgt := 4) hx hb dX4_firstOf_41 (by decide) ?_
      exact hB _ (Option.some.inj hf).symm _ _ _ hP hD hS (lv_sub hl [1, 2, 3, 0] rfl)
    have hf := it_f cb hf
    refine lv_iload_n hx hb dX4_firstOf_36 rfl (lv_at hl 3 rfl) ?_
    refine lv_istore_n (lv' := [(2, .int x5), (0, .ref (a0 0)), (1, .int p1), (3, .int x5)]) hx hb dX4_firstOf_37 rfl hl (by decide) rfl (fun ls hl => ?_)
    refine lv_iinc (v := (x5 + 1)) (lv' := [(3, .int (x5 + 1)), (2, .int x5), (0, .ref (a0 0)), (1, .int p1)]) hx hb dX4_firstOf_38 hl (k := 3) rfl (by rfl) (by decide) rfl (fun ls hl => ?_)
    refine lv_goto (tgt := 4) hx hb dX4_firstOf_41 (by decide) ?_
    exact hB _ (Option.some.inj hf).symm _ _ _ hP hD hS (lv_sub hl [2, 3, 1, 0] rfl)
  intro H locs ls hP hD hS hl
  have hP : va_P g.1 vwCl (wX4 a0 g v0_values_marks v0_values_weights v0_values_places v0_values_aboves v0_values_belows v0_values_reduced_above v0_values_reduced_below v0_values_papers v0_blocks v0_tops v0_bottoms v0_blocksNow v0_mergesDone v0_loss) H := hP
  have hD : va_D A (wX4 a0 g v0_values_marks v0_values_weights v0_values_places v0_values_aboves v0_values_belows v0_values_reduced_above v0_values_reduced_below v0_values_papers v0_blocks v0_tops v0_bottoms v0_blocksNow v0_mergesDone v0_loss) := hD
  have hl : lv_has ls 4 [(2, .int r9)] := hl
  refine lv_iload_n hx hb dX4_firstOf_44 rfl (lv_at hl 0 rfl) ?_
  refine lv_iconst (v := 0) hx hb dX4_firstOf_45 (by decide) ?_
  refine va_mmax hx hb (hml.trans hl.1.symm) hown (hts _ kw706) (hts _ kw43) (hts _ kw4) (hts _ kw44) (Nat.le_of_ble_eq_true rfl) (Nat.le_of_ble_eq_true rfl) (Nat.zero_le _) (Nat.zero_le _) dX4_firstOf_46 ?_
  obtain ⟨x10, ex10, hf⟩ := bnd hf
  refine nmI (Option.some.inj ex10) ?_
  exact retI (v := x10) (u := x10) (val := fun u => u) (W1 := fun u => wX4 a0 g v0_values_marks v0_values_weights v0_values_places v0_values_aboves v0_values_belows v0_values_reduced_above v0_values_reduced_below v0_values_papers v0_blocks v0_tops v0_bottoms v0_blocksNow v0_mergesDone v0_loss) hx hb hr hlocks hS hP hD (hf0.trans hf.symm) rfl rfl dX4_firstOf_49
set_option maxHeartbeats 4000000 in
set_option maxRecDepth 100000 in
theorem c_X4_standOneByOne (l : Launch) (g : GG) (a0 : Nat → Nat) (v0_values_marks : (Nat → Int32)) (v0_values_weights : (Nat → Int32)) (v0_values_places : (Nat → Int32)) (v0_values_aboves : (Nat → Int32)) (v0_values_belows : (Nat → Int32)) (v0_values_reduced_above : Int64) (v0_values_reduced_below : Int64) (v0_values_papers : Int32) (v0_blocks : (Nat → Int32)) (v0_tops : (Nat → Int32)) (v0_bottoms : (Nat → Int32)) (v0_blocksNow : Int32) (v0_mergesDone : Int32) (v0_loss : Int32) (hne : (m_X4_standOneByOne ((v0_values_marks, v0_values_weights, v0_values_places, v0_values_aboves, v0_values_belows, (v0_values_reduced_above, v0_values_reduced_below), v0_values_papers), v0_blocks, v0_tops, v0_bottoms, v0_blocksNow, v0_mergesDone, v0_loss)) ≠ none) : Ct l g yX4_standOneByOne cX4_standOneByOne 4 none ({ frames := 4, cells := 0, slots := 0, locals := 88 } : Room) [.ref (a0 0)] (wX4 a0 g v0_values_marks v0_values_weights v0_values_places v0_values_aboves v0_values_belows v0_values_reduced_above v0_values_reduced_below v0_values_papers v0_blocks v0_tops v0_bottoms v0_blocksNow v0_mergesDone v0_loss) (Qv g (m_X4_standOneByOne ((v0_values_marks, v0_values_weights, v0_values_places, v0_values_aboves, v0_values_belows, (v0_values_reduced_above, v0_values_reduced_below), v0_values_papers), v0_blocks, v0_tops, v0_bottoms, v0_blocksNow, v0_mergesDone, v0_loss)) (fun u => wX4 a0 g v0_values_marks v0_values_weights v0_values_places v0_values_aboves v0_values_belows v0_values_reduced_above v0_values_reduced_below v0_values_papers u.1 v0_tops v0_bottoms u.2 v0_mergesDone v0_loss)) 0 0 := by
  obtain ⟨out, hf⟩ := ne_ex hne
  have hf0 := hf
  refine Ct.of (own := RX4) (by decide +kernel) rfl (Nat.le_of_ble_eq_true rfl) ?_
  intro p e s m below meth c hx hb hr hml hown hts hlocks hin hK A H locs hA hP hD hS hE ls hl
  have hl : lv_has ls 4 [(0, .ref (a0 0))] := hl
  unfold m_X4_standOneByOne at hf
  refine lv_aload_n hx hb dX4_standOneByOne_0 rfl (lv_at hl 0 rfl) ?_
  refine va_get (D := g.1) (ci := 5) (v := .ref (a0 1)) (C := RX4) (T := TX4) (N := 7) hx hb hts layX4 hown hK.1 hP 0 rfl rfl 0 (by decide) (hts _ kw168) (fun _ h9 => h9) rfl dX4_standOneByOne_1 ?_
  refine cIp hP hD hS hA hE (fun hPc hDc hSc => rV (As := []) (rest := []) hx hb hml hown hts hK (c_X8_allPapers l g (fun i => a0 (i + 1)) v0_values_marks v0_values_weights v0_values_places v0_values_aboves v0_values_belows v0_values_reduced_above v0_values_reduced_below v0_values_papers (bnd_ne hf)) svV_X8_allPapers kw680 rfl rfl hPc hDc hSc rfl rfl hl.1 (Nat.le_of_ble_eq_true rfl) dX4_standOneByOne_4 ⟨Nat.le_of_ble_eq_true rfl, Nat.le_of_ble_eq_true rfl, rfl, rfl, Nat.le_of_ble_eq_true rfl, Nat.le_of_ble_eq_true rfl⟩) [(1, 12)] rfl rfl rfl (fun x1 H locs ex1 nx1 hP hS => ?_)
  have hf := bnd_of hf ex1
  refine lv_istore_n (lv' := [(1, .int x1), (0, .ref (a0 0))]) hx hb dX4_standOneByOne_7 rfl hl (by decide) rfl (fun ls hl => ?_)
  refine lv_iconst (v := 0) hx hb dX4_standOneByOne_8 (by decide) ?_
  refine lv_istore_n (lv' := [(2, .int (0 : Int32)), (1, .int x1), (0, .ref (a0 0))]) hx hb dX4_standOneByOne_9 rfl hl (by decide) rfl (fun ls hl => ?_)
  obtain ⟨r14, er14, hf⟩ := bnd hf
  refine lp_W (P := fun z => ∀ (H : Heap) (locs : List Loc) (ls : Array Slot), va_P g.1 vwCl (wX4 a0 g v0_values_marks v0_values_weights v0_values_places v0_values_aboves v0_values_belows v0_values_reduced_above v0_values_reduced_below v0_values_papers z.2.2.1 v0_tops v0_bottoms z.2.2.2 v0_mergesDone v0_loss) H → va_D A (wX4 a0 g v0_values_marks v0_values_weights v0_values_places v0_values_aboves v0_values_belows v0_values_reduced_above v0_values_reduced_below v0_values_papers z.2.2.1 v0_tops v0_bottoms z.2.2.2 v0_mergesDone v0_loss) → va_S A s.heap H locs → lv_has ls 4 [(0, .ref (a0 0)), (1, .int z.1), (2, .int z.2.1)] → W p l e { frames := 4, cells := 0, slots := 0, locals := 88 } s m [.ref (a0 0)].toArray below meth c H locs 0 0 (MQ below (Qv g (m_X4_standOneByOne ((v0_values_marks, v0_values_weights, v0_values_places, v0_values_aboves, v0_values_belows, (v0_values_reduced_above, v0_values_reduced_below), v0_values_papers), v0_blocks, v0_tops, v0_bottoms, v0_blocksNow, v0_mergesDone, v0_loss)) (fun u => wX4 a0 g v0_values_marks v0_values_weights v0_values_places v0_values_aboves v0_values_belows v0_values_reduced_above v0_values_reduced_below v0_values_papers u.1 v0_tops v0_bottoms u.2 v0_mergesDone v0_loss) A) [.ref (a0 0)].toArray s 0 0 A) (F0 m 10 ls [])) (E := fun r14 => ∀ (H : Heap) (locs : List Loc) (ls : Array Slot), va_P g.1 vwCl (wX4 a0 g v0_values_marks v0_values_weights v0_values_places v0_values_aboves v0_values_belows v0_values_reduced_above v0_values_reduced_below v0_values_papers r14.1 v0_tops v0_bottoms r14.2 v0_mergesDone v0_loss) H → va_D A (wX4 a0 g v0_values_marks v0_values_weights v0_values_places v0_values_aboves v0_values_belows v0_values_reduced_above v0_values_reduced_below v0_values_papers r14.1 v0_tops v0_bottoms r14.2 v0_mergesDone v0_loss) → va_S A s.heap H locs → lv_has ls 4 [] → W p l e { frames := 4, cells := 0, slots := 0, locals := 88 } s m [.ref (a0 0)].toArray below meth c H locs 0 0 (MQ below (Qv g (m_X4_standOneByOne ((v0_values_marks, v0_values_weights, v0_values_places, v0_values_aboves, v0_values_belows, (v0_values_reduced_above, v0_values_reduced_below), v0_values_papers), v0_blocks, v0_tops, v0_bottoms, v0_blocksNow, v0_mergesDone, v0_loss)) (fun u => wX4 a0 g v0_values_marks v0_values_weights v0_values_places v0_values_aboves v0_values_belows v0_values_reduced_above v0_values_reduced_below v0_values_papers u.1 v0_tops v0_bottoms u.2 v0_mergesDone v0_loss) A) [.ref (a0 0)].toArray s 0 0 A) (F0 m 46 ls [])) ?_ fu _ r14 er14 ?_ _ _ _ hP hD hS (lv_sub hl [2, 1, 0] rfl)
  · rintro ⟨x6, x7, x8, x9⟩ y hf hB hXt H locs ls hP hD hS hl
    have hP : va_P g.1 vwCl (wX4 a0 g v0_values_marks v0_values_weights v0_values_places v0_values_aboves v0_values_belows v0_values_reduced_above v0_values_reduced_below v0_values_papers x8 v0_tops v0_bottoms x9 v0_mergesDone v0_loss) H := hP
    have hD : va_D A (wX4 a0 g v0_values_marks v0_values_weights v0_values_places v0_values_aboves v0_values_belows v0_values_reduced_above v0_values_reduced_below v0_values_papers x8 v0_tops v0_bottoms x9 v0_mergesDone v0_loss) := hD
    have hl : lv_has ls 4 [(0, .ref (a0 0)), (1, .int x6), (2, .int x7)] := hl
    have hf : m_X4_standOneByOne_l10 ((v0_values_marks, v0_values_weights, v0_values_places, v0_values_aboves, v0_values_belows, (v0_values_reduced_above, v0_values_reduced_below), v0_values_papers), v0_blocks, v0_tops, v0_bottoms, v0_blocksNow, v0_mergesDone, v0_loss) x6 x7 x8 x9 = some y := hf
    unfold m_X4_standOneByOne_l10 at hf
    refine lv_iload_n hx hb dX4_standOneByOne_10 rfl (lv_at hl 2 rfl) ?_
    refine lv_aload_n hx hb dX4_standOneByOne_11 rfl (lv_at hl 0 rfl) ?_
    refine va_get (D := g.1) (ci := 5) (v := .ref (a0 1)) (C := RX4) (T := TX4) (N := 7) hx hb hts layX4 hown hK.1 hP 0 rfl rfl 0 (by decide) (hts _ kw168) (fun _ h9 => h9) rfl dX4_standOneByOne_12 ?_
    refine cIp hP hD hS hA hE (fun hPc hDc hSc => rV (As := []) (rest := [.int x7]) hx hb hml hown hts hK (c_X8_paperCount l g (fun i => a0 (i + 1)) v0_values_marks v0_values_weights v0_values_places v0_values_aboves v0_values_belows v0_values_reduced_above v0_values_reduced_below v0_values_papers (bnd_ne hf)) svV_X8_paperCount kw684 rfl rfl hPc hDc hSc rfl rfl hl.1 (Nat.le_of_ble_eq_true rfl) dX4_standOneByOne_15 ⟨Nat.le_of_ble_eq_true rfl, Nat.le_of_ble_eq_true rfl, rfl, rfl, Nat.le_of_ble_eq_true rfl, Nat.le_of_ble_eq_true rfl⟩) [(1, 12)] rfl rfl rfl (fun x10 H locs ex10 nx10 hP hS => ?_)
    have hf := bnd_of hf ex10
    refine lv_icmp_ge (tgt := 46) hx hb dX4_standOneByOne_18 (by decide) (fun cb => ?_) (fun cb => ?_)
    · have hf := it_t cb hf
      exact hXt _ (Option.some.inj hf).symm _ _ _ hP hD hS (lv_sub hl [] rfl)
    have hf := it_f cb hf
    refine lv_iconst (v := 1) hx hb dX4_standOneByOne_21 (by decide) ?_
    refine lv_aload_n hx hb dX4_standOneByOne_22 rfl (lv_at hl 0 rfl) ?_
    refine lv_iload_n hx hb dX4_standOneByOne_23 rfl (lv_at hl 1 rfl) ?_
    refine cIp hP hD hS hA hE (fun hPc hDc hSc => rV (As := [.int x6]) (rest := [.int (1 : Int32)]) hx hb hml hown hts hK (c_X4_firstOf l g a0 v0_values_marks v0_values_weights v0_values_places v0_values_aboves v0_values_belows v0_values_reduced_above v0_values_reduced_below v0_values_papers x8 v0_tops v0_bottoms x9 v0_mergesDone v0_loss x6 (bnd_ne hf)) svV_X4_firstOf kw688 rfl rfl hPc hDc hSc rfl rfl hl.1 (Nat.le_of_ble_eq_true rfl) dX4_standOneByOne_24 ⟨Nat.le_of_ble_eq_true rfl, Nat.le_of_ble_eq_true rfl, rfl, rfl, Nat.le_of_ble_eq_true rfl, Nat.le_of_ble_eq_true rfl⟩) [(0, 19)] rfl rfl rfl (fun x11 H locs ex11 nx11 hP hS => ?_)
    have hf := bnd_of hf ex11
    refine lv_ishl hx hb dX4_standOneByOne_27 ?_
    refine lv_istore_n (lv' := [(3, .int ((1 : Int32) <<< (x11 &&& 31))), (0, .ref (a0 0)), (1, .int x6), (2, .int x7)]) hx hb dX4_standOneByOne_28 rfl hl (by decide) rfl (fun ls hl => ?_)
    refine lv_aload_n hx hb dX4_standOneByOne_29 rfl (lv_at hl 1 rfl) ?_
    refine lv_iload_n hx hb dX4_standOneByOne_30 rfl (lv_at hl 0 rfl) ?_
    refine cV hP hD hS hA hE (fun hPc hDc hSc => rV (As := [.int ((1 : Int32) <<< (x11 &&& 31))]) (rest := []) hx hb hml hown hts hK (c_X4_standBehind l g a0 v0_values_marks v0_values_weights v0_values_places v0_values_aboves v0_values_belows v0_values_reduced_above v0_values_reduced_below v0_values_papers x8 v0_tops v0_bottoms x9 v0_mergesDone v0_loss ((1 : Int32) <<< (x11 &&& 31)) (bnd_ne hf)) svV_X4_standBehind kw707 rfl rfl hPc hDc hSc rfl rfl hl.1 (Nat.le_of_ble_eq_true rfl) dX4_standOneByOne_31 ⟨Nat.le_of_ble_eq_true rfl, Nat.le_of_ble_eq_true rfl, rfl, rfl, Nat.le_of_ble_eq_true rfl, Nat.le_of_ble_eq_true rfl⟩) [(0, 19)] rfl rfl rfl (fun _ => rfl) (fun x12 H locs ex12 hP hD hS => ?_)
    have hf := bnd_of hf ex12
    have hP : va_P g.1 vwCl (wX4 a0 g v0_values_marks v0_values_weights v0_values_places v0_values_aboves v0_values_belows v0_values_reduced_above v0_values_reduced_below v0_values_papers x12.1 v0_tops v0_bottoms x12.2 v0_mergesDone v0_loss) H := hP
    have hD : va_D A (wX4 a0 g v0_values_marks v0_values_weights v0_values_places v0_values_aboves v0_values_belows v0_values_reduced_above v0_values_reduced_below v0_values_papers x12.1 v0_tops v0_bottoms x12.2 v0_mergesDone v0_loss) := hD
    refine lv_iload_n hx hb dX4_standOneByOne_34 rfl (lv_at hl 2 rfl) ?_
    refine lv_iload_n hx hb dX4_standOneByOne_35 rfl (lv_at hl 0 rfl) ?_
    refine lv_iconst (v := (-1)) hx hb dX4_standOneByOne_36 (by decide) ?_
    refine lv_ixor hx hb dX4_standOneByOne_37 ?_
    refine lv_iand hx hb dX4_standOneByOne_38 ?_
    obtain ⟨x13, ex13, hf⟩ := bnd hf
    refine nmI (Option.some.inj ex13) ?_
    refine lv_istore_n (lv' := [(1, .int x13), (3, .int ((1 : Int32) <<< (x11 &&& 31))), (0, .ref (a0 0)), (2, .int x7)]) hx hb dX4_standOneByOne_39 rfl hl (by decide) rfl (fun ls hl => ?_)
    refine lv_iinc (v := (x7 + 1)) (lv' := [(2, .int (x7 + 1)), (1, .int x13), (3, .int ((1 : Int32) <<< (x11 &&& 31))), (0, .ref (a0 0))]) hx hb dX4_standOneByOne_40 hl (k := 3) rfl (by rfl) (by decide) rfl (fun ls hl => ?_)
    refine lv_goto (tgt := 10) hx hb dX4_standOneByOne_43 (by decide) ?_
    exact hB _ (Option.some.inj hf).symm _ _ _ hP hD hS (lv_sub hl [3, 1, 0] rfl)
  intro H locs ls hP hD hS hl
  have hP : va_P g.1 vwCl (wX4 a0 g v0_values_marks v0_values_weights v0_values_places v0_values_aboves v0_values_belows v0_values_reduced_above v0_values_reduced_below v0_values_papers r14.1 v0_tops v0_bottoms r14.2 v0_mergesDone v0_loss) H := hP
  have hD : va_D A (wX4 a0 g v0_values_marks v0_values_weights v0_values_places v0_values_aboves v0_values_belows v0_values_reduced_above v0_values_reduced_below v0_values_papers r14.1 v0_tops v0_bottoms r14.2 v0_mergesDone v0_loss) := hD
  have hl : lv_has ls 4 [] := hl
  exact retV (u := (r14.1, r14.2)) (W1 := fun u => wX4 a0 g v0_values_marks v0_values_weights v0_values_places v0_values_aboves v0_values_belows v0_values_reduced_above v0_values_reduced_below v0_values_papers u.1 v0_tops v0_bottoms u.2 v0_mergesDone v0_loss) hx hb hr hlocks hS hP hD (hf0.trans hf.symm) dX4_standOneByOne_46
set_option maxHeartbeats 4000000 in
set_option maxRecDepth 100000 in
theorem c_X4_numberTop (l : Launch) (g : GG) (a0 : Nat → Nat) (v0_values_marks : (Nat → Int32)) (v0_values_weights : (Nat → Int32)) (v0_values_places : (Nat → Int32)) (v0_values_aboves : (Nat → Int32)) (v0_values_belows : (Nat → Int32)) (v0_values_reduced_above : Int64) (v0_values_reduced_below : Int64) (v0_values_papers : Int32) (v0_blocks : (Nat → Int32)) (v0_tops : (Nat → Int32)) (v0_bottoms : (Nat → Int32)) (v0_blocksNow : Int32) (v0_mergesDone : Int32) (v0_loss : Int32) (p1 : Int32) (hne : (m_X4_numberTop ((v0_values_marks, v0_values_weights, v0_values_places, v0_values_aboves, v0_values_belows, (v0_values_reduced_above, v0_values_reduced_below), v0_values_papers), v0_blocks, v0_tops, v0_bottoms, v0_blocksNow, v0_mergesDone, v0_loss) p1) ≠ none) : Ct l g yX4_numberTop cX4_numberTop 2 (some .int) ({ frames := 3, cells := 0, slots := 0, locals := 70 } : Room) [.ref (a0 0), .int p1] (wX4 a0 g v0_values_marks v0_values_weights v0_values_places v0_values_aboves v0_values_belows v0_values_reduced_above v0_values_reduced_below v0_values_papers v0_blocks v0_tops v0_bottoms v0_blocksNow v0_mergesDone v0_loss) (Qi g .int (m_X4_numberTop ((v0_values_marks, v0_values_weights, v0_values_places, v0_values_aboves, v0_values_belows, (v0_values_reduced_above, v0_values_reduced_below), v0_values_papers), v0_blocks, v0_tops, v0_bottoms, v0_blocksNow, v0_mergesDone, v0_loss) p1) (fun u => u) (fun u => wX4 a0 g v0_values_marks v0_values_weights v0_values_places v0_values_aboves v0_values_belows v0_values_reduced_above v0_values_reduced_below v0_values_papers v0_blocks v0_tops v0_bottoms v0_blocksNow v0_mergesDone v0_loss)) 0 0 := by
  obtain ⟨out, hf⟩ := ne_ex hne
  have hf0 := hf
  refine Ct.of (own := RX4) (by decide +kernel) rfl (Nat.le_of_ble_eq_true rfl) ?_
  intro p e s m below meth c hx hb hr hml hown hts hlocks hin hK A H locs hA hP hD hS hE ls hl
  have hl : lv_has ls 2 [(0, .ref (a0 0)), (1, .int p1)] := hl
  unfold m_X4_numberTop at hf
  refine lv_aload_n hx hb dX4_numberTop_0 rfl (lv_at hl 0 rfl) ?_
  refine va_get (D := g.1) (ci := 5) (v := .int v0_loss) (C := RX4) (T := TX4) (N := 7) hx hb hts layX4 hown hK.1 hP 0 rfl rfl 6 (by decide) (hts _ kw174) (fun _ h9 => h9) rfl dX4_numberTop_1 ?_
  refine lv_iconst (v := 1) hx hb dX4_numberTop_4 (by decide) ?_
  refine lv_icmp_ne (tgt := 19) hx hb dX4_numberTop_5 (by decide) (fun cb => ?_) (fun cb => ?_)
  · have hf := it_f cb hf
    refine lv_aload_n hx hb dX4_numberTop_19 rfl (lv_at hl 0 rfl) ?_
    refine va_get (D := g.1) (ci := 5) (v := .ref (a0 1)) (C := RX4) (T := TX4) (N := 7) hx hb hts layX4 hown hK.1 hP 0 rfl rfl 0 (by decide) (hts _ kw168) (fun _ h9 => h9) rfl dX4_numberTop_20 ?_
    refine lv_iload_n hx hb dX4_numberTop_23 rfl (lv_at hl 1 rfl) ?_
    refine cIp hP hD hS hA hE (fun hPc hDc hSc => rV (As := [.int p1]) (rest := []) hx hb hml hown hts hK (c_X8_sumOf l g (fun i => a0 (i + 1)) v0_values_marks v0_values_weights v0_values_places v0_values_aboves v0_values_belows v0_values_reduced_above v0_values_reduced_below v0_values_papers p1 (bnd_ne hf)) svV_X8_sumOf kw740 rfl rfl hPc hDc hSc rfl rfl hl.1 (Nat.le_of_ble_eq_true rfl) dX4_numberTop_24 ⟨Nat.le_of_ble_eq_true rfl, Nat.le_of_ble_eq_true rfl, rfl, rfl, Nat.le_of_ble_eq_true rfl, Nat.le_of_ble_eq_true rfl⟩) [(1, 12)] rfl rfl rfl (fun x1 H locs ex1 nx1 hP hS => ?_)
    have hf := bnd_of hf ex1
    exact retI (v := x1) (u := x1) (val := fun u => u) (W1 := fun u => wX4 a0 g v0_values_marks v0_values_weights v0_values_places v0_values_aboves v0_values_belows v0_values_reduced_above v0_values_reduced_below v0_values_papers v0_blocks v0_tops v0_bottoms v0_blocksNow v0_mergesDone v0_loss) hx hb hr hlocks hS hP hD (hf0.trans hf.symm) rfl rfl dX4_numberTop_27
  have hf := it_t cb hf
  refine lv_aload_n hx hb dX4_numberTop_8 rfl (lv_at hl 0 rfl) ?_
  refine va_get (D := g.1) (ci := 5) (v := .ref (a0 1)) (C := RX4) (T := TX4) (N := 7) hx hb hts layX4 hown hK.1 hP 0 rfl rfl 0 (by decide) (hts _ kw168) (fun _ h9 => h9) rfl dX4_numberTop_9 ?_
  refine lv_iload_n hx hb dX4_numberTop_12 rfl (lv_at hl 1 rfl) ?_
  refine cIp hP hD hS hA hE (fun hPc hDc hSc => rV (As := [.int p1]) (rest := []) hx hb hml hown hts hK (c_X8_middleOf l g (fun i => a0 (i + 1)) v0_values_marks v0_values_weights v0_values_places v0_values_aboves v0_values_belows v0_values_reduced_above v0_values_reduced_below v0_values_papers p1 (bnd_ne hf)) svV_X8_middleOf kw728 rfl rfl hPc hDc hSc rfl rfl hl.1 (Nat.le_of_ble_eq_true rfl) dX4_numberTop_13 ⟨Nat.le_of_ble_eq_true rfl, Nat.le_of_ble_eq_true rfl, rfl, rfl, Nat.le_of_ble_eq_true rfl, Nat.le_of_ble_eq_true rfl⟩) [(1, 12)] rfl rfl rfl (fun x2 H locs ex2 nx2 hP hS => ?_)
  have hf := bnd_of hf ex2
  refine lv_goto (tgt := 27) hx hb dX4_numberTop_16 (by decide) ?_
  exact retI (v := x2) (u := x2) (val := fun u => u) (W1 := fun u => wX4 a0 g v0_values_marks v0_values_weights v0_values_places v0_values_aboves v0_values_belows v0_values_reduced_above v0_values_reduced_below v0_values_papers v0_blocks v0_tops v0_bottoms v0_blocksNow v0_mergesDone v0_loss) hx hb hr hlocks hS hP hD (hf0.trans hf.symm) rfl rfl dX4_numberTop_27
set_option maxHeartbeats 4000000 in
set_option maxRecDepth 100000 in
theorem c_X4_numberBottom (l : Launch) (g : GG) (a0 : Nat → Nat) (v0_values_marks : (Nat → Int32)) (v0_values_weights : (Nat → Int32)) (v0_values_places : (Nat → Int32)) (v0_values_aboves : (Nat → Int32)) (v0_values_belows : (Nat → Int32)) (v0_values_reduced_above : Int64) (v0_values_reduced_below : Int64) (v0_values_papers : Int32) (v0_blocks : (Nat → Int32)) (v0_tops : (Nat → Int32)) (v0_bottoms : (Nat → Int32)) (v0_blocksNow : Int32) (v0_mergesDone : Int32) (v0_loss : Int32) (p1 : Int32) (hne : (m_X4_numberBottom ((v0_values_marks, v0_values_weights, v0_values_places, v0_values_aboves, v0_values_belows, (v0_values_reduced_above, v0_values_reduced_below), v0_values_papers), v0_blocks, v0_tops, v0_bottoms, v0_blocksNow, v0_mergesDone, v0_loss) p1) ≠ none) : Ct l g yX4_numberBottom cX4_numberBottom 2 (some .int) ({ frames := 2, cells := 0, slots := 0, locals := 44 } : Room) [.ref (a0 0), .int p1] (wX4 a0 g v0_values_marks v0_values_weights v0_values_places v0_values_aboves v0_values_belows v0_values_reduced_above v0_values_reduced_below v0_values_papers v0_blocks v0_tops v0_bottoms v0_blocksNow v0_mergesDone v0_loss) (Qi g .int (m_X4_numberBottom ((v0_values_marks, v0_values_weights, v0_values_places, v0_values_aboves, v0_values_belows, (v0_values_reduced_above, v0_values_reduced_below), v0_values_papers), v0_blocks, v0_tops, v0_bottoms, v0_blocksNow, v0_mergesDone, v0_loss) p1) (fun u => u) (fun u => wX4 a0 g v0_values_marks v0_values_weights v0_values_places v0_values_aboves v0_values_belows v0_values_reduced_above v0_values_reduced_below v0_values_papers v0_blocks v0_tops v0_bottoms v0_blocksNow v0_mergesDone v0_loss)) 0 0 := by
  obtain ⟨out, hf⟩ := ne_ex hne
  have hf0 := hf
  refine Ct.of (own := RX4) (by decide +kernel) rfl (Nat.le_of_ble_eq_true rfl) ?_
  intro p e s m below meth c hx hb hr hml hown hts hlocks hin hK A H locs hA hP hD hS hE ls hl
  have hl : lv_has ls 2 [(0, .ref (a0 0)), (1, .int p1)] := hl
  unfold m_X4_numberBottom at hf
  refine lv_aload_n hx hb dX4_numberBottom_0 rfl (lv_at hl 0 rfl) ?_
  refine va_get (D := g.1) (ci := 5) (v := .int v0_loss) (C := RX4) (T := TX4) (N := 7) hx hb hts layX4 hown hK.1 hP 0 rfl rfl 6 (by decide) (hts _ kw174) (fun _ h9 => h9) rfl dX4_numberBottom_1 ?_
  refine lv_iconst (v := 1) hx hb dX4_numberBottom_4 (by decide) ?_
  refine lv_icmp_ne (tgt := 12) hx hb dX4_numberBottom_5 (by decide) (fun cb => ?_) (fun cb => ?_)
  · have hf := it_f cb hf
    refine lv_aload_n hx hb dX4_numberBottom_12 rfl (lv_at hl 0 rfl) ?_
    refine va_get (D := g.1) (ci := 5) (v := .ref (a0 1)) (C := RX4) (T := TX4) (N := 7) hx hb hts layX4 hown hK.1 hP 0 rfl rfl 0 (by decide) (hts _ kw168) (fun _ h9 => h9) rfl dX4_numberBottom_13 ?_
    refine lv_iload_n hx hb dX4_numberBottom_16 rfl (lv_at hl 1 rfl) ?_
    refine cIp hP hD hS hA hE (fun hPc hDc hSc => rV (As := [.int p1]) (rest := []) hx hb hml hown hts hK (c_X8_weightOf l g (fun i => a0 (i + 1)) v0_values_marks v0_values_weights v0_values_places v0_values_aboves v0_values_belows v0_values_reduced_above v0_values_reduced_below v0_values_papers p1 (bnd_ne hf)) svV_X8_weightOf kw747 rfl rfl hPc hDc hSc rfl rfl hl.1 (Nat.le_of_ble_eq_true rfl) dX4_numberBottom_17 ⟨Nat.le_of_ble_eq_true rfl, Nat.le_of_ble_eq_true rfl, rfl, rfl, Nat.le_of_ble_eq_true rfl, Nat.le_of_ble_eq_true rfl⟩) [(1, 12)] rfl rfl rfl (fun x1 H locs ex1 nx1 hP hS => ?_)
    have hf := bnd_of hf ex1
    exact retI (v := x1) (u := x1) (val := fun u => u) (W1 := fun u => wX4 a0 g v0_values_marks v0_values_weights v0_values_places v0_values_aboves v0_values_belows v0_values_reduced_above v0_values_reduced_below v0_values_papers v0_blocks v0_tops v0_bottoms v0_blocksNow v0_mergesDone v0_loss) hx hb hr hlocks hS hP hD (hf0.trans hf.symm) rfl rfl dX4_numberBottom_20
  have hf := it_t cb hf
  refine lv_iconst (v := 1) hx hb dX4_numberBottom_8 (by decide) ?_
  refine lv_goto (tgt := 20) hx hb dX4_numberBottom_9 (by decide) ?_
  exact retI (v := (1 : Int32)) (u := (1 : Int32)) (val := fun u => u) (W1 := fun u => wX4 a0 g v0_values_marks v0_values_weights v0_values_places v0_values_aboves v0_values_belows v0_values_reduced_above v0_values_reduced_below v0_values_papers v0_blocks v0_tops v0_bottoms v0_blocksNow v0_mergesDone v0_loss) hx hb hr hlocks hS hP hD (hf0.trans hf.symm) rfl rfl dX4_numberBottom_20
set_option maxHeartbeats 4000000 in
set_option maxRecDepth 100000 in
theorem c_X4_measure (l : Launch) (g : GG) (a0 : Nat → Nat) (v0_values_marks : (Nat → Int32)) (v0_values_weights : (Nat → Int32)) (v0_values_places : (Nat → Int32)) (v0_values_aboves : (Nat → Int32)) (v0_values_belows : (Nat → Int32)) (v0_values_reduced_above : Int64) (v0_values_reduced_below : Int64) (v0_values_papers : Int32) (v0_blocks : (Nat → Int32)) (v0_tops : (Nat → Int32)) (v0_bottoms : (Nat → Int32)) (v0_blocksNow : Int32) (v0_mergesDone : Int32) (v0_loss : Int32) (p1 : Int32) (hne : (m_X4_measure ((v0_values_marks, v0_values_weights, v0_values_places, v0_values_aboves, v0_values_belows, (v0_values_reduced_above, v0_values_reduced_below), v0_values_papers), v0_blocks, v0_tops, v0_bottoms, v0_blocksNow, v0_mergesDone, v0_loss) p1) ≠ none) : Ct l g yX4_measure cX4_measure 2 none ({ frames := 4, cells := 0, slots := 0, locals := 91 } : Room) [.ref (a0 0), .int p1] (wX4 a0 g v0_values_marks v0_values_weights v0_values_places v0_values_aboves v0_values_belows v0_values_reduced_above v0_values_reduced_below v0_values_papers v0_blocks v0_tops v0_bottoms v0_blocksNow v0_mergesDone v0_loss) (Qv g (m_X4_measure ((v0_values_marks, v0_values_weights, v0_values_places, v0_values_aboves, v0_values_belows, (v0_values_reduced_above, v0_values_reduced_below), v0_values_papers), v0_blocks, v0_tops, v0_bottoms, v0_blocksNow, v0_mergesDone, v0_loss) p1) (fun u => wX4 a0 g v0_values_marks v0_values_weights v0_values_places v0_values_aboves v0_values_belows v0_values_reduced_above v0_values_reduced_below v0_values_papers v0_blocks u.1 u.2 v0_blocksNow v0_mergesDone v0_loss)) 0 0 := by
  obtain ⟨out, hf⟩ := ne_ex hne
  have hf0 := hf
  refine Ct.of (own := RX4) (by decide +kernel) rfl (Nat.le_of_ble_eq_true rfl) ?_
  intro p e s m below meth c hx hb hr hml hown hts hlocks hin hK A H locs hA hP hD hS hE ls hl
  have hl : lv_has ls 2 [(0, .ref (a0 0)), (1, .int p1)] := hl
  unfold m_X4_measure at hf
  refine lv_aload_n hx hb dX4_measure_0 rfl (lv_at hl 0 rfl) ?_
  refine va_get (D := g.1) (ci := 5) (v := .ref (a0 15)) (C := RX4) (T := TX4) (N := 7) hx hb hts layX4 hown hK.1 hP 0 rfl rfl 2 (by decide) (hts _ kw170) (fun _ h9 => h9) rfl dX4_measure_1 ?_
  refine lv_iload_n hx hb dX4_measure_4 rfl (lv_at hl 1 rfl) ?_
  refine lv_aload_n hx hb dX4_measure_5 rfl (lv_at hl 0 rfl) ?_
  refine lv_aload_n hx hb dX4_measure_6 rfl (lv_at hl 0 rfl) ?_
  refine va_get (D := g.1) (ci := 5) (v := .ref (a0 13)) (C := RX4) (T := TX4) (N := 7) hx hb hts layX4 hown hK.1 hP 0 rfl rfl 1 (by decide) (hts _ kw169) (fun _ h9 => h9) rfl dX4_measure_7 ?_
  refine lv_iload_n hx hb dX4_measure_10 rfl (lv_at hl 1 rfl) ?_
  refine cIp hP hD hS hA hE (fun hPc hDc hSc => rV (As := [.int p1]) (rest := [.ref (a0 0), .int p1, .ref (a0 15)]) hx hb hml hown hts hK (c_X2_get l g (fun i => a0 (i + 13)) 7 v0_blocks p1 (bnd_ne hf)) svV_X2_get kw724 rfl rfl hPc hDc hSc rfl rfl hl.1 (Nat.le_of_ble_eq_true rfl) dX4_measure_11 ⟨Nat.le_of_ble_eq_true rfl, Nat.le_of_ble_eq_true rfl, rfl, rfl, Nat.le_of_ble_eq_true rfl, Nat.le_of_ble_eq_true rfl⟩) [(13, 2)] rfl rfl rfl (fun x1 H locs ex1 nx1 hP hS => ?_)
  have hf := bnd_of hf ex1
  refine cIp hP hD hS hA hE (fun hPc hDc hSc => rV (As := [.int x1]) (rest := [.int p1, .ref (a0 15)]) hx hb hml hown hts hK (c_X4_numberTop l g a0 v0_values_marks v0_values_weights v0_values_places v0_values_aboves v0_values_belows v0_values_reduced_above v0_values_reduced_below v0_values_papers v0_blocks v0_tops v0_bottoms v0_blocksNow v0_mergesDone v0_loss x1 (bnd_ne hf)) svV_X4_numberTop kw725 rfl rfl hPc hDc hSc rfl rfl hl.1 (Nat.le_of_ble_eq_true rfl) dX4_measure_14 ⟨Nat.le_of_ble_eq_true rfl, Nat.le_of_ble_eq_true rfl, rfl, rfl, Nat.le_of_ble_eq_true rfl, Nat.le_of_ble_eq_true rfl⟩) [(0, 19)] rfl rfl rfl (fun x2 H locs ex2 nx2 hP hS => ?_)
  have hf := bnd_of hf ex2
  refine cV hP hD hS hA hE (fun hPc hDc hSc => rV (As := [.int p1, .int x2]) (rest := []) hx hb hml hown hts hK (c_X2_set l g (fun i => a0 (i + 15)) 7 v0_tops p1 x2 (bnd_ne hf)) svV_X2_set kw710 rfl rfl hPc hDc hSc rfl rfl hl.1 (Nat.le_of_ble_eq_true rfl) dX4_measure_17 ⟨Nat.le_of_ble_eq_true rfl, Nat.le_of_ble_eq_true rfl, rfl, rfl, Nat.le_of_ble_eq_true rfl, Nat.le_of_ble_eq_true rfl⟩) [(15, 2)] rfl rfl rfl (fun _ => rfl) (fun x3 H locs ex3 hP hD hS => ?_)
  have hf := bnd_of hf ex3
  have hP : va_P g.1 vwCl (wX4 a0 g v0_values_marks v0_values_weights v0_values_places v0_values_aboves v0_values_belows v0_values_reduced_above v0_values_reduced_below v0_values_papers v0_blocks x3 v0_bottoms v0_blocksNow v0_mergesDone v0_loss) H := hP
  have hD : va_D A (wX4 a0 g v0_values_marks v0_values_weights v0_values_places v0_values_aboves v0_values_belows v0_values_reduced_above v0_values_reduced_below v0_values_papers v0_blocks x3 v0_bottoms v0_blocksNow v0_mergesDone v0_loss) := hD
  refine lv_aload_n hx hb dX4_measure_20 rfl (lv_at hl 0 rfl) ?_
  refine va_get (D := g.1) (ci := 5) (v := .ref (a0 17)) (C := RX4) (T := TX4) (N := 7) hx hb hts layX4 hown hK.1 hP 0 rfl rfl 3 (by decide) (hts _ kw171) (fun _ h9 => h9) rfl dX4_measure_21 ?_
  refine lv_iload_n hx hb dX4_measure_24 rfl (lv_at hl 1 rfl) ?_
  refine lv_aload_n hx hb dX4_measure_25 rfl (lv_at hl 0 rfl) ?_
  refine lv_aload_n hx hb dX4_measure_26 rfl (lv_at hl 0 rfl) ?_
  refine va_get (D := g.1) (ci := 5) (v := .ref (a0 13)) (C := RX4) (T := TX4) (N := 7) hx hb hts layX4 hown hK.1 hP 0 rfl rfl 1 (by decide) (hts _ kw169) (fun _ h9 => h9) rfl dX4_measure_27 ?_
  refine lv_iload_n hx hb dX4_measure_30 rfl (lv_at hl 1 rfl) ?_
  refine cIp hP hD hS hA hE (fun hPc hDc hSc => rV (As := [.int p1]) (rest := [.ref (a0 0), .int p1, .ref (a0 17)]) hx hb hml hown hts hK (c_X2_get l g (fun i => a0 (i + 13)) 7 v0_blocks p1 (bnd_ne hf)) svV_X2_get kw724 rfl rfl hPc hDc hSc rfl rfl hl.1 (Nat.le_of_ble_eq_true rfl) dX4_measure_31 ⟨Nat.le_of_ble_eq_true rfl, Nat.le_of_ble_eq_true rfl, rfl, rfl, Nat.le_of_ble_eq_true rfl, Nat.le_of_ble_eq_true rfl⟩) [(13, 2)] rfl rfl rfl (fun x4 H locs ex4 nx4 hP hS => ?_)
  have hf := bnd_of hf ex4
  refine cIp hP hD hS hA hE (fun hPc hDc hSc => rV (As := [.int x4]) (rest := [.int p1, .ref (a0 17)]) hx hb hml hown hts hK (c_X4_numberBottom l g a0 v0_values_marks v0_values_weights v0_values_places v0_values_aboves v0_values_belows v0_values_reduced_above v0_values_reduced_below v0_values_papers v0_blocks x3 v0_bottoms v0_blocksNow v0_mergesDone v0_loss x4 (bnd_ne hf)) svV_X4_numberBottom kw744 rfl rfl hPc hDc hSc rfl rfl hl.1 (Nat.le_of_ble_eq_true rfl) dX4_measure_34 ⟨Nat.le_of_ble_eq_true rfl, Nat.le_of_ble_eq_true rfl, rfl, rfl, Nat.le_of_ble_eq_true rfl, Nat.le_of_ble_eq_true rfl⟩) [(0, 19)] rfl rfl rfl (fun x5 H locs ex5 nx5 hP hS => ?_)
  have hf := bnd_of hf ex5
  refine cV hP hD hS hA hE (fun hPc hDc hSc => rV (As := [.int p1, .int x5]) (rest := []) hx hb hml hown hts hK (c_X2_set l g (fun i => a0 (i + 17)) 7 v0_bottoms p1 x5 (bnd_ne hf)) svV_X2_set kw710 rfl rfl hPc hDc hSc rfl rfl hl.1 (Nat.le_of_ble_eq_true rfl) dX4_measure_37 ⟨Nat.le_of_ble_eq_true rfl, Nat.le_of_ble_eq_true rfl, rfl, rfl, Nat.le_of_ble_eq_true rfl, Nat.le_of_ble_eq_true rfl⟩) [(17, 2)] rfl rfl rfl (fun _ => rfl) (fun x6 H locs ex6 hP hD hS => ?_)
  have hf := bnd_of hf ex6
  have hP : va_P g.1 vwCl (wX4 a0 g v0_values_marks v0_values_weights v0_values_places v0_values_aboves v0_values_belows v0_values_reduced_above v0_values_reduced_below v0_values_papers v0_blocks x3 x6 v0_blocksNow v0_mergesDone v0_loss) H := hP
  have hD : va_D A (wX4 a0 g v0_values_marks v0_values_weights v0_values_places v0_values_aboves v0_values_belows v0_values_reduced_above v0_values_reduced_below v0_values_papers v0_blocks x3 x6 v0_blocksNow v0_mergesDone v0_loss) := hD
  exact retV (u := (x3, x6)) (W1 := fun u => wX4 a0 g v0_values_marks v0_values_weights v0_values_places v0_values_aboves v0_values_belows v0_values_reduced_above v0_values_reduced_below v0_values_papers v0_blocks u.1 u.2 v0_blocksNow v0_mergesDone v0_loss) hx hb hr hlocks hS hP hD (hf0.trans hf.symm) dX4_measure_40
set_option maxHeartbeats 4000000 in
set_option maxRecDepth 100000 in
theorem c_X4_firstToMerge (l : Launch) (g : GG) (a0 : Nat → Nat) (v0_values_marks : (Nat → Int32)) (v0_values_weights : (Nat → Int32)) (v0_values_places : (Nat → Int32)) (v0_values_aboves : (Nat → Int32)) (v0_values_belows : (Nat → Int32)) (v0_values_reduced_above : Int64) (v0_values_reduced_below : Int64) (v0_values_papers : Int32) (v0_blocks : (Nat → Int32)) (v0_tops : (Nat → Int32)) (v0_bottoms : (Nat → Int32)) (v0_blocksNow : Int32) (v0_mergesDone : Int32) (v0_loss : Int32) (hne : (m_X4_firstToMerge ((v0_values_marks, v0_values_weights, v0_values_places, v0_values_aboves, v0_values_belows, (v0_values_reduced_above, v0_values_reduced_below), v0_values_papers), v0_blocks, v0_tops, v0_bottoms, v0_blocksNow, v0_mergesDone, v0_loss)) ≠ none) : Ct l g yX4_firstToMerge cX4_firstToMerge 2 (some .int) ({ frames := 1, cells := 0, slots := 0, locals := 21 } : Room) [.ref (a0 0)] (wX4 a0 g v0_values_marks v0_values_weights v0_values_places v0_values_aboves v0_values_belows v0_values_reduced_above v0_values_reduced_below v0_values_papers v0_blocks v0_tops v0_bottoms v0_blocksNow v0_mergesDone v0_loss) (Qi g .int (m_X4_firstToMerge ((v0_values_marks, v0_values_weights, v0_values_places, v0_values_aboves, v0_values_belows, (v0_values_reduced_above, v0_values_reduced_below), v0_values_papers), v0_blocks, v0_tops, v0_bottoms, v0_blocksNow, v0_mergesDone, v0_loss)) (fun u => u) (fun u => wX4 a0 g v0_values_marks v0_values_weights v0_values_places v0_values_aboves v0_values_belows v0_values_reduced_above v0_values_reduced_below v0_values_papers v0_blocks v0_tops v0_bottoms v0_blocksNow v0_mergesDone v0_loss)) 0 0 := by
  obtain ⟨out, hf⟩ := ne_ex hne
  have hf0 := hf
  refine Ct.of (own := RX4) (by decide +kernel) rfl (Nat.le_of_ble_eq_true rfl) ?_
  intro p e s m below meth c hx hb hr hml hown hts hlocks hin hK A H locs hA hP hD hS hE ls hl
  have hl : lv_has ls 2 [(0, .ref (a0 0))] := hl
  unfold m_X4_firstToMerge at hf
  refine lv_iconst (v := 0) hx hb dX4_firstToMerge_0 (by decide) ?_
  refine lv_istore_n (lv' := [(1, .int (0 : Int32)), (0, .ref (a0 0))]) hx hb dX4_firstToMerge_1 rfl hl (by decide) rfl (fun ls hl => ?_)
  obtain ⟨r10, er10, hf⟩ := bnd hf
  refine lp_W (P := fun z => ∀ (H : Heap) (locs : List Loc) (ls : Array Slot), va_P g.1 vwCl (wX4 a0 g v0_values_marks v0_values_weights v0_values_places v0_values_aboves v0_values_belows v0_values_reduced_above v0_values_reduced_below v0_values_papers v0_blocks v0_tops v0_bottoms v0_blocksNow v0_mergesDone v0_loss) H → va_D A (wX4 a0 g v0_values_marks v0_values_weights v0_values_places v0_values_aboves v0_values_belows v0_values_reduced_above v0_values_reduced_below v0_values_papers v0_blocks v0_tops v0_bottoms v0_blocksNow v0_mergesDone v0_loss) → va_S A s.heap H locs → lv_has ls 2 [(0, .ref (a0 0)), (1, .int z)] → W p l e { frames := 1, cells := 0, slots := 0, locals := 21 } s m [.ref (a0 0)].toArray below meth c H locs 0 0 (MQ below (Qi g .int (m_X4_firstToMerge ((v0_values_marks, v0_values_weights, v0_values_places, v0_values_aboves, v0_values_belows, (v0_values_reduced_above, v0_values_reduced_below), v0_values_papers), v0_blocks, v0_tops, v0_bottoms, v0_blocksNow, v0_mergesDone, v0_loss)) (fun u => u) (fun u => wX4 a0 g v0_values_marks v0_values_weights v0_values_places v0_values_aboves v0_values_belows v0_values_reduced_above v0_values_reduced_below v0_values_papers v0_blocks v0_tops v0_bottoms v0_blocksNow v0_mergesDone v0_loss) A) [.ref (a0 0)].toArray s 0 0 A) (F0 m 2 ls [])) (E := fun r10 => match r10 with | .inl x11 => (∀ (H : Heap) (locs : List Loc) (ls : Array Slot), va_P g.1 vwCl (wX4 a0 g v0_values_marks v0_values_weights v0_values_places v0_values_aboves v0_values_belows v0_values_reduced_above v0_values_reduced_below v0_values_papers v0_blocks v0_tops v0_bottoms v0_blocksNow v0_mergesDone v0_loss) H → va_D A (wX4 a0 g v0_values_marks v0_values_weights v0_values_places v0_values_aboves v0_values_belows v0_values_reduced_above v0_values_reduced_below v0_values_papers v0_blocks v0_tops v0_bottoms v0_blocksNow v0_mergesDone v0_loss) → va_S A s.heap H locs → lv_has ls 2 [(1, .int x11)] → W p l e { frames := 1, cells := 0, slots := 0, locals := 21 } s m [.ref (a0 0)].toArray below meth c H locs 0 0 (MQ below (Qi g .int (m_X4_firstToMerge ((v0_values_marks, v0_values_weights, v0_values_places, v0_values_aboves, v0_values_belows, (v0_values_reduced_above, v0_values_reduced_below), v0_values_papers), v0_blocks, v0_tops, v0_bottoms, v0_blocksNow, v0_mergesDone, v0_loss)) (fun u => u) (fun u => wX4 a0 g v0_values_marks v0_values_weights v0_values_places v0_values_aboves v0_values_belows v0_values_reduced_above v0_values_reduced_below v0_values_papers v0_blocks v0_tops v0_bottoms v0_blocksNow v0_mergesDone v0_loss) A) [.ref (a0 0)].toArray s 0 0 A) (F0 m 53 ls [])) | .inr x12 => (∀ (H : Heap) (locs : List Loc) (ls : Array Slot), va_P g.1 vwCl (wX4 a0 g v0_values_marks v0_values_weights v0_values_places v0_values_aboves v0_values_belows v0_values_reduced_above v0_values_reduced_below v0_values_papers v0_blocks v0_tops v0_bottoms v0_blocksNow v0_mergesDone v0_loss) H → va_D A (wX4 a0 g v0_values_marks v0_values_weights v0_values_places v0_values_aboves v0_values_belows v0_values_reduced_above v0_values_reduced_below v0_values_papers v0_blocks v0_tops v0_bottoms v0_blocksNow v0_mergesDone v0_loss) → va_S A s.heap H locs → lv_has ls 2 [] → W p l e { frames := 1, cells := 0, slots := 0, locals := 21 } s m [.ref (a0 0)].toArray below meth c H locs 0 0 (MQ below (Qi g .int (m_X4_firstToMerge ((v0_values_marks, v0_values_weights, v0_values_places, v0_values_aboves, v0_values_belows, (v0_values_reduced_above, v0_values_reduced_below), v0_values_papers), v0_blocks, v0_tops, v0_bottoms, v0_blocksNow, v0_mergesDone, v0_loss)) (fun u => u) (fun u => wX4 a0 g v0_values_marks v0_values_weights v0_values_places v0_values_aboves v0_values_belows v0_values_reduced_above v0_values_reduced_below v0_values_papers v0_blocks v0_tops v0_bottoms v0_blocksNow v0_mergesDone v0_loss) A) [.ref (a0 0)].toArray s 0 0 A) (F0 m 61 ls []))) ?_ fu _ r10 er10 ?_ _ _ _ hP hD hS (lv_sub hl [1, 0] rfl)
  · rintro x5 y hf hB hXt H locs ls hP hD hS hl
    have hP : va_P g.1 vwCl (wX4 a0 g v0_values_marks v0_values_weights v0_values_places v0_values_aboves v0_values_belows v0_values_reduced_above v0_values_reduced_below v0_values_papers v0_blocks v0_tops v0_bottoms v0_blocksNow v0_mergesDone v0_loss) H := hP
    have hD : va_D A (wX4 a0 g v0_values_marks v0_values_weights v0_values_places v0_values_aboves v0_values_belows v0_values_reduced_above v0_values_reduced_below v0_values_papers v0_blocks v0_tops v0_bottoms v0_blocksNow v0_mergesDone v0_loss) := hD
    have hl : lv_has ls 2 [(0, .ref (a0 0)), (1, .int x5)] := hl
    have hf : m_X4_firstToMerge_l2 ((v0_values_marks, v0_values_weights, v0_values_places, v0_values_aboves, v0_values_belows, (v0_values_reduced_above, v0_values_reduced_below), v0_values_papers), v0_blocks, v0_tops, v0_bottoms, v0_blocksNow, v0_mergesDone, v0_loss) x5 = some y := hf
    unfold m_X4_firstToMerge_l2 at hf
    refine lv_iload_n hx hb dX4_firstToMerge_2 rfl (lv_at hl 1 rfl) ?_
    refine lv_iconst (v := 1) hx hb dX4_firstToMerge_3 (by decide) ?_
    refine lv_iadd hx hb dX4_firstToMerge_4 ?_
    refine lv_aload_n hx hb dX4_firstToMerge_5 rfl (lv_at hl 0 rfl) ?_
    refine va_get (D := g.1) (ci := 5) (v := .int v0_blocksNow) (C := RX4) (T := TX4) (N := 7) hx hb hts layX4 hown hK.1 hP 0 rfl rfl 4 (by decide) (hts _ kw172) (fun _ h9 => h9) rfl dX4_firstToMerge_6 ?_
    refine lv_icmp_ge (tgt := 61) hx hb dX4_firstToMerge_9 (by decide) (fun cb => ?_) (fun cb => ?_)
    · have hf := it_t cb hf
      exact hXt _ (Option.some.inj hf).symm _ _ _ hP hD hS (lv_sub hl [] rfl)
    have hf := it_f cb hf
    refine lv_aload_n hx hb dX4_firstToMerge_12 rfl (lv_at hl 0 rfl) ?_
    refine va_get (D := g.1) (ci := 5) (v := .ref (a0 15)) (C := RX4) (T := TX4) (N := 7) hx hb hts layX4 hown hK.1 hP 0 rfl rfl 2 (by decide) (hts _ kw170) (fun _ h9 => h9) rfl dX4_firstToMerge_13 ?_
    refine lv_iload_n hx hb dX4_firstToMerge_16 rfl (lv_at hl 1 rfl) ?_
    refine cIp hP hD hS hA hE (fun hPc hDc hSc => rV (As := [.int x5]) (rest := []) hx hb hml hown hts hK (c_X2_get l g (fun i => a0 (i + 15)) 7 v0_tops x5 (bnd_ne hf)) svV_X2_get kw724 rfl rfl hPc hDc hSc rfl rfl hl.1 (Nat.le_of_ble_eq_true rfl) dX4_firstToMerge_17 ⟨Nat.le_of_ble_eq_true rfl, Nat.le_of_ble_eq_true rfl, rfl, rfl, Nat.le_of_ble_eq_true rfl, Nat.le_of_ble_eq_true rfl⟩) [(15, 2)] rfl rfl rfl (fun x6 H locs ex6 nx6 hP hS => ?_)
    have hf := bnd_of hf ex6
    refine lv_aload_n hx hb dX4_firstToMerge_20 rfl (lv_at hl 0 rfl) ?_
    refine va_get (D := g.1) (ci := 5) (v := .ref (a0 17)) (C := RX4) (T := TX4) (N := 7) hx hb hts layX4 hown hK.1 hP 0 rfl rfl 3 (by decide) (hts _ kw171) (fun _ h9 => h9) rfl dX4_firstToMerge_21 ?_
    refine lv_iload_n hx hb dX4_firstToMerge_24 rfl (lv_at hl 1 rfl) ?_
    refine lv_iconst (v := 1) hx hb dX4_firstToMerge_25 (by decide) ?_
    refine lv_iadd hx hb dX4_firstToMerge_26 ?_
    refine cIp hP hD hS hA hE (fun hPc hDc hSc => rV (As := [.int (x5 + (1 : Int32))]) (rest := [.int x6]) hx hb hml hown hts hK (c_X2_get l g (fun i => a0 (i + 17)) 7 v0_bottoms (x5 + (1 : Int32)) (bnd_ne hf)) svV_X2_get kw724 rfl rfl hPc hDc hSc rfl rfl hl.1 (Nat.le_of_ble_eq_true rfl) dX4_firstToMerge_27 ⟨Nat.le_of_ble_eq_true rfl, Nat.le_of_ble_eq_true rfl, rfl, rfl, Nat.le_of_ble_eq_true rfl, Nat.le_of_ble_eq_true rfl⟩) [(17, 2)] rfl rfl rfl (fun x7 H locs ex7 nx7 hP hS => ?_)
    have hf := bnd_of hf ex7
    refine lv_imul hx hb dX4_firstToMerge_30 ?_
    refine lv_aload_n hx hb dX4_firstToMerge_31 rfl (lv_at hl 0 rfl) ?_
    refine va_get (D := g.1) (ci := 5) (v := .ref (a0 15)) (C := RX4) (T := TX4) (N := 7) hx hb hts layX4 hown hK.1 hP 0 rfl rfl 2 (by decide) (hts _ kw170) (fun _ h9 => h9) rfl dX4_firstToMerge_32 ?_
    refine lv_iload_n hx hb dX4_firstToMerge_35 rfl (lv_at hl 1 rfl) ?_
    refine lv_iconst (v := 1) hx hb dX4_firstToMerge_36 (by decide) ?_
    refine lv_iadd hx hb dX4_firstToMerge_37 ?_
    refine cIp hP hD hS hA hE (fun hPc hDc hSc => rV (As := [.int (x5 + (1 : Int32))]) (rest := [.int (x6 * x7)]) hx hb hml hown hts hK (c_X2_get l g (fun i => a0 (i + 15)) 7 v0_tops (x5 + (1 : Int32)) (bnd_ne hf)) svV_X2_get kw724 rfl rfl hPc hDc hSc rfl rfl hl.1 (Nat.le_of_ble_eq_true rfl) dX4_firstToMerge_38 ⟨Nat.le_of_ble_eq_true rfl, Nat.le_of_ble_eq_true rfl, rfl, rfl, Nat.le_of_ble_eq_true rfl, Nat.le_of_ble_eq_true rfl⟩) [(15, 2)] rfl rfl rfl (fun x8 H locs ex8 nx8 hP hS => ?_)
    have hf := bnd_of hf ex8
    refine lv_aload_n hx hb dX4_firstToMerge_41 rfl (lv_at hl 0 rfl) ?_
    refine va_get (D := g.1) (ci := 5) (v := .ref (a0 17)) (C := RX4) (T := TX4) (N := 7) hx hb hts layX4 hown hK.1 hP 0 rfl rfl 3 (by decide) (hts _ kw171) (fun _ h9 => h9) rfl dX4_firstToMerge_42 ?_
    refine lv_iload_n hx hb dX4_firstToMerge_45 rfl (lv_at hl 1 rfl) ?_
    refine cIp hP hD hS hA hE (fun hPc hDc hSc => rV (As := [.int x5]) (rest := [.int x8, .int (x6 * x7)]) hx hb hml hown hts hK (c_X2_get l g (fun i => a0 (i + 17)) 7 v0_bottoms x5 (bnd_ne hf)) svV_X2_get kw724 rfl rfl hPc hDc hSc rfl rfl hl.1 (Nat.le_of_ble_eq_true rfl) dX4_firstToMerge_46 ⟨Nat.le_of_ble_eq_true rfl, Nat.le_of_ble_eq_true rfl, rfl, rfl, Nat.le_of_ble_eq_true rfl, Nat.le_of_ble_eq_true rfl⟩) [(17, 2)] rfl rfl rfl (fun x9 H locs ex9 nx9 hP hS => ?_)
    have hf := bnd_of hf ex9
    refine lv_imul hx hb dX4_firstToMerge_49 ?_
    refine lv_icmp_lt (tgt := 55) hx hb dX4_firstToMerge_50 (by decide) (fun cb => ?_) (fun cb => ?_)
    · have hf := it_t cb hf
      refine lv_iinc (v := (x5 + 1)) (lv' := [(1, .int (x5 + 1)), (0, .ref (a0 0))]) hx hb dX4_firstToMerge_55 hl (k := 1) rfl (by rfl) (by decide) rfl (fun ls hl => ?_)
      refine lv_goto (tgt := 2) hx hb dX4_firstToMerge_58 (by decide) ?_
      exact hB _ (Option.some.inj hf).symm _ _ _ hP hD hS (lv_sub hl [1, 0] rfl)
    have hf := it_f cb hf
    exact hXt _ (Option.some.inj hf).symm _ _ _ hP hD hS (lv_sub hl [1] rfl)
  rcases r10 with x11 | x12
  · intro H locs ls hP hD hS hl
    have hP : va_P g.1 vwCl (wX4 a0 g v0_values_marks v0_values_weights v0_values_places v0_values_aboves v0_values_belows v0_values_reduced_above v0_values_reduced_below v0_values_papers v0_blocks v0_tops v0_bottoms v0_blocksNow v0_mergesDone v0_loss) H := hP
    have hD : va_D A (wX4 a0 g v0_values_marks v0_values_weights v0_values_places v0_values_aboves v0_values_belows v0_values_reduced_above v0_values_reduced_below v0_values_papers v0_blocks v0_tops v0_bottoms v0_blocksNow v0_mergesDone v0_loss) := hD
    have hl : lv_has ls 2 [(1, .int x11)] := hl
    refine lv_iload_n hx hb dX4_firstToMerge_53 rfl (lv_at hl 0 rfl) ?_
    exact retI (v := x11) (u := x11) (val := fun u => u) (W1 := fun u => wX4 a0 g v0_values_marks v0_values_weights v0_values_places v0_values_aboves v0_values_belows v0_values_reduced_above v0_values_reduced_below v0_values_papers v0_blocks v0_tops v0_bottoms v0_blocksNow v0_mergesDone v0_loss) hx hb hr hlocks hS hP hD (hf0.trans hf.symm) rfl rfl dX4_firstToMerge_54
  · intro H locs ls hP hD hS hl
    have hP : va_P g.1 vwCl (wX4 a0 g v0_values_marks v0_values_weights v0_values_places v0_values_aboves v0_values_belows v0_values_reduced_above v0_values_reduced_below v0_values_papers v0_blocks v0_tops v0_bottoms v0_blocksNow v0_mergesDone v0_loss) H := hP
    have hD : va_D A (wX4 a0 g v0_values_marks v0_values_weights v0_values_places v0_values_aboves v0_values_belows v0_values_reduced_above v0_values_reduced_below v0_values_papers v0_blocks v0_tops v0_bottoms v0_blocksNow v0_mergesDone v0_loss) := hD
    have hl : lv_has ls 2 [] := hl
    refine lv_iconst (v := (-1)) hx hb dX4_firstToMerge_61 (by decide) ?_
    exact retI (v := (-1 : Int32)) (u := (-1 : Int32)) (val := fun u => u) (W1 := fun u => wX4 a0 g v0_values_marks v0_values_weights v0_values_places v0_values_aboves v0_values_belows v0_values_reduced_above v0_values_reduced_below v0_values_papers v0_blocks v0_tops v0_bottoms v0_blocksNow v0_mergesDone v0_loss) hx hb hr hlocks hS hP hD (hf0.trans hf.symm) rfl rfl dX4_firstToMerge_62
set_option maxHeartbeats 4000000 in
set_option maxRecDepth 100000 in
theorem c_X4_mergeWithNext (l : Launch) (g : GG) (a0 : Nat → Nat) (v0_values_marks : (Nat → Int32)) (v0_values_weights : (Nat → Int32)) (v0_values_places : (Nat → Int32)) (v0_values_aboves : (Nat → Int32)) (v0_values_belows : (Nat → Int32)) (v0_values_reduced_above : Int64) (v0_values_reduced_below : Int64) (v0_values_papers : Int32) (v0_blocks : (Nat → Int32)) (v0_tops : (Nat → Int32)) (v0_bottoms : (Nat → Int32)) (v0_blocksNow : Int32) (v0_mergesDone : Int32) (v0_loss : Int32) (p1 : Int32) (hne : (m_X4_mergeWithNext ((v0_values_marks, v0_values_weights, v0_values_places, v0_values_aboves, v0_values_belows, (v0_values_reduced_above, v0_values_reduced_below), v0_values_papers), v0_blocks, v0_tops, v0_bottoms, v0_blocksNow, v0_mergesDone, v0_loss) p1) ≠ none) : Ct l g yX4_mergeWithNext cX4_mergeWithNext 2 none ({ frames := 2, cells := 0, slots := 0, locals := 44 } : Room) [.ref (a0 0), .int p1] (wX4 a0 g v0_values_marks v0_values_weights v0_values_places v0_values_aboves v0_values_belows v0_values_reduced_above v0_values_reduced_below v0_values_papers v0_blocks v0_tops v0_bottoms v0_blocksNow v0_mergesDone v0_loss) (Qv g (m_X4_mergeWithNext ((v0_values_marks, v0_values_weights, v0_values_places, v0_values_aboves, v0_values_belows, (v0_values_reduced_above, v0_values_reduced_below), v0_values_papers), v0_blocks, v0_tops, v0_bottoms, v0_blocksNow, v0_mergesDone, v0_loss) p1) (fun u => wX4 a0 g v0_values_marks v0_values_weights v0_values_places v0_values_aboves v0_values_belows v0_values_reduced_above v0_values_reduced_below v0_values_papers u.1 u.2.1 u.2.2.1 u.2.2.2.1 u.2.2.2.2 v0_loss)) 0 0 := by
  obtain ⟨out, hf⟩ := ne_ex hne
  have hf0 := hf
  refine Ct.of (own := RX4) (by decide +kernel) rfl (Nat.le_of_ble_eq_true rfl) ?_
  intro p e s m below meth c hx hb hr hml hown hts hlocks hin hK A H locs hA hP hD hS hE ls hl
  have hl : lv_has ls 2 [(0, .ref (a0 0)), (1, .int p1)] := hl
  unfold m_X4_mergeWithNext at hf
  refine lv_aload_n hx hb dX4_mergeWithNext_0 rfl (lv_at hl 0 rfl) ?_
  refine va_get (D := g.1) (ci := 5) (v := .ref (a0 13)) (C := RX4) (T := TX4) (N := 7) hx hb hts layX4 hown hK.1 hP 0 rfl rfl 1 (by decide) (hts _ kw169) (fun _ h9 => h9) rfl dX4_mergeWithNext_1 ?_
  refine lv_iload_n hx hb dX4_mergeWithNext_4 rfl (lv_at hl 1 rfl) ?_
  refine lv_aload_n hx hb dX4_mergeWithNext_5 rfl (lv_at hl 0 rfl) ?_
  refine va_get (D := g.1) (ci := 5) (v := .ref (a0 13)) (C := RX4) (T := TX4) (N := 7) hx hb hts layX4 hown hK.1 hP 0 rfl rfl 1 (by decide) (hts _ kw169) (fun _ h9 => h9) rfl dX4_mergeWithNext_6 ?_
  refine lv_iload_n hx hb dX4_mergeWithNext_9 rfl (lv_at hl 1 rfl) ?_
  refine lv_iconst (v := 1) hx hb dX4_mergeWithNext_10 (by decide) ?_
  refine lv_iadd hx hb dX4_mergeWithNext_11 ?_
  refine cIp hP hD hS hA hE (fun hPc hDc hSc => rV (As := [.int (p1 + (1 : Int32))]) (rest := [.int p1, .ref (a0 13)]) hx hb hml hown hts hK (c_X2_get l g (fun i => a0 (i + 13)) 7 v0_blocks (p1 + (1 : Int32)) (bnd_ne hf)) svV_X2_get kw724 rfl rfl hPc hDc hSc rfl rfl hl.1 (Nat.le_of_ble_eq_true rfl) dX4_mergeWithNext_12 ⟨Nat.le_of_ble_eq_true rfl, Nat.le_of_ble_eq_true rfl, rfl, rfl, Nat.le_of_ble_eq_true rfl, Nat.le_of_ble_eq_true rfl⟩) [(13, 2)] rfl rfl rfl (fun x1 H locs ex1 nx1 hP hS => ?_)
  have hf := bnd_of hf ex1
  refine cV hP hD hS hA hE (fun hPc hDc hSc => rV (As := [.int p1, .int x1]) (rest := []) hx hb hml hown hts hK (c_X2_add l g (fun i => a0 (i + 13)) 7 v0_blocks p1 x1 (bnd_ne hf)) svV_X2_add kw754 rfl rfl hPc hDc hSc rfl rfl hl.1 (Nat.le_of_ble_eq_true rfl) dX4_mergeWithNext_15 ⟨Nat.le_of_ble_eq_true rfl, Nat.le_of_ble_eq_true rfl, rfl, rfl, Nat.le_of_ble_eq_true rfl, Nat.le_of_ble_eq_true rfl⟩) [(13, 2)] rfl rfl rfl (fun _ => rfl) (fun x2 H locs ex2 hP hD hS => ?_)
  have hf := bnd_of hf ex2
  have hP : va_P g.1 vwCl (wX4 a0 g v0_values_marks v0_values_weights v0_values_places v0_values_aboves v0_values_belows v0_values_reduced_above v0_values_reduced_below v0_values_papers x2 v0_tops v0_bottoms v0_blocksNow v0_mergesDone v0_loss) H := hP
  have hD : va_D A (wX4 a0 g v0_values_marks v0_values_weights v0_values_places v0_values_aboves v0_values_belows v0_values_reduced_above v0_values_reduced_below v0_values_papers x2 v0_tops v0_bottoms v0_blocksNow v0_mergesDone v0_loss) := hD
  refine lv_aload_n hx hb dX4_mergeWithNext_18 rfl (lv_at hl 0 rfl) ?_
  refine va_get (D := g.1) (ci := 5) (v := .ref (a0 13)) (C := RX4) (T := TX4) (N := 7) hx hb hts layX4 hown hK.1 hP 0 rfl rfl 1 (by decide) (hts _ kw169) (fun _ h9 => h9) rfl dX4_mergeWithNext_19 ?_
  refine lv_iload_n hx hb dX4_mergeWithNext_22 rfl (lv_at hl 1 rfl) ?_
  refine lv_iconst (v := 1) hx hb dX4_mergeWithNext_23 (by decide) ?_
  refine lv_iadd hx hb dX4_mergeWithNext_24 ?_
  refine cV hP hD hS hA hE (fun hPc hDc hSc => rV (As := [.int (p1 + (1 : Int32))]) (rest := []) hx hb hml hown hts hK (c_X2_removeAt l g (fun i => a0 (i + 13)) 7 x2 (p1 + (1 : Int32)) (bnd_ne hf)) svV_X2_removeAt kw755 rfl rfl hPc hDc hSc rfl rfl hl.1 (Nat.le_of_ble_eq_true rfl) dX4_mergeWithNext_25 ⟨Nat.le_of_ble_eq_true rfl, Nat.le_of_ble_eq_true rfl, rfl, rfl, Nat.le_of_ble_eq_true rfl, Nat.le_of_ble_eq_true rfl⟩) [(13, 2)] rfl rfl rfl (fun _ => rfl) (fun x3 H locs ex3 hP hD hS => ?_)
  have hf := bnd_of hf ex3
  have hP : va_P g.1 vwCl (wX4 a0 g v0_values_marks v0_values_weights v0_values_places v0_values_aboves v0_values_belows v0_values_reduced_above v0_values_reduced_below v0_values_papers x3 v0_tops v0_bottoms v0_blocksNow v0_mergesDone v0_loss) H := hP
  have hD : va_D A (wX4 a0 g v0_values_marks v0_values_weights v0_values_places v0_values_aboves v0_values_belows v0_values_reduced_above v0_values_reduced_below v0_values_papers x3 v0_tops v0_bottoms v0_blocksNow v0_mergesDone v0_loss) := hD
  refine lv_aload_n hx hb dX4_mergeWithNext_28 rfl (lv_at hl 0 rfl) ?_
  refine va_get (D := g.1) (ci := 5) (v := .ref (a0 15)) (C := RX4) (T := TX4) (N := 7) hx hb hts layX4 hown hK.1 hP 0 rfl rfl 2 (by decide) (hts _ kw170) (fun _ h9 => h9) rfl dX4_mergeWithNext_29 ?_
  refine lv_iload_n hx hb dX4_mergeWithNext_32 rfl (lv_at hl 1 rfl) ?_
  refine lv_iconst (v := 1) hx hb dX4_mergeWithNext_33 (by decide) ?_
  refine lv_iadd hx hb dX4_mergeWithNext_34 ?_
  refine cV hP hD hS hA hE (fun hPc hDc hSc => rV (As := [.int (p1 + (1 : Int32))]) (rest := []) hx hb hml hown hts hK (c_X2_removeAt l g (fun i => a0 (i + 15)) 7 v0_tops (p1 + (1 : Int32)) (bnd_ne hf)) svV_X2_removeAt kw755 rfl rfl hPc hDc hSc rfl rfl hl.1 (Nat.le_of_ble_eq_true rfl) dX4_mergeWithNext_35 ⟨Nat.le_of_ble_eq_true rfl, Nat.le_of_ble_eq_true rfl, rfl, rfl, Nat.le_of_ble_eq_true rfl, Nat.le_of_ble_eq_true rfl⟩) [(15, 2)] rfl rfl rfl (fun _ => rfl) (fun x4 H locs ex4 hP hD hS => ?_)
  have hf := bnd_of hf ex4
  have hP : va_P g.1 vwCl (wX4 a0 g v0_values_marks v0_values_weights v0_values_places v0_values_aboves v0_values_belows v0_values_reduced_above v0_values_reduced_below v0_values_papers x3 x4 v0_bottoms v0_blocksNow v0_mergesDone v0_loss) H := hP
  have hD : va_D A (wX4 a0 g v0_values_marks v0_values_weights v0_values_places v0_values_aboves v0_values_belows v0_values_reduced_above v0_values_reduced_below v0_values_papers x3 x4 v0_bottoms v0_blocksNow v0_mergesDone v0_loss) := hD
  refine lv_aload_n hx hb dX4_mergeWithNext_38 rfl (lv_at hl 0 rfl) ?_
  refine va_get (D := g.1) (ci := 5) (v := .ref (a0 17)) (C := RX4) (T := TX4) (N := 7) hx hb hts layX4 hown hK.1 hP 0 rfl rfl 3 (by decide) (hts _ kw171) (fun _ h9 => h9) rfl dX4_mergeWithNext_39 ?_
  refine lv_iload_n hx hb dX4_mergeWithNext_42 rfl (lv_at hl 1 rfl) ?_
  refine lv_iconst (v := 1) hx hb dX4_mergeWithNext_43 (by decide) ?_
  refine lv_iadd hx hb dX4_mergeWithNext_44 ?_
  refine cV hP hD hS hA hE (fun hPc hDc hSc => rV (As := [.int (p1 + (1 : Int32))]) (rest := []) hx hb hml hown hts hK (c_X2_removeAt l g (fun i => a0 (i + 17)) 7 v0_bottoms (p1 + (1 : Int32)) (bnd_ne hf)) svV_X2_removeAt kw755 rfl rfl hPc hDc hSc rfl rfl hl.1 (Nat.le_of_ble_eq_true rfl) dX4_mergeWithNext_45 ⟨Nat.le_of_ble_eq_true rfl, Nat.le_of_ble_eq_true rfl, rfl, rfl, Nat.le_of_ble_eq_true rfl, Nat.le_of_ble_eq_true rfl⟩) [(17, 2)] rfl rfl rfl (fun _ => rfl) (fun x5 H locs ex5 hP hD hS => ?_)
  have hf := bnd_of hf ex5
  have hP : va_P g.1 vwCl (wX4 a0 g v0_values_marks v0_values_weights v0_values_places v0_values_aboves v0_values_belows v0_values_reduced_above v0_values_reduced_below v0_values_papers x3 x4 x5 v0_blocksNow v0_mergesDone v0_loss) H := hP
  have hD : va_D A (wX4 a0 g v0_values_marks v0_values_weights v0_values_places v0_values_aboves v0_values_belows v0_values_reduced_above v0_values_reduced_below v0_values_papers x3 x4 x5 v0_blocksNow v0_mergesDone v0_loss) := hD
  refine lv_aload_n hx hb dX4_mergeWithNext_48 rfl (lv_at hl 0 rfl) ?_
  refine lv_dup hx hb dX4_mergeWithNext_49 rfl ?_
  refine va_get (D := g.1) (ci := 5) (v := .int v0_blocksNow) (C := RX4) (T := TX4) (N := 7) hx hb hts layX4 hown hK.1 hP 0 rfl rfl 4 (by decide) (hts _ kw172) (fun _ h9 => h9) rfl dX4_mergeWithNext_50 ?_
  refine lv_iconst (v := 1) hx hb dX4_mergeWithNext_53 (by decide) ?_
  refine lv_isub hx hb dX4_mergeWithNext_54 ?_
  refine va_put (D := g.1) (ci := 5) (v := .int (v0_blocksNow - (1 : Int32))) (ty := .int) (C := RX4) (T := TX4) (N := 7) hx hb hts layX4 tyX4 tyX4_ok nmX4 hown hK.1 hP hD hS 0 rfl rfl 4 (by decide) (hts _ kw172) (fun _ h9 => h9) rfl (tyX4_ok 4 (by decide)) rfl rfl (Nat.le_of_ble_eq_true rfl) dX4_mergeWithNext_55 (fun H locs hP hD hS => ?_)
  have hP : va_P g.1 vwCl (wX4 a0 g v0_values_marks v0_values_weights v0_values_places v0_values_aboves v0_values_belows v0_values_reduced_above v0_values_reduced_below v0_values_papers x3 x4 x5 (v0_blocksNow - (1 : Int32)) v0_mergesDone v0_loss) H := hP
  have hD : va_D A (wX4 a0 g v0_values_marks v0_values_weights v0_values_places v0_values_aboves v0_values_belows v0_values_reduced_above v0_values_reduced_below v0_values_papers x3 x4 x5 (v0_blocksNow - (1 : Int32)) v0_mergesDone v0_loss) := hD
  refine lv_aload_n hx hb dX4_mergeWithNext_58 rfl (lv_at hl 0 rfl) ?_
  refine lv_dup hx hb dX4_mergeWithNext_59 rfl ?_
  refine va_get (D := g.1) (ci := 5) (v := .int v0_mergesDone) (C := RX4) (T := TX4) (N := 7) hx hb hts layX4 hown hK.1 hP 0 rfl rfl 5 (by decide) (hts _ kw173) (fun _ h9 => h9) rfl dX4_mergeWithNext_60 ?_
  refine lv_iconst (v := 1) hx hb dX4_mergeWithNext_63 (by decide) ?_
  refine lv_iadd hx hb dX4_mergeWithNext_64 ?_
  refine va_put (D := g.1) (ci := 5) (v := .int (v0_mergesDone + (1 : Int32))) (ty := .int) (C := RX4) (T := TX4) (N := 7) hx hb hts layX4 tyX4 tyX4_ok nmX4 hown hK.1 hP hD hS 0 rfl rfl 5 (by decide) (hts _ kw173) (fun _ h9 => h9) rfl (tyX4_ok 5 (by decide)) rfl rfl (Nat.le_of_ble_eq_true rfl) dX4_mergeWithNext_65 (fun H locs hP hD hS => ?_)
  have hP : va_P g.1 vwCl (wX4 a0 g v0_values_marks v0_values_weights v0_values_places v0_values_aboves v0_values_belows v0_values_reduced_above v0_values_reduced_below v0_values_papers x3 x4 x5 (v0_blocksNow - (1 : Int32)) (v0_mergesDone + (1 : Int32)) v0_loss) H := hP
  have hD : va_D A (wX4 a0 g v0_values_marks v0_values_weights v0_values_places v0_values_aboves v0_values_belows v0_values_reduced_above v0_values_reduced_below v0_values_papers x3 x4 x5 (v0_blocksNow - (1 : Int32)) (v0_mergesDone + (1 : Int32)) v0_loss) := hD
  exact retV (u := (x3, x4, x5, (v0_blocksNow - (1 : Int32)), (v0_mergesDone + (1 : Int32)))) (W1 := fun u => wX4 a0 g v0_values_marks v0_values_weights v0_values_places v0_values_aboves v0_values_belows v0_values_reduced_above v0_values_reduced_below v0_values_papers u.1 u.2.1 u.2.2.1 u.2.2.2.1 u.2.2.2.2 v0_loss) hx hb hr hlocks hS hP hD (hf0.trans hf.symm) dX4_mergeWithNext_68
set_option maxHeartbeats 4000000 in
set_option maxRecDepth 100000 in
theorem c_X4_mergeAll (l : Launch) (g : GG) (a0 : Nat → Nat) (v0_values_marks : (Nat → Int32)) (v0_values_weights : (Nat → Int32)) (v0_values_places : (Nat → Int32)) (v0_values_aboves : (Nat → Int32)) (v0_values_belows : (Nat → Int32)) (v0_values_reduced_above : Int64) (v0_values_reduced_below : Int64) (v0_values_papers : Int32) (v0_blocks : (Nat → Int32)) (v0_tops : (Nat → Int32)) (v0_bottoms : (Nat → Int32)) (v0_blocksNow : Int32) (v0_mergesDone : Int32) (v0_loss : Int32) (hne : (m_X4_mergeAll ((v0_values_marks, v0_values_weights, v0_values_places, v0_values_aboves, v0_values_belows, (v0_values_reduced_above, v0_values_reduced_below), v0_values_papers), v0_blocks, v0_tops, v0_bottoms, v0_blocksNow, v0_mergesDone, v0_loss)) ≠ none) : Ct l g yX4_mergeAll cX4_mergeAll 3 none ({ frames := 5, cells := 0, slots := 0, locals := 112 } : Room) [.ref (a0 0)] (wX4 a0 g v0_values_marks v0_values_weights v0_values_places v0_values_aboves v0_values_belows v0_values_reduced_above v0_values_reduced_below v0_values_papers v0_blocks v0_tops v0_bottoms v0_blocksNow v0_mergesDone v0_loss) (Qv g (m_X4_mergeAll ((v0_values_marks, v0_values_weights, v0_values_places, v0_values_aboves, v0_values_belows, (v0_values_reduced_above, v0_values_reduced_below), v0_values_papers), v0_blocks, v0_tops, v0_bottoms, v0_blocksNow, v0_mergesDone, v0_loss)) (fun u => wX4 a0 g v0_values_marks v0_values_weights v0_values_places v0_values_aboves v0_values_belows v0_values_reduced_above v0_values_reduced_below v0_values_papers u.1 u.2.1 u.2.2.1 u.2.2.2.1 u.2.2.2.2 v0_loss)) 0 0 := by
  obtain ⟨out, hf⟩ := ne_ex hne
  have hf0 := hf
  refine Ct.of (own := RX4) (by decide +kernel) rfl (Nat.le_of_ble_eq_true rfl) ?_
  intro p e s m below meth c hx hb hr hml hown hts hlocks hin hK A H locs hA hP hD hS hE ls hl
  have hl : lv_has ls 3 [(0, .ref (a0 0))] := hl
  unfold m_X4_mergeAll at hf
  refine lv_iconst (v := 0) hx hb dX4_mergeAll_0 (by decide) ?_
  refine lv_istore_n (lv' := [(1, .int (0 : Int32)), (0, .ref (a0 0))]) hx hb dX4_mergeAll_1 rfl hl (by decide) rfl (fun ls hl => ?_)
  obtain ⟨r6, er6, hf⟩ := bnd hf
  refine lp_W (P := fun z => ∀ (H : Heap) (locs : List Loc) (ls : Array Slot), va_P g.1 vwCl (wX4 a0 g v0_values_marks v0_values_weights v0_values_places v0_values_aboves v0_values_belows v0_values_reduced_above v0_values_reduced_below v0_values_papers v0_blocks z.2.1 z.2.2 v0_blocksNow v0_mergesDone v0_loss) H → va_D A (wX4 a0 g v0_values_marks v0_values_weights v0_values_places v0_values_aboves v0_values_belows v0_values_reduced_above v0_values_reduced_below v0_values_papers v0_blocks z.2.1 z.2.2 v0_blocksNow v0_mergesDone v0_loss) → va_S A s.heap H locs → lv_has ls 3 [(0, .ref (a0 0)), (1, .int z.1)] → W p l e { frames := 5, cells := 0, slots := 0, locals := 112 } s m [.ref (a0 0)].toArray below meth c H locs 0 0 (MQ below (Qv g (m_X4_mergeAll ((v0_values_marks, v0_values_weights, v0_values_places, v0_values_aboves, v0_values_belows, (v0_values_reduced_above, v0_values_reduced_below), v0_values_papers), v0_blocks, v0_tops, v0_bottoms, v0_blocksNow, v0_mergesDone, v0_loss)) (fun u => wX4 a0 g v0_values_marks v0_values_weights v0_values_places v0_values_aboves v0_values_belows v0_values_reduced_above v0_values_reduced_below v0_values_papers u.1 u.2.1 u.2.2.1 u.2.2.2.1 u.2.2.2.2 v0_loss) A) [.ref (a0 0)].toArray s 0 0 A) (F0 m 2 ls [])) (E := fun r6 => ∀ (H : Heap) (locs : List Loc) (ls : Array Slot), va_P g.1 vwCl (wX4 a0 g v0_values_marks v0_values_weights v0_values_places v0_values_aboves v0_values_belows v0_values_reduced_above v0_values_reduced_below v0_values_papers v0_blocks r6.1 r6.2 v0_blocksNow v0_mergesDone v0_loss) H → va_D A (wX4 a0 g v0_values_marks v0_values_weights v0_values_places v0_values_aboves v0_values_belows v0_values_reduced_above v0_values_reduced_below v0_values_papers v0_blocks r6.1 r6.2 v0_blocksNow v0_mergesDone v0_loss) → va_S A s.heap H locs → lv_has ls 3 [(0, .ref (a0 0))] → W p l e { frames := 5, cells := 0, slots := 0, locals := 112 } s m [.ref (a0 0)].toArray below meth c H locs 0 0 (MQ below (Qv g (m_X4_mergeAll ((v0_values_marks, v0_values_weights, v0_values_places, v0_values_aboves, v0_values_belows, (v0_values_reduced_above, v0_values_reduced_below), v0_values_papers), v0_blocks, v0_tops, v0_bottoms, v0_blocksNow, v0_mergesDone, v0_loss)) (fun u => wX4 a0 g v0_values_marks v0_values_weights v0_values_places v0_values_aboves v0_values_belows v0_values_reduced_above v0_values_reduced_below v0_values_papers u.1 u.2.1 u.2.2.1 u.2.2.2.1 u.2.2.2.2 v0_loss) A) [.ref (a0 0)].toArray s 0 0 A) (F0 m 21 ls [])) ?_ fu _ r6 er6 ?_ _ _ _ hP hD hS (lv_sub hl [1, 0] rfl)
  · rintro ⟨x2, x3, x4⟩ y hf hB hXt H locs ls hP hD hS hl
    have hP : va_P g.1 vwCl (wX4 a0 g v0_values_marks v0_values_weights v0_values_places v0_values_aboves v0_values_belows v0_values_reduced_above v0_values_reduced_below v0_values_papers v0_blocks x3 x4 v0_blocksNow v0_mergesDone v0_loss) H := hP
    have hD : va_D A (wX4 a0 g v0_values_marks v0_values_weights v0_values_places v0_values_aboves v0_values_belows v0_values_reduced_above v0_values_reduced_below v0_values_papers v0_blocks x3 x4 v0_blocksNow v0_mergesDone v0_loss) := hD
    have hl : lv_has ls 3 [(0, .ref (a0 0)), (1, .int x2)] := hl
    have hf : m_X4_mergeAll_l2 ((v0_values_marks, v0_values_weights, v0_values_places, v0_values_aboves, v0_values_belows, (v0_values_reduced_above, v0_values_reduced_below), v0_values_papers), v0_blocks, v0_tops, v0_bottoms, v0_blocksNow, v0_mergesDone, v0_loss) x2 x3 x4 = some y := hf
    unfold m_X4_mergeAll_l2 at hf
    refine lv_iload_n hx hb dX4_mergeAll_2 rfl (lv_at hl 1 rfl) ?_
    refine lv_aload_n hx hb dX4_mergeAll_3 rfl (lv_at hl 0 rfl) ?_
    refine va_get (D := g.1) (ci := 5) (v := .int v0_blocksNow) (C := RX4) (T := TX4) (N := 7) hx hb hts layX4 hown hK.1 hP 0 rfl rfl 4 (by decide) (hts _ kw172) (fun _ h9 => h9) rfl dX4_mergeAll_4 ?_
    refine lv_icmp_ge (tgt := 21) hx hb dX4_mergeAll_7 (by decide) (fun cb => ?_) (fun cb => ?_)
    · have hf := it_t cb hf
      exact hXt _ (Option.some.inj hf).symm _ _ _ hP hD hS (lv_sub hl [0] rfl)
    have hf := it_f cb hf
    refine lv_aload_n hx hb dX4_mergeAll_10 rfl (lv_at hl 0 rfl) ?_
    refine lv_iload_n hx hb dX4_mergeAll_11 rfl (lv_at hl 1 rfl) ?_
    refine cV hP hD hS hA hE (fun hPc hDc hSc => rV (As := [.int x2]) (rest := []) hx hb hml hown hts hK (c_X4_measure l g a0 v0_values_marks v0_values_weights v0_values_places v0_values_aboves v0_values_belows v0_values_reduced_above v0_values_reduced_below v0_values_papers v0_blocks x3 x4 v0_blocksNow v0_mergesDone v0_loss x2 (bnd_ne hf)) svV_X4_measure kw721 rfl rfl hPc hDc hSc rfl rfl hl.1 (Nat.le_of_ble_eq_true rfl) dX4_mergeAll_12 ⟨Nat.le_of_ble_eq_true rfl, Nat.le_of_ble_eq_true rfl, rfl, rfl, Nat.le_of_ble_eq_true rfl, Nat.le_of_ble_eq_true rfl⟩) [(0, 19)] rfl rfl rfl (fun _ => rfl) (fun x5 H locs ex5 hP hD hS => ?_)
    have hf := bnd_of hf ex5
    have hP : va_P g.1 vwCl (wX4 a0 g v0_values_marks v0_values_weights v0_values_places v0_values_aboves v0_values_belows v0_values_reduced_above v0_values_reduced_below v0_values_papers v0_blocks x5.1 x5.2 v0_blocksNow v0_mergesDone v0_loss) H := hP
    have hD : va_D A (wX4 a0 g v0_values_marks v0_values_weights v0_values_places v0_values_aboves v0_values_belows v0_values_reduced_above v0_values_reduced_below v0_values_papers v0_blocks x5.1 x5.2 v0_blocksNow v0_mergesDone v0_loss) := hD
    refine lv_iinc (v := (x2 + 1)) (lv' := [(1, .int (x2 + 1)), (0, .ref (a0 0))]) hx hb dX4_mergeAll_15 hl (k := 1) rfl (by rfl) (by decide) rfl (fun ls hl => ?_)
    refine lv_goto (tgt := 2) hx hb dX4_mergeAll_18 (by decide) ?_
    exact hB _ (Option.some.inj hf).symm _ _ _ hP hD hS (lv_sub hl [1, 0] rfl)
  intro H locs ls hP hD hS hl
  have hP : va_P g.1 vwCl (wX4 a0 g v0_values_marks v0_values_weights v0_values_places v0_values_aboves v0_values_belows v0_values_reduced_above v0_values_reduced_below v0_values_papers v0_blocks r6.1 r6.2 v0_blocksNow v0_mergesDone v0_loss) H := hP
  have hD : va_D A (wX4 a0 g v0_values_marks v0_values_weights v0_values_places v0_values_aboves v0_values_belows v0_values_reduced_above v0_values_reduced_below v0_values_papers v0_blocks r6.1 r6.2 v0_blocksNow v0_mergesDone v0_loss) := hD
  have hl : lv_has ls 3 [(0, .ref (a0 0))] := hl
  refine lv_aload_n hx hb dX4_mergeAll_21 rfl (lv_at hl 0 rfl) ?_
  refine cIp hP hD hS hA hE (fun hPc hDc hSc => rV (As := []) (rest := []) hx hb hml hown hts hK (c_X4_firstToMerge l g a0 v0_values_marks v0_values_weights v0_values_places v0_values_aboves v0_values_belows v0_values_reduced_above v0_values_reduced_below v0_values_papers v0_blocks r6.1 r6.2 v0_blocksNow v0_mergesDone v0_loss (bnd_ne hf)) svV_X4_firstToMerge kw748 rfl rfl hPc hDc hSc rfl rfl hl.1 (Nat.le_of_ble_eq_true rfl) dX4_mergeAll_22 ⟨Nat.le_of_ble_eq_true rfl, Nat.le_of_ble_eq_true rfl, rfl, rfl, Nat.le_of_ble_eq_true rfl, Nat.le_of_ble_eq_true rfl⟩) [(0, 19)] rfl rfl rfl (fun x7 H locs ex7 nx7 hP hS => ?_)
  have hf := bnd_of hf ex7
  refine lv_istore_n (lv' := [(1, .int x7), (0, .ref (a0 0))]) hx hb dX4_mergeAll_25 rfl hl (by decide) rfl (fun ls hl => ?_)
  refine lv_iconst (v := 0) hx hb dX4_mergeAll_26 (by decide) ?_
  refine lv_istore_n (lv' := [(2, .int (0 : Int32)), (1, .int x7), (0, .ref (a0 0))]) hx hb dX4_mergeAll_27 rfl hl (by decide) rfl (fun ls hl => ?_)
  obtain ⟨r21, er21, hf⟩ := bnd hf
  refine lp_W (P := fun z => ∀ (H : Heap) (locs : List Loc) (ls : Array Slot), va_P g.1 vwCl (wX4 a0 g v0_values_marks v0_values_weights v0_values_places v0_values_aboves v0_values_belows v0_values_reduced_above v0_values_reduced_below v0_values_papers z.2.2.1 z.2.2.2.1 z.2.2.2.2.1 z.2.2.2.2.2.1 z.2.2.2.2.2.2 v0_loss) H → va_D A (wX4 a0 g v0_values_marks v0_values_weights v0_values_places v0_values_aboves v0_values_belows v0_values_reduced_above v0_values_reduced_below v0_values_papers z.2.2.1 z.2.2.2.1 z.2.2.2.2.1 z.2.2.2.2.2.1 z.2.2.2.2.2.2 v0_loss) → va_S A s.heap H locs → lv_has ls 3 [(0, .ref (a0 0)), (1, .int z.1), (2, .int z.2.1)] → W p l e { frames := 5, cells := 0, slots := 0, locals := 112 } s m [.ref (a0 0)].toArray below meth c H locs 0 0 (MQ below (Qv g (m_X4_mergeAll ((v0_values_marks, v0_values_weights, v0_values_places, v0_values_aboves, v0_values_belows, (v0_values_reduced_above, v0_values_reduced_below), v0_values_papers), v0_blocks, v0_tops, v0_bottoms, v0_blocksNow, v0_mergesDone, v0_loss)) (fun u => wX4 a0 g v0_values_marks v0_values_weights v0_values_places v0_values_aboves v0_values_belows v0_values_reduced_above v0_values_reduced_below v0_values_papers u.1 u.2.1 u.2.2.1 u.2.2.2.1 u.2.2.2.2 v0_loss) A) [.ref (a0 0)].toArray s 0 0 A) (F0 m 28 ls [])) (E := fun r21 => ∀ (H : Heap) (locs : List Loc) (ls : Array Slot), va_P g.1 vwCl (wX4 a0 g v0_values_marks v0_values_weights v0_values_places v0_values_aboves v0_values_belows v0_values_reduced_above v0_values_reduced_below v0_values_papers r21.1 r21.2.1 r21.2.2.1 r21.2.2.2.1 r21.2.2.2.2 v0_loss) H → va_D A (wX4 a0 g v0_values_marks v0_values_weights v0_values_places v0_values_aboves v0_values_belows v0_values_reduced_above v0_values_reduced_below v0_values_papers r21.1 r21.2.1 r21.2.2.1 r21.2.2.2.1 r21.2.2.2.2 v0_loss) → va_S A s.heap H locs → lv_has ls 3 [] → W p l e { frames := 5, cells := 0, slots := 0, locals := 112 } s m [.ref (a0 0)].toArray below meth c H locs 0 0 (MQ below (Qv g (m_X4_mergeAll ((v0_values_marks, v0_values_weights, v0_values_places, v0_values_aboves, v0_values_belows, (v0_values_reduced_above, v0_values_reduced_below), v0_values_papers), v0_blocks, v0_tops, v0_bottoms, v0_blocksNow, v0_mergesDone, v0_loss)) (fun u => wX4 a0 g v0_values_marks v0_values_weights v0_values_places v0_values_aboves v0_values_belows v0_values_reduced_above v0_values_reduced_below v0_values_papers u.1 u.2.1 u.2.2.1 u.2.2.2.1 u.2.2.2.2 v0_loss) A) [.ref (a0 0)].toArray s 0 0 A) (F0 m 59 ls [])) ?_ fu _ r21 er21 ?_ _ _ _ hP hD hS (lv_sub hl [2, 1, 0] rfl)
  · rintro ⟨x11, x12, x13, x14, x15, x16, x17⟩ y hf hB hXt H locs ls hP hD hS hl
    have hP : va_P g.1 vwCl (wX4 a0 g v0_values_marks v0_values_weights v0_values_places v0_values_aboves v0_values_belows v0_values_reduced_above v0_values_reduced_below v0_values_papers x13 x14 x15 x16 x17 v0_loss) H := hP
    have hD : va_D A (wX4 a0 g v0_values_marks v0_values_weights v0_values_places v0_values_aboves v0_values_belows v0_values_reduced_above v0_values_reduced_below v0_values_papers x13 x14 x15 x16 x17 v0_loss) := hD
    have hl : lv_has ls 3 [(0, .ref (a0 0)), (1, .int x11), (2, .int x12)] := hl
    have hf : m_X4_mergeAll_l28 ((v0_values_marks, v0_values_weights, v0_values_places, v0_values_aboves, v0_values_belows, (v0_values_reduced_above, v0_values_reduced_below), v0_values_papers), v0_blocks, v0_tops, v0_bottoms, v0_blocksNow, v0_mergesDone, v0_loss) x11 x12 x13 x14 x15 x16 x17 = some y := hf
    unfold m_X4_mergeAll_l28 at hf
    refine lv_iload_n hx hb dX4_mergeAll_28 rfl (lv_at hl 2 rfl) ?_
    refine lv_bipush (v := 7) hx hb dX4_mergeAll_29 (by decide) ?_
    refine lv_icmp_ge (tgt := 59) hx hb dX4_mergeAll_31 (by decide) (fun cb => ?_) (fun cb => ?_)
    · have hf := it_t cb hf
      exact hXt _ (Option.some.inj hf).symm _ _ _ hP hD hS (lv_sub hl [] rfl)
    have hf := it_f cb hf
    refine lv_iload_n hx hb dX4_mergeAll_34 rfl (lv_at hl 1 rfl) ?_
    refine lv_if_lt (tgt := 59) hx hb dX4_mergeAll_35 (by decide) (fun cb => ?_) (fun cb => ?_)
    · have hf := it_t cb hf
      exact hXt _ (Option.some.inj hf).symm _ _ _ hP hD hS (lv_sub hl [] rfl)
    have hf := it_f cb hf
    refine lv_aload_n hx hb dX4_mergeAll_38 rfl (lv_at hl 0 rfl) ?_
    refine lv_iload_n hx hb dX4_mergeAll_39 rfl (lv_at hl 1 rfl) ?_
    refine cV hP hD hS hA hE (fun hPc hDc hSc => rV (As := [.int x11]) (rest := []) hx hb hml hown hts hK (c_X4_mergeWithNext l g a0 v0_values_marks v0_values_weights v0_values_places v0_values_aboves v0_values_belows v0_values_reduced_above v0_values_reduced_below v0_values_papers x13 x14 x15 x16 x17 v0_loss x11 (bnd_ne hf)) svV_X4_mergeWithNext kw751 rfl rfl hPc hDc hSc rfl rfl hl.1 (Nat.le_of_ble_eq_true rfl) dX4_mergeAll_40 ⟨Nat.le_of_ble_eq_true rfl, Nat.le_of_ble_eq_true rfl, rfl, rfl, Nat.le_of_ble_eq_true rfl, Nat.le_of_ble_eq_true rfl⟩) [(0, 19)] rfl rfl rfl (fun _ => rfl) (fun x18 H locs ex18 hP hD hS => ?_)
    have hf := bnd_of hf ex18
    have hP : va_P g.1 vwCl (wX4 a0 g v0_values_marks v0_values_weights v0_values_places v0_values_aboves v0_values_belows v0_values_reduced_above v0_values_reduced_below v0_values_papers x18.1 x18.2.1 x18.2.2.1 x18.2.2.2.1 x18.2.2.2.2 v0_loss) H := hP
    have hD : va_D A (wX4 a0 g v0_values_marks v0_values_weights v0_values_places v0_values_aboves v0_values_belows v0_values_reduced_above v0_values_reduced_below v0_values_papers x18.1 x18.2.1 x18.2.2.1 x18.2.2.2.1 x18.2.2.2.2 v0_loss) := hD
    refine lv_aload_n hx hb dX4_mergeAll_43 rfl (lv_at hl 0 rfl) ?_
    refine lv_iload_n hx hb dX4_mergeAll_44 rfl (lv_at hl 1 rfl) ?_
    refine cV hP hD hS hA hE (fun hPc hDc hSc => rV (As := [.int x11]) (rest := []) hx hb hml hown hts hK (c_X4_measure l g a0 v0_values_marks v0_values_weights v0_values_places v0_values_aboves v0_values_belows v0_values_reduced_above v0_values_reduced_below v0_values_papers x18.1 x18.2.1 x18.2.2.1 x18.2.2.2.1 x18.2.2.2.2 v0_loss x11 (bnd_ne hf)) svV_X4_measure kw721 rfl rfl hPc hDc hSc rfl rfl hl.1 (Nat.le_of_ble_eq_true rfl) dX4_mergeAll_45 ⟨Nat.le_of_ble_eq_true rfl, Nat.le_of_ble_eq_true rfl, rfl, rfl, Nat.le_of_ble_eq_true rfl, Nat.le_of_ble_eq_true rfl⟩) [(0, 19)] rfl rfl rfl (fun _ => rfl) (fun x19 H locs ex19 hP hD hS => ?_)
    have hf := bnd_of hf ex19
    have hP : va_P g.1 vwCl (wX4 a0 g v0_values_marks v0_values_weights v0_values_places v0_values_aboves v0_values_belows v0_values_reduced_above v0_values_reduced_below v0_values_papers x18.1 x19.1 x19.2 x18.2.2.2.1 x18.2.2.2.2 v0_loss) H := hP
    have hD : va_D A (wX4 a0 g v0_values_marks v0_values_weights v0_values_places v0_values_aboves v0_values_belows v0_values_reduced_above v0_values_reduced_below v0_values_papers x18.1 x19.1 x19.2 x18.2.2.2.1 x18.2.2.2.2 v0_loss) := hD
    refine lv_aload_n hx hb dX4_mergeAll_48 rfl (lv_at hl 0 rfl) ?_
    refine cIp hP hD hS hA hE (fun hPc hDc hSc => rV (As := []) (rest := []) hx hb hml hown hts hK (c_X4_firstToMerge l g a0 v0_values_marks v0_values_weights v0_values_places v0_values_aboves v0_values_belows v0_values_reduced_above v0_values_reduced_below v0_values_papers x18.1 x19.1 x19.2 x18.2.2.2.1 x18.2.2.2.2 v0_loss (bnd_ne hf)) svV_X4_firstToMerge kw748 rfl rfl hPc hDc hSc rfl rfl hl.1 (Nat.le_of_ble_eq_true rfl) dX4_mergeAll_49 ⟨Nat.le_of_ble_eq_true rfl, Nat.le_of_ble_eq_true rfl, rfl, rfl, Nat.le_of_ble_eq_true rfl, Nat.le_of_ble_eq_true rfl⟩) [(0, 19)] rfl rfl rfl (fun x20 H locs ex20 nx20 hP hS => ?_)
    have hf := bnd_of hf ex20
    refine lv_istore_n (lv' := [(1, .int x20), (0, .ref (a0 0)), (2, .int x12)]) hx hb dX4_mergeAll_52 rfl hl (by decide) rfl (fun ls hl => ?_)
    refine lv_iinc (v := (x12 + 1)) (lv' := [(2, .int (x12 + 1)), (1, .int x20), (0, .ref (a0 0))]) hx hb dX4_mergeAll_53 hl (k := 2) rfl (by rfl) (by decide) rfl (fun ls hl => ?_)
    refine lv_goto (tgt := 28) hx hb dX4_mergeAll_56 (by decide) ?_
    exact hB _ (Option.some.inj hf).symm _ _ _ hP hD hS (lv_sub hl [2, 1, 0] rfl)
  intro H locs ls hP hD hS hl
  have hP : va_P g.1 vwCl (wX4 a0 g v0_values_marks v0_values_weights v0_values_places v0_values_aboves v0_values_belows v0_values_reduced_above v0_values_reduced_below v0_values_papers r21.1 r21.2.1 r21.2.2.1 r21.2.2.2.1 r21.2.2.2.2 v0_loss) H := hP
  have hD : va_D A (wX4 a0 g v0_values_marks v0_values_weights v0_values_places v0_values_aboves v0_values_belows v0_values_reduced_above v0_values_reduced_below v0_values_papers r21.1 r21.2.1 r21.2.2.1 r21.2.2.2.1 r21.2.2.2.2 v0_loss) := hD
  have hl : lv_has ls 3 [] := hl
  exact retV (u := (r21.1, r21.2.1, r21.2.2.1, r21.2.2.2.1, r21.2.2.2.2)) (W1 := fun u => wX4 a0 g v0_values_marks v0_values_weights v0_values_places v0_values_aboves v0_values_belows v0_values_reduced_above v0_values_reduced_below v0_values_papers u.1 u.2.1 u.2.2.1 u.2.2.2.1 u.2.2.2.2 v0_loss) hx hb hr hlocks hS hP hD (hf0.trans hf.symm) dX4_mergeAll_59
set_option maxHeartbeats 4000000 in
set_option maxRecDepth 100000 in
theorem c_X4_layByMeans (l : Launch) (g : GG) (a0 : Nat → Nat) (v0_values_marks : (Nat → Int32)) (v0_values_weights : (Nat → Int32)) (v0_values_places : (Nat → Int32)) (v0_values_aboves : (Nat → Int32)) (v0_values_belows : (Nat → Int32)) (v0_values_reduced_above : Int64) (v0_values_reduced_below : Int64) (v0_values_papers : Int32) (v0_blocks : (Nat → Int32)) (v0_tops : (Nat → Int32)) (v0_bottoms : (Nat → Int32)) (v0_blocksNow : Int32) (v0_mergesDone : Int32) (v0_loss : Int32) (p1 : Int32) (hne : (m_X4_layByMeans ((v0_values_marks, v0_values_weights, v0_values_places, v0_values_aboves, v0_values_belows, (v0_values_reduced_above, v0_values_reduced_below), v0_values_papers), v0_blocks, v0_tops, v0_bottoms, v0_blocksNow, v0_mergesDone, v0_loss) p1) ≠ none) : Ct l g yX4_layByMeans cX4_layByMeans 14 none ({ frames := 4, cells := 0, slots := 0, locals := 91 } : Room) [.ref (a0 0), .int p1] (wX4 a0 g v0_values_marks v0_values_weights v0_values_places v0_values_aboves v0_values_belows v0_values_reduced_above v0_values_reduced_below v0_values_papers v0_blocks v0_tops v0_bottoms v0_blocksNow v0_mergesDone v0_loss) (Qv g (m_X4_layByMeans ((v0_values_marks, v0_values_weights, v0_values_places, v0_values_aboves, v0_values_belows, (v0_values_reduced_above, v0_values_reduced_below), v0_values_papers), v0_blocks, v0_tops, v0_bottoms, v0_blocksNow, v0_mergesDone, v0_loss) p1) (fun u => wX4 a0 g v0_values_marks v0_values_weights v0_values_places u.1 u.2.1 u.2.2.1 u.2.2.2 v0_values_papers v0_blocks v0_tops v0_bottoms v0_blocksNow v0_mergesDone v0_loss)) 0 0 := by
  obtain ⟨out, hf⟩ := ne_ex hne
  have hf0 := hf
  refine Ct.of (own := RX4) (by decide +kernel) rfl (Nat.le_of_ble_eq_true rfl) ?_
  intro p e s m below meth c hx hb hr hml hown hts hlocks hin hK A H locs hA hP hD hS hE ls hl
  have hl : lv_has ls 14 [(0, .ref (a0 0)), (1, .int p1)] := hl
  unfold m_X4_layByMeans at hf
  refine lv_aload_n hx hb dX4_layByMeans_0 rfl (lv_at hl 0 rfl) ?_
  refine va_get (D := g.1) (ci := 5) (v := .ref (a0 15)) (C := RX4) (T := TX4) (N := 7) hx hb hts layX4 hown hK.1 hP 0 rfl rfl 2 (by decide) (hts _ kw170) (fun _ h9 => h9) rfl dX4_layByMeans_1 ?_
  refine lv_iload_n hx hb dX4_layByMeans_4 rfl (lv_at hl 1 rfl) ?_
  refine cIp hP hD hS hA hE (fun hPc hDc hSc => rV (As := [.int p1]) (rest := []) hx hb hml hown hts hK (c_X2_get l g (fun i => a0 (i + 15)) 7 v0_tops p1 (bnd_ne hf)) svV_X2_get kw724 rfl rfl hPc hDc hSc rfl rfl hl.1 (Nat.le_of_ble_eq_true rfl) dX4_layByMeans_5 ⟨Nat.le_of_ble_eq_true rfl, Nat.le_of_ble_eq_true rfl, rfl, rfl, Nat.le_of_ble_eq_true rfl, Nat.le_of_ble_eq_true rfl⟩) [(15, 2)] rfl rfl rfl (fun x1 H locs ex1 nx1 hP hS => ?_)
  have hf := bnd_of hf ex1
  refine lv_i2l (v := x1.toInt64) hx hb dX4_layByMeans_8 rfl ?_
  refine lv_lstore_n (lv' := [(2, .long x1.toInt64), (0, .ref (a0 0)), (1, .int p1)]) hx hb dX4_layByMeans_9 rfl hl (by decide) rfl (fun ls hl => ?_)
  refine lv_aload_n hx hb dX4_layByMeans_10 rfl (lv_at hl 1 rfl) ?_
  refine va_get (D := g.1) (ci := 5) (v := .ref (a0 17)) (C := RX4) (T := TX4) (N := 7) hx hb hts layX4 hown hK.1 hP 0 rfl rfl 3 (by decide) (hts _ kw171) (fun _ h9 => h9) rfl dX4_layByMeans_11 ?_
  refine lv_iload_n hx hb dX4_layByMeans_14 rfl (lv_at hl 2 rfl) ?_
  refine cIp hP hD hS hA hE (fun hPc hDc hSc => rV (As := [.int p1]) (rest := []) hx hb hml hown hts hK (c_X2_get l g (fun i => a0 (i + 17)) 7 v0_bottoms p1 (bnd_ne hf)) svV_X2_get kw724 rfl rfl hPc hDc hSc rfl rfl hl.1 (Nat.le_of_ble_eq_true rfl) dX4_layByMeans_15 ⟨Nat.le_of_ble_eq_true rfl, Nat.le_of_ble_eq_true rfl, rfl, rfl, Nat.le_of_ble_eq_true rfl, Nat.le_of_ble_eq_true rfl⟩) [(17, 2)] rfl rfl rfl (fun x2 H locs ex2 nx2 hP hS => ?_)
  have hf := bnd_of hf ex2
  refine lv_i2l (v := x2.toInt64) hx hb dX4_layByMeans_18 rfl ?_
  refine lv_lstore (lv' := [(4, .long x2.toInt64), (2, .long x1.toInt64), (0, .ref (a0 0)), (1, .int p1)]) hx hb dX4_layByMeans_19 hl (by decide) rfl (fun ls hl => ?_)
  refine lv_iconst (v := 0) hx hb dX4_layByMeans_21 (by decide) ?_
  refine lv_istore (lv' := [(6, .int (0 : Int32)), (4, .long x2.toInt64), (2, .long x1.toInt64), (0, .ref (a0 0)), (1, .int p1)]) hx hb dX4_layByMeans_22 hl (by decide) rfl (fun ls hl => ?_)
  obtain ⟨r28, er28, hf⟩ := bnd hf
  refine lp_W (P := fun z => ∀ (H : Heap) (locs : List Loc) (ls : Array Slot), va_P g.1 vwCl (wX4 a0 g v0_values_marks v0_values_weights v0_values_places z.2.1 z.2.2.1 z.2.2.2.1 z.2.2.2.2 v0_values_papers v0_blocks v0_tops v0_bottoms v0_blocksNow v0_mergesDone v0_loss) H → va_D A (wX4 a0 g v0_values_marks v0_values_weights v0_values_places z.2.1 z.2.2.1 z.2.2.2.1 z.2.2.2.2 v0_values_papers v0_blocks v0_tops v0_bottoms v0_blocksNow v0_mergesDone v0_loss) → va_S A s.heap H locs → lv_has ls 14 [(0, .ref (a0 0)), (1, .int p1), (2, .long x1.toInt64), (4, .long x2.toInt64), (6, .int z.1)] → W p l e { frames := 4, cells := 0, slots := 0, locals := 91 } s m [.ref (a0 0), .int p1].toArray below meth c H locs 0 0 (MQ below (Qv g (m_X4_layByMeans ((v0_values_marks, v0_values_weights, v0_values_places, v0_values_aboves, v0_values_belows, (v0_values_reduced_above, v0_values_reduced_below), v0_values_papers), v0_blocks, v0_tops, v0_bottoms, v0_blocksNow, v0_mergesDone, v0_loss) p1) (fun u => wX4 a0 g v0_values_marks v0_values_weights v0_values_places u.1 u.2.1 u.2.2.1 u.2.2.2 v0_values_papers v0_blocks v0_tops v0_bottoms v0_blocksNow v0_mergesDone v0_loss) A) [.ref (a0 0), .int p1].toArray s 0 0 A) (F0 m 24 ls [])) (E := fun r28 => ∀ (H : Heap) (locs : List Loc) (ls : Array Slot), va_P g.1 vwCl (wX4 a0 g v0_values_marks v0_values_weights v0_values_places r28.1 r28.2.1 r28.2.2.1 r28.2.2.2 v0_values_papers v0_blocks v0_tops v0_bottoms v0_blocksNow v0_mergesDone v0_loss) H → va_D A (wX4 a0 g v0_values_marks v0_values_weights v0_values_places r28.1 r28.2.1 r28.2.2.1 r28.2.2.2 v0_values_papers v0_blocks v0_tops v0_bottoms v0_blocksNow v0_mergesDone v0_loss) → va_S A s.heap H locs → lv_has ls 14 [] → W p l e { frames := 4, cells := 0, slots := 0, locals := 91 } s m [.ref (a0 0), .int p1].toArray below meth c H locs 0 0 (MQ below (Qv g (m_X4_layByMeans ((v0_values_marks, v0_values_weights, v0_values_places, v0_values_aboves, v0_values_belows, (v0_values_reduced_above, v0_values_reduced_below), v0_values_papers), v0_blocks, v0_tops, v0_bottoms, v0_blocksNow, v0_mergesDone, v0_loss) p1) (fun u => wX4 a0 g v0_values_marks v0_values_weights v0_values_places u.1 u.2.1 u.2.2.1 u.2.2.2 v0_values_papers v0_blocks v0_tops v0_bottoms v0_blocksNow v0_mergesDone v0_loss) A) [.ref (a0 0), .int p1].toArray s 0 0 A) (F0 m 138 ls [])) ?_ fu _ r28 er28 ?_ _ _ _ hP hD hS (lv_sub hl [3, 4, 2, 1, 0] rfl)
  · rintro ⟨x13, x14, x15, x16, x17⟩ y hf hB hXt H locs ls hP hD hS hl
    have hP : va_P g.1 vwCl (wX4 a0 g v0_values_marks v0_values_weights v0_values_places x14 x15 x16 x17 v0_values_papers v0_blocks v0_tops v0_bottoms v0_blocksNow v0_mergesDone v0_loss) H := hP
    have hD : va_D A (wX4 a0 g v0_values_marks v0_values_weights v0_values_places x14 x15 x16 x17 v0_values_papers v0_blocks v0_tops v0_bottoms v0_blocksNow v0_mergesDone v0_loss) := hD
    have hl : lv_has ls 14 [(0, .ref (a0 0)), (1, .int p1), (2, .long x1.toInt64), (4, .long x2.toInt64), (6, .int x13)] := hl
    have hf : m_X4_layByMeans_l24 ((v0_values_marks, v0_values_weights, v0_values_places, v0_values_aboves, v0_values_belows, (v0_values_reduced_above, v0_values_reduced_below), v0_values_papers), v0_blocks, v0_tops, v0_bottoms, v0_blocksNow, v0_mergesDone, v0_loss) p1 x1 x2 x13 x14 x15 x16 x17 = some y := hf
    unfold m_X4_layByMeans_l24 at hf
    refine lv_iload hx hb dX4_layByMeans_24 (lv_at hl 4 rfl) ?_
    refine lv_aload_n hx hb dX4_layByMeans_26 rfl (lv_at hl 0 rfl) ?_
    refine va_get (D := g.1) (ci := 5) (v := .ref (a0 1)) (C := RX4) (T := TX4) (N := 7) hx hb hts layX4 hown hK.1 hP 0 rfl rfl 0 (by decide) (hts _ kw168) (fun _ h9 => h9) rfl dX4_layByMeans_27 ?_
    refine cIp hP hD hS hA hE (fun hPc hDc hSc => rV (As := []) (rest := [.int x13]) hx hb hml hown hts hK (c_X8_paperCount l g (fun i => a0 (i + 1)) v0_values_marks v0_values_weights v0_values_places x14 x15 x16 x17 v0_values_papers (bnd_ne hf)) svV_X8_paperCount kw684 rfl rfl hPc hDc hSc rfl rfl hl.1 (Nat.le_of_ble_eq_true rfl) dX4_layByMeans_30 ⟨Nat.le_of_ble_eq_true rfl, Nat.le_of_ble_eq_true rfl, rfl, rfl, Nat.le_of_ble_eq_true rfl, Nat.le_of_ble_eq_true rfl⟩) [(1, 12)] rfl rfl rfl (fun x18 H locs ex18 nx18 hP hS => ?_)
    have hf := bnd_of hf ex18
    refine lv_icmp_ge (tgt := 138) hx hb dX4_layByMeans_33 (by decide) (fun cb => ?_) (fun cb => ?_)
    · have hf := it_t cb hf
      exact hXt _ (Option.some.inj hf).symm _ _ _ hP hD hS (lv_sub hl [] rfl)
    have hf := it_f cb hf
    refine lv_aload_n hx hb dX4_layByMeans_36 rfl (lv_at hl 0 rfl) ?_
    refine va_get (D := g.1) (ci := 5) (v := .ref (a0 13)) (C := RX4) (T := TX4) (N := 7) hx hb hts layX4 hown hK.1 hP 0 rfl rfl 1 (by decide) (hts _ kw169) (fun _ h9 => h9) rfl dX4_layByMeans_37 ?_
    refine lv_iload_n hx hb dX4_layByMeans_40 rfl (lv_at hl 1 rfl) ?_
    refine cIp hP hD hS hA hE (fun hPc hDc hSc => rV (As := [.int p1]) (rest := []) hx hb hml hown hts hK (c_X2_get l g (fun i => a0 (i + 13)) 7 v0_blocks p1 (bnd_ne hf)) svV_X2_get kw724 rfl rfl hPc hDc hSc rfl rfl hl.1 (Nat.le_of_ble_eq_true rfl) dX4_layByMeans_41 ⟨Nat.le_of_ble_eq_true rfl, Nat.le_of_ble_eq_true rfl, rfl, rfl, Nat.le_of_ble_eq_true rfl, Nat.le_of_ble_eq_true rfl⟩) [(13, 2)] rfl rfl rfl (fun x19 H locs ex19 nx19 hP hS => ?_)
    have hf := bnd_of hf ex19
    refine lv_iload hx hb dX4_layByMeans_44 (lv_at hl 4 rfl) ?_
    refine cIp hP hD hS hA hE (fun hPc hDc hSc => rSN (As := [.int x19, .int x13]) (rest := []) hx hb hml hown hts hK (c_X9_hasBit l g x19 x13 (bnd_ne hf)) svS_X9_hasBit nw15 hPc hDc hSc rfl rfl hl.1 (Nat.le_of_ble_eq_true rfl) dX4_layByMeans_46 ⟨Nat.le_of_ble_eq_true rfl, Nat.le_of_ble_eq_true rfl, rfl, rfl, Nat.le_of_ble_eq_true rfl, Nat.le_of_ble_eq_true rfl⟩) [] rfl rfl rfl (fun x20 H locs ex20 nx20 hP hS => ?_)
    have hf := bnd_of hf ex20
    refine lv_if_eq (tgt := 132) hx hb dX4_layByMeans_49 (by decide) (fun cb => ?_) (fun cb => ?_)
    · have hf := it_t cb hf
      refine lv_iinc (v := (x13 + 1)) (lv' := [(6, .int (x13 + 1)), (0, .ref (a0 0)), (1, .int p1), (2, .long x1.toInt64), (4, .long x2.toInt64)]) hx hb dX4_layByMeans_132 hl (k := 4) rfl (by rfl) (by decide) rfl (fun ls hl => ?_)
      refine lv_goto (tgt := 24) hx hb dX4_layByMeans_135 (by decide) ?_
      exact hB _ (Option.some.inj hf).symm _ _ _ hP hD hS (lv_sub hl [1, 2, 3, 4, 0] rfl)
    have hf := it_f cb hf
    refine lv_aload_n hx hb dX4_layByMeans_52 rfl (lv_at hl 0 rfl) ?_
    refine va_get (D := g.1) (ci := 5) (v := .ref (a0 1)) (C := RX4) (T := TX4) (N := 7) hx hb hts layX4 hown hK.1 hP 0 rfl rfl 0 (by decide) (hts _ kw168) (fun _ h9 => h9) rfl dX4_layByMeans_53 ?_
    refine lv_aload_n hx hb dX4_layByMeans_56 rfl (lv_at hl 0 rfl) ?_
    refine va_get (D := g.1) (ci := 5) (v := .ref (a0 1)) (C := RX4) (T := TX4) (N := 7) hx hb hts layX4 hown hK.1 hP 0 rfl rfl 0 (by decide) (hts _ kw168) (fun _ h9 => h9) rfl dX4_layByMeans_57 ?_
    refine lv_iload hx hb dX4_layByMeans_60 (lv_at hl 4 rfl) ?_
    refine cIp hP hD hS hA hE (fun hPc hDc hSc => rV (As := [.int x13]) (rest := [.ref (a0 1)]) hx hb hml hown hts hK (c_X8_placeAt l g (fun i => a0 (i + 1)) v0_values_marks v0_values_weights v0_values_places x14 x15 x16 x17 v0_values_papers x13 (bnd_ne hf)) svV_X8_placeAt kw694 rfl rfl hPc hDc hSc rfl rfl hl.1 (Nat.le_of_ble_eq_true rfl) dX4_layByMeans_62 ⟨Nat.le_of_ble_eq_true rfl, Nat.le_of_ble_eq_true rfl, rfl, rfl, Nat.le_of_ble_eq_true rfl, Nat.le_of_ble_eq_true rfl⟩) [(1, 12)] rfl rfl rfl (fun x21 H locs ex21 nx21 hP hS => ?_)
    have hf := bnd_of hf ex21
    refine cIp hP hD hS hA hE (fun hPc hDc hSc => rV (As := [.int x21]) (rest := []) hx hb hml hown hts hK (c_X8_papersAt l g (fun i => a0 (i + 1)) v0_values_marks v0_values_weights v0_values_places x14 x15 x16 x17 v0_values_papers x21 (bnd_ne hf)) svV_X8_papersAt kw714 rfl rfl hPc hDc hSc rfl rfl hl.1 (Nat.le_of_ble_eq_true rfl) dX4_layByMeans_65 ⟨Nat.le_of_ble_eq_true rfl, Nat.le_of_ble_eq_true rfl, rfl, rfl, Nat.le_of_ble_eq_true rfl, Nat.le_of_ble_eq_true rfl⟩) [(1, 12)] rfl rfl rfl (fun x22 H locs ex22 nx22 hP hS => ?_)
    have hf := bnd_of hf ex22
    refine lv_istore (lv' := [(7, .int x22), (0, .ref (a0 0)), (1, .int p1), (2, .long x1.toInt64), (4, .long x2.toInt64), (6, .int x13)]) hx hb dX4_layByMeans_68 hl (by decide) rfl (fun ls hl => ?_)
    refine lv_aload_n hx hb dX4_layByMeans_70 rfl (lv_at hl 1 rfl) ?_
    refine lv_iload hx hb dX4_layByMeans_71 (lv_at hl 0 rfl) ?_
    refine cIp hP hD hS hA hE (fun hPc hDc hSc => rV (As := [.int x22]) (rest := []) hx hb hml hown hts hK (c_X4_numberTop l g a0 v0_values_marks v0_values_weights v0_values_places x14 x15 x16 x17 v0_values_papers v0_blocks v0_tops v0_bottoms v0_blocksNow v0_mergesDone v0_loss x22 (bnd_ne hf)) svV_X4_numberTop kw725 rfl rfl hPc hDc hSc rfl rfl hl.1 (Nat.le_of_ble_eq_true rfl) dX4_layByMeans_73 ⟨Nat.le_of_ble_eq_true rfl, Nat.le_of_ble_eq_true rfl, rfl, rfl, Nat.le_of_ble_eq_true rfl, Nat.le_of_ble_eq_true rfl⟩) [(0, 19)] rfl rfl rfl (fun x23 H locs ex23 nx23 hP hS => ?_)
    have hf := bnd_of hf ex23
    refine lv_i2l (v := x23.toInt64) hx hb dX4_layByMeans_76 rfl ?_
    refine lv_lstore (lv' := [(8, .long x23.toInt64), (7, .int x22), (0, .ref (a0 0)), (1, .int p1), (2, .long x1.toInt64), (4, .long x2.toInt64), (6, .int x13)]) hx hb dX4_layByMeans_77 hl (by decide) rfl (fun ls hl => ?_)
    refine lv_aload_n hx hb dX4_layByMeans_79 rfl (lv_at hl 2 rfl) ?_
    refine lv_iload hx hb dX4_layByMeans_80 (lv_at hl 1 rfl) ?_
    refine cIp hP hD hS hA hE (fun hPc hDc hSc => rV (As := [.int x22]) (rest := []) hx hb hml hown hts hK (c_X4_numberBottom l g a0 v0_values_marks v0_values_weights v0_values_places x14 x15 x16 x17 v0_values_papers v0_blocks v0_tops v0_bottoms v0_blocksNow v0_mergesDone v0_loss x22 (bnd_ne hf)) svV_X4_numberBottom kw744 rfl rfl hPc hDc hSc rfl rfl hl.1 (Nat.le_of_ble_eq_true rfl) dX4_layByMeans_82 ⟨Nat.le_of_ble_eq_true rfl, Nat.le_of_ble_eq_true rfl, rfl, rfl, Nat.le_of_ble_eq_true rfl, Nat.le_of_ble_eq_true rfl⟩) [(0, 19)] rfl rfl rfl (fun x24 H locs ex24 nx24 hP hS => ?_)
    have hf := bnd_of hf ex24
    refine lv_i2l (v := x24.toInt64) hx hb dX4_layByMeans_85 rfl ?_
    refine lv_lstore (lv' := [(10, .long x24.toInt64), (8, .long x23.toInt64), (7, .int x22), (0, .ref (a0 0)), (1, .int p1), (2, .long x1.toInt64), (4, .long x2.toInt64), (6, .int x13)]) hx hb dX4_layByMeans_86 hl (by decide) rfl (fun ls hl => ?_)
    refine lv_aload_n hx hb dX4_layByMeans_88 rfl (lv_at hl 3 rfl) ?_
    refine va_get (D := g.1) (ci := 5) (v := .ref (a0 1)) (C := RX4) (T := TX4) (N := 7) hx hb hts layX4 hown hK.1 hP 0 rfl rfl 0 (by decide) (hts _ kw168) (fun _ h9 => h9) rfl dX4_layByMeans_89 ?_
    refine lv_iload hx hb dX4_layByMeans_92 (lv_at hl 7 rfl) ?_
    refine cIp hP hD hS hA hE (fun hPc hDc hSc => rV (As := [.int x13]) (rest := []) hx hb hml hown hts hK (c_X8_markAt l g (fun i => a0 (i + 1)) v0_values_marks v0_values_weights v0_values_places x14 x15 x16 x17 v0_values_papers x13 (bnd_ne hf)) svV_X8_markAt kw702 rfl rfl hPc hDc hSc rfl rfl hl.1 (Nat.le_of_ble_eq_true rfl) dX4_layByMeans_94 ⟨Nat.le_of_ble_eq_true rfl, Nat.le_of_ble_eq_true rfl, rfl, rfl, Nat.le_of_ble_eq_true rfl, Nat.le_of_ble_eq_true rfl⟩) [(1, 12)] rfl rfl rfl (fun x25 H locs ex25 nx25 hP hS => ?_)
    have hf := bnd_of hf ex25
    refine lv_i2l (v := x25.toInt64) hx hb dX4_layByMeans_97 rfl ?_
    refine lv_lload hx hb dX4_layByMeans_98 (lv_at hl 6 rfl) ?_
    refine lv_lmul hx hb dX4_layByMeans_100 ?_
    refine lv_lload_n hx hb dX4_layByMeans_101 rfl (lv_at hl 5 rfl) ?_
    refine lv_ladd hx hb dX4_layByMeans_102 ?_
    refine lv_lload hx hb dX4_layByMeans_103 (lv_at hl 0 rfl) ?_
    refine lv_lmul hx hb dX4_layByMeans_105 ?_
    refine lv_lload hx hb dX4_layByMeans_106 (lv_at hl 1 rfl) ?_
    refine lv_lload hx hb dX4_layByMeans_108 (lv_at hl 6 rfl) ?_
    refine lv_lmul hx hb dX4_layByMeans_110 ?_
    refine lv_lsub hx hb dX4_layByMeans_111 ?_
    obtain ⟨x26, ex26, hf⟩ := bnd hf
    refine nmL (Option.some.inj ex26) ?_
    refine lv_lstore (lv' := [(12, .long x26), (10, .long x24.toInt64), (8, .long x23.toInt64), (7, .int x22), (0, .ref (a0 0)), (1, .int p1), (2, .long x1.toInt64), (4, .long x2.toInt64), (6, .int x13)]) hx hb dX4_layByMeans_112 hl (by decide) rfl (fun ls hl => ?_)
    refine lv_aload_n hx hb dX4_layByMeans_114 rfl (lv_at hl 4 rfl) ?_
    refine va_get (D := g.1) (ci := 5) (v := .ref (a0 1)) (C := RX4) (T := TX4) (N := 7) hx hb hts layX4 hown hK.1 hP 0 rfl rfl 0 (by decide) (hts _ kw168) (fun _ h9 => h9) rfl dX4_layByMeans_115 ?_
    refine lv_iconst (v := 1) hx hb dX4_layByMeans_118 (by decide) ?_
    refine lv_iload hx hb dX4_layByMeans_119 (lv_at hl 8 rfl) ?_
    refine lv_ishl hx hb dX4_layByMeans_121 ?_
    refine lv_lload hx hb dX4_layByMeans_122 (lv_at hl 0 rfl) ?_
    refine lv_lload hx hb dX4_layByMeans_124 (lv_at hl 7 rfl) ?_
    refine lv_lload hx hb dX4_layByMeans_126 (lv_at hl 1 rfl) ?_
    refine lv_lmul hx hb dX4_layByMeans_128 ?_
    refine cV hP hD hS hA hE (fun hPc hDc hSc => rV (As := [.int ((1 : Int32) <<< (x13 &&& 31)), .long x26, .long (x2.toInt64 * x24.toInt64)]) (rest := []) hx hb hml hown hts hK (c_X8_lay l g (fun i => a0 (i + 1)) v0_values_marks v0_values_weights v0_values_places x14 x15 x16 x17 v0_values_papers ((1 : Int32) <<< (x13 &&& 31)) x26 (x2.toInt64 * x24.toInt64) (bnd_ne hf)) svV_X8_lay kw762 rfl rfl hPc hDc hSc rfl rfl hl.1 (Nat.le_of_ble_eq_true rfl) dX4_layByMeans_129 ⟨Nat.le_of_ble_eq_true rfl, Nat.le_of_ble_eq_true rfl, rfl, rfl, Nat.le_of_ble_eq_true rfl, Nat.le_of_ble_eq_true rfl⟩) [(1, 12)] rfl rfl rfl (fun _ => rfl) (fun x27 H locs ex27 hP hD hS => ?_)
    have hf := bnd_of hf ex27
    have hP : va_P g.1 vwCl (wX4 a0 g v0_values_marks v0_values_weights v0_values_places x27.1 x27.2.1 x27.2.2.1 x27.2.2.2 v0_values_papers v0_blocks v0_tops v0_bottoms v0_blocksNow v0_mergesDone v0_loss) H := hP
    have hD : va_D A (wX4 a0 g v0_values_marks v0_values_weights v0_values_places x27.1 x27.2.1 x27.2.2.1 x27.2.2.2 v0_values_papers v0_blocks v0_tops v0_bottoms v0_blocksNow v0_mergesDone v0_loss) := hD
    refine lv_iinc (v := (x13 + 1)) (lv' := [(6, .int (x13 + 1)), (12, .long x26), (10, .long x24.toInt64), (8, .long x23.toInt64), (7, .int x22), (0, .ref (a0 0)), (1, .int p1), (2, .long x1.toInt64), (4, .long x2.toInt64)]) hx hb dX4_layByMeans_132 hl (k := 8) rfl (by rfl) (by decide) rfl (fun ls hl => ?_)
    refine lv_goto (tgt := 24) hx hb dX4_layByMeans_135 (by decide) ?_
    exact hB _ (Option.some.inj hf).symm _ _ _ hP hD hS (lv_sub hl [5, 6, 7, 8, 0] rfl)
  intro H locs ls hP hD hS hl
  have hP : va_P g.1 vwCl (wX4 a0 g v0_values_marks v0_values_weights v0_values_places r28.1 r28.2.1 r28.2.2.1 r28.2.2.2 v0_values_papers v0_blocks v0_tops v0_bottoms v0_blocksNow v0_mergesDone v0_loss) H := hP
  have hD : va_D A (wX4 a0 g v0_values_marks v0_values_weights v0_values_places r28.1 r28.2.1 r28.2.2.1 r28.2.2.2 v0_values_papers v0_blocks v0_tops v0_bottoms v0_blocksNow v0_mergesDone v0_loss) := hD
  have hl : lv_has ls 14 [] := hl
  exact retV (u := (r28.1, r28.2.1, r28.2.2.1, r28.2.2.2)) (W1 := fun u => wX4 a0 g v0_values_marks v0_values_weights v0_values_places u.1 u.2.1 u.2.2.1 u.2.2.2 v0_values_papers v0_blocks v0_tops v0_bottoms v0_blocksNow v0_mergesDone v0_loss) hx hb hr hlocks hS hP hD (hf0.trans hf.symm) dX4_layByMeans_138
set_option maxHeartbeats 4000000 in
set_option maxRecDepth 100000 in
theorem c_X4_layAll (l : Launch) (g : GG) (a0 : Nat → Nat) (v0_values_marks : (Nat → Int32)) (v0_values_weights : (Nat → Int32)) (v0_values_places : (Nat → Int32)) (v0_values_aboves : (Nat → Int32)) (v0_values_belows : (Nat → Int32)) (v0_values_reduced_above : Int64) (v0_values_reduced_below : Int64) (v0_values_papers : Int32) (v0_blocks : (Nat → Int32)) (v0_tops : (Nat → Int32)) (v0_bottoms : (Nat → Int32)) (v0_blocksNow : Int32) (v0_mergesDone : Int32) (v0_loss : Int32) (p1 : Int32) (hne : (m_X4_layAll ((v0_values_marks, v0_values_weights, v0_values_places, v0_values_aboves, v0_values_belows, (v0_values_reduced_above, v0_values_reduced_below), v0_values_papers), v0_blocks, v0_tops, v0_bottoms, v0_blocksNow, v0_mergesDone, v0_loss) p1) ≠ none) : Ct l g yX4_layAll cX4_layAll 3 none ({ frames := 5, cells := 0, slots := 0, locals := 124 } : Room) [.ref (a0 0), .int p1] (wX4 a0 g v0_values_marks v0_values_weights v0_values_places v0_values_aboves v0_values_belows v0_values_reduced_above v0_values_reduced_below v0_values_papers v0_blocks v0_tops v0_bottoms v0_blocksNow v0_mergesDone v0_loss) (Qv g (m_X4_layAll ((v0_values_marks, v0_values_weights, v0_values_places, v0_values_aboves, v0_values_belows, (v0_values_reduced_above, v0_values_reduced_below), v0_values_papers), v0_blocks, v0_tops, v0_bottoms, v0_blocksNow, v0_mergesDone, v0_loss) p1) (fun u => wX4 a0 g v0_values_marks v0_values_weights v0_values_places u.1 u.2.1 u.2.2.1 u.2.2.2 v0_values_papers v0_blocks v0_tops v0_bottoms v0_blocksNow v0_mergesDone v0_loss)) 0 0 := by
  obtain ⟨out, hf⟩ := ne_ex hne
  have hf0 := hf
  refine Ct.of (own := RX4) (by decide +kernel) rfl (Nat.le_of_ble_eq_true rfl) ?_
  intro p e s m below meth c hx hb hr hml hown hts hlocks hin hK A H locs hA hP hD hS hE ls hl
  have hl : lv_has ls 3 [(0, .ref (a0 0)), (1, .int p1)] := hl
  unfold m_X4_layAll at hf
  refine lv_iconst (v := 0) hx hb dX4_layAll_0 (by decide) ?_
  refine lv_istore_n (lv' := [(2, .int (0 : Int32)), (0, .ref (a0 0)), (1, .int p1)]) hx hb dX4_layAll_1 rfl hl (by decide) rfl (fun ls hl => ?_)
  obtain ⟨r16, er16, hf⟩ := bnd hf
  refine lp_W (P := fun z => ∀ (H : Heap) (locs : List Loc) (ls : Array Slot), va_P g.1 vwCl (wX4 a0 g v0_values_marks v0_values_weights v0_values_places z.2.1 z.2.2.1 z.2.2.2.1 z.2.2.2.2 v0_values_papers v0_blocks v0_tops v0_bottoms v0_blocksNow v0_mergesDone v0_loss) H → va_D A (wX4 a0 g v0_values_marks v0_values_weights v0_values_places z.2.1 z.2.2.1 z.2.2.2.1 z.2.2.2.2 v0_values_papers v0_blocks v0_tops v0_bottoms v0_blocksNow v0_mergesDone v0_loss) → va_S A s.heap H locs → lv_has ls 3 [(0, .ref (a0 0)), (1, .int p1), (2, .int z.1)] → W p l e { frames := 5, cells := 0, slots := 0, locals := 124 } s m [.ref (a0 0), .int p1].toArray below meth c H locs 0 0 (MQ below (Qv g (m_X4_layAll ((v0_values_marks, v0_values_weights, v0_values_places, v0_values_aboves, v0_values_belows, (v0_values_reduced_above, v0_values_reduced_below), v0_values_papers), v0_blocks, v0_tops, v0_bottoms, v0_blocksNow, v0_mergesDone, v0_loss) p1) (fun u => wX4 a0 g v0_values_marks v0_values_weights v0_values_places u.1 u.2.1 u.2.2.1 u.2.2.2 v0_values_papers v0_blocks v0_tops v0_bottoms v0_blocksNow v0_mergesDone v0_loss) A) [.ref (a0 0), .int p1].toArray s 0 0 A) (F0 m 2 ls [])) (E := fun r16 => ∀ (H : Heap) (locs : List Loc) (ls : Array Slot), va_P g.1 vwCl (wX4 a0 g v0_values_marks v0_values_weights v0_values_places r16.1 r16.2.1 r16.2.2.1 r16.2.2.2 v0_values_papers v0_blocks v0_tops v0_bottoms v0_blocksNow v0_mergesDone v0_loss) H → va_D A (wX4 a0 g v0_values_marks v0_values_weights v0_values_places r16.1 r16.2.1 r16.2.2.1 r16.2.2.2 v0_values_papers v0_blocks v0_tops v0_bottoms v0_blocksNow v0_mergesDone v0_loss) → va_S A s.heap H locs → lv_has ls 3 [] → W p l e { frames := 5, cells := 0, slots := 0, locals := 124 } s m [.ref (a0 0), .int p1].toArray below meth c H locs 0 0 (MQ below (Qv g (m_X4_layAll ((v0_values_marks, v0_values_weights, v0_values_places, v0_values_aboves, v0_values_belows, (v0_values_reduced_above, v0_values_reduced_below), v0_values_papers), v0_blocks, v0_tops, v0_bottoms, v0_blocksNow, v0_mergesDone, v0_loss) p1) (fun u => wX4 a0 g v0_values_marks v0_values_weights v0_values_places u.1 u.2.1 u.2.2.1 u.2.2.2 v0_values_papers v0_blocks v0_tops v0_bottoms v0_blocksNow v0_mergesDone v0_loss) A) [.ref (a0 0), .int p1].toArray s 0 0 A) (F0 m 61 ls [])) ?_ fu _ r16 er16 ?_ _ _ _ hP hD hS (lv_sub hl [1, 2, 0] rfl)
  · rintro ⟨x6, x7, x8, x9, x10⟩ y hf hB hXt H locs ls hP hD hS hl
    have hP : va_P g.1 vwCl (wX4 a0 g v0_values_marks v0_values_weights v0_values_places x7 x8 x9 x10 v0_values_papers v0_blocks v0_tops v0_bottoms v0_blocksNow v0_mergesDone v0_loss) H := hP
    have hD : va_D A (wX4 a0 g v0_values_marks v0_values_weights v0_values_places x7 x8 x9 x10 v0_values_papers v0_blocks v0_tops v0_bottoms v0_blocksNow v0_mergesDone v0_loss) := hD
    have hl : lv_has ls 3 [(0, .ref (a0 0)), (1, .int p1), (2, .int x6)] := hl
    have hf : m_X4_layAll_l2 ((v0_values_marks, v0_values_weights, v0_values_places, v0_values_aboves, v0_values_belows, (v0_values_reduced_above, v0_values_reduced_below), v0_values_papers), v0_blocks, v0_tops, v0_bottoms, v0_blocksNow, v0_mergesDone, v0_loss) p1 x6 x7 x8 x9 x10 = some y := hf
    unfold m_X4_layAll_l2 at hf
    refine lv_iload_n hx hb dX4_layAll_2 rfl (lv_at hl 2 rfl) ?_
    refine lv_aload_n hx hb dX4_layAll_3 rfl (lv_at hl 0 rfl) ?_
    refine va_get (D := g.1) (ci := 5) (v := .int v0_blocksNow) (C := RX4) (T := TX4) (N := 7) hx hb hts layX4 hown hK.1 hP 0 rfl rfl 4 (by decide) (hts _ kw172) (fun _ h9 => h9) rfl dX4_layAll_4 ?_
    refine lv_icmp_ge (tgt := 61) hx hb dX4_layAll_7 (by decide) (fun cb => ?_) (fun cb => ?_)
    · have hf := it_t cb hf
      exact hXt _ (Option.some.inj hf).symm _ _ _ hP hD hS (lv_sub hl [] rfl)
    have hf := it_f cb hf
    refine lv_iload_n hx hb dX4_layAll_10 rfl (lv_at hl 1 rfl) ?_
    refine lv_if_eq (tgt := 22) hx hb dX4_layAll_11 (by decide) (fun cb => ?_) (fun cb => ?_)
    · have hf := it_t cb hf
      refine lv_aload_n hx hb dX4_layAll_22 rfl (lv_at hl 0 rfl) ?_
      refine va_get (D := g.1) (ci := 5) (v := .ref (a0 1)) (C := RX4) (T := TX4) (N := 7) hx hb hts layX4 hown hK.1 hP 0 rfl rfl 0 (by decide) (hts _ kw168) (fun _ h9 => h9) rfl dX4_layAll_23 ?_
      refine lv_aload_n hx hb dX4_layAll_26 rfl (lv_at hl 0 rfl) ?_
      refine va_get (D := g.1) (ci := 5) (v := .ref (a0 13)) (C := RX4) (T := TX4) (N := 7) hx hb hts layX4 hown hK.1 hP 0 rfl rfl 1 (by decide) (hts _ kw169) (fun _ h9 => h9) rfl dX4_layAll_27 ?_
      refine lv_iload_n hx hb dX4_layAll_30 rfl (lv_at hl 2 rfl) ?_
      refine cIp hP hD hS hA hE (fun hPc hDc hSc => rV (As := [.int x6]) (rest := [.ref (a0 1)]) hx hb hml hown hts hK (c_X2_get l g (fun i => a0 (i + 13)) 7 v0_blocks x6 (bnd_ne hf)) svV_X2_get kw724 rfl rfl hPc hDc hSc rfl rfl hl.1 (Nat.le_of_ble_eq_true rfl) dX4_layAll_31 ⟨Nat.le_of_ble_eq_true rfl, Nat.le_of_ble_eq_true rfl, rfl, rfl, Nat.le_of_ble_eq_true rfl, Nat.le_of_ble_eq_true rfl⟩) [(13, 2)] rfl rfl rfl (fun x11 H locs ex11 nx11 hP hS => ?_)
      have hf := bnd_of hf ex11
      refine lv_aload_n hx hb dX4_layAll_34 rfl (lv_at hl 0 rfl) ?_
      refine va_get (D := g.1) (ci := 5) (v := .ref (a0 15)) (C := RX4) (T := TX4) (N := 7) hx hb hts layX4 hown hK.1 hP 0 rfl rfl 2 (by decide) (hts _ kw170) (fun _ h9 => h9) rfl dX4_layAll_35 ?_
      refine lv_iload_n hx hb dX4_layAll_38 rfl (lv_at hl 2 rfl) ?_
      refine cIp hP hD hS hA hE (fun hPc hDc hSc => rV (As := [.int x6]) (rest := [.int x11, .ref (a0 1)]) hx hb hml hown hts hK (c_X2_get l g (fun i => a0 (i + 15)) 7 v0_tops x6 (bnd_ne hf)) svV_X2_get kw724 rfl rfl hPc hDc hSc rfl rfl hl.1 (Nat.le_of_ble_eq_true rfl) dX4_layAll_39 ⟨Nat.le_of_ble_eq_true rfl, Nat.le_of_ble_eq_true rfl, rfl, rfl, Nat.le_of_ble_eq_true rfl, Nat.le_of_ble_eq_true rfl⟩) [(15, 2)] rfl rfl rfl (fun x12 H locs ex12 nx12 hP hS => ?_)
      have hf := bnd_of hf ex12
      refine lv_i2l (v := x12.toInt64) hx hb dX4_layAll_42 rfl ?_
      refine lv_aload_n hx hb dX4_layAll_43 rfl (lv_at hl 0 rfl) ?_
      refine va_get (D := g.1) (ci := 5) (v := .ref (a0 17)) (C := RX4) (T := TX4) (N := 7) hx hb hts layX4 hown hK.1 hP 0 rfl rfl 3 (by decide) (hts _ kw171) (fun _ h9 => h9) rfl dX4_layAll_44 ?_
      refine lv_iload_n hx hb dX4_layAll_47 rfl (lv_at hl 2 rfl) ?_
      refine cIp hP hD hS hA hE (fun hPc hDc hSc => rV (As := [.int x6]) (rest := [.long x12.toInt64, .int x11, .ref (a0 1)]) hx hb hml hown hts hK (c_X2_get l g (fun i => a0 (i + 17)) 7 v0_bottoms x6 (bnd_ne hf)) svV_X2_get kw724 rfl rfl hPc hDc hSc rfl rfl hl.1 (Nat.le_of_ble_eq_true rfl) dX4_layAll_48 ⟨Nat.le_of_ble_eq_true rfl, Nat.le_of_ble_eq_true rfl, rfl, rfl, Nat.le_of_ble_eq_true rfl, Nat.le_of_ble_eq_true rfl⟩) [(17, 2)] rfl rfl rfl (fun x13 H locs ex13 nx13 hP hS => ?_)
      have hf := bnd_of hf ex13
      refine lv_i2l (v := x13.toInt64) hx hb dX4_layAll_51 rfl ?_
      refine cV hP hD hS hA hE (fun hPc hDc hSc => rV (As := [.int x11, .long x12.toInt64, .long x13.toInt64]) (rest := []) hx hb hml hown hts hK (c_X8_lay l g (fun i => a0 (i + 1)) v0_values_marks v0_values_weights v0_values_places x7 x8 x9 x10 v0_values_papers x11 x12.toInt64 x13.toInt64 (bnd_ne hf)) svV_X8_lay kw762 rfl rfl hPc hDc hSc rfl rfl hl.1 (Nat.le_of_ble_eq_true rfl) dX4_layAll_52 ⟨Nat.le_of_ble_eq_true rfl, Nat.le_of_ble_eq_true rfl, rfl, rfl, Nat.le_of_ble_eq_true rfl, Nat.le_of_ble_eq_true rfl⟩) [(1, 12)] rfl rfl rfl (fun _ => rfl) (fun x14 H locs ex14 hP hD hS => ?_)
      have hf := bnd_of hf ex14
      have hP : va_P g.1 vwCl (wX4 a0 g v0_values_marks v0_values_weights v0_values_places x14.1 x14.2.1 x14.2.2.1 x14.2.2.2 v0_values_papers v0_blocks v0_tops v0_bottoms v0_blocksNow v0_mergesDone v0_loss) H := hP
      have hD : va_D A (wX4 a0 g v0_values_marks v0_values_weights v0_values_places x14.1 x14.2.1 x14.2.2.1 x14.2.2.2 v0_values_papers v0_blocks v0_tops v0_bottoms v0_blocksNow v0_mergesDone v0_loss) := hD
      refine lv_iinc (v := (x6 + 1)) (lv' := [(2, .int (x6 + 1)), (0, .ref (a0 0)), (1, .int p1)]) hx hb dX4_layAll_55 hl (k := 2) rfl (by rfl) (by decide) rfl (fun ls hl => ?_)
      refine lv_goto (tgt := 2) hx hb dX4_layAll_58 (by decide) ?_
      exact hB _ (Option.some.inj hf).symm _ _ _ hP hD hS (lv_sub hl [1, 2, 0] rfl)
    have hf := it_f cb hf
    refine lv_aload_n hx hb dX4_layAll_14 rfl (lv_at hl 0 rfl) ?_
    refine lv_iload_n hx hb dX4_layAll_15 rfl (lv_at hl 2 rfl) ?_
    refine cV hP hD hS hA hE (fun hPc hDc hSc => rV (As := [.int x6]) (rest := []) hx hb hml hown hts hK (c_X4_layByMeans l g a0 v0_values_marks v0_values_weights v0_values_places x7 x8 x9 x10 v0_values_papers v0_blocks v0_tops v0_bottoms v0_blocksNow v0_mergesDone v0_loss x6 (bnd_ne hf)) svV_X4_layByMeans kw759 rfl rfl hPc hDc hSc rfl rfl hl.1 (Nat.le_of_ble_eq_true rfl) dX4_layAll_16 ⟨Nat.le_of_ble_eq_true rfl, Nat.le_of_ble_eq_true rfl, rfl, rfl, Nat.le_of_ble_eq_true rfl, Nat.le_of_ble_eq_true rfl⟩) [(0, 19)] rfl rfl rfl (fun _ => rfl) (fun x15 H locs ex15 hP hD hS => ?_)
    have hf := bnd_of hf ex15
    have hP : va_P g.1 vwCl (wX4 a0 g v0_values_marks v0_values_weights v0_values_places x15.1 x15.2.1 x15.2.2.1 x15.2.2.2 v0_values_papers v0_blocks v0_tops v0_bottoms v0_blocksNow v0_mergesDone v0_loss) H := hP
    have hD : va_D A (wX4 a0 g v0_values_marks v0_values_weights v0_values_places x15.1 x15.2.1 x15.2.2.1 x15.2.2.2 v0_values_papers v0_blocks v0_tops v0_bottoms v0_blocksNow v0_mergesDone v0_loss) := hD
    refine lv_goto (tgt := 55) hx hb dX4_layAll_19 (by decide) ?_
    refine lv_iinc (v := (x6 + 1)) (lv' := [(2, .int (x6 + 1)), (0, .ref (a0 0)), (1, .int p1)]) hx hb dX4_layAll_55 hl (k := 2) rfl (by rfl) (by decide) rfl (fun ls hl => ?_)
    refine lv_goto (tgt := 2) hx hb dX4_layAll_58 (by decide) ?_
    exact hB _ (Option.some.inj hf).symm _ _ _ hP hD hS (lv_sub hl [1, 2, 0] rfl)
  intro H locs ls hP hD hS hl
  have hP : va_P g.1 vwCl (wX4 a0 g v0_values_marks v0_values_weights v0_values_places r16.1 r16.2.1 r16.2.2.1 r16.2.2.2 v0_values_papers v0_blocks v0_tops v0_bottoms v0_blocksNow v0_mergesDone v0_loss) H := hP
  have hD : va_D A (wX4 a0 g v0_values_marks v0_values_weights v0_values_places r16.1 r16.2.1 r16.2.2.1 r16.2.2.2 v0_values_papers v0_blocks v0_tops v0_bottoms v0_blocksNow v0_mergesDone v0_loss) := hD
  have hl : lv_has ls 3 [] := hl
  exact retV (u := (r16.1, r16.2.1, r16.2.2.1, r16.2.2.2)) (W1 := fun u => wX4 a0 g v0_values_marks v0_values_weights v0_values_places u.1 u.2.1 u.2.2.1 u.2.2.2 v0_values_papers v0_blocks v0_tops v0_bottoms v0_blocksNow v0_mergesDone v0_loss) hx hb hr hlocks hS hP hD (hf0.trans hf.symm) dX4_layAll_61
