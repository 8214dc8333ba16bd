theorem svV_X8_doesBind : SV RX8 yX8_doesBind cX8_doesBind 5 (some .boolean) 2 := ⟨kw923, kw1824, kw9, kw924, rfl, by decide, by decide, by decide +kernel⟩
theorem svV_X8_bindingRules : SV RX8 yX8_bindingRules cX8_bindingRules 4 (some .int) 1 := ⟨kw919, kw920, kw9, kw921, rfl, by decide, by decide, by decide +kernel⟩
theorem svV_X8_paperCount : SV RX8 yX8_paperCount cX8_paperCount 1 (some .int) 0 := ⟨kw685, kw686, kw9, kw687, rfl, by decide, by decide, by decide +kernel⟩
theorem svV_X8_weightAt : SV RX8 yX8_weightAt cX8_weightAt 2 (some .int) 1 := ⟨kw872, kw873, kw9, kw874, rfl, by decide, by decide, by decide +kernel⟩
theorem svV_X8_markAt : SV RX8 yX8_markAt cX8_markAt 2 (some .int) 1 := ⟨kw703, kw704, kw9, kw705, rfl, by decide, by decide, by decide +kernel⟩
theorem svV_X5_undersOf : SV RX5 yX5_undersOf cX5_undersOf 2 (some .int) 1 := ⟨kw857, kw858, kw7, kw859, rfl, by decide, by decide, by decide +kernel⟩
theorem svV_X0_isLow : SV RX0 yX0_isLow cX0_isLow 3 (some .boolean) 2 := ⟨kw885, kw1820, kw11, kw886, rfl, by decide, by decide, by decide +kernel⟩
theorem dX8_bindingRules_0 : decode cX8_bindingRules 0 = .ok (.iconst 0, 1) := by decide +kernel
theorem dX8_bindingRules_1 : decode cX8_bindingRules 1 = .ok (.istore_n 2, 1) := by decide +kernel
theorem dX8_bindingRules_2 : decode cX8_bindingRules 2 = .ok (.iconst 0, 1) := by decide +kernel
theorem dX8_bindingRules_3 : decode cX8_bindingRules 3 = .ok (.istore_n 3, 1) := by decide +kernel
theorem dX8_bindingRules_4 : decode cX8_bindingRules 4 = .ok (.iload_n 3, 1) := by decide +kernel
theorem dX8_bindingRules_5 : decode cX8_bindingRules 5 = .ok (.aload_n 1, 1) := by decide +kernel
theorem dX8_bindingRules_6 : decode cX8_bindingRules 6 = .ok (.invokevirtual 74, 3) := by decide +kernel
theorem dX8_bindingRules_9 : decode cX8_bindingRules 9 = .ok (.if_icmp .ge 24, 3) := by decide +kernel
theorem dX8_bindingRules_12 : decode cX8_bindingRules 12 = .ok (.aload_n 0, 1) := by decide +kernel
theorem dX8_bindingRules_13 : decode cX8_bindingRules 13 = .ok (.aload_n 1, 1) := by decide +kernel
theorem dX8_bindingRules_14 : decode cX8_bindingRules 14 = .ok (.iload_n 3, 1) := by decide +kernel
theorem dX8_bindingRules_15 : decode cX8_bindingRules 15 = .ok (.invokevirtual 112, 3) := by decide +kernel
theorem dX8_bindingRules_18 : decode cX8_bindingRules 18 = .ok (.ifCond .eq 9, 3) := by decide +kernel
theorem dX8_bindingRules_27 : decode cX8_bindingRules 27 = .ok (.iinc 3 1, 3) := by decide +kernel
theorem dX8_bindingRules_30 : decode cX8_bindingRules 30 = .ok (.goto (-26), 3) := by decide +kernel
theorem dX8_bindingRules_21 : decode cX8_bindingRules 21 = .ok (.iload_n 2, 1) := by decide +kernel
theorem dX8_bindingRules_22 : decode cX8_bindingRules 22 = .ok (.iconst 1, 1) := by decide +kernel
theorem dX8_bindingRules_23 : decode cX8_bindingRules 23 = .ok (.iload_n 3, 1) := by decide +kernel
theorem dX8_bindingRules_24 : decode cX8_bindingRules 24 = .ok (.ishl, 1) := by decide +kernel
theorem dX8_bindingRules_25 : decode cX8_bindingRules 25 = .ok (.ior, 1) := by decide +kernel
theorem dX8_bindingRules_26 : decode cX8_bindingRules 26 = .ok (.istore_n 2, 1) := by decide +kernel
theorem dX8_bindingRules_33 : decode cX8_bindingRules 33 = .ok (.iload_n 2, 1) := by decide +kernel
theorem dX8_bindingRules_34 : decode cX8_bindingRules 34 = .ok (.ireturn, 1) := by decide +kernel
theorem dX8_poolOf_0 : decode cX8_poolOf 0 = .ok (.aload_n 0, 1) := by decide +kernel
theorem dX8_poolOf_1 : decode cX8_poolOf 1 = .ok (.aload_n 1, 1) := by decide +kernel
theorem dX8_poolOf_2 : decode cX8_poolOf 2 = .ok (.invokevirtual 116, 3) := by decide +kernel
theorem dX8_poolOf_5 : decode cX8_poolOf 5 = .ok (.istore_n 3, 1) := by decide +kernel
theorem dX8_poolOf_6 : decode cX8_poolOf 6 = .ok (.iconst 1, 1) := by decide +kernel
theorem dX8_poolOf_7 : decode cX8_poolOf 7 = .ok (.iload_n 2, 1) := by decide +kernel
theorem dX8_poolOf_8 : decode cX8_poolOf 8 = .ok (.ishl, 1) := by decide +kernel
theorem dX8_poolOf_9 : decode cX8_poolOf 9 = .ok (.istore 4, 2) := by decide +kernel
theorem dX8_poolOf_11 : decode cX8_poolOf 11 = .ok (.iconst 0, 1) := by decide +kernel
theorem dX8_poolOf_12 : decode cX8_poolOf 12 = .ok (.istore 5, 2) := by decide +kernel
theorem dX8_poolOf_14 : decode cX8_poolOf 14 = .ok (.iload 5, 2) := by decide +kernel
theorem dX8_poolOf_16 : decode cX8_poolOf 16 = .ok (.aload_n 0, 1) := by decide +kernel
theorem dX8_poolOf_17 : decode cX8_poolOf 17 = .ok (.getfield 45, 3) := by decide +kernel
theorem dX8_poolOf_20 : decode cX8_poolOf 20 = .ok (.if_icmp .ge 70, 3) := by decide +kernel
theorem dX8_poolOf_23 : decode cX8_poolOf 23 = .ok (.iconst 0, 1) := by decide +kernel
theorem dX8_poolOf_24 : decode cX8_poolOf 24 = .ok (.istore 6, 2) := by decide +kernel
theorem dX8_poolOf_26 : decode cX8_poolOf 26 = .ok (.iload 6, 2) := by decide +kernel
theorem dX8_poolOf_28 : decode cX8_poolOf 28 = .ok (.aload_n 1, 1) := by decide +kernel
theorem dX8_poolOf_29 : decode cX8_poolOf 29 = .ok (.invokevirtual 74, 3) := by decide +kernel
theorem dX8_poolOf_32 : decode cX8_poolOf 32 = .ok (.if_icmp .ge 52, 3) := by decide +kernel
theorem dX8_poolOf_35 : decode cX8_poolOf 35 = .ok (.iconst 1, 1) := by decide +kernel
theorem dX8_poolOf_36 : decode cX8_poolOf 36 = .ok (.aload_n 1, 1) := by decide +kernel
theorem dX8_poolOf_37 : decode cX8_poolOf 37 = .ok (.iload 6, 2) := by decide +kernel
theorem dX8_poolOf_39 : decode cX8_poolOf 39 = .ok (.invokevirtual 77, 3) := by decide +kernel
theorem dX8_poolOf_42 : decode cX8_poolOf 42 = .ok (.ishl, 1) := by decide +kernel
theorem dX8_poolOf_43 : decode cX8_poolOf 43 = .ok (.iconst 1, 1) := by decide +kernel
theorem dX8_poolOf_44 : decode cX8_poolOf 44 = .ok (.aload_n 1, 1) := by decide +kernel
theorem dX8_poolOf_45 : decode cX8_poolOf 45 = .ok (.iload 6, 2) := by decide +kernel
theorem dX8_poolOf_47 : decode cX8_poolOf 47 = .ok (.invokevirtual 80, 3) := by decide +kernel
theorem dX8_poolOf_50 : decode cX8_poolOf 50 = .ok (.ishl, 1) := by decide +kernel
theorem dX8_poolOf_51 : decode cX8_poolOf 51 = .ok (.ior, 1) := by decide +kernel
theorem dX8_poolOf_52 : decode cX8_poolOf 52 = .ok (.istore 7, 2) := by decide +kernel
theorem dX8_poolOf_54 : decode cX8_poolOf 54 = .ok (.iload_n 3, 1) := by decide +kernel
theorem dX8_poolOf_55 : decode cX8_poolOf 55 = .ok (.iload 6, 2) := by decide +kernel
theorem dX8_poolOf_57 : decode cX8_poolOf 57 = .ok (.invokestatic 66, 3) := by decide +kernel
theorem dX8_poolOf_60 : decode cX8_poolOf 60 = .ok (.ifCond .eq 18, 3) := by decide +kernel
theorem dX8_poolOf_78 : decode cX8_poolOf 78 = .ok (.iinc 6 1, 3) := by decide +kernel
theorem dX8_poolOf_81 : decode cX8_poolOf 81 = .ok (.goto (-55), 3) := by decide +kernel
theorem dX8_poolOf_63 : decode cX8_poolOf 63 = .ok (.iload 4, 2) := by decide +kernel
theorem dX8_poolOf_65 : decode cX8_poolOf 65 = .ok (.iload 7, 2) := by decide +kernel
theorem dX8_poolOf_67 : decode cX8_poolOf 67 = .ok (.iand, 1) := by decide +kernel
theorem dX8_poolOf_68 : decode cX8_poolOf 68 = .ok (.ifCond .eq 10, 3) := by decide +kernel
theorem dX8_poolOf_71 : decode cX8_poolOf 71 = .ok (.iload 4, 2) := by decide +kernel
theorem dX8_poolOf_73 : decode cX8_poolOf 73 = .ok (.iload 7, 2) := by decide +kernel
theorem dX8_poolOf_75 : decode cX8_poolOf 75 = .ok (.ior, 1) := by decide +kernel
theorem dX8_poolOf_76 : decode cX8_poolOf 76 = .ok (.istore 4, 2) := by decide +kernel
theorem dX8_poolOf_84 : decode cX8_poolOf 84 = .ok (.iinc 5 1, 3) := by decide +kernel
theorem dX8_poolOf_87 : decode cX8_poolOf 87 = .ok (.goto (-73), 3) := by decide +kernel
theorem dX8_poolOf_90 : decode cX8_poolOf 90 = .ok (.iload 4, 2) := by decide +kernel
theorem dX8_poolOf_92 : decode cX8_poolOf 92 = .ok (.ireturn, 1) := by decide +kernel
theorem dX8_pooledPapers_0 : decode cX8_pooledPapers 0 = .ok (.iconst 0, 1) := by decide +kernel
theorem dX8_pooledPapers_1 : decode cX8_pooledPapers 1 = .ok (.istore_n 2, 1) := by decide +kernel
theorem dX8_pooledPapers_2 : decode cX8_pooledPapers 2 = .ok (.iconst 0, 1) := by decide +kernel
theorem dX8_pooledPapers_3 : decode cX8_pooledPapers 3 = .ok (.istore_n 3, 1) := by decide +kernel
theorem dX8_pooledPapers_4 : decode cX8_pooledPapers 4 = .ok (.iload_n 3, 1) := by decide +kernel
theorem dX8_pooledPapers_5 : decode cX8_pooledPapers 5 = .ok (.aload_n 1, 1) := by decide +kernel
theorem dX8_pooledPapers_6 : decode cX8_pooledPapers 6 = .ok (.invokevirtual 74, 3) := by decide +kernel
theorem dX8_pooledPapers_9 : decode cX8_pooledPapers 9 = .ok (.if_icmp .ge 36, 3) := by decide +kernel
theorem dX8_pooledPapers_12 : decode cX8_pooledPapers 12 = .ok (.aload_n 0, 1) := by decide +kernel
theorem dX8_pooledPapers_13 : decode cX8_pooledPapers 13 = .ok (.aload_n 1, 1) := by decide +kernel
theorem dX8_pooledPapers_14 : decode cX8_pooledPapers 14 = .ok (.iload_n 3, 1) := by decide +kernel
theorem dX8_pooledPapers_15 : decode cX8_pooledPapers 15 = .ok (.invokevirtual 112, 3) := by decide +kernel
theorem dX8_pooledPapers_18 : decode cX8_pooledPapers 18 = .ok (.ifCond .eq 21, 3) := by decide +kernel
theorem dX8_pooledPapers_39 : decode cX8_pooledPapers 39 = .ok (.iinc 3 1, 3) := by decide +kernel
theorem dX8_pooledPapers_42 : decode cX8_pooledPapers 42 = .ok (.goto (-38), 3) := by decide +kernel
theorem dX8_pooledPapers_21 : decode cX8_pooledPapers 21 = .ok (.iload_n 2, 1) := by decide +kernel
theorem dX8_pooledPapers_22 : decode cX8_pooledPapers 22 = .ok (.iconst 1, 1) := by decide +kernel
theorem dX8_pooledPapers_23 : decode cX8_pooledPapers 23 = .ok (.aload_n 1, 1) := by decide +kernel
theorem dX8_pooledPapers_24 : decode cX8_pooledPapers 24 = .ok (.iload_n 3, 1) := by decide +kernel
theorem dX8_pooledPapers_25 : decode cX8_pooledPapers 25 = .ok (.invokevirtual 77, 3) := by decide +kernel
theorem dX8_pooledPapers_28 : decode cX8_pooledPapers 28 = .ok (.ishl, 1) := by decide +kernel
theorem dX8_pooledPapers_29 : decode cX8_pooledPapers 29 = .ok (.iconst 1, 1) := by decide +kernel
theorem dX8_pooledPapers_30 : decode cX8_pooledPapers 30 = .ok (.aload_n 1, 1) := by decide +kernel
theorem dX8_pooledPapers_31 : decode cX8_pooledPapers 31 = .ok (.iload_n 3, 1) := by decide +kernel
theorem dX8_pooledPapers_32 : decode cX8_pooledPapers 32 = .ok (.invokevirtual 80, 3) := by decide +kernel
theorem dX8_pooledPapers_35 : decode cX8_pooledPapers 35 = .ok (.ishl, 1) := by decide +kernel
theorem dX8_pooledPapers_36 : decode cX8_pooledPapers 36 = .ok (.ior, 1) := by decide +kernel
theorem dX8_pooledPapers_37 : decode cX8_pooledPapers 37 = .ok (.ior, 1) := by decide +kernel
theorem dX8_pooledPapers_38 : decode cX8_pooledPapers 38 = .ok (.istore_n 2, 1) := by decide +kernel
theorem dX8_pooledPapers_45 : decode cX8_pooledPapers 45 = .ok (.iload_n 2, 1) := by decide +kernel
theorem dX8_pooledPapers_46 : decode cX8_pooledPapers 46 = .ok (.invokestatic 120, 3) := by decide +kernel
theorem dX8_pooledPapers_49 : decode cX8_pooledPapers 49 = .ok (.ireturn, 1) := by decide +kernel
theorem dX0_fillSets_0 : decode cX0_fillSets 0 = .ok (.iconst 0, 1) := by decide +kernel
theorem dX0_fillSets_1 : decode cX0_fillSets 1 = .ok (.istore_n 1, 1) := by decide +kernel
theorem dX0_fillSets_2 : decode cX0_fillSets 2 = .ok (.iload_n 1, 1) := by decide +kernel
theorem dX0_fillSets_3 : decode cX0_fillSets 3 = .ok (.aload_n 0, 1) := by decide +kernel
theorem dX0_fillSets_4 : decode cX0_fillSets 4 = .ok (.getfield 12, 3) := by decide +kernel
theorem dX0_fillSets_7 : decode cX0_fillSets 7 = .ok (.invokevirtual 64, 3) := by decide +kernel
theorem dX0_fillSets_10 : decode cX0_fillSets 10 = .ok (.if_icmp .ge 119, 3) := by decide +kernel
theorem dX0_fillSets_13 : decode cX0_fillSets 13 = .ok (.iconst 1, 1) := by decide +kernel
theorem dX0_fillSets_14 : decode cX0_fillSets 14 = .ok (.iload_n 1, 1) := by decide +kernel
theorem dX0_fillSets_15 : decode cX0_fillSets 15 = .ok (.ishl, 1) := by decide +kernel
theorem dX0_fillSets_16 : decode cX0_fillSets 16 = .ok (.istore_n 2, 1) := by decide +kernel
theorem dX0_fillSets_17 : decode cX0_fillSets 17 = .ok (.aload_n 0, 1) := by decide +kernel
theorem dX0_fillSets_18 : decode cX0_fillSets 18 = .ok (.getfield 12, 3) := by decide +kernel
theorem dX0_fillSets_21 : decode cX0_fillSets 21 = .ok (.iload_n 1, 1) := by decide +kernel
theorem dX0_fillSets_22 : decode cX0_fillSets 22 = .ok (.invokevirtual 97, 3) := by decide +kernel
theorem dX0_fillSets_25 : decode cX0_fillSets 25 = .ok (.istore_n 3, 1) := by decide +kernel
theorem dX0_fillSets_26 : decode cX0_fillSets 26 = .ok (.iconst 0, 1) := by decide +kernel
theorem dX0_fillSets_27 : decode cX0_fillSets 27 = .ok (.istore 4, 2) := by decide +kernel
theorem dX0_fillSets_29 : decode cX0_fillSets 29 = .ok (.iload 4, 2) := by decide +kernel
theorem dX0_fillSets_31 : decode cX0_fillSets 31 = .ok (.iload_n 2, 1) := by decide +kernel
theorem dX0_fillSets_32 : decode cX0_fillSets 32 = .ok (.if_icmp .ge 91, 3) := by decide +kernel
theorem dX0_fillSets_35 : decode cX0_fillSets 35 = .ok (.aload_n 0, 1) := by decide +kernel
theorem dX0_fillSets_36 : decode cX0_fillSets 36 = .ok (.getfield 30, 3) := by decide +kernel
theorem dX0_fillSets_39 : decode cX0_fillSets 39 = .ok (.iload_n 2, 1) := by decide +kernel
theorem dX0_fillSets_40 : decode cX0_fillSets 40 = .ok (.iload 4, 2) := by decide +kernel
theorem dX0_fillSets_42 : decode cX0_fillSets 42 = .ok (.iadd, 1) := by decide +kernel
theorem dX0_fillSets_43 : decode cX0_fillSets 43 = .ok (.aload_n 0, 1) := by decide +kernel
theorem dX0_fillSets_44 : decode cX0_fillSets 44 = .ok (.getfield 30, 3) := by decide +kernel
theorem dX0_fillSets_47 : decode cX0_fillSets 47 = .ok (.iload 4, 2) := by decide +kernel
theorem dX0_fillSets_49 : decode cX0_fillSets 49 = .ok (.invokevirtual 100, 3) := by decide +kernel
theorem dX0_fillSets_52 : decode cX0_fillSets 52 = .ok (.iload_n 3, 1) := by decide +kernel
theorem dX0_fillSets_53 : decode cX0_fillSets 53 = .ok (.aload_n 0, 1) := by decide +kernel
theorem dX0_fillSets_54 : decode cX0_fillSets 54 = .ok (.getfield 12, 3) := by decide +kernel
theorem dX0_fillSets_57 : decode cX0_fillSets 57 = .ok (.iload_n 1, 1) := by decide +kernel
theorem dX0_fillSets_58 : decode cX0_fillSets 58 = .ok (.invokevirtual 68, 3) := by decide +kernel
theorem dX0_fillSets_61 : decode cX0_fillSets 61 = .ok (.imul, 1) := by decide +kernel
theorem dX0_fillSets_62 : decode cX0_fillSets 62 = .ok (.iadd, 1) := by decide +kernel
theorem dX0_fillSets_63 : decode cX0_fillSets 63 = .ok (.invokevirtual 103, 3) := by decide +kernel
theorem dX0_fillSets_66 : decode cX0_fillSets 66 = .ok (.aload_n 0, 1) := by decide +kernel
theorem dX0_fillSets_67 : decode cX0_fillSets 67 = .ok (.getfield 34, 3) := by decide +kernel
theorem dX0_fillSets_70 : decode cX0_fillSets 70 = .ok (.iload_n 2, 1) := by decide +kernel
theorem dX0_fillSets_71 : decode cX0_fillSets 71 = .ok (.iload 4, 2) := by decide +kernel
theorem dX0_fillSets_73 : decode cX0_fillSets 73 = .ok (.iadd, 1) := by decide +kernel
theorem dX0_fillSets_74 : decode cX0_fillSets 74 = .ok (.aload_n 0, 1) := by decide +kernel
theorem dX0_fillSets_75 : decode cX0_fillSets 75 = .ok (.getfield 34, 3) := by decide +kernel
theorem dX0_fillSets_78 : decode cX0_fillSets 78 = .ok (.iload 4, 2) := by decide +kernel
theorem dX0_fillSets_80 : decode cX0_fillSets 80 = .ok (.invokevirtual 100, 3) := by decide +kernel
theorem dX0_fillSets_83 : decode cX0_fillSets 83 = .ok (.iload_n 3, 1) := by decide +kernel
theorem dX0_fillSets_84 : decode cX0_fillSets 84 = .ok (.iadd, 1) := by decide +kernel
theorem dX0_fillSets_85 : decode cX0_fillSets 85 = .ok (.invokevirtual 103, 3) := by decide +kernel
theorem dX0_fillSets_88 : decode cX0_fillSets 88 = .ok (.aload_n 0, 1) := by decide +kernel
theorem dX0_fillSets_89 : decode cX0_fillSets 89 = .ok (.getfield 37, 3) := by decide +kernel
theorem dX0_fillSets_92 : decode cX0_fillSets 92 = .ok (.iload_n 2, 1) := by decide +kernel
theorem dX0_fillSets_93 : decode cX0_fillSets 93 = .ok (.iload 4, 2) := by decide +kernel
theorem dX0_fillSets_95 : decode cX0_fillSets 95 = .ok (.iadd, 1) := by decide +kernel
theorem dX0_fillSets_96 : decode cX0_fillSets 96 = .ok (.aload_n 0, 1) := by decide +kernel
theorem dX0_fillSets_97 : decode cX0_fillSets 97 = .ok (.getfield 37, 3) := by decide +kernel
theorem dX0_fillSets_100 : decode cX0_fillSets 100 = .ok (.iload 4, 2) := by decide +kernel
theorem dX0_fillSets_102 : decode cX0_fillSets 102 = .ok (.invokevirtual 100, 3) := by decide +kernel
theorem dX0_fillSets_105 : decode cX0_fillSets 105 = .ok (.aload_n 0, 1) := by decide +kernel
theorem dX0_fillSets_106 : decode cX0_fillSets 106 = .ok (.getfield 21, 3) := by decide +kernel
theorem dX0_fillSets_109 : decode cX0_fillSets 109 = .ok (.iload_n 1, 1) := by decide +kernel
theorem dX0_fillSets_110 : decode cX0_fillSets 110 = .ok (.invokevirtual 72, 3) := by decide +kernel
theorem dX0_fillSets_113 : decode cX0_fillSets 113 = .ok (.ior, 1) := by decide +kernel
theorem dX0_fillSets_114 : decode cX0_fillSets 114 = .ok (.invokevirtual 103, 3) := by decide +kernel
theorem dX0_fillSets_117 : decode cX0_fillSets 117 = .ok (.iinc 4 1, 3) := by decide +kernel
theorem dX0_fillSets_120 : decode cX0_fillSets 120 = .ok (.goto (-91), 3) := by decide +kernel
theorem dX0_fillSets_123 : decode cX0_fillSets 123 = .ok (.iinc 1 1, 3) := by decide +kernel
theorem dX0_fillSets_126 : decode cX0_fillSets 126 = .ok (.goto (-124), 3) := by decide +kernel
theorem dX0_fillSets_129 : decode cX0_fillSets 129 = .ok (.return_, 1) := by decide +kernel
theorem dX0_leastMarkAbove_0 : decode cX0_leastMarkAbove 0 = .ok (.iload_n 1, 1) := by decide +kernel
theorem dX0_leastMarkAbove_1 : decode cX0_leastMarkAbove 1 = .ok (.istore_n 2, 1) := by decide +kernel
theorem dX0_leastMarkAbove_2 : decode cX0_leastMarkAbove 2 = .ok (.iconst 0, 1) := by decide +kernel
theorem dX0_leastMarkAbove_3 : decode cX0_leastMarkAbove 3 = .ok (.istore_n 3, 1) := by decide +kernel
theorem dX0_leastMarkAbove_4 : decode cX0_leastMarkAbove 4 = .ok (.iload_n 3, 1) := by decide +kernel
theorem dX0_leastMarkAbove_5 : decode cX0_leastMarkAbove 5 = .ok (.aload_n 0, 1) := by decide +kernel
theorem dX0_leastMarkAbove_6 : decode cX0_leastMarkAbove 6 = .ok (.getfield 12, 3) := by decide +kernel
theorem dX0_leastMarkAbove_9 : decode cX0_leastMarkAbove 9 = .ok (.invokevirtual 64, 3) := by decide +kernel
theorem dX0_leastMarkAbove_12 : decode cX0_leastMarkAbove 12 = .ok (.if_icmp .ge 39, 3) := by decide +kernel
theorem dX0_leastMarkAbove_15 : decode cX0_leastMarkAbove 15 = .ok (.aload_n 0, 1) := by decide +kernel
theorem dX0_leastMarkAbove_16 : decode cX0_leastMarkAbove 16 = .ok (.getfield 12, 3) := by decide +kernel
theorem dX0_leastMarkAbove_19 : decode cX0_leastMarkAbove 19 = .ok (.iload_n 3, 1) := by decide +kernel
theorem dX0_leastMarkAbove_20 : decode cX0_leastMarkAbove 20 = .ok (.invokevirtual 68, 3) := by decide +kernel
theorem dX0_leastMarkAbove_23 : decode cX0_leastMarkAbove 23 = .ok (.istore 4, 2) := by decide +kernel
theorem dX0_leastMarkAbove_25 : decode cX0_leastMarkAbove 25 = .ok (.iload 4, 2) := by decide +kernel
theorem dX0_leastMarkAbove_27 : decode cX0_leastMarkAbove 27 = .ok (.iload_n 1, 1) := by decide +kernel
theorem dX0_leastMarkAbove_28 : decode cX0_leastMarkAbove 28 = .ok (.if_icmp .le 17, 3) := by decide +kernel
theorem dX0_leastMarkAbove_45 : decode cX0_leastMarkAbove 45 = .ok (.iinc 3 1, 3) := by decide +kernel
theorem dX0_leastMarkAbove_48 : decode cX0_leastMarkAbove 48 = .ok (.goto (-44), 3) := by decide +kernel
theorem dX0_leastMarkAbove_31 : decode cX0_leastMarkAbove 31 = .ok (.iload_n 2, 1) := by decide +kernel
theorem dX0_leastMarkAbove_32 : decode cX0_leastMarkAbove 32 = .ok (.iload_n 1, 1) := by decide +kernel
theorem dX0_leastMarkAbove_33 : decode cX0_leastMarkAbove 33 = .ok (.if_icmp .eq 9, 3) := by decide +kernel
theorem dX0_leastMarkAbove_42 : decode cX0_leastMarkAbove 42 = .ok (.iload 4, 2) := by decide +kernel
theorem dX0_leastMarkAbove_44 : decode cX0_leastMarkAbove 44 = .ok (.istore_n 2, 1) := by decide +kernel
theorem dX0_leastMarkAbove_36 : decode cX0_leastMarkAbove 36 = .ok (.iload 4, 2) := by decide +kernel
theorem dX0_leastMarkAbove_38 : decode cX0_leastMarkAbove 38 = .ok (.iload_n 2, 1) := by decide +kernel
theorem dX0_leastMarkAbove_39 : decode cX0_leastMarkAbove 39 = .ok (.if_icmp .ge 6, 3) := by decide +kernel
theorem dX0_leastMarkAbove_51 : decode cX0_leastMarkAbove 51 = .ok (.iload_n 2, 1) := by decide +kernel
theorem dX0_leastMarkAbove_52 : decode cX0_leastMarkAbove 52 = .ok (.ireturn, 1) := by decide +kernel
theorem dX0_isLow_0 : decode cX0_isLow 0 = .ok (.aload_n 0, 1) := by decide +kernel
theorem dX0_isLow_1 : decode cX0_isLow 1 = .ok (.getfield 37, 3) := by decide +kernel
theorem dX0_isLow_4 : decode cX0_isLow 4 = .ok (.iload_n 1, 1) := by decide +kernel
theorem dX0_isLow_5 : decode cX0_isLow 5 = .ok (.invokevirtual 100, 3) := by decide +kernel
theorem dX0_isLow_8 : decode cX0_isLow 8 = .ok (.iload_n 2, 1) := by decide +kernel
theorem dX0_isLow_9 : decode cX0_isLow 9 = .ok (.iand, 1) := by decide +kernel
theorem dX0_isLow_10 : decode cX0_isLow 10 = .ok (.iload_n 1, 1) := by decide +kernel
theorem dX0_isLow_11 : decode cX0_isLow 11 = .ok (.iconst (-1), 1) := by decide +kernel
theorem dX0_isLow_12 : decode cX0_isLow 12 = .ok (.ixor, 1) := by decide +kernel
theorem dX0_isLow_13 : decode cX0_isLow 13 = .ok (.iand, 1) := by decide +kernel
theorem dX0_isLow_14 : decode cX0_isLow 14 = .ok (.ifCond .ne 7, 3) := by decide +kernel
theorem dX0_isLow_21 : decode cX0_isLow 21 = .ok (.iconst 0, 1) := by decide +kernel
theorem dX0_isLow_22 : decode cX0_isLow 22 = .ok (.ireturn, 1) := by decide +kernel
theorem dX0_isLow_17 : decode cX0_isLow 17 = .ok (.iconst 1, 1) := by decide +kernel
theorem dX0_isLow_18 : decode cX0_isLow 18 = .ok (.goto 4, 3) := by decide +kernel
theorem dX0_cheapest_0 : decode cX0_cheapest 0 = .ok (.iconst 0, 1) := by decide +kernel
theorem dX0_cheapest_1 : decode cX0_cheapest 1 = .ok (.istore_n 3, 1) := by decide +kernel
theorem dX0_cheapest_2 : decode cX0_cheapest 2 = .ok (.iconst 0, 1) := by decide +kernel
theorem dX0_cheapest_3 : decode cX0_cheapest 3 = .ok (.istore 4, 2) := by decide +kernel
theorem dX0_cheapest_5 : decode cX0_cheapest 5 = .ok (.iload_n 2, 1) := by decide +kernel
theorem dX0_cheapest_6 : decode cX0_cheapest 6 = .ok (.istore 5, 2) := by decide +kernel
theorem dX0_cheapest_8 : decode cX0_cheapest 8 = .ok (.iload 5, 2) := by decide +kernel
theorem dX0_cheapest_10 : decode cX0_cheapest 10 = .ok (.ifCond .le 77, 3) := by decide +kernel
theorem dX0_cheapest_13 : decode cX0_cheapest 13 = .ok (.aload_n 0, 1) := by decide +kernel
theorem dX0_cheapest_14 : decode cX0_cheapest 14 = .ok (.getfield 34, 3) := by decide +kernel
theorem dX0_cheapest_17 : decode cX0_cheapest 17 = .ok (.iload 5, 2) := by decide +kernel
theorem dX0_cheapest_19 : decode cX0_cheapest 19 = .ok (.invokevirtual 100, 3) := by decide +kernel
theorem dX0_cheapest_22 : decode cX0_cheapest 22 = .ok (.iconst 2, 1) := by decide +kernel
theorem dX0_cheapest_23 : decode cX0_cheapest 23 = .ok (.aload_n 0, 1) := by decide +kernel
theorem dX0_cheapest_24 : decode cX0_cheapest 24 = .ok (.getfield 34, 3) := by decide +kernel
theorem dX0_cheapest_27 : decode cX0_cheapest 27 = .ok (.iload 5, 2) := by decide +kernel
theorem dX0_cheapest_29 : decode cX0_cheapest 29 = .ok (.iload_n 1, 1) := by decide +kernel
theorem dX0_cheapest_30 : decode cX0_cheapest 30 = .ok (.iand, 1) := by decide +kernel
theorem dX0_cheapest_31 : decode cX0_cheapest 31 = .ok (.invokevirtual 100, 3) := by decide +kernel
theorem dX0_cheapest_34 : decode cX0_cheapest 34 = .ok (.imul, 1) := by decide +kernel
theorem dX0_cheapest_35 : decode cX0_cheapest 35 = .ok (.isub, 1) := by decide +kernel
theorem dX0_cheapest_36 : decode cX0_cheapest 36 = .ok (.istore 6, 2) := by decide +kernel
theorem dX0_cheapest_38 : decode cX0_cheapest 38 = .ok (.iload 6, 2) := by decide +kernel
theorem dX0_cheapest_40 : decode cX0_cheapest 40 = .ok (.iload 4, 2) := by decide +kernel
theorem dX0_cheapest_42 : decode cX0_cheapest 42 = .ok (.if_icmp .gt 34, 3) := by decide +kernel
theorem dX0_cheapest_76 : decode cX0_cheapest 76 = .ok (.iload 5, 2) := by decide +kernel
theorem dX0_cheapest_78 : decode cX0_cheapest 78 = .ok (.iconst 1, 1) := by decide +kernel
theorem dX0_cheapest_79 : decode cX0_cheapest 79 = .ok (.isub, 1) := by decide +kernel
theorem dX0_cheapest_80 : decode cX0_cheapest 80 = .ok (.iload_n 2, 1) := by decide +kernel
theorem dX0_cheapest_81 : decode cX0_cheapest 81 = .ok (.iand, 1) := by decide +kernel
theorem dX0_cheapest_82 : decode cX0_cheapest 82 = .ok (.istore 5, 2) := by decide +kernel
theorem dX0_cheapest_84 : decode cX0_cheapest 84 = .ok (.goto (-76), 3) := by decide +kernel
theorem dX0_cheapest_45 : decode cX0_cheapest 45 = .ok (.aload_n 0, 1) := by decide +kernel
theorem dX0_cheapest_46 : decode cX0_cheapest 46 = .ok (.iload 5, 2) := by decide +kernel
theorem dX0_cheapest_48 : decode cX0_cheapest 48 = .ok (.iload_n 2, 1) := by decide +kernel
theorem dX0_cheapest_49 : decode cX0_cheapest 49 = .ok (.invokevirtual 113, 3) := by decide +kernel
theorem dX0_cheapest_52 : decode cX0_cheapest 52 = .ok (.ifCond .eq 24, 3) := by decide +kernel
theorem dX0_cheapest_55 : decode cX0_cheapest 55 = .ok (.iload 6, 2) := by decide +kernel
theorem dX0_cheapest_57 : decode cX0_cheapest 57 = .ok (.iload 4, 2) := by decide +kernel
theorem dX0_cheapest_71 : decode cX0_cheapest 71 = .ok (.istore_n 3, 1) := by decide +kernel
theorem dX0_cheapest_72 : decode cX0_cheapest 72 = .ok (.iload 6, 2) := by decide +kernel
theorem dX0_cheapest_74 : decode cX0_cheapest 74 = .ok (.istore 4, 2) := by decide +kernel
theorem dX0_cheapest_59 : decode cX0_cheapest 59 = .ok (.if_icmp .ge 8, 3) := by decide +kernel
theorem dX0_cheapest_67 : decode cX0_cheapest 67 = .ok (.iload_n 3, 1) := by decide +kernel
theorem dX0_cheapest_68 : decode cX0_cheapest 68 = .ok (.iload 5, 2) := by decide +kernel
theorem dX0_cheapest_70 : decode cX0_cheapest 70 = .ok (.ior, 1) := by decide +kernel
theorem dX0_cheapest_62 : decode cX0_cheapest 62 = .ok (.iload 5, 2) := by decide +kernel
theorem dX0_cheapest_64 : decode cX0_cheapest 64 = .ok (.goto 7, 3) := by decide +kernel
theorem dX0_cheapest_87 : decode cX0_cheapest 87 = .ok (.iload_n 3, 1) := by decide +kernel
theorem dX0_cheapest_88 : decode cX0_cheapest 88 = .ok (.ireturn, 1) := by decide +kernel
set_option maxHeartbeats 4000000 in
set_option maxRecDepth 100000 in
theorem c_X8_bindingRules (l : Launch) (g : GG) (a0 : Nat → Nat) (v0_marks : (Nat → Int32)) (v0_weights : (Nat → Int32)) (v0_places : (Nat → Int32)) (v0_aboves : (Nat → Int32)) (v0_belows : (Nat → Int32)) (v0_reduced_above : Int64) (v0_reduced_below : Int64) (v0_papers : Int32) (a1 : Nat → Nat) (v1_raws : (Nat → Int32)) (v1_kinds : (Nat → Int32)) (v1_figures : (Nat → Int32)) (v1_heavies : (Nat → Int32)) (v1_places : (Nat → Int32)) (v1_papers : Int32) (v1_lowers : (Nat → Int32)) (v1_uppers : (Nat → Int32)) (v1_rules : Int32) (v1_bounds : (Nat → Int32)) (v1_boundCount : Int32) (v1_tieWay : Int32) (v1_reached : (Nat → Int32)) (hne : (m_X8_bindingRules (v0_marks, v0_weights, v0_places, v0_aboves, v0_belows, (v0_reduced_above, v0_reduced_below), v0_papers) (v1_raws, v1_kinds, v1_figures, v1_heavies, v1_places, v1_papers, v1_lowers, v1_uppers, v1_rules, v1_bounds, v1_boundCount, v1_tieWay, v1_reached)) ≠ none) : Ct l g yX8_bindingRules cX8_bindingRules 4 (some .int) ({ frames := 3, cells := 0, slots := 0, locals := 66 } : Room) [.ref (a0 0), .ref (a1 0)] (wX8 a0 g v0_marks v0_weights v0_places v0_aboves v0_belows v0_reduced_above v0_reduced_below v0_papers ++ wX6 a1 g v1_raws v1_kinds v1_figures v1_heavies v1_places v1_papers v1_lowers v1_uppers v1_rules v1_bounds v1_boundCount v1_tieWay v1_reached) (Qi g .int (m_X8_bindingRules (v0_marks, v0_weights, v0_places, v0_aboves, v0_belows, (v0_reduced_above, v0_reduced_below), v0_papers) (v1_raws, v1_kinds, v1_figures, v1_heavies, v1_places, v1_papers, v1_lowers, v1_uppers, v1_rules, v1_bounds, v1_boundCount, v1_tieWay, v1_reached)) (fun u => u) (fun u => wX8 a0 g v0_marks v0_weights v0_places v0_aboves v0_belows v0_reduced_above v0_reduced_below v0_papers ++ wX6 a1 g v1_raws v1_kinds v1_figures v1_heavies v1_places v1_papers v1_lowers v1_uppers v1_rules v1_bounds v1_boundCount v1_tieWay v1_reached)) 0 0 := by
  obtain ⟨out, hf⟩ := ne_ex hne
  have hf0 := hf
  refine Ct.of (own := RX8) (by decide +kernel) rfl (Nat.le_of_ble_eq_true rfl) ?_
  intro p e s m below meth c hx hb hr hml hown hts hlocks hin hK A H locs hA hP hD hS hE ls hl
  have hl : lv_has ls 4 [(0, .ref (a0 0)), (1, .ref (a1 0))] := hl
  unfold m_X8_bindingRules at hf
  refine lv_iconst (v := 0) hx hb dX8_bindingRules_0 (by decide) ?_
  refine lv_istore_n (lv' := [(2, .int (0 : Int32)), (0, .ref (a0 0)), (1, .ref (a1 0))]) hx hb dX8_bindingRules_1 rfl hl (by decide) rfl (fun ls hl => ?_)
  refine lv_iconst (v := 0) hx hb dX8_bindingRules_2 (by decide) ?_
  refine lv_istore_n (lv' := [(3, .int (0 : Int32)), (2, .int (0 : Int32)), (0, .ref (a0 0)), (1, .ref (a1 0))]) hx hb dX8_bindingRules_3 rfl hl (by decide) rfl (fun ls hl => ?_)
  obtain ⟨r8, er8, hf⟩ := bnd hf
  refine lp_W (P := fun z => ∀ (H : Heap) (locs : List Loc) (ls : Array Slot), va_P g.1 vwCl (wX8 a0 g v0_marks v0_weights v0_places v0_aboves v0_belows v0_reduced_above v0_reduced_below v0_papers ++ wX6 a1 g v1_raws v1_kinds v1_figures v1_heavies v1_places v1_papers v1_lowers v1_uppers v1_rules v1_bounds v1_boundCount v1_tieWay v1_reached) H → va_D A (wX8 a0 g v0_marks v0_weights v0_places v0_aboves v0_belows v0_reduced_above v0_reduced_below v0_papers ++ wX6 a1 g v1_raws v1_kinds v1_figures v1_heavies v1_places v1_papers v1_lowers v1_uppers v1_rules v1_bounds v1_boundCount v1_tieWay v1_reached) → va_S A s.heap H locs → lv_has ls 4 [(0, .ref (a0 0)), (1, .ref (a1 0)), (2, .int z.1), (3, .int z.2)] → W p l e { frames := 3, cells := 0, slots := 0, locals := 66 } s m [.ref (a0 0), .ref (a1 0)].toArray below meth c H locs 0 0 (MQ below (Qi g .int (m_X8_bindingRules (v0_marks, v0_weights, v0_places, v0_aboves, v0_belows, (v0_reduced_above, v0_reduced_below), v0_papers) (v1_raws, v1_kinds, v1_figures, v1_heavies, v1_places, v1_papers, v1_lowers, v1_uppers, v1_rules, v1_bounds, v1_boundCount, v1_tieWay, v1_reached)) (fun u => u) (fun u => wX8 a0 g v0_marks v0_weights v0_places v0_aboves v0_belows v0_reduced_above v0_reduced_below v0_papers ++ wX6 a1 g v1_raws v1_kinds v1_figures v1_heavies v1_places v1_papers v1_lowers v1_uppers v1_rules v1_bounds v1_boundCount v1_tieWay v1_reached) A) [.ref (a0 0), .ref (a1 0)].toArray s 0 0 A) (F0 m 4 ls [])) (E := fun r8 => ∀ (H : Heap) (locs : List Loc) (ls : Array Slot), va_P g.1 vwCl (wX8 a0 g v0_marks v0_weights v0_places v0_aboves v0_belows v0_reduced_above v0_reduced_below v0_papers ++ wX6 a1 g v1_raws v1_kinds v1_figures v1_heavies v1_places v1_papers v1_lowers v1_uppers v1_rules v1_bounds v1_boundCount v1_tieWay v1_reached) H → va_D A (wX8 a0 g v0_marks v0_weights v0_places v0_aboves v0_belows v0_reduced_above v0_reduced_below v0_papers ++ wX6 a1 g v1_raws v1_kinds v1_figures v1_heavies v1_places v1_papers v1_lowers v1_uppers v1_rules v1_bounds v1_boundCount v1_tieWay v1_reached) → va_S A s.heap H locs → lv_has ls 4 [(2, .int r8)] → W p l e { frames := 3, cells := 0, slots := 0, locals := 66 } s m [.ref (a0 0), .ref (a1 0)].toArray below meth c H locs 0 0 (MQ below (Qi g .int (m_X8_bindingRules (v0_marks, v0_weights, v0_places, v0_aboves, v0_belows, (v0_reduced_above, v0_reduced_below), v0_papers) (v1_raws, v1_kinds, v1_figures, v1_heavies, v1_places, v1_papers, v1_lowers, v1_uppers, v1_rules, v1_bounds, v1_boundCount, v1_tieWay, v1_reached)) (fun u => u) (fun u => wX8 a0 g v0_marks v0_weights v0_places v0_aboves v0_belows v0_reduced_above v0_reduced_below v0_papers ++ wX6 a1 g v1_raws v1_kinds v1_figures v1_heavies v1_places v1_papers v1_lowers v1_uppers v1_rules v1_bounds v1_boundCount v1_tieWay v1_reached) A) [.ref (a0 0), .ref (a1 0)].toArray s 0 0 A) (F0 m 33 ls [])) ?_ fu _ r8 er8 ?_ _ _ _ hP hD hS (lv_sub hl [2, 3, 1, 0] rfl)
  · rintro ⟨x4, x5⟩ y hf hB hXt H locs ls hP hD hS hl
    have hP : va_P g.1 vwCl (wX8 a0 g v0_marks v0_weights v0_places v0_aboves v0_belows v0_reduced_above v0_reduced_below v0_papers ++ wX6 a1 g v1_raws v1_kinds v1_figures v1_heavies v1_places v1_papers v1_lowers v1_uppers v1_rules v1_bounds v1_boundCount v1_tieWay v1_reached) H := hP
    have hD : va_D A (wX8 a0 g v0_marks v0_weights v0_places v0_aboves v0_belows v0_reduced_above v0_reduced_below v0_papers ++ wX6 a1 g v1_raws v1_kinds v1_figures v1_heavies v1_places v1_papers v1_lowers v1_uppers v1_rules v1_bounds v1_boundCount v1_tieWay v1_reached) := hD
    have hl : lv_has ls 4 [(0, .ref (a0 0)), (1, .ref (a1 0)), (2, .int x4), (3, .int x5)] := hl
    have hf : m_X8_bindingRules_l4 (v0_marks, v0_weights, v0_places, v0_aboves, v0_belows, (v0_reduced_above, v0_reduced_below), v0_papers) (v1_raws, v1_kinds, v1_figures, v1_heavies, v1_places, v1_papers, v1_lowers, v1_uppers, v1_rules, v1_bounds, v1_boundCount, v1_tieWay, v1_reached) x4 x5 = some y := hf
    unfold m_X8_bindingRules_l4 at hf
    refine lv_iload_n hx hb dX8_bindingRules_4 rfl (lv_at hl 3 rfl) ?_
    refine lv_aload_n hx hb dX8_bindingRules_5 rfl (lv_at hl 1 rfl) ?_
    refine cIp hP hD hS hA hE (fun hPc hDc hSc => rV (As := []) (rest := [.int x5]) hx hb hml hown hts hK (c_X6_ruleCount l g a1 v1_raws v1_kinds v1_figures v1_heavies v1_places v1_papers v1_lowers v1_uppers v1_rules v1_bounds v1_boundCount v1_tieWay v1_reached (bnd_ne hf)) svV_X6_ruleCount kw844 rfl rfl hPc hDc hSc rfl rfl hl.1 (Nat.le_of_ble_eq_true rfl) dX8_bindingRules_6 ⟨Nat.le_of_ble_eq_true rfl, Nat.le_of_ble_eq_true rfl, rfl, rfl, Nat.le_of_ble_eq_true rfl, Nat.le_of_ble_eq_true rfl⟩) [(12, 19)] rfl rfl rfl (fun x6 H locs ex6 nx6 hP hS => ?_)
    have hf := bnd_of hf ex6
    refine lv_icmp_ge (tgt := 33) hx hb dX8_bindingRules_9 (by decide) (fun cb => ?_) (fun cb => ?_)
    · have hf := it_t cb hf
      exact hXt _ (Option.some.inj hf).symm _ _ _ hP hD hS (lv_sub hl [2] rfl)
    have hf := it_f cb hf
    refine lv_aload_n hx hb dX8_bindingRules_12 rfl (lv_at hl 0 rfl) ?_
    refine lv_aload_n hx hb dX8_bindingRules_13 rfl (lv_at hl 1 rfl) ?_
    refine lv_iload_n hx hb dX8_bindingRules_14 rfl (lv_at hl 3 rfl) ?_
    refine cIp hP hD hS hA hE (fun hPc hDc hSc => rV (As := [.ref (a1 0), .int x5]) (rest := []) hx hb hml hown hts hK (c_X8_doesBind l g a0 v0_marks v0_weights v0_places v0_aboves v0_belows v0_reduced_above v0_reduced_below v0_papers a1 v1_raws v1_kinds v1_figures v1_heavies v1_places v1_papers v1_lowers v1_uppers v1_rules v1_bounds v1_boundCount v1_tieWay v1_reached x5 (bnd_ne hf)) svV_X8_doesBind kw922 rfl rfl hPc hDc hSc rfl rfl hl.1 (Nat.le_of_ble_eq_true rfl) dX8_bindingRules_15 ⟨Nat.le_of_ble_eq_true rfl, Nat.le_of_ble_eq_true rfl, rfl, rfl, Nat.le_of_ble_eq_true rfl, Nat.le_of_ble_eq_true rfl⟩) [(0, 12), (12, 19)] rfl rfl rfl (fun x7 H locs ex7 nx7 hP hS => ?_)
    have hf := bnd_of hf ex7
    refine lv_if_eq (tgt := 27) hx hb dX8_bindingRules_18 (by decide) (fun cb => ?_) (fun cb => ?_)
    · have hf := it_t cb hf
      refine lv_iinc (v := (x5 + 1)) (lv' := [(3, .int (x5 + 1)), (0, .ref (a0 0)), (1, .ref (a1 0)), (2, .int x4)]) hx hb dX8_bindingRules_27 hl (k := 3) rfl (by rfl) (by decide) rfl (fun ls hl => ?_)
      refine lv_goto (tgt := 4) hx hb dX8_bindingRules_30 (by decide) ?_
      exact hB _ (Option.some.inj hf).symm _ _ _ hP hD hS (lv_sub hl [1, 2, 3, 0] rfl)
    have hf := it_f cb hf
    refine lv_iload_n hx hb dX8_bindingRules_21 rfl (lv_at hl 2 rfl) ?_
    refine lv_iconst (v := 1) hx hb dX8_bindingRules_22 (by decide) ?_
    refine lv_iload_n hx hb dX8_bindingRules_23 rfl (lv_at hl 3 rfl) ?_
    refine lv_ishl hx hb dX8_bindingRules_24 ?_
    refine lv_ior hx hb dX8_bindingRules_25 ?_
    refine lv_istore_n (lv' := [(2, .int (x4 ||| ((1 : Int32) <<< (x5 &&& 31)))), (0, .ref (a0 0)), (1, .ref (a1 0)), (3, .int x5)]) hx hb dX8_bindingRules_26 rfl hl (by decide) rfl (fun ls hl => ?_)
    refine lv_iinc (v := (x5 + 1)) (lv' := [(3, .int (x5 + 1)), (2, .int (x4 ||| ((1 : Int32) <<< (x5 &&& 31)))), (0, .ref (a0 0)), (1, .ref (a1 0))]) hx hb dX8_bindingRules_27 hl (k := 3) rfl (by rfl) (by decide) rfl (fun ls hl => ?_)
    refine lv_goto (tgt := 4) hx hb dX8_bindingRules_30 (by decide) ?_
    exact hB _ (Option.some.inj hf).symm _ _ _ hP hD hS (lv_sub hl [2, 3, 1, 0] rfl)
  intro H locs ls hP hD hS hl
  have hP : va_P g.1 vwCl (wX8 a0 g v0_marks v0_weights v0_places v0_aboves v0_belows v0_reduced_above v0_reduced_below v0_papers ++ wX6 a1 g v1_raws v1_kinds v1_figures v1_heavies v1_places v1_papers v1_lowers v1_uppers v1_rules v1_bounds v1_boundCount v1_tieWay v1_reached) H := hP
  have hD : va_D A (wX8 a0 g v0_marks v0_weights v0_places v0_aboves v0_belows v0_reduced_above v0_reduced_below v0_papers ++ wX6 a1 g v1_raws v1_kinds v1_figures v1_heavies v1_places v1_papers v1_lowers v1_uppers v1_rules v1_bounds v1_boundCount v1_tieWay v1_reached) := hD
  have hl : lv_has ls 4 [(2, .int r8)] := hl
  refine lv_iload_n hx hb dX8_bindingRules_33 rfl (lv_at hl 0 rfl) ?_
  exact retI (v := r8) (u := r8) (val := fun u => u) (W1 := fun u => wX8 a0 g v0_marks v0_weights v0_places v0_aboves v0_belows v0_reduced_above v0_reduced_below v0_papers ++ wX6 a1 g v1_raws v1_kinds v1_figures v1_heavies v1_places v1_papers v1_lowers v1_uppers v1_rules v1_bounds v1_boundCount v1_tieWay v1_reached) hx hb hr hlocks hS hP hD (hf0.trans hf.symm) rfl rfl dX8_bindingRules_34
set_option maxHeartbeats 4000000 in
set_option maxRecDepth 100000 in
theorem c_X8_poolOf (l : Launch) (g : GG) (a0 : Nat → Nat) (v0_marks : (Nat → Int32)) (v0_weights : (Nat → Int32)) (v0_places : (Nat → Int32)) (v0_aboves : (Nat → Int32)) (v0_belows : (Nat → Int32)) (v0_reduced_above : Int64) (v0_reduced_below : Int64) (v0_papers : Int32) (a1 : Nat → Nat) (v1_raws : (Nat → Int32)) (v1_kinds : (Nat → Int32)) (v1_figures : (Nat → Int32)) (v1_heavies : (Nat → Int32)) (v1_places : (Nat → Int32)) (v1_papers : Int32) (v1_lowers : (Nat → Int32)) (v1_uppers : (Nat → Int32)) (v1_rules : Int32) (v1_bounds : (Nat → Int32)) (v1_boundCount : Int32) (v1_tieWay : Int32) (v1_reached : (Nat → Int32)) (p2 : Int32) (hne : (m_X8_poolOf (v0_marks, v0_weights, v0_places, v0_aboves, v0_belows, (v0_reduced_above, v0_reduced_below), v0_papers) (v1_raws, v1_kinds, v1_figures, v1_heavies, v1_places, v1_papers, v1_lowers, v1_uppers, v1_rules, v1_bounds, v1_boundCount, v1_tieWay, v1_reached) p2) ≠ none) : Ct l g yX8_poolOf cX8_poolOf 8 (some .int) ({ frames := 4, cells := 0, slots := 0, locals := 89 } : Room) [.ref (a0 0), .ref (a1 0), .int p2] (wX8 a0 g v0_marks v0_weights v0_places v0_aboves v0_belows v0_reduced_above v0_reduced_below v0_papers ++ wX6 a1 g v1_raws v1_kinds v1_figures v1_heavies v1_places v1_papers v1_lowers v1_uppers v1_rules v1_bounds v1_boundCount v1_tieWay v1_reached) (Qi g .int (m_X8_poolOf (v0_marks, v0_weights, v0_places, v0_aboves, v0_belows, (v0_reduced_above, v0_reduced_below), v0_papers) (v1_raws, v1_kinds, v1_figures, v1_heavies, v1_places, v1_papers, v1_lowers, v1_uppers, v1_rules, v1_bounds, v1_boundCount, v1_tieWay, v1_reached) p2) (fun u => u) (fun u => wX8 a0 g v0_marks v0_weights v0_places v0_aboves v0_belows v0_reduced_above v0_reduced_below v0_papers ++ wX6 a1 g v1_raws v1_kinds v1_figures v1_heavies v1_places v1_papers v1_lowers v1_uppers v1_rules v1_bounds v1_boundCount v1_tieWay v1_reached)) 0 0 := by
  obtain ⟨out, hf⟩ := ne_ex hne
  have hf0 := hf
  refine Ct.of (own := RX8) (by decide +kernel) rfl (Nat.le_of_ble_eq_true rfl) ?_
  intro p e s m below meth c hx hb hr hml hown hts hlocks hin hK A H locs hA hP hD hS hE ls hl
  have hl : lv_has ls 8 [(0, .ref (a0 0)), (1, .ref (a1 0)), (2, .int p2)] := hl
  unfold m_X8_poolOf at hf
  refine lv_aload_n hx hb dX8_poolOf_0 rfl (lv_at hl 0 rfl) ?_
  refine lv_aload_n hx hb dX8_poolOf_1 rfl (lv_at hl 1 rfl) ?_
  refine cIp hP hD hS hA hE (fun hPc hDc hSc => rV (As := [.ref (a1 0)]) (rest := []) hx hb hml hown hts hK (c_X8_bindingRules l g a0 v0_marks v0_weights v0_places v0_aboves v0_belows v0_reduced_above v0_reduced_below v0_papers a1 v1_raws v1_kinds v1_figures v1_heavies v1_places v1_papers v1_lowers v1_uppers v1_rules v1_bounds v1_boundCount v1_tieWay v1_reached (bnd_ne hf)) svV_X8_bindingRules kw918 rfl rfl hPc hDc hSc rfl rfl hl.1 (Nat.le_of_ble_eq_true rfl) dX8_poolOf_2 ⟨Nat.le_of_ble_eq_true rfl, Nat.le_of_ble_eq_true rfl, rfl, rfl, Nat.le_of_ble_eq_true rfl, Nat.le_of_ble_eq_true rfl⟩) [(0, 12), (12, 19)] rfl rfl rfl (fun x1 H locs ex1 nx1 hP hS => ?_)
  have hf := bnd_of hf ex1
  refine lv_istore_n (lv' := [(3, .int x1), (0, .ref (a0 0)), (1, .ref (a1 0)), (2, .int p2)]) hx hb dX8_poolOf_5 rfl hl (by decide) rfl (fun ls hl => ?_)
  refine lv_iconst (v := 1) hx hb dX8_poolOf_6 (by decide) ?_
  refine lv_iload_n hx hb dX8_poolOf_7 rfl (lv_at hl 3 rfl) ?_
  refine lv_ishl hx hb dX8_poolOf_8 ?_
  refine lv_istore (lv' := [(4, .int ((1 : Int32) <<< (p2 &&& 31))), (3, .int x1), (0, .ref (a0 0)), (1, .ref (a1 0)), (2, .int p2)]) hx hb dX8_poolOf_9 hl (by decide) rfl (fun ls hl => ?_)
  refine lv_iconst (v := 0) hx hb dX8_poolOf_11 (by decide) ?_
  refine lv_istore (lv' := [(5, .int (0 : Int32)), (4, .int ((1 : Int32) <<< (p2 &&& 31))), (3, .int x1), (0, .ref (a0 0)), (1, .ref (a1 0)), (2, .int p2)]) hx hb dX8_poolOf_12 hl (by decide) rfl (fun ls hl => ?_)
  obtain ⟨r30, er30, hf⟩ := bnd hf
  refine lp_W (P := fun z => ∀ (H : Heap) (locs : List Loc) (ls : Array Slot), va_P g.1 vwCl (wX8 a0 g v0_marks v0_weights v0_places v0_aboves v0_belows v0_reduced_above v0_reduced_below v0_papers ++ wX6 a1 g v1_raws v1_kinds v1_figures v1_heavies v1_places v1_papers v1_lowers v1_uppers v1_rules v1_bounds v1_boundCount v1_tieWay v1_reached) H → va_D A (wX8 a0 g v0_marks v0_weights v0_places v0_aboves v0_belows v0_reduced_above v0_reduced_below v0_papers ++ wX6 a1 g v1_raws v1_kinds v1_figures v1_heavies v1_places v1_papers v1_lowers v1_uppers v1_rules v1_bounds v1_boundCount v1_tieWay v1_reached) → va_S A s.heap H locs → lv_has ls 8 [(0, .ref (a0 0)), (1, .ref (a1 0)), (3, .int x1), (4, .int z.1), (5, .int z.2)] → W p l e { frames := 4, cells := 0, slots := 0, locals := 89 } s m [.ref (a0 0), .ref (a1 0), .int p2].toArray below meth c H locs 0 0 (MQ below (Qi g .int (m_X8_poolOf (v0_marks, v0_weights, v0_places, v0_aboves, v0_belows, (v0_reduced_above, v0_reduced_below), v0_papers) (v1_raws, v1_kinds, v1_figures, v1_heavies, v1_places, v1_papers, v1_lowers, v1_uppers, v1_rules, v1_bounds, v1_boundCount, v1_tieWay, v1_reached) p2) (fun u => u) (fun u => wX8 a0 g v0_marks v0_weights v0_places v0_aboves v0_belows v0_reduced_above v0_reduced_below v0_papers ++ wX6 a1 g v1_raws v1_kinds v1_figures v1_heavies v1_places v1_papers v1_lowers v1_uppers v1_rules v1_bounds v1_boundCount v1_tieWay v1_reached) A) [.ref (a0 0), .ref (a1 0), .int p2].toArray s 0 0 A) (F0 m 14 ls [])) (E := fun r30 => ∀ (H : Heap) (locs : List Loc) (ls : Array Slot), va_P g.1 vwCl (wX8 a0 g v0_marks v0_weights v0_places v0_aboves v0_belows v0_reduced_above v0_reduced_below v0_papers ++ wX6 a1 g v1_raws v1_kinds v1_figures v1_heavies v1_places v1_papers v1_lowers v1_uppers v1_rules v1_bounds v1_boundCount v1_tieWay v1_reached) H → va_D A (wX8 a0 g v0_marks v0_weights v0_places v0_aboves v0_belows v0_reduced_above v0_reduced_below v0_papers ++ wX6 a1 g v1_raws v1_kinds v1_figures v1_heavies v1_places v1_papers v1_lowers v1_uppers v1_rules v1_bounds v1_boundCount v1_tieWay v1_reached) → va_S A s.heap H locs → lv_has ls 8 [(4, .int r30)] → W p l e { frames := 4, cells := 0, slots := 0, locals := 89 } s m [.ref (a0 0), .ref (a1 0), .int p2].toArray below meth c H locs 0 0 (MQ below (Qi g .int (m_X8_poolOf (v0_marks, v0_weights, v0_places, v0_aboves, v0_belows, (v0_reduced_above, v0_reduced_below), v0_papers) (v1_raws, v1_kinds, v1_figures, v1_heavies, v1_places, v1_papers, v1_lowers, v1_uppers, v1_rules, v1_bounds, v1_boundCount, v1_tieWay, v1_reached) p2) (fun u => u) (fun u => wX8 a0 g v0_marks v0_weights v0_places v0_aboves v0_belows v0_reduced_above v0_reduced_below v0_papers ++ wX6 a1 g v1_raws v1_kinds v1_figures v1_heavies v1_places v1_papers v1_lowers v1_uppers v1_rules v1_bounds v1_boundCount v1_tieWay v1_reached) A) [.ref (a0 0), .ref (a1 0), .int p2].toArray s 0 0 A) (F0 m 90 ls [])) ?_ fu _ r30 er30 ?_ _ _ _ hP hD hS (lv_sub hl [3, 4, 2, 1, 0] rfl)
  · rintro ⟨x15, x16⟩ y hf hB hXt H locs ls hP hD hS hl
    have hP : va_P g.1 vwCl (wX8 a0 g v0_marks v0_weights v0_places v0_aboves v0_belows v0_reduced_above v0_reduced_below v0_papers ++ wX6 a1 g v1_raws v1_kinds v1_figures v1_heavies v1_places v1_papers v1_lowers v1_uppers v1_rules v1_bounds v1_boundCount v1_tieWay v1_reached) H := hP
    have hD : va_D A (wX8 a0 g v0_marks v0_weights v0_places v0_aboves v0_belows v0_reduced_above v0_reduced_below v0_papers ++ wX6 a1 g v1_raws v1_kinds v1_figures v1_heavies v1_places v1_papers v1_lowers v1_uppers v1_rules v1_bounds v1_boundCount v1_tieWay v1_reached) := hD
    have hl : lv_has ls 8 [(0, .ref (a0 0)), (1, .ref (a1 0)), (3, .int x1), (4, .int x15), (5, .int x16)] := hl
    have hf : m_X8_poolOf_l14 (v0_marks, v0_weights, v0_places, v0_aboves, v0_belows, (v0_reduced_above, v0_reduced_below), v0_papers) (v1_raws, v1_kinds, v1_figures, v1_heavies, v1_places, v1_papers, v1_lowers, v1_uppers, v1_rules, v1_bounds, v1_boundCount, v1_tieWay, v1_reached) x1 x15 x16 = some y := hf
    unfold m_X8_poolOf_l14 at hf
    refine lv_iload hx hb dX8_poolOf_14 (lv_at hl 4 rfl) ?_
    refine lv_aload_n hx hb dX8_poolOf_16 rfl (lv_at hl 0 rfl) ?_
    refine va_get (D := g.1) (ci := 9) (v := .int v0_papers) (C := RX8) (T := TX8) (N := 7) hx hb hts layX8 hown hK.1 hP 0 rfl rfl 6 (by decide) (hts _ kw157) (fun _ h9 => h9) rfl dX8_poolOf_17 ?_
    refine lv_icmp_ge (tgt := 90) hx hb dX8_poolOf_20 (by decide) (fun cb => ?_) (fun cb => ?_)
    · have hf := it_t cb hf
      exact hXt _ (Option.some.inj hf).symm _ _ _ hP hD hS (lv_sub hl [3] rfl)
    have hf := it_f cb hf
    refine lv_iconst (v := 0) hx hb dX8_poolOf_23 (by decide) ?_
    refine lv_istore (lv' := [(6, .int (0 : Int32)), (0, .ref (a0 0)), (1, .ref (a1 0)), (3, .int x1), (4, .int x15), (5, .int x16)]) hx hb dX8_poolOf_24 hl (by decide) rfl (fun ls hl => ?_)
    obtain ⟨r29, er29, hf⟩ := bnd hf
    refine lp_W (P := fun z => ∀ (H : Heap) (locs : List Loc) (ls : Array Slot), va_P g.1 vwCl (wX8 a0 g v0_marks v0_weights v0_places v0_aboves v0_belows v0_reduced_above v0_reduced_below v0_papers ++ wX6 a1 g v1_raws v1_kinds v1_figures v1_heavies v1_places v1_papers v1_lowers v1_uppers v1_rules v1_bounds v1_boundCount v1_tieWay v1_reached) H → va_D A (wX8 a0 g v0_marks v0_weights v0_places v0_aboves v0_belows v0_reduced_above v0_reduced_below v0_papers ++ wX6 a1 g v1_raws v1_kinds v1_figures v1_heavies v1_places v1_papers v1_lowers v1_uppers v1_rules v1_bounds v1_boundCount v1_tieWay v1_reached) → va_S A s.heap H locs → lv_has ls 8 [(0, .ref (a0 0)), (1, .ref (a1 0)), (3, .int x1), (4, .int z.1), (5, .int x16), (6, .int z.2)] → W p l e { frames := 4, cells := 0, slots := 0, locals := 89 } s m [.ref (a0 0), .ref (a1 0), .int p2].toArray below meth c H locs 0 0 (MQ below (Qi g .int (m_X8_poolOf (v0_marks, v0_weights, v0_places, v0_aboves, v0_belows, (v0_reduced_above, v0_reduced_below), v0_papers) (v1_raws, v1_kinds, v1_figures, v1_heavies, v1_places, v1_papers, v1_lowers, v1_uppers, v1_rules, v1_bounds, v1_boundCount, v1_tieWay, v1_reached) p2) (fun u => u) (fun u => wX8 a0 g v0_marks v0_weights v0_places v0_aboves v0_belows v0_reduced_above v0_reduced_below v0_papers ++ wX6 a1 g v1_raws v1_kinds v1_figures v1_heavies v1_places v1_papers v1_lowers v1_uppers v1_rules v1_bounds v1_boundCount v1_tieWay v1_reached) A) [.ref (a0 0), .ref (a1 0), .int p2].toArray s 0 0 A) (F0 m 26 ls [])) (E := fun r29 => ∀ (H : Heap) (locs : List Loc) (ls : Array Slot), va_P g.1 vwCl (wX8 a0 g v0_marks v0_weights v0_places v0_aboves v0_belows v0_reduced_above v0_reduced_below v0_papers ++ wX6 a1 g v1_raws v1_kinds v1_figures v1_heavies v1_places v1_papers v1_lowers v1_uppers v1_rules v1_bounds v1_boundCount v1_tieWay v1_reached) H → va_D A (wX8 a0 g v0_marks v0_weights v0_places v0_aboves v0_belows v0_reduced_above v0_reduced_below v0_papers ++ wX6 a1 g v1_raws v1_kinds v1_figures v1_heavies v1_places v1_papers v1_lowers v1_uppers v1_rules v1_bounds v1_boundCount v1_tieWay v1_reached) → va_S A s.heap H locs → lv_has ls 8 [(0, .ref (a0 0)), (1, .ref (a1 0)), (3, .int x1), (4, .int r29), (5, .int x16)] → W p l e { frames := 4, cells := 0, slots := 0, locals := 89 } s m [.ref (a0 0), .ref (a1 0), .int p2].toArray below meth c H locs 0 0 (MQ below (Qi g .int (m_X8_poolOf (v0_marks, v0_weights, v0_places, v0_aboves, v0_belows, (v0_reduced_above, v0_reduced_below), v0_papers) (v1_raws, v1_kinds, v1_figures, v1_heavies, v1_places, v1_papers, v1_lowers, v1_uppers, v1_rules, v1_bounds, v1_boundCount, v1_tieWay, v1_reached) p2) (fun u => u) (fun u => wX8 a0 g v0_marks v0_weights v0_places v0_aboves v0_belows v0_reduced_above v0_reduced_below v0_papers ++ wX6 a1 g v1_raws v1_kinds v1_figures v1_heavies v1_places v1_papers v1_lowers v1_uppers v1_rules v1_bounds v1_boundCount v1_tieWay v1_reached) A) [.ref (a0 0), .ref (a1 0), .int p2].toArray s 0 0 A) (F0 m 84 ls [])) ?_ fu _ r29 er29 ?_ _ _ _ hP hD hS (lv_sub hl [1, 2, 3, 4, 5, 0] rfl)
    · rintro ⟨x22, x23⟩ y hf hB hXt H locs ls hP hD hS hl
      have hP : va_P g.1 vwCl (wX8 a0 g v0_marks v0_weights v0_places v0_aboves v0_belows v0_reduced_above v0_reduced_below v0_papers ++ wX6 a1 g v1_raws v1_kinds v1_figures v1_heavies v1_places v1_papers v1_lowers v1_uppers v1_rules v1_bounds v1_boundCount v1_tieWay v1_reached) H := hP
      have hD : va_D A (wX8 a0 g v0_marks v0_weights v0_places v0_aboves v0_belows v0_reduced_above v0_reduced_below v0_papers ++ wX6 a1 g v1_raws v1_kinds v1_figures v1_heavies v1_places v1_papers v1_lowers v1_uppers v1_rules v1_bounds v1_boundCount v1_tieWay v1_reached) := hD
      have hl : lv_has ls 8 [(0, .ref (a0 0)), (1, .ref (a1 0)), (3, .int x1), (4, .int x22), (5, .int x16), (6, .int x23)] := hl
      have hf : m_X8_poolOf_l26_2 (v1_raws, v1_kinds, v1_figures, v1_heavies, v1_places, v1_papers, v1_lowers, v1_uppers, v1_rules, v1_bounds, v1_boundCount, v1_tieWay, v1_reached) x1 x22 x23 = some y := hf
      unfold m_X8_poolOf_l26_2 at hf
      refine lv_iload hx hb dX8_poolOf_26 (lv_at hl 5 rfl) ?_
      refine lv_aload_n hx hb dX8_poolOf_28 rfl (lv_at hl 1 rfl) ?_
      refine cIp hP hD hS hA hE (fun hPc hDc hSc => rV (As := []) (rest := [.int x23]) hx hb hml hown hts hK (c_X6_ruleCount l g a1 v1_raws v1_kinds v1_figures v1_heavies v1_places v1_papers v1_lowers v1_uppers v1_rules v1_bounds v1_boundCount v1_tieWay v1_reached (bnd_ne hf)) svV_X6_ruleCount kw844 rfl rfl hPc hDc hSc rfl rfl hl.1 (Nat.le_of_ble_eq_true rfl) dX8_poolOf_29 ⟨Nat.le_of_ble_eq_true rfl, Nat.le_of_ble_eq_true rfl, rfl, rfl, Nat.le_of_ble_eq_true rfl, Nat.le_of_ble_eq_true rfl⟩) [(12, 19)] rfl rfl rfl (fun x24 H locs ex24 nx24 hP hS => ?_)
      have hf := bnd_of hf ex24
      refine lv_icmp_ge (tgt := 84) hx hb dX8_poolOf_32 (by decide) (fun cb => ?_) (fun cb => ?_)
      · have hf := it_t cb hf
        exact hXt _ (Option.some.inj hf).symm _ _ _ hP hD hS (lv_sub hl [0, 1, 2, 3, 4] rfl)
      have hf := it_f cb hf
      refine lv_iconst (v := 1) hx hb dX8_poolOf_35 (by decide) ?_
      refine lv_aload_n hx hb dX8_poolOf_36 rfl (lv_at hl 1 rfl) ?_
      refine lv_iload hx hb dX8_poolOf_37 (lv_at hl 5 rfl) ?_
      refine cIp hP hD hS hA hE (fun hPc hDc hSc => rV (As := [.int x23]) (rest := [.int (1 : Int32)]) hx hb hml hown hts hK (c_X6_lowerOf l g a1 v1_raws v1_kinds v1_figures v1_heavies v1_places v1_papers v1_lowers v1_uppers v1_rules v1_bounds v1_boundCount v1_tieWay v1_reached x23 (bnd_ne hf)) svV_X6_lowerOf kw848 rfl rfl hPc hDc hSc rfl rfl hl.1 (Nat.le_of_ble_eq_true rfl) dX8_poolOf_39 ⟨Nat.le_of_ble_eq_true rfl, Nat.le_of_ble_eq_true rfl, rfl, rfl, Nat.le_of_ble_eq_true rfl, Nat.le_of_ble_eq_true rfl⟩) [(12, 19)] rfl rfl rfl (fun x25 H locs ex25 nx25 hP hS => ?_)
      have hf := bnd_of hf ex25
      refine lv_ishl hx hb dX8_poolOf_42 ?_
      refine lv_iconst (v := 1) hx hb dX8_poolOf_43 (by decide) ?_
      refine lv_aload_n hx hb dX8_poolOf_44 rfl (lv_at hl 1 rfl) ?_
      refine lv_iload hx hb dX8_poolOf_45 (lv_at hl 5 rfl) ?_
      refine cIp hP hD hS hA hE (fun hPc hDc hSc => rV (As := [.int x23]) (rest := [.int (1 : Int32), .int ((1 : Int32) <<< (x25 &&& 31))]) hx hb hml hown hts hK (c_X6_upperOf l g a1 v1_raws v1_kinds v1_figures v1_heavies v1_places v1_papers v1_lowers v1_uppers v1_rules v1_bounds v1_boundCount v1_tieWay v1_reached x23 (bnd_ne hf)) svV_X6_upperOf kw849 rfl rfl hPc hDc hSc rfl rfl hl.1 (Nat.le_of_ble_eq_true rfl) dX8_poolOf_47 ⟨Nat.le_of_ble_eq_true rfl, Nat.le_of_ble_eq_true rfl, rfl, rfl, Nat.le_of_ble_eq_true rfl, Nat.le_of_ble_eq_true rfl⟩) [(12, 19)] rfl rfl rfl (fun x26 H locs ex26 nx26 hP hS => ?_)
      have hf := bnd_of hf ex26
      refine lv_ishl hx hb dX8_poolOf_50 ?_
      refine lv_ior hx hb dX8_poolOf_51 ?_
      obtain ⟨x27, ex27, hf⟩ := bnd hf
      refine nmI (Option.some.inj ex27) ?_
      refine lv_istore (lv' := [(7, .int x27), (0, .ref (a0 0)), (1, .ref (a1 0)), (3, .int x1), (4, .int x22), (5, .int x16), (6, .int x23)]) hx hb dX8_poolOf_52 hl (by decide) rfl (fun ls hl => ?_)
      refine lv_iload_n hx hb dX8_poolOf_54 rfl (lv_at hl 3 rfl) ?_
      refine lv_iload hx hb dX8_poolOf_55 (lv_at hl 6 rfl) ?_
      refine cIp hP hD hS hA hE (fun hPc hDc hSc => rSN (As := [.int x1, .int x23]) (rest := []) hx hb hml hown hts hK (c_X9_hasBit l g x1 x23 (bnd_ne hf)) svS_X9_hasBit nw16 hPc hDc hSc rfl rfl hl.1 (Nat.le_of_ble_eq_true rfl) dX8_poolOf_57 ⟨Nat.le_of_ble_eq_true rfl, Nat.le_of_ble_eq_true rfl, rfl, rfl, Nat.le_of_ble_eq_true rfl, Nat.le_of_ble_eq_true rfl⟩) [] rfl rfl rfl (fun x28 H locs ex28 nx28 hP hS => ?_)
      have hf := bnd_of hf ex28
      refine lv_if_eq (tgt := 78) hx hb dX8_poolOf_60 (by decide) (fun cb => ?_) (fun cb => ?_)
      · have hf := it_t cb hf
        refine lv_iinc (v := (x23 + 1)) (lv' := [(6, .int (x23 + 1)), (7, .int x27), (0, .ref (a0 0)), (1, .ref (a1 0)), (3, .int x1), (4, .int x22), (5, .int x16)]) hx hb dX8_poolOf_78 hl (k := 6) rfl (by rfl) (by decide) rfl (fun ls hl => ?_)
        refine lv_goto (tgt := 26) hx hb dX8_poolOf_81 (by decide) ?_
        exact hB _ (Option.some.inj hf).symm _ _ _ hP hD hS (lv_sub hl [2, 3, 4, 5, 6, 0] rfl)
      have hf := it_f cb hf
      refine lv_iload hx hb dX8_poolOf_63 (lv_at hl 4 rfl) ?_
      refine lv_iload hx hb dX8_poolOf_65 (lv_at hl 0 rfl) ?_
      refine lv_iand hx hb dX8_poolOf_67 ?_
      refine lv_if_eq (tgt := 78) hx hb dX8_poolOf_68 (by decide) (fun cb => ?_) (fun cb => ?_)
      · have hf := it_t cb hf
        refine lv_iinc (v := (x23 + 1)) (lv' := [(6, .int (x23 + 1)), (7, .int x27), (0, .ref (a0 0)), (1, .ref (a1 0)), (3, .int x1), (4, .int x22), (5, .int x16)]) hx hb dX8_poolOf_78 hl (k := 6) rfl (by rfl) (by decide) rfl (fun ls hl => ?_)
        refine lv_goto (tgt := 26) hx hb dX8_poolOf_81 (by decide) ?_
        exact hB _ (Option.some.inj hf).symm _ _ _ hP hD hS (lv_sub hl [2, 3, 4, 5, 6, 0] rfl)
      have hf := it_f cb hf
      refine lv_iload hx hb dX8_poolOf_71 (lv_at hl 4 rfl) ?_
      refine lv_iload hx hb dX8_poolOf_73 (lv_at hl 0 rfl) ?_
      refine lv_ior hx hb dX8_poolOf_75 ?_
      refine lv_istore (lv' := [(4, .int (x22 ||| x27)), (7, .int x27), (0, .ref (a0 0)), (1, .ref (a1 0)), (3, .int x1), (5, .int x16), (6, .int x23)]) hx hb dX8_poolOf_76 hl (by decide) rfl (fun ls hl => ?_)
      refine lv_iinc (v := (x23 + 1)) (lv' := [(6, .int (x23 + 1)), (4, .int (x22 ||| x27)), (7, .int x27), (0, .ref (a0 0)), (1, .ref (a1 0)), (3, .int x1), (5, .int x16)]) hx hb dX8_poolOf_78 hl (k := 6) rfl (by rfl) (by decide) rfl (fun ls hl => ?_)
      refine lv_goto (tgt := 26) hx hb dX8_poolOf_81 (by decide) ?_
      exact hB _ (Option.some.inj hf).symm _ _ _ hP hD hS (lv_sub hl [3, 4, 5, 1, 6, 0] rfl)
    intro H locs ls hP hD hS hl
    have hP : va_P g.1 vwCl (wX8 a0 g v0_marks v0_weights v0_places v0_aboves v0_belows v0_reduced_above v0_reduced_below v0_papers ++ wX6 a1 g v1_raws v1_kinds v1_figures v1_heavies v1_places v1_papers v1_lowers v1_uppers v1_rules v1_bounds v1_boundCount v1_tieWay v1_reached) H := hP
    have hD : va_D A (wX8 a0 g v0_marks v0_weights v0_places v0_aboves v0_belows v0_reduced_above v0_reduced_below v0_papers ++ wX6 a1 g v1_raws v1_kinds v1_figures v1_heavies v1_places v1_papers v1_lowers v1_uppers v1_rules v1_bounds v1_boundCount v1_tieWay v1_reached) := hD
    have hl : lv_has ls 8 [(0, .ref (a0 0)), (1, .ref (a1 0)), (3, .int x1), (4, .int r29), (5, .int x16)] := hl
    refine lv_iinc (v := (x16 + 1)) (lv' := [(5, .int (x16 + 1)), (0, .ref (a0 0)), (1, .ref (a1 0)), (3, .int x1), (4, .int r29)]) hx hb dX8_poolOf_84 hl (k := 4) rfl (by rfl) (by decide) rfl (fun ls hl => ?_)
    refine lv_goto (tgt := 14) hx hb dX8_poolOf_87 (by decide) ?_
    exact hB _ (Option.some.inj hf).symm _ _ _ hP hD hS (lv_sub hl [1, 2, 3, 4, 0] rfl)
  intro H locs ls hP hD hS hl
  have hP : va_P g.1 vwCl (wX8 a0 g v0_marks v0_weights v0_places v0_aboves v0_belows v0_reduced_above v0_reduced_below v0_papers ++ wX6 a1 g v1_raws v1_kinds v1_figures v1_heavies v1_places v1_papers v1_lowers v1_uppers v1_rules v1_bounds v1_boundCount v1_tieWay v1_reached) H := hP
  have hD : va_D A (wX8 a0 g v0_marks v0_weights v0_places v0_aboves v0_belows v0_reduced_above v0_reduced_below v0_papers ++ wX6 a1 g v1_raws v1_kinds v1_figures v1_heavies v1_places v1_papers v1_lowers v1_uppers v1_rules v1_bounds v1_boundCount v1_tieWay v1_reached) := hD
  have hl : lv_has ls 8 [(4, .int r30)] := hl
  refine lv_iload hx hb dX8_poolOf_90 (lv_at hl 0 rfl) ?_
  exact retI (v := r30) (u := r30) (val := fun u => u) (W1 := fun u => wX8 a0 g v0_marks v0_weights v0_places v0_aboves v0_belows v0_reduced_above v0_reduced_below v0_papers ++ wX6 a1 g v1_raws v1_kinds v1_figures v1_heavies v1_places v1_papers v1_lowers v1_uppers v1_rules v1_bounds v1_boundCount v1_tieWay v1_reached) hx hb hr hlocks hS hP hD (hf0.trans hf.symm) rfl rfl dX8_poolOf_92
set_option maxHeartbeats 4000000 in
set_option maxRecDepth 100000 in
theorem c_X8_pooledPapers (l : Launch) (g : GG) (a0 : Nat → Nat) (v0_marks : (Nat → Int32)) (v0_weights : (Nat → Int32)) (v0_places : (Nat → Int32)) (v0_aboves : (Nat → Int32)) (v0_belows : (Nat → Int32)) (v0_reduced_above : Int64) (v0_reduced_below : Int64) (v0_papers : Int32) (a1 : Nat → Nat) (v1_raws : (Nat → Int32)) (v1_kinds : (Nat → Int32)) (v1_figures : (Nat → Int32)) (v1_heavies : (Nat → Int32)) (v1_places : (Nat → Int32)) (v1_papers : Int32) (v1_lowers : (Nat → Int32)) (v1_uppers : (Nat → Int32)) (v1_rules : Int32) (v1_bounds : (Nat → Int32)) (v1_boundCount : Int32) (v1_tieWay : Int32) (v1_reached : (Nat → Int32)) (hne : (m_X8_pooledPapers (v0_marks, v0_weights, v0_places, v0_aboves, v0_belows, (v0_reduced_above, v0_reduced_below), v0_papers) (v1_raws, v1_kinds, v1_figures, v1_heavies, v1_places, v1_papers, v1_lowers, v1_uppers, v1_rules, v1_bounds, v1_boundCount, v1_tieWay, v1_reached)) ≠ none) : Ct l g yX8_pooledPapers cX8_pooledPapers 4 (some .int) ({ frames := 3, cells := 0, slots := 0, locals := 66 } : Room) [.ref (a0 0), .ref (a1 0)] (wX8 a0 g v0_marks v0_weights v0_places v0_aboves v0_belows v0_reduced_above v0_reduced_below v0_papers ++ wX6 a1 g v1_raws v1_kinds v1_figures v1_heavies v1_places v1_papers v1_lowers v1_uppers v1_rules v1_bounds v1_boundCount v1_tieWay v1_reached) (Qi g .int (m_X8_pooledPapers (v0_marks, v0_weights, v0_places, v0_aboves, v0_belows, (v0_reduced_above, v0_reduced_below), v0_papers) (v1_raws, v1_kinds, v1_figures, v1_heavies, v1_places, v1_papers, v1_lowers, v1_uppers, v1_rules, v1_bounds, v1_boundCount, v1_tieWay, v1_reached)) (fun u => u) (fun u => wX8 a0 g v0_marks v0_weights v0_places v0_aboves v0_belows v0_reduced_above v0_reduced_below v0_papers ++ wX6 a1 g v1_raws v1_kinds v1_figures v1_heavies v1_places v1_papers v1_lowers v1_uppers v1_rules v1_bounds v1_boundCount v1_tieWay v1_reached)) 0 0 := by
  obtain ⟨out, hf⟩ := ne_ex hne
  have hf0 := hf
  refine Ct.of (own := RX8) (by decide +kernel) rfl (Nat.le_of_ble_eq_true rfl) ?_
  intro p e s m below meth c hx hb hr hml hown hts hlocks hin hK A H locs hA hP hD hS hE ls hl
  have hl : lv_has ls 4 [(0, .ref (a0 0)), (1, .ref (a1 0))] := hl
  unfold m_X8_pooledPapers at hf
  refine lv_iconst (v := 0) hx hb dX8_pooledPapers_0 (by decide) ?_
  refine lv_istore_n (lv' := [(2, .int (0 : Int32)), (0, .ref (a0 0)), (1, .ref (a1 0))]) hx hb dX8_pooledPapers_1 rfl hl (by decide) rfl (fun ls hl => ?_)
  refine lv_iconst (v := 0) hx hb dX8_pooledPapers_2 (by decide) ?_
  refine lv_istore_n (lv' := [(3, .int (0 : Int32)), (2, .int (0 : Int32)), (0, .ref (a0 0)), (1, .ref (a1 0))]) hx hb dX8_pooledPapers_3 rfl hl (by decide) rfl (fun ls hl => ?_)
  obtain ⟨r13, er13, hf⟩ := bnd hf
  refine lp_W (P := fun z => ∀ (H : Heap) (locs : List Loc) (ls : Array Slot), va_P g.1 vwCl (wX8 a0 g v0_marks v0_weights v0_places v0_aboves v0_belows v0_reduced_above v0_reduced_below v0_papers ++ wX6 a1 g v1_raws v1_kinds v1_figures v1_heavies v1_places v1_papers v1_lowers v1_uppers v1_rules v1_bounds v1_boundCount v1_tieWay v1_reached) H → va_D A (wX8 a0 g v0_marks v0_weights v0_places v0_aboves v0_belows v0_reduced_above v0_reduced_below v0_papers ++ wX6 a1 g v1_raws v1_kinds v1_figures v1_heavies v1_places v1_papers v1_lowers v1_uppers v1_rules v1_bounds v1_boundCount v1_tieWay v1_reached) → va_S A s.heap H locs → lv_has ls 4 [(0, .ref (a0 0)), (1, .ref (a1 0)), (2, .int z.1), (3, .int z.2)] → W p l e { frames := 3, cells := 0, slots := 0, locals := 66 } s m [.ref (a0 0), .ref (a1 0)].toArray below meth c H locs 0 0 (MQ below (Qi g .int (m_X8_pooledPapers (v0_marks, v0_weights, v0_places, v0_aboves, v0_belows, (v0_reduced_above, v0_reduced_below), v0_papers) (v1_raws, v1_kinds, v1_figures, v1_heavies, v1_places, v1_papers, v1_lowers, v1_uppers, v1_rules, v1_bounds, v1_boundCount, v1_tieWay, v1_reached)) (fun u => u) (fun u => wX8 a0 g v0_marks v0_weights v0_places v0_aboves v0_belows v0_reduced_above v0_reduced_below v0_papers ++ wX6 a1 g v1_raws v1_kinds v1_figures v1_heavies v1_places v1_papers v1_lowers v1_uppers v1_rules v1_bounds v1_boundCount v1_tieWay v1_reached) A) [.ref (a0 0), .ref (a1 0)].toArray s 0 0 A) (F0 m 4 ls [])) (E := fun r13 => ∀ (H : Heap) (locs : List Loc) (ls : Array Slot), va_P g.1 vwCl (wX8 a0 g v0_marks v0_weights v0_places v0_aboves v0_belows v0_reduced_above v0_reduced_below v0_papers ++ wX6 a1 g v1_raws v1_kinds v1_figures v1_heavies v1_places v1_papers v1_lowers v1_uppers v1_rules v1_bounds v1_boundCount v1_tieWay v1_reached) H → va_D A (wX8 a0 g v0_marks v0_weights v0_places v0_aboves v0_belows v0_reduced_above v0_reduced_below v0_papers ++ wX6 a1 g v1_raws v1_kinds v1_figures v1_heavies v1_places v1_papers v1_lowers v1_uppers v1_rules v1_bounds v1_boundCount v1_tieWay v1_reached) → va_S A s.heap H locs → lv_has ls 4 [(2, .int r13)] → W p l e { frames := 3, cells := 0, slots := 0, locals := 66 } s m [.ref (a0 0), .ref (a1 0)].toArray below meth c H locs 0 0 (MQ below (Qi g .int (m_X8_pooledPapers (v0_marks, v0_weights, v0_places, v0_aboves, v0_belows, (v0_reduced_above, v0_reduced_below), v0_papers) (v1_raws, v1_kinds, v1_figures, v1_heavies, v1_places, v1_papers, v1_lowers, v1_uppers, v1_rules, v1_bounds, v1_boundCount, v1_tieWay, v1_reached)) (fun u => u) (fun u => wX8 a0 g v0_marks v0_weights v0_places v0_aboves v0_belows v0_reduced_above v0_reduced_below v0_papers ++ wX6 a1 g v1_raws v1_kinds v1_figures v1_heavies v1_places v1_papers v1_lowers v1_uppers v1_rules v1_bounds v1_boundCount v1_tieWay v1_reached) A) [.ref (a0 0), .ref (a1 0)].toArray s 0 0 A) (F0 m 45 ls [])) ?_ fu _ r13 er13 ?_ _ _ _ hP hD hS (lv_sub hl [2, 3, 1, 0] rfl)
  · rintro ⟨x6, x7⟩ y hf hB hXt H locs ls hP hD hS hl
    have hP : va_P g.1 vwCl (wX8 a0 g v0_marks v0_weights v0_places v0_aboves v0_belows v0_reduced_above v0_reduced_below v0_papers ++ wX6 a1 g v1_raws v1_kinds v1_figures v1_heavies v1_places v1_papers v1_lowers v1_uppers v1_rules v1_bounds v1_boundCount v1_tieWay v1_reached) H := hP
    have hD : va_D A (wX8 a0 g v0_marks v0_weights v0_places v0_aboves v0_belows v0_reduced_above v0_reduced_below v0_papers ++ wX6 a1 g v1_raws v1_kinds v1_figures v1_heavies v1_places v1_papers v1_lowers v1_uppers v1_rules v1_bounds v1_boundCount v1_tieWay v1_reached) := hD
    have hl : lv_has ls 4 [(0, .ref (a0 0)), (1, .ref (a1 0)), (2, .int x6), (3, .int x7)] := hl
    have hf : m_X8_pooledPapers_l4 (v0_marks, v0_weights, v0_places, v0_aboves, v0_belows, (v0_reduced_above, v0_reduced_below), v0_papers) (v1_raws, v1_kinds, v1_figures, v1_heavies, v1_places, v1_papers, v1_lowers, v1_uppers, v1_rules, v1_bounds, v1_boundCount, v1_tieWay, v1_reached) x6 x7 = some y := hf
    unfold m_X8_pooledPapers_l4 at hf
    refine lv_iload_n hx hb dX8_pooledPapers_4 rfl (lv_at hl 3 rfl) ?_
    refine lv_aload_n hx hb dX8_pooledPapers_5 rfl (lv_at hl 1 rfl) ?_
    refine cIp hP hD hS hA hE (fun hPc hDc hSc => rV (As := []) (rest := [.int x7]) hx hb hml hown hts hK (c_X6_ruleCount l g a1 v1_raws v1_kinds v1_figures v1_heavies v1_places v1_papers v1_lowers v1_uppers v1_rules v1_bounds v1_boundCount v1_tieWay v1_reached (bnd_ne hf)) svV_X6_ruleCount kw844 rfl rfl hPc hDc hSc rfl rfl hl.1 (Nat.le_of_ble_eq_true rfl) dX8_pooledPapers_6 ⟨Nat.le_of_ble_eq_true rfl, Nat.le_of_ble_eq_true rfl, rfl, rfl, Nat.le_of_ble_eq_true rfl, Nat.le_of_ble_eq_true rfl⟩) [(12, 19)] rfl rfl rfl (fun x8 H locs ex8 nx8 hP hS => ?_)
    have hf := bnd_of hf ex8
    refine lv_icmp_ge (tgt := 45) hx hb dX8_pooledPapers_9 (by decide) (fun cb => ?_) (fun cb => ?_)
    · have hf := it_t cb hf
      exact hXt _ (Option.some.inj hf).symm _ _ _ hP hD hS (lv_sub hl [2] rfl)
    have hf := it_f cb hf
    refine lv_aload_n hx hb dX8_pooledPapers_12 rfl (lv_at hl 0 rfl) ?_
    refine lv_aload_n hx hb dX8_pooledPapers_13 rfl (lv_at hl 1 rfl) ?_
    refine lv_iload_n hx hb dX8_pooledPapers_14 rfl (lv_at hl 3 rfl) ?_
    refine cIp hP hD hS hA hE (fun hPc hDc hSc => rV (As := [.ref (a1 0), .int x7]) (rest := []) hx hb hml hown hts hK (c_X8_doesBind l g a0 v0_marks v0_weights v0_places v0_aboves v0_belows v0_reduced_above v0_reduced_below v0_papers a1 v1_raws v1_kinds v1_figures v1_heavies v1_places v1_papers v1_lowers v1_uppers v1_rules v1_bounds v1_boundCount v1_tieWay v1_reached x7 (bnd_ne hf)) svV_X8_doesBind kw922 rfl rfl hPc hDc hSc rfl rfl hl.1 (Nat.le_of_ble_eq_true rfl) dX8_pooledPapers_15 ⟨Nat.le_of_ble_eq_true rfl, Nat.le_of_ble_eq_true rfl, rfl, rfl, Nat.le_of_ble_eq_true rfl, Nat.le_of_ble_eq_true rfl⟩) [(0, 12), (12, 19)] rfl rfl rfl (fun x9 H locs ex9 nx9 hP hS => ?_)
    have hf := bnd_of hf ex9
    refine lv_if_eq (tgt := 39) hx hb dX8_pooledPapers_18 (by decide) (fun cb => ?_) (fun cb => ?_)
    · have hf := it_t cb hf
      refine lv_iinc (v := (x7 + 1)) (lv' := [(3, .int (x7 + 1)), (0, .ref (a0 0)), (1, .ref (a1 0)), (2, .int x6)]) hx hb dX8_pooledPapers_39 hl (k := 3) rfl (by rfl) (by decide) rfl (fun ls hl => ?_)
      refine lv_goto (tgt := 4) hx hb dX8_pooledPapers_42 (by decide) ?_
      exact hB _ (Option.some.inj hf).symm _ _ _ hP hD hS (lv_sub hl [1, 2, 3, 0] rfl)
    have hf := it_f cb hf
    refine lv_iload_n hx hb dX8_pooledPapers_21 rfl (lv_at hl 2 rfl) ?_
    refine lv_iconst (v := 1) hx hb dX8_pooledPapers_22 (by decide) ?_
    refine lv_aload_n hx hb dX8_pooledPapers_23 rfl (lv_at hl 1 rfl) ?_
    refine lv_iload_n hx hb dX8_pooledPapers_24 rfl (lv_at hl 3 rfl) ?_
    refine cIp hP hD hS hA hE (fun hPc hDc hSc => rV (As := [.int x7]) (rest := [.int (1 : Int32), .int x6]) hx hb hml hown hts hK (c_X6_lowerOf l g a1 v1_raws v1_kinds v1_figures v1_heavies v1_places v1_papers v1_lowers v1_uppers v1_rules v1_bounds v1_boundCount v1_tieWay v1_reached x7 (bnd_ne hf)) svV_X6_lowerOf kw848 rfl rfl hPc hDc hSc rfl rfl hl.1 (Nat.le_of_ble_eq_true rfl) dX8_pooledPapers_25 ⟨Nat.le_of_ble_eq_true rfl, Nat.le_of_ble_eq_true rfl, rfl, rfl, Nat.le_of_ble_eq_true rfl, Nat.le_of_ble_eq_true rfl⟩) [(12, 19)] rfl rfl rfl (fun x10 H locs ex10 nx10 hP hS => ?_)
    have hf := bnd_of hf ex10
    refine lv_ishl hx hb dX8_pooledPapers_28 ?_
    refine lv_iconst (v := 1) hx hb dX8_pooledPapers_29 (by decide) ?_
    refine lv_aload_n hx hb dX8_pooledPapers_30 rfl (lv_at hl 1 rfl) ?_
    refine lv_iload_n hx hb dX8_pooledPapers_31 rfl (lv_at hl 3 rfl) ?_
    refine cIp hP hD hS hA hE (fun hPc hDc hSc => rV (As := [.int x7]) (rest := [.int (1 : Int32), .int ((1 : Int32) <<< (x10 &&& 31)), .int x6]) hx hb hml hown hts hK (c_X6_upperOf l g a1 v1_raws v1_kinds v1_figures v1_heavies v1_places v1_papers v1_lowers v1_uppers v1_rules v1_bounds v1_boundCount v1_tieWay v1_reached x7 (bnd_ne hf)) svV_X6_upperOf kw849 rfl rfl hPc hDc hSc rfl rfl hl.1 (Nat.le_of_ble_eq_true rfl) dX8_pooledPapers_32 ⟨Nat.le_of_ble_eq_true rfl, Nat.le_of_ble_eq_true rfl, rfl, rfl, Nat.le_of_ble_eq_true rfl, Nat.le_of_ble_eq_true rfl⟩) [(12, 19)] rfl rfl rfl (fun x11 H locs ex11 nx11 hP hS => ?_)
    have hf := bnd_of hf ex11
    refine lv_ishl hx hb dX8_pooledPapers_35 ?_
    refine lv_ior hx hb dX8_pooledPapers_36 ?_
    refine lv_ior hx hb dX8_pooledPapers_37 ?_
    obtain ⟨x12, ex12, hf⟩ := bnd hf
    refine nmI (Option.some.inj ex12) ?_
    refine lv_istore_n (lv' := [(2, .int x12), (0, .ref (a0 0)), (1, .ref (a1 0)), (3, .int x7)]) hx hb dX8_pooledPapers_38 rfl hl (by decide) rfl (fun ls hl => ?_)
    refine lv_iinc (v := (x7 + 1)) (lv' := [(3, .int (x7 + 1)), (2, .int x12), (0, .ref (a0 0)), (1, .ref (a1 0))]) hx hb dX8_pooledPapers_39 hl (k := 3) rfl (by rfl) (by decide) rfl (fun ls hl => ?_)
    refine lv_goto (tgt := 4) hx hb dX8_pooledPapers_42 (by decide) ?_
    exact hB _ (Option.some.inj hf).symm _ _ _ hP hD hS (lv_sub hl [2, 3, 1, 0] rfl)
  intro H locs ls hP hD hS hl
  have hP : va_P g.1 vwCl (wX8 a0 g v0_marks v0_weights v0_places v0_aboves v0_belows v0_reduced_above v0_reduced_below v0_papers ++ wX6 a1 g v1_raws v1_kinds v1_figures v1_heavies v1_places v1_papers v1_lowers v1_uppers v1_rules v1_bounds v1_boundCount v1_tieWay v1_reached) H := hP
  have hD : va_D A (wX8 a0 g v0_marks v0_weights v0_places v0_aboves v0_belows v0_reduced_above v0_reduced_below v0_papers ++ wX6 a1 g v1_raws v1_kinds v1_figures v1_heavies v1_places v1_papers v1_lowers v1_uppers v1_rules v1_bounds v1_boundCount v1_tieWay v1_reached) := hD
  have hl : lv_has ls 4 [(2, .int r13)] := hl
  refine lv_iload_n hx hb dX8_pooledPapers_45 rfl (lv_at hl 0 rfl) ?_
  refine cIp hP hD hS hA hE (fun hPc hDc hSc => rS (As := [.int r13]) (rest := []) hx hb hml hown hts hK (c_J6_bitCount_0f7a4 l g r13 (bnd_ne hf)) svS_J6_bitCount_0f7a4 kw1180 hPc hDc hSc rfl rfl hl.1 (Nat.le_of_ble_eq_true rfl) dX8_pooledPapers_46 ⟨Nat.le_of_ble_eq_true rfl, Nat.le_of_ble_eq_true rfl, rfl, rfl, Nat.le_of_ble_eq_true rfl, Nat.le_of_ble_eq_true rfl⟩) [] rfl rfl rfl (fun x14 H locs ex14 nx14 hP hS => ?_)
  have hf := bnd_of hf ex14
  exact retI (v := x14) (u := x14) (val := fun u => u) (W1 := fun u => wX8 a0 g v0_marks v0_weights v0_places v0_aboves v0_belows v0_reduced_above v0_reduced_below v0_papers ++ wX6 a1 g v1_raws v1_kinds v1_figures v1_heavies v1_places v1_papers v1_lowers v1_uppers v1_rules v1_bounds v1_boundCount v1_tieWay v1_reached) hx hb hr hlocks hS hP hD (hf0.trans hf.symm) rfl rfl dX8_pooledPapers_49
set_option maxHeartbeats 4000000 in
set_option maxRecDepth 100000 in
theorem c_X0_fillSets (l : Launch) (g : GG) (a0 : Nat → Nat) (v0_values_marks : (Nat → Int32)) (v0_values_weights : (Nat → Int32)) (v0_values_places : (Nat → Int32)) (v0_values_aboves : (Nat → Int32)) (v0_values_belows : (Nat → Int32)) (v0_values_reduced_above : Int64) (v0_values_reduced_below : Int64) (v0_values_papers : Int32) (v0_order_overs : (Nat → Int32)) (v0_order_unders : (Nat → Int32)) (v0_order_marks : (Nat → Int32)) (v0_order_wrongs : (Nat → Int32)) (v0_order_papers : Int32) (v0_sums : (Nat → Int32)) (v0_weighs : (Nat → Int32)) (v0_downs : (Nat → Int32)) (hne : (m_X0_fillSets ((v0_values_marks, v0_values_weights, v0_values_places, v0_values_aboves, v0_values_belows, (v0_values_reduced_above, v0_values_reduced_below), v0_values_papers), (v0_order_overs, v0_order_unders, v0_order_marks, v0_order_wrongs, v0_order_papers), v0_sums, v0_weighs, v0_downs)) ≠ none) : Ct l g yX0_fillSets cX0_fillSets 5 none ({ frames := 2, cells := 0, slots := 0, locals := 42 } : Room) [.ref (a0 0)] (wX0 a0 g v0_values_marks v0_values_weights v0_values_places v0_values_aboves v0_values_belows v0_values_reduced_above v0_values_reduced_below v0_values_papers v0_order_overs v0_order_unders v0_order_marks v0_order_wrongs v0_order_papers v0_sums v0_weighs v0_downs) (Qv g (m_X0_fillSets ((v0_values_marks, v0_values_weights, v0_values_places, v0_values_aboves, v0_values_belows, (v0_values_reduced_above, v0_values_reduced_below), v0_values_papers), (v0_order_overs, v0_order_unders, v0_order_marks, v0_order_wrongs, v0_order_papers), v0_sums, v0_weighs, v0_downs)) (fun u => wX0 a0 g v0_values_marks v0_values_weights v0_values_places v0_values_aboves v0_values_belows v0_values_reduced_above v0_values_reduced_below v0_values_papers v0_order_overs v0_order_unders v0_order_marks v0_order_wrongs v0_order_papers u.1 u.2.1 u.2.2)) 0 0 := by
  obtain ⟨out, hf⟩ := ne_ex hne
  have hf0 := hf
  refine Ct.of (own := RX0) (by decide +kernel) rfl (Nat.le_of_ble_eq_true rfl) ?_
  intro p e s m below meth c hx hb hr hml hown hts hlocks hin hK A H locs hA hP hD hS hE ls hl
  have hl : lv_has ls 5 [(0, .ref (a0 0))] := hl
  unfold m_X0_fillSets at hf
  refine lv_iconst (v := 0) hx hb dX0_fillSets_0 (by decide) ?_
  refine lv_istore_n (lv' := [(1, .int (0 : Int32)), (0, .ref (a0 0))]) hx hb dX0_fillSets_1 rfl hl (by decide) rfl (fun ls hl => ?_)
  obtain ⟨r51, er51, hf⟩ := bnd hf
  refine lp_W (P := fun z => ∀ (H : Heap) (locs : List Loc) (ls : Array Slot), va_P g.1 vwCl (wX0 a0 g v0_values_marks v0_values_weights v0_values_places v0_values_aboves v0_values_belows v0_values_reduced_above v0_values_reduced_below v0_values_papers v0_order_overs v0_order_unders v0_order_marks v0_order_wrongs v0_order_papers z.2.1 z.2.2.1 z.2.2.2) H → va_D A (wX0 a0 g v0_values_marks v0_values_weights v0_values_places v0_values_aboves v0_values_belows v0_values_reduced_above v0_values_reduced_below v0_values_papers v0_order_overs v0_order_unders v0_order_marks v0_order_wrongs v0_order_papers z.2.1 z.2.2.1 z.2.2.2) → va_S A s.heap H locs → lv_has ls 5 [(0, .ref (a0 0)), (1, .int z.1)] → W p l e { frames := 2, cells := 0, slots := 0, locals := 42 } s m [.ref (a0 0)].toArray below meth c H locs 0 0 (MQ below (Qv g (m_X0_fillSets ((v0_values_marks, v0_values_weights, v0_values_places, v0_values_aboves, v0_values_belows, (v0_values_reduced_above, v0_values_reduced_below), v0_values_papers), (v0_order_overs, v0_order_unders, v0_order_marks, v0_order_wrongs, v0_order_papers), v0_sums, v0_weighs, v0_downs)) (fun u => wX0 a0 g v0_values_marks v0_values_weights v0_values_places v0_values_aboves v0_values_belows v0_values_reduced_above v0_values_reduced_below v0_values_papers v0_order_overs v0_order_unders v0_order_marks v0_order_wrongs v0_order_papers u.1 u.2.1 u.2.2) A) [.ref (a0 0)].toArray s 0 0 A) (F0 m 2 ls [])) (E := fun r51 => ∀ (H : Heap) (locs : List Loc) (ls : Array Slot), va_P g.1 vwCl (wX0 a0 g v0_values_marks v0_values_weights v0_values_places v0_values_aboves v0_values_belows v0_values_reduced_above v0_values_reduced_below v0_values_papers v0_order_overs v0_order_unders v0_order_marks v0_order_wrongs v0_order_papers r51.1 r51.2.1 r51.2.2) H → va_D A (wX0 a0 g v0_values_marks v0_values_weights v0_values_places v0_values_aboves v0_values_belows v0_values_reduced_above v0_values_reduced_below v0_values_papers v0_order_overs v0_order_unders v0_order_marks v0_order_wrongs v0_order_papers r51.1 r51.2.1 r51.2.2) → va_S A s.heap H locs → lv_has ls 5 [] → W p l e { frames := 2, cells := 0, slots := 0, locals := 42 } s m [.ref (a0 0)].toArray below meth c H locs 0 0 (MQ below (Qv g (m_X0_fillSets ((v0_values_marks, v0_values_weights, v0_values_places, v0_values_aboves, v0_values_belows, (v0_values_reduced_above, v0_values_reduced_below), v0_values_papers), (v0_order_overs, v0_order_unders, v0_order_marks, v0_order_wrongs, v0_order_papers), v0_sums, v0_weighs, v0_downs)) (fun u => wX0 a0 g v0_values_marks v0_values_weights v0_values_places v0_values_aboves v0_values_belows v0_values_reduced_above v0_values_reduced_below v0_values_papers v0_order_overs v0_order_unders v0_order_marks v0_order_wrongs v0_order_papers u.1 u.2.1 u.2.2) A) [.ref (a0 0)].toArray s 0 0 A) (F0 m 129 ls [])) ?_ fu _ r51 er51 ?_ _ _ _ hP hD hS (lv_sub hl [1, 0] rfl)
  · rintro ⟨x24, x25, x26, x27⟩ y hf hB hXt H locs ls hP hD hS hl
    have hP : va_P g.1 vwCl (wX0 a0 g v0_values_marks v0_values_weights v0_values_places v0_values_aboves v0_values_belows v0_values_reduced_above v0_values_reduced_below v0_values_papers v0_order_overs v0_order_unders v0_order_marks v0_order_wrongs v0_order_papers x25 x26 x27) H := hP
    have hD : va_D A (wX0 a0 g v0_values_marks v0_values_weights v0_values_places v0_values_aboves v0_values_belows v0_values_reduced_above v0_values_reduced_below v0_values_papers v0_order_overs v0_order_unders v0_order_marks v0_order_wrongs v0_order_papers x25 x26 x27) := hD
    have hl : lv_has ls 5 [(0, .ref (a0 0)), (1, .int x24)] := hl
    have hf : m_X0_fillSets_l2 ((v0_values_marks, v0_values_weights, v0_values_places, v0_values_aboves, v0_values_belows, (v0_values_reduced_above, v0_values_reduced_below), v0_values_papers), (v0_order_overs, v0_order_unders, v0_order_marks, v0_order_wrongs, v0_order_papers), v0_sums, v0_weighs, v0_downs) x24 x25 x26 x27 = some y := hf
    unfold m_X0_fillSets_l2 at hf
    refine lv_iload_n hx hb dX0_fillSets_2 rfl (lv_at hl 1 rfl) ?_
    refine lv_aload_n hx hb dX0_fillSets_3 rfl (lv_at hl 0 rfl) ?_
    refine va_get (D := g.1) (ci := 1) (v := .ref (a0 1)) (C := RX0) (T := TX0) (N := 5) hx hb hts layX0 hown hK.1 hP 0 rfl rfl 0 (by decide) (hts _ kw192) (fun _ h9 => h9) rfl dX0_fillSets_4 ?_
    refine cIp hP hD hS hA hE (fun hPc hDc hSc => rV (As := []) (rest := [.int x24]) hx hb hml hown hts hK (c_X8_paperCount l g (fun i => a0 (i + 1)) v0_values_marks v0_values_weights v0_values_places v0_values_aboves v0_values_belows v0_values_reduced_above v0_values_reduced_below v0_values_papers (bnd_ne hf)) svV_X8_paperCount kw854 rfl rfl hPc hDc hSc rfl rfl hl.1 (Nat.le_of_ble_eq_true rfl) dX0_fillSets_7 ⟨Nat.le_of_ble_eq_true rfl, Nat.le_of_ble_eq_true rfl, rfl, rfl, Nat.le_of_ble_eq_true rfl, Nat.le_of_ble_eq_true rfl⟩) [(1, 12)] rfl rfl rfl (fun x28 H locs ex28 nx28 hP hS => ?_)
    have hf := bnd_of hf ex28
    refine lv_icmp_ge (tgt := 129) hx hb dX0_fillSets_10 (by decide) (fun cb => ?_) (fun cb => ?_)
    · have hf := it_t cb hf
      exact hXt _ (Option.some.inj hf).symm _ _ _ hP hD hS (lv_sub hl [] rfl)
    have hf := it_f cb hf
    refine lv_iconst (v := 1) hx hb dX0_fillSets_13 (by decide) ?_
    refine lv_iload_n hx hb dX0_fillSets_14 rfl (lv_at hl 1 rfl) ?_
    refine lv_ishl hx hb dX0_fillSets_15 ?_
    refine lv_istore_n (lv' := [(2, .int ((1 : Int32) <<< (x24 &&& 31))), (0, .ref (a0 0)), (1, .int x24)]) hx hb dX0_fillSets_16 rfl hl (by decide) rfl (fun ls hl => ?_)
    refine lv_aload_n hx hb dX0_fillSets_17 rfl (lv_at hl 1 rfl) ?_
    refine va_get (D := g.1) (ci := 1) (v := .ref (a0 1)) (C := RX0) (T := TX0) (N := 5) hx hb hts layX0 hown hK.1 hP 0 rfl rfl 0 (by decide) (hts _ kw192) (fun _ h9 => h9) rfl dX0_fillSets_18 ?_
    refine lv_iload_n hx hb dX0_fillSets_21 rfl (lv_at hl 2 rfl) ?_
    refine cIp hP hD hS hA hE (fun hPc hDc hSc => rV (As := [.int x24]) (rest := []) hx hb hml hown hts hK (c_X8_weightAt l g (fun i => a0 (i + 1)) v0_values_marks v0_values_weights v0_values_places v0_values_aboves v0_values_belows v0_values_reduced_above v0_values_reduced_below v0_values_papers x24 (bnd_ne hf)) svV_X8_weightAt kw871 rfl rfl hPc hDc hSc rfl rfl hl.1 (Nat.le_of_ble_eq_true rfl) dX0_fillSets_22 ⟨Nat.le_of_ble_eq_true rfl, Nat.le_of_ble_eq_true rfl, rfl, rfl, Nat.le_of_ble_eq_true rfl, Nat.le_of_ble_eq_true rfl⟩) [(1, 12)] rfl rfl rfl (fun x29 H locs ex29 nx29 hP hS => ?_)
    have hf := bnd_of hf ex29
    refine lv_istore_n (lv' := [(3, .int x29), (2, .int ((1 : Int32) <<< (x24 &&& 31))), (0, .ref (a0 0)), (1, .int x24)]) hx hb dX0_fillSets_25 rfl hl (by decide) rfl (fun ls hl => ?_)
    refine lv_iconst (v := 0) hx hb dX0_fillSets_26 (by decide) ?_
    refine lv_istore (lv' := [(4, .int (0 : Int32)), (3, .int x29), (2, .int ((1 : Int32) <<< (x24 &&& 31))), (0, .ref (a0 0)), (1, .int x24)]) hx hb dX0_fillSets_27 hl (by decide) rfl (fun ls hl => ?_)
    obtain ⟨r50, er50, hf⟩ := bnd hf
    refine lp_W (P := fun z => ∀ (H : Heap) (locs : List Loc) (ls : Array Slot), va_P g.1 vwCl (wX0 a0 g v0_values_marks v0_values_weights v0_values_places v0_values_aboves v0_values_belows v0_values_reduced_above v0_values_reduced_below v0_values_papers v0_order_overs v0_order_unders v0_order_marks v0_order_wrongs v0_order_papers z.2.1 z.2.2.1 z.2.2.2) H → va_D A (wX0 a0 g v0_values_marks v0_values_weights v0_values_places v0_values_aboves v0_values_belows v0_values_reduced_above v0_values_reduced_below v0_values_papers v0_order_overs v0_order_unders v0_order_marks v0_order_wrongs v0_order_papers z.2.1 z.2.2.1 z.2.2.2) → va_S A s.heap H locs → lv_has ls 5 [(0, .ref (a0 0)), (1, .int x24), (2, .int ((1 : Int32) <<< (x24 &&& 31))), (3, .int x29), (4, .int z.1)] → W p l e { frames := 2, cells := 0, slots := 0, locals := 42 } s m [.ref (a0 0)].toArray below meth c H locs 0 0 (MQ below (Qv g (m_X0_fillSets ((v0_values_marks, v0_values_weights, v0_values_places, v0_values_aboves, v0_values_belows, (v0_values_reduced_above, v0_values_reduced_below), v0_values_papers), (v0_order_overs, v0_order_unders, v0_order_marks, v0_order_wrongs, v0_order_papers), v0_sums, v0_weighs, v0_downs)) (fun u => wX0 a0 g v0_values_marks v0_values_weights v0_values_places v0_values_aboves v0_values_belows v0_values_reduced_above v0_values_reduced_below v0_values_papers v0_order_overs v0_order_unders v0_order_marks v0_order_wrongs v0_order_papers u.1 u.2.1 u.2.2) A) [.ref (a0 0)].toArray s 0 0 A) (F0 m 29 ls [])) (E := fun r50 => ∀ (H : Heap) (locs : List Loc) (ls : Array Slot), va_P g.1 vwCl (wX0 a0 g v0_values_marks v0_values_weights v0_values_places v0_values_aboves v0_values_belows v0_values_reduced_above v0_values_reduced_below v0_values_papers v0_order_overs v0_order_unders v0_order_marks v0_order_wrongs v0_order_papers r50.1 r50.2.1 r50.2.2) H → va_D A (wX0 a0 g v0_values_marks v0_values_weights v0_values_places v0_values_aboves v0_values_belows v0_values_reduced_above v0_values_reduced_below v0_values_papers v0_order_overs v0_order_unders v0_order_marks v0_order_wrongs v0_order_papers r50.1 r50.2.1 r50.2.2) → va_S A s.heap H locs → lv_has ls 5 [(0, .ref (a0 0)), (1, .int x24)] → W p l e { frames := 2, cells := 0, slots := 0, locals := 42 } s m [.ref (a0 0)].toArray below meth c H locs 0 0 (MQ below (Qv g (m_X0_fillSets ((v0_values_marks, v0_values_weights, v0_values_places, v0_values_aboves, v0_values_belows, (v0_values_reduced_above, v0_values_reduced_below), v0_values_papers), (v0_order_overs, v0_order_unders, v0_order_marks, v0_order_wrongs, v0_order_papers), v0_sums, v0_weighs, v0_downs)) (fun u => wX0 a0 g v0_values_marks v0_values_weights v0_values_places v0_values_aboves v0_values_belows v0_values_reduced_above v0_values_reduced_below v0_values_papers v0_order_overs v0_order_unders v0_order_marks v0_order_wrongs v0_order_papers u.1 u.2.1 u.2.2) A) [.ref (a0 0)].toArray s 0 0 A) (F0 m 123 ls [])) ?_ fu _ r50 er50 ?_ _ _ _ hP hD hS (lv_sub hl [3, 4, 2, 1, 0] rfl)
    · rintro ⟨x38, x39, x40, x41⟩ y hf hB hXt H locs ls hP hD hS hl
      have hP : va_P g.1 vwCl (wX0 a0 g v0_values_marks v0_values_weights v0_values_places v0_values_aboves v0_values_belows v0_values_reduced_above v0_values_reduced_below v0_values_papers v0_order_overs v0_order_unders v0_order_marks v0_order_wrongs v0_order_papers x39 x40 x41) H := hP
      have hD : va_D A (wX0 a0 g v0_values_marks v0_values_weights v0_values_places v0_values_aboves v0_values_belows v0_values_reduced_above v0_values_reduced_below v0_values_papers v0_order_overs v0_order_unders v0_order_marks v0_order_wrongs v0_order_papers x39 x40 x41) := hD
      have hl : lv_has ls 5 [(0, .ref (a0 0)), (1, .int x24), (2, .int ((1 : Int32) <<< (x24 &&& 31))), (3, .int x29), (4, .int x38)] := hl
      have hf : m_X0_fillSets_l29_2 ((v0_values_marks, v0_values_weights, v0_values_places, v0_values_aboves, v0_values_belows, (v0_values_reduced_above, v0_values_reduced_below), v0_values_papers), (v0_order_overs, v0_order_unders, v0_order_marks, v0_order_wrongs, v0_order_papers), v0_sums, v0_weighs, v0_downs) x24 x29 x38 x39 x40 x41 = some y := hf
      unfold m_X0_fillSets_l29_2 at hf
      refine lv_iload hx hb dX0_fillSets_29 (lv_at hl 4 rfl) ?_
      refine lv_iload_n hx hb dX0_fillSets_31 rfl (lv_at hl 2 rfl) ?_
      refine lv_icmp_ge (tgt := 123) hx hb dX0_fillSets_32 (by decide) (fun cb => ?_) (fun cb => ?_)
      · have hf := it_t cb hf
        exact hXt _ (Option.some.inj hf).symm _ _ _ hP hD hS (lv_sub hl [0, 1] rfl)
      have hf := it_f cb hf
      refine lv_aload_n hx hb dX0_fillSets_35 rfl (lv_at hl 0 rfl) ?_
      refine va_get (D := g.1) (ci := 1) (v := .ref (a0 22)) (C := RX0) (T := TX0) (N := 5) hx hb hts layX0 hown hK.1 hP 0 rfl rfl 2 (by decide) (hts _ kw194) (fun _ h9 => h9) rfl dX0_fillSets_36 ?_
      refine lv_iload_n hx hb dX0_fillSets_39 rfl (lv_at hl 2 rfl) ?_
      refine lv_iload hx hb dX0_fillSets_40 (lv_at hl 4 rfl) ?_
      refine lv_iadd hx hb dX0_fillSets_42 ?_
      refine lv_aload_n hx hb dX0_fillSets_43 rfl (lv_at hl 0 rfl) ?_
      refine va_get (D := g.1) (ci := 1) (v := .ref (a0 22)) (C := RX0) (T := TX0) (N := 5) hx hb hts layX0 hown hK.1 hP 0 rfl rfl 2 (by decide) (hts _ kw194) (fun _ h9 => h9) rfl dX0_fillSets_44 ?_
      refine lv_iload hx hb dX0_fillSets_47 (lv_at hl 4 rfl) ?_
      refine cIp hP hD hS hA hE (fun hPc hDc hSc => rV (As := [.int x38]) (rest := [.int (((1 : Int32) <<< (x24 &&& 31)) + x38), .ref (a0 22)]) hx hb hml hown hts hK (c_X2_get l g (fun i => a0 (i + 22)) 128 x39 x38 (bnd_ne hf)) svV_X2_get kw875 rfl rfl hPc hDc hSc rfl rfl hl.1 (Nat.le_of_ble_eq_true rfl) dX0_fillSets_49 ⟨Nat.le_of_ble_eq_true rfl, Nat.le_of_ble_eq_true rfl, rfl, rfl, Nat.le_of_ble_eq_true rfl, Nat.le_of_ble_eq_true rfl⟩) [(22, 2)] rfl rfl rfl (fun x42 H locs ex42 nx42 hP hS => ?_)
      have hf := bnd_of hf ex42
      refine lv_iload_n hx hb dX0_fillSets_52 rfl (lv_at hl 3 rfl) ?_
      refine lv_aload_n hx hb dX0_fillSets_53 rfl (lv_at hl 0 rfl) ?_
      refine va_get (D := g.1) (ci := 1) (v := .ref (a0 1)) (C := RX0) (T := TX0) (N := 5) hx hb hts layX0 hown hK.1 hP 0 rfl rfl 0 (by decide) (hts _ kw192) (fun _ h9 => h9) rfl dX0_fillSets_54 ?_
      refine lv_iload_n hx hb dX0_fillSets_57 rfl (lv_at hl 1 rfl) ?_
      refine cIp hP hD hS hA hE (fun hPc hDc hSc => rV (As := [.int x24]) (rest := [.int x29, .int x42, .int (((1 : Int32) <<< (x24 &&& 31)) + x38), .ref (a0 22)]) hx hb hml hown hts hK (c_X8_markAt l g (fun i => a0 (i + 1)) v0_values_marks v0_values_weights v0_values_places v0_values_aboves v0_values_belows v0_values_reduced_above v0_values_reduced_below v0_values_papers x24 (bnd_ne hf)) svV_X8_markAt kw855 rfl rfl hPc hDc hSc rfl rfl hl.1 (Nat.le_of_ble_eq_true rfl) dX0_fillSets_58 ⟨Nat.le_of_ble_eq_true rfl, Nat.le_of_ble_eq_true rfl, rfl, rfl, Nat.le_of_ble_eq_true rfl, Nat.le_of_ble_eq_true rfl⟩) [(1, 12)] rfl rfl rfl (fun x43 H locs ex43 nx43 hP hS => ?_)
      have hf := bnd_of hf ex43
      refine lv_imul hx hb dX0_fillSets_61 ?_
      refine lv_iadd hx hb dX0_fillSets_62 ?_
      refine cV hP hD hS hA hE (fun hPc hDc hSc => rV (As := [.int (((1 : Int32) <<< (x24 &&& 31)) + x38), .int (x42 + (x29 * x43))]) (rest := []) hx hb hml hown hts hK (c_X2_set l g (fun i => a0 (i + 22)) 128 x39 (((1 : Int32) <<< (x24 &&& 31)) + x38) (x42 + (x29 * x43)) (bnd_ne hf)) svV_X2_set kw876 rfl rfl hPc hDc hSc rfl rfl hl.1 (Nat.le_of_ble_eq_true rfl) dX0_fillSets_63 ⟨Nat.le_of_ble_eq_true rfl, Nat.le_of_ble_eq_true rfl, rfl, rfl, Nat.le_of_ble_eq_true rfl, Nat.le_of_ble_eq_true rfl⟩) [(22, 2)] rfl rfl rfl (fun _ => rfl) (fun x44 H locs ex44 hP hD hS => ?_)
      have hf := bnd_of hf ex44
      have hP : va_P g.1 vwCl (wX0 a0 g v0_values_marks v0_values_weights v0_values_places v0_values_aboves v0_values_belows v0_values_reduced_above v0_values_reduced_below v0_values_papers v0_order_overs v0_order_unders v0_order_marks v0_order_wrongs v0_order_papers x44 x40 x41) H := hP
      have hD : va_D A (wX0 a0 g v0_values_marks v0_values_weights v0_values_places v0_values_aboves v0_values_belows v0_values_reduced_above v0_values_reduced_below v0_values_papers v0_order_overs v0_order_unders v0_order_marks v0_order_wrongs v0_order_papers x44 x40 x41) := hD
      refine lv_aload_n hx hb dX0_fillSets_66 rfl (lv_at hl 0 rfl) ?_
      refine va_get (D := g.1) (ci := 1) (v := .ref (a0 24)) (C := RX0) (T := TX0) (N := 5) hx hb hts layX0 hown hK.1 hP 0 rfl rfl 3 (by decide) (hts _ kw195) (fun _ h9 => h9) rfl dX0_fillSets_67 ?_
      refine lv_iload_n hx hb dX0_fillSets_70 rfl (lv_at hl 2 rfl) ?_
      refine lv_iload hx hb dX0_fillSets_71 (lv_at hl 4 rfl) ?_
      refine lv_iadd hx hb dX0_fillSets_73 ?_
      refine lv_aload_n hx hb dX0_fillSets_74 rfl (lv_at hl 0 rfl) ?_
      refine va_get (D := g.1) (ci := 1) (v := .ref (a0 24)) (C := RX0) (T := TX0) (N := 5) hx hb hts layX0 hown hK.1 hP 0 rfl rfl 3 (by decide) (hts _ kw195) (fun _ h9 => h9) rfl dX0_fillSets_75 ?_
      refine lv_iload hx hb dX0_fillSets_78 (lv_at hl 4 rfl) ?_
      refine cIp hP hD hS hA hE (fun hPc hDc hSc => rV (As := [.int x38]) (rest := [.int (((1 : Int32) <<< (x24 &&& 31)) + x38), .ref (a0 24)]) hx hb hml hown hts hK (c_X2_get l g (fun i => a0 (i + 24)) 128 x40 x38 (bnd_ne hf)) svV_X2_get kw875 rfl rfl hPc hDc hSc rfl rfl hl.1 (Nat.le_of_ble_eq_true rfl) dX0_fillSets_80 ⟨Nat.le_of_ble_eq_true rfl, Nat.le_of_ble_eq_true rfl, rfl, rfl, Nat.le_of_ble_eq_true rfl, Nat.le_of_ble_eq_true rfl⟩) [(24, 2)] rfl rfl rfl (fun x45 H locs ex45 nx45 hP hS => ?_)
      have hf := bnd_of hf ex45
      refine lv_iload_n hx hb dX0_fillSets_83 rfl (lv_at hl 3 rfl) ?_
      refine lv_iadd hx hb dX0_fillSets_84 ?_
      refine cV hP hD hS hA hE (fun hPc hDc hSc => rV (As := [.int (((1 : Int32) <<< (x24 &&& 31)) + x38), .int (x45 + x29)]) (rest := []) hx hb hml hown hts hK (c_X2_set l g (fun i => a0 (i + 24)) 128 x40 (((1 : Int32) <<< (x24 &&& 31)) + x38) (x45 + x29) (bnd_ne hf)) svV_X2_set kw876 rfl rfl hPc hDc hSc rfl rfl hl.1 (Nat.le_of_ble_eq_true rfl) dX0_fillSets_85 ⟨Nat.le_of_ble_eq_true rfl, Nat.le_of_ble_eq_true rfl, rfl, rfl, Nat.le_of_ble_eq_true rfl, Nat.le_of_ble_eq_true rfl⟩) [(24, 2)] rfl rfl rfl (fun _ => rfl) (fun x46 H locs ex46 hP hD hS => ?_)
      have hf := bnd_of hf ex46
      have hP : va_P g.1 vwCl (wX0 a0 g v0_values_marks v0_values_weights v0_values_places v0_values_aboves v0_values_belows v0_values_reduced_above v0_values_reduced_below v0_values_papers v0_order_overs v0_order_unders v0_order_marks v0_order_wrongs v0_order_papers x44 x46 x41) H := hP
      have hD : va_D A (wX0 a0 g v0_values_marks v0_values_weights v0_values_places v0_values_aboves v0_values_belows v0_values_reduced_above v0_values_reduced_below v0_values_papers v0_order_overs v0_order_unders v0_order_marks v0_order_wrongs v0_order_papers x44 x46 x41) := hD
      refine lv_aload_n hx hb dX0_fillSets_88 rfl (lv_at hl 0 rfl) ?_
      refine va_get (D := g.1) (ci := 1) (v := .ref (a0 26)) (C := RX0) (T := TX0) (N := 5) hx hb hts layX0 hown hK.1 hP 0 rfl rfl 4 (by decide) (hts _ kw196) (fun _ h9 => h9) rfl dX0_fillSets_89 ?_
      refine lv_iload_n hx hb dX0_fillSets_92 rfl (lv_at hl 2 rfl) ?_
      refine lv_iload hx hb dX0_fillSets_93 (lv_at hl 4 rfl) ?_
      refine lv_iadd hx hb dX0_fillSets_95 ?_
      refine lv_aload_n hx hb dX0_fillSets_96 rfl (lv_at hl 0 rfl) ?_
      refine va_get (D := g.1) (ci := 1) (v := .ref (a0 26)) (C := RX0) (T := TX0) (N := 5) hx hb hts layX0 hown hK.1 hP 0 rfl rfl 4 (by decide) (hts _ kw196) (fun _ h9 => h9) rfl dX0_fillSets_97 ?_
      refine lv_iload hx hb dX0_fillSets_100 (lv_at hl 4 rfl) ?_
      refine cIp hP hD hS hA hE (fun hPc hDc hSc => rV (As := [.int x38]) (rest := [.int (((1 : Int32) <<< (x24 &&& 31)) + x38), .ref (a0 26)]) hx hb hml hown hts hK (c_X2_get l g (fun i => a0 (i + 26)) 128 x41 x38 (bnd_ne hf)) svV_X2_get kw875 rfl rfl hPc hDc hSc rfl rfl hl.1 (Nat.le_of_ble_eq_true rfl) dX0_fillSets_102 ⟨Nat.le_of_ble_eq_true rfl, Nat.le_of_ble_eq_true rfl, rfl, rfl, Nat.le_of_ble_eq_true rfl, Nat.le_of_ble_eq_true rfl⟩) [(26, 2)] rfl rfl rfl (fun x47 H locs ex47 nx47 hP hS => ?_)
      have hf := bnd_of hf ex47
      refine lv_aload_n hx hb dX0_fillSets_105 rfl (lv_at hl 0 rfl) ?_
      refine va_get (D := g.1) (ci := 1) (v := .ref (a0 13)) (C := RX0) (T := TX0) (N := 5) hx hb hts layX0 hown hK.1 hP 0 rfl rfl 1 (by decide) (hts _ kw193) (fun _ h9 => h9) rfl dX0_fillSets_106 ?_
      refine lv_iload_n hx hb dX0_fillSets_109 rfl (lv_at hl 1 rfl) ?_
      refine cIp hP hD hS hA hE (fun hPc hDc hSc => rV (As := [.int x24]) (rest := [.int x47, .int (((1 : Int32) <<< (x24 &&& 31)) + x38), .ref (a0 26)]) hx hb hml hown hts hK (c_X5_undersOf l g (fun i => a0 (i + 13)) v0_order_overs v0_order_unders v0_order_marks v0_order_wrongs v0_order_papers x24 (bnd_ne hf)) svV_X5_undersOf kw856 rfl rfl hPc hDc hSc rfl rfl hl.1 (Nat.le_of_ble_eq_true rfl) dX0_fillSets_110 ⟨Nat.le_of_ble_eq_true rfl, Nat.le_of_ble_eq_true rfl, rfl, rfl, Nat.le_of_ble_eq_true rfl, Nat.le_of_ble_eq_true rfl⟩) [(13, 9)] rfl rfl rfl (fun x48 H locs ex48 nx48 hP hS => ?_)
      have hf := bnd_of hf ex48
      refine lv_ior hx hb dX0_fillSets_113 ?_
      refine cV hP hD hS hA hE (fun hPc hDc hSc => rV (As := [.int (((1 : Int32) <<< (x24 &&& 31)) + x38), .int (x47 ||| x48)]) (rest := []) hx hb hml hown hts hK (c_X2_set l g (fun i => a0 (i + 26)) 128 x41 (((1 : Int32) <<< (x24 &&& 31)) + x38) (x47 ||| x48) (bnd_ne hf)) svV_X2_set kw876 rfl rfl hPc hDc hSc rfl rfl hl.1 (Nat.le_of_ble_eq_true rfl) dX0_fillSets_114 ⟨Nat.le_of_ble_eq_true rfl, Nat.le_of_ble_eq_true rfl, rfl, rfl, Nat.le_of_ble_eq_true rfl, Nat.le_of_ble_eq_true rfl⟩) [(26, 2)] rfl rfl rfl (fun _ => rfl) (fun x49 H locs ex49 hP hD hS => ?_)
      have hf := bnd_of hf ex49
      have hP : va_P g.1 vwCl (wX0 a0 g v0_values_marks v0_values_weights v0_values_places v0_values_aboves v0_values_belows v0_values_reduced_above v0_values_reduced_below v0_values_papers v0_order_overs v0_order_unders v0_order_marks v0_order_wrongs v0_order_papers x44 x46 x49) H := hP
      have hD : va_D A (wX0 a0 g v0_values_marks v0_values_weights v0_values_places v0_values_aboves v0_values_belows v0_values_reduced_above v0_values_reduced_below v0_values_papers v0_order_overs v0_order_unders v0_order_marks v0_order_wrongs v0_order_papers x44 x46 x49) := hD
      refine lv_iinc (v := (x38 + 1)) (lv' := [(4, .int (x38 + 1)), (0, .ref (a0 0)), (1, .int x24), (2, .int ((1 : Int32) <<< (x24 &&& 31))), (3, .int x29)]) hx hb dX0_fillSets_117 hl (k := 4) rfl (by rfl) (by decide) rfl (fun ls hl => ?_)
      refine lv_goto (tgt := 29) hx hb dX0_fillSets_120 (by decide) ?_
      exact hB _ (Option.some.inj hf).symm _ _ _ hP hD hS (lv_sub hl [1, 2, 3, 4, 0] rfl)
    intro H locs ls hP hD hS hl
    have hP : va_P g.1 vwCl (wX0 a0 g v0_values_marks v0_values_weights v0_values_places v0_values_aboves v0_values_belows v0_values_reduced_above v0_values_reduced_below v0_values_papers v0_order_overs v0_order_unders v0_order_marks v0_order_wrongs v0_order_papers r50.1 r50.2.1 r50.2.2) H := hP
    have hD : va_D A (wX0 a0 g v0_values_marks v0_values_weights v0_values_places v0_values_aboves v0_values_belows v0_values_reduced_above v0_values_reduced_below v0_values_papers v0_order_overs v0_order_unders v0_order_marks v0_order_wrongs v0_order_papers r50.1 r50.2.1 r50.2.2) := hD
    have hl : lv_has ls 5 [(0, .ref (a0 0)), (1, .int x24)] := hl
    refine lv_iinc (v := (x24 + 1)) (lv' := [(1, .int (x24 + 1)), (0, .ref (a0 0))]) hx hb dX0_fillSets_123 hl (k := 1) rfl (by rfl) (by decide) rfl (fun ls hl => ?_)
    refine lv_goto (tgt := 2) hx hb dX0_fillSets_126 (by decide) ?_
    exact hB _ (Option.some.inj hf).symm _ _ _ hP hD hS (lv_sub hl [1, 0] rfl)
  intro H locs ls hP hD hS hl
  have hP : va_P g.1 vwCl (wX0 a0 g v0_values_marks v0_values_weights v0_values_places v0_values_aboves v0_values_belows v0_values_reduced_above v0_values_reduced_below v0_values_papers v0_order_overs v0_order_unders v0_order_marks v0_order_wrongs v0_order_papers r51.1 r51.2.1 r51.2.2) H := hP
  have hD : va_D A (wX0 a0 g v0_values_marks v0_values_weights v0_values_places v0_values_aboves v0_values_belows v0_values_reduced_above v0_values_reduced_below v0_values_papers v0_order_overs v0_order_unders v0_order_marks v0_order_wrongs v0_order_papers r51.1 r51.2.1 r51.2.2) := hD
  have hl : lv_has ls 5 [] := hl
  exact retV (u := (r51.1, r51.2.1, r51.2.2)) (W1 := fun u => wX0 a0 g v0_values_marks v0_values_weights v0_values_places v0_values_aboves v0_values_belows v0_values_reduced_above v0_values_reduced_below v0_values_papers v0_order_overs v0_order_unders v0_order_marks v0_order_wrongs v0_order_papers u.1 u.2.1 u.2.2) hx hb hr hlocks hS hP hD (hf0.trans hf.symm) dX0_fillSets_129
set_option maxHeartbeats 4000000 in
set_option maxRecDepth 100000 in
theorem c_X0_leastMarkAbove (l : Launch) (g : GG) (a0 : Nat → Nat) (v0_values_marks : (Nat → Int32)) (v0_values_weights : (Nat → Int32)) (v0_values_places : (Nat → Int32)) (v0_values_aboves : (Nat → Int32)) (v0_values_belows : (Nat → Int32)) (v0_values_reduced_above : Int64) (v0_values_reduced_below : Int64) (v0_values_papers : Int32) (v0_order_overs : (Nat → Int32)) (v0_order_unders : (Nat → Int32)) (v0_order_marks : (Nat → Int32)) (v0_order_wrongs : (Nat → Int32)) (v0_order_papers : Int32) (v0_sums : (Nat → Int32)) (v0_weighs : (Nat → Int32)) (v0_downs : (Nat → Int32)) (p1 : Int32) (hne : (m_X0_leastMarkAbove ((v0_values_marks, v0_values_weights, v0_values_places, v0_values_aboves, v0_values_belows, (v0_values_reduced_above, v0_values_reduced_below), v0_values_papers), (v0_order_overs, v0_order_unders, v0_order_marks, v0_order_wrongs, v0_order_papers), v0_sums, v0_weighs, v0_downs) p1) ≠ none) : Ct l g yX0_leastMarkAbove cX0_leastMarkAbove 5 (some .int) ({ frames := 2, cells := 0, slots := 0, locals := 42 } : Room) [.ref (a0 0), .int p1] (wX0 a0 g v0_values_marks v0_values_weights v0_values_places v0_values_aboves v0_values_belows v0_values_reduced_above v0_values_reduced_below v0_values_papers v0_order_overs v0_order_unders v0_order_marks v0_order_wrongs v0_order_papers v0_sums v0_weighs v0_downs) (Qi g .int (m_X0_leastMarkAbove ((v0_values_marks, v0_values_weights, v0_values_places, v0_values_aboves, v0_values_belows, (v0_values_reduced_above, v0_values_reduced_below), v0_values_papers), (v0_order_overs, v0_order_unders, v0_order_marks, v0_order_wrongs, v0_order_papers), v0_sums, v0_weighs, v0_downs) p1) (fun u => u) (fun u => wX0 a0 g v0_values_marks v0_values_weights v0_values_places v0_values_aboves v0_values_belows v0_values_reduced_above v0_values_reduced_below v0_values_papers v0_order_overs v0_order_unders v0_order_marks v0_order_wrongs v0_order_papers v0_sums v0_weighs v0_downs)) 0 0 := by
  obtain ⟨out, hf⟩ := ne_ex hne
  have hf0 := hf
  refine Ct.of (own := RX0) (by decide +kernel) rfl (Nat.le_of_ble_eq_true rfl) ?_
  intro p e s m below meth c hx hb hr hml hown hts hlocks hin hK A H locs hA hP hD hS hE ls hl
  have hl : lv_has ls 5 [(0, .ref (a0 0)), (1, .int p1)] := hl
  unfold m_X0_leastMarkAbove at hf
  refine lv_iload_n hx hb dX0_leastMarkAbove_0 rfl (lv_at hl 1 rfl) ?_
  refine lv_istore_n (lv' := [(2, .int p1), (0, .ref (a0 0)), (1, .int p1)]) hx hb dX0_leastMarkAbove_1 rfl hl (by decide) rfl (fun ls hl => ?_)
  refine lv_iconst (v := 0) hx hb dX0_leastMarkAbove_2 (by decide) ?_
  refine lv_istore_n (lv' := [(3, .int (0 : Int32)), (2, .int p1), (0, .ref (a0 0)), (1, .int p1)]) hx hb dX0_leastMarkAbove_3 rfl hl (by decide) rfl (fun ls hl => ?_)
  obtain ⟨r7, er7, hf⟩ := bnd hf
  refine lp_W (P := fun z => ∀ (H : Heap) (locs : List Loc) (ls : Array Slot), va_P g.1 vwCl (wX0 a0 g v0_values_marks v0_values_weights v0_values_places v0_values_aboves v0_values_belows v0_values_reduced_above v0_values_reduced_below v0_values_papers v0_order_overs v0_order_unders v0_order_marks v0_order_wrongs v0_order_papers v0_sums v0_weighs v0_downs) H → va_D A (wX0 a0 g v0_values_marks v0_values_weights v0_values_places v0_values_aboves v0_values_belows v0_values_reduced_above v0_values_reduced_below v0_values_papers v0_order_overs v0_order_unders v0_order_marks v0_order_wrongs v0_order_papers v0_sums v0_weighs v0_downs) → va_S A s.heap H locs → lv_has ls 5 [(0, .ref (a0 0)), (1, .int p1), (2, .int z.1), (3, .int z.2)] → W p l e { frames := 2, cells := 0, slots := 0, locals := 42 } s m [.ref (a0 0), .int p1].toArray below meth c H locs 0 0 (MQ below (Qi g .int (m_X0_leastMarkAbove ((v0_values_marks, v0_values_weights, v0_values_places, v0_values_aboves, v0_values_belows, (v0_values_reduced_above, v0_values_reduced_below), v0_values_papers), (v0_order_overs, v0_order_unders, v0_order_marks, v0_order_wrongs, v0_order_papers), v0_sums, v0_weighs, v0_downs) p1) (fun u => u) (fun u => wX0 a0 g v0_values_marks v0_values_weights v0_values_places v0_values_aboves v0_values_belows v0_values_reduced_above v0_values_reduced_below v0_values_papers v0_order_overs v0_order_unders v0_order_marks v0_order_wrongs v0_order_papers v0_sums v0_weighs v0_downs) A) [.ref (a0 0), .int p1].toArray s 0 0 A) (F0 m 4 ls [])) (E := fun r7 => ∀ (H : Heap) (locs : List Loc) (ls : Array Slot), va_P g.1 vwCl (wX0 a0 g v0_values_marks v0_values_weights v0_values_places v0_values_aboves v0_values_belows v0_values_reduced_above v0_values_reduced_below v0_values_papers v0_order_overs v0_order_unders v0_order_marks v0_order_wrongs v0_order_papers v0_sums v0_weighs v0_downs) H → va_D A (wX0 a0 g v0_values_marks v0_values_weights v0_values_places v0_values_aboves v0_values_belows v0_values_reduced_above v0_values_reduced_below v0_values_papers v0_order_overs v0_order_unders v0_order_marks v0_order_wrongs v0_order_papers v0_sums v0_weighs v0_downs) → va_S A s.heap H locs → lv_has ls 5 [(2, .int r7)] → W p l e { frames := 2, cells := 0, slots := 0, locals := 42 } s m [.ref (a0 0), .int p1].toArray below meth c H locs 0 0 (MQ below (Qi g .int (m_X0_leastMarkAbove ((v0_values_marks, v0_values_weights, v0_values_places, v0_values_aboves, v0_values_belows, (v0_values_reduced_above, v0_values_reduced_below), v0_values_papers), (v0_order_overs, v0_order_unders, v0_order_marks, v0_order_wrongs, v0_order_papers), v0_sums, v0_weighs, v0_downs) p1) (fun u => u) (fun u => wX0 a0 g v0_values_marks v0_values_weights v0_values_places v0_values_aboves v0_values_belows v0_values_reduced_above v0_values_reduced_below v0_values_papers v0_order_overs v0_order_unders v0_order_marks v0_order_wrongs v0_order_papers v0_sums v0_weighs v0_downs) A) [.ref (a0 0), .int p1].toArray s 0 0 A) (F0 m 51 ls [])) ?_ fu _ r7 er7 ?_ _ _ _ hP hD hS (lv_sub hl [2, 3, 1, 0] rfl)
  · rintro ⟨x3, x4⟩ y hf hB hXt H locs ls hP hD hS hl
    have hP : va_P g.1 vwCl (wX0 a0 g v0_values_marks v0_values_weights v0_values_places v0_values_aboves v0_values_belows v0_values_reduced_above v0_values_reduced_below v0_values_papers v0_order_overs v0_order_unders v0_order_marks v0_order_wrongs v0_order_papers v0_sums v0_weighs v0_downs) H := hP
    have hD : va_D A (wX0 a0 g v0_values_marks v0_values_weights v0_values_places v0_values_aboves v0_values_belows v0_values_reduced_above v0_values_reduced_below v0_values_papers v0_order_overs v0_order_unders v0_order_marks v0_order_wrongs v0_order_papers v0_sums v0_weighs v0_downs) := hD
    have hl : lv_has ls 5 [(0, .ref (a0 0)), (1, .int p1), (2, .int x3), (3, .int x4)] := hl
    have hf : m_X0_leastMarkAbove_l4 ((v0_values_marks, v0_values_weights, v0_values_places, v0_values_aboves, v0_values_belows, (v0_values_reduced_above, v0_values_reduced_below), v0_values_papers), (v0_order_overs, v0_order_unders, v0_order_marks, v0_order_wrongs, v0_order_papers), v0_sums, v0_weighs, v0_downs) p1 x3 x4 = some y := hf
    unfold m_X0_leastMarkAbove_l4 at hf
    refine lv_iload_n hx hb dX0_leastMarkAbove_4 rfl (lv_at hl 3 rfl) ?_
    refine lv_aload_n hx hb dX0_leastMarkAbove_5 rfl (lv_at hl 0 rfl) ?_
    refine va_get (D := g.1) (ci := 1) (v := .ref (a0 1)) (C := RX0) (T := TX0) (N := 5) hx hb hts layX0 hown hK.1 hP 0 rfl rfl 0 (by decide) (hts _ kw192) (fun _ h9 => h9) rfl dX0_leastMarkAbove_6 ?_
    refine cIp hP hD hS hA hE (fun hPc hDc hSc => rV (As := []) (rest := [.int x4]) hx hb hml hown hts hK (c_X8_paperCount l g (fun i => a0 (i + 1)) v0_values_marks v0_values_weights v0_values_places v0_values_aboves v0_values_belows v0_values_reduced_above v0_values_reduced_below v0_values_papers (bnd_ne hf)) svV_X8_paperCount kw854 rfl rfl hPc hDc hSc rfl rfl hl.1 (Nat.le_of_ble_eq_true rfl) dX0_leastMarkAbove_9 ⟨Nat.le_of_ble_eq_true rfl, Nat.le_of_ble_eq_true rfl, rfl, rfl, Nat.le_of_ble_eq_true rfl, Nat.le_of_ble_eq_true rfl⟩) [(1, 12)] rfl rfl rfl (fun x5 H locs ex5 nx5 hP hS => ?_)
    have hf := bnd_of hf ex5
    refine lv_icmp_ge (tgt := 51) hx hb dX0_leastMarkAbove_12 (by decide) (fun cb => ?_) (fun cb => ?_)
    · have hf := it_t cb hf
      exact hXt _ (Option.some.inj hf).symm _ _ _ hP hD hS (lv_sub hl [2] rfl)
    have hf := it_f cb hf
    refine lv_aload_n hx hb dX0_leastMarkAbove_15 rfl (lv_at hl 0 rfl) ?_
    refine va_get (D := g.1) (ci := 1) (v := .ref (a0 1)) (C := RX0) (T := TX0) (N := 5) hx hb hts layX0 hown hK.1 hP 0 rfl rfl 0 (by decide) (hts _ kw192) (fun _ h9 => h9) rfl dX0_leastMarkAbove_16 ?_
    refine lv_iload_n hx hb dX0_leastMarkAbove_19 rfl (lv_at hl 3 rfl) ?_
    refine cIp hP hD hS hA hE (fun hPc hDc hSc => rV (As := [.int x4]) (rest := []) hx hb hml hown hts hK (c_X8_markAt l g (fun i => a0 (i + 1)) v0_values_marks v0_values_weights v0_values_places v0_values_aboves v0_values_belows v0_values_reduced_above v0_values_reduced_below v0_values_papers x4 (bnd_ne hf)) svV_X8_markAt kw855 rfl rfl hPc hDc hSc rfl rfl hl.1 (Nat.le_of_ble_eq_true rfl) dX0_leastMarkAbove_20 ⟨Nat.le_of_ble_eq_true rfl, Nat.le_of_ble_eq_true rfl, rfl, rfl, Nat.le_of_ble_eq_true rfl, Nat.le_of_ble_eq_true rfl⟩) [(1, 12)] rfl rfl rfl (fun x6 H locs ex6 nx6 hP hS => ?_)
    have hf := bnd_of hf ex6
    refine lv_istore (lv' := [(4, .int x6), (0, .ref (a0 0)), (1, .int p1), (2, .int x3), (3, .int x4)]) hx hb dX0_leastMarkAbove_23 hl (by decide) rfl (fun ls hl => ?_)
    refine lv_iload hx hb dX0_leastMarkAbove_25 (lv_at hl 0 rfl) ?_
    refine lv_iload_n hx hb dX0_leastMarkAbove_27 rfl (lv_at hl 2 rfl) ?_
    refine lv_icmp_le (tgt := 45) hx hb dX0_leastMarkAbove_28 (by decide) (fun cb => ?_) (fun cb => ?_)
    · have hf := it_t cb hf
      refine lv_iinc (v := (x4 + 1)) (lv' := [(3, .int (x4 + 1)), (4, .int x6), (0, .ref (a0 0)), (1, .int p1), (2, .int x3)]) hx hb dX0_leastMarkAbove_45 hl (k := 4) rfl (by rfl) (by decide) rfl (fun ls hl => ?_)
      refine lv_goto (tgt := 4) hx hb dX0_leastMarkAbove_48 (by decide) ?_
      exact hB _ (Option.some.inj hf).symm _ _ _ hP hD hS (lv_sub hl [2, 3, 4, 0] rfl)
    have hf := it_f cb hf
    refine lv_iload_n hx hb dX0_leastMarkAbove_31 rfl (lv_at hl 3 rfl) ?_
    refine lv_iload_n hx hb dX0_leastMarkAbove_32 rfl (lv_at hl 2 rfl) ?_
    refine lv_icmp_eq (tgt := 42) hx hb dX0_leastMarkAbove_33 (by decide) (fun cb => ?_) (fun cb => ?_)
    · have hf := it_t cb hf
      refine lv_iload hx hb dX0_leastMarkAbove_42 (lv_at hl 0 rfl) ?_
      refine lv_istore_n (lv' := [(2, .int x6), (4, .int x6), (0, .ref (a0 0)), (1, .int p1), (3, .int x4)]) hx hb dX0_leastMarkAbove_44 rfl hl (by decide) rfl (fun ls hl => ?_)
      refine lv_iinc (v := (x4 + 1)) (lv' := [(3, .int (x4 + 1)), (2, .int x6), (4, .int x6), (0, .ref (a0 0)), (1, .int p1)]) hx hb dX0_leastMarkAbove_45 hl (k := 4) rfl (by rfl) (by decide) rfl (fun ls hl => ?_)
      refine lv_goto (tgt := 4) hx hb dX0_leastMarkAbove_48 (by decide) ?_
      exact hB _ (Option.some.inj hf).symm _ _ _ hP hD hS (lv_sub hl [3, 4, 1, 0] rfl)
    have hf := it_f cb hf
    refine lv_iload hx hb dX0_leastMarkAbove_36 (lv_at hl 0 rfl) ?_
    refine lv_iload_n hx hb dX0_leastMarkAbove_38 rfl (lv_at hl 3 rfl) ?_
    refine lv_icmp_ge (tgt := 45) hx hb dX0_leastMarkAbove_39 (by decide) (fun cb => ?_) (fun cb => ?_)
    · have hf := it_t cb hf
      refine lv_iinc (v := (x4 + 1)) (lv' := [(3, .int (x4 + 1)), (4, .int x6), (0, .ref (a0 0)), (1, .int p1), (2, .int x3)]) hx hb dX0_leastMarkAbove_45 hl (k := 4) rfl (by rfl) (by decide) rfl (fun ls hl => ?_)
      refine lv_goto (tgt := 4) hx hb dX0_leastMarkAbove_48 (by decide) ?_
      exact hB _ (Option.some.inj hf).symm _ _ _ hP hD hS (lv_sub hl [2, 3, 4, 0] rfl)
    have hf := it_f cb hf
    refine lv_iload hx hb dX0_leastMarkAbove_42 (lv_at hl 0 rfl) ?_
    refine lv_istore_n (lv' := [(2, .int x6), (4, .int x6), (0, .ref (a0 0)), (1, .int p1), (3, .int x4)]) hx hb dX0_leastMarkAbove_44 rfl hl (by decide) rfl (fun ls hl => ?_)
    refine lv_iinc (v := (x4 + 1)) (lv' := [(3, .int (x4 + 1)), (2, .int x6), (4, .int x6), (0, .ref (a0 0)), (1, .int p1)]) hx hb dX0_leastMarkAbove_45 hl (k := 4) rfl (by rfl) (by decide) rfl (fun ls hl => ?_)
    refine lv_goto (tgt := 4) hx hb dX0_leastMarkAbove_48 (by decide) ?_
    exact hB _ (Option.some.inj hf).symm _ _ _ hP hD hS (lv_sub hl [3, 4, 1, 0] rfl)
  intro H locs ls hP hD hS hl
  have hP : va_P g.1 vwCl (wX0 a0 g v0_values_marks v0_values_weights v0_values_places v0_values_aboves v0_values_belows v0_values_reduced_above v0_values_reduced_below v0_values_papers v0_order_overs v0_order_unders v0_order_marks v0_order_wrongs v0_order_papers v0_sums v0_weighs v0_downs) H := hP
  have hD : va_D A (wX0 a0 g v0_values_marks v0_values_weights v0_values_places v0_values_aboves v0_values_belows v0_values_reduced_above v0_values_reduced_below v0_values_papers v0_order_overs v0_order_unders v0_order_marks v0_order_wrongs v0_order_papers v0_sums v0_weighs v0_downs) := hD
  have hl : lv_has ls 5 [(2, .int r7)] := hl
  refine lv_iload_n hx hb dX0_leastMarkAbove_51 rfl (lv_at hl 0 rfl) ?_
  exact retI (v := r7) (u := r7) (val := fun u => u) (W1 := fun u => wX0 a0 g v0_values_marks v0_values_weights v0_values_places v0_values_aboves v0_values_belows v0_values_reduced_above v0_values_reduced_below v0_values_papers v0_order_overs v0_order_unders v0_order_marks v0_order_wrongs v0_order_papers v0_sums v0_weighs v0_downs) hx hb hr hlocks hS hP hD (hf0.trans hf.symm) rfl rfl dX0_leastMarkAbove_52
set_option maxHeartbeats 4000000 in
set_option maxRecDepth 100000 in
theorem c_X0_isLow (l : Launch) (g : GG) (a0 : Nat → Nat) (v0_values_marks : (Nat → Int32)) (v0_values_weights : (Nat → Int32)) (v0_values_places : (Nat → Int32)) (v0_values_aboves : (Nat → Int32)) (v0_values_belows : (Nat → Int32)) (v0_values_reduced_above : Int64) (v0_values_reduced_below : Int64) (v0_values_papers : Int32) (v0_order_overs : (Nat → Int32)) (v0_order_unders : (Nat → Int32)) (v0_order_marks : (Nat → Int32)) (v0_order_wrongs : (Nat → Int32)) (v0_order_papers : Int32) (v0_sums : (Nat → Int32)) (v0_weighs : (Nat → Int32)) (v0_downs : (Nat → Int32)) (p1 : Int32) (p2 : Int32) (hne : (m_X0_isLow ((v0_values_marks, v0_values_weights, v0_values_places, v0_values_aboves, v0_values_belows, (v0_values_reduced_above, v0_values_reduced_below), v0_values_papers), (v0_order_overs, v0_order_unders, v0_order_marks, v0_order_wrongs, v0_order_papers), v0_sums, v0_weighs, v0_downs) p1 p2) ≠ none) : Ct l g yX0_isLow cX0_isLow 3 (some .boolean) ({ frames := 1, cells := 0, slots := 0, locals := 21 } : Room) [.ref (a0 0), .int p1, .int p2] (wX0 a0 g v0_values_marks v0_values_weights v0_values_places v0_values_aboves v0_values_belows v0_values_reduced_above v0_values_reduced_below v0_values_papers v0_order_overs v0_order_unders v0_order_marks v0_order_wrongs v0_order_papers v0_sums v0_weighs v0_downs) (Qi g .boolean (m_X0_isLow ((v0_values_marks, v0_values_weights, v0_values_places, v0_values_aboves, v0_values_belows, (v0_values_reduced_above, v0_values_reduced_below), v0_values_papers), (v0_order_overs, v0_order_unders, v0_order_marks, v0_order_wrongs, v0_order_papers), v0_sums, v0_weighs, v0_downs) p1 p2) (fun u => u) (fun u => wX0 a0 g v0_values_marks v0_values_weights v0_values_places v0_values_aboves v0_values_belows v0_values_reduced_above v0_values_reduced_below v0_values_papers v0_order_overs v0_order_unders v0_order_marks v0_order_wrongs v0_order_papers v0_sums v0_weighs v0_downs)) 0 0 := by
  obtain ⟨out, hf⟩ := ne_ex hne
  have hf0 := hf
  refine Ct.of (own := RX0) (by decide +kernel) rfl (Nat.le_of_ble_eq_true rfl) ?_
  intro p e s m below meth c hx hb hr hml hown hts hlocks hin hK A H locs hA hP hD hS hE ls hl
  have hl : lv_has ls 3 [(0, .ref (a0 0)), (1, .int p1), (2, .int p2)] := hl
  unfold m_X0_isLow at hf
  refine lv_aload_n hx hb dX0_isLow_0 rfl (lv_at hl 0 rfl) ?_
  refine va_get (D := g.1) (ci := 1) (v := .ref (a0 26)) (C := RX0) (T := TX0) (N := 5) hx hb hts layX0 hown hK.1 hP 0 rfl rfl 4 (by decide) (hts _ kw196) (fun _ h9 => h9) rfl dX0_isLow_1 ?_
  refine lv_iload_n hx hb dX0_isLow_4 rfl (lv_at hl 1 rfl) ?_
  refine cIp hP hD hS hA hE (fun hPc hDc hSc => rV (As := [.int p1]) (rest := []) hx hb hml hown hts hK (c_X2_get l g (fun i => a0 (i + 26)) 128 v0_downs p1 (bnd_ne hf)) svV_X2_get kw875 rfl rfl hPc hDc hSc rfl rfl hl.1 (Nat.le_of_ble_eq_true rfl) dX0_isLow_5 ⟨Nat.le_of_ble_eq_true rfl, Nat.le_of_ble_eq_true rfl, rfl, rfl, Nat.le_of_ble_eq_true rfl, Nat.le_of_ble_eq_true rfl⟩) [(26, 2)] rfl rfl rfl (fun x1 H locs ex1 nx1 hP hS => ?_)
  have hf := bnd_of hf ex1
  refine lv_iload_n hx hb dX0_isLow_8 rfl (lv_at hl 2 rfl) ?_
  refine lv_iand hx hb dX0_isLow_9 ?_
  refine lv_iload_n hx hb dX0_isLow_10 rfl (lv_at hl 1 rfl) ?_
  refine lv_iconst (v := (-1)) hx hb dX0_isLow_11 (by decide) ?_
  refine lv_ixor hx hb dX0_isLow_12 ?_
  refine lv_iand hx hb dX0_isLow_13 ?_
  refine lv_if_ne (tgt := 21) hx hb dX0_isLow_14 (by decide) (fun cb => ?_) (fun cb => ?_)
  · have hf := it_f cb hf
    refine lv_iconst (v := 0) hx hb dX0_isLow_21 (by decide) ?_
    exact retI (v := (0 : Int32)) (u := (0 : Int32)) (val := fun u => u) (W1 := fun u => wX0 a0 g v0_values_marks v0_values_weights v0_values_places v0_values_aboves v0_values_belows v0_values_reduced_above v0_values_reduced_below v0_values_papers v0_order_overs v0_order_unders v0_order_marks v0_order_wrongs v0_order_papers v0_sums v0_weighs v0_downs) hx hb hr hlocks hS hP hD (hf0.trans hf.symm) rfl rfl dX0_isLow_22
  have hf := it_t cb hf
  refine lv_iconst (v := 1) hx hb dX0_isLow_17 (by decide) ?_
  refine lv_goto (tgt := 22) hx hb dX0_isLow_18 (by decide) ?_
  exact retI (v := (1 : Int32)) (u := (1 : Int32)) (val := fun u => u) (W1 := fun u => wX0 a0 g v0_values_marks v0_values_weights v0_values_places v0_values_aboves v0_values_belows v0_values_reduced_above v0_values_reduced_below v0_values_papers v0_order_overs v0_order_unders v0_order_marks v0_order_wrongs v0_order_papers v0_sums v0_weighs v0_downs) hx hb hr hlocks hS hP hD (hf0.trans hf.symm) rfl rfl dX0_isLow_22
set_option maxHeartbeats 4000000 in
set_option maxRecDepth 100000 in
theorem c_X0_cheapest (l : Launch) (g : GG) (a0 : Nat → Nat) (v0_values_marks : (Nat → Int32)) (v0_values_weights : (Nat → Int32)) (v0_values_places : (Nat → Int32)) (v0_values_aboves : (Nat → Int32)) (v0_values_belows : (Nat → Int32)) (v0_values_reduced_above : Int64) (v0_values_reduced_below : Int64) (v0_values_papers : Int32) (v0_order_overs : (Nat → Int32)) (v0_order_unders : (Nat → Int32)) (v0_order_marks : (Nat → Int32)) (v0_order_wrongs : (Nat → Int32)) (v0_order_papers : Int32) (v0_sums : (Nat → Int32)) (v0_weighs : (Nat → Int32)) (v0_downs : (Nat → Int32)) (p1 : Int32) (p2 : Int32) (hne : (m_X0_cheapest ((v0_values_marks, v0_values_weights, v0_values_places, v0_values_aboves, v0_values_belows, (v0_values_reduced_above, v0_values_reduced_below), v0_values_papers), (v0_order_overs, v0_order_unders, v0_order_marks, v0_order_wrongs, v0_order_papers), v0_sums, v0_weighs, v0_downs) p1 p2) ≠ none) : Ct l g yX0_cheapest cX0_cheapest 7 (some .int) ({ frames := 2, cells := 0, slots := 0, locals := 43 } : Room) [.ref (a0 0), .int p1, .int p2] (wX0 a0 g v0_values_marks v0_values_weights v0_values_places v0_values_aboves v0_values_belows v0_values_reduced_above v0_values_reduced_below v0_values_papers v0_order_overs v0_order_unders v0_order_marks v0_order_wrongs v0_order_papers v0_sums v0_weighs v0_downs) (Qi g .int (m_X0_cheapest ((v0_values_marks, v0_values_weights, v0_values_places, v0_values_aboves, v0_values_belows, (v0_values_reduced_above, v0_values_reduced_below), v0_values_papers), (v0_order_overs, v0_order_unders, v0_order_marks, v0_order_wrongs, v0_order_papers), v0_sums, v0_weighs, v0_downs) p1 p2) (fun u => u) (fun u => wX0 a0 g v0_values_marks v0_values_weights v0_values_places v0_values_aboves v0_values_belows v0_values_reduced_above v0_values_reduced_below v0_values_papers v0_order_overs v0_order_unders v0_order_marks v0_order_wrongs v0_order_papers v0_sums v0_weighs v0_downs)) 0 0 := by
  obtain ⟨out, hf⟩ := ne_ex hne
  have hf0 := hf
  refine Ct.of (own := RX0) (by decide +kernel) rfl (Nat.le_of_ble_eq_true rfl) ?_
  intro p e s m below meth c hx hb hr hml hown hts hlocks hin hK A H locs hA hP hD hS hE ls hl
  have hl : lv_has ls 7 [(0, .ref (a0 0)), (1, .int p1), (2, .int p2)] := hl
  unfold m_X0_cheapest at hf
  refine lv_iconst (v := 0) hx hb dX0_cheapest_0 (by decide) ?_
  refine lv_istore_n (lv' := [(3, .int (0 : Int32)), (0, .ref (a0 0)), (1, .int p1), (2, .int p2)]) hx hb dX0_cheapest_1 rfl hl (by decide) rfl (fun ls hl => ?_)
  refine lv_iconst (v := 0) hx hb dX0_cheapest_2 (by decide) ?_
  refine lv_istore (lv' := [(4, .int (0 : Int32)), (3, .int (0 : Int32)), (0, .ref (a0 0)), (1, .int p1), (2, .int p2)]) hx hb dX0_cheapest_3 hl (by decide) rfl (fun ls hl => ?_)
  refine lv_iload_n hx hb dX0_cheapest_5 rfl (lv_at hl 4 rfl) ?_
  refine lv_istore (lv' := [(5, .int p2), (4, .int (0 : Int32)), (3, .int (0 : Int32)), (0, .ref (a0 0)), (1, .int p1), (2, .int p2)]) hx hb dX0_cheapest_6 hl (by decide) rfl (fun ls hl => ?_)
  obtain ⟨r12, er12, hf⟩ := bnd hf
  refine lp_W (P := fun z => ∀ (H : Heap) (locs : List Loc) (ls : Array Slot), va_P g.1 vwCl (wX0 a0 g v0_values_marks v0_values_weights v0_values_places v0_values_aboves v0_values_belows v0_values_reduced_above v0_values_reduced_below v0_values_papers v0_order_overs v0_order_unders v0_order_marks v0_order_wrongs v0_order_papers v0_sums v0_weighs v0_downs) H → va_D A (wX0 a0 g v0_values_marks v0_values_weights v0_values_places v0_values_aboves v0_values_belows v0_values_reduced_above v0_values_reduced_below v0_values_papers v0_order_overs v0_order_unders v0_order_marks v0_order_wrongs v0_order_papers v0_sums v0_weighs v0_downs) → va_S A s.heap H locs → lv_has ls 7 [(0, .ref (a0 0)), (1, .int p1), (2, .int p2), (3, .int z.1), (4, .int z.2.1), (5, .int z.2.2)] → W p l e { frames := 2, cells := 0, slots := 0, locals := 43 } s m [.ref (a0 0), .int p1, .int p2].toArray below meth c H locs 0 0 (MQ below (Qi g .int (m_X0_cheapest ((v0_values_marks, v0_values_weights, v0_values_places, v0_values_aboves, v0_values_belows, (v0_values_reduced_above, v0_values_reduced_below), v0_values_papers), (v0_order_overs, v0_order_unders, v0_order_marks, v0_order_wrongs, v0_order_papers), v0_sums, v0_weighs, v0_downs) p1 p2) (fun u => u) (fun u => wX0 a0 g v0_values_marks v0_values_weights v0_values_places v0_values_aboves v0_values_belows v0_values_reduced_above v0_values_reduced_below v0_values_papers v0_order_overs v0_order_unders v0_order_marks v0_order_wrongs v0_order_papers v0_sums v0_weighs v0_downs) A) [.ref (a0 0), .int p1, .int p2].toArray s 0 0 A) (F0 m 8 ls [])) (E := fun r12 => ∀ (H : Heap) (locs : List Loc) (ls : Array Slot), va_P g.1 vwCl (wX0 a0 g v0_values_marks v0_values_weights v0_values_places v0_values_aboves v0_values_belows v0_values_reduced_above v0_values_reduced_below v0_values_papers v0_order_overs v0_order_unders v0_order_marks v0_order_wrongs v0_order_papers v0_sums v0_weighs v0_downs) H → va_D A (wX0 a0 g v0_values_marks v0_values_weights v0_values_places v0_values_aboves v0_values_belows v0_values_reduced_above v0_values_reduced_below v0_values_papers v0_order_overs v0_order_unders v0_order_marks v0_order_wrongs v0_order_papers v0_sums v0_weighs v0_downs) → va_S A s.heap H locs → lv_has ls 7 [(3, .int r12)] → W p l e { frames := 2, cells := 0, slots := 0, locals := 43 } s m [.ref (a0 0), .int p1, .int p2].toArray below meth c H locs 0 0 (MQ below (Qi g .int (m_X0_cheapest ((v0_values_marks, v0_values_weights, v0_values_places, v0_values_aboves, v0_values_belows, (v0_values_reduced_above, v0_values_reduced_below), v0_values_papers), (v0_order_overs, v0_order_unders, v0_order_marks, v0_order_wrongs, v0_order_papers), v0_sums, v0_weighs, v0_downs) p1 p2) (fun u => u) (fun u => wX0 a0 g v0_values_marks v0_values_weights v0_values_places v0_values_aboves v0_values_belows v0_values_reduced_above v0_values_reduced_below v0_values_papers v0_order_overs v0_order_unders v0_order_marks v0_order_wrongs v0_order_papers v0_sums v0_weighs v0_downs) A) [.ref (a0 0), .int p1, .int p2].toArray s 0 0 A) (F0 m 87 ls [])) ?_ fu _ r12 er12 ?_ _ _ _ hP hD hS (lv_sub hl [3, 4, 5, 2, 1, 0] rfl)
  · rintro ⟨x5, x6, x7⟩ y hf hB hXt H locs ls hP hD hS hl
    have hP : va_P g.1 vwCl (wX0 a0 g v0_values_marks v0_values_weights v0_values_places v0_values_aboves v0_values_belows v0_values_reduced_above v0_values_reduced_below v0_values_papers v0_order_overs v0_order_unders v0_order_marks v0_order_wrongs v0_order_papers v0_sums v0_weighs v0_downs) H := hP
    have hD : va_D A (wX0 a0 g v0_values_marks v0_values_weights v0_values_places v0_values_aboves v0_values_belows v0_values_reduced_above v0_values_reduced_below v0_values_papers v0_order_overs v0_order_unders v0_order_marks v0_order_wrongs v0_order_papers v0_sums v0_weighs v0_downs) := hD
    have hl : lv_has ls 7 [(0, .ref (a0 0)), (1, .int p1), (2, .int p2), (3, .int x5), (4, .int x6), (5, .int x7)] := hl
    have hf : m_X0_cheapest_l8 ((v0_values_marks, v0_values_weights, v0_values_places, v0_values_aboves, v0_values_belows, (v0_values_reduced_above, v0_values_reduced_below), v0_values_papers), (v0_order_overs, v0_order_unders, v0_order_marks, v0_order_wrongs, v0_order_papers), v0_sums, v0_weighs, v0_downs) p1 p2 x5 x6 x7 = some y := hf
    unfold m_X0_cheapest_l8 at hf
    refine lv_iload hx hb dX0_cheapest_8 (lv_at hl 5 rfl) ?_
    refine lv_if_le (tgt := 87) hx hb dX0_cheapest_10 (by decide) (fun cb => ?_) (fun cb => ?_)
    · have hf := it_t cb hf
      exact hXt _ (Option.some.inj hf).symm _ _ _ hP hD hS (lv_sub hl [3] rfl)
    have hf := it_f cb hf
    refine lv_aload_n hx hb dX0_cheapest_13 rfl (lv_at hl 0 rfl) ?_
    refine va_get (D := g.1) (ci := 1) (v := .ref (a0 24)) (C := RX0) (T := TX0) (N := 5) hx hb hts layX0 hown hK.1 hP 0 rfl rfl 3 (by decide) (hts _ kw195) (fun _ h9 => h9) rfl dX0_cheapest_14 ?_
    refine lv_iload hx hb dX0_cheapest_17 (lv_at hl 5 rfl) ?_
    refine cIp hP hD hS hA hE (fun hPc hDc hSc => rV (As := [.int x7]) (rest := []) hx hb hml hown hts hK (c_X2_get l g (fun i => a0 (i + 24)) 128 v0_weighs x7 (bnd_ne hf)) svV_X2_get kw875 rfl rfl hPc hDc hSc rfl rfl hl.1 (Nat.le_of_ble_eq_true rfl) dX0_cheapest_19 ⟨Nat.le_of_ble_eq_true rfl, Nat.le_of_ble_eq_true rfl, rfl, rfl, Nat.le_of_ble_eq_true rfl, Nat.le_of_ble_eq_true rfl⟩) [(24, 2)] rfl rfl rfl (fun x8 H locs ex8 nx8 hP hS => ?_)
    have hf := bnd_of hf ex8
    refine lv_iconst (v := 2) hx hb dX0_cheapest_22 (by decide) ?_
    refine lv_aload_n hx hb dX0_cheapest_23 rfl (lv_at hl 0 rfl) ?_
    refine va_get (D := g.1) (ci := 1) (v := .ref (a0 24)) (C := RX0) (T := TX0) (N := 5) hx hb hts layX0 hown hK.1 hP 0 rfl rfl 3 (by decide) (hts _ kw195) (fun _ h9 => h9) rfl dX0_cheapest_24 ?_
    refine lv_iload hx hb dX0_cheapest_27 (lv_at hl 5 rfl) ?_
    refine lv_iload_n hx hb dX0_cheapest_29 rfl (lv_at hl 1 rfl) ?_
    refine lv_iand hx hb dX0_cheapest_30 ?_
    refine cIp hP hD hS hA hE (fun hPc hDc hSc => rV (As := [.int (x7 &&& p1)]) (rest := [.int (2 : Int32), .int x8]) hx hb hml hown hts hK (c_X2_get l g (fun i => a0 (i + 24)) 128 v0_weighs (x7 &&& p1) (bnd_ne hf)) svV_X2_get kw875 rfl rfl hPc hDc hSc rfl rfl hl.1 (Nat.le_of_ble_eq_true rfl) dX0_cheapest_31 ⟨Nat.le_of_ble_eq_true rfl, Nat.le_of_ble_eq_true rfl, rfl, rfl, Nat.le_of_ble_eq_true rfl, Nat.le_of_ble_eq_true rfl⟩) [(24, 2)] rfl rfl rfl (fun x9 H locs ex9 nx9 hP hS => ?_)
    have hf := bnd_of hf ex9
    refine lv_imul hx hb dX0_cheapest_34 ?_
    refine lv_isub hx hb dX0_cheapest_35 ?_
    refine lv_istore (lv' := [(6, .int (x8 - ((2 : Int32) * x9))), (0, .ref (a0 0)), (1, .int p1), (2, .int p2), (3, .int x5), (4, .int x6), (5, .int x7)]) hx hb dX0_cheapest_36 hl (by decide) rfl (fun ls hl => ?_)
    refine lv_iload hx hb dX0_cheapest_38 (lv_at hl 0 rfl) ?_
    refine lv_iload hx hb dX0_cheapest_40 (lv_at hl 5 rfl) ?_
    refine lv_icmp_gt (tgt := 76) hx hb dX0_cheapest_42 (by decide) (fun cb => ?_) (fun cb => ?_)
    · have hf := it_t cb hf
      refine lv_iload hx hb dX0_cheapest_76 (lv_at hl 6 rfl) ?_
      refine lv_iconst (v := 1) hx hb dX0_cheapest_78 (by decide) ?_
      refine lv_isub hx hb dX0_cheapest_79 ?_
      refine lv_iload_n hx hb dX0_cheapest_80 rfl (lv_at hl 3 rfl) ?_
      refine lv_iand hx hb dX0_cheapest_81 ?_
      refine lv_istore (lv' := [(5, .int ((x7 - (1 : Int32)) &&& p2)), (6, .int (x8 - ((2 : Int32) * x9))), (0, .ref (a0 0)), (1, .int p1), (2, .int p2), (3, .int x5), (4, .int x6)]) hx hb dX0_cheapest_82 hl (by decide) rfl (fun ls hl => ?_)
      refine lv_goto (tgt := 8) hx hb dX0_cheapest_84 (by decide) ?_
      exact hB _ (Option.some.inj hf).symm _ _ _ hP hD hS (lv_sub hl [2, 3, 4, 5, 6, 0] rfl)
    have hf := it_f cb hf
    refine lv_aload_n hx hb dX0_cheapest_45 rfl (lv_at hl 1 rfl) ?_
    refine lv_iload hx hb dX0_cheapest_46 (lv_at hl 6 rfl) ?_
    refine lv_iload_n hx hb dX0_cheapest_48 rfl (lv_at hl 3 rfl) ?_
    refine cIp hP hD hS hA hE (fun hPc hDc hSc => rV (As := [.int x7, .int p2]) (rest := []) hx hb hml hown hts hK (c_X0_isLow l g a0 v0_values_marks v0_values_weights v0_values_places v0_values_aboves v0_values_belows v0_values_reduced_above v0_values_reduced_below v0_values_papers v0_order_overs v0_order_unders v0_order_marks v0_order_wrongs v0_order_papers v0_sums v0_weighs v0_downs x7 p2 (bnd_ne hf)) svV_X0_isLow kw884 rfl rfl hPc hDc hSc rfl rfl hl.1 (Nat.le_of_ble_eq_true rfl) dX0_cheapest_49 ⟨Nat.le_of_ble_eq_true rfl, Nat.le_of_ble_eq_true rfl, rfl, rfl, Nat.le_of_ble_eq_true rfl, Nat.le_of_ble_eq_true rfl⟩) [(0, 28)] rfl rfl rfl (fun x10 H locs ex10 nx10 hP hS => ?_)
    have hf := bnd_of hf ex10
    refine lv_if_eq (tgt := 76) hx hb dX0_cheapest_52 (by decide) (fun cb => ?_) (fun cb => ?_)
    · have hf := it_t cb hf
      refine lv_iload hx hb dX0_cheapest_76 (lv_at hl 6 rfl) ?_
      refine lv_iconst (v := 1) hx hb dX0_cheapest_78 (by decide) ?_
      refine lv_isub hx hb dX0_cheapest_79 ?_
      refine lv_iload_n hx hb dX0_cheapest_80 rfl (lv_at hl 3 rfl) ?_
      refine lv_iand hx hb dX0_cheapest_81 ?_
      refine lv_istore (lv' := [(5, .int ((x7 - (1 : Int32)) &&& p2)), (6, .int (x8 - ((2 : Int32) * x9))), (0, .ref (a0 0)), (1, .int p1), (2, .int p2), (3, .int x5), (4, .int x6)]) hx hb dX0_cheapest_82 hl (by decide) rfl (fun ls hl => ?_)
      refine lv_goto (tgt := 8) hx hb dX0_cheapest_84 (by decide) ?_
      exact hB _ (Option.some.inj hf).symm _ _ _ hP hD hS (lv_sub hl [2, 3, 4, 5, 6, 0] rfl)
    have hf := it_f cb hf
    refine lv_iload hx hb dX0_cheapest_55 (lv_at hl 0 rfl) ?_
    refine lv_iload hx hb dX0_cheapest_57 (lv_at hl 5 rfl) ?_
    obtain ⟨r11, er11, hf⟩ := bnd hf
    have K : ∀ (H : Heap) (locs : List Loc) (ls : Array Slot), va_P g.1 vwCl (wX0 a0 g v0_values_marks v0_values_weights v0_values_places v0_values_aboves v0_values_belows v0_values_reduced_above v0_values_reduced_below v0_values_papers v0_order_overs v0_order_unders v0_order_marks v0_order_wrongs v0_order_papers v0_sums v0_weighs v0_downs) H → va_D A (wX0 a0 g v0_values_marks v0_values_weights v0_values_places v0_values_aboves v0_values_belows v0_values_reduced_above v0_values_reduced_below v0_values_papers v0_order_overs v0_order_unders v0_order_marks v0_order_wrongs v0_order_papers v0_sums v0_weighs v0_downs) → va_S A s.heap H locs → lv_has ls 7 [(0, .ref (a0 0)), (1, .int p1), (2, .int p2), (5, .int x7), (6, .int (x8 - ((2 : Int32) * x9)))] → W p l e { frames := 2, cells := 0, slots := 0, locals := 43 } s m [.ref (a0 0), .int p1, .int p2].toArray below meth c H locs 0 0 (MQ below (Qi g .int (m_X0_cheapest ((v0_values_marks, v0_values_weights, v0_values_places, v0_values_aboves, v0_values_belows, (v0_values_reduced_above, v0_values_reduced_below), v0_values_papers), (v0_order_overs, v0_order_unders, v0_order_marks, v0_order_wrongs, v0_order_papers), v0_sums, v0_weighs, v0_downs) p1 p2) (fun u => u) (fun u => wX0 a0 g v0_values_marks v0_values_weights v0_values_places v0_values_aboves v0_values_belows v0_values_reduced_above v0_values_reduced_below v0_values_papers v0_order_overs v0_order_unders v0_order_marks v0_order_wrongs v0_order_papers v0_sums v0_weighs v0_downs) A) [.ref (a0 0), .int p1, .int p2].toArray s 0 0 A) (F0 m 71 ls [.int r11]) := by
      intro H locs ls hP hD hS hl
      refine lv_istore_n (lv' := [(3, .int r11), (0, .ref (a0 0)), (1, .int p1), (2, .int p2), (5, .int x7), (6, .int (x8 - ((2 : Int32) * x9)))]) hx hb dX0_cheapest_71 rfl hl (by decide) rfl (fun ls hl => ?_)
      refine lv_iload hx hb dX0_cheapest_72 (lv_at hl 5 rfl) ?_
      refine lv_istore (lv' := [(4, .int (x8 - ((2 : Int32) * x9))), (3, .int r11), (0, .ref (a0 0)), (1, .int p1), (2, .int p2), (5, .int x7), (6, .int (x8 - ((2 : Int32) * x9)))]) hx hb dX0_cheapest_74 hl (by decide) rfl (fun ls hl => ?_)
      refine lv_iload hx hb dX0_cheapest_76 (lv_at hl 5 rfl) ?_
      refine lv_iconst (v := 1) hx hb dX0_cheapest_78 (by decide) ?_
      refine lv_isub hx hb dX0_cheapest_79 ?_
      refine lv_iload_n hx hb dX0_cheapest_80 rfl (lv_at hl 4 rfl) ?_
      refine lv_iand hx hb dX0_cheapest_81 ?_
      refine lv_istore (lv' := [(5, .int ((x7 - (1 : Int32)) &&& p2)), (4, .int (x8 - ((2 : Int32) * x9))), (3, .int r11), (0, .ref (a0 0)), (1, .int p1), (2, .int p2), (6, .int (x8 - ((2 : Int32) * x9)))]) hx hb dX0_cheapest_82 hl (by decide) rfl (fun ls hl => ?_)
      refine lv_goto (tgt := 8) hx hb dX0_cheapest_84 (by decide) ?_
      exact hB _ (Option.some.inj hf).symm _ _ _ hP hD hS (lv_sub hl [3, 4, 5, 2, 1, 0] rfl)
    have hf := er11
    refine lv_icmp_ge (tgt := 67) hx hb dX0_cheapest_59 (by decide) (fun cb => ?_) (fun cb => ?_)
    · have hf := it_t cb hf
      refine lv_iload_n hx hb dX0_cheapest_67 rfl (lv_at hl 4 rfl) ?_
      refine lv_iload hx hb dX0_cheapest_68 (lv_at hl 6 rfl) ?_
      refine lv_ior hx hb dX0_cheapest_70 ?_
      have hq := Option.some.inj hf
      subst hq
      exact K _ _ _ hP hD hS (lv_sub hl [1, 2, 3, 6, 0] rfl)
    have hf := it_f cb hf
    refine lv_iload hx hb dX0_cheapest_62 (lv_at hl 6 rfl) ?_
    refine lv_goto (tgt := 71) hx hb dX0_cheapest_64 (by decide) ?_
    have hq := Option.some.inj hf
    subst hq
    exact K _ _ _ hP hD hS (lv_sub hl [1, 2, 3, 6, 0] rfl)
  intro H locs ls hP hD hS hl
  have hP : va_P g.1 vwCl (wX0 a0 g v0_values_marks v0_values_weights v0_values_places v0_values_aboves v0_values_belows v0_values_reduced_above v0_values_reduced_below v0_values_papers v0_order_overs v0_order_unders v0_order_marks v0_order_wrongs v0_order_papers v0_sums v0_weighs v0_downs) H := hP
  have hD : va_D A (wX0 a0 g v0_values_marks v0_values_weights v0_values_places v0_values_aboves v0_values_belows v0_values_reduced_above v0_values_reduced_below v0_values_papers v0_order_overs v0_order_unders v0_order_marks v0_order_wrongs v0_order_papers v0_sums v0_weighs v0_downs) := hD
  have hl : lv_has ls 7 [(3, .int r12)] := hl
  refine lv_iload_n hx hb dX0_cheapest_87 rfl (lv_at hl 0 rfl) ?_
  exact retI (v := r12) (u := r12) (val := fun u => u) (W1 := fun u => wX0 a0 g v0_values_marks v0_values_weights v0_values_places v0_values_aboves v0_values_belows v0_values_reduced_above v0_values_reduced_below v0_values_papers v0_order_overs v0_order_unders v0_order_marks v0_order_wrongs v0_order_papers v0_sums v0_weighs v0_downs) hx hb hr hlocks hS hP hD (hf0.trans hf.symm) rfl rfl dX0_cheapest_88
