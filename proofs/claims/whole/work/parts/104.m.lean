theorem svS_J6_bitCount_0f7a4 : SS RJ6 yJ6_bitCount_0f7a4 cJ6_bitCount_0f7a4 1 (some .int) 1 := ⟨kw634, kw19, kw635, rfl, by decide, by decide, by decide +kernel⟩
theorem svV_X5_meetsAllPairs : SV RX5 yX5_meetsAllPairs cX5_meetsAllPairs 3 (some .boolean) 1 := ⟨kw644, kw1798, kw7, kw645, rfl, by decide, by decide, by decide +kernel⟩
theorem svV_X6_weightOf : SV RX6 yX6_weightOf cX6_weightOf 2 (some .int) 1 := ⟨kw570, kw571, kw2, kw572, rfl, by decide, by decide, by decide +kernel⟩
theorem svV_X6_placeOf : SV RX6 yX6_placeOf cX6_placeOf 2 (some .int) 1 := ⟨kw556, kw557, kw2, kw558, rfl, by decide, by decide, by decide +kernel⟩
theorem dJ6_bitCount_0f7a4_0 : decode cJ6_bitCount_0f7a4 0 = .ok (.iload_n 0, 1) := by decide +kernel
theorem dJ6_bitCount_0f7a4_1 : decode cJ6_bitCount_0f7a4 1 = .ok (.iload_n 0, 1) := by decide +kernel
theorem dJ6_bitCount_0f7a4_2 : decode cJ6_bitCount_0f7a4 2 = .ok (.iconst 1, 1) := by decide +kernel
theorem dJ6_bitCount_0f7a4_3 : decode cJ6_bitCount_0f7a4 3 = .ok (.iushr, 1) := by decide +kernel
theorem dJ6_bitCount_0f7a4_4 : decode cJ6_bitCount_0f7a4 4 = .ok (.ldc_w 265, 3) := by decide +kernel
theorem dJ6_bitCount_0f7a4_7 : decode cJ6_bitCount_0f7a4 7 = .ok (.iand, 1) := by decide +kernel
theorem dJ6_bitCount_0f7a4_8 : decode cJ6_bitCount_0f7a4 8 = .ok (.isub, 1) := by decide +kernel
theorem dJ6_bitCount_0f7a4_9 : decode cJ6_bitCount_0f7a4 9 = .ok (.istore_n 0, 1) := by decide +kernel
theorem dJ6_bitCount_0f7a4_10 : decode cJ6_bitCount_0f7a4 10 = .ok (.iload_n 0, 1) := by decide +kernel
theorem dJ6_bitCount_0f7a4_11 : decode cJ6_bitCount_0f7a4 11 = .ok (.ldc_w 266, 3) := by decide +kernel
theorem dJ6_bitCount_0f7a4_14 : decode cJ6_bitCount_0f7a4 14 = .ok (.iand, 1) := by decide +kernel
theorem dJ6_bitCount_0f7a4_15 : decode cJ6_bitCount_0f7a4 15 = .ok (.iload_n 0, 1) := by decide +kernel
theorem dJ6_bitCount_0f7a4_16 : decode cJ6_bitCount_0f7a4 16 = .ok (.iconst 2, 1) := by decide +kernel
theorem dJ6_bitCount_0f7a4_17 : decode cJ6_bitCount_0f7a4 17 = .ok (.iushr, 1) := by decide +kernel
theorem dJ6_bitCount_0f7a4_18 : decode cJ6_bitCount_0f7a4 18 = .ok (.ldc_w 266, 3) := by decide +kernel
theorem dJ6_bitCount_0f7a4_21 : decode cJ6_bitCount_0f7a4 21 = .ok (.iand, 1) := by decide +kernel
theorem dJ6_bitCount_0f7a4_22 : decode cJ6_bitCount_0f7a4 22 = .ok (.iadd, 1) := by decide +kernel
theorem dJ6_bitCount_0f7a4_23 : decode cJ6_bitCount_0f7a4 23 = .ok (.istore_n 0, 1) := by decide +kernel
theorem dJ6_bitCount_0f7a4_24 : decode cJ6_bitCount_0f7a4 24 = .ok (.iload_n 0, 1) := by decide +kernel
theorem dJ6_bitCount_0f7a4_25 : decode cJ6_bitCount_0f7a4 25 = .ok (.iload_n 0, 1) := by decide +kernel
theorem dJ6_bitCount_0f7a4_26 : decode cJ6_bitCount_0f7a4 26 = .ok (.iconst 4, 1) := by decide +kernel
theorem dJ6_bitCount_0f7a4_27 : decode cJ6_bitCount_0f7a4 27 = .ok (.iushr, 1) := by decide +kernel
theorem dJ6_bitCount_0f7a4_28 : decode cJ6_bitCount_0f7a4 28 = .ok (.iadd, 1) := by decide +kernel
theorem dJ6_bitCount_0f7a4_29 : decode cJ6_bitCount_0f7a4 29 = .ok (.ldc_w 267, 3) := by decide +kernel
theorem dJ6_bitCount_0f7a4_32 : decode cJ6_bitCount_0f7a4 32 = .ok (.iand, 1) := by decide +kernel
theorem dJ6_bitCount_0f7a4_33 : decode cJ6_bitCount_0f7a4 33 = .ok (.istore_n 0, 1) := by decide +kernel
theorem dJ6_bitCount_0f7a4_34 : decode cJ6_bitCount_0f7a4 34 = .ok (.iload_n 0, 1) := by decide +kernel
theorem dJ6_bitCount_0f7a4_35 : decode cJ6_bitCount_0f7a4 35 = .ok (.iload_n 0, 1) := by decide +kernel
theorem dJ6_bitCount_0f7a4_36 : decode cJ6_bitCount_0f7a4 36 = .ok (.bipush 8, 2) := by decide +kernel
theorem dJ6_bitCount_0f7a4_38 : decode cJ6_bitCount_0f7a4 38 = .ok (.iushr, 1) := by decide +kernel
theorem dJ6_bitCount_0f7a4_39 : decode cJ6_bitCount_0f7a4 39 = .ok (.iadd, 1) := by decide +kernel
theorem dJ6_bitCount_0f7a4_40 : decode cJ6_bitCount_0f7a4 40 = .ok (.istore_n 0, 1) := by decide +kernel
theorem dJ6_bitCount_0f7a4_41 : decode cJ6_bitCount_0f7a4 41 = .ok (.iload_n 0, 1) := by decide +kernel
theorem dJ6_bitCount_0f7a4_42 : decode cJ6_bitCount_0f7a4 42 = .ok (.iload_n 0, 1) := by decide +kernel
theorem dJ6_bitCount_0f7a4_43 : decode cJ6_bitCount_0f7a4 43 = .ok (.bipush 16, 2) := by decide +kernel
theorem dJ6_bitCount_0f7a4_45 : decode cJ6_bitCount_0f7a4 45 = .ok (.iushr, 1) := by decide +kernel
theorem dJ6_bitCount_0f7a4_46 : decode cJ6_bitCount_0f7a4 46 = .ok (.iadd, 1) := by decide +kernel
theorem dJ6_bitCount_0f7a4_47 : decode cJ6_bitCount_0f7a4 47 = .ok (.istore_n 0, 1) := by decide +kernel
theorem dJ6_bitCount_0f7a4_48 : decode cJ6_bitCount_0f7a4 48 = .ok (.iload_n 0, 1) := by decide +kernel
theorem dJ6_bitCount_0f7a4_49 : decode cJ6_bitCount_0f7a4 49 = .ok (.bipush 63, 2) := by decide +kernel
theorem dJ6_bitCount_0f7a4_51 : decode cJ6_bitCount_0f7a4 51 = .ok (.iand, 1) := by decide +kernel
theorem dJ6_bitCount_0f7a4_52 : decode cJ6_bitCount_0f7a4 52 = .ok (.ireturn, 1) := by decide +kernel
theorem dX5_pairCount_0 : decode cX5_pairCount 0 = .ok (.iconst 0, 1) := by decide +kernel
theorem dX5_pairCount_1 : decode cX5_pairCount 1 = .ok (.istore_n 1, 1) := by decide +kernel
theorem dX5_pairCount_2 : decode cX5_pairCount 2 = .ok (.iconst 0, 1) := by decide +kernel
theorem dX5_pairCount_3 : decode cX5_pairCount 3 = .ok (.istore_n 2, 1) := by decide +kernel
theorem dX5_pairCount_4 : decode cX5_pairCount 4 = .ok (.iload_n 2, 1) := by decide +kernel
theorem dX5_pairCount_5 : decode cX5_pairCount 5 = .ok (.aload_n 0, 1) := by decide +kernel
theorem dX5_pairCount_6 : decode cX5_pairCount 6 = .ok (.getfield 35, 3) := by decide +kernel
theorem dX5_pairCount_9 : decode cX5_pairCount 9 = .ok (.if_icmp .ge 23, 3) := by decide +kernel
theorem dX5_pairCount_12 : decode cX5_pairCount 12 = .ok (.iload_n 1, 1) := by decide +kernel
theorem dX5_pairCount_13 : decode cX5_pairCount 13 = .ok (.aload_n 0, 1) := by decide +kernel
theorem dX5_pairCount_14 : decode cX5_pairCount 14 = .ok (.getfield 26, 3) := by decide +kernel
theorem dX5_pairCount_17 : decode cX5_pairCount 17 = .ok (.iload_n 2, 1) := by decide +kernel
theorem dX5_pairCount_18 : decode cX5_pairCount 18 = .ok (.invokevirtual 51, 3) := by decide +kernel
theorem dX5_pairCount_21 : decode cX5_pairCount 21 = .ok (.invokestatic 64, 3) := by decide +kernel
theorem dX5_pairCount_24 : decode cX5_pairCount 24 = .ok (.iadd, 1) := by decide +kernel
theorem dX5_pairCount_25 : decode cX5_pairCount 25 = .ok (.istore_n 1, 1) := by decide +kernel
theorem dX5_pairCount_26 : decode cX5_pairCount 26 = .ok (.iinc 2 1, 3) := by decide +kernel
theorem dX5_pairCount_29 : decode cX5_pairCount 29 = .ok (.goto (-25), 3) := by decide +kernel
theorem dX5_pairCount_32 : decode cX5_pairCount 32 = .ok (.iload_n 1, 1) := by decide +kernel
theorem dX5_pairCount_33 : decode cX5_pairCount 33 = .ok (.ireturn, 1) := by decide +kernel
theorem dX5_meetsAllPairs_0 : decode cX5_meetsAllPairs 0 = .ok (.iconst 0, 1) := by decide +kernel
theorem dX5_meetsAllPairs_1 : decode cX5_meetsAllPairs 1 = .ok (.istore_n 2, 1) := by decide +kernel
theorem dX5_meetsAllPairs_2 : decode cX5_meetsAllPairs 2 = .ok (.iload_n 2, 1) := by decide +kernel
theorem dX5_meetsAllPairs_3 : decode cX5_meetsAllPairs 3 = .ok (.aload_n 0, 1) := by decide +kernel
theorem dX5_meetsAllPairs_4 : decode cX5_meetsAllPairs 4 = .ok (.getfield 35, 3) := by decide +kernel
theorem dX5_meetsAllPairs_7 : decode cX5_meetsAllPairs 7 = .ok (.if_icmp .ge 34, 3) := by decide +kernel
theorem dX5_meetsAllPairs_10 : decode cX5_meetsAllPairs 10 = .ok (.iload_n 1, 1) := by decide +kernel
theorem dX5_meetsAllPairs_11 : decode cX5_meetsAllPairs 11 = .ok (.iload_n 2, 1) := by decide +kernel
theorem dX5_meetsAllPairs_12 : decode cX5_meetsAllPairs 12 = .ok (.invokestatic 57, 3) := by decide +kernel
theorem dX5_meetsAllPairs_15 : decode cX5_meetsAllPairs 15 = .ok (.ifCond .ne 20, 3) := by decide +kernel
theorem dX5_meetsAllPairs_35 : decode cX5_meetsAllPairs 35 = .ok (.iinc 2 1, 3) := by decide +kernel
theorem dX5_meetsAllPairs_38 : decode cX5_meetsAllPairs 38 = .ok (.goto (-36), 3) := by decide +kernel
theorem dX5_meetsAllPairs_18 : decode cX5_meetsAllPairs 18 = .ok (.aload_n 0, 1) := by decide +kernel
theorem dX5_meetsAllPairs_19 : decode cX5_meetsAllPairs 19 = .ok (.getfield 26, 3) := by decide +kernel
theorem dX5_meetsAllPairs_22 : decode cX5_meetsAllPairs 22 = .ok (.iload_n 2, 1) := by decide +kernel
theorem dX5_meetsAllPairs_23 : decode cX5_meetsAllPairs 23 = .ok (.invokevirtual 51, 3) := by decide +kernel
theorem dX5_meetsAllPairs_26 : decode cX5_meetsAllPairs 26 = .ok (.iload_n 1, 1) := by decide +kernel
theorem dX5_meetsAllPairs_27 : decode cX5_meetsAllPairs 27 = .ok (.iconst (-1), 1) := by decide +kernel
theorem dX5_meetsAllPairs_28 : decode cX5_meetsAllPairs 28 = .ok (.ixor, 1) := by decide +kernel
theorem dX5_meetsAllPairs_29 : decode cX5_meetsAllPairs 29 = .ok (.iand, 1) := by decide +kernel
theorem dX5_meetsAllPairs_30 : decode cX5_meetsAllPairs 30 = .ok (.ifCond .eq 5, 3) := by decide +kernel
theorem dX5_meetsAllPairs_33 : decode cX5_meetsAllPairs 33 = .ok (.iconst 0, 1) := by decide +kernel
theorem dX5_meetsAllPairs_34 : decode cX5_meetsAllPairs 34 = .ok (.ireturn, 1) := by decide +kernel
theorem dX5_meetsAllPairs_41 : decode cX5_meetsAllPairs 41 = .ok (.iconst 1, 1) := by decide +kernel
theorem dX5_meetsAllPairs_42 : decode cX5_meetsAllPairs 42 = .ok (.ireturn, 1) := by decide +kernel
theorem dX5_fewestToLeave_0 : decode cX5_fewestToLeave 0 = .ok (.iconst 1, 1) := by decide +kernel
theorem dX5_fewestToLeave_1 : decode cX5_fewestToLeave 1 = .ok (.aload_n 0, 1) := by decide +kernel
theorem dX5_fewestToLeave_2 : decode cX5_fewestToLeave 2 = .ok (.getfield 35, 3) := by decide +kernel
theorem dX5_fewestToLeave_5 : decode cX5_fewestToLeave 5 = .ok (.ishl, 1) := by decide +kernel
theorem dX5_fewestToLeave_6 : decode cX5_fewestToLeave 6 = .ok (.iconst 1, 1) := by decide +kernel
theorem dX5_fewestToLeave_7 : decode cX5_fewestToLeave 7 = .ok (.isub, 1) := by decide +kernel
theorem dX5_fewestToLeave_8 : decode cX5_fewestToLeave 8 = .ok (.istore_n 1, 1) := by decide +kernel
theorem dX5_fewestToLeave_9 : decode cX5_fewestToLeave 9 = .ok (.iload_n 1, 1) := by decide +kernel
theorem dX5_fewestToLeave_10 : decode cX5_fewestToLeave 10 = .ok (.istore_n 2, 1) := by decide +kernel
theorem dX5_fewestToLeave_11 : decode cX5_fewestToLeave 11 = .ok (.iload_n 2, 1) := by decide +kernel
theorem dX5_fewestToLeave_12 : decode cX5_fewestToLeave 12 = .ok (.ifCond .lt 30, 3) := by decide +kernel
theorem dX5_fewestToLeave_15 : decode cX5_fewestToLeave 15 = .ok (.iload_n 2, 1) := by decide +kernel
theorem dX5_fewestToLeave_16 : decode cX5_fewestToLeave 16 = .ok (.invokestatic 64, 3) := by decide +kernel
theorem dX5_fewestToLeave_19 : decode cX5_fewestToLeave 19 = .ok (.iload_n 1, 1) := by decide +kernel
theorem dX5_fewestToLeave_20 : decode cX5_fewestToLeave 20 = .ok (.invokestatic 64, 3) := by decide +kernel
theorem dX5_fewestToLeave_23 : decode cX5_fewestToLeave 23 = .ok (.if_icmp .gt 13, 3) := by decide +kernel
theorem dX5_fewestToLeave_36 : decode cX5_fewestToLeave 36 = .ok (.iinc 2 (-1), 3) := by decide +kernel
theorem dX5_fewestToLeave_39 : decode cX5_fewestToLeave 39 = .ok (.goto (-28), 3) := by decide +kernel
theorem dX5_fewestToLeave_26 : decode cX5_fewestToLeave 26 = .ok (.aload_n 0, 1) := by decide +kernel
theorem dX5_fewestToLeave_27 : decode cX5_fewestToLeave 27 = .ok (.iload_n 2, 1) := by decide +kernel
theorem dX5_fewestToLeave_28 : decode cX5_fewestToLeave 28 = .ok (.invokevirtual 69, 3) := by decide +kernel
theorem dX5_fewestToLeave_31 : decode cX5_fewestToLeave 31 = .ok (.ifCond .eq 5, 3) := by decide +kernel
theorem dX5_fewestToLeave_34 : decode cX5_fewestToLeave 34 = .ok (.iload_n 2, 1) := by decide +kernel
theorem dX5_fewestToLeave_35 : decode cX5_fewestToLeave 35 = .ok (.istore_n 1, 1) := by decide +kernel
theorem dX5_fewestToLeave_42 : decode cX5_fewestToLeave 42 = .ok (.iload_n 1, 1) := by decide +kernel
theorem dX5_fewestToLeave_43 : decode cX5_fewestToLeave 43 = .ok (.ireturn, 1) := by decide +kernel
theorem dX8_begin_0 : decode cX8_begin 0 = .ok (.aload_n 0, 1) := by decide +kernel
theorem dX8_begin_1 : decode cX8_begin 1 = .ok (.aload_n 1, 1) := by decide +kernel
theorem dX8_begin_2 : decode cX8_begin 2 = .ok (.invokevirtual 39, 3) := by decide +kernel
theorem dX8_begin_5 : decode cX8_begin 5 = .ok (.putfield 45, 3) := by decide +kernel
theorem dX8_begin_8 : decode cX8_begin 8 = .ok (.iconst 0, 1) := by decide +kernel
theorem dX8_begin_9 : decode cX8_begin 9 = .ok (.istore_n 2, 1) := by decide +kernel
theorem dX8_begin_10 : decode cX8_begin 10 = .ok (.iload_n 2, 1) := by decide +kernel
theorem dX8_begin_11 : decode cX8_begin 11 = .ok (.aload_n 0, 1) := by decide +kernel
theorem dX8_begin_12 : decode cX8_begin 12 = .ok (.getfield 45, 3) := by decide +kernel
theorem dX8_begin_15 : decode cX8_begin 15 = .ok (.if_icmp .ge 68, 3) := by decide +kernel
theorem dX8_begin_18 : decode cX8_begin 18 = .ok (.aload_n 1, 1) := by decide +kernel
theorem dX8_begin_19 : decode cX8_begin 19 = .ok (.iload_n 2, 1) := by decide +kernel
theorem dX8_begin_20 : decode cX8_begin 20 = .ok (.invokevirtual 49, 3) := by decide +kernel
theorem dX8_begin_23 : decode cX8_begin 23 = .ok (.istore_n 3, 1) := by decide +kernel
theorem dX8_begin_24 : decode cX8_begin 24 = .ok (.aload_n 0, 1) := by decide +kernel
theorem dX8_begin_25 : decode cX8_begin 25 = .ok (.getfield 14, 3) := by decide +kernel
theorem dX8_begin_28 : decode cX8_begin 28 = .ok (.iload_n 2, 1) := by decide +kernel
theorem dX8_begin_29 : decode cX8_begin 29 = .ok (.iload_n 3, 1) := by decide +kernel
theorem dX8_begin_30 : decode cX8_begin 30 = .ok (.invokevirtual 53, 3) := by decide +kernel
theorem dX8_begin_33 : decode cX8_begin 33 = .ok (.aload_n 0, 1) := by decide +kernel
theorem dX8_begin_34 : decode cX8_begin 34 = .ok (.getfield 20, 3) := by decide +kernel
theorem dX8_begin_37 : decode cX8_begin 37 = .ok (.iload_n 2, 1) := by decide +kernel
theorem dX8_begin_38 : decode cX8_begin 38 = .ok (.aload_n 1, 1) := by decide +kernel
theorem dX8_begin_39 : decode cX8_begin 39 = .ok (.iload_n 2, 1) := by decide +kernel
theorem dX8_begin_40 : decode cX8_begin 40 = .ok (.invokevirtual 57, 3) := by decide +kernel
theorem dX8_begin_43 : decode cX8_begin 43 = .ok (.invokevirtual 53, 3) := by decide +kernel
theorem dX8_begin_46 : decode cX8_begin 46 = .ok (.aload_n 0, 1) := by decide +kernel
theorem dX8_begin_47 : decode cX8_begin 47 = .ok (.getfield 23, 3) := by decide +kernel
theorem dX8_begin_50 : decode cX8_begin 50 = .ok (.iload_n 2, 1) := by decide +kernel
theorem dX8_begin_51 : decode cX8_begin 51 = .ok (.aload_n 1, 1) := by decide +kernel
theorem dX8_begin_52 : decode cX8_begin 52 = .ok (.iload_n 2, 1) := by decide +kernel
theorem dX8_begin_53 : decode cX8_begin 53 = .ok (.invokevirtual 60, 3) := by decide +kernel
theorem dX8_begin_56 : decode cX8_begin 56 = .ok (.invokevirtual 53, 3) := by decide +kernel
theorem dX8_begin_59 : decode cX8_begin 59 = .ok (.aload_n 0, 1) := by decide +kernel
theorem dX8_begin_60 : decode cX8_begin 60 = .ok (.getfield 26, 3) := by decide +kernel
theorem dX8_begin_63 : decode cX8_begin 63 = .ok (.iload_n 2, 1) := by decide +kernel
theorem dX8_begin_64 : decode cX8_begin 64 = .ok (.iload_n 3, 1) := by decide +kernel
theorem dX8_begin_65 : decode cX8_begin 65 = .ok (.invokevirtual 53, 3) := by decide +kernel
theorem dX8_begin_68 : decode cX8_begin 68 = .ok (.aload_n 0, 1) := by decide +kernel
theorem dX8_begin_69 : decode cX8_begin 69 = .ok (.getfield 29, 3) := by decide +kernel
theorem dX8_begin_72 : decode cX8_begin 72 = .ok (.iload_n 2, 1) := by decide +kernel
theorem dX8_begin_73 : decode cX8_begin 73 = .ok (.iconst 1, 1) := by decide +kernel
theorem dX8_begin_74 : decode cX8_begin 74 = .ok (.invokevirtual 53, 3) := by decide +kernel
theorem dX8_begin_77 : decode cX8_begin 77 = .ok (.iinc 2 1, 3) := by decide +kernel
theorem dX8_begin_80 : decode cX8_begin 80 = .ok (.goto (-70), 3) := by decide +kernel
theorem dX8_begin_83 : decode cX8_begin 83 = .ok (.return_, 1) := by decide +kernel
theorem dX8_paperCount_0 : decode cX8_paperCount 0 = .ok (.aload_n 0, 1) := by decide +kernel
theorem dX8_paperCount_1 : decode cX8_paperCount 1 = .ok (.getfield 45, 3) := by decide +kernel
theorem dX8_paperCount_4 : decode cX8_paperCount 4 = .ok (.ireturn, 1) := by decide +kernel
theorem dX8_allPapers_0 : decode cX8_allPapers 0 = .ok (.iconst 1, 1) := by decide +kernel
theorem dX8_allPapers_1 : decode cX8_allPapers 1 = .ok (.aload_n 0, 1) := by decide +kernel
theorem dX8_allPapers_2 : decode cX8_allPapers 2 = .ok (.getfield 45, 3) := by decide +kernel
theorem dX8_allPapers_5 : decode cX8_allPapers 5 = .ok (.ishl, 1) := by decide +kernel
theorem dX8_allPapers_6 : decode cX8_allPapers 6 = .ok (.iconst 1, 1) := by decide +kernel
theorem dX8_allPapers_7 : decode cX8_allPapers 7 = .ok (.isub, 1) := by decide +kernel
theorem dX8_allPapers_8 : decode cX8_allPapers 8 = .ok (.ireturn, 1) := by decide +kernel
theorem dX8_markAt_0 : decode cX8_markAt 0 = .ok (.aload_n 0, 1) := by decide +kernel
theorem dX8_markAt_1 : decode cX8_markAt 1 = .ok (.getfield 14, 3) := by decide +kernel
theorem dX8_markAt_4 : decode cX8_markAt 4 = .ok (.iload_n 1, 1) := by decide +kernel
theorem dX8_markAt_5 : decode cX8_markAt 5 = .ok (.invokevirtual 63, 3) := by decide +kernel
theorem dX8_markAt_8 : decode cX8_markAt 8 = .ok (.ireturn, 1) := by decide +kernel
theorem dX8_weightAt_0 : decode cX8_weightAt 0 = .ok (.aload_n 0, 1) := by decide +kernel
theorem dX8_weightAt_1 : decode cX8_weightAt 1 = .ok (.getfield 20, 3) := by decide +kernel
theorem dX8_weightAt_4 : decode cX8_weightAt 4 = .ok (.iload_n 1, 1) := by decide +kernel
theorem dX8_weightAt_5 : decode cX8_weightAt 5 = .ok (.invokevirtual 63, 3) := by decide +kernel
theorem dX8_weightAt_8 : decode cX8_weightAt 8 = .ok (.ireturn, 1) := by decide +kernel
theorem dX8_placeAt_0 : decode cX8_placeAt 0 = .ok (.aload_n 0, 1) := by decide +kernel
theorem dX8_placeAt_1 : decode cX8_placeAt 1 = .ok (.getfield 23, 3) := by decide +kernel
theorem dX8_placeAt_4 : decode cX8_placeAt 4 = .ok (.iload_n 1, 1) := by decide +kernel
theorem dX8_placeAt_5 : decode cX8_placeAt 5 = .ok (.invokevirtual 63, 3) := by decide +kernel
theorem dX8_placeAt_8 : decode cX8_placeAt 8 = .ok (.ireturn, 1) := by decide +kernel
theorem dX8_papersAt_0 : decode cX8_papersAt 0 = .ok (.iconst 0, 1) := by decide +kernel
theorem dX8_papersAt_1 : decode cX8_papersAt 1 = .ok (.istore_n 2, 1) := by decide +kernel
theorem dX8_papersAt_2 : decode cX8_papersAt 2 = .ok (.iconst 0, 1) := by decide +kernel
theorem dX8_papersAt_3 : decode cX8_papersAt 3 = .ok (.istore_n 3, 1) := by decide +kernel
theorem dX8_papersAt_4 : decode cX8_papersAt 4 = .ok (.iload_n 3, 1) := by decide +kernel
theorem dX8_papersAt_5 : decode cX8_papersAt 5 = .ok (.aload_n 0, 1) := by decide +kernel
theorem dX8_papersAt_6 : decode cX8_papersAt 6 = .ok (.getfield 45, 3) := by decide +kernel
theorem dX8_papersAt_9 : decode cX8_papersAt 9 = .ok (.if_icmp .ge 27, 3) := by decide +kernel
theorem dX8_papersAt_12 : decode cX8_papersAt 12 = .ok (.aload_n 0, 1) := by decide +kernel
theorem dX8_papersAt_13 : decode cX8_papersAt 13 = .ok (.getfield 23, 3) := by decide +kernel
theorem dX8_papersAt_16 : decode cX8_papersAt 16 = .ok (.iload_n 3, 1) := by decide +kernel
theorem dX8_papersAt_17 : decode cX8_papersAt 17 = .ok (.invokevirtual 63, 3) := by decide +kernel
theorem dX8_papersAt_20 : decode cX8_papersAt 20 = .ok (.iload_n 1, 1) := by decide +kernel
theorem dX8_papersAt_21 : decode cX8_papersAt 21 = .ok (.if_icmp .ne 9, 3) := by decide +kernel
theorem dX8_papersAt_30 : decode cX8_papersAt 30 = .ok (.iinc 3 1, 3) := by decide +kernel
theorem dX8_papersAt_33 : decode cX8_papersAt 33 = .ok (.goto (-29), 3) := by decide +kernel
theorem dX8_papersAt_24 : decode cX8_papersAt 24 = .ok (.iload_n 2, 1) := by decide +kernel
theorem dX8_papersAt_25 : decode cX8_papersAt 25 = .ok (.iconst 1, 1) := by decide +kernel
theorem dX8_papersAt_26 : decode cX8_papersAt 26 = .ok (.iload_n 3, 1) := by decide +kernel
theorem dX8_papersAt_27 : decode cX8_papersAt 27 = .ok (.ishl, 1) := by decide +kernel
theorem dX8_papersAt_28 : decode cX8_papersAt 28 = .ok (.ior, 1) := by decide +kernel
theorem dX8_papersAt_29 : decode cX8_papersAt 29 = .ok (.istore_n 2, 1) := by decide +kernel
theorem dX8_papersAt_36 : decode cX8_papersAt 36 = .ok (.iload_n 2, 1) := by decide +kernel
theorem dX8_papersAt_37 : decode cX8_papersAt 37 = .ok (.ireturn, 1) := by decide +kernel
theorem dX8_sumOf_0 : decode cX8_sumOf 0 = .ok (.iconst 0, 1) := by decide +kernel
theorem dX8_sumOf_1 : decode cX8_sumOf 1 = .ok (.istore_n 2, 1) := by decide +kernel
theorem dX8_sumOf_2 : decode cX8_sumOf 2 = .ok (.iconst 0, 1) := by decide +kernel
theorem dX8_sumOf_3 : decode cX8_sumOf 3 = .ok (.istore_n 3, 1) := by decide +kernel
theorem dX8_sumOf_4 : decode cX8_sumOf 4 = .ok (.iload_n 3, 1) := by decide +kernel
theorem dX8_sumOf_5 : decode cX8_sumOf 5 = .ok (.aload_n 0, 1) := by decide +kernel
theorem dX8_sumOf_6 : decode cX8_sumOf 6 = .ok (.getfield 45, 3) := by decide +kernel
theorem dX8_sumOf_9 : decode cX8_sumOf 9 = .ok (.if_icmp .ge 41, 3) := by decide +kernel
theorem dX8_sumOf_12 : decode cX8_sumOf 12 = .ok (.iload_n 2, 1) := by decide +kernel
theorem dX8_sumOf_13 : decode cX8_sumOf 13 = .ok (.iload_n 1, 1) := by decide +kernel
theorem dX8_sumOf_14 : decode cX8_sumOf 14 = .ok (.iload_n 3, 1) := by decide +kernel
theorem dX8_sumOf_15 : decode cX8_sumOf 15 = .ok (.invokestatic 66, 3) := by decide +kernel
theorem dX8_sumOf_18 : decode cX8_sumOf 18 = .ok (.ifCond .eq 23, 3) := by decide +kernel
theorem dX8_sumOf_41 : decode cX8_sumOf 41 = .ok (.iconst 0, 1) := by decide +kernel
theorem dX8_sumOf_42 : decode cX8_sumOf 42 = .ok (.iadd, 1) := by decide +kernel
theorem dX8_sumOf_43 : decode cX8_sumOf 43 = .ok (.istore_n 2, 1) := by decide +kernel
theorem dX8_sumOf_44 : decode cX8_sumOf 44 = .ok (.iinc 3 1, 3) := by decide +kernel
theorem dX8_sumOf_47 : decode cX8_sumOf 47 = .ok (.goto (-43), 3) := by decide +kernel
theorem dX8_sumOf_21 : decode cX8_sumOf 21 = .ok (.aload_n 0, 1) := by decide +kernel
theorem dX8_sumOf_22 : decode cX8_sumOf 22 = .ok (.getfield 14, 3) := by decide +kernel
theorem dX8_sumOf_25 : decode cX8_sumOf 25 = .ok (.iload_n 3, 1) := by decide +kernel
theorem dX8_sumOf_26 : decode cX8_sumOf 26 = .ok (.invokevirtual 63, 3) := by decide +kernel
theorem dX8_sumOf_29 : decode cX8_sumOf 29 = .ok (.aload_n 0, 1) := by decide +kernel
theorem dX8_sumOf_30 : decode cX8_sumOf 30 = .ok (.getfield 20, 3) := by decide +kernel
theorem dX8_sumOf_33 : decode cX8_sumOf 33 = .ok (.iload_n 3, 1) := by decide +kernel
theorem dX8_sumOf_34 : decode cX8_sumOf 34 = .ok (.invokevirtual 63, 3) := by decide +kernel
theorem dX8_sumOf_37 : decode cX8_sumOf 37 = .ok (.imul, 1) := by decide +kernel
theorem dX8_sumOf_38 : decode cX8_sumOf 38 = .ok (.goto 4, 3) := by decide +kernel
theorem dX8_sumOf_50 : decode cX8_sumOf 50 = .ok (.iload_n 2, 1) := by decide +kernel
theorem dX8_sumOf_51 : decode cX8_sumOf 51 = .ok (.ireturn, 1) := by decide +kernel
theorem dX8_weightOf_0 : decode cX8_weightOf 0 = .ok (.iconst 0, 1) := by decide +kernel
theorem dX8_weightOf_1 : decode cX8_weightOf 1 = .ok (.istore_n 2, 1) := by decide +kernel
theorem dX8_weightOf_2 : decode cX8_weightOf 2 = .ok (.iconst 0, 1) := by decide +kernel
theorem dX8_weightOf_3 : decode cX8_weightOf 3 = .ok (.istore_n 3, 1) := by decide +kernel
theorem dX8_weightOf_4 : decode cX8_weightOf 4 = .ok (.iload_n 3, 1) := by decide +kernel
theorem dX8_weightOf_5 : decode cX8_weightOf 5 = .ok (.aload_n 0, 1) := by decide +kernel
theorem dX8_weightOf_6 : decode cX8_weightOf 6 = .ok (.getfield 45, 3) := by decide +kernel
theorem dX8_weightOf_9 : decode cX8_weightOf 9 = .ok (.if_icmp .ge 32, 3) := by decide +kernel
theorem dX8_weightOf_12 : decode cX8_weightOf 12 = .ok (.iload_n 2, 1) := by decide +kernel
theorem dX8_weightOf_13 : decode cX8_weightOf 13 = .ok (.iload_n 1, 1) := by decide +kernel
theorem dX8_weightOf_14 : decode cX8_weightOf 14 = .ok (.iload_n 3, 1) := by decide +kernel
theorem dX8_weightOf_15 : decode cX8_weightOf 15 = .ok (.invokestatic 66, 3) := by decide +kernel
theorem dX8_weightOf_18 : decode cX8_weightOf 18 = .ok (.ifCond .eq 14, 3) := by decide +kernel
theorem dX8_weightOf_32 : decode cX8_weightOf 32 = .ok (.iconst 0, 1) := by decide +kernel
theorem dX8_weightOf_33 : decode cX8_weightOf 33 = .ok (.iadd, 1) := by decide +kernel
theorem dX8_weightOf_34 : decode cX8_weightOf 34 = .ok (.istore_n 2, 1) := by decide +kernel
theorem dX8_weightOf_35 : decode cX8_weightOf 35 = .ok (.iinc 3 1, 3) := by decide +kernel
theorem dX8_weightOf_38 : decode cX8_weightOf 38 = .ok (.goto (-34), 3) := by decide +kernel
theorem dX8_weightOf_21 : decode cX8_weightOf 21 = .ok (.aload_n 0, 1) := by decide +kernel
theorem dX8_weightOf_22 : decode cX8_weightOf 22 = .ok (.getfield 20, 3) := by decide +kernel
theorem dX8_weightOf_25 : decode cX8_weightOf 25 = .ok (.iload_n 3, 1) := by decide +kernel
theorem dX8_weightOf_26 : decode cX8_weightOf 26 = .ok (.invokevirtual 63, 3) := by decide +kernel
theorem dX8_weightOf_29 : decode cX8_weightOf 29 = .ok (.goto 4, 3) := by decide +kernel
theorem dX8_weightOf_41 : decode cX8_weightOf 41 = .ok (.iload_n 2, 1) := by decide +kernel
theorem dX8_weightOf_42 : decode cX8_weightOf 42 = .ok (.ireturn, 1) := by decide +kernel
theorem dX8_papersUpTo_0 : decode cX8_papersUpTo 0 = .ok (.iconst 0, 1) := by decide +kernel
theorem dX8_papersUpTo_1 : decode cX8_papersUpTo 1 = .ok (.istore_n 2, 1) := by decide +kernel
theorem dX8_papersUpTo_2 : decode cX8_papersUpTo 2 = .ok (.iconst 0, 1) := by decide +kernel
theorem dX8_papersUpTo_3 : decode cX8_papersUpTo 3 = .ok (.istore_n 3, 1) := by decide +kernel
theorem dX8_papersUpTo_4 : decode cX8_papersUpTo 4 = .ok (.iload_n 3, 1) := by decide +kernel
theorem dX8_papersUpTo_5 : decode cX8_papersUpTo 5 = .ok (.aload_n 0, 1) := by decide +kernel
theorem dX8_papersUpTo_6 : decode cX8_papersUpTo 6 = .ok (.getfield 45, 3) := by decide +kernel
theorem dX8_papersUpTo_9 : decode cX8_papersUpTo 9 = .ok (.if_icmp .ge 31, 3) := by decide +kernel
theorem dX8_papersUpTo_12 : decode cX8_papersUpTo 12 = .ok (.iload_n 2, 1) := by decide +kernel
theorem dX8_papersUpTo_13 : decode cX8_papersUpTo 13 = .ok (.aload_n 0, 1) := by decide +kernel
theorem dX8_papersUpTo_14 : decode cX8_papersUpTo 14 = .ok (.getfield 14, 3) := by decide +kernel
theorem dX8_papersUpTo_17 : decode cX8_papersUpTo 17 = .ok (.iload_n 3, 1) := by decide +kernel
theorem dX8_papersUpTo_18 : decode cX8_papersUpTo 18 = .ok (.invokevirtual 63, 3) := by decide +kernel
theorem dX8_papersUpTo_21 : decode cX8_papersUpTo 21 = .ok (.iload_n 1, 1) := by decide +kernel
theorem dX8_papersUpTo_22 : decode cX8_papersUpTo 22 = .ok (.if_icmp .gt 9, 3) := by decide +kernel
theorem dX8_papersUpTo_31 : decode cX8_papersUpTo 31 = .ok (.iconst 0, 1) := by decide +kernel
theorem dX8_papersUpTo_32 : decode cX8_papersUpTo 32 = .ok (.ior, 1) := by decide +kernel
theorem dX8_papersUpTo_33 : decode cX8_papersUpTo 33 = .ok (.istore_n 2, 1) := by decide +kernel
theorem dX8_papersUpTo_34 : decode cX8_papersUpTo 34 = .ok (.iinc 3 1, 3) := by decide +kernel
theorem dX8_papersUpTo_37 : decode cX8_papersUpTo 37 = .ok (.goto (-33), 3) := by decide +kernel
theorem dX8_papersUpTo_25 : decode cX8_papersUpTo 25 = .ok (.iconst 1, 1) := by decide +kernel
theorem dX8_papersUpTo_26 : decode cX8_papersUpTo 26 = .ok (.iload_n 3, 1) := by decide +kernel
theorem dX8_papersUpTo_27 : decode cX8_papersUpTo 27 = .ok (.ishl, 1) := by decide +kernel
theorem dX8_papersUpTo_28 : decode cX8_papersUpTo 28 = .ok (.goto 4, 3) := by decide +kernel
theorem dX8_papersUpTo_40 : decode cX8_papersUpTo 40 = .ok (.iload_n 2, 1) := by decide +kernel
theorem dX8_papersUpTo_41 : decode cX8_papersUpTo 41 = .ok (.ireturn, 1) := by decide +kernel
set_option maxHeartbeats 4000000 in
set_option maxRecDepth 100000 in
theorem c_J6_bitCount_0f7a4 (l : Launch) (g : GG) (p0 : Int32) (hne : (m_J6_bitCount_0f7a4 p0) ≠ none) : Ct l g yJ6_bitCount_0f7a4 cJ6_bitCount_0f7a4 1 (some .int) ({ frames := 0, cells := 0, slots := 0, locals := 0 } : Room) [.int p0] (([] : va_W)) (Qi g .int (m_J6_bitCount_0f7a4 p0) (fun u => u) (fun u => ([] : va_W))) 0 0 := by
  obtain ⟨out, hf⟩ := ne_ex hne
  have hf0 := hf
  refine Ct.of (own := RJ6) (by decide +kernel) rfl (Nat.le_of_ble_eq_true rfl) ?_
  intro p e s m below meth c hx hb hr hml hown hts hlocks hin hK A H locs hA hP hD hS hE ls hl
  have hl : lv_has ls 1 [(0, .int p0)] := hl
  unfold m_J6_bitCount_0f7a4 at hf
  refine lv_iload_n hx hb dJ6_bitCount_0f7a4_0 rfl (lv_at hl 0 rfl) ?_
  refine lv_iload_n hx hb dJ6_bitCount_0f7a4_1 rfl (lv_at hl 0 rfl) ?_
  refine lv_iconst (v := 1) hx hb dJ6_bitCount_0f7a4_2 (by decide) ?_
  refine lv_iushr (v := (p0.toUInt32 >>> ((1 : Int32).toUInt32 &&& Int32.toUInt32 31)).toInt32) hx hb dJ6_bitCount_0f7a4_3 rfl ?_
  refine lv_ldcw hx hb hown (hts _ kw636) dJ6_bitCount_0f7a4_4 ?_
  refine lv_iand hx hb dJ6_bitCount_0f7a4_7 ?_
  refine lv_isub hx hb dJ6_bitCount_0f7a4_8 ?_
  obtain ⟨x1, ex1, hf⟩ := bnd hf
  refine nmI (Option.some.inj ex1) ?_
  refine lv_istore_n (lv' := [(0, .int x1)]) hx hb dJ6_bitCount_0f7a4_9 rfl hl (by decide) rfl (fun ls hl => ?_)
  refine lv_iload_n hx hb dJ6_bitCount_0f7a4_10 rfl (lv_at hl 0 rfl) ?_
  refine lv_ldcw hx hb hown (hts _ kw637) dJ6_bitCount_0f7a4_11 ?_
  refine lv_iand hx hb dJ6_bitCount_0f7a4_14 ?_
  refine lv_iload_n hx hb dJ6_bitCount_0f7a4_15 rfl (lv_at hl 0 rfl) ?_
  refine lv_iconst (v := 2) hx hb dJ6_bitCount_0f7a4_16 (by decide) ?_
  refine lv_iushr (v := (x1.toUInt32 >>> ((2 : Int32).toUInt32 &&& Int32.toUInt32 31)).toInt32) hx hb dJ6_bitCount_0f7a4_17 rfl ?_
  refine lv_ldcw hx hb hown (hts _ kw637) dJ6_bitCount_0f7a4_18 ?_
  refine lv_iand hx hb dJ6_bitCount_0f7a4_21 ?_
  refine lv_iadd hx hb dJ6_bitCount_0f7a4_22 ?_
  obtain ⟨x2, ex2, hf⟩ := bnd hf
  refine nmI (Option.some.inj ex2) ?_
  refine lv_istore_n (lv' := [(0, .int x2)]) hx hb dJ6_bitCount_0f7a4_23 rfl hl (by decide) rfl (fun ls hl => ?_)
  refine lv_iload_n hx hb dJ6_bitCount_0f7a4_24 rfl (lv_at hl 0 rfl) ?_
  refine lv_iload_n hx hb dJ6_bitCount_0f7a4_25 rfl (lv_at hl 0 rfl) ?_
  refine lv_iconst (v := 4) hx hb dJ6_bitCount_0f7a4_26 (by decide) ?_
  refine lv_iushr (v := (x2.toUInt32 >>> ((4 : Int32).toUInt32 &&& Int32.toUInt32 31)).toInt32) hx hb dJ6_bitCount_0f7a4_27 rfl ?_
  refine lv_iadd hx hb dJ6_bitCount_0f7a4_28 ?_
  refine lv_ldcw hx hb hown (hts _ kw638) dJ6_bitCount_0f7a4_29 ?_
  refine lv_iand hx hb dJ6_bitCount_0f7a4_32 ?_
  obtain ⟨x3, ex3, hf⟩ := bnd hf
  refine nmI (Option.some.inj ex3) ?_
  refine lv_istore_n (lv' := [(0, .int x3)]) hx hb dJ6_bitCount_0f7a4_33 rfl hl (by decide) rfl (fun ls hl => ?_)
  refine lv_iload_n hx hb dJ6_bitCount_0f7a4_34 rfl (lv_at hl 0 rfl) ?_
  refine lv_iload_n hx hb dJ6_bitCount_0f7a4_35 rfl (lv_at hl 0 rfl) ?_
  refine lv_bipush (v := 8) hx hb dJ6_bitCount_0f7a4_36 (by decide) ?_
  refine lv_iushr (v := (x3.toUInt32 >>> ((8 : Int32).toUInt32 &&& Int32.toUInt32 31)).toInt32) hx hb dJ6_bitCount_0f7a4_38 rfl ?_
  refine lv_iadd hx hb dJ6_bitCount_0f7a4_39 ?_
  obtain ⟨x4, ex4, hf⟩ := bnd hf
  refine nmI (Option.some.inj ex4) ?_
  refine lv_istore_n (lv' := [(0, .int x4)]) hx hb dJ6_bitCount_0f7a4_40 rfl hl (by decide) rfl (fun ls hl => ?_)
  refine lv_iload_n hx hb dJ6_bitCount_0f7a4_41 rfl (lv_at hl 0 rfl) ?_
  refine lv_iload_n hx hb dJ6_bitCount_0f7a4_42 rfl (lv_at hl 0 rfl) ?_
  refine lv_bipush (v := 16) hx hb dJ6_bitCount_0f7a4_43 (by decide) ?_
  refine lv_iushr (v := (x4.toUInt32 >>> ((16 : Int32).toUInt32 &&& Int32.toUInt32 31)).toInt32) hx hb dJ6_bitCount_0f7a4_45 rfl ?_
  refine lv_iadd hx hb dJ6_bitCount_0f7a4_46 ?_
  obtain ⟨x5, ex5, hf⟩ := bnd hf
  refine nmI (Option.some.inj ex5) ?_
  refine lv_istore_n (lv' := [(0, .int x5)]) hx hb dJ6_bitCount_0f7a4_47 rfl hl (by decide) rfl (fun ls hl => ?_)
  refine lv_iload_n hx hb dJ6_bitCount_0f7a4_48 rfl (lv_at hl 0 rfl) ?_
  refine lv_bipush (v := 63) hx hb dJ6_bitCount_0f7a4_49 (by decide) ?_
  refine lv_iand hx hb dJ6_bitCount_0f7a4_51 ?_
  exact retI (v := (x5 &&& (63 : Int32))) (u := (x5 &&& (63 : Int32))) (val := fun u => u) (W1 := fun u => ([] : va_W)) hx hb hr hlocks hS hP hD (hf0.trans hf.symm) rfl rfl dJ6_bitCount_0f7a4_52
set_option maxHeartbeats 4000000 in
set_option maxRecDepth 100000 in
theorem c_X5_pairCount (l : Launch) (g : GG) (a0 : Nat → Nat) (v0_overs : (Nat → Int32)) (v0_unders : (Nat → Int32)) (v0_marks : (Nat → Int32)) (v0_wrongs : (Nat → Int32)) (v0_papers : Int32) (hne : (m_X5_pairCount (v0_overs, v0_unders, v0_marks, v0_wrongs, v0_papers)) ≠ none) : Ct l g yX5_pairCount cX5_pairCount 3 (some .int) ({ frames := 1, cells := 0, slots := 0, locals := 21 } : Room) [.ref (a0 0)] (wX5 a0 g v0_overs v0_unders v0_marks v0_wrongs v0_papers) (Qi g .int (m_X5_pairCount (v0_overs, v0_unders, v0_marks, v0_wrongs, v0_papers)) (fun u => u) (fun u => wX5 a0 g v0_overs v0_unders v0_marks v0_wrongs v0_papers)) 0 0 := by
  obtain ⟨out, hf⟩ := ne_ex hne
  have hf0 := hf
  refine Ct.of (own := RX5) (by decide +kernel) rfl (Nat.le_of_ble_eq_true rfl) ?_
  intro p e s m below meth c hx hb hr hml hown hts hlocks hin hK A H locs hA hP hD hS hE ls hl
  have hl : lv_has ls 3 [(0, .ref (a0 0))] := hl
  unfold m_X5_pairCount at hf
  refine lv_iconst (v := 0) hx hb dX5_pairCount_0 (by decide) ?_
  refine lv_istore_n (lv' := [(1, .int (0 : Int32)), (0, .ref (a0 0))]) hx hb dX5_pairCount_1 rfl hl (by decide) rfl (fun ls hl => ?_)
  refine lv_iconst (v := 0) hx hb dX5_pairCount_2 (by decide) ?_
  refine lv_istore_n (lv' := [(2, .int (0 : Int32)), (1, .int (0 : Int32)), (0, .ref (a0 0))]) hx hb dX5_pairCount_3 rfl hl (by decide) rfl (fun ls hl => ?_)
  obtain ⟨r7, er7, hf⟩ := bnd hf
  refine lp_W (P := fun z => ∀ (H : Heap) (locs : List Loc) (ls : Array Slot), va_P g.1 vwCl (wX5 a0 g v0_overs v0_unders v0_marks v0_wrongs v0_papers) H → va_D A (wX5 a0 g v0_overs v0_unders v0_marks v0_wrongs v0_papers) → va_S A s.heap H locs → lv_has ls 3 [(0, .ref (a0 0)), (1, .int z.1), (2, .int z.2)] → W p l e { frames := 1, cells := 0, slots := 0, locals := 21 } s m [.ref (a0 0)].toArray below meth c H locs 0 0 (MQ below (Qi g .int (m_X5_pairCount (v0_overs, v0_unders, v0_marks, v0_wrongs, v0_papers)) (fun u => u) (fun u => wX5 a0 g v0_overs v0_unders v0_marks v0_wrongs v0_papers) A) [.ref (a0 0)].toArray s 0 0 A) (F0 m 4 ls [])) (E := fun r7 => ∀ (H : Heap) (locs : List Loc) (ls : Array Slot), va_P g.1 vwCl (wX5 a0 g v0_overs v0_unders v0_marks v0_wrongs v0_papers) H → va_D A (wX5 a0 g v0_overs v0_unders v0_marks v0_wrongs v0_papers) → va_S A s.heap H locs → lv_has ls 3 [(1, .int r7)] → W p l e { frames := 1, cells := 0, slots := 0, locals := 21 } s m [.ref (a0 0)].toArray below meth c H locs 0 0 (MQ below (Qi g .int (m_X5_pairCount (v0_overs, v0_unders, v0_marks, v0_wrongs, v0_papers)) (fun u => u) (fun u => wX5 a0 g v0_overs v0_unders v0_marks v0_wrongs v0_papers) A) [.ref (a0 0)].toArray s 0 0 A) (F0 m 32 ls [])) ?_ fu _ r7 er7 ?_ _ _ _ hP hD hS (lv_sub hl [2, 1, 0] rfl)
  · rintro ⟨x3, x4⟩ y hf hB hXt H locs ls hP hD hS hl
    have hP : va_P g.1 vwCl (wX5 a0 g v0_overs v0_unders v0_marks v0_wrongs v0_papers) H := hP
    have hD : va_D A (wX5 a0 g v0_overs v0_unders v0_marks v0_wrongs v0_papers) := hD
    have hl : lv_has ls 3 [(0, .ref (a0 0)), (1, .int x3), (2, .int x4)] := hl
    have hf : m_X5_pairCount_l4 (v0_overs, v0_unders, v0_marks, v0_wrongs, v0_papers) x3 x4 = some y := hf
    unfold m_X5_pairCount_l4 at hf
    refine lv_iload_n hx hb dX5_pairCount_4 rfl (lv_at hl 2 rfl) ?_
    refine lv_aload_n hx hb dX5_pairCount_5 rfl (lv_at hl 0 rfl) ?_
    refine va_get (D := g.1) (ci := 6) (v := .int v0_papers) (C := RX5) (T := TX5) (N := 5) hx hb hts layX5 hown hK.1 hP 0 rfl rfl 4 (by decide) (hts _ kw122) (fun _ h9 => h9) rfl dX5_pairCount_6 ?_
    refine lv_icmp_ge (tgt := 32) hx hb dX5_pairCount_9 (by decide) (fun cb => ?_) (fun cb => ?_)
    · have hf := it_t cb hf
      exact hXt _ (Option.some.inj hf).symm _ _ _ hP hD hS (lv_sub hl [1] rfl)
    have hf := it_f cb hf
    refine lv_iload_n hx hb dX5_pairCount_12 rfl (lv_at hl 1 rfl) ?_
    refine lv_aload_n hx hb dX5_pairCount_13 rfl (lv_at hl 0 rfl) ?_
    refine va_get (D := g.1) (ci := 6) (v := .ref (a0 7)) (C := RX5) (T := TX5) (N := 5) hx hb hts layX5 hown hK.1 hP 0 rfl rfl 3 (by decide) (hts _ kw121) (fun _ h9 => h9) rfl dX5_pairCount_14 ?_
    refine lv_iload_n hx hb dX5_pairCount_17 rfl (lv_at hl 2 rfl) ?_
    refine cIp hP hD hS hA hE (fun hPc hDc hSc => rV (As := [.int x4]) (rest := [.int x3]) hx hb hml hown hts hK (c_X2_get l g (fun i => a0 (i + 7)) 7 v0_wrongs x4 (bnd_ne hf)) svV_X2_get kw621 rfl rfl hPc hDc hSc rfl rfl hl.1 (Nat.le_of_ble_eq_true rfl) dX5_pairCount_18 ⟨Nat.le_of_ble_eq_true rfl, Nat.le_of_ble_eq_true rfl, rfl, rfl, Nat.le_of_ble_eq_true rfl, Nat.le_of_ble_eq_true rfl⟩) [(7, 2)] rfl rfl rfl (fun x5 H locs ex5 nx5 hP hS => ?_)
    have hf := bnd_of hf ex5
    refine cIp hP hD hS hA hE (fun hPc hDc hSc => rS (As := [.int x5]) (rest := [.int x3]) hx hb hml hown hts hK (c_J6_bitCount_0f7a4 l g x5 (bnd_ne hf)) svS_J6_bitCount_0f7a4 kw633 hPc hDc hSc rfl rfl hl.1 (Nat.le_of_ble_eq_true rfl) dX5_pairCount_21 ⟨Nat.le_of_ble_eq_true rfl, Nat.le_of_ble_eq_true rfl, rfl, rfl, Nat.le_of_ble_eq_true rfl, Nat.le_of_ble_eq_true rfl⟩) [] rfl rfl rfl (fun x6 H locs ex6 nx6 hP hS => ?_)
    have hf := bnd_of hf ex6
    refine lv_iadd hx hb dX5_pairCount_24 ?_
    refine lv_istore_n (lv' := [(1, .int (x3 + x6)), (0, .ref (a0 0)), (2, .int x4)]) hx hb dX5_pairCount_25 rfl hl (by decide) rfl (fun ls hl => ?_)
    refine lv_iinc (v := (x4 + 1)) (lv' := [(2, .int (x4 + 1)), (1, .int (x3 + x6)), (0, .ref (a0 0))]) hx hb dX5_pairCount_26 hl (k := 2) rfl (by rfl) (by decide) rfl (fun ls hl => ?_)
    refine lv_goto (tgt := 4) hx hb dX5_pairCount_29 (by decide) ?_
    exact hB _ (Option.some.inj hf).symm _ _ _ hP hD hS (lv_sub hl [2, 1, 0] rfl)
  intro H locs ls hP hD hS hl
  have hP : va_P g.1 vwCl (wX5 a0 g v0_overs v0_unders v0_marks v0_wrongs v0_papers) H := hP
  have hD : va_D A (wX5 a0 g v0_overs v0_unders v0_marks v0_wrongs v0_papers) := hD
  have hl : lv_has ls 3 [(1, .int r7)] := hl
  refine lv_iload_n hx hb dX5_pairCount_32 rfl (lv_at hl 0 rfl) ?_
  exact retI (v := r7) (u := r7) (val := fun u => u) (W1 := fun u => wX5 a0 g v0_overs v0_unders v0_marks v0_wrongs v0_papers) hx hb hr hlocks hS hP hD (hf0.trans hf.symm) rfl rfl dX5_pairCount_33
set_option maxHeartbeats 4000000 in
set_option maxRecDepth 100000 in
theorem c_X5_meetsAllPairs (l : Launch) (g : GG) (a0 : Nat → Nat) (v0_overs : (Nat → Int32)) (v0_unders : (Nat → Int32)) (v0_marks : (Nat → Int32)) (v0_wrongs : (Nat → Int32)) (v0_papers : Int32) (p1 : Int32) (hne : (m_X5_meetsAllPairs (v0_overs, v0_unders, v0_marks, v0_wrongs, v0_papers) p1) ≠ none) : Ct l g yX5_meetsAllPairs cX5_meetsAllPairs 3 (some .boolean) ({ frames := 1, cells := 0, slots := 0, locals := 21 } : Room) [.ref (a0 0), .int p1] (wX5 a0 g v0_overs v0_unders v0_marks v0_wrongs v0_papers) (Qi g .boolean (m_X5_meetsAllPairs (v0_overs, v0_unders, v0_marks, v0_wrongs, v0_papers) p1) (fun u => u) (fun u => wX5 a0 g v0_overs v0_unders v0_marks v0_wrongs v0_papers)) 0 0 := by
  obtain ⟨out, hf⟩ := ne_ex hne
  have hf0 := hf
  refine Ct.of (own := RX5) (by decide +kernel) rfl (Nat.le_of_ble_eq_true rfl) ?_
  intro p e s m below meth c hx hb hr hml hown hts hlocks hin hK A H locs hA hP hD hS hE ls hl
  have hl : lv_has ls 3 [(0, .ref (a0 0)), (1, .int p1)] := hl
  unfold m_X5_meetsAllPairs at hf
  refine lv_iconst (v := 0) hx hb dX5_meetsAllPairs_0 (by decide) ?_
  refine lv_istore_n (lv' := [(2, .int (0 : Int32)), (0, .ref (a0 0)), (1, .int p1)]) hx hb dX5_meetsAllPairs_1 rfl hl (by decide) rfl (fun ls hl => ?_)
  obtain ⟨r6, er6, hf⟩ := bnd hf
  refine lp_W (P := fun z => ∀ (H : Heap) (locs : List Loc) (ls : Array Slot), va_P g.1 vwCl (wX5 a0 g v0_overs v0_unders v0_marks v0_wrongs v0_papers) H → va_D A (wX5 a0 g v0_overs v0_unders v0_marks v0_wrongs v0_papers) → va_S A s.heap H locs → lv_has ls 3 [(0, .ref (a0 0)), (1, .int p1), (2, .int z)] → W p l e { frames := 1, cells := 0, slots := 0, locals := 21 } s m [.ref (a0 0), .int p1].toArray below meth c H locs 0 0 (MQ below (Qi g .boolean (m_X5_meetsAllPairs (v0_overs, v0_unders, v0_marks, v0_wrongs, v0_papers) p1) (fun u => u) (fun u => wX5 a0 g v0_overs v0_unders v0_marks v0_wrongs v0_papers) A) [.ref (a0 0), .int p1].toArray s 0 0 A) (F0 m 2 ls [])) (E := fun r6 => match r6 with | .inl x7 => (∀ (H : Heap) (locs : List Loc) (ls : Array Slot), va_P g.1 vwCl (wX5 a0 g v0_overs v0_unders v0_marks v0_wrongs v0_papers) H → va_D A (wX5 a0 g v0_overs v0_unders v0_marks v0_wrongs v0_papers) → va_S A s.heap H locs → lv_has ls 3 [] → W p l e { frames := 1, cells := 0, slots := 0, locals := 21 } s m [.ref (a0 0), .int p1].toArray below meth c H locs 0 0 (MQ below (Qi g .boolean (m_X5_meetsAllPairs (v0_overs, v0_unders, v0_marks, v0_wrongs, v0_papers) p1) (fun u => u) (fun u => wX5 a0 g v0_overs v0_unders v0_marks v0_wrongs v0_papers) A) [.ref (a0 0), .int p1].toArray s 0 0 A) (F0 m 33 ls [])) | .inr x8 => (∀ (H : Heap) (locs : List Loc) (ls : Array Slot), va_P g.1 vwCl (wX5 a0 g v0_overs v0_unders v0_marks v0_wrongs v0_papers) H → va_D A (wX5 a0 g v0_overs v0_unders v0_marks v0_wrongs v0_papers) → va_S A s.heap H locs → lv_has ls 3 [] → W p l e { frames := 1, cells := 0, slots := 0, locals := 21 } s m [.ref (a0 0), .int p1].toArray below meth c H locs 0 0 (MQ below (Qi g .boolean (m_X5_meetsAllPairs (v0_overs, v0_unders, v0_marks, v0_wrongs, v0_papers) p1) (fun u => u) (fun u => wX5 a0 g v0_overs v0_unders v0_marks v0_wrongs v0_papers) A) [.ref (a0 0), .int p1].toArray s 0 0 A) (F0 m 41 ls []))) ?_ fu _ r6 er6 ?_ _ _ _ hP hD hS (lv_sub hl [1, 2, 0] rfl)
  · rintro x3 y hf hB hXt H locs ls hP hD hS hl
    have hP : va_P g.1 vwCl (wX5 a0 g v0_overs v0_unders v0_marks v0_wrongs v0_papers) H := hP
    have hD : va_D A (wX5 a0 g v0_overs v0_unders v0_marks v0_wrongs v0_papers) := hD
    have hl : lv_has ls 3 [(0, .ref (a0 0)), (1, .int p1), (2, .int x3)] := hl
    have hf : m_X5_meetsAllPairs_l2 (v0_overs, v0_unders, v0_marks, v0_wrongs, v0_papers) p1 x3 = some y := hf
    unfold m_X5_meetsAllPairs_l2 at hf
    refine lv_iload_n hx hb dX5_meetsAllPairs_2 rfl (lv_at hl 2 rfl) ?_
    refine lv_aload_n hx hb dX5_meetsAllPairs_3 rfl (lv_at hl 0 rfl) ?_
    refine va_get (D := g.1) (ci := 6) (v := .int v0_papers) (C := RX5) (T := TX5) (N := 5) hx hb hts layX5 hown hK.1 hP 0 rfl rfl 4 (by decide) (hts _ kw122) (fun _ h9 => h9) rfl dX5_meetsAllPairs_4 ?_
    refine lv_icmp_ge (tgt := 41) hx hb dX5_meetsAllPairs_7 (by decide) (fun cb => ?_) (fun cb => ?_)
    · have hf := it_t cb hf
      exact hXt _ (Option.some.inj hf).symm _ _ _ hP hD hS (lv_sub hl [] rfl)
    have hf := it_f cb hf
    refine lv_iload_n hx hb dX5_meetsAllPairs_10 rfl (lv_at hl 1 rfl) ?_
    refine lv_iload_n hx hb dX5_meetsAllPairs_11 rfl (lv_at hl 2 rfl) ?_
    refine cIp hP hD hS hA hE (fun hPc hDc hSc => rSN (As := [.int p1, .int x3]) (rest := []) hx hb hml hown hts hK (c_X9_hasBit l g p1 x3 (bnd_ne hf)) svS_X9_hasBit nw14 hPc hDc hSc rfl rfl hl.1 (Nat.le_of_ble_eq_true rfl) dX5_meetsAllPairs_12 ⟨Nat.le_of_ble_eq_true rfl, Nat.le_of_ble_eq_true rfl, rfl, rfl, Nat.le_of_ble_eq_true rfl, Nat.le_of_ble_eq_true rfl⟩) [] rfl rfl rfl (fun x4 H locs ex4 nx4 hP hS => ?_)
    have hf := bnd_of hf ex4
    refine lv_if_ne (tgt := 35) hx hb dX5_meetsAllPairs_15 (by decide) (fun cb => ?_) (fun cb => ?_)
    · have hf := it_f cb hf
      refine lv_iinc (v := (x3 + 1)) (lv' := [(2, .int (x3 + 1)), (0, .ref (a0 0)), (1, .int p1)]) hx hb dX5_meetsAllPairs_35 hl (k := 2) rfl (by rfl) (by decide) rfl (fun ls hl => ?_)
      refine lv_goto (tgt := 2) hx hb dX5_meetsAllPairs_38 (by decide) ?_
      exact hB _ (Option.some.inj hf).symm _ _ _ hP hD hS (lv_sub hl [1, 2, 0] rfl)
    have hf := it_t cb hf
    refine lv_aload_n hx hb dX5_meetsAllPairs_18 rfl (lv_at hl 0 rfl) ?_
    refine va_get (D := g.1) (ci := 6) (v := .ref (a0 7)) (C := RX5) (T := TX5) (N := 5) hx hb hts layX5 hown hK.1 hP 0 rfl rfl 3 (by decide) (hts _ kw121) (fun _ h9 => h9) rfl dX5_meetsAllPairs_19 ?_
    refine lv_iload_n hx hb dX5_meetsAllPairs_22 rfl (lv_at hl 2 rfl) ?_
    refine cIp hP hD hS hA hE (fun hPc hDc hSc => rV (As := [.int x3]) (rest := []) hx hb hml hown hts hK (c_X2_get l g (fun i => a0 (i + 7)) 7 v0_wrongs x3 (bnd_ne hf)) svV_X2_get kw621 rfl rfl hPc hDc hSc rfl rfl hl.1 (Nat.le_of_ble_eq_true rfl) dX5_meetsAllPairs_23 ⟨Nat.le_of_ble_eq_true rfl, Nat.le_of_ble_eq_true rfl, rfl, rfl, Nat.le_of_ble_eq_true rfl, Nat.le_of_ble_eq_true rfl⟩) [(7, 2)] rfl rfl rfl (fun x5 H locs ex5 nx5 hP hS => ?_)
    have hf := bnd_of hf ex5
    refine lv_iload_n hx hb dX5_meetsAllPairs_26 rfl (lv_at hl 1 rfl) ?_
    refine lv_iconst (v := (-1)) hx hb dX5_meetsAllPairs_27 (by decide) ?_
    refine lv_ixor hx hb dX5_meetsAllPairs_28 ?_
    refine lv_iand hx hb dX5_meetsAllPairs_29 ?_
    refine lv_if_eq (tgt := 35) hx hb dX5_meetsAllPairs_30 (by decide) (fun cb => ?_) (fun cb => ?_)
    · have hf := it_t cb hf
      refine lv_iinc (v := (x3 + 1)) (lv' := [(2, .int (x3 + 1)), (0, .ref (a0 0)), (1, .int p1)]) hx hb dX5_meetsAllPairs_35 hl (k := 2) rfl (by rfl) (by decide) rfl (fun ls hl => ?_)
      refine lv_goto (tgt := 2) hx hb dX5_meetsAllPairs_38 (by decide) ?_
      exact hB _ (Option.some.inj hf).symm _ _ _ hP hD hS (lv_sub hl [1, 2, 0] rfl)
    have hf := it_f cb hf
    exact hXt _ (Option.some.inj hf).symm _ _ _ hP hD hS (lv_sub hl [] rfl)
  rcases r6 with x7 | x8
  · intro H locs ls hP hD hS hl
    have hP : va_P g.1 vwCl (wX5 a0 g v0_overs v0_unders v0_marks v0_wrongs v0_papers) H := hP
    have hD : va_D A (wX5 a0 g v0_overs v0_unders v0_marks v0_wrongs v0_papers) := hD
    have hl : lv_has ls 3 [] := hl
    refine lv_iconst (v := 0) hx hb dX5_meetsAllPairs_33 (by decide) ?_
    exact retI (v := (0 : Int32)) (u := (0 : Int32)) (val := fun u => u) (W1 := fun u => wX5 a0 g v0_overs v0_unders v0_marks v0_wrongs v0_papers) hx hb hr hlocks hS hP hD (hf0.trans hf.symm) rfl rfl dX5_meetsAllPairs_34
  · intro H locs ls hP hD hS hl
    have hP : va_P g.1 vwCl (wX5 a0 g v0_overs v0_unders v0_marks v0_wrongs v0_papers) H := hP
    have hD : va_D A (wX5 a0 g v0_overs v0_unders v0_marks v0_wrongs v0_papers) := hD
    have hl : lv_has ls 3 [] := hl
    refine lv_iconst (v := 1) hx hb dX5_meetsAllPairs_41 (by decide) ?_
    exact retI (v := (1 : Int32)) (u := (1 : Int32)) (val := fun u => u) (W1 := fun u => wX5 a0 g v0_overs v0_unders v0_marks v0_wrongs v0_papers) hx hb hr hlocks hS hP hD (hf0.trans hf.symm) rfl rfl dX5_meetsAllPairs_42
set_option maxHeartbeats 4000000 in
set_option maxRecDepth 100000 in
theorem c_X5_fewestToLeave (l : Launch) (g : GG) (a0 : Nat → Nat) (v0_overs : (Nat → Int32)) (v0_unders : (Nat → Int32)) (v0_marks : (Nat → Int32)) (v0_wrongs : (Nat → Int32)) (v0_papers : Int32) (hne : (m_X5_fewestToLeave (v0_overs, v0_unders, v0_marks, v0_wrongs, v0_papers)) ≠ none) : Ct l g yX5_fewestToLeave cX5_fewestToLeave 3 (some .int) ({ frames := 2, cells := 0, slots := 0, locals := 43 } : Room) [.ref (a0 0)] (wX5 a0 g v0_overs v0_unders v0_marks v0_wrongs v0_papers) (Qi g .int (m_X5_fewestToLeave (v0_overs, v0_unders, v0_marks, v0_wrongs, v0_papers)) (fun u => u) (fun u => wX5 a0 g v0_overs v0_unders v0_marks v0_wrongs v0_papers)) 0 0 := by
  obtain ⟨out, hf⟩ := ne_ex hne
  have hf0 := hf
  refine Ct.of (own := RX5) (by decide +kernel) rfl (Nat.le_of_ble_eq_true rfl) ?_
  intro p e s m below meth c hx hb hr hml hown hts hlocks hin hK A H locs hA hP hD hS hE ls hl
  have hl : lv_has ls 3 [(0, .ref (a0 0))] := hl
  unfold m_X5_fewestToLeave at hf
  refine lv_iconst (v := 1) hx hb dX5_fewestToLeave_0 (by decide) ?_
  refine lv_aload_n hx hb dX5_fewestToLeave_1 rfl (lv_at hl 0 rfl) ?_
  refine va_get (D := g.1) (ci := 6) (v := .int v0_papers) (C := RX5) (T := TX5) (N := 5) hx hb hts layX5 hown hK.1 hP 0 rfl rfl 4 (by decide) (hts _ kw122) (fun _ h9 => h9) rfl dX5_fewestToLeave_2 ?_
  refine lv_ishl hx hb dX5_fewestToLeave_5 ?_
  refine lv_iconst (v := 1) hx hb dX5_fewestToLeave_6 (by decide) ?_
  refine lv_isub hx hb dX5_fewestToLeave_7 ?_
  obtain ⟨x1, ex1, hf⟩ := bnd hf
  refine nmI (Option.some.inj ex1) ?_
  refine lv_istore_n (lv' := [(1, .int x1), (0, .ref (a0 0))]) hx hb dX5_fewestToLeave_8 rfl hl (by decide) rfl (fun ls hl => ?_)
  refine lv_iload_n hx hb dX5_fewestToLeave_9 rfl (lv_at hl 0 rfl) ?_
  refine lv_istore_n (lv' := [(2, .int x1), (1, .int x1), (0, .ref (a0 0))]) hx hb dX5_fewestToLeave_10 rfl hl (by decide) rfl (fun ls hl => ?_)
  obtain ⟨r10, er10, hf⟩ := bnd hf
  refine lp_W (P := fun z => ∀ (H : Heap) (locs : List Loc) (ls : Array Slot), va_P g.1 vwCl (wX5 a0 g v0_overs v0_unders v0_marks v0_wrongs v0_papers) H → va_D A (wX5 a0 g v0_overs v0_unders v0_marks v0_wrongs v0_papers) → va_S A s.heap H locs → lv_has ls 3 [(0, .ref (a0 0)), (1, .int z.1), (2, .int z.2)] → W p l e { frames := 2, cells := 0, slots := 0, locals := 43 } s m [.ref (a0 0)].toArray below meth c H locs 0 0 (MQ below (Qi g .int (m_X5_fewestToLeave (v0_overs, v0_unders, v0_marks, v0_wrongs, v0_papers)) (fun u => u) (fun u => wX5 a0 g v0_overs v0_unders v0_marks v0_wrongs v0_papers) A) [.ref (a0 0)].toArray s 0 0 A) (F0 m 11 ls [])) (E := fun r10 => ∀ (H : Heap) (locs : List Loc) (ls : Array Slot), va_P g.1 vwCl (wX5 a0 g v0_overs v0_unders v0_marks v0_wrongs v0_papers) H → va_D A (wX5 a0 g v0_overs v0_unders v0_marks v0_wrongs v0_papers) → va_S A s.heap H locs → lv_has ls 3 [(1, .int r10)] → W p l e { frames := 2, cells := 0, slots := 0, locals := 43 } s m [.ref (a0 0)].toArray below meth c H locs 0 0 (MQ below (Qi g .int (m_X5_fewestToLeave (v0_overs, v0_unders, v0_marks, v0_wrongs, v0_papers)) (fun u => u) (fun u => wX5 a0 g v0_overs v0_unders v0_marks v0_wrongs v0_papers) A) [.ref (a0 0)].toArray s 0 0 A) (F0 m 42 ls [])) ?_ fu _ r10 er10 ?_ _ _ _ hP hD hS (lv_sub hl [2, 1, 0] rfl)
  · rintro ⟨x5, x6⟩ y hf hB hXt H locs ls hP hD hS hl
    have hP : va_P g.1 vwCl (wX5 a0 g v0_overs v0_unders v0_marks v0_wrongs v0_papers) H := hP
    have hD : va_D A (wX5 a0 g v0_overs v0_unders v0_marks v0_wrongs v0_papers) := hD
    have hl : lv_has ls 3 [(0, .ref (a0 0)), (1, .int x5), (2, .int x6)] := hl
    have hf : m_X5_fewestToLeave_l11 (v0_overs, v0_unders, v0_marks, v0_wrongs, v0_papers) x5 x6 = some y := hf
    unfold m_X5_fewestToLeave_l11 at hf
    refine lv_iload_n hx hb dX5_fewestToLeave_11 rfl (lv_at hl 2 rfl) ?_
    refine lv_if_lt (tgt := 42) hx hb dX5_fewestToLeave_12 (by decide) (fun cb => ?_) (fun cb => ?_)
    · have hf := it_t cb hf
      exact hXt _ (Option.some.inj hf).symm _ _ _ hP hD hS (lv_sub hl [1] rfl)
    have hf := it_f cb hf
    refine lv_iload_n hx hb dX5_fewestToLeave_15 rfl (lv_at hl 2 rfl) ?_
    refine cIp hP hD hS hA hE (fun hPc hDc hSc => rS (As := [.int x6]) (rest := []) hx hb hml hown hts hK (c_J6_bitCount_0f7a4 l g x6 (bnd_ne hf)) svS_J6_bitCount_0f7a4 kw633 hPc hDc hSc rfl rfl hl.1 (Nat.le_of_ble_eq_true rfl) dX5_fewestToLeave_16 ⟨Nat.le_of_ble_eq_true rfl, Nat.le_of_ble_eq_true rfl, rfl, rfl, Nat.le_of_ble_eq_true rfl, Nat.le_of_ble_eq_true rfl⟩) [] rfl rfl rfl (fun x7 H locs ex7 nx7 hP hS => ?_)
    have hf := bnd_of hf ex7
    refine lv_iload_n hx hb dX5_fewestToLeave_19 rfl (lv_at hl 1 rfl) ?_
    refine cIp hP hD hS hA hE (fun hPc hDc hSc => rS (As := [.int x5]) (rest := [.int x7]) hx hb hml hown hts hK (c_J6_bitCount_0f7a4 l g x5 (bnd_ne hf)) svS_J6_bitCount_0f7a4 kw633 hPc hDc hSc rfl rfl hl.1 (Nat.le_of_ble_eq_true rfl) dX5_fewestToLeave_20 ⟨Nat.le_of_ble_eq_true rfl, Nat.le_of_ble_eq_true rfl, rfl, rfl, Nat.le_of_ble_eq_true rfl, Nat.le_of_ble_eq_true rfl⟩) [] rfl rfl rfl (fun x8 H locs ex8 nx8 hP hS => ?_)
    have hf := bnd_of hf ex8
    refine lv_icmp_gt (tgt := 36) hx hb dX5_fewestToLeave_23 (by decide) (fun cb => ?_) (fun cb => ?_)
    · have hf := it_t cb hf
      refine lv_iinc (v := (x6 + (-1))) (lv' := [(2, .int (x6 + (-1))), (0, .ref (a0 0)), (1, .int x5)]) hx hb dX5_fewestToLeave_36 hl (k := 2) rfl (by rfl) (by decide) rfl (fun ls hl => ?_)
      refine lv_goto (tgt := 11) hx hb dX5_fewestToLeave_39 (by decide) ?_
      exact hB _ (Option.some.inj hf).symm _ _ _ hP hD hS (lv_sub hl [1, 2, 0] rfl)
    have hf := it_f cb hf
    refine lv_aload_n hx hb dX5_fewestToLeave_26 rfl (lv_at hl 0 rfl) ?_
    refine lv_iload_n hx hb dX5_fewestToLeave_27 rfl (lv_at hl 2 rfl) ?_
    refine cIp hP hD hS hA hE (fun hPc hDc hSc => rV (As := [.int x6]) (rest := []) hx hb hml hown hts hK (c_X5_meetsAllPairs l g a0 v0_overs v0_unders v0_marks v0_wrongs v0_papers x6 (bnd_ne hf)) svV_X5_meetsAllPairs kw643 rfl rfl hPc hDc hSc rfl rfl hl.1 (Nat.le_of_ble_eq_true rfl) dX5_fewestToLeave_28 ⟨Nat.le_of_ble_eq_true rfl, Nat.le_of_ble_eq_true rfl, rfl, rfl, Nat.le_of_ble_eq_true rfl, Nat.le_of_ble_eq_true rfl⟩) [(0, 9)] rfl rfl rfl (fun x9 H locs ex9 nx9 hP hS => ?_)
    have hf := bnd_of hf ex9
    refine lv_if_eq (tgt := 36) hx hb dX5_fewestToLeave_31 (by decide) (fun cb => ?_) (fun cb => ?_)
    · have hf := it_t cb hf
      refine lv_iinc (v := (x6 + (-1))) (lv' := [(2, .int (x6 + (-1))), (0, .ref (a0 0)), (1, .int x5)]) hx hb dX5_fewestToLeave_36 hl (k := 2) rfl (by rfl) (by decide) rfl (fun ls hl => ?_)
      refine lv_goto (tgt := 11) hx hb dX5_fewestToLeave_39 (by decide) ?_
      exact hB _ (Option.some.inj hf).symm _ _ _ hP hD hS (lv_sub hl [1, 2, 0] rfl)
    have hf := it_f cb hf
    refine lv_iload_n hx hb dX5_fewestToLeave_34 rfl (lv_at hl 2 rfl) ?_
    refine lv_istore_n (lv' := [(1, .int x6), (0, .ref (a0 0)), (2, .int x6)]) hx hb dX5_fewestToLeave_35 rfl hl (by decide) rfl (fun ls hl => ?_)
    refine lv_iinc (v := (x6 + (-1))) (lv' := [(2, .int (x6 + (-1))), (1, .int x6), (0, .ref (a0 0))]) hx hb dX5_fewestToLeave_36 hl (k := 2) rfl (by rfl) (by decide) rfl (fun ls hl => ?_)
    refine lv_goto (tgt := 11) hx hb dX5_fewestToLeave_39 (by decide) ?_
    exact hB _ (Option.some.inj hf).symm _ _ _ hP hD hS (lv_sub hl [2, 1, 0] rfl)
  intro H locs ls hP hD hS hl
  have hP : va_P g.1 vwCl (wX5 a0 g v0_overs v0_unders v0_marks v0_wrongs v0_papers) H := hP
  have hD : va_D A (wX5 a0 g v0_overs v0_unders v0_marks v0_wrongs v0_papers) := hD
  have hl : lv_has ls 3 [(1, .int r10)] := hl
  refine lv_iload_n hx hb dX5_fewestToLeave_42 rfl (lv_at hl 0 rfl) ?_
  exact retI (v := r10) (u := r10) (val := fun u => u) (W1 := fun u => wX5 a0 g v0_overs v0_unders v0_marks v0_wrongs v0_papers) hx hb hr hlocks hS hP hD (hf0.trans hf.symm) rfl rfl dX5_fewestToLeave_43
set_option maxHeartbeats 4000000 in
set_option maxRecDepth 100000 in
theorem c_X8_begin (l : Launch) (g : GG) (a0 : Nat → Nat) (v0_marks : (Nat → Int32)) (v0_weights : (Nat → Int32)) (v0_places : (Nat → Int32)) (v0_aboves : (Nat → Int32)) (v0_belows : (Nat → Int32)) (v0_reduced_above : Int64) (v0_reduced_below : Int64) (v0_papers : Int32) (a1 : Nat → Nat) (v1_raws : (Nat → Int32)) (v1_kinds : (Nat → Int32)) (v1_figures : (Nat → Int32)) (v1_heavies : (Nat → Int32)) (v1_places : (Nat → Int32)) (v1_papers : Int32) (v1_lowers : (Nat → Int32)) (v1_uppers : (Nat → Int32)) (v1_rules : Int32) (v1_bounds : (Nat → Int32)) (v1_boundCount : Int32) (v1_tieWay : Int32) (v1_reached : (Nat → Int32)) (hne : (m_X8_begin (v0_marks, v0_weights, v0_places, v0_aboves, v0_belows, (v0_reduced_above, v0_reduced_below), v0_papers) (v1_raws, v1_kinds, v1_figures, v1_heavies, v1_places, v1_papers, v1_lowers, v1_uppers, v1_rules, v1_bounds, v1_boundCount, v1_tieWay, v1_reached)) ≠ none) : Ct l g yX8_begin cX8_begin 4 none ({ frames := 3, cells := 0, slots := 0, locals := 66 } : Room) [.ref (a0 0), .ref (a1 0)] (wX8 a0 g v0_marks v0_weights v0_places v0_aboves v0_belows v0_reduced_above v0_reduced_below v0_papers ++ wX6 a1 g v1_raws v1_kinds v1_figures v1_heavies v1_places v1_papers v1_lowers v1_uppers v1_rules v1_bounds v1_boundCount v1_tieWay v1_reached) (Qv g (m_X8_begin (v0_marks, v0_weights, v0_places, v0_aboves, v0_belows, (v0_reduced_above, v0_reduced_below), v0_papers) (v1_raws, v1_kinds, v1_figures, v1_heavies, v1_places, v1_papers, v1_lowers, v1_uppers, v1_rules, v1_bounds, v1_boundCount, v1_tieWay, v1_reached)) (fun u => wX8 a0 g u.1 u.2.1 u.2.2.1 u.2.2.2.1 u.2.2.2.2.1 v0_reduced_above v0_reduced_below u.2.2.2.2.2 ++ wX6 a1 g v1_raws v1_kinds v1_figures v1_heavies v1_places v1_papers v1_lowers v1_uppers v1_rules v1_bounds v1_boundCount v1_tieWay v1_reached)) 0 0 := by
  obtain ⟨out, hf⟩ := ne_ex hne
  have hf0 := hf
  refine Ct.of (own := RX8) (by decide +kernel) rfl (Nat.le_of_ble_eq_true rfl) ?_
  intro p e s m below meth c hx hb hr hml hown hts hlocks hin hK A H locs hA hP hD hS hE ls hl
  have hl : lv_has ls 4 [(0, .ref (a0 0)), (1, .ref (a1 0))] := hl
  unfold m_X8_begin at hf
  refine lv_aload_n hx hb dX8_begin_0 rfl (lv_at hl 0 rfl) ?_
  refine lv_aload_n hx hb dX8_begin_1 rfl (lv_at hl 1 rfl) ?_
  refine cIp hP hD hS hA hE (fun hPc hDc hSc => rV (As := []) (rest := [.ref (a0 0)]) hx hb hml hown hts hK (c_X6_paperCount l g a1 v1_raws v1_kinds v1_figures v1_heavies v1_places v1_papers v1_lowers v1_uppers v1_rules v1_bounds v1_boundCount v1_tieWay v1_reached (bnd_ne hf)) svV_X6_paperCount kw668 rfl rfl hPc hDc hSc rfl rfl hl.1 (Nat.le_of_ble_eq_true rfl) dX8_begin_2 ⟨Nat.le_of_ble_eq_true rfl, Nat.le_of_ble_eq_true rfl, rfl, rfl, Nat.le_of_ble_eq_true rfl, Nat.le_of_ble_eq_true rfl⟩) [(12, 19)] rfl rfl rfl (fun x1 H locs ex1 nx1 hP hS => ?_)
  have hf := bnd_of hf ex1
  refine va_put (D := g.1) (ci := 9) (v := .int x1) (ty := .int) (C := RX8) (T := TX8) (N := 7) hx hb hts layX8 tyX8 tyX8_ok nmX8 hown hK.1 hP hD hS 0 rfl rfl 6 (by decide) (hts _ kw157) (fun _ h9 => h9) rfl (tyX8_ok 6 (by decide)) rfl rfl (Nat.le_of_ble_eq_true rfl) dX8_begin_5 (fun H locs hP hD hS => ?_)
  have hP : va_P g.1 vwCl (wX8 a0 g v0_marks v0_weights v0_places v0_aboves v0_belows v0_reduced_above v0_reduced_below x1 ++ wX6 a1 g v1_raws v1_kinds v1_figures v1_heavies v1_places v1_papers v1_lowers v1_uppers v1_rules v1_bounds v1_boundCount v1_tieWay v1_reached) H := hP
  have hD : va_D A (wX8 a0 g v0_marks v0_weights v0_places v0_aboves v0_belows v0_reduced_above v0_reduced_below x1 ++ wX6 a1 g v1_raws v1_kinds v1_figures v1_heavies v1_places v1_papers v1_lowers v1_uppers v1_rules v1_bounds v1_boundCount v1_tieWay v1_reached) := hD
  refine lv_iconst (v := 0) hx hb dX8_begin_8 (by decide) ?_
  refine lv_istore_n (lv' := [(2, .int (0 : Int32)), (0, .ref (a0 0)), (1, .ref (a1 0))]) hx hb dX8_begin_9 rfl hl (by decide) rfl (fun ls hl => ?_)
  obtain ⟨r24, er24, hf⟩ := bnd hf
  refine lp_W (P := fun z => ∀ (H : Heap) (locs : List Loc) (ls : Array Slot), va_P g.1 vwCl (wX8 a0 g z.2.1 z.2.2.1 z.2.2.2.1 z.2.2.2.2.1 z.2.2.2.2.2 v0_reduced_above v0_reduced_below x1 ++ wX6 a1 g v1_raws v1_kinds v1_figures v1_heavies v1_places v1_papers v1_lowers v1_uppers v1_rules v1_bounds v1_boundCount v1_tieWay v1_reached) H → va_D A (wX8 a0 g z.2.1 z.2.2.1 z.2.2.2.1 z.2.2.2.2.1 z.2.2.2.2.2 v0_reduced_above v0_reduced_below x1 ++ wX6 a1 g v1_raws v1_kinds v1_figures v1_heavies v1_places v1_papers v1_lowers v1_uppers v1_rules v1_bounds v1_boundCount v1_tieWay v1_reached) → va_S A s.heap H locs → lv_has ls 4 [(0, .ref (a0 0)), (1, .ref (a1 0)), (2, .int z.1)] → W p l e { frames := 3, cells := 0, slots := 0, locals := 66 } s m [.ref (a0 0), .ref (a1 0)].toArray below meth c H locs 0 0 (MQ below (Qv g (m_X8_begin (v0_marks, v0_weights, v0_places, v0_aboves, v0_belows, (v0_reduced_above, v0_reduced_below), v0_papers) (v1_raws, v1_kinds, v1_figures, v1_heavies, v1_places, v1_papers, v1_lowers, v1_uppers, v1_rules, v1_bounds, v1_boundCount, v1_tieWay, v1_reached)) (fun u => wX8 a0 g u.1 u.2.1 u.2.2.1 u.2.2.2.1 u.2.2.2.2.1 v0_reduced_above v0_reduced_below u.2.2.2.2.2 ++ wX6 a1 g v1_raws v1_kinds v1_figures v1_heavies v1_places v1_papers v1_lowers v1_uppers v1_rules v1_bounds v1_boundCount v1_tieWay v1_reached) A) [.ref (a0 0), .ref (a1 0)].toArray s 0 0 A) (F0 m 10 ls [])) (E := fun r24 => ∀ (H : Heap) (locs : List Loc) (ls : Array Slot), va_P g.1 vwCl (wX8 a0 g r24.1 r24.2.1 r24.2.2.1 r24.2.2.2.1 r24.2.2.2.2 v0_reduced_above v0_reduced_below x1 ++ wX6 a1 g v1_raws v1_kinds v1_figures v1_heavies v1_places v1_papers v1_lowers v1_uppers v1_rules v1_bounds v1_boundCount v1_tieWay v1_reached) H → va_D A (wX8 a0 g r24.1 r24.2.1 r24.2.2.1 r24.2.2.2.1 r24.2.2.2.2 v0_reduced_above v0_reduced_below x1 ++ wX6 a1 g v1_raws v1_kinds v1_figures v1_heavies v1_places v1_papers v1_lowers v1_uppers v1_rules v1_bounds v1_boundCount v1_tieWay v1_reached) → va_S A s.heap H locs → lv_has ls 4 [] → W p l e { frames := 3, cells := 0, slots := 0, locals := 66 } s m [.ref (a0 0), .ref (a1 0)].toArray below meth c H locs 0 0 (MQ below (Qv g (m_X8_begin (v0_marks, v0_weights, v0_places, v0_aboves, v0_belows, (v0_reduced_above, v0_reduced_below), v0_papers) (v1_raws, v1_kinds, v1_figures, v1_heavies, v1_places, v1_papers, v1_lowers, v1_uppers, v1_rules, v1_bounds, v1_boundCount, v1_tieWay, v1_reached)) (fun u => wX8 a0 g u.1 u.2.1 u.2.2.1 u.2.2.2.1 u.2.2.2.2.1 v0_reduced_above v0_reduced_below u.2.2.2.2.2 ++ wX6 a1 g v1_raws v1_kinds v1_figures v1_heavies v1_places v1_papers v1_lowers v1_uppers v1_rules v1_bounds v1_boundCount v1_tieWay v1_reached) A) [.ref (a0 0), .ref (a1 0)].toArray s 0 0 A) (F0 m 83 ls [])) ?_ fu _ r24 er24 ?_ _ _ _ hP hD hS (lv_sub hl [1, 2, 0] rfl)
  · rintro ⟨x10, x11, x12, x13, x14, x15⟩ y hf hB hXt H locs ls hP hD hS hl
    have hP : va_P g.1 vwCl (wX8 a0 g x11 x12 x13 x14 x15 v0_reduced_above v0_reduced_below x1 ++ wX6 a1 g v1_raws v1_kinds v1_figures v1_heavies v1_places v1_papers v1_lowers v1_uppers v1_rules v1_bounds v1_boundCount v1_tieWay v1_reached) H := hP
    have hD : va_D A (wX8 a0 g x11 x12 x13 x14 x15 v0_reduced_above v0_reduced_below x1 ++ wX6 a1 g v1_raws v1_kinds v1_figures v1_heavies v1_places v1_papers v1_lowers v1_uppers v1_rules v1_bounds v1_boundCount v1_tieWay v1_reached) := hD
    have hl : lv_has ls 4 [(0, .ref (a0 0)), (1, .ref (a1 0)), (2, .int x10)] := hl
    have hf : m_X8_begin_l10 (v1_raws, v1_kinds, v1_figures, v1_heavies, v1_places, v1_papers, v1_lowers, v1_uppers, v1_rules, v1_bounds, v1_boundCount, v1_tieWay, v1_reached) x1 x10 x11 x12 x13 x14 x15 = some y := hf
    unfold m_X8_begin_l10 at hf
    refine lv_iload_n hx hb dX8_begin_10 rfl (lv_at hl 2 rfl) ?_
    refine lv_aload_n hx hb dX8_begin_11 rfl (lv_at hl 0 rfl) ?_
    refine va_get (D := g.1) (ci := 9) (v := .int x1) (C := RX8) (T := TX8) (N := 7) hx hb hts layX8 hown hK.1 hP 0 rfl rfl 6 (by decide) (hts _ kw157) (fun _ h9 => h9) rfl dX8_begin_12 ?_
    refine lv_icmp_ge (tgt := 83) hx hb dX8_begin_15 (by decide) (fun cb => ?_) (fun cb => ?_)
    · have hf := it_t cb hf
      exact hXt _ (Option.some.inj hf).symm _ _ _ hP hD hS (lv_sub hl [] rfl)
    have hf := it_f cb hf
    refine lv_aload_n hx hb dX8_begin_18 rfl (lv_at hl 1 rfl) ?_
    refine lv_iload_n hx hb dX8_begin_19 rfl (lv_at hl 2 rfl) ?_
    refine cIp hP hD hS hA hE (fun hPc hDc hSc => rV (As := [.int x10]) (rest := []) hx hb hml hown hts hK (c_X6_markOf l g a1 v1_raws v1_kinds v1_figures v1_heavies v1_places v1_papers v1_lowers v1_uppers v1_rules v1_bounds v1_boundCount v1_tieWay v1_reached x10 (bnd_ne hf)) svV_X6_markOf kw669 rfl rfl hPc hDc hSc rfl rfl hl.1 (Nat.le_of_ble_eq_true rfl) dX8_begin_20 ⟨Nat.le_of_ble_eq_true rfl, Nat.le_of_ble_eq_true rfl, rfl, rfl, Nat.le_of_ble_eq_true rfl, Nat.le_of_ble_eq_true rfl⟩) [(12, 19)] rfl rfl rfl (fun x16 H locs ex16 nx16 hP hS => ?_)
    have hf := bnd_of hf ex16
    refine lv_istore_n (lv' := [(3, .int x16), (0, .ref (a0 0)), (1, .ref (a1 0)), (2, .int x10)]) hx hb dX8_begin_23 rfl hl (by decide) rfl (fun ls hl => ?_)
    refine lv_aload_n hx hb dX8_begin_24 rfl (lv_at hl 1 rfl) ?_
    refine va_get (D := g.1) (ci := 9) (v := .ref (a0 1)) (C := RX8) (T := TX8) (N := 7) hx hb hts layX8 hown hK.1 hP 0 rfl rfl 0 (by decide) (hts _ kw151) (fun _ h9 => h9) rfl dX8_begin_25 ?_
    refine lv_iload_n hx hb dX8_begin_28 rfl (lv_at hl 3 rfl) ?_
    refine lv_iload_n hx hb dX8_begin_29 rfl (lv_at hl 0 rfl) ?_
    refine cV hP hD hS hA hE (fun hPc hDc hSc => rV (As := [.int x10, .int x16]) (rest := []) hx hb hml hown hts hK (c_X2_set l g (fun i => a0 (i + 1)) 7 x11 x10 x16 (bnd_ne hf)) svV_X2_set kw670 rfl rfl hPc hDc hSc rfl rfl hl.1 (Nat.le_of_ble_eq_true rfl) dX8_begin_30 ⟨Nat.le_of_ble_eq_true rfl, Nat.le_of_ble_eq_true rfl, rfl, rfl, Nat.le_of_ble_eq_true rfl, Nat.le_of_ble_eq_true rfl⟩) [(1, 2)] rfl rfl rfl (fun _ => rfl) (fun x17 H locs ex17 hP hD hS => ?_)
    have hf := bnd_of hf ex17
    have hP : va_P g.1 vwCl (wX8 a0 g x17 x12 x13 x14 x15 v0_reduced_above v0_reduced_below x1 ++ wX6 a1 g v1_raws v1_kinds v1_figures v1_heavies v1_places v1_papers v1_lowers v1_uppers v1_rules v1_bounds v1_boundCount v1_tieWay v1_reached) H := hP
    have hD : va_D A (wX8 a0 g x17 x12 x13 x14 x15 v0_reduced_above v0_reduced_below x1 ++ wX6 a1 g v1_raws v1_kinds v1_figures v1_heavies v1_places v1_papers v1_lowers v1_uppers v1_rules v1_bounds v1_boundCount v1_tieWay v1_reached) := hD
    refine lv_aload_n hx hb dX8_begin_33 rfl (lv_at hl 1 rfl) ?_
    refine va_get (D := g.1) (ci := 9) (v := .ref (a0 3)) (C := RX8) (T := TX8) (N := 7) hx hb hts layX8 hown hK.1 hP 0 rfl rfl 1 (by decide) (hts _ kw152) (fun _ h9 => h9) rfl dX8_begin_34 ?_
    refine lv_iload_n hx hb dX8_begin_37 rfl (lv_at hl 3 rfl) ?_
    refine lv_aload_n hx hb dX8_begin_38 rfl (lv_at hl 2 rfl) ?_
    refine lv_iload_n hx hb dX8_begin_39 rfl (lv_at hl 3 rfl) ?_
    refine cIp hP hD hS hA hE (fun hPc hDc hSc => rV (As := [.int x10]) (rest := [.int x10, .ref (a0 3)]) hx hb hml hown hts hK (c_X6_weightOf l g a1 v1_raws v1_kinds v1_figures v1_heavies v1_places v1_papers v1_lowers v1_uppers v1_rules v1_bounds v1_boundCount v1_tieWay v1_reached x10 (bnd_ne hf)) svV_X6_weightOf kw671 rfl rfl hPc hDc hSc rfl rfl hl.1 (Nat.le_of_ble_eq_true rfl) dX8_begin_40 ⟨Nat.le_of_ble_eq_true rfl, Nat.le_of_ble_eq_true rfl, rfl, rfl, Nat.le_of_ble_eq_true rfl, Nat.le_of_ble_eq_true rfl⟩) [(12, 19)] rfl rfl rfl (fun x18 H locs ex18 nx18 hP hS => ?_)
    have hf := bnd_of hf ex18
    refine cV hP hD hS hA hE (fun hPc hDc hSc => rV (As := [.int x10, .int x18]) (rest := []) hx hb hml hown hts hK (c_X2_set l g (fun i => a0 (i + 3)) 7 x12 x10 x18 (bnd_ne hf)) svV_X2_set kw670 rfl rfl hPc hDc hSc rfl rfl hl.1 (Nat.le_of_ble_eq_true rfl) dX8_begin_43 ⟨Nat.le_of_ble_eq_true rfl, Nat.le_of_ble_eq_true rfl, rfl, rfl, Nat.le_of_ble_eq_true rfl, Nat.le_of_ble_eq_true rfl⟩) [(3, 2)] rfl rfl rfl (fun _ => rfl) (fun x19 H locs ex19 hP hD hS => ?_)
    have hf := bnd_of hf ex19
    have hP : va_P g.1 vwCl (wX8 a0 g x17 x19 x13 x14 x15 v0_reduced_above v0_reduced_below x1 ++ wX6 a1 g v1_raws v1_kinds v1_figures v1_heavies v1_places v1_papers v1_lowers v1_uppers v1_rules v1_bounds v1_boundCount v1_tieWay v1_reached) H := hP
    have hD : va_D A (wX8 a0 g x17 x19 x13 x14 x15 v0_reduced_above v0_reduced_below x1 ++ wX6 a1 g v1_raws v1_kinds v1_figures v1_heavies v1_places v1_papers v1_lowers v1_uppers v1_rules v1_bounds v1_boundCount v1_tieWay v1_reached) := hD
    refine lv_aload_n hx hb dX8_begin_46 rfl (lv_at hl 1 rfl) ?_
    refine va_get (D := g.1) (ci := 9) (v := .ref (a0 5)) (C := RX8) (T := TX8) (N := 7) hx hb hts layX8 hown hK.1 hP 0 rfl rfl 2 (by decide) (hts _ kw153) (fun _ h9 => h9) rfl dX8_begin_47 ?_
    refine lv_iload_n hx hb dX8_begin_50 rfl (lv_at hl 3 rfl) ?_
    refine lv_aload_n hx hb dX8_begin_51 rfl (lv_at hl 2 rfl) ?_
    refine lv_iload_n hx hb dX8_begin_52 rfl (lv_at hl 3 rfl) ?_
    refine cIp hP hD hS hA hE (fun hPc hDc hSc => rV (As := [.int x10]) (rest := [.int x10, .ref (a0 5)]) hx hb hml hown hts hK (c_X6_placeOf l g a1 v1_raws v1_kinds v1_figures v1_heavies v1_places v1_papers v1_lowers v1_uppers v1_rules v1_bounds v1_boundCount v1_tieWay v1_reached x10 (bnd_ne hf)) svV_X6_placeOf kw672 rfl rfl hPc hDc hSc rfl rfl hl.1 (Nat.le_of_ble_eq_true rfl) dX8_begin_53 ⟨Nat.le_of_ble_eq_true rfl, Nat.le_of_ble_eq_true rfl, rfl, rfl, Nat.le_of_ble_eq_true rfl, Nat.le_of_ble_eq_true rfl⟩) [(12, 19)] rfl rfl rfl (fun x20 H locs ex20 nx20 hP hS => ?_)
    have hf := bnd_of hf ex20
    refine cV hP hD hS hA hE (fun hPc hDc hSc => rV (As := [.int x10, .int x20]) (rest := []) hx hb hml hown hts hK (c_X2_set l g (fun i => a0 (i + 5)) 7 x13 x10 x20 (bnd_ne hf)) svV_X2_set kw670 rfl rfl hPc hDc hSc rfl rfl hl.1 (Nat.le_of_ble_eq_true rfl) dX8_begin_56 ⟨Nat.le_of_ble_eq_true rfl, Nat.le_of_ble_eq_true rfl, rfl, rfl, Nat.le_of_ble_eq_true rfl, Nat.le_of_ble_eq_true rfl⟩) [(5, 2)] rfl rfl rfl (fun _ => rfl) (fun x21 H locs ex21 hP hD hS => ?_)
    have hf := bnd_of hf ex21
    have hP : va_P g.1 vwCl (wX8 a0 g x17 x19 x21 x14 x15 v0_reduced_above v0_reduced_below x1 ++ wX6 a1 g v1_raws v1_kinds v1_figures v1_heavies v1_places v1_papers v1_lowers v1_uppers v1_rules v1_bounds v1_boundCount v1_tieWay v1_reached) H := hP
    have hD : va_D A (wX8 a0 g x17 x19 x21 x14 x15 v0_reduced_above v0_reduced_below x1 ++ wX6 a1 g v1_raws v1_kinds v1_figures v1_heavies v1_places v1_papers v1_lowers v1_uppers v1_rules v1_bounds v1_boundCount v1_tieWay v1_reached) := hD
    refine lv_aload_n hx hb dX8_begin_59 rfl (lv_at hl 1 rfl) ?_
    refine va_get (D := g.1) (ci := 9) (v := .ref (a0 7)) (C := RX8) (T := TX8) (N := 7) hx hb hts layX8 hown hK.1 hP 0 rfl rfl 3 (by decide) (hts _ kw154) (fun _ h9 => h9) rfl dX8_begin_60 ?_
    refine lv_iload_n hx hb dX8_begin_63 rfl (lv_at hl 3 rfl) ?_
    refine lv_iload_n hx hb dX8_begin_64 rfl (lv_at hl 0 rfl) ?_
    refine cV hP hD hS hA hE (fun hPc hDc hSc => rV (As := [.int x10, .int x16]) (rest := []) hx hb hml hown hts hK (c_X2_set l g (fun i => a0 (i + 7)) 7 x14 x10 x16 (bnd_ne hf)) svV_X2_set kw670 rfl rfl hPc hDc hSc rfl rfl hl.1 (Nat.le_of_ble_eq_true rfl) dX8_begin_65 ⟨Nat.le_of_ble_eq_true rfl, Nat.le_of_ble_eq_true rfl, rfl, rfl, Nat.le_of_ble_eq_true rfl, Nat.le_of_ble_eq_true rfl⟩) [(7, 2)] rfl rfl rfl (fun _ => rfl) (fun x22 H locs ex22 hP hD hS => ?_)
    have hf := bnd_of hf ex22
    have hP : va_P g.1 vwCl (wX8 a0 g x17 x19 x21 x22 x15 v0_reduced_above v0_reduced_below x1 ++ wX6 a1 g v1_raws v1_kinds v1_figures v1_heavies v1_places v1_papers v1_lowers v1_uppers v1_rules v1_bounds v1_boundCount v1_tieWay v1_reached) H := hP
    have hD : va_D A (wX8 a0 g x17 x19 x21 x22 x15 v0_reduced_above v0_reduced_below x1 ++ wX6 a1 g v1_raws v1_kinds v1_figures v1_heavies v1_places v1_papers v1_lowers v1_uppers v1_rules v1_bounds v1_boundCount v1_tieWay v1_reached) := hD
    refine lv_aload_n hx hb dX8_begin_68 rfl (lv_at hl 1 rfl) ?_
    refine va_get (D := g.1) (ci := 9) (v := .ref (a0 9)) (C := RX8) (T := TX8) (N := 7) hx hb hts layX8 hown hK.1 hP 0 rfl rfl 4 (by decide) (hts _ kw155) (fun _ h9 => h9) rfl dX8_begin_69 ?_
    refine lv_iload_n hx hb dX8_begin_72 rfl (lv_at hl 3 rfl) ?_
    refine lv_iconst (v := 1) hx hb dX8_begin_73 (by decide) ?_
    refine cV hP hD hS hA hE (fun hPc hDc hSc => rV (As := [.int x10, .int (1 : Int32)]) (rest := []) hx hb hml hown hts hK (c_X2_set l g (fun i => a0 (i + 9)) 7 x15 x10 (1 : Int32) (bnd_ne hf)) svV_X2_set kw670 rfl rfl hPc hDc hSc rfl rfl hl.1 (Nat.le_of_ble_eq_true rfl) dX8_begin_74 ⟨Nat.le_of_ble_eq_true rfl, Nat.le_of_ble_eq_true rfl, rfl, rfl, Nat.le_of_ble_eq_true rfl, Nat.le_of_ble_eq_true rfl⟩) [(9, 2)] rfl rfl rfl (fun _ => rfl) (fun x23 H locs ex23 hP hD hS => ?_)
    have hf := bnd_of hf ex23
    have hP : va_P g.1 vwCl (wX8 a0 g x17 x19 x21 x22 x23 v0_reduced_above v0_reduced_below x1 ++ wX6 a1 g v1_raws v1_kinds v1_figures v1_heavies v1_places v1_papers v1_lowers v1_uppers v1_rules v1_bounds v1_boundCount v1_tieWay v1_reached) H := hP
    have hD : va_D A (wX8 a0 g x17 x19 x21 x22 x23 v0_reduced_above v0_reduced_below x1 ++ wX6 a1 g v1_raws v1_kinds v1_figures v1_heavies v1_places v1_papers v1_lowers v1_uppers v1_rules v1_bounds v1_boundCount v1_tieWay v1_reached) := hD
    refine lv_iinc (v := (x10 + 1)) (lv' := [(2, .int (x10 + 1)), (3, .int x16), (0, .ref (a0 0)), (1, .ref (a1 0))]) hx hb dX8_begin_77 hl (k := 3) rfl (by rfl) (by decide) rfl (fun ls hl => ?_)
    refine lv_goto (tgt := 10) hx hb dX8_begin_80 (by decide) ?_
    exact hB _ (Option.some.inj hf).symm _ _ _ hP hD hS (lv_sub hl [2, 3, 0] rfl)
  intro H locs ls hP hD hS hl
  have hP : va_P g.1 vwCl (wX8 a0 g r24.1 r24.2.1 r24.2.2.1 r24.2.2.2.1 r24.2.2.2.2 v0_reduced_above v0_reduced_below x1 ++ wX6 a1 g v1_raws v1_kinds v1_figures v1_heavies v1_places v1_papers v1_lowers v1_uppers v1_rules v1_bounds v1_boundCount v1_tieWay v1_reached) H := hP
  have hD : va_D A (wX8 a0 g r24.1 r24.2.1 r24.2.2.1 r24.2.2.2.1 r24.2.2.2.2 v0_reduced_above v0_reduced_below x1 ++ wX6 a1 g v1_raws v1_kinds v1_figures v1_heavies v1_places v1_papers v1_lowers v1_uppers v1_rules v1_bounds v1_boundCount v1_tieWay v1_reached) := hD
  have hl : lv_has ls 4 [] := hl
  exact retV (u := (r24.1, r24.2.1, r24.2.2.1, r24.2.2.2.1, r24.2.2.2.2, x1)) (W1 := fun u => wX8 a0 g u.1 u.2.1 u.2.2.1 u.2.2.2.1 u.2.2.2.2.1 v0_reduced_above v0_reduced_below u.2.2.2.2.2 ++ wX6 a1 g v1_raws v1_kinds v1_figures v1_heavies v1_places v1_papers v1_lowers v1_uppers v1_rules v1_bounds v1_boundCount v1_tieWay v1_reached) hx hb hr hlocks hS hP hD (hf0.trans hf.symm) dX8_begin_83
set_option maxHeartbeats 4000000 in
set_option maxRecDepth 100000 in
theorem c_X8_paperCount (l : Launch) (g : GG) (a0 : Nat → Nat) (v0_marks : (Nat → Int32)) (v0_weights : (Nat → Int32)) (v0_places : (Nat → Int32)) (v0_aboves : (Nat → Int32)) (v0_belows : (Nat → Int32)) (v0_reduced_above : Int64) (v0_reduced_below : Int64) (v0_papers : Int32) (hne : (m_X8_paperCount (v0_marks, v0_weights, v0_places, v0_aboves, v0_belows, (v0_reduced_above, v0_reduced_below), v0_papers)) ≠ none) : Ct l g yX8_paperCount cX8_paperCount 1 (some .int) ({ frames := 0, cells := 0, slots := 0, locals := 0 } : Room) [.ref (a0 0)] (wX8 a0 g v0_marks v0_weights v0_places v0_aboves v0_belows v0_reduced_above v0_reduced_below v0_papers) (Qi g .int (m_X8_paperCount (v0_marks, v0_weights, v0_places, v0_aboves, v0_belows, (v0_reduced_above, v0_reduced_below), v0_papers)) (fun u => u) (fun u => wX8 a0 g v0_marks v0_weights v0_places v0_aboves v0_belows v0_reduced_above v0_reduced_below v0_papers)) 0 0 := by
  obtain ⟨out, hf⟩ := ne_ex hne
  have hf0 := hf
  refine Ct.of (own := RX8) (by decide +kernel) rfl (Nat.le_of_ble_eq_true rfl) ?_
  intro p e s m below meth c hx hb hr hml hown hts hlocks hin hK A H locs hA hP hD hS hE ls hl
  have hl : lv_has ls 1 [(0, .ref (a0 0))] := hl
  unfold m_X8_paperCount at hf
  refine lv_aload_n hx hb dX8_paperCount_0 rfl (lv_at hl 0 rfl) ?_
  refine va_get (D := g.1) (ci := 9) (v := .int v0_papers) (C := RX8) (T := TX8) (N := 7) hx hb hts layX8 hown hK.1 hP 0 rfl rfl 6 (by decide) (hts _ kw157) (fun _ h9 => h9) rfl dX8_paperCount_1 ?_
  exact retI (v := v0_papers) (u := v0_papers) (val := fun u => u) (W1 := fun u => wX8 a0 g v0_marks v0_weights v0_places v0_aboves v0_belows v0_reduced_above v0_reduced_below v0_papers) hx hb hr hlocks hS hP hD (hf0.trans hf.symm) rfl rfl dX8_paperCount_4
set_option maxHeartbeats 4000000 in
set_option maxRecDepth 100000 in
theorem c_X8_allPapers (l : Launch) (g : GG) (a0 : Nat → Nat) (v0_marks : (Nat → Int32)) (v0_weights : (Nat → Int32)) (v0_places : (Nat → Int32)) (v0_aboves : (Nat → Int32)) (v0_belows : (Nat → Int32)) (v0_reduced_above : Int64) (v0_reduced_below : Int64) (v0_papers : Int32) (hne : (m_X8_allPapers (v0_marks, v0_weights, v0_places, v0_aboves, v0_belows, (v0_reduced_above, v0_reduced_below), v0_papers)) ≠ none) : Ct l g yX8_allPapers cX8_allPapers 1 (some .int) ({ frames := 0, cells := 0, slots := 0, locals := 0 } : Room) [.ref (a0 0)] (wX8 a0 g v0_marks v0_weights v0_places v0_aboves v0_belows v0_reduced_above v0_reduced_below v0_papers) (Qi g .int (m_X8_allPapers (v0_marks, v0_weights, v0_places, v0_aboves, v0_belows, (v0_reduced_above, v0_reduced_below), v0_papers)) (fun u => u) (fun u => wX8 a0 g v0_marks v0_weights v0_places v0_aboves v0_belows v0_reduced_above v0_reduced_below v0_papers)) 0 0 := by
  obtain ⟨out, hf⟩ := ne_ex hne
  have hf0 := hf
  refine Ct.of (own := RX8) (by decide +kernel) rfl (Nat.le_of_ble_eq_true rfl) ?_
  intro p e s m below meth c hx hb hr hml hown hts hlocks hin hK A H locs hA hP hD hS hE ls hl
  have hl : lv_has ls 1 [(0, .ref (a0 0))] := hl
  unfold m_X8_allPapers at hf
  refine lv_iconst (v := 1) hx hb dX8_allPapers_0 (by decide) ?_
  refine lv_aload_n hx hb dX8_allPapers_1 rfl (lv_at hl 0 rfl) ?_
  refine va_get (D := g.1) (ci := 9) (v := .int v0_papers) (C := RX8) (T := TX8) (N := 7) hx hb hts layX8 hown hK.1 hP 0 rfl rfl 6 (by decide) (hts _ kw157) (fun _ h9 => h9) rfl dX8_allPapers_2 ?_
  refine lv_ishl hx hb dX8_allPapers_5 ?_
  refine lv_iconst (v := 1) hx hb dX8_allPapers_6 (by decide) ?_
  refine lv_isub hx hb dX8_allPapers_7 ?_
  exact retI (v := (((1 : Int32) <<< (v0_papers &&& 31)) - (1 : Int32))) (u := (((1 : Int32) <<< (v0_papers &&& 31)) - (1 : Int32))) (val := fun u => u) (W1 := fun u => wX8 a0 g v0_marks v0_weights v0_places v0_aboves v0_belows v0_reduced_above v0_reduced_below v0_papers) hx hb hr hlocks hS hP hD (hf0.trans hf.symm) rfl rfl dX8_allPapers_8
set_option maxHeartbeats 4000000 in
set_option maxRecDepth 100000 in
theorem c_X8_markAt (l : Launch) (g : GG) (a0 : Nat → Nat) (v0_marks : (Nat → Int32)) (v0_weights : (Nat → Int32)) (v0_places : (Nat → Int32)) (v0_aboves : (Nat → Int32)) (v0_belows : (Nat → Int32)) (v0_reduced_above : Int64) (v0_reduced_below : Int64) (v0_papers : Int32) (p1 : Int32) (hne : (m_X8_markAt (v0_marks, v0_weights, v0_places, v0_aboves, v0_belows, (v0_reduced_above, v0_reduced_below), v0_papers) p1) ≠ none) : Ct l g yX8_markAt cX8_markAt 2 (some .int) ({ frames := 1, cells := 0, slots := 0, locals := 21 } : Room) [.ref (a0 0), .int p1] (wX8 a0 g v0_marks v0_weights v0_places v0_aboves v0_belows v0_reduced_above v0_reduced_below v0_papers) (Qi g .int (m_X8_markAt (v0_marks, v0_weights, v0_places, v0_aboves, v0_belows, (v0_reduced_above, v0_reduced_below), v0_papers) p1) (fun u => u) (fun u => wX8 a0 g v0_marks v0_weights v0_places v0_aboves v0_belows v0_reduced_above v0_reduced_below v0_papers)) 0 0 := by
  obtain ⟨out, hf⟩ := ne_ex hne
  have hf0 := hf
  refine Ct.of (own := RX8) (by decide +kernel) rfl (Nat.le_of_ble_eq_true rfl) ?_
  intro p e s m below meth c hx hb hr hml hown hts hlocks hin hK A H locs hA hP hD hS hE ls hl
  have hl : lv_has ls 2 [(0, .ref (a0 0)), (1, .int p1)] := hl
  unfold m_X8_markAt at hf
  refine lv_aload_n hx hb dX8_markAt_0 rfl (lv_at hl 0 rfl) ?_
  refine va_get (D := g.1) (ci := 9) (v := .ref (a0 1)) (C := RX8) (T := TX8) (N := 7) hx hb hts layX8 hown hK.1 hP 0 rfl rfl 0 (by decide) (hts _ kw151) (fun _ h9 => h9) rfl dX8_markAt_1 ?_
  refine lv_iload_n hx hb dX8_markAt_4 rfl (lv_at hl 1 rfl) ?_
  refine cIp hP hD hS hA hE (fun hPc hDc hSc => rV (As := [.int p1]) (rest := []) hx hb hml hown hts hK (c_X2_get l g (fun i => a0 (i + 1)) 7 v0_marks p1 (bnd_ne hf)) svV_X2_get kw698 rfl rfl hPc hDc hSc rfl rfl hl.1 (Nat.le_of_ble_eq_true rfl) dX8_markAt_5 ⟨Nat.le_of_ble_eq_true rfl, Nat.le_of_ble_eq_true rfl, rfl, rfl, Nat.le_of_ble_eq_true rfl, Nat.le_of_ble_eq_true rfl⟩) [(1, 2)] rfl rfl rfl (fun x1 H locs ex1 nx1 hP hS => ?_)
  have hf := bnd_of hf ex1
  exact retI (v := x1) (u := x1) (val := fun u => u) (W1 := fun u => wX8 a0 g v0_marks v0_weights v0_places v0_aboves v0_belows v0_reduced_above v0_reduced_below v0_papers) hx hb hr hlocks hS hP hD (hf0.trans hf.symm) rfl rfl dX8_markAt_8
set_option maxHeartbeats 4000000 in
set_option maxRecDepth 100000 in
theorem c_X8_weightAt (l : Launch) (g : GG) (a0 : Nat → Nat) (v0_marks : (Nat → Int32)) (v0_weights : (Nat → Int32)) (v0_places : (Nat → Int32)) (v0_aboves : (Nat → Int32)) (v0_belows : (Nat → Int32)) (v0_reduced_above : Int64) (v0_reduced_below : Int64) (v0_papers : Int32) (p1 : Int32) (hne : (m_X8_weightAt (v0_marks, v0_weights, v0_places, v0_aboves, v0_belows, (v0_reduced_above, v0_reduced_below), v0_papers) p1) ≠ none) : Ct l g yX8_weightAt cX8_weightAt 2 (some .int) ({ frames := 1, cells := 0, slots := 0, locals := 21 } : Room) [.ref (a0 0), .int p1] (wX8 a0 g v0_marks v0_weights v0_places v0_aboves v0_belows v0_reduced_above v0_reduced_below v0_papers) (Qi g .int (m_X8_weightAt (v0_marks, v0_weights, v0_places, v0_aboves, v0_belows, (v0_reduced_above, v0_reduced_below), v0_papers) p1) (fun u => u) (fun u => wX8 a0 g v0_marks v0_weights v0_places v0_aboves v0_belows v0_reduced_above v0_reduced_below v0_papers)) 0 0 := by
  obtain ⟨out, hf⟩ := ne_ex hne
  have hf0 := hf
  refine Ct.of (own := RX8) (by decide +kernel) rfl (Nat.le_of_ble_eq_true rfl) ?_
  intro p e s m below meth c hx hb hr hml hown hts hlocks hin hK A H locs hA hP hD hS hE ls hl
  have hl : lv_has ls 2 [(0, .ref (a0 0)), (1, .int p1)] := hl
  unfold m_X8_weightAt at hf
  refine lv_aload_n hx hb dX8_weightAt_0 rfl (lv_at hl 0 rfl) ?_
  refine va_get (D := g.1) (ci := 9) (v := .ref (a0 3)) (C := RX8) (T := TX8) (N := 7) hx hb hts layX8 hown hK.1 hP 0 rfl rfl 1 (by decide) (hts _ kw152) (fun _ h9 => h9) rfl dX8_weightAt_1 ?_
  refine lv_iload_n hx hb dX8_weightAt_4 rfl (lv_at hl 1 rfl) ?_
  refine cIp hP hD hS hA hE (fun hPc hDc hSc => rV (As := [.int p1]) (rest := []) hx hb hml hown hts hK (c_X2_get l g (fun i => a0 (i + 3)) 7 v0_weights p1 (bnd_ne hf)) svV_X2_get kw698 rfl rfl hPc hDc hSc rfl rfl hl.1 (Nat.le_of_ble_eq_true rfl) dX8_weightAt_5 ⟨Nat.le_of_ble_eq_true rfl, Nat.le_of_ble_eq_true rfl, rfl, rfl, Nat.le_of_ble_eq_true rfl, Nat.le_of_ble_eq_true rfl⟩) [(3, 2)] rfl rfl rfl (fun x1 H locs ex1 nx1 hP hS => ?_)
  have hf := bnd_of hf ex1
  exact retI (v := x1) (u := x1) (val := fun u => u) (W1 := fun u => wX8 a0 g v0_marks v0_weights v0_places v0_aboves v0_belows v0_reduced_above v0_reduced_below v0_papers) hx hb hr hlocks hS hP hD (hf0.trans hf.symm) rfl rfl dX8_weightAt_8
set_option maxHeartbeats 4000000 in
set_option maxRecDepth 100000 in
theorem c_X8_placeAt (l : Launch) (g : GG) (a0 : Nat → Nat) (v0_marks : (Nat → Int32)) (v0_weights : (Nat → Int32)) (v0_places : (Nat → Int32)) (v0_aboves : (Nat → Int32)) (v0_belows : (Nat → Int32)) (v0_reduced_above : Int64) (v0_reduced_below : Int64) (v0_papers : Int32) (p1 : Int32) (hne : (m_X8_placeAt (v0_marks, v0_weights, v0_places, v0_aboves, v0_belows, (v0_reduced_above, v0_reduced_below), v0_papers) p1) ≠ none) : Ct l g yX8_placeAt cX8_placeAt 2 (some .int) ({ frames := 1, cells := 0, slots := 0, locals := 21 } : Room) [.ref (a0 0), .int p1] (wX8 a0 g v0_marks v0_weights v0_places v0_aboves v0_belows v0_reduced_above v0_reduced_below v0_papers) (Qi g .int (m_X8_placeAt (v0_marks, v0_weights, v0_places, v0_aboves, v0_belows, (v0_reduced_above, v0_reduced_below), v0_papers) p1) (fun u => u) (fun u => wX8 a0 g v0_marks v0_weights v0_places v0_aboves v0_belows v0_reduced_above v0_reduced_below v0_papers)) 0 0 := by
  obtain ⟨out, hf⟩ := ne_ex hne
  have hf0 := hf
  refine Ct.of (own := RX8) (by decide +kernel) rfl (Nat.le_of_ble_eq_true rfl) ?_
  intro p e s m below meth c hx hb hr hml hown hts hlocks hin hK A H locs hA hP hD hS hE ls hl
  have hl : lv_has ls 2 [(0, .ref (a0 0)), (1, .int p1)] := hl
  unfold m_X8_placeAt at hf
  refine lv_aload_n hx hb dX8_placeAt_0 rfl (lv_at hl 0 rfl) ?_
  refine va_get (D := g.1) (ci := 9) (v := .ref (a0 5)) (C := RX8) (T := TX8) (N := 7) hx hb hts layX8 hown hK.1 hP 0 rfl rfl 2 (by decide) (hts _ kw153) (fun _ h9 => h9) rfl dX8_placeAt_1 ?_
  refine lv_iload_n hx hb dX8_placeAt_4 rfl (lv_at hl 1 rfl) ?_
  refine cIp hP hD hS hA hE (fun hPc hDc hSc => rV (As := [.int p1]) (rest := []) hx hb hml hown hts hK (c_X2_get l g (fun i => a0 (i + 5)) 7 v0_places p1 (bnd_ne hf)) svV_X2_get kw698 rfl rfl hPc hDc hSc rfl rfl hl.1 (Nat.le_of_ble_eq_true rfl) dX8_placeAt_5 ⟨Nat.le_of_ble_eq_true rfl, Nat.le_of_ble_eq_true rfl, rfl, rfl, Nat.le_of_ble_eq_true rfl, Nat.le_of_ble_eq_true rfl⟩) [(5, 2)] rfl rfl rfl (fun x1 H locs ex1 nx1 hP hS => ?_)
  have hf := bnd_of hf ex1
  exact retI (v := x1) (u := x1) (val := fun u => u) (W1 := fun u => wX8 a0 g v0_marks v0_weights v0_places v0_aboves v0_belows v0_reduced_above v0_reduced_below v0_papers) hx hb hr hlocks hS hP hD (hf0.trans hf.symm) rfl rfl dX8_placeAt_8
set_option maxHeartbeats 4000000 in
set_option maxRecDepth 100000 in
theorem c_X8_papersAt (l : Launch) (g : GG) (a0 : Nat → Nat) (v0_marks : (Nat → Int32)) (v0_weights : (Nat → Int32)) (v0_places : (Nat → Int32)) (v0_aboves : (Nat → Int32)) (v0_belows : (Nat → Int32)) (v0_reduced_above : Int64) (v0_reduced_below : Int64) (v0_papers : Int32) (p1 : Int32) (hne : (m_X8_papersAt (v0_marks, v0_weights, v0_places, v0_aboves, v0_belows, (v0_reduced_above, v0_reduced_below), v0_papers) p1) ≠ none) : Ct l g yX8_papersAt cX8_papersAt 4 (some .int) ({ frames := 1, cells := 0, slots := 0, locals := 21 } : Room) [.ref (a0 0), .int p1] (wX8 a0 g v0_marks v0_weights v0_places v0_aboves v0_belows v0_reduced_above v0_reduced_below v0_papers) (Qi g .int (m_X8_papersAt (v0_marks, v0_weights, v0_places, v0_aboves, v0_belows, (v0_reduced_above, v0_reduced_below), v0_papers) p1) (fun u => u) (fun u => wX8 a0 g v0_marks v0_weights v0_places v0_aboves v0_belows v0_reduced_above v0_reduced_below v0_papers)) 0 0 := by
  obtain ⟨out, hf⟩ := ne_ex hne
  have hf0 := hf
  refine Ct.of (own := RX8) (by decide +kernel) rfl (Nat.le_of_ble_eq_true rfl) ?_
  intro p e s m below meth c hx hb hr hml hown hts hlocks hin hK A H locs hA hP hD hS hE ls hl
  have hl : lv_has ls 4 [(0, .ref (a0 0)), (1, .int p1)] := hl
  unfold m_X8_papersAt at hf
  refine lv_iconst (v := 0) hx hb dX8_papersAt_0 (by decide) ?_
  refine lv_istore_n (lv' := [(2, .int (0 : Int32)), (0, .ref (a0 0)), (1, .int p1)]) hx hb dX8_papersAt_1 rfl hl (by decide) rfl (fun ls hl => ?_)
  refine lv_iconst (v := 0) hx hb dX8_papersAt_2 (by decide) ?_
  refine lv_istore_n (lv' := [(3, .int (0 : Int32)), (2, .int (0 : Int32)), (0, .ref (a0 0)), (1, .int p1)]) hx hb dX8_papersAt_3 rfl hl (by decide) rfl (fun ls hl => ?_)
  obtain ⟨r6, er6, hf⟩ := bnd hf
  refine lp_W (P := fun z => ∀ (H : Heap) (locs : List Loc) (ls : Array Slot), va_P g.1 vwCl (wX8 a0 g v0_marks v0_weights v0_places v0_aboves v0_belows v0_reduced_above v0_reduced_below v0_papers) H → va_D A (wX8 a0 g v0_marks v0_weights v0_places v0_aboves v0_belows v0_reduced_above v0_reduced_below v0_papers) → va_S A s.heap H locs → lv_has ls 4 [(0, .ref (a0 0)), (1, .int p1), (2, .int z.1), (3, .int z.2)] → W p l e { frames := 1, cells := 0, slots := 0, locals := 21 } s m [.ref (a0 0), .int p1].toArray below meth c H locs 0 0 (MQ below (Qi g .int (m_X8_papersAt (v0_marks, v0_weights, v0_places, v0_aboves, v0_belows, (v0_reduced_above, v0_reduced_below), v0_papers) p1) (fun u => u) (fun u => wX8 a0 g v0_marks v0_weights v0_places v0_aboves v0_belows v0_reduced_above v0_reduced_below v0_papers) A) [.ref (a0 0), .int p1].toArray s 0 0 A) (F0 m 4 ls [])) (E := fun r6 => ∀ (H : Heap) (locs : List Loc) (ls : Array Slot), va_P g.1 vwCl (wX8 a0 g v0_marks v0_weights v0_places v0_aboves v0_belows v0_reduced_above v0_reduced_below v0_papers) H → va_D A (wX8 a0 g v0_marks v0_weights v0_places v0_aboves v0_belows v0_reduced_above v0_reduced_below v0_papers) → va_S A s.heap H locs → lv_has ls 4 [(2, .int r6)] → W p l e { frames := 1, cells := 0, slots := 0, locals := 21 } s m [.ref (a0 0), .int p1].toArray below meth c H locs 0 0 (MQ below (Qi g .int (m_X8_papersAt (v0_marks, v0_weights, v0_places, v0_aboves, v0_belows, (v0_reduced_above, v0_reduced_below), v0_papers) p1) (fun u => u) (fun u => wX8 a0 g v0_marks v0_weights v0_places v0_aboves v0_belows v0_reduced_above v0_reduced_below v0_papers) A) [.ref (a0 0), .int p1].toArray s 0 0 A) (F0 m 36 ls [])) ?_ fu _ r6 er6 ?_ _ _ _ hP hD hS (lv_sub hl [2, 3, 1, 0] rfl)
  · rintro ⟨x3, x4⟩ y hf hB hXt H locs ls hP hD hS hl
    have hP : va_P g.1 vwCl (wX8 a0 g v0_marks v0_weights v0_places v0_aboves v0_belows v0_reduced_above v0_reduced_below v0_papers) H := hP
    have hD : va_D A (wX8 a0 g v0_marks v0_weights v0_places v0_aboves v0_belows v0_reduced_above v0_reduced_below v0_papers) := hD
    have hl : lv_has ls 4 [(0, .ref (a0 0)), (1, .int p1), (2, .int x3), (3, .int x4)] := hl
    have hf : m_X8_papersAt_l4 (v0_marks, v0_weights, v0_places, v0_aboves, v0_belows, (v0_reduced_above, v0_reduced_below), v0_papers) p1 x3 x4 = some y := hf
    unfold m_X8_papersAt_l4 at hf
    refine lv_iload_n hx hb dX8_papersAt_4 rfl (lv_at hl 3 rfl) ?_
    refine lv_aload_n hx hb dX8_papersAt_5 rfl (lv_at hl 0 rfl) ?_
    refine va_get (D := g.1) (ci := 9) (v := .int v0_papers) (C := RX8) (T := TX8) (N := 7) hx hb hts layX8 hown hK.1 hP 0 rfl rfl 6 (by decide) (hts _ kw157) (fun _ h9 => h9) rfl dX8_papersAt_6 ?_
    refine lv_icmp_ge (tgt := 36) hx hb dX8_papersAt_9 (by decide) (fun cb => ?_) (fun cb => ?_)
    · have hf := it_t cb hf
      exact hXt _ (Option.some.inj hf).symm _ _ _ hP hD hS (lv_sub hl [2] rfl)
    have hf := it_f cb hf
    refine lv_aload_n hx hb dX8_papersAt_12 rfl (lv_at hl 0 rfl) ?_
    refine va_get (D := g.1) (ci := 9) (v := .ref (a0 5)) (C := RX8) (T := TX8) (N := 7) hx hb hts layX8 hown hK.1 hP 0 rfl rfl 2 (by decide) (hts _ kw153) (fun _ h9 => h9) rfl dX8_papersAt_13 ?_
    refine lv_iload_n hx hb dX8_papersAt_16 rfl (lv_at hl 3 rfl) ?_
    refine cIp hP hD hS hA hE (fun hPc hDc hSc => rV (As := [.int x4]) (rest := []) hx hb hml hown hts hK (c_X2_get l g (fun i => a0 (i + 5)) 7 v0_places x4 (bnd_ne hf)) svV_X2_get kw698 rfl rfl hPc hDc hSc rfl rfl hl.1 (Nat.le_of_ble_eq_true rfl) dX8_papersAt_17 ⟨Nat.le_of_ble_eq_true rfl, Nat.le_of_ble_eq_true rfl, rfl, rfl, Nat.le_of_ble_eq_true rfl, Nat.le_of_ble_eq_true rfl⟩) [(5, 2)] rfl rfl rfl (fun x5 H locs ex5 nx5 hP hS => ?_)
    have hf := bnd_of hf ex5
    refine lv_iload_n hx hb dX8_papersAt_20 rfl (lv_at hl 1 rfl) ?_
    refine lv_icmp_ne (tgt := 30) hx hb dX8_papersAt_21 (by decide) (fun cb => ?_) (fun cb => ?_)
    · have hf := it_f cb hf
      refine lv_iinc (v := (x4 + 1)) (lv' := [(3, .int (x4 + 1)), (0, .ref (a0 0)), (1, .int p1), (2, .int x3)]) hx hb dX8_papersAt_30 hl (k := 3) rfl (by rfl) (by decide) rfl (fun ls hl => ?_)
      refine lv_goto (tgt := 4) hx hb dX8_papersAt_33 (by decide) ?_
      exact hB _ (Option.some.inj hf).symm _ _ _ hP hD hS (lv_sub hl [1, 2, 3, 0] rfl)
    have hf := it_t cb hf
    refine lv_iload_n hx hb dX8_papersAt_24 rfl (lv_at hl 2 rfl) ?_
    refine lv_iconst (v := 1) hx hb dX8_papersAt_25 (by decide) ?_
    refine lv_iload_n hx hb dX8_papersAt_26 rfl (lv_at hl 3 rfl) ?_
    refine lv_ishl hx hb dX8_papersAt_27 ?_
    refine lv_ior hx hb dX8_papersAt_28 ?_
    refine lv_istore_n (lv' := [(2, .int (x3 ||| ((1 : Int32) <<< (x4 &&& 31)))), (0, .ref (a0 0)), (1, .int p1), (3, .int x4)]) hx hb dX8_papersAt_29 rfl hl (by decide) rfl (fun ls hl => ?_)
    refine lv_iinc (v := (x4 + 1)) (lv' := [(3, .int (x4 + 1)), (2, .int (x3 ||| ((1 : Int32) <<< (x4 &&& 31)))), (0, .ref (a0 0)), (1, .int p1)]) hx hb dX8_papersAt_30 hl (k := 3) rfl (by rfl) (by decide) rfl (fun ls hl => ?_)
    refine lv_goto (tgt := 4) hx hb dX8_papersAt_33 (by decide) ?_
    exact hB _ (Option.some.inj hf).symm _ _ _ hP hD hS (lv_sub hl [2, 3, 1, 0] rfl)
  intro H locs ls hP hD hS hl
  have hP : va_P g.1 vwCl (wX8 a0 g v0_marks v0_weights v0_places v0_aboves v0_belows v0_reduced_above v0_reduced_below v0_papers) H := hP
  have hD : va_D A (wX8 a0 g v0_marks v0_weights v0_places v0_aboves v0_belows v0_reduced_above v0_reduced_below v0_papers) := hD
  have hl : lv_has ls 4 [(2, .int r6)] := hl
  refine lv_iload_n hx hb dX8_papersAt_36 rfl (lv_at hl 0 rfl) ?_
  exact retI (v := r6) (u := r6) (val := fun u => u) (W1 := fun u => wX8 a0 g v0_marks v0_weights v0_places v0_aboves v0_belows v0_reduced_above v0_reduced_below v0_papers) hx hb hr hlocks hS hP hD (hf0.trans hf.symm) rfl rfl dX8_papersAt_37
set_option maxHeartbeats 4000000 in
set_option maxRecDepth 100000 in
theorem c_X8_sumOf (l : Launch) (g : GG) (a0 : Nat → Nat) (v0_marks : (Nat → Int32)) (v0_weights : (Nat → Int32)) (v0_places : (Nat → Int32)) (v0_aboves : (Nat → Int32)) (v0_belows : (Nat → Int32)) (v0_reduced_above : Int64) (v0_reduced_below : Int64) (v0_papers : Int32) (p1 : Int32) (hne : (m_X8_sumOf (v0_marks, v0_weights, v0_places, v0_aboves, v0_belows, (v0_reduced_above, v0_reduced_below), v0_papers) p1) ≠ none) : Ct l g yX8_sumOf cX8_sumOf 4 (some .int) ({ frames := 1, cells := 0, slots := 0, locals := 21 } : Room) [.ref (a0 0), .int p1] (wX8 a0 g v0_marks v0_weights v0_places v0_aboves v0_belows v0_reduced_above v0_reduced_below v0_papers) (Qi g .int (m_X8_sumOf (v0_marks, v0_weights, v0_places, v0_aboves, v0_belows, (v0_reduced_above, v0_reduced_below), v0_papers) p1) (fun u => u) (fun u => wX8 a0 g v0_marks v0_weights v0_places v0_aboves v0_belows v0_reduced_above v0_reduced_below v0_papers)) 0 0 := by
  obtain ⟨out, hf⟩ := ne_ex hne
  have hf0 := hf
  refine Ct.of (own := RX8) (by decide +kernel) rfl (Nat.le_of_ble_eq_true rfl) ?_
  intro p e s m below meth c hx hb hr hml hown hts hlocks hin hK A H locs hA hP hD hS hE ls hl
  have hl : lv_has ls 4 [(0, .ref (a0 0)), (1, .int p1)] := hl
  unfold m_X8_sumOf at hf
  refine lv_iconst (v := 0) hx hb dX8_sumOf_0 (by decide) ?_
  refine lv_istore_n (lv' := [(2, .int (0 : Int32)), (0, .ref (a0 0)), (1, .int p1)]) hx hb dX8_sumOf_1 rfl hl (by decide) rfl (fun ls hl => ?_)
  refine lv_iconst (v := 0) hx hb dX8_sumOf_2 (by decide) ?_
  refine lv_istore_n (lv' := [(3, .int (0 : Int32)), (2, .int (0 : Int32)), (0, .ref (a0 0)), (1, .int p1)]) hx hb dX8_sumOf_3 rfl hl (by decide) rfl (fun ls hl => ?_)
  obtain ⟨r9, er9, hf⟩ := bnd hf
  refine lp_W (P := fun z => ∀ (H : Heap) (locs : List Loc) (ls : Array Slot), va_P g.1 vwCl (wX8 a0 g v0_marks v0_weights v0_places v0_aboves v0_belows v0_reduced_above v0_reduced_below v0_papers) H → va_D A (wX8 a0 g v0_marks v0_weights v0_places v0_aboves v0_belows v0_reduced_above v0_reduced_below v0_papers) → va_S A s.heap H locs → lv_has ls 4 [(0, .ref (a0 0)), (1, .int p1), (2, .int z.1), (3, .int z.2)] → W p l e { frames := 1, cells := 0, slots := 0, locals := 21 } s m [.ref (a0 0), .int p1].toArray below meth c H locs 0 0 (MQ below (Qi g .int (m_X8_sumOf (v0_marks, v0_weights, v0_places, v0_aboves, v0_belows, (v0_reduced_above, v0_reduced_below), v0_papers) p1) (fun u => u) (fun u => wX8 a0 g v0_marks v0_weights v0_places v0_aboves v0_belows v0_reduced_above v0_reduced_below v0_papers) A) [.ref (a0 0), .int p1].toArray s 0 0 A) (F0 m 4 ls [])) (E := fun r9 => ∀ (H : Heap) (locs : List Loc) (ls : Array Slot), va_P g.1 vwCl (wX8 a0 g v0_marks v0_weights v0_places v0_aboves v0_belows v0_reduced_above v0_reduced_below v0_papers) H → va_D A (wX8 a0 g v0_marks v0_weights v0_places v0_aboves v0_belows v0_reduced_above v0_reduced_below v0_papers) → va_S A s.heap H locs → lv_has ls 4 [(2, .int r9)] → W p l e { frames := 1, cells := 0, slots := 0, locals := 21 } s m [.ref (a0 0), .int p1].toArray below meth c H locs 0 0 (MQ below (Qi g .int (m_X8_sumOf (v0_marks, v0_weights, v0_places, v0_aboves, v0_belows, (v0_reduced_above, v0_reduced_below), v0_papers) p1) (fun u => u) (fun u => wX8 a0 g v0_marks v0_weights v0_places v0_aboves v0_belows v0_reduced_above v0_reduced_below v0_papers) A) [.ref (a0 0), .int p1].toArray s 0 0 A) (F0 m 50 ls [])) ?_ fu _ r9 er9 ?_ _ _ _ hP hD hS (lv_sub hl [2, 3, 1, 0] rfl)
  · rintro ⟨x4, x5⟩ y hf hB hXt H locs ls hP hD hS hl
    have hP : va_P g.1 vwCl (wX8 a0 g v0_marks v0_weights v0_places v0_aboves v0_belows v0_reduced_above v0_reduced_below v0_papers) H := hP
    have hD : va_D A (wX8 a0 g v0_marks v0_weights v0_places v0_aboves v0_belows v0_reduced_above v0_reduced_below v0_papers) := hD
    have hl : lv_has ls 4 [(0, .ref (a0 0)), (1, .int p1), (2, .int x4), (3, .int x5)] := hl
    have hf : m_X8_sumOf_l4 (v0_marks, v0_weights, v0_places, v0_aboves, v0_belows, (v0_reduced_above, v0_reduced_below), v0_papers) p1 x4 x5 = some y := hf
    unfold m_X8_sumOf_l4 at hf
    refine lv_iload_n hx hb dX8_sumOf_4 rfl (lv_at hl 3 rfl) ?_
    refine lv_aload_n hx hb dX8_sumOf_5 rfl (lv_at hl 0 rfl) ?_
    refine va_get (D := g.1) (ci := 9) (v := .int v0_papers) (C := RX8) (T := TX8) (N := 7) hx hb hts layX8 hown hK.1 hP 0 rfl rfl 6 (by decide) (hts _ kw157) (fun _ h9 => h9) rfl dX8_sumOf_6 ?_
    refine lv_icmp_ge (tgt := 50) hx hb dX8_sumOf_9 (by decide) (fun cb => ?_) (fun cb => ?_)
    · have hf := it_t cb hf
      exact hXt _ (Option.some.inj hf).symm _ _ _ hP hD hS (lv_sub hl [2] rfl)
    have hf := it_f cb hf
    refine lv_iload_n hx hb dX8_sumOf_12 rfl (lv_at hl 2 rfl) ?_
    refine lv_iload_n hx hb dX8_sumOf_13 rfl (lv_at hl 1 rfl) ?_
    refine lv_iload_n hx hb dX8_sumOf_14 rfl (lv_at hl 3 rfl) ?_
    refine cIp hP hD hS hA hE (fun hPc hDc hSc => rSN (As := [.int p1, .int x5]) (rest := [.int x4]) hx hb hml hown hts hK (c_X9_hasBit l g p1 x5 (bnd_ne hf)) svS_X9_hasBit nw16 hPc hDc hSc rfl rfl hl.1 (Nat.le_of_ble_eq_true rfl) dX8_sumOf_15 ⟨Nat.le_of_ble_eq_true rfl, Nat.le_of_ble_eq_true rfl, rfl, rfl, Nat.le_of_ble_eq_true rfl, Nat.le_of_ble_eq_true rfl⟩) [] rfl rfl rfl (fun x6 H locs ex6 nx6 hP hS => ?_)
    have hf := bnd_of hf ex6
    refine lv_if_eq (tgt := 41) hx hb dX8_sumOf_18 (by decide) (fun cb => ?_) (fun cb => ?_)
    · have hf := it_t cb hf
      refine lv_iconst (v := 0) hx hb dX8_sumOf_41 (by decide) ?_
      refine lv_iadd hx hb dX8_sumOf_42 ?_
      refine lv_istore_n (lv' := [(2, .int (x4 + (0 : Int32))), (0, .ref (a0 0)), (1, .int p1), (3, .int x5)]) hx hb dX8_sumOf_43 rfl hl (by decide) rfl (fun ls hl => ?_)
      refine lv_iinc (v := (x5 + 1)) (lv' := [(3, .int (x5 + 1)), (2, .int (x4 + (0 : Int32))), (0, .ref (a0 0)), (1, .int p1)]) hx hb dX8_sumOf_44 hl (k := 3) rfl (by rfl) (by decide) rfl (fun ls hl => ?_)
      refine lv_goto (tgt := 4) hx hb dX8_sumOf_47 (by decide) ?_
      exact hB _ (Option.some.inj hf).symm _ _ _ hP hD hS (lv_sub hl [2, 3, 1, 0] rfl)
    have hf := it_f cb hf
    refine lv_aload_n hx hb dX8_sumOf_21 rfl (lv_at hl 0 rfl) ?_
    refine va_get (D := g.1) (ci := 9) (v := .ref (a0 1)) (C := RX8) (T := TX8) (N := 7) hx hb hts layX8 hown hK.1 hP 0 rfl rfl 0 (by decide) (hts _ kw151) (fun _ h9 => h9) rfl dX8_sumOf_22 ?_
    refine lv_iload_n hx hb dX8_sumOf_25 rfl (lv_at hl 3 rfl) ?_
    refine cIp hP hD hS hA hE (fun hPc hDc hSc => rV (As := [.int x5]) (rest := [.int x4]) hx hb hml hown hts hK (c_X2_get l g (fun i => a0 (i + 1)) 7 v0_marks x5 (bnd_ne hf)) svV_X2_get kw698 rfl rfl hPc hDc hSc rfl rfl hl.1 (Nat.le_of_ble_eq_true rfl) dX8_sumOf_26 ⟨Nat.le_of_ble_eq_true rfl, Nat.le_of_ble_eq_true rfl, rfl, rfl, Nat.le_of_ble_eq_true rfl, Nat.le_of_ble_eq_true rfl⟩) [(1, 2)] rfl rfl rfl (fun x7 H locs ex7 nx7 hP hS => ?_)
    have hf := bnd_of hf ex7
    refine lv_aload_n hx hb dX8_sumOf_29 rfl (lv_at hl 0 rfl) ?_
    refine va_get (D := g.1) (ci := 9) (v := .ref (a0 3)) (C := RX8) (T := TX8) (N := 7) hx hb hts layX8 hown hK.1 hP 0 rfl rfl 1 (by decide) (hts _ kw152) (fun _ h9 => h9) rfl dX8_sumOf_30 ?_
    refine lv_iload_n hx hb dX8_sumOf_33 rfl (lv_at hl 3 rfl) ?_
    refine cIp hP hD hS hA hE (fun hPc hDc hSc => rV (As := [.int x5]) (rest := [.int x7, .int x4]) hx hb hml hown hts hK (c_X2_get l g (fun i => a0 (i + 3)) 7 v0_weights x5 (bnd_ne hf)) svV_X2_get kw698 rfl rfl hPc hDc hSc rfl rfl hl.1 (Nat.le_of_ble_eq_true rfl) dX8_sumOf_34 ⟨Nat.le_of_ble_eq_true rfl, Nat.le_of_ble_eq_true rfl, rfl, rfl, Nat.le_of_ble_eq_true rfl, Nat.le_of_ble_eq_true rfl⟩) [(3, 2)] rfl rfl rfl (fun x8 H locs ex8 nx8 hP hS => ?_)
    have hf := bnd_of hf ex8
    refine lv_imul hx hb dX8_sumOf_37 ?_
    refine lv_goto (tgt := 42) hx hb dX8_sumOf_38 (by decide) ?_
    refine lv_iadd hx hb dX8_sumOf_42 ?_
    refine lv_istore_n (lv' := [(2, .int (x4 + (x7 * x8))), (0, .ref (a0 0)), (1, .int p1), (3, .int x5)]) hx hb dX8_sumOf_43 rfl hl (by decide) rfl (fun ls hl => ?_)
    refine lv_iinc (v := (x5 + 1)) (lv' := [(3, .int (x5 + 1)), (2, .int (x4 + (x7 * x8))), (0, .ref (a0 0)), (1, .int p1)]) hx hb dX8_sumOf_44 hl (k := 3) rfl (by rfl) (by decide) rfl (fun ls hl => ?_)
    refine lv_goto (tgt := 4) hx hb dX8_sumOf_47 (by decide) ?_
    exact hB _ (Option.some.inj hf).symm _ _ _ hP hD hS (lv_sub hl [2, 3, 1, 0] rfl)
  intro H locs ls hP hD hS hl
  have hP : va_P g.1 vwCl (wX8 a0 g v0_marks v0_weights v0_places v0_aboves v0_belows v0_reduced_above v0_reduced_below v0_papers) H := hP
  have hD : va_D A (wX8 a0 g v0_marks v0_weights v0_places v0_aboves v0_belows v0_reduced_above v0_reduced_below v0_papers) := hD
  have hl : lv_has ls 4 [(2, .int r9)] := hl
  refine lv_iload_n hx hb dX8_sumOf_50 rfl (lv_at hl 0 rfl) ?_
  exact retI (v := r9) (u := r9) (val := fun u => u) (W1 := fun u => wX8 a0 g v0_marks v0_weights v0_places v0_aboves v0_belows v0_reduced_above v0_reduced_below v0_papers) hx hb hr hlocks hS hP hD (hf0.trans hf.symm) rfl rfl dX8_sumOf_51
set_option maxHeartbeats 4000000 in
set_option maxRecDepth 100000 in
theorem c_X8_weightOf (l : Launch) (g : GG) (a0 : Nat → Nat) (v0_marks : (Nat → Int32)) (v0_weights : (Nat → Int32)) (v0_places : (Nat → Int32)) (v0_aboves : (Nat → Int32)) (v0_belows : (Nat → Int32)) (v0_reduced_above : Int64) (v0_reduced_below : Int64) (v0_papers : Int32) (p1 : Int32) (hne : (m_X8_weightOf (v0_marks, v0_weights, v0_places, v0_aboves, v0_belows, (v0_reduced_above, v0_reduced_below), v0_papers) p1) ≠ none) : Ct l g yX8_weightOf cX8_weightOf 4 (some .int) ({ frames := 1, cells := 0, slots := 0, locals := 21 } : Room) [.ref (a0 0), .int p1] (wX8 a0 g v0_marks v0_weights v0_places v0_aboves v0_belows v0_reduced_above v0_reduced_below v0_papers) (Qi g .int (m_X8_weightOf (v0_marks, v0_weights, v0_places, v0_aboves, v0_belows, (v0_reduced_above, v0_reduced_below), v0_papers) p1) (fun u => u) (fun u => wX8 a0 g v0_marks v0_weights v0_places v0_aboves v0_belows v0_reduced_above v0_reduced_below v0_papers)) 0 0 := by
  obtain ⟨out, hf⟩ := ne_ex hne
  have hf0 := hf
  refine Ct.of (own := RX8) (by decide +kernel) rfl (Nat.le_of_ble_eq_true rfl) ?_
  intro p e s m below meth c hx hb hr hml hown hts hlocks hin hK A H locs hA hP hD hS hE ls hl
  have hl : lv_has ls 4 [(0, .ref (a0 0)), (1, .int p1)] := hl
  unfold m_X8_weightOf at hf
  refine lv_iconst (v := 0) hx hb dX8_weightOf_0 (by decide) ?_
  refine lv_istore_n (lv' := [(2, .int (0 : Int32)), (0, .ref (a0 0)), (1, .int p1)]) hx hb dX8_weightOf_1 rfl hl (by decide) rfl (fun ls hl => ?_)
  refine lv_iconst (v := 0) hx hb dX8_weightOf_2 (by decide) ?_
  refine lv_istore_n (lv' := [(3, .int (0 : Int32)), (2, .int (0 : Int32)), (0, .ref (a0 0)), (1, .int p1)]) hx hb dX8_weightOf_3 rfl hl (by decide) rfl (fun ls hl => ?_)
  obtain ⟨r7, er7, hf⟩ := bnd hf
  refine lp_W (P := fun z => ∀ (H : Heap) (locs : List Loc) (ls : Array Slot), va_P g.1 vwCl (wX8 a0 g v0_marks v0_weights v0_places v0_aboves v0_belows v0_reduced_above v0_reduced_below v0_papers) H → va_D A (wX8 a0 g v0_marks v0_weights v0_places v0_aboves v0_belows v0_reduced_above v0_reduced_below v0_papers) → va_S A s.heap H locs → lv_has ls 4 [(0, .ref (a0 0)), (1, .int p1), (2, .int z.1), (3, .int z.2)] → W p l e { frames := 1, cells := 0, slots := 0, locals := 21 } s m [.ref (a0 0), .int p1].toArray below meth c H locs 0 0 (MQ below (Qi g .int (m_X8_weightOf (v0_marks, v0_weights, v0_places, v0_aboves, v0_belows, (v0_reduced_above, v0_reduced_below), v0_papers) p1) (fun u => u) (fun u => wX8 a0 g v0_marks v0_weights v0_places v0_aboves v0_belows v0_reduced_above v0_reduced_below v0_papers) A) [.ref (a0 0), .int p1].toArray s 0 0 A) (F0 m 4 ls [])) (E := fun r7 => ∀ (H : Heap) (locs : List Loc) (ls : Array Slot), va_P g.1 vwCl (wX8 a0 g v0_marks v0_weights v0_places v0_aboves v0_belows v0_reduced_above v0_reduced_below v0_papers) H → va_D A (wX8 a0 g v0_marks v0_weights v0_places v0_aboves v0_belows v0_reduced_above v0_reduced_below v0_papers) → va_S A s.heap H locs → lv_has ls 4 [(2, .int r7)] → W p l e { frames := 1, cells := 0, slots := 0, locals := 21 } s m [.ref (a0 0), .int p1].toArray below meth c H locs 0 0 (MQ below (Qi g .int (m_X8_weightOf (v0_marks, v0_weights, v0_places, v0_aboves, v0_belows, (v0_reduced_above, v0_reduced_below), v0_papers) p1) (fun u => u) (fun u => wX8 a0 g v0_marks v0_weights v0_places v0_aboves v0_belows v0_reduced_above v0_reduced_below v0_papers) A) [.ref (a0 0), .int p1].toArray s 0 0 A) (F0 m 41 ls [])) ?_ fu _ r7 er7 ?_ _ _ _ hP hD hS (lv_sub hl [2, 3, 1, 0] rfl)
  · rintro ⟨x3, x4⟩ y hf hB hXt H locs ls hP hD hS hl
    have hP : va_P g.1 vwCl (wX8 a0 g v0_marks v0_weights v0_places v0_aboves v0_belows v0_reduced_above v0_reduced_below v0_papers) H := hP
    have hD : va_D A (wX8 a0 g v0_marks v0_weights v0_places v0_aboves v0_belows v0_reduced_above v0_reduced_below v0_papers) := hD
    have hl : lv_has ls 4 [(0, .ref (a0 0)), (1, .int p1), (2, .int x3), (3, .int x4)] := hl
    have hf : m_X8_weightOf_l4 (v0_marks, v0_weights, v0_places, v0_aboves, v0_belows, (v0_reduced_above, v0_reduced_below), v0_papers) p1 x3 x4 = some y := hf
    unfold m_X8_weightOf_l4 at hf
    refine lv_iload_n hx hb dX8_weightOf_4 rfl (lv_at hl 3 rfl) ?_
    refine lv_aload_n hx hb dX8_weightOf_5 rfl (lv_at hl 0 rfl) ?_
    refine va_get (D := g.1) (ci := 9) (v := .int v0_papers) (C := RX8) (T := TX8) (N := 7) hx hb hts layX8 hown hK.1 hP 0 rfl rfl 6 (by decide) (hts _ kw157) (fun _ h9 => h9) rfl dX8_weightOf_6 ?_
    refine lv_icmp_ge (tgt := 41) hx hb dX8_weightOf_9 (by decide) (fun cb => ?_) (fun cb => ?_)
    · have hf := it_t cb hf
      exact hXt _ (Option.some.inj hf).symm _ _ _ hP hD hS (lv_sub hl [2] rfl)
    have hf := it_f cb hf
    refine lv_iload_n hx hb dX8_weightOf_12 rfl (lv_at hl 2 rfl) ?_
    refine lv_iload_n hx hb dX8_weightOf_13 rfl (lv_at hl 1 rfl) ?_
    refine lv_iload_n hx hb dX8_weightOf_14 rfl (lv_at hl 3 rfl) ?_
    refine cIp hP hD hS hA hE (fun hPc hDc hSc => rSN (As := [.int p1, .int x4]) (rest := [.int x3]) hx hb hml hown hts hK (c_X9_hasBit l g p1 x4 (bnd_ne hf)) svS_X9_hasBit nw16 hPc hDc hSc rfl rfl hl.1 (Nat.le_of_ble_eq_true rfl) dX8_weightOf_15 ⟨Nat.le_of_ble_eq_true rfl, Nat.le_of_ble_eq_true rfl, rfl, rfl, Nat.le_of_ble_eq_true rfl, Nat.le_of_ble_eq_true rfl⟩) [] rfl rfl rfl (fun x5 H locs ex5 nx5 hP hS => ?_)
    have hf := bnd_of hf ex5
    refine lv_if_eq (tgt := 32) hx hb dX8_weightOf_18 (by decide) (fun cb => ?_) (fun cb => ?_)
    · have hf := it_t cb hf
      refine lv_iconst (v := 0) hx hb dX8_weightOf_32 (by decide) ?_
      refine lv_iadd hx hb dX8_weightOf_33 ?_
      refine lv_istore_n (lv' := [(2, .int (x3 + (0 : Int32))), (0, .ref (a0 0)), (1, .int p1), (3, .int x4)]) hx hb dX8_weightOf_34 rfl hl (by decide) rfl (fun ls hl => ?_)
      refine lv_iinc (v := (x4 + 1)) (lv' := [(3, .int (x4 + 1)), (2, .int (x3 + (0 : Int32))), (0, .ref (a0 0)), (1, .int p1)]) hx hb dX8_weightOf_35 hl (k := 3) rfl (by rfl) (by decide) rfl (fun ls hl => ?_)
      refine lv_goto (tgt := 4) hx hb dX8_weightOf_38 (by decide) ?_
      exact hB _ (Option.some.inj hf).symm _ _ _ hP hD hS (lv_sub hl [2, 3, 1, 0] rfl)
    have hf := it_f cb hf
    refine lv_aload_n hx hb dX8_weightOf_21 rfl (lv_at hl 0 rfl) ?_
    refine va_get (D := g.1) (ci := 9) (v := .ref (a0 3)) (C := RX8) (T := TX8) (N := 7) hx hb hts layX8 hown hK.1 hP 0 rfl rfl 1 (by decide) (hts _ kw152) (fun _ h9 => h9) rfl dX8_weightOf_22 ?_
    refine lv_iload_n hx hb dX8_weightOf_25 rfl (lv_at hl 3 rfl) ?_
    refine cIp hP hD hS hA hE (fun hPc hDc hSc => rV (As := [.int x4]) (rest := [.int x3]) hx hb hml hown hts hK (c_X2_get l g (fun i => a0 (i + 3)) 7 v0_weights x4 (bnd_ne hf)) svV_X2_get kw698 rfl rfl hPc hDc hSc rfl rfl hl.1 (Nat.le_of_ble_eq_true rfl) dX8_weightOf_26 ⟨Nat.le_of_ble_eq_true rfl, Nat.le_of_ble_eq_true rfl, rfl, rfl, Nat.le_of_ble_eq_true rfl, Nat.le_of_ble_eq_true rfl⟩) [(3, 2)] rfl rfl rfl (fun x6 H locs ex6 nx6 hP hS => ?_)
    have hf := bnd_of hf ex6
    refine lv_goto (tgt := 33) hx hb dX8_weightOf_29 (by decide) ?_
    refine lv_iadd hx hb dX8_weightOf_33 ?_
    refine lv_istore_n (lv' := [(2, .int (x3 + x6)), (0, .ref (a0 0)), (1, .int p1), (3, .int x4)]) hx hb dX8_weightOf_34 rfl hl (by decide) rfl (fun ls hl => ?_)
    refine lv_iinc (v := (x4 + 1)) (lv' := [(3, .int (x4 + 1)), (2, .int (x3 + x6)), (0, .ref (a0 0)), (1, .int p1)]) hx hb dX8_weightOf_35 hl (k := 3) rfl (by rfl) (by decide) rfl (fun ls hl => ?_)
    refine lv_goto (tgt := 4) hx hb dX8_weightOf_38 (by decide) ?_
    exact hB _ (Option.some.inj hf).symm _ _ _ hP hD hS (lv_sub hl [2, 3, 1, 0] rfl)
  intro H locs ls hP hD hS hl
  have hP : va_P g.1 vwCl (wX8 a0 g v0_marks v0_weights v0_places v0_aboves v0_belows v0_reduced_above v0_reduced_below v0_papers) H := hP
  have hD : va_D A (wX8 a0 g v0_marks v0_weights v0_places v0_aboves v0_belows v0_reduced_above v0_reduced_below v0_papers) := hD
  have hl : lv_has ls 4 [(2, .int r7)] := hl
  refine lv_iload_n hx hb dX8_weightOf_41 rfl (lv_at hl 0 rfl) ?_
  exact retI (v := r7) (u := r7) (val := fun u => u) (W1 := fun u => wX8 a0 g v0_marks v0_weights v0_places v0_aboves v0_belows v0_reduced_above v0_reduced_below v0_papers) hx hb hr hlocks hS hP hD (hf0.trans hf.symm) rfl rfl dX8_weightOf_42
set_option maxHeartbeats 4000000 in
set_option maxRecDepth 100000 in
theorem c_X8_papersUpTo (l : Launch) (g : GG) (a0 : Nat → Nat) (v0_marks : (Nat → Int32)) (v0_weights : (Nat → Int32)) (v0_places : (Nat → Int32)) (v0_aboves : (Nat → Int32)) (v0_belows : (Nat → Int32)) (v0_reduced_above : Int64) (v0_reduced_below : Int64) (v0_papers : Int32) (p1 : Int32) (hne : (m_X8_papersUpTo (v0_marks, v0_weights, v0_places, v0_aboves, v0_belows, (v0_reduced_above, v0_reduced_below), v0_papers) p1) ≠ none) : Ct l g yX8_papersUpTo cX8_papersUpTo 4 (some .int) ({ frames := 1, cells := 0, slots := 0, locals := 21 } : Room) [.ref (a0 0), .int p1] (wX8 a0 g v0_marks v0_weights v0_places v0_aboves v0_belows v0_reduced_above v0_reduced_below v0_papers) (Qi g .int (m_X8_papersUpTo (v0_marks, v0_weights, v0_places, v0_aboves, v0_belows, (v0_reduced_above, v0_reduced_below), v0_papers) p1) (fun u => u) (fun u => wX8 a0 g v0_marks v0_weights v0_places v0_aboves v0_belows v0_reduced_above v0_reduced_below v0_papers)) 0 0 := by
  obtain ⟨out, hf⟩ := ne_ex hne
  have hf0 := hf
  refine Ct.of (own := RX8) (by decide +kernel) rfl (Nat.le_of_ble_eq_true rfl) ?_
  intro p e s m below meth c hx hb hr hml hown hts hlocks hin hK A H locs hA hP hD hS hE ls hl
  have hl : lv_has ls 4 [(0, .ref (a0 0)), (1, .int p1)] := hl
  unfold m_X8_papersUpTo at hf
  refine lv_iconst (v := 0) hx hb dX8_papersUpTo_0 (by decide) ?_
  refine lv_istore_n (lv' := [(2, .int (0 : Int32)), (0, .ref (a0 0)), (1, .int p1)]) hx hb dX8_papersUpTo_1 rfl hl (by decide) rfl (fun ls hl => ?_)
  refine lv_iconst (v := 0) hx hb dX8_papersUpTo_2 (by decide) ?_
  refine lv_istore_n (lv' := [(3, .int (0 : Int32)), (2, .int (0 : Int32)), (0, .ref (a0 0)), (1, .int p1)]) hx hb dX8_papersUpTo_3 rfl hl (by decide) rfl (fun ls hl => ?_)
  obtain ⟨r6, er6, hf⟩ := bnd hf
  refine lp_W (P := fun z => ∀ (H : Heap) (locs : List Loc) (ls : Array Slot), va_P g.1 vwCl (wX8 a0 g v0_marks v0_weights v0_places v0_aboves v0_belows v0_reduced_above v0_reduced_below v0_papers) H → va_D A (wX8 a0 g v0_marks v0_weights v0_places v0_aboves v0_belows v0_reduced_above v0_reduced_below v0_papers) → va_S A s.heap H locs → lv_has ls 4 [(0, .ref (a0 0)), (1, .int p1), (2, .int z.1), (3, .int z.2)] → W p l e { frames := 1, cells := 0, slots := 0, locals := 21 } s m [.ref (a0 0), .int p1].toArray below meth c H locs 0 0 (MQ below (Qi g .int (m_X8_papersUpTo (v0_marks, v0_weights, v0_places, v0_aboves, v0_belows, (v0_reduced_above, v0_reduced_below), v0_papers) p1) (fun u => u) (fun u => wX8 a0 g v0_marks v0_weights v0_places v0_aboves v0_belows v0_reduced_above v0_reduced_below v0_papers) A) [.ref (a0 0), .int p1].toArray s 0 0 A) (F0 m 4 ls [])) (E := fun r6 => ∀ (H : Heap) (locs : List Loc) (ls : Array Slot), va_P g.1 vwCl (wX8 a0 g v0_marks v0_weights v0_places v0_aboves v0_belows v0_reduced_above v0_reduced_below v0_papers) H → va_D A (wX8 a0 g v0_marks v0_weights v0_places v0_aboves v0_belows v0_reduced_above v0_reduced_below v0_papers) → va_S A s.heap H locs → lv_has ls 4 [(2, .int r6)] → W p l e { frames := 1, cells := 0, slots := 0, locals := 21 } s m [.ref (a0 0), .int p1].toArray below meth c H locs 0 0 (MQ below (Qi g .int (m_X8_papersUpTo (v0_marks, v0_weights, v0_places, v0_aboves, v0_belows, (v0_reduced_above, v0_reduced_below), v0_papers) p1) (fun u => u) (fun u => wX8 a0 g v0_marks v0_weights v0_places v0_aboves v0_belows v0_reduced_above v0_reduced_below v0_papers) A) [.ref (a0 0), .int p1].toArray s 0 0 A) (F0 m 40 ls [])) ?_ fu _ r6 er6 ?_ _ _ _ hP hD hS (lv_sub hl [2, 3, 1, 0] rfl)
  · rintro ⟨x3, x4⟩ y hf hB hXt H locs ls hP hD hS hl
    have hP : va_P g.1 vwCl (wX8 a0 g v0_marks v0_weights v0_places v0_aboves v0_belows v0_reduced_above v0_reduced_below v0_papers) H := hP
    have hD : va_D A (wX8 a0 g v0_marks v0_weights v0_places v0_aboves v0_belows v0_reduced_above v0_reduced_below v0_papers) := hD
    have hl : lv_has ls 4 [(0, .ref (a0 0)), (1, .int p1), (2, .int x3), (3, .int x4)] := hl
    have hf : m_X8_papersUpTo_l4 (v0_marks, v0_weights, v0_places, v0_aboves, v0_belows, (v0_reduced_above, v0_reduced_below), v0_papers) p1 x3 x4 = some y := hf
    unfold m_X8_papersUpTo_l4 at hf
    refine lv_iload_n hx hb dX8_papersUpTo_4 rfl (lv_at hl 3 rfl) ?_
    refine lv_aload_n hx hb dX8_papersUpTo_5 rfl (lv_at hl 0 rfl) ?_
    refine va_get (D := g.1) (ci := 9) (v := .int v0_papers) (C := RX8) (T := TX8) (N := 7) hx hb hts layX8 hown hK.1 hP 0 rfl rfl 6 (by decide) (hts _ kw157) (fun _ h9 => h9) rfl dX8_papersUpTo_6 ?_
    refine lv_icmp_ge (tgt := 40) hx hb dX8_papersUpTo_9 (by decide) (fun cb => ?_) (fun cb => ?_)
    · have hf := it_t cb hf
      exact hXt _ (Option.some.inj hf).symm _ _ _ hP hD hS (lv_sub hl [2] rfl)
    have hf := it_f cb hf
    refine lv_iload_n hx hb dX8_papersUpTo_12 rfl (lv_at hl 2 rfl) ?_
    refine lv_aload_n hx hb dX8_papersUpTo_13 rfl (lv_at hl 0 rfl) ?_
    refine va_get (D := g.1) (ci := 9) (v := .ref (a0 1)) (C := RX8) (T := TX8) (N := 7) hx hb hts layX8 hown hK.1 hP 0 rfl rfl 0 (by decide) (hts _ kw151) (fun _ h9 => h9) rfl dX8_papersUpTo_14 ?_
    refine lv_iload_n hx hb dX8_papersUpTo_17 rfl (lv_at hl 3 rfl) ?_
    refine cIp hP hD hS hA hE (fun hPc hDc hSc => rV (As := [.int x4]) (rest := [.int x3]) hx hb hml hown hts hK (c_X2_get l g (fun i => a0 (i + 1)) 7 v0_marks x4 (bnd_ne hf)) svV_X2_get kw698 rfl rfl hPc hDc hSc rfl rfl hl.1 (Nat.le_of_ble_eq_true rfl) dX8_papersUpTo_18 ⟨Nat.le_of_ble_eq_true rfl, Nat.le_of_ble_eq_true rfl, rfl, rfl, Nat.le_of_ble_eq_true rfl, Nat.le_of_ble_eq_true rfl⟩) [(1, 2)] rfl rfl rfl (fun x5 H locs ex5 nx5 hP hS => ?_)
    have hf := bnd_of hf ex5
    refine lv_iload_n hx hb dX8_papersUpTo_21 rfl (lv_at hl 1 rfl) ?_
    refine lv_icmp_gt (tgt := 31) hx hb dX8_papersUpTo_22 (by decide) (fun cb => ?_) (fun cb => ?_)
    · have hf := it_t cb hf
      refine lv_iconst (v := 0) hx hb dX8_papersUpTo_31 (by decide) ?_
      refine lv_ior hx hb dX8_papersUpTo_32 ?_
      refine lv_istore_n (lv' := [(2, .int (x3 ||| (0 : Int32))), (0, .ref (a0 0)), (1, .int p1), (3, .int x4)]) hx hb dX8_papersUpTo_33 rfl hl (by decide) rfl (fun ls hl => ?_)
      refine lv_iinc (v := (x4 + 1)) (lv' := [(3, .int (x4 + 1)), (2, .int (x3 ||| (0 : Int32))), (0, .ref (a0 0)), (1, .int p1)]) hx hb dX8_papersUpTo_34 hl (k := 3) rfl (by rfl) (by decide) rfl (fun ls hl => ?_)
      refine lv_goto (tgt := 4) hx hb dX8_papersUpTo_37 (by decide) ?_
      exact hB _ (Option.some.inj hf).symm _ _ _ hP hD hS (lv_sub hl [2, 3, 1, 0] rfl)
    have hf := it_f cb hf
    refine lv_iconst (v := 1) hx hb dX8_papersUpTo_25 (by decide) ?_
    refine lv_iload_n hx hb dX8_papersUpTo_26 rfl (lv_at hl 3 rfl) ?_
    refine lv_ishl hx hb dX8_papersUpTo_27 ?_
    refine lv_goto (tgt := 32) hx hb dX8_papersUpTo_28 (by decide) ?_
    refine lv_ior hx hb dX8_papersUpTo_32 ?_
    refine lv_istore_n (lv' := [(2, .int (x3 ||| ((1 : Int32) <<< (x4 &&& 31)))), (0, .ref (a0 0)), (1, .int p1), (3, .int x4)]) hx hb dX8_papersUpTo_33 rfl hl (by decide) rfl (fun ls hl => ?_)
    refine lv_iinc (v := (x4 + 1)) (lv' := [(3, .int (x4 + 1)), (2, .int (x3 ||| ((1 : Int32) <<< (x4 &&& 31)))), (0, .ref (a0 0)), (1, .int p1)]) hx hb dX8_papersUpTo_34 hl (k := 3) rfl (by rfl) (by decide) rfl (fun ls hl => ?_)
    refine lv_goto (tgt := 4) hx hb dX8_papersUpTo_37 (by decide) ?_
    exact hB _ (Option.some.inj hf).symm _ _ _ hP hD hS (lv_sub hl [2, 3, 1, 0] rfl)
  intro H locs ls hP hD hS hl
  have hP : va_P g.1 vwCl (wX8 a0 g v0_marks v0_weights v0_places v0_aboves v0_belows v0_reduced_above v0_reduced_below v0_papers) H := hP
  have hD : va_D A (wX8 a0 g v0_marks v0_weights v0_places v0_aboves v0_belows v0_reduced_above v0_reduced_below v0_papers) := hD
  have hl : lv_has ls 4 [(2, .int r6)] := hl
  refine lv_iload_n hx hb dX8_papersUpTo_40 rfl (lv_at hl 0 rfl) ?_
  exact retI (v := r6) (u := r6) (val := fun u => u) (W1 := fun u => wX8 a0 g v0_marks v0_weights v0_places v0_aboves v0_belows v0_reduced_above v0_reduced_below v0_papers) hx hb hr hlocks hS hP hD (hf0.trans hf.symm) rfl rfl dX8_papersUpTo_41
