theorem svV_X6_tiesNow : SV RX6 yX6_tiesNow cX6_tiesNow 1 (some .int) 0 := ⟨kw674, kw675, kw2, kw676, rfl, by decide, by decide, by decide +kernel⟩
theorem svV_X4_standByPlaces : SV RX4 yX4_standByPlaces cX4_standByPlaces 3 none 0 := ⟨kw712, kw1805, kw8, kw713, rfl, by decide, by decide, by decide +kernel⟩
theorem svV_X4_standOneByOne : SV RX4 yX4_standOneByOne cX4_standOneByOne 4 none 0 := ⟨kw678, kw1801, kw8, kw679, rfl, by decide, by decide, by decide +kernel⟩
theorem svV_X4_mergeAll : SV RX4 yX4_mergeAll cX4_mergeAll 3 none 0 := ⟨kw719, kw1806, kw8, kw720, rfl, by decide, by decide, by decide +kernel⟩
theorem svV_X4_layAll : SV RX4 yX4_layAll cX4_layAll 3 none 1 := ⟨kw757, kw1812, kw8, kw758, rfl, by decide, by decide, by decide +kernel⟩
theorem svV_X7_set : SV RX7 yX7_set cX7_set 6 none 3 := ⟨kw1195, kw1196, kw6, kw1197, rfl, by decide, by decide, by decide +kernel⟩
theorem svV_X7_hasPlace : SV RX7 yX7_hasPlace cX7_hasPlace 3 (some .boolean) 2 := ⟨kw1208, kw1209, kw6, kw1210, rfl, by decide, by decide, by decide +kernel⟩
theorem svV_X8_partOf : SV RX8 yX8_partOf cX8_partOf 3 (some .long) 2 := ⟨kw778, kw779, kw9, kw780, rfl, by decide, by decide, by decide +kernel⟩
theorem svV_X7_get : SV RX7 yX7_get cX7_get 4 (some .long) 2 := ⟨kw1219, kw1220, kw6, kw1221, rfl, by decide, by decide, by decide +kernel⟩
theorem dX4_work_0 : decode cX4_work 0 = .ok (.aload_n 0, 1) := by decide +kernel
theorem dX4_work_1 : decode cX4_work 1 = .ok (.iload_n 2, 1) := by decide +kernel
theorem dX4_work_2 : decode cX4_work 2 = .ok (.putfield 33, 3) := by decide +kernel
theorem dX4_work_5 : decode cX4_work 5 = .ok (.aload_n 0, 1) := by decide +kernel
theorem dX4_work_6 : decode cX4_work 6 = .ok (.iconst 0, 1) := by decide +kernel
theorem dX4_work_7 : decode cX4_work 7 = .ok (.putfield 37, 3) := by decide +kernel
theorem dX4_work_10 : decode cX4_work 10 = .ok (.aload_n 0, 1) := by decide +kernel
theorem dX4_work_11 : decode cX4_work 11 = .ok (.iconst 0, 1) := by decide +kernel
theorem dX4_work_12 : decode cX4_work 12 = .ok (.putfield 40, 3) := by decide +kernel
theorem dX4_work_15 : decode cX4_work 15 = .ok (.aload_n 0, 1) := by decide +kernel
theorem dX4_work_16 : decode cX4_work 16 = .ok (.getfield 12, 3) := by decide +kernel
theorem dX4_work_19 : decode cX4_work 19 = .ok (.aload_n 1, 1) := by decide +kernel
theorem dX4_work_20 : decode cX4_work 20 = .ok (.invokevirtual 43, 3) := by decide +kernel
theorem dX4_work_23 : decode cX4_work 23 = .ok (.aload_n 1, 1) := by decide +kernel
theorem dX4_work_24 : decode cX4_work 24 = .ok (.invokevirtual 47, 3) := by decide +kernel
theorem dX4_work_41 : decode cX4_work 41 = .ok (.aload_n 0, 1) := by decide +kernel
theorem dX4_work_42 : decode cX4_work 42 = .ok (.invokevirtual 59, 3) := by decide +kernel
theorem dX4_work_45 : decode cX4_work 45 = .ok (.aload_n 0, 1) := by decide +kernel
theorem dX4_work_46 : decode cX4_work 46 = .ok (.aload_n 1, 1) := by decide +kernel
theorem dX4_work_47 : decode cX4_work 47 = .ok (.invokevirtual 47, 3) := by decide +kernel
theorem dX4_work_50 : decode cX4_work 50 = .ok (.iconst 2, 1) := by decide +kernel
theorem dX4_work_59 : decode cX4_work 59 = .ok (.invokevirtual 62, 3) := by decide +kernel
theorem dX4_work_62 : decode cX4_work 62 = .ok (.aload_n 0, 1) := by decide +kernel
theorem dX4_work_63 : decode cX4_work 63 = .ok (.getfield 12, 3) := by decide +kernel
theorem dX4_work_66 : decode cX4_work 66 = .ok (.areturn, 1) := by decide +kernel
theorem dX4_work_51 : decode cX4_work 51 = .ok (.if_icmp .ne 7, 3) := by decide +kernel
theorem dX4_work_58 : decode cX4_work 58 = .ok (.iconst 0, 1) := by decide +kernel
theorem dX4_work_54 : decode cX4_work 54 = .ok (.iconst 1, 1) := by decide +kernel
theorem dX4_work_55 : decode cX4_work 55 = .ok (.goto 4, 3) := by decide +kernel
theorem dX4_work_27 : decode cX4_work 27 = .ok (.ifCond .ne 10, 3) := by decide +kernel
theorem dX4_work_37 : decode cX4_work 37 = .ok (.aload_n 0, 1) := by decide +kernel
theorem dX4_work_38 : decode cX4_work 38 = .ok (.invokevirtual 56, 3) := by decide +kernel
theorem dX4_work_30 : decode cX4_work 30 = .ok (.aload_n 0, 1) := by decide +kernel
theorem dX4_work_31 : decode cX4_work 31 = .ok (.invokevirtual 53, 3) := by decide +kernel
theorem dX4_work_34 : decode cX4_work 34 = .ok (.goto 7, 3) := by decide +kernel
theorem dX4_blockCount_0 : decode cX4_blockCount 0 = .ok (.aload_n 0, 1) := by decide +kernel
theorem dX4_blockCount_1 : decode cX4_blockCount 1 = .ok (.getfield 37, 3) := by decide +kernel
theorem dX4_blockCount_4 : decode cX4_blockCount 4 = .ok (.ireturn, 1) := by decide +kernel
theorem dX4_blockAt_0 : decode cX4_blockAt 0 = .ok (.aload_n 0, 1) := by decide +kernel
theorem dX4_blockAt_1 : decode cX4_blockAt 1 = .ok (.getfield 23, 3) := by decide +kernel
theorem dX4_blockAt_4 : decode cX4_blockAt 4 = .ok (.iload_n 1, 1) := by decide +kernel
theorem dX4_blockAt_5 : decode cX4_blockAt 5 = .ok (.invokevirtual 66, 3) := by decide +kernel
theorem dX4_blockAt_8 : decode cX4_blockAt 8 = .ok (.ireturn, 1) := by decide +kernel
theorem dX4_mergeCount_0 : decode cX4_mergeCount 0 = .ok (.aload_n 0, 1) := by decide +kernel
theorem dX4_mergeCount_1 : decode cX4_mergeCount 1 = .ok (.getfield 40, 3) := by decide +kernel
theorem dX4_mergeCount_4 : decode cX4_mergeCount 4 = .ok (.ireturn, 1) := by decide +kernel
theorem dX7_has_0 : decode cX7_has 0 = .ok (.iload_n 1, 1) := by decide +kernel
theorem dX7_has_1 : decode cX7_has 1 = .ok (.ifCond .lt 12, 3) := by decide +kernel
theorem dX7_has_13 : decode cX7_has 13 = .ok (.iconst 0, 1) := by decide +kernel
theorem dX7_has_14 : decode cX7_has 14 = .ok (.ireturn, 1) := by decide +kernel
theorem dX7_has_4 : decode cX7_has 4 = .ok (.iload_n 1, 1) := by decide +kernel
theorem dX7_has_5 : decode cX7_has 5 = .ok (.iconst 4, 1) := by decide +kernel
theorem dX7_has_6 : decode cX7_has 6 = .ok (.if_icmp .ge 7, 3) := by decide +kernel
theorem dX7_has_9 : decode cX7_has 9 = .ok (.iconst 1, 1) := by decide +kernel
theorem dX7_has_10 : decode cX7_has 10 = .ok (.goto 4, 3) := by decide +kernel
theorem dX7_isMissing_0 : decode cX7_isMissing 0 = .ok (.aload_n 0, 1) := by decide +kernel
theorem dX7_isMissing_1 : decode cX7_isMissing 1 = .ok (.getfield 24, 3) := by decide +kernel
theorem dX7_isMissing_4 : decode cX7_isMissing 4 = .ok (.iload_n 1, 1) := by decide +kernel
theorem dX7_isMissing_5 : decode cX7_isMissing 5 = .ok (.invokevirtual 27, 3) := by decide +kernel
theorem dX7_isMissing_8 : decode cX7_isMissing 8 = .ok (.ifCond .ne 7, 3) := by decide +kernel
theorem dX7_isMissing_15 : decode cX7_isMissing 15 = .ok (.iconst 0, 1) := by decide +kernel
theorem dX7_isMissing_16 : decode cX7_isMissing 16 = .ok (.ireturn, 1) := by decide +kernel
theorem dX7_isMissing_11 : decode cX7_isMissing 11 = .ok (.iconst 1, 1) := by decide +kernel
theorem dX7_isMissing_12 : decode cX7_isMissing 12 = .ok (.goto 4, 3) := by decide +kernel
theorem dX7_hasPlace_0 : decode cX7_hasPlace 0 = .ok (.iload_n 2, 1) := by decide +kernel
theorem dX7_hasPlace_1 : decode cX7_hasPlace 1 = .ok (.ifCond .lt 19, 3) := by decide +kernel
theorem dX7_hasPlace_20 : decode cX7_hasPlace 20 = .ok (.iconst 0, 1) := by decide +kernel
theorem dX7_hasPlace_21 : decode cX7_hasPlace 21 = .ok (.ireturn, 1) := by decide +kernel
theorem dX7_hasPlace_4 : decode cX7_hasPlace 4 = .ok (.iload_n 2, 1) := by decide +kernel
theorem dX7_hasPlace_5 : decode cX7_hasPlace 5 = .ok (.aload_n 0, 1) := by decide +kernel
theorem dX7_hasPlace_6 : decode cX7_hasPlace 6 = .ok (.getfield 20, 3) := by decide +kernel
theorem dX7_hasPlace_9 : decode cX7_hasPlace 9 = .ok (.iload_n 1, 1) := by decide +kernel
theorem dX7_hasPlace_10 : decode cX7_hasPlace 10 = .ok (.invokevirtual 27, 3) := by decide +kernel
theorem dX7_hasPlace_13 : decode cX7_hasPlace 13 = .ok (.if_icmp .ge 7, 3) := by decide +kernel
theorem dX7_hasPlace_16 : decode cX7_hasPlace 16 = .ok (.iconst 1, 1) := by decide +kernel
theorem dX7_hasPlace_17 : decode cX7_hasPlace 17 = .ok (.goto 4, 3) := by decide +kernel
theorem dX7_set_0 : decode cX7_set 0 = .ok (.iload_n 1, 1) := by decide +kernel
theorem dX7_set_1 : decode cX7_set 1 = .ok (.bipush 20, 2) := by decide +kernel
theorem dX7_set_3 : decode cX7_set 3 = .ok (.imul, 1) := by decide +kernel
theorem dX7_set_4 : decode cX7_set 4 = .ok (.iload_n 2, 1) := by decide +kernel
theorem dX7_set_5 : decode cX7_set 5 = .ok (.iadd, 1) := by decide +kernel
theorem dX7_set_6 : decode cX7_set 6 = .ok (.istore 5, 2) := by decide +kernel
theorem dX7_set_8 : decode cX7_set 8 = .ok (.iload 5, 2) := by decide +kernel
theorem dX7_set_10 : decode cX7_set 10 = .ok (.ifCond .lt 21, 3) := by decide +kernel
theorem dX7_set_31 : decode cX7_set 31 = .ok (.return_, 1) := by decide +kernel
theorem dX7_set_13 : decode cX7_set 13 = .ok (.iload 5, 2) := by decide +kernel
theorem dX7_set_15 : decode cX7_set 15 = .ok (.aload_n 0, 1) := by decide +kernel
theorem dX7_set_16 : decode cX7_set 16 = .ok (.getfield 11, 3) := by decide +kernel
theorem dX7_set_19 : decode cX7_set 19 = .ok (.arraylength, 1) := by decide +kernel
theorem dX7_set_20 : decode cX7_set 20 = .ok (.if_icmp .ge 11, 3) := by decide +kernel
theorem dX7_set_23 : decode cX7_set 23 = .ok (.aload_n 0, 1) := by decide +kernel
theorem dX7_set_24 : decode cX7_set 24 = .ok (.getfield 11, 3) := by decide +kernel
theorem dX7_set_27 : decode cX7_set 27 = .ok (.iload 5, 2) := by decide +kernel
theorem dX7_set_29 : decode cX7_set 29 = .ok (.lload_n 3, 1) := by decide +kernel
theorem dX7_set_30 : decode cX7_set 30 = .ok (.lastore, 1) := by decide +kernel
theorem dX7_make_0 : decode cX7_make 0 = .ok (.aload_n 0, 1) := by decide +kernel
theorem dX7_make_1 : decode cX7_make 1 = .ok (.getfield 24, 3) := by decide +kernel
theorem dX7_make_4 : decode cX7_make 4 = .ok (.iload_n 1, 1) := by decide +kernel
theorem dX7_make_5 : decode cX7_make 5 = .ok (.iconst 1, 1) := by decide +kernel
theorem dX7_make_6 : decode cX7_make 6 = .ok (.invokevirtual 31, 3) := by decide +kernel
theorem dX7_make_9 : decode cX7_make 9 = .ok (.aload_n 0, 1) := by decide +kernel
theorem dX7_make_10 : decode cX7_make 10 = .ok (.getfield 20, 3) := by decide +kernel
theorem dX7_make_13 : decode cX7_make 13 = .ok (.iload_n 1, 1) := by decide +kernel
theorem dX7_make_14 : decode cX7_make 14 = .ok (.iload_n 2, 1) := by decide +kernel
theorem dX7_make_15 : decode cX7_make 15 = .ok (.invokevirtual 31, 3) := by decide +kernel
theorem dX7_make_18 : decode cX7_make 18 = .ok (.iconst 0, 1) := by decide +kernel
theorem dX7_make_19 : decode cX7_make 19 = .ok (.istore_n 3, 1) := by decide +kernel
theorem dX7_make_20 : decode cX7_make 20 = .ok (.iload_n 3, 1) := by decide +kernel
theorem dX7_make_21 : decode cX7_make 21 = .ok (.iload_n 2, 1) := by decide +kernel
theorem dX7_make_22 : decode cX7_make 22 = .ok (.if_icmp .ge 16, 3) := by decide +kernel
theorem dX7_make_25 : decode cX7_make 25 = .ok (.aload_n 0, 1) := by decide +kernel
theorem dX7_make_26 : decode cX7_make 26 = .ok (.iload_n 1, 1) := by decide +kernel
theorem dX7_make_27 : decode cX7_make 27 = .ok (.iload_n 3, 1) := by decide +kernel
theorem dX7_make_28 : decode cX7_make 28 = .ok (.lconst 0, 1) := by decide +kernel
theorem dX7_make_29 : decode cX7_make 29 = .ok (.invokevirtual 35, 3) := by decide +kernel
theorem dX7_make_32 : decode cX7_make 32 = .ok (.iinc 3 1, 3) := by decide +kernel
theorem dX7_make_35 : decode cX7_make 35 = .ok (.goto (-15), 3) := by decide +kernel
theorem dX7_make_38 : decode cX7_make 38 = .ok (.return_, 1) := by decide +kernel
theorem dX7_get_0 : decode cX7_get 0 = .ok (.iload_n 1, 1) := by decide +kernel
theorem dX7_get_1 : decode cX7_get 1 = .ok (.bipush 20, 2) := by decide +kernel
theorem dX7_get_3 : decode cX7_get 3 = .ok (.imul, 1) := by decide +kernel
theorem dX7_get_4 : decode cX7_get 4 = .ok (.iload_n 2, 1) := by decide +kernel
theorem dX7_get_5 : decode cX7_get 5 = .ok (.iadd, 1) := by decide +kernel
theorem dX7_get_6 : decode cX7_get 6 = .ok (.istore_n 3, 1) := by decide +kernel
theorem dX7_get_7 : decode cX7_get 7 = .ok (.iload_n 3, 1) := by decide +kernel
theorem dX7_get_8 : decode cX7_get 8 = .ok (.ifCond .lt 21, 3) := by decide +kernel
theorem dX7_get_29 : decode cX7_get 29 = .ok (.lconst 0, 1) := by decide +kernel
theorem dX7_get_30 : decode cX7_get 30 = .ok (.lreturn, 1) := by decide +kernel
theorem dX7_get_11 : decode cX7_get 11 = .ok (.iload_n 3, 1) := by decide +kernel
theorem dX7_get_12 : decode cX7_get 12 = .ok (.aload_n 0, 1) := by decide +kernel
theorem dX7_get_13 : decode cX7_get 13 = .ok (.getfield 11, 3) := by decide +kernel
theorem dX7_get_16 : decode cX7_get 16 = .ok (.arraylength, 1) := by decide +kernel
theorem dX7_get_17 : decode cX7_get 17 = .ok (.if_icmp .ge 12, 3) := by decide +kernel
theorem dX7_get_20 : decode cX7_get 20 = .ok (.aload_n 0, 1) := by decide +kernel
theorem dX7_get_21 : decode cX7_get 21 = .ok (.getfield 11, 3) := by decide +kernel
theorem dX7_get_24 : decode cX7_get 24 = .ok (.iload_n 3, 1) := by decide +kernel
theorem dX7_get_25 : decode cX7_get 25 = .ok (.laload, 1) := by decide +kernel
theorem dX7_get_26 : decode cX7_get 26 = .ok (.goto 4, 3) := by decide +kernel
theorem dX7_layAll_0 : decode cX7_layAll 0 = .ok (.iconst 0, 1) := by decide +kernel
theorem dX7_layAll_1 : decode cX7_layAll 1 = .ok (.istore 4, 2) := by decide +kernel
theorem dX7_layAll_3 : decode cX7_layAll 3 = .ok (.iload 4, 2) := by decide +kernel
theorem dX7_layAll_5 : decode cX7_layAll 5 = .ok (.iconst 2, 1) := by decide +kernel
theorem dX7_layAll_6 : decode cX7_layAll 6 = .ok (.aload_n 3, 1) := by decide +kernel
theorem dX7_layAll_7 : decode cX7_layAll 7 = .ok (.invokevirtual 38, 3) := by decide +kernel
theorem dX7_layAll_10 : decode cX7_layAll 10 = .ok (.imul, 1) := by decide +kernel
theorem dX7_layAll_11 : decode cX7_layAll 11 = .ok (.if_icmp .ge 45, 3) := by decide +kernel
theorem dX7_layAll_14 : decode cX7_layAll 14 = .ok (.aload_n 0, 1) := by decide +kernel
theorem dX7_layAll_15 : decode cX7_layAll 15 = .ok (.iload_n 1, 1) := by decide +kernel
theorem dX7_layAll_16 : decode cX7_layAll 16 = .ok (.iload_n 2, 1) := by decide +kernel
theorem dX7_layAll_17 : decode cX7_layAll 17 = .ok (.iload 4, 2) := by decide +kernel
theorem dX7_layAll_19 : decode cX7_layAll 19 = .ok (.iadd, 1) := by decide +kernel
theorem dX7_layAll_20 : decode cX7_layAll 20 = .ok (.invokevirtual 44, 3) := by decide +kernel
theorem dX7_layAll_23 : decode cX7_layAll 23 = .ok (.ifCond .ne 6, 3) := by decide +kernel
theorem dX7_layAll_29 : decode cX7_layAll 29 = .ok (.aload_n 0, 1) := by decide +kernel
theorem dX7_layAll_30 : decode cX7_layAll 30 = .ok (.iload_n 1, 1) := by decide +kernel
theorem dX7_layAll_31 : decode cX7_layAll 31 = .ok (.iload_n 2, 1) := by decide +kernel
theorem dX7_layAll_32 : decode cX7_layAll 32 = .ok (.iload 4, 2) := by decide +kernel
theorem dX7_layAll_34 : decode cX7_layAll 34 = .ok (.iadd, 1) := by decide +kernel
theorem dX7_layAll_35 : decode cX7_layAll 35 = .ok (.aload_n 3, 1) := by decide +kernel
theorem dX7_layAll_36 : decode cX7_layAll 36 = .ok (.iload 4, 2) := by decide +kernel
theorem dX7_layAll_38 : decode cX7_layAll 38 = .ok (.iconst 2, 1) := by decide +kernel
theorem dX7_layAll_39 : decode cX7_layAll 39 = .ok (.idiv, 1) := by decide +kernel
theorem dX7_layAll_40 : decode cX7_layAll 40 = .ok (.iload 4, 2) := by decide +kernel
theorem dX7_layAll_42 : decode cX7_layAll 42 = .ok (.iconst 2, 1) := by decide +kernel
theorem dX7_layAll_43 : decode cX7_layAll 43 = .ok (.irem, 1) := by decide +kernel
theorem dX7_layAll_44 : decode cX7_layAll 44 = .ok (.invokevirtual 48, 3) := by decide +kernel
theorem dX7_layAll_47 : decode cX7_layAll 47 = .ok (.invokevirtual 35, 3) := by decide +kernel
theorem dX7_layAll_50 : decode cX7_layAll 50 = .ok (.iinc 4 1, 3) := by decide +kernel
theorem dX7_layAll_53 : decode cX7_layAll 53 = .ok (.goto (-50), 3) := by decide +kernel
theorem dX7_layAll_26 : decode cX7_layAll 26 = .ok (.bipush (-13), 2) := by decide +kernel
theorem dX7_layAll_28 : decode cX7_layAll 28 = .ok (.ireturn, 1) := by decide +kernel
theorem dX7_layAll_56 : decode cX7_layAll 56 = .ok (.aload_n 3, 1) := by decide +kernel
theorem dX7_layAll_57 : decode cX7_layAll 57 = .ok (.invokevirtual 38, 3) := by decide +kernel
theorem dX7_layAll_60 : decode cX7_layAll 60 = .ok (.ireturn, 1) := by decide +kernel
theorem dX7_judgeAll_0 : decode cX7_judgeAll 0 = .ok (.iconst 0, 1) := by decide +kernel
theorem dX7_judgeAll_1 : decode cX7_judgeAll 1 = .ok (.istore_n 3, 1) := by decide +kernel
theorem dX7_judgeAll_2 : decode cX7_judgeAll 2 = .ok (.iload_n 3, 1) := by decide +kernel
theorem dX7_judgeAll_3 : decode cX7_judgeAll 3 = .ok (.iconst 2, 1) := by decide +kernel
theorem dX7_judgeAll_4 : decode cX7_judgeAll 4 = .ok (.aload_n 2, 1) := by decide +kernel
theorem dX7_judgeAll_5 : decode cX7_judgeAll 5 = .ok (.invokevirtual 38, 3) := by decide +kernel
theorem dX7_judgeAll_8 : decode cX7_judgeAll 8 = .ok (.imul, 1) := by decide +kernel
theorem dX7_judgeAll_9 : decode cX7_judgeAll 9 = .ok (.if_icmp .ge 49, 3) := by decide +kernel
theorem dX7_judgeAll_12 : decode cX7_judgeAll 12 = .ok (.aload_n 0, 1) := by decide +kernel
theorem dX7_judgeAll_13 : decode cX7_judgeAll 13 = .ok (.iload_n 1, 1) := by decide +kernel
theorem dX7_judgeAll_14 : decode cX7_judgeAll 14 = .ok (.iload_n 3, 1) := by decide +kernel
theorem dX7_judgeAll_15 : decode cX7_judgeAll 15 = .ok (.invokevirtual 44, 3) := by decide +kernel
theorem dX7_judgeAll_18 : decode cX7_judgeAll 18 = .ok (.ifCond .ne 10, 3) := by decide +kernel
theorem dX7_judgeAll_28 : decode cX7_judgeAll 28 = .ok (.aload_n 0, 1) := by decide +kernel
theorem dX7_judgeAll_29 : decode cX7_judgeAll 29 = .ok (.iload_n 1, 1) := by decide +kernel
theorem dX7_judgeAll_30 : decode cX7_judgeAll 30 = .ok (.iload_n 3, 1) := by decide +kernel
theorem dX7_judgeAll_31 : decode cX7_judgeAll 31 = .ok (.invokevirtual 52, 3) := by decide +kernel
theorem dX7_judgeAll_34 : decode cX7_judgeAll 34 = .ok (.aload_n 2, 1) := by decide +kernel
theorem dX7_judgeAll_35 : decode cX7_judgeAll 35 = .ok (.iload_n 3, 1) := by decide +kernel
theorem dX7_judgeAll_36 : decode cX7_judgeAll 36 = .ok (.iconst 2, 1) := by decide +kernel
theorem dX7_judgeAll_37 : decode cX7_judgeAll 37 = .ok (.idiv, 1) := by decide +kernel
theorem dX7_judgeAll_38 : decode cX7_judgeAll 38 = .ok (.iload_n 3, 1) := by decide +kernel
theorem dX7_judgeAll_39 : decode cX7_judgeAll 39 = .ok (.iconst 2, 1) := by decide +kernel
theorem dX7_judgeAll_40 : decode cX7_judgeAll 40 = .ok (.irem, 1) := by decide +kernel
theorem dX7_judgeAll_41 : decode cX7_judgeAll 41 = .ok (.invokevirtual 48, 3) := by decide +kernel
theorem dX7_judgeAll_44 : decode cX7_judgeAll 44 = .ok (.lcmp, 1) := by decide +kernel
theorem dX7_judgeAll_45 : decode cX7_judgeAll 45 = .ok (.ifCond .eq 7, 3) := by decide +kernel
theorem dX7_judgeAll_52 : decode cX7_judgeAll 52 = .ok (.iinc 3 1, 3) := by decide +kernel
theorem dX7_judgeAll_55 : decode cX7_judgeAll 55 = .ok (.goto (-53), 3) := by decide +kernel
theorem dX7_judgeAll_21 : decode cX7_judgeAll 21 = .ok (.bipush 100, 2) := by decide +kernel
theorem dX7_judgeAll_23 : decode cX7_judgeAll 23 = .ok (.iload_n 3, 1) := by decide +kernel
theorem dX7_judgeAll_24 : decode cX7_judgeAll 24 = .ok (.iconst 2, 1) := by decide +kernel
theorem dX7_judgeAll_25 : decode cX7_judgeAll 25 = .ok (.idiv, 1) := by decide +kernel
theorem dX7_judgeAll_26 : decode cX7_judgeAll 26 = .ok (.iadd, 1) := by decide +kernel
theorem dX7_judgeAll_27 : decode cX7_judgeAll 27 = .ok (.ireturn, 1) := by decide +kernel
theorem dX7_judgeAll_48 : decode cX7_judgeAll 48 = .ok (.iload_n 3, 1) := by decide +kernel
theorem dX7_judgeAll_49 : decode cX7_judgeAll 49 = .ok (.iconst 2, 1) := by decide +kernel
theorem dX7_judgeAll_50 : decode cX7_judgeAll 50 = .ok (.idiv, 1) := by decide +kernel
theorem dX7_judgeAll_51 : decode cX7_judgeAll 51 = .ok (.ireturn, 1) := by decide +kernel
theorem dX7_judgeAll_58 : decode cX7_judgeAll 58 = .ok (.bipush (-9), 2) := by decide +kernel
theorem dX7_judgeAll_60 : decode cX7_judgeAll 60 = .ok (.ireturn, 1) := by decide +kernel
theorem dX3_size_0 : decode cX3_size 0 = .ok (.aload_n 0, 1) := by decide +kernel
theorem dX3_size_1 : decode cX3_size 1 = .ok (.getfield 23, 3) := by decide +kernel
theorem dX3_size_4 : decode cX3_size 4 = .ok (.ireturn, 1) := by decide +kernel
theorem dX3_isFull_0 : decode cX3_isFull 0 = .ok (.aload_n 0, 1) := by decide +kernel
theorem dX3_isFull_1 : decode cX3_isFull 1 = .ok (.getfield 23, 3) := by decide +kernel
theorem dX3_isFull_4 : decode cX3_isFull 4 = .ok (.bipush 120, 2) := by decide +kernel
theorem dX3_isFull_6 : decode cX3_isFull 6 = .ok (.if_icmp .lt 7, 3) := by decide +kernel
theorem dX3_isFull_13 : decode cX3_isFull 13 = .ok (.iconst 0, 1) := by decide +kernel
theorem dX3_isFull_14 : decode cX3_isFull 14 = .ok (.ireturn, 1) := by decide +kernel
theorem dX3_isFull_9 : decode cX3_isFull 9 = .ok (.iconst 1, 1) := by decide +kernel
theorem dX3_isFull_10 : decode cX3_isFull 10 = .ok (.goto 4, 3) := by decide +kernel
theorem dX3_add_0 : decode cX3_add 0 = .ok (.aload_n 0, 1) := by decide +kernel
theorem dX3_add_1 : decode cX3_add 1 = .ok (.getfield 14, 3) := by decide +kernel
theorem dX3_add_4 : decode cX3_add 4 = .ok (.aload_n 0, 1) := by decide +kernel
theorem dX3_add_5 : decode cX3_add 5 = .ok (.getfield 23, 3) := by decide +kernel
theorem dX3_add_8 : decode cX3_add 8 = .ok (.iload_n 1, 1) := by decide +kernel
theorem dX3_add_9 : decode cX3_add 9 = .ok (.invokevirtual 27, 3) := by decide +kernel
theorem dX3_add_12 : decode cX3_add 12 = .ok (.aload_n 0, 1) := by decide +kernel
theorem dX3_add_13 : decode cX3_add 13 = .ok (.dup, 1) := by decide +kernel
theorem dX3_add_14 : decode cX3_add 14 = .ok (.getfield 23, 3) := by decide +kernel
theorem dX3_add_17 : decode cX3_add 17 = .ok (.iconst 1, 1) := by decide +kernel
theorem dX3_add_18 : decode cX3_add 18 = .ok (.iadd, 1) := by decide +kernel
theorem dX3_add_19 : decode cX3_add 19 = .ok (.putfield 23, 3) := by decide +kernel
theorem dX3_add_22 : decode cX3_add 22 = .ok (.aload_n 0, 1) := by decide +kernel
theorem dX3_add_23 : decode cX3_add 23 = .ok (.getfield 23, 3) := by decide +kernel
theorem dX3_add_26 : decode cX3_add 26 = .ok (.ireturn, 1) := by decide +kernel
theorem dX3_forget_0 : decode cX3_forget 0 = .ok (.aload_n 0, 1) := by decide +kernel
theorem dX3_forget_1 : decode cX3_forget 1 = .ok (.iconst 0, 1) := by decide +kernel
theorem dX3_forget_2 : decode cX3_forget 2 = .ok (.putfield 23, 3) := by decide +kernel
theorem dX3_forget_5 : decode cX3_forget 5 = .ok (.return_, 1) := by decide +kernel
theorem dX3_readFromFront_0 : decode cX3_readFromFront 0 = .ok (.aload_n 0, 1) := by decide +kernel
theorem dX3_readFromFront_1 : decode cX3_readFromFront 1 = .ok (.iconst 0, 1) := by decide +kernel
theorem dX3_readFromFront_2 : decode cX3_readFromFront 2 = .ok (.putfield 31, 3) := by decide +kernel
theorem dX3_readFromFront_5 : decode cX3_readFromFront 5 = .ok (.return_, 1) := by decide +kernel
theorem dX3_isRead_0 : decode cX3_isRead 0 = .ok (.aload_n 0, 1) := by decide +kernel
theorem dX3_isRead_1 : decode cX3_isRead 1 = .ok (.getfield 31, 3) := by decide +kernel
theorem dX3_isRead_4 : decode cX3_isRead 4 = .ok (.aload_n 0, 1) := by decide +kernel
theorem dX3_isRead_5 : decode cX3_isRead 5 = .ok (.getfield 23, 3) := by decide +kernel
theorem dX3_isRead_8 : decode cX3_isRead 8 = .ok (.if_icmp .lt 7, 3) := by decide +kernel
theorem dX3_isRead_15 : decode cX3_isRead 15 = .ok (.iconst 0, 1) := by decide +kernel
theorem dX3_isRead_16 : decode cX3_isRead 16 = .ok (.ireturn, 1) := by decide +kernel
theorem dX3_isRead_11 : decode cX3_isRead 11 = .ok (.iconst 1, 1) := by decide +kernel
theorem dX3_isRead_12 : decode cX3_isRead 12 = .ok (.goto 4, 3) := by decide +kernel
theorem dX3_standsAt_0 : decode cX3_standsAt 0 = .ok (.aload_n 0, 1) := by decide +kernel
theorem dX3_standsAt_1 : decode cX3_standsAt 1 = .ok (.getfield 31, 3) := by decide +kernel
theorem dX3_standsAt_4 : decode cX3_standsAt 4 = .ok (.ireturn, 1) := by decide +kernel
set_option maxHeartbeats 4000000 in
set_option maxRecDepth 100000 in
theorem c_X4_work (l : Launch) (g : GG) (a0 : Nat → Nat) (v0_values_marks : (Nat → Int32)) (v0_values_weights : (Nat → Int32)) (v0_values_places : (Nat → Int32)) (v0_values_aboves : (Nat → Int32)) (v0_values_belows : (Nat → Int32)) (v0_values_reduced_above : Int64) (v0_values_reduced_below : Int64) (v0_values_papers : Int32) (v0_blocks : (Nat → Int32)) (v0_tops : (Nat → Int32)) (v0_bottoms : (Nat → Int32)) (v0_blocksNow : Int32) (v0_mergesDone : Int32) (v0_loss : Int32) (a1 : Nat → Nat) (v1_raws : (Nat → Int32)) (v1_kinds : (Nat → Int32)) (v1_figures : (Nat → Int32)) (v1_heavies : (Nat → Int32)) (v1_places : (Nat → Int32)) (v1_papers : Int32) (v1_lowers : (Nat → Int32)) (v1_uppers : (Nat → Int32)) (v1_rules : Int32) (v1_bounds : (Nat → Int32)) (v1_boundCount : Int32) (v1_tieWay : Int32) (v1_reached : (Nat → Int32)) (p2 : Int32) (hne : (m_X4_work ((v0_values_marks, v0_values_weights, v0_values_places, v0_values_aboves, v0_values_belows, (v0_values_reduced_above, v0_values_reduced_below), v0_values_papers), v0_blocks, v0_tops, v0_bottoms, v0_blocksNow, v0_mergesDone, v0_loss) (v1_raws, v1_kinds, v1_figures, v1_heavies, v1_places, v1_papers, v1_lowers, v1_uppers, v1_rules, v1_bounds, v1_boundCount, v1_tieWay, v1_reached) p2) ≠ none) : Ct l g yX4_work cX4_work 3 (Option.some (Jvm.ClassFile.FieldType.object RX8)) ({ frames := 6, cells := 0, slots := 0, locals := 146 } : Room) [.ref (a0 0), .ref (a1 0), .int p2] (wX4 a0 g v0_values_marks v0_values_weights v0_values_places v0_values_aboves v0_values_belows v0_values_reduced_above v0_values_reduced_below v0_values_papers v0_blocks v0_tops v0_bottoms v0_blocksNow v0_mergesDone v0_loss ++ wX6 a1 g v1_raws v1_kinds v1_figures v1_heavies v1_places v1_papers v1_lowers v1_uppers v1_rules v1_bounds v1_boundCount v1_tieWay v1_reached) (Qr g (m_X4_work ((v0_values_marks, v0_values_weights, v0_values_places, v0_values_aboves, v0_values_belows, (v0_values_reduced_above, v0_values_reduced_below), v0_values_papers), v0_blocks, v0_tops, v0_bottoms, v0_blocksNow, v0_mergesDone, v0_loss) (v1_raws, v1_kinds, v1_figures, v1_heavies, v1_places, v1_papers, v1_lowers, v1_uppers, v1_rules, v1_bounds, v1_boundCount, v1_tieWay, v1_reached) p2) (fun _ => (a0 1)) (fun u => wX4 a0 g u.1 u.2.1 u.2.2.1 u.2.2.2.1 u.2.2.2.2.1 u.2.2.2.2.2.1 u.2.2.2.2.2.2.1 u.2.2.2.2.2.2.2.1 u.2.2.2.2.2.2.2.2.1 u.2.2.2.2.2.2.2.2.2.1 u.2.2.2.2.2.2.2.2.2.2.1 u.2.2.2.2.2.2.2.2.2.2.2.1 u.2.2.2.2.2.2.2.2.2.2.2.2.1 u.2.2.2.2.2.2.2.2.2.2.2.2.2 ++ wX6 a1 g v1_raws v1_kinds v1_figures v1_heavies v1_places v1_papers v1_lowers v1_uppers v1_rules v1_bounds v1_boundCount v1_tieWay v1_reached)) 0 0 := by
  obtain ⟨out, hf⟩ := ne_ex hne
  have hf0 := hf
  refine Ct.of (own := RX4) (by decide +kernel) rfl (Nat.le_of_ble_eq_true rfl) ?_
  intro p e s m below meth c hx hb hr hml hown hts hlocks hin hK A H locs hA hP hD hS hE ls hl
  have hl : lv_has ls 3 [(0, .ref (a0 0)), (1, .ref (a1 0)), (2, .int p2)] := hl
  unfold m_X4_work at hf
  refine lv_aload_n hx hb dX4_work_0 rfl (lv_at hl 0 rfl) ?_
  refine lv_iload_n hx hb dX4_work_1 rfl (lv_at hl 2 rfl) ?_
  refine va_put (D := g.1) (ci := 5) (v := .int p2) (ty := .int) (C := RX4) (T := TX4) (N := 7) hx hb hts layX4 tyX4 tyX4_ok nmX4 hown hK.1 hP hD hS 0 rfl rfl 6 (by decide) (hts _ kw174) (fun _ h9 => h9) rfl (tyX4_ok 6 (by decide)) rfl rfl (Nat.le_of_ble_eq_true rfl) dX4_work_2 (fun H locs hP hD hS => ?_)
  have hP : va_P g.1 vwCl (wX4 a0 g v0_values_marks v0_values_weights v0_values_places v0_values_aboves v0_values_belows v0_values_reduced_above v0_values_reduced_below v0_values_papers v0_blocks v0_tops v0_bottoms v0_blocksNow v0_mergesDone p2 ++ wX6 a1 g v1_raws v1_kinds v1_figures v1_heavies v1_places v1_papers v1_lowers v1_uppers v1_rules v1_bounds v1_boundCount v1_tieWay v1_reached) H := hP
  have hD : va_D A (wX4 a0 g v0_values_marks v0_values_weights v0_values_places v0_values_aboves v0_values_belows v0_values_reduced_above v0_values_reduced_below v0_values_papers v0_blocks v0_tops v0_bottoms v0_blocksNow v0_mergesDone p2 ++ wX6 a1 g v1_raws v1_kinds v1_figures v1_heavies v1_places v1_papers v1_lowers v1_uppers v1_rules v1_bounds v1_boundCount v1_tieWay v1_reached) := hD
  refine lv_aload_n hx hb dX4_work_5 rfl (lv_at hl 0 rfl) ?_
  refine lv_iconst (v := 0) hx hb dX4_work_6 (by decide) ?_
  refine va_put (D := g.1) (ci := 5) (v := .int (0 : Int32)) (ty := .int) (C := RX4) (T := TX4) (N := 7) hx hb hts layX4 tyX4 tyX4_ok nmX4 hown hK.1 hP hD hS 0 rfl rfl 4 (by decide) (hts _ kw172) (fun _ h9 => h9) rfl (tyX4_ok 4 (by decide)) rfl rfl (Nat.le_of_ble_eq_true rfl) dX4_work_7 (fun H locs hP hD hS => ?_)
  have hP : va_P g.1 vwCl (wX4 a0 g v0_values_marks v0_values_weights v0_values_places v0_values_aboves v0_values_belows v0_values_reduced_above v0_values_reduced_below v0_values_papers v0_blocks v0_tops v0_bottoms (0 : Int32) v0_mergesDone p2 ++ wX6 a1 g v1_raws v1_kinds v1_figures v1_heavies v1_places v1_papers v1_lowers v1_uppers v1_rules v1_bounds v1_boundCount v1_tieWay v1_reached) H := hP
  have hD : va_D A (wX4 a0 g v0_values_marks v0_values_weights v0_values_places v0_values_aboves v0_values_belows v0_values_reduced_above v0_values_reduced_below v0_values_papers v0_blocks v0_tops v0_bottoms (0 : Int32) v0_mergesDone p2 ++ wX6 a1 g v1_raws v1_kinds v1_figures v1_heavies v1_places v1_papers v1_lowers v1_uppers v1_rules v1_bounds v1_boundCount v1_tieWay v1_reached) := hD
  refine lv_aload_n hx hb dX4_work_10 rfl (lv_at hl 0 rfl) ?_
  refine lv_iconst (v := 0) hx hb dX4_work_11 (by decide) ?_
  refine va_put (D := g.1) (ci := 5) (v := .int (0 : Int32)) (ty := .int) (C := RX4) (T := TX4) (N := 7) hx hb hts layX4 tyX4 tyX4_ok nmX4 hown hK.1 hP hD hS 0 rfl rfl 5 (by decide) (hts _ kw173) (fun _ h9 => h9) rfl (tyX4_ok 5 (by decide)) rfl rfl (Nat.le_of_ble_eq_true rfl) dX4_work_12 (fun H locs hP hD hS => ?_)
  have hP : va_P g.1 vwCl (wX4 a0 g v0_values_marks v0_values_weights v0_values_places v0_values_aboves v0_values_belows v0_values_reduced_above v0_values_reduced_below v0_values_papers v0_blocks v0_tops v0_bottoms (0 : Int32) (0 : Int32) p2 ++ wX6 a1 g v1_raws v1_kinds v1_figures v1_heavies v1_places v1_papers v1_lowers v1_uppers v1_rules v1_bounds v1_boundCount v1_tieWay v1_reached) H := hP
  have hD : va_D A (wX4 a0 g v0_values_marks v0_values_weights v0_values_places v0_values_aboves v0_values_belows v0_values_reduced_above v0_values_reduced_below v0_values_papers v0_blocks v0_tops v0_bottoms (0 : Int32) (0 : Int32) p2 ++ wX6 a1 g v1_raws v1_kinds v1_figures v1_heavies v1_places v1_papers v1_lowers v1_uppers v1_rules v1_bounds v1_boundCount v1_tieWay v1_reached) := hD
  refine lv_aload_n hx hb dX4_work_15 rfl (lv_at hl 0 rfl) ?_
  refine va_get (D := g.1) (ci := 5) (v := .ref (a0 1)) (C := RX4) (T := TX4) (N := 7) hx hb hts layX4 hown hK.1 hP 0 rfl rfl 0 (by decide) (hts _ kw168) (fun _ h9 => h9) rfl dX4_work_16 ?_
  refine lv_aload_n hx hb dX4_work_19 rfl (lv_at hl 1 rfl) ?_
  refine cV hP hD hS hA hE (fun hPc hDc hSc => rV (As := [.ref (a1 0)]) (rest := []) hx hb hml hown hts hK (c_X8_begin l g (fun i => a0 (i + 1)) v0_values_marks v0_values_weights v0_values_places v0_values_aboves v0_values_belows v0_values_reduced_above v0_values_reduced_below v0_values_papers a1 v1_raws v1_kinds v1_figures v1_heavies v1_places v1_papers v1_lowers v1_uppers v1_rules v1_bounds v1_boundCount v1_tieWay v1_reached (bnd_ne hf)) svV_X8_begin kw664 rfl rfl hPc hDc hSc rfl rfl hl.1 (Nat.le_of_ble_eq_true rfl) dX4_work_20 ⟨Nat.le_of_ble_eq_true rfl, Nat.le_of_ble_eq_true rfl, rfl, rfl, Nat.le_of_ble_eq_true rfl, Nat.le_of_ble_eq_true rfl⟩) [(1, 12), (19, 19)] rfl rfl rfl (fun _ => rfl) (fun x1 H locs ex1 hP hD hS => ?_)
  have hf := bnd_of hf ex1
  have hP : va_P g.1 vwCl (wX4 a0 g x1.1 x1.2.1 x1.2.2.1 x1.2.2.2.1 x1.2.2.2.2.1 v0_values_reduced_above v0_values_reduced_below x1.2.2.2.2.2 v0_blocks v0_tops v0_bottoms (0 : Int32) (0 : Int32) p2 ++ wX6 a1 g v1_raws v1_kinds v1_figures v1_heavies v1_places v1_papers v1_lowers v1_uppers v1_rules v1_bounds v1_boundCount v1_tieWay v1_reached) H := hP
  have hD : va_D A (wX4 a0 g x1.1 x1.2.1 x1.2.2.1 x1.2.2.2.1 x1.2.2.2.2.1 v0_values_reduced_above v0_values_reduced_below x1.2.2.2.2.2 v0_blocks v0_tops v0_bottoms (0 : Int32) (0 : Int32) p2 ++ wX6 a1 g v1_raws v1_kinds v1_figures v1_heavies v1_places v1_papers v1_lowers v1_uppers v1_rules v1_bounds v1_boundCount v1_tieWay v1_reached) := hD
  refine lv_aload_n hx hb dX4_work_23 rfl (lv_at hl 1 rfl) ?_
  refine cIp hP hD hS hA hE (fun hPc hDc hSc => rV (As := []) (rest := []) hx hb hml hown hts hK (c_X6_tiesNow l g a1 v1_raws v1_kinds v1_figures v1_heavies v1_places v1_papers v1_lowers v1_uppers v1_rules v1_bounds v1_boundCount v1_tieWay v1_reached (bnd_ne hf)) svV_X6_tiesNow kw673 rfl rfl hPc hDc hSc rfl rfl hl.1 (Nat.le_of_ble_eq_true rfl) dX4_work_24 ⟨Nat.le_of_ble_eq_true rfl, Nat.le_of_ble_eq_true rfl, rfl, rfl, Nat.le_of_ble_eq_true rfl, Nat.le_of_ble_eq_true rfl⟩) [(19, 19)] rfl rfl rfl (fun x2 H locs ex2 nx2 hP hS => ?_)
  have hf := bnd_of hf ex2
  obtain ⟨r5, er5, hf⟩ := bnd hf
  have K : ∀ (H : Heap) (locs : List Loc) (ls : Array Slot), va_P g.1 vwCl (wX4 a0 g x1.1 x1.2.1 x1.2.2.1 x1.2.2.2.1 x1.2.2.2.2.1 v0_values_reduced_above v0_values_reduced_below x1.2.2.2.2.2 r5.1 v0_tops v0_bottoms r5.2 (0 : Int32) p2 ++ wX6 a1 g v1_raws v1_kinds v1_figures v1_heavies v1_places v1_papers v1_lowers v1_uppers v1_rules v1_bounds v1_boundCount v1_tieWay v1_reached) H → va_D A (wX4 a0 g x1.1 x1.2.1 x1.2.2.1 x1.2.2.2.1 x1.2.2.2.2.1 v0_values_reduced_above v0_values_reduced_below x1.2.2.2.2.2 r5.1 v0_tops v0_bottoms r5.2 (0 : Int32) p2 ++ wX6 a1 g v1_raws v1_kinds v1_figures v1_heavies v1_places v1_papers v1_lowers v1_uppers v1_rules v1_bounds v1_boundCount v1_tieWay v1_reached) → va_S A s.heap H locs → lv_has ls 3 [(0, .ref (a0 0)), (1, .ref (a1 0))] → W p l e { frames := 6, cells := 0, slots := 0, locals := 146 } s m [.ref (a0 0), .ref (a1 0), .int p2].toArray below meth c H locs 0 0 (MQ below (Qr g (m_X4_work ((v0_values_marks, v0_values_weights, v0_values_places, v0_values_aboves, v0_values_belows, (v0_values_reduced_above, v0_values_reduced_below), v0_values_papers), v0_blocks, v0_tops, v0_bottoms, v0_blocksNow, v0_mergesDone, v0_loss) (v1_raws, v1_kinds, v1_figures, v1_heavies, v1_places, v1_papers, v1_lowers, v1_uppers, v1_rules, v1_bounds, v1_boundCount, v1_tieWay, v1_reached) p2) (fun _ => (a0 1)) (fun u => wX4 a0 g u.1 u.2.1 u.2.2.1 u.2.2.2.1 u.2.2.2.2.1 u.2.2.2.2.2.1 u.2.2.2.2.2.2.1 u.2.2.2.2.2.2.2.1 u.2.2.2.2.2.2.2.2.1 u.2.2.2.2.2.2.2.2.2.1 u.2.2.2.2.2.2.2.2.2.2.1 u.2.2.2.2.2.2.2.2.2.2.2.1 u.2.2.2.2.2.2.2.2.2.2.2.2.1 u.2.2.2.2.2.2.2.2.2.2.2.2.2 ++ wX6 a1 g v1_raws v1_kinds v1_figures v1_heavies v1_places v1_papers v1_lowers v1_uppers v1_rules v1_bounds v1_boundCount v1_tieWay v1_reached) A) [.ref (a0 0), .ref (a1 0), .int p2].toArray s 0 0 A) (F0 m 41 ls []) := by
    intro H locs ls hP hD hS hl
    refine lv_aload_n hx hb dX4_work_41 rfl (lv_at hl 0 rfl) ?_
    refine cV hP hD hS hA hE (fun hPc hDc hSc => rV (As := []) (rest := []) hx hb hml hown hts hK (c_X4_mergeAll l g a0 x1.1 x1.2.1 x1.2.2.1 x1.2.2.2.1 x1.2.2.2.2.1 v0_values_reduced_above v0_values_reduced_below x1.2.2.2.2.2 r5.1 v0_tops v0_bottoms r5.2 (0 : Int32) p2 (bnd_ne hf)) svV_X4_mergeAll kw718 rfl rfl hPc hDc hSc rfl rfl hl.1 (Nat.le_of_ble_eq_true rfl) dX4_work_42 ⟨Nat.le_of_ble_eq_true rfl, Nat.le_of_ble_eq_true rfl, rfl, rfl, Nat.le_of_ble_eq_true rfl, Nat.le_of_ble_eq_true rfl⟩) [(0, 19)] rfl rfl rfl (fun _ => rfl) (fun x6 H locs ex6 hP hD hS => ?_)
    have hf := bnd_of hf ex6
    have hP : va_P g.1 vwCl (wX4 a0 g x1.1 x1.2.1 x1.2.2.1 x1.2.2.2.1 x1.2.2.2.2.1 v0_values_reduced_above v0_values_reduced_below x1.2.2.2.2.2 x6.1 x6.2.1 x6.2.2.1 x6.2.2.2.1 x6.2.2.2.2 p2 ++ wX6 a1 g v1_raws v1_kinds v1_figures v1_heavies v1_places v1_papers v1_lowers v1_uppers v1_rules v1_bounds v1_boundCount v1_tieWay v1_reached) H := hP
    have hD : va_D A (wX4 a0 g x1.1 x1.2.1 x1.2.2.1 x1.2.2.2.1 x1.2.2.2.2.1 v0_values_reduced_above v0_values_reduced_below x1.2.2.2.2.2 x6.1 x6.2.1 x6.2.2.1 x6.2.2.2.1 x6.2.2.2.2 p2 ++ wX6 a1 g v1_raws v1_kinds v1_figures v1_heavies v1_places v1_papers v1_lowers v1_uppers v1_rules v1_bounds v1_boundCount v1_tieWay v1_reached) := hD
    refine lv_aload_n hx hb dX4_work_45 rfl (lv_at hl 0 rfl) ?_
    refine lv_aload_n hx hb dX4_work_46 rfl (lv_at hl 1 rfl) ?_
    refine cIp hP hD hS hA hE (fun hPc hDc hSc => rV (As := []) (rest := [.ref (a0 0)]) hx hb hml hown hts hK (c_X6_tiesNow l g a1 v1_raws v1_kinds v1_figures v1_heavies v1_places v1_papers v1_lowers v1_uppers v1_rules v1_bounds v1_boundCount v1_tieWay v1_reached (bnd_ne hf)) svV_X6_tiesNow kw673 rfl rfl hPc hDc hSc rfl rfl hl.1 (Nat.le_of_ble_eq_true rfl) dX4_work_47 ⟨Nat.le_of_ble_eq_true rfl, Nat.le_of_ble_eq_true rfl, rfl, rfl, Nat.le_of_ble_eq_true rfl, Nat.le_of_ble_eq_true rfl⟩) [(19, 19)] rfl rfl rfl (fun x7 H locs ex7 nx7 hP hS => ?_)
    have hf := bnd_of hf ex7
    refine lv_iconst (v := 2) hx hb dX4_work_50 (by decide) ?_
    obtain ⟨r8, er8, hf⟩ := bnd hf
    have K : ∀ (H : Heap) (locs : List Loc) (ls : Array Slot), va_P g.1 vwCl (wX4 a0 g x1.1 x1.2.1 x1.2.2.1 x1.2.2.2.1 x1.2.2.2.2.1 v0_values_reduced_above v0_values_reduced_below x1.2.2.2.2.2 x6.1 x6.2.1 x6.2.2.1 x6.2.2.2.1 x6.2.2.2.2 p2 ++ wX6 a1 g v1_raws v1_kinds v1_figures v1_heavies v1_places v1_papers v1_lowers v1_uppers v1_rules v1_bounds v1_boundCount v1_tieWay v1_reached) H → va_D A (wX4 a0 g x1.1 x1.2.1 x1.2.2.1 x1.2.2.2.1 x1.2.2.2.2.1 v0_values_reduced_above v0_values_reduced_below x1.2.2.2.2.2 x6.1 x6.2.1 x6.2.2.1 x6.2.2.2.1 x6.2.2.2.2 p2 ++ wX6 a1 g v1_raws v1_kinds v1_figures v1_heavies v1_places v1_papers v1_lowers v1_uppers v1_rules v1_bounds v1_boundCount v1_tieWay v1_reached) → va_S A s.heap H locs → lv_has ls 3 [(0, .ref (a0 0))] → W p l e { frames := 6, cells := 0, slots := 0, locals := 146 } s m [.ref (a0 0), .ref (a1 0), .int p2].toArray below meth c H locs 0 0 (MQ below (Qr g (m_X4_work ((v0_values_marks, v0_values_weights, v0_values_places, v0_values_aboves, v0_values_belows, (v0_values_reduced_above, v0_values_reduced_below), v0_values_papers), v0_blocks, v0_tops, v0_bottoms, v0_blocksNow, v0_mergesDone, v0_loss) (v1_raws, v1_kinds, v1_figures, v1_heavies, v1_places, v1_papers, v1_lowers, v1_uppers, v1_rules, v1_bounds, v1_boundCount, v1_tieWay, v1_reached) p2) (fun _ => (a0 1)) (fun u => wX4 a0 g u.1 u.2.1 u.2.2.1 u.2.2.2.1 u.2.2.2.2.1 u.2.2.2.2.2.1 u.2.2.2.2.2.2.1 u.2.2.2.2.2.2.2.1 u.2.2.2.2.2.2.2.2.1 u.2.2.2.2.2.2.2.2.2.1 u.2.2.2.2.2.2.2.2.2.2.1 u.2.2.2.2.2.2.2.2.2.2.2.1 u.2.2.2.2.2.2.2.2.2.2.2.2.1 u.2.2.2.2.2.2.2.2.2.2.2.2.2 ++ wX6 a1 g v1_raws v1_kinds v1_figures v1_heavies v1_places v1_papers v1_lowers v1_uppers v1_rules v1_bounds v1_boundCount v1_tieWay v1_reached) A) [.ref (a0 0), .ref (a1 0), .int p2].toArray s 0 0 A) (F0 m 59 ls [.int r8, .ref (a0 0)]) := by
      intro H locs ls hP hD hS hl
      refine cV hP hD hS hA hE (fun hPc hDc hSc => rV (As := [.int r8]) (rest := []) hx hb hml hown hts hK (c_X4_layAll l g a0 x1.1 x1.2.1 x1.2.2.1 x1.2.2.2.1 x1.2.2.2.2.1 v0_values_reduced_above v0_values_reduced_below x1.2.2.2.2.2 x6.1 x6.2.1 x6.2.2.1 x6.2.2.2.1 x6.2.2.2.2 p2 r8 (bnd_ne hf)) svV_X4_layAll kw756 rfl rfl hPc hDc hSc rfl rfl hl.1 (Nat.le_of_ble_eq_true rfl) dX4_work_59 ⟨Nat.le_of_ble_eq_true rfl, Nat.le_of_ble_eq_true rfl, rfl, rfl, Nat.le_of_ble_eq_true rfl, Nat.le_of_ble_eq_true rfl⟩) [(0, 19)] rfl rfl rfl (fun _ => rfl) (fun x9 H locs ex9 hP hD hS => ?_)
      have hf := bnd_of hf ex9
      have hP : va_P g.1 vwCl (wX4 a0 g x1.1 x1.2.1 x1.2.2.1 x9.1 x9.2.1 x9.2.2.1 x9.2.2.2 x1.2.2.2.2.2 x6.1 x6.2.1 x6.2.2.1 x6.2.2.2.1 x6.2.2.2.2 p2 ++ wX6 a1 g v1_raws v1_kinds v1_figures v1_heavies v1_places v1_papers v1_lowers v1_uppers v1_rules v1_bounds v1_boundCount v1_tieWay v1_reached) H := hP
      have hD : va_D A (wX4 a0 g x1.1 x1.2.1 x1.2.2.1 x9.1 x9.2.1 x9.2.2.1 x9.2.2.2 x1.2.2.2.2.2 x6.1 x6.2.1 x6.2.2.1 x6.2.2.2.1 x6.2.2.2.2 p2 ++ wX6 a1 g v1_raws v1_kinds v1_figures v1_heavies v1_places v1_papers v1_lowers v1_uppers v1_rules v1_bounds v1_boundCount v1_tieWay v1_reached) := hD
      refine lv_aload_n hx hb dX4_work_62 rfl (lv_at hl 0 rfl) ?_
      refine va_get (D := g.1) (ci := 5) (v := .ref (a0 1)) (C := RX4) (T := TX4) (N := 7) hx hb hts layX4 hown hK.1 hP 0 rfl rfl 0 (by decide) (hts _ kw168) (fun _ h9 => h9) rfl dX4_work_63 ?_
      exact retR (u := (x1.1, x1.2.1, x1.2.2.1, x9.1, x9.2.1, x9.2.2.1, x9.2.2.2, x1.2.2.2.2.2, x6.1, x6.2.1, x6.2.2.1, x6.2.2.2.1, x6.2.2.2.2, p2)) (ad := fun _ => (a0 1)) (W1 := fun u => wX4 a0 g u.1 u.2.1 u.2.2.1 u.2.2.2.1 u.2.2.2.2.1 u.2.2.2.2.2.1 u.2.2.2.2.2.2.1 u.2.2.2.2.2.2.2.1 u.2.2.2.2.2.2.2.2.1 u.2.2.2.2.2.2.2.2.2.1 u.2.2.2.2.2.2.2.2.2.2.1 u.2.2.2.2.2.2.2.2.2.2.2.1 u.2.2.2.2.2.2.2.2.2.2.2.2.1 u.2.2.2.2.2.2.2.2.2.2.2.2.2 ++ wX6 a1 g v1_raws v1_kinds v1_figures v1_heavies v1_places v1_papers v1_lowers v1_uppers v1_rules v1_bounds v1_boundCount v1_tieWay v1_reached) hx hb hr (Or.inl ⟨_, rfl⟩) hlocks hS hP hD (hf0.trans hf.symm) rfl dX4_work_66
    have hf := er8
    refine lv_icmp_ne (tgt := 58) hx hb dX4_work_51 (by decide) (fun cb => ?_) (fun cb => ?_)
    · have hf := it_f cb hf
      refine lv_iconst (v := 0) hx hb dX4_work_58 (by decide) ?_
      have hq := Option.some.inj hf
      subst hq
      exact K _ _ _ hP hD hS (lv_sub hl [0] rfl)
    have hf := it_t cb hf
    refine lv_iconst (v := 1) hx hb dX4_work_54 (by decide) ?_
    refine lv_goto (tgt := 59) hx hb dX4_work_55 (by decide) ?_
    have hq := Option.some.inj hf
    subst hq
    exact K _ _ _ hP hD hS (lv_sub hl [0] rfl)
  have hf := er5
  refine lv_if_ne (tgt := 37) hx hb dX4_work_27 (by decide) (fun cb => ?_) (fun cb => ?_)
  · have hf := it_f cb hf
    refine lv_aload_n hx hb dX4_work_37 rfl (lv_at hl 0 rfl) ?_
    refine cV hP hD hS hA hE (fun hPc hDc hSc => rV (As := []) (rest := []) hx hb hml hown hts hK (c_X4_standByPlaces l g a0 x1.1 x1.2.1 x1.2.2.1 x1.2.2.2.1 x1.2.2.2.2.1 v0_values_reduced_above v0_values_reduced_below x1.2.2.2.2.2 v0_blocks v0_tops v0_bottoms (0 : Int32) (0 : Int32) p2 (bnd_ne hf)) svV_X4_standByPlaces kw711 rfl rfl hPc hDc hSc rfl rfl hl.1 (Nat.le_of_ble_eq_true rfl) dX4_work_38 ⟨Nat.le_of_ble_eq_true rfl, Nat.le_of_ble_eq_true rfl, rfl, rfl, Nat.le_of_ble_eq_true rfl, Nat.le_of_ble_eq_true rfl⟩) [(0, 19)] rfl rfl rfl (fun _ => rfl) (fun x10 H locs ex10 hP hD hS => ?_)
    have hf := bnd_of hf ex10
    have hP : va_P g.1 vwCl (wX4 a0 g x1.1 x1.2.1 x1.2.2.1 x1.2.2.2.1 x1.2.2.2.2.1 v0_values_reduced_above v0_values_reduced_below x1.2.2.2.2.2 x10.1 v0_tops v0_bottoms x10.2 (0 : Int32) p2 ++ wX6 a1 g v1_raws v1_kinds v1_figures v1_heavies v1_places v1_papers v1_lowers v1_uppers v1_rules v1_bounds v1_boundCount v1_tieWay v1_reached) H := hP
    have hD : va_D A (wX4 a0 g x1.1 x1.2.1 x1.2.2.1 x1.2.2.2.1 x1.2.2.2.2.1 v0_values_reduced_above v0_values_reduced_below x1.2.2.2.2.2 x10.1 v0_tops v0_bottoms x10.2 (0 : Int32) p2 ++ wX6 a1 g v1_raws v1_kinds v1_figures v1_heavies v1_places v1_papers v1_lowers v1_uppers v1_rules v1_bounds v1_boundCount v1_tieWay v1_reached) := hD
    have hq := Option.some.inj hf
    subst hq
    exact K _ _ _ hP hD hS (lv_sub hl [0, 1] rfl)
  have hf := it_t cb hf
  refine lv_aload_n hx hb dX4_work_30 rfl (lv_at hl 0 rfl) ?_
  refine cV hP hD hS hA hE (fun hPc hDc hSc => rV (As := []) (rest := []) hx hb hml hown hts hK (c_X4_standOneByOne l g a0 x1.1 x1.2.1 x1.2.2.1 x1.2.2.2.1 x1.2.2.2.2.1 v0_values_reduced_above v0_values_reduced_below x1.2.2.2.2.2 v0_blocks v0_tops v0_bottoms (0 : Int32) (0 : Int32) p2 (bnd_ne hf)) svV_X4_standOneByOne kw677 rfl rfl hPc hDc hSc rfl rfl hl.1 (Nat.le_of_ble_eq_true rfl) dX4_work_31 ⟨Nat.le_of_ble_eq_true rfl, Nat.le_of_ble_eq_true rfl, rfl, rfl, Nat.le_of_ble_eq_true rfl, Nat.le_of_ble_eq_true rfl⟩) [(0, 19)] rfl rfl rfl (fun _ => rfl) (fun x11 H locs ex11 hP hD hS => ?_)
  have hf := bnd_of hf ex11
  have hP : va_P g.1 vwCl (wX4 a0 g x1.1 x1.2.1 x1.2.2.1 x1.2.2.2.1 x1.2.2.2.2.1 v0_values_reduced_above v0_values_reduced_below x1.2.2.2.2.2 x11.1 v0_tops v0_bottoms x11.2 (0 : Int32) p2 ++ wX6 a1 g v1_raws v1_kinds v1_figures v1_heavies v1_places v1_papers v1_lowers v1_uppers v1_rules v1_bounds v1_boundCount v1_tieWay v1_reached) H := hP
  have hD : va_D A (wX4 a0 g x1.1 x1.2.1 x1.2.2.1 x1.2.2.2.1 x1.2.2.2.2.1 v0_values_reduced_above v0_values_reduced_below x1.2.2.2.2.2 x11.1 v0_tops v0_bottoms x11.2 (0 : Int32) p2 ++ wX6 a1 g v1_raws v1_kinds v1_figures v1_heavies v1_places v1_papers v1_lowers v1_uppers v1_rules v1_bounds v1_boundCount v1_tieWay v1_reached) := hD
  refine lv_goto (tgt := 41) hx hb dX4_work_34 (by decide) ?_
  have hq := Option.some.inj hf
  subst hq
  exact K _ _ _ hP hD hS (lv_sub hl [0, 1] rfl)
set_option maxHeartbeats 4000000 in
set_option maxRecDepth 100000 in
theorem c_X4_blockCount (l : Launch) (g : GG) (a0 : Nat → Nat) (v0_values_marks : (Nat → Int32)) (v0_values_weights : (Nat → Int32)) (v0_values_places : (Nat → Int32)) (v0_values_aboves : (Nat → Int32)) (v0_values_belows : (Nat → Int32)) (v0_values_reduced_above : Int64) (v0_values_reduced_below : Int64) (v0_values_papers : Int32) (v0_blocks : (Nat → Int32)) (v0_tops : (Nat → Int32)) (v0_bottoms : (Nat → Int32)) (v0_blocksNow : Int32) (v0_mergesDone : Int32) (v0_loss : Int32) (hne : (m_X4_blockCount ((v0_values_marks, v0_values_weights, v0_values_places, v0_values_aboves, v0_values_belows, (v0_values_reduced_above, v0_values_reduced_below), v0_values_papers), v0_blocks, v0_tops, v0_bottoms, v0_blocksNow, v0_mergesDone, v0_loss)) ≠ none) : Ct l g yX4_blockCount cX4_blockCount 1 (some .int) ({ frames := 0, cells := 0, slots := 0, locals := 0 } : Room) [.ref (a0 0)] (wX4 a0 g v0_values_marks v0_values_weights v0_values_places v0_values_aboves v0_values_belows v0_values_reduced_above v0_values_reduced_below v0_values_papers v0_blocks v0_tops v0_bottoms v0_blocksNow v0_mergesDone v0_loss) (Qi g .int (m_X4_blockCount ((v0_values_marks, v0_values_weights, v0_values_places, v0_values_aboves, v0_values_belows, (v0_values_reduced_above, v0_values_reduced_below), v0_values_papers), v0_blocks, v0_tops, v0_bottoms, v0_blocksNow, v0_mergesDone, v0_loss)) (fun u => u) (fun u => wX4 a0 g v0_values_marks v0_values_weights v0_values_places v0_values_aboves v0_values_belows v0_values_reduced_above v0_values_reduced_below v0_values_papers v0_blocks v0_tops v0_bottoms v0_blocksNow v0_mergesDone v0_loss)) 0 0 := by
  obtain ⟨out, hf⟩ := ne_ex hne
  have hf0 := hf
  refine Ct.of (own := RX4) (by decide +kernel) rfl (Nat.le_of_ble_eq_true rfl) ?_
  intro p e s m below meth c hx hb hr hml hown hts hlocks hin hK A H locs hA hP hD hS hE ls hl
  have hl : lv_has ls 1 [(0, .ref (a0 0))] := hl
  unfold m_X4_blockCount at hf
  refine lv_aload_n hx hb dX4_blockCount_0 rfl (lv_at hl 0 rfl) ?_
  refine va_get (D := g.1) (ci := 5) (v := .int v0_blocksNow) (C := RX4) (T := TX4) (N := 7) hx hb hts layX4 hown hK.1 hP 0 rfl rfl 4 (by decide) (hts _ kw172) (fun _ h9 => h9) rfl dX4_blockCount_1 ?_
  exact retI (v := v0_blocksNow) (u := v0_blocksNow) (val := fun u => u) (W1 := fun u => wX4 a0 g v0_values_marks v0_values_weights v0_values_places v0_values_aboves v0_values_belows v0_values_reduced_above v0_values_reduced_below v0_values_papers v0_blocks v0_tops v0_bottoms v0_blocksNow v0_mergesDone v0_loss) hx hb hr hlocks hS hP hD (hf0.trans hf.symm) rfl rfl dX4_blockCount_4
set_option maxHeartbeats 4000000 in
set_option maxRecDepth 100000 in
theorem c_X4_blockAt (l : Launch) (g : GG) (a0 : Nat → Nat) (v0_values_marks : (Nat → Int32)) (v0_values_weights : (Nat → Int32)) (v0_values_places : (Nat → Int32)) (v0_values_aboves : (Nat → Int32)) (v0_values_belows : (Nat → Int32)) (v0_values_reduced_above : Int64) (v0_values_reduced_below : Int64) (v0_values_papers : Int32) (v0_blocks : (Nat → Int32)) (v0_tops : (Nat → Int32)) (v0_bottoms : (Nat → Int32)) (v0_blocksNow : Int32) (v0_mergesDone : Int32) (v0_loss : Int32) (p1 : Int32) (hne : (m_X4_blockAt ((v0_values_marks, v0_values_weights, v0_values_places, v0_values_aboves, v0_values_belows, (v0_values_reduced_above, v0_values_reduced_below), v0_values_papers), v0_blocks, v0_tops, v0_bottoms, v0_blocksNow, v0_mergesDone, v0_loss) p1) ≠ none) : Ct l g yX4_blockAt cX4_blockAt 2 (some .int) ({ frames := 1, cells := 0, slots := 0, locals := 21 } : Room) [.ref (a0 0), .int p1] (wX4 a0 g v0_values_marks v0_values_weights v0_values_places v0_values_aboves v0_values_belows v0_values_reduced_above v0_values_reduced_below v0_values_papers v0_blocks v0_tops v0_bottoms v0_blocksNow v0_mergesDone v0_loss) (Qi g .int (m_X4_blockAt ((v0_values_marks, v0_values_weights, v0_values_places, v0_values_aboves, v0_values_belows, (v0_values_reduced_above, v0_values_reduced_below), v0_values_papers), v0_blocks, v0_tops, v0_bottoms, v0_blocksNow, v0_mergesDone, v0_loss) p1) (fun u => u) (fun u => wX4 a0 g v0_values_marks v0_values_weights v0_values_places v0_values_aboves v0_values_belows v0_values_reduced_above v0_values_reduced_below v0_values_papers v0_blocks v0_tops v0_bottoms v0_blocksNow v0_mergesDone v0_loss)) 0 0 := by
  obtain ⟨out, hf⟩ := ne_ex hne
  have hf0 := hf
  refine Ct.of (own := RX4) (by decide +kernel) rfl (Nat.le_of_ble_eq_true rfl) ?_
  intro p e s m below meth c hx hb hr hml hown hts hlocks hin hK A H locs hA hP hD hS hE ls hl
  have hl : lv_has ls 2 [(0, .ref (a0 0)), (1, .int p1)] := hl
  unfold m_X4_blockAt at hf
  refine lv_aload_n hx hb dX4_blockAt_0 rfl (lv_at hl 0 rfl) ?_
  refine va_get (D := g.1) (ci := 5) (v := .ref (a0 13)) (C := RX4) (T := TX4) (N := 7) hx hb hts layX4 hown hK.1 hP 0 rfl rfl 1 (by decide) (hts _ kw169) (fun _ h9 => h9) rfl dX4_blockAt_1 ?_
  refine lv_iload_n hx hb dX4_blockAt_4 rfl (lv_at hl 1 rfl) ?_
  refine cIp hP hD hS hA hE (fun hPc hDc hSc => rV (As := [.int p1]) (rest := []) hx hb hml hown hts hK (c_X2_get l g (fun i => a0 (i + 13)) 7 v0_blocks p1 (bnd_ne hf)) svV_X2_get kw724 rfl rfl hPc hDc hSc rfl rfl hl.1 (Nat.le_of_ble_eq_true rfl) dX4_blockAt_5 ⟨Nat.le_of_ble_eq_true rfl, Nat.le_of_ble_eq_true rfl, rfl, rfl, Nat.le_of_ble_eq_true rfl, Nat.le_of_ble_eq_true rfl⟩) [(13, 2)] rfl rfl rfl (fun x1 H locs ex1 nx1 hP hS => ?_)
  have hf := bnd_of hf ex1
  exact retI (v := x1) (u := x1) (val := fun u => u) (W1 := fun u => wX4 a0 g v0_values_marks v0_values_weights v0_values_places v0_values_aboves v0_values_belows v0_values_reduced_above v0_values_reduced_below v0_values_papers v0_blocks v0_tops v0_bottoms v0_blocksNow v0_mergesDone v0_loss) hx hb hr hlocks hS hP hD (hf0.trans hf.symm) rfl rfl dX4_blockAt_8
set_option maxHeartbeats 4000000 in
set_option maxRecDepth 100000 in
theorem c_X4_mergeCount (l : Launch) (g : GG) (a0 : Nat → Nat) (v0_values_marks : (Nat → Int32)) (v0_values_weights : (Nat → Int32)) (v0_values_places : (Nat → Int32)) (v0_values_aboves : (Nat → Int32)) (v0_values_belows : (Nat → Int32)) (v0_values_reduced_above : Int64) (v0_values_reduced_below : Int64) (v0_values_papers : Int32) (v0_blocks : (Nat → Int32)) (v0_tops : (Nat → Int32)) (v0_bottoms : (Nat → Int32)) (v0_blocksNow : Int32) (v0_mergesDone : Int32) (v0_loss : Int32) (hne : (m_X4_mergeCount ((v0_values_marks, v0_values_weights, v0_values_places, v0_values_aboves, v0_values_belows, (v0_values_reduced_above, v0_values_reduced_below), v0_values_papers), v0_blocks, v0_tops, v0_bottoms, v0_blocksNow, v0_mergesDone, v0_loss)) ≠ none) : Ct l g yX4_mergeCount cX4_mergeCount 1 (some .int) ({ frames := 0, cells := 0, slots := 0, locals := 0 } : Room) [.ref (a0 0)] (wX4 a0 g v0_values_marks v0_values_weights v0_values_places v0_values_aboves v0_values_belows v0_values_reduced_above v0_values_reduced_below v0_values_papers v0_blocks v0_tops v0_bottoms v0_blocksNow v0_mergesDone v0_loss) (Qi g .int (m_X4_mergeCount ((v0_values_marks, v0_values_weights, v0_values_places, v0_values_aboves, v0_values_belows, (v0_values_reduced_above, v0_values_reduced_below), v0_values_papers), v0_blocks, v0_tops, v0_bottoms, v0_blocksNow, v0_mergesDone, v0_loss)) (fun u => u) (fun u => wX4 a0 g v0_values_marks v0_values_weights v0_values_places v0_values_aboves v0_values_belows v0_values_reduced_above v0_values_reduced_below v0_values_papers v0_blocks v0_tops v0_bottoms v0_blocksNow v0_mergesDone v0_loss)) 0 0 := by
  obtain ⟨out, hf⟩ := ne_ex hne
  have hf0 := hf
  refine Ct.of (own := RX4) (by decide +kernel) rfl (Nat.le_of_ble_eq_true rfl) ?_
  intro p e s m below meth c hx hb hr hml hown hts hlocks hin hK A H locs hA hP hD hS hE ls hl
  have hl : lv_has ls 1 [(0, .ref (a0 0))] := hl
  unfold m_X4_mergeCount at hf
  refine lv_aload_n hx hb dX4_mergeCount_0 rfl (lv_at hl 0 rfl) ?_
  refine va_get (D := g.1) (ci := 5) (v := .int v0_mergesDone) (C := RX4) (T := TX4) (N := 7) hx hb hts layX4 hown hK.1 hP 0 rfl rfl 5 (by decide) (hts _ kw173) (fun _ h9 => h9) rfl dX4_mergeCount_1 ?_
  exact retI (v := v0_mergesDone) (u := v0_mergesDone) (val := fun u => u) (W1 := fun u => wX4 a0 g v0_values_marks v0_values_weights v0_values_places v0_values_aboves v0_values_belows v0_values_reduced_above v0_values_reduced_below v0_values_papers v0_blocks v0_tops v0_bottoms v0_blocksNow v0_mergesDone v0_loss) hx hb hr hlocks hS hP hD (hf0.trans hf.symm) rfl rfl dX4_mergeCount_4
set_option maxHeartbeats 4000000 in
set_option maxRecDepth 100000 in
theorem c_X7_has (l : Launch) (g : GG) (a0 : Nat → Nat) (v0_cells : (Nat → Int64)) (v0_sizes : (Nat → Int32)) (v0_made : (Nat → Int32)) (p1 : Int32) (hne : (m_X7_has (v0_cells, v0_sizes, v0_made) p1) ≠ none) : Ct l g yX7_has cX7_has 2 (some .boolean) ({ frames := 0, cells := 0, slots := 0, locals := 0 } : Room) [.ref (a0 0), .int p1] (wX7 a0 g v0_cells v0_sizes v0_made) (Qi g .boolean (m_X7_has (v0_cells, v0_sizes, v0_made) p1) (fun u => u) (fun u => wX7 a0 g v0_cells v0_sizes v0_made)) 0 0 := by
  obtain ⟨out, hf⟩ := ne_ex hne
  have hf0 := hf
  refine Ct.of (own := RX7) (by decide +kernel) rfl (Nat.le_of_ble_eq_true rfl) ?_
  intro p e s m below meth c hx hb hr hml hown hts hlocks hin hK A H locs hA hP hD hS hE ls hl
  have hl : lv_has ls 2 [(0, .ref (a0 0)), (1, .int p1)] := hl
  unfold m_X7_has at hf
  refine lv_iload_n hx hb dX7_has_0 rfl (lv_at hl 1 rfl) ?_
  refine lv_if_lt (tgt := 13) hx hb dX7_has_1 (by decide) (fun cb => ?_) (fun cb => ?_)
  · have hf := it_t cb hf
    refine lv_iconst (v := 0) hx hb dX7_has_13 (by decide) ?_
    exact retI (v := (0 : Int32)) (u := (0 : Int32)) (val := fun u => u) (W1 := fun u => wX7 a0 g v0_cells v0_sizes v0_made) hx hb hr hlocks hS hP hD (hf0.trans hf.symm) rfl rfl dX7_has_14
  have hf := it_f cb hf
  refine lv_iload_n hx hb dX7_has_4 rfl (lv_at hl 1 rfl) ?_
  refine lv_iconst (v := 4) hx hb dX7_has_5 (by decide) ?_
  refine lv_icmp_ge (tgt := 13) hx hb dX7_has_6 (by decide) (fun cb => ?_) (fun cb => ?_)
  · have hf := it_t cb hf
    refine lv_iconst (v := 0) hx hb dX7_has_13 (by decide) ?_
    exact retI (v := (0 : Int32)) (u := (0 : Int32)) (val := fun u => u) (W1 := fun u => wX7 a0 g v0_cells v0_sizes v0_made) hx hb hr hlocks hS hP hD (hf0.trans hf.symm) rfl rfl dX7_has_14
  have hf := it_f cb hf
  refine lv_iconst (v := 1) hx hb dX7_has_9 (by decide) ?_
  refine lv_goto (tgt := 14) hx hb dX7_has_10 (by decide) ?_
  exact retI (v := (1 : Int32)) (u := (1 : Int32)) (val := fun u => u) (W1 := fun u => wX7 a0 g v0_cells v0_sizes v0_made) hx hb hr hlocks hS hP hD (hf0.trans hf.symm) rfl rfl dX7_has_14
set_option maxHeartbeats 4000000 in
set_option maxRecDepth 100000 in
theorem c_X7_isMissing (l : Launch) (g : GG) (a0 : Nat → Nat) (v0_cells : (Nat → Int64)) (v0_sizes : (Nat → Int32)) (v0_made : (Nat → Int32)) (p1 : Int32) (hne : (m_X7_isMissing (v0_cells, v0_sizes, v0_made) p1) ≠ none) : Ct l g yX7_isMissing cX7_isMissing 2 (some .boolean) ({ frames := 1, cells := 0, slots := 0, locals := 21 } : Room) [.ref (a0 0), .int p1] (wX7 a0 g v0_cells v0_sizes v0_made) (Qi g .boolean (m_X7_isMissing (v0_cells, v0_sizes, v0_made) p1) (fun u => u) (fun u => wX7 a0 g v0_cells v0_sizes v0_made)) 0 0 := by
  obtain ⟨out, hf⟩ := ne_ex hne
  have hf0 := hf
  refine Ct.of (own := RX7) (by decide +kernel) rfl (Nat.le_of_ble_eq_true rfl) ?_
  intro p e s m below meth c hx hb hr hml hown hts hlocks hin hK A H locs hA hP hD hS hE ls hl
  have hl : lv_has ls 2 [(0, .ref (a0 0)), (1, .int p1)] := hl
  unfold m_X7_isMissing at hf
  refine lv_aload_n hx hb dX7_isMissing_0 rfl (lv_at hl 0 rfl) ?_
  refine va_get (D := g.1) (ci := 8) (v := .ref (a0 4)) (C := RX7) (T := TX7) (N := 3) hx hb hts layX7 hown hK.1 hP 0 rfl rfl 2 (by decide) (hts _ kw105) (fun _ h9 => h9) rfl dX7_isMissing_1 ?_
  refine lv_iload_n hx hb dX7_isMissing_4 rfl (lv_at hl 1 rfl) ?_
  refine cIp hP hD hS hA hE (fun hPc hDc hSc => rV (As := [.int p1]) (rest := []) hx hb hml hown hts hK (c_X2_get l g (fun i => a0 (i + 4)) 4 v0_made p1 (bnd_ne hf)) svV_X2_get kw1206 rfl rfl hPc hDc hSc rfl rfl hl.1 (Nat.le_of_ble_eq_true rfl) dX7_isMissing_5 ⟨Nat.le_of_ble_eq_true rfl, Nat.le_of_ble_eq_true rfl, rfl, rfl, Nat.le_of_ble_eq_true rfl, Nat.le_of_ble_eq_true rfl⟩) [(4, 2)] rfl rfl rfl (fun x1 H locs ex1 nx1 hP hS => ?_)
  have hf := bnd_of hf ex1
  refine lv_if_ne (tgt := 15) hx hb dX7_isMissing_8 (by decide) (fun cb => ?_) (fun cb => ?_)
  · have hf := it_f cb hf
    refine lv_iconst (v := 0) hx hb dX7_isMissing_15 (by decide) ?_
    exact retI (v := (0 : Int32)) (u := (0 : Int32)) (val := fun u => u) (W1 := fun u => wX7 a0 g v0_cells v0_sizes v0_made) hx hb hr hlocks hS hP hD (hf0.trans hf.symm) rfl rfl dX7_isMissing_16
  have hf := it_t cb hf
  refine lv_iconst (v := 1) hx hb dX7_isMissing_11 (by decide) ?_
  refine lv_goto (tgt := 16) hx hb dX7_isMissing_12 (by decide) ?_
  exact retI (v := (1 : Int32)) (u := (1 : Int32)) (val := fun u => u) (W1 := fun u => wX7 a0 g v0_cells v0_sizes v0_made) hx hb hr hlocks hS hP hD (hf0.trans hf.symm) rfl rfl dX7_isMissing_16
set_option maxHeartbeats 4000000 in
set_option maxRecDepth 100000 in
theorem c_X7_hasPlace (l : Launch) (g : GG) (a0 : Nat → Nat) (v0_cells : (Nat → Int64)) (v0_sizes : (Nat → Int32)) (v0_made : (Nat → Int32)) (p1 : Int32) (p2 : Int32) (hne : (m_X7_hasPlace (v0_cells, v0_sizes, v0_made) p1 p2) ≠ none) : Ct l g yX7_hasPlace cX7_hasPlace 3 (some .boolean) ({ frames := 1, cells := 0, slots := 0, locals := 21 } : Room) [.ref (a0 0), .int p1, .int p2] (wX7 a0 g v0_cells v0_sizes v0_made) (Qi g .boolean (m_X7_hasPlace (v0_cells, v0_sizes, v0_made) p1 p2) (fun u => u) (fun u => wX7 a0 g v0_cells v0_sizes v0_made)) 0 0 := by
  obtain ⟨out, hf⟩ := ne_ex hne
  have hf0 := hf
  refine Ct.of (own := RX7) (by decide +kernel) rfl (Nat.le_of_ble_eq_true rfl) ?_
  intro p e s m below meth c hx hb hr hml hown hts hlocks hin hK A H locs hA hP hD hS hE ls hl
  have hl : lv_has ls 3 [(0, .ref (a0 0)), (1, .int p1), (2, .int p2)] := hl
  unfold m_X7_hasPlace at hf
  refine lv_iload_n hx hb dX7_hasPlace_0 rfl (lv_at hl 2 rfl) ?_
  refine lv_if_lt (tgt := 20) hx hb dX7_hasPlace_1 (by decide) (fun cb => ?_) (fun cb => ?_)
  · have hf := it_t cb hf
    refine lv_iconst (v := 0) hx hb dX7_hasPlace_20 (by decide) ?_
    exact retI (v := (0 : Int32)) (u := (0 : Int32)) (val := fun u => u) (W1 := fun u => wX7 a0 g v0_cells v0_sizes v0_made) hx hb hr hlocks hS hP hD (hf0.trans hf.symm) rfl rfl dX7_hasPlace_21
  have hf := it_f cb hf
  refine lv_iload_n hx hb dX7_hasPlace_4 rfl (lv_at hl 2 rfl) ?_
  refine lv_aload_n hx hb dX7_hasPlace_5 rfl (lv_at hl 0 rfl) ?_
  refine va_get (D := g.1) (ci := 8) (v := .ref (a0 2)) (C := RX7) (T := TX7) (N := 3) hx hb hts layX7 hown hK.1 hP 0 rfl rfl 1 (by decide) (hts _ kw104) (fun _ h9 => h9) rfl dX7_hasPlace_6 ?_
  refine lv_iload_n hx hb dX7_hasPlace_9 rfl (lv_at hl 1 rfl) ?_
  refine cIp hP hD hS hA hE (fun hPc hDc hSc => rV (As := [.int p1]) (rest := [.int p2]) hx hb hml hown hts hK (c_X2_get l g (fun i => a0 (i + 2)) 4 v0_sizes p1 (bnd_ne hf)) svV_X2_get kw1206 rfl rfl hPc hDc hSc rfl rfl hl.1 (Nat.le_of_ble_eq_true rfl) dX7_hasPlace_10 ⟨Nat.le_of_ble_eq_true rfl, Nat.le_of_ble_eq_true rfl, rfl, rfl, Nat.le_of_ble_eq_true rfl, Nat.le_of_ble_eq_true rfl⟩) [(2, 2)] rfl rfl rfl (fun x1 H locs ex1 nx1 hP hS => ?_)
  have hf := bnd_of hf ex1
  refine lv_icmp_ge (tgt := 20) hx hb dX7_hasPlace_13 (by decide) (fun cb => ?_) (fun cb => ?_)
  · have hf := it_t cb hf
    refine lv_iconst (v := 0) hx hb dX7_hasPlace_20 (by decide) ?_
    exact retI (v := (0 : Int32)) (u := (0 : Int32)) (val := fun u => u) (W1 := fun u => wX7 a0 g v0_cells v0_sizes v0_made) hx hb hr hlocks hS hP hD (hf0.trans hf.symm) rfl rfl dX7_hasPlace_21
  have hf := it_f cb hf
  refine lv_iconst (v := 1) hx hb dX7_hasPlace_16 (by decide) ?_
  refine lv_goto (tgt := 21) hx hb dX7_hasPlace_17 (by decide) ?_
  exact retI (v := (1 : Int32)) (u := (1 : Int32)) (val := fun u => u) (W1 := fun u => wX7 a0 g v0_cells v0_sizes v0_made) hx hb hr hlocks hS hP hD (hf0.trans hf.symm) rfl rfl dX7_hasPlace_21
set_option maxHeartbeats 4000000 in
set_option maxRecDepth 100000 in
theorem c_X7_set (l : Launch) (g : GG) (a0 : Nat → Nat) (v0_cells : (Nat → Int64)) (v0_sizes : (Nat → Int32)) (v0_made : (Nat → Int32)) (p1 : Int32) (p2 : Int32) (p3 : Int64) (hne : (m_X7_set (v0_cells, v0_sizes, v0_made) p1 p2 p3) ≠ none) : Ct l g yX7_set cX7_set 6 none ({ frames := 0, cells := 0, slots := 0, locals := 0 } : Room) [.ref (a0 0), .int p1, .int p2, .long p3] (wX7 a0 g v0_cells v0_sizes v0_made) (Qv g (m_X7_set (v0_cells, v0_sizes, v0_made) p1 p2 p3) (fun u => wX7 a0 g u v0_sizes v0_made)) 0 0 := by
  obtain ⟨out, hf⟩ := ne_ex hne
  have hf0 := hf
  refine Ct.of (own := RX7) (by decide +kernel) rfl (Nat.le_of_ble_eq_true rfl) ?_
  intro p e s m below meth c hx hb hr hml hown hts hlocks hin hK A H locs hA hP hD hS hE ls hl
  have hl : lv_has ls 6 [(0, .ref (a0 0)), (1, .int p1), (2, .int p2), (3, .long p3)] := hl
  unfold m_X7_set at hf
  refine lv_iload_n hx hb dX7_set_0 rfl (lv_at hl 1 rfl) ?_
  refine lv_bipush (v := 20) hx hb dX7_set_1 (by decide) ?_
  refine lv_imul hx hb dX7_set_3 ?_
  refine lv_iload_n hx hb dX7_set_4 rfl (lv_at hl 2 rfl) ?_
  refine lv_iadd hx hb dX7_set_5 ?_
  refine lv_istore (lv' := [(5, .int ((p1 * (20 : Int32)) + p2)), (0, .ref (a0 0)), (1, .int p1), (2, .int p2), (3, .long p3)]) hx hb dX7_set_6 hl (by decide) rfl (fun ls hl => ?_)
  refine lv_iload hx hb dX7_set_8 (lv_at hl 0 rfl) ?_
  refine lv_if_lt (tgt := 31) hx hb dX7_set_10 (by decide) (fun cb => ?_) (fun cb => ?_)
  · have hf := it_t cb hf
    exact retV (u := v0_cells) (W1 := fun u => wX7 a0 g u v0_sizes v0_made) hx hb hr hlocks hS hP hD (hf0.trans hf.symm) dX7_set_31
  have hf := it_f cb hf
  refine lv_iload hx hb dX7_set_13 (lv_at hl 0 rfl) ?_
  refine lv_aload_n hx hb dX7_set_15 rfl (lv_at hl 1 rfl) ?_
  refine va_get (D := g.1) (ci := 8) (v := .ref (a0 1)) (C := RX7) (T := TX7) (N := 3) hx hb hts layX7 hown hK.1 hP 0 rfl rfl 0 (by decide) (hts _ kw103) (fun _ h9 => h9) rfl dX7_set_16 ?_
  refine va_alen (v := (80 : Int32)) hx hb hK.1 hP 1 1 rfl rfl (by rfl) dX7_set_19 ?_
  refine lv_icmp_ge (tgt := 31) hx hb dX7_set_20 (by decide) (fun cb => ?_) (fun cb => ?_)
  · have hf := it_t cb hf
    exact retV (u := v0_cells) (W1 := fun u => wX7 a0 g u v0_sizes v0_made) hx hb hr hlocks hS hP hD (hf0.trans hf.symm) dX7_set_31
  have hf := it_f cb hf
  refine lv_aload_n hx hb dX7_set_23 rfl (lv_at hl 1 rfl) ?_
  refine va_get (D := g.1) (ci := 8) (v := .ref (a0 1)) (C := RX7) (T := TX7) (N := 3) hx hb hts layX7 hown hK.1 hP 0 rfl rfl 0 (by decide) (hts _ kw103) (fun _ h9 => h9) rfl dX7_set_24 ?_
  refine lv_iload hx hb dX7_set_27 (lv_at hl 0 rfl) ?_
  refine lv_lload_n hx hb dX7_set_29 rfl (lv_at hl 4 rfl) ?_
  have hi := it_n hf
  have hf := it_t hi hf
  refine va_last hx hb hK.1 hP hD hS 1 1 rfl rfl (inb_in hi) dX7_set_30 (fun H locs hP hD hS => ?_)
  have hP : va_P g.1 vwCl (wX7 a0 g (vp_updL v0_cells ((p1 * (20 : Int32)) + p2).toNatClampNeg p3) v0_sizes v0_made) H := hP
  have hD : va_D A (wX7 a0 g (vp_updL v0_cells ((p1 * (20 : Int32)) + p2).toNatClampNeg p3) v0_sizes v0_made) := hD
  exact retV (u := (vp_updL v0_cells ((p1 * (20 : Int32)) + p2).toNatClampNeg p3)) (W1 := fun u => wX7 a0 g u v0_sizes v0_made) hx hb hr hlocks hS hP hD (hf0.trans hf.symm) dX7_set_31
set_option maxHeartbeats 4000000 in
set_option maxRecDepth 100000 in
theorem c_X7_make (l : Launch) (g : GG) (a0 : Nat → Nat) (v0_cells : (Nat → Int64)) (v0_sizes : (Nat → Int32)) (v0_made : (Nat → Int32)) (p1 : Int32) (p2 : Int32) (hne : (m_X7_make (v0_cells, v0_sizes, v0_made) p1 p2) ≠ none) : Ct l g yX7_make cX7_make 4 none ({ frames := 1, cells := 0, slots := 0, locals := 25 } : Room) [.ref (a0 0), .int p1, .int p2] (wX7 a0 g v0_cells v0_sizes v0_made) (Qv g (m_X7_make (v0_cells, v0_sizes, v0_made) p1 p2) (fun u => wX7 a0 g u.1 u.2.1 u.2.2)) 0 0 := by
  obtain ⟨out, hf⟩ := ne_ex hne
  have hf0 := hf
  refine Ct.of (own := RX7) (by decide +kernel) rfl (Nat.le_of_ble_eq_true rfl) ?_
  intro p e s m below meth c hx hb hr hml hown hts hlocks hin hK A H locs hA hP hD hS hE ls hl
  have hl : lv_has ls 4 [(0, .ref (a0 0)), (1, .int p1), (2, .int p2)] := hl
  unfold m_X7_make at hf
  refine lv_aload_n hx hb dX7_make_0 rfl (lv_at hl 0 rfl) ?_
  refine va_get (D := g.1) (ci := 8) (v := .ref (a0 4)) (C := RX7) (T := TX7) (N := 3) hx hb hts layX7 hown hK.1 hP 0 rfl rfl 2 (by decide) (hts _ kw105) (fun _ h9 => h9) rfl dX7_make_1 ?_
  refine lv_iload_n hx hb dX7_make_4 rfl (lv_at hl 1 rfl) ?_
  refine lv_iconst (v := 1) hx hb dX7_make_5 (by decide) ?_
  refine cV hP hD hS hA hE (fun hPc hDc hSc => rV (As := [.int p1, .int (1 : Int32)]) (rest := []) hx hb hml hown hts hK (c_X2_set l g (fun i => a0 (i + 4)) 4 v0_made p1 (1 : Int32) (bnd_ne hf)) svV_X2_set kw1193 rfl rfl hPc hDc hSc rfl rfl hl.1 (Nat.le_of_ble_eq_true rfl) dX7_make_6 ⟨Nat.le_of_ble_eq_true rfl, Nat.le_of_ble_eq_true rfl, rfl, rfl, Nat.le_of_ble_eq_true rfl, Nat.le_of_ble_eq_true rfl⟩) [(4, 2)] rfl rfl rfl (fun _ => rfl) (fun x1 H locs ex1 hP hD hS => ?_)
  have hf := bnd_of hf ex1
  have hP : va_P g.1 vwCl (wX7 a0 g v0_cells v0_sizes x1) H := hP
  have hD : va_D A (wX7 a0 g v0_cells v0_sizes x1) := hD
  refine lv_aload_n hx hb dX7_make_9 rfl (lv_at hl 0 rfl) ?_
  refine va_get (D := g.1) (ci := 8) (v := .ref (a0 2)) (C := RX7) (T := TX7) (N := 3) hx hb hts layX7 hown hK.1 hP 0 rfl rfl 1 (by decide) (hts _ kw104) (fun _ h9 => h9) rfl dX7_make_10 ?_
  refine lv_iload_n hx hb dX7_make_13 rfl (lv_at hl 1 rfl) ?_
  refine lv_iload_n hx hb dX7_make_14 rfl (lv_at hl 2 rfl) ?_
  refine cV hP hD hS hA hE (fun hPc hDc hSc => rV (As := [.int p1, .int p2]) (rest := []) hx hb hml hown hts hK (c_X2_set l g (fun i => a0 (i + 2)) 4 v0_sizes p1 p2 (bnd_ne hf)) svV_X2_set kw1193 rfl rfl hPc hDc hSc rfl rfl hl.1 (Nat.le_of_ble_eq_true rfl) dX7_make_15 ⟨Nat.le_of_ble_eq_true rfl, Nat.le_of_ble_eq_true rfl, rfl, rfl, Nat.le_of_ble_eq_true rfl, Nat.le_of_ble_eq_true rfl⟩) [(2, 2)] rfl rfl rfl (fun _ => rfl) (fun x2 H locs ex2 hP hD hS => ?_)
  have hf := bnd_of hf ex2
  have hP : va_P g.1 vwCl (wX7 a0 g v0_cells x2 x1) H := hP
  have hD : va_D A (wX7 a0 g v0_cells x2 x1) := hD
  refine lv_iconst (v := 0) hx hb dX7_make_18 (by decide) ?_
  refine lv_istore_n (lv' := [(3, .int (0 : Int32)), (0, .ref (a0 0)), (1, .int p1), (2, .int p2)]) hx hb dX7_make_19 rfl hl (by decide) rfl (fun ls hl => ?_)
  obtain ⟨r7, er7, hf⟩ := bnd hf
  refine lp_W (P := fun z => ∀ (H : Heap) (locs : List Loc) (ls : Array Slot), va_P g.1 vwCl (wX7 a0 g z.2 x2 x1) H → va_D A (wX7 a0 g z.2 x2 x1) → va_S A s.heap H locs → lv_has ls 4 [(0, .ref (a0 0)), (1, .int p1), (2, .int p2), (3, .int z.1)] → W p l e { frames := 1, cells := 0, slots := 0, locals := 25 } s m [.ref (a0 0), .int p1, .int p2].toArray below meth c H locs 0 0 (MQ below (Qv g (m_X7_make (v0_cells, v0_sizes, v0_made) p1 p2) (fun u => wX7 a0 g u.1 u.2.1 u.2.2) A) [.ref (a0 0), .int p1, .int p2].toArray s 0 0 A) (F0 m 20 ls [])) (E := fun r7 => ∀ (H : Heap) (locs : List Loc) (ls : Array Slot), va_P g.1 vwCl (wX7 a0 g r7 x2 x1) H → va_D A (wX7 a0 g r7 x2 x1) → va_S A s.heap H locs → lv_has ls 4 [] → W p l e { frames := 1, cells := 0, slots := 0, locals := 25 } s m [.ref (a0 0), .int p1, .int p2].toArray below meth c H locs 0 0 (MQ below (Qv g (m_X7_make (v0_cells, v0_sizes, v0_made) p1 p2) (fun u => wX7 a0 g u.1 u.2.1 u.2.2) A) [.ref (a0 0), .int p1, .int p2].toArray s 0 0 A) (F0 m 38 ls [])) ?_ fu _ r7 er7 ?_ _ _ _ hP hD hS (lv_sub hl [1, 2, 3, 0] rfl)
  · rintro ⟨x4, x5⟩ y hf hB hXt H locs ls hP hD hS hl
    have hP : va_P g.1 vwCl (wX7 a0 g x5 x2 x1) H := hP
    have hD : va_D A (wX7 a0 g x5 x2 x1) := hD
    have hl : lv_has ls 4 [(0, .ref (a0 0)), (1, .int p1), (2, .int p2), (3, .int x4)] := hl
    have hf : m_X7_make_l20 (v0_cells, v0_sizes, v0_made) p1 p2 x1 x2 x4 x5 = some y := hf
    unfold m_X7_make_l20 at hf
    refine lv_iload_n hx hb dX7_make_20 rfl (lv_at hl 3 rfl) ?_
    refine lv_iload_n hx hb dX7_make_21 rfl (lv_at hl 2 rfl) ?_
    refine lv_icmp_ge (tgt := 38) hx hb dX7_make_22 (by decide) (fun cb => ?_) (fun cb => ?_)
    · have hf := it_t cb hf
      exact hXt _ (Option.some.inj hf).symm _ _ _ hP hD hS (lv_sub hl [] rfl)
    have hf := it_f cb hf
    refine lv_aload_n hx hb dX7_make_25 rfl (lv_at hl 0 rfl) ?_
    refine lv_iload_n hx hb dX7_make_26 rfl (lv_at hl 1 rfl) ?_
    refine lv_iload_n hx hb dX7_make_27 rfl (lv_at hl 3 rfl) ?_
    refine lv_lconst (v := 0) hx hb dX7_make_28 (by decide) ?_
    refine cV hP hD hS hA hE (fun hPc hDc hSc => rV (As := [.int p1, .int x4, .long (0 : Int64)]) (rest := []) hx hb hml hown hts hK (c_X7_set l g a0 x5 x2 x1 p1 x4 (0 : Int64) (bnd_ne hf)) svV_X7_set kw1194 rfl rfl hPc hDc hSc rfl rfl hl.1 (Nat.le_of_ble_eq_true rfl) dX7_make_29 ⟨Nat.le_of_ble_eq_true rfl, Nat.le_of_ble_eq_true rfl, rfl, rfl, Nat.le_of_ble_eq_true rfl, Nat.le_of_ble_eq_true rfl⟩) [(0, 6)] rfl rfl rfl (fun _ => rfl) (fun x6 H locs ex6 hP hD hS => ?_)
    have hf := bnd_of hf ex6
    have hP : va_P g.1 vwCl (wX7 a0 g x6 x2 x1) H := hP
    have hD : va_D A (wX7 a0 g x6 x2 x1) := hD
    refine lv_iinc (v := (x4 + 1)) (lv' := [(3, .int (x4 + 1)), (0, .ref (a0 0)), (1, .int p1), (2, .int p2)]) hx hb dX7_make_32 hl (k := 3) rfl (by rfl) (by decide) rfl (fun ls hl => ?_)
    refine lv_goto (tgt := 20) hx hb dX7_make_35 (by decide) ?_
    exact hB _ (Option.some.inj hf).symm _ _ _ hP hD hS (lv_sub hl [1, 2, 3, 0] rfl)
  intro H locs ls hP hD hS hl
  have hP : va_P g.1 vwCl (wX7 a0 g r7 x2 x1) H := hP
  have hD : va_D A (wX7 a0 g r7 x2 x1) := hD
  have hl : lv_has ls 4 [] := hl
  exact retV (u := (r7, x2, x1)) (W1 := fun u => wX7 a0 g u.1 u.2.1 u.2.2) hx hb hr hlocks hS hP hD (hf0.trans hf.symm) dX7_make_38
set_option maxHeartbeats 4000000 in
set_option maxRecDepth 100000 in
theorem c_X7_get (l : Launch) (g : GG) (a0 : Nat → Nat) (v0_cells : (Nat → Int64)) (v0_sizes : (Nat → Int32)) (v0_made : (Nat → Int32)) (p1 : Int32) (p2 : Int32) (hne : (m_X7_get (v0_cells, v0_sizes, v0_made) p1 p2) ≠ none) : Ct l g yX7_get cX7_get 4 (some .long) ({ frames := 0, cells := 0, slots := 0, locals := 0 } : Room) [.ref (a0 0), .int p1, .int p2] (wX7 a0 g v0_cells v0_sizes v0_made) (Ql g (m_X7_get (v0_cells, v0_sizes, v0_made) p1 p2) (fun u => u) (fun u => wX7 a0 g v0_cells v0_sizes v0_made)) 0 0 := by
  obtain ⟨out, hf⟩ := ne_ex hne
  have hf0 := hf
  refine Ct.of (own := RX7) (by decide +kernel) rfl (Nat.le_of_ble_eq_true rfl) ?_
  intro p e s m below meth c hx hb hr hml hown hts hlocks hin hK A H locs hA hP hD hS hE ls hl
  have hl : lv_has ls 4 [(0, .ref (a0 0)), (1, .int p1), (2, .int p2)] := hl
  unfold m_X7_get at hf
  refine lv_iload_n hx hb dX7_get_0 rfl (lv_at hl 1 rfl) ?_
  refine lv_bipush (v := 20) hx hb dX7_get_1 (by decide) ?_
  refine lv_imul hx hb dX7_get_3 ?_
  refine lv_iload_n hx hb dX7_get_4 rfl (lv_at hl 2 rfl) ?_
  refine lv_iadd hx hb dX7_get_5 ?_
  refine lv_istore_n (lv' := [(3, .int ((p1 * (20 : Int32)) + p2)), (0, .ref (a0 0)), (1, .int p1), (2, .int p2)]) hx hb dX7_get_6 rfl hl (by decide) rfl (fun ls hl => ?_)
  refine lv_iload_n hx hb dX7_get_7 rfl (lv_at hl 0 rfl) ?_
  refine lv_if_lt (tgt := 29) hx hb dX7_get_8 (by decide) (fun cb => ?_) (fun cb => ?_)
  · have hf := it_t cb hf
    refine lv_lconst (v := 0) hx hb dX7_get_29 (by decide) ?_
    exact retL (u := (0 : Int64)) (val := fun u => u) (W1 := fun u => wX7 a0 g v0_cells v0_sizes v0_made) hx hb hr hlocks hS hP hD (hf0.trans hf.symm) rfl dX7_get_30
  have hf := it_f cb hf
  refine lv_iload_n hx hb dX7_get_11 rfl (lv_at hl 0 rfl) ?_
  refine lv_aload_n hx hb dX7_get_12 rfl (lv_at hl 1 rfl) ?_
  refine va_get (D := g.1) (ci := 8) (v := .ref (a0 1)) (C := RX7) (T := TX7) (N := 3) hx hb hts layX7 hown hK.1 hP 0 rfl rfl 0 (by decide) (hts _ kw103) (fun _ h9 => h9) rfl dX7_get_13 ?_
  refine va_alen (v := (80 : Int32)) hx hb hK.1 hP 1 1 rfl rfl (by rfl) dX7_get_16 ?_
  refine lv_icmp_ge (tgt := 29) hx hb dX7_get_17 (by decide) (fun cb => ?_) (fun cb => ?_)
  · have hf := it_t cb hf
    refine lv_lconst (v := 0) hx hb dX7_get_29 (by decide) ?_
    exact retL (u := (0 : Int64)) (val := fun u => u) (W1 := fun u => wX7 a0 g v0_cells v0_sizes v0_made) hx hb hr hlocks hS hP hD (hf0.trans hf.symm) rfl dX7_get_30
  have hf := it_f cb hf
  refine lv_aload_n hx hb dX7_get_20 rfl (lv_at hl 1 rfl) ?_
  refine va_get (D := g.1) (ci := 8) (v := .ref (a0 1)) (C := RX7) (T := TX7) (N := 3) hx hb hts layX7 hown hK.1 hP 0 rfl rfl 0 (by decide) (hts _ kw103) (fun _ h9 => h9) rfl dX7_get_21 ?_
  refine lv_iload_n hx hb dX7_get_24 rfl (lv_at hl 0 rfl) ?_
  have hi := it_n hf
  have hf := it_t hi hf
  refine va_lald hx hb hK.1 hP 1 1 rfl rfl (inb_in hi) dX7_get_25 ?_
  refine lv_goto (tgt := 30) hx hb dX7_get_26 (by decide) ?_
  exact retL (u := (v0_cells ((p1 * (20 : Int32)) + p2).toNatClampNeg)) (val := fun u => u) (W1 := fun u => wX7 a0 g v0_cells v0_sizes v0_made) hx hb hr hlocks hS hP hD (hf0.trans hf.symm) rfl dX7_get_30
set_option maxHeartbeats 4000000 in
set_option maxRecDepth 100000 in
theorem c_X7_layAll (l : Launch) (g : GG) (a0 : Nat → Nat) (v0_cells : (Nat → Int64)) (v0_sizes : (Nat → Int32)) (v0_made : (Nat → Int32)) (a1 : Nat → Nat) (v1_marks : (Nat → Int32)) (v1_weights : (Nat → Int32)) (v1_places : (Nat → Int32)) (v1_aboves : (Nat → Int32)) (v1_belows : (Nat → Int32)) (v1_reduced_above : Int64) (v1_reduced_below : Int64) (v1_papers : Int32) (p1 : Int32) (p2 : Int32) (hne : (m_X7_layAll (v0_cells, v0_sizes, v0_made) (v1_marks, v1_weights, v1_places, v1_aboves, v1_belows, (v1_reduced_above, v1_reduced_below), v1_papers) p1 p2) ≠ none) : Ct l g yX7_layAll cX7_layAll 5 (some .int) ({ frames := 2, cells := 0, slots := 0, locals := 43 } : Room) [.ref (a0 0), .int p1, .int p2, .ref (a1 0)] (wX7 a0 g v0_cells v0_sizes v0_made ++ wX8 a1 g v1_marks v1_weights v1_places v1_aboves v1_belows v1_reduced_above v1_reduced_below v1_papers) (Qi g .int (m_X7_layAll (v0_cells, v0_sizes, v0_made) (v1_marks, v1_weights, v1_places, v1_aboves, v1_belows, (v1_reduced_above, v1_reduced_below), v1_papers) p1 p2) (fun u => u.1) (fun u => wX7 a0 g u.2 v0_sizes v0_made ++ wX8 a1 g v1_marks v1_weights v1_places v1_aboves v1_belows v1_reduced_above v1_reduced_below v1_papers)) 0 0 := by
  obtain ⟨out, hf⟩ := ne_ex hne
  have hf0 := hf
  refine Ct.of (own := RX7) (by decide +kernel) rfl (Nat.le_of_ble_eq_true rfl) ?_
  intro p e s m below meth c hx hb hr hml hown hts hlocks hin hK A H locs hA hP hD hS hE ls hl
  have hl : lv_has ls 5 [(0, .ref (a0 0)), (1, .int p1), (2, .int p2), (3, .ref (a1 0))] := hl
  unfold m_X7_layAll at hf
  refine lv_iconst (v := 0) hx hb dX7_layAll_0 (by decide) ?_
  refine lv_istore (lv' := [(4, .int (0 : Int32)), (0, .ref (a0 0)), (1, .int p1), (2, .int p2), (3, .ref (a1 0))]) hx hb dX7_layAll_1 hl (by decide) rfl (fun ls hl => ?_)
  obtain ⟨r11, er11, hf⟩ := bnd hf
  refine lp_W (P := fun z => ∀ (H : Heap) (locs : List Loc) (ls : Array Slot), va_P g.1 vwCl (wX7 a0 g z.2 v0_sizes v0_made ++ wX8 a1 g v1_marks v1_weights v1_places v1_aboves v1_belows v1_reduced_above v1_reduced_below v1_papers) H → va_D A (wX7 a0 g z.2 v0_sizes v0_made ++ wX8 a1 g v1_marks v1_weights v1_places v1_aboves v1_belows v1_reduced_above v1_reduced_below v1_papers) → va_S A s.heap H locs → lv_has ls 5 [(0, .ref (a0 0)), (1, .int p1), (2, .int p2), (3, .ref (a1 0)), (4, .int z.1)] → W p l e { frames := 2, cells := 0, slots := 0, locals := 43 } s m [.ref (a0 0), .int p1, .int p2, .ref (a1 0)].toArray below meth c H locs 0 0 (MQ below (Qi g .int (m_X7_layAll (v0_cells, v0_sizes, v0_made) (v1_marks, v1_weights, v1_places, v1_aboves, v1_belows, (v1_reduced_above, v1_reduced_below), v1_papers) p1 p2) (fun u => u.1) (fun u => wX7 a0 g u.2 v0_sizes v0_made ++ wX8 a1 g v1_marks v1_weights v1_places v1_aboves v1_belows v1_reduced_above v1_reduced_below v1_papers) A) [.ref (a0 0), .int p1, .int p2, .ref (a1 0)].toArray s 0 0 A) (F0 m 3 ls [])) (E := fun r11 => match r11 with | .inl x12 => (∀ (H : Heap) (locs : List Loc) (ls : Array Slot), va_P g.1 vwCl (wX7 a0 g x12 v0_sizes v0_made ++ wX8 a1 g v1_marks v1_weights v1_places v1_aboves v1_belows v1_reduced_above v1_reduced_below v1_papers) H → va_D A (wX7 a0 g x12 v0_sizes v0_made ++ wX8 a1 g v1_marks v1_weights v1_places v1_aboves v1_belows v1_reduced_above v1_reduced_below v1_papers) → va_S A s.heap H locs → lv_has ls 5 [] → W p l e { frames := 2, cells := 0, slots := 0, locals := 43 } s m [.ref (a0 0), .int p1, .int p2, .ref (a1 0)].toArray below meth c H locs 0 0 (MQ below (Qi g .int (m_X7_layAll (v0_cells, v0_sizes, v0_made) (v1_marks, v1_weights, v1_places, v1_aboves, v1_belows, (v1_reduced_above, v1_reduced_below), v1_papers) p1 p2) (fun u => u.1) (fun u => wX7 a0 g u.2 v0_sizes v0_made ++ wX8 a1 g v1_marks v1_weights v1_places v1_aboves v1_belows v1_reduced_above v1_reduced_below v1_papers) A) [.ref (a0 0), .int p1, .int p2, .ref (a1 0)].toArray s 0 0 A) (F0 m 26 ls [])) | .inr x13 => (∀ (H : Heap) (locs : List Loc) (ls : Array Slot), va_P g.1 vwCl (wX7 a0 g x13 v0_sizes v0_made ++ wX8 a1 g v1_marks v1_weights v1_places v1_aboves v1_belows v1_reduced_above v1_reduced_below v1_papers) H → va_D A (wX7 a0 g x13 v0_sizes v0_made ++ wX8 a1 g v1_marks v1_weights v1_places v1_aboves v1_belows v1_reduced_above v1_reduced_below v1_papers) → va_S A s.heap H locs → lv_has ls 5 [(3, .ref (a1 0))] → W p l e { frames := 2, cells := 0, slots := 0, locals := 43 } s m [.ref (a0 0), .int p1, .int p2, .ref (a1 0)].toArray below meth c H locs 0 0 (MQ below (Qi g .int (m_X7_layAll (v0_cells, v0_sizes, v0_made) (v1_marks, v1_weights, v1_places, v1_aboves, v1_belows, (v1_reduced_above, v1_reduced_below), v1_papers) p1 p2) (fun u => u.1) (fun u => wX7 a0 g u.2 v0_sizes v0_made ++ wX8 a1 g v1_marks v1_weights v1_places v1_aboves v1_belows v1_reduced_above v1_reduced_below v1_papers) A) [.ref (a0 0), .int p1, .int p2, .ref (a1 0)].toArray s 0 0 A) (F0 m 56 ls []))) ?_ fu _ r11 er11 ?_ _ _ _ hP hD hS (lv_sub hl [1, 2, 3, 4, 0] rfl)
  · rintro ⟨x5, x6⟩ y hf hB hXt H locs ls hP hD hS hl
    have hP : va_P g.1 vwCl (wX7 a0 g x6 v0_sizes v0_made ++ wX8 a1 g v1_marks v1_weights v1_places v1_aboves v1_belows v1_reduced_above v1_reduced_below v1_papers) H := hP
    have hD : va_D A (wX7 a0 g x6 v0_sizes v0_made ++ wX8 a1 g v1_marks v1_weights v1_places v1_aboves v1_belows v1_reduced_above v1_reduced_below v1_papers) := hD
    have hl : lv_has ls 5 [(0, .ref (a0 0)), (1, .int p1), (2, .int p2), (3, .ref (a1 0)), (4, .int x5)] := hl
    have hf : m_X7_layAll_l3 (v0_cells, v0_sizes, v0_made) (v1_marks, v1_weights, v1_places, v1_aboves, v1_belows, (v1_reduced_above, v1_reduced_below), v1_papers) p1 p2 x5 x6 = some y := hf
    unfold m_X7_layAll_l3 at hf
    refine lv_iload hx hb dX7_layAll_3 (lv_at hl 4 rfl) ?_
    refine lv_iconst (v := 2) hx hb dX7_layAll_5 (by decide) ?_
    refine lv_aload_n hx hb dX7_layAll_6 rfl (lv_at hl 3 rfl) ?_
    refine cIp hP hD hS hA hE (fun hPc hDc hSc => rV (As := []) (rest := [.int (2 : Int32), .int x5]) hx hb hml hown hts hK (c_X8_paperCount l g a1 v1_marks v1_weights v1_places v1_aboves v1_belows v1_reduced_above v1_reduced_below v1_papers (bnd_ne hf)) svV_X8_paperCount kw1233 rfl rfl hPc hDc hSc rfl rfl hl.1 (Nat.le_of_ble_eq_true rfl) dX7_layAll_7 ⟨Nat.le_of_ble_eq_true rfl, Nat.le_of_ble_eq_true rfl, rfl, rfl, Nat.le_of_ble_eq_true rfl, Nat.le_of_ble_eq_true rfl⟩) [(6, 12)] rfl rfl rfl (fun x7 H locs ex7 nx7 hP hS => ?_)
    have hf := bnd_of hf ex7
    refine lv_imul hx hb dX7_layAll_10 ?_
    refine lv_icmp_ge (tgt := 56) hx hb dX7_layAll_11 (by decide) (fun cb => ?_) (fun cb => ?_)
    · have hf := it_t cb hf
      exact hXt _ (Option.some.inj hf).symm _ _ _ hP hD hS (lv_sub hl [3] rfl)
    have hf := it_f cb hf
    refine lv_aload_n hx hb dX7_layAll_14 rfl (lv_at hl 0 rfl) ?_
    refine lv_iload_n hx hb dX7_layAll_15 rfl (lv_at hl 1 rfl) ?_
    refine lv_iload_n hx hb dX7_layAll_16 rfl (lv_at hl 2 rfl) ?_
    refine lv_iload hx hb dX7_layAll_17 (lv_at hl 4 rfl) ?_
    refine lv_iadd hx hb dX7_layAll_19 ?_
    refine cIp hP hD hS hA hE (fun hPc hDc hSc => rV (As := [.int p1, .int (p2 + x5)]) (rest := []) hx hb hml hown hts hK (c_X7_hasPlace l g a0 x6 v0_sizes v0_made p1 (p2 + x5) (bnd_ne hf)) svV_X7_hasPlace kw1234 rfl rfl hPc hDc hSc rfl rfl hl.1 (Nat.le_of_ble_eq_true rfl) dX7_layAll_20 ⟨Nat.le_of_ble_eq_true rfl, Nat.le_of_ble_eq_true rfl, rfl, rfl, Nat.le_of_ble_eq_true rfl, Nat.le_of_ble_eq_true rfl⟩) [(0, 6)] rfl rfl rfl (fun x8 H locs ex8 nx8 hP hS => ?_)
    have hf := bnd_of hf ex8
    refine lv_if_ne (tgt := 29) hx hb dX7_layAll_23 (by decide) (fun cb => ?_) (fun cb => ?_)
    · have hf := it_f cb hf
      refine lv_aload_n hx hb dX7_layAll_29 rfl (lv_at hl 0 rfl) ?_
      refine lv_iload_n hx hb dX7_layAll_30 rfl (lv_at hl 1 rfl) ?_
      refine lv_iload_n hx hb dX7_layAll_31 rfl (lv_at hl 2 rfl) ?_
      refine lv_iload hx hb dX7_layAll_32 (lv_at hl 4 rfl) ?_
      refine lv_iadd hx hb dX7_layAll_34 ?_
      refine lv_aload_n hx hb dX7_layAll_35 rfl (lv_at hl 3 rfl) ?_
      refine lv_iload hx hb dX7_layAll_36 (lv_at hl 4 rfl) ?_
      refine lv_iconst (v := 2) hx hb dX7_layAll_38 (by decide) ?_
      refine lv_idiv hx hb dX7_layAll_39 (by decide) ?_
      refine lv_iload hx hb dX7_layAll_40 (lv_at hl 4 rfl) ?_
      refine lv_iconst (v := 2) hx hb dX7_layAll_42 (by decide) ?_
      refine lv_irem hx hb dX7_layAll_43 (by decide) ?_
      refine cLp hP hD hS hA hE (fun hPc hDc hSc => rV (As := [.int (x5 / (2 : Int32)), .int (x5 - x5 / (2 : Int32) * (2 : Int32))]) (rest := [.int (p2 + x5), .int p1, .ref (a0 0)]) hx hb hml hown hts hK (c_X8_partOf l g a1 v1_marks v1_weights v1_places v1_aboves v1_belows v1_reduced_above v1_reduced_below v1_papers (x5 / (2 : Int32)) (x5 - x5 / (2 : Int32) * (2 : Int32)) (bnd_ne hf)) svV_X8_partOf kw1235 rfl rfl hPc hDc hSc rfl rfl hl.1 (Nat.le_of_ble_eq_true rfl) dX7_layAll_44 ⟨Nat.le_of_ble_eq_true rfl, Nat.le_of_ble_eq_true rfl, rfl, rfl, Nat.le_of_ble_eq_true rfl, Nat.le_of_ble_eq_true rfl⟩) [(6, 12)] rfl rfl rfl (fun x9 H locs ex9 hP hS => ?_)
      have hf := bnd_of hf ex9
      refine cV hP hD hS hA hE (fun hPc hDc hSc => rV (As := [.int p1, .int (p2 + x5), .long x9]) (rest := []) hx hb hml hown hts hK (c_X7_set l g a0 x6 v0_sizes v0_made p1 (p2 + x5) x9 (bnd_ne hf)) svV_X7_set kw1194 rfl rfl hPc hDc hSc rfl rfl hl.1 (Nat.le_of_ble_eq_true rfl) dX7_layAll_47 ⟨Nat.le_of_ble_eq_true rfl, Nat.le_of_ble_eq_true rfl, rfl, rfl, Nat.le_of_ble_eq_true rfl, Nat.le_of_ble_eq_true rfl⟩) [(0, 6)] rfl rfl rfl (fun _ => rfl) (fun x10 H locs ex10 hP hD hS => ?_)
      have hf := bnd_of hf ex10
      have hP : va_P g.1 vwCl (wX7 a0 g x10 v0_sizes v0_made ++ wX8 a1 g v1_marks v1_weights v1_places v1_aboves v1_belows v1_reduced_above v1_reduced_below v1_papers) H := hP
      have hD : va_D A (wX7 a0 g x10 v0_sizes v0_made ++ wX8 a1 g v1_marks v1_weights v1_places v1_aboves v1_belows v1_reduced_above v1_reduced_below v1_papers) := hD
      refine lv_iinc (v := (x5 + 1)) (lv' := [(4, .int (x5 + 1)), (0, .ref (a0 0)), (1, .int p1), (2, .int p2), (3, .ref (a1 0))]) hx hb dX7_layAll_50 hl (k := 4) rfl (by rfl) (by decide) rfl (fun ls hl => ?_)
      refine lv_goto (tgt := 3) hx hb dX7_layAll_53 (by decide) ?_
      exact hB _ (Option.some.inj hf).symm _ _ _ hP hD hS (lv_sub hl [1, 2, 3, 4, 0] rfl)
    have hf := it_t cb hf
    exact hXt _ (Option.some.inj hf).symm _ _ _ hP hD hS (lv_sub hl [] rfl)
  rcases r11 with x12 | x13
  · intro H locs ls hP hD hS hl
    have hP : va_P g.1 vwCl (wX7 a0 g x12 v0_sizes v0_made ++ wX8 a1 g v1_marks v1_weights v1_places v1_aboves v1_belows v1_reduced_above v1_reduced_below v1_papers) H := hP
    have hD : va_D A (wX7 a0 g x12 v0_sizes v0_made ++ wX8 a1 g v1_marks v1_weights v1_places v1_aboves v1_belows v1_reduced_above v1_reduced_below v1_papers) := hD
    have hl : lv_has ls 5 [] := hl
    refine lv_bipush (v := (-13)) hx hb dX7_layAll_26 (by decide) ?_
    exact retI (v := (-13 : Int32)) (u := ((-13 : Int32), x12)) (val := fun u => u.1) (W1 := fun u => wX7 a0 g u.2 v0_sizes v0_made ++ wX8 a1 g v1_marks v1_weights v1_places v1_aboves v1_belows v1_reduced_above v1_reduced_below v1_papers) hx hb hr hlocks hS hP hD (hf0.trans hf.symm) rfl rfl dX7_layAll_28
  · intro H locs ls hP hD hS hl
    have hP : va_P g.1 vwCl (wX7 a0 g x13 v0_sizes v0_made ++ wX8 a1 g v1_marks v1_weights v1_places v1_aboves v1_belows v1_reduced_above v1_reduced_below v1_papers) H := hP
    have hD : va_D A (wX7 a0 g x13 v0_sizes v0_made ++ wX8 a1 g v1_marks v1_weights v1_places v1_aboves v1_belows v1_reduced_above v1_reduced_below v1_papers) := hD
    have hl : lv_has ls 5 [(3, .ref (a1 0))] := hl
    refine lv_aload_n hx hb dX7_layAll_56 rfl (lv_at hl 0 rfl) ?_
    refine cIp hP hD hS hA hE (fun hPc hDc hSc => rV (As := []) (rest := []) hx hb hml hown hts hK (c_X8_paperCount l g a1 v1_marks v1_weights v1_places v1_aboves v1_belows v1_reduced_above v1_reduced_below v1_papers (bnd_ne hf)) svV_X8_paperCount kw1233 rfl rfl hPc hDc hSc rfl rfl hl.1 (Nat.le_of_ble_eq_true rfl) dX7_layAll_57 ⟨Nat.le_of_ble_eq_true rfl, Nat.le_of_ble_eq_true rfl, rfl, rfl, Nat.le_of_ble_eq_true rfl, Nat.le_of_ble_eq_true rfl⟩) [(6, 12)] rfl rfl rfl (fun x14 H locs ex14 nx14 hP hS => ?_)
    have hf := bnd_of hf ex14
    exact retI (v := x14) (u := (x14, x13)) (val := fun u => u.1) (W1 := fun u => wX7 a0 g u.2 v0_sizes v0_made ++ wX8 a1 g v1_marks v1_weights v1_places v1_aboves v1_belows v1_reduced_above v1_reduced_below v1_papers) hx hb hr hlocks hS hP hD (hf0.trans hf.symm) rfl rfl dX7_layAll_60
set_option maxHeartbeats 4000000 in
set_option maxRecDepth 100000 in
theorem c_X7_judgeAll (l : Launch) (g : GG) (a0 : Nat → Nat) (v0_cells : (Nat → Int64)) (v0_sizes : (Nat → Int32)) (v0_made : (Nat → Int32)) (a1 : Nat → Nat) (v1_marks : (Nat → Int32)) (v1_weights : (Nat → Int32)) (v1_places : (Nat → Int32)) (v1_aboves : (Nat → Int32)) (v1_belows : (Nat → Int32)) (v1_reduced_above : Int64) (v1_reduced_below : Int64) (v1_papers : Int32) (p1 : Int32) (hne : (m_X7_judgeAll (v0_cells, v0_sizes, v0_made) (v1_marks, v1_weights, v1_places, v1_aboves, v1_belows, (v1_reduced_above, v1_reduced_below), v1_papers) p1) ≠ none) : Ct l g yX7_judgeAll cX7_judgeAll 4 (some .int) ({ frames := 2, cells := 0, slots := 0, locals := 43 } : Room) [.ref (a0 0), .int p1, .ref (a1 0)] (wX7 a0 g v0_cells v0_sizes v0_made ++ wX8 a1 g v1_marks v1_weights v1_places v1_aboves v1_belows v1_reduced_above v1_reduced_below v1_papers) (Qi g .int (m_X7_judgeAll (v0_cells, v0_sizes, v0_made) (v1_marks, v1_weights, v1_places, v1_aboves, v1_belows, (v1_reduced_above, v1_reduced_below), v1_papers) p1) (fun u => u) (fun u => wX7 a0 g v0_cells v0_sizes v0_made ++ wX8 a1 g v1_marks v1_weights v1_places v1_aboves v1_belows v1_reduced_above v1_reduced_below v1_papers)) 0 0 := by
  obtain ⟨out, hf⟩ := ne_ex hne
  have hf0 := hf
  refine Ct.of (own := RX7) (by decide +kernel) rfl (Nat.le_of_ble_eq_true rfl) ?_
  intro p e s m below meth c hx hb hr hml hown hts hlocks hin hK A H locs hA hP hD hS hE ls hl
  have hl : lv_has ls 4 [(0, .ref (a0 0)), (1, .int p1), (2, .ref (a1 0))] := hl
  unfold m_X7_judgeAll at hf
  refine lv_iconst (v := 0) hx hb dX7_judgeAll_0 (by decide) ?_
  refine lv_istore_n (lv' := [(3, .int (0 : Int32)), (0, .ref (a0 0)), (1, .int p1), (2, .ref (a1 0))]) hx hb dX7_judgeAll_1 rfl hl (by decide) rfl (fun ls hl => ?_)
  obtain ⟨r10, er10, hf⟩ := bnd hf
  refine lp_W (P := fun z => ∀ (H : Heap) (locs : List Loc) (ls : Array Slot), va_P g.1 vwCl (wX7 a0 g v0_cells v0_sizes v0_made ++ wX8 a1 g v1_marks v1_weights v1_places v1_aboves v1_belows v1_reduced_above v1_reduced_below v1_papers) H → va_D A (wX7 a0 g v0_cells v0_sizes v0_made ++ wX8 a1 g v1_marks v1_weights v1_places v1_aboves v1_belows v1_reduced_above v1_reduced_below v1_papers) → va_S A s.heap H locs → lv_has ls 4 [(0, .ref (a0 0)), (1, .int p1), (2, .ref (a1 0)), (3, .int z)] → W p l e { frames := 2, cells := 0, slots := 0, locals := 43 } s m [.ref (a0 0), .int p1, .ref (a1 0)].toArray below meth c H locs 0 0 (MQ below (Qi g .int (m_X7_judgeAll (v0_cells, v0_sizes, v0_made) (v1_marks, v1_weights, v1_places, v1_aboves, v1_belows, (v1_reduced_above, v1_reduced_below), v1_papers) p1) (fun u => u) (fun u => wX7 a0 g v0_cells v0_sizes v0_made ++ wX8 a1 g v1_marks v1_weights v1_places v1_aboves v1_belows v1_reduced_above v1_reduced_below v1_papers) A) [.ref (a0 0), .int p1, .ref (a1 0)].toArray s 0 0 A) (F0 m 2 ls [])) (E := fun r10 => match r10 with | .inl x11 => (∀ (H : Heap) (locs : List Loc) (ls : Array Slot), va_P g.1 vwCl (wX7 a0 g v0_cells v0_sizes v0_made ++ wX8 a1 g v1_marks v1_weights v1_places v1_aboves v1_belows v1_reduced_above v1_reduced_below v1_papers) H → va_D A (wX7 a0 g v0_cells v0_sizes v0_made ++ wX8 a1 g v1_marks v1_weights v1_places v1_aboves v1_belows v1_reduced_above v1_reduced_below v1_papers) → va_S A s.heap H locs → lv_has ls 4 [(3, .int x11)] → W p l e { frames := 2, cells := 0, slots := 0, locals := 43 } s m [.ref (a0 0), .int p1, .ref (a1 0)].toArray below meth c H locs 0 0 (MQ below (Qi g .int (m_X7_judgeAll (v0_cells, v0_sizes, v0_made) (v1_marks, v1_weights, v1_places, v1_aboves, v1_belows, (v1_reduced_above, v1_reduced_below), v1_papers) p1) (fun u => u) (fun u => wX7 a0 g v0_cells v0_sizes v0_made ++ wX8 a1 g v1_marks v1_weights v1_places v1_aboves v1_belows v1_reduced_above v1_reduced_below v1_papers) A) [.ref (a0 0), .int p1, .ref (a1 0)].toArray s 0 0 A) (F0 m 21 ls [])) | .inr (.inl x12) => (∀ (H : Heap) (locs : List Loc) (ls : Array Slot), va_P g.1 vwCl (wX7 a0 g v0_cells v0_sizes v0_made ++ wX8 a1 g v1_marks v1_weights v1_places v1_aboves v1_belows v1_reduced_above v1_reduced_below v1_papers) H → va_D A (wX7 a0 g v0_cells v0_sizes v0_made ++ wX8 a1 g v1_marks v1_weights v1_places v1_aboves v1_belows v1_reduced_above v1_reduced_below v1_papers) → va_S A s.heap H locs → lv_has ls 4 [(3, .int x12)] → W p l e { frames := 2, cells := 0, slots := 0, locals := 43 } s m [.ref (a0 0), .int p1, .ref (a1 0)].toArray below meth c H locs 0 0 (MQ below (Qi g .int (m_X7_judgeAll (v0_cells, v0_sizes, v0_made) (v1_marks, v1_weights, v1_places, v1_aboves, v1_belows, (v1_reduced_above, v1_reduced_below), v1_papers) p1) (fun u => u) (fun u => wX7 a0 g v0_cells v0_sizes v0_made ++ wX8 a1 g v1_marks v1_weights v1_places v1_aboves v1_belows v1_reduced_above v1_reduced_below v1_papers) A) [.ref (a0 0), .int p1, .ref (a1 0)].toArray s 0 0 A) (F0 m 48 ls [])) | .inr (.inr x13) => (∀ (H : Heap) (locs : List Loc) (ls : Array Slot), va_P g.1 vwCl (wX7 a0 g v0_cells v0_sizes v0_made ++ wX8 a1 g v1_marks v1_weights v1_places v1_aboves v1_belows v1_reduced_above v1_reduced_below v1_papers) H → va_D A (wX7 a0 g v0_cells v0_sizes v0_made ++ wX8 a1 g v1_marks v1_weights v1_places v1_aboves v1_belows v1_reduced_above v1_reduced_below v1_papers) → va_S A s.heap H locs → lv_has ls 4 [] → W p l e { frames := 2, cells := 0, slots := 0, locals := 43 } s m [.ref (a0 0), .int p1, .ref (a1 0)].toArray below meth c H locs 0 0 (MQ below (Qi g .int (m_X7_judgeAll (v0_cells, v0_sizes, v0_made) (v1_marks, v1_weights, v1_places, v1_aboves, v1_belows, (v1_reduced_above, v1_reduced_below), v1_papers) p1) (fun u => u) (fun u => wX7 a0 g v0_cells v0_sizes v0_made ++ wX8 a1 g v1_marks v1_weights v1_places v1_aboves v1_belows v1_reduced_above v1_reduced_below v1_papers) A) [.ref (a0 0), .int p1, .ref (a1 0)].toArray s 0 0 A) (F0 m 58 ls []))) ?_ fu _ r10 er10 ?_ _ _ _ hP hD hS (lv_sub hl [1, 2, 3, 0] rfl)
  · rintro x5 y hf hB hXt H locs ls hP hD hS hl
    have hP : va_P g.1 vwCl (wX7 a0 g v0_cells v0_sizes v0_made ++ wX8 a1 g v1_marks v1_weights v1_places v1_aboves v1_belows v1_reduced_above v1_reduced_below v1_papers) H := hP
    have hD : va_D A (wX7 a0 g v0_cells v0_sizes v0_made ++ wX8 a1 g v1_marks v1_weights v1_places v1_aboves v1_belows v1_reduced_above v1_reduced_below v1_papers) := hD
    have hl : lv_has ls 4 [(0, .ref (a0 0)), (1, .int p1), (2, .ref (a1 0)), (3, .int x5)] := hl
    have hf : m_X7_judgeAll_l2 (v0_cells, v0_sizes, v0_made) (v1_marks, v1_weights, v1_places, v1_aboves, v1_belows, (v1_reduced_above, v1_reduced_below), v1_papers) p1 x5 = some y := hf
    unfold m_X7_judgeAll_l2 at hf
    refine lv_iload_n hx hb dX7_judgeAll_2 rfl (lv_at hl 3 rfl) ?_
    refine lv_iconst (v := 2) hx hb dX7_judgeAll_3 (by decide) ?_
    refine lv_aload_n hx hb dX7_judgeAll_4 rfl (lv_at hl 2 rfl) ?_
    refine cIp hP hD hS hA hE (fun hPc hDc hSc => rV (As := []) (rest := [.int (2 : Int32), .int x5]) hx hb hml hown hts hK (c_X8_paperCount l g a1 v1_marks v1_weights v1_places v1_aboves v1_belows v1_reduced_above v1_reduced_below v1_papers (bnd_ne hf)) svV_X8_paperCount kw1233 rfl rfl hPc hDc hSc rfl rfl hl.1 (Nat.le_of_ble_eq_true rfl) dX7_judgeAll_5 ⟨Nat.le_of_ble_eq_true rfl, Nat.le_of_ble_eq_true rfl, rfl, rfl, Nat.le_of_ble_eq_true rfl, Nat.le_of_ble_eq_true rfl⟩) [(6, 12)] rfl rfl rfl (fun x6 H locs ex6 nx6 hP hS => ?_)
    have hf := bnd_of hf ex6
    refine lv_imul hx hb dX7_judgeAll_8 ?_
    refine lv_icmp_ge (tgt := 58) hx hb dX7_judgeAll_9 (by decide) (fun cb => ?_) (fun cb => ?_)
    · have hf := it_t cb hf
      exact hXt _ (Option.some.inj hf).symm _ _ _ hP hD hS (lv_sub hl [] rfl)
    have hf := it_f cb hf
    refine lv_aload_n hx hb dX7_judgeAll_12 rfl (lv_at hl 0 rfl) ?_
    refine lv_iload_n hx hb dX7_judgeAll_13 rfl (lv_at hl 1 rfl) ?_
    refine lv_iload_n hx hb dX7_judgeAll_14 rfl (lv_at hl 3 rfl) ?_
    refine cIp hP hD hS hA hE (fun hPc hDc hSc => rV (As := [.int p1, .int x5]) (rest := []) hx hb hml hown hts hK (c_X7_hasPlace l g a0 v0_cells v0_sizes v0_made p1 x5 (bnd_ne hf)) svV_X7_hasPlace kw1234 rfl rfl hPc hDc hSc rfl rfl hl.1 (Nat.le_of_ble_eq_true rfl) dX7_judgeAll_15 ⟨Nat.le_of_ble_eq_true rfl, Nat.le_of_ble_eq_true rfl, rfl, rfl, Nat.le_of_ble_eq_true rfl, Nat.le_of_ble_eq_true rfl⟩) [(0, 6)] rfl rfl rfl (fun x7 H locs ex7 nx7 hP hS => ?_)
    have hf := bnd_of hf ex7
    refine lv_if_ne (tgt := 28) hx hb dX7_judgeAll_18 (by decide) (fun cb => ?_) (fun cb => ?_)
    · have hf := it_f cb hf
      refine lv_aload_n hx hb dX7_judgeAll_28 rfl (lv_at hl 0 rfl) ?_
      refine lv_iload_n hx hb dX7_judgeAll_29 rfl (lv_at hl 1 rfl) ?_
      refine lv_iload_n hx hb dX7_judgeAll_30 rfl (lv_at hl 3 rfl) ?_
      refine cLp hP hD hS hA hE (fun hPc hDc hSc => rV (As := [.int p1, .int x5]) (rest := []) hx hb hml hown hts hK (c_X7_get l g a0 v0_cells v0_sizes v0_made p1 x5 (bnd_ne hf)) svV_X7_get kw1244 rfl rfl hPc hDc hSc rfl rfl hl.1 (Nat.le_of_ble_eq_true rfl) dX7_judgeAll_31 ⟨Nat.le_of_ble_eq_true rfl, Nat.le_of_ble_eq_true rfl, rfl, rfl, Nat.le_of_ble_eq_true rfl, Nat.le_of_ble_eq_true rfl⟩) [(0, 6)] rfl rfl rfl (fun x8 H locs ex8 hP hS => ?_)
      have hf := bnd_of hf ex8
      refine lv_aload_n hx hb dX7_judgeAll_34 rfl (lv_at hl 2 rfl) ?_
      refine lv_iload_n hx hb dX7_judgeAll_35 rfl (lv_at hl 3 rfl) ?_
      refine lv_iconst (v := 2) hx hb dX7_judgeAll_36 (by decide) ?_
      refine lv_idiv hx hb dX7_judgeAll_37 (by decide) ?_
      refine lv_iload_n hx hb dX7_judgeAll_38 rfl (lv_at hl 3 rfl) ?_
      refine lv_iconst (v := 2) hx hb dX7_judgeAll_39 (by decide) ?_
      refine lv_irem hx hb dX7_judgeAll_40 (by decide) ?_
      refine cLp hP hD hS hA hE (fun hPc hDc hSc => rV (As := [.int (x5 / (2 : Int32)), .int (x5 - x5 / (2 : Int32) * (2 : Int32))]) (rest := [.long x8]) hx hb hml hown hts hK (c_X8_partOf l g a1 v1_marks v1_weights v1_places v1_aboves v1_belows v1_reduced_above v1_reduced_below v1_papers (x5 / (2 : Int32)) (x5 - x5 / (2 : Int32) * (2 : Int32)) (bnd_ne hf)) svV_X8_partOf kw1235 rfl rfl hPc hDc hSc rfl rfl hl.1 (Nat.le_of_ble_eq_true rfl) dX7_judgeAll_41 ⟨Nat.le_of_ble_eq_true rfl, Nat.le_of_ble_eq_true rfl, rfl, rfl, Nat.le_of_ble_eq_true rfl, Nat.le_of_ble_eq_true rfl⟩) [(6, 12)] rfl rfl rfl (fun x9 H locs ex9 hP hS => ?_)
      have hf := bnd_of hf ex9
      refine lc_eq (tgt := 52) hx hb dX7_judgeAll_44 dX7_judgeAll_45 (by decide) (fun cb => ?_) (fun cb => ?_)
      · have hf := it_t cb hf
        refine lv_iinc (v := (x5 + 1)) (lv' := [(3, .int (x5 + 1)), (0, .ref (a0 0)), (1, .int p1), (2, .ref (a1 0))]) hx hb dX7_judgeAll_52 hl (k := 3) rfl (by rfl) (by decide) rfl (fun ls hl => ?_)
        refine lv_goto (tgt := 2) hx hb dX7_judgeAll_55 (by decide) ?_
        exact hB _ (Option.some.inj hf).symm _ _ _ hP hD hS (lv_sub hl [1, 2, 3, 0] rfl)
      have hf := it_f cb hf
      exact hXt _ (Option.some.inj hf).symm _ _ _ hP hD hS (lv_sub hl [3] rfl)
    have hf := it_t cb hf
    exact hXt _ (Option.some.inj hf).symm _ _ _ hP hD hS (lv_sub hl [3] rfl)
  rcases r10 with x11 | x12 | x13
  · intro H locs ls hP hD hS hl
    have hP : va_P g.1 vwCl (wX7 a0 g v0_cells v0_sizes v0_made ++ wX8 a1 g v1_marks v1_weights v1_places v1_aboves v1_belows v1_reduced_above v1_reduced_below v1_papers) H := hP
    have hD : va_D A (wX7 a0 g v0_cells v0_sizes v0_made ++ wX8 a1 g v1_marks v1_weights v1_places v1_aboves v1_belows v1_reduced_above v1_reduced_below v1_papers) := hD
    have hl : lv_has ls 4 [(3, .int x11)] := hl
    refine lv_bipush (v := 100) hx hb dX7_judgeAll_21 (by decide) ?_
    refine lv_iload_n hx hb dX7_judgeAll_23 rfl (lv_at hl 0 rfl) ?_
    refine lv_iconst (v := 2) hx hb dX7_judgeAll_24 (by decide) ?_
    refine lv_idiv hx hb dX7_judgeAll_25 (by decide) ?_
    refine lv_iadd hx hb dX7_judgeAll_26 ?_
    exact retI (v := ((100 : Int32) + (x11 / (2 : Int32)))) (u := ((100 : Int32) + (x11 / (2 : Int32)))) (val := fun u => u) (W1 := fun u => wX7 a0 g v0_cells v0_sizes v0_made ++ wX8 a1 g v1_marks v1_weights v1_places v1_aboves v1_belows v1_reduced_above v1_reduced_below v1_papers) hx hb hr hlocks hS hP hD (hf0.trans hf.symm) rfl rfl dX7_judgeAll_27
  · intro H locs ls hP hD hS hl
    have hP : va_P g.1 vwCl (wX7 a0 g v0_cells v0_sizes v0_made ++ wX8 a1 g v1_marks v1_weights v1_places v1_aboves v1_belows v1_reduced_above v1_reduced_below v1_papers) H := hP
    have hD : va_D A (wX7 a0 g v0_cells v0_sizes v0_made ++ wX8 a1 g v1_marks v1_weights v1_places v1_aboves v1_belows v1_reduced_above v1_reduced_below v1_papers) := hD
    have hl : lv_has ls 4 [(3, .int x12)] := hl
    refine lv_iload_n hx hb dX7_judgeAll_48 rfl (lv_at hl 0 rfl) ?_
    refine lv_iconst (v := 2) hx hb dX7_judgeAll_49 (by decide) ?_
    refine lv_idiv hx hb dX7_judgeAll_50 (by decide) ?_
    exact retI (v := (x12 / (2 : Int32))) (u := (x12 / (2 : Int32))) (val := fun u => u) (W1 := fun u => wX7 a0 g v0_cells v0_sizes v0_made ++ wX8 a1 g v1_marks v1_weights v1_places v1_aboves v1_belows v1_reduced_above v1_reduced_below v1_papers) hx hb hr hlocks hS hP hD (hf0.trans hf.symm) rfl rfl dX7_judgeAll_51
  · intro H locs ls hP hD hS hl
    have hP : va_P g.1 vwCl (wX7 a0 g v0_cells v0_sizes v0_made ++ wX8 a1 g v1_marks v1_weights v1_places v1_aboves v1_belows v1_reduced_above v1_reduced_below v1_papers) H := hP
    have hD : va_D A (wX7 a0 g v0_cells v0_sizes v0_made ++ wX8 a1 g v1_marks v1_weights v1_places v1_aboves v1_belows v1_reduced_above v1_reduced_below v1_papers) := hD
    have hl : lv_has ls 4 [] := hl
    refine lv_bipush (v := (-9)) hx hb dX7_judgeAll_58 (by decide) ?_
    exact retI (v := (-9 : Int32)) (u := (-9 : Int32)) (val := fun u => u) (W1 := fun u => wX7 a0 g v0_cells v0_sizes v0_made ++ wX8 a1 g v1_marks v1_weights v1_places v1_aboves v1_belows v1_reduced_above v1_reduced_below v1_papers) hx hb hr hlocks hS hP hD (hf0.trans hf.symm) rfl rfl dX7_judgeAll_60
set_option maxHeartbeats 4000000 in
set_option maxRecDepth 100000 in
theorem c_X3_size (l : Launch) (g : GG) (a0 : Nat → Nat) (v0_signs : (Nat → Int32)) (v0_numbers : (Nat → Int32)) (v0_size : Int32) (v0_at : Int32) (v0_word : Int32) (hne : (m_X3_size (v0_signs, v0_numbers, v0_size, v0_at, v0_word)) ≠ none) : Ct l g yX3_size cX3_size 1 (some .int) ({ frames := 0, cells := 0, slots := 0, locals := 0 } : Room) [.ref (a0 0)] (wX3 a0 g v0_signs v0_numbers v0_size v0_at v0_word) (Qi g .int (m_X3_size (v0_signs, v0_numbers, v0_size, v0_at, v0_word)) (fun u => u) (fun u => wX3 a0 g v0_signs v0_numbers v0_size v0_at v0_word)) 0 0 := by
  obtain ⟨out, hf⟩ := ne_ex hne
  have hf0 := hf
  refine Ct.of (own := RX3) (by decide +kernel) rfl (Nat.le_of_ble_eq_true rfl) ?_
  intro p e s m below meth c hx hb hr hml hown hts hlocks hin hK A H locs hA hP hD hS hE ls hl
  have hl : lv_has ls 1 [(0, .ref (a0 0))] := hl
  unfold m_X3_size at hf
  refine lv_aload_n hx hb dX3_size_0 rfl (lv_at hl 0 rfl) ?_
  refine va_get (D := g.1) (ci := 4) (v := .int v0_size) (C := RX3) (T := TX3) (N := 5) hx hb hts layX3 hown hK.1 hP 0 rfl rfl 2 (by decide) (hts _ kw85) (fun _ h9 => h9) rfl dX3_size_1 ?_
  exact retI (v := v0_size) (u := v0_size) (val := fun u => u) (W1 := fun u => wX3 a0 g v0_signs v0_numbers v0_size v0_at v0_word) hx hb hr hlocks hS hP hD (hf0.trans hf.symm) rfl rfl dX3_size_4
set_option maxHeartbeats 4000000 in
set_option maxRecDepth 100000 in
theorem c_X3_isFull (l : Launch) (g : GG) (a0 : Nat → Nat) (v0_signs : (Nat → Int32)) (v0_numbers : (Nat → Int32)) (v0_size : Int32) (v0_at : Int32) (v0_word : Int32) (hne : (m_X3_isFull (v0_signs, v0_numbers, v0_size, v0_at, v0_word)) ≠ none) : Ct l g yX3_isFull cX3_isFull 1 (some .boolean) ({ frames := 0, cells := 0, slots := 0, locals := 0 } : Room) [.ref (a0 0)] (wX3 a0 g v0_signs v0_numbers v0_size v0_at v0_word) (Qi g .boolean (m_X3_isFull (v0_signs, v0_numbers, v0_size, v0_at, v0_word)) (fun u => u) (fun u => wX3 a0 g v0_signs v0_numbers v0_size v0_at v0_word)) 0 0 := by
  obtain ⟨out, hf⟩ := ne_ex hne
  have hf0 := hf
  refine Ct.of (own := RX3) (by decide +kernel) rfl (Nat.le_of_ble_eq_true rfl) ?_
  intro p e s m below meth c hx hb hr hml hown hts hlocks hin hK A H locs hA hP hD hS hE ls hl
  have hl : lv_has ls 1 [(0, .ref (a0 0))] := hl
  unfold m_X3_isFull at hf
  refine lv_aload_n hx hb dX3_isFull_0 rfl (lv_at hl 0 rfl) ?_
  refine va_get (D := g.1) (ci := 4) (v := .int v0_size) (C := RX3) (T := TX3) (N := 5) hx hb hts layX3 hown hK.1 hP 0 rfl rfl 2 (by decide) (hts _ kw85) (fun _ h9 => h9) rfl dX3_isFull_1 ?_
  refine lv_bipush (v := 120) hx hb dX3_isFull_4 (by decide) ?_
  refine lv_icmp_lt (tgt := 13) hx hb dX3_isFull_6 (by decide) (fun cb => ?_) (fun cb => ?_)
  · have hf := it_t cb hf
    refine lv_iconst (v := 0) hx hb dX3_isFull_13 (by decide) ?_
    exact retI (v := (0 : Int32)) (u := (0 : Int32)) (val := fun u => u) (W1 := fun u => wX3 a0 g v0_signs v0_numbers v0_size v0_at v0_word) hx hb hr hlocks hS hP hD (hf0.trans hf.symm) rfl rfl dX3_isFull_14
  have hf := it_f cb hf
  refine lv_iconst (v := 1) hx hb dX3_isFull_9 (by decide) ?_
  refine lv_goto (tgt := 14) hx hb dX3_isFull_10 (by decide) ?_
  exact retI (v := (1 : Int32)) (u := (1 : Int32)) (val := fun u => u) (W1 := fun u => wX3 a0 g v0_signs v0_numbers v0_size v0_at v0_word) hx hb hr hlocks hS hP hD (hf0.trans hf.symm) rfl rfl dX3_isFull_14
set_option maxHeartbeats 4000000 in
set_option maxRecDepth 100000 in
theorem c_X3_add (l : Launch) (g : GG) (a0 : Nat → Nat) (v0_signs : (Nat → Int32)) (v0_numbers : (Nat → Int32)) (v0_size : Int32) (v0_at : Int32) (v0_word : Int32) (p1 : Int32) (hne : (m_X3_add (v0_signs, v0_numbers, v0_size, v0_at, v0_word) p1) ≠ none) : Ct l g yX3_add cX3_add 2 (some .int) ({ frames := 1, cells := 0, slots := 0, locals := 22 } : Room) [.ref (a0 0), .int p1] (wX3 a0 g v0_signs v0_numbers v0_size v0_at v0_word) (Qi g .int (m_X3_add (v0_signs, v0_numbers, v0_size, v0_at, v0_word) p1) (fun u => u.1) (fun u => wX3 a0 g u.2.1 v0_numbers u.2.2 v0_at v0_word)) 0 0 := by
  obtain ⟨out, hf⟩ := ne_ex hne
  have hf0 := hf
  refine Ct.of (own := RX3) (by decide +kernel) rfl (Nat.le_of_ble_eq_true rfl) ?_
  intro p e s m below meth c hx hb hr hml hown hts hlocks hin hK A H locs hA hP hD hS hE ls hl
  have hl : lv_has ls 2 [(0, .ref (a0 0)), (1, .int p1)] := hl
  unfold m_X3_add at hf
  refine lv_aload_n hx hb dX3_add_0 rfl (lv_at hl 0 rfl) ?_
  refine va_get (D := g.1) (ci := 4) (v := .ref (a0 1)) (C := RX3) (T := TX3) (N := 5) hx hb hts layX3 hown hK.1 hP 0 rfl rfl 0 (by decide) (hts _ kw83) (fun _ h9 => h9) rfl dX3_add_1 ?_
  refine lv_aload_n hx hb dX3_add_4 rfl (lv_at hl 0 rfl) ?_
  refine va_get (D := g.1) (ci := 4) (v := .int v0_size) (C := RX3) (T := TX3) (N := 5) hx hb hts layX3 hown hK.1 hP 0 rfl rfl 2 (by decide) (hts _ kw85) (fun _ h9 => h9) rfl dX3_add_5 ?_
  refine lv_iload_n hx hb dX3_add_8 rfl (lv_at hl 1 rfl) ?_
  refine cV hP hD hS hA hE (fun hPc hDc hSc => rV (As := [.int v0_size, .int p1]) (rest := []) hx hb hml hown hts hK (c_X2_set l g (fun i => a0 (i + 1)) 120 v0_signs v0_size p1 (bnd_ne hf)) svV_X2_set kw283 rfl rfl hPc hDc hSc rfl rfl hl.1 (Nat.le_of_ble_eq_true rfl) dX3_add_9 ⟨Nat.le_of_ble_eq_true rfl, Nat.le_of_ble_eq_true rfl, rfl, rfl, Nat.le_of_ble_eq_true rfl, Nat.le_of_ble_eq_true rfl⟩) [(1, 2)] rfl rfl rfl (fun _ => rfl) (fun x1 H locs ex1 hP hD hS => ?_)
  have hf := bnd_of hf ex1
  have hP : va_P g.1 vwCl (wX3 a0 g x1 v0_numbers v0_size v0_at v0_word) H := hP
  have hD : va_D A (wX3 a0 g x1 v0_numbers v0_size v0_at v0_word) := hD
  refine lv_aload_n hx hb dX3_add_12 rfl (lv_at hl 0 rfl) ?_
  refine lv_dup hx hb dX3_add_13 rfl ?_
  refine va_get (D := g.1) (ci := 4) (v := .int v0_size) (C := RX3) (T := TX3) (N := 5) hx hb hts layX3 hown hK.1 hP 0 rfl rfl 2 (by decide) (hts _ kw85) (fun _ h9 => h9) rfl dX3_add_14 ?_
  refine lv_iconst (v := 1) hx hb dX3_add_17 (by decide) ?_
  refine lv_iadd hx hb dX3_add_18 ?_
  refine va_put (D := g.1) (ci := 4) (v := .int (v0_size + (1 : Int32))) (ty := .int) (C := RX3) (T := TX3) (N := 5) hx hb hts layX3 tyX3 tyX3_ok nmX3 hown hK.1 hP hD hS 0 rfl rfl 2 (by decide) (hts _ kw85) (fun _ h9 => h9) rfl (tyX3_ok 2 (by decide)) rfl rfl (Nat.le_of_ble_eq_true rfl) dX3_add_19 (fun H locs hP hD hS => ?_)
  have hP : va_P g.1 vwCl (wX3 a0 g x1 v0_numbers (v0_size + (1 : Int32)) v0_at v0_word) H := hP
  have hD : va_D A (wX3 a0 g x1 v0_numbers (v0_size + (1 : Int32)) v0_at v0_word) := hD
  refine lv_aload_n hx hb dX3_add_22 rfl (lv_at hl 0 rfl) ?_
  refine va_get (D := g.1) (ci := 4) (v := .int (v0_size + (1 : Int32))) (C := RX3) (T := TX3) (N := 5) hx hb hts layX3 hown hK.1 hP 0 rfl rfl 2 (by decide) (hts _ kw85) (fun _ h9 => h9) rfl dX3_add_23 ?_
  exact retI (v := (v0_size + (1 : Int32))) (u := ((v0_size + (1 : Int32)), x1, (v0_size + (1 : Int32)))) (val := fun u => u.1) (W1 := fun u => wX3 a0 g u.2.1 v0_numbers u.2.2 v0_at v0_word) hx hb hr hlocks hS hP hD (hf0.trans hf.symm) rfl rfl dX3_add_26
set_option maxHeartbeats 4000000 in
set_option maxRecDepth 100000 in
theorem c_X3_forget (l : Launch) (g : GG) (a0 : Nat → Nat) (v0_signs : (Nat → Int32)) (v0_numbers : (Nat → Int32)) (v0_size : Int32) (v0_at : Int32) (v0_word : Int32) (hne : (m_X3_forget (v0_signs, v0_numbers, v0_size, v0_at, v0_word)) ≠ none) : Ct l g yX3_forget cX3_forget 1 none ({ frames := 0, cells := 0, slots := 0, locals := 0 } : Room) [.ref (a0 0)] (wX3 a0 g v0_signs v0_numbers v0_size v0_at v0_word) (Qv g (m_X3_forget (v0_signs, v0_numbers, v0_size, v0_at, v0_word)) (fun u => wX3 a0 g v0_signs v0_numbers u v0_at v0_word)) 0 0 := by
  obtain ⟨out, hf⟩ := ne_ex hne
  have hf0 := hf
  refine Ct.of (own := RX3) (by decide +kernel) rfl (Nat.le_of_ble_eq_true rfl) ?_
  intro p e s m below meth c hx hb hr hml hown hts hlocks hin hK A H locs hA hP hD hS hE ls hl
  have hl : lv_has ls 1 [(0, .ref (a0 0))] := hl
  unfold m_X3_forget at hf
  refine lv_aload_n hx hb dX3_forget_0 rfl (lv_at hl 0 rfl) ?_
  refine lv_iconst (v := 0) hx hb dX3_forget_1 (by decide) ?_
  refine va_put (D := g.1) (ci := 4) (v := .int (0 : Int32)) (ty := .int) (C := RX3) (T := TX3) (N := 5) hx hb hts layX3 tyX3 tyX3_ok nmX3 hown hK.1 hP hD hS 0 rfl rfl 2 (by decide) (hts _ kw85) (fun _ h9 => h9) rfl (tyX3_ok 2 (by decide)) rfl rfl (Nat.le_of_ble_eq_true rfl) dX3_forget_2 (fun H locs hP hD hS => ?_)
  have hP : va_P g.1 vwCl (wX3 a0 g v0_signs v0_numbers (0 : Int32) v0_at v0_word) H := hP
  have hD : va_D A (wX3 a0 g v0_signs v0_numbers (0 : Int32) v0_at v0_word) := hD
  exact retV (u := (0 : Int32)) (W1 := fun u => wX3 a0 g v0_signs v0_numbers u v0_at v0_word) hx hb hr hlocks hS hP hD (hf0.trans hf.symm) dX3_forget_5
set_option maxHeartbeats 4000000 in
set_option maxRecDepth 100000 in
theorem c_X3_readFromFront (l : Launch) (g : GG) (a0 : Nat → Nat) (v0_signs : (Nat → Int32)) (v0_numbers : (Nat → Int32)) (v0_size : Int32) (v0_at : Int32) (v0_word : Int32) (hne : (m_X3_readFromFront (v0_signs, v0_numbers, v0_size, v0_at, v0_word)) ≠ none) : Ct l g yX3_readFromFront cX3_readFromFront 1 none ({ frames := 0, cells := 0, slots := 0, locals := 0 } : Room) [.ref (a0 0)] (wX3 a0 g v0_signs v0_numbers v0_size v0_at v0_word) (Qv g (m_X3_readFromFront (v0_signs, v0_numbers, v0_size, v0_at, v0_word)) (fun u => wX3 a0 g v0_signs v0_numbers v0_size u v0_word)) 0 0 := by
  obtain ⟨out, hf⟩ := ne_ex hne
  have hf0 := hf
  refine Ct.of (own := RX3) (by decide +kernel) rfl (Nat.le_of_ble_eq_true rfl) ?_
  intro p e s m below meth c hx hb hr hml hown hts hlocks hin hK A H locs hA hP hD hS hE ls hl
  have hl : lv_has ls 1 [(0, .ref (a0 0))] := hl
  unfold m_X3_readFromFront at hf
  refine lv_aload_n hx hb dX3_readFromFront_0 rfl (lv_at hl 0 rfl) ?_
  refine lv_iconst (v := 0) hx hb dX3_readFromFront_1 (by decide) ?_
  refine va_put (D := g.1) (ci := 4) (v := .int (0 : Int32)) (ty := .int) (C := RX3) (T := TX3) (N := 5) hx hb hts layX3 tyX3 tyX3_ok nmX3 hown hK.1 hP hD hS 0 rfl rfl 3 (by decide) (hts _ kw86) (fun _ h9 => h9) rfl (tyX3_ok 3 (by decide)) rfl rfl (Nat.le_of_ble_eq_true rfl) dX3_readFromFront_2 (fun H locs hP hD hS => ?_)
  have hP : va_P g.1 vwCl (wX3 a0 g v0_signs v0_numbers v0_size (0 : Int32) v0_word) H := hP
  have hD : va_D A (wX3 a0 g v0_signs v0_numbers v0_size (0 : Int32) v0_word) := hD
  exact retV (u := (0 : Int32)) (W1 := fun u => wX3 a0 g v0_signs v0_numbers v0_size u v0_word) hx hb hr hlocks hS hP hD (hf0.trans hf.symm) dX3_readFromFront_5
set_option maxHeartbeats 4000000 in
set_option maxRecDepth 100000 in
theorem c_X3_isRead (l : Launch) (g : GG) (a0 : Nat → Nat) (v0_signs : (Nat → Int32)) (v0_numbers : (Nat → Int32)) (v0_size : Int32) (v0_at : Int32) (v0_word : Int32) (hne : (m_X3_isRead (v0_signs, v0_numbers, v0_size, v0_at, v0_word)) ≠ none) : Ct l g yX3_isRead cX3_isRead 1 (some .boolean) ({ frames := 0, cells := 0, slots := 0, locals := 0 } : Room) [.ref (a0 0)] (wX3 a0 g v0_signs v0_numbers v0_size v0_at v0_word) (Qi g .boolean (m_X3_isRead (v0_signs, v0_numbers, v0_size, v0_at, v0_word)) (fun u => u) (fun u => wX3 a0 g v0_signs v0_numbers v0_size v0_at v0_word)) 0 0 := by
  obtain ⟨out, hf⟩ := ne_ex hne
  have hf0 := hf
  refine Ct.of (own := RX3) (by decide +kernel) rfl (Nat.le_of_ble_eq_true rfl) ?_
  intro p e s m below meth c hx hb hr hml hown hts hlocks hin hK A H locs hA hP hD hS hE ls hl
  have hl : lv_has ls 1 [(0, .ref (a0 0))] := hl
  unfold m_X3_isRead at hf
  refine lv_aload_n hx hb dX3_isRead_0 rfl (lv_at hl 0 rfl) ?_
  refine va_get (D := g.1) (ci := 4) (v := .int v0_at) (C := RX3) (T := TX3) (N := 5) hx hb hts layX3 hown hK.1 hP 0 rfl rfl 3 (by decide) (hts _ kw86) (fun _ h9 => h9) rfl dX3_isRead_1 ?_
  refine lv_aload_n hx hb dX3_isRead_4 rfl (lv_at hl 0 rfl) ?_
  refine va_get (D := g.1) (ci := 4) (v := .int v0_size) (C := RX3) (T := TX3) (N := 5) hx hb hts layX3 hown hK.1 hP 0 rfl rfl 2 (by decide) (hts _ kw85) (fun _ h9 => h9) rfl dX3_isRead_5 ?_
  refine lv_icmp_lt (tgt := 15) hx hb dX3_isRead_8 (by decide) (fun cb => ?_) (fun cb => ?_)
  · have hf := it_t cb hf
    refine lv_iconst (v := 0) hx hb dX3_isRead_15 (by decide) ?_
    exact retI (v := (0 : Int32)) (u := (0 : Int32)) (val := fun u => u) (W1 := fun u => wX3 a0 g v0_signs v0_numbers v0_size v0_at v0_word) hx hb hr hlocks hS hP hD (hf0.trans hf.symm) rfl rfl dX3_isRead_16
  have hf := it_f cb hf
  refine lv_iconst (v := 1) hx hb dX3_isRead_11 (by decide) ?_
  refine lv_goto (tgt := 16) hx hb dX3_isRead_12 (by decide) ?_
  exact retI (v := (1 : Int32)) (u := (1 : Int32)) (val := fun u => u) (W1 := fun u => wX3 a0 g v0_signs v0_numbers v0_size v0_at v0_word) hx hb hr hlocks hS hP hD (hf0.trans hf.symm) rfl rfl dX3_isRead_16
set_option maxHeartbeats 4000000 in
set_option maxRecDepth 100000 in
theorem c_X3_standsAt (l : Launch) (g : GG) (a0 : Nat → Nat) (v0_signs : (Nat → Int32)) (v0_numbers : (Nat → Int32)) (v0_size : Int32) (v0_at : Int32) (v0_word : Int32) (hne : (m_X3_standsAt (v0_signs, v0_numbers, v0_size, v0_at, v0_word)) ≠ none) : Ct l g yX3_standsAt cX3_standsAt 1 (some .int) ({ frames := 0, cells := 0, slots := 0, locals := 0 } : Room) [.ref (a0 0)] (wX3 a0 g v0_signs v0_numbers v0_size v0_at v0_word) (Qi g .int (m_X3_standsAt (v0_signs, v0_numbers, v0_size, v0_at, v0_word)) (fun u => u) (fun u => wX3 a0 g v0_signs v0_numbers v0_size v0_at v0_word)) 0 0 := by
  obtain ⟨out, hf⟩ := ne_ex hne
  have hf0 := hf
  refine Ct.of (own := RX3) (by decide +kernel) rfl (Nat.le_of_ble_eq_true rfl) ?_
  intro p e s m below meth c hx hb hr hml hown hts hlocks hin hK A H locs hA hP hD hS hE ls hl
  have hl : lv_has ls 1 [(0, .ref (a0 0))] := hl
  unfold m_X3_standsAt at hf
  refine lv_aload_n hx hb dX3_standsAt_0 rfl (lv_at hl 0 rfl) ?_
  refine va_get (D := g.1) (ci := 4) (v := .int v0_at) (C := RX3) (T := TX3) (N := 5) hx hb hts layX3 hown hK.1 hP 0 rfl rfl 3 (by decide) (hts _ kw86) (fun _ h9 => h9) rfl dX3_standsAt_1 ?_
  exact retI (v := v0_at) (u := v0_at) (val := fun u => u) (W1 := fun u => wX3 a0 g v0_signs v0_numbers v0_size v0_at v0_word) hx hb hr hlocks hS hP hD (hf0.trans hf.symm) rfl rfl dX3_standsAt_4
