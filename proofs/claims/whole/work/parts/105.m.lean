theorem svV_X8_weightOf : SV RX8 yX8_weightOf cX8_weightOf 4 (some .int) 1 := ⟨kw733, kw734, kw9, kw735, rfl, by decide, by decide, by decide +kernel⟩
theorem svV_X8_papersUpTo : SV RX8 yX8_papersUpTo cX8_papersUpTo 4 (some .int) 1 := ⟨kw737, kw738, kw9, kw739, rfl, by decide, by decide, by decide +kernel⟩
theorem svV_X6_ruleCount : SV RX6 yX6_ruleCount cX6_ruleCount 1 (some .int) 0 := ⟨kw845, kw846, kw2, kw847, rfl, by decide, by decide, by decide +kernel⟩
theorem svV_X6_lowerOf : SV RX6 yX6_lowerOf cX6_lowerOf 2 (some .int) 1 := ⟨kw585, kw586, kw2, kw587, rfl, by decide, by decide, by decide +kernel⟩
theorem svV_X6_upperOf : SV RX6 yX6_upperOf cX6_upperOf 2 (some .int) 1 := ⟨kw589, kw590, kw2, kw591, rfl, by decide, by decide, by decide +kernel⟩
theorem svV_X1_partOf : SV RX1 yX1_partOf cX1_partOf 2 (some .long) 1 := ⟨kw774, kw775, kw10, kw776, rfl, by decide, by decide, by decide +kernel⟩
theorem svV_X6_gradeOf : SV RX6 yX6_gradeOf cX6_gradeOf 7 (some .int) 2 := ⟨kw576, kw577, kw2, kw578, rfl, by decide, by decide, by decide +kernel⟩
theorem svV_X1_isBelow : SV RX1 yX1_isBelow cX1_isBelow 5 (some .boolean) 2 := ⟨kw821, kw822, kw10, kw823, rfl, by decide, by decide, by decide +kernel⟩
theorem svV_X1_add : SV RX1 yX1_add cX1_add 7 none 2 := ⟨kw816, kw817, kw10, kw818, rfl, by decide, by decide, by decide +kernel⟩
theorem svV_X8_addChange : SV RX8 yX8_addChange cX8_addChange 8 none 3 := ⟨kw810, kw1814, kw9, kw811, rfl, by decide, by decide, by decide +kernel⟩
theorem dX8_middleOf_0 : decode cX8_middleOf 0 = .ok (.aload_n 0, 1) := by decide +kernel
theorem dX8_middleOf_1 : decode cX8_middleOf 1 = .ok (.iload_n 1, 1) := by decide +kernel
theorem dX8_middleOf_2 : decode cX8_middleOf 2 = .ok (.invokevirtual 70, 3) := by decide +kernel
theorem dX8_middleOf_5 : decode cX8_middleOf 5 = .ok (.istore_n 2, 1) := by decide +kernel
theorem dX8_middleOf_6 : decode cX8_middleOf 6 = .ok (.iconst (-1), 1) := by decide +kernel
theorem dX8_middleOf_7 : decode cX8_middleOf 7 = .ok (.istore_n 3, 1) := by decide +kernel
theorem dX8_middleOf_8 : decode cX8_middleOf 8 = .ok (.iconst 0, 1) := by decide +kernel
theorem dX8_middleOf_9 : decode cX8_middleOf 9 = .ok (.istore 4, 2) := by decide +kernel
theorem dX8_middleOf_11 : decode cX8_middleOf 11 = .ok (.iload 4, 2) := by decide +kernel
theorem dX8_middleOf_13 : decode cX8_middleOf 13 = .ok (.aload_n 0, 1) := by decide +kernel
theorem dX8_middleOf_14 : decode cX8_middleOf 14 = .ok (.getfield 45, 3) := by decide +kernel
theorem dX8_middleOf_17 : decode cX8_middleOf 17 = .ok (.if_icmp .ge 72, 3) := by decide +kernel
theorem dX8_middleOf_20 : decode cX8_middleOf 20 = .ok (.aload_n 0, 1) := by decide +kernel
theorem dX8_middleOf_21 : decode cX8_middleOf 21 = .ok (.getfield 14, 3) := by decide +kernel
theorem dX8_middleOf_24 : decode cX8_middleOf 24 = .ok (.iload 4, 2) := by decide +kernel
theorem dX8_middleOf_26 : decode cX8_middleOf 26 = .ok (.invokevirtual 63, 3) := by decide +kernel
theorem dX8_middleOf_29 : decode cX8_middleOf 29 = .ok (.istore 5, 2) := by decide +kernel
theorem dX8_middleOf_31 : decode cX8_middleOf 31 = .ok (.iload_n 3, 1) := by decide +kernel
theorem dX8_middleOf_32 : decode cX8_middleOf 32 = .ok (.ifCond .lt 9, 3) := by decide +kernel
theorem dX8_middleOf_41 : decode cX8_middleOf 41 = .ok (.iconst 1, 1) := by decide +kernel
theorem dX8_middleOf_42 : decode cX8_middleOf 42 = .ok (.goto 4, 3) := by decide +kernel
theorem dX8_middleOf_46 : decode cX8_middleOf 46 = .ok (.istore 6, 2) := by decide +kernel
theorem dX8_middleOf_48 : decode cX8_middleOf 48 = .ok (.iload_n 1, 1) := by decide +kernel
theorem dX8_middleOf_49 : decode cX8_middleOf 49 = .ok (.iload 4, 2) := by decide +kernel
theorem dX8_middleOf_51 : decode cX8_middleOf 51 = .ok (.invokestatic 66, 3) := by decide +kernel
theorem dX8_middleOf_54 : decode cX8_middleOf 54 = .ok (.ifCond .eq 29, 3) := by decide +kernel
theorem dX8_middleOf_83 : decode cX8_middleOf 83 = .ok (.iinc 4 1, 3) := by decide +kernel
theorem dX8_middleOf_86 : decode cX8_middleOf 86 = .ok (.goto (-75), 3) := by decide +kernel
theorem dX8_middleOf_57 : decode cX8_middleOf 57 = .ok (.iload 6, 2) := by decide +kernel
theorem dX8_middleOf_59 : decode cX8_middleOf 59 = .ok (.ifCond .eq 24, 3) := by decide +kernel
theorem dX8_middleOf_62 : decode cX8_middleOf 62 = .ok (.iconst 2, 1) := by decide +kernel
theorem dX8_middleOf_63 : decode cX8_middleOf 63 = .ok (.aload_n 0, 1) := by decide +kernel
theorem dX8_middleOf_64 : decode cX8_middleOf 64 = .ok (.iload_n 1, 1) := by decide +kernel
theorem dX8_middleOf_65 : decode cX8_middleOf 65 = .ok (.aload_n 0, 1) := by decide +kernel
theorem dX8_middleOf_66 : decode cX8_middleOf 66 = .ok (.iload 5, 2) := by decide +kernel
theorem dX8_middleOf_68 : decode cX8_middleOf 68 = .ok (.invokevirtual 71, 3) := by decide +kernel
theorem dX8_middleOf_71 : decode cX8_middleOf 71 = .ok (.iand, 1) := by decide +kernel
theorem dX8_middleOf_72 : decode cX8_middleOf 72 = .ok (.invokevirtual 70, 3) := by decide +kernel
theorem dX8_middleOf_75 : decode cX8_middleOf 75 = .ok (.imul, 1) := by decide +kernel
theorem dX8_middleOf_76 : decode cX8_middleOf 76 = .ok (.iload_n 2, 1) := by decide +kernel
theorem dX8_middleOf_77 : decode cX8_middleOf 77 = .ok (.if_icmp .lt 6, 3) := by decide +kernel
theorem dX8_middleOf_80 : decode cX8_middleOf 80 = .ok (.iload 5, 2) := by decide +kernel
theorem dX8_middleOf_82 : decode cX8_middleOf 82 = .ok (.istore_n 3, 1) := by decide +kernel
theorem dX8_middleOf_35 : decode cX8_middleOf 35 = .ok (.iload 5, 2) := by decide +kernel
theorem dX8_middleOf_37 : decode cX8_middleOf 37 = .ok (.iload_n 3, 1) := by decide +kernel
theorem dX8_middleOf_38 : decode cX8_middleOf 38 = .ok (.if_icmp .ge 7, 3) := by decide +kernel
theorem dX8_middleOf_45 : decode cX8_middleOf 45 = .ok (.iconst 0, 1) := by decide +kernel
theorem dX8_middleOf_89 : decode cX8_middleOf 89 = .ok (.iload_n 3, 1) := by decide +kernel
theorem dX8_middleOf_90 : decode cX8_middleOf 90 = .ok (.ireturn, 1) := by decide +kernel
theorem dX8_breakAny_0 : decode cX8_breakAny 0 = .ok (.iconst 0, 1) := by decide +kernel
theorem dX8_breakAny_1 : decode cX8_breakAny 1 = .ok (.istore_n 3, 1) := by decide +kernel
theorem dX8_breakAny_2 : decode cX8_breakAny 2 = .ok (.iload_n 3, 1) := by decide +kernel
theorem dX8_breakAny_3 : decode cX8_breakAny 3 = .ok (.aload_n 1, 1) := by decide +kernel
theorem dX8_breakAny_4 : decode cX8_breakAny 4 = .ok (.invokevirtual 74, 3) := by decide +kernel
theorem dX8_breakAny_7 : decode cX8_breakAny 7 = .ok (.if_icmp .ge 46, 3) := by decide +kernel
theorem dX8_breakAny_10 : decode cX8_breakAny 10 = .ok (.iload_n 2, 1) := by decide +kernel
theorem dX8_breakAny_11 : decode cX8_breakAny 11 = .ok (.iload_n 3, 1) := by decide +kernel
theorem dX8_breakAny_12 : decode cX8_breakAny 12 = .ok (.invokestatic 66, 3) := by decide +kernel
theorem dX8_breakAny_15 : decode cX8_breakAny 15 = .ok (.ifCond .ne 32, 3) := by decide +kernel
theorem dX8_breakAny_47 : decode cX8_breakAny 47 = .ok (.iinc 3 1, 3) := by decide +kernel
theorem dX8_breakAny_50 : decode cX8_breakAny 50 = .ok (.goto (-48), 3) := by decide +kernel
theorem dX8_breakAny_18 : decode cX8_breakAny 18 = .ok (.aload_n 0, 1) := by decide +kernel
theorem dX8_breakAny_19 : decode cX8_breakAny 19 = .ok (.getfield 14, 3) := by decide +kernel
theorem dX8_breakAny_22 : decode cX8_breakAny 22 = .ok (.aload_n 1, 1) := by decide +kernel
theorem dX8_breakAny_23 : decode cX8_breakAny 23 = .ok (.iload_n 3, 1) := by decide +kernel
theorem dX8_breakAny_24 : decode cX8_breakAny 24 = .ok (.invokevirtual 77, 3) := by decide +kernel
theorem dX8_breakAny_27 : decode cX8_breakAny 27 = .ok (.invokevirtual 63, 3) := by decide +kernel
theorem dX8_breakAny_30 : decode cX8_breakAny 30 = .ok (.aload_n 0, 1) := by decide +kernel
theorem dX8_breakAny_31 : decode cX8_breakAny 31 = .ok (.getfield 14, 3) := by decide +kernel
theorem dX8_breakAny_34 : decode cX8_breakAny 34 = .ok (.aload_n 1, 1) := by decide +kernel
theorem dX8_breakAny_35 : decode cX8_breakAny 35 = .ok (.iload_n 3, 1) := by decide +kernel
theorem dX8_breakAny_36 : decode cX8_breakAny 36 = .ok (.invokevirtual 80, 3) := by decide +kernel
theorem dX8_breakAny_39 : decode cX8_breakAny 39 = .ok (.invokevirtual 63, 3) := by decide +kernel
theorem dX8_breakAny_42 : decode cX8_breakAny 42 = .ok (.if_icmp .le 5, 3) := by decide +kernel
theorem dX8_breakAny_45 : decode cX8_breakAny 45 = .ok (.iconst 1, 1) := by decide +kernel
theorem dX8_breakAny_46 : decode cX8_breakAny 46 = .ok (.ireturn, 1) := by decide +kernel
theorem dX8_breakAny_53 : decode cX8_breakAny 53 = .ok (.iconst 0, 1) := by decide +kernel
theorem dX8_breakAny_54 : decode cX8_breakAny 54 = .ok (.ireturn, 1) := by decide +kernel
theorem dX8_lay_0 : decode cX8_lay 0 = .ok (.aload_n 0, 1) := by decide +kernel
theorem dX8_lay_1 : decode cX8_lay 1 = .ok (.getfield 35, 3) := by decide +kernel
theorem dX8_lay_4 : decode cX8_lay 4 = .ok (.lload_n 2, 1) := by decide +kernel
theorem dX8_lay_5 : decode cX8_lay 5 = .ok (.lload 4, 2) := by decide +kernel
theorem dX8_lay_7 : decode cX8_lay 7 = .ok (.invokevirtual 83, 3) := by decide +kernel
theorem dX8_lay_10 : decode cX8_lay 10 = .ok (.iconst 0, 1) := by decide +kernel
theorem dX8_lay_11 : decode cX8_lay 11 = .ok (.istore 6, 2) := by decide +kernel
theorem dX8_lay_13 : decode cX8_lay 13 = .ok (.iload 6, 2) := by decide +kernel
theorem dX8_lay_15 : decode cX8_lay 15 = .ok (.aload_n 0, 1) := by decide +kernel
theorem dX8_lay_16 : decode cX8_lay 16 = .ok (.getfield 45, 3) := by decide +kernel
theorem dX8_lay_19 : decode cX8_lay 19 = .ok (.if_icmp .ge 54, 3) := by decide +kernel
theorem dX8_lay_22 : decode cX8_lay 22 = .ok (.iload_n 1, 1) := by decide +kernel
theorem dX8_lay_23 : decode cX8_lay 23 = .ok (.iload 6, 2) := by decide +kernel
theorem dX8_lay_25 : decode cX8_lay 25 = .ok (.invokestatic 66, 3) := by decide +kernel
theorem dX8_lay_28 : decode cX8_lay 28 = .ok (.ifCond .eq 39, 3) := by decide +kernel
theorem dX8_lay_67 : decode cX8_lay 67 = .ok (.iinc 6 1, 3) := by decide +kernel
theorem dX8_lay_70 : decode cX8_lay 70 = .ok (.goto (-57), 3) := by decide +kernel
theorem dX8_lay_31 : decode cX8_lay 31 = .ok (.aload_n 0, 1) := by decide +kernel
theorem dX8_lay_32 : decode cX8_lay 32 = .ok (.getfield 26, 3) := by decide +kernel
theorem dX8_lay_35 : decode cX8_lay 35 = .ok (.iload 6, 2) := by decide +kernel
theorem dX8_lay_37 : decode cX8_lay 37 = .ok (.aload_n 0, 1) := by decide +kernel
theorem dX8_lay_38 : decode cX8_lay 38 = .ok (.getfield 35, 3) := by decide +kernel
theorem dX8_lay_41 : decode cX8_lay 41 = .ok (.iconst 0, 1) := by decide +kernel
theorem dX8_lay_42 : decode cX8_lay 42 = .ok (.invokevirtual 87, 3) := by decide +kernel
theorem dX8_lay_45 : decode cX8_lay 45 = .ok (.l2i, 1) := by decide +kernel
theorem dX8_lay_46 : decode cX8_lay 46 = .ok (.invokevirtual 53, 3) := by decide +kernel
theorem dX8_lay_49 : decode cX8_lay 49 = .ok (.aload_n 0, 1) := by decide +kernel
theorem dX8_lay_50 : decode cX8_lay 50 = .ok (.getfield 29, 3) := by decide +kernel
theorem dX8_lay_53 : decode cX8_lay 53 = .ok (.iload 6, 2) := by decide +kernel
theorem dX8_lay_55 : decode cX8_lay 55 = .ok (.aload_n 0, 1) := by decide +kernel
theorem dX8_lay_56 : decode cX8_lay 56 = .ok (.getfield 35, 3) := by decide +kernel
theorem dX8_lay_59 : decode cX8_lay 59 = .ok (.iconst 1, 1) := by decide +kernel
theorem dX8_lay_60 : decode cX8_lay 60 = .ok (.invokevirtual 87, 3) := by decide +kernel
theorem dX8_lay_63 : decode cX8_lay 63 = .ok (.l2i, 1) := by decide +kernel
theorem dX8_lay_64 : decode cX8_lay 64 = .ok (.invokevirtual 53, 3) := by decide +kernel
theorem dX8_lay_73 : decode cX8_lay 73 = .ok (.return_, 1) := by decide +kernel
theorem dX8_partOf_0 : decode cX8_partOf 0 = .ok (.iload_n 2, 1) := by decide +kernel
theorem dX8_partOf_1 : decode cX8_partOf 1 = .ok (.ifCond .ne 15, 3) := by decide +kernel
theorem dX8_partOf_16 : decode cX8_partOf 16 = .ok (.aload_n 0, 1) := by decide +kernel
theorem dX8_partOf_17 : decode cX8_partOf 17 = .ok (.getfield 29, 3) := by decide +kernel
theorem dX8_partOf_20 : decode cX8_partOf 20 = .ok (.iload_n 1, 1) := by decide +kernel
theorem dX8_partOf_21 : decode cX8_partOf 21 = .ok (.invokevirtual 63, 3) := by decide +kernel
theorem dX8_partOf_24 : decode cX8_partOf 24 = .ok (.i2l, 1) := by decide +kernel
theorem dX8_partOf_25 : decode cX8_partOf 25 = .ok (.lreturn, 1) := by decide +kernel
theorem dX8_partOf_4 : decode cX8_partOf 4 = .ok (.aload_n 0, 1) := by decide +kernel
theorem dX8_partOf_5 : decode cX8_partOf 5 = .ok (.getfield 26, 3) := by decide +kernel
theorem dX8_partOf_8 : decode cX8_partOf 8 = .ok (.iload_n 1, 1) := by decide +kernel
theorem dX8_partOf_9 : decode cX8_partOf 9 = .ok (.invokevirtual 63, 3) := by decide +kernel
theorem dX8_partOf_12 : decode cX8_partOf 12 = .ok (.i2l, 1) := by decide +kernel
theorem dX8_partOf_13 : decode cX8_partOf 13 = .ok (.goto 12, 3) := by decide +kernel
theorem dX8_gradeIn_0 : decode cX8_gradeIn 0 = .ok (.aload_n 1, 1) := by decide +kernel
theorem dX8_gradeIn_1 : decode cX8_gradeIn 1 = .ok (.aload_n 0, 1) := by decide +kernel
theorem dX8_gradeIn_2 : decode cX8_gradeIn 2 = .ok (.getfield 26, 3) := by decide +kernel
theorem dX8_gradeIn_5 : decode cX8_gradeIn 5 = .ok (.iload_n 2, 1) := by decide +kernel
theorem dX8_gradeIn_6 : decode cX8_gradeIn 6 = .ok (.invokevirtual 63, 3) := by decide +kernel
theorem dX8_gradeIn_9 : decode cX8_gradeIn 9 = .ok (.i2l, 1) := by decide +kernel
theorem dX8_gradeIn_10 : decode cX8_gradeIn 10 = .ok (.aload_n 0, 1) := by decide +kernel
theorem dX8_gradeIn_11 : decode cX8_gradeIn 11 = .ok (.getfield 29, 3) := by decide +kernel
theorem dX8_gradeIn_14 : decode cX8_gradeIn 14 = .ok (.iload_n 2, 1) := by decide +kernel
theorem dX8_gradeIn_15 : decode cX8_gradeIn 15 = .ok (.invokevirtual 63, 3) := by decide +kernel
theorem dX8_gradeIn_18 : decode cX8_gradeIn 18 = .ok (.i2l, 1) := by decide +kernel
theorem dX8_gradeIn_19 : decode cX8_gradeIn 19 = .ok (.invokevirtual 91, 3) := by decide +kernel
theorem dX8_gradeIn_22 : decode cX8_gradeIn 22 = .ok (.ireturn, 1) := by decide +kernel
theorem dX8_isMark_0 : decode cX8_isMark 0 = .ok (.aload_n 0, 1) := by decide +kernel
theorem dX8_isMark_1 : decode cX8_isMark 1 = .ok (.getfield 26, 3) := by decide +kernel
theorem dX8_isMark_4 : decode cX8_isMark 4 = .ok (.iload_n 1, 1) := by decide +kernel
theorem dX8_isMark_5 : decode cX8_isMark 5 = .ok (.invokevirtual 63, 3) := by decide +kernel
theorem dX8_isMark_8 : decode cX8_isMark 8 = .ok (.aload_n 0, 1) := by decide +kernel
theorem dX8_isMark_9 : decode cX8_isMark 9 = .ok (.getfield 14, 3) := by decide +kernel
theorem dX8_isMark_12 : decode cX8_isMark 12 = .ok (.iload_n 1, 1) := by decide +kernel
theorem dX8_isMark_13 : decode cX8_isMark 13 = .ok (.invokevirtual 63, 3) := by decide +kernel
theorem dX8_isMark_16 : decode cX8_isMark 16 = .ok (.if_icmp .ne 19, 3) := by decide +kernel
theorem dX8_isMark_35 : decode cX8_isMark 35 = .ok (.iconst 0, 1) := by decide +kernel
theorem dX8_isMark_36 : decode cX8_isMark 36 = .ok (.ireturn, 1) := by decide +kernel
theorem dX8_isMark_19 : decode cX8_isMark 19 = .ok (.aload_n 0, 1) := by decide +kernel
theorem dX8_isMark_20 : decode cX8_isMark 20 = .ok (.getfield 29, 3) := by decide +kernel
theorem dX8_isMark_23 : decode cX8_isMark 23 = .ok (.iload_n 1, 1) := by decide +kernel
theorem dX8_isMark_24 : decode cX8_isMark 24 = .ok (.invokevirtual 63, 3) := by decide +kernel
theorem dX8_isMark_27 : decode cX8_isMark 27 = .ok (.iconst 1, 1) := by decide +kernel
theorem dX8_isMark_28 : decode cX8_isMark 28 = .ok (.if_icmp .ne 7, 3) := by decide +kernel
theorem dX8_isMark_31 : decode cX8_isMark 31 = .ok (.iconst 1, 1) := by decide +kernel
theorem dX8_isMark_32 : decode cX8_isMark 32 = .ok (.goto 4, 3) := by decide +kernel
theorem dX8_addChange_0 : decode cX8_addChange 0 = .ok (.aload_n 0, 1) := by decide +kernel
theorem dX8_addChange_1 : decode cX8_addChange 1 = .ok (.getfield 29, 3) := by decide +kernel
theorem dX8_addChange_4 : decode cX8_addChange 4 = .ok (.iload_n 3, 1) := by decide +kernel
theorem dX8_addChange_5 : decode cX8_addChange 5 = .ok (.invokevirtual 63, 3) := by decide +kernel
theorem dX8_addChange_8 : decode cX8_addChange 8 = .ok (.i2l, 1) := by decide +kernel
theorem dX8_addChange_9 : decode cX8_addChange 9 = .ok (.lstore 4, 2) := by decide +kernel
theorem dX8_addChange_11 : decode cX8_addChange 11 = .ok (.aload_n 0, 1) := by decide +kernel
theorem dX8_addChange_12 : decode cX8_addChange 12 = .ok (.getfield 26, 3) := by decide +kernel
theorem dX8_addChange_15 : decode cX8_addChange 15 = .ok (.iload_n 3, 1) := by decide +kernel
theorem dX8_addChange_16 : decode cX8_addChange 16 = .ok (.invokevirtual 63, 3) := by decide +kernel
theorem dX8_addChange_19 : decode cX8_addChange 19 = .ok (.i2l, 1) := by decide +kernel
theorem dX8_addChange_20 : decode cX8_addChange 20 = .ok (.aload_n 0, 1) := by decide +kernel
theorem dX8_addChange_21 : decode cX8_addChange 21 = .ok (.getfield 14, 3) := by decide +kernel
theorem dX8_addChange_24 : decode cX8_addChange 24 = .ok (.iload_n 3, 1) := by decide +kernel
theorem dX8_addChange_25 : decode cX8_addChange 25 = .ok (.invokevirtual 63, 3) := by decide +kernel
theorem dX8_addChange_28 : decode cX8_addChange 28 = .ok (.i2l, 1) := by decide +kernel
theorem dX8_addChange_29 : decode cX8_addChange 29 = .ok (.lload 4, 2) := by decide +kernel
theorem dX8_addChange_31 : decode cX8_addChange 31 = .ok (.lmul, 1) := by decide +kernel
theorem dX8_addChange_32 : decode cX8_addChange 32 = .ok (.lsub, 1) := by decide +kernel
theorem dX8_addChange_33 : decode cX8_addChange 33 = .ok (.invokestatic 99, 3) := by decide +kernel
theorem dX8_addChange_36 : decode cX8_addChange 36 = .ok (.lstore 6, 2) := by decide +kernel
theorem dX8_addChange_38 : decode cX8_addChange 38 = .ok (.iload_n 2, 1) := by decide +kernel
theorem dX8_addChange_39 : decode cX8_addChange 39 = .ok (.ifCond .ne 30, 3) := by decide +kernel
theorem dX8_addChange_69 : decode cX8_addChange 69 = .ok (.iload_n 2, 1) := by decide +kernel
theorem dX8_addChange_70 : decode cX8_addChange 70 = .ok (.iconst 1, 1) := by decide +kernel
theorem dX8_addChange_71 : decode cX8_addChange 71 = .ok (.if_icmp .ne 24, 3) := by decide +kernel
theorem dX8_addChange_95 : decode cX8_addChange 95 = .ok (.aload_n 1, 1) := by decide +kernel
theorem dX8_addChange_96 : decode cX8_addChange 96 = .ok (.lload 6, 2) := by decide +kernel
theorem dX8_addChange_98 : decode cX8_addChange 98 = .ok (.lload 4, 2) := by decide +kernel
theorem dX8_addChange_100 : decode cX8_addChange 100 = .ok (.invokevirtual 108, 3) := by decide +kernel
theorem dX8_addChange_103 : decode cX8_addChange 103 = .ok (.ifCond .eq 11, 3) := by decide +kernel
theorem dX8_addChange_114 : decode cX8_addChange 114 = .ok (.return_, 1) := by decide +kernel
theorem dX8_addChange_106 : decode cX8_addChange 106 = .ok (.aload_n 1, 1) := by decide +kernel
theorem dX8_addChange_107 : decode cX8_addChange 107 = .ok (.lload 6, 2) := by decide +kernel
theorem dX8_addChange_109 : decode cX8_addChange 109 = .ok (.lload 4, 2) := by decide +kernel
theorem dX8_addChange_111 : decode cX8_addChange 111 = .ok (.invokevirtual 83, 3) := by decide +kernel
theorem dX8_addChange_74 : decode cX8_addChange 74 = .ok (.aload_n 1, 1) := by decide +kernel
theorem dX8_addChange_75 : decode cX8_addChange 75 = .ok (.aload_n 0, 1) := by decide +kernel
theorem dX8_addChange_76 : decode cX8_addChange 76 = .ok (.getfield 20, 3) := by decide +kernel
theorem dX8_addChange_79 : decode cX8_addChange 79 = .ok (.iload_n 3, 1) := by decide +kernel
theorem dX8_addChange_80 : decode cX8_addChange 80 = .ok (.invokevirtual 63, 3) := by decide +kernel
theorem dX8_addChange_83 : decode cX8_addChange 83 = .ok (.i2l, 1) := by decide +kernel
theorem dX8_addChange_84 : decode cX8_addChange 84 = .ok (.lload 6, 2) := by decide +kernel
theorem dX8_addChange_86 : decode cX8_addChange 86 = .ok (.lmul, 1) := by decide +kernel
theorem dX8_addChange_87 : decode cX8_addChange 87 = .ok (.lload 4, 2) := by decide +kernel
theorem dX8_addChange_89 : decode cX8_addChange 89 = .ok (.invokevirtual 105, 3) := by decide +kernel
theorem dX8_addChange_92 : decode cX8_addChange 92 = .ok (.goto 22, 3) := by decide +kernel
theorem dX8_addChange_42 : decode cX8_addChange 42 = .ok (.aload_n 1, 1) := by decide +kernel
theorem dX8_addChange_43 : decode cX8_addChange 43 = .ok (.aload_n 0, 1) := by decide +kernel
theorem dX8_addChange_44 : decode cX8_addChange 44 = .ok (.getfield 20, 3) := by decide +kernel
theorem dX8_addChange_47 : decode cX8_addChange 47 = .ok (.iload_n 3, 1) := by decide +kernel
theorem dX8_addChange_48 : decode cX8_addChange 48 = .ok (.invokevirtual 63, 3) := by decide +kernel
theorem dX8_addChange_51 : decode cX8_addChange 51 = .ok (.i2l, 1) := by decide +kernel
theorem dX8_addChange_52 : decode cX8_addChange 52 = .ok (.lload 6, 2) := by decide +kernel
theorem dX8_addChange_54 : decode cX8_addChange 54 = .ok (.lmul, 1) := by decide +kernel
theorem dX8_addChange_55 : decode cX8_addChange 55 = .ok (.lload 6, 2) := by decide +kernel
theorem dX8_addChange_57 : decode cX8_addChange 57 = .ok (.lmul, 1) := by decide +kernel
theorem dX8_addChange_58 : decode cX8_addChange 58 = .ok (.lload 4, 2) := by decide +kernel
theorem dX8_addChange_60 : decode cX8_addChange 60 = .ok (.lload 4, 2) := by decide +kernel
theorem dX8_addChange_62 : decode cX8_addChange 62 = .ok (.lmul, 1) := by decide +kernel
theorem dX8_addChange_63 : decode cX8_addChange 63 = .ok (.invokevirtual 105, 3) := by decide +kernel
theorem dX8_addChange_66 : decode cX8_addChange 66 = .ok (.goto 48, 3) := by decide +kernel
theorem dX8_workChange_0 : decode cX8_workChange 0 = .ok (.aload_n 1, 1) := by decide +kernel
theorem dX8_workChange_1 : decode cX8_workChange 1 = .ok (.lconst 0, 1) := by decide +kernel
theorem dX8_workChange_2 : decode cX8_workChange 2 = .ok (.lconst 1, 1) := by decide +kernel
theorem dX8_workChange_3 : decode cX8_workChange 3 = .ok (.invokevirtual 83, 3) := by decide +kernel
theorem dX8_workChange_6 : decode cX8_workChange 6 = .ok (.iconst 0, 1) := by decide +kernel
theorem dX8_workChange_7 : decode cX8_workChange 7 = .ok (.istore_n 3, 1) := by decide +kernel
theorem dX8_workChange_8 : decode cX8_workChange 8 = .ok (.iload_n 3, 1) := by decide +kernel
theorem dX8_workChange_9 : decode cX8_workChange 9 = .ok (.bipush 9, 2) := by decide +kernel
theorem dX8_workChange_11 : decode cX8_workChange 11 = .ok (.if_icmp .gt 48, 3) := by decide +kernel
theorem dX8_workChange_14 : decode cX8_workChange 14 = .ok (.iconst 0, 1) := by decide +kernel
theorem dX8_workChange_15 : decode cX8_workChange 15 = .ok (.istore 4, 2) := by decide +kernel
theorem dX8_workChange_17 : decode cX8_workChange 17 = .ok (.iload 4, 2) := by decide +kernel
theorem dX8_workChange_19 : decode cX8_workChange 19 = .ok (.aload_n 0, 1) := by decide +kernel
theorem dX8_workChange_20 : decode cX8_workChange 20 = .ok (.getfield 45, 3) := by decide +kernel
theorem dX8_workChange_23 : decode cX8_workChange 23 = .ok (.if_icmp .ge 30, 3) := by decide +kernel
theorem dX8_workChange_26 : decode cX8_workChange 26 = .ok (.aload_n 0, 1) := by decide +kernel
theorem dX8_workChange_27 : decode cX8_workChange 27 = .ok (.getfield 23, 3) := by decide +kernel
theorem dX8_workChange_30 : decode cX8_workChange 30 = .ok (.iload 4, 2) := by decide +kernel
theorem dX8_workChange_32 : decode cX8_workChange 32 = .ok (.invokevirtual 63, 3) := by decide +kernel
theorem dX8_workChange_35 : decode cX8_workChange 35 = .ok (.iload_n 3, 1) := by decide +kernel
theorem dX8_workChange_36 : decode cX8_workChange 36 = .ok (.if_icmp .ne 11, 3) := by decide +kernel
theorem dX8_workChange_47 : decode cX8_workChange 47 = .ok (.iinc 4 1, 3) := by decide +kernel
theorem dX8_workChange_50 : decode cX8_workChange 50 = .ok (.goto (-33), 3) := by decide +kernel
theorem dX8_workChange_39 : decode cX8_workChange 39 = .ok (.aload_n 0, 1) := by decide +kernel
theorem dX8_workChange_40 : decode cX8_workChange 40 = .ok (.aload_n 1, 1) := by decide +kernel
theorem dX8_workChange_41 : decode cX8_workChange 41 = .ok (.iload_n 2, 1) := by decide +kernel
theorem dX8_workChange_42 : decode cX8_workChange 42 = .ok (.iload 4, 2) := by decide +kernel
theorem dX8_workChange_44 : decode cX8_workChange 44 = .ok (.invokevirtual 95, 3) := by decide +kernel
theorem dX8_workChange_53 : decode cX8_workChange 53 = .ok (.iinc 3 1, 3) := by decide +kernel
theorem dX8_workChange_56 : decode cX8_workChange 56 = .ok (.goto (-48), 3) := by decide +kernel
theorem dX8_workChange_59 : decode cX8_workChange 59 = .ok (.return_, 1) := by decide +kernel
theorem dX8_doesBind_0 : decode cX8_doesBind 0 = .ok (.aload_n 1, 1) := by decide +kernel
theorem dX8_doesBind_1 : decode cX8_doesBind 1 = .ok (.iload_n 2, 1) := by decide +kernel
theorem dX8_doesBind_2 : decode cX8_doesBind 2 = .ok (.invokevirtual 77, 3) := by decide +kernel
theorem dX8_doesBind_5 : decode cX8_doesBind 5 = .ok (.istore_n 3, 1) := by decide +kernel
theorem dX8_doesBind_6 : decode cX8_doesBind 6 = .ok (.aload_n 1, 1) := by decide +kernel
theorem dX8_doesBind_7 : decode cX8_doesBind 7 = .ok (.iload_n 2, 1) := by decide +kernel
theorem dX8_doesBind_8 : decode cX8_doesBind 8 = .ok (.invokevirtual 80, 3) := by decide +kernel
theorem dX8_doesBind_11 : decode cX8_doesBind 11 = .ok (.istore 4, 2) := by decide +kernel
theorem dX8_doesBind_13 : decode cX8_doesBind 13 = .ok (.aload_n 0, 1) := by decide +kernel
theorem dX8_doesBind_14 : decode cX8_doesBind 14 = .ok (.getfield 26, 3) := by decide +kernel
theorem dX8_doesBind_17 : decode cX8_doesBind 17 = .ok (.iload_n 3, 1) := by decide +kernel
theorem dX8_doesBind_18 : decode cX8_doesBind 18 = .ok (.invokevirtual 63, 3) := by decide +kernel
theorem dX8_doesBind_21 : decode cX8_doesBind 21 = .ok (.aload_n 0, 1) := by decide +kernel
theorem dX8_doesBind_22 : decode cX8_doesBind 22 = .ok (.getfield 26, 3) := by decide +kernel
theorem dX8_doesBind_25 : decode cX8_doesBind 25 = .ok (.iload 4, 2) := by decide +kernel
theorem dX8_doesBind_27 : decode cX8_doesBind 27 = .ok (.invokevirtual 63, 3) := by decide +kernel
theorem dX8_doesBind_30 : decode cX8_doesBind 30 = .ok (.if_icmp .ne 27, 3) := by decide +kernel
theorem dX8_doesBind_57 : decode cX8_doesBind 57 = .ok (.iconst 0, 1) := by decide +kernel
theorem dX8_doesBind_58 : decode cX8_doesBind 58 = .ok (.ireturn, 1) := by decide +kernel
theorem dX8_doesBind_33 : decode cX8_doesBind 33 = .ok (.aload_n 0, 1) := by decide +kernel
theorem dX8_doesBind_34 : decode cX8_doesBind 34 = .ok (.getfield 29, 3) := by decide +kernel
theorem dX8_doesBind_37 : decode cX8_doesBind 37 = .ok (.iload_n 3, 1) := by decide +kernel
theorem dX8_doesBind_38 : decode cX8_doesBind 38 = .ok (.invokevirtual 63, 3) := by decide +kernel
theorem dX8_doesBind_41 : decode cX8_doesBind 41 = .ok (.aload_n 0, 1) := by decide +kernel
theorem dX8_doesBind_42 : decode cX8_doesBind 42 = .ok (.getfield 29, 3) := by decide +kernel
theorem dX8_doesBind_45 : decode cX8_doesBind 45 = .ok (.iload 4, 2) := by decide +kernel
theorem dX8_doesBind_47 : decode cX8_doesBind 47 = .ok (.invokevirtual 63, 3) := by decide +kernel
theorem dX8_doesBind_50 : decode cX8_doesBind 50 = .ok (.if_icmp .ne 7, 3) := by decide +kernel
theorem dX8_doesBind_53 : decode cX8_doesBind 53 = .ok (.iconst 1, 1) := by decide +kernel
theorem dX8_doesBind_54 : decode cX8_doesBind 54 = .ok (.goto 4, 3) := by decide +kernel
set_option maxHeartbeats 4000000 in
set_option maxRecDepth 100000 in
theorem c_X8_middleOf (l : Launch) (g : GG) (a0 : Nat → Nat) (v0_marks : (Nat → Int32)) (v0_weights : (Nat → Int32)) (v0_places : (Nat → Int32)) (v0_aboves : (Nat → Int32)) (v0_belows : (Nat → Int32)) (v0_reduced_above : Int64) (v0_reduced_below : Int64) (v0_papers : Int32) (p1 : Int32) (hne : (m_X8_middleOf (v0_marks, v0_weights, v0_places, v0_aboves, v0_belows, (v0_reduced_above, v0_reduced_below), v0_papers) p1) ≠ none) : Ct l g yX8_middleOf cX8_middleOf 7 (some .int) ({ frames := 2, cells := 0, slots := 0, locals := 44 } : Room) [.ref (a0 0), .int p1] (wX8 a0 g v0_marks v0_weights v0_places v0_aboves v0_belows v0_reduced_above v0_reduced_below v0_papers) (Qi g .int (m_X8_middleOf (v0_marks, v0_weights, v0_places, v0_aboves, v0_belows, (v0_reduced_above, v0_reduced_below), v0_papers) p1) (fun u => u) (fun u => wX8 a0 g v0_marks v0_weights v0_places v0_aboves v0_belows v0_reduced_above v0_reduced_below v0_papers)) 0 0 := by
  obtain ⟨out, hf⟩ := ne_ex hne
  have hf0 := hf
  refine Ct.of (own := RX8) (by decide +kernel) rfl (Nat.le_of_ble_eq_true rfl) ?_
  intro p e s m below meth c hx hb hr hml hown hts hlocks hin hK A H locs hA hP hD hS hE ls hl
  have hl : lv_has ls 7 [(0, .ref (a0 0)), (1, .int p1)] := hl
  unfold m_X8_middleOf at hf
  refine lv_aload_n hx hb dX8_middleOf_0 rfl (lv_at hl 0 rfl) ?_
  refine lv_iload_n hx hb dX8_middleOf_1 rfl (lv_at hl 1 rfl) ?_
  refine cIp hP hD hS hA hE (fun hPc hDc hSc => rV (As := [.int p1]) (rest := []) hx hb hml hown hts hK (c_X8_weightOf l g a0 v0_marks v0_weights v0_places v0_aboves v0_belows v0_reduced_above v0_reduced_below v0_papers p1 (bnd_ne hf)) svV_X8_weightOf kw732 rfl rfl hPc hDc hSc rfl rfl hl.1 (Nat.le_of_ble_eq_true rfl) dX8_middleOf_2 ⟨Nat.le_of_ble_eq_true rfl, Nat.le_of_ble_eq_true rfl, rfl, rfl, Nat.le_of_ble_eq_true rfl, Nat.le_of_ble_eq_true rfl⟩) [(0, 12)] rfl rfl rfl (fun x1 H locs ex1 nx1 hP hS => ?_)
  have hf := bnd_of hf ex1
  refine lv_istore_n (lv' := [(2, .int x1), (0, .ref (a0 0)), (1, .int p1)]) hx hb dX8_middleOf_5 rfl hl (by decide) rfl (fun ls hl => ?_)
  refine lv_iconst (v := (-1)) hx hb dX8_middleOf_6 (by decide) ?_
  refine lv_istore_n (lv' := [(3, .int (-1 : Int32)), (2, .int x1), (0, .ref (a0 0)), (1, .int p1)]) hx hb dX8_middleOf_7 rfl hl (by decide) rfl (fun ls hl => ?_)
  refine lv_iconst (v := 0) hx hb dX8_middleOf_8 (by decide) ?_
  refine lv_istore (lv' := [(4, .int (0 : Int32)), (3, .int (-1 : Int32)), (2, .int x1), (0, .ref (a0 0)), (1, .int p1)]) hx hb dX8_middleOf_9 hl (by decide) rfl (fun ls hl => ?_)
  obtain ⟨r20, er20, hf⟩ := bnd hf
  refine lp_W (P := fun z => ∀ (H : Heap) (locs : List Loc) (ls : Array Slot), va_P g.1 vwCl (wX8 a0 g v0_marks v0_weights v0_places v0_aboves v0_belows v0_reduced_above v0_reduced_below v0_papers) H → va_D A (wX8 a0 g v0_marks v0_weights v0_places v0_aboves v0_belows v0_reduced_above v0_reduced_below v0_papers) → va_S A s.heap H locs → lv_has ls 7 [(0, .ref (a0 0)), (1, .int p1), (2, .int x1), (3, .int z.1), (4, .int z.2)] → W p l e { frames := 2, cells := 0, slots := 0, locals := 44 } s m [.ref (a0 0), .int p1].toArray below meth c H locs 0 0 (MQ below (Qi g .int (m_X8_middleOf (v0_marks, v0_weights, v0_places, v0_aboves, v0_belows, (v0_reduced_above, v0_reduced_below), v0_papers) p1) (fun u => u) (fun u => wX8 a0 g v0_marks v0_weights v0_places v0_aboves v0_belows v0_reduced_above v0_reduced_below v0_papers) A) [.ref (a0 0), .int p1].toArray s 0 0 A) (F0 m 11 ls [])) (E := fun r20 => ∀ (H : Heap) (locs : List Loc) (ls : Array Slot), va_P g.1 vwCl (wX8 a0 g v0_marks v0_weights v0_places v0_aboves v0_belows v0_reduced_above v0_reduced_below v0_papers) H → va_D A (wX8 a0 g v0_marks v0_weights v0_places v0_aboves v0_belows v0_reduced_above v0_reduced_below v0_papers) → va_S A s.heap H locs → lv_has ls 7 [(3, .int r20)] → W p l e { frames := 2, cells := 0, slots := 0, locals := 44 } s m [.ref (a0 0), .int p1].toArray below meth c H locs 0 0 (MQ below (Qi g .int (m_X8_middleOf (v0_marks, v0_weights, v0_places, v0_aboves, v0_belows, (v0_reduced_above, v0_reduced_below), v0_papers) p1) (fun u => u) (fun u => wX8 a0 g v0_marks v0_weights v0_places v0_aboves v0_belows v0_reduced_above v0_reduced_below v0_papers) A) [.ref (a0 0), .int p1].toArray s 0 0 A) (F0 m 89 ls [])) ?_ fu _ r20 er20 ?_ _ _ _ hP hD hS (lv_sub hl [3, 4, 2, 1, 0] rfl)
  · rintro ⟨x10, x11⟩ y hf hB hXt H locs ls hP hD hS hl
    have hP : va_P g.1 vwCl (wX8 a0 g v0_marks v0_weights v0_places v0_aboves v0_belows v0_reduced_above v0_reduced_below v0_papers) H := hP
    have hD : va_D A (wX8 a0 g v0_marks v0_weights v0_places v0_aboves v0_belows v0_reduced_above v0_reduced_below v0_papers) := hD
    have hl : lv_has ls 7 [(0, .ref (a0 0)), (1, .int p1), (2, .int x1), (3, .int x10), (4, .int x11)] := hl
    have hf : m_X8_middleOf_l11 (v0_marks, v0_weights, v0_places, v0_aboves, v0_belows, (v0_reduced_above, v0_reduced_below), v0_papers) p1 x1 x10 x11 = some y := hf
    unfold m_X8_middleOf_l11 at hf
    refine lv_iload hx hb dX8_middleOf_11 (lv_at hl 4 rfl) ?_
    refine lv_aload_n hx hb dX8_middleOf_13 rfl (lv_at hl 0 rfl) ?_
    refine va_get (D := g.1) (ci := 9) (v := .int v0_papers) (C := RX8) (T := TX8) (N := 7) hx hb hts layX8 hown hK.1 hP 0 rfl rfl 6 (by decide) (hts _ kw157) (fun _ h9 => h9) rfl dX8_middleOf_14 ?_
    refine lv_icmp_ge (tgt := 89) hx hb dX8_middleOf_17 (by decide) (fun cb => ?_) (fun cb => ?_)
    · have hf := it_t cb hf
      exact hXt _ (Option.some.inj hf).symm _ _ _ hP hD hS (lv_sub hl [3] rfl)
    have hf := it_f cb hf
    refine lv_aload_n hx hb dX8_middleOf_20 rfl (lv_at hl 0 rfl) ?_
    refine va_get (D := g.1) (ci := 9) (v := .ref (a0 1)) (C := RX8) (T := TX8) (N := 7) hx hb hts layX8 hown hK.1 hP 0 rfl rfl 0 (by decide) (hts _ kw151) (fun _ h9 => h9) rfl dX8_middleOf_21 ?_
    refine lv_iload hx hb dX8_middleOf_24 (lv_at hl 4 rfl) ?_
    refine cIp hP hD hS hA hE (fun hPc hDc hSc => rV (As := [.int x11]) (rest := []) hx hb hml hown hts hK (c_X2_get l g (fun i => a0 (i + 1)) 7 v0_marks x11 (bnd_ne hf)) svV_X2_get kw698 rfl rfl hPc hDc hSc rfl rfl hl.1 (Nat.le_of_ble_eq_true rfl) dX8_middleOf_26 ⟨Nat.le_of_ble_eq_true rfl, Nat.le_of_ble_eq_true rfl, rfl, rfl, Nat.le_of_ble_eq_true rfl, Nat.le_of_ble_eq_true rfl⟩) [(1, 2)] rfl rfl rfl (fun x12 H locs ex12 nx12 hP hS => ?_)
    have hf := bnd_of hf ex12
    refine lv_istore (lv' := [(5, .int x12), (0, .ref (a0 0)), (1, .int p1), (2, .int x1), (3, .int x10), (4, .int x11)]) hx hb dX8_middleOf_29 hl (by decide) rfl (fun ls hl => ?_)
    refine lv_iload_n hx hb dX8_middleOf_31 rfl (lv_at hl 4 rfl) ?_
    refine lv_if_lt (tgt := 41) hx hb dX8_middleOf_32 (by decide) (fun cb => ?_) (fun cb => ?_)
    · have hf := it_t cb hf
      refine lv_iconst (v := 1) hx hb dX8_middleOf_41 (by decide) ?_
      refine lv_goto (tgt := 46) hx hb dX8_middleOf_42 (by decide) ?_
      refine lv_istore (lv' := [(6, .int (1 : Int32)), (5, .int x12), (0, .ref (a0 0)), (1, .int p1), (2, .int x1), (3, .int x10), (4, .int x11)]) hx hb dX8_middleOf_46 hl (by decide) rfl (fun ls hl => ?_)
      refine lv_iload_n hx hb dX8_middleOf_48 rfl (lv_at hl 3 rfl) ?_
      refine lv_iload hx hb dX8_middleOf_49 (lv_at hl 6 rfl) ?_
      refine cIp hP hD hS hA hE (fun hPc hDc hSc => rSN (As := [.int p1, .int x11]) (rest := []) hx hb hml hown hts hK (c_X9_hasBit l g p1 x11 (bnd_ne hf)) svS_X9_hasBit nw16 hPc hDc hSc rfl rfl hl.1 (Nat.le_of_ble_eq_true rfl) dX8_middleOf_51 ⟨Nat.le_of_ble_eq_true rfl, Nat.le_of_ble_eq_true rfl, rfl, rfl, Nat.le_of_ble_eq_true rfl, Nat.le_of_ble_eq_true rfl⟩) [] rfl rfl rfl (fun x13 H locs ex13 nx13 hP hS => ?_)
      have hf := bnd_of hf ex13
      refine lv_if_eq (tgt := 83) hx hb dX8_middleOf_54 (by decide) (fun cb => ?_) (fun cb => ?_)
      · have hf := it_t cb hf
        refine lv_iinc (v := (x11 + 1)) (lv' := [(4, .int (x11 + 1)), (6, .int (1 : Int32)), (5, .int x12), (0, .ref (a0 0)), (1, .int p1), (2, .int x1), (3, .int x10)]) hx hb dX8_middleOf_83 hl (k := 6) rfl (by rfl) (by decide) rfl (fun ls hl => ?_)
        refine lv_goto (tgt := 11) hx hb dX8_middleOf_86 (by decide) ?_
        exact hB _ (Option.some.inj hf).symm _ _ _ hP hD hS (lv_sub hl [3, 4, 5, 6, 0] rfl)
      have hf := it_f cb hf
      refine lv_iload hx hb dX8_middleOf_57 (lv_at hl 0 rfl) ?_
      refine lv_if_eq (tgt := 83) hx hb dX8_middleOf_59 (by decide) (fun cb => ?_) (fun cb => ?_)
      · have hf := it_t cb hf
        refine lv_iinc (v := (x11 + 1)) (lv' := [(4, .int (x11 + 1)), (6, .int (1 : Int32)), (5, .int x12), (0, .ref (a0 0)), (1, .int p1), (2, .int x1), (3, .int x10)]) hx hb dX8_middleOf_83 hl (k := 6) rfl (by rfl) (by decide) rfl (fun ls hl => ?_)
        refine lv_goto (tgt := 11) hx hb dX8_middleOf_86 (by decide) ?_
        exact hB _ (Option.some.inj hf).symm _ _ _ hP hD hS (lv_sub hl [3, 4, 5, 6, 0] rfl)
      have hf := it_f cb hf
      refine lv_iconst (v := 2) hx hb dX8_middleOf_62 (by decide) ?_
      refine lv_aload_n hx hb dX8_middleOf_63 rfl (lv_at hl 2 rfl) ?_
      refine lv_iload_n hx hb dX8_middleOf_64 rfl (lv_at hl 3 rfl) ?_
      refine lv_aload_n hx hb dX8_middleOf_65 rfl (lv_at hl 2 rfl) ?_
      refine lv_iload hx hb dX8_middleOf_66 (lv_at hl 1 rfl) ?_
      refine cIp hP hD hS hA hE (fun hPc hDc hSc => rV (As := [.int x12]) (rest := [.int p1, .ref (a0 0), .int (2 : Int32)]) hx hb hml hown hts hK (c_X8_papersUpTo l g a0 v0_marks v0_weights v0_places v0_aboves v0_belows v0_reduced_above v0_reduced_below v0_papers x12 (bnd_ne hf)) svV_X8_papersUpTo kw736 rfl rfl hPc hDc hSc rfl rfl hl.1 (Nat.le_of_ble_eq_true rfl) dX8_middleOf_68 ⟨Nat.le_of_ble_eq_true rfl, Nat.le_of_ble_eq_true rfl, rfl, rfl, Nat.le_of_ble_eq_true rfl, Nat.le_of_ble_eq_true rfl⟩) [(0, 12)] rfl rfl rfl (fun x14 H locs ex14 nx14 hP hS => ?_)
      have hf := bnd_of hf ex14
      refine lv_iand hx hb dX8_middleOf_71 ?_
      refine cIp hP hD hS hA hE (fun hPc hDc hSc => rV (As := [.int (p1 &&& x14)]) (rest := [.int (2 : Int32)]) hx hb hml hown hts hK (c_X8_weightOf l g a0 v0_marks v0_weights v0_places v0_aboves v0_belows v0_reduced_above v0_reduced_below v0_papers (p1 &&& x14) (bnd_ne hf)) svV_X8_weightOf kw732 rfl rfl hPc hDc hSc rfl rfl hl.1 (Nat.le_of_ble_eq_true rfl) dX8_middleOf_72 ⟨Nat.le_of_ble_eq_true rfl, Nat.le_of_ble_eq_true rfl, rfl, rfl, Nat.le_of_ble_eq_true rfl, Nat.le_of_ble_eq_true rfl⟩) [(0, 12)] rfl rfl rfl (fun x15 H locs ex15 nx15 hP hS => ?_)
      have hf := bnd_of hf ex15
      refine lv_imul hx hb dX8_middleOf_75 ?_
      refine lv_iload_n hx hb dX8_middleOf_76 rfl (lv_at hl 4 rfl) ?_
      refine lv_icmp_lt (tgt := 83) hx hb dX8_middleOf_77 (by decide) (fun cb => ?_) (fun cb => ?_)
      · have hf := it_t cb hf
        refine lv_iinc (v := (x11 + 1)) (lv' := [(4, .int (x11 + 1)), (6, .int (1 : Int32)), (5, .int x12), (0, .ref (a0 0)), (1, .int p1), (2, .int x1), (3, .int x10)]) hx hb dX8_middleOf_83 hl (k := 6) rfl (by rfl) (by decide) rfl (fun ls hl => ?_)
        refine lv_goto (tgt := 11) hx hb dX8_middleOf_86 (by decide) ?_
        exact hB _ (Option.some.inj hf).symm _ _ _ hP hD hS (lv_sub hl [3, 4, 5, 6, 0] rfl)
      have hf := it_f cb hf
      refine lv_iload hx hb dX8_middleOf_80 (lv_at hl 1 rfl) ?_
      refine lv_istore_n (lv' := [(3, .int x12), (6, .int (1 : Int32)), (5, .int x12), (0, .ref (a0 0)), (1, .int p1), (2, .int x1), (4, .int x11)]) hx hb dX8_middleOf_82 rfl hl (by decide) rfl (fun ls hl => ?_)
      refine lv_iinc (v := (x11 + 1)) (lv' := [(4, .int (x11 + 1)), (3, .int x12), (6, .int (1 : Int32)), (5, .int x12), (0, .ref (a0 0)), (1, .int p1), (2, .int x1)]) hx hb dX8_middleOf_83 hl (k := 6) rfl (by rfl) (by decide) rfl (fun ls hl => ?_)
      refine lv_goto (tgt := 11) hx hb dX8_middleOf_86 (by decide) ?_
      exact hB _ (Option.some.inj hf).symm _ _ _ hP hD hS (lv_sub hl [4, 5, 6, 1, 0] rfl)
    have hf := it_f cb hf
    refine lv_iload hx hb dX8_middleOf_35 (lv_at hl 0 rfl) ?_
    refine lv_iload_n hx hb dX8_middleOf_37 rfl (lv_at hl 4 rfl) ?_
    obtain ⟨r16, er16, hf⟩ := bnd hf
    have K : ∀ (H : Heap) (locs : List Loc) (ls : Array Slot), va_P g.1 vwCl (wX8 a0 g v0_marks v0_weights v0_places v0_aboves v0_belows v0_reduced_above v0_reduced_below v0_papers) H → va_D A (wX8 a0 g v0_marks v0_weights v0_places v0_aboves v0_belows v0_reduced_above v0_reduced_below v0_papers) → va_S A s.heap H locs → lv_has ls 7 [(0, .ref (a0 0)), (1, .int p1), (2, .int x1), (3, .int x10), (4, .int x11), (5, .int x12)] → W p l e { frames := 2, cells := 0, slots := 0, locals := 44 } s m [.ref (a0 0), .int p1].toArray below meth c H locs 0 0 (MQ below (Qi g .int (m_X8_middleOf (v0_marks, v0_weights, v0_places, v0_aboves, v0_belows, (v0_reduced_above, v0_reduced_below), v0_papers) p1) (fun u => u) (fun u => wX8 a0 g v0_marks v0_weights v0_places v0_aboves v0_belows v0_reduced_above v0_reduced_below v0_papers) A) [.ref (a0 0), .int p1].toArray s 0 0 A) (F0 m 46 ls [.int r16]) := by
      intro H locs ls hP hD hS hl
      refine lv_istore (lv' := [(6, .int r16), (0, .ref (a0 0)), (1, .int p1), (2, .int x1), (3, .int x10), (4, .int x11), (5, .int x12)]) hx hb dX8_middleOf_46 hl (by decide) rfl (fun ls hl => ?_)
      refine lv_iload_n hx hb dX8_middleOf_48 rfl (lv_at hl 2 rfl) ?_
      refine lv_iload hx hb dX8_middleOf_49 (lv_at hl 5 rfl) ?_
      refine cIp hP hD hS hA hE (fun hPc hDc hSc => rSN (As := [.int p1, .int x11]) (rest := []) hx hb hml hown hts hK (c_X9_hasBit l g p1 x11 (bnd_ne hf)) svS_X9_hasBit nw16 hPc hDc hSc rfl rfl hl.1 (Nat.le_of_ble_eq_true rfl) dX8_middleOf_51 ⟨Nat.le_of_ble_eq_true rfl, Nat.le_of_ble_eq_true rfl, rfl, rfl, Nat.le_of_ble_eq_true rfl, Nat.le_of_ble_eq_true rfl⟩) [] rfl rfl rfl (fun x17 H locs ex17 nx17 hP hS => ?_)
      have hf := bnd_of hf ex17
      refine lv_if_eq (tgt := 83) hx hb dX8_middleOf_54 (by decide) (fun cb => ?_) (fun cb => ?_)
      · have hf := it_t cb hf
        refine lv_iinc (v := (x11 + 1)) (lv' := [(4, .int (x11 + 1)), (6, .int r16), (0, .ref (a0 0)), (1, .int p1), (2, .int x1), (3, .int x10), (5, .int x12)]) hx hb dX8_middleOf_83 hl (k := 5) rfl (by rfl) (by decide) rfl (fun ls hl => ?_)
        refine lv_goto (tgt := 11) hx hb dX8_middleOf_86 (by decide) ?_
        exact hB _ (Option.some.inj hf).symm _ _ _ hP hD hS (lv_sub hl [2, 3, 4, 5, 0] rfl)
      have hf := it_f cb hf
      refine lv_iload hx hb dX8_middleOf_57 (lv_at hl 0 rfl) ?_
      refine lv_if_eq (tgt := 83) hx hb dX8_middleOf_59 (by decide) (fun cb => ?_) (fun cb => ?_)
      · have hf := it_t cb hf
        refine lv_iinc (v := (x11 + 1)) (lv' := [(4, .int (x11 + 1)), (6, .int r16), (0, .ref (a0 0)), (1, .int p1), (2, .int x1), (3, .int x10), (5, .int x12)]) hx hb dX8_middleOf_83 hl (k := 5) rfl (by rfl) (by decide) rfl (fun ls hl => ?_)
        refine lv_goto (tgt := 11) hx hb dX8_middleOf_86 (by decide) ?_
        exact hB _ (Option.some.inj hf).symm _ _ _ hP hD hS (lv_sub hl [2, 3, 4, 5, 0] rfl)
      have hf := it_f cb hf
      refine lv_iconst (v := 2) hx hb dX8_middleOf_62 (by decide) ?_
      refine lv_aload_n hx hb dX8_middleOf_63 rfl (lv_at hl 1 rfl) ?_
      refine lv_iload_n hx hb dX8_middleOf_64 rfl (lv_at hl 2 rfl) ?_
      refine lv_aload_n hx hb dX8_middleOf_65 rfl (lv_at hl 1 rfl) ?_
      refine lv_iload hx hb dX8_middleOf_66 (lv_at hl 6 rfl) ?_
      refine cIp hP hD hS hA hE (fun hPc hDc hSc => rV (As := [.int x12]) (rest := [.int p1, .ref (a0 0), .int (2 : Int32)]) hx hb hml hown hts hK (c_X8_papersUpTo l g a0 v0_marks v0_weights v0_places v0_aboves v0_belows v0_reduced_above v0_reduced_below v0_papers x12 (bnd_ne hf)) svV_X8_papersUpTo kw736 rfl rfl hPc hDc hSc rfl rfl hl.1 (Nat.le_of_ble_eq_true rfl) dX8_middleOf_68 ⟨Nat.le_of_ble_eq_true rfl, Nat.le_of_ble_eq_true rfl, rfl, rfl, Nat.le_of_ble_eq_true rfl, Nat.le_of_ble_eq_true rfl⟩) [(0, 12)] rfl rfl rfl (fun x18 H locs ex18 nx18 hP hS => ?_)
      have hf := bnd_of hf ex18
      refine lv_iand hx hb dX8_middleOf_71 ?_
      refine cIp hP hD hS hA hE (fun hPc hDc hSc => rV (As := [.int (p1 &&& x18)]) (rest := [.int (2 : Int32)]) hx hb hml hown hts hK (c_X8_weightOf l g a0 v0_marks v0_weights v0_places v0_aboves v0_belows v0_reduced_above v0_reduced_below v0_papers (p1 &&& x18) (bnd_ne hf)) svV_X8_weightOf kw732 rfl rfl hPc hDc hSc rfl rfl hl.1 (Nat.le_of_ble_eq_true rfl) dX8_middleOf_72 ⟨Nat.le_of_ble_eq_true rfl, Nat.le_of_ble_eq_true rfl, rfl, rfl, Nat.le_of_ble_eq_true rfl, Nat.le_of_ble_eq_true rfl⟩) [(0, 12)] rfl rfl rfl (fun x19 H locs ex19 nx19 hP hS => ?_)
      have hf := bnd_of hf ex19
      refine lv_imul hx hb dX8_middleOf_75 ?_
      refine lv_iload_n hx hb dX8_middleOf_76 rfl (lv_at hl 3 rfl) ?_
      refine lv_icmp_lt (tgt := 83) hx hb dX8_middleOf_77 (by decide) (fun cb => ?_) (fun cb => ?_)
      · have hf := it_t cb hf
        refine lv_iinc (v := (x11 + 1)) (lv' := [(4, .int (x11 + 1)), (6, .int r16), (0, .ref (a0 0)), (1, .int p1), (2, .int x1), (3, .int x10), (5, .int x12)]) hx hb dX8_middleOf_83 hl (k := 5) rfl (by rfl) (by decide) rfl (fun ls hl => ?_)
        refine lv_goto (tgt := 11) hx hb dX8_middleOf_86 (by decide) ?_
        exact hB _ (Option.some.inj hf).symm _ _ _ hP hD hS (lv_sub hl [2, 3, 4, 5, 0] rfl)
      have hf := it_f cb hf
      refine lv_iload hx hb dX8_middleOf_80 (lv_at hl 6 rfl) ?_
      refine lv_istore_n (lv' := [(3, .int x12), (6, .int r16), (0, .ref (a0 0)), (1, .int p1), (2, .int x1), (4, .int x11), (5, .int x12)]) hx hb dX8_middleOf_82 rfl hl (by decide) rfl (fun ls hl => ?_)
      refine lv_iinc (v := (x11 + 1)) (lv' := [(4, .int (x11 + 1)), (3, .int x12), (6, .int r16), (0, .ref (a0 0)), (1, .int p1), (2, .int x1), (5, .int x12)]) hx hb dX8_middleOf_83 hl (k := 5) rfl (by rfl) (by decide) rfl (fun ls hl => ?_)
      refine lv_goto (tgt := 11) hx hb dX8_middleOf_86 (by decide) ?_
      exact hB _ (Option.some.inj hf).symm _ _ _ hP hD hS (lv_sub hl [3, 4, 5, 1, 0] rfl)
    have hf := er16
    refine lv_icmp_ge (tgt := 45) hx hb dX8_middleOf_38 (by decide) (fun cb => ?_) (fun cb => ?_)
    · have hf := it_t cb hf
      refine lv_iconst (v := 0) hx hb dX8_middleOf_45 (by decide) ?_
      have hq := Option.some.inj hf
      subst hq
      exact K _ _ _ hP hD hS (lv_sub hl [1, 2, 3, 4, 5, 0] rfl)
    have hf := it_f cb hf
    refine lv_iconst (v := 1) hx hb dX8_middleOf_41 (by decide) ?_
    refine lv_goto (tgt := 46) hx hb dX8_middleOf_42 (by decide) ?_
    have hq := Option.some.inj hf
    subst hq
    exact K _ _ _ hP hD hS (lv_sub hl [1, 2, 3, 4, 5, 0] rfl)
  intro H locs ls hP hD hS hl
  have hP : va_P g.1 vwCl (wX8 a0 g v0_marks v0_weights v0_places v0_aboves v0_belows v0_reduced_above v0_reduced_below v0_papers) H := hP
  have hD : va_D A (wX8 a0 g v0_marks v0_weights v0_places v0_aboves v0_belows v0_reduced_above v0_reduced_below v0_papers) := hD
  have hl : lv_has ls 7 [(3, .int r20)] := hl
  refine lv_iload_n hx hb dX8_middleOf_89 rfl (lv_at hl 0 rfl) ?_
  exact retI (v := r20) (u := r20) (val := fun u => u) (W1 := fun u => wX8 a0 g v0_marks v0_weights v0_places v0_aboves v0_belows v0_reduced_above v0_reduced_below v0_papers) hx hb hr hlocks hS hP hD (hf0.trans hf.symm) rfl rfl dX8_middleOf_90
set_option maxHeartbeats 4000000 in
set_option maxRecDepth 100000 in
theorem c_X8_breakAny (l : Launch) (g : GG) (a0 : Nat → Nat) (v0_marks : (Nat → Int32)) (v0_weights : (Nat → Int32)) (v0_places : (Nat → Int32)) (v0_aboves : (Nat → Int32)) (v0_belows : (Nat → Int32)) (v0_reduced_above : Int64) (v0_reduced_below : Int64) (v0_papers : Int32) (a1 : Nat → Nat) (v1_raws : (Nat → Int32)) (v1_kinds : (Nat → Int32)) (v1_figures : (Nat → Int32)) (v1_heavies : (Nat → Int32)) (v1_places : (Nat → Int32)) (v1_papers : Int32) (v1_lowers : (Nat → Int32)) (v1_uppers : (Nat → Int32)) (v1_rules : Int32) (v1_bounds : (Nat → Int32)) (v1_boundCount : Int32) (v1_tieWay : Int32) (v1_reached : (Nat → Int32)) (p2 : Int32) (hne : (m_X8_breakAny (v0_marks, v0_weights, v0_places, v0_aboves, v0_belows, (v0_reduced_above, v0_reduced_below), v0_papers) (v1_raws, v1_kinds, v1_figures, v1_heavies, v1_places, v1_papers, v1_lowers, v1_uppers, v1_rules, v1_bounds, v1_boundCount, v1_tieWay, v1_reached) p2) ≠ none) : Ct l g yX8_breakAny cX8_breakAny 4 (some .boolean) ({ frames := 2, cells := 0, slots := 0, locals := 42 } : Room) [.ref (a0 0), .ref (a1 0), .int p2] (wX8 a0 g v0_marks v0_weights v0_places v0_aboves v0_belows v0_reduced_above v0_reduced_below v0_papers ++ wX6 a1 g v1_raws v1_kinds v1_figures v1_heavies v1_places v1_papers v1_lowers v1_uppers v1_rules v1_bounds v1_boundCount v1_tieWay v1_reached) (Qi g .boolean (m_X8_breakAny (v0_marks, v0_weights, v0_places, v0_aboves, v0_belows, (v0_reduced_above, v0_reduced_below), v0_papers) (v1_raws, v1_kinds, v1_figures, v1_heavies, v1_places, v1_papers, v1_lowers, v1_uppers, v1_rules, v1_bounds, v1_boundCount, v1_tieWay, v1_reached) p2) (fun u => u) (fun u => wX8 a0 g v0_marks v0_weights v0_places v0_aboves v0_belows v0_reduced_above v0_reduced_below v0_papers ++ wX6 a1 g v1_raws v1_kinds v1_figures v1_heavies v1_places v1_papers v1_lowers v1_uppers v1_rules v1_bounds v1_boundCount v1_tieWay v1_reached)) 0 0 := by
  obtain ⟨out, hf⟩ := ne_ex hne
  have hf0 := hf
  refine Ct.of (own := RX8) (by decide +kernel) rfl (Nat.le_of_ble_eq_true rfl) ?_
  intro p e s m below meth c hx hb hr hml hown hts hlocks hin hK A H locs hA hP hD hS hE ls hl
  have hl : lv_has ls 4 [(0, .ref (a0 0)), (1, .ref (a1 0)), (2, .int p2)] := hl
  unfold m_X8_breakAny at hf
  refine lv_iconst (v := 0) hx hb dX8_breakAny_0 (by decide) ?_
  refine lv_istore_n (lv' := [(3, .int (0 : Int32)), (0, .ref (a0 0)), (1, .ref (a1 0)), (2, .int p2)]) hx hb dX8_breakAny_1 rfl hl (by decide) rfl (fun ls hl => ?_)
  obtain ⟨r14, er14, hf⟩ := bnd hf
  refine lp_W (P := fun z => ∀ (H : Heap) (locs : List Loc) (ls : Array Slot), va_P g.1 vwCl (wX8 a0 g v0_marks v0_weights v0_places v0_aboves v0_belows v0_reduced_above v0_reduced_below v0_papers ++ wX6 a1 g v1_raws v1_kinds v1_figures v1_heavies v1_places v1_papers v1_lowers v1_uppers v1_rules v1_bounds v1_boundCount v1_tieWay v1_reached) H → va_D A (wX8 a0 g v0_marks v0_weights v0_places v0_aboves v0_belows v0_reduced_above v0_reduced_below v0_papers ++ wX6 a1 g v1_raws v1_kinds v1_figures v1_heavies v1_places v1_papers v1_lowers v1_uppers v1_rules v1_bounds v1_boundCount v1_tieWay v1_reached) → va_S A s.heap H locs → lv_has ls 4 [(0, .ref (a0 0)), (1, .ref (a1 0)), (2, .int p2), (3, .int z)] → W p l e { frames := 2, cells := 0, slots := 0, locals := 42 } s m [.ref (a0 0), .ref (a1 0), .int p2].toArray below meth c H locs 0 0 (MQ below (Qi g .boolean (m_X8_breakAny (v0_marks, v0_weights, v0_places, v0_aboves, v0_belows, (v0_reduced_above, v0_reduced_below), v0_papers) (v1_raws, v1_kinds, v1_figures, v1_heavies, v1_places, v1_papers, v1_lowers, v1_uppers, v1_rules, v1_bounds, v1_boundCount, v1_tieWay, v1_reached) p2) (fun u => u) (fun u => wX8 a0 g v0_marks v0_weights v0_places v0_aboves v0_belows v0_reduced_above v0_reduced_below v0_papers ++ wX6 a1 g v1_raws v1_kinds v1_figures v1_heavies v1_places v1_papers v1_lowers v1_uppers v1_rules v1_bounds v1_boundCount v1_tieWay v1_reached) A) [.ref (a0 0), .ref (a1 0), .int p2].toArray s 0 0 A) (F0 m 2 ls [])) (E := fun r14 => match r14 with | .inl x15 => (∀ (H : Heap) (locs : List Loc) (ls : Array Slot), va_P g.1 vwCl (wX8 a0 g v0_marks v0_weights v0_places v0_aboves v0_belows v0_reduced_above v0_reduced_below v0_papers ++ wX6 a1 g v1_raws v1_kinds v1_figures v1_heavies v1_places v1_papers v1_lowers v1_uppers v1_rules v1_bounds v1_boundCount v1_tieWay v1_reached) H → va_D A (wX8 a0 g v0_marks v0_weights v0_places v0_aboves v0_belows v0_reduced_above v0_reduced_below v0_papers ++ wX6 a1 g v1_raws v1_kinds v1_figures v1_heavies v1_places v1_papers v1_lowers v1_uppers v1_rules v1_bounds v1_boundCount v1_tieWay v1_reached) → va_S A s.heap H locs → lv_has ls 4 [] → W p l e { frames := 2, cells := 0, slots := 0, locals := 42 } s m [.ref (a0 0), .ref (a1 0), .int p2].toArray below meth c H locs 0 0 (MQ below (Qi g .boolean (m_X8_breakAny (v0_marks, v0_weights, v0_places, v0_aboves, v0_belows, (v0_reduced_above, v0_reduced_below), v0_papers) (v1_raws, v1_kinds, v1_figures, v1_heavies, v1_places, v1_papers, v1_lowers, v1_uppers, v1_rules, v1_bounds, v1_boundCount, v1_tieWay, v1_reached) p2) (fun u => u) (fun u => wX8 a0 g v0_marks v0_weights v0_places v0_aboves v0_belows v0_reduced_above v0_reduced_below v0_papers ++ wX6 a1 g v1_raws v1_kinds v1_figures v1_heavies v1_places v1_papers v1_lowers v1_uppers v1_rules v1_bounds v1_boundCount v1_tieWay v1_reached) A) [.ref (a0 0), .ref (a1 0), .int p2].toArray s 0 0 A) (F0 m 45 ls [])) | .inr x16 => (∀ (H : Heap) (locs : List Loc) (ls : Array Slot), va_P g.1 vwCl (wX8 a0 g v0_marks v0_weights v0_places v0_aboves v0_belows v0_reduced_above v0_reduced_below v0_papers ++ wX6 a1 g v1_raws v1_kinds v1_figures v1_heavies v1_places v1_papers v1_lowers v1_uppers v1_rules v1_bounds v1_boundCount v1_tieWay v1_reached) H → va_D A (wX8 a0 g v0_marks v0_weights v0_places v0_aboves v0_belows v0_reduced_above v0_reduced_below v0_papers ++ wX6 a1 g v1_raws v1_kinds v1_figures v1_heavies v1_places v1_papers v1_lowers v1_uppers v1_rules v1_bounds v1_boundCount v1_tieWay v1_reached) → va_S A s.heap H locs → lv_has ls 4 [] → W p l e { frames := 2, cells := 0, slots := 0, locals := 42 } s m [.ref (a0 0), .ref (a1 0), .int p2].toArray below meth c H locs 0 0 (MQ below (Qi g .boolean (m_X8_breakAny (v0_marks, v0_weights, v0_places, v0_aboves, v0_belows, (v0_reduced_above, v0_reduced_below), v0_papers) (v1_raws, v1_kinds, v1_figures, v1_heavies, v1_places, v1_papers, v1_lowers, v1_uppers, v1_rules, v1_bounds, v1_boundCount, v1_tieWay, v1_reached) p2) (fun u => u) (fun u => wX8 a0 g v0_marks v0_weights v0_places v0_aboves v0_belows v0_reduced_above v0_reduced_below v0_papers ++ wX6 a1 g v1_raws v1_kinds v1_figures v1_heavies v1_places v1_papers v1_lowers v1_uppers v1_rules v1_bounds v1_boundCount v1_tieWay v1_reached) A) [.ref (a0 0), .ref (a1 0), .int p2].toArray s 0 0 A) (F0 m 53 ls []))) ?_ fu _ r14 er14 ?_ _ _ _ hP hD hS (lv_sub hl [1, 2, 3, 0] rfl)
  · rintro x7 y hf hB hXt H locs ls hP hD hS hl
    have hP : va_P g.1 vwCl (wX8 a0 g v0_marks v0_weights v0_places v0_aboves v0_belows v0_reduced_above v0_reduced_below v0_papers ++ wX6 a1 g v1_raws v1_kinds v1_figures v1_heavies v1_places v1_papers v1_lowers v1_uppers v1_rules v1_bounds v1_boundCount v1_tieWay v1_reached) H := hP
    have hD : va_D A (wX8 a0 g v0_marks v0_weights v0_places v0_aboves v0_belows v0_reduced_above v0_reduced_below v0_papers ++ wX6 a1 g v1_raws v1_kinds v1_figures v1_heavies v1_places v1_papers v1_lowers v1_uppers v1_rules v1_bounds v1_boundCount v1_tieWay v1_reached) := hD
    have hl : lv_has ls 4 [(0, .ref (a0 0)), (1, .ref (a1 0)), (2, .int p2), (3, .int x7)] := hl
    have hf : m_X8_breakAny_l2 (v0_marks, v0_weights, v0_places, v0_aboves, v0_belows, (v0_reduced_above, v0_reduced_below), v0_papers) (v1_raws, v1_kinds, v1_figures, v1_heavies, v1_places, v1_papers, v1_lowers, v1_uppers, v1_rules, v1_bounds, v1_boundCount, v1_tieWay, v1_reached) p2 x7 = some y := hf
    unfold m_X8_breakAny_l2 at hf
    refine lv_iload_n hx hb dX8_breakAny_2 rfl (lv_at hl 3 rfl) ?_
    refine lv_aload_n hx hb dX8_breakAny_3 rfl (lv_at hl 1 rfl) ?_
    refine cIp hP hD hS hA hE (fun hPc hDc hSc => rV (As := []) (rest := [.int x7]) hx hb hml hown hts hK (c_X6_ruleCount l g a1 v1_raws v1_kinds v1_figures v1_heavies v1_places v1_papers v1_lowers v1_uppers v1_rules v1_bounds v1_boundCount v1_tieWay v1_reached (bnd_ne hf)) svV_X6_ruleCount kw844 rfl rfl hPc hDc hSc rfl rfl hl.1 (Nat.le_of_ble_eq_true rfl) dX8_breakAny_4 ⟨Nat.le_of_ble_eq_true rfl, Nat.le_of_ble_eq_true rfl, rfl, rfl, Nat.le_of_ble_eq_true rfl, Nat.le_of_ble_eq_true rfl⟩) [(12, 19)] rfl rfl rfl (fun x8 H locs ex8 nx8 hP hS => ?_)
    have hf := bnd_of hf ex8
    refine lv_icmp_ge (tgt := 53) hx hb dX8_breakAny_7 (by decide) (fun cb => ?_) (fun cb => ?_)
    · have hf := it_t cb hf
      exact hXt _ (Option.some.inj hf).symm _ _ _ hP hD hS (lv_sub hl [] rfl)
    have hf := it_f cb hf
    refine lv_iload_n hx hb dX8_breakAny_10 rfl (lv_at hl 2 rfl) ?_
    refine lv_iload_n hx hb dX8_breakAny_11 rfl (lv_at hl 3 rfl) ?_
    refine cIp hP hD hS hA hE (fun hPc hDc hSc => rSN (As := [.int p2, .int x7]) (rest := []) hx hb hml hown hts hK (c_X9_hasBit l g p2 x7 (bnd_ne hf)) svS_X9_hasBit nw16 hPc hDc hSc rfl rfl hl.1 (Nat.le_of_ble_eq_true rfl) dX8_breakAny_12 ⟨Nat.le_of_ble_eq_true rfl, Nat.le_of_ble_eq_true rfl, rfl, rfl, Nat.le_of_ble_eq_true rfl, Nat.le_of_ble_eq_true rfl⟩) [] rfl rfl rfl (fun x9 H locs ex9 nx9 hP hS => ?_)
    have hf := bnd_of hf ex9
    refine lv_if_ne (tgt := 47) hx hb dX8_breakAny_15 (by decide) (fun cb => ?_) (fun cb => ?_)
    · have hf := it_f cb hf
      refine lv_iinc (v := (x7 + 1)) (lv' := [(3, .int (x7 + 1)), (0, .ref (a0 0)), (1, .ref (a1 0)), (2, .int p2)]) hx hb dX8_breakAny_47 hl (k := 3) rfl (by rfl) (by decide) rfl (fun ls hl => ?_)
      refine lv_goto (tgt := 2) hx hb dX8_breakAny_50 (by decide) ?_
      exact hB _ (Option.some.inj hf).symm _ _ _ hP hD hS (lv_sub hl [1, 2, 3, 0] rfl)
    have hf := it_t cb hf
    refine lv_aload_n hx hb dX8_breakAny_18 rfl (lv_at hl 0 rfl) ?_
    refine va_get (D := g.1) (ci := 9) (v := .ref (a0 1)) (C := RX8) (T := TX8) (N := 7) hx hb hts layX8 hown hK.1 hP 0 rfl rfl 0 (by decide) (hts _ kw151) (fun _ h9 => h9) rfl dX8_breakAny_19 ?_
    refine lv_aload_n hx hb dX8_breakAny_22 rfl (lv_at hl 1 rfl) ?_
    refine lv_iload_n hx hb dX8_breakAny_23 rfl (lv_at hl 3 rfl) ?_
    refine cIp hP hD hS hA hE (fun hPc hDc hSc => rV (As := [.int x7]) (rest := [.ref (a0 1)]) hx hb hml hown hts hK (c_X6_lowerOf l g a1 v1_raws v1_kinds v1_figures v1_heavies v1_places v1_papers v1_lowers v1_uppers v1_rules v1_bounds v1_boundCount v1_tieWay v1_reached x7 (bnd_ne hf)) svV_X6_lowerOf kw848 rfl rfl hPc hDc hSc rfl rfl hl.1 (Nat.le_of_ble_eq_true rfl) dX8_breakAny_24 ⟨Nat.le_of_ble_eq_true rfl, Nat.le_of_ble_eq_true rfl, rfl, rfl, Nat.le_of_ble_eq_true rfl, Nat.le_of_ble_eq_true rfl⟩) [(12, 19)] rfl rfl rfl (fun x10 H locs ex10 nx10 hP hS => ?_)
    have hf := bnd_of hf ex10
    refine cIp hP hD hS hA hE (fun hPc hDc hSc => rV (As := [.int x10]) (rest := []) hx hb hml hown hts hK (c_X2_get l g (fun i => a0 (i + 1)) 7 v0_marks x10 (bnd_ne hf)) svV_X2_get kw698 rfl rfl hPc hDc hSc rfl rfl hl.1 (Nat.le_of_ble_eq_true rfl) dX8_breakAny_27 ⟨Nat.le_of_ble_eq_true rfl, Nat.le_of_ble_eq_true rfl, rfl, rfl, Nat.le_of_ble_eq_true rfl, Nat.le_of_ble_eq_true rfl⟩) [(1, 2)] rfl rfl rfl (fun x11 H locs ex11 nx11 hP hS => ?_)
    have hf := bnd_of hf ex11
    refine lv_aload_n hx hb dX8_breakAny_30 rfl (lv_at hl 0 rfl) ?_
    refine va_get (D := g.1) (ci := 9) (v := .ref (a0 1)) (C := RX8) (T := TX8) (N := 7) hx hb hts layX8 hown hK.1 hP 0 rfl rfl 0 (by decide) (hts _ kw151) (fun _ h9 => h9) rfl dX8_breakAny_31 ?_
    refine lv_aload_n hx hb dX8_breakAny_34 rfl (lv_at hl 1 rfl) ?_
    refine lv_iload_n hx hb dX8_breakAny_35 rfl (lv_at hl 3 rfl) ?_
    refine cIp hP hD hS hA hE (fun hPc hDc hSc => rV (As := [.int x7]) (rest := [.ref (a0 1), .int x11]) hx hb hml hown hts hK (c_X6_upperOf l g a1 v1_raws v1_kinds v1_figures v1_heavies v1_places v1_papers v1_lowers v1_uppers v1_rules v1_bounds v1_boundCount v1_tieWay v1_reached x7 (bnd_ne hf)) svV_X6_upperOf kw849 rfl rfl hPc hDc hSc rfl rfl hl.1 (Nat.le_of_ble_eq_true rfl) dX8_breakAny_36 ⟨Nat.le_of_ble_eq_true rfl, Nat.le_of_ble_eq_true rfl, rfl, rfl, Nat.le_of_ble_eq_true rfl, Nat.le_of_ble_eq_true rfl⟩) [(12, 19)] rfl rfl rfl (fun x12 H locs ex12 nx12 hP hS => ?_)
    have hf := bnd_of hf ex12
    refine cIp hP hD hS hA hE (fun hPc hDc hSc => rV (As := [.int x12]) (rest := [.int x11]) hx hb hml hown hts hK (c_X2_get l g (fun i => a0 (i + 1)) 7 v0_marks x12 (bnd_ne hf)) svV_X2_get kw698 rfl rfl hPc hDc hSc rfl rfl hl.1 (Nat.le_of_ble_eq_true rfl) dX8_breakAny_39 ⟨Nat.le_of_ble_eq_true rfl, Nat.le_of_ble_eq_true rfl, rfl, rfl, Nat.le_of_ble_eq_true rfl, Nat.le_of_ble_eq_true rfl⟩) [(1, 2)] rfl rfl rfl (fun x13 H locs ex13 nx13 hP hS => ?_)
    have hf := bnd_of hf ex13
    refine lv_icmp_le (tgt := 47) hx hb dX8_breakAny_42 (by decide) (fun cb => ?_) (fun cb => ?_)
    · have hf := it_t cb hf
      refine lv_iinc (v := (x7 + 1)) (lv' := [(3, .int (x7 + 1)), (0, .ref (a0 0)), (1, .ref (a1 0)), (2, .int p2)]) hx hb dX8_breakAny_47 hl (k := 3) rfl (by rfl) (by decide) rfl (fun ls hl => ?_)
      refine lv_goto (tgt := 2) hx hb dX8_breakAny_50 (by decide) ?_
      exact hB _ (Option.some.inj hf).symm _ _ _ hP hD hS (lv_sub hl [1, 2, 3, 0] rfl)
    have hf := it_f cb hf
    exact hXt _ (Option.some.inj hf).symm _ _ _ hP hD hS (lv_sub hl [] rfl)
  rcases r14 with x15 | x16
  · intro H locs ls hP hD hS hl
    have hP : va_P g.1 vwCl (wX8 a0 g v0_marks v0_weights v0_places v0_aboves v0_belows v0_reduced_above v0_reduced_below v0_papers ++ wX6 a1 g v1_raws v1_kinds v1_figures v1_heavies v1_places v1_papers v1_lowers v1_uppers v1_rules v1_bounds v1_boundCount v1_tieWay v1_reached) H := hP
    have hD : va_D A (wX8 a0 g v0_marks v0_weights v0_places v0_aboves v0_belows v0_reduced_above v0_reduced_below v0_papers ++ wX6 a1 g v1_raws v1_kinds v1_figures v1_heavies v1_places v1_papers v1_lowers v1_uppers v1_rules v1_bounds v1_boundCount v1_tieWay v1_reached) := hD
    have hl : lv_has ls 4 [] := hl
    refine lv_iconst (v := 1) hx hb dX8_breakAny_45 (by decide) ?_
    exact retI (v := (1 : Int32)) (u := (1 : Int32)) (val := fun u => u) (W1 := fun u => wX8 a0 g v0_marks v0_weights v0_places v0_aboves v0_belows v0_reduced_above v0_reduced_below v0_papers ++ wX6 a1 g v1_raws v1_kinds v1_figures v1_heavies v1_places v1_papers v1_lowers v1_uppers v1_rules v1_bounds v1_boundCount v1_tieWay v1_reached) hx hb hr hlocks hS hP hD (hf0.trans hf.symm) rfl rfl dX8_breakAny_46
  · intro H locs ls hP hD hS hl
    have hP : va_P g.1 vwCl (wX8 a0 g v0_marks v0_weights v0_places v0_aboves v0_belows v0_reduced_above v0_reduced_below v0_papers ++ wX6 a1 g v1_raws v1_kinds v1_figures v1_heavies v1_places v1_papers v1_lowers v1_uppers v1_rules v1_bounds v1_boundCount v1_tieWay v1_reached) H := hP
    have hD : va_D A (wX8 a0 g v0_marks v0_weights v0_places v0_aboves v0_belows v0_reduced_above v0_reduced_below v0_papers ++ wX6 a1 g v1_raws v1_kinds v1_figures v1_heavies v1_places v1_papers v1_lowers v1_uppers v1_rules v1_bounds v1_boundCount v1_tieWay v1_reached) := hD
    have hl : lv_has ls 4 [] := hl
    refine lv_iconst (v := 0) hx hb dX8_breakAny_53 (by decide) ?_
    exact retI (v := (0 : Int32)) (u := (0 : Int32)) (val := fun u => u) (W1 := fun u => wX8 a0 g v0_marks v0_weights v0_places v0_aboves v0_belows v0_reduced_above v0_reduced_below v0_papers ++ wX6 a1 g v1_raws v1_kinds v1_figures v1_heavies v1_places v1_papers v1_lowers v1_uppers v1_rules v1_bounds v1_boundCount v1_tieWay v1_reached) hx hb hr hlocks hS hP hD (hf0.trans hf.symm) rfl rfl dX8_breakAny_54
set_option maxHeartbeats 4000000 in
set_option maxRecDepth 100000 in
theorem c_X8_lay (l : Launch) (g : GG) (a0 : Nat → Nat) (v0_marks : (Nat → Int32)) (v0_weights : (Nat → Int32)) (v0_places : (Nat → Int32)) (v0_aboves : (Nat → Int32)) (v0_belows : (Nat → Int32)) (v0_reduced_above : Int64) (v0_reduced_below : Int64) (v0_papers : Int32) (p1 : Int32) (p2 : Int64) (p4 : Int64) (hne : (m_X8_lay (v0_marks, v0_weights, v0_places, v0_aboves, v0_belows, (v0_reduced_above, v0_reduced_below), v0_papers) p1 p2 p4) ≠ none) : Ct l g yX8_lay cX8_lay 7 none ({ frames := 2, cells := 0, slots := 0, locals := 56 } : Room) [.ref (a0 0), .int p1, .long p2, .long p4] (wX8 a0 g v0_marks v0_weights v0_places v0_aboves v0_belows v0_reduced_above v0_reduced_below v0_papers) (Qv g (m_X8_lay (v0_marks, v0_weights, v0_places, v0_aboves, v0_belows, (v0_reduced_above, v0_reduced_below), v0_papers) p1 p2 p4) (fun u => wX8 a0 g v0_marks v0_weights v0_places u.1 u.2.1 u.2.2.1 u.2.2.2 v0_papers)) 0 0 := by
  obtain ⟨out, hf⟩ := ne_ex hne
  have hf0 := hf
  refine Ct.of (own := RX8) (by decide +kernel) rfl (Nat.le_of_ble_eq_true rfl) ?_
  intro p e s m below meth c hx hb hr hml hown hts hlocks hin hK A H locs hA hP hD hS hE ls hl
  have hl : lv_has ls 7 [(0, .ref (a0 0)), (1, .int p1), (2, .long p2), (4, .long p4)] := hl
  unfold m_X8_lay at hf
  refine lv_aload_n hx hb dX8_lay_0 rfl (lv_at hl 0 rfl) ?_
  refine va_get (D := g.1) (ci := 9) (v := .ref (a0 11)) (C := RX8) (T := TX8) (N := 7) hx hb hts layX8 hown hK.1 hP 0 rfl rfl 5 (by decide) (hts _ kw156) (fun _ h9 => h9) rfl dX8_lay_1 ?_
  refine lv_lload_n hx hb dX8_lay_4 rfl (lv_at hl 2 rfl) ?_
  refine lv_lload hx hb dX8_lay_5 (lv_at hl 3 rfl) ?_
  refine cV hP hD hS hA hE (fun hPc hDc hSc => rV (As := [.long p2, .long p4]) (rest := []) hx hb hml hown hts hK (c_X1_make l g (fun i => a0 (i + 11)) v0_reduced_above v0_reduced_below p2 p4 (bnd_ne hf)) svV_X1_make kw766 rfl rfl hPc hDc hSc rfl rfl hl.1 (Nat.le_of_ble_eq_true rfl) dX8_lay_7 ⟨Nat.le_of_ble_eq_true rfl, Nat.le_of_ble_eq_true rfl, rfl, rfl, Nat.le_of_ble_eq_true rfl, Nat.le_of_ble_eq_true rfl⟩) [(11, 1)] rfl rfl rfl (fun _ => rfl) (fun x1 H locs ex1 hP hD hS => ?_)
  have hf := bnd_of hf ex1
  have hP : va_P g.1 vwCl (wX8 a0 g v0_marks v0_weights v0_places v0_aboves v0_belows x1.1 x1.2 v0_papers) H := hP
  have hD : va_D A (wX8 a0 g v0_marks v0_weights v0_places v0_aboves v0_belows x1.1 x1.2 v0_papers) := hD
  refine lv_iconst (v := 0) hx hb dX8_lay_10 (by decide) ?_
  refine lv_istore (lv' := [(6, .int (0 : Int32)), (0, .ref (a0 0)), (1, .int p1), (2, .long p2), (4, .long p4)]) hx hb dX8_lay_11 hl (by decide) rfl (fun ls hl => ?_)
  obtain ⟨r15, er15, hf⟩ := bnd hf
  refine lp_W (P := fun z => ∀ (H : Heap) (locs : List Loc) (ls : Array Slot), va_P g.1 vwCl (wX8 a0 g v0_marks v0_weights v0_places z.2.1 z.2.2 x1.1 x1.2 v0_papers) H → va_D A (wX8 a0 g v0_marks v0_weights v0_places z.2.1 z.2.2 x1.1 x1.2 v0_papers) → va_S A s.heap H locs → lv_has ls 7 [(0, .ref (a0 0)), (1, .int p1), (6, .int z.1)] → W p l e { frames := 2, cells := 0, slots := 0, locals := 56 } s m [.ref (a0 0), .int p1, .long p2, .long p4].toArray below meth c H locs 0 0 (MQ below (Qv g (m_X8_lay (v0_marks, v0_weights, v0_places, v0_aboves, v0_belows, (v0_reduced_above, v0_reduced_below), v0_papers) p1 p2 p4) (fun u => wX8 a0 g v0_marks v0_weights v0_places u.1 u.2.1 u.2.2.1 u.2.2.2 v0_papers) A) [.ref (a0 0), .int p1, .long p2, .long p4].toArray s 0 0 A) (F0 m 13 ls [])) (E := fun r15 => ∀ (H : Heap) (locs : List Loc) (ls : Array Slot), va_P g.1 vwCl (wX8 a0 g v0_marks v0_weights v0_places r15.1 r15.2 x1.1 x1.2 v0_papers) H → va_D A (wX8 a0 g v0_marks v0_weights v0_places r15.1 r15.2 x1.1 x1.2 v0_papers) → va_S A s.heap H locs → lv_has ls 7 [] → W p l e { frames := 2, cells := 0, slots := 0, locals := 56 } s m [.ref (a0 0), .int p1, .long p2, .long p4].toArray below meth c H locs 0 0 (MQ below (Qv g (m_X8_lay (v0_marks, v0_weights, v0_places, v0_aboves, v0_belows, (v0_reduced_above, v0_reduced_below), v0_papers) p1 p2 p4) (fun u => wX8 a0 g v0_marks v0_weights v0_places u.1 u.2.1 u.2.2.1 u.2.2.2 v0_papers) A) [.ref (a0 0), .int p1, .long p2, .long p4].toArray s 0 0 A) (F0 m 73 ls [])) ?_ fu _ r15 er15 ?_ _ _ _ hP hD hS (lv_sub hl [1, 2, 0] rfl)
  · rintro ⟨x7, x8, x9⟩ y hf hB hXt H locs ls hP hD hS hl
    have hP : va_P g.1 vwCl (wX8 a0 g v0_marks v0_weights v0_places x8 x9 x1.1 x1.2 v0_papers) H := hP
    have hD : va_D A (wX8 a0 g v0_marks v0_weights v0_places x8 x9 x1.1 x1.2 v0_papers) := hD
    have hl : lv_has ls 7 [(0, .ref (a0 0)), (1, .int p1), (6, .int x7)] := hl
    have hf : m_X8_lay_l13 (v0_marks, v0_weights, v0_places, v0_aboves, v0_belows, (v0_reduced_above, v0_reduced_below), v0_papers) p1 x1 x7 x8 x9 = some y := hf
    unfold m_X8_lay_l13 at hf
    refine lv_iload hx hb dX8_lay_13 (lv_at hl 2 rfl) ?_
    refine lv_aload_n hx hb dX8_lay_15 rfl (lv_at hl 0 rfl) ?_
    refine va_get (D := g.1) (ci := 9) (v := .int v0_papers) (C := RX8) (T := TX8) (N := 7) hx hb hts layX8 hown hK.1 hP 0 rfl rfl 6 (by decide) (hts _ kw157) (fun _ h9 => h9) rfl dX8_lay_16 ?_
    refine lv_icmp_ge (tgt := 73) hx hb dX8_lay_19 (by decide) (fun cb => ?_) (fun cb => ?_)
    · have hf := it_t cb hf
      exact hXt _ (Option.some.inj hf).symm _ _ _ hP hD hS (lv_sub hl [] rfl)
    have hf := it_f cb hf
    refine lv_iload_n hx hb dX8_lay_22 rfl (lv_at hl 1 rfl) ?_
    refine lv_iload hx hb dX8_lay_23 (lv_at hl 2 rfl) ?_
    refine cIp hP hD hS hA hE (fun hPc hDc hSc => rSN (As := [.int p1, .int x7]) (rest := []) hx hb hml hown hts hK (c_X9_hasBit l g p1 x7 (bnd_ne hf)) svS_X9_hasBit nw16 hPc hDc hSc rfl rfl hl.1 (Nat.le_of_ble_eq_true rfl) dX8_lay_25 ⟨Nat.le_of_ble_eq_true rfl, Nat.le_of_ble_eq_true rfl, rfl, rfl, Nat.le_of_ble_eq_true rfl, Nat.le_of_ble_eq_true rfl⟩) [] rfl rfl rfl (fun x10 H locs ex10 nx10 hP hS => ?_)
    have hf := bnd_of hf ex10
    refine lv_if_eq (tgt := 67) hx hb dX8_lay_28 (by decide) (fun cb => ?_) (fun cb => ?_)
    · have hf := it_t cb hf
      refine lv_iinc (v := (x7 + 1)) (lv' := [(6, .int (x7 + 1)), (0, .ref (a0 0)), (1, .int p1)]) hx hb dX8_lay_67 hl (k := 2) rfl (by rfl) (by decide) rfl (fun ls hl => ?_)
      refine lv_goto (tgt := 13) hx hb dX8_lay_70 (by decide) ?_
      exact hB _ (Option.some.inj hf).symm _ _ _ hP hD hS (lv_sub hl [1, 2, 0] rfl)
    have hf := it_f cb hf
    refine lv_aload_n hx hb dX8_lay_31 rfl (lv_at hl 0 rfl) ?_
    refine va_get (D := g.1) (ci := 9) (v := .ref (a0 7)) (C := RX8) (T := TX8) (N := 7) hx hb hts layX8 hown hK.1 hP 0 rfl rfl 3 (by decide) (hts _ kw154) (fun _ h9 => h9) rfl dX8_lay_32 ?_
    refine lv_iload hx hb dX8_lay_35 (lv_at hl 2 rfl) ?_
    refine lv_aload_n hx hb dX8_lay_37 rfl (lv_at hl 0 rfl) ?_
    refine va_get (D := g.1) (ci := 9) (v := .ref (a0 11)) (C := RX8) (T := TX8) (N := 7) hx hb hts layX8 hown hK.1 hP 0 rfl rfl 5 (by decide) (hts _ kw156) (fun _ h9 => h9) rfl dX8_lay_38 ?_
    refine lv_iconst (v := 0) hx hb dX8_lay_41 (by decide) ?_
    refine cLp hP hD hS hA hE (fun hPc hDc hSc => rV (As := [.int (0 : Int32)]) (rest := [.int x7, .ref (a0 7)]) hx hb hml hown hts hK (c_X1_partOf l g (fun i => a0 (i + 11)) x1.1 x1.2 (0 : Int32) (bnd_ne hf)) svV_X1_partOf kw773 rfl rfl hPc hDc hSc rfl rfl hl.1 (Nat.le_of_ble_eq_true rfl) dX8_lay_42 ⟨Nat.le_of_ble_eq_true rfl, Nat.le_of_ble_eq_true rfl, rfl, rfl, Nat.le_of_ble_eq_true rfl, Nat.le_of_ble_eq_true rfl⟩) [(11, 1)] rfl rfl rfl (fun x11 H locs ex11 hP hS => ?_)
    have hf := bnd_of hf ex11
    refine lv_l2i (v := x11.toInt32) hx hb dX8_lay_45 rfl ?_
    refine cV hP hD hS hA hE (fun hPc hDc hSc => rV (As := [.int x7, .int x11.toInt32]) (rest := []) hx hb hml hown hts hK (c_X2_set l g (fun i => a0 (i + 7)) 7 x8 x7 x11.toInt32 (bnd_ne hf)) svV_X2_set kw670 rfl rfl hPc hDc hSc rfl rfl hl.1 (Nat.le_of_ble_eq_true rfl) dX8_lay_46 ⟨Nat.le_of_ble_eq_true rfl, Nat.le_of_ble_eq_true rfl, rfl, rfl, Nat.le_of_ble_eq_true rfl, Nat.le_of_ble_eq_true rfl⟩) [(7, 2)] rfl rfl rfl (fun _ => rfl) (fun x12 H locs ex12 hP hD hS => ?_)
    have hf := bnd_of hf ex12
    have hP : va_P g.1 vwCl (wX8 a0 g v0_marks v0_weights v0_places x12 x9 x1.1 x1.2 v0_papers) H := hP
    have hD : va_D A (wX8 a0 g v0_marks v0_weights v0_places x12 x9 x1.1 x1.2 v0_papers) := hD
    refine lv_aload_n hx hb dX8_lay_49 rfl (lv_at hl 0 rfl) ?_
    refine va_get (D := g.1) (ci := 9) (v := .ref (a0 9)) (C := RX8) (T := TX8) (N := 7) hx hb hts layX8 hown hK.1 hP 0 rfl rfl 4 (by decide) (hts _ kw155) (fun _ h9 => h9) rfl dX8_lay_50 ?_
    refine lv_iload hx hb dX8_lay_53 (lv_at hl 2 rfl) ?_
    refine lv_aload_n hx hb dX8_lay_55 rfl (lv_at hl 0 rfl) ?_
    refine va_get (D := g.1) (ci := 9) (v := .ref (a0 11)) (C := RX8) (T := TX8) (N := 7) hx hb hts layX8 hown hK.1 hP 0 rfl rfl 5 (by decide) (hts _ kw156) (fun _ h9 => h9) rfl dX8_lay_56 ?_
    refine lv_iconst (v := 1) hx hb dX8_lay_59 (by decide) ?_
    refine cLp hP hD hS hA hE (fun hPc hDc hSc => rV (As := [.int (1 : Int32)]) (rest := [.int x7, .ref (a0 9)]) hx hb hml hown hts hK (c_X1_partOf l g (fun i => a0 (i + 11)) x1.1 x1.2 (1 : Int32) (bnd_ne hf)) svV_X1_partOf kw773 rfl rfl hPc hDc hSc rfl rfl hl.1 (Nat.le_of_ble_eq_true rfl) dX8_lay_60 ⟨Nat.le_of_ble_eq_true rfl, Nat.le_of_ble_eq_true rfl, rfl, rfl, Nat.le_of_ble_eq_true rfl, Nat.le_of_ble_eq_true rfl⟩) [(11, 1)] rfl rfl rfl (fun x13 H locs ex13 hP hS => ?_)
    have hf := bnd_of hf ex13
    refine lv_l2i (v := x13.toInt32) hx hb dX8_lay_63 rfl ?_
    refine cV hP hD hS hA hE (fun hPc hDc hSc => rV (As := [.int x7, .int x13.toInt32]) (rest := []) hx hb hml hown hts hK (c_X2_set l g (fun i => a0 (i + 9)) 7 x9 x7 x13.toInt32 (bnd_ne hf)) svV_X2_set kw670 rfl rfl hPc hDc hSc rfl rfl hl.1 (Nat.le_of_ble_eq_true rfl) dX8_lay_64 ⟨Nat.le_of_ble_eq_true rfl, Nat.le_of_ble_eq_true rfl, rfl, rfl, Nat.le_of_ble_eq_true rfl, Nat.le_of_ble_eq_true rfl⟩) [(9, 2)] rfl rfl rfl (fun _ => rfl) (fun x14 H locs ex14 hP hD hS => ?_)
    have hf := bnd_of hf ex14
    have hP : va_P g.1 vwCl (wX8 a0 g v0_marks v0_weights v0_places x12 x14 x1.1 x1.2 v0_papers) H := hP
    have hD : va_D A (wX8 a0 g v0_marks v0_weights v0_places x12 x14 x1.1 x1.2 v0_papers) := hD
    refine lv_iinc (v := (x7 + 1)) (lv' := [(6, .int (x7 + 1)), (0, .ref (a0 0)), (1, .int p1)]) hx hb dX8_lay_67 hl (k := 2) rfl (by rfl) (by decide) rfl (fun ls hl => ?_)
    refine lv_goto (tgt := 13) hx hb dX8_lay_70 (by decide) ?_
    exact hB _ (Option.some.inj hf).symm _ _ _ hP hD hS (lv_sub hl [1, 2, 0] rfl)
  intro H locs ls hP hD hS hl
  have hP : va_P g.1 vwCl (wX8 a0 g v0_marks v0_weights v0_places r15.1 r15.2 x1.1 x1.2 v0_papers) H := hP
  have hD : va_D A (wX8 a0 g v0_marks v0_weights v0_places r15.1 r15.2 x1.1 x1.2 v0_papers) := hD
  have hl : lv_has ls 7 [] := hl
  exact retV (u := (r15.1, r15.2, x1.1, x1.2)) (W1 := fun u => wX8 a0 g v0_marks v0_weights v0_places u.1 u.2.1 u.2.2.1 u.2.2.2 v0_papers) hx hb hr hlocks hS hP hD (hf0.trans hf.symm) dX8_lay_73
set_option maxHeartbeats 4000000 in
set_option maxRecDepth 100000 in
theorem c_X8_partOf (l : Launch) (g : GG) (a0 : Nat → Nat) (v0_marks : (Nat → Int32)) (v0_weights : (Nat → Int32)) (v0_places : (Nat → Int32)) (v0_aboves : (Nat → Int32)) (v0_belows : (Nat → Int32)) (v0_reduced_above : Int64) (v0_reduced_below : Int64) (v0_papers : Int32) (p1 : Int32) (p2 : Int32) (hne : (m_X8_partOf (v0_marks, v0_weights, v0_places, v0_aboves, v0_belows, (v0_reduced_above, v0_reduced_below), v0_papers) p1 p2) ≠ none) : Ct l g yX8_partOf cX8_partOf 3 (some .long) ({ frames := 1, cells := 0, slots := 0, locals := 21 } : Room) [.ref (a0 0), .int p1, .int p2] (wX8 a0 g v0_marks v0_weights v0_places v0_aboves v0_belows v0_reduced_above v0_reduced_below v0_papers) (Ql g (m_X8_partOf (v0_marks, v0_weights, v0_places, v0_aboves, v0_belows, (v0_reduced_above, v0_reduced_below), v0_papers) p1 p2) (fun u => u) (fun u => wX8 a0 g v0_marks v0_weights v0_places v0_aboves v0_belows v0_reduced_above v0_reduced_below v0_papers)) 0 0 := by
  obtain ⟨out, hf⟩ := ne_ex hne
  have hf0 := hf
  refine Ct.of (own := RX8) (by decide +kernel) rfl (Nat.le_of_ble_eq_true rfl) ?_
  intro p e s m below meth c hx hb hr hml hown hts hlocks hin hK A H locs hA hP hD hS hE ls hl
  have hl : lv_has ls 3 [(0, .ref (a0 0)), (1, .int p1), (2, .int p2)] := hl
  unfold m_X8_partOf at hf
  refine lv_iload_n hx hb dX8_partOf_0 rfl (lv_at hl 2 rfl) ?_
  refine lv_if_ne (tgt := 16) hx hb dX8_partOf_1 (by decide) (fun cb => ?_) (fun cb => ?_)
  · have hf := it_f cb hf
    refine lv_aload_n hx hb dX8_partOf_16 rfl (lv_at hl 0 rfl) ?_
    refine va_get (D := g.1) (ci := 9) (v := .ref (a0 9)) (C := RX8) (T := TX8) (N := 7) hx hb hts layX8 hown hK.1 hP 0 rfl rfl 4 (by decide) (hts _ kw155) (fun _ h9 => h9) rfl dX8_partOf_17 ?_
    refine lv_iload_n hx hb dX8_partOf_20 rfl (lv_at hl 1 rfl) ?_
    refine cIp hP hD hS hA hE (fun hPc hDc hSc => rV (As := [.int p1]) (rest := []) hx hb hml hown hts hK (c_X2_get l g (fun i => a0 (i + 9)) 7 v0_belows p1 (bnd_ne hf)) svV_X2_get kw698 rfl rfl hPc hDc hSc rfl rfl hl.1 (Nat.le_of_ble_eq_true rfl) dX8_partOf_21 ⟨Nat.le_of_ble_eq_true rfl, Nat.le_of_ble_eq_true rfl, rfl, rfl, Nat.le_of_ble_eq_true rfl, Nat.le_of_ble_eq_true rfl⟩) [(9, 2)] rfl rfl rfl (fun x1 H locs ex1 nx1 hP hS => ?_)
    have hf := bnd_of hf ex1
    refine lv_i2l (v := x1.toInt64) hx hb dX8_partOf_24 rfl ?_
    exact retL (u := x1.toInt64) (val := fun u => u) (W1 := fun u => wX8 a0 g v0_marks v0_weights v0_places v0_aboves v0_belows v0_reduced_above v0_reduced_below v0_papers) hx hb hr hlocks hS hP hD (hf0.trans hf.symm) rfl dX8_partOf_25
  have hf := it_t cb hf
  refine lv_aload_n hx hb dX8_partOf_4 rfl (lv_at hl 0 rfl) ?_
  refine va_get (D := g.1) (ci := 9) (v := .ref (a0 7)) (C := RX8) (T := TX8) (N := 7) hx hb hts layX8 hown hK.1 hP 0 rfl rfl 3 (by decide) (hts _ kw154) (fun _ h9 => h9) rfl dX8_partOf_5 ?_
  refine lv_iload_n hx hb dX8_partOf_8 rfl (lv_at hl 1 rfl) ?_
  refine cIp hP hD hS hA hE (fun hPc hDc hSc => rV (As := [.int p1]) (rest := []) hx hb hml hown hts hK (c_X2_get l g (fun i => a0 (i + 7)) 7 v0_aboves p1 (bnd_ne hf)) svV_X2_get kw698 rfl rfl hPc hDc hSc rfl rfl hl.1 (Nat.le_of_ble_eq_true rfl) dX8_partOf_9 ⟨Nat.le_of_ble_eq_true rfl, Nat.le_of_ble_eq_true rfl, rfl, rfl, Nat.le_of_ble_eq_true rfl, Nat.le_of_ble_eq_true rfl⟩) [(7, 2)] rfl rfl rfl (fun x2 H locs ex2 nx2 hP hS => ?_)
  have hf := bnd_of hf ex2
  refine lv_i2l (v := x2.toInt64) hx hb dX8_partOf_12 rfl ?_
  refine lv_goto (tgt := 25) hx hb dX8_partOf_13 (by decide) ?_
  exact retL (u := x2.toInt64) (val := fun u => u) (W1 := fun u => wX8 a0 g v0_marks v0_weights v0_places v0_aboves v0_belows v0_reduced_above v0_reduced_below v0_papers) hx hb hr hlocks hS hP hD (hf0.trans hf.symm) rfl dX8_partOf_25
set_option maxHeartbeats 4000000 in
set_option maxRecDepth 100000 in
theorem c_X8_gradeIn (l : Launch) (g : GG) (a0 : Nat → Nat) (v0_marks : (Nat → Int32)) (v0_weights : (Nat → Int32)) (v0_places : (Nat → Int32)) (v0_aboves : (Nat → Int32)) (v0_belows : (Nat → Int32)) (v0_reduced_above : Int64) (v0_reduced_below : Int64) (v0_papers : Int32) (a1 : Nat → Nat) (v1_raws : (Nat → Int32)) (v1_kinds : (Nat → Int32)) (v1_figures : (Nat → Int32)) (v1_heavies : (Nat → Int32)) (v1_places : (Nat → Int32)) (v1_papers : Int32) (v1_lowers : (Nat → Int32)) (v1_uppers : (Nat → Int32)) (v1_rules : Int32) (v1_bounds : (Nat → Int32)) (v1_boundCount : Int32) (v1_tieWay : Int32) (v1_reached : (Nat → Int32)) (p2 : Int32) (hne : (m_X8_gradeIn (v0_marks, v0_weights, v0_places, v0_aboves, v0_belows, (v0_reduced_above, v0_reduced_below), v0_papers) (v1_raws, v1_kinds, v1_figures, v1_heavies, v1_places, v1_papers, v1_lowers, v1_uppers, v1_rules, v1_bounds, v1_boundCount, v1_tieWay, v1_reached) p2) ≠ none) : Ct l g yX8_gradeIn cX8_gradeIn 3 (some .int) ({ frames := 2, cells := 0, slots := 0, locals := 47 } : Room) [.ref (a0 0), .ref (a1 0), .int p2] (wX8 a0 g v0_marks v0_weights v0_places v0_aboves v0_belows v0_reduced_above v0_reduced_below v0_papers ++ wX6 a1 g v1_raws v1_kinds v1_figures v1_heavies v1_places v1_papers v1_lowers v1_uppers v1_rules v1_bounds v1_boundCount v1_tieWay v1_reached) (Qi g .int (m_X8_gradeIn (v0_marks, v0_weights, v0_places, v0_aboves, v0_belows, (v0_reduced_above, v0_reduced_below), v0_papers) (v1_raws, v1_kinds, v1_figures, v1_heavies, v1_places, v1_papers, v1_lowers, v1_uppers, v1_rules, v1_bounds, v1_boundCount, v1_tieWay, v1_reached) p2) (fun u => u) (fun u => wX8 a0 g v0_marks v0_weights v0_places v0_aboves v0_belows v0_reduced_above v0_reduced_below v0_papers ++ wX6 a1 g v1_raws v1_kinds v1_figures v1_heavies v1_places v1_papers v1_lowers v1_uppers v1_rules v1_bounds v1_boundCount v1_tieWay v1_reached)) 0 0 := by
  obtain ⟨out, hf⟩ := ne_ex hne
  have hf0 := hf
  refine Ct.of (own := RX8) (by decide +kernel) rfl (Nat.le_of_ble_eq_true rfl) ?_
  intro p e s m below meth c hx hb hr hml hown hts hlocks hin hK A H locs hA hP hD hS hE ls hl
  have hl : lv_has ls 3 [(0, .ref (a0 0)), (1, .ref (a1 0)), (2, .int p2)] := hl
  unfold m_X8_gradeIn at hf
  refine lv_aload_n hx hb dX8_gradeIn_0 rfl (lv_at hl 1 rfl) ?_
  refine lv_aload_n hx hb dX8_gradeIn_1 rfl (lv_at hl 0 rfl) ?_
  refine va_get (D := g.1) (ci := 9) (v := .ref (a0 7)) (C := RX8) (T := TX8) (N := 7) hx hb hts layX8 hown hK.1 hP 0 rfl rfl 3 (by decide) (hts _ kw154) (fun _ h9 => h9) rfl dX8_gradeIn_2 ?_
  refine lv_iload_n hx hb dX8_gradeIn_5 rfl (lv_at hl 2 rfl) ?_
  refine cIp hP hD hS hA hE (fun hPc hDc hSc => rV (As := [.int p2]) (rest := [.ref (a1 0)]) hx hb hml hown hts hK (c_X2_get l g (fun i => a0 (i + 7)) 7 v0_aboves p2 (bnd_ne hf)) svV_X2_get kw698 rfl rfl hPc hDc hSc rfl rfl hl.1 (Nat.le_of_ble_eq_true rfl) dX8_gradeIn_6 ⟨Nat.le_of_ble_eq_true rfl, Nat.le_of_ble_eq_true rfl, rfl, rfl, Nat.le_of_ble_eq_true rfl, Nat.le_of_ble_eq_true rfl⟩) [(7, 2)] rfl rfl rfl (fun x1 H locs ex1 nx1 hP hS => ?_)
  have hf := bnd_of hf ex1
  refine lv_i2l (v := x1.toInt64) hx hb dX8_gradeIn_9 rfl ?_
  refine lv_aload_n hx hb dX8_gradeIn_10 rfl (lv_at hl 0 rfl) ?_
  refine va_get (D := g.1) (ci := 9) (v := .ref (a0 9)) (C := RX8) (T := TX8) (N := 7) hx hb hts layX8 hown hK.1 hP 0 rfl rfl 4 (by decide) (hts _ kw155) (fun _ h9 => h9) rfl dX8_gradeIn_11 ?_
  refine lv_iload_n hx hb dX8_gradeIn_14 rfl (lv_at hl 2 rfl) ?_
  refine cIp hP hD hS hA hE (fun hPc hDc hSc => rV (As := [.int p2]) (rest := [.long x1.toInt64, .ref (a1 0)]) hx hb hml hown hts hK (c_X2_get l g (fun i => a0 (i + 9)) 7 v0_belows p2 (bnd_ne hf)) svV_X2_get kw698 rfl rfl hPc hDc hSc rfl rfl hl.1 (Nat.le_of_ble_eq_true rfl) dX8_gradeIn_15 ⟨Nat.le_of_ble_eq_true rfl, Nat.le_of_ble_eq_true rfl, rfl, rfl, Nat.le_of_ble_eq_true rfl, Nat.le_of_ble_eq_true rfl⟩) [(9, 2)] rfl rfl rfl (fun x2 H locs ex2 nx2 hP hS => ?_)
  have hf := bnd_of hf ex2
  refine lv_i2l (v := x2.toInt64) hx hb dX8_gradeIn_18 rfl ?_
  refine cIp hP hD hS hA hE (fun hPc hDc hSc => rV (As := [.long x1.toInt64, .long x2.toInt64]) (rest := []) hx hb hml hown hts hK (c_X6_gradeOf l g a1 v1_raws v1_kinds v1_figures v1_heavies v1_places v1_papers v1_lowers v1_uppers v1_rules v1_bounds v1_boundCount v1_tieWay v1_reached x1.toInt64 x2.toInt64 (bnd_ne hf)) svV_X6_gradeOf kw905 rfl rfl hPc hDc hSc rfl rfl hl.1 (Nat.le_of_ble_eq_true rfl) dX8_gradeIn_19 ⟨Nat.le_of_ble_eq_true rfl, Nat.le_of_ble_eq_true rfl, rfl, rfl, Nat.le_of_ble_eq_true rfl, Nat.le_of_ble_eq_true rfl⟩) [(12, 19)] rfl rfl rfl (fun x3 H locs ex3 nx3 hP hS => ?_)
  have hf := bnd_of hf ex3
  exact retI (v := x3) (u := x3) (val := fun u => u) (W1 := fun u => wX8 a0 g v0_marks v0_weights v0_places v0_aboves v0_belows v0_reduced_above v0_reduced_below v0_papers ++ wX6 a1 g v1_raws v1_kinds v1_figures v1_heavies v1_places v1_papers v1_lowers v1_uppers v1_rules v1_bounds v1_boundCount v1_tieWay v1_reached) hx hb hr hlocks hS hP hD (hf0.trans hf.symm) rfl rfl dX8_gradeIn_22
set_option maxHeartbeats 4000000 in
set_option maxRecDepth 100000 in
theorem c_X8_isMark (l : Launch) (g : GG) (a0 : Nat → Nat) (v0_marks : (Nat → Int32)) (v0_weights : (Nat → Int32)) (v0_places : (Nat → Int32)) (v0_aboves : (Nat → Int32)) (v0_belows : (Nat → Int32)) (v0_reduced_above : Int64) (v0_reduced_below : Int64) (v0_papers : Int32) (p1 : Int32) (hne : (m_X8_isMark (v0_marks, v0_weights, v0_places, v0_aboves, v0_belows, (v0_reduced_above, v0_reduced_below), v0_papers) p1) ≠ none) : Ct l g yX8_isMark cX8_isMark 2 (some .boolean) ({ frames := 1, cells := 0, slots := 0, locals := 21 } : Room) [.ref (a0 0), .int p1] (wX8 a0 g v0_marks v0_weights v0_places v0_aboves v0_belows v0_reduced_above v0_reduced_below v0_papers) (Qi g .boolean (m_X8_isMark (v0_marks, v0_weights, v0_places, v0_aboves, v0_belows, (v0_reduced_above, v0_reduced_below), v0_papers) p1) (fun u => u) (fun u => wX8 a0 g v0_marks v0_weights v0_places v0_aboves v0_belows v0_reduced_above v0_reduced_below v0_papers)) 0 0 := by
  obtain ⟨out, hf⟩ := ne_ex hne
  have hf0 := hf
  refine Ct.of (own := RX8) (by decide +kernel) rfl (Nat.le_of_ble_eq_true rfl) ?_
  intro p e s m below meth c hx hb hr hml hown hts hlocks hin hK A H locs hA hP hD hS hE ls hl
  have hl : lv_has ls 2 [(0, .ref (a0 0)), (1, .int p1)] := hl
  unfold m_X8_isMark at hf
  refine lv_aload_n hx hb dX8_isMark_0 rfl (lv_at hl 0 rfl) ?_
  refine va_get (D := g.1) (ci := 9) (v := .ref (a0 7)) (C := RX8) (T := TX8) (N := 7) hx hb hts layX8 hown hK.1 hP 0 rfl rfl 3 (by decide) (hts _ kw154) (fun _ h9 => h9) rfl dX8_isMark_1 ?_
  refine lv_iload_n hx hb dX8_isMark_4 rfl (lv_at hl 1 rfl) ?_
  refine cIp hP hD hS hA hE (fun hPc hDc hSc => rV (As := [.int p1]) (rest := []) hx hb hml hown hts hK (c_X2_get l g (fun i => a0 (i + 7)) 7 v0_aboves p1 (bnd_ne hf)) svV_X2_get kw698 rfl rfl hPc hDc hSc rfl rfl hl.1 (Nat.le_of_ble_eq_true rfl) dX8_isMark_5 ⟨Nat.le_of_ble_eq_true rfl, Nat.le_of_ble_eq_true rfl, rfl, rfl, Nat.le_of_ble_eq_true rfl, Nat.le_of_ble_eq_true rfl⟩) [(7, 2)] rfl rfl rfl (fun x1 H locs ex1 nx1 hP hS => ?_)
  have hf := bnd_of hf ex1
  refine lv_aload_n hx hb dX8_isMark_8 rfl (lv_at hl 0 rfl) ?_
  refine va_get (D := g.1) (ci := 9) (v := .ref (a0 1)) (C := RX8) (T := TX8) (N := 7) hx hb hts layX8 hown hK.1 hP 0 rfl rfl 0 (by decide) (hts _ kw151) (fun _ h9 => h9) rfl dX8_isMark_9 ?_
  refine lv_iload_n hx hb dX8_isMark_12 rfl (lv_at hl 1 rfl) ?_
  refine cIp hP hD hS hA hE (fun hPc hDc hSc => rV (As := [.int p1]) (rest := [.int x1]) hx hb hml hown hts hK (c_X2_get l g (fun i => a0 (i + 1)) 7 v0_marks p1 (bnd_ne hf)) svV_X2_get kw698 rfl rfl hPc hDc hSc rfl rfl hl.1 (Nat.le_of_ble_eq_true rfl) dX8_isMark_13 ⟨Nat.le_of_ble_eq_true rfl, Nat.le_of_ble_eq_true rfl, rfl, rfl, Nat.le_of_ble_eq_true rfl, Nat.le_of_ble_eq_true rfl⟩) [(1, 2)] rfl rfl rfl (fun x2 H locs ex2 nx2 hP hS => ?_)
  have hf := bnd_of hf ex2
  refine lv_icmp_ne (tgt := 35) hx hb dX8_isMark_16 (by decide) (fun cb => ?_) (fun cb => ?_)
  · have hf := it_f cb hf
    refine lv_iconst (v := 0) hx hb dX8_isMark_35 (by decide) ?_
    exact retI (v := (0 : Int32)) (u := (0 : Int32)) (val := fun u => u) (W1 := fun u => wX8 a0 g v0_marks v0_weights v0_places v0_aboves v0_belows v0_reduced_above v0_reduced_below v0_papers) hx hb hr hlocks hS hP hD (hf0.trans hf.symm) rfl rfl dX8_isMark_36
  have hf := it_t cb hf
  refine lv_aload_n hx hb dX8_isMark_19 rfl (lv_at hl 0 rfl) ?_
  refine va_get (D := g.1) (ci := 9) (v := .ref (a0 9)) (C := RX8) (T := TX8) (N := 7) hx hb hts layX8 hown hK.1 hP 0 rfl rfl 4 (by decide) (hts _ kw155) (fun _ h9 => h9) rfl dX8_isMark_20 ?_
  refine lv_iload_n hx hb dX8_isMark_23 rfl (lv_at hl 1 rfl) ?_
  refine cIp hP hD hS hA hE (fun hPc hDc hSc => rV (As := [.int p1]) (rest := []) hx hb hml hown hts hK (c_X2_get l g (fun i => a0 (i + 9)) 7 v0_belows p1 (bnd_ne hf)) svV_X2_get kw698 rfl rfl hPc hDc hSc rfl rfl hl.1 (Nat.le_of_ble_eq_true rfl) dX8_isMark_24 ⟨Nat.le_of_ble_eq_true rfl, Nat.le_of_ble_eq_true rfl, rfl, rfl, Nat.le_of_ble_eq_true rfl, Nat.le_of_ble_eq_true rfl⟩) [(9, 2)] rfl rfl rfl (fun x3 H locs ex3 nx3 hP hS => ?_)
  have hf := bnd_of hf ex3
  refine lv_iconst (v := 1) hx hb dX8_isMark_27 (by decide) ?_
  refine lv_icmp_ne (tgt := 35) hx hb dX8_isMark_28 (by decide) (fun cb => ?_) (fun cb => ?_)
  · have hf := it_f cb hf
    refine lv_iconst (v := 0) hx hb dX8_isMark_35 (by decide) ?_
    exact retI (v := (0 : Int32)) (u := (0 : Int32)) (val := fun u => u) (W1 := fun u => wX8 a0 g v0_marks v0_weights v0_places v0_aboves v0_belows v0_reduced_above v0_reduced_below v0_papers) hx hb hr hlocks hS hP hD (hf0.trans hf.symm) rfl rfl dX8_isMark_36
  have hf := it_t cb hf
  refine lv_iconst (v := 1) hx hb dX8_isMark_31 (by decide) ?_
  refine lv_goto (tgt := 36) hx hb dX8_isMark_32 (by decide) ?_
  exact retI (v := (1 : Int32)) (u := (1 : Int32)) (val := fun u => u) (W1 := fun u => wX8 a0 g v0_marks v0_weights v0_places v0_aboves v0_belows v0_reduced_above v0_reduced_below v0_papers) hx hb hr hlocks hS hP hD (hf0.trans hf.symm) rfl rfl dX8_isMark_36
set_option maxHeartbeats 4000000 in
set_option maxRecDepth 100000 in
theorem c_X8_addChange (l : Launch) (g : GG) (a0 : Nat → Nat) (v0_marks : (Nat → Int32)) (v0_weights : (Nat → Int32)) (v0_places : (Nat → Int32)) (v0_aboves : (Nat → Int32)) (v0_belows : (Nat → Int32)) (v0_reduced_above : Int64) (v0_reduced_below : Int64) (v0_papers : Int32) (a1 : Nat → Nat) (v1_above : Int64) (v1_below : Int64) (p2 : Int32) (p3 : Int32) (hne : (m_X8_addChange (v0_marks, v0_weights, v0_places, v0_aboves, v0_belows, (v0_reduced_above, v0_reduced_below), v0_papers) (v1_above, v1_below) p2 p3) ≠ none) : Ct l g yX8_addChange cX8_addChange 8 none ({ frames := 3, cells := 0, slots := 0, locals := 82 } : Room) [.ref (a0 0), .ref (a1 0), .int p2, .int p3] (wX8 a0 g v0_marks v0_weights v0_places v0_aboves v0_belows v0_reduced_above v0_reduced_below v0_papers ++ wX1 a1 g v1_above v1_below) (Qv g (m_X8_addChange (v0_marks, v0_weights, v0_places, v0_aboves, v0_belows, (v0_reduced_above, v0_reduced_below), v0_papers) (v1_above, v1_below) p2 p3) (fun u => wX8 a0 g v0_marks v0_weights v0_places v0_aboves v0_belows v0_reduced_above v0_reduced_below v0_papers ++ wX1 a1 g u.1 u.2)) 0 0 := by
  obtain ⟨out, hf⟩ := ne_ex hne
  have hf0 := hf
  refine Ct.of (own := RX8) (by decide +kernel) rfl (Nat.le_of_ble_eq_true rfl) ?_
  intro p e s m below meth c hx hb hr hml hown hts hlocks hin hK A H locs hA hP hD hS hE ls hl
  have hl : lv_has ls 8 [(0, .ref (a0 0)), (1, .ref (a1 0)), (2, .int p2), (3, .int p3)] := hl
  unfold m_X8_addChange at hf
  refine lv_aload_n hx hb dX8_addChange_0 rfl (lv_at hl 0 rfl) ?_
  refine va_get (D := g.1) (ci := 9) (v := .ref (a0 9)) (C := RX8) (T := TX8) (N := 7) hx hb hts layX8 hown hK.1 hP 0 rfl rfl 4 (by decide) (hts _ kw155) (fun _ h9 => h9) rfl dX8_addChange_1 ?_
  refine lv_iload_n hx hb dX8_addChange_4 rfl (lv_at hl 3 rfl) ?_
  refine cIp hP hD hS hA hE (fun hPc hDc hSc => rV (As := [.int p3]) (rest := []) hx hb hml hown hts hK (c_X2_get l g (fun i => a0 (i + 9)) 7 v0_belows p3 (bnd_ne hf)) svV_X2_get kw698 rfl rfl hPc hDc hSc rfl rfl hl.1 (Nat.le_of_ble_eq_true rfl) dX8_addChange_5 ⟨Nat.le_of_ble_eq_true rfl, Nat.le_of_ble_eq_true rfl, rfl, rfl, Nat.le_of_ble_eq_true rfl, Nat.le_of_ble_eq_true rfl⟩) [(9, 2)] rfl rfl rfl (fun x1 H locs ex1 nx1 hP hS => ?_)
  have hf := bnd_of hf ex1
  refine lv_i2l (v := x1.toInt64) hx hb dX8_addChange_8 rfl ?_
  refine lv_lstore (lv' := [(4, .long x1.toInt64), (0, .ref (a0 0)), (1, .ref (a1 0)), (2, .int p2), (3, .int p3)]) hx hb dX8_addChange_9 hl (by decide) rfl (fun ls hl => ?_)
  refine lv_aload_n hx hb dX8_addChange_11 rfl (lv_at hl 1 rfl) ?_
  refine va_get (D := g.1) (ci := 9) (v := .ref (a0 7)) (C := RX8) (T := TX8) (N := 7) hx hb hts layX8 hown hK.1 hP 0 rfl rfl 3 (by decide) (hts _ kw154) (fun _ h9 => h9) rfl dX8_addChange_12 ?_
  refine lv_iload_n hx hb dX8_addChange_15 rfl (lv_at hl 4 rfl) ?_
  refine cIp hP hD hS hA hE (fun hPc hDc hSc => rV (As := [.int p3]) (rest := []) hx hb hml hown hts hK (c_X2_get l g (fun i => a0 (i + 7)) 7 v0_aboves p3 (bnd_ne hf)) svV_X2_get kw698 rfl rfl hPc hDc hSc rfl rfl hl.1 (Nat.le_of_ble_eq_true rfl) dX8_addChange_16 ⟨Nat.le_of_ble_eq_true rfl, Nat.le_of_ble_eq_true rfl, rfl, rfl, Nat.le_of_ble_eq_true rfl, Nat.le_of_ble_eq_true rfl⟩) [(7, 2)] rfl rfl rfl (fun x2 H locs ex2 nx2 hP hS => ?_)
  have hf := bnd_of hf ex2
  refine lv_i2l (v := x2.toInt64) hx hb dX8_addChange_19 rfl ?_
  refine lv_aload_n hx hb dX8_addChange_20 rfl (lv_at hl 1 rfl) ?_
  refine va_get (D := g.1) (ci := 9) (v := .ref (a0 1)) (C := RX8) (T := TX8) (N := 7) hx hb hts layX8 hown hK.1 hP 0 rfl rfl 0 (by decide) (hts _ kw151) (fun _ h9 => h9) rfl dX8_addChange_21 ?_
  refine lv_iload_n hx hb dX8_addChange_24 rfl (lv_at hl 4 rfl) ?_
  refine cIp hP hD hS hA hE (fun hPc hDc hSc => rV (As := [.int p3]) (rest := [.long x2.toInt64]) hx hb hml hown hts hK (c_X2_get l g (fun i => a0 (i + 1)) 7 v0_marks p3 (bnd_ne hf)) svV_X2_get kw698 rfl rfl hPc hDc hSc rfl rfl hl.1 (Nat.le_of_ble_eq_true rfl) dX8_addChange_25 ⟨Nat.le_of_ble_eq_true rfl, Nat.le_of_ble_eq_true rfl, rfl, rfl, Nat.le_of_ble_eq_true rfl, Nat.le_of_ble_eq_true rfl⟩) [(1, 2)] rfl rfl rfl (fun x3 H locs ex3 nx3 hP hS => ?_)
  have hf := bnd_of hf ex3
  refine lv_i2l (v := x3.toInt64) hx hb dX8_addChange_28 rfl ?_
  refine lv_lload hx hb dX8_addChange_29 (lv_at hl 0 rfl) ?_
  refine lv_lmul hx hb dX8_addChange_31 ?_
  refine lv_lsub hx hb dX8_addChange_32 ?_
  refine va_mabs_long hx hb (hml.trans hl.1.symm) hown (hts _ kw812) (hts _ kw813) (hts _ kw4) (hts _ kw814) (Nat.le_of_ble_eq_true rfl) (Nat.le_of_ble_eq_true rfl) (Nat.zero_le _) (Nat.zero_le _) dX8_addChange_33 ?_
  obtain ⟨x4, ex4, hf⟩ := bnd hf
  refine nmL (Option.some.inj ex4) ?_
  refine lv_lstore (lv' := [(6, .long x4), (4, .long x1.toInt64), (0, .ref (a0 0)), (1, .ref (a1 0)), (2, .int p2), (3, .int p3)]) hx hb dX8_addChange_36 hl (by decide) rfl (fun ls hl => ?_)
  refine lv_iload_n hx hb dX8_addChange_38 rfl (lv_at hl 4 rfl) ?_
  refine lv_if_ne (tgt := 69) hx hb dX8_addChange_39 (by decide) (fun cb => ?_) (fun cb => ?_)
  · have hf := it_f cb hf
    refine lv_iload_n hx hb dX8_addChange_69 rfl (lv_at hl 4 rfl) ?_
    refine lv_iconst (v := 1) hx hb dX8_addChange_70 (by decide) ?_
    refine lv_icmp_ne (tgt := 95) hx hb dX8_addChange_71 (by decide) (fun cb => ?_) (fun cb => ?_)
    · have hf := it_f cb hf
      refine lv_aload_n hx hb dX8_addChange_95 rfl (lv_at hl 3 rfl) ?_
      refine lv_lload hx hb dX8_addChange_96 (lv_at hl 0 rfl) ?_
      refine lv_lload hx hb dX8_addChange_98 (lv_at hl 1 rfl) ?_
      refine cIp hP hD hS hA hE (fun hPc hDc hSc => rV (As := [.long x4, .long x1.toInt64]) (rest := []) hx hb hml hown hts hK (c_X1_isBelow l g a1 v1_above v1_below x4 x1.toInt64 (bnd_ne hf)) svV_X1_isBelow kw820 rfl rfl hPc hDc hSc rfl rfl hl.1 (Nat.le_of_ble_eq_true rfl) dX8_addChange_100 ⟨Nat.le_of_ble_eq_true rfl, Nat.le_of_ble_eq_true rfl, rfl, rfl, Nat.le_of_ble_eq_true rfl, Nat.le_of_ble_eq_true rfl⟩) [(12, 1)] rfl rfl rfl (fun x5 H locs ex5 nx5 hP hS => ?_)
      have hf := bnd_of hf ex5
      refine lv_if_eq (tgt := 114) hx hb dX8_addChange_103 (by decide) (fun cb => ?_) (fun cb => ?_)
      · have hf := it_t cb hf
        exact retV (u := (v1_above, v1_below)) (W1 := fun u => wX8 a0 g v0_marks v0_weights v0_places v0_aboves v0_belows v0_reduced_above v0_reduced_below v0_papers ++ wX1 a1 g u.1 u.2) hx hb hr hlocks hS hP hD (hf0.trans hf.symm) dX8_addChange_114
      have hf := it_f cb hf
      refine lv_aload_n hx hb dX8_addChange_106 rfl (lv_at hl 3 rfl) ?_
      refine lv_lload hx hb dX8_addChange_107 (lv_at hl 0 rfl) ?_
      refine lv_lload hx hb dX8_addChange_109 (lv_at hl 1 rfl) ?_
      refine cV hP hD hS hA hE (fun hPc hDc hSc => rV (As := [.long x4, .long x1.toInt64]) (rest := []) hx hb hml hown hts hK (c_X1_make l g a1 v1_above v1_below x4 x1.toInt64 (bnd_ne hf)) svV_X1_make kw766 rfl rfl hPc hDc hSc rfl rfl hl.1 (Nat.le_of_ble_eq_true rfl) dX8_addChange_111 ⟨Nat.le_of_ble_eq_true rfl, Nat.le_of_ble_eq_true rfl, rfl, rfl, Nat.le_of_ble_eq_true rfl, Nat.le_of_ble_eq_true rfl⟩) [(12, 1)] rfl rfl rfl (fun _ => rfl) (fun x6 H locs ex6 hP hD hS => ?_)
      have hf := bnd_of hf ex6
      have hP : va_P g.1 vwCl (wX8 a0 g v0_marks v0_weights v0_places v0_aboves v0_belows v0_reduced_above v0_reduced_below v0_papers ++ wX1 a1 g x6.1 x6.2) H := hP
      have hD : va_D A (wX8 a0 g v0_marks v0_weights v0_places v0_aboves v0_belows v0_reduced_above v0_reduced_below v0_papers ++ wX1 a1 g x6.1 x6.2) := hD
      exact retV (u := (x6.1, x6.2)) (W1 := fun u => wX8 a0 g v0_marks v0_weights v0_places v0_aboves v0_belows v0_reduced_above v0_reduced_below v0_papers ++ wX1 a1 g u.1 u.2) hx hb hr hlocks hS hP hD (hf0.trans hf.symm) dX8_addChange_114
    have hf := it_t cb hf
    refine lv_aload_n hx hb dX8_addChange_74 rfl (lv_at hl 3 rfl) ?_
    refine lv_aload_n hx hb dX8_addChange_75 rfl (lv_at hl 2 rfl) ?_
    refine va_get (D := g.1) (ci := 9) (v := .ref (a0 3)) (C := RX8) (T := TX8) (N := 7) hx hb hts layX8 hown hK.1 hP 0 rfl rfl 1 (by decide) (hts _ kw152) (fun _ h9 => h9) rfl dX8_addChange_76 ?_
    refine lv_iload_n hx hb dX8_addChange_79 rfl (lv_at hl 5 rfl) ?_
    refine cIp hP hD hS hA hE (fun hPc hDc hSc => rV (As := [.int p3]) (rest := [.ref (a1 0)]) hx hb hml hown hts hK (c_X2_get l g (fun i => a0 (i + 3)) 7 v0_weights p3 (bnd_ne hf)) svV_X2_get kw698 rfl rfl hPc hDc hSc rfl rfl hl.1 (Nat.le_of_ble_eq_true rfl) dX8_addChange_80 ⟨Nat.le_of_ble_eq_true rfl, Nat.le_of_ble_eq_true rfl, rfl, rfl, Nat.le_of_ble_eq_true rfl, Nat.le_of_ble_eq_true rfl⟩) [(3, 2)] rfl rfl rfl (fun x7 H locs ex7 nx7 hP hS => ?_)
    have hf := bnd_of hf ex7
    refine lv_i2l (v := x7.toInt64) hx hb dX8_addChange_83 rfl ?_
    refine lv_lload hx hb dX8_addChange_84 (lv_at hl 0 rfl) ?_
    refine lv_lmul hx hb dX8_addChange_86 ?_
    refine lv_lload hx hb dX8_addChange_87 (lv_at hl 1 rfl) ?_
    refine cV hP hD hS hA hE (fun hPc hDc hSc => rV (As := [.long (x7.toInt64 * x4), .long x1.toInt64]) (rest := []) hx hb hml hown hts hK (c_X1_add l g a1 v1_above v1_below (x7.toInt64 * x4) x1.toInt64 (bnd_ne hf)) svV_X1_add kw815 rfl rfl hPc hDc hSc rfl rfl hl.1 (Nat.le_of_ble_eq_true rfl) dX8_addChange_89 ⟨Nat.le_of_ble_eq_true rfl, Nat.le_of_ble_eq_true rfl, rfl, rfl, Nat.le_of_ble_eq_true rfl, Nat.le_of_ble_eq_true rfl⟩) [(12, 1)] rfl rfl rfl (fun _ => rfl) (fun x8 H locs ex8 hP hD hS => ?_)
    have hf := bnd_of hf ex8
    have hP : va_P g.1 vwCl (wX8 a0 g v0_marks v0_weights v0_places v0_aboves v0_belows v0_reduced_above v0_reduced_below v0_papers ++ wX1 a1 g x8.1 x8.2) H := hP
    have hD : va_D A (wX8 a0 g v0_marks v0_weights v0_places v0_aboves v0_belows v0_reduced_above v0_reduced_below v0_papers ++ wX1 a1 g x8.1 x8.2) := hD
    refine lv_goto (tgt := 114) hx hb dX8_addChange_92 (by decide) ?_
    exact retV (u := (x8.1, x8.2)) (W1 := fun u => wX8 a0 g v0_marks v0_weights v0_places v0_aboves v0_belows v0_reduced_above v0_reduced_below v0_papers ++ wX1 a1 g u.1 u.2) hx hb hr hlocks hS hP hD (hf0.trans hf.symm) dX8_addChange_114
  have hf := it_t cb hf
  refine lv_aload_n hx hb dX8_addChange_42 rfl (lv_at hl 3 rfl) ?_
  refine lv_aload_n hx hb dX8_addChange_43 rfl (lv_at hl 2 rfl) ?_
  refine va_get (D := g.1) (ci := 9) (v := .ref (a0 3)) (C := RX8) (T := TX8) (N := 7) hx hb hts layX8 hown hK.1 hP 0 rfl rfl 1 (by decide) (hts _ kw152) (fun _ h9 => h9) rfl dX8_addChange_44 ?_
  refine lv_iload_n hx hb dX8_addChange_47 rfl (lv_at hl 5 rfl) ?_
  refine cIp hP hD hS hA hE (fun hPc hDc hSc => rV (As := [.int p3]) (rest := [.ref (a1 0)]) hx hb hml hown hts hK (c_X2_get l g (fun i => a0 (i + 3)) 7 v0_weights p3 (bnd_ne hf)) svV_X2_get kw698 rfl rfl hPc hDc hSc rfl rfl hl.1 (Nat.le_of_ble_eq_true rfl) dX8_addChange_48 ⟨Nat.le_of_ble_eq_true rfl, Nat.le_of_ble_eq_true rfl, rfl, rfl, Nat.le_of_ble_eq_true rfl, Nat.le_of_ble_eq_true rfl⟩) [(3, 2)] rfl rfl rfl (fun x9 H locs ex9 nx9 hP hS => ?_)
  have hf := bnd_of hf ex9
  refine lv_i2l (v := x9.toInt64) hx hb dX8_addChange_51 rfl ?_
  refine lv_lload hx hb dX8_addChange_52 (lv_at hl 0 rfl) ?_
  refine lv_lmul hx hb dX8_addChange_54 ?_
  refine lv_lload hx hb dX8_addChange_55 (lv_at hl 0 rfl) ?_
  refine lv_lmul hx hb dX8_addChange_57 ?_
  refine lv_lload hx hb dX8_addChange_58 (lv_at hl 1 rfl) ?_
  refine lv_lload hx hb dX8_addChange_60 (lv_at hl 1 rfl) ?_
  refine lv_lmul hx hb dX8_addChange_62 ?_
  refine cV hP hD hS hA hE (fun hPc hDc hSc => rV (As := [.long ((x9.toInt64 * x4) * x4), .long (x1.toInt64 * x1.toInt64)]) (rest := []) hx hb hml hown hts hK (c_X1_add l g a1 v1_above v1_below ((x9.toInt64 * x4) * x4) (x1.toInt64 * x1.toInt64) (bnd_ne hf)) svV_X1_add kw815 rfl rfl hPc hDc hSc rfl rfl hl.1 (Nat.le_of_ble_eq_true rfl) dX8_addChange_63 ⟨Nat.le_of_ble_eq_true rfl, Nat.le_of_ble_eq_true rfl, rfl, rfl, Nat.le_of_ble_eq_true rfl, Nat.le_of_ble_eq_true rfl⟩) [(12, 1)] rfl rfl rfl (fun _ => rfl) (fun x10 H locs ex10 hP hD hS => ?_)
  have hf := bnd_of hf ex10
  have hP : va_P g.1 vwCl (wX8 a0 g v0_marks v0_weights v0_places v0_aboves v0_belows v0_reduced_above v0_reduced_below v0_papers ++ wX1 a1 g x10.1 x10.2) H := hP
  have hD : va_D A (wX8 a0 g v0_marks v0_weights v0_places v0_aboves v0_belows v0_reduced_above v0_reduced_below v0_papers ++ wX1 a1 g x10.1 x10.2) := hD
  refine lv_goto (tgt := 114) hx hb dX8_addChange_66 (by decide) ?_
  exact retV (u := (x10.1, x10.2)) (W1 := fun u => wX8 a0 g v0_marks v0_weights v0_places v0_aboves v0_belows v0_reduced_above v0_reduced_below v0_papers ++ wX1 a1 g u.1 u.2) hx hb hr hlocks hS hP hD (hf0.trans hf.symm) dX8_addChange_114
set_option maxHeartbeats 4000000 in
set_option maxRecDepth 100000 in
theorem c_X8_workChange (l : Launch) (g : GG) (a0 : Nat → Nat) (v0_marks : (Nat → Int32)) (v0_weights : (Nat → Int32)) (v0_places : (Nat → Int32)) (v0_aboves : (Nat → Int32)) (v0_belows : (Nat → Int32)) (v0_reduced_above : Int64) (v0_reduced_below : Int64) (v0_papers : Int32) (a1 : Nat → Nat) (v1_above : Int64) (v1_below : Int64) (p2 : Int32) (hne : (m_X8_workChange (v0_marks, v0_weights, v0_places, v0_aboves, v0_belows, (v0_reduced_above, v0_reduced_below), v0_papers) (v1_above, v1_below) p2) ≠ none) : Ct l g yX8_workChange cX8_workChange 5 none ({ frames := 4, cells := 0, slots := 0, locals := 109 } : Room) [.ref (a0 0), .ref (a1 0), .int p2] (wX8 a0 g v0_marks v0_weights v0_places v0_aboves v0_belows v0_reduced_above v0_reduced_below v0_papers ++ wX1 a1 g v1_above v1_below) (Qv g (m_X8_workChange (v0_marks, v0_weights, v0_places, v0_aboves, v0_belows, (v0_reduced_above, v0_reduced_below), v0_papers) (v1_above, v1_below) p2) (fun u => wX8 a0 g v0_marks v0_weights v0_places v0_aboves v0_belows v0_reduced_above v0_reduced_below v0_papers ++ wX1 a1 g u.1 u.2)) 0 0 := by
  obtain ⟨out, hf⟩ := ne_ex hne
  have hf0 := hf
  refine Ct.of (own := RX8) (by decide +kernel) rfl (Nat.le_of_ble_eq_true rfl) ?_
  intro p e s m below meth c hx hb hr hml hown hts hlocks hin hK A H locs hA hP hD hS hE ls hl
  have hl : lv_has ls 5 [(0, .ref (a0 0)), (1, .ref (a1 0)), (2, .int p2)] := hl
  unfold m_X8_workChange at hf
  refine lv_aload_n hx hb dX8_workChange_0 rfl (lv_at hl 1 rfl) ?_
  refine lv_lconst (v := 0) hx hb dX8_workChange_1 (by decide) ?_
  refine lv_lconst (v := 1) hx hb dX8_workChange_2 (by decide) ?_
  refine cV hP hD hS hA hE (fun hPc hDc hSc => rV (As := [.long (0 : Int64), .long (1 : Int64)]) (rest := []) hx hb hml hown hts hK (c_X1_make l g a1 v1_above v1_below (0 : Int64) (1 : Int64) (bnd_ne hf)) svV_X1_make kw766 rfl rfl hPc hDc hSc rfl rfl hl.1 (Nat.le_of_ble_eq_true rfl) dX8_workChange_3 ⟨Nat.le_of_ble_eq_true rfl, Nat.le_of_ble_eq_true rfl, rfl, rfl, Nat.le_of_ble_eq_true rfl, Nat.le_of_ble_eq_true rfl⟩) [(12, 1)] rfl rfl rfl (fun _ => rfl) (fun x1 H locs ex1 hP hD hS => ?_)
  have hf := bnd_of hf ex1
  have hP : va_P g.1 vwCl (wX8 a0 g v0_marks v0_weights v0_places v0_aboves v0_belows v0_reduced_above v0_reduced_below v0_papers ++ wX1 a1 g x1.1 x1.2) H := hP
  have hD : va_D A (wX8 a0 g v0_marks v0_weights v0_places v0_aboves v0_belows v0_reduced_above v0_reduced_below v0_papers ++ wX1 a1 g x1.1 x1.2) := hD
  refine lv_iconst (v := 0) hx hb dX8_workChange_6 (by decide) ?_
  refine lv_istore_n (lv' := [(3, .int (0 : Int32)), (0, .ref (a0 0)), (1, .ref (a1 0)), (2, .int p2)]) hx hb dX8_workChange_7 rfl hl (by decide) rfl (fun ls hl => ?_)
  obtain ⟨r21, er21, hf⟩ := bnd hf
  refine lp_W (P := fun z => ∀ (H : Heap) (locs : List Loc) (ls : Array Slot), va_P g.1 vwCl (wX8 a0 g v0_marks v0_weights v0_places v0_aboves v0_belows v0_reduced_above v0_reduced_below v0_papers ++ wX1 a1 g z.2.1 z.2.2) H → va_D A (wX8 a0 g v0_marks v0_weights v0_places v0_aboves v0_belows v0_reduced_above v0_reduced_below v0_papers ++ wX1 a1 g z.2.1 z.2.2) → va_S A s.heap H locs → lv_has ls 5 [(0, .ref (a0 0)), (1, .ref (a1 0)), (2, .int p2), (3, .int z.1)] → W p l e { frames := 4, cells := 0, slots := 0, locals := 109 } s m [.ref (a0 0), .ref (a1 0), .int p2].toArray below meth c H locs 0 0 (MQ below (Qv g (m_X8_workChange (v0_marks, v0_weights, v0_places, v0_aboves, v0_belows, (v0_reduced_above, v0_reduced_below), v0_papers) (v1_above, v1_below) p2) (fun u => wX8 a0 g v0_marks v0_weights v0_places v0_aboves v0_belows v0_reduced_above v0_reduced_below v0_papers ++ wX1 a1 g u.1 u.2) A) [.ref (a0 0), .ref (a1 0), .int p2].toArray s 0 0 A) (F0 m 8 ls [])) (E := fun r21 => ∀ (H : Heap) (locs : List Loc) (ls : Array Slot), va_P g.1 vwCl (wX8 a0 g v0_marks v0_weights v0_places v0_aboves v0_belows v0_reduced_above v0_reduced_below v0_papers ++ wX1 a1 g r21.1 r21.2) H → va_D A (wX8 a0 g v0_marks v0_weights v0_places v0_aboves v0_belows v0_reduced_above v0_reduced_below v0_papers ++ wX1 a1 g r21.1 r21.2) → va_S A s.heap H locs → lv_has ls 5 [] → W p l e { frames := 4, cells := 0, slots := 0, locals := 109 } s m [.ref (a0 0), .ref (a1 0), .int p2].toArray below meth c H locs 0 0 (MQ below (Qv g (m_X8_workChange (v0_marks, v0_weights, v0_places, v0_aboves, v0_belows, (v0_reduced_above, v0_reduced_below), v0_papers) (v1_above, v1_below) p2) (fun u => wX8 a0 g v0_marks v0_weights v0_places v0_aboves v0_belows v0_reduced_above v0_reduced_below v0_papers ++ wX1 a1 g u.1 u.2) A) [.ref (a0 0), .ref (a1 0), .int p2].toArray s 0 0 A) (F0 m 59 ls [])) ?_ fu _ r21 er21 ?_ _ _ _ hP hD hS (lv_sub hl [1, 2, 3, 0] rfl)
  · rintro ⟨x10, x11, x12⟩ y hf hB hXt H locs ls hP hD hS hl
    have hP : va_P g.1 vwCl (wX8 a0 g v0_marks v0_weights v0_places v0_aboves v0_belows v0_reduced_above v0_reduced_below v0_papers ++ wX1 a1 g x11 x12) H := hP
    have hD : va_D A (wX8 a0 g v0_marks v0_weights v0_places v0_aboves v0_belows v0_reduced_above v0_reduced_below v0_papers ++ wX1 a1 g x11 x12) := hD
    have hl : lv_has ls 5 [(0, .ref (a0 0)), (1, .ref (a1 0)), (2, .int p2), (3, .int x10)] := hl
    have hf : m_X8_workChange_l8 (v0_marks, v0_weights, v0_places, v0_aboves, v0_belows, (v0_reduced_above, v0_reduced_below), v0_papers) (v1_above, v1_below) p2 x10 x11 x12 = some y := hf
    unfold m_X8_workChange_l8 at hf
    refine lv_iload_n hx hb dX8_workChange_8 rfl (lv_at hl 3 rfl) ?_
    refine lv_bipush (v := 9) hx hb dX8_workChange_9 (by decide) ?_
    refine lv_icmp_gt (tgt := 59) hx hb dX8_workChange_11 (by decide) (fun cb => ?_) (fun cb => ?_)
    · have hf := it_t cb hf
      exact hXt _ (Option.some.inj hf).symm _ _ _ hP hD hS (lv_sub hl [] rfl)
    have hf := it_f cb hf
    refine lv_iconst (v := 0) hx hb dX8_workChange_14 (by decide) ?_
    refine lv_istore (lv' := [(4, .int (0 : Int32)), (0, .ref (a0 0)), (1, .ref (a1 0)), (2, .int p2), (3, .int x10)]) hx hb dX8_workChange_15 hl (by decide) rfl (fun ls hl => ?_)
    obtain ⟨r20, er20, hf⟩ := bnd hf
    refine lp_W (P := fun z => ∀ (H : Heap) (locs : List Loc) (ls : Array Slot), va_P g.1 vwCl (wX8 a0 g v0_marks v0_weights v0_places v0_aboves v0_belows v0_reduced_above v0_reduced_below v0_papers ++ wX1 a1 g z.2.1 z.2.2) H → va_D A (wX8 a0 g v0_marks v0_weights v0_places v0_aboves v0_belows v0_reduced_above v0_reduced_below v0_papers ++ wX1 a1 g z.2.1 z.2.2) → va_S A s.heap H locs → lv_has ls 5 [(0, .ref (a0 0)), (1, .ref (a1 0)), (2, .int p2), (3, .int x10), (4, .int z.1)] → W p l e { frames := 4, cells := 0, slots := 0, locals := 109 } s m [.ref (a0 0), .ref (a1 0), .int p2].toArray below meth c H locs 0 0 (MQ below (Qv g (m_X8_workChange (v0_marks, v0_weights, v0_places, v0_aboves, v0_belows, (v0_reduced_above, v0_reduced_below), v0_papers) (v1_above, v1_below) p2) (fun u => wX8 a0 g v0_marks v0_weights v0_places v0_aboves v0_belows v0_reduced_above v0_reduced_below v0_papers ++ wX1 a1 g u.1 u.2) A) [.ref (a0 0), .ref (a1 0), .int p2].toArray s 0 0 A) (F0 m 17 ls [])) (E := fun r20 => ∀ (H : Heap) (locs : List Loc) (ls : Array Slot), va_P g.1 vwCl (wX8 a0 g v0_marks v0_weights v0_places v0_aboves v0_belows v0_reduced_above v0_reduced_below v0_papers ++ wX1 a1 g r20.1 r20.2) H → va_D A (wX8 a0 g v0_marks v0_weights v0_places v0_aboves v0_belows v0_reduced_above v0_reduced_below v0_papers ++ wX1 a1 g r20.1 r20.2) → va_S A s.heap H locs → lv_has ls 5 [(0, .ref (a0 0)), (1, .ref (a1 0)), (2, .int p2), (3, .int x10)] → W p l e { frames := 4, cells := 0, slots := 0, locals := 109 } s m [.ref (a0 0), .ref (a1 0), .int p2].toArray below meth c H locs 0 0 (MQ below (Qv g (m_X8_workChange (v0_marks, v0_weights, v0_places, v0_aboves, v0_belows, (v0_reduced_above, v0_reduced_below), v0_papers) (v1_above, v1_below) p2) (fun u => wX8 a0 g v0_marks v0_weights v0_places v0_aboves v0_belows v0_reduced_above v0_reduced_below v0_papers ++ wX1 a1 g u.1 u.2) A) [.ref (a0 0), .ref (a1 0), .int p2].toArray s 0 0 A) (F0 m 53 ls [])) ?_ fu _ r20 er20 ?_ _ _ _ hP hD hS (lv_sub hl [1, 2, 3, 4, 0] rfl)
    · rintro ⟨x15, x16, x17⟩ y hf hB hXt H locs ls hP hD hS hl
      have hP : va_P g.1 vwCl (wX8 a0 g v0_marks v0_weights v0_places v0_aboves v0_belows v0_reduced_above v0_reduced_below v0_papers ++ wX1 a1 g x16 x17) H := hP
      have hD : va_D A (wX8 a0 g v0_marks v0_weights v0_places v0_aboves v0_belows v0_reduced_above v0_reduced_below v0_papers ++ wX1 a1 g x16 x17) := hD
      have hl : lv_has ls 5 [(0, .ref (a0 0)), (1, .ref (a1 0)), (2, .int p2), (3, .int x10), (4, .int x15)] := hl
      have hf : m_X8_workChange_l17_2 (v0_marks, v0_weights, v0_places, v0_aboves, v0_belows, (v0_reduced_above, v0_reduced_below), v0_papers) (v1_above, v1_below) p2 x10 x15 x16 x17 = some y := hf
      unfold m_X8_workChange_l17_2 at hf
      refine lv_iload hx hb dX8_workChange_17 (lv_at hl 4 rfl) ?_
      refine lv_aload_n hx hb dX8_workChange_19 rfl (lv_at hl 0 rfl) ?_
      refine va_get (D := g.1) (ci := 9) (v := .int v0_papers) (C := RX8) (T := TX8) (N := 7) hx hb hts layX8 hown hK.1 hP 0 rfl rfl 6 (by decide) (hts _ kw157) (fun _ h9 => h9) rfl dX8_workChange_20 ?_
      refine lv_icmp_ge (tgt := 53) hx hb dX8_workChange_23 (by decide) (fun cb => ?_) (fun cb => ?_)
      · have hf := it_t cb hf
        exact hXt _ (Option.some.inj hf).symm _ _ _ hP hD hS (lv_sub hl [0, 1, 2, 3] rfl)
      have hf := it_f cb hf
      refine lv_aload_n hx hb dX8_workChange_26 rfl (lv_at hl 0 rfl) ?_
      refine va_get (D := g.1) (ci := 9) (v := .ref (a0 5)) (C := RX8) (T := TX8) (N := 7) hx hb hts layX8 hown hK.1 hP 0 rfl rfl 2 (by decide) (hts _ kw153) (fun _ h9 => h9) rfl dX8_workChange_27 ?_
      refine lv_iload hx hb dX8_workChange_30 (lv_at hl 4 rfl) ?_
      refine cIp hP hD hS hA hE (fun hPc hDc hSc => rV (As := [.int x15]) (rest := []) hx hb hml hown hts hK (c_X2_get l g (fun i => a0 (i + 5)) 7 v0_places x15 (bnd_ne hf)) svV_X2_get kw698 rfl rfl hPc hDc hSc rfl rfl hl.1 (Nat.le_of_ble_eq_true rfl) dX8_workChange_32 ⟨Nat.le_of_ble_eq_true rfl, Nat.le_of_ble_eq_true rfl, rfl, rfl, Nat.le_of_ble_eq_true rfl, Nat.le_of_ble_eq_true rfl⟩) [(5, 2)] rfl rfl rfl (fun x18 H locs ex18 nx18 hP hS => ?_)
      have hf := bnd_of hf ex18
      refine lv_iload_n hx hb dX8_workChange_35 rfl (lv_at hl 3 rfl) ?_
      refine lv_icmp_ne (tgt := 47) hx hb dX8_workChange_36 (by decide) (fun cb => ?_) (fun cb => ?_)
      · have hf := it_f cb hf
        refine lv_iinc (v := (x15 + 1)) (lv' := [(4, .int (x15 + 1)), (0, .ref (a0 0)), (1, .ref (a1 0)), (2, .int p2), (3, .int x10)]) hx hb dX8_workChange_47 hl (k := 4) rfl (by rfl) (by decide) rfl (fun ls hl => ?_)
        refine lv_goto (tgt := 17) hx hb dX8_workChange_50 (by decide) ?_
        exact hB _ (Option.some.inj hf).symm _ _ _ hP hD hS (lv_sub hl [1, 2, 3, 4, 0] rfl)
      have hf := it_t cb hf
      refine lv_aload_n hx hb dX8_workChange_39 rfl (lv_at hl 0 rfl) ?_
      refine lv_aload_n hx hb dX8_workChange_40 rfl (lv_at hl 1 rfl) ?_
      refine lv_iload_n hx hb dX8_workChange_41 rfl (lv_at hl 2 rfl) ?_
      refine lv_iload hx hb dX8_workChange_42 (lv_at hl 4 rfl) ?_
      refine cV hP hD hS hA hE (fun hPc hDc hSc => rV (As := [.ref (a1 0), .int p2, .int x15]) (rest := []) hx hb hml hown hts hK (c_X8_addChange l g a0 v0_marks v0_weights v0_places v0_aboves v0_belows v0_reduced_above v0_reduced_below v0_papers a1 x16 x17 p2 x15 (bnd_ne hf)) svV_X8_addChange kw809 rfl rfl hPc hDc hSc rfl rfl hl.1 (Nat.le_of_ble_eq_true rfl) dX8_workChange_44 ⟨Nat.le_of_ble_eq_true rfl, Nat.le_of_ble_eq_true rfl, rfl, rfl, Nat.le_of_ble_eq_true rfl, Nat.le_of_ble_eq_true rfl⟩) [(0, 12), (12, 1)] rfl rfl rfl (fun _ => rfl) (fun x19 H locs ex19 hP hD hS => ?_)
      have hf := bnd_of hf ex19
      have hP : va_P g.1 vwCl (wX8 a0 g v0_marks v0_weights v0_places v0_aboves v0_belows v0_reduced_above v0_reduced_below v0_papers ++ wX1 a1 g x19.1 x19.2) H := hP
      have hD : va_D A (wX8 a0 g v0_marks v0_weights v0_places v0_aboves v0_belows v0_reduced_above v0_reduced_below v0_papers ++ wX1 a1 g x19.1 x19.2) := hD
      refine lv_iinc (v := (x15 + 1)) (lv' := [(4, .int (x15 + 1)), (0, .ref (a0 0)), (1, .ref (a1 0)), (2, .int p2), (3, .int x10)]) hx hb dX8_workChange_47 hl (k := 4) rfl (by rfl) (by decide) rfl (fun ls hl => ?_)
      refine lv_goto (tgt := 17) hx hb dX8_workChange_50 (by decide) ?_
      exact hB _ (Option.some.inj hf).symm _ _ _ hP hD hS (lv_sub hl [1, 2, 3, 4, 0] rfl)
    intro H locs ls hP hD hS hl
    have hP : va_P g.1 vwCl (wX8 a0 g v0_marks v0_weights v0_places v0_aboves v0_belows v0_reduced_above v0_reduced_below v0_papers ++ wX1 a1 g r20.1 r20.2) H := hP
    have hD : va_D A (wX8 a0 g v0_marks v0_weights v0_places v0_aboves v0_belows v0_reduced_above v0_reduced_below v0_papers ++ wX1 a1 g r20.1 r20.2) := hD
    have hl : lv_has ls 5 [(0, .ref (a0 0)), (1, .ref (a1 0)), (2, .int p2), (3, .int x10)] := hl
    refine lv_iinc (v := (x10 + 1)) (lv' := [(3, .int (x10 + 1)), (0, .ref (a0 0)), (1, .ref (a1 0)), (2, .int p2)]) hx hb dX8_workChange_53 hl (k := 3) rfl (by rfl) (by decide) rfl (fun ls hl => ?_)
    refine lv_goto (tgt := 8) hx hb dX8_workChange_56 (by decide) ?_
    exact hB _ (Option.some.inj hf).symm _ _ _ hP hD hS (lv_sub hl [1, 2, 3, 0] rfl)
  intro H locs ls hP hD hS hl
  have hP : va_P g.1 vwCl (wX8 a0 g v0_marks v0_weights v0_places v0_aboves v0_belows v0_reduced_above v0_reduced_below v0_papers ++ wX1 a1 g r21.1 r21.2) H := hP
  have hD : va_D A (wX8 a0 g v0_marks v0_weights v0_places v0_aboves v0_belows v0_reduced_above v0_reduced_below v0_papers ++ wX1 a1 g r21.1 r21.2) := hD
  have hl : lv_has ls 5 [] := hl
  exact retV (u := (r21.1, r21.2)) (W1 := fun u => wX8 a0 g v0_marks v0_weights v0_places v0_aboves v0_belows v0_reduced_above v0_reduced_below v0_papers ++ wX1 a1 g u.1 u.2) hx hb hr hlocks hS hP hD (hf0.trans hf.symm) dX8_workChange_59
set_option maxHeartbeats 4000000 in
set_option maxRecDepth 100000 in
theorem c_X8_doesBind (l : Launch) (g : GG) (a0 : Nat → Nat) (v0_marks : (Nat → Int32)) (v0_weights : (Nat → Int32)) (v0_places : (Nat → Int32)) (v0_aboves : (Nat → Int32)) (v0_belows : (Nat → Int32)) (v0_reduced_above : Int64) (v0_reduced_below : Int64) (v0_papers : Int32) (a1 : Nat → Nat) (v1_raws : (Nat → Int32)) (v1_kinds : (Nat → Int32)) (v1_figures : (Nat → Int32)) (v1_heavies : (Nat → Int32)) (v1_places : (Nat → Int32)) (v1_papers : Int32) (v1_lowers : (Nat → Int32)) (v1_uppers : (Nat → Int32)) (v1_rules : Int32) (v1_bounds : (Nat → Int32)) (v1_boundCount : Int32) (v1_tieWay : Int32) (v1_reached : (Nat → Int32)) (p2 : Int32) (hne : (m_X8_doesBind (v0_marks, v0_weights, v0_places, v0_aboves, v0_belows, (v0_reduced_above, v0_reduced_below), v0_papers) (v1_raws, v1_kinds, v1_figures, v1_heavies, v1_places, v1_papers, v1_lowers, v1_uppers, v1_rules, v1_bounds, v1_boundCount, v1_tieWay, v1_reached) p2) ≠ none) : Ct l g yX8_doesBind cX8_doesBind 5 (some .boolean) ({ frames := 2, cells := 0, slots := 0, locals := 42 } : Room) [.ref (a0 0), .ref (a1 0), .int p2] (wX8 a0 g v0_marks v0_weights v0_places v0_aboves v0_belows v0_reduced_above v0_reduced_below v0_papers ++ wX6 a1 g v1_raws v1_kinds v1_figures v1_heavies v1_places v1_papers v1_lowers v1_uppers v1_rules v1_bounds v1_boundCount v1_tieWay v1_reached) (Qi g .boolean (m_X8_doesBind (v0_marks, v0_weights, v0_places, v0_aboves, v0_belows, (v0_reduced_above, v0_reduced_below), v0_papers) (v1_raws, v1_kinds, v1_figures, v1_heavies, v1_places, v1_papers, v1_lowers, v1_uppers, v1_rules, v1_bounds, v1_boundCount, v1_tieWay, v1_reached) p2) (fun u => u) (fun u => wX8 a0 g v0_marks v0_weights v0_places v0_aboves v0_belows v0_reduced_above v0_reduced_below v0_papers ++ wX6 a1 g v1_raws v1_kinds v1_figures v1_heavies v1_places v1_papers v1_lowers v1_uppers v1_rules v1_bounds v1_boundCount v1_tieWay v1_reached)) 0 0 := by
  obtain ⟨out, hf⟩ := ne_ex hne
  have hf0 := hf
  refine Ct.of (own := RX8) (by decide +kernel) rfl (Nat.le_of_ble_eq_true rfl) ?_
  intro p e s m below meth c hx hb hr hml hown hts hlocks hin hK A H locs hA hP hD hS hE ls hl
  have hl : lv_has ls 5 [(0, .ref (a0 0)), (1, .ref (a1 0)), (2, .int p2)] := hl
  unfold m_X8_doesBind at hf
  refine lv_aload_n hx hb dX8_doesBind_0 rfl (lv_at hl 1 rfl) ?_
  refine lv_iload_n hx hb dX8_doesBind_1 rfl (lv_at hl 2 rfl) ?_
  refine cIp hP hD hS hA hE (fun hPc hDc hSc => rV (As := [.int p2]) (rest := []) hx hb hml hown hts hK (c_X6_lowerOf l g a1 v1_raws v1_kinds v1_figures v1_heavies v1_places v1_papers v1_lowers v1_uppers v1_rules v1_bounds v1_boundCount v1_tieWay v1_reached p2 (bnd_ne hf)) svV_X6_lowerOf kw848 rfl rfl hPc hDc hSc rfl rfl hl.1 (Nat.le_of_ble_eq_true rfl) dX8_doesBind_2 ⟨Nat.le_of_ble_eq_true rfl, Nat.le_of_ble_eq_true rfl, rfl, rfl, Nat.le_of_ble_eq_true rfl, Nat.le_of_ble_eq_true rfl⟩) [(12, 19)] rfl rfl rfl (fun x1 H locs ex1 nx1 hP hS => ?_)
  have hf := bnd_of hf ex1
  refine lv_istore_n (lv' := [(3, .int x1), (0, .ref (a0 0)), (1, .ref (a1 0)), (2, .int p2)]) hx hb dX8_doesBind_5 rfl hl (by decide) rfl (fun ls hl => ?_)
  refine lv_aload_n hx hb dX8_doesBind_6 rfl (lv_at hl 2 rfl) ?_
  refine lv_iload_n hx hb dX8_doesBind_7 rfl (lv_at hl 3 rfl) ?_
  refine cIp hP hD hS hA hE (fun hPc hDc hSc => rV (As := [.int p2]) (rest := []) hx hb hml hown hts hK (c_X6_upperOf l g a1 v1_raws v1_kinds v1_figures v1_heavies v1_places v1_papers v1_lowers v1_uppers v1_rules v1_bounds v1_boundCount v1_tieWay v1_reached p2 (bnd_ne hf)) svV_X6_upperOf kw849 rfl rfl hPc hDc hSc rfl rfl hl.1 (Nat.le_of_ble_eq_true rfl) dX8_doesBind_8 ⟨Nat.le_of_ble_eq_true rfl, Nat.le_of_ble_eq_true rfl, rfl, rfl, Nat.le_of_ble_eq_true rfl, Nat.le_of_ble_eq_true rfl⟩) [(12, 19)] rfl rfl rfl (fun x2 H locs ex2 nx2 hP hS => ?_)
  have hf := bnd_of hf ex2
  refine lv_istore (lv' := [(4, .int x2), (3, .int x1), (0, .ref (a0 0)), (1, .ref (a1 0)), (2, .int p2)]) hx hb dX8_doesBind_11 hl (by decide) rfl (fun ls hl => ?_)
  refine lv_aload_n hx hb dX8_doesBind_13 rfl (lv_at hl 2 rfl) ?_
  refine va_get (D := g.1) (ci := 9) (v := .ref (a0 7)) (C := RX8) (T := TX8) (N := 7) hx hb hts layX8 hown hK.1 hP 0 rfl rfl 3 (by decide) (hts _ kw154) (fun _ h9 => h9) rfl dX8_doesBind_14 ?_
  refine lv_iload_n hx hb dX8_doesBind_17 rfl (lv_at hl 1 rfl) ?_
  refine cIp hP hD hS hA hE (fun hPc hDc hSc => rV (As := [.int x1]) (rest := []) hx hb hml hown hts hK (c_X2_get l g (fun i => a0 (i + 7)) 7 v0_aboves x1 (bnd_ne hf)) svV_X2_get kw698 rfl rfl hPc hDc hSc rfl rfl hl.1 (Nat.le_of_ble_eq_true rfl) dX8_doesBind_18 ⟨Nat.le_of_ble_eq_true rfl, Nat.le_of_ble_eq_true rfl, rfl, rfl, Nat.le_of_ble_eq_true rfl, Nat.le_of_ble_eq_true rfl⟩) [(7, 2)] rfl rfl rfl (fun x3 H locs ex3 nx3 hP hS => ?_)
  have hf := bnd_of hf ex3
  refine lv_aload_n hx hb dX8_doesBind_21 rfl (lv_at hl 2 rfl) ?_
  refine va_get (D := g.1) (ci := 9) (v := .ref (a0 7)) (C := RX8) (T := TX8) (N := 7) hx hb hts layX8 hown hK.1 hP 0 rfl rfl 3 (by decide) (hts _ kw154) (fun _ h9 => h9) rfl dX8_doesBind_22 ?_
  refine lv_iload hx hb dX8_doesBind_25 (lv_at hl 0 rfl) ?_
  refine cIp hP hD hS hA hE (fun hPc hDc hSc => rV (As := [.int x2]) (rest := [.int x3]) hx hb hml hown hts hK (c_X2_get l g (fun i => a0 (i + 7)) 7 v0_aboves x2 (bnd_ne hf)) svV_X2_get kw698 rfl rfl hPc hDc hSc rfl rfl hl.1 (Nat.le_of_ble_eq_true rfl) dX8_doesBind_27 ⟨Nat.le_of_ble_eq_true rfl, Nat.le_of_ble_eq_true rfl, rfl, rfl, Nat.le_of_ble_eq_true rfl, Nat.le_of_ble_eq_true rfl⟩) [(7, 2)] rfl rfl rfl (fun x4 H locs ex4 nx4 hP hS => ?_)
  have hf := bnd_of hf ex4
  refine lv_icmp_ne (tgt := 57) hx hb dX8_doesBind_30 (by decide) (fun cb => ?_) (fun cb => ?_)
  · have hf := it_f cb hf
    refine lv_iconst (v := 0) hx hb dX8_doesBind_57 (by decide) ?_
    exact retI (v := (0 : Int32)) (u := (0 : Int32)) (val := fun u => u) (W1 := fun u => wX8 a0 g v0_marks v0_weights v0_places v0_aboves v0_belows v0_reduced_above v0_reduced_below v0_papers ++ wX6 a1 g v1_raws v1_kinds v1_figures v1_heavies v1_places v1_papers v1_lowers v1_uppers v1_rules v1_bounds v1_boundCount v1_tieWay v1_reached) hx hb hr hlocks hS hP hD (hf0.trans hf.symm) rfl rfl dX8_doesBind_58
  have hf := it_t cb hf
  refine lv_aload_n hx hb dX8_doesBind_33 rfl (lv_at hl 2 rfl) ?_
  refine va_get (D := g.1) (ci := 9) (v := .ref (a0 9)) (C := RX8) (T := TX8) (N := 7) hx hb hts layX8 hown hK.1 hP 0 rfl rfl 4 (by decide) (hts _ kw155) (fun _ h9 => h9) rfl dX8_doesBind_34 ?_
  refine lv_iload_n hx hb dX8_doesBind_37 rfl (lv_at hl 1 rfl) ?_
  refine cIp hP hD hS hA hE (fun hPc hDc hSc => rV (As := [.int x1]) (rest := []) hx hb hml hown hts hK (c_X2_get l g (fun i => a0 (i + 9)) 7 v0_belows x1 (bnd_ne hf)) svV_X2_get kw698 rfl rfl hPc hDc hSc rfl rfl hl.1 (Nat.le_of_ble_eq_true rfl) dX8_doesBind_38 ⟨Nat.le_of_ble_eq_true rfl, Nat.le_of_ble_eq_true rfl, rfl, rfl, Nat.le_of_ble_eq_true rfl, Nat.le_of_ble_eq_true rfl⟩) [(9, 2)] rfl rfl rfl (fun x5 H locs ex5 nx5 hP hS => ?_)
  have hf := bnd_of hf ex5
  refine lv_aload_n hx hb dX8_doesBind_41 rfl (lv_at hl 2 rfl) ?_
  refine va_get (D := g.1) (ci := 9) (v := .ref (a0 9)) (C := RX8) (T := TX8) (N := 7) hx hb hts layX8 hown hK.1 hP 0 rfl rfl 4 (by decide) (hts _ kw155) (fun _ h9 => h9) rfl dX8_doesBind_42 ?_
  refine lv_iload hx hb dX8_doesBind_45 (lv_at hl 0 rfl) ?_
  refine cIp hP hD hS hA hE (fun hPc hDc hSc => rV (As := [.int x2]) (rest := [.int x5]) hx hb hml hown hts hK (c_X2_get l g (fun i => a0 (i + 9)) 7 v0_belows x2 (bnd_ne hf)) svV_X2_get kw698 rfl rfl hPc hDc hSc rfl rfl hl.1 (Nat.le_of_ble_eq_true rfl) dX8_doesBind_47 ⟨Nat.le_of_ble_eq_true rfl, Nat.le_of_ble_eq_true rfl, rfl, rfl, Nat.le_of_ble_eq_true rfl, Nat.le_of_ble_eq_true rfl⟩) [(9, 2)] rfl rfl rfl (fun x6 H locs ex6 nx6 hP hS => ?_)
  have hf := bnd_of hf ex6
  refine lv_icmp_ne (tgt := 57) hx hb dX8_doesBind_50 (by decide) (fun cb => ?_) (fun cb => ?_)
  · have hf := it_f cb hf
    refine lv_iconst (v := 0) hx hb dX8_doesBind_57 (by decide) ?_
    exact retI (v := (0 : Int32)) (u := (0 : Int32)) (val := fun u => u) (W1 := fun u => wX8 a0 g v0_marks v0_weights v0_places v0_aboves v0_belows v0_reduced_above v0_reduced_below v0_papers ++ wX6 a1 g v1_raws v1_kinds v1_figures v1_heavies v1_places v1_papers v1_lowers v1_uppers v1_rules v1_bounds v1_boundCount v1_tieWay v1_reached) hx hb hr hlocks hS hP hD (hf0.trans hf.symm) rfl rfl dX8_doesBind_58
  have hf := it_t cb hf
  refine lv_iconst (v := 1) hx hb dX8_doesBind_53 (by decide) ?_
  refine lv_goto (tgt := 58) hx hb dX8_doesBind_54 (by decide) ?_
  exact retI (v := (1 : Int32)) (u := (1 : Int32)) (val := fun u => u) (W1 := fun u => wX8 a0 g v0_marks v0_weights v0_places v0_aboves v0_belows v0_reduced_above v0_reduced_below v0_papers ++ wX6 a1 g v1_raws v1_kinds v1_figures v1_heavies v1_places v1_papers v1_lowers v1_uppers v1_rules v1_bounds v1_boundCount v1_tieWay v1_reached) hx hb hr hlocks hS hP hD (hf0.trans hf.symm) rfl rfl dX8_doesBind_58
