theorem svS_X9_markBy : SS RX9 yX9_markBy cX9_markBy 3 (some .int) 3 := ⟨kw563, kw1, kw564, rfl, by decide, by decide, by decide +kernel⟩
theorem svS_X9_weightBy : SS RX9 yX9_weightBy cX9_weightBy 2 (some .int) 2 := ⟨kw573, kw1, kw574, rfl, by decide, by decide, by decide +kernel⟩
theorem svV_X6_markOf : SV RX6 yX6_markOf cX6_markOf 2 (some .int) 1 := ⟨kw560, kw561, kw2, kw562, rfl, by decide, by decide, by decide +kernel⟩
theorem svV_X6_isBroken : SV RX6 yX6_isBroken cX6_isBroken 2 (some .boolean) 1 := ⟨kw593, kw594, kw2, kw595, rfl, by decide, by decide, by decide +kernel⟩
theorem svS_X9_hasBit : SS RX9 yX9_hasBit cX9_hasBit 2 (some .boolean) 2 := ⟨kw448, kw1, kw449, rfl, by decide, by decide, by decide +kernel⟩
theorem svV_X6_trace : SV RX6 yX6_trace cX6_trace 9 none 2 := ⟨kw445, kw446, kw2, kw447, rfl, by decide, by decide, by decide +kernel⟩
theorem dX6_hasRule_0 : decode cX6_hasRule 0 = .ok (.iload_n 1, 1) := by decide +kernel
theorem dX6_hasRule_1 : decode cX6_hasRule 1 = .ok (.ifCond .lt 15, 3) := by decide +kernel
theorem dX6_hasRule_16 : decode cX6_hasRule 16 = .ok (.iconst 0, 1) := by decide +kernel
theorem dX6_hasRule_17 : decode cX6_hasRule 17 = .ok (.ireturn, 1) := by decide +kernel
theorem dX6_hasRule_4 : decode cX6_hasRule 4 = .ok (.iload_n 1, 1) := by decide +kernel
theorem dX6_hasRule_5 : decode cX6_hasRule 5 = .ok (.aload_n 0, 1) := by decide +kernel
theorem dX6_hasRule_6 : decode cX6_hasRule 6 = .ok (.getfield 52, 3) := by decide +kernel
theorem dX6_hasRule_9 : decode cX6_hasRule 9 = .ok (.if_icmp .ge 7, 3) := by decide +kernel
theorem dX6_hasRule_12 : decode cX6_hasRule 12 = .ok (.iconst 1, 1) := by decide +kernel
theorem dX6_hasRule_13 : decode cX6_hasRule 13 = .ok (.goto 4, 3) := by decide +kernel
theorem dX6_rawOf_0 : decode cX6_rawOf 0 = .ok (.aload_n 0, 1) := by decide +kernel
theorem dX6_rawOf_1 : decode cX6_rawOf 1 = .ok (.getfield 14, 3) := by decide +kernel
theorem dX6_rawOf_4 : decode cX6_rawOf 4 = .ok (.iload_n 1, 1) := by decide +kernel
theorem dX6_rawOf_5 : decode cX6_rawOf 5 = .ok (.invokevirtual 65, 3) := by decide +kernel
theorem dX6_rawOf_8 : decode cX6_rawOf 8 = .ok (.ireturn, 1) := by decide +kernel
theorem dX6_kindOf_0 : decode cX6_kindOf 0 = .ok (.aload_n 0, 1) := by decide +kernel
theorem dX6_kindOf_1 : decode cX6_kindOf 1 = .ok (.getfield 20, 3) := by decide +kernel
theorem dX6_kindOf_4 : decode cX6_kindOf 4 = .ok (.iload_n 1, 1) := by decide +kernel
theorem dX6_kindOf_5 : decode cX6_kindOf 5 = .ok (.invokevirtual 65, 3) := by decide +kernel
theorem dX6_kindOf_8 : decode cX6_kindOf 8 = .ok (.ireturn, 1) := by decide +kernel
theorem dX6_figureOf_0 : decode cX6_figureOf 0 = .ok (.aload_n 0, 1) := by decide +kernel
theorem dX6_figureOf_1 : decode cX6_figureOf 1 = .ok (.getfield 23, 3) := by decide +kernel
theorem dX6_figureOf_4 : decode cX6_figureOf 4 = .ok (.iload_n 1, 1) := by decide +kernel
theorem dX6_figureOf_5 : decode cX6_figureOf 5 = .ok (.invokevirtual 65, 3) := by decide +kernel
theorem dX6_figureOf_8 : decode cX6_figureOf 8 = .ok (.ireturn, 1) := by decide +kernel
theorem dX6_heavyOf_0 : decode cX6_heavyOf 0 = .ok (.aload_n 0, 1) := by decide +kernel
theorem dX6_heavyOf_1 : decode cX6_heavyOf 1 = .ok (.getfield 26, 3) := by decide +kernel
theorem dX6_heavyOf_4 : decode cX6_heavyOf 4 = .ok (.iload_n 1, 1) := by decide +kernel
theorem dX6_heavyOf_5 : decode cX6_heavyOf 5 = .ok (.invokevirtual 65, 3) := by decide +kernel
theorem dX6_heavyOf_8 : decode cX6_heavyOf 8 = .ok (.ireturn, 1) := by decide +kernel
theorem dX6_placeOf_0 : decode cX6_placeOf 0 = .ok (.aload_n 0, 1) := by decide +kernel
theorem dX6_placeOf_1 : decode cX6_placeOf 1 = .ok (.getfield 29, 3) := by decide +kernel
theorem dX6_placeOf_4 : decode cX6_placeOf 4 = .ok (.iload_n 1, 1) := by decide +kernel
theorem dX6_placeOf_5 : decode cX6_placeOf 5 = .ok (.invokevirtual 65, 3) := by decide +kernel
theorem dX6_placeOf_8 : decode cX6_placeOf 8 = .ok (.ireturn, 1) := by decide +kernel
theorem dX9_markBy_0 : decode cX9_markBy 0 = .ok (.iload_n 0, 1) := by decide +kernel
theorem dX9_markBy_1 : decode cX9_markBy 1 = .ok (.tableswitch 77 1 4 #[31, 52, 62, 35], 31) := by decide +kernel
theorem dX9_markBy_32 : decode cX9_markBy 32 = .ok (.iload_n 1, 1) := by decide +kernel
theorem dX9_markBy_33 : decode cX9_markBy 33 = .ok (.iload_n 2, 1) := by decide +kernel
theorem dX9_markBy_34 : decode cX9_markBy 34 = .ok (.iadd, 1) := by decide +kernel
theorem dX9_markBy_35 : decode cX9_markBy 35 = .ok (.ireturn, 1) := by decide +kernel
theorem dX9_markBy_53 : decode cX9_markBy 53 = .ok (.iconst 0, 1) := by decide +kernel
theorem dX9_markBy_54 : decode cX9_markBy 54 = .ok (.iload_n 1, 1) := by decide +kernel
theorem dX9_markBy_55 : decode cX9_markBy 55 = .ok (.iconst 3, 1) := by decide +kernel
theorem dX9_markBy_56 : decode cX9_markBy 56 = .ok (.iload_n 2, 1) := by decide +kernel
theorem dX9_markBy_57 : decode cX9_markBy 57 = .ok (.imul, 1) := by decide +kernel
theorem dX9_markBy_58 : decode cX9_markBy 58 = .ok (.isub, 1) := by decide +kernel
theorem dX9_markBy_59 : decode cX9_markBy 59 = .ok (.invokestatic 429, 3) := by decide +kernel
theorem dX9_markBy_62 : decode cX9_markBy 62 = .ok (.ireturn, 1) := by decide +kernel
theorem dX9_markBy_63 : decode cX9_markBy 63 = .ok (.bipush 50, 2) := by decide +kernel
theorem dX9_markBy_65 : decode cX9_markBy 65 = .ok (.iconst 0, 1) := by decide +kernel
theorem dX9_markBy_66 : decode cX9_markBy 66 = .ok (.iload_n 1, 1) := by decide +kernel
theorem dX9_markBy_67 : decode cX9_markBy 67 = .ok (.iconst 3, 1) := by decide +kernel
theorem dX9_markBy_68 : decode cX9_markBy 68 = .ok (.iload_n 2, 1) := by decide +kernel
theorem dX9_markBy_69 : decode cX9_markBy 69 = .ok (.imul, 1) := by decide +kernel
theorem dX9_markBy_70 : decode cX9_markBy 70 = .ok (.isub, 1) := by decide +kernel
theorem dX9_markBy_71 : decode cX9_markBy 71 = .ok (.invokestatic 429, 3) := by decide +kernel
theorem dX9_markBy_74 : decode cX9_markBy 74 = .ok (.invokestatic 374, 3) := by decide +kernel
theorem dX9_markBy_77 : decode cX9_markBy 77 = .ok (.ireturn, 1) := by decide +kernel
theorem dX9_markBy_36 : decode cX9_markBy 36 = .ok (.iload_n 1, 1) := by decide +kernel
theorem dX9_markBy_37 : decode cX9_markBy 37 = .ok (.iload_n 2, 1) := by decide +kernel
theorem dX9_markBy_38 : decode cX9_markBy 38 = .ok (.iadd, 1) := by decide +kernel
theorem dX9_markBy_39 : decode cX9_markBy 39 = .ok (.iload_n 1, 1) := by decide +kernel
theorem dX9_markBy_40 : decode cX9_markBy 40 = .ok (.bipush 70, 2) := by decide +kernel
theorem dX9_markBy_42 : decode cX9_markBy 42 = .ok (.if_icmp .lt 8, 3) := by decide +kernel
theorem dX9_markBy_50 : decode cX9_markBy 50 = .ok (.iconst 0, 1) := by decide +kernel
theorem dX9_markBy_51 : decode cX9_markBy 51 = .ok (.iadd, 1) := by decide +kernel
theorem dX9_markBy_52 : decode cX9_markBy 52 = .ok (.ireturn, 1) := by decide +kernel
theorem dX9_markBy_45 : decode cX9_markBy 45 = .ok (.bipush 10, 2) := by decide +kernel
theorem dX9_markBy_47 : decode cX9_markBy 47 = .ok (.goto 4, 3) := by decide +kernel
theorem dX9_markBy_78 : decode cX9_markBy 78 = .ok (.iload_n 1, 1) := by decide +kernel
theorem dX9_markBy_79 : decode cX9_markBy 79 = .ok (.ireturn, 1) := by decide +kernel
theorem dX6_markOf_0 : decode cX6_markOf 0 = .ok (.aload_n 0, 1) := by decide +kernel
theorem dX6_markOf_1 : decode cX6_markOf 1 = .ok (.getfield 20, 3) := by decide +kernel
theorem dX6_markOf_4 : decode cX6_markOf 4 = .ok (.iload_n 1, 1) := by decide +kernel
theorem dX6_markOf_5 : decode cX6_markOf 5 = .ok (.invokevirtual 65, 3) := by decide +kernel
theorem dX6_markOf_8 : decode cX6_markOf 8 = .ok (.aload_n 0, 1) := by decide +kernel
theorem dX6_markOf_9 : decode cX6_markOf 9 = .ok (.getfield 14, 3) := by decide +kernel
theorem dX6_markOf_12 : decode cX6_markOf 12 = .ok (.iload_n 1, 1) := by decide +kernel
theorem dX6_markOf_13 : decode cX6_markOf 13 = .ok (.invokevirtual 65, 3) := by decide +kernel
theorem dX6_markOf_16 : decode cX6_markOf 16 = .ok (.aload_n 0, 1) := by decide +kernel
theorem dX6_markOf_17 : decode cX6_markOf 17 = .ok (.getfield 23, 3) := by decide +kernel
theorem dX6_markOf_20 : decode cX6_markOf 20 = .ok (.iload_n 1, 1) := by decide +kernel
theorem dX6_markOf_21 : decode cX6_markOf 21 = .ok (.invokevirtual 65, 3) := by decide +kernel
theorem dX6_markOf_24 : decode cX6_markOf 24 = .ok (.invokestatic 69, 3) := by decide +kernel
theorem dX6_markOf_27 : decode cX6_markOf 27 = .ok (.ireturn, 1) := by decide +kernel
theorem dX9_weightBy_0 : decode cX9_weightBy 0 = .ok (.iload_n 0, 1) := by decide +kernel
theorem dX9_weightBy_1 : decode cX9_weightBy 1 = .ok (.tableswitch 49 2 5 #[31, 37, 49, 45], 31) := by decide +kernel
theorem dX9_weightBy_32 : decode cX9_weightBy 32 = .ok (.iload_n 1, 1) := by decide +kernel
theorem dX9_weightBy_33 : decode cX9_weightBy 33 = .ok (.iconst 1, 1) := by decide +kernel
theorem dX9_weightBy_34 : decode cX9_weightBy 34 = .ok (.iadd, 1) := by decide +kernel
theorem dX9_weightBy_35 : decode cX9_weightBy 35 = .ok (.iconst 2, 1) := by decide +kernel
theorem dX9_weightBy_36 : decode cX9_weightBy 36 = .ok (.idiv, 1) := by decide +kernel
theorem dX9_weightBy_37 : decode cX9_weightBy 37 = .ok (.ireturn, 1) := by decide +kernel
theorem dX9_weightBy_38 : decode cX9_weightBy 38 = .ok (.iload_n 1, 1) := by decide +kernel
theorem dX9_weightBy_39 : decode cX9_weightBy 39 = .ok (.iconst 1, 1) := by decide +kernel
theorem dX9_weightBy_40 : decode cX9_weightBy 40 = .ok (.iadd, 1) := by decide +kernel
theorem dX9_weightBy_41 : decode cX9_weightBy 41 = .ok (.iconst 2, 1) := by decide +kernel
theorem dX9_weightBy_42 : decode cX9_weightBy 42 = .ok (.idiv, 1) := by decide +kernel
theorem dX9_weightBy_43 : decode cX9_weightBy 43 = .ok (.iconst 1, 1) := by decide +kernel
theorem dX9_weightBy_44 : decode cX9_weightBy 44 = .ok (.iadd, 1) := by decide +kernel
theorem dX9_weightBy_45 : decode cX9_weightBy 45 = .ok (.ireturn, 1) := by decide +kernel
theorem dX9_weightBy_46 : decode cX9_weightBy 46 = .ok (.iconst 2, 1) := by decide +kernel
theorem dX9_weightBy_47 : decode cX9_weightBy 47 = .ok (.iload_n 1, 1) := by decide +kernel
theorem dX9_weightBy_48 : decode cX9_weightBy 48 = .ok (.imul, 1) := by decide +kernel
theorem dX9_weightBy_49 : decode cX9_weightBy 49 = .ok (.ireturn, 1) := by decide +kernel
theorem dX9_weightBy_50 : decode cX9_weightBy 50 = .ok (.iload_n 1, 1) := by decide +kernel
theorem dX9_weightBy_51 : decode cX9_weightBy 51 = .ok (.ireturn, 1) := by decide +kernel
theorem dX6_weightOf_0 : decode cX6_weightOf 0 = .ok (.aload_n 0, 1) := by decide +kernel
theorem dX6_weightOf_1 : decode cX6_weightOf 1 = .ok (.getfield 20, 3) := by decide +kernel
theorem dX6_weightOf_4 : decode cX6_weightOf 4 = .ok (.iload_n 1, 1) := by decide +kernel
theorem dX6_weightOf_5 : decode cX6_weightOf 5 = .ok (.invokevirtual 65, 3) := by decide +kernel
theorem dX6_weightOf_8 : decode cX6_weightOf 8 = .ok (.aload_n 0, 1) := by decide +kernel
theorem dX6_weightOf_9 : decode cX6_weightOf 9 = .ok (.getfield 26, 3) := by decide +kernel
theorem dX6_weightOf_12 : decode cX6_weightOf 12 = .ok (.iload_n 1, 1) := by decide +kernel
theorem dX6_weightOf_13 : decode cX6_weightOf 13 = .ok (.invokevirtual 65, 3) := by decide +kernel
theorem dX6_weightOf_16 : decode cX6_weightOf 16 = .ok (.invokestatic 73, 3) := by decide +kernel
theorem dX6_weightOf_19 : decode cX6_weightOf 19 = .ok (.ireturn, 1) := by decide +kernel
theorem dX6_gradeOf_0 : decode cX6_gradeOf 0 = .ok (.iconst 0, 1) := by decide +kernel
theorem dX6_gradeOf_1 : decode cX6_gradeOf 1 = .ok (.istore 5, 2) := by decide +kernel
theorem dX6_gradeOf_3 : decode cX6_gradeOf 3 = .ok (.iconst 0, 1) := by decide +kernel
theorem dX6_gradeOf_4 : decode cX6_gradeOf 4 = .ok (.istore 6, 2) := by decide +kernel
theorem dX6_gradeOf_6 : decode cX6_gradeOf 6 = .ok (.iload 6, 2) := by decide +kernel
theorem dX6_gradeOf_8 : decode cX6_gradeOf 8 = .ok (.aload_n 0, 1) := by decide +kernel
theorem dX6_gradeOf_9 : decode cX6_gradeOf 9 = .ok (.getfield 55, 3) := by decide +kernel
theorem dX6_gradeOf_12 : decode cX6_gradeOf 12 = .ok (.if_icmp .ge 29, 3) := by decide +kernel
theorem dX6_gradeOf_15 : decode cX6_gradeOf 15 = .ok (.aload_n 0, 1) := by decide +kernel
theorem dX6_gradeOf_16 : decode cX6_gradeOf 16 = .ok (.getfield 38, 3) := by decide +kernel
theorem dX6_gradeOf_19 : decode cX6_gradeOf 19 = .ok (.iload 6, 2) := by decide +kernel
theorem dX6_gradeOf_21 : decode cX6_gradeOf 21 = .ok (.invokevirtual 65, 3) := by decide +kernel
theorem dX6_gradeOf_24 : decode cX6_gradeOf 24 = .ok (.i2l, 1) := by decide +kernel
theorem dX6_gradeOf_25 : decode cX6_gradeOf 25 = .ok (.lload_n 3, 1) := by decide +kernel
theorem dX6_gradeOf_26 : decode cX6_gradeOf 26 = .ok (.lmul, 1) := by decide +kernel
theorem dX6_gradeOf_27 : decode cX6_gradeOf 27 = .ok (.lload_n 1, 1) := by decide +kernel
theorem dX6_gradeOf_28 : decode cX6_gradeOf 28 = .ok (.lcmp, 1) := by decide +kernel
theorem dX6_gradeOf_29 : decode cX6_gradeOf 29 = .ok (.ifCond .gt 6, 3) := by decide +kernel
theorem dX6_gradeOf_35 : decode cX6_gradeOf 35 = .ok (.iinc 6 1, 3) := by decide +kernel
theorem dX6_gradeOf_38 : decode cX6_gradeOf 38 = .ok (.goto (-32), 3) := by decide +kernel
theorem dX6_gradeOf_32 : decode cX6_gradeOf 32 = .ok (.iinc 5 1, 3) := by decide +kernel
theorem dX6_gradeOf_41 : decode cX6_gradeOf 41 = .ok (.iload 5, 2) := by decide +kernel
theorem dX6_gradeOf_43 : decode cX6_gradeOf 43 = .ok (.ireturn, 1) := by decide +kernel
theorem dX6_lowerOf_0 : decode cX6_lowerOf 0 = .ok (.aload_n 0, 1) := by decide +kernel
theorem dX6_lowerOf_1 : decode cX6_lowerOf 1 = .ok (.getfield 32, 3) := by decide +kernel
theorem dX6_lowerOf_4 : decode cX6_lowerOf 4 = .ok (.iload_n 1, 1) := by decide +kernel
theorem dX6_lowerOf_5 : decode cX6_lowerOf 5 = .ok (.invokevirtual 65, 3) := by decide +kernel
theorem dX6_lowerOf_8 : decode cX6_lowerOf 8 = .ok (.ireturn, 1) := by decide +kernel
theorem dX6_upperOf_0 : decode cX6_upperOf 0 = .ok (.aload_n 0, 1) := by decide +kernel
theorem dX6_upperOf_1 : decode cX6_upperOf 1 = .ok (.getfield 35, 3) := by decide +kernel
theorem dX6_upperOf_4 : decode cX6_upperOf 4 = .ok (.iload_n 1, 1) := by decide +kernel
theorem dX6_upperOf_5 : decode cX6_upperOf 5 = .ok (.invokevirtual 65, 3) := by decide +kernel
theorem dX6_upperOf_8 : decode cX6_upperOf 8 = .ok (.ireturn, 1) := by decide +kernel
theorem dX6_isBroken_0 : decode cX6_isBroken 0 = .ok (.aload_n 0, 1) := by decide +kernel
theorem dX6_isBroken_1 : decode cX6_isBroken 1 = .ok (.aload_n 0, 1) := by decide +kernel
theorem dX6_isBroken_2 : decode cX6_isBroken 2 = .ok (.getfield 32, 3) := by decide +kernel
theorem dX6_isBroken_5 : decode cX6_isBroken 5 = .ok (.iload_n 1, 1) := by decide +kernel
theorem dX6_isBroken_6 : decode cX6_isBroken 6 = .ok (.invokevirtual 65, 3) := by decide +kernel
theorem dX6_isBroken_9 : decode cX6_isBroken 9 = .ok (.invokevirtual 77, 3) := by decide +kernel
theorem dX6_isBroken_12 : decode cX6_isBroken 12 = .ok (.aload_n 0, 1) := by decide +kernel
theorem dX6_isBroken_13 : decode cX6_isBroken 13 = .ok (.aload_n 0, 1) := by decide +kernel
theorem dX6_isBroken_14 : decode cX6_isBroken 14 = .ok (.getfield 35, 3) := by decide +kernel
theorem dX6_isBroken_17 : decode cX6_isBroken 17 = .ok (.iload_n 1, 1) := by decide +kernel
theorem dX6_isBroken_18 : decode cX6_isBroken 18 = .ok (.invokevirtual 65, 3) := by decide +kernel
theorem dX6_isBroken_21 : decode cX6_isBroken 21 = .ok (.invokevirtual 77, 3) := by decide +kernel
theorem dX6_isBroken_24 : decode cX6_isBroken 24 = .ok (.if_icmp .le 7, 3) := by decide +kernel
theorem dX6_isBroken_31 : decode cX6_isBroken 31 = .ok (.iconst 0, 1) := by decide +kernel
theorem dX6_isBroken_32 : decode cX6_isBroken 32 = .ok (.ireturn, 1) := by decide +kernel
theorem dX6_isBroken_27 : decode cX6_isBroken 27 = .ok (.iconst 1, 1) := by decide +kernel
theorem dX6_isBroken_28 : decode cX6_isBroken 28 = .ok (.goto 4, 3) := by decide +kernel
theorem dX6_brokenRules_0 : decode cX6_brokenRules 0 = .ok (.iconst 0, 1) := by decide +kernel
theorem dX6_brokenRules_1 : decode cX6_brokenRules 1 = .ok (.istore_n 1, 1) := by decide +kernel
theorem dX6_brokenRules_2 : decode cX6_brokenRules 2 = .ok (.iconst 0, 1) := by decide +kernel
theorem dX6_brokenRules_3 : decode cX6_brokenRules 3 = .ok (.istore_n 2, 1) := by decide +kernel
theorem dX6_brokenRules_4 : decode cX6_brokenRules 4 = .ok (.iload_n 2, 1) := by decide +kernel
theorem dX6_brokenRules_5 : decode cX6_brokenRules 5 = .ok (.aload_n 0, 1) := by decide +kernel
theorem dX6_brokenRules_6 : decode cX6_brokenRules 6 = .ok (.getfield 52, 3) := by decide +kernel
theorem dX6_brokenRules_9 : decode cX6_brokenRules 9 = .ok (.if_icmp .ge 23, 3) := by decide +kernel
theorem dX6_brokenRules_12 : decode cX6_brokenRules 12 = .ok (.aload_n 0, 1) := by decide +kernel
theorem dX6_brokenRules_13 : decode cX6_brokenRules 13 = .ok (.iload_n 2, 1) := by decide +kernel
theorem dX6_brokenRules_14 : decode cX6_brokenRules 14 = .ok (.invokevirtual 80, 3) := by decide +kernel
theorem dX6_brokenRules_17 : decode cX6_brokenRules 17 = .ok (.ifCond .eq 9, 3) := by decide +kernel
theorem dX6_brokenRules_26 : decode cX6_brokenRules 26 = .ok (.iinc 2 1, 3) := by decide +kernel
theorem dX6_brokenRules_29 : decode cX6_brokenRules 29 = .ok (.goto (-25), 3) := by decide +kernel
theorem dX6_brokenRules_20 : decode cX6_brokenRules 20 = .ok (.iload_n 1, 1) := by decide +kernel
theorem dX6_brokenRules_21 : decode cX6_brokenRules 21 = .ok (.iconst 1, 1) := by decide +kernel
theorem dX6_brokenRules_22 : decode cX6_brokenRules 22 = .ok (.iload_n 2, 1) := by decide +kernel
theorem dX6_brokenRules_23 : decode cX6_brokenRules 23 = .ok (.ishl, 1) := by decide +kernel
theorem dX6_brokenRules_24 : decode cX6_brokenRules 24 = .ok (.ior, 1) := by decide +kernel
theorem dX6_brokenRules_25 : decode cX6_brokenRules 25 = .ok (.istore_n 1, 1) := by decide +kernel
theorem dX6_brokenRules_32 : decode cX6_brokenRules 32 = .ok (.iload_n 1, 1) := by decide +kernel
theorem dX6_brokenRules_33 : decode cX6_brokenRules 33 = .ok (.ireturn, 1) := by decide +kernel
theorem dX9_hasBit_0 : decode cX9_hasBit 0 = .ok (.iload_n 0, 1) := by decide +kernel
theorem dX9_hasBit_1 : decode cX9_hasBit 1 = .ok (.iload_n 1, 1) := by decide +kernel
theorem dX9_hasBit_2 : decode cX9_hasBit 2 = .ok (.ishr, 1) := by decide +kernel
theorem dX9_hasBit_3 : decode cX9_hasBit 3 = .ok (.iconst 1, 1) := by decide +kernel
theorem dX9_hasBit_4 : decode cX9_hasBit 4 = .ok (.iand, 1) := by decide +kernel
theorem dX9_hasBit_5 : decode cX9_hasBit 5 = .ok (.iconst 1, 1) := by decide +kernel
theorem dX9_hasBit_6 : decode cX9_hasBit 6 = .ok (.if_icmp .ne 7, 3) := by decide +kernel
theorem dX9_hasBit_13 : decode cX9_hasBit 13 = .ok (.iconst 0, 1) := by decide +kernel
theorem dX9_hasBit_14 : decode cX9_hasBit 14 = .ok (.ireturn, 1) := by decide +kernel
theorem dX9_hasBit_9 : decode cX9_hasBit 9 = .ok (.iconst 1, 1) := by decide +kernel
theorem dX9_hasBit_10 : decode cX9_hasBit 10 = .ok (.goto 4, 3) := by decide +kernel
theorem dX6_trace_0 : decode cX6_trace 0 = .ok (.iconst 0, 1) := by decide +kernel
theorem dX6_trace_1 : decode cX6_trace 1 = .ok (.istore_n 3, 1) := by decide +kernel
theorem dX6_trace_2 : decode cX6_trace 2 = .ok (.iload_n 3, 1) := by decide +kernel
theorem dX6_trace_3 : decode cX6_trace 3 = .ok (.aload_n 0, 1) := by decide +kernel
theorem dX6_trace_4 : decode cX6_trace 4 = .ok (.getfield 48, 3) := by decide +kernel
theorem dX6_trace_7 : decode cX6_trace 7 = .ok (.if_icmp .ge 15, 3) := by decide +kernel
theorem dX6_trace_10 : decode cX6_trace 10 = .ok (.aload_n 1, 1) := by decide +kernel
theorem dX6_trace_11 : decode cX6_trace 11 = .ok (.iload_n 3, 1) := by decide +kernel
theorem dX6_trace_12 : decode cX6_trace 12 = .ok (.iconst 0, 1) := by decide +kernel
theorem dX6_trace_13 : decode cX6_trace 13 = .ok (.invokevirtual 91, 3) := by decide +kernel
theorem dX6_trace_16 : decode cX6_trace 16 = .ok (.iinc 3 1, 3) := by decide +kernel
theorem dX6_trace_19 : decode cX6_trace 19 = .ok (.goto (-17), 3) := by decide +kernel
theorem dX6_trace_22 : decode cX6_trace 22 = .ok (.iconst 1, 1) := by decide +kernel
theorem dX6_trace_23 : decode cX6_trace 23 = .ok (.istore_n 3, 1) := by decide +kernel
theorem dX6_trace_24 : decode cX6_trace 24 = .ok (.iconst 0, 1) := by decide +kernel
theorem dX6_trace_25 : decode cX6_trace 25 = .ok (.istore 4, 2) := by decide +kernel
theorem dX6_trace_27 : decode cX6_trace 27 = .ok (.iload 4, 2) := by decide +kernel
theorem dX6_trace_29 : decode cX6_trace 29 = .ok (.aload_n 0, 1) := by decide +kernel
theorem dX6_trace_30 : decode cX6_trace 30 = .ok (.getfield 48, 3) := by decide +kernel
theorem dX6_trace_33 : decode cX6_trace 33 = .ok (.if_icmp .ge 108, 3) := by decide +kernel
theorem dX6_trace_36 : decode cX6_trace 36 = .ok (.iload_n 3, 1) := by decide +kernel
theorem dX6_trace_37 : decode cX6_trace 37 = .ok (.ifCond .eq 104, 3) := by decide +kernel
theorem dX6_trace_40 : decode cX6_trace 40 = .ok (.iconst 0, 1) := by decide +kernel
theorem dX6_trace_41 : decode cX6_trace 41 = .ok (.istore_n 3, 1) := by decide +kernel
theorem dX6_trace_42 : decode cX6_trace 42 = .ok (.iconst 0, 1) := by decide +kernel
theorem dX6_trace_43 : decode cX6_trace 43 = .ok (.istore 5, 2) := by decide +kernel
theorem dX6_trace_45 : decode cX6_trace 45 = .ok (.iload 5, 2) := by decide +kernel
theorem dX6_trace_47 : decode cX6_trace 47 = .ok (.aload_n 0, 1) := by decide +kernel
theorem dX6_trace_48 : decode cX6_trace 48 = .ok (.getfield 52, 3) := by decide +kernel
theorem dX6_trace_51 : decode cX6_trace 51 = .ok (.if_icmp .ge 84, 3) := by decide +kernel
theorem dX6_trace_54 : decode cX6_trace 54 = .ok (.aload_n 0, 1) := by decide +kernel
theorem dX6_trace_55 : decode cX6_trace 55 = .ok (.getfield 32, 3) := by decide +kernel
theorem dX6_trace_58 : decode cX6_trace 58 = .ok (.iload 5, 2) := by decide +kernel
theorem dX6_trace_60 : decode cX6_trace 60 = .ok (.invokevirtual 65, 3) := by decide +kernel
theorem dX6_trace_63 : decode cX6_trace 63 = .ok (.istore 6, 2) := by decide +kernel
theorem dX6_trace_65 : decode cX6_trace 65 = .ok (.aload_n 1, 1) := by decide +kernel
theorem dX6_trace_66 : decode cX6_trace 66 = .ok (.iload 6, 2) := by decide +kernel
theorem dX6_trace_68 : decode cX6_trace 68 = .ok (.invokevirtual 65, 3) := by decide +kernel
theorem dX6_trace_71 : decode cX6_trace 71 = .ok (.istore 7, 2) := by decide +kernel
theorem dX6_trace_73 : decode cX6_trace 73 = .ok (.iload 7, 2) := by decide +kernel
theorem dX6_trace_75 : decode cX6_trace 75 = .ok (.aload_n 1, 1) := by decide +kernel
theorem dX6_trace_76 : decode cX6_trace 76 = .ok (.aload_n 0, 1) := by decide +kernel
theorem dX6_trace_77 : decode cX6_trace 77 = .ok (.getfield 35, 3) := by decide +kernel
theorem dX6_trace_80 : decode cX6_trace 80 = .ok (.iload 5, 2) := by decide +kernel
theorem dX6_trace_82 : decode cX6_trace 82 = .ok (.invokevirtual 65, 3) := by decide +kernel
theorem dX6_trace_85 : decode cX6_trace 85 = .ok (.invokevirtual 65, 3) := by decide +kernel
theorem dX6_trace_88 : decode cX6_trace 88 = .ok (.ior, 1) := by decide +kernel
theorem dX6_trace_89 : decode cX6_trace 89 = .ok (.iconst 1, 1) := by decide +kernel
theorem dX6_trace_90 : decode cX6_trace 90 = .ok (.aload_n 0, 1) := by decide +kernel
theorem dX6_trace_91 : decode cX6_trace 91 = .ok (.getfield 35, 3) := by decide +kernel
theorem dX6_trace_94 : decode cX6_trace 94 = .ok (.iload 5, 2) := by decide +kernel
theorem dX6_trace_96 : decode cX6_trace 96 = .ok (.invokevirtual 65, 3) := by decide +kernel
theorem dX6_trace_99 : decode cX6_trace 99 = .ok (.ishl, 1) := by decide +kernel
theorem dX6_trace_100 : decode cX6_trace 100 = .ok (.ior, 1) := by decide +kernel
theorem dX6_trace_101 : decode cX6_trace 101 = .ok (.istore 8, 2) := by decide +kernel
theorem dX6_trace_103 : decode cX6_trace 103 = .ok (.iload 8, 2) := by decide +kernel
theorem dX6_trace_105 : decode cX6_trace 105 = .ok (.iload 7, 2) := by decide +kernel
theorem dX6_trace_107 : decode cX6_trace 107 = .ok (.if_icmp .eq 22, 3) := by decide +kernel
theorem dX6_trace_129 : decode cX6_trace 129 = .ok (.iinc 5 1, 3) := by decide +kernel
theorem dX6_trace_132 : decode cX6_trace 132 = .ok (.goto (-87), 3) := by decide +kernel
theorem dX6_trace_110 : decode cX6_trace 110 = .ok (.iload_n 2, 1) := by decide +kernel
theorem dX6_trace_111 : decode cX6_trace 111 = .ok (.iload 5, 2) := by decide +kernel
theorem dX6_trace_113 : decode cX6_trace 113 = .ok (.invokestatic 87, 3) := by decide +kernel
theorem dX6_trace_116 : decode cX6_trace 116 = .ok (.ifCond .ne 13, 3) := by decide +kernel
theorem dX6_trace_119 : decode cX6_trace 119 = .ok (.aload_n 1, 1) := by decide +kernel
theorem dX6_trace_120 : decode cX6_trace 120 = .ok (.iload 6, 2) := by decide +kernel
theorem dX6_trace_122 : decode cX6_trace 122 = .ok (.iload 8, 2) := by decide +kernel
theorem dX6_trace_124 : decode cX6_trace 124 = .ok (.invokevirtual 91, 3) := by decide +kernel
theorem dX6_trace_127 : decode cX6_trace 127 = .ok (.iconst 1, 1) := by decide +kernel
theorem dX6_trace_128 : decode cX6_trace 128 = .ok (.istore_n 3, 1) := by decide +kernel
theorem dX6_trace_135 : decode cX6_trace 135 = .ok (.iinc 4 1, 3) := by decide +kernel
theorem dX6_trace_138 : decode cX6_trace 138 = .ok (.goto (-111), 3) := by decide +kernel
theorem dX6_trace_141 : decode cX6_trace 141 = .ok (.return_, 1) := by decide +kernel
theorem dX6_isUnder_0 : decode cX6_isUnder 0 = .ok (.aload_n 0, 1) := by decide +kernel
theorem dX6_isUnder_1 : decode cX6_isUnder 1 = .ok (.aload_n 0, 1) := by decide +kernel
theorem dX6_isUnder_2 : decode cX6_isUnder 2 = .ok (.getfield 41, 3) := by decide +kernel
theorem dX6_isUnder_5 : decode cX6_isUnder 5 = .ok (.iconst 0, 1) := by decide +kernel
theorem dX6_isUnder_6 : decode cX6_isUnder 6 = .ok (.invokevirtual 83, 3) := by decide +kernel
theorem dX6_isUnder_9 : decode cX6_isUnder 9 = .ok (.aload_n 0, 1) := by decide +kernel
theorem dX6_isUnder_10 : decode cX6_isUnder 10 = .ok (.getfield 41, 3) := by decide +kernel
theorem dX6_isUnder_13 : decode cX6_isUnder 13 = .ok (.iload_n 1, 1) := by decide +kernel
theorem dX6_isUnder_14 : decode cX6_isUnder 14 = .ok (.invokevirtual 65, 3) := by decide +kernel
theorem dX6_isUnder_17 : decode cX6_isUnder 17 = .ok (.iload_n 2, 1) := by decide +kernel
theorem dX6_isUnder_18 : decode cX6_isUnder 18 = .ok (.invokestatic 87, 3) := by decide +kernel
theorem dX6_isUnder_21 : decode cX6_isUnder 21 = .ok (.ireturn, 1) := by decide +kernel
set_option maxHeartbeats 4000000 in
set_option maxRecDepth 100000 in
theorem c_X6_hasRule (l : Launch) (g : GG) (a0 : Nat → Nat) (v0_raws : (Nat → Int32)) (v0_kinds : (Nat → Int32)) (v0_figures : (Nat → Int32)) (v0_heavies : (Nat → Int32)) (v0_places : (Nat → Int32)) (v0_papers : Int32) (v0_lowers : (Nat → Int32)) (v0_uppers : (Nat → Int32)) (v0_rules : Int32) (v0_bounds : (Nat → Int32)) (v0_boundCount : Int32) (v0_tieWay : Int32) (v0_reached : (Nat → Int32)) (p1 : Int32) (hne : (m_X6_hasRule (v0_raws, v0_kinds, v0_figures, v0_heavies, v0_places, v0_papers, v0_lowers, v0_uppers, v0_rules, v0_bounds, v0_boundCount, v0_tieWay, v0_reached) p1) ≠ none) : Ct l g yX6_hasRule cX6_hasRule 2 (some .boolean) ({ frames := 0, cells := 0, slots := 0, locals := 0 } : Room) [.ref (a0 0), .int p1] (wX6 a0 g v0_raws v0_kinds v0_figures v0_heavies v0_places v0_papers v0_lowers v0_uppers v0_rules v0_bounds v0_boundCount v0_tieWay v0_reached) (Qi g .boolean (m_X6_hasRule (v0_raws, v0_kinds, v0_figures, v0_heavies, v0_places, v0_papers, v0_lowers, v0_uppers, v0_rules, v0_bounds, v0_boundCount, v0_tieWay, v0_reached) p1) (fun u => u) (fun u => wX6 a0 g v0_raws v0_kinds v0_figures v0_heavies v0_places v0_papers v0_lowers v0_uppers v0_rules v0_bounds v0_boundCount v0_tieWay v0_reached)) 0 0 := by
  obtain ⟨out, hf⟩ := ne_ex hne
  have hf0 := hf
  refine Ct.of (own := RX6) (by decide +kernel) rfl (Nat.le_of_ble_eq_true rfl) ?_
  intro p e s m below meth c hx hb hr hml hown hts hlocks hin hK A H locs hA hP hD hS hE ls hl
  have hl : lv_has ls 2 [(0, .ref (a0 0)), (1, .int p1)] := hl
  unfold m_X6_hasRule at hf
  refine lv_iload_n hx hb dX6_hasRule_0 rfl (lv_at hl 1 rfl) ?_
  refine lv_if_lt (tgt := 16) hx hb dX6_hasRule_1 (by decide) (fun cb => ?_) (fun cb => ?_)
  · have hf := it_t cb hf
    refine lv_iconst (v := 0) hx hb dX6_hasRule_16 (by decide) ?_
    exact retI (v := (0 : Int32)) (u := (0 : Int32)) (val := fun u => u) (W1 := fun u => wX6 a0 g v0_raws v0_kinds v0_figures v0_heavies v0_places v0_papers v0_lowers v0_uppers v0_rules v0_bounds v0_boundCount v0_tieWay v0_reached) hx hb hr hlocks hS hP hD (hf0.trans hf.symm) rfl rfl dX6_hasRule_17
  have hf := it_f cb hf
  refine lv_iload_n hx hb dX6_hasRule_4 rfl (lv_at hl 1 rfl) ?_
  refine lv_aload_n hx hb dX6_hasRule_5 rfl (lv_at hl 0 rfl) ?_
  refine va_get (D := g.1) (ci := 7) (v := .int v0_rules) (C := RX6) (T := TX6) (N := 13) hx hb hts layX6 hown hK.1 hP 0 rfl rfl 8 (by decide) (hts _ kw57) (fun _ h9 => h9) rfl dX6_hasRule_6 ?_
  refine lv_icmp_ge (tgt := 16) hx hb dX6_hasRule_9 (by decide) (fun cb => ?_) (fun cb => ?_)
  · have hf := it_t cb hf
    refine lv_iconst (v := 0) hx hb dX6_hasRule_16 (by decide) ?_
    exact retI (v := (0 : Int32)) (u := (0 : Int32)) (val := fun u => u) (W1 := fun u => wX6 a0 g v0_raws v0_kinds v0_figures v0_heavies v0_places v0_papers v0_lowers v0_uppers v0_rules v0_bounds v0_boundCount v0_tieWay v0_reached) hx hb hr hlocks hS hP hD (hf0.trans hf.symm) rfl rfl dX6_hasRule_17
  have hf := it_f cb hf
  refine lv_iconst (v := 1) hx hb dX6_hasRule_12 (by decide) ?_
  refine lv_goto (tgt := 17) hx hb dX6_hasRule_13 (by decide) ?_
  exact retI (v := (1 : Int32)) (u := (1 : Int32)) (val := fun u => u) (W1 := fun u => wX6 a0 g v0_raws v0_kinds v0_figures v0_heavies v0_places v0_papers v0_lowers v0_uppers v0_rules v0_bounds v0_boundCount v0_tieWay v0_reached) hx hb hr hlocks hS hP hD (hf0.trans hf.symm) rfl rfl dX6_hasRule_17
set_option maxHeartbeats 4000000 in
set_option maxRecDepth 100000 in
theorem c_X6_rawOf (l : Launch) (g : GG) (a0 : Nat → Nat) (v0_raws : (Nat → Int32)) (v0_kinds : (Nat → Int32)) (v0_figures : (Nat → Int32)) (v0_heavies : (Nat → Int32)) (v0_places : (Nat → Int32)) (v0_papers : Int32) (v0_lowers : (Nat → Int32)) (v0_uppers : (Nat → Int32)) (v0_rules : Int32) (v0_bounds : (Nat → Int32)) (v0_boundCount : Int32) (v0_tieWay : Int32) (v0_reached : (Nat → Int32)) (p1 : Int32) (hne : (m_X6_rawOf (v0_raws, v0_kinds, v0_figures, v0_heavies, v0_places, v0_papers, v0_lowers, v0_uppers, v0_rules, v0_bounds, v0_boundCount, v0_tieWay, v0_reached) p1) ≠ none) : Ct l g yX6_rawOf cX6_rawOf 2 (some .int) ({ frames := 1, cells := 0, slots := 0, locals := 21 } : Room) [.ref (a0 0), .int p1] (wX6 a0 g v0_raws v0_kinds v0_figures v0_heavies v0_places v0_papers v0_lowers v0_uppers v0_rules v0_bounds v0_boundCount v0_tieWay v0_reached) (Qi g .int (m_X6_rawOf (v0_raws, v0_kinds, v0_figures, v0_heavies, v0_places, v0_papers, v0_lowers, v0_uppers, v0_rules, v0_bounds, v0_boundCount, v0_tieWay, v0_reached) p1) (fun u => u) (fun u => wX6 a0 g v0_raws v0_kinds v0_figures v0_heavies v0_places v0_papers v0_lowers v0_uppers v0_rules v0_bounds v0_boundCount v0_tieWay v0_reached)) 0 0 := by
  obtain ⟨out, hf⟩ := ne_ex hne
  have hf0 := hf
  refine Ct.of (own := RX6) (by decide +kernel) rfl (Nat.le_of_ble_eq_true rfl) ?_
  intro p e s m below meth c hx hb hr hml hown hts hlocks hin hK A H locs hA hP hD hS hE ls hl
  have hl : lv_has ls 2 [(0, .ref (a0 0)), (1, .int p1)] := hl
  unfold m_X6_rawOf at hf
  refine lv_aload_n hx hb dX6_rawOf_0 rfl (lv_at hl 0 rfl) ?_
  refine va_get (D := g.1) (ci := 7) (v := .ref (a0 1)) (C := RX6) (T := TX6) (N := 13) hx hb hts layX6 hown hK.1 hP 0 rfl rfl 0 (by decide) (hts _ kw49) (fun _ h9 => h9) rfl dX6_rawOf_1 ?_
  refine lv_iload_n hx hb dX6_rawOf_4 rfl (lv_at hl 1 rfl) ?_
  refine cIp hP hD hS hA hE (fun hPc hDc hSc => rV (As := [.int p1]) (rest := []) hx hb hml hown hts hK (c_X2_get l g (fun i => a0 (i + 1)) 7 v0_raws p1 (bnd_ne hf)) svV_X2_get kw417 rfl rfl hPc hDc hSc rfl rfl hl.1 (Nat.le_of_ble_eq_true rfl) dX6_rawOf_5 ⟨Nat.le_of_ble_eq_true rfl, Nat.le_of_ble_eq_true rfl, rfl, rfl, Nat.le_of_ble_eq_true rfl, Nat.le_of_ble_eq_true rfl⟩) [(1, 2)] rfl rfl rfl (fun x1 H locs ex1 nx1 hP hS => ?_)
  have hf := bnd_of hf ex1
  exact retI (v := x1) (u := x1) (val := fun u => u) (W1 := fun u => wX6 a0 g v0_raws v0_kinds v0_figures v0_heavies v0_places v0_papers v0_lowers v0_uppers v0_rules v0_bounds v0_boundCount v0_tieWay v0_reached) hx hb hr hlocks hS hP hD (hf0.trans hf.symm) rfl rfl dX6_rawOf_8
set_option maxHeartbeats 4000000 in
set_option maxRecDepth 100000 in
theorem c_X6_kindOf (l : Launch) (g : GG) (a0 : Nat → Nat) (v0_raws : (Nat → Int32)) (v0_kinds : (Nat → Int32)) (v0_figures : (Nat → Int32)) (v0_heavies : (Nat → Int32)) (v0_places : (Nat → Int32)) (v0_papers : Int32) (v0_lowers : (Nat → Int32)) (v0_uppers : (Nat → Int32)) (v0_rules : Int32) (v0_bounds : (Nat → Int32)) (v0_boundCount : Int32) (v0_tieWay : Int32) (v0_reached : (Nat → Int32)) (p1 : Int32) (hne : (m_X6_kindOf (v0_raws, v0_kinds, v0_figures, v0_heavies, v0_places, v0_papers, v0_lowers, v0_uppers, v0_rules, v0_bounds, v0_boundCount, v0_tieWay, v0_reached) p1) ≠ none) : Ct l g yX6_kindOf cX6_kindOf 2 (some .int) ({ frames := 1, cells := 0, slots := 0, locals := 21 } : Room) [.ref (a0 0), .int p1] (wX6 a0 g v0_raws v0_kinds v0_figures v0_heavies v0_places v0_papers v0_lowers v0_uppers v0_rules v0_bounds v0_boundCount v0_tieWay v0_reached) (Qi g .int (m_X6_kindOf (v0_raws, v0_kinds, v0_figures, v0_heavies, v0_places, v0_papers, v0_lowers, v0_uppers, v0_rules, v0_bounds, v0_boundCount, v0_tieWay, v0_reached) p1) (fun u => u) (fun u => wX6 a0 g v0_raws v0_kinds v0_figures v0_heavies v0_places v0_papers v0_lowers v0_uppers v0_rules v0_bounds v0_boundCount v0_tieWay v0_reached)) 0 0 := by
  obtain ⟨out, hf⟩ := ne_ex hne
  have hf0 := hf
  refine Ct.of (own := RX6) (by decide +kernel) rfl (Nat.le_of_ble_eq_true rfl) ?_
  intro p e s m below meth c hx hb hr hml hown hts hlocks hin hK A H locs hA hP hD hS hE ls hl
  have hl : lv_has ls 2 [(0, .ref (a0 0)), (1, .int p1)] := hl
  unfold m_X6_kindOf at hf
  refine lv_aload_n hx hb dX6_kindOf_0 rfl (lv_at hl 0 rfl) ?_
  refine va_get (D := g.1) (ci := 7) (v := .ref (a0 3)) (C := RX6) (T := TX6) (N := 13) hx hb hts layX6 hown hK.1 hP 0 rfl rfl 1 (by decide) (hts _ kw50) (fun _ h9 => h9) rfl dX6_kindOf_1 ?_
  refine lv_iload_n hx hb dX6_kindOf_4 rfl (lv_at hl 1 rfl) ?_
  refine cIp hP hD hS hA hE (fun hPc hDc hSc => rV (As := [.int p1]) (rest := []) hx hb hml hown hts hK (c_X2_get l g (fun i => a0 (i + 3)) 7 v0_kinds p1 (bnd_ne hf)) svV_X2_get kw417 rfl rfl hPc hDc hSc rfl rfl hl.1 (Nat.le_of_ble_eq_true rfl) dX6_kindOf_5 ⟨Nat.le_of_ble_eq_true rfl, Nat.le_of_ble_eq_true rfl, rfl, rfl, Nat.le_of_ble_eq_true rfl, Nat.le_of_ble_eq_true rfl⟩) [(3, 2)] rfl rfl rfl (fun x1 H locs ex1 nx1 hP hS => ?_)
  have hf := bnd_of hf ex1
  exact retI (v := x1) (u := x1) (val := fun u => u) (W1 := fun u => wX6 a0 g v0_raws v0_kinds v0_figures v0_heavies v0_places v0_papers v0_lowers v0_uppers v0_rules v0_bounds v0_boundCount v0_tieWay v0_reached) hx hb hr hlocks hS hP hD (hf0.trans hf.symm) rfl rfl dX6_kindOf_8
set_option maxHeartbeats 4000000 in
set_option maxRecDepth 100000 in
theorem c_X6_figureOf (l : Launch) (g : GG) (a0 : Nat → Nat) (v0_raws : (Nat → Int32)) (v0_kinds : (Nat → Int32)) (v0_figures : (Nat → Int32)) (v0_heavies : (Nat → Int32)) (v0_places : (Nat → Int32)) (v0_papers : Int32) (v0_lowers : (Nat → Int32)) (v0_uppers : (Nat → Int32)) (v0_rules : Int32) (v0_bounds : (Nat → Int32)) (v0_boundCount : Int32) (v0_tieWay : Int32) (v0_reached : (Nat → Int32)) (p1 : Int32) (hne : (m_X6_figureOf (v0_raws, v0_kinds, v0_figures, v0_heavies, v0_places, v0_papers, v0_lowers, v0_uppers, v0_rules, v0_bounds, v0_boundCount, v0_tieWay, v0_reached) p1) ≠ none) : Ct l g yX6_figureOf cX6_figureOf 2 (some .int) ({ frames := 1, cells := 0, slots := 0, locals := 21 } : Room) [.ref (a0 0), .int p1] (wX6 a0 g v0_raws v0_kinds v0_figures v0_heavies v0_places v0_papers v0_lowers v0_uppers v0_rules v0_bounds v0_boundCount v0_tieWay v0_reached) (Qi g .int (m_X6_figureOf (v0_raws, v0_kinds, v0_figures, v0_heavies, v0_places, v0_papers, v0_lowers, v0_uppers, v0_rules, v0_bounds, v0_boundCount, v0_tieWay, v0_reached) p1) (fun u => u) (fun u => wX6 a0 g v0_raws v0_kinds v0_figures v0_heavies v0_places v0_papers v0_lowers v0_uppers v0_rules v0_bounds v0_boundCount v0_tieWay v0_reached)) 0 0 := by
  obtain ⟨out, hf⟩ := ne_ex hne
  have hf0 := hf
  refine Ct.of (own := RX6) (by decide +kernel) rfl (Nat.le_of_ble_eq_true rfl) ?_
  intro p e s m below meth c hx hb hr hml hown hts hlocks hin hK A H locs hA hP hD hS hE ls hl
  have hl : lv_has ls 2 [(0, .ref (a0 0)), (1, .int p1)] := hl
  unfold m_X6_figureOf at hf
  refine lv_aload_n hx hb dX6_figureOf_0 rfl (lv_at hl 0 rfl) ?_
  refine va_get (D := g.1) (ci := 7) (v := .ref (a0 5)) (C := RX6) (T := TX6) (N := 13) hx hb hts layX6 hown hK.1 hP 0 rfl rfl 2 (by decide) (hts _ kw51) (fun _ h9 => h9) rfl dX6_figureOf_1 ?_
  refine lv_iload_n hx hb dX6_figureOf_4 rfl (lv_at hl 1 rfl) ?_
  refine cIp hP hD hS hA hE (fun hPc hDc hSc => rV (As := [.int p1]) (rest := []) hx hb hml hown hts hK (c_X2_get l g (fun i => a0 (i + 5)) 7 v0_figures p1 (bnd_ne hf)) svV_X2_get kw417 rfl rfl hPc hDc hSc rfl rfl hl.1 (Nat.le_of_ble_eq_true rfl) dX6_figureOf_5 ⟨Nat.le_of_ble_eq_true rfl, Nat.le_of_ble_eq_true rfl, rfl, rfl, Nat.le_of_ble_eq_true rfl, Nat.le_of_ble_eq_true rfl⟩) [(5, 2)] rfl rfl rfl (fun x1 H locs ex1 nx1 hP hS => ?_)
  have hf := bnd_of hf ex1
  exact retI (v := x1) (u := x1) (val := fun u => u) (W1 := fun u => wX6 a0 g v0_raws v0_kinds v0_figures v0_heavies v0_places v0_papers v0_lowers v0_uppers v0_rules v0_bounds v0_boundCount v0_tieWay v0_reached) hx hb hr hlocks hS hP hD (hf0.trans hf.symm) rfl rfl dX6_figureOf_8
set_option maxHeartbeats 4000000 in
set_option maxRecDepth 100000 in
theorem c_X6_heavyOf (l : Launch) (g : GG) (a0 : Nat → Nat) (v0_raws : (Nat → Int32)) (v0_kinds : (Nat → Int32)) (v0_figures : (Nat → Int32)) (v0_heavies : (Nat → Int32)) (v0_places : (Nat → Int32)) (v0_papers : Int32) (v0_lowers : (Nat → Int32)) (v0_uppers : (Nat → Int32)) (v0_rules : Int32) (v0_bounds : (Nat → Int32)) (v0_boundCount : Int32) (v0_tieWay : Int32) (v0_reached : (Nat → Int32)) (p1 : Int32) (hne : (m_X6_heavyOf (v0_raws, v0_kinds, v0_figures, v0_heavies, v0_places, v0_papers, v0_lowers, v0_uppers, v0_rules, v0_bounds, v0_boundCount, v0_tieWay, v0_reached) p1) ≠ none) : Ct l g yX6_heavyOf cX6_heavyOf 2 (some .int) ({ frames := 1, cells := 0, slots := 0, locals := 21 } : Room) [.ref (a0 0), .int p1] (wX6 a0 g v0_raws v0_kinds v0_figures v0_heavies v0_places v0_papers v0_lowers v0_uppers v0_rules v0_bounds v0_boundCount v0_tieWay v0_reached) (Qi g .int (m_X6_heavyOf (v0_raws, v0_kinds, v0_figures, v0_heavies, v0_places, v0_papers, v0_lowers, v0_uppers, v0_rules, v0_bounds, v0_boundCount, v0_tieWay, v0_reached) p1) (fun u => u) (fun u => wX6 a0 g v0_raws v0_kinds v0_figures v0_heavies v0_places v0_papers v0_lowers v0_uppers v0_rules v0_bounds v0_boundCount v0_tieWay v0_reached)) 0 0 := by
  obtain ⟨out, hf⟩ := ne_ex hne
  have hf0 := hf
  refine Ct.of (own := RX6) (by decide +kernel) rfl (Nat.le_of_ble_eq_true rfl) ?_
  intro p e s m below meth c hx hb hr hml hown hts hlocks hin hK A H locs hA hP hD hS hE ls hl
  have hl : lv_has ls 2 [(0, .ref (a0 0)), (1, .int p1)] := hl
  unfold m_X6_heavyOf at hf
  refine lv_aload_n hx hb dX6_heavyOf_0 rfl (lv_at hl 0 rfl) ?_
  refine va_get (D := g.1) (ci := 7) (v := .ref (a0 7)) (C := RX6) (T := TX6) (N := 13) hx hb hts layX6 hown hK.1 hP 0 rfl rfl 3 (by decide) (hts _ kw52) (fun _ h9 => h9) rfl dX6_heavyOf_1 ?_
  refine lv_iload_n hx hb dX6_heavyOf_4 rfl (lv_at hl 1 rfl) ?_
  refine cIp hP hD hS hA hE (fun hPc hDc hSc => rV (As := [.int p1]) (rest := []) hx hb hml hown hts hK (c_X2_get l g (fun i => a0 (i + 7)) 7 v0_heavies p1 (bnd_ne hf)) svV_X2_get kw417 rfl rfl hPc hDc hSc rfl rfl hl.1 (Nat.le_of_ble_eq_true rfl) dX6_heavyOf_5 ⟨Nat.le_of_ble_eq_true rfl, Nat.le_of_ble_eq_true rfl, rfl, rfl, Nat.le_of_ble_eq_true rfl, Nat.le_of_ble_eq_true rfl⟩) [(7, 2)] rfl rfl rfl (fun x1 H locs ex1 nx1 hP hS => ?_)
  have hf := bnd_of hf ex1
  exact retI (v := x1) (u := x1) (val := fun u => u) (W1 := fun u => wX6 a0 g v0_raws v0_kinds v0_figures v0_heavies v0_places v0_papers v0_lowers v0_uppers v0_rules v0_bounds v0_boundCount v0_tieWay v0_reached) hx hb hr hlocks hS hP hD (hf0.trans hf.symm) rfl rfl dX6_heavyOf_8
set_option maxHeartbeats 4000000 in
set_option maxRecDepth 100000 in
theorem c_X6_placeOf (l : Launch) (g : GG) (a0 : Nat → Nat) (v0_raws : (Nat → Int32)) (v0_kinds : (Nat → Int32)) (v0_figures : (Nat → Int32)) (v0_heavies : (Nat → Int32)) (v0_places : (Nat → Int32)) (v0_papers : Int32) (v0_lowers : (Nat → Int32)) (v0_uppers : (Nat → Int32)) (v0_rules : Int32) (v0_bounds : (Nat → Int32)) (v0_boundCount : Int32) (v0_tieWay : Int32) (v0_reached : (Nat → Int32)) (p1 : Int32) (hne : (m_X6_placeOf (v0_raws, v0_kinds, v0_figures, v0_heavies, v0_places, v0_papers, v0_lowers, v0_uppers, v0_rules, v0_bounds, v0_boundCount, v0_tieWay, v0_reached) p1) ≠ none) : Ct l g yX6_placeOf cX6_placeOf 2 (some .int) ({ frames := 1, cells := 0, slots := 0, locals := 21 } : Room) [.ref (a0 0), .int p1] (wX6 a0 g v0_raws v0_kinds v0_figures v0_heavies v0_places v0_papers v0_lowers v0_uppers v0_rules v0_bounds v0_boundCount v0_tieWay v0_reached) (Qi g .int (m_X6_placeOf (v0_raws, v0_kinds, v0_figures, v0_heavies, v0_places, v0_papers, v0_lowers, v0_uppers, v0_rules, v0_bounds, v0_boundCount, v0_tieWay, v0_reached) p1) (fun u => u) (fun u => wX6 a0 g v0_raws v0_kinds v0_figures v0_heavies v0_places v0_papers v0_lowers v0_uppers v0_rules v0_bounds v0_boundCount v0_tieWay v0_reached)) 0 0 := by
  obtain ⟨out, hf⟩ := ne_ex hne
  have hf0 := hf
  refine Ct.of (own := RX6) (by decide +kernel) rfl (Nat.le_of_ble_eq_true rfl) ?_
  intro p e s m below meth c hx hb hr hml hown hts hlocks hin hK A H locs hA hP hD hS hE ls hl
  have hl : lv_has ls 2 [(0, .ref (a0 0)), (1, .int p1)] := hl
  unfold m_X6_placeOf at hf
  refine lv_aload_n hx hb dX6_placeOf_0 rfl (lv_at hl 0 rfl) ?_
  refine va_get (D := g.1) (ci := 7) (v := .ref (a0 9)) (C := RX6) (T := TX6) (N := 13) hx hb hts layX6 hown hK.1 hP 0 rfl rfl 4 (by decide) (hts _ kw53) (fun _ h9 => h9) rfl dX6_placeOf_1 ?_
  refine lv_iload_n hx hb dX6_placeOf_4 rfl (lv_at hl 1 rfl) ?_
  refine cIp hP hD hS hA hE (fun hPc hDc hSc => rV (As := [.int p1]) (rest := []) hx hb hml hown hts hK (c_X2_get l g (fun i => a0 (i + 9)) 7 v0_places p1 (bnd_ne hf)) svV_X2_get kw417 rfl rfl hPc hDc hSc rfl rfl hl.1 (Nat.le_of_ble_eq_true rfl) dX6_placeOf_5 ⟨Nat.le_of_ble_eq_true rfl, Nat.le_of_ble_eq_true rfl, rfl, rfl, Nat.le_of_ble_eq_true rfl, Nat.le_of_ble_eq_true rfl⟩) [(9, 2)] rfl rfl rfl (fun x1 H locs ex1 nx1 hP hS => ?_)
  have hf := bnd_of hf ex1
  exact retI (v := x1) (u := x1) (val := fun u => u) (W1 := fun u => wX6 a0 g v0_raws v0_kinds v0_figures v0_heavies v0_places v0_papers v0_lowers v0_uppers v0_rules v0_bounds v0_boundCount v0_tieWay v0_reached) hx hb hr hlocks hS hP hD (hf0.trans hf.symm) rfl rfl dX6_placeOf_8
set_option maxHeartbeats 4000000 in
set_option maxRecDepth 100000 in
theorem c_X9_markBy (l : Launch) (g : GG) (p0 : Int32) (p1 : Int32) (p2 : Int32) (hne : (m_X9_markBy p0 p1 p2) ≠ none) : Ct l g yX9_markBy cX9_markBy 3 (some .int) ({ frames := 1, cells := 0, slots := 0, locals := 23 } : Room) [.int p0, .int p1, .int p2] (([] : va_W)) (Qi g .int (m_X9_markBy p0 p1 p2) (fun u => u) (fun u => ([] : va_W))) 0 0 := by
  obtain ⟨out, hf⟩ := ne_ex hne
  have hf0 := hf
  refine Ct.of (own := RX9) (by decide +kernel) rfl (Nat.le_of_ble_eq_true rfl) ?_
  intro p e s m below meth c hx hb hr hml hown hts hlocks hin hK A H locs hA hP hD hS hE ls hl
  have hl : lv_has ls 3 [(0, .int p0), (1, .int p1), (2, .int p2)] := hl
  unfold m_X9_markBy at hf
  refine lv_iload_n hx hb dX9_markBy_0 rfl (lv_at hl 0 rfl) ?_
  by_cases c1 : p0 = (1 : Int32)
  · have hf := it_t c1 hf
    refine lv_tableIn (off := 31) (tgt := 32) hx hb dX9_markBy_1 (by rw [c1]; decide) (by rw [c1]; decide) (by rw [c1]; rfl) (by decide) ?_
    refine lv_iload_n hx hb dX9_markBy_32 rfl (lv_at hl 1 rfl) ?_
    refine lv_iload_n hx hb dX9_markBy_33 rfl (lv_at hl 2 rfl) ?_
    refine lv_iadd hx hb dX9_markBy_34 ?_
    exact retI (v := (p1 + p2)) (u := (p1 + p2)) (val := fun u => u) (W1 := fun u => ([] : va_W)) hx hb hr hlocks hS hP hD (hf0.trans hf.symm) rfl rfl dX9_markBy_35
  have hf := it_f c1 hf
  by_cases c2 : p0 = (2 : Int32)
  · have hf := it_t c2 hf
    refine lv_tableIn (off := 52) (tgt := 53) hx hb dX9_markBy_1 (by rw [c2]; decide) (by rw [c2]; decide) (by rw [c2]; rfl) (by decide) ?_
    refine lv_iconst (v := 0) hx hb dX9_markBy_53 (by decide) ?_
    refine lv_iload_n hx hb dX9_markBy_54 rfl (lv_at hl 1 rfl) ?_
    refine lv_iconst (v := 3) hx hb dX9_markBy_55 (by decide) ?_
    refine lv_iload_n hx hb dX9_markBy_56 rfl (lv_at hl 2 rfl) ?_
    refine lv_imul hx hb dX9_markBy_57 ?_
    refine lv_isub hx hb dX9_markBy_58 ?_
    refine va_mmax hx hb (hml.trans hl.1.symm) hown (hts _ kw565) (hts _ kw43) (hts _ kw4) (hts _ kw44) (Nat.le_of_ble_eq_true rfl) (Nat.le_of_ble_eq_true rfl) (Nat.zero_le _) (Nat.zero_le _) dX9_markBy_59 ?_
    obtain ⟨x1, ex1, hf⟩ := bnd hf
    refine nmI (Option.some.inj ex1) ?_
    exact retI (v := x1) (u := x1) (val := fun u => u) (W1 := fun u => ([] : va_W)) hx hb hr hlocks hS hP hD (hf0.trans hf.symm) rfl rfl dX9_markBy_62
  have hf := it_f c2 hf
  by_cases c3 : p0 = (3 : Int32)
  · have hf := it_t c3 hf
    refine lv_tableIn (off := 62) (tgt := 63) hx hb dX9_markBy_1 (by rw [c3]; decide) (by rw [c3]; decide) (by rw [c3]; rfl) (by decide) ?_
    refine lv_bipush (v := 50) hx hb dX9_markBy_63 (by decide) ?_
    refine lv_iconst (v := 0) hx hb dX9_markBy_65 (by decide) ?_
    refine lv_iload_n hx hb dX9_markBy_66 rfl (lv_at hl 1 rfl) ?_
    refine lv_iconst (v := 3) hx hb dX9_markBy_67 (by decide) ?_
    refine lv_iload_n hx hb dX9_markBy_68 rfl (lv_at hl 2 rfl) ?_
    refine lv_imul hx hb dX9_markBy_69 ?_
    refine lv_isub hx hb dX9_markBy_70 ?_
    refine va_mmax hx hb (hml.trans hl.1.symm) hown (hts _ kw565) (hts _ kw43) (hts _ kw4) (hts _ kw44) (Nat.le_of_ble_eq_true rfl) (Nat.le_of_ble_eq_true rfl) (Nat.zero_le _) (Nat.zero_le _) dX9_markBy_71 ?_
    obtain ⟨x2, ex2, hf⟩ := bnd hf
    refine nmI (Option.some.inj ex2) ?_
    refine va_mmin hx hb (hml.trans hl.1.symm) hown (hts _ kw566) (hts _ kw567) (hts _ kw4) (hts _ kw568) (Nat.le_of_ble_eq_true rfl) (Nat.le_of_ble_eq_true rfl) (Nat.zero_le _) (Nat.zero_le _) dX9_markBy_74 ?_
    obtain ⟨x3, ex3, hf⟩ := bnd hf
    refine nmI (Option.some.inj ex3) ?_
    exact retI (v := x3) (u := x3) (val := fun u => u) (W1 := fun u => ([] : va_W)) hx hb hr hlocks hS hP hD (hf0.trans hf.symm) rfl rfl dX9_markBy_77
  have hf := it_f c3 hf
  by_cases c4 : p0 = (4 : Int32)
  · have hf := it_t c4 hf
    refine lv_tableIn (off := 35) (tgt := 36) hx hb dX9_markBy_1 (by rw [c4]; decide) (by rw [c4]; decide) (by rw [c4]; rfl) (by decide) ?_
    refine lv_iload_n hx hb dX9_markBy_36 rfl (lv_at hl 1 rfl) ?_
    refine lv_iload_n hx hb dX9_markBy_37 rfl (lv_at hl 2 rfl) ?_
    refine lv_iadd hx hb dX9_markBy_38 ?_
    refine lv_iload_n hx hb dX9_markBy_39 rfl (lv_at hl 1 rfl) ?_
    refine lv_bipush (v := 70) hx hb dX9_markBy_40 (by decide) ?_
    refine lv_icmp_lt (tgt := 50) hx hb dX9_markBy_42 (by decide) (fun cb => ?_) (fun cb => ?_)
    · have hf := it_t cb hf
      refine lv_iconst (v := 0) hx hb dX9_markBy_50 (by decide) ?_
      refine lv_iadd hx hb dX9_markBy_51 ?_
      exact retI (v := ((p1 + p2) + (0 : Int32))) (u := ((p1 + p2) + (0 : Int32))) (val := fun u => u) (W1 := fun u => ([] : va_W)) hx hb hr hlocks hS hP hD (hf0.trans hf.symm) rfl rfl dX9_markBy_52
    have hf := it_f cb hf
    refine lv_bipush (v := 10) hx hb dX9_markBy_45 (by decide) ?_
    refine lv_goto (tgt := 51) hx hb dX9_markBy_47 (by decide) ?_
    refine lv_iadd hx hb dX9_markBy_51 ?_
    exact retI (v := ((p1 + p2) + (10 : Int32))) (u := ((p1 + p2) + (10 : Int32))) (val := fun u => u) (W1 := fun u => ([] : va_W)) hx hb hr hlocks hS hP hD (hf0.trans hf.symm) rfl rfl dX9_markBy_52
  have hf := it_f c4 hf
  refine lv_tableOut (tgt := 78) hx hb dX9_markBy_1 (by have q1 := lv_neT c1 (a := 1) rfl; have q2 := lv_neT c2 (a := 2) rfl; have q3 := lv_neT c3 (a := 3) rfl; have q4 := lv_neT c4 (a := 4) rfl; omega) (by decide) ?_
  refine lv_iload_n hx hb dX9_markBy_78 rfl (lv_at hl 1 rfl) ?_
  exact retI (v := p1) (u := p1) (val := fun u => u) (W1 := fun u => ([] : va_W)) hx hb hr hlocks hS hP hD (hf0.trans hf.symm) rfl rfl dX9_markBy_79
set_option maxHeartbeats 4000000 in
set_option maxRecDepth 100000 in
theorem c_X6_markOf (l : Launch) (g : GG) (a0 : Nat → Nat) (v0_raws : (Nat → Int32)) (v0_kinds : (Nat → Int32)) (v0_figures : (Nat → Int32)) (v0_heavies : (Nat → Int32)) (v0_places : (Nat → Int32)) (v0_papers : Int32) (v0_lowers : (Nat → Int32)) (v0_uppers : (Nat → Int32)) (v0_rules : Int32) (v0_bounds : (Nat → Int32)) (v0_boundCount : Int32) (v0_tieWay : Int32) (v0_reached : (Nat → Int32)) (p1 : Int32) (hne : (m_X6_markOf (v0_raws, v0_kinds, v0_figures, v0_heavies, v0_places, v0_papers, v0_lowers, v0_uppers, v0_rules, v0_bounds, v0_boundCount, v0_tieWay, v0_reached) p1) ≠ none) : Ct l g yX6_markOf cX6_markOf 2 (some .int) ({ frames := 2, cells := 0, slots := 0, locals := 45 } : Room) [.ref (a0 0), .int p1] (wX6 a0 g v0_raws v0_kinds v0_figures v0_heavies v0_places v0_papers v0_lowers v0_uppers v0_rules v0_bounds v0_boundCount v0_tieWay v0_reached) (Qi g .int (m_X6_markOf (v0_raws, v0_kinds, v0_figures, v0_heavies, v0_places, v0_papers, v0_lowers, v0_uppers, v0_rules, v0_bounds, v0_boundCount, v0_tieWay, v0_reached) p1) (fun u => u) (fun u => wX6 a0 g v0_raws v0_kinds v0_figures v0_heavies v0_places v0_papers v0_lowers v0_uppers v0_rules v0_bounds v0_boundCount v0_tieWay v0_reached)) 0 0 := by
  obtain ⟨out, hf⟩ := ne_ex hne
  have hf0 := hf
  refine Ct.of (own := RX6) (by decide +kernel) rfl (Nat.le_of_ble_eq_true rfl) ?_
  intro p e s m below meth c hx hb hr hml hown hts hlocks hin hK A H locs hA hP hD hS hE ls hl
  have hl : lv_has ls 2 [(0, .ref (a0 0)), (1, .int p1)] := hl
  unfold m_X6_markOf at hf
  refine lv_aload_n hx hb dX6_markOf_0 rfl (lv_at hl 0 rfl) ?_
  refine va_get (D := g.1) (ci := 7) (v := .ref (a0 3)) (C := RX6) (T := TX6) (N := 13) hx hb hts layX6 hown hK.1 hP 0 rfl rfl 1 (by decide) (hts _ kw50) (fun _ h9 => h9) rfl dX6_markOf_1 ?_
  refine lv_iload_n hx hb dX6_markOf_4 rfl (lv_at hl 1 rfl) ?_
  refine cIp hP hD hS hA hE (fun hPc hDc hSc => rV (As := [.int p1]) (rest := []) hx hb hml hown hts hK (c_X2_get l g (fun i => a0 (i + 3)) 7 v0_kinds p1 (bnd_ne hf)) svV_X2_get kw417 rfl rfl hPc hDc hSc rfl rfl hl.1 (Nat.le_of_ble_eq_true rfl) dX6_markOf_5 ⟨Nat.le_of_ble_eq_true rfl, Nat.le_of_ble_eq_true rfl, rfl, rfl, Nat.le_of_ble_eq_true rfl, Nat.le_of_ble_eq_true rfl⟩) [(3, 2)] rfl rfl rfl (fun x1 H locs ex1 nx1 hP hS => ?_)
  have hf := bnd_of hf ex1
  refine lv_aload_n hx hb dX6_markOf_8 rfl (lv_at hl 0 rfl) ?_
  refine va_get (D := g.1) (ci := 7) (v := .ref (a0 1)) (C := RX6) (T := TX6) (N := 13) hx hb hts layX6 hown hK.1 hP 0 rfl rfl 0 (by decide) (hts _ kw49) (fun _ h9 => h9) rfl dX6_markOf_9 ?_
  refine lv_iload_n hx hb dX6_markOf_12 rfl (lv_at hl 1 rfl) ?_
  refine cIp hP hD hS hA hE (fun hPc hDc hSc => rV (As := [.int p1]) (rest := [.int x1]) hx hb hml hown hts hK (c_X2_get l g (fun i => a0 (i + 1)) 7 v0_raws p1 (bnd_ne hf)) svV_X2_get kw417 rfl rfl hPc hDc hSc rfl rfl hl.1 (Nat.le_of_ble_eq_true rfl) dX6_markOf_13 ⟨Nat.le_of_ble_eq_true rfl, Nat.le_of_ble_eq_true rfl, rfl, rfl, Nat.le_of_ble_eq_true rfl, Nat.le_of_ble_eq_true rfl⟩) [(1, 2)] rfl rfl rfl (fun x2 H locs ex2 nx2 hP hS => ?_)
  have hf := bnd_of hf ex2
  refine lv_aload_n hx hb dX6_markOf_16 rfl (lv_at hl 0 rfl) ?_
  refine va_get (D := g.1) (ci := 7) (v := .ref (a0 5)) (C := RX6) (T := TX6) (N := 13) hx hb hts layX6 hown hK.1 hP 0 rfl rfl 2 (by decide) (hts _ kw51) (fun _ h9 => h9) rfl dX6_markOf_17 ?_
  refine lv_iload_n hx hb dX6_markOf_20 rfl (lv_at hl 1 rfl) ?_
  refine cIp hP hD hS hA hE (fun hPc hDc hSc => rV (As := [.int p1]) (rest := [.int x2, .int x1]) hx hb hml hown hts hK (c_X2_get l g (fun i => a0 (i + 5)) 7 v0_figures p1 (bnd_ne hf)) svV_X2_get kw417 rfl rfl hPc hDc hSc rfl rfl hl.1 (Nat.le_of_ble_eq_true rfl) dX6_markOf_21 ⟨Nat.le_of_ble_eq_true rfl, Nat.le_of_ble_eq_true rfl, rfl, rfl, Nat.le_of_ble_eq_true rfl, Nat.le_of_ble_eq_true rfl⟩) [(5, 2)] rfl rfl rfl (fun x3 H locs ex3 nx3 hP hS => ?_)
  have hf := bnd_of hf ex3
  refine cIp hP hD hS hA hE (fun hPc hDc hSc => rSN (As := [.int x1, .int x2, .int x3]) (rest := []) hx hb hml hown hts hK (c_X9_markBy l g x1 x2 x3 (bnd_ne hf)) svS_X9_markBy nw12 hPc hDc hSc rfl rfl hl.1 (Nat.le_of_ble_eq_true rfl) dX6_markOf_24 ⟨Nat.le_of_ble_eq_true rfl, Nat.le_of_ble_eq_true rfl, rfl, rfl, Nat.le_of_ble_eq_true rfl, Nat.le_of_ble_eq_true rfl⟩) [] rfl rfl rfl (fun x4 H locs ex4 nx4 hP hS => ?_)
  have hf := bnd_of hf ex4
  exact retI (v := x4) (u := x4) (val := fun u => u) (W1 := fun u => wX6 a0 g v0_raws v0_kinds v0_figures v0_heavies v0_places v0_papers v0_lowers v0_uppers v0_rules v0_bounds v0_boundCount v0_tieWay v0_reached) hx hb hr hlocks hS hP hD (hf0.trans hf.symm) rfl rfl dX6_markOf_27
set_option maxHeartbeats 4000000 in
set_option maxRecDepth 100000 in
theorem c_X9_weightBy (l : Launch) (g : GG) (p0 : Int32) (p1 : Int32) (hne : (m_X9_weightBy p0 p1) ≠ none) : Ct l g yX9_weightBy cX9_weightBy 2 (some .int) ({ frames := 0, cells := 0, slots := 0, locals := 0 } : Room) [.int p0, .int p1] (([] : va_W)) (Qi g .int (m_X9_weightBy p0 p1) (fun u => u) (fun u => ([] : va_W))) 0 0 := by
  obtain ⟨out, hf⟩ := ne_ex hne
  have hf0 := hf
  refine Ct.of (own := RX9) (by decide +kernel) rfl (Nat.le_of_ble_eq_true rfl) ?_
  intro p e s m below meth c hx hb hr hml hown hts hlocks hin hK A H locs hA hP hD hS hE ls hl
  have hl : lv_has ls 2 [(0, .int p0), (1, .int p1)] := hl
  unfold m_X9_weightBy at hf
  refine lv_iload_n hx hb dX9_weightBy_0 rfl (lv_at hl 0 rfl) ?_
  by_cases c2 : p0 = (2 : Int32)
  · have hf := it_t c2 hf
    refine lv_tableIn (off := 31) (tgt := 32) hx hb dX9_weightBy_1 (by rw [c2]; decide) (by rw [c2]; decide) (by rw [c2]; rfl) (by decide) ?_
    refine lv_iload_n hx hb dX9_weightBy_32 rfl (lv_at hl 1 rfl) ?_
    refine lv_iconst (v := 1) hx hb dX9_weightBy_33 (by decide) ?_
    refine lv_iadd hx hb dX9_weightBy_34 ?_
    refine lv_iconst (v := 2) hx hb dX9_weightBy_35 (by decide) ?_
    refine lv_idiv hx hb dX9_weightBy_36 (by decide) ?_
    exact retI (v := ((p1 + (1 : Int32)) / (2 : Int32))) (u := ((p1 + (1 : Int32)) / (2 : Int32))) (val := fun u => u) (W1 := fun u => ([] : va_W)) hx hb hr hlocks hS hP hD (hf0.trans hf.symm) rfl rfl dX9_weightBy_37
  have hf := it_f c2 hf
  by_cases c3 : p0 = (3 : Int32)
  · have hf := it_t c3 hf
    refine lv_tableIn (off := 37) (tgt := 38) hx hb dX9_weightBy_1 (by rw [c3]; decide) (by rw [c3]; decide) (by rw [c3]; rfl) (by decide) ?_
    refine lv_iload_n hx hb dX9_weightBy_38 rfl (lv_at hl 1 rfl) ?_
    refine lv_iconst (v := 1) hx hb dX9_weightBy_39 (by decide) ?_
    refine lv_iadd hx hb dX9_weightBy_40 ?_
    refine lv_iconst (v := 2) hx hb dX9_weightBy_41 (by decide) ?_
    refine lv_idiv hx hb dX9_weightBy_42 (by decide) ?_
    refine lv_iconst (v := 1) hx hb dX9_weightBy_43 (by decide) ?_
    refine lv_iadd hx hb dX9_weightBy_44 ?_
    exact retI (v := (((p1 + (1 : Int32)) / (2 : Int32)) + (1 : Int32))) (u := (((p1 + (1 : Int32)) / (2 : Int32)) + (1 : Int32))) (val := fun u => u) (W1 := fun u => ([] : va_W)) hx hb hr hlocks hS hP hD (hf0.trans hf.symm) rfl rfl dX9_weightBy_45
  have hf := it_f c3 hf
  by_cases c5 : p0 = (5 : Int32)
  · have hf := it_t c5 hf
    refine lv_tableIn (off := 45) (tgt := 46) hx hb dX9_weightBy_1 (by rw [c5]; decide) (by rw [c5]; decide) (by rw [c5]; rfl) (by decide) ?_
    refine lv_iconst (v := 2) hx hb dX9_weightBy_46 (by decide) ?_
    refine lv_iload_n hx hb dX9_weightBy_47 rfl (lv_at hl 1 rfl) ?_
    refine lv_imul hx hb dX9_weightBy_48 ?_
    exact retI (v := ((2 : Int32) * p1)) (u := ((2 : Int32) * p1)) (val := fun u => u) (W1 := fun u => ([] : va_W)) hx hb hr hlocks hS hP hD (hf0.trans hf.symm) rfl rfl dX9_weightBy_49
  have hf := it_f c5 hf
  have KD : W p l e { frames := 0, cells := 0, slots := 0, locals := 0 } s m [.int p0, .int p1].toArray below meth c H locs 0 0 (MQ below (Qi g .int (m_X9_weightBy p0 p1) (fun u => u) (fun u => ([] : va_W)) A) [.int p0, .int p1].toArray s 0 0 A) (F0 m 50 ls []) := by
    refine lv_iload_n hx hb dX9_weightBy_50 rfl (lv_at hl 1 rfl) ?_
    exact retI (v := p1) (u := p1) (val := fun u => u) (W1 := fun u => ([] : va_W)) hx hb hr hlocks hS hP hD (hf0.trans hf.symm) rfl rfl dX9_weightBy_51
  by_cases c4 : p0 = (4 : Int32)
  · exact lv_tableIn (off := 49) (tgt := 50) hx hb dX9_weightBy_1 (by rw [c4]; decide) (by rw [c4]; decide) (by rw [c4]; rfl) (by decide) KD
  exact lv_tableOut (tgt := 50) hx hb dX9_weightBy_1 (by have q2 := lv_neT c2 (a := 2) rfl; have q3 := lv_neT c3 (a := 3) rfl; have q4 := lv_neT c4 (a := 4) rfl; have q5 := lv_neT c5 (a := 5) rfl; omega) (by decide) KD
set_option maxHeartbeats 4000000 in
set_option maxRecDepth 100000 in
theorem c_X6_weightOf (l : Launch) (g : GG) (a0 : Nat → Nat) (v0_raws : (Nat → Int32)) (v0_kinds : (Nat → Int32)) (v0_figures : (Nat → Int32)) (v0_heavies : (Nat → Int32)) (v0_places : (Nat → Int32)) (v0_papers : Int32) (v0_lowers : (Nat → Int32)) (v0_uppers : (Nat → Int32)) (v0_rules : Int32) (v0_bounds : (Nat → Int32)) (v0_boundCount : Int32) (v0_tieWay : Int32) (v0_reached : (Nat → Int32)) (p1 : Int32) (hne : (m_X6_weightOf (v0_raws, v0_kinds, v0_figures, v0_heavies, v0_places, v0_papers, v0_lowers, v0_uppers, v0_rules, v0_bounds, v0_boundCount, v0_tieWay, v0_reached) p1) ≠ none) : Ct l g yX6_weightOf cX6_weightOf 2 (some .int) ({ frames := 1, cells := 0, slots := 0, locals := 21 } : Room) [.ref (a0 0), .int p1] (wX6 a0 g v0_raws v0_kinds v0_figures v0_heavies v0_places v0_papers v0_lowers v0_uppers v0_rules v0_bounds v0_boundCount v0_tieWay v0_reached) (Qi g .int (m_X6_weightOf (v0_raws, v0_kinds, v0_figures, v0_heavies, v0_places, v0_papers, v0_lowers, v0_uppers, v0_rules, v0_bounds, v0_boundCount, v0_tieWay, v0_reached) p1) (fun u => u) (fun u => wX6 a0 g v0_raws v0_kinds v0_figures v0_heavies v0_places v0_papers v0_lowers v0_uppers v0_rules v0_bounds v0_boundCount v0_tieWay v0_reached)) 0 0 := by
  obtain ⟨out, hf⟩ := ne_ex hne
  have hf0 := hf
  refine Ct.of (own := RX6) (by decide +kernel) rfl (Nat.le_of_ble_eq_true rfl) ?_
  intro p e s m below meth c hx hb hr hml hown hts hlocks hin hK A H locs hA hP hD hS hE ls hl
  have hl : lv_has ls 2 [(0, .ref (a0 0)), (1, .int p1)] := hl
  unfold m_X6_weightOf at hf
  refine lv_aload_n hx hb dX6_weightOf_0 rfl (lv_at hl 0 rfl) ?_
  refine va_get (D := g.1) (ci := 7) (v := .ref (a0 3)) (C := RX6) (T := TX6) (N := 13) hx hb hts layX6 hown hK.1 hP 0 rfl rfl 1 (by decide) (hts _ kw50) (fun _ h9 => h9) rfl dX6_weightOf_1 ?_
  refine lv_iload_n hx hb dX6_weightOf_4 rfl (lv_at hl 1 rfl) ?_
  refine cIp hP hD hS hA hE (fun hPc hDc hSc => rV (As := [.int p1]) (rest := []) hx hb hml hown hts hK (c_X2_get l g (fun i => a0 (i + 3)) 7 v0_kinds p1 (bnd_ne hf)) svV_X2_get kw417 rfl rfl hPc hDc hSc rfl rfl hl.1 (Nat.le_of_ble_eq_true rfl) dX6_weightOf_5 ⟨Nat.le_of_ble_eq_true rfl, Nat.le_of_ble_eq_true rfl, rfl, rfl, Nat.le_of_ble_eq_true rfl, Nat.le_of_ble_eq_true rfl⟩) [(3, 2)] rfl rfl rfl (fun x1 H locs ex1 nx1 hP hS => ?_)
  have hf := bnd_of hf ex1
  refine lv_aload_n hx hb dX6_weightOf_8 rfl (lv_at hl 0 rfl) ?_
  refine va_get (D := g.1) (ci := 7) (v := .ref (a0 7)) (C := RX6) (T := TX6) (N := 13) hx hb hts layX6 hown hK.1 hP 0 rfl rfl 3 (by decide) (hts _ kw52) (fun _ h9 => h9) rfl dX6_weightOf_9 ?_
  refine lv_iload_n hx hb dX6_weightOf_12 rfl (lv_at hl 1 rfl) ?_
  refine cIp hP hD hS hA hE (fun hPc hDc hSc => rV (As := [.int p1]) (rest := [.int x1]) hx hb hml hown hts hK (c_X2_get l g (fun i => a0 (i + 7)) 7 v0_heavies p1 (bnd_ne hf)) svV_X2_get kw417 rfl rfl hPc hDc hSc rfl rfl hl.1 (Nat.le_of_ble_eq_true rfl) dX6_weightOf_13 ⟨Nat.le_of_ble_eq_true rfl, Nat.le_of_ble_eq_true rfl, rfl, rfl, Nat.le_of_ble_eq_true rfl, Nat.le_of_ble_eq_true rfl⟩) [(7, 2)] rfl rfl rfl (fun x2 H locs ex2 nx2 hP hS => ?_)
  have hf := bnd_of hf ex2
  refine cIp hP hD hS hA hE (fun hPc hDc hSc => rSN (As := [.int x1, .int x2]) (rest := []) hx hb hml hown hts hK (c_X9_weightBy l g x1 x2 (bnd_ne hf)) svS_X9_weightBy nw13 hPc hDc hSc rfl rfl hl.1 (Nat.le_of_ble_eq_true rfl) dX6_weightOf_16 ⟨Nat.le_of_ble_eq_true rfl, Nat.le_of_ble_eq_true rfl, rfl, rfl, Nat.le_of_ble_eq_true rfl, Nat.le_of_ble_eq_true rfl⟩) [] rfl rfl rfl (fun x3 H locs ex3 nx3 hP hS => ?_)
  have hf := bnd_of hf ex3
  exact retI (v := x3) (u := x3) (val := fun u => u) (W1 := fun u => wX6 a0 g v0_raws v0_kinds v0_figures v0_heavies v0_places v0_papers v0_lowers v0_uppers v0_rules v0_bounds v0_boundCount v0_tieWay v0_reached) hx hb hr hlocks hS hP hD (hf0.trans hf.symm) rfl rfl dX6_weightOf_19
set_option maxHeartbeats 4000000 in
set_option maxRecDepth 100000 in
theorem c_X6_gradeOf (l : Launch) (g : GG) (a0 : Nat → Nat) (v0_raws : (Nat → Int32)) (v0_kinds : (Nat → Int32)) (v0_figures : (Nat → Int32)) (v0_heavies : (Nat → Int32)) (v0_places : (Nat → Int32)) (v0_papers : Int32) (v0_lowers : (Nat → Int32)) (v0_uppers : (Nat → Int32)) (v0_rules : Int32) (v0_bounds : (Nat → Int32)) (v0_boundCount : Int32) (v0_tieWay : Int32) (v0_reached : (Nat → Int32)) (p1 : Int64) (p3 : Int64) (hne : (m_X6_gradeOf (v0_raws, v0_kinds, v0_figures, v0_heavies, v0_places, v0_papers, v0_lowers, v0_uppers, v0_rules, v0_bounds, v0_boundCount, v0_tieWay, v0_reached) p1 p3) ≠ none) : Ct l g yX6_gradeOf cX6_gradeOf 7 (some .int) ({ frames := 1, cells := 0, slots := 0, locals := 21 } : Room) [.ref (a0 0), .long p1, .long p3] (wX6 a0 g v0_raws v0_kinds v0_figures v0_heavies v0_places v0_papers v0_lowers v0_uppers v0_rules v0_bounds v0_boundCount v0_tieWay v0_reached) (Qi g .int (m_X6_gradeOf (v0_raws, v0_kinds, v0_figures, v0_heavies, v0_places, v0_papers, v0_lowers, v0_uppers, v0_rules, v0_bounds, v0_boundCount, v0_tieWay, v0_reached) p1 p3) (fun u => u) (fun u => wX6 a0 g v0_raws v0_kinds v0_figures v0_heavies v0_places v0_papers v0_lowers v0_uppers v0_rules v0_bounds v0_boundCount v0_tieWay v0_reached)) 0 0 := by
  obtain ⟨out, hf⟩ := ne_ex hne
  have hf0 := hf
  refine Ct.of (own := RX6) (by decide +kernel) rfl (Nat.le_of_ble_eq_true rfl) ?_
  intro p e s m below meth c hx hb hr hml hown hts hlocks hin hK A H locs hA hP hD hS hE ls hl
  have hl : lv_has ls 7 [(0, .ref (a0 0)), (1, .long p1), (3, .long p3)] := hl
  unfold m_X6_gradeOf at hf
  refine lv_iconst (v := 0) hx hb dX6_gradeOf_0 (by decide) ?_
  refine lv_istore (lv' := [(5, .int (0 : Int32)), (0, .ref (a0 0)), (1, .long p1), (3, .long p3)]) hx hb dX6_gradeOf_1 hl (by decide) rfl (fun ls hl => ?_)
  refine lv_iconst (v := 0) hx hb dX6_gradeOf_3 (by decide) ?_
  refine lv_istore (lv' := [(6, .int (0 : Int32)), (5, .int (0 : Int32)), (0, .ref (a0 0)), (1, .long p1), (3, .long p3)]) hx hb dX6_gradeOf_4 hl (by decide) rfl (fun ls hl => ?_)
  obtain ⟨r5, er5, hf⟩ := bnd hf
  refine lp_W (P := fun z => ∀ (H : Heap) (locs : List Loc) (ls : Array Slot), va_P g.1 vwCl (wX6 a0 g v0_raws v0_kinds v0_figures v0_heavies v0_places v0_papers v0_lowers v0_uppers v0_rules v0_bounds v0_boundCount v0_tieWay v0_reached) H → va_D A (wX6 a0 g v0_raws v0_kinds v0_figures v0_heavies v0_places v0_papers v0_lowers v0_uppers v0_rules v0_bounds v0_boundCount v0_tieWay v0_reached) → va_S A s.heap H locs → lv_has ls 7 [(0, .ref (a0 0)), (1, .long p1), (3, .long p3), (5, .int z.1), (6, .int z.2)] → W p l e { frames := 1, cells := 0, slots := 0, locals := 21 } s m [.ref (a0 0), .long p1, .long p3].toArray below meth c H locs 0 0 (MQ below (Qi g .int (m_X6_gradeOf (v0_raws, v0_kinds, v0_figures, v0_heavies, v0_places, v0_papers, v0_lowers, v0_uppers, v0_rules, v0_bounds, v0_boundCount, v0_tieWay, v0_reached) p1 p3) (fun u => u) (fun u => wX6 a0 g v0_raws v0_kinds v0_figures v0_heavies v0_places v0_papers v0_lowers v0_uppers v0_rules v0_bounds v0_boundCount v0_tieWay v0_reached) A) [.ref (a0 0), .long p1, .long p3].toArray s 0 0 A) (F0 m 6 ls [])) (E := fun r5 => ∀ (H : Heap) (locs : List Loc) (ls : Array Slot), va_P g.1 vwCl (wX6 a0 g v0_raws v0_kinds v0_figures v0_heavies v0_places v0_papers v0_lowers v0_uppers v0_rules v0_bounds v0_boundCount v0_tieWay v0_reached) H → va_D A (wX6 a0 g v0_raws v0_kinds v0_figures v0_heavies v0_places v0_papers v0_lowers v0_uppers v0_rules v0_bounds v0_boundCount v0_tieWay v0_reached) → va_S A s.heap H locs → lv_has ls 7 [(5, .int r5)] → W p l e { frames := 1, cells := 0, slots := 0, locals := 21 } s m [.ref (a0 0), .long p1, .long p3].toArray below meth c H locs 0 0 (MQ below (Qi g .int (m_X6_gradeOf (v0_raws, v0_kinds, v0_figures, v0_heavies, v0_places, v0_papers, v0_lowers, v0_uppers, v0_rules, v0_bounds, v0_boundCount, v0_tieWay, v0_reached) p1 p3) (fun u => u) (fun u => wX6 a0 g v0_raws v0_kinds v0_figures v0_heavies v0_places v0_papers v0_lowers v0_uppers v0_rules v0_bounds v0_boundCount v0_tieWay v0_reached) A) [.ref (a0 0), .long p1, .long p3].toArray s 0 0 A) (F0 m 41 ls [])) ?_ fu _ r5 er5 ?_ _ _ _ hP hD hS (lv_sub hl [2, 3, 4, 1, 0] rfl)
  · rintro ⟨x2, x3⟩ y hf hB hXt H locs ls hP hD hS hl
    have hP : va_P g.1 vwCl (wX6 a0 g v0_raws v0_kinds v0_figures v0_heavies v0_places v0_papers v0_lowers v0_uppers v0_rules v0_bounds v0_boundCount v0_tieWay v0_reached) H := hP
    have hD : va_D A (wX6 a0 g v0_raws v0_kinds v0_figures v0_heavies v0_places v0_papers v0_lowers v0_uppers v0_rules v0_bounds v0_boundCount v0_tieWay v0_reached) := hD
    have hl : lv_has ls 7 [(0, .ref (a0 0)), (1, .long p1), (3, .long p3), (5, .int x2), (6, .int x3)] := hl
    have hf : m_X6_gradeOf_l6 (v0_raws, v0_kinds, v0_figures, v0_heavies, v0_places, v0_papers, v0_lowers, v0_uppers, v0_rules, v0_bounds, v0_boundCount, v0_tieWay, v0_reached) p1 p3 x2 x3 = some y := hf
    unfold m_X6_gradeOf_l6 at hf
    refine lv_iload hx hb dX6_gradeOf_6 (lv_at hl 4 rfl) ?_
    refine lv_aload_n hx hb dX6_gradeOf_8 rfl (lv_at hl 0 rfl) ?_
    refine va_get (D := g.1) (ci := 7) (v := .int v0_boundCount) (C := RX6) (T := TX6) (N := 13) hx hb hts layX6 hown hK.1 hP 0 rfl rfl 10 (by decide) (hts _ kw59) (fun _ h9 => h9) rfl dX6_gradeOf_9 ?_
    refine lv_icmp_ge (tgt := 41) hx hb dX6_gradeOf_12 (by decide) (fun cb => ?_) (fun cb => ?_)
    · have hf := it_t cb hf
      exact hXt _ (Option.some.inj hf).symm _ _ _ hP hD hS (lv_sub hl [3] rfl)
    have hf := it_f cb hf
    refine lv_aload_n hx hb dX6_gradeOf_15 rfl (lv_at hl 0 rfl) ?_
    refine va_get (D := g.1) (ci := 7) (v := .ref (a0 15)) (C := RX6) (T := TX6) (N := 13) hx hb hts layX6 hown hK.1 hP 0 rfl rfl 9 (by decide) (hts _ kw58) (fun _ h9 => h9) rfl dX6_gradeOf_16 ?_
    refine lv_iload hx hb dX6_gradeOf_19 (lv_at hl 4 rfl) ?_
    refine cIp hP hD hS hA hE (fun hPc hDc hSc => rV (As := [.int x3]) (rest := []) hx hb hml hown hts hK (c_X2_get l g (fun i => a0 (i + 15)) 5 v0_bounds x3 (bnd_ne hf)) svV_X2_get kw417 rfl rfl hPc hDc hSc rfl rfl hl.1 (Nat.le_of_ble_eq_true rfl) dX6_gradeOf_21 ⟨Nat.le_of_ble_eq_true rfl, Nat.le_of_ble_eq_true rfl, rfl, rfl, Nat.le_of_ble_eq_true rfl, Nat.le_of_ble_eq_true rfl⟩) [(15, 2)] rfl rfl rfl (fun x4 H locs ex4 nx4 hP hS => ?_)
    have hf := bnd_of hf ex4
    refine lv_i2l (v := x4.toInt64) hx hb dX6_gradeOf_24 rfl ?_
    refine lv_lload_n hx hb dX6_gradeOf_25 rfl (lv_at hl 2 rfl) ?_
    refine lv_lmul hx hb dX6_gradeOf_26 ?_
    refine lv_lload_n hx hb dX6_gradeOf_27 rfl (lv_at hl 1 rfl) ?_
    refine lc_gt (tgt := 35) hx hb dX6_gradeOf_28 dX6_gradeOf_29 (by decide) (fun cb => ?_) (fun cb => ?_)
    · have hf := it_t cb hf
      refine lv_iinc (v := (x3 + 1)) (lv' := [(6, .int (x3 + 1)), (0, .ref (a0 0)), (1, .long p1), (3, .long p3), (5, .int x2)]) hx hb dX6_gradeOf_35 hl (k := 4) rfl (by rfl) (by decide) rfl (fun ls hl => ?_)
      refine lv_goto (tgt := 6) hx hb dX6_gradeOf_38 (by decide) ?_
      exact hB _ (Option.some.inj hf).symm _ _ _ hP hD hS (lv_sub hl [1, 2, 3, 4, 0] rfl)
    have hf := it_f cb hf
    refine lv_iinc (v := (x2 + 1)) (lv' := [(5, .int (x2 + 1)), (0, .ref (a0 0)), (1, .long p1), (3, .long p3), (6, .int x3)]) hx hb dX6_gradeOf_32 hl (k := 3) rfl (by rfl) (by decide) rfl (fun ls hl => ?_)
    refine lv_iinc (v := (x3 + 1)) (lv' := [(6, .int (x3 + 1)), (5, .int (x2 + 1)), (0, .ref (a0 0)), (1, .long p1), (3, .long p3)]) hx hb dX6_gradeOf_35 hl (k := 4) rfl (by rfl) (by decide) rfl (fun ls hl => ?_)
    refine lv_goto (tgt := 6) hx hb dX6_gradeOf_38 (by decide) ?_
    exact hB _ (Option.some.inj hf).symm _ _ _ hP hD hS (lv_sub hl [2, 3, 4, 1, 0] rfl)
  intro H locs ls hP hD hS hl
  have hP : va_P g.1 vwCl (wX6 a0 g v0_raws v0_kinds v0_figures v0_heavies v0_places v0_papers v0_lowers v0_uppers v0_rules v0_bounds v0_boundCount v0_tieWay v0_reached) H := hP
  have hD : va_D A (wX6 a0 g v0_raws v0_kinds v0_figures v0_heavies v0_places v0_papers v0_lowers v0_uppers v0_rules v0_bounds v0_boundCount v0_tieWay v0_reached) := hD
  have hl : lv_has ls 7 [(5, .int r5)] := hl
  refine lv_iload hx hb dX6_gradeOf_41 (lv_at hl 0 rfl) ?_
  exact retI (v := r5) (u := r5) (val := fun u => u) (W1 := fun u => wX6 a0 g v0_raws v0_kinds v0_figures v0_heavies v0_places v0_papers v0_lowers v0_uppers v0_rules v0_bounds v0_boundCount v0_tieWay v0_reached) hx hb hr hlocks hS hP hD (hf0.trans hf.symm) rfl rfl dX6_gradeOf_43
set_option maxHeartbeats 4000000 in
set_option maxRecDepth 100000 in
theorem c_X6_lowerOf (l : Launch) (g : GG) (a0 : Nat → Nat) (v0_raws : (Nat → Int32)) (v0_kinds : (Nat → Int32)) (v0_figures : (Nat → Int32)) (v0_heavies : (Nat → Int32)) (v0_places : (Nat → Int32)) (v0_papers : Int32) (v0_lowers : (Nat → Int32)) (v0_uppers : (Nat → Int32)) (v0_rules : Int32) (v0_bounds : (Nat → Int32)) (v0_boundCount : Int32) (v0_tieWay : Int32) (v0_reached : (Nat → Int32)) (p1 : Int32) (hne : (m_X6_lowerOf (v0_raws, v0_kinds, v0_figures, v0_heavies, v0_places, v0_papers, v0_lowers, v0_uppers, v0_rules, v0_bounds, v0_boundCount, v0_tieWay, v0_reached) p1) ≠ none) : Ct l g yX6_lowerOf cX6_lowerOf 2 (some .int) ({ frames := 1, cells := 0, slots := 0, locals := 21 } : Room) [.ref (a0 0), .int p1] (wX6 a0 g v0_raws v0_kinds v0_figures v0_heavies v0_places v0_papers v0_lowers v0_uppers v0_rules v0_bounds v0_boundCount v0_tieWay v0_reached) (Qi g .int (m_X6_lowerOf (v0_raws, v0_kinds, v0_figures, v0_heavies, v0_places, v0_papers, v0_lowers, v0_uppers, v0_rules, v0_bounds, v0_boundCount, v0_tieWay, v0_reached) p1) (fun u => u) (fun u => wX6 a0 g v0_raws v0_kinds v0_figures v0_heavies v0_places v0_papers v0_lowers v0_uppers v0_rules v0_bounds v0_boundCount v0_tieWay v0_reached)) 0 0 := by
  obtain ⟨out, hf⟩ := ne_ex hne
  have hf0 := hf
  refine Ct.of (own := RX6) (by decide +kernel) rfl (Nat.le_of_ble_eq_true rfl) ?_
  intro p e s m below meth c hx hb hr hml hown hts hlocks hin hK A H locs hA hP hD hS hE ls hl
  have hl : lv_has ls 2 [(0, .ref (a0 0)), (1, .int p1)] := hl
  unfold m_X6_lowerOf at hf
  refine lv_aload_n hx hb dX6_lowerOf_0 rfl (lv_at hl 0 rfl) ?_
  refine va_get (D := g.1) (ci := 7) (v := .ref (a0 11)) (C := RX6) (T := TX6) (N := 13) hx hb hts layX6 hown hK.1 hP 0 rfl rfl 6 (by decide) (hts _ kw55) (fun _ h9 => h9) rfl dX6_lowerOf_1 ?_
  refine lv_iload_n hx hb dX6_lowerOf_4 rfl (lv_at hl 1 rfl) ?_
  refine cIp hP hD hS hA hE (fun hPc hDc hSc => rV (As := [.int p1]) (rest := []) hx hb hml hown hts hK (c_X2_get l g (fun i => a0 (i + 11)) 12 v0_lowers p1 (bnd_ne hf)) svV_X2_get kw417 rfl rfl hPc hDc hSc rfl rfl hl.1 (Nat.le_of_ble_eq_true rfl) dX6_lowerOf_5 ⟨Nat.le_of_ble_eq_true rfl, Nat.le_of_ble_eq_true rfl, rfl, rfl, Nat.le_of_ble_eq_true rfl, Nat.le_of_ble_eq_true rfl⟩) [(11, 2)] rfl rfl rfl (fun x1 H locs ex1 nx1 hP hS => ?_)
  have hf := bnd_of hf ex1
  exact retI (v := x1) (u := x1) (val := fun u => u) (W1 := fun u => wX6 a0 g v0_raws v0_kinds v0_figures v0_heavies v0_places v0_papers v0_lowers v0_uppers v0_rules v0_bounds v0_boundCount v0_tieWay v0_reached) hx hb hr hlocks hS hP hD (hf0.trans hf.symm) rfl rfl dX6_lowerOf_8
set_option maxHeartbeats 4000000 in
set_option maxRecDepth 100000 in
theorem c_X6_upperOf (l : Launch) (g : GG) (a0 : Nat → Nat) (v0_raws : (Nat → Int32)) (v0_kinds : (Nat → Int32)) (v0_figures : (Nat → Int32)) (v0_heavies : (Nat → Int32)) (v0_places : (Nat → Int32)) (v0_papers : Int32) (v0_lowers : (Nat → Int32)) (v0_uppers : (Nat → Int32)) (v0_rules : Int32) (v0_bounds : (Nat → Int32)) (v0_boundCount : Int32) (v0_tieWay : Int32) (v0_reached : (Nat → Int32)) (p1 : Int32) (hne : (m_X6_upperOf (v0_raws, v0_kinds, v0_figures, v0_heavies, v0_places, v0_papers, v0_lowers, v0_uppers, v0_rules, v0_bounds, v0_boundCount, v0_tieWay, v0_reached) p1) ≠ none) : Ct l g yX6_upperOf cX6_upperOf 2 (some .int) ({ frames := 1, cells := 0, slots := 0, locals := 21 } : Room) [.ref (a0 0), .int p1] (wX6 a0 g v0_raws v0_kinds v0_figures v0_heavies v0_places v0_papers v0_lowers v0_uppers v0_rules v0_bounds v0_boundCount v0_tieWay v0_reached) (Qi g .int (m_X6_upperOf (v0_raws, v0_kinds, v0_figures, v0_heavies, v0_places, v0_papers, v0_lowers, v0_uppers, v0_rules, v0_bounds, v0_boundCount, v0_tieWay, v0_reached) p1) (fun u => u) (fun u => wX6 a0 g v0_raws v0_kinds v0_figures v0_heavies v0_places v0_papers v0_lowers v0_uppers v0_rules v0_bounds v0_boundCount v0_tieWay v0_reached)) 0 0 := by
  obtain ⟨out, hf⟩ := ne_ex hne
  have hf0 := hf
  refine Ct.of (own := RX6) (by decide +kernel) rfl (Nat.le_of_ble_eq_true rfl) ?_
  intro p e s m below meth c hx hb hr hml hown hts hlocks hin hK A H locs hA hP hD hS hE ls hl
  have hl : lv_has ls 2 [(0, .ref (a0 0)), (1, .int p1)] := hl
  unfold m_X6_upperOf at hf
  refine lv_aload_n hx hb dX6_upperOf_0 rfl (lv_at hl 0 rfl) ?_
  refine va_get (D := g.1) (ci := 7) (v := .ref (a0 13)) (C := RX6) (T := TX6) (N := 13) hx hb hts layX6 hown hK.1 hP 0 rfl rfl 7 (by decide) (hts _ kw56) (fun _ h9 => h9) rfl dX6_upperOf_1 ?_
  refine lv_iload_n hx hb dX6_upperOf_4 rfl (lv_at hl 1 rfl) ?_
  refine cIp hP hD hS hA hE (fun hPc hDc hSc => rV (As := [.int p1]) (rest := []) hx hb hml hown hts hK (c_X2_get l g (fun i => a0 (i + 13)) 12 v0_uppers p1 (bnd_ne hf)) svV_X2_get kw417 rfl rfl hPc hDc hSc rfl rfl hl.1 (Nat.le_of_ble_eq_true rfl) dX6_upperOf_5 ⟨Nat.le_of_ble_eq_true rfl, Nat.le_of_ble_eq_true rfl, rfl, rfl, Nat.le_of_ble_eq_true rfl, Nat.le_of_ble_eq_true rfl⟩) [(13, 2)] rfl rfl rfl (fun x1 H locs ex1 nx1 hP hS => ?_)
  have hf := bnd_of hf ex1
  exact retI (v := x1) (u := x1) (val := fun u => u) (W1 := fun u => wX6 a0 g v0_raws v0_kinds v0_figures v0_heavies v0_places v0_papers v0_lowers v0_uppers v0_rules v0_bounds v0_boundCount v0_tieWay v0_reached) hx hb hr hlocks hS hP hD (hf0.trans hf.symm) rfl rfl dX6_upperOf_8
set_option maxHeartbeats 4000000 in
set_option maxRecDepth 100000 in
theorem c_X6_isBroken (l : Launch) (g : GG) (a0 : Nat → Nat) (v0_raws : (Nat → Int32)) (v0_kinds : (Nat → Int32)) (v0_figures : (Nat → Int32)) (v0_heavies : (Nat → Int32)) (v0_places : (Nat → Int32)) (v0_papers : Int32) (v0_lowers : (Nat → Int32)) (v0_uppers : (Nat → Int32)) (v0_rules : Int32) (v0_bounds : (Nat → Int32)) (v0_boundCount : Int32) (v0_tieWay : Int32) (v0_reached : (Nat → Int32)) (p1 : Int32) (hne : (m_X6_isBroken (v0_raws, v0_kinds, v0_figures, v0_heavies, v0_places, v0_papers, v0_lowers, v0_uppers, v0_rules, v0_bounds, v0_boundCount, v0_tieWay, v0_reached) p1) ≠ none) : Ct l g yX6_isBroken cX6_isBroken 2 (some .boolean) ({ frames := 3, cells := 0, slots := 0, locals := 66 } : Room) [.ref (a0 0), .int p1] (wX6 a0 g v0_raws v0_kinds v0_figures v0_heavies v0_places v0_papers v0_lowers v0_uppers v0_rules v0_bounds v0_boundCount v0_tieWay v0_reached) (Qi g .boolean (m_X6_isBroken (v0_raws, v0_kinds, v0_figures, v0_heavies, v0_places, v0_papers, v0_lowers, v0_uppers, v0_rules, v0_bounds, v0_boundCount, v0_tieWay, v0_reached) p1) (fun u => u) (fun u => wX6 a0 g v0_raws v0_kinds v0_figures v0_heavies v0_places v0_papers v0_lowers v0_uppers v0_rules v0_bounds v0_boundCount v0_tieWay v0_reached)) 0 0 := by
  obtain ⟨out, hf⟩ := ne_ex hne
  have hf0 := hf
  refine Ct.of (own := RX6) (by decide +kernel) rfl (Nat.le_of_ble_eq_true rfl) ?_
  intro p e s m below meth c hx hb hr hml hown hts hlocks hin hK A H locs hA hP hD hS hE ls hl
  have hl : lv_has ls 2 [(0, .ref (a0 0)), (1, .int p1)] := hl
  unfold m_X6_isBroken at hf
  refine lv_aload_n hx hb dX6_isBroken_0 rfl (lv_at hl 0 rfl) ?_
  refine lv_aload_n hx hb dX6_isBroken_1 rfl (lv_at hl 0 rfl) ?_
  refine va_get (D := g.1) (ci := 7) (v := .ref (a0 11)) (C := RX6) (T := TX6) (N := 13) hx hb hts layX6 hown hK.1 hP 0 rfl rfl 6 (by decide) (hts _ kw55) (fun _ h9 => h9) rfl dX6_isBroken_2 ?_
  refine lv_iload_n hx hb dX6_isBroken_5 rfl (lv_at hl 1 rfl) ?_
  refine cIp hP hD hS hA hE (fun hPc hDc hSc => rV (As := [.int p1]) (rest := [.ref (a0 0)]) hx hb hml hown hts hK (c_X2_get l g (fun i => a0 (i + 11)) 12 v0_lowers p1 (bnd_ne hf)) svV_X2_get kw417 rfl rfl hPc hDc hSc rfl rfl hl.1 (Nat.le_of_ble_eq_true rfl) dX6_isBroken_6 ⟨Nat.le_of_ble_eq_true rfl, Nat.le_of_ble_eq_true rfl, rfl, rfl, Nat.le_of_ble_eq_true rfl, Nat.le_of_ble_eq_true rfl⟩) [(11, 2)] rfl rfl rfl (fun x1 H locs ex1 nx1 hP hS => ?_)
  have hf := bnd_of hf ex1
  refine cIp hP hD hS hA hE (fun hPc hDc hSc => rV (As := [.int x1]) (rest := []) hx hb hml hown hts hK (c_X6_markOf l g a0 v0_raws v0_kinds v0_figures v0_heavies v0_places v0_papers v0_lowers v0_uppers v0_rules v0_bounds v0_boundCount v0_tieWay v0_reached x1 (bnd_ne hf)) svV_X6_markOf kw596 rfl rfl hPc hDc hSc rfl rfl hl.1 (Nat.le_of_ble_eq_true rfl) dX6_isBroken_9 ⟨Nat.le_of_ble_eq_true rfl, Nat.le_of_ble_eq_true rfl, rfl, rfl, Nat.le_of_ble_eq_true rfl, Nat.le_of_ble_eq_true rfl⟩) [(0, 19)] rfl rfl rfl (fun x2 H locs ex2 nx2 hP hS => ?_)
  have hf := bnd_of hf ex2
  refine lv_aload_n hx hb dX6_isBroken_12 rfl (lv_at hl 0 rfl) ?_
  refine lv_aload_n hx hb dX6_isBroken_13 rfl (lv_at hl 0 rfl) ?_
  refine va_get (D := g.1) (ci := 7) (v := .ref (a0 13)) (C := RX6) (T := TX6) (N := 13) hx hb hts layX6 hown hK.1 hP 0 rfl rfl 7 (by decide) (hts _ kw56) (fun _ h9 => h9) rfl dX6_isBroken_14 ?_
  refine lv_iload_n hx hb dX6_isBroken_17 rfl (lv_at hl 1 rfl) ?_
  refine cIp hP hD hS hA hE (fun hPc hDc hSc => rV (As := [.int p1]) (rest := [.ref (a0 0), .int x2]) hx hb hml hown hts hK (c_X2_get l g (fun i => a0 (i + 13)) 12 v0_uppers p1 (bnd_ne hf)) svV_X2_get kw417 rfl rfl hPc hDc hSc rfl rfl hl.1 (Nat.le_of_ble_eq_true rfl) dX6_isBroken_18 ⟨Nat.le_of_ble_eq_true rfl, Nat.le_of_ble_eq_true rfl, rfl, rfl, Nat.le_of_ble_eq_true rfl, Nat.le_of_ble_eq_true rfl⟩) [(13, 2)] rfl rfl rfl (fun x3 H locs ex3 nx3 hP hS => ?_)
  have hf := bnd_of hf ex3
  refine cIp hP hD hS hA hE (fun hPc hDc hSc => rV (As := [.int x3]) (rest := [.int x2]) hx hb hml hown hts hK (c_X6_markOf l g a0 v0_raws v0_kinds v0_figures v0_heavies v0_places v0_papers v0_lowers v0_uppers v0_rules v0_bounds v0_boundCount v0_tieWay v0_reached x3 (bnd_ne hf)) svV_X6_markOf kw596 rfl rfl hPc hDc hSc rfl rfl hl.1 (Nat.le_of_ble_eq_true rfl) dX6_isBroken_21 ⟨Nat.le_of_ble_eq_true rfl, Nat.le_of_ble_eq_true rfl, rfl, rfl, Nat.le_of_ble_eq_true rfl, Nat.le_of_ble_eq_true rfl⟩) [(0, 19)] rfl rfl rfl (fun x4 H locs ex4 nx4 hP hS => ?_)
  have hf := bnd_of hf ex4
  refine lv_icmp_le (tgt := 31) hx hb dX6_isBroken_24 (by decide) (fun cb => ?_) (fun cb => ?_)
  · have hf := it_t cb hf
    refine lv_iconst (v := 0) hx hb dX6_isBroken_31 (by decide) ?_
    exact retI (v := (0 : Int32)) (u := (0 : Int32)) (val := fun u => u) (W1 := fun u => wX6 a0 g v0_raws v0_kinds v0_figures v0_heavies v0_places v0_papers v0_lowers v0_uppers v0_rules v0_bounds v0_boundCount v0_tieWay v0_reached) hx hb hr hlocks hS hP hD (hf0.trans hf.symm) rfl rfl dX6_isBroken_32
  have hf := it_f cb hf
  refine lv_iconst (v := 1) hx hb dX6_isBroken_27 (by decide) ?_
  refine lv_goto (tgt := 32) hx hb dX6_isBroken_28 (by decide) ?_
  exact retI (v := (1 : Int32)) (u := (1 : Int32)) (val := fun u => u) (W1 := fun u => wX6 a0 g v0_raws v0_kinds v0_figures v0_heavies v0_places v0_papers v0_lowers v0_uppers v0_rules v0_bounds v0_boundCount v0_tieWay v0_reached) hx hb hr hlocks hS hP hD (hf0.trans hf.symm) rfl rfl dX6_isBroken_32
set_option maxHeartbeats 4000000 in
set_option maxRecDepth 100000 in
theorem c_X6_brokenRules (l : Launch) (g : GG) (a0 : Nat → Nat) (v0_raws : (Nat → Int32)) (v0_kinds : (Nat → Int32)) (v0_figures : (Nat → Int32)) (v0_heavies : (Nat → Int32)) (v0_places : (Nat → Int32)) (v0_papers : Int32) (v0_lowers : (Nat → Int32)) (v0_uppers : (Nat → Int32)) (v0_rules : Int32) (v0_bounds : (Nat → Int32)) (v0_boundCount : Int32) (v0_tieWay : Int32) (v0_reached : (Nat → Int32)) (hne : (m_X6_brokenRules (v0_raws, v0_kinds, v0_figures, v0_heavies, v0_places, v0_papers, v0_lowers, v0_uppers, v0_rules, v0_bounds, v0_boundCount, v0_tieWay, v0_reached)) ≠ none) : Ct l g yX6_brokenRules cX6_brokenRules 3 (some .int) ({ frames := 4, cells := 0, slots := 0, locals := 87 } : Room) [.ref (a0 0)] (wX6 a0 g v0_raws v0_kinds v0_figures v0_heavies v0_places v0_papers v0_lowers v0_uppers v0_rules v0_bounds v0_boundCount v0_tieWay v0_reached) (Qi g .int (m_X6_brokenRules (v0_raws, v0_kinds, v0_figures, v0_heavies, v0_places, v0_papers, v0_lowers, v0_uppers, v0_rules, v0_bounds, v0_boundCount, v0_tieWay, v0_reached)) (fun u => u) (fun u => wX6 a0 g v0_raws v0_kinds v0_figures v0_heavies v0_places v0_papers v0_lowers v0_uppers v0_rules v0_bounds v0_boundCount v0_tieWay v0_reached)) 0 0 := by
  obtain ⟨out, hf⟩ := ne_ex hne
  have hf0 := hf
  refine Ct.of (own := RX6) (by decide +kernel) rfl (Nat.le_of_ble_eq_true rfl) ?_
  intro p e s m below meth c hx hb hr hml hown hts hlocks hin hK A H locs hA hP hD hS hE ls hl
  have hl : lv_has ls 3 [(0, .ref (a0 0))] := hl
  unfold m_X6_brokenRules at hf
  refine lv_iconst (v := 0) hx hb dX6_brokenRules_0 (by decide) ?_
  refine lv_istore_n (lv' := [(1, .int (0 : Int32)), (0, .ref (a0 0))]) hx hb dX6_brokenRules_1 rfl hl (by decide) rfl (fun ls hl => ?_)
  refine lv_iconst (v := 0) hx hb dX6_brokenRules_2 (by decide) ?_
  refine lv_istore_n (lv' := [(2, .int (0 : Int32)), (1, .int (0 : Int32)), (0, .ref (a0 0))]) hx hb dX6_brokenRules_3 rfl hl (by decide) rfl (fun ls hl => ?_)
  obtain ⟨r6, er6, hf⟩ := bnd hf
  refine lp_W (P := fun z => ∀ (H : Heap) (locs : List Loc) (ls : Array Slot), va_P g.1 vwCl (wX6 a0 g v0_raws v0_kinds v0_figures v0_heavies v0_places v0_papers v0_lowers v0_uppers v0_rules v0_bounds v0_boundCount v0_tieWay v0_reached) H → va_D A (wX6 a0 g v0_raws v0_kinds v0_figures v0_heavies v0_places v0_papers v0_lowers v0_uppers v0_rules v0_bounds v0_boundCount v0_tieWay v0_reached) → va_S A s.heap H locs → lv_has ls 3 [(0, .ref (a0 0)), (1, .int z.1), (2, .int z.2)] → W p l e { frames := 4, cells := 0, slots := 0, locals := 87 } s m [.ref (a0 0)].toArray below meth c H locs 0 0 (MQ below (Qi g .int (m_X6_brokenRules (v0_raws, v0_kinds, v0_figures, v0_heavies, v0_places, v0_papers, v0_lowers, v0_uppers, v0_rules, v0_bounds, v0_boundCount, v0_tieWay, v0_reached)) (fun u => u) (fun u => wX6 a0 g v0_raws v0_kinds v0_figures v0_heavies v0_places v0_papers v0_lowers v0_uppers v0_rules v0_bounds v0_boundCount v0_tieWay v0_reached) A) [.ref (a0 0)].toArray s 0 0 A) (F0 m 4 ls [])) (E := fun r6 => ∀ (H : Heap) (locs : List Loc) (ls : Array Slot), va_P g.1 vwCl (wX6 a0 g v0_raws v0_kinds v0_figures v0_heavies v0_places v0_papers v0_lowers v0_uppers v0_rules v0_bounds v0_boundCount v0_tieWay v0_reached) H → va_D A (wX6 a0 g v0_raws v0_kinds v0_figures v0_heavies v0_places v0_papers v0_lowers v0_uppers v0_rules v0_bounds v0_boundCount v0_tieWay v0_reached) → va_S A s.heap H locs → lv_has ls 3 [(1, .int r6)] → W p l e { frames := 4, cells := 0, slots := 0, locals := 87 } s m [.ref (a0 0)].toArray below meth c H locs 0 0 (MQ below (Qi g .int (m_X6_brokenRules (v0_raws, v0_kinds, v0_figures, v0_heavies, v0_places, v0_papers, v0_lowers, v0_uppers, v0_rules, v0_bounds, v0_boundCount, v0_tieWay, v0_reached)) (fun u => u) (fun u => wX6 a0 g v0_raws v0_kinds v0_figures v0_heavies v0_places v0_papers v0_lowers v0_uppers v0_rules v0_bounds v0_boundCount v0_tieWay v0_reached) A) [.ref (a0 0)].toArray s 0 0 A) (F0 m 32 ls [])) ?_ fu _ r6 er6 ?_ _ _ _ hP hD hS (lv_sub hl [2, 1, 0] rfl)
  · rintro ⟨x3, x4⟩ y hf hB hXt H locs ls hP hD hS hl
    have hP : va_P g.1 vwCl (wX6 a0 g v0_raws v0_kinds v0_figures v0_heavies v0_places v0_papers v0_lowers v0_uppers v0_rules v0_bounds v0_boundCount v0_tieWay v0_reached) H := hP
    have hD : va_D A (wX6 a0 g v0_raws v0_kinds v0_figures v0_heavies v0_places v0_papers v0_lowers v0_uppers v0_rules v0_bounds v0_boundCount v0_tieWay v0_reached) := hD
    have hl : lv_has ls 3 [(0, .ref (a0 0)), (1, .int x3), (2, .int x4)] := hl
    have hf : m_X6_brokenRules_l4 (v0_raws, v0_kinds, v0_figures, v0_heavies, v0_places, v0_papers, v0_lowers, v0_uppers, v0_rules, v0_bounds, v0_boundCount, v0_tieWay, v0_reached) x3 x4 = some y := hf
    unfold m_X6_brokenRules_l4 at hf
    refine lv_iload_n hx hb dX6_brokenRules_4 rfl (lv_at hl 2 rfl) ?_
    refine lv_aload_n hx hb dX6_brokenRules_5 rfl (lv_at hl 0 rfl) ?_
    refine va_get (D := g.1) (ci := 7) (v := .int v0_rules) (C := RX6) (T := TX6) (N := 13) hx hb hts layX6 hown hK.1 hP 0 rfl rfl 8 (by decide) (hts _ kw57) (fun _ h9 => h9) rfl dX6_brokenRules_6 ?_
    refine lv_icmp_ge (tgt := 32) hx hb dX6_brokenRules_9 (by decide) (fun cb => ?_) (fun cb => ?_)
    · have hf := it_t cb hf
      exact hXt _ (Option.some.inj hf).symm _ _ _ hP hD hS (lv_sub hl [1] rfl)
    have hf := it_f cb hf
    refine lv_aload_n hx hb dX6_brokenRules_12 rfl (lv_at hl 0 rfl) ?_
    refine lv_iload_n hx hb dX6_brokenRules_13 rfl (lv_at hl 2 rfl) ?_
    refine cIp hP hD hS hA hE (fun hPc hDc hSc => rV (As := [.int x4]) (rest := []) hx hb hml hown hts hK (c_X6_isBroken l g a0 v0_raws v0_kinds v0_figures v0_heavies v0_places v0_papers v0_lowers v0_uppers v0_rules v0_bounds v0_boundCount v0_tieWay v0_reached x4 (bnd_ne hf)) svV_X6_isBroken kw1270 rfl rfl hPc hDc hSc rfl rfl hl.1 (Nat.le_of_ble_eq_true rfl) dX6_brokenRules_14 ⟨Nat.le_of_ble_eq_true rfl, Nat.le_of_ble_eq_true rfl, rfl, rfl, Nat.le_of_ble_eq_true rfl, Nat.le_of_ble_eq_true rfl⟩) [(0, 19)] rfl rfl rfl (fun x5 H locs ex5 nx5 hP hS => ?_)
    have hf := bnd_of hf ex5
    refine lv_if_eq (tgt := 26) hx hb dX6_brokenRules_17 (by decide) (fun cb => ?_) (fun cb => ?_)
    · have hf := it_t cb hf
      refine lv_iinc (v := (x4 + 1)) (lv' := [(2, .int (x4 + 1)), (0, .ref (a0 0)), (1, .int x3)]) hx hb dX6_brokenRules_26 hl (k := 2) rfl (by rfl) (by decide) rfl (fun ls hl => ?_)
      refine lv_goto (tgt := 4) hx hb dX6_brokenRules_29 (by decide) ?_
      exact hB _ (Option.some.inj hf).symm _ _ _ hP hD hS (lv_sub hl [1, 2, 0] rfl)
    have hf := it_f cb hf
    refine lv_iload_n hx hb dX6_brokenRules_20 rfl (lv_at hl 1 rfl) ?_
    refine lv_iconst (v := 1) hx hb dX6_brokenRules_21 (by decide) ?_
    refine lv_iload_n hx hb dX6_brokenRules_22 rfl (lv_at hl 2 rfl) ?_
    refine lv_ishl hx hb dX6_brokenRules_23 ?_
    refine lv_ior hx hb dX6_brokenRules_24 ?_
    refine lv_istore_n (lv' := [(1, .int (x3 ||| ((1 : Int32) <<< (x4 &&& 31)))), (0, .ref (a0 0)), (2, .int x4)]) hx hb dX6_brokenRules_25 rfl hl (by decide) rfl (fun ls hl => ?_)
    refine lv_iinc (v := (x4 + 1)) (lv' := [(2, .int (x4 + 1)), (1, .int (x3 ||| ((1 : Int32) <<< (x4 &&& 31)))), (0, .ref (a0 0))]) hx hb dX6_brokenRules_26 hl (k := 2) rfl (by rfl) (by decide) rfl (fun ls hl => ?_)
    refine lv_goto (tgt := 4) hx hb dX6_brokenRules_29 (by decide) ?_
    exact hB _ (Option.some.inj hf).symm _ _ _ hP hD hS (lv_sub hl [2, 1, 0] rfl)
  intro H locs ls hP hD hS hl
  have hP : va_P g.1 vwCl (wX6 a0 g v0_raws v0_kinds v0_figures v0_heavies v0_places v0_papers v0_lowers v0_uppers v0_rules v0_bounds v0_boundCount v0_tieWay v0_reached) H := hP
  have hD : va_D A (wX6 a0 g v0_raws v0_kinds v0_figures v0_heavies v0_places v0_papers v0_lowers v0_uppers v0_rules v0_bounds v0_boundCount v0_tieWay v0_reached) := hD
  have hl : lv_has ls 3 [(1, .int r6)] := hl
  refine lv_iload_n hx hb dX6_brokenRules_32 rfl (lv_at hl 0 rfl) ?_
  exact retI (v := r6) (u := r6) (val := fun u => u) (W1 := fun u => wX6 a0 g v0_raws v0_kinds v0_figures v0_heavies v0_places v0_papers v0_lowers v0_uppers v0_rules v0_bounds v0_boundCount v0_tieWay v0_reached) hx hb hr hlocks hS hP hD (hf0.trans hf.symm) rfl rfl dX6_brokenRules_33
set_option maxHeartbeats 4000000 in
set_option maxRecDepth 100000 in
theorem c_X9_hasBit (l : Launch) (g : GG) (p0 : Int32) (p1 : Int32) (hne : (m_X9_hasBit p0 p1) ≠ none) : Ct l g yX9_hasBit cX9_hasBit 2 (some .boolean) ({ frames := 0, cells := 0, slots := 0, locals := 0 } : Room) [.int p0, .int p1] (([] : va_W)) (Qi g .boolean (m_X9_hasBit p0 p1) (fun u => u) (fun u => ([] : va_W))) 0 0 := by
  obtain ⟨out, hf⟩ := ne_ex hne
  have hf0 := hf
  refine Ct.of (own := RX9) (by decide +kernel) rfl (Nat.le_of_ble_eq_true rfl) ?_
  intro p e s m below meth c hx hb hr hml hown hts hlocks hin hK A H locs hA hP hD hS hE ls hl
  have hl : lv_has ls 2 [(0, .int p0), (1, .int p1)] := hl
  unfold m_X9_hasBit at hf
  refine lv_iload_n hx hb dX9_hasBit_0 rfl (lv_at hl 0 rfl) ?_
  refine lv_iload_n hx hb dX9_hasBit_1 rfl (lv_at hl 1 rfl) ?_
  refine lv_ishr hx hb dX9_hasBit_2 ?_
  refine lv_iconst (v := 1) hx hb dX9_hasBit_3 (by decide) ?_
  refine lv_iand hx hb dX9_hasBit_4 ?_
  refine lv_iconst (v := 1) hx hb dX9_hasBit_5 (by decide) ?_
  refine lv_icmp_ne (tgt := 13) hx hb dX9_hasBit_6 (by decide) (fun cb => ?_) (fun cb => ?_)
  · have hf := it_f cb hf
    refine lv_iconst (v := 0) hx hb dX9_hasBit_13 (by decide) ?_
    exact retI (v := (0 : Int32)) (u := (0 : Int32)) (val := fun u => u) (W1 := fun u => ([] : va_W)) hx hb hr hlocks hS hP hD (hf0.trans hf.symm) rfl rfl dX9_hasBit_14
  have hf := it_t cb hf
  refine lv_iconst (v := 1) hx hb dX9_hasBit_9 (by decide) ?_
  refine lv_goto (tgt := 14) hx hb dX9_hasBit_10 (by decide) ?_
  exact retI (v := (1 : Int32)) (u := (1 : Int32)) (val := fun u => u) (W1 := fun u => ([] : va_W)) hx hb hr hlocks hS hP hD (hf0.trans hf.symm) rfl rfl dX9_hasBit_14
set_option maxHeartbeats 4000000 in
set_option maxRecDepth 100000 in
theorem c_X6_trace_0_0_17 (l : Launch) (g : GG) (a0 : Nat → Nat) (v0_raws : (Nat → Int32)) (v0_kinds : (Nat → Int32)) (v0_figures : (Nat → Int32)) (v0_heavies : (Nat → Int32)) (v0_places : (Nat → Int32)) (v0_papers : Int32) (v0_lowers : (Nat → Int32)) (v0_uppers : (Nat → Int32)) (v0_rules : Int32) (v0_bounds : (Nat → Int32)) (v0_boundCount : Int32) (v0_tieWay : Int32) (v0_reached : (Nat → Int32)) (p2 : Int32) (hne : (m_X6_trace_0_0_17 (v0_raws, v0_kinds, v0_figures, v0_heavies, v0_places, v0_papers, v0_lowers, v0_uppers, v0_rules, v0_bounds, v0_boundCount, v0_tieWay, v0_reached) p2) ≠ none) : Ct l g yX6_trace cX6_trace 9 none ({ frames := 1, cells := 0, slots := 0, locals := 22 } : Room) [.ref (a0 0), .ref (a0 17), .int p2] (wX6 a0 g v0_raws v0_kinds v0_figures v0_heavies v0_places v0_papers v0_lowers v0_uppers v0_rules v0_bounds v0_boundCount v0_tieWay v0_reached) (Qv g (m_X6_trace_0_0_17 (v0_raws, v0_kinds, v0_figures, v0_heavies, v0_places, v0_papers, v0_lowers, v0_uppers, v0_rules, v0_bounds, v0_boundCount, v0_tieWay, v0_reached) p2) (fun u => wX6 a0 g v0_raws v0_kinds v0_figures v0_heavies v0_places v0_papers v0_lowers v0_uppers v0_rules v0_bounds v0_boundCount v0_tieWay u)) 0 0 := by
  obtain ⟨out, hf⟩ := ne_ex hne
  have hf0 := hf
  refine Ct.of (own := RX6) (by decide +kernel) rfl (Nat.le_of_ble_eq_true rfl) ?_
  intro p e s m below meth c hx hb hr hml hown hts hlocks hin hK A H locs hA hP hD hS hE ls hl
  have hl : lv_has ls 9 [(0, .ref (a0 0)), (1, .ref (a0 17)), (2, .int p2)] := hl
  unfold m_X6_trace_0_0_17 at hf
  refine lv_iconst (v := 0) hx hb dX6_trace_0 (by decide) ?_
  refine lv_istore_n (lv' := [(3, .int (0 : Int32)), (0, .ref (a0 0)), (1, .ref (a0 17)), (2, .int p2)]) hx hb dX6_trace_1 rfl hl (by decide) rfl (fun ls hl => ?_)
  obtain ⟨r5, er5, hf⟩ := bnd hf
  refine lp_W (P := fun z => ∀ (H : Heap) (locs : List Loc) (ls : Array Slot), va_P g.1 vwCl (wX6 a0 g v0_raws v0_kinds v0_figures v0_heavies v0_places v0_papers v0_lowers v0_uppers v0_rules v0_bounds v0_boundCount v0_tieWay z.2) H → va_D A (wX6 a0 g v0_raws v0_kinds v0_figures v0_heavies v0_places v0_papers v0_lowers v0_uppers v0_rules v0_bounds v0_boundCount v0_tieWay z.2) → va_S A s.heap H locs → lv_has ls 9 [(0, .ref (a0 0)), (1, .ref (a0 17)), (2, .int p2), (3, .int z.1)] → W p l e { frames := 1, cells := 0, slots := 0, locals := 22 } s m [.ref (a0 0), .ref (a0 17), .int p2].toArray below meth c H locs 0 0 (MQ below (Qv g (m_X6_trace_0_0_17 (v0_raws, v0_kinds, v0_figures, v0_heavies, v0_places, v0_papers, v0_lowers, v0_uppers, v0_rules, v0_bounds, v0_boundCount, v0_tieWay, v0_reached) p2) (fun u => wX6 a0 g v0_raws v0_kinds v0_figures v0_heavies v0_places v0_papers v0_lowers v0_uppers v0_rules v0_bounds v0_boundCount v0_tieWay u) A) [.ref (a0 0), .ref (a0 17), .int p2].toArray s 0 0 A) (F0 m 2 ls [])) (E := fun r5 => ∀ (H : Heap) (locs : List Loc) (ls : Array Slot), va_P g.1 vwCl (wX6 a0 g v0_raws v0_kinds v0_figures v0_heavies v0_places v0_papers v0_lowers v0_uppers v0_rules v0_bounds v0_boundCount v0_tieWay r5) H → va_D A (wX6 a0 g v0_raws v0_kinds v0_figures v0_heavies v0_places v0_papers v0_lowers v0_uppers v0_rules v0_bounds v0_boundCount v0_tieWay r5) → va_S A s.heap H locs → lv_has ls 9 [(0, .ref (a0 0)), (1, .ref (a0 17)), (2, .int p2)] → W p l e { frames := 1, cells := 0, slots := 0, locals := 22 } s m [.ref (a0 0), .ref (a0 17), .int p2].toArray below meth c H locs 0 0 (MQ below (Qv g (m_X6_trace_0_0_17 (v0_raws, v0_kinds, v0_figures, v0_heavies, v0_places, v0_papers, v0_lowers, v0_uppers, v0_rules, v0_bounds, v0_boundCount, v0_tieWay, v0_reached) p2) (fun u => wX6 a0 g v0_raws v0_kinds v0_figures v0_heavies v0_places v0_papers v0_lowers v0_uppers v0_rules v0_bounds v0_boundCount v0_tieWay u) A) [.ref (a0 0), .ref (a0 17), .int p2].toArray s 0 0 A) (F0 m 22 ls [])) ?_ fu _ r5 er5 ?_ _ _ _ hP hD hS (lv_sub hl [1, 2, 3, 0] rfl)
  · rintro ⟨x2, x3⟩ y hf hB hXt H locs ls hP hD hS hl
    have hP : va_P g.1 vwCl (wX6 a0 g v0_raws v0_kinds v0_figures v0_heavies v0_places v0_papers v0_lowers v0_uppers v0_rules v0_bounds v0_boundCount v0_tieWay x3) H := hP
    have hD : va_D A (wX6 a0 g v0_raws v0_kinds v0_figures v0_heavies v0_places v0_papers v0_lowers v0_uppers v0_rules v0_bounds v0_boundCount v0_tieWay x3) := hD
    have hl : lv_has ls 9 [(0, .ref (a0 0)), (1, .ref (a0 17)), (2, .int p2), (3, .int x2)] := hl
    have hf : m_X6_trace_0_0_17_l2 (v0_raws, v0_kinds, v0_figures, v0_heavies, v0_places, v0_papers, v0_lowers, v0_uppers, v0_rules, v0_bounds, v0_boundCount, v0_tieWay, v0_reached) x2 x3 = some y := hf
    unfold m_X6_trace_0_0_17_l2 at hf
    refine lv_iload_n hx hb dX6_trace_2 rfl (lv_at hl 3 rfl) ?_
    refine lv_aload_n hx hb dX6_trace_3 rfl (lv_at hl 0 rfl) ?_
    refine va_get (D := g.1) (ci := 7) (v := .int v0_papers) (C := RX6) (T := TX6) (N := 13) hx hb hts layX6 hown hK.1 hP 0 rfl rfl 5 (by decide) (hts _ kw54) (fun _ h9 => h9) rfl dX6_trace_4 ?_
    refine lv_icmp_ge (tgt := 22) hx hb dX6_trace_7 (by decide) (fun cb => ?_) (fun cb => ?_)
    · have hf := it_t cb hf
      exact hXt _ (Option.some.inj hf).symm _ _ _ hP hD hS (lv_sub hl [0, 1, 2] rfl)
    have hf := it_f cb hf
    refine lv_aload_n hx hb dX6_trace_10 rfl (lv_at hl 1 rfl) ?_
    refine lv_iload_n hx hb dX6_trace_11 rfl (lv_at hl 3 rfl) ?_
    refine lv_iconst (v := 0) hx hb dX6_trace_12 (by decide) ?_
    refine cV hP hD hS hA hE (fun hPc hDc hSc => rV (As := [.int x2, .int (0 : Int32)]) (rest := []) hx hb hml hown hts hK (c_X2_set l g (fun i => a0 (i + 17)) 7 x3 x2 (0 : Int32) (bnd_ne hf)) svV_X2_set kw408 rfl rfl hPc hDc hSc rfl rfl hl.1 (Nat.le_of_ble_eq_true rfl) dX6_trace_13 ⟨Nat.le_of_ble_eq_true rfl, Nat.le_of_ble_eq_true rfl, rfl, rfl, Nat.le_of_ble_eq_true rfl, Nat.le_of_ble_eq_true rfl⟩) [(17, 2)] rfl rfl rfl (fun _ => rfl) (fun x4 H locs ex4 hP hD hS => ?_)
    have hf := bnd_of hf ex4
    have hP : va_P g.1 vwCl (wX6 a0 g v0_raws v0_kinds v0_figures v0_heavies v0_places v0_papers v0_lowers v0_uppers v0_rules v0_bounds v0_boundCount v0_tieWay x4) H := hP
    have hD : va_D A (wX6 a0 g v0_raws v0_kinds v0_figures v0_heavies v0_places v0_papers v0_lowers v0_uppers v0_rules v0_bounds v0_boundCount v0_tieWay x4) := hD
    refine lv_iinc (v := (x2 + 1)) (lv' := [(3, .int (x2 + 1)), (0, .ref (a0 0)), (1, .ref (a0 17)), (2, .int p2)]) hx hb dX6_trace_16 hl (k := 3) rfl (by rfl) (by decide) rfl (fun ls hl => ?_)
    refine lv_goto (tgt := 2) hx hb dX6_trace_19 (by decide) ?_
    exact hB _ (Option.some.inj hf).symm _ _ _ hP hD hS (lv_sub hl [1, 2, 3, 0] rfl)
  intro H locs ls hP hD hS hl
  have hP : va_P g.1 vwCl (wX6 a0 g v0_raws v0_kinds v0_figures v0_heavies v0_places v0_papers v0_lowers v0_uppers v0_rules v0_bounds v0_boundCount v0_tieWay r5) H := hP
  have hD : va_D A (wX6 a0 g v0_raws v0_kinds v0_figures v0_heavies v0_places v0_papers v0_lowers v0_uppers v0_rules v0_bounds v0_boundCount v0_tieWay r5) := hD
  have hl : lv_has ls 9 [(0, .ref (a0 0)), (1, .ref (a0 17)), (2, .int p2)] := hl
  refine lv_iconst (v := 1) hx hb dX6_trace_22 (by decide) ?_
  refine lv_istore_n (lv' := [(3, .int (1 : Int32)), (0, .ref (a0 0)), (1, .ref (a0 17)), (2, .int p2)]) hx hb dX6_trace_23 rfl hl (by decide) rfl (fun ls hl => ?_)
  refine lv_iconst (v := 0) hx hb dX6_trace_24 (by decide) ?_
  refine lv_istore (lv' := [(4, .int (0 : Int32)), (3, .int (1 : Int32)), (0, .ref (a0 0)), (1, .ref (a0 17)), (2, .int p2)]) hx hb dX6_trace_25 hl (by decide) rfl (fun ls hl => ?_)
  obtain ⟨r49, er49, hf⟩ := bnd hf
  refine lp_W (P := fun z => ∀ (H : Heap) (locs : List Loc) (ls : Array Slot), va_P g.1 vwCl (wX6 a0 g v0_raws v0_kinds v0_figures v0_heavies v0_places v0_papers v0_lowers v0_uppers v0_rules v0_bounds v0_boundCount v0_tieWay z.2.2) H → va_D A (wX6 a0 g v0_raws v0_kinds v0_figures v0_heavies v0_places v0_papers v0_lowers v0_uppers v0_rules v0_bounds v0_boundCount v0_tieWay z.2.2) → va_S A s.heap H locs → lv_has ls 9 [(0, .ref (a0 0)), (1, .ref (a0 17)), (2, .int p2), (3, .int z.1), (4, .int z.2.1)] → W p l e { frames := 1, cells := 0, slots := 0, locals := 22 } s m [.ref (a0 0), .ref (a0 17), .int p2].toArray below meth c H locs 0 0 (MQ below (Qv g (m_X6_trace_0_0_17 (v0_raws, v0_kinds, v0_figures, v0_heavies, v0_places, v0_papers, v0_lowers, v0_uppers, v0_rules, v0_bounds, v0_boundCount, v0_tieWay, v0_reached) p2) (fun u => wX6 a0 g v0_raws v0_kinds v0_figures v0_heavies v0_places v0_papers v0_lowers v0_uppers v0_rules v0_bounds v0_boundCount v0_tieWay u) A) [.ref (a0 0), .ref (a0 17), .int p2].toArray s 0 0 A) (F0 m 27 ls [])) (E := fun r49 => ∀ (H : Heap) (locs : List Loc) (ls : Array Slot), va_P g.1 vwCl (wX6 a0 g v0_raws v0_kinds v0_figures v0_heavies v0_places v0_papers v0_lowers v0_uppers v0_rules v0_bounds v0_boundCount v0_tieWay r49) H → va_D A (wX6 a0 g v0_raws v0_kinds v0_figures v0_heavies v0_places v0_papers v0_lowers v0_uppers v0_rules v0_bounds v0_boundCount v0_tieWay r49) → va_S A s.heap H locs → lv_has ls 9 [] → W p l e { frames := 1, cells := 0, slots := 0, locals := 22 } s m [.ref (a0 0), .ref (a0 17), .int p2].toArray below meth c H locs 0 0 (MQ below (Qv g (m_X6_trace_0_0_17 (v0_raws, v0_kinds, v0_figures, v0_heavies, v0_places, v0_papers, v0_lowers, v0_uppers, v0_rules, v0_bounds, v0_boundCount, v0_tieWay, v0_reached) p2) (fun u => wX6 a0 g v0_raws v0_kinds v0_figures v0_heavies v0_places v0_papers v0_lowers v0_uppers v0_rules v0_bounds v0_boundCount v0_tieWay u) A) [.ref (a0 0), .ref (a0 17), .int p2].toArray s 0 0 A) (F0 m 141 ls [])) ?_ fu _ r49 er49 ?_ _ _ _ hP hD hS (lv_sub hl [2, 3, 4, 1, 0] rfl)
  · rintro ⟨x26, x27, x28⟩ y hf hB hXt H locs ls hP hD hS hl
    have hP : va_P g.1 vwCl (wX6 a0 g v0_raws v0_kinds v0_figures v0_heavies v0_places v0_papers v0_lowers v0_uppers v0_rules v0_bounds v0_boundCount v0_tieWay x28) H := hP
    have hD : va_D A (wX6 a0 g v0_raws v0_kinds v0_figures v0_heavies v0_places v0_papers v0_lowers v0_uppers v0_rules v0_bounds v0_boundCount v0_tieWay x28) := hD
    have hl : lv_has ls 9 [(0, .ref (a0 0)), (1, .ref (a0 17)), (2, .int p2), (3, .int x26), (4, .int x27)] := hl
    have hf : m_X6_trace_0_0_17_l27 (v0_raws, v0_kinds, v0_figures, v0_heavies, v0_places, v0_papers, v0_lowers, v0_uppers, v0_rules, v0_bounds, v0_boundCount, v0_tieWay, v0_reached) p2 x26 x27 x28 = some y := hf
    unfold m_X6_trace_0_0_17_l27 at hf
    refine lv_iload hx hb dX6_trace_27 (lv_at hl 4 rfl) ?_
    refine lv_aload_n hx hb dX6_trace_29 rfl (lv_at hl 0 rfl) ?_
    refine va_get (D := g.1) (ci := 7) (v := .int v0_papers) (C := RX6) (T := TX6) (N := 13) hx hb hts layX6 hown hK.1 hP 0 rfl rfl 5 (by decide) (hts _ kw54) (fun _ h9 => h9) rfl dX6_trace_30 ?_
    refine lv_icmp_ge (tgt := 141) hx hb dX6_trace_33 (by decide) (fun cb => ?_) (fun cb => ?_)
    · have hf := it_t cb hf
      exact hXt _ (Option.some.inj hf).symm _ _ _ hP hD hS (lv_sub hl [] rfl)
    have hf := it_f cb hf
    refine lv_iload_n hx hb dX6_trace_36 rfl (lv_at hl 3 rfl) ?_
    refine lv_if_eq (tgt := 141) hx hb dX6_trace_37 (by decide) (fun cb => ?_) (fun cb => ?_)
    · have hf := it_t cb hf
      exact hXt _ (Option.some.inj hf).symm _ _ _ hP hD hS (lv_sub hl [] rfl)
    have hf := it_f cb hf
    refine lv_iconst (v := 0) hx hb dX6_trace_40 (by decide) ?_
    refine lv_istore_n (lv' := [(3, .int (0 : Int32)), (0, .ref (a0 0)), (1, .ref (a0 17)), (2, .int p2), (4, .int x27)]) hx hb dX6_trace_41 rfl hl (by decide) rfl (fun ls hl => ?_)
    refine lv_iconst (v := 0) hx hb dX6_trace_42 (by decide) ?_
    refine lv_istore (lv' := [(5, .int (0 : Int32)), (3, .int (0 : Int32)), (0, .ref (a0 0)), (1, .ref (a0 17)), (2, .int p2), (4, .int x27)]) hx hb dX6_trace_43 hl (by decide) rfl (fun ls hl => ?_)
    obtain ⟨r48, er48, hf⟩ := bnd hf
    refine lp_W (P := fun z => ∀ (H : Heap) (locs : List Loc) (ls : Array Slot), va_P g.1 vwCl (wX6 a0 g v0_raws v0_kinds v0_figures v0_heavies v0_places v0_papers v0_lowers v0_uppers v0_rules v0_bounds v0_boundCount v0_tieWay z.2.2) H → va_D A (wX6 a0 g v0_raws v0_kinds v0_figures v0_heavies v0_places v0_papers v0_lowers v0_uppers v0_rules v0_bounds v0_boundCount v0_tieWay z.2.2) → va_S A s.heap H locs → lv_has ls 9 [(0, .ref (a0 0)), (1, .ref (a0 17)), (2, .int p2), (3, .int z.1), (4, .int x27), (5, .int z.2.1)] → W p l e { frames := 1, cells := 0, slots := 0, locals := 22 } s m [.ref (a0 0), .ref (a0 17), .int p2].toArray below meth c H locs 0 0 (MQ below (Qv g (m_X6_trace_0_0_17 (v0_raws, v0_kinds, v0_figures, v0_heavies, v0_places, v0_papers, v0_lowers, v0_uppers, v0_rules, v0_bounds, v0_boundCount, v0_tieWay, v0_reached) p2) (fun u => wX6 a0 g v0_raws v0_kinds v0_figures v0_heavies v0_places v0_papers v0_lowers v0_uppers v0_rules v0_bounds v0_boundCount v0_tieWay u) A) [.ref (a0 0), .ref (a0 17), .int p2].toArray s 0 0 A) (F0 m 45 ls [])) (E := fun r48 => ∀ (H : Heap) (locs : List Loc) (ls : Array Slot), va_P g.1 vwCl (wX6 a0 g v0_raws v0_kinds v0_figures v0_heavies v0_places v0_papers v0_lowers v0_uppers v0_rules v0_bounds v0_boundCount v0_tieWay r48.2) H → va_D A (wX6 a0 g v0_raws v0_kinds v0_figures v0_heavies v0_places v0_papers v0_lowers v0_uppers v0_rules v0_bounds v0_boundCount v0_tieWay r48.2) → va_S A s.heap H locs → lv_has ls 9 [(0, .ref (a0 0)), (1, .ref (a0 17)), (2, .int p2), (3, .int r48.1), (4, .int x27)] → W p l e { frames := 1, cells := 0, slots := 0, locals := 22 } s m [.ref (a0 0), .ref (a0 17), .int p2].toArray below meth c H locs 0 0 (MQ below (Qv g (m_X6_trace_0_0_17 (v0_raws, v0_kinds, v0_figures, v0_heavies, v0_places, v0_papers, v0_lowers, v0_uppers, v0_rules, v0_bounds, v0_boundCount, v0_tieWay, v0_reached) p2) (fun u => wX6 a0 g v0_raws v0_kinds v0_figures v0_heavies v0_places v0_papers v0_lowers v0_uppers v0_rules v0_bounds v0_boundCount v0_tieWay u) A) [.ref (a0 0), .ref (a0 17), .int p2].toArray s 0 0 A) (F0 m 135 ls [])) ?_ fu _ r48 er48 ?_ _ _ _ hP hD hS (lv_sub hl [2, 3, 4, 1, 5, 0] rfl)
    · rintro ⟨x37, x38, x39⟩ y hf hB hXt H locs ls hP hD hS hl
      have hP : va_P g.1 vwCl (wX6 a0 g v0_raws v0_kinds v0_figures v0_heavies v0_places v0_papers v0_lowers v0_uppers v0_rules v0_bounds v0_boundCount v0_tieWay x39) H := hP
      have hD : va_D A (wX6 a0 g v0_raws v0_kinds v0_figures v0_heavies v0_places v0_papers v0_lowers v0_uppers v0_rules v0_bounds v0_boundCount v0_tieWay x39) := hD
      have hl : lv_has ls 9 [(0, .ref (a0 0)), (1, .ref (a0 17)), (2, .int p2), (3, .int x37), (4, .int x27), (5, .int x38)] := hl
      have hf : m_X6_trace_0_0_17_l45_2 (v0_raws, v0_kinds, v0_figures, v0_heavies, v0_places, v0_papers, v0_lowers, v0_uppers, v0_rules, v0_bounds, v0_boundCount, v0_tieWay, v0_reached) p2 x37 x38 x39 = some y := hf
      unfold m_X6_trace_0_0_17_l45_2 at hf
      refine lv_iload hx hb dX6_trace_45 (lv_at hl 5 rfl) ?_
      refine lv_aload_n hx hb dX6_trace_47 rfl (lv_at hl 0 rfl) ?_
      refine va_get (D := g.1) (ci := 7) (v := .int v0_rules) (C := RX6) (T := TX6) (N := 13) hx hb hts layX6 hown hK.1 hP 0 rfl rfl 8 (by decide) (hts _ kw57) (fun _ h9 => h9) rfl dX6_trace_48 ?_
      refine lv_icmp_ge (tgt := 135) hx hb dX6_trace_51 (by decide) (fun cb => ?_) (fun cb => ?_)
      · have hf := it_t cb hf
        exact hXt _ (Option.some.inj hf).symm _ _ _ hP hD hS (lv_sub hl [0, 1, 2, 3, 4] rfl)
      have hf := it_f cb hf
      refine lv_aload_n hx hb dX6_trace_54 rfl (lv_at hl 0 rfl) ?_
      refine va_get (D := g.1) (ci := 7) (v := .ref (a0 11)) (C := RX6) (T := TX6) (N := 13) hx hb hts layX6 hown hK.1 hP 0 rfl rfl 6 (by decide) (hts _ kw55) (fun _ h9 => h9) rfl dX6_trace_55 ?_
      refine lv_iload hx hb dX6_trace_58 (lv_at hl 5 rfl) ?_
      refine cIp hP hD hS hA hE (fun hPc hDc hSc => rV (As := [.int x38]) (rest := []) hx hb hml hown hts hK (c_X2_get l g (fun i => a0 (i + 11)) 12 v0_lowers x38 (bnd_ne hf)) svV_X2_get kw417 rfl rfl hPc hDc hSc rfl rfl hl.1 (Nat.le_of_ble_eq_true rfl) dX6_trace_60 ⟨Nat.le_of_ble_eq_true rfl, Nat.le_of_ble_eq_true rfl, rfl, rfl, Nat.le_of_ble_eq_true rfl, Nat.le_of_ble_eq_true rfl⟩) [(11, 2)] rfl rfl rfl (fun x40 H locs ex40 nx40 hP hS => ?_)
      have hf := bnd_of hf ex40
      refine lv_istore (lv' := [(6, .int x40), (0, .ref (a0 0)), (1, .ref (a0 17)), (2, .int p2), (3, .int x37), (4, .int x27), (5, .int x38)]) hx hb dX6_trace_63 hl (by decide) rfl (fun ls hl => ?_)
      refine lv_aload_n hx hb dX6_trace_65 rfl (lv_at hl 2 rfl) ?_
      refine lv_iload hx hb dX6_trace_66 (lv_at hl 0 rfl) ?_
      refine cIp hP hD hS hA hE (fun hPc hDc hSc => rV (As := [.int x40]) (rest := []) hx hb hml hown hts hK (c_X2_get l g (fun i => a0 (i + 17)) 7 x39 x40 (bnd_ne hf)) svV_X2_get kw417 rfl rfl hPc hDc hSc rfl rfl hl.1 (Nat.le_of_ble_eq_true rfl) dX6_trace_68 ⟨Nat.le_of_ble_eq_true rfl, Nat.le_of_ble_eq_true rfl, rfl, rfl, Nat.le_of_ble_eq_true rfl, Nat.le_of_ble_eq_true rfl⟩) [(17, 2)] rfl rfl rfl (fun x41 H locs ex41 nx41 hP hS => ?_)
      have hf := bnd_of hf ex41
      refine lv_istore (lv' := [(7, .int x41), (6, .int x40), (0, .ref (a0 0)), (1, .ref (a0 17)), (2, .int p2), (3, .int x37), (4, .int x27), (5, .int x38)]) hx hb dX6_trace_71 hl (by decide) rfl (fun ls hl => ?_)
      refine lv_iload hx hb dX6_trace_73 (lv_at hl 0 rfl) ?_
      refine lv_aload_n hx hb dX6_trace_75 rfl (lv_at hl 3 rfl) ?_
      refine lv_aload_n hx hb dX6_trace_76 rfl (lv_at hl 2 rfl) ?_
      refine va_get (D := g.1) (ci := 7) (v := .ref (a0 13)) (C := RX6) (T := TX6) (N := 13) hx hb hts layX6 hown hK.1 hP 0 rfl rfl 7 (by decide) (hts _ kw56) (fun _ h9 => h9) rfl dX6_trace_77 ?_
      refine lv_iload hx hb dX6_trace_80 (lv_at hl 7 rfl) ?_
      refine cIp hP hD hS hA hE (fun hPc hDc hSc => rV (As := [.int x38]) (rest := [.ref (a0 17), .int x41]) hx hb hml hown hts hK (c_X2_get l g (fun i => a0 (i + 13)) 12 v0_uppers x38 (bnd_ne hf)) svV_X2_get kw417 rfl rfl hPc hDc hSc rfl rfl hl.1 (Nat.le_of_ble_eq_true rfl) dX6_trace_82 ⟨Nat.le_of_ble_eq_true rfl, Nat.le_of_ble_eq_true rfl, rfl, rfl, Nat.le_of_ble_eq_true rfl, Nat.le_of_ble_eq_true rfl⟩) [(13, 2)] rfl rfl rfl (fun x42 H locs ex42 nx42 hP hS => ?_)
      have hf := bnd_of hf ex42
      refine cIp hP hD hS hA hE (fun hPc hDc hSc => rV (As := [.int x42]) (rest := [.int x41]) hx hb hml hown hts hK (c_X2_get l g (fun i => a0 (i + 17)) 7 x39 x42 (bnd_ne hf)) svV_X2_get kw417 rfl rfl hPc hDc hSc rfl rfl hl.1 (Nat.le_of_ble_eq_true rfl) dX6_trace_85 ⟨Nat.le_of_ble_eq_true rfl, Nat.le_of_ble_eq_true rfl, rfl, rfl, Nat.le_of_ble_eq_true rfl, Nat.le_of_ble_eq_true rfl⟩) [(17, 2)] rfl rfl rfl (fun x43 H locs ex43 nx43 hP hS => ?_)
      have hf := bnd_of hf ex43
      refine lv_ior hx hb dX6_trace_88 ?_
      refine lv_iconst (v := 1) hx hb dX6_trace_89 (by decide) ?_
      refine lv_aload_n hx hb dX6_trace_90 rfl (lv_at hl 2 rfl) ?_
      refine va_get (D := g.1) (ci := 7) (v := .ref (a0 13)) (C := RX6) (T := TX6) (N := 13) hx hb hts layX6 hown hK.1 hP 0 rfl rfl 7 (by decide) (hts _ kw56) (fun _ h9 => h9) rfl dX6_trace_91 ?_
      refine lv_iload hx hb dX6_trace_94 (lv_at hl 7 rfl) ?_
      refine cIp hP hD hS hA hE (fun hPc hDc hSc => rV (As := [.int x38]) (rest := [.int (1 : Int32), .int (x41 ||| x43)]) hx hb hml hown hts hK (c_X2_get l g (fun i => a0 (i + 13)) 12 v0_uppers x38 (bnd_ne hf)) svV_X2_get kw417 rfl rfl hPc hDc hSc rfl rfl hl.1 (Nat.le_of_ble_eq_true rfl) dX6_trace_96 ⟨Nat.le_of_ble_eq_true rfl, Nat.le_of_ble_eq_true rfl, rfl, rfl, Nat.le_of_ble_eq_true rfl, Nat.le_of_ble_eq_true rfl⟩) [(13, 2)] rfl rfl rfl (fun x44 H locs ex44 nx44 hP hS => ?_)
      have hf := bnd_of hf ex44
      refine lv_ishl hx hb dX6_trace_99 ?_
      refine lv_ior hx hb dX6_trace_100 ?_
      obtain ⟨x45, ex45, hf⟩ := bnd hf
      refine nmI (Option.some.inj ex45) ?_
      refine lv_istore (lv' := [(8, .int x45), (7, .int x41), (6, .int x40), (0, .ref (a0 0)), (1, .ref (a0 17)), (2, .int p2), (3, .int x37), (4, .int x27), (5, .int x38)]) hx hb dX6_trace_101 hl (by decide) rfl (fun ls hl => ?_)
      refine lv_iload hx hb dX6_trace_103 (lv_at hl 0 rfl) ?_
      refine lv_iload hx hb dX6_trace_105 (lv_at hl 1 rfl) ?_
      refine lv_icmp_eq (tgt := 129) hx hb dX6_trace_107 (by decide) (fun cb => ?_) (fun cb => ?_)
      · have hf := it_t cb hf
        refine lv_iinc (v := (x38 + 1)) (lv' := [(5, .int (x38 + 1)), (8, .int x45), (7, .int x41), (6, .int x40), (0, .ref (a0 0)), (1, .ref (a0 17)), (2, .int p2), (3, .int x37), (4, .int x27)]) hx hb dX6_trace_129 hl (k := 8) rfl (by rfl) (by decide) rfl (fun ls hl => ?_)
        refine lv_goto (tgt := 45) hx hb dX6_trace_132 (by decide) ?_
        exact hB _ (Option.some.inj hf).symm _ _ _ hP hD hS (lv_sub hl [4, 5, 6, 7, 8, 0] rfl)
      have hf := it_f cb hf
      refine lv_iload_n hx hb dX6_trace_110 rfl (lv_at hl 5 rfl) ?_
      refine lv_iload hx hb dX6_trace_111 (lv_at hl 8 rfl) ?_
      refine cIp hP hD hS hA hE (fun hPc hDc hSc => rSN (As := [.int p2, .int x38]) (rest := []) hx hb hml hown hts hK (c_X9_hasBit l g p2 x38 (bnd_ne hf)) svS_X9_hasBit nw11 hPc hDc hSc rfl rfl hl.1 (Nat.le_of_ble_eq_true rfl) dX6_trace_113 ⟨Nat.le_of_ble_eq_true rfl, Nat.le_of_ble_eq_true rfl, rfl, rfl, Nat.le_of_ble_eq_true rfl, Nat.le_of_ble_eq_true rfl⟩) [] rfl rfl rfl (fun x46 H locs ex46 nx46 hP hS => ?_)
      have hf := bnd_of hf ex46
      refine lv_if_ne (tgt := 129) hx hb dX6_trace_116 (by decide) (fun cb => ?_) (fun cb => ?_)
      · have hf := it_f cb hf
        refine lv_iinc (v := (x38 + 1)) (lv' := [(5, .int (x38 + 1)), (8, .int x45), (7, .int x41), (6, .int x40), (0, .ref (a0 0)), (1, .ref (a0 17)), (2, .int p2), (3, .int x37), (4, .int x27)]) hx hb dX6_trace_129 hl (k := 8) rfl (by rfl) (by decide) rfl (fun ls hl => ?_)
        refine lv_goto (tgt := 45) hx hb dX6_trace_132 (by decide) ?_
        exact hB _ (Option.some.inj hf).symm _ _ _ hP hD hS (lv_sub hl [4, 5, 6, 7, 8, 0] rfl)
      have hf := it_t cb hf
      refine lv_aload_n hx hb dX6_trace_119 rfl (lv_at hl 4 rfl) ?_
      refine lv_iload hx hb dX6_trace_120 (lv_at hl 2 rfl) ?_
      refine lv_iload hx hb dX6_trace_122 (lv_at hl 0 rfl) ?_
      refine cV hP hD hS hA hE (fun hPc hDc hSc => rV (As := [.int x40, .int x45]) (rest := []) hx hb hml hown hts hK (c_X2_set l g (fun i => a0 (i + 17)) 7 x39 x40 x45 (bnd_ne hf)) svV_X2_set kw408 rfl rfl hPc hDc hSc rfl rfl hl.1 (Nat.le_of_ble_eq_true rfl) dX6_trace_124 ⟨Nat.le_of_ble_eq_true rfl, Nat.le_of_ble_eq_true rfl, rfl, rfl, Nat.le_of_ble_eq_true rfl, Nat.le_of_ble_eq_true rfl⟩) [(17, 2)] rfl rfl rfl (fun _ => rfl) (fun x47 H locs ex47 hP hD hS => ?_)
      have hf := bnd_of hf ex47
      have hP : va_P g.1 vwCl (wX6 a0 g v0_raws v0_kinds v0_figures v0_heavies v0_places v0_papers v0_lowers v0_uppers v0_rules v0_bounds v0_boundCount v0_tieWay x47) H := hP
      have hD : va_D A (wX6 a0 g v0_raws v0_kinds v0_figures v0_heavies v0_places v0_papers v0_lowers v0_uppers v0_rules v0_bounds v0_boundCount v0_tieWay x47) := hD
      refine lv_iconst (v := 1) hx hb dX6_trace_127 (by decide) ?_
      refine lv_istore_n (lv' := [(3, .int (1 : Int32)), (8, .int x45), (7, .int x41), (6, .int x40), (0, .ref (a0 0)), (1, .ref (a0 17)), (2, .int p2), (4, .int x27), (5, .int x38)]) hx hb dX6_trace_128 rfl hl (by decide) rfl (fun ls hl => ?_)
      refine lv_iinc (v := (x38 + 1)) (lv' := [(5, .int (x38 + 1)), (3, .int (1 : Int32)), (8, .int x45), (7, .int x41), (6, .int x40), (0, .ref (a0 0)), (1, .ref (a0 17)), (2, .int p2), (4, .int x27)]) hx hb dX6_trace_129 hl (k := 8) rfl (by rfl) (by decide) rfl (fun ls hl => ?_)
      refine lv_goto (tgt := 45) hx hb dX6_trace_132 (by decide) ?_
      exact hB _ (Option.some.inj hf).symm _ _ _ hP hD hS (lv_sub hl [5, 6, 7, 1, 8, 0] rfl)
    intro H locs ls hP hD hS hl
    have hP : va_P g.1 vwCl (wX6 a0 g v0_raws v0_kinds v0_figures v0_heavies v0_places v0_papers v0_lowers v0_uppers v0_rules v0_bounds v0_boundCount v0_tieWay r48.2) H := hP
    have hD : va_D A (wX6 a0 g v0_raws v0_kinds v0_figures v0_heavies v0_places v0_papers v0_lowers v0_uppers v0_rules v0_bounds v0_boundCount v0_tieWay r48.2) := hD
    have hl : lv_has ls 9 [(0, .ref (a0 0)), (1, .ref (a0 17)), (2, .int p2), (3, .int r48.1), (4, .int x27)] := hl
    refine lv_iinc (v := (x27 + 1)) (lv' := [(4, .int (x27 + 1)), (0, .ref (a0 0)), (1, .ref (a0 17)), (2, .int p2), (3, .int r48.1)]) hx hb dX6_trace_135 hl (k := 4) rfl (by rfl) (by decide) rfl (fun ls hl => ?_)
    refine lv_goto (tgt := 27) hx hb dX6_trace_138 (by decide) ?_
    exact hB _ (Option.some.inj hf).symm _ _ _ hP hD hS (lv_sub hl [1, 2, 3, 4, 0] rfl)
  intro H locs ls hP hD hS hl
  have hP : va_P g.1 vwCl (wX6 a0 g v0_raws v0_kinds v0_figures v0_heavies v0_places v0_papers v0_lowers v0_uppers v0_rules v0_bounds v0_boundCount v0_tieWay r49) H := hP
  have hD : va_D A (wX6 a0 g v0_raws v0_kinds v0_figures v0_heavies v0_places v0_papers v0_lowers v0_uppers v0_rules v0_bounds v0_boundCount v0_tieWay r49) := hD
  have hl : lv_has ls 9 [] := hl
  exact retV (u := r49) (W1 := fun u => wX6 a0 g v0_raws v0_kinds v0_figures v0_heavies v0_places v0_papers v0_lowers v0_uppers v0_rules v0_bounds v0_boundCount v0_tieWay u) hx hb hr hlocks hS hP hD (hf0.trans hf.symm) dX6_trace_141
set_option maxHeartbeats 4000000 in
set_option maxRecDepth 100000 in
theorem c_X6_isUnder (l : Launch) (g : GG) (a0 : Nat → Nat) (v0_raws : (Nat → Int32)) (v0_kinds : (Nat → Int32)) (v0_figures : (Nat → Int32)) (v0_heavies : (Nat → Int32)) (v0_places : (Nat → Int32)) (v0_papers : Int32) (v0_lowers : (Nat → Int32)) (v0_uppers : (Nat → Int32)) (v0_rules : Int32) (v0_bounds : (Nat → Int32)) (v0_boundCount : Int32) (v0_tieWay : Int32) (v0_reached : (Nat → Int32)) (p1 : Int32) (p2 : Int32) (hne : (m_X6_isUnder (v0_raws, v0_kinds, v0_figures, v0_heavies, v0_places, v0_papers, v0_lowers, v0_uppers, v0_rules, v0_bounds, v0_boundCount, v0_tieWay, v0_reached) p1 p2) ≠ none) : Ct l g yX6_isUnder cX6_isUnder 3 (some .boolean) ({ frames := 2, cells := 0, slots := 0, locals := 50 } : Room) [.ref (a0 0), .int p1, .int p2] (wX6 a0 g v0_raws v0_kinds v0_figures v0_heavies v0_places v0_papers v0_lowers v0_uppers v0_rules v0_bounds v0_boundCount v0_tieWay v0_reached) (Qi g .boolean (m_X6_isUnder (v0_raws, v0_kinds, v0_figures, v0_heavies, v0_places, v0_papers, v0_lowers, v0_uppers, v0_rules, v0_bounds, v0_boundCount, v0_tieWay, v0_reached) p1 p2) (fun u => u.1) (fun u => wX6 a0 g v0_raws v0_kinds v0_figures v0_heavies v0_places v0_papers v0_lowers v0_uppers v0_rules v0_bounds v0_boundCount v0_tieWay u.2)) 0 0 := by
  obtain ⟨out, hf⟩ := ne_ex hne
  have hf0 := hf
  refine Ct.of (own := RX6) (by decide +kernel) rfl (Nat.le_of_ble_eq_true rfl) ?_
  intro p e s m below meth c hx hb hr hml hown hts hlocks hin hK A H locs hA hP hD hS hE ls hl
  have hl : lv_has ls 3 [(0, .ref (a0 0)), (1, .int p1), (2, .int p2)] := hl
  unfold m_X6_isUnder at hf
  refine lv_aload_n hx hb dX6_isUnder_0 rfl (lv_at hl 0 rfl) ?_
  refine lv_aload_n hx hb dX6_isUnder_1 rfl (lv_at hl 0 rfl) ?_
  refine va_get (D := g.1) (ci := 7) (v := .ref (a0 17)) (C := RX6) (T := TX6) (N := 13) hx hb hts layX6 hown hK.1 hP 0 rfl rfl 12 (by decide) (hts _ kw61) (fun _ h9 => h9) rfl dX6_isUnder_2 ?_
  refine lv_iconst (v := 0) hx hb dX6_isUnder_5 (by decide) ?_
  refine cV hP hD hS hA hE (fun hPc hDc hSc => rV (As := [.ref (a0 17), .int (0 : Int32)]) (rest := []) hx hb hml hown hts hK (c_X6_trace_0_0_17 l g a0 v0_raws v0_kinds v0_figures v0_heavies v0_places v0_papers v0_lowers v0_uppers v0_rules v0_bounds v0_boundCount v0_tieWay v0_reached (0 : Int32) (bnd_ne hf)) svV_X6_trace kw444 rfl rfl hPc hDc hSc rfl rfl hl.1 (Nat.le_of_ble_eq_true rfl) dX6_isUnder_6 ⟨Nat.le_of_ble_eq_true rfl, Nat.le_of_ble_eq_true rfl, rfl, rfl, Nat.le_of_ble_eq_true rfl, Nat.le_of_ble_eq_true rfl⟩) [(0, 19)] rfl rfl rfl (fun _ => rfl) (fun x1 H locs ex1 hP hD hS => ?_)
  have hf := bnd_of hf ex1
  have hP : va_P g.1 vwCl (wX6 a0 g v0_raws v0_kinds v0_figures v0_heavies v0_places v0_papers v0_lowers v0_uppers v0_rules v0_bounds v0_boundCount v0_tieWay x1) H := hP
  have hD : va_D A (wX6 a0 g v0_raws v0_kinds v0_figures v0_heavies v0_places v0_papers v0_lowers v0_uppers v0_rules v0_bounds v0_boundCount v0_tieWay x1) := hD
  refine lv_aload_n hx hb dX6_isUnder_9 rfl (lv_at hl 0 rfl) ?_
  refine va_get (D := g.1) (ci := 7) (v := .ref (a0 17)) (C := RX6) (T := TX6) (N := 13) hx hb hts layX6 hown hK.1 hP 0 rfl rfl 12 (by decide) (hts _ kw61) (fun _ h9 => h9) rfl dX6_isUnder_10 ?_
  refine lv_iload_n hx hb dX6_isUnder_13 rfl (lv_at hl 1 rfl) ?_
  refine cIp hP hD hS hA hE (fun hPc hDc hSc => rV (As := [.int p1]) (rest := []) hx hb hml hown hts hK (c_X2_get l g (fun i => a0 (i + 17)) 7 x1 p1 (bnd_ne hf)) svV_X2_get kw417 rfl rfl hPc hDc hSc rfl rfl hl.1 (Nat.le_of_ble_eq_true rfl) dX6_isUnder_14 ⟨Nat.le_of_ble_eq_true rfl, Nat.le_of_ble_eq_true rfl, rfl, rfl, Nat.le_of_ble_eq_true rfl, Nat.le_of_ble_eq_true rfl⟩) [(17, 2)] rfl rfl rfl (fun x2 H locs ex2 nx2 hP hS => ?_)
  have hf := bnd_of hf ex2
  refine lv_iload_n hx hb dX6_isUnder_17 rfl (lv_at hl 2 rfl) ?_
  refine cIp hP hD hS hA hE (fun hPc hDc hSc => rSN (As := [.int x2, .int p2]) (rest := []) hx hb hml hown hts hK (c_X9_hasBit l g x2 p2 (bnd_ne hf)) svS_X9_hasBit nw11 hPc hDc hSc rfl rfl hl.1 (Nat.le_of_ble_eq_true rfl) dX6_isUnder_18 ⟨Nat.le_of_ble_eq_true rfl, Nat.le_of_ble_eq_true rfl, rfl, rfl, Nat.le_of_ble_eq_true rfl, Nat.le_of_ble_eq_true rfl⟩) [] rfl rfl rfl (fun x3 H locs ex3 nx3 hP hS => ?_)
  have hf := bnd_of hf ex3
  exact retI (v := x3) (u := (x3, x1)) (val := fun u => u.1) (W1 := fun u => wX6 a0 g v0_raws v0_kinds v0_figures v0_heavies v0_places v0_papers v0_lowers v0_uppers v0_rules v0_bounds v0_boundCount v0_tieWay u.2) hx hb hr hlocks hS hP hD (hf0.trans hf.symm) rfl nx3 dX6_isUnder_21
