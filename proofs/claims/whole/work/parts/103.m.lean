theorem svV_X6_areTwo : SV RX6 yX6_areTwo cX6_areTwo 3 (some .boolean) 2 := ⟨kw434, kw435, kw2, kw436, rfl, by decide, by decide, by decide +kernel⟩
theorem svV_X6_isThere : SV RX6 yX6_isThere cX6_isThere 4 (some .boolean) 2 := ⟨kw438, kw1795, kw2, kw439, rfl, by decide, by decide, by decide +kernel⟩
theorem svV_X6_isUnder : SV RX6 yX6_isUnder cX6_isUnder 3 (some .boolean) 2 := ⟨kw441, kw442, kw2, kw443, rfl, by decide, by decide, by decide +kernel⟩
theorem svV_X6_hasRule : SV RX6 yX6_hasRule cX6_hasRule 2 (some .boolean) 1 := ⟨kw455, kw456, kw2, kw457, rfl, by decide, by decide, by decide +kernel⟩
theorem svV_X2_removeAt : SV RX2 yX2_removeAt cX2_removeAt 3 none 1 := ⟨kw459, kw460, kw3, kw461, rfl, by decide, by decide, by decide +kernel⟩
theorem svV_X3_numberAt : SV RX3 yX3_numberAt cX3_numberAt 2 (some .int) 1 := ⟨kw397, kw398, kw5, kw399, rfl, by decide, by decide, by decide +kernel⟩
theorem svV_X3_wordRead : SV RX3 yX3_wordRead cX3_wordRead 1 (some .int) 0 := ⟨kw401, kw402, kw5, kw403, rfl, by decide, by decide, by decide +kernel⟩
theorem svV_X6_addPaper : SV RX6 yX6_addPaper cX6_addPaper 2 (some .int) 1 := ⟨kw405, kw406, kw2, kw407, rfl, by decide, by decide, by decide +kernel⟩
theorem svV_X6_setKind : SV RX6 yX6_setKind cX6_setKind 5 (some .int) 3 := ⟨kw410, kw411, kw2, kw412, rfl, by decide, by decide, by decide +kernel⟩
theorem svV_X6_setHeavy : SV RX6 yX6_setHeavy cX6_setHeavy 3 (some .int) 2 := ⟨kw419, kw420, kw2, kw421, rfl, by decide, by decide, by decide +kernel⟩
theorem svV_X6_setPlace : SV RX6 yX6_setPlace cX6_setPlace 3 (some .int) 2 := ⟨kw426, kw427, kw2, kw428, rfl, by decide, by decide, by decide +kernel⟩
theorem svV_X6_addRule : SV RX6 yX6_addRule cX6_addRule 3 (some .int) 2 := ⟨kw430, kw431, kw2, kw432, rfl, by decide, by decide, by decide +kernel⟩
theorem svV_X6_takeRule : SV RX6 yX6_takeRule cX6_takeRule 2 (some .int) 1 := ⟨kw451, kw452, kw2, kw453, rfl, by decide, by decide, by decide +kernel⟩
theorem svV_X6_addLimit : SV RX6 yX6_addLimit cX6_addLimit 2 (some .int) 1 := ⟨kw464, kw465, kw2, kw466, rfl, by decide, by decide, by decide +kernel⟩
theorem svV_X6_setTies : SV RX6 yX6_setTies cX6_setTies 3 (some .int) 1 := ⟨kw468, kw469, kw2, kw470, rfl, by decide, by decide, by decide +kernel⟩
theorem svV_X6_paperCount : SV RX6 yX6_paperCount cX6_paperCount 1 (some .int) 0 := ⟨kw615, kw616, kw2, kw617, rfl, by decide, by decide, by decide +kernel⟩
theorem svV_X2_add : SV RX2 yX2_add cX2_add 3 none 2 := ⟨kw626, kw627, kw3, kw628, rfl, by decide, by decide, by decide +kernel⟩
theorem svV_X5_meetOvers : SV RX5 yX5_meetOvers cX5_meetOvers 4 none 2 := ⟨kw623, kw1797, kw7, kw624, rfl, by decide, by decide, by decide +kernel⟩
theorem dX6_addRule_0 : decode cX6_addRule 0 = .ok (.aload_n 0, 1) := by decide +kernel
theorem dX6_addRule_1 : decode cX6_addRule 1 = .ok (.iload_n 1, 1) := by decide +kernel
theorem dX6_addRule_2 : decode cX6_addRule 2 = .ok (.iload_n 2, 1) := by decide +kernel
theorem dX6_addRule_3 : decode cX6_addRule 3 = .ok (.invokevirtual 99, 3) := by decide +kernel
theorem dX6_addRule_6 : decode cX6_addRule 6 = .ok (.ifCond .ne 5, 3) := by decide +kernel
theorem dX6_addRule_11 : decode cX6_addRule 11 = .ok (.aload_n 0, 1) := by decide +kernel
theorem dX6_addRule_12 : decode cX6_addRule 12 = .ok (.iload_n 1, 1) := by decide +kernel
theorem dX6_addRule_13 : decode cX6_addRule 13 = .ok (.iload_n 2, 1) := by decide +kernel
theorem dX6_addRule_14 : decode cX6_addRule 14 = .ok (.invokevirtual 102, 3) := by decide +kernel
theorem dX6_addRule_17 : decode cX6_addRule 17 = .ok (.ifCond .ne 12, 3) := by decide +kernel
theorem dX6_addRule_29 : decode cX6_addRule 29 = .ok (.bipush (-3), 2) := by decide +kernel
theorem dX6_addRule_31 : decode cX6_addRule 31 = .ok (.ireturn, 1) := by decide +kernel
theorem dX6_addRule_20 : decode cX6_addRule 20 = .ok (.aload_n 0, 1) := by decide +kernel
theorem dX6_addRule_21 : decode cX6_addRule 21 = .ok (.iload_n 2, 1) := by decide +kernel
theorem dX6_addRule_22 : decode cX6_addRule 22 = .ok (.iload_n 1, 1) := by decide +kernel
theorem dX6_addRule_23 : decode cX6_addRule 23 = .ok (.invokevirtual 105, 3) := by decide +kernel
theorem dX6_addRule_26 : decode cX6_addRule 26 = .ok (.ifCond .eq 6, 3) := by decide +kernel
theorem dX6_addRule_32 : decode cX6_addRule 32 = .ok (.aload_n 0, 1) := by decide +kernel
theorem dX6_addRule_33 : decode cX6_addRule 33 = .ok (.getfield 52, 3) := by decide +kernel
theorem dX6_addRule_36 : decode cX6_addRule 36 = .ok (.bipush 12, 2) := by decide +kernel
theorem dX6_addRule_38 : decode cX6_addRule 38 = .ok (.if_icmp .lt 6, 3) := by decide +kernel
theorem dX6_addRule_44 : decode cX6_addRule 44 = .ok (.aload_n 0, 1) := by decide +kernel
theorem dX6_addRule_45 : decode cX6_addRule 45 = .ok (.getfield 32, 3) := by decide +kernel
theorem dX6_addRule_48 : decode cX6_addRule 48 = .ok (.aload_n 0, 1) := by decide +kernel
theorem dX6_addRule_49 : decode cX6_addRule 49 = .ok (.getfield 52, 3) := by decide +kernel
theorem dX6_addRule_52 : decode cX6_addRule 52 = .ok (.iload_n 1, 1) := by decide +kernel
theorem dX6_addRule_53 : decode cX6_addRule 53 = .ok (.invokevirtual 91, 3) := by decide +kernel
theorem dX6_addRule_56 : decode cX6_addRule 56 = .ok (.aload_n 0, 1) := by decide +kernel
theorem dX6_addRule_57 : decode cX6_addRule 57 = .ok (.getfield 35, 3) := by decide +kernel
theorem dX6_addRule_60 : decode cX6_addRule 60 = .ok (.aload_n 0, 1) := by decide +kernel
theorem dX6_addRule_61 : decode cX6_addRule 61 = .ok (.getfield 52, 3) := by decide +kernel
theorem dX6_addRule_64 : decode cX6_addRule 64 = .ok (.iload_n 2, 1) := by decide +kernel
theorem dX6_addRule_65 : decode cX6_addRule 65 = .ok (.invokevirtual 91, 3) := by decide +kernel
theorem dX6_addRule_68 : decode cX6_addRule 68 = .ok (.aload_n 0, 1) := by decide +kernel
theorem dX6_addRule_69 : decode cX6_addRule 69 = .ok (.dup, 1) := by decide +kernel
theorem dX6_addRule_70 : decode cX6_addRule 70 = .ok (.getfield 52, 3) := by decide +kernel
theorem dX6_addRule_73 : decode cX6_addRule 73 = .ok (.iconst 1, 1) := by decide +kernel
theorem dX6_addRule_74 : decode cX6_addRule 74 = .ok (.iadd, 1) := by decide +kernel
theorem dX6_addRule_75 : decode cX6_addRule 75 = .ok (.putfield 52, 3) := by decide +kernel
theorem dX6_addRule_78 : decode cX6_addRule 78 = .ok (.aload_n 0, 1) := by decide +kernel
theorem dX6_addRule_79 : decode cX6_addRule 79 = .ok (.getfield 52, 3) := by decide +kernel
theorem dX6_addRule_82 : decode cX6_addRule 82 = .ok (.iconst 1, 1) := by decide +kernel
theorem dX6_addRule_83 : decode cX6_addRule 83 = .ok (.isub, 1) := by decide +kernel
theorem dX6_addRule_84 : decode cX6_addRule 84 = .ok (.ireturn, 1) := by decide +kernel
theorem dX6_addRule_41 : decode cX6_addRule 41 = .ok (.bipush (-6), 2) := by decide +kernel
theorem dX6_addRule_43 : decode cX6_addRule 43 = .ok (.ireturn, 1) := by decide +kernel
theorem dX6_addRule_9 : decode cX6_addRule 9 = .ok (.iconst (-1), 1) := by decide +kernel
theorem dX6_addRule_10 : decode cX6_addRule 10 = .ok (.ireturn, 1) := by decide +kernel
theorem dX6_takeRule_0 : decode cX6_takeRule 0 = .ok (.aload_n 0, 1) := by decide +kernel
theorem dX6_takeRule_1 : decode cX6_takeRule 1 = .ok (.iload_n 1, 1) := by decide +kernel
theorem dX6_takeRule_2 : decode cX6_takeRule 2 = .ok (.invokevirtual 108, 3) := by decide +kernel
theorem dX6_takeRule_5 : decode cX6_takeRule 5 = .ok (.ifCond .ne 5, 3) := by decide +kernel
theorem dX6_takeRule_10 : decode cX6_takeRule 10 = .ok (.aload_n 0, 1) := by decide +kernel
theorem dX6_takeRule_11 : decode cX6_takeRule 11 = .ok (.getfield 32, 3) := by decide +kernel
theorem dX6_takeRule_14 : decode cX6_takeRule 14 = .ok (.iload_n 1, 1) := by decide +kernel
theorem dX6_takeRule_15 : decode cX6_takeRule 15 = .ok (.invokevirtual 111, 3) := by decide +kernel
theorem dX6_takeRule_18 : decode cX6_takeRule 18 = .ok (.aload_n 0, 1) := by decide +kernel
theorem dX6_takeRule_19 : decode cX6_takeRule 19 = .ok (.getfield 35, 3) := by decide +kernel
theorem dX6_takeRule_22 : decode cX6_takeRule 22 = .ok (.iload_n 1, 1) := by decide +kernel
theorem dX6_takeRule_23 : decode cX6_takeRule 23 = .ok (.invokevirtual 111, 3) := by decide +kernel
theorem dX6_takeRule_26 : decode cX6_takeRule 26 = .ok (.aload_n 0, 1) := by decide +kernel
theorem dX6_takeRule_27 : decode cX6_takeRule 27 = .ok (.dup, 1) := by decide +kernel
theorem dX6_takeRule_28 : decode cX6_takeRule 28 = .ok (.getfield 52, 3) := by decide +kernel
theorem dX6_takeRule_31 : decode cX6_takeRule 31 = .ok (.iconst 1, 1) := by decide +kernel
theorem dX6_takeRule_32 : decode cX6_takeRule 32 = .ok (.isub, 1) := by decide +kernel
theorem dX6_takeRule_33 : decode cX6_takeRule 33 = .ok (.putfield 52, 3) := by decide +kernel
theorem dX6_takeRule_36 : decode cX6_takeRule 36 = .ok (.aload_n 0, 1) := by decide +kernel
theorem dX6_takeRule_37 : decode cX6_takeRule 37 = .ok (.getfield 52, 3) := by decide +kernel
theorem dX6_takeRule_40 : decode cX6_takeRule 40 = .ok (.ireturn, 1) := by decide +kernel
theorem dX6_takeRule_8 : decode cX6_takeRule 8 = .ok (.iconst (-1), 1) := by decide +kernel
theorem dX6_takeRule_9 : decode cX6_takeRule 9 = .ok (.ireturn, 1) := by decide +kernel
theorem dX6_addLimit_0 : decode cX6_addLimit 0 = .ok (.iload_n 1, 1) := by decide +kernel
theorem dX6_addLimit_1 : decode cX6_addLimit 1 = .ok (.iconst 1, 1) := by decide +kernel
theorem dX6_addLimit_2 : decode cX6_addLimit 2 = .ok (.if_icmp .ge 6, 3) := by decide +kernel
theorem dX6_addLimit_8 : decode cX6_addLimit 8 = .ok (.iload_n 1, 1) := by decide +kernel
theorem dX6_addLimit_9 : decode cX6_addLimit 9 = .ok (.bipush 99, 2) := by decide +kernel
theorem dX6_addLimit_11 : decode cX6_addLimit 11 = .ok (.if_icmp .gt 11, 3) := by decide +kernel
theorem dX6_addLimit_22 : decode cX6_addLimit 22 = .ok (.bipush (-6), 2) := by decide +kernel
theorem dX6_addLimit_24 : decode cX6_addLimit 24 = .ok (.ireturn, 1) := by decide +kernel
theorem dX6_addLimit_14 : decode cX6_addLimit 14 = .ok (.aload_n 0, 1) := by decide +kernel
theorem dX6_addLimit_15 : decode cX6_addLimit 15 = .ok (.getfield 55, 3) := by decide +kernel
theorem dX6_addLimit_18 : decode cX6_addLimit 18 = .ok (.iconst 5, 1) := by decide +kernel
theorem dX6_addLimit_19 : decode cX6_addLimit 19 = .ok (.if_icmp .lt 6, 3) := by decide +kernel
theorem dX6_addLimit_25 : decode cX6_addLimit 25 = .ok (.aload_n 0, 1) := by decide +kernel
theorem dX6_addLimit_26 : decode cX6_addLimit 26 = .ok (.getfield 55, 3) := by decide +kernel
theorem dX6_addLimit_52 : decode cX6_addLimit 52 = .ok (.aload_n 0, 1) := by decide +kernel
theorem dX6_addLimit_53 : decode cX6_addLimit 53 = .ok (.getfield 38, 3) := by decide +kernel
theorem dX6_addLimit_56 : decode cX6_addLimit 56 = .ok (.aload_n 0, 1) := by decide +kernel
theorem dX6_addLimit_57 : decode cX6_addLimit 57 = .ok (.getfield 55, 3) := by decide +kernel
theorem dX6_addLimit_60 : decode cX6_addLimit 60 = .ok (.iload_n 1, 1) := by decide +kernel
theorem dX6_addLimit_61 : decode cX6_addLimit 61 = .ok (.invokevirtual 91, 3) := by decide +kernel
theorem dX6_addLimit_64 : decode cX6_addLimit 64 = .ok (.aload_n 0, 1) := by decide +kernel
theorem dX6_addLimit_65 : decode cX6_addLimit 65 = .ok (.dup, 1) := by decide +kernel
theorem dX6_addLimit_66 : decode cX6_addLimit 66 = .ok (.getfield 55, 3) := by decide +kernel
theorem dX6_addLimit_69 : decode cX6_addLimit 69 = .ok (.iconst 1, 1) := by decide +kernel
theorem dX6_addLimit_70 : decode cX6_addLimit 70 = .ok (.iadd, 1) := by decide +kernel
theorem dX6_addLimit_71 : decode cX6_addLimit 71 = .ok (.putfield 55, 3) := by decide +kernel
theorem dX6_addLimit_74 : decode cX6_addLimit 74 = .ok (.aload_n 0, 1) := by decide +kernel
theorem dX6_addLimit_75 : decode cX6_addLimit 75 = .ok (.getfield 55, 3) := by decide +kernel
theorem dX6_addLimit_78 : decode cX6_addLimit 78 = .ok (.ireturn, 1) := by decide +kernel
theorem dX6_addLimit_29 : decode cX6_addLimit 29 = .ok (.ifCond .le 23, 3) := by decide +kernel
theorem dX6_addLimit_32 : decode cX6_addLimit 32 = .ok (.iload_n 1, 1) := by decide +kernel
theorem dX6_addLimit_33 : decode cX6_addLimit 33 = .ok (.aload_n 0, 1) := by decide +kernel
theorem dX6_addLimit_34 : decode cX6_addLimit 34 = .ok (.getfield 38, 3) := by decide +kernel
theorem dX6_addLimit_37 : decode cX6_addLimit 37 = .ok (.aload_n 0, 1) := by decide +kernel
theorem dX6_addLimit_38 : decode cX6_addLimit 38 = .ok (.getfield 55, 3) := by decide +kernel
theorem dX6_addLimit_41 : decode cX6_addLimit 41 = .ok (.iconst 1, 1) := by decide +kernel
theorem dX6_addLimit_42 : decode cX6_addLimit 42 = .ok (.isub, 1) := by decide +kernel
theorem dX6_addLimit_43 : decode cX6_addLimit 43 = .ok (.invokevirtual 65, 3) := by decide +kernel
theorem dX6_addLimit_46 : decode cX6_addLimit 46 = .ok (.if_icmp .gt 6, 3) := by decide +kernel
theorem dX6_addLimit_49 : decode cX6_addLimit 49 = .ok (.bipush (-3), 2) := by decide +kernel
theorem dX6_addLimit_51 : decode cX6_addLimit 51 = .ok (.ireturn, 1) := by decide +kernel
theorem dX6_addLimit_5 : decode cX6_addLimit 5 = .ok (.bipush (-4), 2) := by decide +kernel
theorem dX6_addLimit_7 : decode cX6_addLimit 7 = .ok (.ireturn, 1) := by decide +kernel
theorem dX6_takeLimits_0 : decode cX6_takeLimits 0 = .ok (.aload_n 0, 1) := by decide +kernel
theorem dX6_takeLimits_1 : decode cX6_takeLimits 1 = .ok (.getfield 55, 3) := by decide +kernel
theorem dX6_takeLimits_4 : decode cX6_takeLimits 4 = .ok (.istore_n 1, 1) := by decide +kernel
theorem dX6_takeLimits_5 : decode cX6_takeLimits 5 = .ok (.aload_n 0, 1) := by decide +kernel
theorem dX6_takeLimits_6 : decode cX6_takeLimits 6 = .ok (.iconst 0, 1) := by decide +kernel
theorem dX6_takeLimits_7 : decode cX6_takeLimits 7 = .ok (.putfield 55, 3) := by decide +kernel
theorem dX6_takeLimits_10 : decode cX6_takeLimits 10 = .ok (.iload_n 1, 1) := by decide +kernel
theorem dX6_takeLimits_11 : decode cX6_takeLimits 11 = .ok (.ireturn, 1) := by decide +kernel
theorem dX6_setTies_0 : decode cX6_setTies 0 = .ok (.iload_n 1, 1) := by decide +kernel
theorem dX6_setTies_1 : decode cX6_setTies 1 = .ok (.ifCond .lt 8, 3) := by decide +kernel
theorem dX6_setTies_9 : decode cX6_setTies 9 = .ok (.bipush (-2), 2) := by decide +kernel
theorem dX6_setTies_11 : decode cX6_setTies 11 = .ok (.ireturn, 1) := by decide +kernel
theorem dX6_setTies_4 : decode cX6_setTies 4 = .ok (.iload_n 1, 1) := by decide +kernel
theorem dX6_setTies_5 : decode cX6_setTies 5 = .ok (.iconst 2, 1) := by decide +kernel
theorem dX6_setTies_6 : decode cX6_setTies 6 = .ok (.if_icmp .le 6, 3) := by decide +kernel
theorem dX6_setTies_12 : decode cX6_setTies 12 = .ok (.aload_n 0, 1) := by decide +kernel
theorem dX6_setTies_13 : decode cX6_setTies 13 = .ok (.getfield 58, 3) := by decide +kernel
theorem dX6_setTies_16 : decode cX6_setTies 16 = .ok (.istore_n 2, 1) := by decide +kernel
theorem dX6_setTies_17 : decode cX6_setTies 17 = .ok (.aload_n 0, 1) := by decide +kernel
theorem dX6_setTies_18 : decode cX6_setTies 18 = .ok (.iload_n 1, 1) := by decide +kernel
theorem dX6_setTies_19 : decode cX6_setTies 19 = .ok (.putfield 58, 3) := by decide +kernel
theorem dX6_setTies_22 : decode cX6_setTies 22 = .ok (.iload_n 2, 1) := by decide +kernel
theorem dX6_setTies_23 : decode cX6_setTies 23 = .ok (.ireturn, 1) := by decide +kernel
theorem dX3_numberAt_0 : decode cX3_numberAt 0 = .ok (.aload_n 0, 1) := by decide +kernel
theorem dX3_numberAt_1 : decode cX3_numberAt 1 = .ok (.getfield 20, 3) := by decide +kernel
theorem dX3_numberAt_4 : decode cX3_numberAt 4 = .ok (.iload_n 1, 1) := by decide +kernel
theorem dX3_numberAt_5 : decode cX3_numberAt 5 = .ok (.invokevirtual 37, 3) := by decide +kernel
theorem dX3_numberAt_8 : decode cX3_numberAt 8 = .ok (.ireturn, 1) := by decide +kernel
theorem dX3_wordRead_0 : decode cX3_wordRead 0 = .ok (.aload_n 0, 1) := by decide +kernel
theorem dX3_wordRead_1 : decode cX3_wordRead 1 = .ok (.getfield 34, 3) := by decide +kernel
theorem dX3_wordRead_4 : decode cX3_wordRead 4 = .ok (.ireturn, 1) := by decide +kernel
theorem dX6_take_0 : decode cX6_take 0 = .ok (.aload_n 1, 1) := by decide +kernel
theorem dX6_take_1 : decode cX6_take 1 = .ok (.iconst 0, 1) := by decide +kernel
theorem dX6_take_2 : decode cX6_take 2 = .ok (.invokevirtual 114, 3) := by decide +kernel
theorem dX6_take_5 : decode cX6_take 5 = .ok (.istore_n 2, 1) := by decide +kernel
theorem dX6_take_6 : decode cX6_take 6 = .ok (.aload_n 1, 1) := by decide +kernel
theorem dX6_take_7 : decode cX6_take 7 = .ok (.iconst 1, 1) := by decide +kernel
theorem dX6_take_8 : decode cX6_take 8 = .ok (.invokevirtual 114, 3) := by decide +kernel
theorem dX6_take_11 : decode cX6_take 11 = .ok (.istore_n 3, 1) := by decide +kernel
theorem dX6_take_12 : decode cX6_take 12 = .ok (.aload_n 1, 1) := by decide +kernel
theorem dX6_take_13 : decode cX6_take 13 = .ok (.invokevirtual 119, 3) := by decide +kernel
theorem dX6_take_16 : decode cX6_take 16 = .ok (.tableswitch 105 0 7 #[48, 54, 66, 73, 80, 87, 93, 99], 48) := by decide +kernel
theorem dX6_take_64 : decode cX6_take 64 = .ok (.aload_n 0, 1) := by decide +kernel
theorem dX6_take_65 : decode cX6_take 65 = .ok (.iload_n 2, 1) := by decide +kernel
theorem dX6_take_66 : decode cX6_take 66 = .ok (.invokevirtual 123, 3) := by decide +kernel
theorem dX6_take_69 : decode cX6_take 69 = .ok (.ireturn, 1) := by decide +kernel
theorem dX6_take_70 : decode cX6_take 70 = .ok (.aload_n 0, 1) := by decide +kernel
theorem dX6_take_71 : decode cX6_take 71 = .ok (.iload_n 2, 1) := by decide +kernel
theorem dX6_take_72 : decode cX6_take 72 = .ok (.iload_n 3, 1) := by decide +kernel
theorem dX6_take_73 : decode cX6_take 73 = .ok (.aload_n 1, 1) := by decide +kernel
theorem dX6_take_74 : decode cX6_take 74 = .ok (.iconst 2, 1) := by decide +kernel
theorem dX6_take_75 : decode cX6_take 75 = .ok (.invokevirtual 114, 3) := by decide +kernel
theorem dX6_take_78 : decode cX6_take 78 = .ok (.invokevirtual 126, 3) := by decide +kernel
theorem dX6_take_81 : decode cX6_take 81 = .ok (.ireturn, 1) := by decide +kernel
theorem dX6_take_82 : decode cX6_take 82 = .ok (.aload_n 0, 1) := by decide +kernel
theorem dX6_take_83 : decode cX6_take 83 = .ok (.iload_n 2, 1) := by decide +kernel
theorem dX6_take_84 : decode cX6_take 84 = .ok (.iload_n 3, 1) := by decide +kernel
theorem dX6_take_85 : decode cX6_take 85 = .ok (.invokevirtual 129, 3) := by decide +kernel
theorem dX6_take_88 : decode cX6_take 88 = .ok (.ireturn, 1) := by decide +kernel
theorem dX6_take_89 : decode cX6_take 89 = .ok (.aload_n 0, 1) := by decide +kernel
theorem dX6_take_90 : decode cX6_take 90 = .ok (.iload_n 2, 1) := by decide +kernel
theorem dX6_take_91 : decode cX6_take 91 = .ok (.iload_n 3, 1) := by decide +kernel
theorem dX6_take_92 : decode cX6_take 92 = .ok (.invokevirtual 132, 3) := by decide +kernel
theorem dX6_take_95 : decode cX6_take 95 = .ok (.ireturn, 1) := by decide +kernel
theorem dX6_take_96 : decode cX6_take 96 = .ok (.aload_n 0, 1) := by decide +kernel
theorem dX6_take_97 : decode cX6_take 97 = .ok (.iload_n 2, 1) := by decide +kernel
theorem dX6_take_98 : decode cX6_take 98 = .ok (.iload_n 3, 1) := by decide +kernel
theorem dX6_take_99 : decode cX6_take 99 = .ok (.invokevirtual 135, 3) := by decide +kernel
theorem dX6_take_102 : decode cX6_take 102 = .ok (.ireturn, 1) := by decide +kernel
theorem dX6_take_103 : decode cX6_take 103 = .ok (.aload_n 0, 1) := by decide +kernel
theorem dX6_take_104 : decode cX6_take 104 = .ok (.iload_n 2, 1) := by decide +kernel
theorem dX6_take_105 : decode cX6_take 105 = .ok (.invokevirtual 138, 3) := by decide +kernel
theorem dX6_take_108 : decode cX6_take 108 = .ok (.ireturn, 1) := by decide +kernel
theorem dX6_take_109 : decode cX6_take 109 = .ok (.aload_n 0, 1) := by decide +kernel
theorem dX6_take_110 : decode cX6_take 110 = .ok (.iload_n 2, 1) := by decide +kernel
theorem dX6_take_111 : decode cX6_take 111 = .ok (.invokevirtual 141, 3) := by decide +kernel
theorem dX6_take_114 : decode cX6_take 114 = .ok (.ireturn, 1) := by decide +kernel
theorem dX6_take_115 : decode cX6_take 115 = .ok (.aload_n 0, 1) := by decide +kernel
theorem dX6_take_116 : decode cX6_take 116 = .ok (.iload_n 2, 1) := by decide +kernel
theorem dX6_take_117 : decode cX6_take 117 = .ok (.invokevirtual 144, 3) := by decide +kernel
theorem dX6_take_120 : decode cX6_take 120 = .ok (.ireturn, 1) := by decide +kernel
theorem dX6_take_121 : decode cX6_take 121 = .ok (.bipush (-3), 2) := by decide +kernel
theorem dX6_take_123 : decode cX6_take 123 = .ok (.ireturn, 1) := by decide +kernel
theorem dX5_meetOvers_0 : decode cX5_meetOvers 0 = .ok (.iconst 0, 1) := by decide +kernel
theorem dX5_meetOvers_1 : decode cX5_meetOvers 1 = .ok (.istore_n 3, 1) := by decide +kernel
theorem dX5_meetOvers_2 : decode cX5_meetOvers 2 = .ok (.iload_n 3, 1) := by decide +kernel
theorem dX5_meetOvers_3 : decode cX5_meetOvers 3 = .ok (.aload_n 0, 1) := by decide +kernel
theorem dX5_meetOvers_4 : decode cX5_meetOvers 4 = .ok (.getfield 35, 3) := by decide +kernel
theorem dX5_meetOvers_7 : decode cX5_meetOvers 7 = .ok (.if_icmp .ge 62, 3) := by decide +kernel
theorem dX5_meetOvers_10 : decode cX5_meetOvers 10 = .ok (.iload_n 2, 1) := by decide +kernel
theorem dX5_meetOvers_11 : decode cX5_meetOvers 11 = .ok (.iload_n 3, 1) := by decide +kernel
theorem dX5_meetOvers_12 : decode cX5_meetOvers 12 = .ok (.invokestatic 57, 3) := by decide +kernel
theorem dX5_meetOvers_15 : decode cX5_meetOvers 15 = .ok (.ifCond .eq 48, 3) := by decide +kernel
theorem dX5_meetOvers_63 : decode cX5_meetOvers 63 = .ok (.iinc 3 1, 3) := by decide +kernel
theorem dX5_meetOvers_66 : decode cX5_meetOvers 66 = .ok (.goto (-64), 3) := by decide +kernel
theorem dX5_meetOvers_18 : decode cX5_meetOvers 18 = .ok (.aload_n 0, 1) := by decide +kernel
theorem dX5_meetOvers_19 : decode cX5_meetOvers 19 = .ok (.getfield 20, 3) := by decide +kernel
theorem dX5_meetOvers_22 : decode cX5_meetOvers 22 = .ok (.iload_n 3, 1) := by decide +kernel
theorem dX5_meetOvers_23 : decode cX5_meetOvers 23 = .ok (.iconst 1, 1) := by decide +kernel
theorem dX5_meetOvers_24 : decode cX5_meetOvers 24 = .ok (.iload_n 1, 1) := by decide +kernel
theorem dX5_meetOvers_25 : decode cX5_meetOvers 25 = .ok (.ishl, 1) := by decide +kernel
theorem dX5_meetOvers_26 : decode cX5_meetOvers 26 = .ok (.invokevirtual 61, 3) := by decide +kernel
theorem dX5_meetOvers_29 : decode cX5_meetOvers 29 = .ok (.aload_n 0, 1) := by decide +kernel
theorem dX5_meetOvers_30 : decode cX5_meetOvers 30 = .ok (.getfield 26, 3) := by decide +kernel
theorem dX5_meetOvers_33 : decode cX5_meetOvers 33 = .ok (.iload_n 1, 1) := by decide +kernel
theorem dX5_meetOvers_34 : decode cX5_meetOvers 34 = .ok (.aload_n 0, 1) := by decide +kernel
theorem dX5_meetOvers_35 : decode cX5_meetOvers 35 = .ok (.getfield 23, 3) := by decide +kernel
theorem dX5_meetOvers_38 : decode cX5_meetOvers 38 = .ok (.iload_n 1, 1) := by decide +kernel
theorem dX5_meetOvers_39 : decode cX5_meetOvers 39 = .ok (.invokevirtual 51, 3) := by decide +kernel
theorem dX5_meetOvers_42 : decode cX5_meetOvers 42 = .ok (.aload_n 0, 1) := by decide +kernel
theorem dX5_meetOvers_43 : decode cX5_meetOvers 43 = .ok (.getfield 23, 3) := by decide +kernel
theorem dX5_meetOvers_46 : decode cX5_meetOvers 46 = .ok (.iload_n 3, 1) := by decide +kernel
theorem dX5_meetOvers_47 : decode cX5_meetOvers 47 = .ok (.invokevirtual 51, 3) := by decide +kernel
theorem dX5_meetOvers_60 : decode cX5_meetOvers 60 = .ok (.invokevirtual 61, 3) := by decide +kernel
theorem dX5_meetOvers_50 : decode cX5_meetOvers 50 = .ok (.if_icmp .le 9, 3) := by decide +kernel
theorem dX5_meetOvers_59 : decode cX5_meetOvers 59 = .ok (.iconst 0, 1) := by decide +kernel
theorem dX5_meetOvers_53 : decode cX5_meetOvers 53 = .ok (.iconst 1, 1) := by decide +kernel
theorem dX5_meetOvers_54 : decode cX5_meetOvers 54 = .ok (.iload_n 3, 1) := by decide +kernel
theorem dX5_meetOvers_55 : decode cX5_meetOvers 55 = .ok (.ishl, 1) := by decide +kernel
theorem dX5_meetOvers_56 : decode cX5_meetOvers 56 = .ok (.goto 4, 3) := by decide +kernel
theorem dX5_meetOvers_69 : decode cX5_meetOvers 69 = .ok (.return_, 1) := by decide +kernel
theorem dX5_work_0 : decode cX5_work 0 = .ok (.aload_n 0, 1) := by decide +kernel
theorem dX5_work_1 : decode cX5_work 1 = .ok (.aload_n 1, 1) := by decide +kernel
theorem dX5_work_2 : decode cX5_work 2 = .ok (.invokevirtual 29, 3) := by decide +kernel
theorem dX5_work_5 : decode cX5_work 5 = .ok (.putfield 35, 3) := by decide +kernel
theorem dX5_work_8 : decode cX5_work 8 = .ok (.aload_n 1, 1) := by decide +kernel
theorem dX5_work_9 : decode cX5_work 9 = .ok (.aload_n 0, 1) := by decide +kernel
theorem dX5_work_10 : decode cX5_work 10 = .ok (.getfield 14, 3) := by decide +kernel
theorem dX5_work_13 : decode cX5_work 13 = .ok (.iload_n 2, 1) := by decide +kernel
theorem dX5_work_14 : decode cX5_work 14 = .ok (.invokevirtual 39, 3) := by decide +kernel
theorem dX5_work_17 : decode cX5_work 17 = .ok (.iconst 0, 1) := by decide +kernel
theorem dX5_work_18 : decode cX5_work 18 = .ok (.istore_n 3, 1) := by decide +kernel
theorem dX5_work_19 : decode cX5_work 19 = .ok (.iload_n 3, 1) := by decide +kernel
theorem dX5_work_20 : decode cX5_work 20 = .ok (.aload_n 0, 1) := by decide +kernel
theorem dX5_work_21 : decode cX5_work 21 = .ok (.getfield 35, 3) := by decide +kernel
theorem dX5_work_24 : decode cX5_work 24 = .ok (.if_icmp .ge 40, 3) := by decide +kernel
theorem dX5_work_27 : decode cX5_work 27 = .ok (.aload_n 0, 1) := by decide +kernel
theorem dX5_work_28 : decode cX5_work 28 = .ok (.getfield 23, 3) := by decide +kernel
theorem dX5_work_31 : decode cX5_work 31 = .ok (.iload_n 3, 1) := by decide +kernel
theorem dX5_work_32 : decode cX5_work 32 = .ok (.aload_n 1, 1) := by decide +kernel
theorem dX5_work_33 : decode cX5_work 33 = .ok (.iload_n 3, 1) := by decide +kernel
theorem dX5_work_34 : decode cX5_work 34 = .ok (.invokevirtual 43, 3) := by decide +kernel
theorem dX5_work_37 : decode cX5_work 37 = .ok (.invokevirtual 47, 3) := by decide +kernel
theorem dX5_work_40 : decode cX5_work 40 = .ok (.aload_n 0, 1) := by decide +kernel
theorem dX5_work_41 : decode cX5_work 41 = .ok (.getfield 20, 3) := by decide +kernel
theorem dX5_work_44 : decode cX5_work 44 = .ok (.iload_n 3, 1) := by decide +kernel
theorem dX5_work_45 : decode cX5_work 45 = .ok (.iconst 0, 1) := by decide +kernel
theorem dX5_work_46 : decode cX5_work 46 = .ok (.invokevirtual 47, 3) := by decide +kernel
theorem dX5_work_49 : decode cX5_work 49 = .ok (.aload_n 0, 1) := by decide +kernel
theorem dX5_work_50 : decode cX5_work 50 = .ok (.getfield 26, 3) := by decide +kernel
theorem dX5_work_53 : decode cX5_work 53 = .ok (.iload_n 3, 1) := by decide +kernel
theorem dX5_work_54 : decode cX5_work 54 = .ok (.iconst 0, 1) := by decide +kernel
theorem dX5_work_55 : decode cX5_work 55 = .ok (.invokevirtual 47, 3) := by decide +kernel
theorem dX5_work_58 : decode cX5_work 58 = .ok (.iinc 3 1, 3) := by decide +kernel
theorem dX5_work_61 : decode cX5_work 61 = .ok (.goto (-42), 3) := by decide +kernel
theorem dX5_work_64 : decode cX5_work 64 = .ok (.iconst 0, 1) := by decide +kernel
theorem dX5_work_65 : decode cX5_work 65 = .ok (.istore_n 3, 1) := by decide +kernel
theorem dX5_work_66 : decode cX5_work 66 = .ok (.iload_n 3, 1) := by decide +kernel
theorem dX5_work_67 : decode cX5_work 67 = .ok (.aload_n 0, 1) := by decide +kernel
theorem dX5_work_68 : decode cX5_work 68 = .ok (.getfield 35, 3) := by decide +kernel
theorem dX5_work_71 : decode cX5_work 71 = .ok (.if_icmp .ge 22, 3) := by decide +kernel
theorem dX5_work_74 : decode cX5_work 74 = .ok (.aload_n 0, 1) := by decide +kernel
theorem dX5_work_75 : decode cX5_work 75 = .ok (.iload_n 3, 1) := by decide +kernel
theorem dX5_work_76 : decode cX5_work 76 = .ok (.aload_n 0, 1) := by decide +kernel
theorem dX5_work_77 : decode cX5_work 77 = .ok (.getfield 14, 3) := by decide +kernel
theorem dX5_work_80 : decode cX5_work 80 = .ok (.iload_n 3, 1) := by decide +kernel
theorem dX5_work_81 : decode cX5_work 81 = .ok (.invokevirtual 51, 3) := by decide +kernel
theorem dX5_work_84 : decode cX5_work 84 = .ok (.invokevirtual 54, 3) := by decide +kernel
theorem dX5_work_87 : decode cX5_work 87 = .ok (.iinc 3 1, 3) := by decide +kernel
theorem dX5_work_90 : decode cX5_work 90 = .ok (.goto (-24), 3) := by decide +kernel
theorem dX5_work_93 : decode cX5_work 93 = .ok (.return_, 1) := by decide +kernel
theorem dX5_oversOf_0 : decode cX5_oversOf 0 = .ok (.aload_n 0, 1) := by decide +kernel
theorem dX5_oversOf_1 : decode cX5_oversOf 1 = .ok (.getfield 14, 3) := by decide +kernel
theorem dX5_oversOf_4 : decode cX5_oversOf 4 = .ok (.iload_n 1, 1) := by decide +kernel
theorem dX5_oversOf_5 : decode cX5_oversOf 5 = .ok (.invokevirtual 51, 3) := by decide +kernel
theorem dX5_oversOf_8 : decode cX5_oversOf 8 = .ok (.ireturn, 1) := by decide +kernel
theorem dX5_undersOf_0 : decode cX5_undersOf 0 = .ok (.aload_n 0, 1) := by decide +kernel
theorem dX5_undersOf_1 : decode cX5_undersOf 1 = .ok (.getfield 20, 3) := by decide +kernel
theorem dX5_undersOf_4 : decode cX5_undersOf 4 = .ok (.iload_n 1, 1) := by decide +kernel
theorem dX5_undersOf_5 : decode cX5_undersOf 5 = .ok (.invokevirtual 51, 3) := by decide +kernel
theorem dX5_undersOf_8 : decode cX5_undersOf 8 = .ok (.ireturn, 1) := by decide +kernel
set_option maxHeartbeats 4000000 in
set_option maxRecDepth 100000 in
theorem c_X6_addRule (l : Launch) (g : GG) (a0 : Nat → Nat) (v0_raws : (Nat → Int32)) (v0_kinds : (Nat → Int32)) (v0_figures : (Nat → Int32)) (v0_heavies : (Nat → Int32)) (v0_places : (Nat → Int32)) (v0_papers : Int32) (v0_lowers : (Nat → Int32)) (v0_uppers : (Nat → Int32)) (v0_rules : Int32) (v0_bounds : (Nat → Int32)) (v0_boundCount : Int32) (v0_tieWay : Int32) (v0_reached : (Nat → Int32)) (p1 : Int32) (p2 : Int32) (hne : (m_X6_addRule (v0_raws, v0_kinds, v0_figures, v0_heavies, v0_places, v0_papers, v0_lowers, v0_uppers, v0_rules, v0_bounds, v0_boundCount, v0_tieWay, v0_reached) p1 p2) ≠ none) : Ct l g yX6_addRule cX6_addRule 3 (some .int) ({ frames := 3, cells := 0, slots := 0, locals := 72 } : Room) [.ref (a0 0), .int p1, .int p2] (wX6 a0 g v0_raws v0_kinds v0_figures v0_heavies v0_places v0_papers v0_lowers v0_uppers v0_rules v0_bounds v0_boundCount v0_tieWay v0_reached) (Qi g .int (m_X6_addRule (v0_raws, v0_kinds, v0_figures, v0_heavies, v0_places, v0_papers, v0_lowers, v0_uppers, v0_rules, v0_bounds, v0_boundCount, v0_tieWay, v0_reached) p1 p2) (fun u => u.1) (fun u => wX6 a0 g v0_raws v0_kinds v0_figures v0_heavies v0_places v0_papers u.2.1 u.2.2.1 u.2.2.2.1 v0_bounds v0_boundCount v0_tieWay u.2.2.2.2)) 0 0 := by
  obtain ⟨out, hf⟩ := ne_ex hne
  have hf0 := hf
  refine Ct.of (own := RX6) (by decide +kernel) rfl (Nat.le_of_ble_eq_true rfl) ?_
  intro p e s m below meth c hx hb hr hml hown hts hlocks hin hK A H locs hA hP hD hS hE ls hl
  have hl : lv_has ls 3 [(0, .ref (a0 0)), (1, .int p1), (2, .int p2)] := hl
  unfold m_X6_addRule at hf
  refine lv_aload_n hx hb dX6_addRule_0 rfl (lv_at hl 0 rfl) ?_
  refine lv_iload_n hx hb dX6_addRule_1 rfl (lv_at hl 1 rfl) ?_
  refine lv_iload_n hx hb dX6_addRule_2 rfl (lv_at hl 2 rfl) ?_
  refine cIp hP hD hS hA hE (fun hPc hDc hSc => rV (As := [.int p1, .int p2]) (rest := []) hx hb hml hown hts hK (c_X6_areTwo l g a0 v0_raws v0_kinds v0_figures v0_heavies v0_places v0_papers v0_lowers v0_uppers v0_rules v0_bounds v0_boundCount v0_tieWay v0_reached p1 p2 (bnd_ne hf)) svV_X6_areTwo kw433 rfl rfl hPc hDc hSc rfl rfl hl.1 (Nat.le_of_ble_eq_true rfl) dX6_addRule_3 ⟨Nat.le_of_ble_eq_true rfl, Nat.le_of_ble_eq_true rfl, rfl, rfl, Nat.le_of_ble_eq_true rfl, Nat.le_of_ble_eq_true rfl⟩) [(0, 19)] rfl rfl rfl (fun x1 H locs ex1 nx1 hP hS => ?_)
  have hf := bnd_of hf ex1
  refine lv_if_ne (tgt := 11) hx hb dX6_addRule_6 (by decide) (fun cb => ?_) (fun cb => ?_)
  · have hf := it_f cb hf
    refine lv_aload_n hx hb dX6_addRule_11 rfl (lv_at hl 0 rfl) ?_
    refine lv_iload_n hx hb dX6_addRule_12 rfl (lv_at hl 1 rfl) ?_
    refine lv_iload_n hx hb dX6_addRule_13 rfl (lv_at hl 2 rfl) ?_
    refine cIp hP hD hS hA hE (fun hPc hDc hSc => rV (As := [.int p1, .int p2]) (rest := []) hx hb hml hown hts hK (c_X6_isThere l g a0 v0_raws v0_kinds v0_figures v0_heavies v0_places v0_papers v0_lowers v0_uppers v0_rules v0_bounds v0_boundCount v0_tieWay v0_reached p1 p2 (bnd_ne hf)) svV_X6_isThere kw437 rfl rfl hPc hDc hSc rfl rfl hl.1 (Nat.le_of_ble_eq_true rfl) dX6_addRule_14 ⟨Nat.le_of_ble_eq_true rfl, Nat.le_of_ble_eq_true rfl, rfl, rfl, Nat.le_of_ble_eq_true rfl, Nat.le_of_ble_eq_true rfl⟩) [(0, 19)] rfl rfl rfl (fun x2 H locs ex2 nx2 hP hS => ?_)
    have hf := bnd_of hf ex2
    refine lv_if_ne (tgt := 29) hx hb dX6_addRule_17 (by decide) (fun cb => ?_) (fun cb => ?_)
    · have hf := it_f cb hf
      refine lv_bipush (v := (-3)) hx hb dX6_addRule_29 (by decide) ?_
      exact retI (v := (-3 : Int32)) (u := ((-3 : Int32), v0_lowers, v0_uppers, v0_rules, v0_reached)) (val := fun u => u.1) (W1 := fun u => wX6 a0 g v0_raws v0_kinds v0_figures v0_heavies v0_places v0_papers u.2.1 u.2.2.1 u.2.2.2.1 v0_bounds v0_boundCount v0_tieWay u.2.2.2.2) hx hb hr hlocks hS hP hD (hf0.trans hf.symm) rfl rfl dX6_addRule_31
    have hf := it_t cb hf
    refine lv_aload_n hx hb dX6_addRule_20 rfl (lv_at hl 0 rfl) ?_
    refine lv_iload_n hx hb dX6_addRule_21 rfl (lv_at hl 2 rfl) ?_
    refine lv_iload_n hx hb dX6_addRule_22 rfl (lv_at hl 1 rfl) ?_
    refine cI hP hD hS hA hE (fun hPc hDc hSc => rV (As := [.int p2, .int p1]) (rest := []) hx hb hml hown hts hK (c_X6_isUnder l g a0 v0_raws v0_kinds v0_figures v0_heavies v0_places v0_papers v0_lowers v0_uppers v0_rules v0_bounds v0_boundCount v0_tieWay v0_reached p2 p1 (bnd_ne hf)) svV_X6_isUnder kw440 rfl rfl hPc hDc hSc rfl rfl hl.1 (Nat.le_of_ble_eq_true rfl) dX6_addRule_23 ⟨Nat.le_of_ble_eq_true rfl, Nat.le_of_ble_eq_true rfl, rfl, rfl, Nat.le_of_ble_eq_true rfl, Nat.le_of_ble_eq_true rfl⟩) [(0, 19)] rfl rfl rfl (fun _ => rfl) (fun x3 H locs ex3 nx3 hP hD hS => ?_)
    have hf := bnd_of hf ex3
    have hP : va_P g.1 vwCl (wX6 a0 g v0_raws v0_kinds v0_figures v0_heavies v0_places v0_papers v0_lowers v0_uppers v0_rules v0_bounds v0_boundCount v0_tieWay x3.2) H := hP
    have hD : va_D A (wX6 a0 g v0_raws v0_kinds v0_figures v0_heavies v0_places v0_papers v0_lowers v0_uppers v0_rules v0_bounds v0_boundCount v0_tieWay x3.2) := hD
    refine lv_if_eq (tgt := 32) hx hb dX6_addRule_26 (by decide) (fun cb => ?_) (fun cb => ?_)
    · have hf := it_t cb hf
      refine lv_aload_n hx hb dX6_addRule_32 rfl (lv_at hl 0 rfl) ?_
      refine va_get (D := g.1) (ci := 7) (v := .int v0_rules) (C := RX6) (T := TX6) (N := 13) hx hb hts layX6 hown hK.1 hP 0 rfl rfl 8 (by decide) (hts _ kw57) (fun _ h9 => h9) rfl dX6_addRule_33 ?_
      refine lv_bipush (v := 12) hx hb dX6_addRule_36 (by decide) ?_
      refine lv_icmp_lt (tgt := 44) hx hb dX6_addRule_38 (by decide) (fun cb => ?_) (fun cb => ?_)
      · have hf := it_t cb hf
        refine lv_aload_n hx hb dX6_addRule_44 rfl (lv_at hl 0 rfl) ?_
        refine va_get (D := g.1) (ci := 7) (v := .ref (a0 11)) (C := RX6) (T := TX6) (N := 13) hx hb hts layX6 hown hK.1 hP 0 rfl rfl 6 (by decide) (hts _ kw55) (fun _ h9 => h9) rfl dX6_addRule_45 ?_
        refine lv_aload_n hx hb dX6_addRule_48 rfl (lv_at hl 0 rfl) ?_
        refine va_get (D := g.1) (ci := 7) (v := .int v0_rules) (C := RX6) (T := TX6) (N := 13) hx hb hts layX6 hown hK.1 hP 0 rfl rfl 8 (by decide) (hts _ kw57) (fun _ h9 => h9) rfl dX6_addRule_49 ?_
        refine lv_iload_n hx hb dX6_addRule_52 rfl (lv_at hl 1 rfl) ?_
        refine cV hP hD hS hA hE (fun hPc hDc hSc => rV (As := [.int v0_rules, .int p1]) (rest := []) hx hb hml hown hts hK (c_X2_set l g (fun i => a0 (i + 11)) 12 v0_lowers v0_rules p1 (bnd_ne hf)) svV_X2_set kw408 rfl rfl hPc hDc hSc rfl rfl hl.1 (Nat.le_of_ble_eq_true rfl) dX6_addRule_53 ⟨Nat.le_of_ble_eq_true rfl, Nat.le_of_ble_eq_true rfl, rfl, rfl, Nat.le_of_ble_eq_true rfl, Nat.le_of_ble_eq_true rfl⟩) [(11, 2)] rfl rfl rfl (fun _ => rfl) (fun x4 H locs ex4 hP hD hS => ?_)
        have hf := bnd_of hf ex4
        have hP : va_P g.1 vwCl (wX6 a0 g v0_raws v0_kinds v0_figures v0_heavies v0_places v0_papers x4 v0_uppers v0_rules v0_bounds v0_boundCount v0_tieWay x3.2) H := hP
        have hD : va_D A (wX6 a0 g v0_raws v0_kinds v0_figures v0_heavies v0_places v0_papers x4 v0_uppers v0_rules v0_bounds v0_boundCount v0_tieWay x3.2) := hD
        refine lv_aload_n hx hb dX6_addRule_56 rfl (lv_at hl 0 rfl) ?_
        refine va_get (D := g.1) (ci := 7) (v := .ref (a0 13)) (C := RX6) (T := TX6) (N := 13) hx hb hts layX6 hown hK.1 hP 0 rfl rfl 7 (by decide) (hts _ kw56) (fun _ h9 => h9) rfl dX6_addRule_57 ?_
        refine lv_aload_n hx hb dX6_addRule_60 rfl (lv_at hl 0 rfl) ?_
        refine va_get (D := g.1) (ci := 7) (v := .int v0_rules) (C := RX6) (T := TX6) (N := 13) hx hb hts layX6 hown hK.1 hP 0 rfl rfl 8 (by decide) (hts _ kw57) (fun _ h9 => h9) rfl dX6_addRule_61 ?_
        refine lv_iload_n hx hb dX6_addRule_64 rfl (lv_at hl 2 rfl) ?_
        refine cV hP hD hS hA hE (fun hPc hDc hSc => rV (As := [.int v0_rules, .int p2]) (rest := []) hx hb hml hown hts hK (c_X2_set l g (fun i => a0 (i + 13)) 12 v0_uppers v0_rules p2 (bnd_ne hf)) svV_X2_set kw408 rfl rfl hPc hDc hSc rfl rfl hl.1 (Nat.le_of_ble_eq_true rfl) dX6_addRule_65 ⟨Nat.le_of_ble_eq_true rfl, Nat.le_of_ble_eq_true rfl, rfl, rfl, Nat.le_of_ble_eq_true rfl, Nat.le_of_ble_eq_true rfl⟩) [(13, 2)] rfl rfl rfl (fun _ => rfl) (fun x5 H locs ex5 hP hD hS => ?_)
        have hf := bnd_of hf ex5
        have hP : va_P g.1 vwCl (wX6 a0 g v0_raws v0_kinds v0_figures v0_heavies v0_places v0_papers x4 x5 v0_rules v0_bounds v0_boundCount v0_tieWay x3.2) H := hP
        have hD : va_D A (wX6 a0 g v0_raws v0_kinds v0_figures v0_heavies v0_places v0_papers x4 x5 v0_rules v0_bounds v0_boundCount v0_tieWay x3.2) := hD
        refine lv_aload_n hx hb dX6_addRule_68 rfl (lv_at hl 0 rfl) ?_
        refine lv_dup hx hb dX6_addRule_69 rfl ?_
        refine va_get (D := g.1) (ci := 7) (v := .int v0_rules) (C := RX6) (T := TX6) (N := 13) hx hb hts layX6 hown hK.1 hP 0 rfl rfl 8 (by decide) (hts _ kw57) (fun _ h9 => h9) rfl dX6_addRule_70 ?_
        refine lv_iconst (v := 1) hx hb dX6_addRule_73 (by decide) ?_
        refine lv_iadd hx hb dX6_addRule_74 ?_
        refine va_put (D := g.1) (ci := 7) (v := .int (v0_rules + (1 : Int32))) (ty := .int) (C := RX6) (T := TX6) (N := 13) hx hb hts layX6 tyX6 tyX6_ok nmX6 hown hK.1 hP hD hS 0 rfl rfl 8 (by decide) (hts _ kw57) (fun _ h9 => h9) rfl (tyX6_ok 8 (by decide)) rfl rfl (Nat.le_of_ble_eq_true rfl) dX6_addRule_75 (fun H locs hP hD hS => ?_)
        have hP : va_P g.1 vwCl (wX6 a0 g v0_raws v0_kinds v0_figures v0_heavies v0_places v0_papers x4 x5 (v0_rules + (1 : Int32)) v0_bounds v0_boundCount v0_tieWay x3.2) H := hP
        have hD : va_D A (wX6 a0 g v0_raws v0_kinds v0_figures v0_heavies v0_places v0_papers x4 x5 (v0_rules + (1 : Int32)) v0_bounds v0_boundCount v0_tieWay x3.2) := hD
        refine lv_aload_n hx hb dX6_addRule_78 rfl (lv_at hl 0 rfl) ?_
        refine va_get (D := g.1) (ci := 7) (v := .int (v0_rules + (1 : Int32))) (C := RX6) (T := TX6) (N := 13) hx hb hts layX6 hown hK.1 hP 0 rfl rfl 8 (by decide) (hts _ kw57) (fun _ h9 => h9) rfl dX6_addRule_79 ?_
        refine lv_iconst (v := 1) hx hb dX6_addRule_82 (by decide) ?_
        refine lv_isub hx hb dX6_addRule_83 ?_
        exact retI (v := ((v0_rules + (1 : Int32)) - (1 : Int32))) (u := (((v0_rules + (1 : Int32)) - (1 : Int32)), x4, x5, (v0_rules + (1 : Int32)), x3.2)) (val := fun u => u.1) (W1 := fun u => wX6 a0 g v0_raws v0_kinds v0_figures v0_heavies v0_places v0_papers u.2.1 u.2.2.1 u.2.2.2.1 v0_bounds v0_boundCount v0_tieWay u.2.2.2.2) hx hb hr hlocks hS hP hD (hf0.trans hf.symm) rfl rfl dX6_addRule_84
      have hf := it_f cb hf
      refine lv_bipush (v := (-6)) hx hb dX6_addRule_41 (by decide) ?_
      exact retI (v := (-6 : Int32)) (u := ((-6 : Int32), v0_lowers, v0_uppers, v0_rules, x3.2)) (val := fun u => u.1) (W1 := fun u => wX6 a0 g v0_raws v0_kinds v0_figures v0_heavies v0_places v0_papers u.2.1 u.2.2.1 u.2.2.2.1 v0_bounds v0_boundCount v0_tieWay u.2.2.2.2) hx hb hr hlocks hS hP hD (hf0.trans hf.symm) rfl rfl dX6_addRule_43
    have hf := it_f cb hf
    refine lv_bipush (v := (-3)) hx hb dX6_addRule_29 (by decide) ?_
    exact retI (v := (-3 : Int32)) (u := ((-3 : Int32), v0_lowers, v0_uppers, v0_rules, x3.2)) (val := fun u => u.1) (W1 := fun u => wX6 a0 g v0_raws v0_kinds v0_figures v0_heavies v0_places v0_papers u.2.1 u.2.2.1 u.2.2.2.1 v0_bounds v0_boundCount v0_tieWay u.2.2.2.2) hx hb hr hlocks hS hP hD (hf0.trans hf.symm) rfl rfl dX6_addRule_31
  have hf := it_t cb hf
  refine lv_iconst (v := (-1)) hx hb dX6_addRule_9 (by decide) ?_
  exact retI (v := (-1 : Int32)) (u := ((-1 : Int32), v0_lowers, v0_uppers, v0_rules, v0_reached)) (val := fun u => u.1) (W1 := fun u => wX6 a0 g v0_raws v0_kinds v0_figures v0_heavies v0_places v0_papers u.2.1 u.2.2.1 u.2.2.2.1 v0_bounds v0_boundCount v0_tieWay u.2.2.2.2) hx hb hr hlocks hS hP hD (hf0.trans hf.symm) rfl rfl dX6_addRule_10
set_option maxHeartbeats 4000000 in
set_option maxRecDepth 100000 in
theorem c_X6_takeRule (l : Launch) (g : GG) (a0 : Nat → Nat) (v0_raws : (Nat → Int32)) (v0_kinds : (Nat → Int32)) (v0_figures : (Nat → Int32)) (v0_heavies : (Nat → Int32)) (v0_places : (Nat → Int32)) (v0_papers : Int32) (v0_lowers : (Nat → Int32)) (v0_uppers : (Nat → Int32)) (v0_rules : Int32) (v0_bounds : (Nat → Int32)) (v0_boundCount : Int32) (v0_tieWay : Int32) (v0_reached : (Nat → Int32)) (p1 : Int32) (hne : (m_X6_takeRule (v0_raws, v0_kinds, v0_figures, v0_heavies, v0_places, v0_papers, v0_lowers, v0_uppers, v0_rules, v0_bounds, v0_boundCount, v0_tieWay, v0_reached) p1) ≠ none) : Ct l g yX6_takeRule cX6_takeRule 2 (some .int) ({ frames := 2, cells := 0, slots := 0, locals := 44 } : Room) [.ref (a0 0), .int p1] (wX6 a0 g v0_raws v0_kinds v0_figures v0_heavies v0_places v0_papers v0_lowers v0_uppers v0_rules v0_bounds v0_boundCount v0_tieWay v0_reached) (Qi g .int (m_X6_takeRule (v0_raws, v0_kinds, v0_figures, v0_heavies, v0_places, v0_papers, v0_lowers, v0_uppers, v0_rules, v0_bounds, v0_boundCount, v0_tieWay, v0_reached) p1) (fun u => u.1) (fun u => wX6 a0 g v0_raws v0_kinds v0_figures v0_heavies v0_places v0_papers u.2.1 u.2.2.1 u.2.2.2 v0_bounds v0_boundCount v0_tieWay v0_reached)) 0 0 := by
  obtain ⟨out, hf⟩ := ne_ex hne
  have hf0 := hf
  refine Ct.of (own := RX6) (by decide +kernel) rfl (Nat.le_of_ble_eq_true rfl) ?_
  intro p e s m below meth c hx hb hr hml hown hts hlocks hin hK A H locs hA hP hD hS hE ls hl
  have hl : lv_has ls 2 [(0, .ref (a0 0)), (1, .int p1)] := hl
  unfold m_X6_takeRule at hf
  refine lv_aload_n hx hb dX6_takeRule_0 rfl (lv_at hl 0 rfl) ?_
  refine lv_iload_n hx hb dX6_takeRule_1 rfl (lv_at hl 1 rfl) ?_
  refine cIp hP hD hS hA hE (fun hPc hDc hSc => rV (As := [.int p1]) (rest := []) hx hb hml hown hts hK (c_X6_hasRule l g a0 v0_raws v0_kinds v0_figures v0_heavies v0_places v0_papers v0_lowers v0_uppers v0_rules v0_bounds v0_boundCount v0_tieWay v0_reached p1 (bnd_ne hf)) svV_X6_hasRule kw454 rfl rfl hPc hDc hSc rfl rfl hl.1 (Nat.le_of_ble_eq_true rfl) dX6_takeRule_2 ⟨Nat.le_of_ble_eq_true rfl, Nat.le_of_ble_eq_true rfl, rfl, rfl, Nat.le_of_ble_eq_true rfl, Nat.le_of_ble_eq_true rfl⟩) [(0, 19)] rfl rfl rfl (fun x1 H locs ex1 nx1 hP hS => ?_)
  have hf := bnd_of hf ex1
  refine lv_if_ne (tgt := 10) hx hb dX6_takeRule_5 (by decide) (fun cb => ?_) (fun cb => ?_)
  · have hf := it_f cb hf
    refine lv_aload_n hx hb dX6_takeRule_10 rfl (lv_at hl 0 rfl) ?_
    refine va_get (D := g.1) (ci := 7) (v := .ref (a0 11)) (C := RX6) (T := TX6) (N := 13) hx hb hts layX6 hown hK.1 hP 0 rfl rfl 6 (by decide) (hts _ kw55) (fun _ h9 => h9) rfl dX6_takeRule_11 ?_
    refine lv_iload_n hx hb dX6_takeRule_14 rfl (lv_at hl 1 rfl) ?_
    refine cV hP hD hS hA hE (fun hPc hDc hSc => rV (As := [.int p1]) (rest := []) hx hb hml hown hts hK (c_X2_removeAt l g (fun i => a0 (i + 11)) 12 v0_lowers p1 (bnd_ne hf)) svV_X2_removeAt kw458 rfl rfl hPc hDc hSc rfl rfl hl.1 (Nat.le_of_ble_eq_true rfl) dX6_takeRule_15 ⟨Nat.le_of_ble_eq_true rfl, Nat.le_of_ble_eq_true rfl, rfl, rfl, Nat.le_of_ble_eq_true rfl, Nat.le_of_ble_eq_true rfl⟩) [(11, 2)] rfl rfl rfl (fun _ => rfl) (fun x2 H locs ex2 hP hD hS => ?_)
    have hf := bnd_of hf ex2
    have hP : va_P g.1 vwCl (wX6 a0 g v0_raws v0_kinds v0_figures v0_heavies v0_places v0_papers x2 v0_uppers v0_rules v0_bounds v0_boundCount v0_tieWay v0_reached) H := hP
    have hD : va_D A (wX6 a0 g v0_raws v0_kinds v0_figures v0_heavies v0_places v0_papers x2 v0_uppers v0_rules v0_bounds v0_boundCount v0_tieWay v0_reached) := hD
    refine lv_aload_n hx hb dX6_takeRule_18 rfl (lv_at hl 0 rfl) ?_
    refine va_get (D := g.1) (ci := 7) (v := .ref (a0 13)) (C := RX6) (T := TX6) (N := 13) hx hb hts layX6 hown hK.1 hP 0 rfl rfl 7 (by decide) (hts _ kw56) (fun _ h9 => h9) rfl dX6_takeRule_19 ?_
    refine lv_iload_n hx hb dX6_takeRule_22 rfl (lv_at hl 1 rfl) ?_
    refine cV hP hD hS hA hE (fun hPc hDc hSc => rV (As := [.int p1]) (rest := []) hx hb hml hown hts hK (c_X2_removeAt l g (fun i => a0 (i + 13)) 12 v0_uppers p1 (bnd_ne hf)) svV_X2_removeAt kw458 rfl rfl hPc hDc hSc rfl rfl hl.1 (Nat.le_of_ble_eq_true rfl) dX6_takeRule_23 ⟨Nat.le_of_ble_eq_true rfl, Nat.le_of_ble_eq_true rfl, rfl, rfl, Nat.le_of_ble_eq_true rfl, Nat.le_of_ble_eq_true rfl⟩) [(13, 2)] rfl rfl rfl (fun _ => rfl) (fun x3 H locs ex3 hP hD hS => ?_)
    have hf := bnd_of hf ex3
    have hP : va_P g.1 vwCl (wX6 a0 g v0_raws v0_kinds v0_figures v0_heavies v0_places v0_papers x2 x3 v0_rules v0_bounds v0_boundCount v0_tieWay v0_reached) H := hP
    have hD : va_D A (wX6 a0 g v0_raws v0_kinds v0_figures v0_heavies v0_places v0_papers x2 x3 v0_rules v0_bounds v0_boundCount v0_tieWay v0_reached) := hD
    refine lv_aload_n hx hb dX6_takeRule_26 rfl (lv_at hl 0 rfl) ?_
    refine lv_dup hx hb dX6_takeRule_27 rfl ?_
    refine va_get (D := g.1) (ci := 7) (v := .int v0_rules) (C := RX6) (T := TX6) (N := 13) hx hb hts layX6 hown hK.1 hP 0 rfl rfl 8 (by decide) (hts _ kw57) (fun _ h9 => h9) rfl dX6_takeRule_28 ?_
    refine lv_iconst (v := 1) hx hb dX6_takeRule_31 (by decide) ?_
    refine lv_isub hx hb dX6_takeRule_32 ?_
    refine va_put (D := g.1) (ci := 7) (v := .int (v0_rules - (1 : Int32))) (ty := .int) (C := RX6) (T := TX6) (N := 13) hx hb hts layX6 tyX6 tyX6_ok nmX6 hown hK.1 hP hD hS 0 rfl rfl 8 (by decide) (hts _ kw57) (fun _ h9 => h9) rfl (tyX6_ok 8 (by decide)) rfl rfl (Nat.le_of_ble_eq_true rfl) dX6_takeRule_33 (fun H locs hP hD hS => ?_)
    have hP : va_P g.1 vwCl (wX6 a0 g v0_raws v0_kinds v0_figures v0_heavies v0_places v0_papers x2 x3 (v0_rules - (1 : Int32)) v0_bounds v0_boundCount v0_tieWay v0_reached) H := hP
    have hD : va_D A (wX6 a0 g v0_raws v0_kinds v0_figures v0_heavies v0_places v0_papers x2 x3 (v0_rules - (1 : Int32)) v0_bounds v0_boundCount v0_tieWay v0_reached) := hD
    refine lv_aload_n hx hb dX6_takeRule_36 rfl (lv_at hl 0 rfl) ?_
    refine va_get (D := g.1) (ci := 7) (v := .int (v0_rules - (1 : Int32))) (C := RX6) (T := TX6) (N := 13) hx hb hts layX6 hown hK.1 hP 0 rfl rfl 8 (by decide) (hts _ kw57) (fun _ h9 => h9) rfl dX6_takeRule_37 ?_
    exact retI (v := (v0_rules - (1 : Int32))) (u := ((v0_rules - (1 : Int32)), x2, x3, (v0_rules - (1 : Int32)))) (val := fun u => u.1) (W1 := fun u => wX6 a0 g v0_raws v0_kinds v0_figures v0_heavies v0_places v0_papers u.2.1 u.2.2.1 u.2.2.2 v0_bounds v0_boundCount v0_tieWay v0_reached) hx hb hr hlocks hS hP hD (hf0.trans hf.symm) rfl rfl dX6_takeRule_40
  have hf := it_t cb hf
  refine lv_iconst (v := (-1)) hx hb dX6_takeRule_8 (by decide) ?_
  exact retI (v := (-1 : Int32)) (u := ((-1 : Int32), v0_lowers, v0_uppers, v0_rules)) (val := fun u => u.1) (W1 := fun u => wX6 a0 g v0_raws v0_kinds v0_figures v0_heavies v0_places v0_papers u.2.1 u.2.2.1 u.2.2.2 v0_bounds v0_boundCount v0_tieWay v0_reached) hx hb hr hlocks hS hP hD (hf0.trans hf.symm) rfl rfl dX6_takeRule_9
set_option maxHeartbeats 4000000 in
set_option maxRecDepth 100000 in
theorem c_X6_addLimit (l : Launch) (g : GG) (a0 : Nat → Nat) (v0_raws : (Nat → Int32)) (v0_kinds : (Nat → Int32)) (v0_figures : (Nat → Int32)) (v0_heavies : (Nat → Int32)) (v0_places : (Nat → Int32)) (v0_papers : Int32) (v0_lowers : (Nat → Int32)) (v0_uppers : (Nat → Int32)) (v0_rules : Int32) (v0_bounds : (Nat → Int32)) (v0_boundCount : Int32) (v0_tieWay : Int32) (v0_reached : (Nat → Int32)) (p1 : Int32) (hne : (m_X6_addLimit (v0_raws, v0_kinds, v0_figures, v0_heavies, v0_places, v0_papers, v0_lowers, v0_uppers, v0_rules, v0_bounds, v0_boundCount, v0_tieWay, v0_reached) p1) ≠ none) : Ct l g yX6_addLimit cX6_addLimit 2 (some .int) ({ frames := 1, cells := 0, slots := 0, locals := 22 } : Room) [.ref (a0 0), .int p1] (wX6 a0 g v0_raws v0_kinds v0_figures v0_heavies v0_places v0_papers v0_lowers v0_uppers v0_rules v0_bounds v0_boundCount v0_tieWay v0_reached) (Qi g .int (m_X6_addLimit (v0_raws, v0_kinds, v0_figures, v0_heavies, v0_places, v0_papers, v0_lowers, v0_uppers, v0_rules, v0_bounds, v0_boundCount, v0_tieWay, v0_reached) p1) (fun u => u.1) (fun u => wX6 a0 g v0_raws v0_kinds v0_figures v0_heavies v0_places v0_papers v0_lowers v0_uppers v0_rules u.2.1 u.2.2 v0_tieWay v0_reached)) 0 0 := by
  obtain ⟨out, hf⟩ := ne_ex hne
  have hf0 := hf
  refine Ct.of (own := RX6) (by decide +kernel) rfl (Nat.le_of_ble_eq_true rfl) ?_
  intro p e s m below meth c hx hb hr hml hown hts hlocks hin hK A H locs hA hP hD hS hE ls hl
  have hl : lv_has ls 2 [(0, .ref (a0 0)), (1, .int p1)] := hl
  unfold m_X6_addLimit at hf
  refine lv_iload_n hx hb dX6_addLimit_0 rfl (lv_at hl 1 rfl) ?_
  refine lv_iconst (v := 1) hx hb dX6_addLimit_1 (by decide) ?_
  refine lv_icmp_ge (tgt := 8) hx hb dX6_addLimit_2 (by decide) (fun cb => ?_) (fun cb => ?_)
  · have hf := it_t cb hf
    refine lv_iload_n hx hb dX6_addLimit_8 rfl (lv_at hl 1 rfl) ?_
    refine lv_bipush (v := 99) hx hb dX6_addLimit_9 (by decide) ?_
    refine lv_icmp_gt (tgt := 22) hx hb dX6_addLimit_11 (by decide) (fun cb => ?_) (fun cb => ?_)
    · have hf := it_t cb hf
      refine lv_bipush (v := (-6)) hx hb dX6_addLimit_22 (by decide) ?_
      exact retI (v := (-6 : Int32)) (u := ((-6 : Int32), v0_bounds, v0_boundCount)) (val := fun u => u.1) (W1 := fun u => wX6 a0 g v0_raws v0_kinds v0_figures v0_heavies v0_places v0_papers v0_lowers v0_uppers v0_rules u.2.1 u.2.2 v0_tieWay v0_reached) hx hb hr hlocks hS hP hD (hf0.trans hf.symm) rfl rfl dX6_addLimit_24
    have hf := it_f cb hf
    refine lv_aload_n hx hb dX6_addLimit_14 rfl (lv_at hl 0 rfl) ?_
    refine va_get (D := g.1) (ci := 7) (v := .int v0_boundCount) (C := RX6) (T := TX6) (N := 13) hx hb hts layX6 hown hK.1 hP 0 rfl rfl 10 (by decide) (hts _ kw59) (fun _ h9 => h9) rfl dX6_addLimit_15 ?_
    refine lv_iconst (v := 5) hx hb dX6_addLimit_18 (by decide) ?_
    refine lv_icmp_lt (tgt := 25) hx hb dX6_addLimit_19 (by decide) (fun cb => ?_) (fun cb => ?_)
    · have hf := it_t cb hf
      refine lv_aload_n hx hb dX6_addLimit_25 rfl (lv_at hl 0 rfl) ?_
      refine va_get (D := g.1) (ci := 7) (v := .int v0_boundCount) (C := RX6) (T := TX6) (N := 13) hx hb hts layX6 hown hK.1 hP 0 rfl rfl 10 (by decide) (hts _ kw59) (fun _ h9 => h9) rfl dX6_addLimit_26 ?_
      obtain ⟨r2, er2, hf⟩ := bnd hf
      have K : match r2 with | .inl x3 => (∀ (H : Heap) (locs : List Loc) (ls : Array Slot), va_P g.1 vwCl (wX6 a0 g v0_raws v0_kinds v0_figures v0_heavies v0_places v0_papers v0_lowers v0_uppers v0_rules v0_bounds v0_boundCount v0_tieWay v0_reached) H → va_D A (wX6 a0 g v0_raws v0_kinds v0_figures v0_heavies v0_places v0_papers v0_lowers v0_uppers v0_rules v0_bounds v0_boundCount v0_tieWay v0_reached) → va_S A s.heap H locs → lv_has ls 2 [(0, .ref (a0 0)), (1, .int p1)] → W p l e { frames := 1, cells := 0, slots := 0, locals := 22 } s m [.ref (a0 0), .int p1].toArray below meth c H locs 0 0 (MQ below (Qi g .int (m_X6_addLimit (v0_raws, v0_kinds, v0_figures, v0_heavies, v0_places, v0_papers, v0_lowers, v0_uppers, v0_rules, v0_bounds, v0_boundCount, v0_tieWay, v0_reached) p1) (fun u => u.1) (fun u => wX6 a0 g v0_raws v0_kinds v0_figures v0_heavies v0_places v0_papers v0_lowers v0_uppers v0_rules u.2.1 u.2.2 v0_tieWay v0_reached) A) [.ref (a0 0), .int p1].toArray s 0 0 A) (F0 m 52 ls [])) | .inr v => (m_X6_addLimit (v0_raws, v0_kinds, v0_figures, v0_heavies, v0_places, v0_papers, v0_lowers, v0_uppers, v0_rules, v0_bounds, v0_boundCount, v0_tieWay, v0_reached) p1) = some v := by
        rcases r2 with x3 | v
        · intro H locs ls hP hD hS hl
          refine lv_aload_n hx hb dX6_addLimit_52 rfl (lv_at hl 0 rfl) ?_
          refine va_get (D := g.1) (ci := 7) (v := .ref (a0 15)) (C := RX6) (T := TX6) (N := 13) hx hb hts layX6 hown hK.1 hP 0 rfl rfl 9 (by decide) (hts _ kw58) (fun _ h9 => h9) rfl dX6_addLimit_53 ?_
          refine lv_aload_n hx hb dX6_addLimit_56 rfl (lv_at hl 0 rfl) ?_
          refine va_get (D := g.1) (ci := 7) (v := .int v0_boundCount) (C := RX6) (T := TX6) (N := 13) hx hb hts layX6 hown hK.1 hP 0 rfl rfl 10 (by decide) (hts _ kw59) (fun _ h9 => h9) rfl dX6_addLimit_57 ?_
          refine lv_iload_n hx hb dX6_addLimit_60 rfl (lv_at hl 1 rfl) ?_
          refine cV hP hD hS hA hE (fun hPc hDc hSc => rV (As := [.int v0_boundCount, .int p1]) (rest := []) hx hb hml hown hts hK (c_X2_set l g (fun i => a0 (i + 15)) 5 v0_bounds v0_boundCount p1 (bnd_ne hf)) svV_X2_set kw408 rfl rfl hPc hDc hSc rfl rfl hl.1 (Nat.le_of_ble_eq_true rfl) dX6_addLimit_61 ⟨Nat.le_of_ble_eq_true rfl, Nat.le_of_ble_eq_true rfl, rfl, rfl, Nat.le_of_ble_eq_true rfl, Nat.le_of_ble_eq_true rfl⟩) [(15, 2)] rfl rfl rfl (fun _ => rfl) (fun x4 H locs ex4 hP hD hS => ?_)
          have hf := bnd_of hf ex4
          have hP : va_P g.1 vwCl (wX6 a0 g v0_raws v0_kinds v0_figures v0_heavies v0_places v0_papers v0_lowers v0_uppers v0_rules x4 v0_boundCount v0_tieWay v0_reached) H := hP
          have hD : va_D A (wX6 a0 g v0_raws v0_kinds v0_figures v0_heavies v0_places v0_papers v0_lowers v0_uppers v0_rules x4 v0_boundCount v0_tieWay v0_reached) := hD
          refine lv_aload_n hx hb dX6_addLimit_64 rfl (lv_at hl 0 rfl) ?_
          refine lv_dup hx hb dX6_addLimit_65 rfl ?_
          refine va_get (D := g.1) (ci := 7) (v := .int v0_boundCount) (C := RX6) (T := TX6) (N := 13) hx hb hts layX6 hown hK.1 hP 0 rfl rfl 10 (by decide) (hts _ kw59) (fun _ h9 => h9) rfl dX6_addLimit_66 ?_
          refine lv_iconst (v := 1) hx hb dX6_addLimit_69 (by decide) ?_
          refine lv_iadd hx hb dX6_addLimit_70 ?_
          refine va_put (D := g.1) (ci := 7) (v := .int (v0_boundCount + (1 : Int32))) (ty := .int) (C := RX6) (T := TX6) (N := 13) hx hb hts layX6 tyX6 tyX6_ok nmX6 hown hK.1 hP hD hS 0 rfl rfl 10 (by decide) (hts _ kw59) (fun _ h9 => h9) rfl (tyX6_ok 10 (by decide)) rfl rfl (Nat.le_of_ble_eq_true rfl) dX6_addLimit_71 (fun H locs hP hD hS => ?_)
          have hP : va_P g.1 vwCl (wX6 a0 g v0_raws v0_kinds v0_figures v0_heavies v0_places v0_papers v0_lowers v0_uppers v0_rules x4 (v0_boundCount + (1 : Int32)) v0_tieWay v0_reached) H := hP
          have hD : va_D A (wX6 a0 g v0_raws v0_kinds v0_figures v0_heavies v0_places v0_papers v0_lowers v0_uppers v0_rules x4 (v0_boundCount + (1 : Int32)) v0_tieWay v0_reached) := hD
          refine lv_aload_n hx hb dX6_addLimit_74 rfl (lv_at hl 0 rfl) ?_
          refine va_get (D := g.1) (ci := 7) (v := .int (v0_boundCount + (1 : Int32))) (C := RX6) (T := TX6) (N := 13) hx hb hts layX6 hown hK.1 hP 0 rfl rfl 10 (by decide) (hts _ kw59) (fun _ h9 => h9) rfl dX6_addLimit_75 ?_
          exact retI (v := (v0_boundCount + (1 : Int32))) (u := ((v0_boundCount + (1 : Int32)), x4, (v0_boundCount + (1 : Int32)))) (val := fun u => u.1) (W1 := fun u => wX6 a0 g v0_raws v0_kinds v0_figures v0_heavies v0_places v0_papers v0_lowers v0_uppers v0_rules u.2.1 u.2.2 v0_tieWay v0_reached) hx hb hr hlocks hS hP hD (hf0.trans hf.symm) rfl rfl dX6_addLimit_78
        · exact hf0.trans hf.symm
      have hf := er2
      refine lv_if_le (tgt := 52) hx hb dX6_addLimit_29 (by decide) (fun cb => ?_) (fun cb => ?_)
      · have hf := it_t cb hf
        have hq := Option.some.inj hf
        subst hq
        exact K _ _ _ hP hD hS (lv_sub hl [0, 1] rfl)
      have hf := it_f cb hf
      refine lv_iload_n hx hb dX6_addLimit_32 rfl (lv_at hl 1 rfl) ?_
      refine lv_aload_n hx hb dX6_addLimit_33 rfl (lv_at hl 0 rfl) ?_
      refine va_get (D := g.1) (ci := 7) (v := .ref (a0 15)) (C := RX6) (T := TX6) (N := 13) hx hb hts layX6 hown hK.1 hP 0 rfl rfl 9 (by decide) (hts _ kw58) (fun _ h9 => h9) rfl dX6_addLimit_34 ?_
      refine lv_aload_n hx hb dX6_addLimit_37 rfl (lv_at hl 0 rfl) ?_
      refine va_get (D := g.1) (ci := 7) (v := .int v0_boundCount) (C := RX6) (T := TX6) (N := 13) hx hb hts layX6 hown hK.1 hP 0 rfl rfl 10 (by decide) (hts _ kw59) (fun _ h9 => h9) rfl dX6_addLimit_38 ?_
      refine lv_iconst (v := 1) hx hb dX6_addLimit_41 (by decide) ?_
      refine lv_isub hx hb dX6_addLimit_42 ?_
      refine cIp hP hD hS hA hE (fun hPc hDc hSc => rV (As := [.int (v0_boundCount - (1 : Int32))]) (rest := [.int p1]) hx hb hml hown hts hK (c_X2_get l g (fun i => a0 (i + 15)) 5 v0_bounds (v0_boundCount - (1 : Int32)) (bnd_ne hf)) svV_X2_get kw417 rfl rfl hPc hDc hSc rfl rfl hl.1 (Nat.le_of_ble_eq_true rfl) dX6_addLimit_43 ⟨Nat.le_of_ble_eq_true rfl, Nat.le_of_ble_eq_true rfl, rfl, rfl, Nat.le_of_ble_eq_true rfl, Nat.le_of_ble_eq_true rfl⟩) [(15, 2)] rfl rfl rfl (fun x5 H locs ex5 nx5 hP hS => ?_)
      have hf := bnd_of hf ex5
      refine lv_icmp_gt (tgt := 52) hx hb dX6_addLimit_46 (by decide) (fun cb => ?_) (fun cb => ?_)
      · have hf := it_t cb hf
        have hq := Option.some.inj hf
        subst hq
        exact K _ _ _ hP hD hS (lv_sub hl [0, 1] rfl)
      have hf := it_f cb hf
      refine lv_bipush (v := (-3)) hx hb dX6_addLimit_49 (by decide) ?_
      have hq := Option.some.inj hf
      subst hq
      exact retI (v := (-3 : Int32)) (u := ((-3 : Int32), v0_bounds, v0_boundCount)) (val := fun u => u.1) (W1 := fun u => wX6 a0 g v0_raws v0_kinds v0_figures v0_heavies v0_places v0_papers v0_lowers v0_uppers v0_rules u.2.1 u.2.2 v0_tieWay v0_reached) hx hb hr hlocks hS hP hD K rfl rfl dX6_addLimit_51
    have hf := it_f cb hf
    refine lv_bipush (v := (-6)) hx hb dX6_addLimit_22 (by decide) ?_
    exact retI (v := (-6 : Int32)) (u := ((-6 : Int32), v0_bounds, v0_boundCount)) (val := fun u => u.1) (W1 := fun u => wX6 a0 g v0_raws v0_kinds v0_figures v0_heavies v0_places v0_papers v0_lowers v0_uppers v0_rules u.2.1 u.2.2 v0_tieWay v0_reached) hx hb hr hlocks hS hP hD (hf0.trans hf.symm) rfl rfl dX6_addLimit_24
  have hf := it_f cb hf
  refine lv_bipush (v := (-4)) hx hb dX6_addLimit_5 (by decide) ?_
  exact retI (v := (-4 : Int32)) (u := ((-4 : Int32), v0_bounds, v0_boundCount)) (val := fun u => u.1) (W1 := fun u => wX6 a0 g v0_raws v0_kinds v0_figures v0_heavies v0_places v0_papers v0_lowers v0_uppers v0_rules u.2.1 u.2.2 v0_tieWay v0_reached) hx hb hr hlocks hS hP hD (hf0.trans hf.symm) rfl rfl dX6_addLimit_7
set_option maxHeartbeats 4000000 in
set_option maxRecDepth 100000 in
theorem c_X6_takeLimits (l : Launch) (g : GG) (a0 : Nat → Nat) (v0_raws : (Nat → Int32)) (v0_kinds : (Nat → Int32)) (v0_figures : (Nat → Int32)) (v0_heavies : (Nat → Int32)) (v0_places : (Nat → Int32)) (v0_papers : Int32) (v0_lowers : (Nat → Int32)) (v0_uppers : (Nat → Int32)) (v0_rules : Int32) (v0_bounds : (Nat → Int32)) (v0_boundCount : Int32) (v0_tieWay : Int32) (v0_reached : (Nat → Int32)) (hne : (m_X6_takeLimits (v0_raws, v0_kinds, v0_figures, v0_heavies, v0_places, v0_papers, v0_lowers, v0_uppers, v0_rules, v0_bounds, v0_boundCount, v0_tieWay, v0_reached)) ≠ none) : Ct l g yX6_takeLimits cX6_takeLimits 2 (some .int) ({ frames := 0, cells := 0, slots := 0, locals := 0 } : Room) [.ref (a0 0)] (wX6 a0 g v0_raws v0_kinds v0_figures v0_heavies v0_places v0_papers v0_lowers v0_uppers v0_rules v0_bounds v0_boundCount v0_tieWay v0_reached) (Qi g .int (m_X6_takeLimits (v0_raws, v0_kinds, v0_figures, v0_heavies, v0_places, v0_papers, v0_lowers, v0_uppers, v0_rules, v0_bounds, v0_boundCount, v0_tieWay, v0_reached)) (fun u => u.1) (fun u => wX6 a0 g v0_raws v0_kinds v0_figures v0_heavies v0_places v0_papers v0_lowers v0_uppers v0_rules v0_bounds u.2 v0_tieWay v0_reached)) 0 0 := by
  obtain ⟨out, hf⟩ := ne_ex hne
  have hf0 := hf
  refine Ct.of (own := RX6) (by decide +kernel) rfl (Nat.le_of_ble_eq_true rfl) ?_
  intro p e s m below meth c hx hb hr hml hown hts hlocks hin hK A H locs hA hP hD hS hE ls hl
  have hl : lv_has ls 2 [(0, .ref (a0 0))] := hl
  unfold m_X6_takeLimits at hf
  refine lv_aload_n hx hb dX6_takeLimits_0 rfl (lv_at hl 0 rfl) ?_
  refine va_get (D := g.1) (ci := 7) (v := .int v0_boundCount) (C := RX6) (T := TX6) (N := 13) hx hb hts layX6 hown hK.1 hP 0 rfl rfl 10 (by decide) (hts _ kw59) (fun _ h9 => h9) rfl dX6_takeLimits_1 ?_
  refine lv_istore_n (lv' := [(1, .int v0_boundCount), (0, .ref (a0 0))]) hx hb dX6_takeLimits_4 rfl hl (by decide) rfl (fun ls hl => ?_)
  refine lv_aload_n hx hb dX6_takeLimits_5 rfl (lv_at hl 1 rfl) ?_
  refine lv_iconst (v := 0) hx hb dX6_takeLimits_6 (by decide) ?_
  refine va_put (D := g.1) (ci := 7) (v := .int (0 : Int32)) (ty := .int) (C := RX6) (T := TX6) (N := 13) hx hb hts layX6 tyX6 tyX6_ok nmX6 hown hK.1 hP hD hS 0 rfl rfl 10 (by decide) (hts _ kw59) (fun _ h9 => h9) rfl (tyX6_ok 10 (by decide)) rfl rfl (Nat.le_of_ble_eq_true rfl) dX6_takeLimits_7 (fun H locs hP hD hS => ?_)
  have hP : va_P g.1 vwCl (wX6 a0 g v0_raws v0_kinds v0_figures v0_heavies v0_places v0_papers v0_lowers v0_uppers v0_rules v0_bounds (0 : Int32) v0_tieWay v0_reached) H := hP
  have hD : va_D A (wX6 a0 g v0_raws v0_kinds v0_figures v0_heavies v0_places v0_papers v0_lowers v0_uppers v0_rules v0_bounds (0 : Int32) v0_tieWay v0_reached) := hD
  refine lv_iload_n hx hb dX6_takeLimits_10 rfl (lv_at hl 0 rfl) ?_
  exact retI (v := v0_boundCount) (u := (v0_boundCount, (0 : Int32))) (val := fun u => u.1) (W1 := fun u => wX6 a0 g v0_raws v0_kinds v0_figures v0_heavies v0_places v0_papers v0_lowers v0_uppers v0_rules v0_bounds u.2 v0_tieWay v0_reached) hx hb hr hlocks hS hP hD (hf0.trans hf.symm) rfl rfl dX6_takeLimits_11
set_option maxHeartbeats 4000000 in
set_option maxRecDepth 100000 in
theorem c_X6_setTies (l : Launch) (g : GG) (a0 : Nat → Nat) (v0_raws : (Nat → Int32)) (v0_kinds : (Nat → Int32)) (v0_figures : (Nat → Int32)) (v0_heavies : (Nat → Int32)) (v0_places : (Nat → Int32)) (v0_papers : Int32) (v0_lowers : (Nat → Int32)) (v0_uppers : (Nat → Int32)) (v0_rules : Int32) (v0_bounds : (Nat → Int32)) (v0_boundCount : Int32) (v0_tieWay : Int32) (v0_reached : (Nat → Int32)) (p1 : Int32) (hne : (m_X6_setTies (v0_raws, v0_kinds, v0_figures, v0_heavies, v0_places, v0_papers, v0_lowers, v0_uppers, v0_rules, v0_bounds, v0_boundCount, v0_tieWay, v0_reached) p1) ≠ none) : Ct l g yX6_setTies cX6_setTies 3 (some .int) ({ frames := 0, cells := 0, slots := 0, locals := 0 } : Room) [.ref (a0 0), .int p1] (wX6 a0 g v0_raws v0_kinds v0_figures v0_heavies v0_places v0_papers v0_lowers v0_uppers v0_rules v0_bounds v0_boundCount v0_tieWay v0_reached) (Qi g .int (m_X6_setTies (v0_raws, v0_kinds, v0_figures, v0_heavies, v0_places, v0_papers, v0_lowers, v0_uppers, v0_rules, v0_bounds, v0_boundCount, v0_tieWay, v0_reached) p1) (fun u => u.1) (fun u => wX6 a0 g v0_raws v0_kinds v0_figures v0_heavies v0_places v0_papers v0_lowers v0_uppers v0_rules v0_bounds v0_boundCount u.2 v0_reached)) 0 0 := by
  obtain ⟨out, hf⟩ := ne_ex hne
  have hf0 := hf
  refine Ct.of (own := RX6) (by decide +kernel) rfl (Nat.le_of_ble_eq_true rfl) ?_
  intro p e s m below meth c hx hb hr hml hown hts hlocks hin hK A H locs hA hP hD hS hE ls hl
  have hl : lv_has ls 3 [(0, .ref (a0 0)), (1, .int p1)] := hl
  unfold m_X6_setTies at hf
  refine lv_iload_n hx hb dX6_setTies_0 rfl (lv_at hl 1 rfl) ?_
  refine lv_if_lt (tgt := 9) hx hb dX6_setTies_1 (by decide) (fun cb => ?_) (fun cb => ?_)
  · have hf := it_t cb hf
    refine lv_bipush (v := (-2)) hx hb dX6_setTies_9 (by decide) ?_
    exact retI (v := (-2 : Int32)) (u := ((-2 : Int32), v0_tieWay)) (val := fun u => u.1) (W1 := fun u => wX6 a0 g v0_raws v0_kinds v0_figures v0_heavies v0_places v0_papers v0_lowers v0_uppers v0_rules v0_bounds v0_boundCount u.2 v0_reached) hx hb hr hlocks hS hP hD (hf0.trans hf.symm) rfl rfl dX6_setTies_11
  have hf := it_f cb hf
  refine lv_iload_n hx hb dX6_setTies_4 rfl (lv_at hl 1 rfl) ?_
  refine lv_iconst (v := 2) hx hb dX6_setTies_5 (by decide) ?_
  refine lv_icmp_le (tgt := 12) hx hb dX6_setTies_6 (by decide) (fun cb => ?_) (fun cb => ?_)
  · have hf := it_t cb hf
    refine lv_aload_n hx hb dX6_setTies_12 rfl (lv_at hl 0 rfl) ?_
    refine va_get (D := g.1) (ci := 7) (v := .int v0_tieWay) (C := RX6) (T := TX6) (N := 13) hx hb hts layX6 hown hK.1 hP 0 rfl rfl 11 (by decide) (hts _ kw60) (fun _ h9 => h9) rfl dX6_setTies_13 ?_
    refine lv_istore_n (lv' := [(2, .int v0_tieWay), (0, .ref (a0 0)), (1, .int p1)]) hx hb dX6_setTies_16 rfl hl (by decide) rfl (fun ls hl => ?_)
    refine lv_aload_n hx hb dX6_setTies_17 rfl (lv_at hl 1 rfl) ?_
    refine lv_iload_n hx hb dX6_setTies_18 rfl (lv_at hl 2 rfl) ?_
    refine va_put (D := g.1) (ci := 7) (v := .int p1) (ty := .int) (C := RX6) (T := TX6) (N := 13) hx hb hts layX6 tyX6 tyX6_ok nmX6 hown hK.1 hP hD hS 0 rfl rfl 11 (by decide) (hts _ kw60) (fun _ h9 => h9) rfl (tyX6_ok 11 (by decide)) rfl rfl (Nat.le_of_ble_eq_true rfl) dX6_setTies_19 (fun H locs hP hD hS => ?_)
    have hP : va_P g.1 vwCl (wX6 a0 g v0_raws v0_kinds v0_figures v0_heavies v0_places v0_papers v0_lowers v0_uppers v0_rules v0_bounds v0_boundCount p1 v0_reached) H := hP
    have hD : va_D A (wX6 a0 g v0_raws v0_kinds v0_figures v0_heavies v0_places v0_papers v0_lowers v0_uppers v0_rules v0_bounds v0_boundCount p1 v0_reached) := hD
    refine lv_iload_n hx hb dX6_setTies_22 rfl (lv_at hl 0 rfl) ?_
    exact retI (v := v0_tieWay) (u := (v0_tieWay, p1)) (val := fun u => u.1) (W1 := fun u => wX6 a0 g v0_raws v0_kinds v0_figures v0_heavies v0_places v0_papers v0_lowers v0_uppers v0_rules v0_bounds v0_boundCount u.2 v0_reached) hx hb hr hlocks hS hP hD (hf0.trans hf.symm) rfl rfl dX6_setTies_23
  have hf := it_f cb hf
  refine lv_bipush (v := (-2)) hx hb dX6_setTies_9 (by decide) ?_
  exact retI (v := (-2 : Int32)) (u := ((-2 : Int32), v0_tieWay)) (val := fun u => u.1) (W1 := fun u => wX6 a0 g v0_raws v0_kinds v0_figures v0_heavies v0_places v0_papers v0_lowers v0_uppers v0_rules v0_bounds v0_boundCount u.2 v0_reached) hx hb hr hlocks hS hP hD (hf0.trans hf.symm) rfl rfl dX6_setTies_11
set_option maxHeartbeats 4000000 in
set_option maxRecDepth 100000 in
theorem c_X3_numberAt (l : Launch) (g : GG) (a0 : Nat → Nat) (v0_signs : (Nat → Int32)) (v0_numbers : (Nat → Int32)) (v0_size : Int32) (v0_at : Int32) (v0_word : Int32) (p1 : Int32) (hne : (m_X3_numberAt (v0_signs, v0_numbers, v0_size, v0_at, v0_word) p1) ≠ none) : Ct l g yX3_numberAt cX3_numberAt 2 (some .int) ({ frames := 1, cells := 0, slots := 0, locals := 21 } : Room) [.ref (a0 0), .int p1] (wX3 a0 g v0_signs v0_numbers v0_size v0_at v0_word) (Qi g .int (m_X3_numberAt (v0_signs, v0_numbers, v0_size, v0_at, v0_word) p1) (fun u => u) (fun u => wX3 a0 g v0_signs v0_numbers v0_size v0_at v0_word)) 0 0 := by
  obtain ⟨out, hf⟩ := ne_ex hne
  have hf0 := hf
  refine Ct.of (own := RX3) (by decide +kernel) rfl (Nat.le_of_ble_eq_true rfl) ?_
  intro p e s m below meth c hx hb hr hml hown hts hlocks hin hK A H locs hA hP hD hS hE ls hl
  have hl : lv_has ls 2 [(0, .ref (a0 0)), (1, .int p1)] := hl
  unfold m_X3_numberAt at hf
  refine lv_aload_n hx hb dX3_numberAt_0 rfl (lv_at hl 0 rfl) ?_
  refine va_get (D := g.1) (ci := 4) (v := .ref (a0 3)) (C := RX3) (T := TX3) (N := 5) hx hb hts layX3 hown hK.1 hP 0 rfl rfl 1 (by decide) (hts _ kw84) (fun _ h9 => h9) rfl dX3_numberAt_1 ?_
  refine lv_iload_n hx hb dX3_numberAt_4 rfl (lv_at hl 1 rfl) ?_
  refine cIp hP hD hS hA hE (fun hPc hDc hSc => rV (As := [.int p1]) (rest := []) hx hb hml hown hts hK (c_X2_get l g (fun i => a0 (i + 3)) 3 v0_numbers p1 (bnd_ne hf)) svV_X2_get kw321 rfl rfl hPc hDc hSc rfl rfl hl.1 (Nat.le_of_ble_eq_true rfl) dX3_numberAt_5 ⟨Nat.le_of_ble_eq_true rfl, Nat.le_of_ble_eq_true rfl, rfl, rfl, Nat.le_of_ble_eq_true rfl, Nat.le_of_ble_eq_true rfl⟩) [(3, 2)] rfl rfl rfl (fun x1 H locs ex1 nx1 hP hS => ?_)
  have hf := bnd_of hf ex1
  exact retI (v := x1) (u := x1) (val := fun u => u) (W1 := fun u => wX3 a0 g v0_signs v0_numbers v0_size v0_at v0_word) hx hb hr hlocks hS hP hD (hf0.trans hf.symm) rfl rfl dX3_numberAt_8
set_option maxHeartbeats 4000000 in
set_option maxRecDepth 100000 in
theorem c_X3_wordRead (l : Launch) (g : GG) (a0 : Nat → Nat) (v0_signs : (Nat → Int32)) (v0_numbers : (Nat → Int32)) (v0_size : Int32) (v0_at : Int32) (v0_word : Int32) (hne : (m_X3_wordRead (v0_signs, v0_numbers, v0_size, v0_at, v0_word)) ≠ none) : Ct l g yX3_wordRead cX3_wordRead 1 (some .int) ({ frames := 0, cells := 0, slots := 0, locals := 0 } : Room) [.ref (a0 0)] (wX3 a0 g v0_signs v0_numbers v0_size v0_at v0_word) (Qi g .int (m_X3_wordRead (v0_signs, v0_numbers, v0_size, v0_at, v0_word)) (fun u => u) (fun u => wX3 a0 g v0_signs v0_numbers v0_size v0_at v0_word)) 0 0 := by
  obtain ⟨out, hf⟩ := ne_ex hne
  have hf0 := hf
  refine Ct.of (own := RX3) (by decide +kernel) rfl (Nat.le_of_ble_eq_true rfl) ?_
  intro p e s m below meth c hx hb hr hml hown hts hlocks hin hK A H locs hA hP hD hS hE ls hl
  have hl : lv_has ls 1 [(0, .ref (a0 0))] := hl
  unfold m_X3_wordRead at hf
  refine lv_aload_n hx hb dX3_wordRead_0 rfl (lv_at hl 0 rfl) ?_
  refine va_get (D := g.1) (ci := 4) (v := .int v0_word) (C := RX3) (T := TX3) (N := 5) hx hb hts layX3 hown hK.1 hP 0 rfl rfl 4 (by decide) (hts _ kw87) (fun _ h9 => h9) rfl dX3_wordRead_1 ?_
  exact retI (v := v0_word) (u := v0_word) (val := fun u => u) (W1 := fun u => wX3 a0 g v0_signs v0_numbers v0_size v0_at v0_word) hx hb hr hlocks hS hP hD (hf0.trans hf.symm) rfl rfl dX3_wordRead_4
set_option maxHeartbeats 4000000 in
set_option maxRecDepth 100000 in
theorem c_X6_take (l : Launch) (g : GG) (a0 : Nat → Nat) (v0_raws : (Nat → Int32)) (v0_kinds : (Nat → Int32)) (v0_figures : (Nat → Int32)) (v0_heavies : (Nat → Int32)) (v0_places : (Nat → Int32)) (v0_papers : Int32) (v0_lowers : (Nat → Int32)) (v0_uppers : (Nat → Int32)) (v0_rules : Int32) (v0_bounds : (Nat → Int32)) (v0_boundCount : Int32) (v0_tieWay : Int32) (v0_reached : (Nat → Int32)) (a1 : Nat → Nat) (v1_signs : (Nat → Int32)) (v1_numbers : (Nat → Int32)) (v1_size : Int32) (v1_at : Int32) (v1_word : Int32) (hne : (m_X6_take (v0_raws, v0_kinds, v0_figures, v0_heavies, v0_places, v0_papers, v0_lowers, v0_uppers, v0_rules, v0_bounds, v0_boundCount, v0_tieWay, v0_reached) (v1_signs, v1_numbers, v1_size, v1_at, v1_word)) ≠ none) : Ct l g yX6_take cX6_take 4 (some .int) ({ frames := 4, cells := 0, slots := 0, locals := 94 } : Room) [.ref (a0 0), .ref (a1 0)] (wX6 a0 g v0_raws v0_kinds v0_figures v0_heavies v0_places v0_papers v0_lowers v0_uppers v0_rules v0_bounds v0_boundCount v0_tieWay v0_reached ++ wX3 a1 g v1_signs v1_numbers v1_size v1_at v1_word) (Qi g .int (m_X6_take (v0_raws, v0_kinds, v0_figures, v0_heavies, v0_places, v0_papers, v0_lowers, v0_uppers, v0_rules, v0_bounds, v0_boundCount, v0_tieWay, v0_reached) (v1_signs, v1_numbers, v1_size, v1_at, v1_word)) (fun u => u.1) (fun u => wX6 a0 g u.2.1 u.2.2.1 u.2.2.2.1 u.2.2.2.2.1 u.2.2.2.2.2.1 u.2.2.2.2.2.2.1 u.2.2.2.2.2.2.2.1 u.2.2.2.2.2.2.2.2.1 u.2.2.2.2.2.2.2.2.2.1 u.2.2.2.2.2.2.2.2.2.2.1 u.2.2.2.2.2.2.2.2.2.2.2.1 u.2.2.2.2.2.2.2.2.2.2.2.2.1 u.2.2.2.2.2.2.2.2.2.2.2.2.2 ++ wX3 a1 g v1_signs v1_numbers v1_size v1_at v1_word)) 0 0 := by
  obtain ⟨out, hf⟩ := ne_ex hne
  have hf0 := hf
  refine Ct.of (own := RX6) (by decide +kernel) rfl (Nat.le_of_ble_eq_true rfl) ?_
  intro p e s m below meth c hx hb hr hml hown hts hlocks hin hK A H locs hA hP hD hS hE ls hl
  have hl : lv_has ls 4 [(0, .ref (a0 0)), (1, .ref (a1 0))] := hl
  unfold m_X6_take at hf
  refine lv_aload_n hx hb dX6_take_0 rfl (lv_at hl 1 rfl) ?_
  refine lv_iconst (v := 0) hx hb dX6_take_1 (by decide) ?_
  refine cIp hP hD hS hA hE (fun hPc hDc hSc => rV (As := [.int (0 : Int32)]) (rest := []) hx hb hml hown hts hK (c_X3_numberAt l g a1 v1_signs v1_numbers v1_size v1_at v1_word (0 : Int32) (bnd_ne hf)) svV_X3_numberAt kw396 rfl rfl hPc hDc hSc rfl rfl hl.1 (Nat.le_of_ble_eq_true rfl) dX6_take_2 ⟨Nat.le_of_ble_eq_true rfl, Nat.le_of_ble_eq_true rfl, rfl, rfl, Nat.le_of_ble_eq_true rfl, Nat.le_of_ble_eq_true rfl⟩) [(19, 5)] rfl rfl rfl (fun x1 H locs ex1 nx1 hP hS => ?_)
  have hf := bnd_of hf ex1
  refine lv_istore_n (lv' := [(2, .int x1), (0, .ref (a0 0)), (1, .ref (a1 0))]) hx hb dX6_take_5 rfl hl (by decide) rfl (fun ls hl => ?_)
  refine lv_aload_n hx hb dX6_take_6 rfl (lv_at hl 2 rfl) ?_
  refine lv_iconst (v := 1) hx hb dX6_take_7 (by decide) ?_
  refine cIp hP hD hS hA hE (fun hPc hDc hSc => rV (As := [.int (1 : Int32)]) (rest := []) hx hb hml hown hts hK (c_X3_numberAt l g a1 v1_signs v1_numbers v1_size v1_at v1_word (1 : Int32) (bnd_ne hf)) svV_X3_numberAt kw396 rfl rfl hPc hDc hSc rfl rfl hl.1 (Nat.le_of_ble_eq_true rfl) dX6_take_8 ⟨Nat.le_of_ble_eq_true rfl, Nat.le_of_ble_eq_true rfl, rfl, rfl, Nat.le_of_ble_eq_true rfl, Nat.le_of_ble_eq_true rfl⟩) [(19, 5)] rfl rfl rfl (fun x2 H locs ex2 nx2 hP hS => ?_)
  have hf := bnd_of hf ex2
  refine lv_istore_n (lv' := [(3, .int x2), (2, .int x1), (0, .ref (a0 0)), (1, .ref (a1 0))]) hx hb dX6_take_11 rfl hl (by decide) rfl (fun ls hl => ?_)
  refine lv_aload_n hx hb dX6_take_12 rfl (lv_at hl 3 rfl) ?_
  refine cIp hP hD hS hA hE (fun hPc hDc hSc => rV (As := []) (rest := []) hx hb hml hown hts hK (c_X3_wordRead l g a1 v1_signs v1_numbers v1_size v1_at v1_word (bnd_ne hf)) svV_X3_wordRead kw400 rfl rfl hPc hDc hSc rfl rfl hl.1 (Nat.le_of_ble_eq_true rfl) dX6_take_13 ⟨Nat.le_of_ble_eq_true rfl, Nat.le_of_ble_eq_true rfl, rfl, rfl, Nat.le_of_ble_eq_true rfl, Nat.le_of_ble_eq_true rfl⟩) [(19, 5)] rfl rfl rfl (fun x3 H locs ex3 nx3 hP hS => ?_)
  have hf := bnd_of hf ex3
  by_cases c0 : x3 = (0 : Int32)
  · have hf := it_t c0 hf
    refine lv_tableIn (off := 48) (tgt := 64) hx hb dX6_take_16 (by rw [c0]; decide) (by rw [c0]; decide) (by rw [c0]; rfl) (by decide) ?_
    refine lv_aload_n hx hb dX6_take_64 rfl (lv_at hl 2 rfl) ?_
    refine lv_iload_n hx hb dX6_take_65 rfl (lv_at hl 1 rfl) ?_
    refine cI hP hD hS hA hE (fun hPc hDc hSc => rV (As := [.int x1]) (rest := []) hx hb hml hown hts hK (c_X6_addPaper l g a0 v0_raws v0_kinds v0_figures v0_heavies v0_places v0_papers v0_lowers v0_uppers v0_rules v0_bounds v0_boundCount v0_tieWay v0_reached x1 (bnd_ne hf)) svV_X6_addPaper kw404 rfl rfl hPc hDc hSc rfl rfl hl.1 (Nat.le_of_ble_eq_true rfl) dX6_take_66 ⟨Nat.le_of_ble_eq_true rfl, Nat.le_of_ble_eq_true rfl, rfl, rfl, Nat.le_of_ble_eq_true rfl, Nat.le_of_ble_eq_true rfl⟩) [(0, 19)] rfl rfl rfl (fun _ => rfl) (fun x4 H locs ex4 nx4 hP hD hS => ?_)
    have hf := bnd_of hf ex4
    have hP : va_P g.1 vwCl (wX6 a0 g x4.2.1 x4.2.2.1 x4.2.2.2.1 x4.2.2.2.2.1 x4.2.2.2.2.2.1 x4.2.2.2.2.2.2 v0_lowers v0_uppers v0_rules v0_bounds v0_boundCount v0_tieWay v0_reached ++ wX3 a1 g v1_signs v1_numbers v1_size v1_at v1_word) H := hP
    have hD : va_D A (wX6 a0 g x4.2.1 x4.2.2.1 x4.2.2.2.1 x4.2.2.2.2.1 x4.2.2.2.2.2.1 x4.2.2.2.2.2.2 v0_lowers v0_uppers v0_rules v0_bounds v0_boundCount v0_tieWay v0_reached ++ wX3 a1 g v1_signs v1_numbers v1_size v1_at v1_word) := hD
    exact retI (v := x4.1) (u := (x4.1, x4.2.1, x4.2.2.1, x4.2.2.2.1, x4.2.2.2.2.1, x4.2.2.2.2.2.1, x4.2.2.2.2.2.2, v0_lowers, v0_uppers, v0_rules, v0_bounds, v0_boundCount, v0_tieWay, v0_reached)) (val := fun u => u.1) (W1 := fun u => wX6 a0 g u.2.1 u.2.2.1 u.2.2.2.1 u.2.2.2.2.1 u.2.2.2.2.2.1 u.2.2.2.2.2.2.1 u.2.2.2.2.2.2.2.1 u.2.2.2.2.2.2.2.2.1 u.2.2.2.2.2.2.2.2.2.1 u.2.2.2.2.2.2.2.2.2.2.1 u.2.2.2.2.2.2.2.2.2.2.2.1 u.2.2.2.2.2.2.2.2.2.2.2.2.1 u.2.2.2.2.2.2.2.2.2.2.2.2.2 ++ wX3 a1 g v1_signs v1_numbers v1_size v1_at v1_word) hx hb hr hlocks hS hP hD (hf0.trans hf.symm) rfl rfl dX6_take_69
  have hf := it_f c0 hf
  by_cases c1 : x3 = (1 : Int32)
  · have hf := it_t c1 hf
    refine lv_tableIn (off := 54) (tgt := 70) hx hb dX6_take_16 (by rw [c1]; decide) (by rw [c1]; decide) (by rw [c1]; rfl) (by decide) ?_
    refine lv_aload_n hx hb dX6_take_70 rfl (lv_at hl 2 rfl) ?_
    refine lv_iload_n hx hb dX6_take_71 rfl (lv_at hl 1 rfl) ?_
    refine lv_iload_n hx hb dX6_take_72 rfl (lv_at hl 0 rfl) ?_
    refine lv_aload_n hx hb dX6_take_73 rfl (lv_at hl 3 rfl) ?_
    refine lv_iconst (v := 2) hx hb dX6_take_74 (by decide) ?_
    refine cIp hP hD hS hA hE (fun hPc hDc hSc => rV (As := [.int (2 : Int32)]) (rest := [.int x2, .int x1, .ref (a0 0)]) hx hb hml hown hts hK (c_X3_numberAt l g a1 v1_signs v1_numbers v1_size v1_at v1_word (2 : Int32) (bnd_ne hf)) svV_X3_numberAt kw396 rfl rfl hPc hDc hSc rfl rfl hl.1 (Nat.le_of_ble_eq_true rfl) dX6_take_75 ⟨Nat.le_of_ble_eq_true rfl, Nat.le_of_ble_eq_true rfl, rfl, rfl, Nat.le_of_ble_eq_true rfl, Nat.le_of_ble_eq_true rfl⟩) [(19, 5)] rfl rfl rfl (fun x5 H locs ex5 nx5 hP hS => ?_)
    have hf := bnd_of hf ex5
    refine cI hP hD hS hA hE (fun hPc hDc hSc => rV (As := [.int x1, .int x2, .int x5]) (rest := []) hx hb hml hown hts hK (c_X6_setKind l g a0 v0_raws v0_kinds v0_figures v0_heavies v0_places v0_papers v0_lowers v0_uppers v0_rules v0_bounds v0_boundCount v0_tieWay v0_reached x1 x2 x5 (bnd_ne hf)) svV_X6_setKind kw409 rfl rfl hPc hDc hSc rfl rfl hl.1 (Nat.le_of_ble_eq_true rfl) dX6_take_78 ⟨Nat.le_of_ble_eq_true rfl, Nat.le_of_ble_eq_true rfl, rfl, rfl, Nat.le_of_ble_eq_true rfl, Nat.le_of_ble_eq_true rfl⟩) [(0, 19)] rfl rfl rfl (fun _ => rfl) (fun x6 H locs ex6 nx6 hP hD hS => ?_)
    have hf := bnd_of hf ex6
    have hP : va_P g.1 vwCl (wX6 a0 g v0_raws x6.2.1 x6.2.2 v0_heavies v0_places v0_papers v0_lowers v0_uppers v0_rules v0_bounds v0_boundCount v0_tieWay v0_reached ++ wX3 a1 g v1_signs v1_numbers v1_size v1_at v1_word) H := hP
    have hD : va_D A (wX6 a0 g v0_raws x6.2.1 x6.2.2 v0_heavies v0_places v0_papers v0_lowers v0_uppers v0_rules v0_bounds v0_boundCount v0_tieWay v0_reached ++ wX3 a1 g v1_signs v1_numbers v1_size v1_at v1_word) := hD
    exact retI (v := x6.1) (u := (x6.1, v0_raws, x6.2.1, x6.2.2, v0_heavies, v0_places, v0_papers, v0_lowers, v0_uppers, v0_rules, v0_bounds, v0_boundCount, v0_tieWay, v0_reached)) (val := fun u => u.1) (W1 := fun u => wX6 a0 g u.2.1 u.2.2.1 u.2.2.2.1 u.2.2.2.2.1 u.2.2.2.2.2.1 u.2.2.2.2.2.2.1 u.2.2.2.2.2.2.2.1 u.2.2.2.2.2.2.2.2.1 u.2.2.2.2.2.2.2.2.2.1 u.2.2.2.2.2.2.2.2.2.2.1 u.2.2.2.2.2.2.2.2.2.2.2.1 u.2.2.2.2.2.2.2.2.2.2.2.2.1 u.2.2.2.2.2.2.2.2.2.2.2.2.2 ++ wX3 a1 g v1_signs v1_numbers v1_size v1_at v1_word) hx hb hr hlocks hS hP hD (hf0.trans hf.symm) rfl rfl dX6_take_81
  have hf := it_f c1 hf
  by_cases c2 : x3 = (2 : Int32)
  · have hf := it_t c2 hf
    refine lv_tableIn (off := 66) (tgt := 82) hx hb dX6_take_16 (by rw [c2]; decide) (by rw [c2]; decide) (by rw [c2]; rfl) (by decide) ?_
    refine lv_aload_n hx hb dX6_take_82 rfl (lv_at hl 2 rfl) ?_
    refine lv_iload_n hx hb dX6_take_83 rfl (lv_at hl 1 rfl) ?_
    refine lv_iload_n hx hb dX6_take_84 rfl (lv_at hl 0 rfl) ?_
    refine cI hP hD hS hA hE (fun hPc hDc hSc => rV (As := [.int x1, .int x2]) (rest := []) hx hb hml hown hts hK (c_X6_setHeavy l g a0 v0_raws v0_kinds v0_figures v0_heavies v0_places v0_papers v0_lowers v0_uppers v0_rules v0_bounds v0_boundCount v0_tieWay v0_reached x1 x2 (bnd_ne hf)) svV_X6_setHeavy kw418 rfl rfl hPc hDc hSc rfl rfl hl.1 (Nat.le_of_ble_eq_true rfl) dX6_take_85 ⟨Nat.le_of_ble_eq_true rfl, Nat.le_of_ble_eq_true rfl, rfl, rfl, Nat.le_of_ble_eq_true rfl, Nat.le_of_ble_eq_true rfl⟩) [(0, 19)] rfl rfl rfl (fun _ => rfl) (fun x7 H locs ex7 nx7 hP hD hS => ?_)
    have hf := bnd_of hf ex7
    have hP : va_P g.1 vwCl (wX6 a0 g v0_raws v0_kinds v0_figures x7.2 v0_places v0_papers v0_lowers v0_uppers v0_rules v0_bounds v0_boundCount v0_tieWay v0_reached ++ wX3 a1 g v1_signs v1_numbers v1_size v1_at v1_word) H := hP
    have hD : va_D A (wX6 a0 g v0_raws v0_kinds v0_figures x7.2 v0_places v0_papers v0_lowers v0_uppers v0_rules v0_bounds v0_boundCount v0_tieWay v0_reached ++ wX3 a1 g v1_signs v1_numbers v1_size v1_at v1_word) := hD
    exact retI (v := x7.1) (u := (x7.1, v0_raws, v0_kinds, v0_figures, x7.2, v0_places, v0_papers, v0_lowers, v0_uppers, v0_rules, v0_bounds, v0_boundCount, v0_tieWay, v0_reached)) (val := fun u => u.1) (W1 := fun u => wX6 a0 g u.2.1 u.2.2.1 u.2.2.2.1 u.2.2.2.2.1 u.2.2.2.2.2.1 u.2.2.2.2.2.2.1 u.2.2.2.2.2.2.2.1 u.2.2.2.2.2.2.2.2.1 u.2.2.2.2.2.2.2.2.2.1 u.2.2.2.2.2.2.2.2.2.2.1 u.2.2.2.2.2.2.2.2.2.2.2.1 u.2.2.2.2.2.2.2.2.2.2.2.2.1 u.2.2.2.2.2.2.2.2.2.2.2.2.2 ++ wX3 a1 g v1_signs v1_numbers v1_size v1_at v1_word) hx hb hr hlocks hS hP hD (hf0.trans hf.symm) rfl rfl dX6_take_88
  have hf := it_f c2 hf
  by_cases c3 : x3 = (3 : Int32)
  · have hf := it_t c3 hf
    refine lv_tableIn (off := 73) (tgt := 89) hx hb dX6_take_16 (by rw [c3]; decide) (by rw [c3]; decide) (by rw [c3]; rfl) (by decide) ?_
    refine lv_aload_n hx hb dX6_take_89 rfl (lv_at hl 2 rfl) ?_
    refine lv_iload_n hx hb dX6_take_90 rfl (lv_at hl 1 rfl) ?_
    refine lv_iload_n hx hb dX6_take_91 rfl (lv_at hl 0 rfl) ?_
    refine cI hP hD hS hA hE (fun hPc hDc hSc => rV (As := [.int x1, .int x2]) (rest := []) hx hb hml hown hts hK (c_X6_setPlace l g a0 v0_raws v0_kinds v0_figures v0_heavies v0_places v0_papers v0_lowers v0_uppers v0_rules v0_bounds v0_boundCount v0_tieWay v0_reached x1 x2 (bnd_ne hf)) svV_X6_setPlace kw425 rfl rfl hPc hDc hSc rfl rfl hl.1 (Nat.le_of_ble_eq_true rfl) dX6_take_92 ⟨Nat.le_of_ble_eq_true rfl, Nat.le_of_ble_eq_true rfl, rfl, rfl, Nat.le_of_ble_eq_true rfl, Nat.le_of_ble_eq_true rfl⟩) [(0, 19)] rfl rfl rfl (fun _ => rfl) (fun x8 H locs ex8 nx8 hP hD hS => ?_)
    have hf := bnd_of hf ex8
    have hP : va_P g.1 vwCl (wX6 a0 g v0_raws v0_kinds v0_figures v0_heavies x8.2 v0_papers v0_lowers v0_uppers v0_rules v0_bounds v0_boundCount v0_tieWay v0_reached ++ wX3 a1 g v1_signs v1_numbers v1_size v1_at v1_word) H := hP
    have hD : va_D A (wX6 a0 g v0_raws v0_kinds v0_figures v0_heavies x8.2 v0_papers v0_lowers v0_uppers v0_rules v0_bounds v0_boundCount v0_tieWay v0_reached ++ wX3 a1 g v1_signs v1_numbers v1_size v1_at v1_word) := hD
    exact retI (v := x8.1) (u := (x8.1, v0_raws, v0_kinds, v0_figures, v0_heavies, x8.2, v0_papers, v0_lowers, v0_uppers, v0_rules, v0_bounds, v0_boundCount, v0_tieWay, v0_reached)) (val := fun u => u.1) (W1 := fun u => wX6 a0 g u.2.1 u.2.2.1 u.2.2.2.1 u.2.2.2.2.1 u.2.2.2.2.2.1 u.2.2.2.2.2.2.1 u.2.2.2.2.2.2.2.1 u.2.2.2.2.2.2.2.2.1 u.2.2.2.2.2.2.2.2.2.1 u.2.2.2.2.2.2.2.2.2.2.1 u.2.2.2.2.2.2.2.2.2.2.2.1 u.2.2.2.2.2.2.2.2.2.2.2.2.1 u.2.2.2.2.2.2.2.2.2.2.2.2.2 ++ wX3 a1 g v1_signs v1_numbers v1_size v1_at v1_word) hx hb hr hlocks hS hP hD (hf0.trans hf.symm) rfl rfl dX6_take_95
  have hf := it_f c3 hf
  by_cases c4 : x3 = (4 : Int32)
  · have hf := it_t c4 hf
    refine lv_tableIn (off := 80) (tgt := 96) hx hb dX6_take_16 (by rw [c4]; decide) (by rw [c4]; decide) (by rw [c4]; rfl) (by decide) ?_
    refine lv_aload_n hx hb dX6_take_96 rfl (lv_at hl 2 rfl) ?_
    refine lv_iload_n hx hb dX6_take_97 rfl (lv_at hl 1 rfl) ?_
    refine lv_iload_n hx hb dX6_take_98 rfl (lv_at hl 0 rfl) ?_
    refine cI hP hD hS hA hE (fun hPc hDc hSc => rV (As := [.int x1, .int x2]) (rest := []) hx hb hml hown hts hK (c_X6_addRule l g a0 v0_raws v0_kinds v0_figures v0_heavies v0_places v0_papers v0_lowers v0_uppers v0_rules v0_bounds v0_boundCount v0_tieWay v0_reached x1 x2 (bnd_ne hf)) svV_X6_addRule kw429 rfl rfl hPc hDc hSc rfl rfl hl.1 (Nat.le_of_ble_eq_true rfl) dX6_take_99 ⟨Nat.le_of_ble_eq_true rfl, Nat.le_of_ble_eq_true rfl, rfl, rfl, Nat.le_of_ble_eq_true rfl, Nat.le_of_ble_eq_true rfl⟩) [(0, 19)] rfl rfl rfl (fun _ => rfl) (fun x9 H locs ex9 nx9 hP hD hS => ?_)
    have hf := bnd_of hf ex9
    have hP : va_P g.1 vwCl (wX6 a0 g v0_raws v0_kinds v0_figures v0_heavies v0_places v0_papers x9.2.1 x9.2.2.1 x9.2.2.2.1 v0_bounds v0_boundCount v0_tieWay x9.2.2.2.2 ++ wX3 a1 g v1_signs v1_numbers v1_size v1_at v1_word) H := hP
    have hD : va_D A (wX6 a0 g v0_raws v0_kinds v0_figures v0_heavies v0_places v0_papers x9.2.1 x9.2.2.1 x9.2.2.2.1 v0_bounds v0_boundCount v0_tieWay x9.2.2.2.2 ++ wX3 a1 g v1_signs v1_numbers v1_size v1_at v1_word) := hD
    exact retI (v := x9.1) (u := (x9.1, v0_raws, v0_kinds, v0_figures, v0_heavies, v0_places, v0_papers, x9.2.1, x9.2.2.1, x9.2.2.2.1, v0_bounds, v0_boundCount, v0_tieWay, x9.2.2.2.2)) (val := fun u => u.1) (W1 := fun u => wX6 a0 g u.2.1 u.2.2.1 u.2.2.2.1 u.2.2.2.2.1 u.2.2.2.2.2.1 u.2.2.2.2.2.2.1 u.2.2.2.2.2.2.2.1 u.2.2.2.2.2.2.2.2.1 u.2.2.2.2.2.2.2.2.2.1 u.2.2.2.2.2.2.2.2.2.2.1 u.2.2.2.2.2.2.2.2.2.2.2.1 u.2.2.2.2.2.2.2.2.2.2.2.2.1 u.2.2.2.2.2.2.2.2.2.2.2.2.2 ++ wX3 a1 g v1_signs v1_numbers v1_size v1_at v1_word) hx hb hr hlocks hS hP hD (hf0.trans hf.symm) rfl rfl dX6_take_102
  have hf := it_f c4 hf
  by_cases c5 : x3 = (5 : Int32)
  · have hf := it_t c5 hf
    refine lv_tableIn (off := 87) (tgt := 103) hx hb dX6_take_16 (by rw [c5]; decide) (by rw [c5]; decide) (by rw [c5]; rfl) (by decide) ?_
    refine lv_aload_n hx hb dX6_take_103 rfl (lv_at hl 2 rfl) ?_
    refine lv_iload_n hx hb dX6_take_104 rfl (lv_at hl 1 rfl) ?_
    refine cI hP hD hS hA hE (fun hPc hDc hSc => rV (As := [.int x1]) (rest := []) hx hb hml hown hts hK (c_X6_takeRule l g a0 v0_raws v0_kinds v0_figures v0_heavies v0_places v0_papers v0_lowers v0_uppers v0_rules v0_bounds v0_boundCount v0_tieWay v0_reached x1 (bnd_ne hf)) svV_X6_takeRule kw450 rfl rfl hPc hDc hSc rfl rfl hl.1 (Nat.le_of_ble_eq_true rfl) dX6_take_105 ⟨Nat.le_of_ble_eq_true rfl, Nat.le_of_ble_eq_true rfl, rfl, rfl, Nat.le_of_ble_eq_true rfl, Nat.le_of_ble_eq_true rfl⟩) [(0, 19)] rfl rfl rfl (fun _ => rfl) (fun x10 H locs ex10 nx10 hP hD hS => ?_)
    have hf := bnd_of hf ex10
    have hP : va_P g.1 vwCl (wX6 a0 g v0_raws v0_kinds v0_figures v0_heavies v0_places v0_papers x10.2.1 x10.2.2.1 x10.2.2.2 v0_bounds v0_boundCount v0_tieWay v0_reached ++ wX3 a1 g v1_signs v1_numbers v1_size v1_at v1_word) H := hP
    have hD : va_D A (wX6 a0 g v0_raws v0_kinds v0_figures v0_heavies v0_places v0_papers x10.2.1 x10.2.2.1 x10.2.2.2 v0_bounds v0_boundCount v0_tieWay v0_reached ++ wX3 a1 g v1_signs v1_numbers v1_size v1_at v1_word) := hD
    exact retI (v := x10.1) (u := (x10.1, v0_raws, v0_kinds, v0_figures, v0_heavies, v0_places, v0_papers, x10.2.1, x10.2.2.1, x10.2.2.2, v0_bounds, v0_boundCount, v0_tieWay, v0_reached)) (val := fun u => u.1) (W1 := fun u => wX6 a0 g u.2.1 u.2.2.1 u.2.2.2.1 u.2.2.2.2.1 u.2.2.2.2.2.1 u.2.2.2.2.2.2.1 u.2.2.2.2.2.2.2.1 u.2.2.2.2.2.2.2.2.1 u.2.2.2.2.2.2.2.2.2.1 u.2.2.2.2.2.2.2.2.2.2.1 u.2.2.2.2.2.2.2.2.2.2.2.1 u.2.2.2.2.2.2.2.2.2.2.2.2.1 u.2.2.2.2.2.2.2.2.2.2.2.2.2 ++ wX3 a1 g v1_signs v1_numbers v1_size v1_at v1_word) hx hb hr hlocks hS hP hD (hf0.trans hf.symm) rfl rfl dX6_take_108
  have hf := it_f c5 hf
  by_cases c6 : x3 = (6 : Int32)
  · have hf := it_t c6 hf
    refine lv_tableIn (off := 93) (tgt := 109) hx hb dX6_take_16 (by rw [c6]; decide) (by rw [c6]; decide) (by rw [c6]; rfl) (by decide) ?_
    refine lv_aload_n hx hb dX6_take_109 rfl (lv_at hl 2 rfl) ?_
    refine lv_iload_n hx hb dX6_take_110 rfl (lv_at hl 1 rfl) ?_
    refine cI hP hD hS hA hE (fun hPc hDc hSc => rV (As := [.int x1]) (rest := []) hx hb hml hown hts hK (c_X6_addLimit l g a0 v0_raws v0_kinds v0_figures v0_heavies v0_places v0_papers v0_lowers v0_uppers v0_rules v0_bounds v0_boundCount v0_tieWay v0_reached x1 (bnd_ne hf)) svV_X6_addLimit kw463 rfl rfl hPc hDc hSc rfl rfl hl.1 (Nat.le_of_ble_eq_true rfl) dX6_take_111 ⟨Nat.le_of_ble_eq_true rfl, Nat.le_of_ble_eq_true rfl, rfl, rfl, Nat.le_of_ble_eq_true rfl, Nat.le_of_ble_eq_true rfl⟩) [(0, 19)] rfl rfl rfl (fun _ => rfl) (fun x11 H locs ex11 nx11 hP hD hS => ?_)
    have hf := bnd_of hf ex11
    have hP : va_P g.1 vwCl (wX6 a0 g v0_raws v0_kinds v0_figures v0_heavies v0_places v0_papers v0_lowers v0_uppers v0_rules x11.2.1 x11.2.2 v0_tieWay v0_reached ++ wX3 a1 g v1_signs v1_numbers v1_size v1_at v1_word) H := hP
    have hD : va_D A (wX6 a0 g v0_raws v0_kinds v0_figures v0_heavies v0_places v0_papers v0_lowers v0_uppers v0_rules x11.2.1 x11.2.2 v0_tieWay v0_reached ++ wX3 a1 g v1_signs v1_numbers v1_size v1_at v1_word) := hD
    exact retI (v := x11.1) (u := (x11.1, v0_raws, v0_kinds, v0_figures, v0_heavies, v0_places, v0_papers, v0_lowers, v0_uppers, v0_rules, x11.2.1, x11.2.2, v0_tieWay, v0_reached)) (val := fun u => u.1) (W1 := fun u => wX6 a0 g u.2.1 u.2.2.1 u.2.2.2.1 u.2.2.2.2.1 u.2.2.2.2.2.1 u.2.2.2.2.2.2.1 u.2.2.2.2.2.2.2.1 u.2.2.2.2.2.2.2.2.1 u.2.2.2.2.2.2.2.2.2.1 u.2.2.2.2.2.2.2.2.2.2.1 u.2.2.2.2.2.2.2.2.2.2.2.1 u.2.2.2.2.2.2.2.2.2.2.2.2.1 u.2.2.2.2.2.2.2.2.2.2.2.2.2 ++ wX3 a1 g v1_signs v1_numbers v1_size v1_at v1_word) hx hb hr hlocks hS hP hD (hf0.trans hf.symm) rfl rfl dX6_take_114
  have hf := it_f c6 hf
  by_cases c7 : x3 = (7 : Int32)
  · have hf := it_t c7 hf
    refine lv_tableIn (off := 99) (tgt := 115) hx hb dX6_take_16 (by rw [c7]; decide) (by rw [c7]; decide) (by rw [c7]; rfl) (by decide) ?_
    refine lv_aload_n hx hb dX6_take_115 rfl (lv_at hl 2 rfl) ?_
    refine lv_iload_n hx hb dX6_take_116 rfl (lv_at hl 1 rfl) ?_
    refine cI hP hD hS hA hE (fun hPc hDc hSc => rV (As := [.int x1]) (rest := []) hx hb hml hown hts hK (c_X6_setTies l g a0 v0_raws v0_kinds v0_figures v0_heavies v0_places v0_papers v0_lowers v0_uppers v0_rules v0_bounds v0_boundCount v0_tieWay v0_reached x1 (bnd_ne hf)) svV_X6_setTies kw467 rfl rfl hPc hDc hSc rfl rfl hl.1 (Nat.le_of_ble_eq_true rfl) dX6_take_117 ⟨Nat.le_of_ble_eq_true rfl, Nat.le_of_ble_eq_true rfl, rfl, rfl, Nat.le_of_ble_eq_true rfl, Nat.le_of_ble_eq_true rfl⟩) [(0, 19)] rfl rfl rfl (fun _ => rfl) (fun x12 H locs ex12 nx12 hP hD hS => ?_)
    have hf := bnd_of hf ex12
    have hP : va_P g.1 vwCl (wX6 a0 g v0_raws v0_kinds v0_figures v0_heavies v0_places v0_papers v0_lowers v0_uppers v0_rules v0_bounds v0_boundCount x12.2 v0_reached ++ wX3 a1 g v1_signs v1_numbers v1_size v1_at v1_word) H := hP
    have hD : va_D A (wX6 a0 g v0_raws v0_kinds v0_figures v0_heavies v0_places v0_papers v0_lowers v0_uppers v0_rules v0_bounds v0_boundCount x12.2 v0_reached ++ wX3 a1 g v1_signs v1_numbers v1_size v1_at v1_word) := hD
    exact retI (v := x12.1) (u := (x12.1, v0_raws, v0_kinds, v0_figures, v0_heavies, v0_places, v0_papers, v0_lowers, v0_uppers, v0_rules, v0_bounds, v0_boundCount, x12.2, v0_reached)) (val := fun u => u.1) (W1 := fun u => wX6 a0 g u.2.1 u.2.2.1 u.2.2.2.1 u.2.2.2.2.1 u.2.2.2.2.2.1 u.2.2.2.2.2.2.1 u.2.2.2.2.2.2.2.1 u.2.2.2.2.2.2.2.2.1 u.2.2.2.2.2.2.2.2.2.1 u.2.2.2.2.2.2.2.2.2.2.1 u.2.2.2.2.2.2.2.2.2.2.2.1 u.2.2.2.2.2.2.2.2.2.2.2.2.1 u.2.2.2.2.2.2.2.2.2.2.2.2.2 ++ wX3 a1 g v1_signs v1_numbers v1_size v1_at v1_word) hx hb hr hlocks hS hP hD (hf0.trans hf.symm) rfl rfl dX6_take_120
  have hf := it_f c7 hf
  refine lv_tableOut (tgt := 121) hx hb dX6_take_16 (by have q0 := lv_neT c0 (a := 0) rfl; have q1 := lv_neT c1 (a := 1) rfl; have q2 := lv_neT c2 (a := 2) rfl; have q3 := lv_neT c3 (a := 3) rfl; have q4 := lv_neT c4 (a := 4) rfl; have q5 := lv_neT c5 (a := 5) rfl; have q6 := lv_neT c6 (a := 6) rfl; have q7 := lv_neT c7 (a := 7) rfl; omega) (by decide) ?_
  refine lv_bipush (v := (-3)) hx hb dX6_take_121 (by decide) ?_
  exact retI (v := (-3 : Int32)) (u := ((-3 : Int32), v0_raws, v0_kinds, v0_figures, v0_heavies, v0_places, v0_papers, v0_lowers, v0_uppers, v0_rules, v0_bounds, v0_boundCount, v0_tieWay, v0_reached)) (val := fun u => u.1) (W1 := fun u => wX6 a0 g u.2.1 u.2.2.1 u.2.2.2.1 u.2.2.2.2.1 u.2.2.2.2.2.1 u.2.2.2.2.2.2.1 u.2.2.2.2.2.2.2.1 u.2.2.2.2.2.2.2.2.1 u.2.2.2.2.2.2.2.2.2.1 u.2.2.2.2.2.2.2.2.2.2.1 u.2.2.2.2.2.2.2.2.2.2.2.1 u.2.2.2.2.2.2.2.2.2.2.2.2.1 u.2.2.2.2.2.2.2.2.2.2.2.2.2 ++ wX3 a1 g v1_signs v1_numbers v1_size v1_at v1_word) hx hb hr hlocks hS hP hD (hf0.trans hf.symm) rfl rfl dX6_take_123
set_option maxHeartbeats 4000000 in
set_option maxRecDepth 100000 in
theorem c_X5_meetOvers (l : Launch) (g : GG) (a0 : Nat → Nat) (v0_overs : (Nat → Int32)) (v0_unders : (Nat → Int32)) (v0_marks : (Nat → Int32)) (v0_wrongs : (Nat → Int32)) (v0_papers : Int32) (p1 : Int32) (p2 : Int32) (hne : (m_X5_meetOvers (v0_overs, v0_unders, v0_marks, v0_wrongs, v0_papers) p1 p2) ≠ none) : Ct l g yX5_meetOvers cX5_meetOvers 4 none ({ frames := 2, cells := 0, slots := 0, locals := 44 } : Room) [.ref (a0 0), .int p1, .int p2] (wX5 a0 g v0_overs v0_unders v0_marks v0_wrongs v0_papers) (Qv g (m_X5_meetOvers (v0_overs, v0_unders, v0_marks, v0_wrongs, v0_papers) p1 p2) (fun u => wX5 a0 g v0_overs u.1 v0_marks u.2 v0_papers)) 0 0 := by
  obtain ⟨out, hf⟩ := ne_ex hne
  have hf0 := hf
  refine Ct.of (own := RX5) (by decide +kernel) rfl (Nat.le_of_ble_eq_true rfl) ?_
  intro p e s m below meth c hx hb hr hml hown hts hlocks hin hK A H locs hA hP hD hS hE ls hl
  have hl : lv_has ls 4 [(0, .ref (a0 0)), (1, .int p1), (2, .int p2)] := hl
  unfold m_X5_meetOvers at hf
  refine lv_iconst (v := 0) hx hb dX5_meetOvers_0 (by decide) ?_
  refine lv_istore_n (lv' := [(3, .int (0 : Int32)), (0, .ref (a0 0)), (1, .int p1), (2, .int p2)]) hx hb dX5_meetOvers_1 rfl hl (by decide) rfl (fun ls hl => ?_)
  obtain ⟨r16, er16, hf⟩ := bnd hf
  refine lp_W (P := fun z => ∀ (H : Heap) (locs : List Loc) (ls : Array Slot), va_P g.1 vwCl (wX5 a0 g v0_overs z.2.1 v0_marks z.2.2 v0_papers) H → va_D A (wX5 a0 g v0_overs z.2.1 v0_marks z.2.2 v0_papers) → va_S A s.heap H locs → lv_has ls 4 [(0, .ref (a0 0)), (1, .int p1), (2, .int p2), (3, .int z.1)] → W p l e { frames := 2, cells := 0, slots := 0, locals := 44 } s m [.ref (a0 0), .int p1, .int p2].toArray below meth c H locs 0 0 (MQ below (Qv g (m_X5_meetOvers (v0_overs, v0_unders, v0_marks, v0_wrongs, v0_papers) p1 p2) (fun u => wX5 a0 g v0_overs u.1 v0_marks u.2 v0_papers) A) [.ref (a0 0), .int p1, .int p2].toArray s 0 0 A) (F0 m 2 ls [])) (E := fun r16 => ∀ (H : Heap) (locs : List Loc) (ls : Array Slot), va_P g.1 vwCl (wX5 a0 g v0_overs r16.1 v0_marks r16.2 v0_papers) H → va_D A (wX5 a0 g v0_overs r16.1 v0_marks r16.2 v0_papers) → va_S A s.heap H locs → lv_has ls 4 [] → W p l e { frames := 2, cells := 0, slots := 0, locals := 44 } s m [.ref (a0 0), .int p1, .int p2].toArray below meth c H locs 0 0 (MQ below (Qv g (m_X5_meetOvers (v0_overs, v0_unders, v0_marks, v0_wrongs, v0_papers) p1 p2) (fun u => wX5 a0 g v0_overs u.1 v0_marks u.2 v0_papers) A) [.ref (a0 0), .int p1, .int p2].toArray s 0 0 A) (F0 m 69 ls [])) ?_ fu _ r16 er16 ?_ _ _ _ hP hD hS (lv_sub hl [1, 2, 3, 0] rfl)
  · rintro ⟨x7, x8, x9⟩ y hf hB hXt H locs ls hP hD hS hl
    have hP : va_P g.1 vwCl (wX5 a0 g v0_overs x8 v0_marks x9 v0_papers) H := hP
    have hD : va_D A (wX5 a0 g v0_overs x8 v0_marks x9 v0_papers) := hD
    have hl : lv_has ls 4 [(0, .ref (a0 0)), (1, .int p1), (2, .int p2), (3, .int x7)] := hl
    have hf : m_X5_meetOvers_l2 (v0_overs, v0_unders, v0_marks, v0_wrongs, v0_papers) p1 p2 x7 x8 x9 = some y := hf
    unfold m_X5_meetOvers_l2 at hf
    refine lv_iload_n hx hb dX5_meetOvers_2 rfl (lv_at hl 3 rfl) ?_
    refine lv_aload_n hx hb dX5_meetOvers_3 rfl (lv_at hl 0 rfl) ?_
    refine va_get (D := g.1) (ci := 6) (v := .int v0_papers) (C := RX5) (T := TX5) (N := 5) hx hb hts layX5 hown hK.1 hP 0 rfl rfl 4 (by decide) (hts _ kw122) (fun _ h9 => h9) rfl dX5_meetOvers_4 ?_
    refine lv_icmp_ge (tgt := 69) hx hb dX5_meetOvers_7 (by decide) (fun cb => ?_) (fun cb => ?_)
    · have hf := it_t cb hf
      exact hXt _ (Option.some.inj hf).symm _ _ _ hP hD hS (lv_sub hl [] rfl)
    have hf := it_f cb hf
    refine lv_iload_n hx hb dX5_meetOvers_10 rfl (lv_at hl 2 rfl) ?_
    refine lv_iload_n hx hb dX5_meetOvers_11 rfl (lv_at hl 3 rfl) ?_
    refine cIp hP hD hS hA hE (fun hPc hDc hSc => rSN (As := [.int p2, .int x7]) (rest := []) hx hb hml hown hts hK (c_X9_hasBit l g p2 x7 (bnd_ne hf)) svS_X9_hasBit nw14 hPc hDc hSc rfl rfl hl.1 (Nat.le_of_ble_eq_true rfl) dX5_meetOvers_12 ⟨Nat.le_of_ble_eq_true rfl, Nat.le_of_ble_eq_true rfl, rfl, rfl, Nat.le_of_ble_eq_true rfl, Nat.le_of_ble_eq_true rfl⟩) [] rfl rfl rfl (fun x10 H locs ex10 nx10 hP hS => ?_)
    have hf := bnd_of hf ex10
    refine lv_if_eq (tgt := 63) hx hb dX5_meetOvers_15 (by decide) (fun cb => ?_) (fun cb => ?_)
    · have hf := it_t cb hf
      refine lv_iinc (v := (x7 + 1)) (lv' := [(3, .int (x7 + 1)), (0, .ref (a0 0)), (1, .int p1), (2, .int p2)]) hx hb dX5_meetOvers_63 hl (k := 3) rfl (by rfl) (by decide) rfl (fun ls hl => ?_)
      refine lv_goto (tgt := 2) hx hb dX5_meetOvers_66 (by decide) ?_
      exact hB _ (Option.some.inj hf).symm _ _ _ hP hD hS (lv_sub hl [1, 2, 3, 0] rfl)
    have hf := it_f cb hf
    refine lv_aload_n hx hb dX5_meetOvers_18 rfl (lv_at hl 0 rfl) ?_
    refine va_get (D := g.1) (ci := 6) (v := .ref (a0 3)) (C := RX5) (T := TX5) (N := 5) hx hb hts layX5 hown hK.1 hP 0 rfl rfl 1 (by decide) (hts _ kw119) (fun _ h9 => h9) rfl dX5_meetOvers_19 ?_
    refine lv_iload_n hx hb dX5_meetOvers_22 rfl (lv_at hl 3 rfl) ?_
    refine lv_iconst (v := 1) hx hb dX5_meetOvers_23 (by decide) ?_
    refine lv_iload_n hx hb dX5_meetOvers_24 rfl (lv_at hl 1 rfl) ?_
    refine lv_ishl hx hb dX5_meetOvers_25 ?_
    refine cV hP hD hS hA hE (fun hPc hDc hSc => rV (As := [.int x7, .int ((1 : Int32) <<< (p1 &&& 31))]) (rest := []) hx hb hml hown hts hK (c_X2_add l g (fun i => a0 (i + 3)) 7 x8 x7 ((1 : Int32) <<< (p1 &&& 31)) (bnd_ne hf)) svV_X2_add kw625 rfl rfl hPc hDc hSc rfl rfl hl.1 (Nat.le_of_ble_eq_true rfl) dX5_meetOvers_26 ⟨Nat.le_of_ble_eq_true rfl, Nat.le_of_ble_eq_true rfl, rfl, rfl, Nat.le_of_ble_eq_true rfl, Nat.le_of_ble_eq_true rfl⟩) [(3, 2)] rfl rfl rfl (fun _ => rfl) (fun x11 H locs ex11 hP hD hS => ?_)
    have hf := bnd_of hf ex11
    have hP : va_P g.1 vwCl (wX5 a0 g v0_overs x11 v0_marks x9 v0_papers) H := hP
    have hD : va_D A (wX5 a0 g v0_overs x11 v0_marks x9 v0_papers) := hD
    refine lv_aload_n hx hb dX5_meetOvers_29 rfl (lv_at hl 0 rfl) ?_
    refine va_get (D := g.1) (ci := 6) (v := .ref (a0 7)) (C := RX5) (T := TX5) (N := 5) hx hb hts layX5 hown hK.1 hP 0 rfl rfl 3 (by decide) (hts _ kw121) (fun _ h9 => h9) rfl dX5_meetOvers_30 ?_
    refine lv_iload_n hx hb dX5_meetOvers_33 rfl (lv_at hl 1 rfl) ?_
    refine lv_aload_n hx hb dX5_meetOvers_34 rfl (lv_at hl 0 rfl) ?_
    refine va_get (D := g.1) (ci := 6) (v := .ref (a0 5)) (C := RX5) (T := TX5) (N := 5) hx hb hts layX5 hown hK.1 hP 0 rfl rfl 2 (by decide) (hts _ kw120) (fun _ h9 => h9) rfl dX5_meetOvers_35 ?_
    refine lv_iload_n hx hb dX5_meetOvers_38 rfl (lv_at hl 1 rfl) ?_
    refine cIp hP hD hS hA hE (fun hPc hDc hSc => rV (As := [.int p1]) (rest := [.int p1, .ref (a0 7)]) hx hb hml hown hts hK (c_X2_get l g (fun i => a0 (i + 5)) 7 v0_marks p1 (bnd_ne hf)) svV_X2_get kw621 rfl rfl hPc hDc hSc rfl rfl hl.1 (Nat.le_of_ble_eq_true rfl) dX5_meetOvers_39 ⟨Nat.le_of_ble_eq_true rfl, Nat.le_of_ble_eq_true rfl, rfl, rfl, Nat.le_of_ble_eq_true rfl, Nat.le_of_ble_eq_true rfl⟩) [(5, 2)] rfl rfl rfl (fun x12 H locs ex12 nx12 hP hS => ?_)
    have hf := bnd_of hf ex12
    refine lv_aload_n hx hb dX5_meetOvers_42 rfl (lv_at hl 0 rfl) ?_
    refine va_get (D := g.1) (ci := 6) (v := .ref (a0 5)) (C := RX5) (T := TX5) (N := 5) hx hb hts layX5 hown hK.1 hP 0 rfl rfl 2 (by decide) (hts _ kw120) (fun _ h9 => h9) rfl dX5_meetOvers_43 ?_
    refine lv_iload_n hx hb dX5_meetOvers_46 rfl (lv_at hl 3 rfl) ?_
    refine cIp hP hD hS hA hE (fun hPc hDc hSc => rV (As := [.int x7]) (rest := [.int x12, .int p1, .ref (a0 7)]) hx hb hml hown hts hK (c_X2_get l g (fun i => a0 (i + 5)) 7 v0_marks x7 (bnd_ne hf)) svV_X2_get kw621 rfl rfl hPc hDc hSc rfl rfl hl.1 (Nat.le_of_ble_eq_true rfl) dX5_meetOvers_47 ⟨Nat.le_of_ble_eq_true rfl, Nat.le_of_ble_eq_true rfl, rfl, rfl, Nat.le_of_ble_eq_true rfl, Nat.le_of_ble_eq_true rfl⟩) [(5, 2)] rfl rfl rfl (fun x13 H locs ex13 nx13 hP hS => ?_)
    have hf := bnd_of hf ex13
    obtain ⟨r14, er14, hf⟩ := bnd hf
    have K : ∀ (H : Heap) (locs : List Loc) (ls : Array Slot), va_P g.1 vwCl (wX5 a0 g v0_overs x11 v0_marks x9 v0_papers) H → va_D A (wX5 a0 g v0_overs x11 v0_marks x9 v0_papers) → va_S A s.heap H locs → lv_has ls 4 [(0, .ref (a0 0)), (1, .int p1), (2, .int p2), (3, .int x7)] → W p l e { frames := 2, cells := 0, slots := 0, locals := 44 } s m [.ref (a0 0), .int p1, .int p2].toArray below meth c H locs 0 0 (MQ below (Qv g (m_X5_meetOvers (v0_overs, v0_unders, v0_marks, v0_wrongs, v0_papers) p1 p2) (fun u => wX5 a0 g v0_overs u.1 v0_marks u.2 v0_papers) A) [.ref (a0 0), .int p1, .int p2].toArray s 0 0 A) (F0 m 60 ls [.int r14, .int p1, .ref (a0 7)]) := by
      intro H locs ls hP hD hS hl
      refine cV hP hD hS hA hE (fun hPc hDc hSc => rV (As := [.int p1, .int r14]) (rest := []) hx hb hml hown hts hK (c_X2_add l g (fun i => a0 (i + 7)) 7 x9 p1 r14 (bnd_ne hf)) svV_X2_add kw625 rfl rfl hPc hDc hSc rfl rfl hl.1 (Nat.le_of_ble_eq_true rfl) dX5_meetOvers_60 ⟨Nat.le_of_ble_eq_true rfl, Nat.le_of_ble_eq_true rfl, rfl, rfl, Nat.le_of_ble_eq_true rfl, Nat.le_of_ble_eq_true rfl⟩) [(7, 2)] rfl rfl rfl (fun _ => rfl) (fun x15 H locs ex15 hP hD hS => ?_)
      have hf := bnd_of hf ex15
      have hP : va_P g.1 vwCl (wX5 a0 g v0_overs x11 v0_marks x15 v0_papers) H := hP
      have hD : va_D A (wX5 a0 g v0_overs x11 v0_marks x15 v0_papers) := hD
      refine lv_iinc (v := (x7 + 1)) (lv' := [(3, .int (x7 + 1)), (0, .ref (a0 0)), (1, .int p1), (2, .int p2)]) hx hb dX5_meetOvers_63 hl (k := 3) rfl (by rfl) (by decide) rfl (fun ls hl => ?_)
      refine lv_goto (tgt := 2) hx hb dX5_meetOvers_66 (by decide) ?_
      exact hB _ (Option.some.inj hf).symm _ _ _ hP hD hS (lv_sub hl [1, 2, 3, 0] rfl)
    have hf := er14
    refine lv_icmp_le (tgt := 59) hx hb dX5_meetOvers_50 (by decide) (fun cb => ?_) (fun cb => ?_)
    · have hf := it_t cb hf
      refine lv_iconst (v := 0) hx hb dX5_meetOvers_59 (by decide) ?_
      have hq := Option.some.inj hf
      subst hq
      exact K _ _ _ hP hD hS (lv_sub hl [0, 1, 2, 3] rfl)
    have hf := it_f cb hf
    refine lv_iconst (v := 1) hx hb dX5_meetOvers_53 (by decide) ?_
    refine lv_iload_n hx hb dX5_meetOvers_54 rfl (lv_at hl 3 rfl) ?_
    refine lv_ishl hx hb dX5_meetOvers_55 ?_
    refine lv_goto (tgt := 60) hx hb dX5_meetOvers_56 (by decide) ?_
    have hq := Option.some.inj hf
    subst hq
    exact K _ _ _ hP hD hS (lv_sub hl [0, 1, 2, 3] rfl)
  intro H locs ls hP hD hS hl
  have hP : va_P g.1 vwCl (wX5 a0 g v0_overs r16.1 v0_marks r16.2 v0_papers) H := hP
  have hD : va_D A (wX5 a0 g v0_overs r16.1 v0_marks r16.2 v0_papers) := hD
  have hl : lv_has ls 4 [] := hl
  exact retV (u := (r16.1, r16.2)) (W1 := fun u => wX5 a0 g v0_overs u.1 v0_marks u.2 v0_papers) hx hb hr hlocks hS hP hD (hf0.trans hf.symm) dX5_meetOvers_69
set_option maxHeartbeats 4000000 in
set_option maxRecDepth 100000 in
theorem c_X5_work (l : Launch) (g : GG) (a0 : Nat → Nat) (v0_overs : (Nat → Int32)) (v0_unders : (Nat → Int32)) (v0_marks : (Nat → Int32)) (v0_wrongs : (Nat → Int32)) (v0_papers : Int32) (a1 : Nat → Nat) (v1_raws : (Nat → Int32)) (v1_kinds : (Nat → Int32)) (v1_figures : (Nat → Int32)) (v1_heavies : (Nat → Int32)) (v1_places : (Nat → Int32)) (v1_papers : Int32) (v1_lowers : (Nat → Int32)) (v1_uppers : (Nat → Int32)) (v1_rules : Int32) (v1_bounds : (Nat → Int32)) (v1_boundCount : Int32) (v1_tieWay : Int32) (v1_reached : (Nat → Int32)) (p2 : Int32) (hne : (m_X5_work (v0_overs, v0_unders, v0_marks, v0_wrongs, v0_papers) (v1_raws, v1_kinds, v1_figures, v1_heavies, v1_places, v1_papers, v1_lowers, v1_uppers, v1_rules, v1_bounds, v1_boundCount, v1_tieWay, v1_reached) p2) ≠ none) : Ct l g yX5_work cX5_work 4 none ({ frames := 3, cells := 0, slots := 0, locals := 67 } : Room) [.ref (a0 0), .ref (a1 0), .int p2] (wX5 a0 g v0_overs v0_unders v0_marks v0_wrongs v0_papers ++ wX6 a1 g v1_raws v1_kinds v1_figures v1_heavies v1_places v1_papers v1_lowers v1_uppers v1_rules v1_bounds v1_boundCount v1_tieWay v1_reached) (Qv g (m_X5_work (v0_overs, v0_unders, v0_marks, v0_wrongs, v0_papers) (v1_raws, v1_kinds, v1_figures, v1_heavies, v1_places, v1_papers, v1_lowers, v1_uppers, v1_rules, v1_bounds, v1_boundCount, v1_tieWay, v1_reached) p2) (fun u => wX5 a0 g u.1 u.2.1 u.2.2.1 u.2.2.2.1 u.2.2.2.2 ++ wX6 a1 g v1_raws v1_kinds v1_figures v1_heavies v1_places v1_papers v1_lowers v1_uppers v1_rules v1_bounds v1_boundCount v1_tieWay v1_reached)) 0 0 := by
  obtain ⟨out, hf⟩ := ne_ex hne
  have hf0 := hf
  refine Ct.of (own := RX5) (by decide +kernel) rfl (Nat.le_of_ble_eq_true rfl) ?_
  intro p e s m below meth c hx hb hr hml hown hts hlocks hin hK A H locs hA hP hD hS hE ls hl
  have hl : lv_has ls 4 [(0, .ref (a0 0)), (1, .ref (a1 0)), (2, .int p2)] := hl
  unfold m_X5_work at hf
  refine lv_aload_n hx hb dX5_work_0 rfl (lv_at hl 0 rfl) ?_
  refine lv_aload_n hx hb dX5_work_1 rfl (lv_at hl 1 rfl) ?_
  refine cIp hP hD hS hA hE (fun hPc hDc hSc => rV (As := []) (rest := [.ref (a0 0)]) hx hb hml hown hts hK (c_X6_paperCount l g a1 v1_raws v1_kinds v1_figures v1_heavies v1_places v1_papers v1_lowers v1_uppers v1_rules v1_bounds v1_boundCount v1_tieWay v1_reached (bnd_ne hf)) svV_X6_paperCount kw614 rfl rfl hPc hDc hSc rfl rfl hl.1 (Nat.le_of_ble_eq_true rfl) dX5_work_2 ⟨Nat.le_of_ble_eq_true rfl, Nat.le_of_ble_eq_true rfl, rfl, rfl, Nat.le_of_ble_eq_true rfl, Nat.le_of_ble_eq_true rfl⟩) [(9, 19)] rfl rfl rfl (fun x1 H locs ex1 nx1 hP hS => ?_)
  have hf := bnd_of hf ex1
  refine va_put (D := g.1) (ci := 6) (v := .int x1) (ty := .int) (C := RX5) (T := TX5) (N := 5) hx hb hts layX5 tyX5 tyX5_ok nmX5 hown hK.1 hP hD hS 0 rfl rfl 4 (by decide) (hts _ kw122) (fun _ h9 => h9) rfl (tyX5_ok 4 (by decide)) rfl rfl (Nat.le_of_ble_eq_true rfl) dX5_work_5 (fun H locs hP hD hS => ?_)
  have hP : va_P g.1 vwCl (wX5 a0 g v0_overs v0_unders v0_marks v0_wrongs x1 ++ wX6 a1 g v1_raws v1_kinds v1_figures v1_heavies v1_places v1_papers v1_lowers v1_uppers v1_rules v1_bounds v1_boundCount v1_tieWay v1_reached) H := hP
  have hD : va_D A (wX5 a0 g v0_overs v0_unders v0_marks v0_wrongs x1 ++ wX6 a1 g v1_raws v1_kinds v1_figures v1_heavies v1_places v1_papers v1_lowers v1_uppers v1_rules v1_bounds v1_boundCount v1_tieWay v1_reached) := hD
  refine lv_aload_n hx hb dX5_work_8 rfl (lv_at hl 1 rfl) ?_
  refine lv_aload_n hx hb dX5_work_9 rfl (lv_at hl 0 rfl) ?_
  refine va_get (D := g.1) (ci := 6) (v := .ref (a0 1)) (C := RX5) (T := TX5) (N := 5) hx hb hts layX5 hown hK.1 hP 0 rfl rfl 0 (by decide) (hts _ kw118) (fun _ h9 => h9) rfl dX5_work_10 ?_
  refine lv_iload_n hx hb dX5_work_13 rfl (lv_at hl 2 rfl) ?_
  refine cV hP hD hS hA hE (fun hPc hDc hSc => rV (As := [.ref (a0 1), .int p2]) (rest := []) hx hb hml hown hts hK (c_X6_trace l g a1 v1_raws v1_kinds v1_figures v1_heavies v1_places v1_papers v1_lowers v1_uppers v1_rules v1_bounds v1_boundCount v1_tieWay v1_reached (fun i => a0 (i + 1)) 7 v0_overs p2 (bnd_ne hf)) svV_X6_trace kw618 rfl rfl hPc hDc hSc rfl rfl hl.1 (Nat.le_of_ble_eq_true rfl) dX5_work_14 ⟨Nat.le_of_ble_eq_true rfl, Nat.le_of_ble_eq_true rfl, rfl, rfl, Nat.le_of_ble_eq_true rfl, Nat.le_of_ble_eq_true rfl⟩) [(9, 19), (1, 2)] rfl rfl rfl (fun _ => rfl) (fun x2 H locs ex2 hP hD hS => ?_)
  have hf := bnd_of hf ex2
  have hP : va_P g.1 vwCl (wX5 a0 g x2 v0_unders v0_marks v0_wrongs x1 ++ wX6 a1 g v1_raws v1_kinds v1_figures v1_heavies v1_places v1_papers v1_lowers v1_uppers v1_rules v1_bounds v1_boundCount v1_tieWay v1_reached) H := hP
  have hD : va_D A (wX5 a0 g x2 v0_unders v0_marks v0_wrongs x1 ++ wX6 a1 g v1_raws v1_kinds v1_figures v1_heavies v1_places v1_papers v1_lowers v1_uppers v1_rules v1_bounds v1_boundCount v1_tieWay v1_reached) := hD
  refine lv_iconst (v := 0) hx hb dX5_work_17 (by decide) ?_
  refine lv_istore_n (lv' := [(3, .int (0 : Int32)), (0, .ref (a0 0)), (1, .ref (a1 0)), (2, .int p2)]) hx hb dX5_work_18 rfl hl (by decide) rfl (fun ls hl => ?_)
  obtain ⟨r15, er15, hf⟩ := bnd hf
  refine lp_W (P := fun z => ∀ (H : Heap) (locs : List Loc) (ls : Array Slot), va_P g.1 vwCl (wX5 a0 g x2 z.2.1 z.2.2.1 z.2.2.2 x1 ++ wX6 a1 g v1_raws v1_kinds v1_figures v1_heavies v1_places v1_papers v1_lowers v1_uppers v1_rules v1_bounds v1_boundCount v1_tieWay v1_reached) H → va_D A (wX5 a0 g x2 z.2.1 z.2.2.1 z.2.2.2 x1 ++ wX6 a1 g v1_raws v1_kinds v1_figures v1_heavies v1_places v1_papers v1_lowers v1_uppers v1_rules v1_bounds v1_boundCount v1_tieWay v1_reached) → va_S A s.heap H locs → lv_has ls 4 [(0, .ref (a0 0)), (1, .ref (a1 0)), (3, .int z.1)] → W p l e { frames := 3, cells := 0, slots := 0, locals := 67 } s m [.ref (a0 0), .ref (a1 0), .int p2].toArray below meth c H locs 0 0 (MQ below (Qv g (m_X5_work (v0_overs, v0_unders, v0_marks, v0_wrongs, v0_papers) (v1_raws, v1_kinds, v1_figures, v1_heavies, v1_places, v1_papers, v1_lowers, v1_uppers, v1_rules, v1_bounds, v1_boundCount, v1_tieWay, v1_reached) p2) (fun u => wX5 a0 g u.1 u.2.1 u.2.2.1 u.2.2.2.1 u.2.2.2.2 ++ wX6 a1 g v1_raws v1_kinds v1_figures v1_heavies v1_places v1_papers v1_lowers v1_uppers v1_rules v1_bounds v1_boundCount v1_tieWay v1_reached) A) [.ref (a0 0), .ref (a1 0), .int p2].toArray s 0 0 A) (F0 m 19 ls [])) (E := fun r15 => ∀ (H : Heap) (locs : List Loc) (ls : Array Slot), va_P g.1 vwCl (wX5 a0 g x2 r15.1 r15.2.1 r15.2.2 x1 ++ wX6 a1 g v1_raws v1_kinds v1_figures v1_heavies v1_places v1_papers v1_lowers v1_uppers v1_rules v1_bounds v1_boundCount v1_tieWay v1_reached) H → va_D A (wX5 a0 g x2 r15.1 r15.2.1 r15.2.2 x1 ++ wX6 a1 g v1_raws v1_kinds v1_figures v1_heavies v1_places v1_papers v1_lowers v1_uppers v1_rules v1_bounds v1_boundCount v1_tieWay v1_reached) → va_S A s.heap H locs → lv_has ls 4 [(0, .ref (a0 0))] → W p l e { frames := 3, cells := 0, slots := 0, locals := 67 } s m [.ref (a0 0), .ref (a1 0), .int p2].toArray below meth c H locs 0 0 (MQ below (Qv g (m_X5_work (v0_overs, v0_unders, v0_marks, v0_wrongs, v0_papers) (v1_raws, v1_kinds, v1_figures, v1_heavies, v1_places, v1_papers, v1_lowers, v1_uppers, v1_rules, v1_bounds, v1_boundCount, v1_tieWay, v1_reached) p2) (fun u => wX5 a0 g u.1 u.2.1 u.2.2.1 u.2.2.2.1 u.2.2.2.2 ++ wX6 a1 g v1_raws v1_kinds v1_figures v1_heavies v1_places v1_papers v1_lowers v1_uppers v1_rules v1_bounds v1_boundCount v1_tieWay v1_reached) A) [.ref (a0 0), .ref (a1 0), .int p2].toArray s 0 0 A) (F0 m 64 ls [])) ?_ fu _ r15 er15 ?_ _ _ _ hP hD hS (lv_sub hl [1, 2, 0] rfl)
  · rintro ⟨x7, x8, x9, x10⟩ y hf hB hXt H locs ls hP hD hS hl
    have hP : va_P g.1 vwCl (wX5 a0 g x2 x8 x9 x10 x1 ++ wX6 a1 g v1_raws v1_kinds v1_figures v1_heavies v1_places v1_papers v1_lowers v1_uppers v1_rules v1_bounds v1_boundCount v1_tieWay v1_reached) H := hP
    have hD : va_D A (wX5 a0 g x2 x8 x9 x10 x1 ++ wX6 a1 g v1_raws v1_kinds v1_figures v1_heavies v1_places v1_papers v1_lowers v1_uppers v1_rules v1_bounds v1_boundCount v1_tieWay v1_reached) := hD
    have hl : lv_has ls 4 [(0, .ref (a0 0)), (1, .ref (a1 0)), (3, .int x7)] := hl
    have hf : m_X5_work_l19 (v1_raws, v1_kinds, v1_figures, v1_heavies, v1_places, v1_papers, v1_lowers, v1_uppers, v1_rules, v1_bounds, v1_boundCount, v1_tieWay, v1_reached) x1 x7 x8 x9 x10 = some y := hf
    unfold m_X5_work_l19 at hf
    refine lv_iload_n hx hb dX5_work_19 rfl (lv_at hl 2 rfl) ?_
    refine lv_aload_n hx hb dX5_work_20 rfl (lv_at hl 0 rfl) ?_
    refine va_get (D := g.1) (ci := 6) (v := .int x1) (C := RX5) (T := TX5) (N := 5) hx hb hts layX5 hown hK.1 hP 0 rfl rfl 4 (by decide) (hts _ kw122) (fun _ h9 => h9) rfl dX5_work_21 ?_
    refine lv_icmp_ge (tgt := 64) hx hb dX5_work_24 (by decide) (fun cb => ?_) (fun cb => ?_)
    · have hf := it_t cb hf
      exact hXt _ (Option.some.inj hf).symm _ _ _ hP hD hS (lv_sub hl [0] rfl)
    have hf := it_f cb hf
    refine lv_aload_n hx hb dX5_work_27 rfl (lv_at hl 0 rfl) ?_
    refine va_get (D := g.1) (ci := 6) (v := .ref (a0 5)) (C := RX5) (T := TX5) (N := 5) hx hb hts layX5 hown hK.1 hP 0 rfl rfl 2 (by decide) (hts _ kw120) (fun _ h9 => h9) rfl dX5_work_28 ?_
    refine lv_iload_n hx hb dX5_work_31 rfl (lv_at hl 2 rfl) ?_
    refine lv_aload_n hx hb dX5_work_32 rfl (lv_at hl 1 rfl) ?_
    refine lv_iload_n hx hb dX5_work_33 rfl (lv_at hl 2 rfl) ?_
    refine cIp hP hD hS hA hE (fun hPc hDc hSc => rV (As := [.int x7]) (rest := [.int x7, .ref (a0 5)]) hx hb hml hown hts hK (c_X6_markOf l g a1 v1_raws v1_kinds v1_figures v1_heavies v1_places v1_papers v1_lowers v1_uppers v1_rules v1_bounds v1_boundCount v1_tieWay v1_reached x7 (bnd_ne hf)) svV_X6_markOf kw619 rfl rfl hPc hDc hSc rfl rfl hl.1 (Nat.le_of_ble_eq_true rfl) dX5_work_34 ⟨Nat.le_of_ble_eq_true rfl, Nat.le_of_ble_eq_true rfl, rfl, rfl, Nat.le_of_ble_eq_true rfl, Nat.le_of_ble_eq_true rfl⟩) [(9, 19)] rfl rfl rfl (fun x11 H locs ex11 nx11 hP hS => ?_)
    have hf := bnd_of hf ex11
    refine cV hP hD hS hA hE (fun hPc hDc hSc => rV (As := [.int x7, .int x11]) (rest := []) hx hb hml hown hts hK (c_X2_set l g (fun i => a0 (i + 5)) 7 x9 x7 x11 (bnd_ne hf)) svV_X2_set kw620 rfl rfl hPc hDc hSc rfl rfl hl.1 (Nat.le_of_ble_eq_true rfl) dX5_work_37 ⟨Nat.le_of_ble_eq_true rfl, Nat.le_of_ble_eq_true rfl, rfl, rfl, Nat.le_of_ble_eq_true rfl, Nat.le_of_ble_eq_true rfl⟩) [(5, 2)] rfl rfl rfl (fun _ => rfl) (fun x12 H locs ex12 hP hD hS => ?_)
    have hf := bnd_of hf ex12
    have hP : va_P g.1 vwCl (wX5 a0 g x2 x8 x12 x10 x1 ++ wX6 a1 g v1_raws v1_kinds v1_figures v1_heavies v1_places v1_papers v1_lowers v1_uppers v1_rules v1_bounds v1_boundCount v1_tieWay v1_reached) H := hP
    have hD : va_D A (wX5 a0 g x2 x8 x12 x10 x1 ++ wX6 a1 g v1_raws v1_kinds v1_figures v1_heavies v1_places v1_papers v1_lowers v1_uppers v1_rules v1_bounds v1_boundCount v1_tieWay v1_reached) := hD
    refine lv_aload_n hx hb dX5_work_40 rfl (lv_at hl 0 rfl) ?_
    refine va_get (D := g.1) (ci := 6) (v := .ref (a0 3)) (C := RX5) (T := TX5) (N := 5) hx hb hts layX5 hown hK.1 hP 0 rfl rfl 1 (by decide) (hts _ kw119) (fun _ h9 => h9) rfl dX5_work_41 ?_
    refine lv_iload_n hx hb dX5_work_44 rfl (lv_at hl 2 rfl) ?_
    refine lv_iconst (v := 0) hx hb dX5_work_45 (by decide) ?_
    refine cV hP hD hS hA hE (fun hPc hDc hSc => rV (As := [.int x7, .int (0 : Int32)]) (rest := []) hx hb hml hown hts hK (c_X2_set l g (fun i => a0 (i + 3)) 7 x8 x7 (0 : Int32) (bnd_ne hf)) svV_X2_set kw620 rfl rfl hPc hDc hSc rfl rfl hl.1 (Nat.le_of_ble_eq_true rfl) dX5_work_46 ⟨Nat.le_of_ble_eq_true rfl, Nat.le_of_ble_eq_true rfl, rfl, rfl, Nat.le_of_ble_eq_true rfl, Nat.le_of_ble_eq_true rfl⟩) [(3, 2)] rfl rfl rfl (fun _ => rfl) (fun x13 H locs ex13 hP hD hS => ?_)
    have hf := bnd_of hf ex13
    have hP : va_P g.1 vwCl (wX5 a0 g x2 x13 x12 x10 x1 ++ wX6 a1 g v1_raws v1_kinds v1_figures v1_heavies v1_places v1_papers v1_lowers v1_uppers v1_rules v1_bounds v1_boundCount v1_tieWay v1_reached) H := hP
    have hD : va_D A (wX5 a0 g x2 x13 x12 x10 x1 ++ wX6 a1 g v1_raws v1_kinds v1_figures v1_heavies v1_places v1_papers v1_lowers v1_uppers v1_rules v1_bounds v1_boundCount v1_tieWay v1_reached) := hD
    refine lv_aload_n hx hb dX5_work_49 rfl (lv_at hl 0 rfl) ?_
    refine va_get (D := g.1) (ci := 6) (v := .ref (a0 7)) (C := RX5) (T := TX5) (N := 5) hx hb hts layX5 hown hK.1 hP 0 rfl rfl 3 (by decide) (hts _ kw121) (fun _ h9 => h9) rfl dX5_work_50 ?_
    refine lv_iload_n hx hb dX5_work_53 rfl (lv_at hl 2 rfl) ?_
    refine lv_iconst (v := 0) hx hb dX5_work_54 (by decide) ?_
    refine cV hP hD hS hA hE (fun hPc hDc hSc => rV (As := [.int x7, .int (0 : Int32)]) (rest := []) hx hb hml hown hts hK (c_X2_set l g (fun i => a0 (i + 7)) 7 x10 x7 (0 : Int32) (bnd_ne hf)) svV_X2_set kw620 rfl rfl hPc hDc hSc rfl rfl hl.1 (Nat.le_of_ble_eq_true rfl) dX5_work_55 ⟨Nat.le_of_ble_eq_true rfl, Nat.le_of_ble_eq_true rfl, rfl, rfl, Nat.le_of_ble_eq_true rfl, Nat.le_of_ble_eq_true rfl⟩) [(7, 2)] rfl rfl rfl (fun _ => rfl) (fun x14 H locs ex14 hP hD hS => ?_)
    have hf := bnd_of hf ex14
    have hP : va_P g.1 vwCl (wX5 a0 g x2 x13 x12 x14 x1 ++ wX6 a1 g v1_raws v1_kinds v1_figures v1_heavies v1_places v1_papers v1_lowers v1_uppers v1_rules v1_bounds v1_boundCount v1_tieWay v1_reached) H := hP
    have hD : va_D A (wX5 a0 g x2 x13 x12 x14 x1 ++ wX6 a1 g v1_raws v1_kinds v1_figures v1_heavies v1_places v1_papers v1_lowers v1_uppers v1_rules v1_bounds v1_boundCount v1_tieWay v1_reached) := hD
    refine lv_iinc (v := (x7 + 1)) (lv' := [(3, .int (x7 + 1)), (0, .ref (a0 0)), (1, .ref (a1 0))]) hx hb dX5_work_58 hl (k := 2) rfl (by rfl) (by decide) rfl (fun ls hl => ?_)
    refine lv_goto (tgt := 19) hx hb dX5_work_61 (by decide) ?_
    exact hB _ (Option.some.inj hf).symm _ _ _ hP hD hS (lv_sub hl [1, 2, 0] rfl)
  intro H locs ls hP hD hS hl
  have hP : va_P g.1 vwCl (wX5 a0 g x2 r15.1 r15.2.1 r15.2.2 x1 ++ wX6 a1 g v1_raws v1_kinds v1_figures v1_heavies v1_places v1_papers v1_lowers v1_uppers v1_rules v1_bounds v1_boundCount v1_tieWay v1_reached) H := hP
  have hD : va_D A (wX5 a0 g x2 r15.1 r15.2.1 r15.2.2 x1 ++ wX6 a1 g v1_raws v1_kinds v1_figures v1_heavies v1_places v1_papers v1_lowers v1_uppers v1_rules v1_bounds v1_boundCount v1_tieWay v1_reached) := hD
  have hl : lv_has ls 4 [(0, .ref (a0 0))] := hl
  refine lv_iconst (v := 0) hx hb dX5_work_64 (by decide) ?_
  refine lv_istore_n (lv' := [(3, .int (0 : Int32)), (0, .ref (a0 0))]) hx hb dX5_work_65 rfl hl (by decide) rfl (fun ls hl => ?_)
  obtain ⟨r23, er23, hf⟩ := bnd hf
  refine lp_W (P := fun z => ∀ (H : Heap) (locs : List Loc) (ls : Array Slot), va_P g.1 vwCl (wX5 a0 g x2 z.2.1 r15.2.1 z.2.2 x1 ++ wX6 a1 g v1_raws v1_kinds v1_figures v1_heavies v1_places v1_papers v1_lowers v1_uppers v1_rules v1_bounds v1_boundCount v1_tieWay v1_reached) H → va_D A (wX5 a0 g x2 z.2.1 r15.2.1 z.2.2 x1 ++ wX6 a1 g v1_raws v1_kinds v1_figures v1_heavies v1_places v1_papers v1_lowers v1_uppers v1_rules v1_bounds v1_boundCount v1_tieWay v1_reached) → va_S A s.heap H locs → lv_has ls 4 [(0, .ref (a0 0)), (3, .int z.1)] → W p l e { frames := 3, cells := 0, slots := 0, locals := 67 } s m [.ref (a0 0), .ref (a1 0), .int p2].toArray below meth c H locs 0 0 (MQ below (Qv g (m_X5_work (v0_overs, v0_unders, v0_marks, v0_wrongs, v0_papers) (v1_raws, v1_kinds, v1_figures, v1_heavies, v1_places, v1_papers, v1_lowers, v1_uppers, v1_rules, v1_bounds, v1_boundCount, v1_tieWay, v1_reached) p2) (fun u => wX5 a0 g u.1 u.2.1 u.2.2.1 u.2.2.2.1 u.2.2.2.2 ++ wX6 a1 g v1_raws v1_kinds v1_figures v1_heavies v1_places v1_papers v1_lowers v1_uppers v1_rules v1_bounds v1_boundCount v1_tieWay v1_reached) A) [.ref (a0 0), .ref (a1 0), .int p2].toArray s 0 0 A) (F0 m 66 ls [])) (E := fun r23 => ∀ (H : Heap) (locs : List Loc) (ls : Array Slot), va_P g.1 vwCl (wX5 a0 g x2 r23.1 r15.2.1 r23.2 x1 ++ wX6 a1 g v1_raws v1_kinds v1_figures v1_heavies v1_places v1_papers v1_lowers v1_uppers v1_rules v1_bounds v1_boundCount v1_tieWay v1_reached) H → va_D A (wX5 a0 g x2 r23.1 r15.2.1 r23.2 x1 ++ wX6 a1 g v1_raws v1_kinds v1_figures v1_heavies v1_places v1_papers v1_lowers v1_uppers v1_rules v1_bounds v1_boundCount v1_tieWay v1_reached) → va_S A s.heap H locs → lv_has ls 4 [] → W p l e { frames := 3, cells := 0, slots := 0, locals := 67 } s m [.ref (a0 0), .ref (a1 0), .int p2].toArray below meth c H locs 0 0 (MQ below (Qv g (m_X5_work (v0_overs, v0_unders, v0_marks, v0_wrongs, v0_papers) (v1_raws, v1_kinds, v1_figures, v1_heavies, v1_places, v1_papers, v1_lowers, v1_uppers, v1_rules, v1_bounds, v1_boundCount, v1_tieWay, v1_reached) p2) (fun u => wX5 a0 g u.1 u.2.1 u.2.2.1 u.2.2.2.1 u.2.2.2.2 ++ wX6 a1 g v1_raws v1_kinds v1_figures v1_heavies v1_places v1_papers v1_lowers v1_uppers v1_rules v1_bounds v1_boundCount v1_tieWay v1_reached) A) [.ref (a0 0), .ref (a1 0), .int p2].toArray s 0 0 A) (F0 m 93 ls [])) ?_ fu _ r23 er23 ?_ _ _ _ hP hD hS (lv_sub hl [1, 0] rfl)
  · rintro ⟨x18, x19, x20⟩ y hf hB hXt H locs ls hP hD hS hl
    have hP : va_P g.1 vwCl (wX5 a0 g x2 x19 r15.2.1 x20 x1 ++ wX6 a1 g v1_raws v1_kinds v1_figures v1_heavies v1_places v1_papers v1_lowers v1_uppers v1_rules v1_bounds v1_boundCount v1_tieWay v1_reached) H := hP
    have hD : va_D A (wX5 a0 g x2 x19 r15.2.1 x20 x1 ++ wX6 a1 g v1_raws v1_kinds v1_figures v1_heavies v1_places v1_papers v1_lowers v1_uppers v1_rules v1_bounds v1_boundCount v1_tieWay v1_reached) := hD
    have hl : lv_has ls 4 [(0, .ref (a0 0)), (3, .int x18)] := hl
    have hf : m_X5_work_l66 (v0_overs, v0_unders, v0_marks, v0_wrongs, v0_papers) x1 x2 r15 x18 x19 x20 = some y := hf
    unfold m_X5_work_l66 at hf
    refine lv_iload_n hx hb dX5_work_66 rfl (lv_at hl 1 rfl) ?_
    refine lv_aload_n hx hb dX5_work_67 rfl (lv_at hl 0 rfl) ?_
    refine va_get (D := g.1) (ci := 6) (v := .int x1) (C := RX5) (T := TX5) (N := 5) hx hb hts layX5 hown hK.1 hP 0 rfl rfl 4 (by decide) (hts _ kw122) (fun _ h9 => h9) rfl dX5_work_68 ?_
    refine lv_icmp_ge (tgt := 93) hx hb dX5_work_71 (by decide) (fun cb => ?_) (fun cb => ?_)
    · have hf := it_t cb hf
      exact hXt _ (Option.some.inj hf).symm _ _ _ hP hD hS (lv_sub hl [] rfl)
    have hf := it_f cb hf
    refine lv_aload_n hx hb dX5_work_74 rfl (lv_at hl 0 rfl) ?_
    refine lv_iload_n hx hb dX5_work_75 rfl (lv_at hl 1 rfl) ?_
    refine lv_aload_n hx hb dX5_work_76 rfl (lv_at hl 0 rfl) ?_
    refine va_get (D := g.1) (ci := 6) (v := .ref (a0 1)) (C := RX5) (T := TX5) (N := 5) hx hb hts layX5 hown hK.1 hP 0 rfl rfl 0 (by decide) (hts _ kw118) (fun _ h9 => h9) rfl dX5_work_77 ?_
    refine lv_iload_n hx hb dX5_work_80 rfl (lv_at hl 1 rfl) ?_
    refine cIp hP hD hS hA hE (fun hPc hDc hSc => rV (As := [.int x18]) (rest := [.int x18, .ref (a0 0)]) hx hb hml hown hts hK (c_X2_get l g (fun i => a0 (i + 1)) 7 x2 x18 (bnd_ne hf)) svV_X2_get kw621 rfl rfl hPc hDc hSc rfl rfl hl.1 (Nat.le_of_ble_eq_true rfl) dX5_work_81 ⟨Nat.le_of_ble_eq_true rfl, Nat.le_of_ble_eq_true rfl, rfl, rfl, Nat.le_of_ble_eq_true rfl, Nat.le_of_ble_eq_true rfl⟩) [(1, 2)] rfl rfl rfl (fun x21 H locs ex21 nx21 hP hS => ?_)
    have hf := bnd_of hf ex21
    refine cV hP hD hS hA hE (fun hPc hDc hSc => rV (As := [.int x18, .int x21]) (rest := []) hx hb hml hown hts hK (c_X5_meetOvers l g a0 x2 x19 r15.2.1 x20 x1 x18 x21 (bnd_ne hf)) svV_X5_meetOvers kw622 rfl rfl hPc hDc hSc rfl rfl hl.1 (Nat.le_of_ble_eq_true rfl) dX5_work_84 ⟨Nat.le_of_ble_eq_true rfl, Nat.le_of_ble_eq_true rfl, rfl, rfl, Nat.le_of_ble_eq_true rfl, Nat.le_of_ble_eq_true rfl⟩) [(0, 9)] rfl rfl rfl (fun _ => rfl) (fun x22 H locs ex22 hP hD hS => ?_)
    have hf := bnd_of hf ex22
    have hP : va_P g.1 vwCl (wX5 a0 g x2 x22.1 r15.2.1 x22.2 x1 ++ wX6 a1 g v1_raws v1_kinds v1_figures v1_heavies v1_places v1_papers v1_lowers v1_uppers v1_rules v1_bounds v1_boundCount v1_tieWay v1_reached) H := hP
    have hD : va_D A (wX5 a0 g x2 x22.1 r15.2.1 x22.2 x1 ++ wX6 a1 g v1_raws v1_kinds v1_figures v1_heavies v1_places v1_papers v1_lowers v1_uppers v1_rules v1_bounds v1_boundCount v1_tieWay v1_reached) := hD
    refine lv_iinc (v := (x18 + 1)) (lv' := [(3, .int (x18 + 1)), (0, .ref (a0 0))]) hx hb dX5_work_87 hl (k := 1) rfl (by rfl) (by decide) rfl (fun ls hl => ?_)
    refine lv_goto (tgt := 66) hx hb dX5_work_90 (by decide) ?_
    exact hB _ (Option.some.inj hf).symm _ _ _ hP hD hS (lv_sub hl [1, 0] rfl)
  intro H locs ls hP hD hS hl
  have hP : va_P g.1 vwCl (wX5 a0 g x2 r23.1 r15.2.1 r23.2 x1 ++ wX6 a1 g v1_raws v1_kinds v1_figures v1_heavies v1_places v1_papers v1_lowers v1_uppers v1_rules v1_bounds v1_boundCount v1_tieWay v1_reached) H := hP
  have hD : va_D A (wX5 a0 g x2 r23.1 r15.2.1 r23.2 x1 ++ wX6 a1 g v1_raws v1_kinds v1_figures v1_heavies v1_places v1_papers v1_lowers v1_uppers v1_rules v1_bounds v1_boundCount v1_tieWay v1_reached) := hD
  have hl : lv_has ls 4 [] := hl
  exact retV (u := (x2, r23.1, r15.2.1, r23.2, x1)) (W1 := fun u => wX5 a0 g u.1 u.2.1 u.2.2.1 u.2.2.2.1 u.2.2.2.2 ++ wX6 a1 g v1_raws v1_kinds v1_figures v1_heavies v1_places v1_papers v1_lowers v1_uppers v1_rules v1_bounds v1_boundCount v1_tieWay v1_reached) hx hb hr hlocks hS hP hD (hf0.trans hf.symm) dX5_work_93
set_option maxHeartbeats 4000000 in
set_option maxRecDepth 100000 in
theorem c_X5_oversOf (l : Launch) (g : GG) (a0 : Nat → Nat) (v0_overs : (Nat → Int32)) (v0_unders : (Nat → Int32)) (v0_marks : (Nat → Int32)) (v0_wrongs : (Nat → Int32)) (v0_papers : Int32) (p1 : Int32) (hne : (m_X5_oversOf (v0_overs, v0_unders, v0_marks, v0_wrongs, v0_papers) p1) ≠ none) : Ct l g yX5_oversOf cX5_oversOf 2 (some .int) ({ frames := 1, cells := 0, slots := 0, locals := 21 } : Room) [.ref (a0 0), .int p1] (wX5 a0 g v0_overs v0_unders v0_marks v0_wrongs v0_papers) (Qi g .int (m_X5_oversOf (v0_overs, v0_unders, v0_marks, v0_wrongs, v0_papers) p1) (fun u => u) (fun u => wX5 a0 g v0_overs v0_unders v0_marks v0_wrongs v0_papers)) 0 0 := by
  obtain ⟨out, hf⟩ := ne_ex hne
  have hf0 := hf
  refine Ct.of (own := RX5) (by decide +kernel) rfl (Nat.le_of_ble_eq_true rfl) ?_
  intro p e s m below meth c hx hb hr hml hown hts hlocks hin hK A H locs hA hP hD hS hE ls hl
  have hl : lv_has ls 2 [(0, .ref (a0 0)), (1, .int p1)] := hl
  unfold m_X5_oversOf at hf
  refine lv_aload_n hx hb dX5_oversOf_0 rfl (lv_at hl 0 rfl) ?_
  refine va_get (D := g.1) (ci := 6) (v := .ref (a0 1)) (C := RX5) (T := TX5) (N := 5) hx hb hts layX5 hown hK.1 hP 0 rfl rfl 0 (by decide) (hts _ kw118) (fun _ h9 => h9) rfl dX5_oversOf_1 ?_
  refine lv_iload_n hx hb dX5_oversOf_4 rfl (lv_at hl 1 rfl) ?_
  refine cIp hP hD hS hA hE (fun hPc hDc hSc => rV (As := [.int p1]) (rest := []) hx hb hml hown hts hK (c_X2_get l g (fun i => a0 (i + 1)) 7 v0_overs p1 (bnd_ne hf)) svV_X2_get kw621 rfl rfl hPc hDc hSc rfl rfl hl.1 (Nat.le_of_ble_eq_true rfl) dX5_oversOf_5 ⟨Nat.le_of_ble_eq_true rfl, Nat.le_of_ble_eq_true rfl, rfl, rfl, Nat.le_of_ble_eq_true rfl, Nat.le_of_ble_eq_true rfl⟩) [(1, 2)] rfl rfl rfl (fun x1 H locs ex1 nx1 hP hS => ?_)
  have hf := bnd_of hf ex1
  exact retI (v := x1) (u := x1) (val := fun u => u) (W1 := fun u => wX5 a0 g v0_overs v0_unders v0_marks v0_wrongs v0_papers) hx hb hr hlocks hS hP hD (hf0.trans hf.symm) rfl rfl dX5_oversOf_8
set_option maxHeartbeats 4000000 in
set_option maxRecDepth 100000 in
theorem c_X5_undersOf (l : Launch) (g : GG) (a0 : Nat → Nat) (v0_overs : (Nat → Int32)) (v0_unders : (Nat → Int32)) (v0_marks : (Nat → Int32)) (v0_wrongs : (Nat → Int32)) (v0_papers : Int32) (p1 : Int32) (hne : (m_X5_undersOf (v0_overs, v0_unders, v0_marks, v0_wrongs, v0_papers) p1) ≠ none) : Ct l g yX5_undersOf cX5_undersOf 2 (some .int) ({ frames := 1, cells := 0, slots := 0, locals := 21 } : Room) [.ref (a0 0), .int p1] (wX5 a0 g v0_overs v0_unders v0_marks v0_wrongs v0_papers) (Qi g .int (m_X5_undersOf (v0_overs, v0_unders, v0_marks, v0_wrongs, v0_papers) p1) (fun u => u) (fun u => wX5 a0 g v0_overs v0_unders v0_marks v0_wrongs v0_papers)) 0 0 := by
  obtain ⟨out, hf⟩ := ne_ex hne
  have hf0 := hf
  refine Ct.of (own := RX5) (by decide +kernel) rfl (Nat.le_of_ble_eq_true rfl) ?_
  intro p e s m below meth c hx hb hr hml hown hts hlocks hin hK A H locs hA hP hD hS hE ls hl
  have hl : lv_has ls 2 [(0, .ref (a0 0)), (1, .int p1)] := hl
  unfold m_X5_undersOf at hf
  refine lv_aload_n hx hb dX5_undersOf_0 rfl (lv_at hl 0 rfl) ?_
  refine va_get (D := g.1) (ci := 6) (v := .ref (a0 3)) (C := RX5) (T := TX5) (N := 5) hx hb hts layX5 hown hK.1 hP 0 rfl rfl 1 (by decide) (hts _ kw119) (fun _ h9 => h9) rfl dX5_undersOf_1 ?_
  refine lv_iload_n hx hb dX5_undersOf_4 rfl (lv_at hl 1 rfl) ?_
  refine cIp hP hD hS hA hE (fun hPc hDc hSc => rV (As := [.int p1]) (rest := []) hx hb hml hown hts hK (c_X2_get l g (fun i => a0 (i + 3)) 7 v0_unders p1 (bnd_ne hf)) svV_X2_get kw621 rfl rfl hPc hDc hSc rfl rfl hl.1 (Nat.le_of_ble_eq_true rfl) dX5_undersOf_5 ⟨Nat.le_of_ble_eq_true rfl, Nat.le_of_ble_eq_true rfl, rfl, rfl, Nat.le_of_ble_eq_true rfl, Nat.le_of_ble_eq_true rfl⟩) [(3, 2)] rfl rfl rfl (fun x1 H locs ex1 nx1 hP hS => ?_)
  have hf := bnd_of hf ex1
  exact retI (v := x1) (u := x1) (val := fun u => u) (W1 := fun u => wX5 a0 g v0_overs v0_unders v0_marks v0_wrongs v0_papers) hx hb hr hlocks hS hP hD (hf0.trans hf.symm) rfl rfl dX5_undersOf_8
