theorem svV_X10_isAhead : SV RX10 yX10_isAhead cX10_isAhead 3 (some .boolean) 2 := ⟨kw1481, kw1852, kw16, kw1482, rfl, by decide, by decide, by decide +kernel⟩
theorem svV_X10_ofPlace : SV RX10 yX10_ofPlace cX10_ofPlace 4 (some .int) 1 := ⟨kw1484, kw1853, kw16, kw1485, rfl, by decide, by decide, by decide +kernel⟩
theorem svV_X10_number : SV RX10 yX10_number cX10_number 3 none 2 := ⟨kw1490, kw1855, kw16, kw1491, rfl, by decide, by decide, by decide +kernel⟩
theorem svV_X10_begins : SV RX10 yX10_begins cX10_begins 4 none 0 := ⟨kw1478, kw1851, kw16, kw1479, rfl, by decide, by decide, by decide +kernel⟩
theorem svV_X10_firstWrong : SV RX10 yX10_firstWrong cX10_firstWrong 7 (some .int) 1 := ⟨kw1487, kw1854, kw16, kw1488, rfl, by decide, by decide, by decide +kernel⟩
theorem svV_X10_blockOf : SV RX10 yX10_blockOf cX10_blockOf 3 (some .int) 1 := ⟨kw1508, kw1861, kw16, kw1509, rfl, by decide, by decide, by decide +kernel⟩
theorem svV_X10_add : SV RX10 yX10_add cX10_add 7 none 2 := ⟨kw1517, kw1863, kw16, kw1518, rfl, by decide, by decide, by decide +kernel⟩
theorem svS_X10_isLine : SS RX10 yX10_isLine cX10_isLine 1 (some .boolean) 1 := ⟨kw1465, kw16, kw1466, rfl, by decide, by decide, by decide +kernel⟩
theorem svS_X10_isPart : SS RX10 yX10_isPart cX10_isPart 1 (some .boolean) 1 := ⟨kw1472, kw16, kw1473, rfl, by decide, by decide, by decide +kernel⟩
theorem svV_X10_lines : SV RX10 yX10_lines cX10_lines 4 none 1 := ⟨kw1475, kw1850, kw16, kw1476, rfl, by decide, by decide, by decide +kernel⟩
theorem svV_X10_lineValue : SV RX10 yX10_lineValue cX10_lineValue 3 none 2 := ⟨kw1505, kw1860, kw16, kw1506, rfl, by decide, by decide, by decide +kernel⟩
theorem svV_X10_part : SV RX10 yX10_part cX10_part 2 (some .long) 1 := ⟨kw1520, kw1864, kw16, kw1521, rfl, by decide, by decide, by decide +kernel⟩
theorem svV_X10_far : SV RX10 yX10_far cX10_far 2 (some .long) 1 := ⟨kw1468, kw1849, kw16, kw1469, rfl, by decide, by decide, by decide +kernel⟩
theorem dX10_begins_0 : decode cX10_begins 0 = .ok (.aload_n 0, 1) := by decide +kernel
theorem dX10_begins_1 : decode cX10_begins 1 = .ok (.iconst 0, 1) := by decide +kernel
theorem dX10_begins_2 : decode cX10_begins 2 = .ok (.putfield 196, 3) := by decide +kernel
theorem dX10_begins_5 : decode cX10_begins 5 = .ok (.iconst 1, 1) := by decide +kernel
theorem dX10_begins_6 : decode cX10_begins 6 = .ok (.aload_n 0, 1) := by decide +kernel
theorem dX10_begins_7 : decode cX10_begins 7 = .ok (.getfield 80, 3) := by decide +kernel
theorem dX10_begins_10 : decode cX10_begins 10 = .ok (.ishl, 1) := by decide +kernel
theorem dX10_begins_11 : decode cX10_begins 11 = .ok (.iconst 1, 1) := by decide +kernel
theorem dX10_begins_12 : decode cX10_begins 12 = .ok (.isub, 1) := by decide +kernel
theorem dX10_begins_13 : decode cX10_begins 13 = .ok (.istore_n 1, 1) := by decide +kernel
theorem dX10_begins_14 : decode cX10_begins 14 = .ok (.iload_n 1, 1) := by decide +kernel
theorem dX10_begins_15 : decode cX10_begins 15 = .ok (.ifCond .eq 110, 3) := by decide +kernel
theorem dX10_begins_18 : decode cX10_begins 18 = .ok (.bipush (-9), 2) := by decide +kernel
theorem dX10_begins_20 : decode cX10_begins 20 = .ok (.istore_n 2, 1) := by decide +kernel
theorem dX10_begins_21 : decode cX10_begins 21 = .ok (.iconst 0, 1) := by decide +kernel
theorem dX10_begins_22 : decode cX10_begins 22 = .ok (.istore_n 3, 1) := by decide +kernel
theorem dX10_begins_23 : decode cX10_begins 23 = .ok (.iload_n 3, 1) := by decide +kernel
theorem dX10_begins_24 : decode cX10_begins 24 = .ok (.aload_n 0, 1) := by decide +kernel
theorem dX10_begins_25 : decode cX10_begins 25 = .ok (.getfield 80, 3) := by decide +kernel
theorem dX10_begins_28 : decode cX10_begins 28 = .ok (.if_icmp .ge 38, 3) := by decide +kernel
theorem dX10_begins_31 : decode cX10_begins 31 = .ok (.iload_n 1, 1) := by decide +kernel
theorem dX10_begins_32 : decode cX10_begins 32 = .ok (.iload_n 3, 1) := by decide +kernel
theorem dX10_begins_33 : decode cX10_begins 33 = .ok (.invokestatic 130, 3) := by decide +kernel
theorem dX10_begins_36 : decode cX10_begins 36 = .ok (.ifCond .eq 22, 3) := by decide +kernel
theorem dX10_begins_58 : decode cX10_begins 58 = .ok (.iload_n 2, 1) := by decide +kernel
theorem dX10_begins_59 : decode cX10_begins 59 = .ok (.istore_n 2, 1) := by decide +kernel
theorem dX10_begins_60 : decode cX10_begins 60 = .ok (.iinc 3 1, 3) := by decide +kernel
theorem dX10_begins_63 : decode cX10_begins 63 = .ok (.goto (-40), 3) := by decide +kernel
theorem dX10_begins_39 : decode cX10_begins 39 = .ok (.iload_n 2, 1) := by decide +kernel
theorem dX10_begins_40 : decode cX10_begins 40 = .ok (.bipush (-9), 2) := by decide +kernel
theorem dX10_begins_42 : decode cX10_begins 42 = .ok (.if_icmp .eq 12, 3) := by decide +kernel
theorem dX10_begins_54 : decode cX10_begins 54 = .ok (.iload_n 3, 1) := by decide +kernel
theorem dX10_begins_55 : decode cX10_begins 55 = .ok (.goto 4, 3) := by decide +kernel
theorem dX10_begins_45 : decode cX10_begins 45 = .ok (.aload_n 0, 1) := by decide +kernel
theorem dX10_begins_46 : decode cX10_begins 46 = .ok (.iload_n 3, 1) := by decide +kernel
theorem dX10_begins_47 : decode cX10_begins 47 = .ok (.iload_n 2, 1) := by decide +kernel
theorem dX10_begins_48 : decode cX10_begins 48 = .ok (.invokevirtual 199, 3) := by decide +kernel
theorem dX10_begins_51 : decode cX10_begins 51 = .ok (.ifCond .eq 7, 3) := by decide +kernel
theorem dX10_begins_66 : decode cX10_begins 66 = .ok (.aload_n 0, 1) := by decide +kernel
theorem dX10_begins_67 : decode cX10_begins 67 = .ok (.getfield 59, 3) := by decide +kernel
theorem dX10_begins_70 : decode cX10_begins 70 = .ok (.aload_n 0, 1) := by decide +kernel
theorem dX10_begins_71 : decode cX10_begins 71 = .ok (.getfield 196, 3) := by decide +kernel
theorem dX10_begins_74 : decode cX10_begins 74 = .ok (.aload_n 0, 1) := by decide +kernel
theorem dX10_begins_75 : decode cX10_begins 75 = .ok (.getfield 148, 3) := by decide +kernel
theorem dX10_begins_97 : decode cX10_begins 97 = .ok (.iastore, 1) := by decide +kernel
theorem dX10_begins_98 : decode cX10_begins 98 = .ok (.iload_n 1, 1) := by decide +kernel
theorem dX10_begins_99 : decode cX10_begins 99 = .ok (.aload_n 0, 1) := by decide +kernel
theorem dX10_begins_100 : decode cX10_begins 100 = .ok (.getfield 59, 3) := by decide +kernel
theorem dX10_begins_103 : decode cX10_begins 103 = .ok (.aload_n 0, 1) := by decide +kernel
theorem dX10_begins_104 : decode cX10_begins 104 = .ok (.getfield 196, 3) := by decide +kernel
theorem dX10_begins_107 : decode cX10_begins 107 = .ok (.iaload, 1) := by decide +kernel
theorem dX10_begins_108 : decode cX10_begins 108 = .ok (.iconst (-1), 1) := by decide +kernel
theorem dX10_begins_109 : decode cX10_begins 109 = .ok (.ixor, 1) := by decide +kernel
theorem dX10_begins_110 : decode cX10_begins 110 = .ok (.iand, 1) := by decide +kernel
theorem dX10_begins_111 : decode cX10_begins 111 = .ok (.istore_n 1, 1) := by decide +kernel
theorem dX10_begins_112 : decode cX10_begins 112 = .ok (.aload_n 0, 1) := by decide +kernel
theorem dX10_begins_113 : decode cX10_begins 113 = .ok (.dup, 1) := by decide +kernel
theorem dX10_begins_114 : decode cX10_begins 114 = .ok (.getfield 196, 3) := by decide +kernel
theorem dX10_begins_117 : decode cX10_begins 117 = .ok (.iconst 1, 1) := by decide +kernel
theorem dX10_begins_118 : decode cX10_begins 118 = .ok (.iadd, 1) := by decide +kernel
theorem dX10_begins_119 : decode cX10_begins 119 = .ok (.putfield 196, 3) := by decide +kernel
theorem dX10_begins_122 : decode cX10_begins 122 = .ok (.goto (-108), 3) := by decide +kernel
theorem dX10_begins_78 : decode cX10_begins 78 = .ok (.ifCond .ne 9, 3) := by decide +kernel
theorem dX10_begins_87 : decode cX10_begins 87 = .ok (.aload_n 0, 1) := by decide +kernel
theorem dX10_begins_88 : decode cX10_begins 88 = .ok (.aload_n 0, 1) := by decide +kernel
theorem dX10_begins_89 : decode cX10_begins 89 = .ok (.getfield 22, 3) := by decide +kernel
theorem dX10_begins_92 : decode cX10_begins 92 = .ok (.iload_n 2, 1) := by decide +kernel
theorem dX10_begins_93 : decode cX10_begins 93 = .ok (.iaload, 1) := by decide +kernel
theorem dX10_begins_94 : decode cX10_begins 94 = .ok (.invokevirtual 202, 3) := by decide +kernel
theorem dX10_begins_81 : decode cX10_begins 81 = .ok (.iconst 1, 1) := by decide +kernel
theorem dX10_begins_82 : decode cX10_begins 82 = .ok (.iload_n 2, 1) := by decide +kernel
theorem dX10_begins_83 : decode cX10_begins 83 = .ok (.ishl, 1) := by decide +kernel
theorem dX10_begins_84 : decode cX10_begins 84 = .ok (.goto 13, 3) := by decide +kernel
theorem dX10_begins_125 : decode cX10_begins 125 = .ok (.return_, 1) := by decide +kernel
theorem dX10_firstWrong_0 : decode cX10_firstWrong 0 = .ok (.iconst 0, 1) := by decide +kernel
theorem dX10_firstWrong_1 : decode cX10_firstWrong 1 = .ok (.istore_n 2, 1) := by decide +kernel
theorem dX10_firstWrong_2 : decode cX10_firstWrong 2 = .ok (.iload_n 2, 1) := by decide +kernel
theorem dX10_firstWrong_3 : decode cX10_firstWrong 3 = .ok (.iconst 1, 1) := by decide +kernel
theorem dX10_firstWrong_4 : decode cX10_firstWrong 4 = .ok (.iadd, 1) := by decide +kernel
theorem dX10_firstWrong_5 : decode cX10_firstWrong 5 = .ok (.aload_n 0, 1) := by decide +kernel
theorem dX10_firstWrong_6 : decode cX10_firstWrong 6 = .ok (.getfield 196, 3) := by decide +kernel
theorem dX10_firstWrong_9 : decode cX10_firstWrong 9 = .ok (.if_icmp .ge 67, 3) := by decide +kernel
theorem dX10_firstWrong_12 : decode cX10_firstWrong 12 = .ok (.aload_n 0, 1) := by decide +kernel
theorem dX10_firstWrong_13 : decode cX10_firstWrong 13 = .ok (.iload_n 1, 1) := by decide +kernel
theorem dX10_firstWrong_14 : decode cX10_firstWrong 14 = .ok (.aload_n 0, 1) := by decide +kernel
theorem dX10_firstWrong_15 : decode cX10_firstWrong 15 = .ok (.getfield 59, 3) := by decide +kernel
theorem dX10_firstWrong_18 : decode cX10_firstWrong 18 = .ok (.iload_n 2, 1) := by decide +kernel
theorem dX10_firstWrong_19 : decode cX10_firstWrong 19 = .ok (.iaload, 1) := by decide +kernel
theorem dX10_firstWrong_20 : decode cX10_firstWrong 20 = .ok (.invokevirtual 205, 3) := by decide +kernel
theorem dX10_firstWrong_23 : decode cX10_firstWrong 23 = .ok (.aload_n 0, 1) := by decide +kernel
theorem dX10_firstWrong_24 : decode cX10_firstWrong 24 = .ok (.getfield 190, 3) := by decide +kernel
theorem dX10_firstWrong_27 : decode cX10_firstWrong 27 = .ok (.i2l, 1) := by decide +kernel
theorem dX10_firstWrong_28 : decode cX10_firstWrong 28 = .ok (.lstore_n 3, 1) := by decide +kernel
theorem dX10_firstWrong_29 : decode cX10_firstWrong 29 = .ok (.aload_n 0, 1) := by decide +kernel
theorem dX10_firstWrong_30 : decode cX10_firstWrong 30 = .ok (.getfield 193, 3) := by decide +kernel
theorem dX10_firstWrong_33 : decode cX10_firstWrong 33 = .ok (.i2l, 1) := by decide +kernel
theorem dX10_firstWrong_34 : decode cX10_firstWrong 34 = .ok (.lstore 5, 2) := by decide +kernel
theorem dX10_firstWrong_36 : decode cX10_firstWrong 36 = .ok (.aload_n 0, 1) := by decide +kernel
theorem dX10_firstWrong_37 : decode cX10_firstWrong 37 = .ok (.iload_n 1, 1) := by decide +kernel
theorem dX10_firstWrong_38 : decode cX10_firstWrong 38 = .ok (.aload_n 0, 1) := by decide +kernel
theorem dX10_firstWrong_39 : decode cX10_firstWrong 39 = .ok (.getfield 59, 3) := by decide +kernel
theorem dX10_firstWrong_42 : decode cX10_firstWrong 42 = .ok (.iload_n 2, 1) := by decide +kernel
theorem dX10_firstWrong_43 : decode cX10_firstWrong 43 = .ok (.iconst 1, 1) := by decide +kernel
theorem dX10_firstWrong_44 : decode cX10_firstWrong 44 = .ok (.iadd, 1) := by decide +kernel
theorem dX10_firstWrong_45 : decode cX10_firstWrong 45 = .ok (.iaload, 1) := by decide +kernel
theorem dX10_firstWrong_46 : decode cX10_firstWrong 46 = .ok (.invokevirtual 205, 3) := by decide +kernel
theorem dX10_firstWrong_49 : decode cX10_firstWrong 49 = .ok (.lload_n 3, 1) := by decide +kernel
theorem dX10_firstWrong_50 : decode cX10_firstWrong 50 = .ok (.aload_n 0, 1) := by decide +kernel
theorem dX10_firstWrong_51 : decode cX10_firstWrong 51 = .ok (.getfield 193, 3) := by decide +kernel
theorem dX10_firstWrong_54 : decode cX10_firstWrong 54 = .ok (.i2l, 1) := by decide +kernel
theorem dX10_firstWrong_55 : decode cX10_firstWrong 55 = .ok (.lmul, 1) := by decide +kernel
theorem dX10_firstWrong_56 : decode cX10_firstWrong 56 = .ok (.aload_n 0, 1) := by decide +kernel
theorem dX10_firstWrong_57 : decode cX10_firstWrong 57 = .ok (.getfield 190, 3) := by decide +kernel
theorem dX10_firstWrong_60 : decode cX10_firstWrong 60 = .ok (.i2l, 1) := by decide +kernel
theorem dX10_firstWrong_61 : decode cX10_firstWrong 61 = .ok (.lload 5, 2) := by decide +kernel
theorem dX10_firstWrong_63 : decode cX10_firstWrong 63 = .ok (.lmul, 1) := by decide +kernel
theorem dX10_firstWrong_64 : decode cX10_firstWrong 64 = .ok (.lcmp, 1) := by decide +kernel
theorem dX10_firstWrong_65 : decode cX10_firstWrong 65 = .ok (.ifCond .lt 5, 3) := by decide +kernel
theorem dX10_firstWrong_70 : decode cX10_firstWrong 70 = .ok (.iinc 2 1, 3) := by decide +kernel
theorem dX10_firstWrong_73 : decode cX10_firstWrong 73 = .ok (.goto (-71), 3) := by decide +kernel
theorem dX10_firstWrong_68 : decode cX10_firstWrong 68 = .ok (.iload_n 2, 1) := by decide +kernel
theorem dX10_firstWrong_69 : decode cX10_firstWrong 69 = .ok (.ireturn, 1) := by decide +kernel
theorem dX10_firstWrong_76 : decode cX10_firstWrong 76 = .ok (.bipush (-9), 2) := by decide +kernel
theorem dX10_firstWrong_78 : decode cX10_firstWrong 78 = .ok (.ireturn, 1) := by decide +kernel
theorem dX10_lines_0 : decode cX10_lines 0 = .ok (.aload_n 0, 1) := by decide +kernel
theorem dX10_lines_1 : decode cX10_lines 1 = .ok (.invokevirtual 208, 3) := by decide +kernel
theorem dX10_lines_4 : decode cX10_lines 4 = .ok (.aload_n 0, 1) := by decide +kernel
theorem dX10_lines_5 : decode cX10_lines 5 = .ok (.iconst 0, 1) := by decide +kernel
theorem dX10_lines_6 : decode cX10_lines 6 = .ok (.putfield 211, 3) := by decide +kernel
theorem dX10_lines_9 : decode cX10_lines 9 = .ok (.aload_n 0, 1) := by decide +kernel
theorem dX10_lines_10 : decode cX10_lines 10 = .ok (.iload_n 1, 1) := by decide +kernel
theorem dX10_lines_11 : decode cX10_lines 11 = .ok (.invokevirtual 214, 3) := by decide +kernel
theorem dX10_lines_14 : decode cX10_lines 14 = .ok (.istore_n 2, 1) := by decide +kernel
theorem dX10_lines_15 : decode cX10_lines 15 = .ok (.iload_n 2, 1) := by decide +kernel
theorem dX10_lines_16 : decode cX10_lines 16 = .ok (.bipush (-9), 2) := by decide +kernel
theorem dX10_lines_18 : decode cX10_lines 18 = .ok (.if_icmp .eq 81, 3) := by decide +kernel
theorem dX10_lines_21 : decode cX10_lines 21 = .ok (.aload_n 0, 1) := by decide +kernel
theorem dX10_lines_22 : decode cX10_lines 22 = .ok (.getfield 59, 3) := by decide +kernel
theorem dX10_lines_25 : decode cX10_lines 25 = .ok (.iload_n 2, 1) := by decide +kernel
theorem dX10_lines_26 : decode cX10_lines 26 = .ok (.dup2, 1) := by decide +kernel
theorem dX10_lines_27 : decode cX10_lines 27 = .ok (.iaload, 1) := by decide +kernel
theorem dX10_lines_28 : decode cX10_lines 28 = .ok (.aload_n 0, 1) := by decide +kernel
theorem dX10_lines_29 : decode cX10_lines 29 = .ok (.getfield 59, 3) := by decide +kernel
theorem dX10_lines_32 : decode cX10_lines 32 = .ok (.iload_n 2, 1) := by decide +kernel
theorem dX10_lines_33 : decode cX10_lines 33 = .ok (.iconst 1, 1) := by decide +kernel
theorem dX10_lines_34 : decode cX10_lines 34 = .ok (.iadd, 1) := by decide +kernel
theorem dX10_lines_35 : decode cX10_lines 35 = .ok (.iaload, 1) := by decide +kernel
theorem dX10_lines_36 : decode cX10_lines 36 = .ok (.ior, 1) := by decide +kernel
theorem dX10_lines_37 : decode cX10_lines 37 = .ok (.iastore, 1) := by decide +kernel
theorem dX10_lines_38 : decode cX10_lines 38 = .ok (.aload_n 0, 1) := by decide +kernel
theorem dX10_lines_39 : decode cX10_lines 39 = .ok (.dup, 1) := by decide +kernel
theorem dX10_lines_40 : decode cX10_lines 40 = .ok (.getfield 196, 3) := by decide +kernel
theorem dX10_lines_43 : decode cX10_lines 43 = .ok (.iconst 1, 1) := by decide +kernel
theorem dX10_lines_44 : decode cX10_lines 44 = .ok (.isub, 1) := by decide +kernel
theorem dX10_lines_45 : decode cX10_lines 45 = .ok (.putfield 196, 3) := by decide +kernel
theorem dX10_lines_48 : decode cX10_lines 48 = .ok (.iload_n 2, 1) := by decide +kernel
theorem dX10_lines_49 : decode cX10_lines 49 = .ok (.iconst 1, 1) := by decide +kernel
theorem dX10_lines_50 : decode cX10_lines 50 = .ok (.iadd, 1) := by decide +kernel
theorem dX10_lines_51 : decode cX10_lines 51 = .ok (.istore_n 3, 1) := by decide +kernel
theorem dX10_lines_52 : decode cX10_lines 52 = .ok (.iload_n 3, 1) := by decide +kernel
theorem dX10_lines_53 : decode cX10_lines 53 = .ok (.aload_n 0, 1) := by decide +kernel
theorem dX10_lines_54 : decode cX10_lines 54 = .ok (.getfield 196, 3) := by decide +kernel
theorem dX10_lines_57 : decode cX10_lines 57 = .ok (.if_icmp .ge 23, 3) := by decide +kernel
theorem dX10_lines_60 : decode cX10_lines 60 = .ok (.aload_n 0, 1) := by decide +kernel
theorem dX10_lines_61 : decode cX10_lines 61 = .ok (.getfield 59, 3) := by decide +kernel
theorem dX10_lines_64 : decode cX10_lines 64 = .ok (.iload_n 3, 1) := by decide +kernel
theorem dX10_lines_65 : decode cX10_lines 65 = .ok (.aload_n 0, 1) := by decide +kernel
theorem dX10_lines_66 : decode cX10_lines 66 = .ok (.getfield 59, 3) := by decide +kernel
theorem dX10_lines_69 : decode cX10_lines 69 = .ok (.iload_n 3, 1) := by decide +kernel
theorem dX10_lines_70 : decode cX10_lines 70 = .ok (.iconst 1, 1) := by decide +kernel
theorem dX10_lines_71 : decode cX10_lines 71 = .ok (.iadd, 1) := by decide +kernel
theorem dX10_lines_72 : decode cX10_lines 72 = .ok (.iaload, 1) := by decide +kernel
theorem dX10_lines_73 : decode cX10_lines 73 = .ok (.iastore, 1) := by decide +kernel
theorem dX10_lines_74 : decode cX10_lines 74 = .ok (.iinc 3 1, 3) := by decide +kernel
theorem dX10_lines_77 : decode cX10_lines 77 = .ok (.goto (-25), 3) := by decide +kernel
theorem dX10_lines_80 : decode cX10_lines 80 = .ok (.aload_n 0, 1) := by decide +kernel
theorem dX10_lines_81 : decode cX10_lines 81 = .ok (.dup, 1) := by decide +kernel
theorem dX10_lines_82 : decode cX10_lines 82 = .ok (.getfield 211, 3) := by decide +kernel
theorem dX10_lines_85 : decode cX10_lines 85 = .ok (.iconst 1, 1) := by decide +kernel
theorem dX10_lines_86 : decode cX10_lines 86 = .ok (.iadd, 1) := by decide +kernel
theorem dX10_lines_87 : decode cX10_lines 87 = .ok (.putfield 211, 3) := by decide +kernel
theorem dX10_lines_90 : decode cX10_lines 90 = .ok (.aload_n 0, 1) := by decide +kernel
theorem dX10_lines_91 : decode cX10_lines 91 = .ok (.iload_n 1, 1) := by decide +kernel
theorem dX10_lines_92 : decode cX10_lines 92 = .ok (.invokevirtual 214, 3) := by decide +kernel
theorem dX10_lines_95 : decode cX10_lines 95 = .ok (.istore_n 2, 1) := by decide +kernel
theorem dX10_lines_96 : decode cX10_lines 96 = .ok (.goto (-81), 3) := by decide +kernel
theorem dX10_lines_99 : decode cX10_lines 99 = .ok (.return_, 1) := by decide +kernel
theorem dX10_blockOf_0 : decode cX10_blockOf 0 = .ok (.iconst 0, 1) := by decide +kernel
theorem dX10_blockOf_1 : decode cX10_blockOf 1 = .ok (.istore_n 2, 1) := by decide +kernel
theorem dX10_blockOf_2 : decode cX10_blockOf 2 = .ok (.aload_n 0, 1) := by decide +kernel
theorem dX10_blockOf_3 : decode cX10_blockOf 3 = .ok (.getfield 59, 3) := by decide +kernel
theorem dX10_blockOf_6 : decode cX10_blockOf 6 = .ok (.iload_n 2, 1) := by decide +kernel
theorem dX10_blockOf_7 : decode cX10_blockOf 7 = .ok (.iaload, 1) := by decide +kernel
theorem dX10_blockOf_8 : decode cX10_blockOf 8 = .ok (.iload_n 1, 1) := by decide +kernel
theorem dX10_blockOf_9 : decode cX10_blockOf 9 = .ok (.invokestatic 130, 3) := by decide +kernel
theorem dX10_blockOf_12 : decode cX10_blockOf 12 = .ok (.ifCond .ne 9, 3) := by decide +kernel
theorem dX10_blockOf_15 : decode cX10_blockOf 15 = .ok (.iinc 2 1, 3) := by decide +kernel
theorem dX10_blockOf_18 : decode cX10_blockOf 18 = .ok (.goto (-16), 3) := by decide +kernel
theorem dX10_blockOf_21 : decode cX10_blockOf 21 = .ok (.aload_n 0, 1) := by decide +kernel
theorem dX10_blockOf_22 : decode cX10_blockOf 22 = .ok (.getfield 59, 3) := by decide +kernel
theorem dX10_blockOf_25 : decode cX10_blockOf 25 = .ok (.iload_n 2, 1) := by decide +kernel
theorem dX10_blockOf_26 : decode cX10_blockOf 26 = .ok (.iaload, 1) := by decide +kernel
theorem dX10_blockOf_27 : decode cX10_blockOf 27 = .ok (.ireturn, 1) := by decide +kernel
theorem dX10_lineValue_0 : decode cX10_lineValue 0 = .ok (.aload_n 0, 1) := by decide +kernel
theorem dX10_lineValue_1 : decode cX10_lineValue 1 = .ok (.iload_n 1, 1) := by decide +kernel
theorem dX10_lineValue_2 : decode cX10_lineValue 2 = .ok (.aload_n 0, 1) := by decide +kernel
theorem dX10_lineValue_3 : decode cX10_lineValue 3 = .ok (.iload_n 2, 1) := by decide +kernel
theorem dX10_lineValue_4 : decode cX10_lineValue 4 = .ok (.invokevirtual 217, 3) := by decide +kernel
theorem dX10_lineValue_7 : decode cX10_lineValue 7 = .ok (.invokevirtual 205, 3) := by decide +kernel
theorem dX10_lineValue_10 : decode cX10_lineValue 10 = .ok (.aload_n 0, 1) := by decide +kernel
theorem dX10_lineValue_11 : decode cX10_lineValue 11 = .ok (.aload_n 0, 1) := by decide +kernel
theorem dX10_lineValue_12 : decode cX10_lineValue 12 = .ok (.getfield 190, 3) := by decide +kernel
theorem dX10_lineValue_15 : decode cX10_lineValue 15 = .ok (.i2l, 1) := by decide +kernel
theorem dX10_lineValue_16 : decode cX10_lineValue 16 = .ok (.aload_n 0, 1) := by decide +kernel
theorem dX10_lineValue_17 : decode cX10_lineValue 17 = .ok (.getfield 193, 3) := by decide +kernel
theorem dX10_lineValue_20 : decode cX10_lineValue 20 = .ok (.i2l, 1) := by decide +kernel
theorem dX10_lineValue_21 : decode cX10_lineValue 21 = .ok (.invokevirtual 102, 3) := by decide +kernel
theorem dX10_lineValue_24 : decode cX10_lineValue 24 = .ok (.aload_n 0, 1) := by decide +kernel
theorem dX10_lineValue_25 : decode cX10_lineValue 25 = .ok (.getfield 148, 3) := by decide +kernel
theorem dX10_lineValue_28 : decode cX10_lineValue 28 = .ok (.iconst 2, 1) := by decide +kernel
theorem dX10_lineValue_29 : decode cX10_lineValue 29 = .ok (.if_icmp .ne 44, 3) := by decide +kernel
theorem dX10_lineValue_73 : decode cX10_lineValue 73 = .ok (.return_, 1) := by decide +kernel
theorem dX10_lineValue_32 : decode cX10_lineValue 32 = .ok (.aload_n 0, 1) := by decide +kernel
theorem dX10_lineValue_33 : decode cX10_lineValue 33 = .ok (.iload_n 1, 1) := by decide +kernel
theorem dX10_lineValue_34 : decode cX10_lineValue 34 = .ok (.aload_n 0, 1) := by decide +kernel
theorem dX10_lineValue_35 : decode cX10_lineValue 35 = .ok (.aload_n 0, 1) := by decide +kernel
theorem dX10_lineValue_36 : decode cX10_lineValue 36 = .ok (.getfield 22, 3) := by decide +kernel
theorem dX10_lineValue_39 : decode cX10_lineValue 39 = .ok (.iload_n 2, 1) := by decide +kernel
theorem dX10_lineValue_40 : decode cX10_lineValue 40 = .ok (.iaload, 1) := by decide +kernel
theorem dX10_lineValue_41 : decode cX10_lineValue 41 = .ok (.invokevirtual 202, 3) := by decide +kernel
theorem dX10_lineValue_44 : decode cX10_lineValue 44 = .ok (.invokevirtual 205, 3) := by decide +kernel
theorem dX10_lineValue_47 : decode cX10_lineValue 47 = .ok (.aload_n 0, 1) := by decide +kernel
theorem dX10_lineValue_48 : decode cX10_lineValue 48 = .ok (.aload_n 0, 1) := by decide +kernel
theorem dX10_lineValue_49 : decode cX10_lineValue 49 = .ok (.getfield 190, 3) := by decide +kernel
theorem dX10_lineValue_52 : decode cX10_lineValue 52 = .ok (.ineg, 1) := by decide +kernel
theorem dX10_lineValue_53 : decode cX10_lineValue 53 = .ok (.i2l, 1) := by decide +kernel
theorem dX10_lineValue_54 : decode cX10_lineValue 54 = .ok (.aload_n 0, 1) := by decide +kernel
theorem dX10_lineValue_55 : decode cX10_lineValue 55 = .ok (.getfield 193, 3) := by decide +kernel
theorem dX10_lineValue_58 : decode cX10_lineValue 58 = .ok (.i2l, 1) := by decide +kernel
theorem dX10_lineValue_59 : decode cX10_lineValue 59 = .ok (.invokevirtual 220, 3) := by decide +kernel
theorem dX10_lineValue_62 : decode cX10_lineValue 62 = .ok (.aload_n 0, 1) := by decide +kernel
theorem dX10_lineValue_63 : decode cX10_lineValue 63 = .ok (.aload_n 0, 1) := by decide +kernel
theorem dX10_lineValue_64 : decode cX10_lineValue 64 = .ok (.iload_n 2, 1) := by decide +kernel
theorem dX10_lineValue_65 : decode cX10_lineValue 65 = .ok (.invokevirtual 151, 3) := by decide +kernel
theorem dX10_lineValue_68 : decode cX10_lineValue 68 = .ok (.i2l, 1) := by decide +kernel
theorem dX10_lineValue_69 : decode cX10_lineValue 69 = .ok (.lconst 1, 1) := by decide +kernel
theorem dX10_lineValue_70 : decode cX10_lineValue 70 = .ok (.invokevirtual 220, 3) := by decide +kernel
theorem dX10_line_0 : decode cX10_line 0 = .ok (.iload_n 1, 1) := by decide +kernel
theorem dX10_line_1 : decode cX10_line 1 = .ok (.invokestatic 223, 3) := by decide +kernel
theorem dX10_line_4 : decode cX10_line 4 = .ok (.ifCond .ne 10, 3) := by decide +kernel
theorem dX10_line_14 : decode cX10_line 14 = .ok (.aload_n 0, 1) := by decide +kernel
theorem dX10_line_15 : decode cX10_line 15 = .ok (.iload_n 2, 1) := by decide +kernel
theorem dX10_line_16 : decode cX10_line 16 = .ok (.invokevirtual 122, 3) := by decide +kernel
theorem dX10_line_19 : decode cX10_line 19 = .ok (.ifCond .ne 9, 3) := by decide +kernel
theorem dX10_line_28 : decode cX10_line 28 = .ok (.iload_n 3, 1) := by decide +kernel
theorem dX10_line_29 : decode cX10_line 29 = .ok (.invokestatic 230, 3) := by decide +kernel
theorem dX10_line_32 : decode cX10_line 32 = .ok (.ifCond .ne 10, 3) := by decide +kernel
theorem dX10_line_42 : decode cX10_line 42 = .ok (.aload_n 0, 1) := by decide +kernel
theorem dX10_line_43 : decode cX10_line 43 = .ok (.iload_n 1, 1) := by decide +kernel
theorem dX10_line_44 : decode cX10_line 44 = .ok (.invokevirtual 233, 3) := by decide +kernel
theorem dX10_line_47 : decode cX10_line 47 = .ok (.aload_n 0, 1) := by decide +kernel
theorem dX10_line_48 : decode cX10_line 48 = .ok (.iload_n 1, 1) := by decide +kernel
theorem dX10_line_49 : decode cX10_line 49 = .ok (.iload_n 2, 1) := by decide +kernel
theorem dX10_line_50 : decode cX10_line 50 = .ok (.invokevirtual 236, 3) := by decide +kernel
theorem dX10_line_53 : decode cX10_line 53 = .ok (.aload_n 0, 1) := by decide +kernel
theorem dX10_line_54 : decode cX10_line 54 = .ok (.iload_n 3, 1) := by decide +kernel
theorem dX10_line_55 : decode cX10_line 55 = .ok (.invokevirtual 239, 3) := by decide +kernel
theorem dX10_line_58 : decode cX10_line 58 = .ok (.lreturn, 1) := by decide +kernel
theorem dX10_line_35 : decode cX10_line 35 = .ok (.aload_n 0, 1) := by decide +kernel
theorem dX10_line_36 : decode cX10_line 36 = .ok (.bipush (-2), 2) := by decide +kernel
theorem dX10_line_38 : decode cX10_line 38 = .ok (.invokevirtual 226, 3) := by decide +kernel
theorem dX10_line_41 : decode cX10_line 41 = .ok (.lreturn, 1) := by decide +kernel
theorem dX10_line_22 : decode cX10_line 22 = .ok (.aload_n 0, 1) := by decide +kernel
theorem dX10_line_23 : decode cX10_line 23 = .ok (.iconst (-1), 1) := by decide +kernel
theorem dX10_line_24 : decode cX10_line 24 = .ok (.invokevirtual 226, 3) := by decide +kernel
theorem dX10_line_27 : decode cX10_line 27 = .ok (.lreturn, 1) := by decide +kernel
theorem dX10_line_7 : decode cX10_line 7 = .ok (.aload_n 0, 1) := by decide +kernel
theorem dX10_line_8 : decode cX10_line 8 = .ok (.bipush (-2), 2) := by decide +kernel
theorem dX10_line_10 : decode cX10_line 10 = .ok (.invokevirtual 226, 3) := by decide +kernel
theorem dX10_line_13 : decode cX10_line 13 = .ok (.lreturn, 1) := by decide +kernel
theorem dX10_block_0 : decode cX10_block 0 = .ok (.iload_n 1, 1) := by decide +kernel
theorem dX10_block_1 : decode cX10_block 1 = .ok (.invokestatic 223, 3) := by decide +kernel
theorem dX10_block_4 : decode cX10_block 4 = .ok (.ifCond .ne 10, 3) := by decide +kernel
theorem dX10_block_14 : decode cX10_block 14 = .ok (.aload_n 0, 1) := by decide +kernel
theorem dX10_block_15 : decode cX10_block 15 = .ok (.iload_n 1, 1) := by decide +kernel
theorem dX10_block_16 : decode cX10_block 16 = .ok (.invokevirtual 233, 3) := by decide +kernel
theorem dX10_block_19 : decode cX10_block 19 = .ok (.iload_n 2, 1) := by decide +kernel
theorem dX10_block_20 : decode cX10_block 20 = .ok (.iconst (-1), 1) := by decide +kernel
theorem dX10_block_21 : decode cX10_block 21 = .ok (.aload_n 0, 1) := by decide +kernel
theorem dX10_block_22 : decode cX10_block 22 = .ok (.getfield 196, 3) := by decide +kernel
theorem dX10_block_25 : decode cX10_block 25 = .ok (.iconst 1, 1) := by decide +kernel
theorem dX10_block_26 : decode cX10_block 26 = .ok (.isub, 1) := by decide +kernel
theorem dX10_block_27 : decode cX10_block 27 = .ok (.invokestatic 84, 3) := by decide +kernel
theorem dX10_block_30 : decode cX10_block 30 = .ok (.ifCond .ne 9, 3) := by decide +kernel
theorem dX10_block_39 : decode cX10_block 39 = .ok (.iload_n 2, 1) := by decide +kernel
theorem dX10_block_40 : decode cX10_block 40 = .ok (.ifCond .ge 10, 3) := by decide +kernel
theorem dX10_block_50 : decode cX10_block 50 = .ok (.aload_n 0, 1) := by decide +kernel
theorem dX10_block_51 : decode cX10_block 51 = .ok (.getfield 59, 3) := by decide +kernel
theorem dX10_block_54 : decode cX10_block 54 = .ok (.iload_n 2, 1) := by decide +kernel
theorem dX10_block_55 : decode cX10_block 55 = .ok (.iaload, 1) := by decide +kernel
theorem dX10_block_56 : decode cX10_block 56 = .ok (.ireturn, 1) := by decide +kernel
theorem dX10_block_43 : decode cX10_block 43 = .ok (.aload_n 0, 1) := by decide +kernel
theorem dX10_block_44 : decode cX10_block 44 = .ok (.getfield 196, 3) := by decide +kernel
theorem dX10_block_47 : decode cX10_block 47 = .ok (.goto 9, 3) := by decide +kernel
theorem dX10_block_33 : decode cX10_block 33 = .ok (.aload_n 0, 1) := by decide +kernel
theorem dX10_block_34 : decode cX10_block 34 = .ok (.iconst (-1), 1) := by decide +kernel
theorem dX10_block_35 : decode cX10_block 35 = .ok (.invokevirtual 76, 3) := by decide +kernel
theorem dX10_block_38 : decode cX10_block 38 = .ok (.ireturn, 1) := by decide +kernel
theorem dX10_block_7 : decode cX10_block 7 = .ok (.aload_n 0, 1) := by decide +kernel
theorem dX10_block_8 : decode cX10_block 8 = .ok (.bipush (-2), 2) := by decide +kernel
theorem dX10_block_10 : decode cX10_block 10 = .ok (.invokevirtual 76, 3) := by decide +kernel
theorem dX10_block_13 : decode cX10_block 13 = .ok (.ireturn, 1) := by decide +kernel
set_option maxHeartbeats 4000000 in
set_option maxRecDepth 100000 in
theorem c_X10_begins (l : Launch) (g : GG) (a0 : Nat → Nat) (v0_papers : Int32) (v0_raw : (Nat → Int32)) (v0_kind : (Nat → Int32)) (v0_figure : (Nat → Int32)) (v0_heavy : (Nat → Int32)) (v0_place : (Nat → Int32)) (v0_rules : Int32) (v0_lower : (Nat → Int32)) (v0_upper : (Nat → Int32)) (v0_limits : Int32) (v0_limit : (Nat → Int32)) (v0_ties : Int32) (v0_letter : (Nat → Int32)) (v0_letters : Int32) (v0_told : (Nat → Int32)) (v0_tolds : Int32) (v0_places : (Nat → Int32)) (v0_cell : (Nat → Int64)) (v0_refusals : (Nat → Int32)) (v0_imaged : (Nat → Int32)) (v0_hasImage : Int32) (v0_before : (Nat → Int32)) (v0_up : Int64) (v0_down : Int64) (v0_beneath : (Nat → Int32)) (v0_numberUp : Int32) (v0_numberDown : Int32) (v0_block : (Nat → Int32)) (v0_blocks : Int32) (v0_merged : Int32) (v0_valueUp : (Nat → Int32)) (v0_valueDown : (Nat → Int32)) (v0_said : (Nat → Int32)) (v0_saids : Int32) (v0_at : Int32) (v0_number : (Nat → Int32)) (hne : (m_X10_begins (v0_papers, v0_raw, v0_kind, v0_figure, v0_heavy, v0_place, v0_rules, v0_lower, v0_upper, v0_limits, v0_limit, v0_ties, v0_letter, v0_letters, v0_told, v0_tolds, v0_places, v0_cell, v0_refusals, v0_imaged, v0_hasImage, v0_before, v0_up, v0_down, v0_beneath, v0_numberUp, v0_numberDown, v0_block, v0_blocks, v0_merged, v0_valueUp, v0_valueDown, v0_said, v0_saids, v0_at, v0_number)) ≠ none) : Ct l g yX10_begins cX10_begins 4 none ({ frames := 4, cells := 0, slots := 0, locals := 88 } : Room) [.ref (a0 0)] (wX10 a0 g v0_papers v0_raw v0_kind v0_figure v0_heavy v0_place v0_rules v0_lower v0_upper v0_limits v0_limit v0_ties v0_letter v0_letters v0_told v0_tolds v0_places v0_cell v0_refusals v0_imaged v0_hasImage v0_before v0_up v0_down v0_beneath v0_numberUp v0_numberDown v0_block v0_blocks v0_merged v0_valueUp v0_valueDown v0_said v0_saids v0_at v0_number) (Qv g (m_X10_begins (v0_papers, v0_raw, v0_kind, v0_figure, v0_heavy, v0_place, v0_rules, v0_lower, v0_upper, v0_limits, v0_limit, v0_ties, v0_letter, v0_letters, v0_told, v0_tolds, v0_places, v0_cell, v0_refusals, v0_imaged, v0_hasImage, v0_before, v0_up, v0_down, v0_beneath, v0_numberUp, v0_numberDown, v0_block, v0_blocks, v0_merged, v0_valueUp, v0_valueDown, v0_said, v0_saids, v0_at, v0_number)) (fun u => wX10 a0 g v0_papers v0_raw v0_kind v0_figure v0_heavy v0_place v0_rules v0_lower v0_upper v0_limits v0_limit v0_ties v0_letter v0_letters v0_told v0_tolds v0_places v0_cell v0_refusals v0_imaged v0_hasImage v0_before v0_up v0_down v0_beneath v0_numberUp v0_numberDown u.1 u.2 v0_merged v0_valueUp v0_valueDown v0_said v0_saids v0_at v0_number)) 0 0 := by
  obtain ⟨out, hf⟩ := ne_ex hne
  have hf0 := hf
  refine Ct.of (own := RX10) (by decide +kernel) rfl (Nat.le_of_ble_eq_true rfl) ?_
  intro p e s m below meth c hx hb hr hml hown hts hlocks hin hK A H locs hA hP hD hS hE ls hl
  have hl : lv_has ls 4 [(0, .ref (a0 0))] := hl
  unfold m_X10_begins at hf
  refine lv_aload_n hx hb dX10_begins_0 rfl (lv_at hl 0 rfl) ?_
  refine lv_iconst (v := 0) hx hb dX10_begins_1 (by decide) ?_
  refine va_put (D := g.1) (ci := 11) (v := .int (0 : Int32)) (ty := .int) (C := RX10) (T := TX10) (N := 36) hx hb hts layX10 tyX10 tyX10_ok nmX10 hown hK.1 hP hD hS 0 rfl rfl 28 (by decide) (hts _ kw1305) (fun _ h9 => h9) rfl (tyX10_ok 28 (by decide)) rfl rfl (Nat.le_of_ble_eq_true rfl) dX10_begins_2 (fun H locs hP hD hS => ?_)
  have hP : va_P g.1 vwCl (wX10 a0 g v0_papers v0_raw v0_kind v0_figure v0_heavy v0_place v0_rules v0_lower v0_upper v0_limits v0_limit v0_ties v0_letter v0_letters v0_told v0_tolds v0_places v0_cell v0_refusals v0_imaged v0_hasImage v0_before v0_up v0_down v0_beneath v0_numberUp v0_numberDown v0_block (0 : Int32) v0_merged v0_valueUp v0_valueDown v0_said v0_saids v0_at v0_number) H := hP
  have hD : va_D A (wX10 a0 g v0_papers v0_raw v0_kind v0_figure v0_heavy v0_place v0_rules v0_lower v0_upper v0_limits v0_limit v0_ties v0_letter v0_letters v0_told v0_tolds v0_places v0_cell v0_refusals v0_imaged v0_hasImage v0_before v0_up v0_down v0_beneath v0_numberUp v0_numberDown v0_block (0 : Int32) v0_merged v0_valueUp v0_valueDown v0_said v0_saids v0_at v0_number) := hD
  refine lv_iconst (v := 1) hx hb dX10_begins_5 (by decide) ?_
  refine lv_aload_n hx hb dX10_begins_6 rfl (lv_at hl 0 rfl) ?_
  refine va_get (D := g.1) (ci := 11) (v := .int v0_papers) (C := RX10) (T := TX10) (N := 36) hx hb hts layX10 hown hK.1 hP 0 rfl rfl 0 (by decide) (hts _ kw1277) (fun _ h9 => h9) rfl dX10_begins_7 ?_
  refine lv_ishl hx hb dX10_begins_10 ?_
  refine lv_iconst (v := 1) hx hb dX10_begins_11 (by decide) ?_
  refine lv_isub hx hb dX10_begins_12 ?_
  obtain ⟨x1, ex1, hf⟩ := bnd hf
  refine nmI (Option.some.inj ex1) ?_
  refine lv_istore_n (lv' := [(1, .int x1), (0, .ref (a0 0))]) hx hb dX10_begins_13 rfl hl (by decide) rfl (fun ls hl => ?_)
  obtain ⟨r27, er27, hf⟩ := bnd hf
  refine lp_W (P := fun z => ∀ (H : Heap) (locs : List Loc) (ls : Array Slot), va_P g.1 vwCl (wX10 a0 g v0_papers v0_raw v0_kind v0_figure v0_heavy v0_place v0_rules v0_lower v0_upper v0_limits v0_limit v0_ties v0_letter v0_letters v0_told v0_tolds v0_places v0_cell v0_refusals v0_imaged v0_hasImage v0_before v0_up v0_down v0_beneath v0_numberUp v0_numberDown z.2.1 z.2.2 v0_merged v0_valueUp v0_valueDown v0_said v0_saids v0_at v0_number) H → va_D A (wX10 a0 g v0_papers v0_raw v0_kind v0_figure v0_heavy v0_place v0_rules v0_lower v0_upper v0_limits v0_limit v0_ties v0_letter v0_letters v0_told v0_tolds v0_places v0_cell v0_refusals v0_imaged v0_hasImage v0_before v0_up v0_down v0_beneath v0_numberUp v0_numberDown z.2.1 z.2.2 v0_merged v0_valueUp v0_valueDown v0_said v0_saids v0_at v0_number) → va_S A s.heap H locs → lv_has ls 4 [(0, .ref (a0 0)), (1, .int z.1)] → W p l e { frames := 4, cells := 0, slots := 0, locals := 88 } s m [.ref (a0 0)].toArray below meth c H locs 0 0 (MQ below (Qv g (m_X10_begins (v0_papers, v0_raw, v0_kind, v0_figure, v0_heavy, v0_place, v0_rules, v0_lower, v0_upper, v0_limits, v0_limit, v0_ties, v0_letter, v0_letters, v0_told, v0_tolds, v0_places, v0_cell, v0_refusals, v0_imaged, v0_hasImage, v0_before, v0_up, v0_down, v0_beneath, v0_numberUp, v0_numberDown, v0_block, v0_blocks, v0_merged, v0_valueUp, v0_valueDown, v0_said, v0_saids, v0_at, v0_number)) (fun u => wX10 a0 g v0_papers v0_raw v0_kind v0_figure v0_heavy v0_place v0_rules v0_lower v0_upper v0_limits v0_limit v0_ties v0_letter v0_letters v0_told v0_tolds v0_places v0_cell v0_refusals v0_imaged v0_hasImage v0_before v0_up v0_down v0_beneath v0_numberUp v0_numberDown u.1 u.2 v0_merged v0_valueUp v0_valueDown v0_said v0_saids v0_at v0_number) A) [.ref (a0 0)].toArray s 0 0 A) (F0 m 14 ls [])) (E := fun r27 => ∀ (H : Heap) (locs : List Loc) (ls : Array Slot), va_P g.1 vwCl (wX10 a0 g v0_papers v0_raw v0_kind v0_figure v0_heavy v0_place v0_rules v0_lower v0_upper v0_limits v0_limit v0_ties v0_letter v0_letters v0_told v0_tolds v0_places v0_cell v0_refusals v0_imaged v0_hasImage v0_before v0_up v0_down v0_beneath v0_numberUp v0_numberDown r27.1 r27.2 v0_merged v0_valueUp v0_valueDown v0_said v0_saids v0_at v0_number) H → va_D A (wX10 a0 g v0_papers v0_raw v0_kind v0_figure v0_heavy v0_place v0_rules v0_lower v0_upper v0_limits v0_limit v0_ties v0_letter v0_letters v0_told v0_tolds v0_places v0_cell v0_refusals v0_imaged v0_hasImage v0_before v0_up v0_down v0_beneath v0_numberUp v0_numberDown r27.1 r27.2 v0_merged v0_valueUp v0_valueDown v0_said v0_saids v0_at v0_number) → va_S A s.heap H locs → lv_has ls 4 [] → W p l e { frames := 4, cells := 0, slots := 0, locals := 88 } s m [.ref (a0 0)].toArray below meth c H locs 0 0 (MQ below (Qv g (m_X10_begins (v0_papers, v0_raw, v0_kind, v0_figure, v0_heavy, v0_place, v0_rules, v0_lower, v0_upper, v0_limits, v0_limit, v0_ties, v0_letter, v0_letters, v0_told, v0_tolds, v0_places, v0_cell, v0_refusals, v0_imaged, v0_hasImage, v0_before, v0_up, v0_down, v0_beneath, v0_numberUp, v0_numberDown, v0_block, v0_blocks, v0_merged, v0_valueUp, v0_valueDown, v0_said, v0_saids, v0_at, v0_number)) (fun u => wX10 a0 g v0_papers v0_raw v0_kind v0_figure v0_heavy v0_place v0_rules v0_lower v0_upper v0_limits v0_limit v0_ties v0_letter v0_letters v0_told v0_tolds v0_places v0_cell v0_refusals v0_imaged v0_hasImage v0_before v0_up v0_down v0_beneath v0_numberUp v0_numberDown u.1 u.2 v0_merged v0_valueUp v0_valueDown v0_said v0_saids v0_at v0_number) A) [.ref (a0 0)].toArray s 0 0 A) (F0 m 125 ls [])) ?_ fu _ r27 er27 ?_ _ _ _ hP hD hS (lv_sub hl [1, 0] rfl)
  · rintro ⟨x13, x14, x15⟩ y hf hB hXt H locs ls hP hD hS hl
    have hP : va_P g.1 vwCl (wX10 a0 g v0_papers v0_raw v0_kind v0_figure v0_heavy v0_place v0_rules v0_lower v0_upper v0_limits v0_limit v0_ties v0_letter v0_letters v0_told v0_tolds v0_places v0_cell v0_refusals v0_imaged v0_hasImage v0_before v0_up v0_down v0_beneath v0_numberUp v0_numberDown x14 x15 v0_merged v0_valueUp v0_valueDown v0_said v0_saids v0_at v0_number) H := hP
    have hD : va_D A (wX10 a0 g v0_papers v0_raw v0_kind v0_figure v0_heavy v0_place v0_rules v0_lower v0_upper v0_limits v0_limit v0_ties v0_letter v0_letters v0_told v0_tolds v0_places v0_cell v0_refusals v0_imaged v0_hasImage v0_before v0_up v0_down v0_beneath v0_numberUp v0_numberDown x14 x15 v0_merged v0_valueUp v0_valueDown v0_said v0_saids v0_at v0_number) := hD
    have hl : lv_has ls 4 [(0, .ref (a0 0)), (1, .int x13)] := hl
    have hf : m_X10_begins_l14 (v0_papers, v0_raw, v0_kind, v0_figure, v0_heavy, v0_place, v0_rules, v0_lower, v0_upper, v0_limits, v0_limit, v0_ties, v0_letter, v0_letters, v0_told, v0_tolds, v0_places, v0_cell, v0_refusals, v0_imaged, v0_hasImage, v0_before, v0_up, v0_down, v0_beneath, v0_numberUp, v0_numberDown, v0_block, v0_blocks, v0_merged, v0_valueUp, v0_valueDown, v0_said, v0_saids, v0_at, v0_number) x13 x14 x15 = some y := hf
    unfold m_X10_begins_l14 at hf
    refine lv_iload_n hx hb dX10_begins_14 rfl (lv_at hl 1 rfl) ?_
    refine lv_if_eq (tgt := 125) hx hb dX10_begins_15 (by decide) (fun cb => ?_) (fun cb => ?_)
    · have hf := it_t cb hf
      exact hXt _ (Option.some.inj hf).symm _ _ _ hP hD hS (lv_sub hl [] rfl)
    have hf := it_f cb hf
    refine lv_bipush (v := (-9)) hx hb dX10_begins_18 (by decide) ?_
    refine lv_istore_n (lv' := [(2, .int (-9 : Int32)), (0, .ref (a0 0)), (1, .int x13)]) hx hb dX10_begins_20 rfl hl (by decide) rfl (fun ls hl => ?_)
    refine lv_iconst (v := 0) hx hb dX10_begins_21 (by decide) ?_
    refine lv_istore_n (lv' := [(3, .int (0 : Int32)), (2, .int (-9 : Int32)), (0, .ref (a0 0)), (1, .int x13)]) hx hb dX10_begins_22 rfl hl (by decide) rfl (fun ls hl => ?_)
    obtain ⟨r22, er22, hf⟩ := bnd hf
    refine lp_W (P := fun z => ∀ (H : Heap) (locs : List Loc) (ls : Array Slot), va_P g.1 vwCl (wX10 a0 g v0_papers v0_raw v0_kind v0_figure v0_heavy v0_place v0_rules v0_lower v0_upper v0_limits v0_limit v0_ties v0_letter v0_letters v0_told v0_tolds v0_places v0_cell v0_refusals v0_imaged v0_hasImage v0_before v0_up v0_down v0_beneath v0_numberUp v0_numberDown x14 x15 v0_merged v0_valueUp v0_valueDown v0_said v0_saids v0_at v0_number) H → va_D A (wX10 a0 g v0_papers v0_raw v0_kind v0_figure v0_heavy v0_place v0_rules v0_lower v0_upper v0_limits v0_limit v0_ties v0_letter v0_letters v0_told v0_tolds v0_places v0_cell v0_refusals v0_imaged v0_hasImage v0_before v0_up v0_down v0_beneath v0_numberUp v0_numberDown x14 x15 v0_merged v0_valueUp v0_valueDown v0_said v0_saids v0_at v0_number) → va_S A s.heap H locs → lv_has ls 4 [(0, .ref (a0 0)), (1, .int x13), (2, .int z.1), (3, .int z.2)] → W p l e { frames := 4, cells := 0, slots := 0, locals := 88 } s m [.ref (a0 0)].toArray below meth c H locs 0 0 (MQ below (Qv g (m_X10_begins (v0_papers, v0_raw, v0_kind, v0_figure, v0_heavy, v0_place, v0_rules, v0_lower, v0_upper, v0_limits, v0_limit, v0_ties, v0_letter, v0_letters, v0_told, v0_tolds, v0_places, v0_cell, v0_refusals, v0_imaged, v0_hasImage, v0_before, v0_up, v0_down, v0_beneath, v0_numberUp, v0_numberDown, v0_block, v0_blocks, v0_merged, v0_valueUp, v0_valueDown, v0_said, v0_saids, v0_at, v0_number)) (fun u => wX10 a0 g v0_papers v0_raw v0_kind v0_figure v0_heavy v0_place v0_rules v0_lower v0_upper v0_limits v0_limit v0_ties v0_letter v0_letters v0_told v0_tolds v0_places v0_cell v0_refusals v0_imaged v0_hasImage v0_before v0_up v0_down v0_beneath v0_numberUp v0_numberDown u.1 u.2 v0_merged v0_valueUp v0_valueDown v0_said v0_saids v0_at v0_number) A) [.ref (a0 0)].toArray s 0 0 A) (F0 m 23 ls [])) (E := fun r22 => ∀ (H : Heap) (locs : List Loc) (ls : Array Slot), va_P g.1 vwCl (wX10 a0 g v0_papers v0_raw v0_kind v0_figure v0_heavy v0_place v0_rules v0_lower v0_upper v0_limits v0_limit v0_ties v0_letter v0_letters v0_told v0_tolds v0_places v0_cell v0_refusals v0_imaged v0_hasImage v0_before v0_up v0_down v0_beneath v0_numberUp v0_numberDown x14 x15 v0_merged v0_valueUp v0_valueDown v0_said v0_saids v0_at v0_number) H → va_D A (wX10 a0 g v0_papers v0_raw v0_kind v0_figure v0_heavy v0_place v0_rules v0_lower v0_upper v0_limits v0_limit v0_ties v0_letter v0_letters v0_told v0_tolds v0_places v0_cell v0_refusals v0_imaged v0_hasImage v0_before v0_up v0_down v0_beneath v0_numberUp v0_numberDown x14 x15 v0_merged v0_valueUp v0_valueDown v0_said v0_saids v0_at v0_number) → va_S A s.heap H locs → lv_has ls 4 [(0, .ref (a0 0)), (1, .int x13), (2, .int r22)] → W p l e { frames := 4, cells := 0, slots := 0, locals := 88 } s m [.ref (a0 0)].toArray below meth c H locs 0 0 (MQ below (Qv g (m_X10_begins (v0_papers, v0_raw, v0_kind, v0_figure, v0_heavy, v0_place, v0_rules, v0_lower, v0_upper, v0_limits, v0_limit, v0_ties, v0_letter, v0_letters, v0_told, v0_tolds, v0_places, v0_cell, v0_refusals, v0_imaged, v0_hasImage, v0_before, v0_up, v0_down, v0_beneath, v0_numberUp, v0_numberDown, v0_block, v0_blocks, v0_merged, v0_valueUp, v0_valueDown, v0_said, v0_saids, v0_at, v0_number)) (fun u => wX10 a0 g v0_papers v0_raw v0_kind v0_figure v0_heavy v0_place v0_rules v0_lower v0_upper v0_limits v0_limit v0_ties v0_letter v0_letters v0_told v0_tolds v0_places v0_cell v0_refusals v0_imaged v0_hasImage v0_before v0_up v0_down v0_beneath v0_numberUp v0_numberDown u.1 u.2 v0_merged v0_valueUp v0_valueDown v0_said v0_saids v0_at v0_number) A) [.ref (a0 0)].toArray s 0 0 A) (F0 m 66 ls [])) ?_ fu _ r22 er22 ?_ _ _ _ hP hD hS (lv_sub hl [2, 3, 1, 0] rfl)
    · rintro ⟨x18, x19⟩ y hf hB hXt H locs ls hP hD hS hl
      have hP : va_P g.1 vwCl (wX10 a0 g v0_papers v0_raw v0_kind v0_figure v0_heavy v0_place v0_rules v0_lower v0_upper v0_limits v0_limit v0_ties v0_letter v0_letters v0_told v0_tolds v0_places v0_cell v0_refusals v0_imaged v0_hasImage v0_before v0_up v0_down v0_beneath v0_numberUp v0_numberDown x14 x15 v0_merged v0_valueUp v0_valueDown v0_said v0_saids v0_at v0_number) H := hP
      have hD : va_D A (wX10 a0 g v0_papers v0_raw v0_kind v0_figure v0_heavy v0_place v0_rules v0_lower v0_upper v0_limits v0_limit v0_ties v0_letter v0_letters v0_told v0_tolds v0_places v0_cell v0_refusals v0_imaged v0_hasImage v0_before v0_up v0_down v0_beneath v0_numberUp v0_numberDown x14 x15 v0_merged v0_valueUp v0_valueDown v0_said v0_saids v0_at v0_number) := hD
      have hl : lv_has ls 4 [(0, .ref (a0 0)), (1, .int x13), (2, .int x18), (3, .int x19)] := hl
      have hf : m_X10_begins_l23_2 (v0_papers, v0_raw, v0_kind, v0_figure, v0_heavy, v0_place, v0_rules, v0_lower, v0_upper, v0_limits, v0_limit, v0_ties, v0_letter, v0_letters, v0_told, v0_tolds, v0_places, v0_cell, v0_refusals, v0_imaged, v0_hasImage, v0_before, v0_up, v0_down, v0_beneath, v0_numberUp, v0_numberDown, v0_block, v0_blocks, v0_merged, v0_valueUp, v0_valueDown, v0_said, v0_saids, v0_at, v0_number) x13 x14 x15 x18 x19 = some y := hf
      unfold m_X10_begins_l23_2 at hf
      refine lv_iload_n hx hb dX10_begins_23 rfl (lv_at hl 3 rfl) ?_
      refine lv_aload_n hx hb dX10_begins_24 rfl (lv_at hl 0 rfl) ?_
      refine va_get (D := g.1) (ci := 11) (v := .int v0_papers) (C := RX10) (T := TX10) (N := 36) hx hb hts layX10 hown hK.1 hP 0 rfl rfl 0 (by decide) (hts _ kw1277) (fun _ h9 => h9) rfl dX10_begins_25 ?_
      refine lv_icmp_ge (tgt := 66) hx hb dX10_begins_28 (by decide) (fun cb => ?_) (fun cb => ?_)
      · have hf := it_t cb hf
        exact hXt _ (Option.some.inj hf).symm _ _ _ hP hD hS (lv_sub hl [0, 1, 2] rfl)
      have hf := it_f cb hf
      refine lv_iload_n hx hb dX10_begins_31 rfl (lv_at hl 1 rfl) ?_
      refine lv_iload_n hx hb dX10_begins_32 rfl (lv_at hl 3 rfl) ?_
      refine cIp hP hD hS hA hE (fun hPc hDc hSc => rS (As := [.int x13, .int x19]) (rest := []) hx hb hml hown hts hK (c_X10_has l g x13 x19 (bnd_ne hf)) svS_X10_has kw1395 hPc hDc hSc rfl rfl hl.1 (Nat.le_of_ble_eq_true rfl) dX10_begins_33 ⟨Nat.le_of_ble_eq_true rfl, Nat.le_of_ble_eq_true rfl, rfl, rfl, Nat.le_of_ble_eq_true rfl, Nat.le_of_ble_eq_true rfl⟩) [] rfl rfl rfl (fun x20 H locs ex20 nx20 hP hS => ?_)
      have hf := bnd_of hf ex20
      refine lv_if_eq (tgt := 58) hx hb dX10_begins_36 (by decide) (fun cb => ?_) (fun cb => ?_)
      · have hf := it_t cb hf
        refine lv_iload_n hx hb dX10_begins_58 rfl (lv_at hl 2 rfl) ?_
        refine lv_istore_n (lv' := [(2, .int x18), (0, .ref (a0 0)), (1, .int x13), (3, .int x19)]) hx hb dX10_begins_59 rfl hl (by decide) rfl (fun ls hl => ?_)
        refine lv_iinc (v := (x19 + 1)) (lv' := [(3, .int (x19 + 1)), (2, .int x18), (0, .ref (a0 0)), (1, .int x13)]) hx hb dX10_begins_60 hl (k := 3) rfl (by rfl) (by decide) rfl (fun ls hl => ?_)
        refine lv_goto (tgt := 23) hx hb dX10_begins_63 (by decide) ?_
        exact hB _ (Option.some.inj hf).symm _ _ _ hP hD hS (lv_sub hl [2, 3, 1, 0] rfl)
      have hf := it_f cb hf
      refine lv_iload_n hx hb dX10_begins_39 rfl (lv_at hl 2 rfl) ?_
      refine lv_bipush (v := (-9)) hx hb dX10_begins_40 (by decide) ?_
      refine lv_icmp_eq (tgt := 54) hx hb dX10_begins_42 (by decide) (fun cb => ?_) (fun cb => ?_)
      · have hf := it_t cb hf
        refine lv_iload_n hx hb dX10_begins_54 rfl (lv_at hl 3 rfl) ?_
        refine lv_goto (tgt := 59) hx hb dX10_begins_55 (by decide) ?_
        refine lv_istore_n (lv' := [(2, .int x19), (0, .ref (a0 0)), (1, .int x13), (3, .int x19)]) hx hb dX10_begins_59 rfl hl (by decide) rfl (fun ls hl => ?_)
        refine lv_iinc (v := (x19 + 1)) (lv' := [(3, .int (x19 + 1)), (2, .int x19), (0, .ref (a0 0)), (1, .int x13)]) hx hb dX10_begins_60 hl (k := 3) rfl (by rfl) (by decide) rfl (fun ls hl => ?_)
        refine lv_goto (tgt := 23) hx hb dX10_begins_63 (by decide) ?_
        exact hB _ (Option.some.inj hf).symm _ _ _ hP hD hS (lv_sub hl [2, 3, 1, 0] rfl)
      have hf := it_f cb hf
      refine lv_aload_n hx hb dX10_begins_45 rfl (lv_at hl 0 rfl) ?_
      refine lv_iload_n hx hb dX10_begins_46 rfl (lv_at hl 3 rfl) ?_
      refine lv_iload_n hx hb dX10_begins_47 rfl (lv_at hl 2 rfl) ?_
      refine cIp hP hD hS hA hE (fun hPc hDc hSc => rV (As := [.int x19, .int x18]) (rest := []) hx hb hml hown hts hK (c_X10_isAhead l g a0 v0_papers v0_raw v0_kind v0_figure v0_heavy v0_place v0_rules v0_lower v0_upper v0_limits v0_limit v0_ties v0_letter v0_letters v0_told v0_tolds v0_places v0_cell v0_refusals v0_imaged v0_hasImage v0_before v0_up v0_down v0_beneath v0_numberUp v0_numberDown x14 x15 v0_merged v0_valueUp v0_valueDown v0_said v0_saids v0_at v0_number x19 x18 (bnd_ne hf)) svV_X10_isAhead kw1480 rfl rfl hPc hDc hSc rfl rfl hl.1 (Nat.le_of_ble_eq_true rfl) dX10_begins_48 ⟨Nat.le_of_ble_eq_true rfl, Nat.le_of_ble_eq_true rfl, rfl, rfl, Nat.le_of_ble_eq_true rfl, Nat.le_of_ble_eq_true rfl⟩) [(0, 22)] rfl rfl rfl (fun x21 H locs ex21 nx21 hP hS => ?_)
      have hf := bnd_of hf ex21
      refine lv_if_eq (tgt := 58) hx hb dX10_begins_51 (by decide) (fun cb => ?_) (fun cb => ?_)
      · have hf := it_t cb hf
        refine lv_iload_n hx hb dX10_begins_58 rfl (lv_at hl 2 rfl) ?_
        refine lv_istore_n (lv' := [(2, .int x18), (0, .ref (a0 0)), (1, .int x13), (3, .int x19)]) hx hb dX10_begins_59 rfl hl (by decide) rfl (fun ls hl => ?_)
        refine lv_iinc (v := (x19 + 1)) (lv' := [(3, .int (x19 + 1)), (2, .int x18), (0, .ref (a0 0)), (1, .int x13)]) hx hb dX10_begins_60 hl (k := 3) rfl (by rfl) (by decide) rfl (fun ls hl => ?_)
        refine lv_goto (tgt := 23) hx hb dX10_begins_63 (by decide) ?_
        exact hB _ (Option.some.inj hf).symm _ _ _ hP hD hS (lv_sub hl [2, 3, 1, 0] rfl)
      have hf := it_f cb hf
      refine lv_iload_n hx hb dX10_begins_54 rfl (lv_at hl 3 rfl) ?_
      refine lv_goto (tgt := 59) hx hb dX10_begins_55 (by decide) ?_
      refine lv_istore_n (lv' := [(2, .int x19), (0, .ref (a0 0)), (1, .int x13), (3, .int x19)]) hx hb dX10_begins_59 rfl hl (by decide) rfl (fun ls hl => ?_)
      refine lv_iinc (v := (x19 + 1)) (lv' := [(3, .int (x19 + 1)), (2, .int x19), (0, .ref (a0 0)), (1, .int x13)]) hx hb dX10_begins_60 hl (k := 3) rfl (by rfl) (by decide) rfl (fun ls hl => ?_)
      refine lv_goto (tgt := 23) hx hb dX10_begins_63 (by decide) ?_
      exact hB _ (Option.some.inj hf).symm _ _ _ hP hD hS (lv_sub hl [2, 3, 1, 0] rfl)
    intro H locs ls hP hD hS hl
    have hP : va_P g.1 vwCl (wX10 a0 g v0_papers v0_raw v0_kind v0_figure v0_heavy v0_place v0_rules v0_lower v0_upper v0_limits v0_limit v0_ties v0_letter v0_letters v0_told v0_tolds v0_places v0_cell v0_refusals v0_imaged v0_hasImage v0_before v0_up v0_down v0_beneath v0_numberUp v0_numberDown x14 x15 v0_merged v0_valueUp v0_valueDown v0_said v0_saids v0_at v0_number) H := hP
    have hD : va_D A (wX10 a0 g v0_papers v0_raw v0_kind v0_figure v0_heavy v0_place v0_rules v0_lower v0_upper v0_limits v0_limit v0_ties v0_letter v0_letters v0_told v0_tolds v0_places v0_cell v0_refusals v0_imaged v0_hasImage v0_before v0_up v0_down v0_beneath v0_numberUp v0_numberDown x14 x15 v0_merged v0_valueUp v0_valueDown v0_said v0_saids v0_at v0_number) := hD
    have hl : lv_has ls 4 [(0, .ref (a0 0)), (1, .int x13), (2, .int r22)] := hl
    refine lv_aload_n hx hb dX10_begins_66 rfl (lv_at hl 0 rfl) ?_
    refine va_get (D := g.1) (ci := 11) (v := .ref (a0 17)) (C := RX10) (T := TX10) (N := 36) hx hb hts layX10 hown hK.1 hP 0 rfl rfl 27 (by decide) (hts _ kw1304) (fun _ h9 => h9) rfl dX10_begins_67 ?_
    refine lv_aload_n hx hb dX10_begins_70 rfl (lv_at hl 0 rfl) ?_
    refine va_get (D := g.1) (ci := 11) (v := .int x15) (C := RX10) (T := TX10) (N := 36) hx hb hts layX10 hown hK.1 hP 0 rfl rfl 28 (by decide) (hts _ kw1305) (fun _ h9 => h9) rfl dX10_begins_71 ?_
    refine lv_aload_n hx hb dX10_begins_74 rfl (lv_at hl 0 rfl) ?_
    refine va_get (D := g.1) (ci := 11) (v := .int v0_ties) (C := RX10) (T := TX10) (N := 36) hx hb hts layX10 hown hK.1 hP 0 rfl rfl 11 (by decide) (hts _ kw1288) (fun _ h9 => h9) rfl dX10_begins_75 ?_
    obtain ⟨r24, er24, hf⟩ := bnd hf
    have K : ∀ (H : Heap) (locs : List Loc) (ls : Array Slot), va_P g.1 vwCl (wX10 a0 g v0_papers v0_raw v0_kind v0_figure v0_heavy v0_place v0_rules v0_lower v0_upper v0_limits v0_limit v0_ties v0_letter v0_letters v0_told v0_tolds v0_places v0_cell v0_refusals v0_imaged v0_hasImage v0_before v0_up v0_down v0_beneath v0_numberUp v0_numberDown x14 x15 v0_merged v0_valueUp v0_valueDown v0_said v0_saids v0_at v0_number) H → va_D A (wX10 a0 g v0_papers v0_raw v0_kind v0_figure v0_heavy v0_place v0_rules v0_lower v0_upper v0_limits v0_limit v0_ties v0_letter v0_letters v0_told v0_tolds v0_places v0_cell v0_refusals v0_imaged v0_hasImage v0_before v0_up v0_down v0_beneath v0_numberUp v0_numberDown x14 x15 v0_merged v0_valueUp v0_valueDown v0_said v0_saids v0_at v0_number) → va_S A s.heap H locs → lv_has ls 4 [(0, .ref (a0 0)), (1, .int x13)] → W p l e { frames := 4, cells := 0, slots := 0, locals := 88 } s m [.ref (a0 0)].toArray below meth c H locs 0 0 (MQ below (Qv g (m_X10_begins (v0_papers, v0_raw, v0_kind, v0_figure, v0_heavy, v0_place, v0_rules, v0_lower, v0_upper, v0_limits, v0_limit, v0_ties, v0_letter, v0_letters, v0_told, v0_tolds, v0_places, v0_cell, v0_refusals, v0_imaged, v0_hasImage, v0_before, v0_up, v0_down, v0_beneath, v0_numberUp, v0_numberDown, v0_block, v0_blocks, v0_merged, v0_valueUp, v0_valueDown, v0_said, v0_saids, v0_at, v0_number)) (fun u => wX10 a0 g v0_papers v0_raw v0_kind v0_figure v0_heavy v0_place v0_rules v0_lower v0_upper v0_limits v0_limit v0_ties v0_letter v0_letters v0_told v0_tolds v0_places v0_cell v0_refusals v0_imaged v0_hasImage v0_before v0_up v0_down v0_beneath v0_numberUp v0_numberDown u.1 u.2 v0_merged v0_valueUp v0_valueDown v0_said v0_saids v0_at v0_number) A) [.ref (a0 0)].toArray s 0 0 A) (F0 m 97 ls [.int r24, .int x15, .ref (a0 17)]) := by
      intro H locs ls hP hD hS hl
      have hi := it_n hf
      have hf := it_t hi hf
      refine va_iast hx hb hK.1 hP hD hS 17 0 rfl rfl (inb_in hi) dX10_begins_97 (fun H locs hP hD hS => ?_)
      have hP : va_P g.1 vwCl (wX10 a0 g v0_papers v0_raw v0_kind v0_figure v0_heavy v0_place v0_rules v0_lower v0_upper v0_limits v0_limit v0_ties v0_letter v0_letters v0_told v0_tolds v0_places v0_cell v0_refusals v0_imaged v0_hasImage v0_before v0_up v0_down v0_beneath v0_numberUp v0_numberDown (upd x14 x15.toNatClampNeg r24) x15 v0_merged v0_valueUp v0_valueDown v0_said v0_saids v0_at v0_number) H := hP
      have hD : va_D A (wX10 a0 g v0_papers v0_raw v0_kind v0_figure v0_heavy v0_place v0_rules v0_lower v0_upper v0_limits v0_limit v0_ties v0_letter v0_letters v0_told v0_tolds v0_places v0_cell v0_refusals v0_imaged v0_hasImage v0_before v0_up v0_down v0_beneath v0_numberUp v0_numberDown (upd x14 x15.toNatClampNeg r24) x15 v0_merged v0_valueUp v0_valueDown v0_said v0_saids v0_at v0_number) := hD
      refine lv_iload_n hx hb dX10_begins_98 rfl (lv_at hl 1 rfl) ?_
      refine lv_aload_n hx hb dX10_begins_99 rfl (lv_at hl 0 rfl) ?_
      refine va_get (D := g.1) (ci := 11) (v := .ref (a0 17)) (C := RX10) (T := TX10) (N := 36) hx hb hts layX10 hown hK.1 hP 0 rfl rfl 27 (by decide) (hts _ kw1304) (fun _ h9 => h9) rfl dX10_begins_100 ?_
      refine lv_aload_n hx hb dX10_begins_103 rfl (lv_at hl 0 rfl) ?_
      refine va_get (D := g.1) (ci := 11) (v := .int x15) (C := RX10) (T := TX10) (N := 36) hx hb hts layX10 hown hK.1 hP 0 rfl rfl 28 (by decide) (hts _ kw1305) (fun _ h9 => h9) rfl dX10_begins_104 ?_
      have hi := it_n hf
      have hf := it_t hi hf
      refine va_iald hx hb hK.1 hP 17 0 rfl rfl (inb_in hi) dX10_begins_107 ?_
      refine lv_iconst (v := (-1)) hx hb dX10_begins_108 (by decide) ?_
      refine lv_ixor hx hb dX10_begins_109 ?_
      refine lv_iand hx hb dX10_begins_110 ?_
      obtain ⟨x25, ex25, hf⟩ := bnd hf
      refine nmI (Option.some.inj ex25) ?_
      refine lv_istore_n (lv' := [(1, .int x25), (0, .ref (a0 0))]) hx hb dX10_begins_111 rfl hl (by decide) rfl (fun ls hl => ?_)
      refine lv_aload_n hx hb dX10_begins_112 rfl (lv_at hl 1 rfl) ?_
      refine lv_dup hx hb dX10_begins_113 rfl ?_
      refine va_get (D := g.1) (ci := 11) (v := .int x15) (C := RX10) (T := TX10) (N := 36) hx hb hts layX10 hown hK.1 hP 0 rfl rfl 28 (by decide) (hts _ kw1305) (fun _ h9 => h9) rfl dX10_begins_114 ?_
      refine lv_iconst (v := 1) hx hb dX10_begins_117 (by decide) ?_
      refine lv_iadd hx hb dX10_begins_118 ?_
      refine va_put (D := g.1) (ci := 11) (v := .int (x15 + (1 : Int32))) (ty := .int) (C := RX10) (T := TX10) (N := 36) hx hb hts layX10 tyX10 tyX10_ok nmX10 hown hK.1 hP hD hS 0 rfl rfl 28 (by decide) (hts _ kw1305) (fun _ h9 => h9) rfl (tyX10_ok 28 (by decide)) rfl rfl (Nat.le_of_ble_eq_true rfl) dX10_begins_119 (fun H locs hP hD hS => ?_)
      have hP : va_P g.1 vwCl (wX10 a0 g v0_papers v0_raw v0_kind v0_figure v0_heavy v0_place v0_rules v0_lower v0_upper v0_limits v0_limit v0_ties v0_letter v0_letters v0_told v0_tolds v0_places v0_cell v0_refusals v0_imaged v0_hasImage v0_before v0_up v0_down v0_beneath v0_numberUp v0_numberDown (upd x14 x15.toNatClampNeg r24) (x15 + (1 : Int32)) v0_merged v0_valueUp v0_valueDown v0_said v0_saids v0_at v0_number) H := hP
      have hD : va_D A (wX10 a0 g v0_papers v0_raw v0_kind v0_figure v0_heavy v0_place v0_rules v0_lower v0_upper v0_limits v0_limit v0_ties v0_letter v0_letters v0_told v0_tolds v0_places v0_cell v0_refusals v0_imaged v0_hasImage v0_before v0_up v0_down v0_beneath v0_numberUp v0_numberDown (upd x14 x15.toNatClampNeg r24) (x15 + (1 : Int32)) v0_merged v0_valueUp v0_valueDown v0_said v0_saids v0_at v0_number) := hD
      refine lv_goto (tgt := 14) hx hb dX10_begins_122 (by decide) ?_
      exact hB _ (Option.some.inj hf).symm _ _ _ hP hD hS (lv_sub hl [1, 0] rfl)
    have hf := er24
    refine lv_if_ne (tgt := 87) hx hb dX10_begins_78 (by decide) (fun cb => ?_) (fun cb => ?_)
    · have hf := it_f cb hf
      refine lv_aload_n hx hb dX10_begins_87 rfl (lv_at hl 0 rfl) ?_
      refine lv_aload_n hx hb dX10_begins_88 rfl (lv_at hl 0 rfl) ?_
      refine va_get (D := g.1) (ci := 11) (v := .ref (a0 5)) (C := RX10) (T := TX10) (N := 36) hx hb hts layX10 hown hK.1 hP 0 rfl rfl 5 (by decide) (hts _ kw1282) (fun _ h9 => h9) rfl dX10_begins_89 ?_
      refine lv_iload_n hx hb dX10_begins_92 rfl (lv_at hl 2 rfl) ?_
      have hi := it_n hf
      have hf := it_t hi hf
      refine va_iald hx hb hK.1 hP 5 0 rfl rfl (inb_in hi) dX10_begins_93 ?_
      refine cIp hP hD hS hA hE (fun hPc hDc hSc => rV (As := [.int (v0_place r22.toNatClampNeg)]) (rest := [.int x15, .ref (a0 17)]) hx hb hml hown hts hK (c_X10_ofPlace l g a0 v0_papers v0_raw v0_kind v0_figure v0_heavy v0_place v0_rules v0_lower v0_upper v0_limits v0_limit v0_ties v0_letter v0_letters v0_told v0_tolds v0_places v0_cell v0_refusals v0_imaged v0_hasImage v0_before v0_up v0_down v0_beneath v0_numberUp v0_numberDown x14 x15 v0_merged v0_valueUp v0_valueDown v0_said v0_saids v0_at v0_number (v0_place r22.toNatClampNeg) (bnd_ne hf)) svV_X10_ofPlace kw1483 rfl rfl hPc hDc hSc rfl rfl hl.1 (Nat.le_of_ble_eq_true rfl) dX10_begins_94 ⟨Nat.le_of_ble_eq_true rfl, Nat.le_of_ble_eq_true rfl, rfl, rfl, Nat.le_of_ble_eq_true rfl, Nat.le_of_ble_eq_true rfl⟩) [(0, 22)] rfl rfl rfl (fun x26 H locs ex26 nx26 hP hS => ?_)
      have hf := bnd_of hf ex26
      have hq := Option.some.inj hf
      subst hq
      exact K _ _ _ hP hD hS (lv_sub hl [0, 1] rfl)
    have hf := it_t cb hf
    refine lv_iconst (v := 1) hx hb dX10_begins_81 (by decide) ?_
    refine lv_iload_n hx hb dX10_begins_82 rfl (lv_at hl 2 rfl) ?_
    refine lv_ishl hx hb dX10_begins_83 ?_
    refine lv_goto (tgt := 97) hx hb dX10_begins_84 (by decide) ?_
    have hq := Option.some.inj hf
    subst hq
    exact K _ _ _ hP hD hS (lv_sub hl [0, 1] rfl)
  intro H locs ls hP hD hS hl
  have hP : va_P g.1 vwCl (wX10 a0 g v0_papers v0_raw v0_kind v0_figure v0_heavy v0_place v0_rules v0_lower v0_upper v0_limits v0_limit v0_ties v0_letter v0_letters v0_told v0_tolds v0_places v0_cell v0_refusals v0_imaged v0_hasImage v0_before v0_up v0_down v0_beneath v0_numberUp v0_numberDown r27.1 r27.2 v0_merged v0_valueUp v0_valueDown v0_said v0_saids v0_at v0_number) H := hP
  have hD : va_D A (wX10 a0 g v0_papers v0_raw v0_kind v0_figure v0_heavy v0_place v0_rules v0_lower v0_upper v0_limits v0_limit v0_ties v0_letter v0_letters v0_told v0_tolds v0_places v0_cell v0_refusals v0_imaged v0_hasImage v0_before v0_up v0_down v0_beneath v0_numberUp v0_numberDown r27.1 r27.2 v0_merged v0_valueUp v0_valueDown v0_said v0_saids v0_at v0_number) := hD
  have hl : lv_has ls 4 [] := hl
  exact retV (u := (r27.1, r27.2)) (W1 := fun u => wX10 a0 g v0_papers v0_raw v0_kind v0_figure v0_heavy v0_place v0_rules v0_lower v0_upper v0_limits v0_limit v0_ties v0_letter v0_letters v0_told v0_tolds v0_places v0_cell v0_refusals v0_imaged v0_hasImage v0_before v0_up v0_down v0_beneath v0_numberUp v0_numberDown u.1 u.2 v0_merged v0_valueUp v0_valueDown v0_said v0_saids v0_at v0_number) hx hb hr hlocks hS hP hD (hf0.trans hf.symm) dX10_begins_125
set_option maxHeartbeats 4000000 in
set_option maxRecDepth 100000 in
theorem c_X10_firstWrong (l : Launch) (g : GG) (a0 : Nat → Nat) (v0_papers : Int32) (v0_raw : (Nat → Int32)) (v0_kind : (Nat → Int32)) (v0_figure : (Nat → Int32)) (v0_heavy : (Nat → Int32)) (v0_place : (Nat → Int32)) (v0_rules : Int32) (v0_lower : (Nat → Int32)) (v0_upper : (Nat → Int32)) (v0_limits : Int32) (v0_limit : (Nat → Int32)) (v0_ties : Int32) (v0_letter : (Nat → Int32)) (v0_letters : Int32) (v0_told : (Nat → Int32)) (v0_tolds : Int32) (v0_places : (Nat → Int32)) (v0_cell : (Nat → Int64)) (v0_refusals : (Nat → Int32)) (v0_imaged : (Nat → Int32)) (v0_hasImage : Int32) (v0_before : (Nat → Int32)) (v0_up : Int64) (v0_down : Int64) (v0_beneath : (Nat → Int32)) (v0_numberUp : Int32) (v0_numberDown : Int32) (v0_block : (Nat → Int32)) (v0_blocks : Int32) (v0_merged : Int32) (v0_valueUp : (Nat → Int32)) (v0_valueDown : (Nat → Int32)) (v0_said : (Nat → Int32)) (v0_saids : Int32) (v0_at : Int32) (v0_number : (Nat → Int32)) (p1 : Int32) (hne : (m_X10_firstWrong (v0_papers, v0_raw, v0_kind, v0_figure, v0_heavy, v0_place, v0_rules, v0_lower, v0_upper, v0_limits, v0_limit, v0_ties, v0_letter, v0_letters, v0_told, v0_tolds, v0_places, v0_cell, v0_refusals, v0_imaged, v0_hasImage, v0_before, v0_up, v0_down, v0_beneath, v0_numberUp, v0_numberDown, v0_block, v0_blocks, v0_merged, v0_valueUp, v0_valueDown, v0_said, v0_saids, v0_at, v0_number) p1) ≠ none) : Ct l g yX10_firstWrong cX10_firstWrong 7 (some .int) ({ frames := 6, cells := 0, slots := 0, locals := 136 } : Room) [.ref (a0 0), .int p1] (wX10 a0 g v0_papers v0_raw v0_kind v0_figure v0_heavy v0_place v0_rules v0_lower v0_upper v0_limits v0_limit v0_ties v0_letter v0_letters v0_told v0_tolds v0_places v0_cell v0_refusals v0_imaged v0_hasImage v0_before v0_up v0_down v0_beneath v0_numberUp v0_numberDown v0_block v0_blocks v0_merged v0_valueUp v0_valueDown v0_said v0_saids v0_at v0_number) (Qi g .int (m_X10_firstWrong (v0_papers, v0_raw, v0_kind, v0_figure, v0_heavy, v0_place, v0_rules, v0_lower, v0_upper, v0_limits, v0_limit, v0_ties, v0_letter, v0_letters, v0_told, v0_tolds, v0_places, v0_cell, v0_refusals, v0_imaged, v0_hasImage, v0_before, v0_up, v0_down, v0_beneath, v0_numberUp, v0_numberDown, v0_block, v0_blocks, v0_merged, v0_valueUp, v0_valueDown, v0_said, v0_saids, v0_at, v0_number) p1) (fun u => u.1) (fun u => wX10 a0 g v0_papers v0_raw v0_kind v0_figure v0_heavy v0_place v0_rules v0_lower v0_upper v0_limits v0_limit v0_ties v0_letter v0_letters v0_told v0_tolds v0_places v0_cell v0_refusals v0_imaged v0_hasImage v0_before v0_up v0_down v0_beneath u.2.1 u.2.2 v0_block v0_blocks v0_merged v0_valueUp v0_valueDown v0_said v0_saids v0_at v0_number)) 0 0 := by
  obtain ⟨out, hf⟩ := ne_ex hne
  have hf0 := hf
  refine Ct.of (own := RX10) (by decide +kernel) rfl (Nat.le_of_ble_eq_true rfl) ?_
  intro p e s m below meth c hx hb hr hml hown hts hlocks hin hK A H locs hA hP hD hS hE ls hl
  have hl : lv_has ls 7 [(0, .ref (a0 0)), (1, .int p1)] := hl
  unfold m_X10_firstWrong at hf
  refine lv_iconst (v := 0) hx hb dX10_firstWrong_0 (by decide) ?_
  refine lv_istore_n (lv' := [(2, .int (0 : Int32)), (0, .ref (a0 0)), (1, .int p1)]) hx hb dX10_firstWrong_1 rfl hl (by decide) rfl (fun ls hl => ?_)
  obtain ⟨r8, er8, hf⟩ := bnd hf
  refine lp_W (P := fun z => ∀ (H : Heap) (locs : List Loc) (ls : Array Slot), va_P g.1 vwCl (wX10 a0 g v0_papers v0_raw v0_kind v0_figure v0_heavy v0_place v0_rules v0_lower v0_upper v0_limits v0_limit v0_ties v0_letter v0_letters v0_told v0_tolds v0_places v0_cell v0_refusals v0_imaged v0_hasImage v0_before v0_up v0_down v0_beneath z.2.1 z.2.2 v0_block v0_blocks v0_merged v0_valueUp v0_valueDown v0_said v0_saids v0_at v0_number) H → va_D A (wX10 a0 g v0_papers v0_raw v0_kind v0_figure v0_heavy v0_place v0_rules v0_lower v0_upper v0_limits v0_limit v0_ties v0_letter v0_letters v0_told v0_tolds v0_places v0_cell v0_refusals v0_imaged v0_hasImage v0_before v0_up v0_down v0_beneath z.2.1 z.2.2 v0_block v0_blocks v0_merged v0_valueUp v0_valueDown v0_said v0_saids v0_at v0_number) → va_S A s.heap H locs → lv_has ls 7 [(0, .ref (a0 0)), (1, .int p1), (2, .int z.1)] → W p l e { frames := 6, cells := 0, slots := 0, locals := 136 } s m [.ref (a0 0), .int p1].toArray below meth c H locs 0 0 (MQ below (Qi g .int (m_X10_firstWrong (v0_papers, v0_raw, v0_kind, v0_figure, v0_heavy, v0_place, v0_rules, v0_lower, v0_upper, v0_limits, v0_limit, v0_ties, v0_letter, v0_letters, v0_told, v0_tolds, v0_places, v0_cell, v0_refusals, v0_imaged, v0_hasImage, v0_before, v0_up, v0_down, v0_beneath, v0_numberUp, v0_numberDown, v0_block, v0_blocks, v0_merged, v0_valueUp, v0_valueDown, v0_said, v0_saids, v0_at, v0_number) p1) (fun u => u.1) (fun u => wX10 a0 g v0_papers v0_raw v0_kind v0_figure v0_heavy v0_place v0_rules v0_lower v0_upper v0_limits v0_limit v0_ties v0_letter v0_letters v0_told v0_tolds v0_places v0_cell v0_refusals v0_imaged v0_hasImage v0_before v0_up v0_down v0_beneath u.2.1 u.2.2 v0_block v0_blocks v0_merged v0_valueUp v0_valueDown v0_said v0_saids v0_at v0_number) A) [.ref (a0 0), .int p1].toArray s 0 0 A) (F0 m 2 ls [])) (E := fun r8 => match r8 with | .inl x9 => (∀ (H : Heap) (locs : List Loc) (ls : Array Slot), va_P g.1 vwCl (wX10 a0 g v0_papers v0_raw v0_kind v0_figure v0_heavy v0_place v0_rules v0_lower v0_upper v0_limits v0_limit v0_ties v0_letter v0_letters v0_told v0_tolds v0_places v0_cell v0_refusals v0_imaged v0_hasImage v0_before v0_up v0_down v0_beneath x9.2.1 x9.2.2 v0_block v0_blocks v0_merged v0_valueUp v0_valueDown v0_said v0_saids v0_at v0_number) H → va_D A (wX10 a0 g v0_papers v0_raw v0_kind v0_figure v0_heavy v0_place v0_rules v0_lower v0_upper v0_limits v0_limit v0_ties v0_letter v0_letters v0_told v0_tolds v0_places v0_cell v0_refusals v0_imaged v0_hasImage v0_before v0_up v0_down v0_beneath x9.2.1 x9.2.2 v0_block v0_blocks v0_merged v0_valueUp v0_valueDown v0_said v0_saids v0_at v0_number) → va_S A s.heap H locs → lv_has ls 7 [(2, .int x9.1)] → W p l e { frames := 6, cells := 0, slots := 0, locals := 136 } s m [.ref (a0 0), .int p1].toArray below meth c H locs 0 0 (MQ below (Qi g .int (m_X10_firstWrong (v0_papers, v0_raw, v0_kind, v0_figure, v0_heavy, v0_place, v0_rules, v0_lower, v0_upper, v0_limits, v0_limit, v0_ties, v0_letter, v0_letters, v0_told, v0_tolds, v0_places, v0_cell, v0_refusals, v0_imaged, v0_hasImage, v0_before, v0_up, v0_down, v0_beneath, v0_numberUp, v0_numberDown, v0_block, v0_blocks, v0_merged, v0_valueUp, v0_valueDown, v0_said, v0_saids, v0_at, v0_number) p1) (fun u => u.1) (fun u => wX10 a0 g v0_papers v0_raw v0_kind v0_figure v0_heavy v0_place v0_rules v0_lower v0_upper v0_limits v0_limit v0_ties v0_letter v0_letters v0_told v0_tolds v0_places v0_cell v0_refusals v0_imaged v0_hasImage v0_before v0_up v0_down v0_beneath u.2.1 u.2.2 v0_block v0_blocks v0_merged v0_valueUp v0_valueDown v0_said v0_saids v0_at v0_number) A) [.ref (a0 0), .int p1].toArray s 0 0 A) (F0 m 68 ls [])) | .inr x10 => (∀ (H : Heap) (locs : List Loc) (ls : Array Slot), va_P g.1 vwCl (wX10 a0 g v0_papers v0_raw v0_kind v0_figure v0_heavy v0_place v0_rules v0_lower v0_upper v0_limits v0_limit v0_ties v0_letter v0_letters v0_told v0_tolds v0_places v0_cell v0_refusals v0_imaged v0_hasImage v0_before v0_up v0_down v0_beneath x10.1 x10.2 v0_block v0_blocks v0_merged v0_valueUp v0_valueDown v0_said v0_saids v0_at v0_number) H → va_D A (wX10 a0 g v0_papers v0_raw v0_kind v0_figure v0_heavy v0_place v0_rules v0_lower v0_upper v0_limits v0_limit v0_ties v0_letter v0_letters v0_told v0_tolds v0_places v0_cell v0_refusals v0_imaged v0_hasImage v0_before v0_up v0_down v0_beneath x10.1 x10.2 v0_block v0_blocks v0_merged v0_valueUp v0_valueDown v0_said v0_saids v0_at v0_number) → va_S A s.heap H locs → lv_has ls 7 [] → W p l e { frames := 6, cells := 0, slots := 0, locals := 136 } s m [.ref (a0 0), .int p1].toArray below meth c H locs 0 0 (MQ below (Qi g .int (m_X10_firstWrong (v0_papers, v0_raw, v0_kind, v0_figure, v0_heavy, v0_place, v0_rules, v0_lower, v0_upper, v0_limits, v0_limit, v0_ties, v0_letter, v0_letters, v0_told, v0_tolds, v0_places, v0_cell, v0_refusals, v0_imaged, v0_hasImage, v0_before, v0_up, v0_down, v0_beneath, v0_numberUp, v0_numberDown, v0_block, v0_blocks, v0_merged, v0_valueUp, v0_valueDown, v0_said, v0_saids, v0_at, v0_number) p1) (fun u => u.1) (fun u => wX10 a0 g v0_papers v0_raw v0_kind v0_figure v0_heavy v0_place v0_rules v0_lower v0_upper v0_limits v0_limit v0_ties v0_letter v0_letters v0_told v0_tolds v0_places v0_cell v0_refusals v0_imaged v0_hasImage v0_before v0_up v0_down v0_beneath u.2.1 u.2.2 v0_block v0_blocks v0_merged v0_valueUp v0_valueDown v0_said v0_saids v0_at v0_number) A) [.ref (a0 0), .int p1].toArray s 0 0 A) (F0 m 76 ls []))) ?_ fu _ r8 er8 ?_ _ _ _ hP hD hS (lv_sub hl [1, 2, 0] rfl)
  · rintro ⟨x3, x4, x5⟩ y hf hB hXt H locs ls hP hD hS hl
    have hP : va_P g.1 vwCl (wX10 a0 g v0_papers v0_raw v0_kind v0_figure v0_heavy v0_place v0_rules v0_lower v0_upper v0_limits v0_limit v0_ties v0_letter v0_letters v0_told v0_tolds v0_places v0_cell v0_refusals v0_imaged v0_hasImage v0_before v0_up v0_down v0_beneath x4 x5 v0_block v0_blocks v0_merged v0_valueUp v0_valueDown v0_said v0_saids v0_at v0_number) H := hP
    have hD : va_D A (wX10 a0 g v0_papers v0_raw v0_kind v0_figure v0_heavy v0_place v0_rules v0_lower v0_upper v0_limits v0_limit v0_ties v0_letter v0_letters v0_told v0_tolds v0_places v0_cell v0_refusals v0_imaged v0_hasImage v0_before v0_up v0_down v0_beneath x4 x5 v0_block v0_blocks v0_merged v0_valueUp v0_valueDown v0_said v0_saids v0_at v0_number) := hD
    have hl : lv_has ls 7 [(0, .ref (a0 0)), (1, .int p1), (2, .int x3)] := hl
    have hf : m_X10_firstWrong_l2 (v0_papers, v0_raw, v0_kind, v0_figure, v0_heavy, v0_place, v0_rules, v0_lower, v0_upper, v0_limits, v0_limit, v0_ties, v0_letter, v0_letters, v0_told, v0_tolds, v0_places, v0_cell, v0_refusals, v0_imaged, v0_hasImage, v0_before, v0_up, v0_down, v0_beneath, v0_numberUp, v0_numberDown, v0_block, v0_blocks, v0_merged, v0_valueUp, v0_valueDown, v0_said, v0_saids, v0_at, v0_number) p1 x3 x4 x5 = some y := hf
    unfold m_X10_firstWrong_l2 at hf
    refine lv_iload_n hx hb dX10_firstWrong_2 rfl (lv_at hl 2 rfl) ?_
    refine lv_iconst (v := 1) hx hb dX10_firstWrong_3 (by decide) ?_
    refine lv_iadd hx hb dX10_firstWrong_4 ?_
    refine lv_aload_n hx hb dX10_firstWrong_5 rfl (lv_at hl 0 rfl) ?_
    refine va_get (D := g.1) (ci := 11) (v := .int v0_blocks) (C := RX10) (T := TX10) (N := 36) hx hb hts layX10 hown hK.1 hP 0 rfl rfl 28 (by decide) (hts _ kw1305) (fun _ h9 => h9) rfl dX10_firstWrong_6 ?_
    refine lv_icmp_ge (tgt := 76) hx hb dX10_firstWrong_9 (by decide) (fun cb => ?_) (fun cb => ?_)
    · have hf := it_t cb hf
      exact hXt _ (Option.some.inj hf).symm _ _ _ hP hD hS (lv_sub hl [] rfl)
    have hf := it_f cb hf
    refine lv_aload_n hx hb dX10_firstWrong_12 rfl (lv_at hl 0 rfl) ?_
    refine lv_iload_n hx hb dX10_firstWrong_13 rfl (lv_at hl 1 rfl) ?_
    refine lv_aload_n hx hb dX10_firstWrong_14 rfl (lv_at hl 0 rfl) ?_
    refine va_get (D := g.1) (ci := 11) (v := .ref (a0 17)) (C := RX10) (T := TX10) (N := 36) hx hb hts layX10 hown hK.1 hP 0 rfl rfl 27 (by decide) (hts _ kw1304) (fun _ h9 => h9) rfl dX10_firstWrong_15 ?_
    refine lv_iload_n hx hb dX10_firstWrong_18 rfl (lv_at hl 2 rfl) ?_
    have hi := it_n hf
    have hf := it_t hi hf
    refine va_iald hx hb hK.1 hP 17 0 rfl rfl (inb_in hi) dX10_firstWrong_19 ?_
    refine cV hP hD hS hA hE (fun hPc hDc hSc => rV (As := [.int p1, .int (v0_block x3.toNatClampNeg)]) (rest := []) hx hb hml hown hts hK (c_X10_number l g a0 v0_papers v0_raw v0_kind v0_figure v0_heavy v0_place v0_rules v0_lower v0_upper v0_limits v0_limit v0_ties v0_letter v0_letters v0_told v0_tolds v0_places v0_cell v0_refusals v0_imaged v0_hasImage v0_before v0_up v0_down v0_beneath x4 x5 v0_block v0_blocks v0_merged v0_valueUp v0_valueDown v0_said v0_saids v0_at v0_number p1 (v0_block x3.toNatClampNeg) (bnd_ne hf)) svV_X10_number kw1489 rfl rfl hPc hDc hSc rfl rfl hl.1 (Nat.le_of_ble_eq_true rfl) dX10_firstWrong_20 ⟨Nat.le_of_ble_eq_true rfl, Nat.le_of_ble_eq_true rfl, rfl, rfl, Nat.le_of_ble_eq_true rfl, Nat.le_of_ble_eq_true rfl⟩) [(0, 22)] rfl rfl rfl (fun _ => rfl) (fun x6 H locs ex6 hP hD hS => ?_)
    have hf := bnd_of hf ex6
    have hP : va_P g.1 vwCl (wX10 a0 g v0_papers v0_raw v0_kind v0_figure v0_heavy v0_place v0_rules v0_lower v0_upper v0_limits v0_limit v0_ties v0_letter v0_letters v0_told v0_tolds v0_places v0_cell v0_refusals v0_imaged v0_hasImage v0_before v0_up v0_down v0_beneath x6.1 x6.2 v0_block v0_blocks v0_merged v0_valueUp v0_valueDown v0_said v0_saids v0_at v0_number) H := hP
    have hD : va_D A (wX10 a0 g v0_papers v0_raw v0_kind v0_figure v0_heavy v0_place v0_rules v0_lower v0_upper v0_limits v0_limit v0_ties v0_letter v0_letters v0_told v0_tolds v0_places v0_cell v0_refusals v0_imaged v0_hasImage v0_before v0_up v0_down v0_beneath x6.1 x6.2 v0_block v0_blocks v0_merged v0_valueUp v0_valueDown v0_said v0_saids v0_at v0_number) := hD
    refine lv_aload_n hx hb dX10_firstWrong_23 rfl (lv_at hl 0 rfl) ?_
    refine va_get (D := g.1) (ci := 11) (v := .int x6.1) (C := RX10) (T := TX10) (N := 36) hx hb hts layX10 hown hK.1 hP 0 rfl rfl 25 (by decide) (hts _ kw1302) (fun _ h9 => h9) rfl dX10_firstWrong_24 ?_
    refine lv_i2l (v := x6.1.toInt64) hx hb dX10_firstWrong_27 rfl ?_
    refine lv_lstore_n (lv' := [(3, .long x6.1.toInt64), (0, .ref (a0 0)), (1, .int p1), (2, .int x3)]) hx hb dX10_firstWrong_28 rfl hl (by decide) rfl (fun ls hl => ?_)
    refine lv_aload_n hx hb dX10_firstWrong_29 rfl (lv_at hl 1 rfl) ?_
    refine va_get (D := g.1) (ci := 11) (v := .int x6.2) (C := RX10) (T := TX10) (N := 36) hx hb hts layX10 hown hK.1 hP 0 rfl rfl 26 (by decide) (hts _ kw1303) (fun _ h9 => h9) rfl dX10_firstWrong_30 ?_
    refine lv_i2l (v := x6.2.toInt64) hx hb dX10_firstWrong_33 rfl ?_
    refine lv_lstore (lv' := [(5, .long x6.2.toInt64), (3, .long x6.1.toInt64), (0, .ref (a0 0)), (1, .int p1), (2, .int x3)]) hx hb dX10_firstWrong_34 hl (by decide) rfl (fun ls hl => ?_)
    refine lv_aload_n hx hb dX10_firstWrong_36 rfl (lv_at hl 2 rfl) ?_
    refine lv_iload_n hx hb dX10_firstWrong_37 rfl (lv_at hl 3 rfl) ?_
    refine lv_aload_n hx hb dX10_firstWrong_38 rfl (lv_at hl 2 rfl) ?_
    refine va_get (D := g.1) (ci := 11) (v := .ref (a0 17)) (C := RX10) (T := TX10) (N := 36) hx hb hts layX10 hown hK.1 hP 0 rfl rfl 27 (by decide) (hts _ kw1304) (fun _ h9 => h9) rfl dX10_firstWrong_39 ?_
    refine lv_iload_n hx hb dX10_firstWrong_42 rfl (lv_at hl 4 rfl) ?_
    refine lv_iconst (v := 1) hx hb dX10_firstWrong_43 (by decide) ?_
    refine lv_iadd hx hb dX10_firstWrong_44 ?_
    have hi := it_n hf
    have hf := it_t hi hf
    refine va_iald hx hb hK.1 hP 17 0 rfl rfl (inb_in hi) dX10_firstWrong_45 ?_
    refine cV hP hD hS hA hE (fun hPc hDc hSc => rV (As := [.int p1, .int (v0_block (x3 + (1 : Int32)).toNatClampNeg)]) (rest := []) hx hb hml hown hts hK (c_X10_number l g a0 v0_papers v0_raw v0_kind v0_figure v0_heavy v0_place v0_rules v0_lower v0_upper v0_limits v0_limit v0_ties v0_letter v0_letters v0_told v0_tolds v0_places v0_cell v0_refusals v0_imaged v0_hasImage v0_before v0_up v0_down v0_beneath x6.1 x6.2 v0_block v0_blocks v0_merged v0_valueUp v0_valueDown v0_said v0_saids v0_at v0_number p1 (v0_block (x3 + (1 : Int32)).toNatClampNeg) (bnd_ne hf)) svV_X10_number kw1489 rfl rfl hPc hDc hSc rfl rfl hl.1 (Nat.le_of_ble_eq_true rfl) dX10_firstWrong_46 ⟨Nat.le_of_ble_eq_true rfl, Nat.le_of_ble_eq_true rfl, rfl, rfl, Nat.le_of_ble_eq_true rfl, Nat.le_of_ble_eq_true rfl⟩) [(0, 22)] rfl rfl rfl (fun _ => rfl) (fun x7 H locs ex7 hP hD hS => ?_)
    have hf := bnd_of hf ex7
    have hP : va_P g.1 vwCl (wX10 a0 g v0_papers v0_raw v0_kind v0_figure v0_heavy v0_place v0_rules v0_lower v0_upper v0_limits v0_limit v0_ties v0_letter v0_letters v0_told v0_tolds v0_places v0_cell v0_refusals v0_imaged v0_hasImage v0_before v0_up v0_down v0_beneath x7.1 x7.2 v0_block v0_blocks v0_merged v0_valueUp v0_valueDown v0_said v0_saids v0_at v0_number) H := hP
    have hD : va_D A (wX10 a0 g v0_papers v0_raw v0_kind v0_figure v0_heavy v0_place v0_rules v0_lower v0_upper v0_limits v0_limit v0_ties v0_letter v0_letters v0_told v0_tolds v0_places v0_cell v0_refusals v0_imaged v0_hasImage v0_before v0_up v0_down v0_beneath x7.1 x7.2 v0_block v0_blocks v0_merged v0_valueUp v0_valueDown v0_said v0_saids v0_at v0_number) := hD
    refine lv_lload_n hx hb dX10_firstWrong_49 rfl (lv_at hl 1 rfl) ?_
    refine lv_aload_n hx hb dX10_firstWrong_50 rfl (lv_at hl 2 rfl) ?_
    refine va_get (D := g.1) (ci := 11) (v := .int x7.2) (C := RX10) (T := TX10) (N := 36) hx hb hts layX10 hown hK.1 hP 0 rfl rfl 26 (by decide) (hts _ kw1303) (fun _ h9 => h9) rfl dX10_firstWrong_51 ?_
    refine lv_i2l (v := x7.2.toInt64) hx hb dX10_firstWrong_54 rfl ?_
    refine lv_lmul hx hb dX10_firstWrong_55 ?_
    refine lv_aload_n hx hb dX10_firstWrong_56 rfl (lv_at hl 2 rfl) ?_
    refine va_get (D := g.1) (ci := 11) (v := .int x7.1) (C := RX10) (T := TX10) (N := 36) hx hb hts layX10 hown hK.1 hP 0 rfl rfl 25 (by decide) (hts _ kw1302) (fun _ h9 => h9) rfl dX10_firstWrong_57 ?_
    refine lv_i2l (v := x7.1.toInt64) hx hb dX10_firstWrong_60 rfl ?_
    refine lv_lload hx hb dX10_firstWrong_61 (lv_at hl 0 rfl) ?_
    refine lv_lmul hx hb dX10_firstWrong_63 ?_
    refine lc_lt (tgt := 70) hx hb dX10_firstWrong_64 dX10_firstWrong_65 (by decide) (fun cb => ?_) (fun cb => ?_)
    · have hf := it_t cb hf
      refine lv_iinc (v := (x3 + 1)) (lv' := [(2, .int (x3 + 1)), (5, .long x6.2.toInt64), (3, .long x6.1.toInt64), (0, .ref (a0 0)), (1, .int p1)]) hx hb dX10_firstWrong_70 hl (k := 4) rfl (by rfl) (by decide) rfl (fun ls hl => ?_)
      refine lv_goto (tgt := 2) hx hb dX10_firstWrong_73 (by decide) ?_
      exact hB _ (Option.some.inj hf).symm _ _ _ hP hD hS (lv_sub hl [3, 4, 0] rfl)
    have hf := it_f cb hf
    exact hXt _ (Option.some.inj hf).symm _ _ _ hP hD hS (lv_sub hl [4] rfl)
  rcases r8 with x9 | x10
  · intro H locs ls hP hD hS hl
    have hP : va_P g.1 vwCl (wX10 a0 g v0_papers v0_raw v0_kind v0_figure v0_heavy v0_place v0_rules v0_lower v0_upper v0_limits v0_limit v0_ties v0_letter v0_letters v0_told v0_tolds v0_places v0_cell v0_refusals v0_imaged v0_hasImage v0_before v0_up v0_down v0_beneath x9.2.1 x9.2.2 v0_block v0_blocks v0_merged v0_valueUp v0_valueDown v0_said v0_saids v0_at v0_number) H := hP
    have hD : va_D A (wX10 a0 g v0_papers v0_raw v0_kind v0_figure v0_heavy v0_place v0_rules v0_lower v0_upper v0_limits v0_limit v0_ties v0_letter v0_letters v0_told v0_tolds v0_places v0_cell v0_refusals v0_imaged v0_hasImage v0_before v0_up v0_down v0_beneath x9.2.1 x9.2.2 v0_block v0_blocks v0_merged v0_valueUp v0_valueDown v0_said v0_saids v0_at v0_number) := hD
    have hl : lv_has ls 7 [(2, .int x9.1)] := hl
    refine lv_iload_n hx hb dX10_firstWrong_68 rfl (lv_at hl 0 rfl) ?_
    exact retI (v := x9.1) (u := (x9.1, x9.2.1, x9.2.2)) (val := fun u => u.1) (W1 := fun u => wX10 a0 g v0_papers v0_raw v0_kind v0_figure v0_heavy v0_place v0_rules v0_lower v0_upper v0_limits v0_limit v0_ties v0_letter v0_letters v0_told v0_tolds v0_places v0_cell v0_refusals v0_imaged v0_hasImage v0_before v0_up v0_down v0_beneath u.2.1 u.2.2 v0_block v0_blocks v0_merged v0_valueUp v0_valueDown v0_said v0_saids v0_at v0_number) hx hb hr hlocks hS hP hD (hf0.trans hf.symm) rfl rfl dX10_firstWrong_69
  · intro H locs ls hP hD hS hl
    have hP : va_P g.1 vwCl (wX10 a0 g v0_papers v0_raw v0_kind v0_figure v0_heavy v0_place v0_rules v0_lower v0_upper v0_limits v0_limit v0_ties v0_letter v0_letters v0_told v0_tolds v0_places v0_cell v0_refusals v0_imaged v0_hasImage v0_before v0_up v0_down v0_beneath x10.1 x10.2 v0_block v0_blocks v0_merged v0_valueUp v0_valueDown v0_said v0_saids v0_at v0_number) H := hP
    have hD : va_D A (wX10 a0 g v0_papers v0_raw v0_kind v0_figure v0_heavy v0_place v0_rules v0_lower v0_upper v0_limits v0_limit v0_ties v0_letter v0_letters v0_told v0_tolds v0_places v0_cell v0_refusals v0_imaged v0_hasImage v0_before v0_up v0_down v0_beneath x10.1 x10.2 v0_block v0_blocks v0_merged v0_valueUp v0_valueDown v0_said v0_saids v0_at v0_number) := hD
    have hl : lv_has ls 7 [] := hl
    refine lv_bipush (v := (-9)) hx hb dX10_firstWrong_76 (by decide) ?_
    exact retI (v := (-9 : Int32)) (u := ((-9 : Int32), x10.1, x10.2)) (val := fun u => u.1) (W1 := fun u => wX10 a0 g v0_papers v0_raw v0_kind v0_figure v0_heavy v0_place v0_rules v0_lower v0_upper v0_limits v0_limit v0_ties v0_letter v0_letters v0_told v0_tolds v0_places v0_cell v0_refusals v0_imaged v0_hasImage v0_before v0_up v0_down v0_beneath u.2.1 u.2.2 v0_block v0_blocks v0_merged v0_valueUp v0_valueDown v0_said v0_saids v0_at v0_number) hx hb hr hlocks hS hP hD (hf0.trans hf.symm) rfl rfl dX10_firstWrong_78
set_option maxHeartbeats 4000000 in
set_option maxRecDepth 100000 in
theorem c_X10_lines (l : Launch) (g : GG) (a0 : Nat → Nat) (v0_papers : Int32) (v0_raw : (Nat → Int32)) (v0_kind : (Nat → Int32)) (v0_figure : (Nat → Int32)) (v0_heavy : (Nat → Int32)) (v0_place : (Nat → Int32)) (v0_rules : Int32) (v0_lower : (Nat → Int32)) (v0_upper : (Nat → Int32)) (v0_limits : Int32) (v0_limit : (Nat → Int32)) (v0_ties : Int32) (v0_letter : (Nat → Int32)) (v0_letters : Int32) (v0_told : (Nat → Int32)) (v0_tolds : Int32) (v0_places : (Nat → Int32)) (v0_cell : (Nat → Int64)) (v0_refusals : (Nat → Int32)) (v0_imaged : (Nat → Int32)) (v0_hasImage : Int32) (v0_before : (Nat → Int32)) (v0_up : Int64) (v0_down : Int64) (v0_beneath : (Nat → Int32)) (v0_numberUp : Int32) (v0_numberDown : Int32) (v0_block : (Nat → Int32)) (v0_blocks : Int32) (v0_merged : Int32) (v0_valueUp : (Nat → Int32)) (v0_valueDown : (Nat → Int32)) (v0_said : (Nat → Int32)) (v0_saids : Int32) (v0_at : Int32) (v0_number : (Nat → Int32)) (p1 : Int32) (hne : (m_X10_lines (v0_papers, v0_raw, v0_kind, v0_figure, v0_heavy, v0_place, v0_rules, v0_lower, v0_upper, v0_limits, v0_limit, v0_ties, v0_letter, v0_letters, v0_told, v0_tolds, v0_places, v0_cell, v0_refusals, v0_imaged, v0_hasImage, v0_before, v0_up, v0_down, v0_beneath, v0_numberUp, v0_numberDown, v0_block, v0_blocks, v0_merged, v0_valueUp, v0_valueDown, v0_said, v0_saids, v0_at, v0_number) p1) ≠ none) : Ct l g yX10_lines cX10_lines 4 none ({ frames := 7, cells := 0, slots := 0, locals := 162 } : Room) [.ref (a0 0), .int p1] (wX10 a0 g v0_papers v0_raw v0_kind v0_figure v0_heavy v0_place v0_rules v0_lower v0_upper v0_limits v0_limit v0_ties v0_letter v0_letters v0_told v0_tolds v0_places v0_cell v0_refusals v0_imaged v0_hasImage v0_before v0_up v0_down v0_beneath v0_numberUp v0_numberDown v0_block v0_blocks v0_merged v0_valueUp v0_valueDown v0_said v0_saids v0_at v0_number) (Qv g (m_X10_lines (v0_papers, v0_raw, v0_kind, v0_figure, v0_heavy, v0_place, v0_rules, v0_lower, v0_upper, v0_limits, v0_limit, v0_ties, v0_letter, v0_letters, v0_told, v0_tolds, v0_places, v0_cell, v0_refusals, v0_imaged, v0_hasImage, v0_before, v0_up, v0_down, v0_beneath, v0_numberUp, v0_numberDown, v0_block, v0_blocks, v0_merged, v0_valueUp, v0_valueDown, v0_said, v0_saids, v0_at, v0_number) p1) (fun u => wX10 a0 g v0_papers v0_raw v0_kind v0_figure v0_heavy v0_place v0_rules v0_lower v0_upper v0_limits v0_limit v0_ties v0_letter v0_letters v0_told v0_tolds v0_places v0_cell v0_refusals v0_imaged v0_hasImage v0_before v0_up v0_down v0_beneath u.1 u.2.1 u.2.2.1 u.2.2.2.1 u.2.2.2.2 v0_valueUp v0_valueDown v0_said v0_saids v0_at v0_number)) 0 0 := by
  obtain ⟨out, hf⟩ := ne_ex hne
  have hf0 := hf
  refine Ct.of (own := RX10) (by decide +kernel) rfl (Nat.le_of_ble_eq_true rfl) ?_
  intro p e s m below meth c hx hb hr hml hown hts hlocks hin hK A H locs hA hP hD hS hE ls hl
  have hl : lv_has ls 4 [(0, .ref (a0 0)), (1, .int p1)] := hl
  unfold m_X10_lines at hf
  refine lv_aload_n hx hb dX10_lines_0 rfl (lv_at hl 0 rfl) ?_
  refine cV hP hD hS hA hE (fun hPc hDc hSc => rV (As := []) (rest := []) hx hb hml hown hts hK (c_X10_begins l g a0 v0_papers v0_raw v0_kind v0_figure v0_heavy v0_place v0_rules v0_lower v0_upper v0_limits v0_limit v0_ties v0_letter v0_letters v0_told v0_tolds v0_places v0_cell v0_refusals v0_imaged v0_hasImage v0_before v0_up v0_down v0_beneath v0_numberUp v0_numberDown v0_block v0_blocks v0_merged v0_valueUp v0_valueDown v0_said v0_saids v0_at v0_number (bnd_ne hf)) svV_X10_begins kw1477 rfl rfl hPc hDc hSc rfl rfl hl.1 (Nat.le_of_ble_eq_true rfl) dX10_lines_1 ⟨Nat.le_of_ble_eq_true rfl, Nat.le_of_ble_eq_true rfl, rfl, rfl, Nat.le_of_ble_eq_true rfl, Nat.le_of_ble_eq_true rfl⟩) [(0, 22)] rfl rfl rfl (fun _ => rfl) (fun x1 H locs ex1 hP hD hS => ?_)
  have hf := bnd_of hf ex1
  have hP : va_P g.1 vwCl (wX10 a0 g v0_papers v0_raw v0_kind v0_figure v0_heavy v0_place v0_rules v0_lower v0_upper v0_limits v0_limit v0_ties v0_letter v0_letters v0_told v0_tolds v0_places v0_cell v0_refusals v0_imaged v0_hasImage v0_before v0_up v0_down v0_beneath v0_numberUp v0_numberDown x1.1 x1.2 v0_merged v0_valueUp v0_valueDown v0_said v0_saids v0_at v0_number) H := hP
  have hD : va_D A (wX10 a0 g v0_papers v0_raw v0_kind v0_figure v0_heavy v0_place v0_rules v0_lower v0_upper v0_limits v0_limit v0_ties v0_letter v0_letters v0_told v0_tolds v0_places v0_cell v0_refusals v0_imaged v0_hasImage v0_before v0_up v0_down v0_beneath v0_numberUp v0_numberDown x1.1 x1.2 v0_merged v0_valueUp v0_valueDown v0_said v0_saids v0_at v0_number) := hD
  refine lv_aload_n hx hb dX10_lines_4 rfl (lv_at hl 0 rfl) ?_
  refine lv_iconst (v := 0) hx hb dX10_lines_5 (by decide) ?_
  refine va_put (D := g.1) (ci := 11) (v := .int (0 : Int32)) (ty := .int) (C := RX10) (T := TX10) (N := 36) hx hb hts layX10 tyX10 tyX10_ok nmX10 hown hK.1 hP hD hS 0 rfl rfl 29 (by decide) (hts _ kw1306) (fun _ h9 => h9) rfl (tyX10_ok 29 (by decide)) rfl rfl (Nat.le_of_ble_eq_true rfl) dX10_lines_6 (fun H locs hP hD hS => ?_)
  have hP : va_P g.1 vwCl (wX10 a0 g v0_papers v0_raw v0_kind v0_figure v0_heavy v0_place v0_rules v0_lower v0_upper v0_limits v0_limit v0_ties v0_letter v0_letters v0_told v0_tolds v0_places v0_cell v0_refusals v0_imaged v0_hasImage v0_before v0_up v0_down v0_beneath v0_numberUp v0_numberDown x1.1 x1.2 (0 : Int32) v0_valueUp v0_valueDown v0_said v0_saids v0_at v0_number) H := hP
  have hD : va_D A (wX10 a0 g v0_papers v0_raw v0_kind v0_figure v0_heavy v0_place v0_rules v0_lower v0_upper v0_limits v0_limit v0_ties v0_letter v0_letters v0_told v0_tolds v0_places v0_cell v0_refusals v0_imaged v0_hasImage v0_before v0_up v0_down v0_beneath v0_numberUp v0_numberDown x1.1 x1.2 (0 : Int32) v0_valueUp v0_valueDown v0_said v0_saids v0_at v0_number) := hD
  refine lv_aload_n hx hb dX10_lines_9 rfl (lv_at hl 0 rfl) ?_
  refine lv_iload_n hx hb dX10_lines_10 rfl (lv_at hl 1 rfl) ?_
  refine cI hP hD hS hA hE (fun hPc hDc hSc => rV (As := [.int p1]) (rest := []) hx hb hml hown hts hK (c_X10_firstWrong l g a0 v0_papers v0_raw v0_kind v0_figure v0_heavy v0_place v0_rules v0_lower v0_upper v0_limits v0_limit v0_ties v0_letter v0_letters v0_told v0_tolds v0_places v0_cell v0_refusals v0_imaged v0_hasImage v0_before v0_up v0_down v0_beneath v0_numberUp v0_numberDown x1.1 x1.2 (0 : Int32) v0_valueUp v0_valueDown v0_said v0_saids v0_at v0_number p1 (bnd_ne hf)) svV_X10_firstWrong kw1486 rfl rfl hPc hDc hSc rfl rfl hl.1 (Nat.le_of_ble_eq_true rfl) dX10_lines_11 ⟨Nat.le_of_ble_eq_true rfl, Nat.le_of_ble_eq_true rfl, rfl, rfl, Nat.le_of_ble_eq_true rfl, Nat.le_of_ble_eq_true rfl⟩) [(0, 22)] rfl rfl rfl (fun _ => rfl) (fun x2 H locs ex2 nx2 hP hD hS => ?_)
  have hf := bnd_of hf ex2
  have hP : va_P g.1 vwCl (wX10 a0 g v0_papers v0_raw v0_kind v0_figure v0_heavy v0_place v0_rules v0_lower v0_upper v0_limits v0_limit v0_ties v0_letter v0_letters v0_told v0_tolds v0_places v0_cell v0_refusals v0_imaged v0_hasImage v0_before v0_up v0_down v0_beneath x2.2.1 x2.2.2 x1.1 x1.2 (0 : Int32) v0_valueUp v0_valueDown v0_said v0_saids v0_at v0_number) H := hP
  have hD : va_D A (wX10 a0 g v0_papers v0_raw v0_kind v0_figure v0_heavy v0_place v0_rules v0_lower v0_upper v0_limits v0_limit v0_ties v0_letter v0_letters v0_told v0_tolds v0_places v0_cell v0_refusals v0_imaged v0_hasImage v0_before v0_up v0_down v0_beneath x2.2.1 x2.2.2 x1.1 x1.2 (0 : Int32) v0_valueUp v0_valueDown v0_said v0_saids v0_at v0_number) := hD
  refine lv_istore_n (lv' := [(2, .int x2.1), (0, .ref (a0 0)), (1, .int p1)]) hx hb dX10_lines_14 rfl hl (by decide) rfl (fun ls hl => ?_)
  obtain ⟨r17, er17, hf⟩ := bnd hf
  refine lp_W (P := fun z => ∀ (H : Heap) (locs : List Loc) (ls : Array Slot), va_P g.1 vwCl (wX10 a0 g v0_papers v0_raw v0_kind v0_figure v0_heavy v0_place v0_rules v0_lower v0_upper v0_limits v0_limit v0_ties v0_letter v0_letters v0_told v0_tolds v0_places v0_cell v0_refusals v0_imaged v0_hasImage v0_before v0_up v0_down v0_beneath z.2.1 z.2.2.1 z.2.2.2.1 z.2.2.2.2.1 z.2.2.2.2.2 v0_valueUp v0_valueDown v0_said v0_saids v0_at v0_number) H → va_D A (wX10 a0 g v0_papers v0_raw v0_kind v0_figure v0_heavy v0_place v0_rules v0_lower v0_upper v0_limits v0_limit v0_ties v0_letter v0_letters v0_told v0_tolds v0_places v0_cell v0_refusals v0_imaged v0_hasImage v0_before v0_up v0_down v0_beneath z.2.1 z.2.2.1 z.2.2.2.1 z.2.2.2.2.1 z.2.2.2.2.2 v0_valueUp v0_valueDown v0_said v0_saids v0_at v0_number) → va_S A s.heap H locs → lv_has ls 4 [(0, .ref (a0 0)), (1, .int p1), (2, .int z.1)] → W p l e { frames := 7, cells := 0, slots := 0, locals := 162 } s m [.ref (a0 0), .int p1].toArray below meth c H locs 0 0 (MQ below (Qv g (m_X10_lines (v0_papers, v0_raw, v0_kind, v0_figure, v0_heavy, v0_place, v0_rules, v0_lower, v0_upper, v0_limits, v0_limit, v0_ties, v0_letter, v0_letters, v0_told, v0_tolds, v0_places, v0_cell, v0_refusals, v0_imaged, v0_hasImage, v0_before, v0_up, v0_down, v0_beneath, v0_numberUp, v0_numberDown, v0_block, v0_blocks, v0_merged, v0_valueUp, v0_valueDown, v0_said, v0_saids, v0_at, v0_number) p1) (fun u => wX10 a0 g v0_papers v0_raw v0_kind v0_figure v0_heavy v0_place v0_rules v0_lower v0_upper v0_limits v0_limit v0_ties v0_letter v0_letters v0_told v0_tolds v0_places v0_cell v0_refusals v0_imaged v0_hasImage v0_before v0_up v0_down v0_beneath u.1 u.2.1 u.2.2.1 u.2.2.2.1 u.2.2.2.2 v0_valueUp v0_valueDown v0_said v0_saids v0_at v0_number) A) [.ref (a0 0), .int p1].toArray s 0 0 A) (F0 m 15 ls [])) (E := fun r17 => ∀ (H : Heap) (locs : List Loc) (ls : Array Slot), va_P g.1 vwCl (wX10 a0 g v0_papers v0_raw v0_kind v0_figure v0_heavy v0_place v0_rules v0_lower v0_upper v0_limits v0_limit v0_ties v0_letter v0_letters v0_told v0_tolds v0_places v0_cell v0_refusals v0_imaged v0_hasImage v0_before v0_up v0_down v0_beneath r17.1 r17.2.1 r17.2.2.1 r17.2.2.2.1 r17.2.2.2.2 v0_valueUp v0_valueDown v0_said v0_saids v0_at v0_number) H → va_D A (wX10 a0 g v0_papers v0_raw v0_kind v0_figure v0_heavy v0_place v0_rules v0_lower v0_upper v0_limits v0_limit v0_ties v0_letter v0_letters v0_told v0_tolds v0_places v0_cell v0_refusals v0_imaged v0_hasImage v0_before v0_up v0_down v0_beneath r17.1 r17.2.1 r17.2.2.1 r17.2.2.2.1 r17.2.2.2.2 v0_valueUp v0_valueDown v0_said v0_saids v0_at v0_number) → va_S A s.heap H locs → lv_has ls 4 [] → W p l e { frames := 7, cells := 0, slots := 0, locals := 162 } s m [.ref (a0 0), .int p1].toArray below meth c H locs 0 0 (MQ below (Qv g (m_X10_lines (v0_papers, v0_raw, v0_kind, v0_figure, v0_heavy, v0_place, v0_rules, v0_lower, v0_upper, v0_limits, v0_limit, v0_ties, v0_letter, v0_letters, v0_told, v0_tolds, v0_places, v0_cell, v0_refusals, v0_imaged, v0_hasImage, v0_before, v0_up, v0_down, v0_beneath, v0_numberUp, v0_numberDown, v0_block, v0_blocks, v0_merged, v0_valueUp, v0_valueDown, v0_said, v0_saids, v0_at, v0_number) p1) (fun u => wX10 a0 g v0_papers v0_raw v0_kind v0_figure v0_heavy v0_place v0_rules v0_lower v0_upper v0_limits v0_limit v0_ties v0_letter v0_letters v0_told v0_tolds v0_places v0_cell v0_refusals v0_imaged v0_hasImage v0_before v0_up v0_down v0_beneath u.1 u.2.1 u.2.2.1 u.2.2.2.1 u.2.2.2.2 v0_valueUp v0_valueDown v0_said v0_saids v0_at v0_number) A) [.ref (a0 0), .int p1].toArray s 0 0 A) (F0 m 99 ls [])) ?_ fu _ r17 er17 ?_ _ _ _ hP hD hS (lv_sub hl [1, 2, 0] rfl)
  · rintro ⟨x7, x8, x9, x10, x11, x12⟩ y hf hB hXt H locs ls hP hD hS hl
    have hP : va_P g.1 vwCl (wX10 a0 g v0_papers v0_raw v0_kind v0_figure v0_heavy v0_place v0_rules v0_lower v0_upper v0_limits v0_limit v0_ties v0_letter v0_letters v0_told v0_tolds v0_places v0_cell v0_refusals v0_imaged v0_hasImage v0_before v0_up v0_down v0_beneath x8 x9 x10 x11 x12 v0_valueUp v0_valueDown v0_said v0_saids v0_at v0_number) H := hP
    have hD : va_D A (wX10 a0 g v0_papers v0_raw v0_kind v0_figure v0_heavy v0_place v0_rules v0_lower v0_upper v0_limits v0_limit v0_ties v0_letter v0_letters v0_told v0_tolds v0_places v0_cell v0_refusals v0_imaged v0_hasImage v0_before v0_up v0_down v0_beneath x8 x9 x10 x11 x12 v0_valueUp v0_valueDown v0_said v0_saids v0_at v0_number) := hD
    have hl : lv_has ls 4 [(0, .ref (a0 0)), (1, .int p1), (2, .int x7)] := hl
    have hf : m_X10_lines_l15 (v0_papers, v0_raw, v0_kind, v0_figure, v0_heavy, v0_place, v0_rules, v0_lower, v0_upper, v0_limits, v0_limit, v0_ties, v0_letter, v0_letters, v0_told, v0_tolds, v0_places, v0_cell, v0_refusals, v0_imaged, v0_hasImage, v0_before, v0_up, v0_down, v0_beneath, v0_numberUp, v0_numberDown, v0_block, v0_blocks, v0_merged, v0_valueUp, v0_valueDown, v0_said, v0_saids, v0_at, v0_number) p1 x7 x8 x9 x10 x11 x12 = some y := hf
    unfold m_X10_lines_l15 at hf
    refine lv_iload_n hx hb dX10_lines_15 rfl (lv_at hl 2 rfl) ?_
    refine lv_bipush (v := (-9)) hx hb dX10_lines_16 (by decide) ?_
    refine lv_icmp_eq (tgt := 99) hx hb dX10_lines_18 (by decide) (fun cb => ?_) (fun cb => ?_)
    · have hf := it_t cb hf
      exact hXt _ (Option.some.inj hf).symm _ _ _ hP hD hS (lv_sub hl [] rfl)
    have hf := it_f cb hf
    refine lv_aload_n hx hb dX10_lines_21 rfl (lv_at hl 0 rfl) ?_
    refine va_get (D := g.1) (ci := 11) (v := .ref (a0 17)) (C := RX10) (T := TX10) (N := 36) hx hb hts layX10 hown hK.1 hP 0 rfl rfl 27 (by decide) (hts _ kw1304) (fun _ h9 => h9) rfl dX10_lines_22 ?_
    refine lv_iload_n hx hb dX10_lines_25 rfl (lv_at hl 2 rfl) ?_
    refine lv_dup2_11 hx hb dX10_lines_26 rfl rfl ?_
    have hi := it_n hf
    have hf := it_t hi hf
    refine va_iald hx hb hK.1 hP 17 0 rfl rfl (inb_in hi) dX10_lines_27 ?_
    refine lv_aload_n hx hb dX10_lines_28 rfl (lv_at hl 0 rfl) ?_
    refine va_get (D := g.1) (ci := 11) (v := .ref (a0 17)) (C := RX10) (T := TX10) (N := 36) hx hb hts layX10 hown hK.1 hP 0 rfl rfl 27 (by decide) (hts _ kw1304) (fun _ h9 => h9) rfl dX10_lines_29 ?_
    refine lv_iload_n hx hb dX10_lines_32 rfl (lv_at hl 2 rfl) ?_
    refine lv_iconst (v := 1) hx hb dX10_lines_33 (by decide) ?_
    refine lv_iadd hx hb dX10_lines_34 ?_
    have hi := it_n hf
    have hf := it_t hi hf
    refine va_iald hx hb hK.1 hP 17 0 rfl rfl (inb_in hi) dX10_lines_35 ?_
    refine lv_ior hx hb dX10_lines_36 ?_
    have hi := it_n hf
    have hf := it_t hi hf
    refine va_iast hx hb hK.1 hP hD hS 17 0 rfl rfl (inb_in hi) dX10_lines_37 (fun H locs hP hD hS => ?_)
    have hP : va_P g.1 vwCl (wX10 a0 g v0_papers v0_raw v0_kind v0_figure v0_heavy v0_place v0_rules v0_lower v0_upper v0_limits v0_limit v0_ties v0_letter v0_letters v0_told v0_tolds v0_places v0_cell v0_refusals v0_imaged v0_hasImage v0_before v0_up v0_down v0_beneath x8 x9 (upd x10 x7.toNatClampNeg ((x10 x7.toNatClampNeg) ||| (x10 (x7 + (1 : Int32)).toNatClampNeg))) x11 x12 v0_valueUp v0_valueDown v0_said v0_saids v0_at v0_number) H := hP
    have hD : va_D A (wX10 a0 g v0_papers v0_raw v0_kind v0_figure v0_heavy v0_place v0_rules v0_lower v0_upper v0_limits v0_limit v0_ties v0_letter v0_letters v0_told v0_tolds v0_places v0_cell v0_refusals v0_imaged v0_hasImage v0_before v0_up v0_down v0_beneath x8 x9 (upd x10 x7.toNatClampNeg ((x10 x7.toNatClampNeg) ||| (x10 (x7 + (1 : Int32)).toNatClampNeg))) x11 x12 v0_valueUp v0_valueDown v0_said v0_saids v0_at v0_number) := hD
    refine lv_aload_n hx hb dX10_lines_38 rfl (lv_at hl 0 rfl) ?_
    refine lv_dup hx hb dX10_lines_39 rfl ?_
    refine va_get (D := g.1) (ci := 11) (v := .int x11) (C := RX10) (T := TX10) (N := 36) hx hb hts layX10 hown hK.1 hP 0 rfl rfl 28 (by decide) (hts _ kw1305) (fun _ h9 => h9) rfl dX10_lines_40 ?_
    refine lv_iconst (v := 1) hx hb dX10_lines_43 (by decide) ?_
    refine lv_isub hx hb dX10_lines_44 ?_
    refine va_put (D := g.1) (ci := 11) (v := .int (x11 - (1 : Int32))) (ty := .int) (C := RX10) (T := TX10) (N := 36) hx hb hts layX10 tyX10 tyX10_ok nmX10 hown hK.1 hP hD hS 0 rfl rfl 28 (by decide) (hts _ kw1305) (fun _ h9 => h9) rfl (tyX10_ok 28 (by decide)) rfl rfl (Nat.le_of_ble_eq_true rfl) dX10_lines_45 (fun H locs hP hD hS => ?_)
    have hP : va_P g.1 vwCl (wX10 a0 g v0_papers v0_raw v0_kind v0_figure v0_heavy v0_place v0_rules v0_lower v0_upper v0_limits v0_limit v0_ties v0_letter v0_letters v0_told v0_tolds v0_places v0_cell v0_refusals v0_imaged v0_hasImage v0_before v0_up v0_down v0_beneath x8 x9 (upd x10 x7.toNatClampNeg ((x10 x7.toNatClampNeg) ||| (x10 (x7 + (1 : Int32)).toNatClampNeg))) (x11 - (1 : Int32)) x12 v0_valueUp v0_valueDown v0_said v0_saids v0_at v0_number) H := hP
    have hD : va_D A (wX10 a0 g v0_papers v0_raw v0_kind v0_figure v0_heavy v0_place v0_rules v0_lower v0_upper v0_limits v0_limit v0_ties v0_letter v0_letters v0_told v0_tolds v0_places v0_cell v0_refusals v0_imaged v0_hasImage v0_before v0_up v0_down v0_beneath x8 x9 (upd x10 x7.toNatClampNeg ((x10 x7.toNatClampNeg) ||| (x10 (x7 + (1 : Int32)).toNatClampNeg))) (x11 - (1 : Int32)) x12 v0_valueUp v0_valueDown v0_said v0_saids v0_at v0_number) := hD
    refine lv_iload_n hx hb dX10_lines_48 rfl (lv_at hl 2 rfl) ?_
    refine lv_iconst (v := 1) hx hb dX10_lines_49 (by decide) ?_
    refine lv_iadd hx hb dX10_lines_50 ?_
    refine lv_istore_n (lv' := [(3, .int (x7 + (1 : Int32))), (0, .ref (a0 0)), (1, .int p1), (2, .int x7)]) hx hb dX10_lines_51 rfl hl (by decide) rfl (fun ls hl => ?_)
    obtain ⟨r15, er15, hf⟩ := bnd hf
    refine lp_W (P := fun z => ∀ (H : Heap) (locs : List Loc) (ls : Array Slot), va_P g.1 vwCl (wX10 a0 g v0_papers v0_raw v0_kind v0_figure v0_heavy v0_place v0_rules v0_lower v0_upper v0_limits v0_limit v0_ties v0_letter v0_letters v0_told v0_tolds v0_places v0_cell v0_refusals v0_imaged v0_hasImage v0_before v0_up v0_down v0_beneath x8 x9 z.2 (x11 - (1 : Int32)) x12 v0_valueUp v0_valueDown v0_said v0_saids v0_at v0_number) H → va_D A (wX10 a0 g v0_papers v0_raw v0_kind v0_figure v0_heavy v0_place v0_rules v0_lower v0_upper v0_limits v0_limit v0_ties v0_letter v0_letters v0_told v0_tolds v0_places v0_cell v0_refusals v0_imaged v0_hasImage v0_before v0_up v0_down v0_beneath x8 x9 z.2 (x11 - (1 : Int32)) x12 v0_valueUp v0_valueDown v0_said v0_saids v0_at v0_number) → va_S A s.heap H locs → lv_has ls 4 [(0, .ref (a0 0)), (1, .int p1), (3, .int z.1)] → W p l e { frames := 7, cells := 0, slots := 0, locals := 162 } s m [.ref (a0 0), .int p1].toArray below meth c H locs 0 0 (MQ below (Qv g (m_X10_lines (v0_papers, v0_raw, v0_kind, v0_figure, v0_heavy, v0_place, v0_rules, v0_lower, v0_upper, v0_limits, v0_limit, v0_ties, v0_letter, v0_letters, v0_told, v0_tolds, v0_places, v0_cell, v0_refusals, v0_imaged, v0_hasImage, v0_before, v0_up, v0_down, v0_beneath, v0_numberUp, v0_numberDown, v0_block, v0_blocks, v0_merged, v0_valueUp, v0_valueDown, v0_said, v0_saids, v0_at, v0_number) p1) (fun u => wX10 a0 g v0_papers v0_raw v0_kind v0_figure v0_heavy v0_place v0_rules v0_lower v0_upper v0_limits v0_limit v0_ties v0_letter v0_letters v0_told v0_tolds v0_places v0_cell v0_refusals v0_imaged v0_hasImage v0_before v0_up v0_down v0_beneath u.1 u.2.1 u.2.2.1 u.2.2.2.1 u.2.2.2.2 v0_valueUp v0_valueDown v0_said v0_saids v0_at v0_number) A) [.ref (a0 0), .int p1].toArray s 0 0 A) (F0 m 52 ls [])) (E := fun r15 => ∀ (H : Heap) (locs : List Loc) (ls : Array Slot), va_P g.1 vwCl (wX10 a0 g v0_papers v0_raw v0_kind v0_figure v0_heavy v0_place v0_rules v0_lower v0_upper v0_limits v0_limit v0_ties v0_letter v0_letters v0_told v0_tolds v0_places v0_cell v0_refusals v0_imaged v0_hasImage v0_before v0_up v0_down v0_beneath x8 x9 r15 (x11 - (1 : Int32)) x12 v0_valueUp v0_valueDown v0_said v0_saids v0_at v0_number) H → va_D A (wX10 a0 g v0_papers v0_raw v0_kind v0_figure v0_heavy v0_place v0_rules v0_lower v0_upper v0_limits v0_limit v0_ties v0_letter v0_letters v0_told v0_tolds v0_places v0_cell v0_refusals v0_imaged v0_hasImage v0_before v0_up v0_down v0_beneath x8 x9 r15 (x11 - (1 : Int32)) x12 v0_valueUp v0_valueDown v0_said v0_saids v0_at v0_number) → va_S A s.heap H locs → lv_has ls 4 [(0, .ref (a0 0)), (1, .int p1)] → W p l e { frames := 7, cells := 0, slots := 0, locals := 162 } s m [.ref (a0 0), .int p1].toArray below meth c H locs 0 0 (MQ below (Qv g (m_X10_lines (v0_papers, v0_raw, v0_kind, v0_figure, v0_heavy, v0_place, v0_rules, v0_lower, v0_upper, v0_limits, v0_limit, v0_ties, v0_letter, v0_letters, v0_told, v0_tolds, v0_places, v0_cell, v0_refusals, v0_imaged, v0_hasImage, v0_before, v0_up, v0_down, v0_beneath, v0_numberUp, v0_numberDown, v0_block, v0_blocks, v0_merged, v0_valueUp, v0_valueDown, v0_said, v0_saids, v0_at, v0_number) p1) (fun u => wX10 a0 g v0_papers v0_raw v0_kind v0_figure v0_heavy v0_place v0_rules v0_lower v0_upper v0_limits v0_limit v0_ties v0_letter v0_letters v0_told v0_tolds v0_places v0_cell v0_refusals v0_imaged v0_hasImage v0_before v0_up v0_down v0_beneath u.1 u.2.1 u.2.2.1 u.2.2.2.1 u.2.2.2.2 v0_valueUp v0_valueDown v0_said v0_saids v0_at v0_number) A) [.ref (a0 0), .int p1].toArray s 0 0 A) (F0 m 80 ls [])) ?_ fu _ r15 er15 ?_ _ _ _ hP hD hS (lv_sub hl [1, 2, 0] rfl)
    · rintro ⟨x13, x14⟩ y hf hB hXt H locs ls hP hD hS hl
      have hP : va_P g.1 vwCl (wX10 a0 g v0_papers v0_raw v0_kind v0_figure v0_heavy v0_place v0_rules v0_lower v0_upper v0_limits v0_limit v0_ties v0_letter v0_letters v0_told v0_tolds v0_places v0_cell v0_refusals v0_imaged v0_hasImage v0_before v0_up v0_down v0_beneath x8 x9 x14 (x11 - (1 : Int32)) x12 v0_valueUp v0_valueDown v0_said v0_saids v0_at v0_number) H := hP
      have hD : va_D A (wX10 a0 g v0_papers v0_raw v0_kind v0_figure v0_heavy v0_place v0_rules v0_lower v0_upper v0_limits v0_limit v0_ties v0_letter v0_letters v0_told v0_tolds v0_places v0_cell v0_refusals v0_imaged v0_hasImage v0_before v0_up v0_down v0_beneath x8 x9 x14 (x11 - (1 : Int32)) x12 v0_valueUp v0_valueDown v0_said v0_saids v0_at v0_number) := hD
      have hl : lv_has ls 4 [(0, .ref (a0 0)), (1, .int p1), (3, .int x13)] := hl
      have hf : m_X10_lines_l52_2 x11 x13 x14 = some y := hf
      unfold m_X10_lines_l52_2 at hf
      refine lv_iload_n hx hb dX10_lines_52 rfl (lv_at hl 2 rfl) ?_
      refine lv_aload_n hx hb dX10_lines_53 rfl (lv_at hl 0 rfl) ?_
      refine va_get (D := g.1) (ci := 11) (v := .int (x11 - (1 : Int32))) (C := RX10) (T := TX10) (N := 36) hx hb hts layX10 hown hK.1 hP 0 rfl rfl 28 (by decide) (hts _ kw1305) (fun _ h9 => h9) rfl dX10_lines_54 ?_
      refine lv_icmp_ge (tgt := 80) hx hb dX10_lines_57 (by decide) (fun cb => ?_) (fun cb => ?_)
      · have hf := it_t cb hf
        exact hXt _ (Option.some.inj hf).symm _ _ _ hP hD hS (lv_sub hl [0, 1] rfl)
      have hf := it_f cb hf
      refine lv_aload_n hx hb dX10_lines_60 rfl (lv_at hl 0 rfl) ?_
      refine va_get (D := g.1) (ci := 11) (v := .ref (a0 17)) (C := RX10) (T := TX10) (N := 36) hx hb hts layX10 hown hK.1 hP 0 rfl rfl 27 (by decide) (hts _ kw1304) (fun _ h9 => h9) rfl dX10_lines_61 ?_
      refine lv_iload_n hx hb dX10_lines_64 rfl (lv_at hl 2 rfl) ?_
      refine lv_aload_n hx hb dX10_lines_65 rfl (lv_at hl 0 rfl) ?_
      refine va_get (D := g.1) (ci := 11) (v := .ref (a0 17)) (C := RX10) (T := TX10) (N := 36) hx hb hts layX10 hown hK.1 hP 0 rfl rfl 27 (by decide) (hts _ kw1304) (fun _ h9 => h9) rfl dX10_lines_66 ?_
      refine lv_iload_n hx hb dX10_lines_69 rfl (lv_at hl 2 rfl) ?_
      refine lv_iconst (v := 1) hx hb dX10_lines_70 (by decide) ?_
      refine lv_iadd hx hb dX10_lines_71 ?_
      have hi := it_n hf
      have hf := it_t hi hf
      refine va_iald hx hb hK.1 hP 17 0 rfl rfl (inb_in hi) dX10_lines_72 ?_
      have hi := it_n hf
      have hf := it_t hi hf
      refine va_iast hx hb hK.1 hP hD hS 17 0 rfl rfl (inb_in hi) dX10_lines_73 (fun H locs hP hD hS => ?_)
      have hP : va_P g.1 vwCl (wX10 a0 g v0_papers v0_raw v0_kind v0_figure v0_heavy v0_place v0_rules v0_lower v0_upper v0_limits v0_limit v0_ties v0_letter v0_letters v0_told v0_tolds v0_places v0_cell v0_refusals v0_imaged v0_hasImage v0_before v0_up v0_down v0_beneath x8 x9 (upd x14 x13.toNatClampNeg (x14 (x13 + (1 : Int32)).toNatClampNeg)) (x11 - (1 : Int32)) x12 v0_valueUp v0_valueDown v0_said v0_saids v0_at v0_number) H := hP
      have hD : va_D A (wX10 a0 g v0_papers v0_raw v0_kind v0_figure v0_heavy v0_place v0_rules v0_lower v0_upper v0_limits v0_limit v0_ties v0_letter v0_letters v0_told v0_tolds v0_places v0_cell v0_refusals v0_imaged v0_hasImage v0_before v0_up v0_down v0_beneath x8 x9 (upd x14 x13.toNatClampNeg (x14 (x13 + (1 : Int32)).toNatClampNeg)) (x11 - (1 : Int32)) x12 v0_valueUp v0_valueDown v0_said v0_saids v0_at v0_number) := hD
      refine lv_iinc (v := (x13 + 1)) (lv' := [(3, .int (x13 + 1)), (0, .ref (a0 0)), (1, .int p1)]) hx hb dX10_lines_74 hl (k := 2) rfl (by rfl) (by decide) rfl (fun ls hl => ?_)
      refine lv_goto (tgt := 52) hx hb dX10_lines_77 (by decide) ?_
      exact hB _ (Option.some.inj hf).symm _ _ _ hP hD hS (lv_sub hl [1, 2, 0] rfl)
    intro H locs ls hP hD hS hl
    have hP : va_P g.1 vwCl (wX10 a0 g v0_papers v0_raw v0_kind v0_figure v0_heavy v0_place v0_rules v0_lower v0_upper v0_limits v0_limit v0_ties v0_letter v0_letters v0_told v0_tolds v0_places v0_cell v0_refusals v0_imaged v0_hasImage v0_before v0_up v0_down v0_beneath x8 x9 r15 (x11 - (1 : Int32)) x12 v0_valueUp v0_valueDown v0_said v0_saids v0_at v0_number) H := hP
    have hD : va_D A (wX10 a0 g v0_papers v0_raw v0_kind v0_figure v0_heavy v0_place v0_rules v0_lower v0_upper v0_limits v0_limit v0_ties v0_letter v0_letters v0_told v0_tolds v0_places v0_cell v0_refusals v0_imaged v0_hasImage v0_before v0_up v0_down v0_beneath x8 x9 r15 (x11 - (1 : Int32)) x12 v0_valueUp v0_valueDown v0_said v0_saids v0_at v0_number) := hD
    have hl : lv_has ls 4 [(0, .ref (a0 0)), (1, .int p1)] := hl
    refine lv_aload_n hx hb dX10_lines_80 rfl (lv_at hl 0 rfl) ?_
    refine lv_dup hx hb dX10_lines_81 rfl ?_
    refine va_get (D := g.1) (ci := 11) (v := .int x12) (C := RX10) (T := TX10) (N := 36) hx hb hts layX10 hown hK.1 hP 0 rfl rfl 29 (by decide) (hts _ kw1306) (fun _ h9 => h9) rfl dX10_lines_82 ?_
    refine lv_iconst (v := 1) hx hb dX10_lines_85 (by decide) ?_
    refine lv_iadd hx hb dX10_lines_86 ?_
    refine va_put (D := g.1) (ci := 11) (v := .int (x12 + (1 : Int32))) (ty := .int) (C := RX10) (T := TX10) (N := 36) hx hb hts layX10 tyX10 tyX10_ok nmX10 hown hK.1 hP hD hS 0 rfl rfl 29 (by decide) (hts _ kw1306) (fun _ h9 => h9) rfl (tyX10_ok 29 (by decide)) rfl rfl (Nat.le_of_ble_eq_true rfl) dX10_lines_87 (fun H locs hP hD hS => ?_)
    have hP : va_P g.1 vwCl (wX10 a0 g v0_papers v0_raw v0_kind v0_figure v0_heavy v0_place v0_rules v0_lower v0_upper v0_limits v0_limit v0_ties v0_letter v0_letters v0_told v0_tolds v0_places v0_cell v0_refusals v0_imaged v0_hasImage v0_before v0_up v0_down v0_beneath x8 x9 r15 (x11 - (1 : Int32)) (x12 + (1 : Int32)) v0_valueUp v0_valueDown v0_said v0_saids v0_at v0_number) H := hP
    have hD : va_D A (wX10 a0 g v0_papers v0_raw v0_kind v0_figure v0_heavy v0_place v0_rules v0_lower v0_upper v0_limits v0_limit v0_ties v0_letter v0_letters v0_told v0_tolds v0_places v0_cell v0_refusals v0_imaged v0_hasImage v0_before v0_up v0_down v0_beneath x8 x9 r15 (x11 - (1 : Int32)) (x12 + (1 : Int32)) v0_valueUp v0_valueDown v0_said v0_saids v0_at v0_number) := hD
    refine lv_aload_n hx hb dX10_lines_90 rfl (lv_at hl 0 rfl) ?_
    refine lv_iload_n hx hb dX10_lines_91 rfl (lv_at hl 1 rfl) ?_
    refine cI hP hD hS hA hE (fun hPc hDc hSc => rV (As := [.int p1]) (rest := []) hx hb hml hown hts hK (c_X10_firstWrong l g a0 v0_papers v0_raw v0_kind v0_figure v0_heavy v0_place v0_rules v0_lower v0_upper v0_limits v0_limit v0_ties v0_letter v0_letters v0_told v0_tolds v0_places v0_cell v0_refusals v0_imaged v0_hasImage v0_before v0_up v0_down v0_beneath x8 x9 r15 (x11 - (1 : Int32)) (x12 + (1 : Int32)) v0_valueUp v0_valueDown v0_said v0_saids v0_at v0_number p1 (bnd_ne hf)) svV_X10_firstWrong kw1486 rfl rfl hPc hDc hSc rfl rfl hl.1 (Nat.le_of_ble_eq_true rfl) dX10_lines_92 ⟨Nat.le_of_ble_eq_true rfl, Nat.le_of_ble_eq_true rfl, rfl, rfl, Nat.le_of_ble_eq_true rfl, Nat.le_of_ble_eq_true rfl⟩) [(0, 22)] rfl rfl rfl (fun _ => rfl) (fun x16 H locs ex16 nx16 hP hD hS => ?_)
    have hf := bnd_of hf ex16
    have hP : va_P g.1 vwCl (wX10 a0 g v0_papers v0_raw v0_kind v0_figure v0_heavy v0_place v0_rules v0_lower v0_upper v0_limits v0_limit v0_ties v0_letter v0_letters v0_told v0_tolds v0_places v0_cell v0_refusals v0_imaged v0_hasImage v0_before v0_up v0_down v0_beneath x16.2.1 x16.2.2 r15 (x11 - (1 : Int32)) (x12 + (1 : Int32)) v0_valueUp v0_valueDown v0_said v0_saids v0_at v0_number) H := hP
    have hD : va_D A (wX10 a0 g v0_papers v0_raw v0_kind v0_figure v0_heavy v0_place v0_rules v0_lower v0_upper v0_limits v0_limit v0_ties v0_letter v0_letters v0_told v0_tolds v0_places v0_cell v0_refusals v0_imaged v0_hasImage v0_before v0_up v0_down v0_beneath x16.2.1 x16.2.2 r15 (x11 - (1 : Int32)) (x12 + (1 : Int32)) v0_valueUp v0_valueDown v0_said v0_saids v0_at v0_number) := hD
    refine lv_istore_n (lv' := [(2, .int x16.1), (0, .ref (a0 0)), (1, .int p1)]) hx hb dX10_lines_95 rfl hl (by decide) rfl (fun ls hl => ?_)
    refine lv_goto (tgt := 15) hx hb dX10_lines_96 (by decide) ?_
    exact hB _ (Option.some.inj hf).symm _ _ _ hP hD hS (lv_sub hl [1, 2, 0] rfl)
  intro H locs ls hP hD hS hl
  have hP : va_P g.1 vwCl (wX10 a0 g v0_papers v0_raw v0_kind v0_figure v0_heavy v0_place v0_rules v0_lower v0_upper v0_limits v0_limit v0_ties v0_letter v0_letters v0_told v0_tolds v0_places v0_cell v0_refusals v0_imaged v0_hasImage v0_before v0_up v0_down v0_beneath r17.1 r17.2.1 r17.2.2.1 r17.2.2.2.1 r17.2.2.2.2 v0_valueUp v0_valueDown v0_said v0_saids v0_at v0_number) H := hP
  have hD : va_D A (wX10 a0 g v0_papers v0_raw v0_kind v0_figure v0_heavy v0_place v0_rules v0_lower v0_upper v0_limits v0_limit v0_ties v0_letter v0_letters v0_told v0_tolds v0_places v0_cell v0_refusals v0_imaged v0_hasImage v0_before v0_up v0_down v0_beneath r17.1 r17.2.1 r17.2.2.1 r17.2.2.2.1 r17.2.2.2.2 v0_valueUp v0_valueDown v0_said v0_saids v0_at v0_number) := hD
  have hl : lv_has ls 4 [] := hl
  exact retV (u := (r17.1, r17.2.1, r17.2.2.1, r17.2.2.2.1, r17.2.2.2.2)) (W1 := fun u => wX10 a0 g v0_papers v0_raw v0_kind v0_figure v0_heavy v0_place v0_rules v0_lower v0_upper v0_limits v0_limit v0_ties v0_letter v0_letters v0_told v0_tolds v0_places v0_cell v0_refusals v0_imaged v0_hasImage v0_before v0_up v0_down v0_beneath u.1 u.2.1 u.2.2.1 u.2.2.2.1 u.2.2.2.2 v0_valueUp v0_valueDown v0_said v0_saids v0_at v0_number) hx hb hr hlocks hS hP hD (hf0.trans hf.symm) dX10_lines_99
set_option maxHeartbeats 4000000 in
set_option maxRecDepth 100000 in
theorem c_X10_blockOf (l : Launch) (g : GG) (a0 : Nat → Nat) (v0_papers : Int32) (v0_raw : (Nat → Int32)) (v0_kind : (Nat → Int32)) (v0_figure : (Nat → Int32)) (v0_heavy : (Nat → Int32)) (v0_place : (Nat → Int32)) (v0_rules : Int32) (v0_lower : (Nat → Int32)) (v0_upper : (Nat → Int32)) (v0_limits : Int32) (v0_limit : (Nat → Int32)) (v0_ties : Int32) (v0_letter : (Nat → Int32)) (v0_letters : Int32) (v0_told : (Nat → Int32)) (v0_tolds : Int32) (v0_places : (Nat → Int32)) (v0_cell : (Nat → Int64)) (v0_refusals : (Nat → Int32)) (v0_imaged : (Nat → Int32)) (v0_hasImage : Int32) (v0_before : (Nat → Int32)) (v0_up : Int64) (v0_down : Int64) (v0_beneath : (Nat → Int32)) (v0_numberUp : Int32) (v0_numberDown : Int32) (v0_block : (Nat → Int32)) (v0_blocks : Int32) (v0_merged : Int32) (v0_valueUp : (Nat → Int32)) (v0_valueDown : (Nat → Int32)) (v0_said : (Nat → Int32)) (v0_saids : Int32) (v0_at : Int32) (v0_number : (Nat → Int32)) (p1 : Int32) (hne : (m_X10_blockOf (v0_papers, v0_raw, v0_kind, v0_figure, v0_heavy, v0_place, v0_rules, v0_lower, v0_upper, v0_limits, v0_limit, v0_ties, v0_letter, v0_letters, v0_told, v0_tolds, v0_places, v0_cell, v0_refusals, v0_imaged, v0_hasImage, v0_before, v0_up, v0_down, v0_beneath, v0_numberUp, v0_numberDown, v0_block, v0_blocks, v0_merged, v0_valueUp, v0_valueDown, v0_said, v0_saids, v0_at, v0_number) p1) ≠ none) : Ct l g yX10_blockOf cX10_blockOf 3 (some .int) ({ frames := 1, cells := 0, slots := 0, locals := 21 } : Room) [.ref (a0 0), .int p1] (wX10 a0 g v0_papers v0_raw v0_kind v0_figure v0_heavy v0_place v0_rules v0_lower v0_upper v0_limits v0_limit v0_ties v0_letter v0_letters v0_told v0_tolds v0_places v0_cell v0_refusals v0_imaged v0_hasImage v0_before v0_up v0_down v0_beneath v0_numberUp v0_numberDown v0_block v0_blocks v0_merged v0_valueUp v0_valueDown v0_said v0_saids v0_at v0_number) (Qi g .int (m_X10_blockOf (v0_papers, v0_raw, v0_kind, v0_figure, v0_heavy, v0_place, v0_rules, v0_lower, v0_upper, v0_limits, v0_limit, v0_ties, v0_letter, v0_letters, v0_told, v0_tolds, v0_places, v0_cell, v0_refusals, v0_imaged, v0_hasImage, v0_before, v0_up, v0_down, v0_beneath, v0_numberUp, v0_numberDown, v0_block, v0_blocks, v0_merged, v0_valueUp, v0_valueDown, v0_said, v0_saids, v0_at, v0_number) p1) (fun u => u) (fun u => wX10 a0 g v0_papers v0_raw v0_kind v0_figure v0_heavy v0_place v0_rules v0_lower v0_upper v0_limits v0_limit v0_ties v0_letter v0_letters v0_told v0_tolds v0_places v0_cell v0_refusals v0_imaged v0_hasImage v0_before v0_up v0_down v0_beneath v0_numberUp v0_numberDown v0_block v0_blocks v0_merged v0_valueUp v0_valueDown v0_said v0_saids v0_at v0_number)) 0 0 := by
  obtain ⟨out, hf⟩ := ne_ex hne
  have hf0 := hf
  refine Ct.of (own := RX10) (by decide +kernel) rfl (Nat.le_of_ble_eq_true rfl) ?_
  intro p e s m below meth c hx hb hr hml hown hts hlocks hin hK A H locs hA hP hD hS hE ls hl
  have hl : lv_has ls 3 [(0, .ref (a0 0)), (1, .int p1)] := hl
  unfold m_X10_blockOf at hf
  refine lv_iconst (v := 0) hx hb dX10_blockOf_0 (by decide) ?_
  refine lv_istore_n (lv' := [(2, .int (0 : Int32)), (0, .ref (a0 0)), (1, .int p1)]) hx hb dX10_blockOf_1 rfl hl (by decide) rfl (fun ls hl => ?_)
  obtain ⟨r4, er4, hf⟩ := bnd hf
  refine lp_W (P := fun z => ∀ (H : Heap) (locs : List Loc) (ls : Array Slot), va_P g.1 vwCl (wX10 a0 g v0_papers v0_raw v0_kind v0_figure v0_heavy v0_place v0_rules v0_lower v0_upper v0_limits v0_limit v0_ties v0_letter v0_letters v0_told v0_tolds v0_places v0_cell v0_refusals v0_imaged v0_hasImage v0_before v0_up v0_down v0_beneath v0_numberUp v0_numberDown v0_block v0_blocks v0_merged v0_valueUp v0_valueDown v0_said v0_saids v0_at v0_number) H → va_D A (wX10 a0 g v0_papers v0_raw v0_kind v0_figure v0_heavy v0_place v0_rules v0_lower v0_upper v0_limits v0_limit v0_ties v0_letter v0_letters v0_told v0_tolds v0_places v0_cell v0_refusals v0_imaged v0_hasImage v0_before v0_up v0_down v0_beneath v0_numberUp v0_numberDown v0_block v0_blocks v0_merged v0_valueUp v0_valueDown v0_said v0_saids v0_at v0_number) → va_S A s.heap H locs → lv_has ls 3 [(0, .ref (a0 0)), (1, .int p1), (2, .int z)] → W p l e { frames := 1, cells := 0, slots := 0, locals := 21 } s m [.ref (a0 0), .int p1].toArray below meth c H locs 0 0 (MQ below (Qi g .int (m_X10_blockOf (v0_papers, v0_raw, v0_kind, v0_figure, v0_heavy, v0_place, v0_rules, v0_lower, v0_upper, v0_limits, v0_limit, v0_ties, v0_letter, v0_letters, v0_told, v0_tolds, v0_places, v0_cell, v0_refusals, v0_imaged, v0_hasImage, v0_before, v0_up, v0_down, v0_beneath, v0_numberUp, v0_numberDown, v0_block, v0_blocks, v0_merged, v0_valueUp, v0_valueDown, v0_said, v0_saids, v0_at, v0_number) p1) (fun u => u) (fun u => wX10 a0 g v0_papers v0_raw v0_kind v0_figure v0_heavy v0_place v0_rules v0_lower v0_upper v0_limits v0_limit v0_ties v0_letter v0_letters v0_told v0_tolds v0_places v0_cell v0_refusals v0_imaged v0_hasImage v0_before v0_up v0_down v0_beneath v0_numberUp v0_numberDown v0_block v0_blocks v0_merged v0_valueUp v0_valueDown v0_said v0_saids v0_at v0_number) A) [.ref (a0 0), .int p1].toArray s 0 0 A) (F0 m 2 ls [])) (E := fun r4 => ∀ (H : Heap) (locs : List Loc) (ls : Array Slot), va_P g.1 vwCl (wX10 a0 g v0_papers v0_raw v0_kind v0_figure v0_heavy v0_place v0_rules v0_lower v0_upper v0_limits v0_limit v0_ties v0_letter v0_letters v0_told v0_tolds v0_places v0_cell v0_refusals v0_imaged v0_hasImage v0_before v0_up v0_down v0_beneath v0_numberUp v0_numberDown v0_block v0_blocks v0_merged v0_valueUp v0_valueDown v0_said v0_saids v0_at v0_number) H → va_D A (wX10 a0 g v0_papers v0_raw v0_kind v0_figure v0_heavy v0_place v0_rules v0_lower v0_upper v0_limits v0_limit v0_ties v0_letter v0_letters v0_told v0_tolds v0_places v0_cell v0_refusals v0_imaged v0_hasImage v0_before v0_up v0_down v0_beneath v0_numberUp v0_numberDown v0_block v0_blocks v0_merged v0_valueUp v0_valueDown v0_said v0_saids v0_at v0_number) → va_S A s.heap H locs → lv_has ls 3 [(0, .ref (a0 0)), (2, .int r4)] → W p l e { frames := 1, cells := 0, slots := 0, locals := 21 } s m [.ref (a0 0), .int p1].toArray below meth c H locs 0 0 (MQ below (Qi g .int (m_X10_blockOf (v0_papers, v0_raw, v0_kind, v0_figure, v0_heavy, v0_place, v0_rules, v0_lower, v0_upper, v0_limits, v0_limit, v0_ties, v0_letter, v0_letters, v0_told, v0_tolds, v0_places, v0_cell, v0_refusals, v0_imaged, v0_hasImage, v0_before, v0_up, v0_down, v0_beneath, v0_numberUp, v0_numberDown, v0_block, v0_blocks, v0_merged, v0_valueUp, v0_valueDown, v0_said, v0_saids, v0_at, v0_number) p1) (fun u => u) (fun u => wX10 a0 g v0_papers v0_raw v0_kind v0_figure v0_heavy v0_place v0_rules v0_lower v0_upper v0_limits v0_limit v0_ties v0_letter v0_letters v0_told v0_tolds v0_places v0_cell v0_refusals v0_imaged v0_hasImage v0_before v0_up v0_down v0_beneath v0_numberUp v0_numberDown v0_block v0_blocks v0_merged v0_valueUp v0_valueDown v0_said v0_saids v0_at v0_number) A) [.ref (a0 0), .int p1].toArray s 0 0 A) (F0 m 21 ls [])) ?_ fu _ r4 er4 ?_ _ _ _ hP hD hS (lv_sub hl [1, 2, 0] rfl)
  · rintro x2 y hf hB hXt H locs ls hP hD hS hl
    have hP : va_P g.1 vwCl (wX10 a0 g v0_papers v0_raw v0_kind v0_figure v0_heavy v0_place v0_rules v0_lower v0_upper v0_limits v0_limit v0_ties v0_letter v0_letters v0_told v0_tolds v0_places v0_cell v0_refusals v0_imaged v0_hasImage v0_before v0_up v0_down v0_beneath v0_numberUp v0_numberDown v0_block v0_blocks v0_merged v0_valueUp v0_valueDown v0_said v0_saids v0_at v0_number) H := hP
    have hD : va_D A (wX10 a0 g v0_papers v0_raw v0_kind v0_figure v0_heavy v0_place v0_rules v0_lower v0_upper v0_limits v0_limit v0_ties v0_letter v0_letters v0_told v0_tolds v0_places v0_cell v0_refusals v0_imaged v0_hasImage v0_before v0_up v0_down v0_beneath v0_numberUp v0_numberDown v0_block v0_blocks v0_merged v0_valueUp v0_valueDown v0_said v0_saids v0_at v0_number) := hD
    have hl : lv_has ls 3 [(0, .ref (a0 0)), (1, .int p1), (2, .int x2)] := hl
    have hf : m_X10_blockOf_l2 (v0_papers, v0_raw, v0_kind, v0_figure, v0_heavy, v0_place, v0_rules, v0_lower, v0_upper, v0_limits, v0_limit, v0_ties, v0_letter, v0_letters, v0_told, v0_tolds, v0_places, v0_cell, v0_refusals, v0_imaged, v0_hasImage, v0_before, v0_up, v0_down, v0_beneath, v0_numberUp, v0_numberDown, v0_block, v0_blocks, v0_merged, v0_valueUp, v0_valueDown, v0_said, v0_saids, v0_at, v0_number) p1 x2 = some y := hf
    unfold m_X10_blockOf_l2 at hf
    refine lv_aload_n hx hb dX10_blockOf_2 rfl (lv_at hl 0 rfl) ?_
    refine va_get (D := g.1) (ci := 11) (v := .ref (a0 17)) (C := RX10) (T := TX10) (N := 36) hx hb hts layX10 hown hK.1 hP 0 rfl rfl 27 (by decide) (hts _ kw1304) (fun _ h9 => h9) rfl dX10_blockOf_3 ?_
    refine lv_iload_n hx hb dX10_blockOf_6 rfl (lv_at hl 2 rfl) ?_
    have hi := it_n hf
    have hf := it_t hi hf
    refine va_iald hx hb hK.1 hP 17 0 rfl rfl (inb_in hi) dX10_blockOf_7 ?_
    refine lv_iload_n hx hb dX10_blockOf_8 rfl (lv_at hl 1 rfl) ?_
    refine cIp hP hD hS hA hE (fun hPc hDc hSc => rS (As := [.int (v0_block x2.toNatClampNeg), .int p1]) (rest := []) hx hb hml hown hts hK (c_X10_has l g (v0_block x2.toNatClampNeg) p1 (bnd_ne hf)) svS_X10_has kw1395 hPc hDc hSc rfl rfl hl.1 (Nat.le_of_ble_eq_true rfl) dX10_blockOf_9 ⟨Nat.le_of_ble_eq_true rfl, Nat.le_of_ble_eq_true rfl, rfl, rfl, Nat.le_of_ble_eq_true rfl, Nat.le_of_ble_eq_true rfl⟩) [] rfl rfl rfl (fun x3 H locs ex3 nx3 hP hS => ?_)
    have hf := bnd_of hf ex3
    refine lv_if_ne (tgt := 21) hx hb dX10_blockOf_12 (by decide) (fun cb => ?_) (fun cb => ?_)
    · have hf := it_f cb hf
      exact hXt _ (Option.some.inj hf).symm _ _ _ hP hD hS (lv_sub hl [0, 2] rfl)
    have hf := it_t cb hf
    refine lv_iinc (v := (x2 + 1)) (lv' := [(2, .int (x2 + 1)), (0, .ref (a0 0)), (1, .int p1)]) hx hb dX10_blockOf_15 hl (k := 2) rfl (by rfl) (by decide) rfl (fun ls hl => ?_)
    refine lv_goto (tgt := 2) hx hb dX10_blockOf_18 (by decide) ?_
    exact hB _ (Option.some.inj hf).symm _ _ _ hP hD hS (lv_sub hl [1, 2, 0] rfl)
  intro H locs ls hP hD hS hl
  have hP : va_P g.1 vwCl (wX10 a0 g v0_papers v0_raw v0_kind v0_figure v0_heavy v0_place v0_rules v0_lower v0_upper v0_limits v0_limit v0_ties v0_letter v0_letters v0_told v0_tolds v0_places v0_cell v0_refusals v0_imaged v0_hasImage v0_before v0_up v0_down v0_beneath v0_numberUp v0_numberDown v0_block v0_blocks v0_merged v0_valueUp v0_valueDown v0_said v0_saids v0_at v0_number) H := hP
  have hD : va_D A (wX10 a0 g v0_papers v0_raw v0_kind v0_figure v0_heavy v0_place v0_rules v0_lower v0_upper v0_limits v0_limit v0_ties v0_letter v0_letters v0_told v0_tolds v0_places v0_cell v0_refusals v0_imaged v0_hasImage v0_before v0_up v0_down v0_beneath v0_numberUp v0_numberDown v0_block v0_blocks v0_merged v0_valueUp v0_valueDown v0_said v0_saids v0_at v0_number) := hD
  have hl : lv_has ls 3 [(0, .ref (a0 0)), (2, .int r4)] := hl
  refine lv_aload_n hx hb dX10_blockOf_21 rfl (lv_at hl 0 rfl) ?_
  refine va_get (D := g.1) (ci := 11) (v := .ref (a0 17)) (C := RX10) (T := TX10) (N := 36) hx hb hts layX10 hown hK.1 hP 0 rfl rfl 27 (by decide) (hts _ kw1304) (fun _ h9 => h9) rfl dX10_blockOf_22 ?_
  refine lv_iload_n hx hb dX10_blockOf_25 rfl (lv_at hl 1 rfl) ?_
  have hi := it_n hf
  have hf := it_t hi hf
  refine va_iald hx hb hK.1 hP 17 0 rfl rfl (inb_in hi) dX10_blockOf_26 ?_
  exact retI (v := (v0_block r4.toNatClampNeg)) (u := (v0_block r4.toNatClampNeg)) (val := fun u => u) (W1 := fun u => wX10 a0 g v0_papers v0_raw v0_kind v0_figure v0_heavy v0_place v0_rules v0_lower v0_upper v0_limits v0_limit v0_ties v0_letter v0_letters v0_told v0_tolds v0_places v0_cell v0_refusals v0_imaged v0_hasImage v0_before v0_up v0_down v0_beneath v0_numberUp v0_numberDown v0_block v0_blocks v0_merged v0_valueUp v0_valueDown v0_said v0_saids v0_at v0_number) hx hb hr hlocks hS hP hD (hf0.trans hf.symm) rfl rfl dX10_blockOf_27
set_option maxHeartbeats 4000000 in
set_option maxRecDepth 100000 in
theorem c_X10_lineValue (l : Launch) (g : GG) (a0 : Nat → Nat) (v0_papers : Int32) (v0_raw : (Nat → Int32)) (v0_kind : (Nat → Int32)) (v0_figure : (Nat → Int32)) (v0_heavy : (Nat → Int32)) (v0_place : (Nat → Int32)) (v0_rules : Int32) (v0_lower : (Nat → Int32)) (v0_upper : (Nat → Int32)) (v0_limits : Int32) (v0_limit : (Nat → Int32)) (v0_ties : Int32) (v0_letter : (Nat → Int32)) (v0_letters : Int32) (v0_told : (Nat → Int32)) (v0_tolds : Int32) (v0_places : (Nat → Int32)) (v0_cell : (Nat → Int64)) (v0_refusals : (Nat → Int32)) (v0_imaged : (Nat → Int32)) (v0_hasImage : Int32) (v0_before : (Nat → Int32)) (v0_up : Int64) (v0_down : Int64) (v0_beneath : (Nat → Int32)) (v0_numberUp : Int32) (v0_numberDown : Int32) (v0_block : (Nat → Int32)) (v0_blocks : Int32) (v0_merged : Int32) (v0_valueUp : (Nat → Int32)) (v0_valueDown : (Nat → Int32)) (v0_said : (Nat → Int32)) (v0_saids : Int32) (v0_at : Int32) (v0_number : (Nat → Int32)) (p1 : Int32) (p2 : Int32) (hne : (m_X10_lineValue (v0_papers, v0_raw, v0_kind, v0_figure, v0_heavy, v0_place, v0_rules, v0_lower, v0_upper, v0_limits, v0_limit, v0_ties, v0_letter, v0_letters, v0_told, v0_tolds, v0_places, v0_cell, v0_refusals, v0_imaged, v0_hasImage, v0_before, v0_up, v0_down, v0_beneath, v0_numberUp, v0_numberDown, v0_block, v0_blocks, v0_merged, v0_valueUp, v0_valueDown, v0_said, v0_saids, v0_at, v0_number) p1 p2) ≠ none) : Ct l g yX10_lineValue cX10_lineValue 3 none ({ frames := 6, cells := 0, slots := 0, locals := 136 } : Room) [.ref (a0 0), .int p1, .int p2] (wX10 a0 g v0_papers v0_raw v0_kind v0_figure v0_heavy v0_place v0_rules v0_lower v0_upper v0_limits v0_limit v0_ties v0_letter v0_letters v0_told v0_tolds v0_places v0_cell v0_refusals v0_imaged v0_hasImage v0_before v0_up v0_down v0_beneath v0_numberUp v0_numberDown v0_block v0_blocks v0_merged v0_valueUp v0_valueDown v0_said v0_saids v0_at v0_number) (Qv g (m_X10_lineValue (v0_papers, v0_raw, v0_kind, v0_figure, v0_heavy, v0_place, v0_rules, v0_lower, v0_upper, v0_limits, v0_limit, v0_ties, v0_letter, v0_letters, v0_told, v0_tolds, v0_places, v0_cell, v0_refusals, v0_imaged, v0_hasImage, v0_before, v0_up, v0_down, v0_beneath, v0_numberUp, v0_numberDown, v0_block, v0_blocks, v0_merged, v0_valueUp, v0_valueDown, v0_said, v0_saids, v0_at, v0_number) p1 p2) (fun u => wX10 a0 g v0_papers v0_raw v0_kind v0_figure v0_heavy v0_place v0_rules v0_lower v0_upper v0_limits v0_limit v0_ties v0_letter v0_letters v0_told v0_tolds v0_places v0_cell v0_refusals v0_imaged v0_hasImage v0_before u.1 u.2.1 v0_beneath u.2.2.1 u.2.2.2 v0_block v0_blocks v0_merged v0_valueUp v0_valueDown v0_said v0_saids v0_at v0_number)) 0 0 := by
  obtain ⟨out, hf⟩ := ne_ex hne
  have hf0 := hf
  refine Ct.of (own := RX10) (by decide +kernel) rfl (Nat.le_of_ble_eq_true rfl) ?_
  intro p e s m below meth c hx hb hr hml hown hts hlocks hin hK A H locs hA hP hD hS hE ls hl
  have hl : lv_has ls 3 [(0, .ref (a0 0)), (1, .int p1), (2, .int p2)] := hl
  unfold m_X10_lineValue at hf
  refine lv_aload_n hx hb dX10_lineValue_0 rfl (lv_at hl 0 rfl) ?_
  refine lv_iload_n hx hb dX10_lineValue_1 rfl (lv_at hl 1 rfl) ?_
  refine lv_aload_n hx hb dX10_lineValue_2 rfl (lv_at hl 0 rfl) ?_
  refine lv_iload_n hx hb dX10_lineValue_3 rfl (lv_at hl 2 rfl) ?_
  refine cIp hP hD hS hA hE (fun hPc hDc hSc => rV (As := [.int p2]) (rest := [.int p1, .ref (a0 0)]) hx hb hml hown hts hK (c_X10_blockOf l g a0 v0_papers v0_raw v0_kind v0_figure v0_heavy v0_place v0_rules v0_lower v0_upper v0_limits v0_limit v0_ties v0_letter v0_letters v0_told v0_tolds v0_places v0_cell v0_refusals v0_imaged v0_hasImage v0_before v0_up v0_down v0_beneath v0_numberUp v0_numberDown v0_block v0_blocks v0_merged v0_valueUp v0_valueDown v0_said v0_saids v0_at v0_number p2 (bnd_ne hf)) svV_X10_blockOf kw1507 rfl rfl hPc hDc hSc rfl rfl hl.1 (Nat.le_of_ble_eq_true rfl) dX10_lineValue_4 ⟨Nat.le_of_ble_eq_true rfl, Nat.le_of_ble_eq_true rfl, rfl, rfl, Nat.le_of_ble_eq_true rfl, Nat.le_of_ble_eq_true rfl⟩) [(0, 22)] rfl rfl rfl (fun x1 H locs ex1 nx1 hP hS => ?_)
  have hf := bnd_of hf ex1
  refine cV hP hD hS hA hE (fun hPc hDc hSc => rV (As := [.int p1, .int x1]) (rest := []) hx hb hml hown hts hK (c_X10_number l g a0 v0_papers v0_raw v0_kind v0_figure v0_heavy v0_place v0_rules v0_lower v0_upper v0_limits v0_limit v0_ties v0_letter v0_letters v0_told v0_tolds v0_places v0_cell v0_refusals v0_imaged v0_hasImage v0_before v0_up v0_down v0_beneath v0_numberUp v0_numberDown v0_block v0_blocks v0_merged v0_valueUp v0_valueDown v0_said v0_saids v0_at v0_number p1 x1 (bnd_ne hf)) svV_X10_number kw1489 rfl rfl hPc hDc hSc rfl rfl hl.1 (Nat.le_of_ble_eq_true rfl) dX10_lineValue_7 ⟨Nat.le_of_ble_eq_true rfl, Nat.le_of_ble_eq_true rfl, rfl, rfl, Nat.le_of_ble_eq_true rfl, Nat.le_of_ble_eq_true rfl⟩) [(0, 22)] rfl rfl rfl (fun _ => rfl) (fun x2 H locs ex2 hP hD hS => ?_)
  have hf := bnd_of hf ex2
  have hP : va_P g.1 vwCl (wX10 a0 g v0_papers v0_raw v0_kind v0_figure v0_heavy v0_place v0_rules v0_lower v0_upper v0_limits v0_limit v0_ties v0_letter v0_letters v0_told v0_tolds v0_places v0_cell v0_refusals v0_imaged v0_hasImage v0_before v0_up v0_down v0_beneath x2.1 x2.2 v0_block v0_blocks v0_merged v0_valueUp v0_valueDown v0_said v0_saids v0_at v0_number) H := hP
  have hD : va_D A (wX10 a0 g v0_papers v0_raw v0_kind v0_figure v0_heavy v0_place v0_rules v0_lower v0_upper v0_limits v0_limit v0_ties v0_letter v0_letters v0_told v0_tolds v0_places v0_cell v0_refusals v0_imaged v0_hasImage v0_before v0_up v0_down v0_beneath x2.1 x2.2 v0_block v0_blocks v0_merged v0_valueUp v0_valueDown v0_said v0_saids v0_at v0_number) := hD
  refine lv_aload_n hx hb dX10_lineValue_10 rfl (lv_at hl 0 rfl) ?_
  refine lv_aload_n hx hb dX10_lineValue_11 rfl (lv_at hl 0 rfl) ?_
  refine va_get (D := g.1) (ci := 11) (v := .int x2.1) (C := RX10) (T := TX10) (N := 36) hx hb hts layX10 hown hK.1 hP 0 rfl rfl 25 (by decide) (hts _ kw1302) (fun _ h9 => h9) rfl dX10_lineValue_12 ?_
  refine lv_i2l (v := x2.1.toInt64) hx hb dX10_lineValue_15 rfl ?_
  refine lv_aload_n hx hb dX10_lineValue_16 rfl (lv_at hl 0 rfl) ?_
  refine va_get (D := g.1) (ci := 11) (v := .int x2.2) (C := RX10) (T := TX10) (N := 36) hx hb hts layX10 hown hK.1 hP 0 rfl rfl 26 (by decide) (hts _ kw1303) (fun _ h9 => h9) rfl dX10_lineValue_17 ?_
  refine lv_i2l (v := x2.2.toInt64) hx hb dX10_lineValue_20 rfl ?_
  refine cV hP hD hS hA hE (fun hPc hDc hSc => rV (As := [.long x2.1.toInt64, .long x2.2.toInt64]) (rest := []) hx hb hml hown hts hK (c_X10_fraction l g a0 v0_papers v0_raw v0_kind v0_figure v0_heavy v0_place v0_rules v0_lower v0_upper v0_limits v0_limit v0_ties v0_letter v0_letters v0_told v0_tolds v0_places v0_cell v0_refusals v0_imaged v0_hasImage v0_before v0_up v0_down v0_beneath x2.1 x2.2 v0_block v0_blocks v0_merged v0_valueUp v0_valueDown v0_said v0_saids v0_at v0_number x2.1.toInt64 x2.2.toInt64 (bnd_ne hf)) svV_X10_fraction kw1510 rfl rfl hPc hDc hSc rfl rfl hl.1 (Nat.le_of_ble_eq_true rfl) dX10_lineValue_21 ⟨Nat.le_of_ble_eq_true rfl, Nat.le_of_ble_eq_true rfl, rfl, rfl, Nat.le_of_ble_eq_true rfl, Nat.le_of_ble_eq_true rfl⟩) [(0, 22)] rfl rfl rfl (fun _ => rfl) (fun x3 H locs ex3 hP hD hS => ?_)
  have hf := bnd_of hf ex3
  have hP : va_P g.1 vwCl (wX10 a0 g v0_papers v0_raw v0_kind v0_figure v0_heavy v0_place v0_rules v0_lower v0_upper v0_limits v0_limit v0_ties v0_letter v0_letters v0_told v0_tolds v0_places v0_cell v0_refusals v0_imaged v0_hasImage v0_before x3.1 x3.2 v0_beneath x2.1 x2.2 v0_block v0_blocks v0_merged v0_valueUp v0_valueDown v0_said v0_saids v0_at v0_number) H := hP
  have hD : va_D A (wX10 a0 g v0_papers v0_raw v0_kind v0_figure v0_heavy v0_place v0_rules v0_lower v0_upper v0_limits v0_limit v0_ties v0_letter v0_letters v0_told v0_tolds v0_places v0_cell v0_refusals v0_imaged v0_hasImage v0_before x3.1 x3.2 v0_beneath x2.1 x2.2 v0_block v0_blocks v0_merged v0_valueUp v0_valueDown v0_said v0_saids v0_at v0_number) := hD
  refine lv_aload_n hx hb dX10_lineValue_24 rfl (lv_at hl 0 rfl) ?_
  refine va_get (D := g.1) (ci := 11) (v := .int v0_ties) (C := RX10) (T := TX10) (N := 36) hx hb hts layX10 hown hK.1 hP 0 rfl rfl 11 (by decide) (hts _ kw1288) (fun _ h9 => h9) rfl dX10_lineValue_25 ?_
  refine lv_iconst (v := 2) hx hb dX10_lineValue_28 (by decide) ?_
  refine lv_icmp_ne (tgt := 73) hx hb dX10_lineValue_29 (by decide) (fun cb => ?_) (fun cb => ?_)
  · have hf := it_f cb hf
    exact retV (u := (x3.1, x3.2, x2.1, x2.2)) (W1 := fun u => wX10 a0 g v0_papers v0_raw v0_kind v0_figure v0_heavy v0_place v0_rules v0_lower v0_upper v0_limits v0_limit v0_ties v0_letter v0_letters v0_told v0_tolds v0_places v0_cell v0_refusals v0_imaged v0_hasImage v0_before u.1 u.2.1 v0_beneath u.2.2.1 u.2.2.2 v0_block v0_blocks v0_merged v0_valueUp v0_valueDown v0_said v0_saids v0_at v0_number) hx hb hr hlocks hS hP hD (hf0.trans hf.symm) dX10_lineValue_73
  have hf := it_t cb hf
  refine lv_aload_n hx hb dX10_lineValue_32 rfl (lv_at hl 0 rfl) ?_
  refine lv_iload_n hx hb dX10_lineValue_33 rfl (lv_at hl 1 rfl) ?_
  refine lv_aload_n hx hb dX10_lineValue_34 rfl (lv_at hl 0 rfl) ?_
  refine lv_aload_n hx hb dX10_lineValue_35 rfl (lv_at hl 0 rfl) ?_
  refine va_get (D := g.1) (ci := 11) (v := .ref (a0 5)) (C := RX10) (T := TX10) (N := 36) hx hb hts layX10 hown hK.1 hP 0 rfl rfl 5 (by decide) (hts _ kw1282) (fun _ h9 => h9) rfl dX10_lineValue_36 ?_
  refine lv_iload_n hx hb dX10_lineValue_39 rfl (lv_at hl 2 rfl) ?_
  have hi := it_n hf
  have hf := it_t hi hf
  refine va_iald hx hb hK.1 hP 5 0 rfl rfl (inb_in hi) dX10_lineValue_40 ?_
  refine cIp hP hD hS hA hE (fun hPc hDc hSc => rV (As := [.int (v0_place p2.toNatClampNeg)]) (rest := [.int p1, .ref (a0 0)]) hx hb hml hown hts hK (c_X10_ofPlace l g a0 v0_papers v0_raw v0_kind v0_figure v0_heavy v0_place v0_rules v0_lower v0_upper v0_limits v0_limit v0_ties v0_letter v0_letters v0_told v0_tolds v0_places v0_cell v0_refusals v0_imaged v0_hasImage v0_before x3.1 x3.2 v0_beneath x2.1 x2.2 v0_block v0_blocks v0_merged v0_valueUp v0_valueDown v0_said v0_saids v0_at v0_number (v0_place p2.toNatClampNeg) (bnd_ne hf)) svV_X10_ofPlace kw1483 rfl rfl hPc hDc hSc rfl rfl hl.1 (Nat.le_of_ble_eq_true rfl) dX10_lineValue_41 ⟨Nat.le_of_ble_eq_true rfl, Nat.le_of_ble_eq_true rfl, rfl, rfl, Nat.le_of_ble_eq_true rfl, Nat.le_of_ble_eq_true rfl⟩) [(0, 22)] rfl rfl rfl (fun x4 H locs ex4 nx4 hP hS => ?_)
  have hf := bnd_of hf ex4
  refine cV hP hD hS hA hE (fun hPc hDc hSc => rV (As := [.int p1, .int x4]) (rest := []) hx hb hml hown hts hK (c_X10_number l g a0 v0_papers v0_raw v0_kind v0_figure v0_heavy v0_place v0_rules v0_lower v0_upper v0_limits v0_limit v0_ties v0_letter v0_letters v0_told v0_tolds v0_places v0_cell v0_refusals v0_imaged v0_hasImage v0_before x3.1 x3.2 v0_beneath x2.1 x2.2 v0_block v0_blocks v0_merged v0_valueUp v0_valueDown v0_said v0_saids v0_at v0_number p1 x4 (bnd_ne hf)) svV_X10_number kw1489 rfl rfl hPc hDc hSc rfl rfl hl.1 (Nat.le_of_ble_eq_true rfl) dX10_lineValue_44 ⟨Nat.le_of_ble_eq_true rfl, Nat.le_of_ble_eq_true rfl, rfl, rfl, Nat.le_of_ble_eq_true rfl, Nat.le_of_ble_eq_true rfl⟩) [(0, 22)] rfl rfl rfl (fun _ => rfl) (fun x5 H locs ex5 hP hD hS => ?_)
  have hf := bnd_of hf ex5
  have hP : va_P g.1 vwCl (wX10 a0 g v0_papers v0_raw v0_kind v0_figure v0_heavy v0_place v0_rules v0_lower v0_upper v0_limits v0_limit v0_ties v0_letter v0_letters v0_told v0_tolds v0_places v0_cell v0_refusals v0_imaged v0_hasImage v0_before x3.1 x3.2 v0_beneath x5.1 x5.2 v0_block v0_blocks v0_merged v0_valueUp v0_valueDown v0_said v0_saids v0_at v0_number) H := hP
  have hD : va_D A (wX10 a0 g v0_papers v0_raw v0_kind v0_figure v0_heavy v0_place v0_rules v0_lower v0_upper v0_limits v0_limit v0_ties v0_letter v0_letters v0_told v0_tolds v0_places v0_cell v0_refusals v0_imaged v0_hasImage v0_before x3.1 x3.2 v0_beneath x5.1 x5.2 v0_block v0_blocks v0_merged v0_valueUp v0_valueDown v0_said v0_saids v0_at v0_number) := hD
  refine lv_aload_n hx hb dX10_lineValue_47 rfl (lv_at hl 0 rfl) ?_
  refine lv_aload_n hx hb dX10_lineValue_48 rfl (lv_at hl 0 rfl) ?_
  refine va_get (D := g.1) (ci := 11) (v := .int x5.1) (C := RX10) (T := TX10) (N := 36) hx hb hts layX10 hown hK.1 hP 0 rfl rfl 25 (by decide) (hts _ kw1302) (fun _ h9 => h9) rfl dX10_lineValue_49 ?_
  refine lv_ineg hx hb dX10_lineValue_52 ?_
  refine lv_i2l (v := (-x5.1).toInt64) hx hb dX10_lineValue_53 rfl ?_
  refine lv_aload_n hx hb dX10_lineValue_54 rfl (lv_at hl 0 rfl) ?_
  refine va_get (D := g.1) (ci := 11) (v := .int x5.2) (C := RX10) (T := TX10) (N := 36) hx hb hts layX10 hown hK.1 hP 0 rfl rfl 26 (by decide) (hts _ kw1303) (fun _ h9 => h9) rfl dX10_lineValue_55 ?_
  refine lv_i2l (v := x5.2.toInt64) hx hb dX10_lineValue_58 rfl ?_
  refine cV hP hD hS hA hE (fun hPc hDc hSc => rV (As := [.long (-x5.1).toInt64, .long x5.2.toInt64]) (rest := []) hx hb hml hown hts hK (c_X10_add l g a0 v0_papers v0_raw v0_kind v0_figure v0_heavy v0_place v0_rules v0_lower v0_upper v0_limits v0_limit v0_ties v0_letter v0_letters v0_told v0_tolds v0_places v0_cell v0_refusals v0_imaged v0_hasImage v0_before x3.1 x3.2 v0_beneath x5.1 x5.2 v0_block v0_blocks v0_merged v0_valueUp v0_valueDown v0_said v0_saids v0_at v0_number (-x5.1).toInt64 x5.2.toInt64 (bnd_ne hf)) svV_X10_add kw1516 rfl rfl hPc hDc hSc rfl rfl hl.1 (Nat.le_of_ble_eq_true rfl) dX10_lineValue_59 ⟨Nat.le_of_ble_eq_true rfl, Nat.le_of_ble_eq_true rfl, rfl, rfl, Nat.le_of_ble_eq_true rfl, Nat.le_of_ble_eq_true rfl⟩) [(0, 22)] rfl rfl rfl (fun _ => rfl) (fun x6 H locs ex6 hP hD hS => ?_)
  have hf := bnd_of hf ex6
  have hP : va_P g.1 vwCl (wX10 a0 g v0_papers v0_raw v0_kind v0_figure v0_heavy v0_place v0_rules v0_lower v0_upper v0_limits v0_limit v0_ties v0_letter v0_letters v0_told v0_tolds v0_places v0_cell v0_refusals v0_imaged v0_hasImage v0_before x6.1 x6.2 v0_beneath x5.1 x5.2 v0_block v0_blocks v0_merged v0_valueUp v0_valueDown v0_said v0_saids v0_at v0_number) H := hP
  have hD : va_D A (wX10 a0 g v0_papers v0_raw v0_kind v0_figure v0_heavy v0_place v0_rules v0_lower v0_upper v0_limits v0_limit v0_ties v0_letter v0_letters v0_told v0_tolds v0_places v0_cell v0_refusals v0_imaged v0_hasImage v0_before x6.1 x6.2 v0_beneath x5.1 x5.2 v0_block v0_blocks v0_merged v0_valueUp v0_valueDown v0_said v0_saids v0_at v0_number) := hD
  refine lv_aload_n hx hb dX10_lineValue_62 rfl (lv_at hl 0 rfl) ?_
  refine lv_aload_n hx hb dX10_lineValue_63 rfl (lv_at hl 0 rfl) ?_
  refine lv_iload_n hx hb dX10_lineValue_64 rfl (lv_at hl 2 rfl) ?_
  refine cIp hP hD hS hA hE (fun hPc hDc hSc => rV (As := [.int p2]) (rest := [.ref (a0 0)]) hx hb hml hown hts hK (c_X10_mark l g a0 v0_papers v0_raw v0_kind v0_figure v0_heavy v0_place v0_rules v0_lower v0_upper v0_limits v0_limit v0_ties v0_letter v0_letters v0_told v0_tolds v0_places v0_cell v0_refusals v0_imaged v0_hasImage v0_before x6.1 x6.2 v0_beneath x5.1 x5.2 v0_block v0_blocks v0_merged v0_valueUp v0_valueDown v0_said v0_saids v0_at v0_number p2 (bnd_ne hf)) svV_X10_mark kw1421 rfl rfl hPc hDc hSc rfl rfl hl.1 (Nat.le_of_ble_eq_true rfl) dX10_lineValue_65 ⟨Nat.le_of_ble_eq_true rfl, Nat.le_of_ble_eq_true rfl, rfl, rfl, Nat.le_of_ble_eq_true rfl, Nat.le_of_ble_eq_true rfl⟩) [(0, 22)] rfl rfl rfl (fun x7 H locs ex7 nx7 hP hS => ?_)
  have hf := bnd_of hf ex7
  refine lv_i2l (v := x7.toInt64) hx hb dX10_lineValue_68 rfl ?_
  refine lv_lconst (v := 1) hx hb dX10_lineValue_69 (by decide) ?_
  refine cV hP hD hS hA hE (fun hPc hDc hSc => rV (As := [.long x7.toInt64, .long (1 : Int64)]) (rest := []) hx hb hml hown hts hK (c_X10_add l g a0 v0_papers v0_raw v0_kind v0_figure v0_heavy v0_place v0_rules v0_lower v0_upper v0_limits v0_limit v0_ties v0_letter v0_letters v0_told v0_tolds v0_places v0_cell v0_refusals v0_imaged v0_hasImage v0_before x6.1 x6.2 v0_beneath x5.1 x5.2 v0_block v0_blocks v0_merged v0_valueUp v0_valueDown v0_said v0_saids v0_at v0_number x7.toInt64 (1 : Int64) (bnd_ne hf)) svV_X10_add kw1516 rfl rfl hPc hDc hSc rfl rfl hl.1 (Nat.le_of_ble_eq_true rfl) dX10_lineValue_70 ⟨Nat.le_of_ble_eq_true rfl, Nat.le_of_ble_eq_true rfl, rfl, rfl, Nat.le_of_ble_eq_true rfl, Nat.le_of_ble_eq_true rfl⟩) [(0, 22)] rfl rfl rfl (fun _ => rfl) (fun x8 H locs ex8 hP hD hS => ?_)
  have hf := bnd_of hf ex8
  have hP : va_P g.1 vwCl (wX10 a0 g v0_papers v0_raw v0_kind v0_figure v0_heavy v0_place v0_rules v0_lower v0_upper v0_limits v0_limit v0_ties v0_letter v0_letters v0_told v0_tolds v0_places v0_cell v0_refusals v0_imaged v0_hasImage v0_before x8.1 x8.2 v0_beneath x5.1 x5.2 v0_block v0_blocks v0_merged v0_valueUp v0_valueDown v0_said v0_saids v0_at v0_number) H := hP
  have hD : va_D A (wX10 a0 g v0_papers v0_raw v0_kind v0_figure v0_heavy v0_place v0_rules v0_lower v0_upper v0_limits v0_limit v0_ties v0_letter v0_letters v0_told v0_tolds v0_places v0_cell v0_refusals v0_imaged v0_hasImage v0_before x8.1 x8.2 v0_beneath x5.1 x5.2 v0_block v0_blocks v0_merged v0_valueUp v0_valueDown v0_said v0_saids v0_at v0_number) := hD
  exact retV (u := (x8.1, x8.2, x5.1, x5.2)) (W1 := fun u => wX10 a0 g v0_papers v0_raw v0_kind v0_figure v0_heavy v0_place v0_rules v0_lower v0_upper v0_limits v0_limit v0_ties v0_letter v0_letters v0_told v0_tolds v0_places v0_cell v0_refusals v0_imaged v0_hasImage v0_before u.1 u.2.1 v0_beneath u.2.2.1 u.2.2.2 v0_block v0_blocks v0_merged v0_valueUp v0_valueDown v0_said v0_saids v0_at v0_number) hx hb hr hlocks hS hP hD (hf0.trans hf.symm) dX10_lineValue_73
set_option maxHeartbeats 4000000 in
set_option maxRecDepth 100000 in
theorem c_X10_line (l : Launch) (g : GG) (a0 : Nat → Nat) (v0_papers : Int32) (v0_raw : (Nat → Int32)) (v0_kind : (Nat → Int32)) (v0_figure : (Nat → Int32)) (v0_heavy : (Nat → Int32)) (v0_place : (Nat → Int32)) (v0_rules : Int32) (v0_lower : (Nat → Int32)) (v0_upper : (Nat → Int32)) (v0_limits : Int32) (v0_limit : (Nat → Int32)) (v0_ties : Int32) (v0_letter : (Nat → Int32)) (v0_letters : Int32) (v0_told : (Nat → Int32)) (v0_tolds : Int32) (v0_places : (Nat → Int32)) (v0_cell : (Nat → Int64)) (v0_refusals : (Nat → Int32)) (v0_imaged : (Nat → Int32)) (v0_hasImage : Int32) (v0_before : (Nat → Int32)) (v0_up : Int64) (v0_down : Int64) (v0_beneath : (Nat → Int32)) (v0_numberUp : Int32) (v0_numberDown : Int32) (v0_block : (Nat → Int32)) (v0_blocks : Int32) (v0_merged : Int32) (v0_valueUp : (Nat → Int32)) (v0_valueDown : (Nat → Int32)) (v0_said : (Nat → Int32)) (v0_saids : Int32) (v0_at : Int32) (v0_number : (Nat → Int32)) (p1 : Int32) (p2 : Int32) (p3 : Int32) (hne : (m_X10_line (v0_papers, v0_raw, v0_kind, v0_figure, v0_heavy, v0_place, v0_rules, v0_lower, v0_upper, v0_limits, v0_limit, v0_ties, v0_letter, v0_letters, v0_told, v0_tolds, v0_places, v0_cell, v0_refusals, v0_imaged, v0_hasImage, v0_before, v0_up, v0_down, v0_beneath, v0_numberUp, v0_numberDown, v0_block, v0_blocks, v0_merged, v0_valueUp, v0_valueDown, v0_said, v0_saids, v0_at, v0_number) p1 p2 p3) ≠ none) : Ct l g yX10_line cX10_line 4 (some .long) ({ frames := 8, cells := 0, slots := 0, locals := 185 } : Room) [.ref (a0 0), .int p1, .int p2, .int p3] (wX10 a0 g v0_papers v0_raw v0_kind v0_figure v0_heavy v0_place v0_rules v0_lower v0_upper v0_limits v0_limit v0_ties v0_letter v0_letters v0_told v0_tolds v0_places v0_cell v0_refusals v0_imaged v0_hasImage v0_before v0_up v0_down v0_beneath v0_numberUp v0_numberDown v0_block v0_blocks v0_merged v0_valueUp v0_valueDown v0_said v0_saids v0_at v0_number) (Ql g (m_X10_line (v0_papers, v0_raw, v0_kind, v0_figure, v0_heavy, v0_place, v0_rules, v0_lower, v0_upper, v0_limits, v0_limit, v0_ties, v0_letter, v0_letters, v0_told, v0_tolds, v0_places, v0_cell, v0_refusals, v0_imaged, v0_hasImage, v0_before, v0_up, v0_down, v0_beneath, v0_numberUp, v0_numberDown, v0_block, v0_blocks, v0_merged, v0_valueUp, v0_valueDown, v0_said, v0_saids, v0_at, v0_number) p1 p2 p3) (fun u => u.1) (fun u => wX10 a0 g v0_papers v0_raw v0_kind v0_figure v0_heavy v0_place v0_rules v0_lower v0_upper v0_limits v0_limit v0_ties v0_letter v0_letters v0_told v0_tolds v0_places v0_cell u.2.1 v0_imaged v0_hasImage v0_before u.2.2.1 u.2.2.2.1 v0_beneath u.2.2.2.2.1 u.2.2.2.2.2.1 u.2.2.2.2.2.2.1 u.2.2.2.2.2.2.2.1 u.2.2.2.2.2.2.2.2 v0_valueUp v0_valueDown v0_said v0_saids v0_at v0_number)) 0 0 := by
  obtain ⟨out, hf⟩ := ne_ex hne
  have hf0 := hf
  refine Ct.of (own := RX10) (by decide +kernel) rfl (Nat.le_of_ble_eq_true rfl) ?_
  intro p e s m below meth c hx hb hr hml hown hts hlocks hin hK A H locs hA hP hD hS hE ls hl
  have hl : lv_has ls 4 [(0, .ref (a0 0)), (1, .int p1), (2, .int p2), (3, .int p3)] := hl
  unfold m_X10_line at hf
  refine lv_iload_n hx hb dX10_line_0 rfl (lv_at hl 1 rfl) ?_
  refine cIp hP hD hS hA hE (fun hPc hDc hSc => rS (As := [.int p1]) (rest := []) hx hb hml hown hts hK (c_X10_isLine l g p1 (bnd_ne hf)) svS_X10_isLine kw1464 hPc hDc hSc rfl rfl hl.1 (Nat.le_of_ble_eq_true rfl) dX10_line_1 ⟨Nat.le_of_ble_eq_true rfl, Nat.le_of_ble_eq_true rfl, rfl, rfl, Nat.le_of_ble_eq_true rfl, Nat.le_of_ble_eq_true rfl⟩) [] rfl rfl rfl (fun x1 H locs ex1 nx1 hP hS => ?_)
  have hf := bnd_of hf ex1
  refine lv_if_ne (tgt := 14) hx hb dX10_line_4 (by decide) (fun cb => ?_) (fun cb => ?_)
  · have hf := it_f cb hf
    refine lv_aload_n hx hb dX10_line_14 rfl (lv_at hl 0 rfl) ?_
    refine lv_iload_n hx hb dX10_line_15 rfl (lv_at hl 2 rfl) ?_
    refine cIp hP hD hS hA hE (fun hPc hDc hSc => rV (As := [.int p2]) (rest := []) hx hb hml hown hts hK (c_X10_isPaper l g a0 v0_papers v0_raw v0_kind v0_figure v0_heavy v0_place v0_rules v0_lower v0_upper v0_limits v0_limit v0_ties v0_letter v0_letters v0_told v0_tolds v0_places v0_cell v0_refusals v0_imaged v0_hasImage v0_before v0_up v0_down v0_beneath v0_numberUp v0_numberDown v0_block v0_blocks v0_merged v0_valueUp v0_valueDown v0_said v0_saids v0_at v0_number p2 (bnd_ne hf)) svV_X10_isPaper kw1361 rfl rfl hPc hDc hSc rfl rfl hl.1 (Nat.le_of_ble_eq_true rfl) dX10_line_16 ⟨Nat.le_of_ble_eq_true rfl, Nat.le_of_ble_eq_true rfl, rfl, rfl, Nat.le_of_ble_eq_true rfl, Nat.le_of_ble_eq_true rfl⟩) [(0, 22)] rfl rfl rfl (fun x2 H locs ex2 nx2 hP hS => ?_)
    have hf := bnd_of hf ex2
    refine lv_if_ne (tgt := 28) hx hb dX10_line_19 (by decide) (fun cb => ?_) (fun cb => ?_)
    · have hf := it_f cb hf
      refine lv_iload_n hx hb dX10_line_28 rfl (lv_at hl 3 rfl) ?_
      refine cIp hP hD hS hA hE (fun hPc hDc hSc => rS (As := [.int p3]) (rest := []) hx hb hml hown hts hK (c_X10_isPart l g p3 (bnd_ne hf)) svS_X10_isPart kw1471 hPc hDc hSc rfl rfl hl.1 (Nat.le_of_ble_eq_true rfl) dX10_line_29 ⟨Nat.le_of_ble_eq_true rfl, Nat.le_of_ble_eq_true rfl, rfl, rfl, Nat.le_of_ble_eq_true rfl, Nat.le_of_ble_eq_true rfl⟩) [] rfl rfl rfl (fun x3 H locs ex3 nx3 hP hS => ?_)
      have hf := bnd_of hf ex3
      refine lv_if_ne (tgt := 42) hx hb dX10_line_32 (by decide) (fun cb => ?_) (fun cb => ?_)
      · have hf := it_f cb hf
        refine lv_aload_n hx hb dX10_line_42 rfl (lv_at hl 0 rfl) ?_
        refine lv_iload_n hx hb dX10_line_43 rfl (lv_at hl 1 rfl) ?_
        refine cV hP hD hS hA hE (fun hPc hDc hSc => rV (As := [.int p1]) (rest := []) hx hb hml hown hts hK (c_X10_lines l g a0 v0_papers v0_raw v0_kind v0_figure v0_heavy v0_place v0_rules v0_lower v0_upper v0_limits v0_limit v0_ties v0_letter v0_letters v0_told v0_tolds v0_places v0_cell v0_refusals v0_imaged v0_hasImage v0_before v0_up v0_down v0_beneath v0_numberUp v0_numberDown v0_block v0_blocks v0_merged v0_valueUp v0_valueDown v0_said v0_saids v0_at v0_number p1 (bnd_ne hf)) svV_X10_lines kw1474 rfl rfl hPc hDc hSc rfl rfl hl.1 (Nat.le_of_ble_eq_true rfl) dX10_line_44 ⟨Nat.le_of_ble_eq_true rfl, Nat.le_of_ble_eq_true rfl, rfl, rfl, Nat.le_of_ble_eq_true rfl, Nat.le_of_ble_eq_true rfl⟩) [(0, 22)] rfl rfl rfl (fun _ => rfl) (fun x4 H locs ex4 hP hD hS => ?_)
        have hf := bnd_of hf ex4
        have hP : va_P g.1 vwCl (wX10 a0 g v0_papers v0_raw v0_kind v0_figure v0_heavy v0_place v0_rules v0_lower v0_upper v0_limits v0_limit v0_ties v0_letter v0_letters v0_told v0_tolds v0_places v0_cell v0_refusals v0_imaged v0_hasImage v0_before v0_up v0_down v0_beneath x4.1 x4.2.1 x4.2.2.1 x4.2.2.2.1 x4.2.2.2.2 v0_valueUp v0_valueDown v0_said v0_saids v0_at v0_number) H := hP
        have hD : va_D A (wX10 a0 g v0_papers v0_raw v0_kind v0_figure v0_heavy v0_place v0_rules v0_lower v0_upper v0_limits v0_limit v0_ties v0_letter v0_letters v0_told v0_tolds v0_places v0_cell v0_refusals v0_imaged v0_hasImage v0_before v0_up v0_down v0_beneath x4.1 x4.2.1 x4.2.2.1 x4.2.2.2.1 x4.2.2.2.2 v0_valueUp v0_valueDown v0_said v0_saids v0_at v0_number) := hD
        refine lv_aload_n hx hb dX10_line_47 rfl (lv_at hl 0 rfl) ?_
        refine lv_iload_n hx hb dX10_line_48 rfl (lv_at hl 1 rfl) ?_
        refine lv_iload_n hx hb dX10_line_49 rfl (lv_at hl 2 rfl) ?_
        refine cV hP hD hS hA hE (fun hPc hDc hSc => rV (As := [.int p1, .int p2]) (rest := []) hx hb hml hown hts hK (c_X10_lineValue l g a0 v0_papers v0_raw v0_kind v0_figure v0_heavy v0_place v0_rules v0_lower v0_upper v0_limits v0_limit v0_ties v0_letter v0_letters v0_told v0_tolds v0_places v0_cell v0_refusals v0_imaged v0_hasImage v0_before v0_up v0_down v0_beneath x4.1 x4.2.1 x4.2.2.1 x4.2.2.2.1 x4.2.2.2.2 v0_valueUp v0_valueDown v0_said v0_saids v0_at v0_number p1 p2 (bnd_ne hf)) svV_X10_lineValue kw1504 rfl rfl hPc hDc hSc rfl rfl hl.1 (Nat.le_of_ble_eq_true rfl) dX10_line_50 ⟨Nat.le_of_ble_eq_true rfl, Nat.le_of_ble_eq_true rfl, rfl, rfl, Nat.le_of_ble_eq_true rfl, Nat.le_of_ble_eq_true rfl⟩) [(0, 22)] rfl rfl rfl (fun _ => rfl) (fun x5 H locs ex5 hP hD hS => ?_)
        have hf := bnd_of hf ex5
        have hP : va_P g.1 vwCl (wX10 a0 g v0_papers v0_raw v0_kind v0_figure v0_heavy v0_place v0_rules v0_lower v0_upper v0_limits v0_limit v0_ties v0_letter v0_letters v0_told v0_tolds v0_places v0_cell v0_refusals v0_imaged v0_hasImage v0_before x5.1 x5.2.1 v0_beneath x5.2.2.1 x5.2.2.2 x4.2.2.1 x4.2.2.2.1 x4.2.2.2.2 v0_valueUp v0_valueDown v0_said v0_saids v0_at v0_number) H := hP
        have hD : va_D A (wX10 a0 g v0_papers v0_raw v0_kind v0_figure v0_heavy v0_place v0_rules v0_lower v0_upper v0_limits v0_limit v0_ties v0_letter v0_letters v0_told v0_tolds v0_places v0_cell v0_refusals v0_imaged v0_hasImage v0_before x5.1 x5.2.1 v0_beneath x5.2.2.1 x5.2.2.2 x4.2.2.1 x4.2.2.2.1 x4.2.2.2.2 v0_valueUp v0_valueDown v0_said v0_saids v0_at v0_number) := hD
        refine lv_aload_n hx hb dX10_line_53 rfl (lv_at hl 0 rfl) ?_
        refine lv_iload_n hx hb dX10_line_54 rfl (lv_at hl 3 rfl) ?_
        refine cLp hP hD hS hA hE (fun hPc hDc hSc => rV (As := [.int p3]) (rest := []) hx hb hml hown hts hK (c_X10_part l g a0 v0_papers v0_raw v0_kind v0_figure v0_heavy v0_place v0_rules v0_lower v0_upper v0_limits v0_limit v0_ties v0_letter v0_letters v0_told v0_tolds v0_places v0_cell v0_refusals v0_imaged v0_hasImage v0_before x5.1 x5.2.1 v0_beneath x5.2.2.1 x5.2.2.2 x4.2.2.1 x4.2.2.2.1 x4.2.2.2.2 v0_valueUp v0_valueDown v0_said v0_saids v0_at v0_number p3 (bnd_ne hf)) svV_X10_part kw1519 rfl rfl hPc hDc hSc rfl rfl hl.1 (Nat.le_of_ble_eq_true rfl) dX10_line_55 ⟨Nat.le_of_ble_eq_true rfl, Nat.le_of_ble_eq_true rfl, rfl, rfl, Nat.le_of_ble_eq_true rfl, Nat.le_of_ble_eq_true rfl⟩) [(0, 22)] rfl rfl rfl (fun x6 H locs ex6 hP hS => ?_)
        have hf := bnd_of hf ex6
        exact retL (u := (x6, v0_refusals, x5.1, x5.2.1, x5.2.2.1, x5.2.2.2, x4.2.2.1, x4.2.2.2.1, x4.2.2.2.2)) (val := fun u => u.1) (W1 := fun u => wX10 a0 g v0_papers v0_raw v0_kind v0_figure v0_heavy v0_place v0_rules v0_lower v0_upper v0_limits v0_limit v0_ties v0_letter v0_letters v0_told v0_tolds v0_places v0_cell u.2.1 v0_imaged v0_hasImage v0_before u.2.2.1 u.2.2.2.1 v0_beneath u.2.2.2.2.1 u.2.2.2.2.2.1 u.2.2.2.2.2.2.1 u.2.2.2.2.2.2.2.1 u.2.2.2.2.2.2.2.2 v0_valueUp v0_valueDown v0_said v0_saids v0_at v0_number) hx hb hr hlocks hS hP hD (hf0.trans hf.symm) rfl dX10_line_58
      have hf := it_t cb hf
      refine lv_aload_n hx hb dX10_line_35 rfl (lv_at hl 0 rfl) ?_
      refine lv_bipush (v := (-2)) hx hb dX10_line_36 (by decide) ?_
      refine cL hP hD hS hA hE (fun hPc hDc hSc => rV (As := [.int (-2 : Int32)]) (rest := []) hx hb hml hown hts hK (c_X10_far l g a0 v0_papers v0_raw v0_kind v0_figure v0_heavy v0_place v0_rules v0_lower v0_upper v0_limits v0_limit v0_ties v0_letter v0_letters v0_told v0_tolds v0_places v0_cell v0_refusals v0_imaged v0_hasImage v0_before v0_up v0_down v0_beneath v0_numberUp v0_numberDown v0_block v0_blocks v0_merged v0_valueUp v0_valueDown v0_said v0_saids v0_at v0_number (-2 : Int32) (bnd_ne hf)) svV_X10_far kw1467 rfl rfl hPc hDc hSc rfl rfl hl.1 (Nat.le_of_ble_eq_true rfl) dX10_line_38 ⟨Nat.le_of_ble_eq_true rfl, Nat.le_of_ble_eq_true rfl, rfl, rfl, Nat.le_of_ble_eq_true rfl, Nat.le_of_ble_eq_true rfl⟩) [(0, 22)] rfl rfl rfl (fun _ => rfl) (fun x7 H locs ex7 hP hD hS => ?_)
      have hf := bnd_of hf ex7
      have hP : va_P g.1 vwCl (wX10 a0 g v0_papers v0_raw v0_kind v0_figure v0_heavy v0_place v0_rules v0_lower v0_upper v0_limits v0_limit v0_ties v0_letter v0_letters v0_told v0_tolds v0_places v0_cell x7.2 v0_imaged v0_hasImage v0_before v0_up v0_down v0_beneath v0_numberUp v0_numberDown v0_block v0_blocks v0_merged v0_valueUp v0_valueDown v0_said v0_saids v0_at v0_number) H := hP
      have hD : va_D A (wX10 a0 g v0_papers v0_raw v0_kind v0_figure v0_heavy v0_place v0_rules v0_lower v0_upper v0_limits v0_limit v0_ties v0_letter v0_letters v0_told v0_tolds v0_places v0_cell x7.2 v0_imaged v0_hasImage v0_before v0_up v0_down v0_beneath v0_numberUp v0_numberDown v0_block v0_blocks v0_merged v0_valueUp v0_valueDown v0_said v0_saids v0_at v0_number) := hD
      exact retL (u := (x7.1, x7.2, v0_up, v0_down, v0_numberUp, v0_numberDown, v0_block, v0_blocks, v0_merged)) (val := fun u => u.1) (W1 := fun u => wX10 a0 g v0_papers v0_raw v0_kind v0_figure v0_heavy v0_place v0_rules v0_lower v0_upper v0_limits v0_limit v0_ties v0_letter v0_letters v0_told v0_tolds v0_places v0_cell u.2.1 v0_imaged v0_hasImage v0_before u.2.2.1 u.2.2.2.1 v0_beneath u.2.2.2.2.1 u.2.2.2.2.2.1 u.2.2.2.2.2.2.1 u.2.2.2.2.2.2.2.1 u.2.2.2.2.2.2.2.2 v0_valueUp v0_valueDown v0_said v0_saids v0_at v0_number) hx hb hr hlocks hS hP hD (hf0.trans hf.symm) rfl dX10_line_41
    have hf := it_t cb hf
    refine lv_aload_n hx hb dX10_line_22 rfl (lv_at hl 0 rfl) ?_
    refine lv_iconst (v := (-1)) hx hb dX10_line_23 (by decide) ?_
    refine cL hP hD hS hA hE (fun hPc hDc hSc => rV (As := [.int (-1 : Int32)]) (rest := []) hx hb hml hown hts hK (c_X10_far l g a0 v0_papers v0_raw v0_kind v0_figure v0_heavy v0_place v0_rules v0_lower v0_upper v0_limits v0_limit v0_ties v0_letter v0_letters v0_told v0_tolds v0_places v0_cell v0_refusals v0_imaged v0_hasImage v0_before v0_up v0_down v0_beneath v0_numberUp v0_numberDown v0_block v0_blocks v0_merged v0_valueUp v0_valueDown v0_said v0_saids v0_at v0_number (-1 : Int32) (bnd_ne hf)) svV_X10_far kw1467 rfl rfl hPc hDc hSc rfl rfl hl.1 (Nat.le_of_ble_eq_true rfl) dX10_line_24 ⟨Nat.le_of_ble_eq_true rfl, Nat.le_of_ble_eq_true rfl, rfl, rfl, Nat.le_of_ble_eq_true rfl, Nat.le_of_ble_eq_true rfl⟩) [(0, 22)] rfl rfl rfl (fun _ => rfl) (fun x8 H locs ex8 hP hD hS => ?_)
    have hf := bnd_of hf ex8
    have hP : va_P g.1 vwCl (wX10 a0 g v0_papers v0_raw v0_kind v0_figure v0_heavy v0_place v0_rules v0_lower v0_upper v0_limits v0_limit v0_ties v0_letter v0_letters v0_told v0_tolds v0_places v0_cell x8.2 v0_imaged v0_hasImage v0_before v0_up v0_down v0_beneath v0_numberUp v0_numberDown v0_block v0_blocks v0_merged v0_valueUp v0_valueDown v0_said v0_saids v0_at v0_number) H := hP
    have hD : va_D A (wX10 a0 g v0_papers v0_raw v0_kind v0_figure v0_heavy v0_place v0_rules v0_lower v0_upper v0_limits v0_limit v0_ties v0_letter v0_letters v0_told v0_tolds v0_places v0_cell x8.2 v0_imaged v0_hasImage v0_before v0_up v0_down v0_beneath v0_numberUp v0_numberDown v0_block v0_blocks v0_merged v0_valueUp v0_valueDown v0_said v0_saids v0_at v0_number) := hD
    exact retL (u := (x8.1, x8.2, v0_up, v0_down, v0_numberUp, v0_numberDown, v0_block, v0_blocks, v0_merged)) (val := fun u => u.1) (W1 := fun u => wX10 a0 g v0_papers v0_raw v0_kind v0_figure v0_heavy v0_place v0_rules v0_lower v0_upper v0_limits v0_limit v0_ties v0_letter v0_letters v0_told v0_tolds v0_places v0_cell u.2.1 v0_imaged v0_hasImage v0_before u.2.2.1 u.2.2.2.1 v0_beneath u.2.2.2.2.1 u.2.2.2.2.2.1 u.2.2.2.2.2.2.1 u.2.2.2.2.2.2.2.1 u.2.2.2.2.2.2.2.2 v0_valueUp v0_valueDown v0_said v0_saids v0_at v0_number) hx hb hr hlocks hS hP hD (hf0.trans hf.symm) rfl dX10_line_27
  have hf := it_t cb hf
  refine lv_aload_n hx hb dX10_line_7 rfl (lv_at hl 0 rfl) ?_
  refine lv_bipush (v := (-2)) hx hb dX10_line_8 (by decide) ?_
  refine cL hP hD hS hA hE (fun hPc hDc hSc => rV (As := [.int (-2 : Int32)]) (rest := []) hx hb hml hown hts hK (c_X10_far l g a0 v0_papers v0_raw v0_kind v0_figure v0_heavy v0_place v0_rules v0_lower v0_upper v0_limits v0_limit v0_ties v0_letter v0_letters v0_told v0_tolds v0_places v0_cell v0_refusals v0_imaged v0_hasImage v0_before v0_up v0_down v0_beneath v0_numberUp v0_numberDown v0_block v0_blocks v0_merged v0_valueUp v0_valueDown v0_said v0_saids v0_at v0_number (-2 : Int32) (bnd_ne hf)) svV_X10_far kw1467 rfl rfl hPc hDc hSc rfl rfl hl.1 (Nat.le_of_ble_eq_true rfl) dX10_line_10 ⟨Nat.le_of_ble_eq_true rfl, Nat.le_of_ble_eq_true rfl, rfl, rfl, Nat.le_of_ble_eq_true rfl, Nat.le_of_ble_eq_true rfl⟩) [(0, 22)] rfl rfl rfl (fun _ => rfl) (fun x9 H locs ex9 hP hD hS => ?_)
  have hf := bnd_of hf ex9
  have hP : va_P g.1 vwCl (wX10 a0 g v0_papers v0_raw v0_kind v0_figure v0_heavy v0_place v0_rules v0_lower v0_upper v0_limits v0_limit v0_ties v0_letter v0_letters v0_told v0_tolds v0_places v0_cell x9.2 v0_imaged v0_hasImage v0_before v0_up v0_down v0_beneath v0_numberUp v0_numberDown v0_block v0_blocks v0_merged v0_valueUp v0_valueDown v0_said v0_saids v0_at v0_number) H := hP
  have hD : va_D A (wX10 a0 g v0_papers v0_raw v0_kind v0_figure v0_heavy v0_place v0_rules v0_lower v0_upper v0_limits v0_limit v0_ties v0_letter v0_letters v0_told v0_tolds v0_places v0_cell x9.2 v0_imaged v0_hasImage v0_before v0_up v0_down v0_beneath v0_numberUp v0_numberDown v0_block v0_blocks v0_merged v0_valueUp v0_valueDown v0_said v0_saids v0_at v0_number) := hD
  exact retL (u := (x9.1, x9.2, v0_up, v0_down, v0_numberUp, v0_numberDown, v0_block, v0_blocks, v0_merged)) (val := fun u => u.1) (W1 := fun u => wX10 a0 g v0_papers v0_raw v0_kind v0_figure v0_heavy v0_place v0_rules v0_lower v0_upper v0_limits v0_limit v0_ties v0_letter v0_letters v0_told v0_tolds v0_places v0_cell u.2.1 v0_imaged v0_hasImage v0_before u.2.2.1 u.2.2.2.1 v0_beneath u.2.2.2.2.1 u.2.2.2.2.2.1 u.2.2.2.2.2.2.1 u.2.2.2.2.2.2.2.1 u.2.2.2.2.2.2.2.2 v0_valueUp v0_valueDown v0_said v0_saids v0_at v0_number) hx hb hr hlocks hS hP hD (hf0.trans hf.symm) rfl dX10_line_13
set_option maxHeartbeats 4000000 in
set_option maxRecDepth 100000 in
theorem c_X10_block (l : Launch) (g : GG) (a0 : Nat → Nat) (v0_papers : Int32) (v0_raw : (Nat → Int32)) (v0_kind : (Nat → Int32)) (v0_figure : (Nat → Int32)) (v0_heavy : (Nat → Int32)) (v0_place : (Nat → Int32)) (v0_rules : Int32) (v0_lower : (Nat → Int32)) (v0_upper : (Nat → Int32)) (v0_limits : Int32) (v0_limit : (Nat → Int32)) (v0_ties : Int32) (v0_letter : (Nat → Int32)) (v0_letters : Int32) (v0_told : (Nat → Int32)) (v0_tolds : Int32) (v0_places : (Nat → Int32)) (v0_cell : (Nat → Int64)) (v0_refusals : (Nat → Int32)) (v0_imaged : (Nat → Int32)) (v0_hasImage : Int32) (v0_before : (Nat → Int32)) (v0_up : Int64) (v0_down : Int64) (v0_beneath : (Nat → Int32)) (v0_numberUp : Int32) (v0_numberDown : Int32) (v0_block : (Nat → Int32)) (v0_blocks : Int32) (v0_merged : Int32) (v0_valueUp : (Nat → Int32)) (v0_valueDown : (Nat → Int32)) (v0_said : (Nat → Int32)) (v0_saids : Int32) (v0_at : Int32) (v0_number : (Nat → Int32)) (p1 : Int32) (p2 : Int32) (hne : (m_X10_block (v0_papers, v0_raw, v0_kind, v0_figure, v0_heavy, v0_place, v0_rules, v0_lower, v0_upper, v0_limits, v0_limit, v0_ties, v0_letter, v0_letters, v0_told, v0_tolds, v0_places, v0_cell, v0_refusals, v0_imaged, v0_hasImage, v0_before, v0_up, v0_down, v0_beneath, v0_numberUp, v0_numberDown, v0_block, v0_blocks, v0_merged, v0_valueUp, v0_valueDown, v0_said, v0_saids, v0_at, v0_number) p1 p2) ≠ none) : Ct l g yX10_block cX10_block 3 (some .int) ({ frames := 8, cells := 0, slots := 0, locals := 185 } : Room) [.ref (a0 0), .int p1, .int p2] (wX10 a0 g v0_papers v0_raw v0_kind v0_figure v0_heavy v0_place v0_rules v0_lower v0_upper v0_limits v0_limit v0_ties v0_letter v0_letters v0_told v0_tolds v0_places v0_cell v0_refusals v0_imaged v0_hasImage v0_before v0_up v0_down v0_beneath v0_numberUp v0_numberDown v0_block v0_blocks v0_merged v0_valueUp v0_valueDown v0_said v0_saids v0_at v0_number) (Qi g .int (m_X10_block (v0_papers, v0_raw, v0_kind, v0_figure, v0_heavy, v0_place, v0_rules, v0_lower, v0_upper, v0_limits, v0_limit, v0_ties, v0_letter, v0_letters, v0_told, v0_tolds, v0_places, v0_cell, v0_refusals, v0_imaged, v0_hasImage, v0_before, v0_up, v0_down, v0_beneath, v0_numberUp, v0_numberDown, v0_block, v0_blocks, v0_merged, v0_valueUp, v0_valueDown, v0_said, v0_saids, v0_at, v0_number) p1 p2) (fun u => u.1) (fun u => wX10 a0 g v0_papers v0_raw v0_kind v0_figure v0_heavy v0_place v0_rules v0_lower v0_upper v0_limits v0_limit v0_ties v0_letter v0_letters v0_told v0_tolds v0_places v0_cell u.2.1 v0_imaged v0_hasImage v0_before v0_up v0_down v0_beneath u.2.2.1 u.2.2.2.1 u.2.2.2.2.1 u.2.2.2.2.2.1 u.2.2.2.2.2.2 v0_valueUp v0_valueDown v0_said v0_saids v0_at v0_number)) 0 0 := by
  obtain ⟨out, hf⟩ := ne_ex hne
  have hf0 := hf
  refine Ct.of (own := RX10) (by decide +kernel) rfl (Nat.le_of_ble_eq_true rfl) ?_
  intro p e s m below meth c hx hb hr hml hown hts hlocks hin hK A H locs hA hP hD hS hE ls hl
  have hl : lv_has ls 3 [(0, .ref (a0 0)), (1, .int p1), (2, .int p2)] := hl
  unfold m_X10_block at hf
  refine lv_iload_n hx hb dX10_block_0 rfl (lv_at hl 1 rfl) ?_
  refine cIp hP hD hS hA hE (fun hPc hDc hSc => rS (As := [.int p1]) (rest := []) hx hb hml hown hts hK (c_X10_isLine l g p1 (bnd_ne hf)) svS_X10_isLine kw1464 hPc hDc hSc rfl rfl hl.1 (Nat.le_of_ble_eq_true rfl) dX10_block_1 ⟨Nat.le_of_ble_eq_true rfl, Nat.le_of_ble_eq_true rfl, rfl, rfl, Nat.le_of_ble_eq_true rfl, Nat.le_of_ble_eq_true rfl⟩) [] rfl rfl rfl (fun x1 H locs ex1 nx1 hP hS => ?_)
  have hf := bnd_of hf ex1
  refine lv_if_ne (tgt := 14) hx hb dX10_block_4 (by decide) (fun cb => ?_) (fun cb => ?_)
  · have hf := it_f cb hf
    refine lv_aload_n hx hb dX10_block_14 rfl (lv_at hl 0 rfl) ?_
    refine lv_iload_n hx hb dX10_block_15 rfl (lv_at hl 1 rfl) ?_
    refine cV hP hD hS hA hE (fun hPc hDc hSc => rV (As := [.int p1]) (rest := []) hx hb hml hown hts hK (c_X10_lines l g a0 v0_papers v0_raw v0_kind v0_figure v0_heavy v0_place v0_rules v0_lower v0_upper v0_limits v0_limit v0_ties v0_letter v0_letters v0_told v0_tolds v0_places v0_cell v0_refusals v0_imaged v0_hasImage v0_before v0_up v0_down v0_beneath v0_numberUp v0_numberDown v0_block v0_blocks v0_merged v0_valueUp v0_valueDown v0_said v0_saids v0_at v0_number p1 (bnd_ne hf)) svV_X10_lines kw1474 rfl rfl hPc hDc hSc rfl rfl hl.1 (Nat.le_of_ble_eq_true rfl) dX10_block_16 ⟨Nat.le_of_ble_eq_true rfl, Nat.le_of_ble_eq_true rfl, rfl, rfl, Nat.le_of_ble_eq_true rfl, Nat.le_of_ble_eq_true rfl⟩) [(0, 22)] rfl rfl rfl (fun _ => rfl) (fun x2 H locs ex2 hP hD hS => ?_)
    have hf := bnd_of hf ex2
    have hP : va_P g.1 vwCl (wX10 a0 g v0_papers v0_raw v0_kind v0_figure v0_heavy v0_place v0_rules v0_lower v0_upper v0_limits v0_limit v0_ties v0_letter v0_letters v0_told v0_tolds v0_places v0_cell v0_refusals v0_imaged v0_hasImage v0_before v0_up v0_down v0_beneath x2.1 x2.2.1 x2.2.2.1 x2.2.2.2.1 x2.2.2.2.2 v0_valueUp v0_valueDown v0_said v0_saids v0_at v0_number) H := hP
    have hD : va_D A (wX10 a0 g v0_papers v0_raw v0_kind v0_figure v0_heavy v0_place v0_rules v0_lower v0_upper v0_limits v0_limit v0_ties v0_letter v0_letters v0_told v0_tolds v0_places v0_cell v0_refusals v0_imaged v0_hasImage v0_before v0_up v0_down v0_beneath x2.1 x2.2.1 x2.2.2.1 x2.2.2.2.1 x2.2.2.2.2 v0_valueUp v0_valueDown v0_said v0_saids v0_at v0_number) := hD
    refine lv_iload_n hx hb dX10_block_19 rfl (lv_at hl 2 rfl) ?_
    refine lv_iconst (v := (-1)) hx hb dX10_block_20 (by decide) ?_
    refine lv_aload_n hx hb dX10_block_21 rfl (lv_at hl 0 rfl) ?_
    refine va_get (D := g.1) (ci := 11) (v := .int x2.2.2.2.1) (C := RX10) (T := TX10) (N := 36) hx hb hts layX10 hown hK.1 hP 0 rfl rfl 28 (by decide) (hts _ kw1305) (fun _ h9 => h9) rfl dX10_block_22 ?_
    refine lv_iconst (v := 1) hx hb dX10_block_25 (by decide) ?_
    refine lv_isub hx hb dX10_block_26 ?_
    refine cIp hP hD hS hA hE (fun hPc hDc hSc => rS (As := [.int p2, .int (-1 : Int32), .int (x2.2.2.2.1 - (1 : Int32))]) (rest := []) hx hb hml hown hts hK (c_X10_in l g p2 (-1 : Int32) (x2.2.2.2.1 - (1 : Int32)) (bnd_ne hf)) svS_X10_in kw1364 hPc hDc hSc rfl rfl hl.1 (Nat.le_of_ble_eq_true rfl) dX10_block_27 ⟨Nat.le_of_ble_eq_true rfl, Nat.le_of_ble_eq_true rfl, rfl, rfl, Nat.le_of_ble_eq_true rfl, Nat.le_of_ble_eq_true rfl⟩) [] rfl rfl rfl (fun x3 H locs ex3 nx3 hP hS => ?_)
    have hf := bnd_of hf ex3
    refine lv_if_ne (tgt := 39) hx hb dX10_block_30 (by decide) (fun cb => ?_) (fun cb => ?_)
    · have hf := it_f cb hf
      refine lv_iload_n hx hb dX10_block_39 rfl (lv_at hl 2 rfl) ?_
      refine lv_if_ge (tgt := 50) hx hb dX10_block_40 (by decide) (fun cb => ?_) (fun cb => ?_)
      · have hf := it_t cb hf
        refine lv_aload_n hx hb dX10_block_50 rfl (lv_at hl 0 rfl) ?_
        refine va_get (D := g.1) (ci := 11) (v := .ref (a0 17)) (C := RX10) (T := TX10) (N := 36) hx hb hts layX10 hown hK.1 hP 0 rfl rfl 27 (by decide) (hts _ kw1304) (fun _ h9 => h9) rfl dX10_block_51 ?_
        refine lv_iload_n hx hb dX10_block_54 rfl (lv_at hl 2 rfl) ?_
        have hi := it_n hf
        have hf := it_t hi hf
        refine va_iald hx hb hK.1 hP 17 0 rfl rfl (inb_in hi) dX10_block_55 ?_
        exact retI (v := (x2.2.2.1 p2.toNatClampNeg)) (u := ((x2.2.2.1 p2.toNatClampNeg), v0_refusals, x2.1, x2.2.1, x2.2.2.1, x2.2.2.2.1, x2.2.2.2.2)) (val := fun u => u.1) (W1 := fun u => wX10 a0 g v0_papers v0_raw v0_kind v0_figure v0_heavy v0_place v0_rules v0_lower v0_upper v0_limits v0_limit v0_ties v0_letter v0_letters v0_told v0_tolds v0_places v0_cell u.2.1 v0_imaged v0_hasImage v0_before v0_up v0_down v0_beneath u.2.2.1 u.2.2.2.1 u.2.2.2.2.1 u.2.2.2.2.2.1 u.2.2.2.2.2.2 v0_valueUp v0_valueDown v0_said v0_saids v0_at v0_number) hx hb hr hlocks hS hP hD (hf0.trans hf.symm) rfl rfl dX10_block_56
      have hf := it_f cb hf
      refine lv_aload_n hx hb dX10_block_43 rfl (lv_at hl 0 rfl) ?_
      refine va_get (D := g.1) (ci := 11) (v := .int x2.2.2.2.1) (C := RX10) (T := TX10) (N := 36) hx hb hts layX10 hown hK.1 hP 0 rfl rfl 28 (by decide) (hts _ kw1305) (fun _ h9 => h9) rfl dX10_block_44 ?_
      refine lv_goto (tgt := 56) hx hb dX10_block_47 (by decide) ?_
      exact retI (v := x2.2.2.2.1) (u := (x2.2.2.2.1, v0_refusals, x2.1, x2.2.1, x2.2.2.1, x2.2.2.2.1, x2.2.2.2.2)) (val := fun u => u.1) (W1 := fun u => wX10 a0 g v0_papers v0_raw v0_kind v0_figure v0_heavy v0_place v0_rules v0_lower v0_upper v0_limits v0_limit v0_ties v0_letter v0_letters v0_told v0_tolds v0_places v0_cell u.2.1 v0_imaged v0_hasImage v0_before v0_up v0_down v0_beneath u.2.2.1 u.2.2.2.1 u.2.2.2.2.1 u.2.2.2.2.2.1 u.2.2.2.2.2.2 v0_valueUp v0_valueDown v0_said v0_saids v0_at v0_number) hx hb hr hlocks hS hP hD (hf0.trans hf.symm) rfl rfl dX10_block_56
    have hf := it_t cb hf
    refine lv_aload_n hx hb dX10_block_33 rfl (lv_at hl 0 rfl) ?_
    refine lv_iconst (v := (-1)) hx hb dX10_block_34 (by decide) ?_
    refine cI hP hD hS hA hE (fun hPc hDc hSc => rV (As := [.int (-1 : Int32)]) (rest := []) hx hb hml hown hts hK (c_X10_no l g a0 v0_papers v0_raw v0_kind v0_figure v0_heavy v0_place v0_rules v0_lower v0_upper v0_limits v0_limit v0_ties v0_letter v0_letters v0_told v0_tolds v0_places v0_cell v0_refusals v0_imaged v0_hasImage v0_before v0_up v0_down v0_beneath x2.1 x2.2.1 x2.2.2.1 x2.2.2.2.1 x2.2.2.2.2 v0_valueUp v0_valueDown v0_said v0_saids v0_at v0_number (-1 : Int32) (bnd_ne hf)) svV_X10_no kw1354 rfl rfl hPc hDc hSc rfl rfl hl.1 (Nat.le_of_ble_eq_true rfl) dX10_block_35 ⟨Nat.le_of_ble_eq_true rfl, Nat.le_of_ble_eq_true rfl, rfl, rfl, Nat.le_of_ble_eq_true rfl, Nat.le_of_ble_eq_true rfl⟩) [(0, 22)] rfl rfl rfl (fun _ => rfl) (fun x4 H locs ex4 nx4 hP hD hS => ?_)
    have hf := bnd_of hf ex4
    have hP : va_P g.1 vwCl (wX10 a0 g v0_papers v0_raw v0_kind v0_figure v0_heavy v0_place v0_rules v0_lower v0_upper v0_limits v0_limit v0_ties v0_letter v0_letters v0_told v0_tolds v0_places v0_cell x4.2 v0_imaged v0_hasImage v0_before v0_up v0_down v0_beneath x2.1 x2.2.1 x2.2.2.1 x2.2.2.2.1 x2.2.2.2.2 v0_valueUp v0_valueDown v0_said v0_saids v0_at v0_number) H := hP
    have hD : va_D A (wX10 a0 g v0_papers v0_raw v0_kind v0_figure v0_heavy v0_place v0_rules v0_lower v0_upper v0_limits v0_limit v0_ties v0_letter v0_letters v0_told v0_tolds v0_places v0_cell x4.2 v0_imaged v0_hasImage v0_before v0_up v0_down v0_beneath x2.1 x2.2.1 x2.2.2.1 x2.2.2.2.1 x2.2.2.2.2 v0_valueUp v0_valueDown v0_said v0_saids v0_at v0_number) := hD
    exact retI (v := x4.1) (u := (x4.1, x4.2, x2.1, x2.2.1, x2.2.2.1, x2.2.2.2.1, x2.2.2.2.2)) (val := fun u => u.1) (W1 := fun u => wX10 a0 g v0_papers v0_raw v0_kind v0_figure v0_heavy v0_place v0_rules v0_lower v0_upper v0_limits v0_limit v0_ties v0_letter v0_letters v0_told v0_tolds v0_places v0_cell u.2.1 v0_imaged v0_hasImage v0_before v0_up v0_down v0_beneath u.2.2.1 u.2.2.2.1 u.2.2.2.2.1 u.2.2.2.2.2.1 u.2.2.2.2.2.2 v0_valueUp v0_valueDown v0_said v0_saids v0_at v0_number) hx hb hr hlocks hS hP hD (hf0.trans hf.symm) rfl rfl dX10_block_38
  have hf := it_t cb hf
  refine lv_aload_n hx hb dX10_block_7 rfl (lv_at hl 0 rfl) ?_
  refine lv_bipush (v := (-2)) hx hb dX10_block_8 (by decide) ?_
  refine cI hP hD hS hA hE (fun hPc hDc hSc => rV (As := [.int (-2 : Int32)]) (rest := []) hx hb hml hown hts hK (c_X10_no l g a0 v0_papers v0_raw v0_kind v0_figure v0_heavy v0_place v0_rules v0_lower v0_upper v0_limits v0_limit v0_ties v0_letter v0_letters v0_told v0_tolds v0_places v0_cell v0_refusals v0_imaged v0_hasImage v0_before v0_up v0_down v0_beneath v0_numberUp v0_numberDown v0_block v0_blocks v0_merged v0_valueUp v0_valueDown v0_said v0_saids v0_at v0_number (-2 : Int32) (bnd_ne hf)) svV_X10_no kw1354 rfl rfl hPc hDc hSc rfl rfl hl.1 (Nat.le_of_ble_eq_true rfl) dX10_block_10 ⟨Nat.le_of_ble_eq_true rfl, Nat.le_of_ble_eq_true rfl, rfl, rfl, Nat.le_of_ble_eq_true rfl, Nat.le_of_ble_eq_true rfl⟩) [(0, 22)] rfl rfl rfl (fun _ => rfl) (fun x5 H locs ex5 nx5 hP hD hS => ?_)
  have hf := bnd_of hf ex5
  have hP : va_P g.1 vwCl (wX10 a0 g v0_papers v0_raw v0_kind v0_figure v0_heavy v0_place v0_rules v0_lower v0_upper v0_limits v0_limit v0_ties v0_letter v0_letters v0_told v0_tolds v0_places v0_cell x5.2 v0_imaged v0_hasImage v0_before v0_up v0_down v0_beneath v0_numberUp v0_numberDown v0_block v0_blocks v0_merged v0_valueUp v0_valueDown v0_said v0_saids v0_at v0_number) H := hP
  have hD : va_D A (wX10 a0 g v0_papers v0_raw v0_kind v0_figure v0_heavy v0_place v0_rules v0_lower v0_upper v0_limits v0_limit v0_ties v0_letter v0_letters v0_told v0_tolds v0_places v0_cell x5.2 v0_imaged v0_hasImage v0_before v0_up v0_down v0_beneath v0_numberUp v0_numberDown v0_block v0_blocks v0_merged v0_valueUp v0_valueDown v0_said v0_saids v0_at v0_number) := hD
  exact retI (v := x5.1) (u := (x5.1, x5.2, v0_numberUp, v0_numberDown, v0_block, v0_blocks, v0_merged)) (val := fun u => u.1) (W1 := fun u => wX10 a0 g v0_papers v0_raw v0_kind v0_figure v0_heavy v0_place v0_rules v0_lower v0_upper v0_limits v0_limit v0_ties v0_letter v0_letters v0_told v0_tolds v0_places v0_cell u.2.1 v0_imaged v0_hasImage v0_before v0_up v0_down v0_beneath u.2.2.1 u.2.2.2.1 u.2.2.2.2.1 u.2.2.2.2.2.1 u.2.2.2.2.2.2 v0_valueUp v0_valueDown v0_said v0_saids v0_at v0_number) hx hb hr hlocks hS hP hD (hf0.trans hf.symm) rfl rfl dX10_block_13
