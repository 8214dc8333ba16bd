theorem svV_X10_values : SV RX10 yX10_values cX10_values 3 none 2 := ⟨kw1552, kw1868, kw16, kw1553, rfl, by decide, by decide, by decide +kernel⟩
theorem svS_X10_isLoss : SS RX10 yX10_isLoss cX10_isLoss 1 (some .boolean) 1 := ⟨kw1549, kw16, kw1550, rfl, by decide, by decide, by decide +kernel⟩
theorem svV_X10_gradeBy : SV RX10 yX10_gradeBy cX10_gradeBy 3 (some .int) 2 := ⟨kw1584, kw1877, kw16, kw1585, rfl, by decide, by decide, by decide +kernel⟩
theorem svV_X10_changes : SV RX10 yX10_changes cX10_changes 8 none 2 := ⟨kw1591, kw1878, kw16, kw1592, rfl, by decide, by decide, by decide +kernel⟩
theorem svV_X10_isSame : SV RX10 yX10_isSame cX10_isSame 3 (some .boolean) 2 := ⟨kw1604, kw1880, kw16, kw1605, rfl, by decide, by decide, by decide +kernel⟩
theorem svV_X10_poolOf : SV RX10 yX10_poolOf cX10_poolOf 5 (some .int) 1 := ⟨kw1601, kw1879, kw16, kw1602, rfl, by decide, by decide, by decide +kernel⟩
theorem dX10_changes_0 : decode cX10_changes 0 = .ok (.aload_n 0, 1) := by decide +kernel
theorem dX10_changes_1 : decode cX10_changes 1 = .ok (.iload_n 1, 1) := by decide +kernel
theorem dX10_changes_2 : decode cX10_changes 2 = .ok (.iload_n 2, 1) := by decide +kernel
theorem dX10_changes_3 : decode cX10_changes 3 = .ok (.invokevirtual 282, 3) := by decide +kernel
theorem dX10_changes_6 : decode cX10_changes 6 = .ok (.lconst 0, 1) := by decide +kernel
theorem dX10_changes_7 : decode cX10_changes 7 = .ok (.lstore_n 3, 1) := by decide +kernel
theorem dX10_changes_8 : decode cX10_changes 8 = .ok (.aload_n 0, 1) := by decide +kernel
theorem dX10_changes_9 : decode cX10_changes 9 = .ok (.lconst 0, 1) := by decide +kernel
theorem dX10_changes_10 : decode cX10_changes 10 = .ok (.lconst 1, 1) := by decide +kernel
theorem dX10_changes_11 : decode cX10_changes 11 = .ok (.invokevirtual 102, 3) := by decide +kernel
theorem dX10_changes_14 : decode cX10_changes 14 = .ok (.iconst 0, 1) := by decide +kernel
theorem dX10_changes_15 : decode cX10_changes 15 = .ok (.istore 5, 2) := by decide +kernel
theorem dX10_changes_17 : decode cX10_changes 17 = .ok (.iload 5, 2) := by decide +kernel
theorem dX10_changes_19 : decode cX10_changes 19 = .ok (.aload_n 0, 1) := by decide +kernel
theorem dX10_changes_20 : decode cX10_changes 20 = .ok (.getfield 80, 3) := by decide +kernel
theorem dX10_changes_23 : decode cX10_changes 23 = .ok (.if_icmp .ge 123, 3) := by decide +kernel
theorem dX10_changes_26 : decode cX10_changes 26 = .ok (.aload_n 0, 1) := by decide +kernel
theorem dX10_changes_27 : decode cX10_changes 27 = .ok (.getfield 62, 3) := by decide +kernel
theorem dX10_changes_30 : decode cX10_changes 30 = .ok (.iload 5, 2) := by decide +kernel
theorem dX10_changes_32 : decode cX10_changes 32 = .ok (.iaload, 1) := by decide +kernel
theorem dX10_changes_33 : decode cX10_changes 33 = .ok (.i2l, 1) := by decide +kernel
theorem dX10_changes_34 : decode cX10_changes 34 = .ok (.aload_n 0, 1) := by decide +kernel
theorem dX10_changes_35 : decode cX10_changes 35 = .ok (.iload 5, 2) := by decide +kernel
theorem dX10_changes_37 : decode cX10_changes 37 = .ok (.invokevirtual 151, 3) := by decide +kernel
theorem dX10_changes_40 : decode cX10_changes 40 = .ok (.i2l, 1) := by decide +kernel
theorem dX10_changes_41 : decode cX10_changes 41 = .ok (.aload_n 0, 1) := by decide +kernel
theorem dX10_changes_42 : decode cX10_changes 42 = .ok (.getfield 65, 3) := by decide +kernel
theorem dX10_changes_45 : decode cX10_changes 45 = .ok (.iload 5, 2) := by decide +kernel
theorem dX10_changes_47 : decode cX10_changes 47 = .ok (.iaload, 1) := by decide +kernel
theorem dX10_changes_48 : decode cX10_changes 48 = .ok (.i2l, 1) := by decide +kernel
theorem dX10_changes_49 : decode cX10_changes 49 = .ok (.lmul, 1) := by decide +kernel
theorem dX10_changes_50 : decode cX10_changes 50 = .ok (.lsub, 1) := by decide +kernel
theorem dX10_changes_51 : decode cX10_changes 51 = .ok (.invokestatic 245, 3) := by decide +kernel
theorem dX10_changes_54 : decode cX10_changes 54 = .ok (.lstore 6, 2) := by decide +kernel
theorem dX10_changes_56 : decode cX10_changes 56 = .ok (.iload_n 1, 1) := by decide +kernel
theorem dX10_changes_57 : decode cX10_changes 57 = .ok (.ifCond .ne 40, 3) := by decide +kernel
theorem dX10_changes_97 : decode cX10_changes 97 = .ok (.iload_n 1, 1) := by decide +kernel
theorem dX10_changes_98 : decode cX10_changes 98 = .ok (.iconst 1, 1) := by decide +kernel
theorem dX10_changes_99 : decode cX10_changes 99 = .ok (.if_icmp .ne 21, 3) := by decide +kernel
theorem dX10_changes_120 : decode cX10_changes 120 = .ok (.lload_n 3, 1) := by decide +kernel
theorem dX10_changes_121 : decode cX10_changes 121 = .ok (.ldc2_w 280, 3) := by decide +kernel
theorem dX10_changes_124 : decode cX10_changes 124 = .ok (.lload 6, 2) := by decide +kernel
theorem dX10_changes_126 : decode cX10_changes 126 = .ok (.lmul, 1) := by decide +kernel
theorem dX10_changes_127 : decode cX10_changes 127 = .ok (.aload_n 0, 1) := by decide +kernel
theorem dX10_changes_128 : decode cX10_changes 128 = .ok (.getfield 65, 3) := by decide +kernel
theorem dX10_changes_131 : decode cX10_changes 131 = .ok (.iload 5, 2) := by decide +kernel
theorem dX10_changes_133 : decode cX10_changes 133 = .ok (.iaload, 1) := by decide +kernel
theorem dX10_changes_134 : decode cX10_changes 134 = .ok (.i2l, 1) := by decide +kernel
theorem dX10_changes_135 : decode cX10_changes 135 = .ok (.ldiv, 1) := by decide +kernel
theorem dX10_changes_136 : decode cX10_changes 136 = .ok (.invokestatic 285, 3) := by decide +kernel
theorem dX10_changes_139 : decode cX10_changes 139 = .ok (.lstore_n 3, 1) := by decide +kernel
theorem dX10_changes_140 : decode cX10_changes 140 = .ok (.iinc 5 1, 3) := by decide +kernel
theorem dX10_changes_143 : decode cX10_changes 143 = .ok (.goto (-126), 3) := by decide +kernel
theorem dX10_changes_102 : decode cX10_changes 102 = .ok (.aload_n 0, 1) := by decide +kernel
theorem dX10_changes_103 : decode cX10_changes 103 = .ok (.aload_n 0, 1) := by decide +kernel
theorem dX10_changes_104 : decode cX10_changes 104 = .ok (.iload 5, 2) := by decide +kernel
theorem dX10_changes_106 : decode cX10_changes 106 = .ok (.invokevirtual 154, 3) := by decide +kernel
theorem dX10_changes_109 : decode cX10_changes 109 = .ok (.i2l, 1) := by decide +kernel
theorem dX10_changes_110 : decode cX10_changes 110 = .ok (.lload 6, 2) := by decide +kernel
theorem dX10_changes_112 : decode cX10_changes 112 = .ok (.lmul, 1) := by decide +kernel
theorem dX10_changes_113 : decode cX10_changes 113 = .ok (.lconst 1, 1) := by decide +kernel
theorem dX10_changes_114 : decode cX10_changes 114 = .ok (.invokevirtual 220, 3) := by decide +kernel
theorem dX10_changes_117 : decode cX10_changes 117 = .ok (.goto 23, 3) := by decide +kernel
theorem dX10_changes_60 : decode cX10_changes 60 = .ok (.aload_n 0, 1) := by decide +kernel
theorem dX10_changes_61 : decode cX10_changes 61 = .ok (.aload_n 0, 1) := by decide +kernel
theorem dX10_changes_62 : decode cX10_changes 62 = .ok (.iload 5, 2) := by decide +kernel
theorem dX10_changes_64 : decode cX10_changes 64 = .ok (.invokevirtual 154, 3) := by decide +kernel
theorem dX10_changes_67 : decode cX10_changes 67 = .ok (.i2l, 1) := by decide +kernel
theorem dX10_changes_68 : decode cX10_changes 68 = .ok (.lload 6, 2) := by decide +kernel
theorem dX10_changes_70 : decode cX10_changes 70 = .ok (.lmul, 1) := by decide +kernel
theorem dX10_changes_71 : decode cX10_changes 71 = .ok (.lload 6, 2) := by decide +kernel
theorem dX10_changes_73 : decode cX10_changes 73 = .ok (.lmul, 1) := by decide +kernel
theorem dX10_changes_74 : decode cX10_changes 74 = .ok (.aload_n 0, 1) := by decide +kernel
theorem dX10_changes_75 : decode cX10_changes 75 = .ok (.getfield 65, 3) := by decide +kernel
theorem dX10_changes_78 : decode cX10_changes 78 = .ok (.iload 5, 2) := by decide +kernel
theorem dX10_changes_80 : decode cX10_changes 80 = .ok (.iaload, 1) := by decide +kernel
theorem dX10_changes_81 : decode cX10_changes 81 = .ok (.i2l, 1) := by decide +kernel
theorem dX10_changes_82 : decode cX10_changes 82 = .ok (.aload_n 0, 1) := by decide +kernel
theorem dX10_changes_83 : decode cX10_changes 83 = .ok (.getfield 65, 3) := by decide +kernel
theorem dX10_changes_86 : decode cX10_changes 86 = .ok (.iload 5, 2) := by decide +kernel
theorem dX10_changes_88 : decode cX10_changes 88 = .ok (.iaload, 1) := by decide +kernel
theorem dX10_changes_89 : decode cX10_changes 89 = .ok (.i2l, 1) := by decide +kernel
theorem dX10_changes_90 : decode cX10_changes 90 = .ok (.lmul, 1) := by decide +kernel
theorem dX10_changes_91 : decode cX10_changes 91 = .ok (.invokevirtual 220, 3) := by decide +kernel
theorem dX10_changes_94 : decode cX10_changes 94 = .ok (.goto 46, 3) := by decide +kernel
theorem dX10_changes_146 : decode cX10_changes 146 = .ok (.iload_n 1, 1) := by decide +kernel
theorem dX10_changes_147 : decode cX10_changes 147 = .ok (.iconst 2, 1) := by decide +kernel
theorem dX10_changes_148 : decode cX10_changes 148 = .ok (.if_icmp .ne 11, 3) := by decide +kernel
theorem dX10_changes_159 : decode cX10_changes 159 = .ok (.return_, 1) := by decide +kernel
theorem dX10_changes_151 : decode cX10_changes 151 = .ok (.aload_n 0, 1) := by decide +kernel
theorem dX10_changes_152 : decode cX10_changes 152 = .ok (.lload_n 3, 1) := by decide +kernel
theorem dX10_changes_153 : decode cX10_changes 153 = .ok (.ldc2_w 280, 3) := by decide +kernel
theorem dX10_changes_156 : decode cX10_changes 156 = .ok (.invokevirtual 102, 3) := by decide +kernel
theorem dX10_value_0 : decode cX10_value 0 = .ok (.iload_n 1, 1) := by decide +kernel
theorem dX10_value_1 : decode cX10_value 1 = .ok (.invokestatic 287, 3) := by decide +kernel
theorem dX10_value_4 : decode cX10_value 4 = .ok (.ifCond .ne 10, 3) := by decide +kernel
theorem dX10_value_14 : decode cX10_value 14 = .ok (.aload_n 0, 1) := by decide +kernel
theorem dX10_value_15 : decode cX10_value 15 = .ok (.iload_n 2, 1) := by decide +kernel
theorem dX10_value_16 : decode cX10_value 16 = .ok (.invokevirtual 122, 3) := by decide +kernel
theorem dX10_value_19 : decode cX10_value 19 = .ok (.ifCond .ne 9, 3) := by decide +kernel
theorem dX10_value_28 : decode cX10_value 28 = .ok (.iload_n 3, 1) := by decide +kernel
theorem dX10_value_29 : decode cX10_value 29 = .ok (.invokestatic 230, 3) := by decide +kernel
theorem dX10_value_32 : decode cX10_value 32 = .ok (.ifCond .ne 10, 3) := by decide +kernel
theorem dX10_value_42 : decode cX10_value 42 = .ok (.aload_n 0, 1) := by decide +kernel
theorem dX10_value_43 : decode cX10_value 43 = .ok (.iload_n 1, 1) := by decide +kernel
theorem dX10_value_44 : decode cX10_value 44 = .ok (.aload_n 0, 1) := by decide +kernel
theorem dX10_value_45 : decode cX10_value 45 = .ok (.invokevirtual 134, 3) := by decide +kernel
theorem dX10_value_48 : decode cX10_value 48 = .ok (.invokevirtual 282, 3) := by decide +kernel
theorem dX10_value_51 : decode cX10_value 51 = .ok (.iload_n 3, 1) := by decide +kernel
theorem dX10_value_52 : decode cX10_value 52 = .ok (.ifCond .ne 13, 3) := by decide +kernel
theorem dX10_value_65 : decode cX10_value 65 = .ok (.aload_n 0, 1) := by decide +kernel
theorem dX10_value_66 : decode cX10_value 66 = .ok (.getfield 65, 3) := by decide +kernel
theorem dX10_value_69 : decode cX10_value 69 = .ok (.iload_n 2, 1) := by decide +kernel
theorem dX10_value_70 : decode cX10_value 70 = .ok (.iaload, 1) := by decide +kernel
theorem dX10_value_71 : decode cX10_value 71 = .ok (.i2l, 1) := by decide +kernel
theorem dX10_value_72 : decode cX10_value 72 = .ok (.lreturn, 1) := by decide +kernel
theorem dX10_value_55 : decode cX10_value 55 = .ok (.aload_n 0, 1) := by decide +kernel
theorem dX10_value_56 : decode cX10_value 56 = .ok (.getfield 62, 3) := by decide +kernel
theorem dX10_value_59 : decode cX10_value 59 = .ok (.iload_n 2, 1) := by decide +kernel
theorem dX10_value_60 : decode cX10_value 60 = .ok (.iaload, 1) := by decide +kernel
theorem dX10_value_61 : decode cX10_value 61 = .ok (.i2l, 1) := by decide +kernel
theorem dX10_value_62 : decode cX10_value 62 = .ok (.goto 10, 3) := by decide +kernel
theorem dX10_value_35 : decode cX10_value 35 = .ok (.aload_n 0, 1) := by decide +kernel
theorem dX10_value_36 : decode cX10_value 36 = .ok (.bipush (-2), 2) := by decide +kernel
theorem dX10_value_38 : decode cX10_value 38 = .ok (.invokevirtual 226, 3) := by decide +kernel
theorem dX10_value_41 : decode cX10_value 41 = .ok (.lreturn, 1) := by decide +kernel
theorem dX10_value_22 : decode cX10_value 22 = .ok (.aload_n 0, 1) := by decide +kernel
theorem dX10_value_23 : decode cX10_value 23 = .ok (.iconst (-1), 1) := by decide +kernel
theorem dX10_value_24 : decode cX10_value 24 = .ok (.invokevirtual 226, 3) := by decide +kernel
theorem dX10_value_27 : decode cX10_value 27 = .ok (.lreturn, 1) := by decide +kernel
theorem dX10_value_7 : decode cX10_value 7 = .ok (.aload_n 0, 1) := by decide +kernel
theorem dX10_value_8 : decode cX10_value 8 = .ok (.bipush (-2), 2) := by decide +kernel
theorem dX10_value_10 : decode cX10_value 10 = .ok (.invokevirtual 226, 3) := by decide +kernel
theorem dX10_value_13 : decode cX10_value 13 = .ok (.lreturn, 1) := by decide +kernel
theorem dX10_gradeBy_0 : decode cX10_gradeBy 0 = .ok (.aload_n 0, 1) := by decide +kernel
theorem dX10_gradeBy_1 : decode cX10_gradeBy 1 = .ok (.iload_n 1, 1) := by decide +kernel
theorem dX10_gradeBy_2 : decode cX10_gradeBy 2 = .ok (.aload_n 0, 1) := by decide +kernel
theorem dX10_gradeBy_3 : decode cX10_gradeBy 3 = .ok (.invokevirtual 134, 3) := by decide +kernel
theorem dX10_gradeBy_6 : decode cX10_gradeBy 6 = .ok (.invokevirtual 282, 3) := by decide +kernel
theorem dX10_gradeBy_9 : decode cX10_gradeBy 9 = .ok (.aload_n 0, 1) := by decide +kernel
theorem dX10_gradeBy_10 : decode cX10_gradeBy 10 = .ok (.aload_n 0, 1) := by decide +kernel
theorem dX10_gradeBy_11 : decode cX10_gradeBy 11 = .ok (.getfield 62, 3) := by decide +kernel
theorem dX10_gradeBy_14 : decode cX10_gradeBy 14 = .ok (.iload_n 2, 1) := by decide +kernel
theorem dX10_gradeBy_15 : decode cX10_gradeBy 15 = .ok (.iaload, 1) := by decide +kernel
theorem dX10_gradeBy_16 : decode cX10_gradeBy 16 = .ok (.i2l, 1) := by decide +kernel
theorem dX10_gradeBy_17 : decode cX10_gradeBy 17 = .ok (.aload_n 0, 1) := by decide +kernel
theorem dX10_gradeBy_18 : decode cX10_gradeBy 18 = .ok (.getfield 65, 3) := by decide +kernel
theorem dX10_gradeBy_21 : decode cX10_gradeBy 21 = .ok (.iload_n 2, 1) := by decide +kernel
theorem dX10_gradeBy_22 : decode cX10_gradeBy 22 = .ok (.iaload, 1) := by decide +kernel
theorem dX10_gradeBy_23 : decode cX10_gradeBy 23 = .ok (.i2l, 1) := by decide +kernel
theorem dX10_gradeBy_24 : decode cX10_gradeBy 24 = .ok (.invokevirtual 157, 3) := by decide +kernel
theorem dX10_gradeBy_27 : decode cX10_gradeBy 27 = .ok (.ireturn, 1) := by decide +kernel
theorem dX10_grade_0 : decode cX10_grade 0 = .ok (.iload_n 1, 1) := by decide +kernel
theorem dX10_grade_1 : decode cX10_grade 1 = .ok (.invokestatic 287, 3) := by decide +kernel
theorem dX10_grade_4 : decode cX10_grade 4 = .ok (.ifCond .ne 10, 3) := by decide +kernel
theorem dX10_grade_14 : decode cX10_grade 14 = .ok (.aload_n 0, 1) := by decide +kernel
theorem dX10_grade_15 : decode cX10_grade 15 = .ok (.iload_n 2, 1) := by decide +kernel
theorem dX10_grade_16 : decode cX10_grade 16 = .ok (.invokevirtual 122, 3) := by decide +kernel
theorem dX10_grade_19 : decode cX10_grade 19 = .ok (.ifCond .eq 12, 3) := by decide +kernel
theorem dX10_grade_31 : decode cX10_grade 31 = .ok (.aload_n 0, 1) := by decide +kernel
theorem dX10_grade_32 : decode cX10_grade 32 = .ok (.iconst (-1), 1) := by decide +kernel
theorem dX10_grade_33 : decode cX10_grade 33 = .ok (.invokevirtual 76, 3) := by decide +kernel
theorem dX10_grade_36 : decode cX10_grade 36 = .ok (.ireturn, 1) := by decide +kernel
theorem dX10_grade_22 : decode cX10_grade 22 = .ok (.aload_n 0, 1) := by decide +kernel
theorem dX10_grade_23 : decode cX10_grade 23 = .ok (.iload_n 1, 1) := by decide +kernel
theorem dX10_grade_24 : decode cX10_grade 24 = .ok (.iload_n 2, 1) := by decide +kernel
theorem dX10_grade_25 : decode cX10_grade 25 = .ok (.invokevirtual 290, 3) := by decide +kernel
theorem dX10_grade_28 : decode cX10_grade 28 = .ok (.goto 8, 3) := by decide +kernel
theorem dX10_grade_7 : decode cX10_grade 7 = .ok (.aload_n 0, 1) := by decide +kernel
theorem dX10_grade_8 : decode cX10_grade 8 = .ok (.bipush (-2), 2) := by decide +kernel
theorem dX10_grade_10 : decode cX10_grade 10 = .ok (.invokevirtual 76, 3) := by decide +kernel
theorem dX10_grade_13 : decode cX10_grade 13 = .ok (.ireturn, 1) := by decide +kernel
theorem dX10_change_0 : decode cX10_change 0 = .ok (.iload_n 1, 1) := by decide +kernel
theorem dX10_change_1 : decode cX10_change 1 = .ok (.invokestatic 287, 3) := by decide +kernel
theorem dX10_change_14 : decode cX10_change 14 = .ok (.aload_n 0, 1) := by decide +kernel
theorem dX10_change_15 : decode cX10_change 15 = .ok (.bipush (-2), 2) := by decide +kernel
theorem dX10_change_17 : decode cX10_change 17 = .ok (.invokevirtual 226, 3) := by decide +kernel
theorem dX10_change_20 : decode cX10_change 20 = .ok (.lreturn, 1) := by decide +kernel
theorem dX10_change_4 : decode cX10_change 4 = .ok (.ifCond .eq 10, 3) := by decide +kernel
theorem dX10_change_7 : decode cX10_change 7 = .ok (.iload_n 2, 1) := by decide +kernel
theorem dX10_change_8 : decode cX10_change 8 = .ok (.invokestatic 230, 3) := by decide +kernel
theorem dX10_change_11 : decode cX10_change 11 = .ok (.ifCond .ne 10, 3) := by decide +kernel
theorem dX10_change_21 : decode cX10_change 21 = .ok (.aload_n 0, 1) := by decide +kernel
theorem dX10_change_22 : decode cX10_change 22 = .ok (.iload_n 1, 1) := by decide +kernel
theorem dX10_change_23 : decode cX10_change 23 = .ok (.aload_n 0, 1) := by decide +kernel
theorem dX10_change_24 : decode cX10_change 24 = .ok (.invokevirtual 134, 3) := by decide +kernel
theorem dX10_change_27 : decode cX10_change 27 = .ok (.invokevirtual 293, 3) := by decide +kernel
theorem dX10_change_30 : decode cX10_change 30 = .ok (.aload_n 0, 1) := by decide +kernel
theorem dX10_change_31 : decode cX10_change 31 = .ok (.iload_n 2, 1) := by decide +kernel
theorem dX10_change_32 : decode cX10_change 32 = .ok (.invokevirtual 239, 3) := by decide +kernel
theorem dX10_change_35 : decode cX10_change 35 = .ok (.lreturn, 1) := by decide +kernel
theorem dX10_isSame_0 : decode cX10_isSame 0 = .ok (.aload_n 0, 1) := by decide +kernel
theorem dX10_isSame_1 : decode cX10_isSame 1 = .ok (.getfield 62, 3) := by decide +kernel
theorem dX10_isSame_4 : decode cX10_isSame 4 = .ok (.iload_n 1, 1) := by decide +kernel
theorem dX10_isSame_5 : decode cX10_isSame 5 = .ok (.iaload, 1) := by decide +kernel
theorem dX10_isSame_6 : decode cX10_isSame 6 = .ok (.aload_n 0, 1) := by decide +kernel
theorem dX10_isSame_7 : decode cX10_isSame 7 = .ok (.getfield 62, 3) := by decide +kernel
theorem dX10_isSame_10 : decode cX10_isSame 10 = .ok (.iload_n 2, 1) := by decide +kernel
theorem dX10_isSame_11 : decode cX10_isSame 11 = .ok (.iaload, 1) := by decide +kernel
theorem dX10_isSame_12 : decode cX10_isSame 12 = .ok (.if_icmp .ne 22, 3) := by decide +kernel
theorem dX10_isSame_34 : decode cX10_isSame 34 = .ok (.iconst 0, 1) := by decide +kernel
theorem dX10_isSame_35 : decode cX10_isSame 35 = .ok (.ireturn, 1) := by decide +kernel
theorem dX10_isSame_15 : decode cX10_isSame 15 = .ok (.aload_n 0, 1) := by decide +kernel
theorem dX10_isSame_16 : decode cX10_isSame 16 = .ok (.getfield 65, 3) := by decide +kernel
theorem dX10_isSame_19 : decode cX10_isSame 19 = .ok (.iload_n 1, 1) := by decide +kernel
theorem dX10_isSame_20 : decode cX10_isSame 20 = .ok (.iaload, 1) := by decide +kernel
theorem dX10_isSame_21 : decode cX10_isSame 21 = .ok (.aload_n 0, 1) := by decide +kernel
theorem dX10_isSame_22 : decode cX10_isSame 22 = .ok (.getfield 65, 3) := by decide +kernel
theorem dX10_isSame_25 : decode cX10_isSame 25 = .ok (.iload_n 2, 1) := by decide +kernel
theorem dX10_isSame_26 : decode cX10_isSame 26 = .ok (.iaload, 1) := by decide +kernel
theorem dX10_isSame_27 : decode cX10_isSame 27 = .ok (.if_icmp .ne 7, 3) := by decide +kernel
theorem dX10_isSame_30 : decode cX10_isSame 30 = .ok (.iconst 1, 1) := by decide +kernel
theorem dX10_isSame_31 : decode cX10_isSame 31 = .ok (.goto 4, 3) := by decide +kernel
theorem dX10_poolOf_0 : decode cX10_poolOf 0 = .ok (.iconst 1, 1) := by decide +kernel
theorem dX10_poolOf_1 : decode cX10_poolOf 1 = .ok (.iload_n 1, 1) := by decide +kernel
theorem dX10_poolOf_2 : decode cX10_poolOf 2 = .ok (.ishl, 1) := by decide +kernel
theorem dX10_poolOf_3 : decode cX10_poolOf 3 = .ok (.istore_n 2, 1) := by decide +kernel
theorem dX10_poolOf_4 : decode cX10_poolOf 4 = .ok (.iconst 0, 1) := by decide +kernel
theorem dX10_poolOf_5 : decode cX10_poolOf 5 = .ok (.istore_n 3, 1) := by decide +kernel
theorem dX10_poolOf_6 : decode cX10_poolOf 6 = .ok (.iload_n 3, 1) := by decide +kernel
theorem dX10_poolOf_7 : decode cX10_poolOf 7 = .ok (.aload_n 0, 1) := by decide +kernel
theorem dX10_poolOf_8 : decode cX10_poolOf 8 = .ok (.getfield 80, 3) := by decide +kernel
theorem dX10_poolOf_11 : decode cX10_poolOf 11 = .ok (.if_icmp .ge 98, 3) := by decide +kernel
theorem dX10_poolOf_14 : decode cX10_poolOf 14 = .ok (.iconst 0, 1) := by decide +kernel
theorem dX10_poolOf_15 : decode cX10_poolOf 15 = .ok (.istore 4, 2) := by decide +kernel
theorem dX10_poolOf_17 : decode cX10_poolOf 17 = .ok (.iload 4, 2) := by decide +kernel
theorem dX10_poolOf_19 : decode cX10_poolOf 19 = .ok (.aload_n 0, 1) := by decide +kernel
theorem dX10_poolOf_20 : decode cX10_poolOf 20 = .ok (.getfield 88, 3) := by decide +kernel
theorem dX10_poolOf_23 : decode cX10_poolOf 23 = .ok (.if_icmp .ge 80, 3) := by decide +kernel
theorem dX10_poolOf_26 : decode cX10_poolOf 26 = .ok (.aload_n 0, 1) := by decide +kernel
theorem dX10_poolOf_27 : decode cX10_poolOf 27 = .ok (.aload_n 0, 1) := by decide +kernel
theorem dX10_poolOf_28 : decode cX10_poolOf 28 = .ok (.getfield 25, 3) := by decide +kernel
theorem dX10_poolOf_31 : decode cX10_poolOf 31 = .ok (.iload 4, 2) := by decide +kernel
theorem dX10_poolOf_33 : decode cX10_poolOf 33 = .ok (.iaload, 1) := by decide +kernel
theorem dX10_poolOf_34 : decode cX10_poolOf 34 = .ok (.aload_n 0, 1) := by decide +kernel
theorem dX10_poolOf_35 : decode cX10_poolOf 35 = .ok (.getfield 28, 3) := by decide +kernel
theorem dX10_poolOf_38 : decode cX10_poolOf 38 = .ok (.iload 4, 2) := by decide +kernel
theorem dX10_poolOf_40 : decode cX10_poolOf 40 = .ok (.iaload, 1) := by decide +kernel
theorem dX10_poolOf_41 : decode cX10_poolOf 41 = .ok (.invokevirtual 296, 3) := by decide +kernel
theorem dX10_poolOf_44 : decode cX10_poolOf 44 = .ok (.ifCond .eq 53, 3) := by decide +kernel
theorem dX10_poolOf_97 : decode cX10_poolOf 97 = .ok (.iinc 4 1, 3) := by decide +kernel
theorem dX10_poolOf_100 : decode cX10_poolOf 100 = .ok (.goto (-83), 3) := by decide +kernel
theorem dX10_poolOf_47 : decode cX10_poolOf 47 = .ok (.iload_n 2, 1) := by decide +kernel
theorem dX10_poolOf_48 : decode cX10_poolOf 48 = .ok (.aload_n 0, 1) := by decide +kernel
theorem dX10_poolOf_49 : decode cX10_poolOf 49 = .ok (.getfield 25, 3) := by decide +kernel
theorem dX10_poolOf_52 : decode cX10_poolOf 52 = .ok (.iload 4, 2) := by decide +kernel
theorem dX10_poolOf_54 : decode cX10_poolOf 54 = .ok (.iaload, 1) := by decide +kernel
theorem dX10_poolOf_55 : decode cX10_poolOf 55 = .ok (.invokestatic 130, 3) := by decide +kernel
theorem dX10_poolOf_58 : decode cX10_poolOf 58 = .ok (.ifCond .ne 17, 3) := by decide +kernel
theorem dX10_poolOf_75 : decode cX10_poolOf 75 = .ok (.iload_n 2, 1) := by decide +kernel
theorem dX10_poolOf_76 : decode cX10_poolOf 76 = .ok (.iconst 1, 1) := by decide +kernel
theorem dX10_poolOf_77 : decode cX10_poolOf 77 = .ok (.aload_n 0, 1) := by decide +kernel
theorem dX10_poolOf_78 : decode cX10_poolOf 78 = .ok (.getfield 25, 3) := by decide +kernel
theorem dX10_poolOf_81 : decode cX10_poolOf 81 = .ok (.iload 4, 2) := by decide +kernel
theorem dX10_poolOf_83 : decode cX10_poolOf 83 = .ok (.iaload, 1) := by decide +kernel
theorem dX10_poolOf_84 : decode cX10_poolOf 84 = .ok (.ishl, 1) := by decide +kernel
theorem dX10_poolOf_85 : decode cX10_poolOf 85 = .ok (.iconst 1, 1) := by decide +kernel
theorem dX10_poolOf_86 : decode cX10_poolOf 86 = .ok (.aload_n 0, 1) := by decide +kernel
theorem dX10_poolOf_87 : decode cX10_poolOf 87 = .ok (.getfield 28, 3) := by decide +kernel
theorem dX10_poolOf_90 : decode cX10_poolOf 90 = .ok (.iload 4, 2) := by decide +kernel
theorem dX10_poolOf_92 : decode cX10_poolOf 92 = .ok (.iaload, 1) := by decide +kernel
theorem dX10_poolOf_93 : decode cX10_poolOf 93 = .ok (.ishl, 1) := by decide +kernel
theorem dX10_poolOf_94 : decode cX10_poolOf 94 = .ok (.ior, 1) := by decide +kernel
theorem dX10_poolOf_95 : decode cX10_poolOf 95 = .ok (.ior, 1) := by decide +kernel
theorem dX10_poolOf_96 : decode cX10_poolOf 96 = .ok (.istore_n 2, 1) := by decide +kernel
theorem dX10_poolOf_61 : decode cX10_poolOf 61 = .ok (.iload_n 2, 1) := by decide +kernel
theorem dX10_poolOf_62 : decode cX10_poolOf 62 = .ok (.aload_n 0, 1) := by decide +kernel
theorem dX10_poolOf_63 : decode cX10_poolOf 63 = .ok (.getfield 28, 3) := by decide +kernel
theorem dX10_poolOf_66 : decode cX10_poolOf 66 = .ok (.iload 4, 2) := by decide +kernel
theorem dX10_poolOf_68 : decode cX10_poolOf 68 = .ok (.iaload, 1) := by decide +kernel
theorem dX10_poolOf_69 : decode cX10_poolOf 69 = .ok (.invokestatic 130, 3) := by decide +kernel
theorem dX10_poolOf_72 : decode cX10_poolOf 72 = .ok (.ifCond .eq 25, 3) := by decide +kernel
theorem dX10_poolOf_103 : decode cX10_poolOf 103 = .ok (.iinc 3 1, 3) := by decide +kernel
theorem dX10_poolOf_106 : decode cX10_poolOf 106 = .ok (.goto (-100), 3) := by decide +kernel
theorem dX10_poolOf_109 : decode cX10_poolOf 109 = .ok (.iload_n 2, 1) := by decide +kernel
theorem dX10_poolOf_110 : decode cX10_poolOf 110 = .ok (.ireturn, 1) := by decide +kernel
theorem dX10_pool_0 : decode cX10_pool 0 = .ok (.iload_n 1, 1) := by decide +kernel
theorem dX10_pool_1 : decode cX10_pool 1 = .ok (.invokestatic 287, 3) := by decide +kernel
theorem dX10_pool_4 : decode cX10_pool 4 = .ok (.ifCond .ne 10, 3) := by decide +kernel
theorem dX10_pool_14 : decode cX10_pool 14 = .ok (.aload_n 0, 1) := by decide +kernel
theorem dX10_pool_15 : decode cX10_pool 15 = .ok (.iload_n 2, 1) := by decide +kernel
theorem dX10_pool_16 : decode cX10_pool 16 = .ok (.invokevirtual 122, 3) := by decide +kernel
theorem dX10_pool_19 : decode cX10_pool 19 = .ok (.ifCond .ne 9, 3) := by decide +kernel
theorem dX10_pool_28 : decode cX10_pool 28 = .ok (.aload_n 0, 1) := by decide +kernel
theorem dX10_pool_29 : decode cX10_pool 29 = .ok (.iload_n 1, 1) := by decide +kernel
theorem dX10_pool_30 : decode cX10_pool 30 = .ok (.aload_n 0, 1) := by decide +kernel
theorem dX10_pool_31 : decode cX10_pool 31 = .ok (.invokevirtual 134, 3) := by decide +kernel
theorem dX10_pool_34 : decode cX10_pool 34 = .ok (.invokevirtual 282, 3) := by decide +kernel
theorem dX10_pool_37 : decode cX10_pool 37 = .ok (.aload_n 0, 1) := by decide +kernel
theorem dX10_pool_38 : decode cX10_pool 38 = .ok (.iload_n 2, 1) := by decide +kernel
theorem dX10_pool_39 : decode cX10_pool 39 = .ok (.invokevirtual 299, 3) := by decide +kernel
theorem dX10_pool_42 : decode cX10_pool 42 = .ok (.ireturn, 1) := by decide +kernel
theorem dX10_pool_22 : decode cX10_pool 22 = .ok (.aload_n 0, 1) := by decide +kernel
theorem dX10_pool_23 : decode cX10_pool 23 = .ok (.iconst (-1), 1) := by decide +kernel
theorem dX10_pool_24 : decode cX10_pool 24 = .ok (.invokevirtual 76, 3) := by decide +kernel
theorem dX10_pool_27 : decode cX10_pool 27 = .ok (.ireturn, 1) := by decide +kernel
theorem dX10_pool_7 : decode cX10_pool 7 = .ok (.aload_n 0, 1) := by decide +kernel
theorem dX10_pool_8 : decode cX10_pool 8 = .ok (.bipush (-2), 2) := by decide +kernel
theorem dX10_pool_10 : decode cX10_pool 10 = .ok (.invokevirtual 76, 3) := by decide +kernel
theorem dX10_pool_13 : decode cX10_pool 13 = .ok (.ireturn, 1) := by decide +kernel
set_option maxHeartbeats 4000000 in
set_option maxRecDepth 100000 in
theorem c_X10_changes (l : Launch) (g : GG) (a0 : Nat → Nat) (v0_papers : Int32) (v0_raw : (Nat → Int32)) (v0_kind : (Nat → Int32)) (v0_figure : (Nat → Int32)) (v0_heavy : (Nat → Int32)) (v0_place : (Nat → Int32)) (v0_rules : Int32) (v0_lower : (Nat → Int32)) (v0_upper : (Nat → Int32)) (v0_limits : Int32) (v0_limit : (Nat → Int32)) (v0_ties : Int32) (v0_letter : (Nat → Int32)) (v0_letters : Int32) (v0_told : (Nat → Int32)) (v0_tolds : Int32) (v0_places : (Nat → Int32)) (v0_cell : (Nat → Int64)) (v0_refusals : (Nat → Int32)) (v0_imaged : (Nat → Int32)) (v0_hasImage : Int32) (v0_before : (Nat → Int32)) (v0_up : Int64) (v0_down : Int64) (v0_beneath : (Nat → Int32)) (v0_numberUp : Int32) (v0_numberDown : Int32) (v0_block : (Nat → Int32)) (v0_blocks : Int32) (v0_merged : Int32) (v0_valueUp : (Nat → Int32)) (v0_valueDown : (Nat → Int32)) (v0_said : (Nat → Int32)) (v0_saids : Int32) (v0_at : Int32) (v0_number : (Nat → Int32)) (p1 : Int32) (p2 : Int32) (hne : (m_X10_changes (v0_papers, v0_raw, v0_kind, v0_figure, v0_heavy, v0_place, v0_rules, v0_lower, v0_upper, v0_limits, v0_limit, v0_ties, v0_letter, v0_letters, v0_told, v0_tolds, v0_places, v0_cell, v0_refusals, v0_imaged, v0_hasImage, v0_before, v0_up, v0_down, v0_beneath, v0_numberUp, v0_numberDown, v0_block, v0_blocks, v0_merged, v0_valueUp, v0_valueDown, v0_said, v0_saids, v0_at, v0_number) p1 p2) ≠ none) : Ct l g yX10_changes cX10_changes 8 none ({ frames := 7, cells := 0, slots := 0, locals := 161 } : Room) [.ref (a0 0), .int p1, .int p2] (wX10 a0 g v0_papers v0_raw v0_kind v0_figure v0_heavy v0_place v0_rules v0_lower v0_upper v0_limits v0_limit v0_ties v0_letter v0_letters v0_told v0_tolds v0_places v0_cell v0_refusals v0_imaged v0_hasImage v0_before v0_up v0_down v0_beneath v0_numberUp v0_numberDown v0_block v0_blocks v0_merged v0_valueUp v0_valueDown v0_said v0_saids v0_at v0_number) (Qv g (m_X10_changes (v0_papers, v0_raw, v0_kind, v0_figure, v0_heavy, v0_place, v0_rules, v0_lower, v0_upper, v0_limits, v0_limit, v0_ties, v0_letter, v0_letters, v0_told, v0_tolds, v0_places, v0_cell, v0_refusals, v0_imaged, v0_hasImage, v0_before, v0_up, v0_down, v0_beneath, v0_numberUp, v0_numberDown, v0_block, v0_blocks, v0_merged, v0_valueUp, v0_valueDown, v0_said, v0_saids, v0_at, v0_number) p1 p2) (fun u => wX10 a0 g v0_papers v0_raw v0_kind v0_figure v0_heavy v0_place v0_rules v0_lower v0_upper v0_limits v0_limit v0_ties v0_letter v0_letters v0_told v0_tolds v0_places v0_cell v0_refusals v0_imaged v0_hasImage v0_before u.1 u.2.1 u.2.2.1 v0_numberUp v0_numberDown v0_block v0_blocks v0_merged u.2.2.2.1 u.2.2.2.2 v0_said v0_saids v0_at v0_number)) 0 0 := by
  obtain ⟨out, hf⟩ := ne_ex hne
  have hf0 := hf
  refine Ct.of (own := RX10) (by decide +kernel) rfl (Nat.le_of_ble_eq_true rfl) ?_
  intro p e s m below meth c hx hb hr hml hown hts hlocks hin hK A H locs hA hP hD hS hE ls hl
  have hl : lv_has ls 8 [(0, .ref (a0 0)), (1, .int p1), (2, .int p2)] := hl
  unfold m_X10_changes at hf
  refine lv_aload_n hx hb dX10_changes_0 rfl (lv_at hl 0 rfl) ?_
  refine lv_iload_n hx hb dX10_changes_1 rfl (lv_at hl 1 rfl) ?_
  refine lv_iload_n hx hb dX10_changes_2 rfl (lv_at hl 2 rfl) ?_
  refine cV hP hD hS hA hE (fun hPc hDc hSc => rV (As := [.int p1, .int p2]) (rest := []) hx hb hml hown hts hK (c_X10_values l g a0 v0_papers v0_raw v0_kind v0_figure v0_heavy v0_place v0_rules v0_lower v0_upper v0_limits v0_limit v0_ties v0_letter v0_letters v0_told v0_tolds v0_places v0_cell v0_refusals v0_imaged v0_hasImage v0_before v0_up v0_down v0_beneath v0_numberUp v0_numberDown v0_block v0_blocks v0_merged v0_valueUp v0_valueDown v0_said v0_saids v0_at v0_number p1 p2 (bnd_ne hf)) svV_X10_values kw1551 rfl rfl hPc hDc hSc rfl rfl hl.1 (Nat.le_of_ble_eq_true rfl) dX10_changes_3 ⟨Nat.le_of_ble_eq_true rfl, Nat.le_of_ble_eq_true rfl, rfl, rfl, Nat.le_of_ble_eq_true rfl, Nat.le_of_ble_eq_true rfl⟩) [(0, 22)] rfl rfl rfl (fun _ => rfl) (fun x1 H locs ex1 hP hD hS => ?_)
  have hf := bnd_of hf ex1
  have hP : va_P g.1 vwCl (wX10 a0 g v0_papers v0_raw v0_kind v0_figure v0_heavy v0_place v0_rules v0_lower v0_upper v0_limits v0_limit v0_ties v0_letter v0_letters v0_told v0_tolds v0_places v0_cell v0_refusals v0_imaged v0_hasImage v0_before x1.1 x1.2.1 x1.2.2.1 v0_numberUp v0_numberDown v0_block v0_blocks v0_merged x1.2.2.2.1 x1.2.2.2.2 v0_said v0_saids v0_at v0_number) H := hP
  have hD : va_D A (wX10 a0 g v0_papers v0_raw v0_kind v0_figure v0_heavy v0_place v0_rules v0_lower v0_upper v0_limits v0_limit v0_ties v0_letter v0_letters v0_told v0_tolds v0_places v0_cell v0_refusals v0_imaged v0_hasImage v0_before x1.1 x1.2.1 x1.2.2.1 v0_numberUp v0_numberDown v0_block v0_blocks v0_merged x1.2.2.2.1 x1.2.2.2.2 v0_said v0_saids v0_at v0_number) := hD
  refine lv_lconst (v := 0) hx hb dX10_changes_6 (by decide) ?_
  refine lv_lstore_n (lv' := [(3, .long (0 : Int64)), (0, .ref (a0 0)), (1, .int p1), (2, .int p2)]) hx hb dX10_changes_7 rfl hl (by decide) rfl (fun ls hl => ?_)
  refine lv_aload_n hx hb dX10_changes_8 rfl (lv_at hl 1 rfl) ?_
  refine lv_lconst (v := 0) hx hb dX10_changes_9 (by decide) ?_
  refine lv_lconst (v := 1) hx hb dX10_changes_10 (by decide) ?_
  refine cV hP hD hS hA hE (fun hPc hDc hSc => rV (As := [.long (0 : Int64), .long (1 : Int64)]) (rest := []) hx hb hml hown hts hK (c_X10_fraction l g a0 v0_papers v0_raw v0_kind v0_figure v0_heavy v0_place v0_rules v0_lower v0_upper v0_limits v0_limit v0_ties v0_letter v0_letters v0_told v0_tolds v0_places v0_cell v0_refusals v0_imaged v0_hasImage v0_before x1.1 x1.2.1 x1.2.2.1 v0_numberUp v0_numberDown v0_block v0_blocks v0_merged x1.2.2.2.1 x1.2.2.2.2 v0_said v0_saids v0_at v0_number (0 : Int64) (1 : Int64) (bnd_ne hf)) svV_X10_fraction kw1510 rfl rfl hPc hDc hSc rfl rfl hl.1 (Nat.le_of_ble_eq_true rfl) dX10_changes_11 ⟨Nat.le_of_ble_eq_true rfl, Nat.le_of_ble_eq_true rfl, rfl, rfl, Nat.le_of_ble_eq_true rfl, Nat.le_of_ble_eq_true rfl⟩) [(0, 22)] rfl rfl rfl (fun _ => rfl) (fun x2 H locs ex2 hP hD hS => ?_)
  have hf := bnd_of hf ex2
  have hP : va_P g.1 vwCl (wX10 a0 g v0_papers v0_raw v0_kind v0_figure v0_heavy v0_place v0_rules v0_lower v0_upper v0_limits v0_limit v0_ties v0_letter v0_letters v0_told v0_tolds v0_places v0_cell v0_refusals v0_imaged v0_hasImage v0_before x2.1 x2.2 x1.2.2.1 v0_numberUp v0_numberDown v0_block v0_blocks v0_merged x1.2.2.2.1 x1.2.2.2.2 v0_said v0_saids v0_at v0_number) H := hP
  have hD : va_D A (wX10 a0 g v0_papers v0_raw v0_kind v0_figure v0_heavy v0_place v0_rules v0_lower v0_upper v0_limits v0_limit v0_ties v0_letter v0_letters v0_told v0_tolds v0_places v0_cell v0_refusals v0_imaged v0_hasImage v0_before x2.1 x2.2 x1.2.2.1 v0_numberUp v0_numberDown v0_block v0_blocks v0_merged x1.2.2.2.1 x1.2.2.2.2 v0_said v0_saids v0_at v0_number) := hD
  refine lv_iconst (v := 0) hx hb dX10_changes_14 (by decide) ?_
  refine lv_istore (lv' := [(5, .int (0 : Int32)), (3, .long (0 : Int64)), (0, .ref (a0 0)), (1, .int p1), (2, .int p2)]) hx hb dX10_changes_15 hl (by decide) rfl (fun ls hl => ?_)
  obtain ⟨r21, er21, hf⟩ := bnd hf
  refine lp_W (P := fun z => ∀ (H : Heap) (locs : List Loc) (ls : Array Slot), va_P g.1 vwCl (wX10 a0 g v0_papers v0_raw v0_kind v0_figure v0_heavy v0_place v0_rules v0_lower v0_upper v0_limits v0_limit v0_ties v0_letter v0_letters v0_told v0_tolds v0_places v0_cell v0_refusals v0_imaged v0_hasImage v0_before z.2.2.1 z.2.2.2 x1.2.2.1 v0_numberUp v0_numberDown v0_block v0_blocks v0_merged x1.2.2.2.1 x1.2.2.2.2 v0_said v0_saids v0_at v0_number) H → va_D A (wX10 a0 g v0_papers v0_raw v0_kind v0_figure v0_heavy v0_place v0_rules v0_lower v0_upper v0_limits v0_limit v0_ties v0_letter v0_letters v0_told v0_tolds v0_places v0_cell v0_refusals v0_imaged v0_hasImage v0_before z.2.2.1 z.2.2.2 x1.2.2.1 v0_numberUp v0_numberDown v0_block v0_blocks v0_merged x1.2.2.2.1 x1.2.2.2.2 v0_said v0_saids v0_at v0_number) → va_S A s.heap H locs → lv_has ls 8 [(0, .ref (a0 0)), (1, .int p1), (3, .long z.1), (5, .int z.2.1)] → W p l e { frames := 7, cells := 0, slots := 0, locals := 161 } s m [.ref (a0 0), .int p1, .int p2].toArray below meth c H locs 0 0 (MQ below (Qv g (m_X10_changes (v0_papers, v0_raw, v0_kind, v0_figure, v0_heavy, v0_place, v0_rules, v0_lower, v0_upper, v0_limits, v0_limit, v0_ties, v0_letter, v0_letters, v0_told, v0_tolds, v0_places, v0_cell, v0_refusals, v0_imaged, v0_hasImage, v0_before, v0_up, v0_down, v0_beneath, v0_numberUp, v0_numberDown, v0_block, v0_blocks, v0_merged, v0_valueUp, v0_valueDown, v0_said, v0_saids, v0_at, v0_number) p1 p2) (fun u => wX10 a0 g v0_papers v0_raw v0_kind v0_figure v0_heavy v0_place v0_rules v0_lower v0_upper v0_limits v0_limit v0_ties v0_letter v0_letters v0_told v0_tolds v0_places v0_cell v0_refusals v0_imaged v0_hasImage v0_before u.1 u.2.1 u.2.2.1 v0_numberUp v0_numberDown v0_block v0_blocks v0_merged u.2.2.2.1 u.2.2.2.2 v0_said v0_saids v0_at v0_number) A) [.ref (a0 0), .int p1, .int p2].toArray s 0 0 A) (F0 m 17 ls [])) (E := fun r21 => ∀ (H : Heap) (locs : List Loc) (ls : Array Slot), va_P g.1 vwCl (wX10 a0 g v0_papers v0_raw v0_kind v0_figure v0_heavy v0_place v0_rules v0_lower v0_upper v0_limits v0_limit v0_ties v0_letter v0_letters v0_told v0_tolds v0_places v0_cell v0_refusals v0_imaged v0_hasImage v0_before r21.2.1 r21.2.2 x1.2.2.1 v0_numberUp v0_numberDown v0_block v0_blocks v0_merged x1.2.2.2.1 x1.2.2.2.2 v0_said v0_saids v0_at v0_number) H → va_D A (wX10 a0 g v0_papers v0_raw v0_kind v0_figure v0_heavy v0_place v0_rules v0_lower v0_upper v0_limits v0_limit v0_ties v0_letter v0_letters v0_told v0_tolds v0_places v0_cell v0_refusals v0_imaged v0_hasImage v0_before r21.2.1 r21.2.2 x1.2.2.1 v0_numberUp v0_numberDown v0_block v0_blocks v0_merged x1.2.2.2.1 x1.2.2.2.2 v0_said v0_saids v0_at v0_number) → va_S A s.heap H locs → lv_has ls 8 [(0, .ref (a0 0)), (1, .int p1), (3, .long r21.1)] → W p l e { frames := 7, cells := 0, slots := 0, locals := 161 } s m [.ref (a0 0), .int p1, .int p2].toArray below meth c H locs 0 0 (MQ below (Qv g (m_X10_changes (v0_papers, v0_raw, v0_kind, v0_figure, v0_heavy, v0_place, v0_rules, v0_lower, v0_upper, v0_limits, v0_limit, v0_ties, v0_letter, v0_letters, v0_told, v0_tolds, v0_places, v0_cell, v0_refusals, v0_imaged, v0_hasImage, v0_before, v0_up, v0_down, v0_beneath, v0_numberUp, v0_numberDown, v0_block, v0_blocks, v0_merged, v0_valueUp, v0_valueDown, v0_said, v0_saids, v0_at, v0_number) p1 p2) (fun u => wX10 a0 g v0_papers v0_raw v0_kind v0_figure v0_heavy v0_place v0_rules v0_lower v0_upper v0_limits v0_limit v0_ties v0_letter v0_letters v0_told v0_tolds v0_places v0_cell v0_refusals v0_imaged v0_hasImage v0_before u.1 u.2.1 u.2.2.1 v0_numberUp v0_numberDown v0_block v0_blocks v0_merged u.2.2.2.1 u.2.2.2.2 v0_said v0_saids v0_at v0_number) A) [.ref (a0 0), .int p1, .int p2].toArray s 0 0 A) (F0 m 146 ls [])) ?_ fu _ r21 er21 ?_ _ _ _ hP hD hS (lv_sub hl [2, 3, 1, 0] rfl)
  · rintro ⟨x10, x11, x12, x13⟩ y hf hB hXt H locs ls hP hD hS hl
    have hP : va_P g.1 vwCl (wX10 a0 g v0_papers v0_raw v0_kind v0_figure v0_heavy v0_place v0_rules v0_lower v0_upper v0_limits v0_limit v0_ties v0_letter v0_letters v0_told v0_tolds v0_places v0_cell v0_refusals v0_imaged v0_hasImage v0_before x12 x13 x1.2.2.1 v0_numberUp v0_numberDown v0_block v0_blocks v0_merged x1.2.2.2.1 x1.2.2.2.2 v0_said v0_saids v0_at v0_number) H := hP
    have hD : va_D A (wX10 a0 g v0_papers v0_raw v0_kind v0_figure v0_heavy v0_place v0_rules v0_lower v0_upper v0_limits v0_limit v0_ties v0_letter v0_letters v0_told v0_tolds v0_places v0_cell v0_refusals v0_imaged v0_hasImage v0_before x12 x13 x1.2.2.1 v0_numberUp v0_numberDown v0_block v0_blocks v0_merged x1.2.2.2.1 x1.2.2.2.2 v0_said v0_saids v0_at v0_number) := hD
    have hl : lv_has ls 8 [(0, .ref (a0 0)), (1, .int p1), (3, .long x10), (5, .int x11)] := hl
    have hf : m_X10_changes_l17 (v0_papers, v0_raw, v0_kind, v0_figure, v0_heavy, v0_place, v0_rules, v0_lower, v0_upper, v0_limits, v0_limit, v0_ties, v0_letter, v0_letters, v0_told, v0_tolds, v0_places, v0_cell, v0_refusals, v0_imaged, v0_hasImage, v0_before, v0_up, v0_down, v0_beneath, v0_numberUp, v0_numberDown, v0_block, v0_blocks, v0_merged, v0_valueUp, v0_valueDown, v0_said, v0_saids, v0_at, v0_number) p1 x1 x10 x11 x12 x13 = some y := hf
    unfold m_X10_changes_l17 at hf
    refine lv_iload hx hb dX10_changes_17 (lv_at hl 3 rfl) ?_
    refine lv_aload_n hx hb dX10_changes_19 rfl (lv_at hl 0 rfl) ?_
    refine va_get (D := g.1) (ci := 11) (v := .int v0_papers) (C := RX10) (T := TX10) (N := 36) hx hb hts layX10 hown hK.1 hP 0 rfl rfl 0 (by decide) (hts _ kw1277) (fun _ h9 => h9) rfl dX10_changes_20 ?_
    refine lv_icmp_ge (tgt := 146) hx hb dX10_changes_23 (by decide) (fun cb => ?_) (fun cb => ?_)
    · have hf := it_t cb hf
      exact hXt _ (Option.some.inj hf).symm _ _ _ hP hD hS (lv_sub hl [0, 1, 2] rfl)
    have hf := it_f cb hf
    refine lv_aload_n hx hb dX10_changes_26 rfl (lv_at hl 0 rfl) ?_
    refine va_get (D := g.1) (ci := 11) (v := .ref (a0 18)) (C := RX10) (T := TX10) (N := 36) hx hb hts layX10 hown hK.1 hP 0 rfl rfl 30 (by decide) (hts _ kw1307) (fun _ h9 => h9) rfl dX10_changes_27 ?_
    refine lv_iload hx hb dX10_changes_30 (lv_at hl 3 rfl) ?_
    have hi := it_n hf
    have hf := it_t hi hf
    refine va_iald hx hb hK.1 hP 18 0 rfl rfl (inb_in hi) dX10_changes_32 ?_
    refine lv_i2l (v := (x1.2.2.2.1 x11.toNatClampNeg).toInt64) hx hb dX10_changes_33 rfl ?_
    refine lv_aload_n hx hb dX10_changes_34 rfl (lv_at hl 0 rfl) ?_
    refine lv_iload hx hb dX10_changes_35 (lv_at hl 3 rfl) ?_
    refine cIp hP hD hS hA hE (fun hPc hDc hSc => rV (As := [.int x11]) (rest := [.long (x1.2.2.2.1 x11.toNatClampNeg).toInt64]) hx hb hml hown hts hK (c_X10_mark l g a0 v0_papers v0_raw v0_kind v0_figure v0_heavy v0_place v0_rules v0_lower v0_upper v0_limits v0_limit v0_ties v0_letter v0_letters v0_told v0_tolds v0_places v0_cell v0_refusals v0_imaged v0_hasImage v0_before x12 x13 x1.2.2.1 v0_numberUp v0_numberDown v0_block v0_blocks v0_merged x1.2.2.2.1 x1.2.2.2.2 v0_said v0_saids v0_at v0_number x11 (bnd_ne hf)) svV_X10_mark kw1421 rfl rfl hPc hDc hSc rfl rfl hl.1 (Nat.le_of_ble_eq_true rfl) dX10_changes_37 ⟨Nat.le_of_ble_eq_true rfl, Nat.le_of_ble_eq_true rfl, rfl, rfl, Nat.le_of_ble_eq_true rfl, Nat.le_of_ble_eq_true rfl⟩) [(0, 22)] rfl rfl rfl (fun x14 H locs ex14 nx14 hP hS => ?_)
    have hf := bnd_of hf ex14
    refine lv_i2l (v := x14.toInt64) hx hb dX10_changes_40 rfl ?_
    refine lv_aload_n hx hb dX10_changes_41 rfl (lv_at hl 0 rfl) ?_
    refine va_get (D := g.1) (ci := 11) (v := .ref (a0 19)) (C := RX10) (T := TX10) (N := 36) hx hb hts layX10 hown hK.1 hP 0 rfl rfl 31 (by decide) (hts _ kw1308) (fun _ h9 => h9) rfl dX10_changes_42 ?_
    refine lv_iload hx hb dX10_changes_45 (lv_at hl 3 rfl) ?_
    have hi := it_n hf
    have hf := it_t hi hf
    refine va_iald hx hb hK.1 hP 19 0 rfl rfl (inb_in hi) dX10_changes_47 ?_
    refine lv_i2l (v := (x1.2.2.2.2 x11.toNatClampNeg).toInt64) hx hb dX10_changes_48 rfl ?_
    refine lv_lmul hx hb dX10_changes_49 ?_
    refine lv_lsub hx hb dX10_changes_50 ?_
    refine va_mabs_long hx hb (hml.trans hl.1.symm) hown (hts _ kw1543) (hts _ kw813) (hts _ kw4) (hts _ kw814) (Nat.le_of_ble_eq_true rfl) (Nat.le_of_ble_eq_true rfl) (Nat.zero_le _) (Nat.zero_le _) dX10_changes_51 ?_
    obtain ⟨x15, ex15, hf⟩ := bnd hf
    refine nmL (Option.some.inj ex15) ?_
    refine lv_lstore (lv' := [(6, .long x15), (0, .ref (a0 0)), (1, .int p1), (3, .long x10), (5, .int x11)]) hx hb dX10_changes_54 hl (by decide) rfl (fun ls hl => ?_)
    refine lv_iload_n hx hb dX10_changes_56 rfl (lv_at hl 2 rfl) ?_
    refine lv_if_ne (tgt := 97) hx hb dX10_changes_57 (by decide) (fun cb => ?_) (fun cb => ?_)
    · have hf := it_f cb hf
      refine lv_iload_n hx hb dX10_changes_97 rfl (lv_at hl 2 rfl) ?_
      refine lv_iconst (v := 1) hx hb dX10_changes_98 (by decide) ?_
      refine lv_icmp_ne (tgt := 120) hx hb dX10_changes_99 (by decide) (fun cb => ?_) (fun cb => ?_)
      · have hf := it_f cb hf
        refine lv_lload_n hx hb dX10_changes_120 rfl (lv_at hl 3 rfl) ?_
        refine lv_ldc2 hx hb hown (hts _ kw1578) dX10_changes_121 ?_
        refine lv_lload hx hb dX10_changes_124 (lv_at hl 0 rfl) ?_
        refine lv_lmul hx hb dX10_changes_126 ?_
        refine lv_aload_n hx hb dX10_changes_127 rfl (lv_at hl 1 rfl) ?_
        refine va_get (D := g.1) (ci := 11) (v := .ref (a0 19)) (C := RX10) (T := TX10) (N := 36) hx hb hts layX10 hown hK.1 hP 0 rfl rfl 31 (by decide) (hts _ kw1308) (fun _ h9 => h9) rfl dX10_changes_128 ?_
        refine lv_iload hx hb dX10_changes_131 (lv_at hl 4 rfl) ?_
        have hi := it_n hf
        have hf := it_t hi hf
        refine va_iald hx hb hK.1 hP 19 0 rfl rfl (inb_in hi) dX10_changes_133 ?_
        refine lv_i2l (v := (x1.2.2.2.2 x11.toNatClampNeg).toInt64) hx hb dX10_changes_134 rfl ?_
        have hi := it_n hf
        have hf := it_t hi hf
        refine lv_ldiv hx hb dX10_changes_135 hi ?_
        refine va_mmax_long hx hb (hml.trans hl.1.symm) hown (hts _ kw1593) (hts _ kw1594) (hts _ kw4) (hts _ kw1595) (Nat.le_of_ble_eq_true rfl) (Nat.le_of_ble_eq_true rfl) (Nat.zero_le _) (Nat.zero_le _) dX10_changes_136 ?_
        obtain ⟨x16, ex16, hf⟩ := bnd hf
        refine nmL (Option.some.inj ex16) ?_
        refine lv_lstore_n (lv' := [(3, .long x16), (6, .long x15), (0, .ref (a0 0)), (1, .int p1), (5, .int x11)]) hx hb dX10_changes_139 rfl hl (by decide) rfl (fun ls hl => ?_)
        refine lv_iinc (v := (x11 + 1)) (lv' := [(5, .int (x11 + 1)), (3, .long x16), (6, .long x15), (0, .ref (a0 0)), (1, .int p1)]) hx hb dX10_changes_140 hl (k := 4) rfl (by rfl) (by decide) rfl (fun ls hl => ?_)
        refine lv_goto (tgt := 17) hx hb dX10_changes_143 (by decide) ?_
        exact hB _ (Option.some.inj hf).symm _ _ _ hP hD hS (lv_sub hl [3, 4, 1, 0] rfl)
      have hf := it_t cb hf
      refine lv_aload_n hx hb dX10_changes_102 rfl (lv_at hl 1 rfl) ?_
      refine lv_aload_n hx hb dX10_changes_103 rfl (lv_at hl 1 rfl) ?_
      refine lv_iload hx hb dX10_changes_104 (lv_at hl 4 rfl) ?_
      refine cIp hP hD hS hA hE (fun hPc hDc hSc => rV (As := [.int x11]) (rest := [.ref (a0 0)]) hx hb hml hown hts hK (c_X10_weight l g a0 v0_papers v0_raw v0_kind v0_figure v0_heavy v0_place v0_rules v0_lower v0_upper v0_limits v0_limit v0_ties v0_letter v0_letters v0_told v0_tolds v0_places v0_cell v0_refusals v0_imaged v0_hasImage v0_before x12 x13 x1.2.2.1 v0_numberUp v0_numberDown v0_block v0_blocks v0_merged x1.2.2.2.1 x1.2.2.2.2 v0_said v0_saids v0_at v0_number x11 (bnd_ne hf)) svV_X10_weight kw1429 rfl rfl hPc hDc hSc rfl rfl hl.1 (Nat.le_of_ble_eq_true rfl) dX10_changes_106 ⟨Nat.le_of_ble_eq_true rfl, Nat.le_of_ble_eq_true rfl, rfl, rfl, Nat.le_of_ble_eq_true rfl, Nat.le_of_ble_eq_true rfl⟩) [(0, 22)] rfl rfl rfl (fun x17 H locs ex17 nx17 hP hS => ?_)
      have hf := bnd_of hf ex17
      refine lv_i2l (v := x17.toInt64) hx hb dX10_changes_109 rfl ?_
      refine lv_lload hx hb dX10_changes_110 (lv_at hl 0 rfl) ?_
      refine lv_lmul hx hb dX10_changes_112 ?_
      refine lv_lconst (v := 1) hx hb dX10_changes_113 (by decide) ?_
      refine cV hP hD hS hA hE (fun hPc hDc hSc => rV (As := [.long (x17.toInt64 * x15), .long (1 : Int64)]) (rest := []) hx hb hml hown hts hK (c_X10_add l g a0 v0_papers v0_raw v0_kind v0_figure v0_heavy v0_place v0_rules v0_lower v0_upper v0_limits v0_limit v0_ties v0_letter v0_letters v0_told v0_tolds v0_places v0_cell v0_refusals v0_imaged v0_hasImage v0_before x12 x13 x1.2.2.1 v0_numberUp v0_numberDown v0_block v0_blocks v0_merged x1.2.2.2.1 x1.2.2.2.2 v0_said v0_saids v0_at v0_number (x17.toInt64 * x15) (1 : Int64) (bnd_ne hf)) svV_X10_add kw1516 rfl rfl hPc hDc hSc rfl rfl hl.1 (Nat.le_of_ble_eq_true rfl) dX10_changes_114 ⟨Nat.le_of_ble_eq_true rfl, Nat.le_of_ble_eq_true rfl, rfl, rfl, Nat.le_of_ble_eq_true rfl, Nat.le_of_ble_eq_true rfl⟩) [(0, 22)] rfl rfl rfl (fun _ => rfl) (fun x18 H locs ex18 hP hD hS => ?_)
      have hf := bnd_of hf ex18
      have hP : va_P g.1 vwCl (wX10 a0 g v0_papers v0_raw v0_kind v0_figure v0_heavy v0_place v0_rules v0_lower v0_upper v0_limits v0_limit v0_ties v0_letter v0_letters v0_told v0_tolds v0_places v0_cell v0_refusals v0_imaged v0_hasImage v0_before x18.1 x18.2 x1.2.2.1 v0_numberUp v0_numberDown v0_block v0_blocks v0_merged x1.2.2.2.1 x1.2.2.2.2 v0_said v0_saids v0_at v0_number) H := hP
      have hD : va_D A (wX10 a0 g v0_papers v0_raw v0_kind v0_figure v0_heavy v0_place v0_rules v0_lower v0_upper v0_limits v0_limit v0_ties v0_letter v0_letters v0_told v0_tolds v0_places v0_cell v0_refusals v0_imaged v0_hasImage v0_before x18.1 x18.2 x1.2.2.1 v0_numberUp v0_numberDown v0_block v0_blocks v0_merged x1.2.2.2.1 x1.2.2.2.2 v0_said v0_saids v0_at v0_number) := hD
      refine lv_goto (tgt := 140) hx hb dX10_changes_117 (by decide) ?_
      refine lv_iinc (v := (x11 + 1)) (lv' := [(5, .int (x11 + 1)), (6, .long x15), (0, .ref (a0 0)), (1, .int p1), (3, .long x10)]) hx hb dX10_changes_140 hl (k := 4) rfl (by rfl) (by decide) rfl (fun ls hl => ?_)
      refine lv_goto (tgt := 17) hx hb dX10_changes_143 (by decide) ?_
      exact hB _ (Option.some.inj hf).symm _ _ _ hP hD hS (lv_sub hl [2, 3, 4, 0] rfl)
    have hf := it_t cb hf
    refine lv_aload_n hx hb dX10_changes_60 rfl (lv_at hl 1 rfl) ?_
    refine lv_aload_n hx hb dX10_changes_61 rfl (lv_at hl 1 rfl) ?_
    refine lv_iload hx hb dX10_changes_62 (lv_at hl 4 rfl) ?_
    refine cIp hP hD hS hA hE (fun hPc hDc hSc => rV (As := [.int x11]) (rest := [.ref (a0 0)]) hx hb hml hown hts hK (c_X10_weight l g a0 v0_papers v0_raw v0_kind v0_figure v0_heavy v0_place v0_rules v0_lower v0_upper v0_limits v0_limit v0_ties v0_letter v0_letters v0_told v0_tolds v0_places v0_cell v0_refusals v0_imaged v0_hasImage v0_before x12 x13 x1.2.2.1 v0_numberUp v0_numberDown v0_block v0_blocks v0_merged x1.2.2.2.1 x1.2.2.2.2 v0_said v0_saids v0_at v0_number x11 (bnd_ne hf)) svV_X10_weight kw1429 rfl rfl hPc hDc hSc rfl rfl hl.1 (Nat.le_of_ble_eq_true rfl) dX10_changes_64 ⟨Nat.le_of_ble_eq_true rfl, Nat.le_of_ble_eq_true rfl, rfl, rfl, Nat.le_of_ble_eq_true rfl, Nat.le_of_ble_eq_true rfl⟩) [(0, 22)] rfl rfl rfl (fun x19 H locs ex19 nx19 hP hS => ?_)
    have hf := bnd_of hf ex19
    refine lv_i2l (v := x19.toInt64) hx hb dX10_changes_67 rfl ?_
    refine lv_lload hx hb dX10_changes_68 (lv_at hl 0 rfl) ?_
    refine lv_lmul hx hb dX10_changes_70 ?_
    refine lv_lload hx hb dX10_changes_71 (lv_at hl 0 rfl) ?_
    refine lv_lmul hx hb dX10_changes_73 ?_
    refine lv_aload_n hx hb dX10_changes_74 rfl (lv_at hl 1 rfl) ?_
    refine va_get (D := g.1) (ci := 11) (v := .ref (a0 19)) (C := RX10) (T := TX10) (N := 36) hx hb hts layX10 hown hK.1 hP 0 rfl rfl 31 (by decide) (hts _ kw1308) (fun _ h9 => h9) rfl dX10_changes_75 ?_
    refine lv_iload hx hb dX10_changes_78 (lv_at hl 4 rfl) ?_
    have hi := it_n hf
    have hf := it_t hi hf
    refine va_iald hx hb hK.1 hP 19 0 rfl rfl (inb_in hi) dX10_changes_80 ?_
    refine lv_i2l (v := (x1.2.2.2.2 x11.toNatClampNeg).toInt64) hx hb dX10_changes_81 rfl ?_
    refine lv_aload_n hx hb dX10_changes_82 rfl (lv_at hl 1 rfl) ?_
    refine va_get (D := g.1) (ci := 11) (v := .ref (a0 19)) (C := RX10) (T := TX10) (N := 36) hx hb hts layX10 hown hK.1 hP 0 rfl rfl 31 (by decide) (hts _ kw1308) (fun _ h9 => h9) rfl dX10_changes_83 ?_
    refine lv_iload hx hb dX10_changes_86 (lv_at hl 4 rfl) ?_
    have hi := it_n hf
    have hf := it_t hi hf
    refine va_iald hx hb hK.1 hP 19 0 rfl rfl (inb_in hi) dX10_changes_88 ?_
    refine lv_i2l (v := (x1.2.2.2.2 x11.toNatClampNeg).toInt64) hx hb dX10_changes_89 rfl ?_
    refine lv_lmul hx hb dX10_changes_90 ?_
    refine cV hP hD hS hA hE (fun hPc hDc hSc => rV (As := [.long ((x19.toInt64 * x15) * x15), .long ((x1.2.2.2.2 x11.toNatClampNeg).toInt64 * (x1.2.2.2.2 x11.toNatClampNeg).toInt64)]) (rest := []) hx hb hml hown hts hK (c_X10_add l g a0 v0_papers v0_raw v0_kind v0_figure v0_heavy v0_place v0_rules v0_lower v0_upper v0_limits v0_limit v0_ties v0_letter v0_letters v0_told v0_tolds v0_places v0_cell v0_refusals v0_imaged v0_hasImage v0_before x12 x13 x1.2.2.1 v0_numberUp v0_numberDown v0_block v0_blocks v0_merged x1.2.2.2.1 x1.2.2.2.2 v0_said v0_saids v0_at v0_number ((x19.toInt64 * x15) * x15) ((x1.2.2.2.2 x11.toNatClampNeg).toInt64 * (x1.2.2.2.2 x11.toNatClampNeg).toInt64) (bnd_ne hf)) svV_X10_add kw1516 rfl rfl hPc hDc hSc rfl rfl hl.1 (Nat.le_of_ble_eq_true rfl) dX10_changes_91 ⟨Nat.le_of_ble_eq_true rfl, Nat.le_of_ble_eq_true rfl, rfl, rfl, Nat.le_of_ble_eq_true rfl, Nat.le_of_ble_eq_true rfl⟩) [(0, 22)] rfl rfl rfl (fun _ => rfl) (fun x20 H locs ex20 hP hD hS => ?_)
    have hf := bnd_of hf ex20
    have hP : va_P g.1 vwCl (wX10 a0 g v0_papers v0_raw v0_kind v0_figure v0_heavy v0_place v0_rules v0_lower v0_upper v0_limits v0_limit v0_ties v0_letter v0_letters v0_told v0_tolds v0_places v0_cell v0_refusals v0_imaged v0_hasImage v0_before x20.1 x20.2 x1.2.2.1 v0_numberUp v0_numberDown v0_block v0_blocks v0_merged x1.2.2.2.1 x1.2.2.2.2 v0_said v0_saids v0_at v0_number) H := hP
    have hD : va_D A (wX10 a0 g v0_papers v0_raw v0_kind v0_figure v0_heavy v0_place v0_rules v0_lower v0_upper v0_limits v0_limit v0_ties v0_letter v0_letters v0_told v0_tolds v0_places v0_cell v0_refusals v0_imaged v0_hasImage v0_before x20.1 x20.2 x1.2.2.1 v0_numberUp v0_numberDown v0_block v0_blocks v0_merged x1.2.2.2.1 x1.2.2.2.2 v0_said v0_saids v0_at v0_number) := hD
    refine lv_goto (tgt := 140) hx hb dX10_changes_94 (by decide) ?_
    refine lv_iinc (v := (x11 + 1)) (lv' := [(5, .int (x11 + 1)), (6, .long x15), (0, .ref (a0 0)), (1, .int p1), (3, .long x10)]) hx hb dX10_changes_140 hl (k := 4) rfl (by rfl) (by decide) rfl (fun ls hl => ?_)
    refine lv_goto (tgt := 17) hx hb dX10_changes_143 (by decide) ?_
    exact hB _ (Option.some.inj hf).symm _ _ _ hP hD hS (lv_sub hl [2, 3, 4, 0] rfl)
  intro H locs ls hP hD hS hl
  have hP : va_P g.1 vwCl (wX10 a0 g v0_papers v0_raw v0_kind v0_figure v0_heavy v0_place v0_rules v0_lower v0_upper v0_limits v0_limit v0_ties v0_letter v0_letters v0_told v0_tolds v0_places v0_cell v0_refusals v0_imaged v0_hasImage v0_before r21.2.1 r21.2.2 x1.2.2.1 v0_numberUp v0_numberDown v0_block v0_blocks v0_merged x1.2.2.2.1 x1.2.2.2.2 v0_said v0_saids v0_at v0_number) H := hP
  have hD : va_D A (wX10 a0 g v0_papers v0_raw v0_kind v0_figure v0_heavy v0_place v0_rules v0_lower v0_upper v0_limits v0_limit v0_ties v0_letter v0_letters v0_told v0_tolds v0_places v0_cell v0_refusals v0_imaged v0_hasImage v0_before r21.2.1 r21.2.2 x1.2.2.1 v0_numberUp v0_numberDown v0_block v0_blocks v0_merged x1.2.2.2.1 x1.2.2.2.2 v0_said v0_saids v0_at v0_number) := hD
  have hl : lv_has ls 8 [(0, .ref (a0 0)), (1, .int p1), (3, .long r21.1)] := hl
  refine lv_iload_n hx hb dX10_changes_146 rfl (lv_at hl 1 rfl) ?_
  refine lv_iconst (v := 2) hx hb dX10_changes_147 (by decide) ?_
  refine lv_icmp_ne (tgt := 159) hx hb dX10_changes_148 (by decide) (fun cb => ?_) (fun cb => ?_)
  · have hf := it_f cb hf
    exact retV (u := (r21.2.1, r21.2.2, x1.2.2.1, x1.2.2.2.1, x1.2.2.2.2)) (W1 := fun u => wX10 a0 g v0_papers v0_raw v0_kind v0_figure v0_heavy v0_place v0_rules v0_lower v0_upper v0_limits v0_limit v0_ties v0_letter v0_letters v0_told v0_tolds v0_places v0_cell v0_refusals v0_imaged v0_hasImage v0_before u.1 u.2.1 u.2.2.1 v0_numberUp v0_numberDown v0_block v0_blocks v0_merged u.2.2.2.1 u.2.2.2.2 v0_said v0_saids v0_at v0_number) hx hb hr hlocks hS hP hD (hf0.trans hf.symm) dX10_changes_159
  have hf := it_t cb hf
  refine lv_aload_n hx hb dX10_changes_151 rfl (lv_at hl 0 rfl) ?_
  refine lv_lload_n hx hb dX10_changes_152 rfl (lv_at hl 2 rfl) ?_
  refine lv_ldc2 hx hb hown (hts _ kw1578) dX10_changes_153 ?_
  refine cV hP hD hS hA hE (fun hPc hDc hSc => rV (As := [.long r21.1, .long (2 : Int64)]) (rest := []) hx hb hml hown hts hK (c_X10_fraction l g a0 v0_papers v0_raw v0_kind v0_figure v0_heavy v0_place v0_rules v0_lower v0_upper v0_limits v0_limit v0_ties v0_letter v0_letters v0_told v0_tolds v0_places v0_cell v0_refusals v0_imaged v0_hasImage v0_before r21.2.1 r21.2.2 x1.2.2.1 v0_numberUp v0_numberDown v0_block v0_blocks v0_merged x1.2.2.2.1 x1.2.2.2.2 v0_said v0_saids v0_at v0_number r21.1 (2 : Int64) (bnd_ne hf)) svV_X10_fraction kw1510 rfl rfl hPc hDc hSc rfl rfl hl.1 (Nat.le_of_ble_eq_true rfl) dX10_changes_156 ⟨Nat.le_of_ble_eq_true rfl, Nat.le_of_ble_eq_true rfl, rfl, rfl, Nat.le_of_ble_eq_true rfl, Nat.le_of_ble_eq_true rfl⟩) [(0, 22)] rfl rfl rfl (fun _ => rfl) (fun x22 H locs ex22 hP hD hS => ?_)
  have hf := bnd_of hf ex22
  have hP : va_P g.1 vwCl (wX10 a0 g v0_papers v0_raw v0_kind v0_figure v0_heavy v0_place v0_rules v0_lower v0_upper v0_limits v0_limit v0_ties v0_letter v0_letters v0_told v0_tolds v0_places v0_cell v0_refusals v0_imaged v0_hasImage v0_before x22.1 x22.2 x1.2.2.1 v0_numberUp v0_numberDown v0_block v0_blocks v0_merged x1.2.2.2.1 x1.2.2.2.2 v0_said v0_saids v0_at v0_number) H := hP
  have hD : va_D A (wX10 a0 g v0_papers v0_raw v0_kind v0_figure v0_heavy v0_place v0_rules v0_lower v0_upper v0_limits v0_limit v0_ties v0_letter v0_letters v0_told v0_tolds v0_places v0_cell v0_refusals v0_imaged v0_hasImage v0_before x22.1 x22.2 x1.2.2.1 v0_numberUp v0_numberDown v0_block v0_blocks v0_merged x1.2.2.2.1 x1.2.2.2.2 v0_said v0_saids v0_at v0_number) := hD
  exact retV (u := (x22.1, x22.2, x1.2.2.1, x1.2.2.2.1, x1.2.2.2.2)) (W1 := fun u => wX10 a0 g v0_papers v0_raw v0_kind v0_figure v0_heavy v0_place v0_rules v0_lower v0_upper v0_limits v0_limit v0_ties v0_letter v0_letters v0_told v0_tolds v0_places v0_cell v0_refusals v0_imaged v0_hasImage v0_before u.1 u.2.1 u.2.2.1 v0_numberUp v0_numberDown v0_block v0_blocks v0_merged u.2.2.2.1 u.2.2.2.2 v0_said v0_saids v0_at v0_number) hx hb hr hlocks hS hP hD (hf0.trans hf.symm) dX10_changes_159
set_option maxHeartbeats 4000000 in
set_option maxRecDepth 100000 in
theorem c_X10_value (l : Launch) (g : GG) (a0 : Nat → Nat) (v0_papers : Int32) (v0_raw : (Nat → Int32)) (v0_kind : (Nat → Int32)) (v0_figure : (Nat → Int32)) (v0_heavy : (Nat → Int32)) (v0_place : (Nat → Int32)) (v0_rules : Int32) (v0_lower : (Nat → Int32)) (v0_upper : (Nat → Int32)) (v0_limits : Int32) (v0_limit : (Nat → Int32)) (v0_ties : Int32) (v0_letter : (Nat → Int32)) (v0_letters : Int32) (v0_told : (Nat → Int32)) (v0_tolds : Int32) (v0_places : (Nat → Int32)) (v0_cell : (Nat → Int64)) (v0_refusals : (Nat → Int32)) (v0_imaged : (Nat → Int32)) (v0_hasImage : Int32) (v0_before : (Nat → Int32)) (v0_up : Int64) (v0_down : Int64) (v0_beneath : (Nat → Int32)) (v0_numberUp : Int32) (v0_numberDown : Int32) (v0_block : (Nat → Int32)) (v0_blocks : Int32) (v0_merged : Int32) (v0_valueUp : (Nat → Int32)) (v0_valueDown : (Nat → Int32)) (v0_said : (Nat → Int32)) (v0_saids : Int32) (v0_at : Int32) (v0_number : (Nat → Int32)) (p1 : Int32) (p2 : Int32) (p3 : Int32) (hne : (m_X10_value (v0_papers, v0_raw, v0_kind, v0_figure, v0_heavy, v0_place, v0_rules, v0_lower, v0_upper, v0_limits, v0_limit, v0_ties, v0_letter, v0_letters, v0_told, v0_tolds, v0_places, v0_cell, v0_refusals, v0_imaged, v0_hasImage, v0_before, v0_up, v0_down, v0_beneath, v0_numberUp, v0_numberDown, v0_block, v0_blocks, v0_merged, v0_valueUp, v0_valueDown, v0_said, v0_saids, v0_at, v0_number) p1 p2 p3) ≠ none) : Ct l g yX10_value cX10_value 4 (some .long) ({ frames := 7, cells := 0, slots := 0, locals := 161 } : Room) [.ref (a0 0), .int p1, .int p2, .int p3] (wX10 a0 g v0_papers v0_raw v0_kind v0_figure v0_heavy v0_place v0_rules v0_lower v0_upper v0_limits v0_limit v0_ties v0_letter v0_letters v0_told v0_tolds v0_places v0_cell v0_refusals v0_imaged v0_hasImage v0_before v0_up v0_down v0_beneath v0_numberUp v0_numberDown v0_block v0_blocks v0_merged v0_valueUp v0_valueDown v0_said v0_saids v0_at v0_number) (Ql g (m_X10_value (v0_papers, v0_raw, v0_kind, v0_figure, v0_heavy, v0_place, v0_rules, v0_lower, v0_upper, v0_limits, v0_limit, v0_ties, v0_letter, v0_letters, v0_told, v0_tolds, v0_places, v0_cell, v0_refusals, v0_imaged, v0_hasImage, v0_before, v0_up, v0_down, v0_beneath, v0_numberUp, v0_numberDown, v0_block, v0_blocks, v0_merged, v0_valueUp, v0_valueDown, v0_said, v0_saids, v0_at, v0_number) p1 p2 p3) (fun u => u.1) (fun u => wX10 a0 g v0_papers v0_raw v0_kind v0_figure v0_heavy v0_place v0_rules v0_lower v0_upper v0_limits v0_limit v0_ties v0_letter v0_letters v0_told v0_tolds v0_places v0_cell u.2.1 v0_imaged v0_hasImage v0_before u.2.2.1 u.2.2.2.1 u.2.2.2.2.1 v0_numberUp v0_numberDown v0_block v0_blocks v0_merged u.2.2.2.2.2.1 u.2.2.2.2.2.2 v0_said v0_saids v0_at v0_number)) 0 0 := by
  obtain ⟨out, hf⟩ := ne_ex hne
  have hf0 := hf
  refine Ct.of (own := RX10) (by decide +kernel) rfl (Nat.le_of_ble_eq_true rfl) ?_
  intro p e s m below meth c hx hb hr hml hown hts hlocks hin hK A H locs hA hP hD hS hE ls hl
  have hl : lv_has ls 4 [(0, .ref (a0 0)), (1, .int p1), (2, .int p2), (3, .int p3)] := hl
  unfold m_X10_value at hf
  refine lv_iload_n hx hb dX10_value_0 rfl (lv_at hl 1 rfl) ?_
  refine cIp hP hD hS hA hE (fun hPc hDc hSc => rS (As := [.int p1]) (rest := []) hx hb hml hown hts hK (c_X10_isLoss l g p1 (bnd_ne hf)) svS_X10_isLoss kw1548 hPc hDc hSc rfl rfl hl.1 (Nat.le_of_ble_eq_true rfl) dX10_value_1 ⟨Nat.le_of_ble_eq_true rfl, Nat.le_of_ble_eq_true rfl, rfl, rfl, Nat.le_of_ble_eq_true rfl, Nat.le_of_ble_eq_true rfl⟩) [] rfl rfl rfl (fun x1 H locs ex1 nx1 hP hS => ?_)
  have hf := bnd_of hf ex1
  refine lv_if_ne (tgt := 14) hx hb dX10_value_4 (by decide) (fun cb => ?_) (fun cb => ?_)
  · have hf := it_f cb hf
    refine lv_aload_n hx hb dX10_value_14 rfl (lv_at hl 0 rfl) ?_
    refine lv_iload_n hx hb dX10_value_15 rfl (lv_at hl 2 rfl) ?_
    refine cIp hP hD hS hA hE (fun hPc hDc hSc => rV (As := [.int p2]) (rest := []) hx hb hml hown hts hK (c_X10_isPaper l g a0 v0_papers v0_raw v0_kind v0_figure v0_heavy v0_place v0_rules v0_lower v0_upper v0_limits v0_limit v0_ties v0_letter v0_letters v0_told v0_tolds v0_places v0_cell v0_refusals v0_imaged v0_hasImage v0_before v0_up v0_down v0_beneath v0_numberUp v0_numberDown v0_block v0_blocks v0_merged v0_valueUp v0_valueDown v0_said v0_saids v0_at v0_number p2 (bnd_ne hf)) svV_X10_isPaper kw1361 rfl rfl hPc hDc hSc rfl rfl hl.1 (Nat.le_of_ble_eq_true rfl) dX10_value_16 ⟨Nat.le_of_ble_eq_true rfl, Nat.le_of_ble_eq_true rfl, rfl, rfl, Nat.le_of_ble_eq_true rfl, Nat.le_of_ble_eq_true rfl⟩) [(0, 22)] rfl rfl rfl (fun x2 H locs ex2 nx2 hP hS => ?_)
    have hf := bnd_of hf ex2
    refine lv_if_ne (tgt := 28) hx hb dX10_value_19 (by decide) (fun cb => ?_) (fun cb => ?_)
    · have hf := it_f cb hf
      refine lv_iload_n hx hb dX10_value_28 rfl (lv_at hl 3 rfl) ?_
      refine cIp hP hD hS hA hE (fun hPc hDc hSc => rS (As := [.int p3]) (rest := []) hx hb hml hown hts hK (c_X10_isPart l g p3 (bnd_ne hf)) svS_X10_isPart kw1471 hPc hDc hSc rfl rfl hl.1 (Nat.le_of_ble_eq_true rfl) dX10_value_29 ⟨Nat.le_of_ble_eq_true rfl, Nat.le_of_ble_eq_true rfl, rfl, rfl, Nat.le_of_ble_eq_true rfl, Nat.le_of_ble_eq_true rfl⟩) [] rfl rfl rfl (fun x3 H locs ex3 nx3 hP hS => ?_)
      have hf := bnd_of hf ex3
      refine lv_if_ne (tgt := 42) hx hb dX10_value_32 (by decide) (fun cb => ?_) (fun cb => ?_)
      · have hf := it_f cb hf
        refine lv_aload_n hx hb dX10_value_42 rfl (lv_at hl 0 rfl) ?_
        refine lv_iload_n hx hb dX10_value_43 rfl (lv_at hl 1 rfl) ?_
        refine lv_aload_n hx hb dX10_value_44 rfl (lv_at hl 0 rfl) ?_
        refine cIp hP hD hS hA hE (fun hPc hDc hSc => rV (As := []) (rest := [.int p1, .ref (a0 0)]) hx hb hml hown hts hK (c_X10_allRules l g a0 v0_papers v0_raw v0_kind v0_figure v0_heavy v0_place v0_rules v0_lower v0_upper v0_limits v0_limit v0_ties v0_letter v0_letters v0_told v0_tolds v0_places v0_cell v0_refusals v0_imaged v0_hasImage v0_before v0_up v0_down v0_beneath v0_numberUp v0_numberDown v0_block v0_blocks v0_merged v0_valueUp v0_valueDown v0_said v0_saids v0_at v0_number (bnd_ne hf)) svV_X10_allRules kw1389 rfl rfl hPc hDc hSc rfl rfl hl.1 (Nat.le_of_ble_eq_true rfl) dX10_value_45 ⟨Nat.le_of_ble_eq_true rfl, Nat.le_of_ble_eq_true rfl, rfl, rfl, Nat.le_of_ble_eq_true rfl, Nat.le_of_ble_eq_true rfl⟩) [(0, 22)] rfl rfl rfl (fun x4 H locs ex4 nx4 hP hS => ?_)
        have hf := bnd_of hf ex4
        refine cV hP hD hS hA hE (fun hPc hDc hSc => rV (As := [.int p1, .int x4]) (rest := []) hx hb hml hown hts hK (c_X10_values l g a0 v0_papers v0_raw v0_kind v0_figure v0_heavy v0_place v0_rules v0_lower v0_upper v0_limits v0_limit v0_ties v0_letter v0_letters v0_told v0_tolds v0_places v0_cell v0_refusals v0_imaged v0_hasImage v0_before v0_up v0_down v0_beneath v0_numberUp v0_numberDown v0_block v0_blocks v0_merged v0_valueUp v0_valueDown v0_said v0_saids v0_at v0_number p1 x4 (bnd_ne hf)) svV_X10_values kw1551 rfl rfl hPc hDc hSc rfl rfl hl.1 (Nat.le_of_ble_eq_true rfl) dX10_value_48 ⟨Nat.le_of_ble_eq_true rfl, Nat.le_of_ble_eq_true rfl, rfl, rfl, Nat.le_of_ble_eq_true rfl, Nat.le_of_ble_eq_true rfl⟩) [(0, 22)] rfl rfl rfl (fun _ => rfl) (fun x5 H locs ex5 hP hD hS => ?_)
        have hf := bnd_of hf ex5
        have hP : va_P g.1 vwCl (wX10 a0 g v0_papers v0_raw v0_kind v0_figure v0_heavy v0_place v0_rules v0_lower v0_upper v0_limits v0_limit v0_ties v0_letter v0_letters v0_told v0_tolds v0_places v0_cell v0_refusals v0_imaged v0_hasImage v0_before x5.1 x5.2.1 x5.2.2.1 v0_numberUp v0_numberDown v0_block v0_blocks v0_merged x5.2.2.2.1 x5.2.2.2.2 v0_said v0_saids v0_at v0_number) H := hP
        have hD : va_D A (wX10 a0 g v0_papers v0_raw v0_kind v0_figure v0_heavy v0_place v0_rules v0_lower v0_upper v0_limits v0_limit v0_ties v0_letter v0_letters v0_told v0_tolds v0_places v0_cell v0_refusals v0_imaged v0_hasImage v0_before x5.1 x5.2.1 x5.2.2.1 v0_numberUp v0_numberDown v0_block v0_blocks v0_merged x5.2.2.2.1 x5.2.2.2.2 v0_said v0_saids v0_at v0_number) := hD
        refine lv_iload_n hx hb dX10_value_51 rfl (lv_at hl 3 rfl) ?_
        refine lv_if_ne (tgt := 65) hx hb dX10_value_52 (by decide) (fun cb => ?_) (fun cb => ?_)
        · have hf := it_f cb hf
          refine lv_aload_n hx hb dX10_value_65 rfl (lv_at hl 0 rfl) ?_
          refine va_get (D := g.1) (ci := 11) (v := .ref (a0 19)) (C := RX10) (T := TX10) (N := 36) hx hb hts layX10 hown hK.1 hP 0 rfl rfl 31 (by decide) (hts _ kw1308) (fun _ h9 => h9) rfl dX10_value_66 ?_
          refine lv_iload_n hx hb dX10_value_69 rfl (lv_at hl 2 rfl) ?_
          have hi := it_n hf
          have hf := it_t hi hf
          refine va_iald hx hb hK.1 hP 19 0 rfl rfl (inb_in hi) dX10_value_70 ?_
          refine lv_i2l (v := (x5.2.2.2.2 p2.toNatClampNeg).toInt64) hx hb dX10_value_71 rfl ?_
          exact retL (u := ((x5.2.2.2.2 p2.toNatClampNeg).toInt64, v0_refusals, x5.1, x5.2.1, x5.2.2.1, x5.2.2.2.1, x5.2.2.2.2)) (val := fun u => u.1) (W1 := fun u => wX10 a0 g v0_papers v0_raw v0_kind v0_figure v0_heavy v0_place v0_rules v0_lower v0_upper v0_limits v0_limit v0_ties v0_letter v0_letters v0_told v0_tolds v0_places v0_cell u.2.1 v0_imaged v0_hasImage v0_before u.2.2.1 u.2.2.2.1 u.2.2.2.2.1 v0_numberUp v0_numberDown v0_block v0_blocks v0_merged u.2.2.2.2.2.1 u.2.2.2.2.2.2 v0_said v0_saids v0_at v0_number) hx hb hr hlocks hS hP hD (hf0.trans hf.symm) rfl dX10_value_72
        have hf := it_t cb hf
        refine lv_aload_n hx hb dX10_value_55 rfl (lv_at hl 0 rfl) ?_
        refine va_get (D := g.1) (ci := 11) (v := .ref (a0 18)) (C := RX10) (T := TX10) (N := 36) hx hb hts layX10 hown hK.1 hP 0 rfl rfl 30 (by decide) (hts _ kw1307) (fun _ h9 => h9) rfl dX10_value_56 ?_
        refine lv_iload_n hx hb dX10_value_59 rfl (lv_at hl 2 rfl) ?_
        have hi := it_n hf
        have hf := it_t hi hf
        refine va_iald hx hb hK.1 hP 18 0 rfl rfl (inb_in hi) dX10_value_60 ?_
        refine lv_i2l (v := (x5.2.2.2.1 p2.toNatClampNeg).toInt64) hx hb dX10_value_61 rfl ?_
        refine lv_goto (tgt := 72) hx hb dX10_value_62 (by decide) ?_
        exact retL (u := ((x5.2.2.2.1 p2.toNatClampNeg).toInt64, v0_refusals, x5.1, x5.2.1, x5.2.2.1, x5.2.2.2.1, x5.2.2.2.2)) (val := fun u => u.1) (W1 := fun u => wX10 a0 g v0_papers v0_raw v0_kind v0_figure v0_heavy v0_place v0_rules v0_lower v0_upper v0_limits v0_limit v0_ties v0_letter v0_letters v0_told v0_tolds v0_places v0_cell u.2.1 v0_imaged v0_hasImage v0_before u.2.2.1 u.2.2.2.1 u.2.2.2.2.1 v0_numberUp v0_numberDown v0_block v0_blocks v0_merged u.2.2.2.2.2.1 u.2.2.2.2.2.2 v0_said v0_saids v0_at v0_number) hx hb hr hlocks hS hP hD (hf0.trans hf.symm) rfl dX10_value_72
      have hf := it_t cb hf
      refine lv_aload_n hx hb dX10_value_35 rfl (lv_at hl 0 rfl) ?_
      refine lv_bipush (v := (-2)) hx hb dX10_value_36 (by decide) ?_
      refine cL hP hD hS hA hE (fun hPc hDc hSc => rV (As := [.int (-2 : Int32)]) (rest := []) hx hb hml hown hts hK (c_X10_far l g a0 v0_papers v0_raw v0_kind v0_figure v0_heavy v0_place v0_rules v0_lower v0_upper v0_limits v0_limit v0_ties v0_letter v0_letters v0_told v0_tolds v0_places v0_cell v0_refusals v0_imaged v0_hasImage v0_before v0_up v0_down v0_beneath v0_numberUp v0_numberDown v0_block v0_blocks v0_merged v0_valueUp v0_valueDown v0_said v0_saids v0_at v0_number (-2 : Int32) (bnd_ne hf)) svV_X10_far kw1467 rfl rfl hPc hDc hSc rfl rfl hl.1 (Nat.le_of_ble_eq_true rfl) dX10_value_38 ⟨Nat.le_of_ble_eq_true rfl, Nat.le_of_ble_eq_true rfl, rfl, rfl, Nat.le_of_ble_eq_true rfl, Nat.le_of_ble_eq_true rfl⟩) [(0, 22)] rfl rfl rfl (fun _ => rfl) (fun x6 H locs ex6 hP hD hS => ?_)
      have hf := bnd_of hf ex6
      have hP : va_P g.1 vwCl (wX10 a0 g v0_papers v0_raw v0_kind v0_figure v0_heavy v0_place v0_rules v0_lower v0_upper v0_limits v0_limit v0_ties v0_letter v0_letters v0_told v0_tolds v0_places v0_cell x6.2 v0_imaged v0_hasImage v0_before v0_up v0_down v0_beneath v0_numberUp v0_numberDown v0_block v0_blocks v0_merged v0_valueUp v0_valueDown v0_said v0_saids v0_at v0_number) H := hP
      have hD : va_D A (wX10 a0 g v0_papers v0_raw v0_kind v0_figure v0_heavy v0_place v0_rules v0_lower v0_upper v0_limits v0_limit v0_ties v0_letter v0_letters v0_told v0_tolds v0_places v0_cell x6.2 v0_imaged v0_hasImage v0_before v0_up v0_down v0_beneath v0_numberUp v0_numberDown v0_block v0_blocks v0_merged v0_valueUp v0_valueDown v0_said v0_saids v0_at v0_number) := hD
      exact retL (u := (x6.1, x6.2, v0_up, v0_down, v0_beneath, v0_valueUp, v0_valueDown)) (val := fun u => u.1) (W1 := fun u => wX10 a0 g v0_papers v0_raw v0_kind v0_figure v0_heavy v0_place v0_rules v0_lower v0_upper v0_limits v0_limit v0_ties v0_letter v0_letters v0_told v0_tolds v0_places v0_cell u.2.1 v0_imaged v0_hasImage v0_before u.2.2.1 u.2.2.2.1 u.2.2.2.2.1 v0_numberUp v0_numberDown v0_block v0_blocks v0_merged u.2.2.2.2.2.1 u.2.2.2.2.2.2 v0_said v0_saids v0_at v0_number) hx hb hr hlocks hS hP hD (hf0.trans hf.symm) rfl dX10_value_41
    have hf := it_t cb hf
    refine lv_aload_n hx hb dX10_value_22 rfl (lv_at hl 0 rfl) ?_
    refine lv_iconst (v := (-1)) hx hb dX10_value_23 (by decide) ?_
    refine cL hP hD hS hA hE (fun hPc hDc hSc => rV (As := [.int (-1 : Int32)]) (rest := []) hx hb hml hown hts hK (c_X10_far l g a0 v0_papers v0_raw v0_kind v0_figure v0_heavy v0_place v0_rules v0_lower v0_upper v0_limits v0_limit v0_ties v0_letter v0_letters v0_told v0_tolds v0_places v0_cell v0_refusals v0_imaged v0_hasImage v0_before v0_up v0_down v0_beneath v0_numberUp v0_numberDown v0_block v0_blocks v0_merged v0_valueUp v0_valueDown v0_said v0_saids v0_at v0_number (-1 : Int32) (bnd_ne hf)) svV_X10_far kw1467 rfl rfl hPc hDc hSc rfl rfl hl.1 (Nat.le_of_ble_eq_true rfl) dX10_value_24 ⟨Nat.le_of_ble_eq_true rfl, Nat.le_of_ble_eq_true rfl, rfl, rfl, Nat.le_of_ble_eq_true rfl, Nat.le_of_ble_eq_true rfl⟩) [(0, 22)] rfl rfl rfl (fun _ => rfl) (fun x7 H locs ex7 hP hD hS => ?_)
    have hf := bnd_of hf ex7
    have hP : va_P g.1 vwCl (wX10 a0 g v0_papers v0_raw v0_kind v0_figure v0_heavy v0_place v0_rules v0_lower v0_upper v0_limits v0_limit v0_ties v0_letter v0_letters v0_told v0_tolds v0_places v0_cell x7.2 v0_imaged v0_hasImage v0_before v0_up v0_down v0_beneath v0_numberUp v0_numberDown v0_block v0_blocks v0_merged v0_valueUp v0_valueDown v0_said v0_saids v0_at v0_number) H := hP
    have hD : va_D A (wX10 a0 g v0_papers v0_raw v0_kind v0_figure v0_heavy v0_place v0_rules v0_lower v0_upper v0_limits v0_limit v0_ties v0_letter v0_letters v0_told v0_tolds v0_places v0_cell x7.2 v0_imaged v0_hasImage v0_before v0_up v0_down v0_beneath v0_numberUp v0_numberDown v0_block v0_blocks v0_merged v0_valueUp v0_valueDown v0_said v0_saids v0_at v0_number) := hD
    exact retL (u := (x7.1, x7.2, v0_up, v0_down, v0_beneath, v0_valueUp, v0_valueDown)) (val := fun u => u.1) (W1 := fun u => wX10 a0 g v0_papers v0_raw v0_kind v0_figure v0_heavy v0_place v0_rules v0_lower v0_upper v0_limits v0_limit v0_ties v0_letter v0_letters v0_told v0_tolds v0_places v0_cell u.2.1 v0_imaged v0_hasImage v0_before u.2.2.1 u.2.2.2.1 u.2.2.2.2.1 v0_numberUp v0_numberDown v0_block v0_blocks v0_merged u.2.2.2.2.2.1 u.2.2.2.2.2.2 v0_said v0_saids v0_at v0_number) hx hb hr hlocks hS hP hD (hf0.trans hf.symm) rfl dX10_value_27
  have hf := it_t cb hf
  refine lv_aload_n hx hb dX10_value_7 rfl (lv_at hl 0 rfl) ?_
  refine lv_bipush (v := (-2)) hx hb dX10_value_8 (by decide) ?_
  refine cL hP hD hS hA hE (fun hPc hDc hSc => rV (As := [.int (-2 : Int32)]) (rest := []) hx hb hml hown hts hK (c_X10_far l g a0 v0_papers v0_raw v0_kind v0_figure v0_heavy v0_place v0_rules v0_lower v0_upper v0_limits v0_limit v0_ties v0_letter v0_letters v0_told v0_tolds v0_places v0_cell v0_refusals v0_imaged v0_hasImage v0_before v0_up v0_down v0_beneath v0_numberUp v0_numberDown v0_block v0_blocks v0_merged v0_valueUp v0_valueDown v0_said v0_saids v0_at v0_number (-2 : Int32) (bnd_ne hf)) svV_X10_far kw1467 rfl rfl hPc hDc hSc rfl rfl hl.1 (Nat.le_of_ble_eq_true rfl) dX10_value_10 ⟨Nat.le_of_ble_eq_true rfl, Nat.le_of_ble_eq_true rfl, rfl, rfl, Nat.le_of_ble_eq_true rfl, Nat.le_of_ble_eq_true rfl⟩) [(0, 22)] rfl rfl rfl (fun _ => rfl) (fun x8 H locs ex8 hP hD hS => ?_)
  have hf := bnd_of hf ex8
  have hP : va_P g.1 vwCl (wX10 a0 g v0_papers v0_raw v0_kind v0_figure v0_heavy v0_place v0_rules v0_lower v0_upper v0_limits v0_limit v0_ties v0_letter v0_letters v0_told v0_tolds v0_places v0_cell x8.2 v0_imaged v0_hasImage v0_before v0_up v0_down v0_beneath v0_numberUp v0_numberDown v0_block v0_blocks v0_merged v0_valueUp v0_valueDown v0_said v0_saids v0_at v0_number) H := hP
  have hD : va_D A (wX10 a0 g v0_papers v0_raw v0_kind v0_figure v0_heavy v0_place v0_rules v0_lower v0_upper v0_limits v0_limit v0_ties v0_letter v0_letters v0_told v0_tolds v0_places v0_cell x8.2 v0_imaged v0_hasImage v0_before v0_up v0_down v0_beneath v0_numberUp v0_numberDown v0_block v0_blocks v0_merged v0_valueUp v0_valueDown v0_said v0_saids v0_at v0_number) := hD
  exact retL (u := (x8.1, x8.2, v0_up, v0_down, v0_beneath, v0_valueUp, v0_valueDown)) (val := fun u => u.1) (W1 := fun u => wX10 a0 g v0_papers v0_raw v0_kind v0_figure v0_heavy v0_place v0_rules v0_lower v0_upper v0_limits v0_limit v0_ties v0_letter v0_letters v0_told v0_tolds v0_places v0_cell u.2.1 v0_imaged v0_hasImage v0_before u.2.2.1 u.2.2.2.1 u.2.2.2.2.1 v0_numberUp v0_numberDown v0_block v0_blocks v0_merged u.2.2.2.2.2.1 u.2.2.2.2.2.2 v0_said v0_saids v0_at v0_number) hx hb hr hlocks hS hP hD (hf0.trans hf.symm) rfl dX10_value_13
set_option maxHeartbeats 4000000 in
set_option maxRecDepth 100000 in
theorem c_X10_gradeBy (l : Launch) (g : GG) (a0 : Nat → Nat) (v0_papers : Int32) (v0_raw : (Nat → Int32)) (v0_kind : (Nat → Int32)) (v0_figure : (Nat → Int32)) (v0_heavy : (Nat → Int32)) (v0_place : (Nat → Int32)) (v0_rules : Int32) (v0_lower : (Nat → Int32)) (v0_upper : (Nat → Int32)) (v0_limits : Int32) (v0_limit : (Nat → Int32)) (v0_ties : Int32) (v0_letter : (Nat → Int32)) (v0_letters : Int32) (v0_told : (Nat → Int32)) (v0_tolds : Int32) (v0_places : (Nat → Int32)) (v0_cell : (Nat → Int64)) (v0_refusals : (Nat → Int32)) (v0_imaged : (Nat → Int32)) (v0_hasImage : Int32) (v0_before : (Nat → Int32)) (v0_up : Int64) (v0_down : Int64) (v0_beneath : (Nat → Int32)) (v0_numberUp : Int32) (v0_numberDown : Int32) (v0_block : (Nat → Int32)) (v0_blocks : Int32) (v0_merged : Int32) (v0_valueUp : (Nat → Int32)) (v0_valueDown : (Nat → Int32)) (v0_said : (Nat → Int32)) (v0_saids : Int32) (v0_at : Int32) (v0_number : (Nat → Int32)) (p1 : Int32) (p2 : Int32) (hne : (m_X10_gradeBy (v0_papers, v0_raw, v0_kind, v0_figure, v0_heavy, v0_place, v0_rules, v0_lower, v0_upper, v0_limits, v0_limit, v0_ties, v0_letter, v0_letters, v0_told, v0_tolds, v0_places, v0_cell, v0_refusals, v0_imaged, v0_hasImage, v0_before, v0_up, v0_down, v0_beneath, v0_numberUp, v0_numberDown, v0_block, v0_blocks, v0_merged, v0_valueUp, v0_valueDown, v0_said, v0_saids, v0_at, v0_number) p1 p2) ≠ none) : Ct l g yX10_gradeBy cX10_gradeBy 3 (some .int) ({ frames := 7, cells := 0, slots := 0, locals := 161 } : Room) [.ref (a0 0), .int p1, .int p2] (wX10 a0 g v0_papers v0_raw v0_kind v0_figure v0_heavy v0_place v0_rules v0_lower v0_upper v0_limits v0_limit v0_ties v0_letter v0_letters v0_told v0_tolds v0_places v0_cell v0_refusals v0_imaged v0_hasImage v0_before v0_up v0_down v0_beneath v0_numberUp v0_numberDown v0_block v0_blocks v0_merged v0_valueUp v0_valueDown v0_said v0_saids v0_at v0_number) (Qi g .int (m_X10_gradeBy (v0_papers, v0_raw, v0_kind, v0_figure, v0_heavy, v0_place, v0_rules, v0_lower, v0_upper, v0_limits, v0_limit, v0_ties, v0_letter, v0_letters, v0_told, v0_tolds, v0_places, v0_cell, v0_refusals, v0_imaged, v0_hasImage, v0_before, v0_up, v0_down, v0_beneath, v0_numberUp, v0_numberDown, v0_block, v0_blocks, v0_merged, v0_valueUp, v0_valueDown, v0_said, v0_saids, v0_at, v0_number) p1 p2) (fun u => u.1) (fun u => wX10 a0 g v0_papers v0_raw v0_kind v0_figure v0_heavy v0_place v0_rules v0_lower v0_upper v0_limits v0_limit v0_ties v0_letter v0_letters v0_told v0_tolds v0_places v0_cell v0_refusals v0_imaged v0_hasImage v0_before u.2.1 u.2.2.1 u.2.2.2.1 v0_numberUp v0_numberDown v0_block v0_blocks v0_merged u.2.2.2.2.1 u.2.2.2.2.2 v0_said v0_saids v0_at v0_number)) 0 0 := by
  obtain ⟨out, hf⟩ := ne_ex hne
  have hf0 := hf
  refine Ct.of (own := RX10) (by decide +kernel) rfl (Nat.le_of_ble_eq_true rfl) ?_
  intro p e s m below meth c hx hb hr hml hown hts hlocks hin hK A H locs hA hP hD hS hE ls hl
  have hl : lv_has ls 3 [(0, .ref (a0 0)), (1, .int p1), (2, .int p2)] := hl
  unfold m_X10_gradeBy at hf
  refine lv_aload_n hx hb dX10_gradeBy_0 rfl (lv_at hl 0 rfl) ?_
  refine lv_iload_n hx hb dX10_gradeBy_1 rfl (lv_at hl 1 rfl) ?_
  refine lv_aload_n hx hb dX10_gradeBy_2 rfl (lv_at hl 0 rfl) ?_
  refine cIp hP hD hS hA hE (fun hPc hDc hSc => rV (As := []) (rest := [.int p1, .ref (a0 0)]) hx hb hml hown hts hK (c_X10_allRules l g a0 v0_papers v0_raw v0_kind v0_figure v0_heavy v0_place v0_rules v0_lower v0_upper v0_limits v0_limit v0_ties v0_letter v0_letters v0_told v0_tolds v0_places v0_cell v0_refusals v0_imaged v0_hasImage v0_before v0_up v0_down v0_beneath v0_numberUp v0_numberDown v0_block v0_blocks v0_merged v0_valueUp v0_valueDown v0_said v0_saids v0_at v0_number (bnd_ne hf)) svV_X10_allRules kw1389 rfl rfl hPc hDc hSc rfl rfl hl.1 (Nat.le_of_ble_eq_true rfl) dX10_gradeBy_3 ⟨Nat.le_of_ble_eq_true rfl, Nat.le_of_ble_eq_true rfl, rfl, rfl, Nat.le_of_ble_eq_true rfl, Nat.le_of_ble_eq_true rfl⟩) [(0, 22)] rfl rfl rfl (fun x1 H locs ex1 nx1 hP hS => ?_)
  have hf := bnd_of hf ex1
  refine cV hP hD hS hA hE (fun hPc hDc hSc => rV (As := [.int p1, .int x1]) (rest := []) hx hb hml hown hts hK (c_X10_values l g a0 v0_papers v0_raw v0_kind v0_figure v0_heavy v0_place v0_rules v0_lower v0_upper v0_limits v0_limit v0_ties v0_letter v0_letters v0_told v0_tolds v0_places v0_cell v0_refusals v0_imaged v0_hasImage v0_before v0_up v0_down v0_beneath v0_numberUp v0_numberDown v0_block v0_blocks v0_merged v0_valueUp v0_valueDown v0_said v0_saids v0_at v0_number p1 x1 (bnd_ne hf)) svV_X10_values kw1551 rfl rfl hPc hDc hSc rfl rfl hl.1 (Nat.le_of_ble_eq_true rfl) dX10_gradeBy_6 ⟨Nat.le_of_ble_eq_true rfl, Nat.le_of_ble_eq_true rfl, rfl, rfl, Nat.le_of_ble_eq_true rfl, Nat.le_of_ble_eq_true rfl⟩) [(0, 22)] rfl rfl rfl (fun _ => rfl) (fun x2 H locs ex2 hP hD hS => ?_)
  have hf := bnd_of hf ex2
  have hP : va_P g.1 vwCl (wX10 a0 g v0_papers v0_raw v0_kind v0_figure v0_heavy v0_place v0_rules v0_lower v0_upper v0_limits v0_limit v0_ties v0_letter v0_letters v0_told v0_tolds v0_places v0_cell v0_refusals v0_imaged v0_hasImage v0_before x2.1 x2.2.1 x2.2.2.1 v0_numberUp v0_numberDown v0_block v0_blocks v0_merged x2.2.2.2.1 x2.2.2.2.2 v0_said v0_saids v0_at v0_number) H := hP
  have hD : va_D A (wX10 a0 g v0_papers v0_raw v0_kind v0_figure v0_heavy v0_place v0_rules v0_lower v0_upper v0_limits v0_limit v0_ties v0_letter v0_letters v0_told v0_tolds v0_places v0_cell v0_refusals v0_imaged v0_hasImage v0_before x2.1 x2.2.1 x2.2.2.1 v0_numberUp v0_numberDown v0_block v0_blocks v0_merged x2.2.2.2.1 x2.2.2.2.2 v0_said v0_saids v0_at v0_number) := hD
  refine lv_aload_n hx hb dX10_gradeBy_9 rfl (lv_at hl 0 rfl) ?_
  refine lv_aload_n hx hb dX10_gradeBy_10 rfl (lv_at hl 0 rfl) ?_
  refine va_get (D := g.1) (ci := 11) (v := .ref (a0 18)) (C := RX10) (T := TX10) (N := 36) hx hb hts layX10 hown hK.1 hP 0 rfl rfl 30 (by decide) (hts _ kw1307) (fun _ h9 => h9) rfl dX10_gradeBy_11 ?_
  refine lv_iload_n hx hb dX10_gradeBy_14 rfl (lv_at hl 2 rfl) ?_
  have hi := it_n hf
  have hf := it_t hi hf
  refine va_iald hx hb hK.1 hP 18 0 rfl rfl (inb_in hi) dX10_gradeBy_15 ?_
  refine lv_i2l (v := (x2.2.2.2.1 p2.toNatClampNeg).toInt64) hx hb dX10_gradeBy_16 rfl ?_
  refine lv_aload_n hx hb dX10_gradeBy_17 rfl (lv_at hl 0 rfl) ?_
  refine va_get (D := g.1) (ci := 11) (v := .ref (a0 19)) (C := RX10) (T := TX10) (N := 36) hx hb hts layX10 hown hK.1 hP 0 rfl rfl 31 (by decide) (hts _ kw1308) (fun _ h9 => h9) rfl dX10_gradeBy_18 ?_
  refine lv_iload_n hx hb dX10_gradeBy_21 rfl (lv_at hl 2 rfl) ?_
  have hi := it_n hf
  have hf := it_t hi hf
  refine va_iald hx hb hK.1 hP 19 0 rfl rfl (inb_in hi) dX10_gradeBy_22 ?_
  refine lv_i2l (v := (x2.2.2.2.2 p2.toNatClampNeg).toInt64) hx hb dX10_gradeBy_23 rfl ?_
  refine cIp hP hD hS hA hE (fun hPc hDc hSc => rV (As := [.long (x2.2.2.2.1 p2.toNatClampNeg).toInt64, .long (x2.2.2.2.2 p2.toNatClampNeg).toInt64]) (rest := []) hx hb hml hown hts hK (c_X10_gradeOf l g a0 v0_papers v0_raw v0_kind v0_figure v0_heavy v0_place v0_rules v0_lower v0_upper v0_limits v0_limit v0_ties v0_letter v0_letters v0_told v0_tolds v0_places v0_cell v0_refusals v0_imaged v0_hasImage v0_before x2.1 x2.2.1 x2.2.2.1 v0_numberUp v0_numberDown v0_block v0_blocks v0_merged x2.2.2.2.1 x2.2.2.2.2 v0_said v0_saids v0_at v0_number (x2.2.2.2.1 p2.toNatClampNeg).toInt64 (x2.2.2.2.2 p2.toNatClampNeg).toInt64 (bnd_ne hf)) svV_X10_gradeOf kw1432 rfl rfl hPc hDc hSc rfl rfl hl.1 (Nat.le_of_ble_eq_true rfl) dX10_gradeBy_24 ⟨Nat.le_of_ble_eq_true rfl, Nat.le_of_ble_eq_true rfl, rfl, rfl, Nat.le_of_ble_eq_true rfl, Nat.le_of_ble_eq_true rfl⟩) [(0, 22)] rfl rfl rfl (fun x3 H locs ex3 nx3 hP hS => ?_)
  have hf := bnd_of hf ex3
  exact retI (v := x3) (u := (x3, x2.1, x2.2.1, x2.2.2.1, x2.2.2.2.1, x2.2.2.2.2)) (val := fun u => u.1) (W1 := fun u => wX10 a0 g v0_papers v0_raw v0_kind v0_figure v0_heavy v0_place v0_rules v0_lower v0_upper v0_limits v0_limit v0_ties v0_letter v0_letters v0_told v0_tolds v0_places v0_cell v0_refusals v0_imaged v0_hasImage v0_before u.2.1 u.2.2.1 u.2.2.2.1 v0_numberUp v0_numberDown v0_block v0_blocks v0_merged u.2.2.2.2.1 u.2.2.2.2.2 v0_said v0_saids v0_at v0_number) hx hb hr hlocks hS hP hD (hf0.trans hf.symm) rfl rfl dX10_gradeBy_27
set_option maxHeartbeats 4000000 in
set_option maxRecDepth 100000 in
theorem c_X10_grade (l : Launch) (g : GG) (a0 : Nat → Nat) (v0_papers : Int32) (v0_raw : (Nat → Int32)) (v0_kind : (Nat → Int32)) (v0_figure : (Nat → Int32)) (v0_heavy : (Nat → Int32)) (v0_place : (Nat → Int32)) (v0_rules : Int32) (v0_lower : (Nat → Int32)) (v0_upper : (Nat → Int32)) (v0_limits : Int32) (v0_limit : (Nat → Int32)) (v0_ties : Int32) (v0_letter : (Nat → Int32)) (v0_letters : Int32) (v0_told : (Nat → Int32)) (v0_tolds : Int32) (v0_places : (Nat → Int32)) (v0_cell : (Nat → Int64)) (v0_refusals : (Nat → Int32)) (v0_imaged : (Nat → Int32)) (v0_hasImage : Int32) (v0_before : (Nat → Int32)) (v0_up : Int64) (v0_down : Int64) (v0_beneath : (Nat → Int32)) (v0_numberUp : Int32) (v0_numberDown : Int32) (v0_block : (Nat → Int32)) (v0_blocks : Int32) (v0_merged : Int32) (v0_valueUp : (Nat → Int32)) (v0_valueDown : (Nat → Int32)) (v0_said : (Nat → Int32)) (v0_saids : Int32) (v0_at : Int32) (v0_number : (Nat → Int32)) (p1 : Int32) (p2 : Int32) (hne : (m_X10_grade (v0_papers, v0_raw, v0_kind, v0_figure, v0_heavy, v0_place, v0_rules, v0_lower, v0_upper, v0_limits, v0_limit, v0_ties, v0_letter, v0_letters, v0_told, v0_tolds, v0_places, v0_cell, v0_refusals, v0_imaged, v0_hasImage, v0_before, v0_up, v0_down, v0_beneath, v0_numberUp, v0_numberDown, v0_block, v0_blocks, v0_merged, v0_valueUp, v0_valueDown, v0_said, v0_saids, v0_at, v0_number) p1 p2) ≠ none) : Ct l g yX10_grade cX10_grade 3 (some .int) ({ frames := 8, cells := 0, slots := 0, locals := 183 } : Room) [.ref (a0 0), .int p1, .int p2] (wX10 a0 g v0_papers v0_raw v0_kind v0_figure v0_heavy v0_place v0_rules v0_lower v0_upper v0_limits v0_limit v0_ties v0_letter v0_letters v0_told v0_tolds v0_places v0_cell v0_refusals v0_imaged v0_hasImage v0_before v0_up v0_down v0_beneath v0_numberUp v0_numberDown v0_block v0_blocks v0_merged v0_valueUp v0_valueDown v0_said v0_saids v0_at v0_number) (Qi g .int (m_X10_grade (v0_papers, v0_raw, v0_kind, v0_figure, v0_heavy, v0_place, v0_rules, v0_lower, v0_upper, v0_limits, v0_limit, v0_ties, v0_letter, v0_letters, v0_told, v0_tolds, v0_places, v0_cell, v0_refusals, v0_imaged, v0_hasImage, v0_before, v0_up, v0_down, v0_beneath, v0_numberUp, v0_numberDown, v0_block, v0_blocks, v0_merged, v0_valueUp, v0_valueDown, v0_said, v0_saids, v0_at, v0_number) p1 p2) (fun u => u.1) (fun u => wX10 a0 g v0_papers v0_raw v0_kind v0_figure v0_heavy v0_place v0_rules v0_lower v0_upper v0_limits v0_limit v0_ties v0_letter v0_letters v0_told v0_tolds v0_places v0_cell u.2.1 v0_imaged v0_hasImage v0_before u.2.2.1 u.2.2.2.1 u.2.2.2.2.1 v0_numberUp v0_numberDown v0_block v0_blocks v0_merged u.2.2.2.2.2.1 u.2.2.2.2.2.2 v0_said v0_saids v0_at v0_number)) 0 0 := by
  obtain ⟨out, hf⟩ := ne_ex hne
  have hf0 := hf
  refine Ct.of (own := RX10) (by decide +kernel) rfl (Nat.le_of_ble_eq_true rfl) ?_
  intro p e s m below meth c hx hb hr hml hown hts hlocks hin hK A H locs hA hP hD hS hE ls hl
  have hl : lv_has ls 3 [(0, .ref (a0 0)), (1, .int p1), (2, .int p2)] := hl
  unfold m_X10_grade at hf
  refine lv_iload_n hx hb dX10_grade_0 rfl (lv_at hl 1 rfl) ?_
  refine cIp hP hD hS hA hE (fun hPc hDc hSc => rS (As := [.int p1]) (rest := []) hx hb hml hown hts hK (c_X10_isLoss l g p1 (bnd_ne hf)) svS_X10_isLoss kw1548 hPc hDc hSc rfl rfl hl.1 (Nat.le_of_ble_eq_true rfl) dX10_grade_1 ⟨Nat.le_of_ble_eq_true rfl, Nat.le_of_ble_eq_true rfl, rfl, rfl, Nat.le_of_ble_eq_true rfl, Nat.le_of_ble_eq_true rfl⟩) [] rfl rfl rfl (fun x1 H locs ex1 nx1 hP hS => ?_)
  have hf := bnd_of hf ex1
  refine lv_if_ne (tgt := 14) hx hb dX10_grade_4 (by decide) (fun cb => ?_) (fun cb => ?_)
  · have hf := it_f cb hf
    refine lv_aload_n hx hb dX10_grade_14 rfl (lv_at hl 0 rfl) ?_
    refine lv_iload_n hx hb dX10_grade_15 rfl (lv_at hl 2 rfl) ?_
    refine cIp hP hD hS hA hE (fun hPc hDc hSc => rV (As := [.int p2]) (rest := []) hx hb hml hown hts hK (c_X10_isPaper l g a0 v0_papers v0_raw v0_kind v0_figure v0_heavy v0_place v0_rules v0_lower v0_upper v0_limits v0_limit v0_ties v0_letter v0_letters v0_told v0_tolds v0_places v0_cell v0_refusals v0_imaged v0_hasImage v0_before v0_up v0_down v0_beneath v0_numberUp v0_numberDown v0_block v0_blocks v0_merged v0_valueUp v0_valueDown v0_said v0_saids v0_at v0_number p2 (bnd_ne hf)) svV_X10_isPaper kw1361 rfl rfl hPc hDc hSc rfl rfl hl.1 (Nat.le_of_ble_eq_true rfl) dX10_grade_16 ⟨Nat.le_of_ble_eq_true rfl, Nat.le_of_ble_eq_true rfl, rfl, rfl, Nat.le_of_ble_eq_true rfl, Nat.le_of_ble_eq_true rfl⟩) [(0, 22)] rfl rfl rfl (fun x2 H locs ex2 nx2 hP hS => ?_)
    have hf := bnd_of hf ex2
    refine lv_if_eq (tgt := 31) hx hb dX10_grade_19 (by decide) (fun cb => ?_) (fun cb => ?_)
    · have hf := it_t cb hf
      refine lv_aload_n hx hb dX10_grade_31 rfl (lv_at hl 0 rfl) ?_
      refine lv_iconst (v := (-1)) hx hb dX10_grade_32 (by decide) ?_
      refine cI hP hD hS hA hE (fun hPc hDc hSc => rV (As := [.int (-1 : Int32)]) (rest := []) hx hb hml hown hts hK (c_X10_no l g a0 v0_papers v0_raw v0_kind v0_figure v0_heavy v0_place v0_rules v0_lower v0_upper v0_limits v0_limit v0_ties v0_letter v0_letters v0_told v0_tolds v0_places v0_cell v0_refusals v0_imaged v0_hasImage v0_before v0_up v0_down v0_beneath v0_numberUp v0_numberDown v0_block v0_blocks v0_merged v0_valueUp v0_valueDown v0_said v0_saids v0_at v0_number (-1 : Int32) (bnd_ne hf)) svV_X10_no kw1354 rfl rfl hPc hDc hSc rfl rfl hl.1 (Nat.le_of_ble_eq_true rfl) dX10_grade_33 ⟨Nat.le_of_ble_eq_true rfl, Nat.le_of_ble_eq_true rfl, rfl, rfl, Nat.le_of_ble_eq_true rfl, Nat.le_of_ble_eq_true rfl⟩) [(0, 22)] rfl rfl rfl (fun _ => rfl) (fun x3 H locs ex3 nx3 hP hD hS => ?_)
      have hf := bnd_of hf ex3
      have hP : va_P g.1 vwCl (wX10 a0 g v0_papers v0_raw v0_kind v0_figure v0_heavy v0_place v0_rules v0_lower v0_upper v0_limits v0_limit v0_ties v0_letter v0_letters v0_told v0_tolds v0_places v0_cell x3.2 v0_imaged v0_hasImage v0_before v0_up v0_down v0_beneath v0_numberUp v0_numberDown v0_block v0_blocks v0_merged v0_valueUp v0_valueDown v0_said v0_saids v0_at v0_number) H := hP
      have hD : va_D A (wX10 a0 g v0_papers v0_raw v0_kind v0_figure v0_heavy v0_place v0_rules v0_lower v0_upper v0_limits v0_limit v0_ties v0_letter v0_letters v0_told v0_tolds v0_places v0_cell x3.2 v0_imaged v0_hasImage v0_before v0_up v0_down v0_beneath v0_numberUp v0_numberDown v0_block v0_blocks v0_merged v0_valueUp v0_valueDown v0_said v0_saids v0_at v0_number) := hD
      exact retI (v := x3.1) (u := (x3.1, x3.2, v0_up, v0_down, v0_beneath, v0_valueUp, v0_valueDown)) (val := fun u => u.1) (W1 := fun u => wX10 a0 g v0_papers v0_raw v0_kind v0_figure v0_heavy v0_place v0_rules v0_lower v0_upper v0_limits v0_limit v0_ties v0_letter v0_letters v0_told v0_tolds v0_places v0_cell u.2.1 v0_imaged v0_hasImage v0_before u.2.2.1 u.2.2.2.1 u.2.2.2.2.1 v0_numberUp v0_numberDown v0_block v0_blocks v0_merged u.2.2.2.2.2.1 u.2.2.2.2.2.2 v0_said v0_saids v0_at v0_number) hx hb hr hlocks hS hP hD (hf0.trans hf.symm) rfl rfl dX10_grade_36
    have hf := it_f cb hf
    refine lv_aload_n hx hb dX10_grade_22 rfl (lv_at hl 0 rfl) ?_
    refine lv_iload_n hx hb dX10_grade_23 rfl (lv_at hl 1 rfl) ?_
    refine lv_iload_n hx hb dX10_grade_24 rfl (lv_at hl 2 rfl) ?_
    refine cI hP hD hS hA hE (fun hPc hDc hSc => rV (As := [.int p1, .int p2]) (rest := []) hx hb hml hown hts hK (c_X10_gradeBy l g a0 v0_papers v0_raw v0_kind v0_figure v0_heavy v0_place v0_rules v0_lower v0_upper v0_limits v0_limit v0_ties v0_letter v0_letters v0_told v0_tolds v0_places v0_cell v0_refusals v0_imaged v0_hasImage v0_before v0_up v0_down v0_beneath v0_numberUp v0_numberDown v0_block v0_blocks v0_merged v0_valueUp v0_valueDown v0_said v0_saids v0_at v0_number p1 p2 (bnd_ne hf)) svV_X10_gradeBy kw1583 rfl rfl hPc hDc hSc rfl rfl hl.1 (Nat.le_of_ble_eq_true rfl) dX10_grade_25 ⟨Nat.le_of_ble_eq_true rfl, Nat.le_of_ble_eq_true rfl, rfl, rfl, Nat.le_of_ble_eq_true rfl, Nat.le_of_ble_eq_true rfl⟩) [(0, 22)] rfl rfl rfl (fun _ => rfl) (fun x4 H locs ex4 nx4 hP hD hS => ?_)
    have hf := bnd_of hf ex4
    have hP : va_P g.1 vwCl (wX10 a0 g v0_papers v0_raw v0_kind v0_figure v0_heavy v0_place v0_rules v0_lower v0_upper v0_limits v0_limit v0_ties v0_letter v0_letters v0_told v0_tolds v0_places v0_cell v0_refusals v0_imaged v0_hasImage v0_before x4.2.1 x4.2.2.1 x4.2.2.2.1 v0_numberUp v0_numberDown v0_block v0_blocks v0_merged x4.2.2.2.2.1 x4.2.2.2.2.2 v0_said v0_saids v0_at v0_number) H := hP
    have hD : va_D A (wX10 a0 g v0_papers v0_raw v0_kind v0_figure v0_heavy v0_place v0_rules v0_lower v0_upper v0_limits v0_limit v0_ties v0_letter v0_letters v0_told v0_tolds v0_places v0_cell v0_refusals v0_imaged v0_hasImage v0_before x4.2.1 x4.2.2.1 x4.2.2.2.1 v0_numberUp v0_numberDown v0_block v0_blocks v0_merged x4.2.2.2.2.1 x4.2.2.2.2.2 v0_said v0_saids v0_at v0_number) := hD
    refine lv_goto (tgt := 36) hx hb dX10_grade_28 (by decide) ?_
    exact retI (v := x4.1) (u := (x4.1, v0_refusals, x4.2.1, x4.2.2.1, x4.2.2.2.1, x4.2.2.2.2.1, x4.2.2.2.2.2)) (val := fun u => u.1) (W1 := fun u => wX10 a0 g v0_papers v0_raw v0_kind v0_figure v0_heavy v0_place v0_rules v0_lower v0_upper v0_limits v0_limit v0_ties v0_letter v0_letters v0_told v0_tolds v0_places v0_cell u.2.1 v0_imaged v0_hasImage v0_before u.2.2.1 u.2.2.2.1 u.2.2.2.2.1 v0_numberUp v0_numberDown v0_block v0_blocks v0_merged u.2.2.2.2.2.1 u.2.2.2.2.2.2 v0_said v0_saids v0_at v0_number) hx hb hr hlocks hS hP hD (hf0.trans hf.symm) rfl rfl dX10_grade_36
  have hf := it_t cb hf
  refine lv_aload_n hx hb dX10_grade_7 rfl (lv_at hl 0 rfl) ?_
  refine lv_bipush (v := (-2)) hx hb dX10_grade_8 (by decide) ?_
  refine cI hP hD hS hA hE (fun hPc hDc hSc => rV (As := [.int (-2 : Int32)]) (rest := []) hx hb hml hown hts hK (c_X10_no l g a0 v0_papers v0_raw v0_kind v0_figure v0_heavy v0_place v0_rules v0_lower v0_upper v0_limits v0_limit v0_ties v0_letter v0_letters v0_told v0_tolds v0_places v0_cell v0_refusals v0_imaged v0_hasImage v0_before v0_up v0_down v0_beneath v0_numberUp v0_numberDown v0_block v0_blocks v0_merged v0_valueUp v0_valueDown v0_said v0_saids v0_at v0_number (-2 : Int32) (bnd_ne hf)) svV_X10_no kw1354 rfl rfl hPc hDc hSc rfl rfl hl.1 (Nat.le_of_ble_eq_true rfl) dX10_grade_10 ⟨Nat.le_of_ble_eq_true rfl, Nat.le_of_ble_eq_true rfl, rfl, rfl, Nat.le_of_ble_eq_true rfl, Nat.le_of_ble_eq_true rfl⟩) [(0, 22)] rfl rfl rfl (fun _ => rfl) (fun x5 H locs ex5 nx5 hP hD hS => ?_)
  have hf := bnd_of hf ex5
  have hP : va_P g.1 vwCl (wX10 a0 g v0_papers v0_raw v0_kind v0_figure v0_heavy v0_place v0_rules v0_lower v0_upper v0_limits v0_limit v0_ties v0_letter v0_letters v0_told v0_tolds v0_places v0_cell x5.2 v0_imaged v0_hasImage v0_before v0_up v0_down v0_beneath v0_numberUp v0_numberDown v0_block v0_blocks v0_merged v0_valueUp v0_valueDown v0_said v0_saids v0_at v0_number) H := hP
  have hD : va_D A (wX10 a0 g v0_papers v0_raw v0_kind v0_figure v0_heavy v0_place v0_rules v0_lower v0_upper v0_limits v0_limit v0_ties v0_letter v0_letters v0_told v0_tolds v0_places v0_cell x5.2 v0_imaged v0_hasImage v0_before v0_up v0_down v0_beneath v0_numberUp v0_numberDown v0_block v0_blocks v0_merged v0_valueUp v0_valueDown v0_said v0_saids v0_at v0_number) := hD
  exact retI (v := x5.1) (u := (x5.1, x5.2, v0_up, v0_down, v0_beneath, v0_valueUp, v0_valueDown)) (val := fun u => u.1) (W1 := fun u => wX10 a0 g v0_papers v0_raw v0_kind v0_figure v0_heavy v0_place v0_rules v0_lower v0_upper v0_limits v0_limit v0_ties v0_letter v0_letters v0_told v0_tolds v0_places v0_cell u.2.1 v0_imaged v0_hasImage v0_before u.2.2.1 u.2.2.2.1 u.2.2.2.2.1 v0_numberUp v0_numberDown v0_block v0_blocks v0_merged u.2.2.2.2.2.1 u.2.2.2.2.2.2 v0_said v0_saids v0_at v0_number) hx hb hr hlocks hS hP hD (hf0.trans hf.symm) rfl rfl dX10_grade_13
set_option maxHeartbeats 4000000 in
set_option maxRecDepth 100000 in
theorem c_X10_change (l : Launch) (g : GG) (a0 : Nat → Nat) (v0_papers : Int32) (v0_raw : (Nat → Int32)) (v0_kind : (Nat → Int32)) (v0_figure : (Nat → Int32)) (v0_heavy : (Nat → Int32)) (v0_place : (Nat → Int32)) (v0_rules : Int32) (v0_lower : (Nat → Int32)) (v0_upper : (Nat → Int32)) (v0_limits : Int32) (v0_limit : (Nat → Int32)) (v0_ties : Int32) (v0_letter : (Nat → Int32)) (v0_letters : Int32) (v0_told : (Nat → Int32)) (v0_tolds : Int32) (v0_places : (Nat → Int32)) (v0_cell : (Nat → Int64)) (v0_refusals : (Nat → Int32)) (v0_imaged : (Nat → Int32)) (v0_hasImage : Int32) (v0_before : (Nat → Int32)) (v0_up : Int64) (v0_down : Int64) (v0_beneath : (Nat → Int32)) (v0_numberUp : Int32) (v0_numberDown : Int32) (v0_block : (Nat → Int32)) (v0_blocks : Int32) (v0_merged : Int32) (v0_valueUp : (Nat → Int32)) (v0_valueDown : (Nat → Int32)) (v0_said : (Nat → Int32)) (v0_saids : Int32) (v0_at : Int32) (v0_number : (Nat → Int32)) (p1 : Int32) (p2 : Int32) (hne : (m_X10_change (v0_papers, v0_raw, v0_kind, v0_figure, v0_heavy, v0_place, v0_rules, v0_lower, v0_upper, v0_limits, v0_limit, v0_ties, v0_letter, v0_letters, v0_told, v0_tolds, v0_places, v0_cell, v0_refusals, v0_imaged, v0_hasImage, v0_before, v0_up, v0_down, v0_beneath, v0_numberUp, v0_numberDown, v0_block, v0_blocks, v0_merged, v0_valueUp, v0_valueDown, v0_said, v0_saids, v0_at, v0_number) p1 p2) ≠ none) : Ct l g yX10_change cX10_change 3 (some .long) ({ frames := 8, cells := 0, slots := 0, locals := 188 } : Room) [.ref (a0 0), .int p1, .int p2] (wX10 a0 g v0_papers v0_raw v0_kind v0_figure v0_heavy v0_place v0_rules v0_lower v0_upper v0_limits v0_limit v0_ties v0_letter v0_letters v0_told v0_tolds v0_places v0_cell v0_refusals v0_imaged v0_hasImage v0_before v0_up v0_down v0_beneath v0_numberUp v0_numberDown v0_block v0_blocks v0_merged v0_valueUp v0_valueDown v0_said v0_saids v0_at v0_number) (Ql g (m_X10_change (v0_papers, v0_raw, v0_kind, v0_figure, v0_heavy, v0_place, v0_rules, v0_lower, v0_upper, v0_limits, v0_limit, v0_ties, v0_letter, v0_letters, v0_told, v0_tolds, v0_places, v0_cell, v0_refusals, v0_imaged, v0_hasImage, v0_before, v0_up, v0_down, v0_beneath, v0_numberUp, v0_numberDown, v0_block, v0_blocks, v0_merged, v0_valueUp, v0_valueDown, v0_said, v0_saids, v0_at, v0_number) p1 p2) (fun u => u.1) (fun u => wX10 a0 g v0_papers v0_raw v0_kind v0_figure v0_heavy v0_place v0_rules v0_lower v0_upper v0_limits v0_limit v0_ties v0_letter v0_letters v0_told v0_tolds v0_places v0_cell u.2.1 v0_imaged v0_hasImage v0_before u.2.2.1 u.2.2.2.1 u.2.2.2.2.1 v0_numberUp v0_numberDown v0_block v0_blocks v0_merged u.2.2.2.2.2.1 u.2.2.2.2.2.2 v0_said v0_saids v0_at v0_number)) 0 0 := by
  obtain ⟨out, hf⟩ := ne_ex hne
  have hf0 := hf
  refine Ct.of (own := RX10) (by decide +kernel) rfl (Nat.le_of_ble_eq_true rfl) ?_
  intro p e s m below meth c hx hb hr hml hown hts hlocks hin hK A H locs hA hP hD hS hE ls hl
  have hl : lv_has ls 3 [(0, .ref (a0 0)), (1, .int p1), (2, .int p2)] := hl
  unfold m_X10_change at hf
  refine lv_iload_n hx hb dX10_change_0 rfl (lv_at hl 1 rfl) ?_
  refine cIp hP hD hS hA hE (fun hPc hDc hSc => rS (As := [.int p1]) (rest := []) hx hb hml hown hts hK (c_X10_isLoss l g p1 (bnd_ne hf)) svS_X10_isLoss kw1548 hPc hDc hSc rfl rfl hl.1 (Nat.le_of_ble_eq_true rfl) dX10_change_1 ⟨Nat.le_of_ble_eq_true rfl, Nat.le_of_ble_eq_true rfl, rfl, rfl, Nat.le_of_ble_eq_true rfl, Nat.le_of_ble_eq_true rfl⟩) [] rfl rfl rfl (fun x1 H locs ex1 nx1 hP hS => ?_)
  have hf := bnd_of hf ex1
  obtain ⟨r6, er6, hf⟩ := bnd hf
  have K : match r6 with | .inl x7 => (∀ (H : Heap) (locs : List Loc) (ls : Array Slot), va_P g.1 vwCl (wX10 a0 g v0_papers v0_raw v0_kind v0_figure v0_heavy v0_place v0_rules v0_lower v0_upper v0_limits v0_limit v0_ties v0_letter v0_letters v0_told v0_tolds v0_places v0_cell v0_refusals v0_imaged v0_hasImage v0_before x7.1 x7.2.1 x7.2.2.1 v0_numberUp v0_numberDown v0_block v0_blocks v0_merged x7.2.2.2.1 x7.2.2.2.2 v0_said v0_saids v0_at v0_number) H → va_D A (wX10 a0 g v0_papers v0_raw v0_kind v0_figure v0_heavy v0_place v0_rules v0_lower v0_upper v0_limits v0_limit v0_ties v0_letter v0_letters v0_told v0_tolds v0_places v0_cell v0_refusals v0_imaged v0_hasImage v0_before x7.1 x7.2.1 x7.2.2.1 v0_numberUp v0_numberDown v0_block v0_blocks v0_merged x7.2.2.2.1 x7.2.2.2.2 v0_said v0_saids v0_at v0_number) → va_S A s.heap H locs → lv_has ls 3 [(0, .ref (a0 0))] → W p l e { frames := 8, cells := 0, slots := 0, locals := 188 } s m [.ref (a0 0), .int p1, .int p2].toArray below meth c H locs 0 0 (MQ below (Ql g (m_X10_change (v0_papers, v0_raw, v0_kind, v0_figure, v0_heavy, v0_place, v0_rules, v0_lower, v0_upper, v0_limits, v0_limit, v0_ties, v0_letter, v0_letters, v0_told, v0_tolds, v0_places, v0_cell, v0_refusals, v0_imaged, v0_hasImage, v0_before, v0_up, v0_down, v0_beneath, v0_numberUp, v0_numberDown, v0_block, v0_blocks, v0_merged, v0_valueUp, v0_valueDown, v0_said, v0_saids, v0_at, v0_number) p1 p2) (fun u => u.1) (fun u => wX10 a0 g v0_papers v0_raw v0_kind v0_figure v0_heavy v0_place v0_rules v0_lower v0_upper v0_limits v0_limit v0_ties v0_letter v0_letters v0_told v0_tolds v0_places v0_cell u.2.1 v0_imaged v0_hasImage v0_before u.2.2.1 u.2.2.2.1 u.2.2.2.2.1 v0_numberUp v0_numberDown v0_block v0_blocks v0_merged u.2.2.2.2.2.1 u.2.2.2.2.2.2 v0_said v0_saids v0_at v0_number) A) [.ref (a0 0), .int p1, .int p2].toArray s 0 0 A) (F0 m 14 ls [])) | .inr v => (m_X10_change (v0_papers, v0_raw, v0_kind, v0_figure, v0_heavy, v0_place, v0_rules, v0_lower, v0_upper, v0_limits, v0_limit, v0_ties, v0_letter, v0_letters, v0_told, v0_tolds, v0_places, v0_cell, v0_refusals, v0_imaged, v0_hasImage, v0_before, v0_up, v0_down, v0_beneath, v0_numberUp, v0_numberDown, v0_block, v0_blocks, v0_merged, v0_valueUp, v0_valueDown, v0_said, v0_saids, v0_at, v0_number) p1 p2) = some v := by
    rcases r6 with x7 | v
    · intro H locs ls hP hD hS hl
      refine lv_aload_n hx hb dX10_change_14 rfl (lv_at hl 0 rfl) ?_
      refine lv_bipush (v := (-2)) hx hb dX10_change_15 (by decide) ?_
      refine cL hP hD hS hA hE (fun hPc hDc hSc => rV (As := [.int (-2 : Int32)]) (rest := []) hx hb hml hown hts hK (c_X10_far l g a0 v0_papers v0_raw v0_kind v0_figure v0_heavy v0_place v0_rules v0_lower v0_upper v0_limits v0_limit v0_ties v0_letter v0_letters v0_told v0_tolds v0_places v0_cell v0_refusals v0_imaged v0_hasImage v0_before x7.1 x7.2.1 x7.2.2.1 v0_numberUp v0_numberDown v0_block v0_blocks v0_merged x7.2.2.2.1 x7.2.2.2.2 v0_said v0_saids v0_at v0_number (-2 : Int32) (bnd_ne hf)) svV_X10_far kw1467 rfl rfl hPc hDc hSc rfl rfl hl.1 (Nat.le_of_ble_eq_true rfl) dX10_change_17 ⟨Nat.le_of_ble_eq_true rfl, Nat.le_of_ble_eq_true rfl, rfl, rfl, Nat.le_of_ble_eq_true rfl, Nat.le_of_ble_eq_true rfl⟩) [(0, 22)] rfl rfl rfl (fun _ => rfl) (fun x8 H locs ex8 hP hD hS => ?_)
      have hf := bnd_of hf ex8
      have hP : va_P g.1 vwCl (wX10 a0 g v0_papers v0_raw v0_kind v0_figure v0_heavy v0_place v0_rules v0_lower v0_upper v0_limits v0_limit v0_ties v0_letter v0_letters v0_told v0_tolds v0_places v0_cell x8.2 v0_imaged v0_hasImage v0_before x7.1 x7.2.1 x7.2.2.1 v0_numberUp v0_numberDown v0_block v0_blocks v0_merged x7.2.2.2.1 x7.2.2.2.2 v0_said v0_saids v0_at v0_number) H := hP
      have hD : va_D A (wX10 a0 g v0_papers v0_raw v0_kind v0_figure v0_heavy v0_place v0_rules v0_lower v0_upper v0_limits v0_limit v0_ties v0_letter v0_letters v0_told v0_tolds v0_places v0_cell x8.2 v0_imaged v0_hasImage v0_before x7.1 x7.2.1 x7.2.2.1 v0_numberUp v0_numberDown v0_block v0_blocks v0_merged x7.2.2.2.1 x7.2.2.2.2 v0_said v0_saids v0_at v0_number) := hD
      exact retL (u := (x8.1, x8.2, x7.1, x7.2.1, x7.2.2.1, x7.2.2.2.1, x7.2.2.2.2)) (val := fun u => u.1) (W1 := fun u => wX10 a0 g v0_papers v0_raw v0_kind v0_figure v0_heavy v0_place v0_rules v0_lower v0_upper v0_limits v0_limit v0_ties v0_letter v0_letters v0_told v0_tolds v0_places v0_cell u.2.1 v0_imaged v0_hasImage v0_before u.2.2.1 u.2.2.2.1 u.2.2.2.2.1 v0_numberUp v0_numberDown v0_block v0_blocks v0_merged u.2.2.2.2.2.1 u.2.2.2.2.2.2 v0_said v0_saids v0_at v0_number) hx hb hr hlocks hS hP hD (hf0.trans hf.symm) rfl dX10_change_20
    · exact hf0.trans hf.symm
  have hf := er6
  refine lv_if_eq (tgt := 14) hx hb dX10_change_4 (by decide) (fun cb => ?_) (fun cb => ?_)
  · have hf := it_t cb hf
    have hq := Option.some.inj hf
    subst hq
    exact K _ _ _ hP hD hS (lv_sub hl [0] rfl)
  have hf := it_f cb hf
  refine lv_iload_n hx hb dX10_change_7 rfl (lv_at hl 2 rfl) ?_
  refine cIp hP hD hS hA hE (fun hPc hDc hSc => rS (As := [.int p2]) (rest := []) hx hb hml hown hts hK (c_X10_isPart l g p2 (bnd_ne hf)) svS_X10_isPart kw1471 hPc hDc hSc rfl rfl hl.1 (Nat.le_of_ble_eq_true rfl) dX10_change_8 ⟨Nat.le_of_ble_eq_true rfl, Nat.le_of_ble_eq_true rfl, rfl, rfl, Nat.le_of_ble_eq_true rfl, Nat.le_of_ble_eq_true rfl⟩) [] rfl rfl rfl (fun x9 H locs ex9 nx9 hP hS => ?_)
  have hf := bnd_of hf ex9
  refine lv_if_ne (tgt := 21) hx hb dX10_change_11 (by decide) (fun cb => ?_) (fun cb => ?_)
  · have hf := it_f cb hf
    refine lv_aload_n hx hb dX10_change_21 rfl (lv_at hl 0 rfl) ?_
    refine lv_iload_n hx hb dX10_change_22 rfl (lv_at hl 1 rfl) ?_
    refine lv_aload_n hx hb dX10_change_23 rfl (lv_at hl 0 rfl) ?_
    refine cIp hP hD hS hA hE (fun hPc hDc hSc => rV (As := []) (rest := [.int p1, .ref (a0 0)]) hx hb hml hown hts hK (c_X10_allRules l g a0 v0_papers v0_raw v0_kind v0_figure v0_heavy v0_place v0_rules v0_lower v0_upper v0_limits v0_limit v0_ties v0_letter v0_letters v0_told v0_tolds v0_places v0_cell v0_refusals v0_imaged v0_hasImage v0_before v0_up v0_down v0_beneath v0_numberUp v0_numberDown v0_block v0_blocks v0_merged v0_valueUp v0_valueDown v0_said v0_saids v0_at v0_number (bnd_ne hf)) svV_X10_allRules kw1389 rfl rfl hPc hDc hSc rfl rfl hl.1 (Nat.le_of_ble_eq_true rfl) dX10_change_24 ⟨Nat.le_of_ble_eq_true rfl, Nat.le_of_ble_eq_true rfl, rfl, rfl, Nat.le_of_ble_eq_true rfl, Nat.le_of_ble_eq_true rfl⟩) [(0, 22)] rfl rfl rfl (fun x10 H locs ex10 nx10 hP hS => ?_)
    have hf := bnd_of hf ex10
    refine cV hP hD hS hA hE (fun hPc hDc hSc => rV (As := [.int p1, .int x10]) (rest := []) hx hb hml hown hts hK (c_X10_changes l g a0 v0_papers v0_raw v0_kind v0_figure v0_heavy v0_place v0_rules v0_lower v0_upper v0_limits v0_limit v0_ties v0_letter v0_letters v0_told v0_tolds v0_places v0_cell v0_refusals v0_imaged v0_hasImage v0_before v0_up v0_down v0_beneath v0_numberUp v0_numberDown v0_block v0_blocks v0_merged v0_valueUp v0_valueDown v0_said v0_saids v0_at v0_number p1 x10 (bnd_ne hf)) svV_X10_changes kw1590 rfl rfl hPc hDc hSc rfl rfl hl.1 (Nat.le_of_ble_eq_true rfl) dX10_change_27 ⟨Nat.le_of_ble_eq_true rfl, Nat.le_of_ble_eq_true rfl, rfl, rfl, Nat.le_of_ble_eq_true rfl, Nat.le_of_ble_eq_true rfl⟩) [(0, 22)] rfl rfl rfl (fun _ => rfl) (fun x11 H locs ex11 hP hD hS => ?_)
    have hf := bnd_of hf ex11
    have hP : va_P g.1 vwCl (wX10 a0 g v0_papers v0_raw v0_kind v0_figure v0_heavy v0_place v0_rules v0_lower v0_upper v0_limits v0_limit v0_ties v0_letter v0_letters v0_told v0_tolds v0_places v0_cell v0_refusals v0_imaged v0_hasImage v0_before x11.1 x11.2.1 x11.2.2.1 v0_numberUp v0_numberDown v0_block v0_blocks v0_merged x11.2.2.2.1 x11.2.2.2.2 v0_said v0_saids v0_at v0_number) H := hP
    have hD : va_D A (wX10 a0 g v0_papers v0_raw v0_kind v0_figure v0_heavy v0_place v0_rules v0_lower v0_upper v0_limits v0_limit v0_ties v0_letter v0_letters v0_told v0_tolds v0_places v0_cell v0_refusals v0_imaged v0_hasImage v0_before x11.1 x11.2.1 x11.2.2.1 v0_numberUp v0_numberDown v0_block v0_blocks v0_merged x11.2.2.2.1 x11.2.2.2.2 v0_said v0_saids v0_at v0_number) := hD
    refine lv_aload_n hx hb dX10_change_30 rfl (lv_at hl 0 rfl) ?_
    refine lv_iload_n hx hb dX10_change_31 rfl (lv_at hl 2 rfl) ?_
    refine cLp hP hD hS hA hE (fun hPc hDc hSc => rV (As := [.int p2]) (rest := []) hx hb hml hown hts hK (c_X10_part l g a0 v0_papers v0_raw v0_kind v0_figure v0_heavy v0_place v0_rules v0_lower v0_upper v0_limits v0_limit v0_ties v0_letter v0_letters v0_told v0_tolds v0_places v0_cell v0_refusals v0_imaged v0_hasImage v0_before x11.1 x11.2.1 x11.2.2.1 v0_numberUp v0_numberDown v0_block v0_blocks v0_merged x11.2.2.2.1 x11.2.2.2.2 v0_said v0_saids v0_at v0_number p2 (bnd_ne hf)) svV_X10_part kw1519 rfl rfl hPc hDc hSc rfl rfl hl.1 (Nat.le_of_ble_eq_true rfl) dX10_change_32 ⟨Nat.le_of_ble_eq_true rfl, Nat.le_of_ble_eq_true rfl, rfl, rfl, Nat.le_of_ble_eq_true rfl, Nat.le_of_ble_eq_true rfl⟩) [(0, 22)] rfl rfl rfl (fun x12 H locs ex12 hP hS => ?_)
    have hf := bnd_of hf ex12
    have hq := Option.some.inj hf
    subst hq
    exact retL (u := (x12, v0_refusals, x11.1, x11.2.1, x11.2.2.1, x11.2.2.2.1, x11.2.2.2.2)) (val := fun u => u.1) (W1 := fun u => wX10 a0 g v0_papers v0_raw v0_kind v0_figure v0_heavy v0_place v0_rules v0_lower v0_upper v0_limits v0_limit v0_ties v0_letter v0_letters v0_told v0_tolds v0_places v0_cell u.2.1 v0_imaged v0_hasImage v0_before u.2.2.1 u.2.2.2.1 u.2.2.2.2.1 v0_numberUp v0_numberDown v0_block v0_blocks v0_merged u.2.2.2.2.2.1 u.2.2.2.2.2.2 v0_said v0_saids v0_at v0_number) hx hb hr hlocks hS hP hD K rfl dX10_change_35
  have hf := it_t cb hf
  have hq := Option.some.inj hf
  subst hq
  exact K _ _ _ hP hD hS (lv_sub hl [0] rfl)
set_option maxHeartbeats 4000000 in
set_option maxRecDepth 100000 in
theorem c_X10_isSame (l : Launch) (g : GG) (a0 : Nat → Nat) (v0_papers : Int32) (v0_raw : (Nat → Int32)) (v0_kind : (Nat → Int32)) (v0_figure : (Nat → Int32)) (v0_heavy : (Nat → Int32)) (v0_place : (Nat → Int32)) (v0_rules : Int32) (v0_lower : (Nat → Int32)) (v0_upper : (Nat → Int32)) (v0_limits : Int32) (v0_limit : (Nat → Int32)) (v0_ties : Int32) (v0_letter : (Nat → Int32)) (v0_letters : Int32) (v0_told : (Nat → Int32)) (v0_tolds : Int32) (v0_places : (Nat → Int32)) (v0_cell : (Nat → Int64)) (v0_refusals : (Nat → Int32)) (v0_imaged : (Nat → Int32)) (v0_hasImage : Int32) (v0_before : (Nat → Int32)) (v0_up : Int64) (v0_down : Int64) (v0_beneath : (Nat → Int32)) (v0_numberUp : Int32) (v0_numberDown : Int32) (v0_block : (Nat → Int32)) (v0_blocks : Int32) (v0_merged : Int32) (v0_valueUp : (Nat → Int32)) (v0_valueDown : (Nat → Int32)) (v0_said : (Nat → Int32)) (v0_saids : Int32) (v0_at : Int32) (v0_number : (Nat → Int32)) (p1 : Int32) (p2 : Int32) (hne : (m_X10_isSame (v0_papers, v0_raw, v0_kind, v0_figure, v0_heavy, v0_place, v0_rules, v0_lower, v0_upper, v0_limits, v0_limit, v0_ties, v0_letter, v0_letters, v0_told, v0_tolds, v0_places, v0_cell, v0_refusals, v0_imaged, v0_hasImage, v0_before, v0_up, v0_down, v0_beneath, v0_numberUp, v0_numberDown, v0_block, v0_blocks, v0_merged, v0_valueUp, v0_valueDown, v0_said, v0_saids, v0_at, v0_number) p1 p2) ≠ none) : Ct l g yX10_isSame cX10_isSame 3 (some .boolean) ({ frames := 0, cells := 0, slots := 0, locals := 0 } : Room) [.ref (a0 0), .int p1, .int p2] (wX10 a0 g v0_papers v0_raw v0_kind v0_figure v0_heavy v0_place v0_rules v0_lower v0_upper v0_limits v0_limit v0_ties v0_letter v0_letters v0_told v0_tolds v0_places v0_cell v0_refusals v0_imaged v0_hasImage v0_before v0_up v0_down v0_beneath v0_numberUp v0_numberDown v0_block v0_blocks v0_merged v0_valueUp v0_valueDown v0_said v0_saids v0_at v0_number) (Qi g .boolean (m_X10_isSame (v0_papers, v0_raw, v0_kind, v0_figure, v0_heavy, v0_place, v0_rules, v0_lower, v0_upper, v0_limits, v0_limit, v0_ties, v0_letter, v0_letters, v0_told, v0_tolds, v0_places, v0_cell, v0_refusals, v0_imaged, v0_hasImage, v0_before, v0_up, v0_down, v0_beneath, v0_numberUp, v0_numberDown, v0_block, v0_blocks, v0_merged, v0_valueUp, v0_valueDown, v0_said, v0_saids, v0_at, v0_number) p1 p2) (fun u => u) (fun u => wX10 a0 g v0_papers v0_raw v0_kind v0_figure v0_heavy v0_place v0_rules v0_lower v0_upper v0_limits v0_limit v0_ties v0_letter v0_letters v0_told v0_tolds v0_places v0_cell v0_refusals v0_imaged v0_hasImage v0_before v0_up v0_down v0_beneath v0_numberUp v0_numberDown v0_block v0_blocks v0_merged v0_valueUp v0_valueDown v0_said v0_saids v0_at v0_number)) 0 0 := by
  obtain ⟨out, hf⟩ := ne_ex hne
  have hf0 := hf
  refine Ct.of (own := RX10) (by decide +kernel) rfl (Nat.le_of_ble_eq_true rfl) ?_
  intro p e s m below meth c hx hb hr hml hown hts hlocks hin hK A H locs hA hP hD hS hE ls hl
  have hl : lv_has ls 3 [(0, .ref (a0 0)), (1, .int p1), (2, .int p2)] := hl
  unfold m_X10_isSame at hf
  refine lv_aload_n hx hb dX10_isSame_0 rfl (lv_at hl 0 rfl) ?_
  refine va_get (D := g.1) (ci := 11) (v := .ref (a0 18)) (C := RX10) (T := TX10) (N := 36) hx hb hts layX10 hown hK.1 hP 0 rfl rfl 30 (by decide) (hts _ kw1307) (fun _ h9 => h9) rfl dX10_isSame_1 ?_
  refine lv_iload_n hx hb dX10_isSame_4 rfl (lv_at hl 1 rfl) ?_
  have hi := it_n hf
  have hf := it_t hi hf
  refine va_iald hx hb hK.1 hP 18 0 rfl rfl (inb_in hi) dX10_isSame_5 ?_
  refine lv_aload_n hx hb dX10_isSame_6 rfl (lv_at hl 0 rfl) ?_
  refine va_get (D := g.1) (ci := 11) (v := .ref (a0 18)) (C := RX10) (T := TX10) (N := 36) hx hb hts layX10 hown hK.1 hP 0 rfl rfl 30 (by decide) (hts _ kw1307) (fun _ h9 => h9) rfl dX10_isSame_7 ?_
  refine lv_iload_n hx hb dX10_isSame_10 rfl (lv_at hl 2 rfl) ?_
  have hi := it_n hf
  have hf := it_t hi hf
  refine va_iald hx hb hK.1 hP 18 0 rfl rfl (inb_in hi) dX10_isSame_11 ?_
  refine lv_icmp_ne (tgt := 34) hx hb dX10_isSame_12 (by decide) (fun cb => ?_) (fun cb => ?_)
  · have hf := it_f cb hf
    refine lv_iconst (v := 0) hx hb dX10_isSame_34 (by decide) ?_
    exact retI (v := (0 : Int32)) (u := (0 : Int32)) (val := fun u => u) (W1 := fun u => wX10 a0 g v0_papers v0_raw v0_kind v0_figure v0_heavy v0_place v0_rules v0_lower v0_upper v0_limits v0_limit v0_ties v0_letter v0_letters v0_told v0_tolds v0_places v0_cell v0_refusals v0_imaged v0_hasImage v0_before v0_up v0_down v0_beneath v0_numberUp v0_numberDown v0_block v0_blocks v0_merged v0_valueUp v0_valueDown v0_said v0_saids v0_at v0_number) hx hb hr hlocks hS hP hD (hf0.trans hf.symm) rfl rfl dX10_isSame_35
  have hf := it_t cb hf
  refine lv_aload_n hx hb dX10_isSame_15 rfl (lv_at hl 0 rfl) ?_
  refine va_get (D := g.1) (ci := 11) (v := .ref (a0 19)) (C := RX10) (T := TX10) (N := 36) hx hb hts layX10 hown hK.1 hP 0 rfl rfl 31 (by decide) (hts _ kw1308) (fun _ h9 => h9) rfl dX10_isSame_16 ?_
  refine lv_iload_n hx hb dX10_isSame_19 rfl (lv_at hl 1 rfl) ?_
  have hi := it_n hf
  have hf := it_t hi hf
  refine va_iald hx hb hK.1 hP 19 0 rfl rfl (inb_in hi) dX10_isSame_20 ?_
  refine lv_aload_n hx hb dX10_isSame_21 rfl (lv_at hl 0 rfl) ?_
  refine va_get (D := g.1) (ci := 11) (v := .ref (a0 19)) (C := RX10) (T := TX10) (N := 36) hx hb hts layX10 hown hK.1 hP 0 rfl rfl 31 (by decide) (hts _ kw1308) (fun _ h9 => h9) rfl dX10_isSame_22 ?_
  refine lv_iload_n hx hb dX10_isSame_25 rfl (lv_at hl 2 rfl) ?_
  have hi := it_n hf
  have hf := it_t hi hf
  refine va_iald hx hb hK.1 hP 19 0 rfl rfl (inb_in hi) dX10_isSame_26 ?_
  refine lv_icmp_ne (tgt := 34) hx hb dX10_isSame_27 (by decide) (fun cb => ?_) (fun cb => ?_)
  · have hf := it_f cb hf
    refine lv_iconst (v := 0) hx hb dX10_isSame_34 (by decide) ?_
    exact retI (v := (0 : Int32)) (u := (0 : Int32)) (val := fun u => u) (W1 := fun u => wX10 a0 g v0_papers v0_raw v0_kind v0_figure v0_heavy v0_place v0_rules v0_lower v0_upper v0_limits v0_limit v0_ties v0_letter v0_letters v0_told v0_tolds v0_places v0_cell v0_refusals v0_imaged v0_hasImage v0_before v0_up v0_down v0_beneath v0_numberUp v0_numberDown v0_block v0_blocks v0_merged v0_valueUp v0_valueDown v0_said v0_saids v0_at v0_number) hx hb hr hlocks hS hP hD (hf0.trans hf.symm) rfl rfl dX10_isSame_35
  have hf := it_t cb hf
  refine lv_iconst (v := 1) hx hb dX10_isSame_30 (by decide) ?_
  refine lv_goto (tgt := 35) hx hb dX10_isSame_31 (by decide) ?_
  exact retI (v := (1 : Int32)) (u := (1 : Int32)) (val := fun u => u) (W1 := fun u => wX10 a0 g v0_papers v0_raw v0_kind v0_figure v0_heavy v0_place v0_rules v0_lower v0_upper v0_limits v0_limit v0_ties v0_letter v0_letters v0_told v0_tolds v0_places v0_cell v0_refusals v0_imaged v0_hasImage v0_before v0_up v0_down v0_beneath v0_numberUp v0_numberDown v0_block v0_blocks v0_merged v0_valueUp v0_valueDown v0_said v0_saids v0_at v0_number) hx hb hr hlocks hS hP hD (hf0.trans hf.symm) rfl rfl dX10_isSame_35
set_option maxHeartbeats 4000000 in
set_option maxRecDepth 100000 in
theorem c_X10_poolOf (l : Launch) (g : GG) (a0 : Nat → Nat) (v0_papers : Int32) (v0_raw : (Nat → Int32)) (v0_kind : (Nat → Int32)) (v0_figure : (Nat → Int32)) (v0_heavy : (Nat → Int32)) (v0_place : (Nat → Int32)) (v0_rules : Int32) (v0_lower : (Nat → Int32)) (v0_upper : (Nat → Int32)) (v0_limits : Int32) (v0_limit : (Nat → Int32)) (v0_ties : Int32) (v0_letter : (Nat → Int32)) (v0_letters : Int32) (v0_told : (Nat → Int32)) (v0_tolds : Int32) (v0_places : (Nat → Int32)) (v0_cell : (Nat → Int64)) (v0_refusals : (Nat → Int32)) (v0_imaged : (Nat → Int32)) (v0_hasImage : Int32) (v0_before : (Nat → Int32)) (v0_up : Int64) (v0_down : Int64) (v0_beneath : (Nat → Int32)) (v0_numberUp : Int32) (v0_numberDown : Int32) (v0_block : (Nat → Int32)) (v0_blocks : Int32) (v0_merged : Int32) (v0_valueUp : (Nat → Int32)) (v0_valueDown : (Nat → Int32)) (v0_said : (Nat → Int32)) (v0_saids : Int32) (v0_at : Int32) (v0_number : (Nat → Int32)) (p1 : Int32) (hne : (m_X10_poolOf (v0_papers, v0_raw, v0_kind, v0_figure, v0_heavy, v0_place, v0_rules, v0_lower, v0_upper, v0_limits, v0_limit, v0_ties, v0_letter, v0_letters, v0_told, v0_tolds, v0_places, v0_cell, v0_refusals, v0_imaged, v0_hasImage, v0_before, v0_up, v0_down, v0_beneath, v0_numberUp, v0_numberDown, v0_block, v0_blocks, v0_merged, v0_valueUp, v0_valueDown, v0_said, v0_saids, v0_at, v0_number) p1) ≠ none) : Ct l g yX10_poolOf cX10_poolOf 5 (some .int) ({ frames := 1, cells := 0, slots := 0, locals := 22 } : Room) [.ref (a0 0), .int p1] (wX10 a0 g v0_papers v0_raw v0_kind v0_figure v0_heavy v0_place v0_rules v0_lower v0_upper v0_limits v0_limit v0_ties v0_letter v0_letters v0_told v0_tolds v0_places v0_cell v0_refusals v0_imaged v0_hasImage v0_before v0_up v0_down v0_beneath v0_numberUp v0_numberDown v0_block v0_blocks v0_merged v0_valueUp v0_valueDown v0_said v0_saids v0_at v0_number) (Qi g .int (m_X10_poolOf (v0_papers, v0_raw, v0_kind, v0_figure, v0_heavy, v0_place, v0_rules, v0_lower, v0_upper, v0_limits, v0_limit, v0_ties, v0_letter, v0_letters, v0_told, v0_tolds, v0_places, v0_cell, v0_refusals, v0_imaged, v0_hasImage, v0_before, v0_up, v0_down, v0_beneath, v0_numberUp, v0_numberDown, v0_block, v0_blocks, v0_merged, v0_valueUp, v0_valueDown, v0_said, v0_saids, v0_at, v0_number) p1) (fun u => u) (fun u => wX10 a0 g v0_papers v0_raw v0_kind v0_figure v0_heavy v0_place v0_rules v0_lower v0_upper v0_limits v0_limit v0_ties v0_letter v0_letters v0_told v0_tolds v0_places v0_cell v0_refusals v0_imaged v0_hasImage v0_before v0_up v0_down v0_beneath v0_numberUp v0_numberDown v0_block v0_blocks v0_merged v0_valueUp v0_valueDown v0_said v0_saids v0_at v0_number)) 0 0 := by
  obtain ⟨out, hf⟩ := ne_ex hne
  have hf0 := hf
  refine Ct.of (own := RX10) (by decide +kernel) rfl (Nat.le_of_ble_eq_true rfl) ?_
  intro p e s m below meth c hx hb hr hml hown hts hlocks hin hK A H locs hA hP hD hS hE ls hl
  have hl : lv_has ls 5 [(0, .ref (a0 0)), (1, .int p1)] := hl
  unfold m_X10_poolOf at hf
  refine lv_iconst (v := 1) hx hb dX10_poolOf_0 (by decide) ?_
  refine lv_iload_n hx hb dX10_poolOf_1 rfl (lv_at hl 1 rfl) ?_
  refine lv_ishl hx hb dX10_poolOf_2 ?_
  refine lv_istore_n (lv' := [(2, .int ((1 : Int32) <<< (p1 &&& 31))), (0, .ref (a0 0)), (1, .int p1)]) hx hb dX10_poolOf_3 rfl hl (by decide) rfl (fun ls hl => ?_)
  refine lv_iconst (v := 0) hx hb dX10_poolOf_4 (by decide) ?_
  refine lv_istore_n (lv' := [(3, .int (0 : Int32)), (2, .int ((1 : Int32) <<< (p1 &&& 31))), (0, .ref (a0 0)), (1, .int p1)]) hx hb dX10_poolOf_5 rfl hl (by decide) rfl (fun ls hl => ?_)
  obtain ⟨r29, er29, hf⟩ := bnd hf
  refine lp_W (P := fun z => ∀ (H : Heap) (locs : List Loc) (ls : Array Slot), va_P g.1 vwCl (wX10 a0 g v0_papers v0_raw v0_kind v0_figure v0_heavy v0_place v0_rules v0_lower v0_upper v0_limits v0_limit v0_ties v0_letter v0_letters v0_told v0_tolds v0_places v0_cell v0_refusals v0_imaged v0_hasImage v0_before v0_up v0_down v0_beneath v0_numberUp v0_numberDown v0_block v0_blocks v0_merged v0_valueUp v0_valueDown v0_said v0_saids v0_at v0_number) H → va_D A (wX10 a0 g v0_papers v0_raw v0_kind v0_figure v0_heavy v0_place v0_rules v0_lower v0_upper v0_limits v0_limit v0_ties v0_letter v0_letters v0_told v0_tolds v0_places v0_cell v0_refusals v0_imaged v0_hasImage v0_before v0_up v0_down v0_beneath v0_numberUp v0_numberDown v0_block v0_blocks v0_merged v0_valueUp v0_valueDown v0_said v0_saids v0_at v0_number) → va_S A s.heap H locs → lv_has ls 5 [(0, .ref (a0 0)), (2, .int z.1), (3, .int z.2)] → W p l e { frames := 1, cells := 0, slots := 0, locals := 22 } s m [.ref (a0 0), .int p1].toArray below meth c H locs 0 0 (MQ below (Qi g .int (m_X10_poolOf (v0_papers, v0_raw, v0_kind, v0_figure, v0_heavy, v0_place, v0_rules, v0_lower, v0_upper, v0_limits, v0_limit, v0_ties, v0_letter, v0_letters, v0_told, v0_tolds, v0_places, v0_cell, v0_refusals, v0_imaged, v0_hasImage, v0_before, v0_up, v0_down, v0_beneath, v0_numberUp, v0_numberDown, v0_block, v0_blocks, v0_merged, v0_valueUp, v0_valueDown, v0_said, v0_saids, v0_at, v0_number) p1) (fun u => u) (fun u => wX10 a0 g v0_papers v0_raw v0_kind v0_figure v0_heavy v0_place v0_rules v0_lower v0_upper v0_limits v0_limit v0_ties v0_letter v0_letters v0_told v0_tolds v0_places v0_cell v0_refusals v0_imaged v0_hasImage v0_before v0_up v0_down v0_beneath v0_numberUp v0_numberDown v0_block v0_blocks v0_merged v0_valueUp v0_valueDown v0_said v0_saids v0_at v0_number) A) [.ref (a0 0), .int p1].toArray s 0 0 A) (F0 m 6 ls [])) (E := fun r29 => ∀ (H : Heap) (locs : List Loc) (ls : Array Slot), va_P g.1 vwCl (wX10 a0 g v0_papers v0_raw v0_kind v0_figure v0_heavy v0_place v0_rules v0_lower v0_upper v0_limits v0_limit v0_ties v0_letter v0_letters v0_told v0_tolds v0_places v0_cell v0_refusals v0_imaged v0_hasImage v0_before v0_up v0_down v0_beneath v0_numberUp v0_numberDown v0_block v0_blocks v0_merged v0_valueUp v0_valueDown v0_said v0_saids v0_at v0_number) H → va_D A (wX10 a0 g v0_papers v0_raw v0_kind v0_figure v0_heavy v0_place v0_rules v0_lower v0_upper v0_limits v0_limit v0_ties v0_letter v0_letters v0_told v0_tolds v0_places v0_cell v0_refusals v0_imaged v0_hasImage v0_before v0_up v0_down v0_beneath v0_numberUp v0_numberDown v0_block v0_blocks v0_merged v0_valueUp v0_valueDown v0_said v0_saids v0_at v0_number) → va_S A s.heap H locs → lv_has ls 5 [(2, .int r29)] → W p l e { frames := 1, cells := 0, slots := 0, locals := 22 } s m [.ref (a0 0), .int p1].toArray below meth c H locs 0 0 (MQ below (Qi g .int (m_X10_poolOf (v0_papers, v0_raw, v0_kind, v0_figure, v0_heavy, v0_place, v0_rules, v0_lower, v0_upper, v0_limits, v0_limit, v0_ties, v0_letter, v0_letters, v0_told, v0_tolds, v0_places, v0_cell, v0_refusals, v0_imaged, v0_hasImage, v0_before, v0_up, v0_down, v0_beneath, v0_numberUp, v0_numberDown, v0_block, v0_blocks, v0_merged, v0_valueUp, v0_valueDown, v0_said, v0_saids, v0_at, v0_number) p1) (fun u => u) (fun u => wX10 a0 g v0_papers v0_raw v0_kind v0_figure v0_heavy v0_place v0_rules v0_lower v0_upper v0_limits v0_limit v0_ties v0_letter v0_letters v0_told v0_tolds v0_places v0_cell v0_refusals v0_imaged v0_hasImage v0_before v0_up v0_down v0_beneath v0_numberUp v0_numberDown v0_block v0_blocks v0_merged v0_valueUp v0_valueDown v0_said v0_saids v0_at v0_number) A) [.ref (a0 0), .int p1].toArray s 0 0 A) (F0 m 109 ls [])) ?_ fu _ r29 er29 ?_ _ _ _ hP hD hS (lv_sub hl [2, 1, 0] rfl)
  · rintro ⟨x14, x15⟩ y hf hB hXt H locs ls hP hD hS hl
    have hP : va_P g.1 vwCl (wX10 a0 g v0_papers v0_raw v0_kind v0_figure v0_heavy v0_place v0_rules v0_lower v0_upper v0_limits v0_limit v0_ties v0_letter v0_letters v0_told v0_tolds v0_places v0_cell v0_refusals v0_imaged v0_hasImage v0_before v0_up v0_down v0_beneath v0_numberUp v0_numberDown v0_block v0_blocks v0_merged v0_valueUp v0_valueDown v0_said v0_saids v0_at v0_number) H := hP
    have hD : va_D A (wX10 a0 g v0_papers v0_raw v0_kind v0_figure v0_heavy v0_place v0_rules v0_lower v0_upper v0_limits v0_limit v0_ties v0_letter v0_letters v0_told v0_tolds v0_places v0_cell v0_refusals v0_imaged v0_hasImage v0_before v0_up v0_down v0_beneath v0_numberUp v0_numberDown v0_block v0_blocks v0_merged v0_valueUp v0_valueDown v0_said v0_saids v0_at v0_number) := hD
    have hl : lv_has ls 5 [(0, .ref (a0 0)), (2, .int x14), (3, .int x15)] := hl
    have hf : m_X10_poolOf_l6 (v0_papers, v0_raw, v0_kind, v0_figure, v0_heavy, v0_place, v0_rules, v0_lower, v0_upper, v0_limits, v0_limit, v0_ties, v0_letter, v0_letters, v0_told, v0_tolds, v0_places, v0_cell, v0_refusals, v0_imaged, v0_hasImage, v0_before, v0_up, v0_down, v0_beneath, v0_numberUp, v0_numberDown, v0_block, v0_blocks, v0_merged, v0_valueUp, v0_valueDown, v0_said, v0_saids, v0_at, v0_number) x14 x15 = some y := hf
    unfold m_X10_poolOf_l6 at hf
    refine lv_iload_n hx hb dX10_poolOf_6 rfl (lv_at hl 2 rfl) ?_
    refine lv_aload_n hx hb dX10_poolOf_7 rfl (lv_at hl 0 rfl) ?_
    refine va_get (D := g.1) (ci := 11) (v := .int v0_papers) (C := RX10) (T := TX10) (N := 36) hx hb hts layX10 hown hK.1 hP 0 rfl rfl 0 (by decide) (hts _ kw1277) (fun _ h9 => h9) rfl dX10_poolOf_8 ?_
    refine lv_icmp_ge (tgt := 109) hx hb dX10_poolOf_11 (by decide) (fun cb => ?_) (fun cb => ?_)
    · have hf := it_t cb hf
      exact hXt _ (Option.some.inj hf).symm _ _ _ hP hD hS (lv_sub hl [1] rfl)
    have hf := it_f cb hf
    refine lv_iconst (v := 0) hx hb dX10_poolOf_14 (by decide) ?_
    refine lv_istore (lv' := [(4, .int (0 : Int32)), (0, .ref (a0 0)), (2, .int x14), (3, .int x15)]) hx hb dX10_poolOf_15 hl (by decide) rfl (fun ls hl => ?_)
    obtain ⟨r28, er28, hf⟩ := bnd hf
    refine lp_W (P := fun z => ∀ (H : Heap) (locs : List Loc) (ls : Array Slot), va_P g.1 vwCl (wX10 a0 g v0_papers v0_raw v0_kind v0_figure v0_heavy v0_place v0_rules v0_lower v0_upper v0_limits v0_limit v0_ties v0_letter v0_letters v0_told v0_tolds v0_places v0_cell v0_refusals v0_imaged v0_hasImage v0_before v0_up v0_down v0_beneath v0_numberUp v0_numberDown v0_block v0_blocks v0_merged v0_valueUp v0_valueDown v0_said v0_saids v0_at v0_number) H → va_D A (wX10 a0 g v0_papers v0_raw v0_kind v0_figure v0_heavy v0_place v0_rules v0_lower v0_upper v0_limits v0_limit v0_ties v0_letter v0_letters v0_told v0_tolds v0_places v0_cell v0_refusals v0_imaged v0_hasImage v0_before v0_up v0_down v0_beneath v0_numberUp v0_numberDown v0_block v0_blocks v0_merged v0_valueUp v0_valueDown v0_said v0_saids v0_at v0_number) → va_S A s.heap H locs → lv_has ls 5 [(0, .ref (a0 0)), (2, .int z.1), (3, .int x15), (4, .int z.2)] → W p l e { frames := 1, cells := 0, slots := 0, locals := 22 } s m [.ref (a0 0), .int p1].toArray below meth c H locs 0 0 (MQ below (Qi g .int (m_X10_poolOf (v0_papers, v0_raw, v0_kind, v0_figure, v0_heavy, v0_place, v0_rules, v0_lower, v0_upper, v0_limits, v0_limit, v0_ties, v0_letter, v0_letters, v0_told, v0_tolds, v0_places, v0_cell, v0_refusals, v0_imaged, v0_hasImage, v0_before, v0_up, v0_down, v0_beneath, v0_numberUp, v0_numberDown, v0_block, v0_blocks, v0_merged, v0_valueUp, v0_valueDown, v0_said, v0_saids, v0_at, v0_number) p1) (fun u => u) (fun u => wX10 a0 g v0_papers v0_raw v0_kind v0_figure v0_heavy v0_place v0_rules v0_lower v0_upper v0_limits v0_limit v0_ties v0_letter v0_letters v0_told v0_tolds v0_places v0_cell v0_refusals v0_imaged v0_hasImage v0_before v0_up v0_down v0_beneath v0_numberUp v0_numberDown v0_block v0_blocks v0_merged v0_valueUp v0_valueDown v0_said v0_saids v0_at v0_number) A) [.ref (a0 0), .int p1].toArray s 0 0 A) (F0 m 17 ls [])) (E := fun r28 => ∀ (H : Heap) (locs : List Loc) (ls : Array Slot), va_P g.1 vwCl (wX10 a0 g v0_papers v0_raw v0_kind v0_figure v0_heavy v0_place v0_rules v0_lower v0_upper v0_limits v0_limit v0_ties v0_letter v0_letters v0_told v0_tolds v0_places v0_cell v0_refusals v0_imaged v0_hasImage v0_before v0_up v0_down v0_beneath v0_numberUp v0_numberDown v0_block v0_blocks v0_merged v0_valueUp v0_valueDown v0_said v0_saids v0_at v0_number) H → va_D A (wX10 a0 g v0_papers v0_raw v0_kind v0_figure v0_heavy v0_place v0_rules v0_lower v0_upper v0_limits v0_limit v0_ties v0_letter v0_letters v0_told v0_tolds v0_places v0_cell v0_refusals v0_imaged v0_hasImage v0_before v0_up v0_down v0_beneath v0_numberUp v0_numberDown v0_block v0_blocks v0_merged v0_valueUp v0_valueDown v0_said v0_saids v0_at v0_number) → va_S A s.heap H locs → lv_has ls 5 [(0, .ref (a0 0)), (2, .int r28), (3, .int x15)] → W p l e { frames := 1, cells := 0, slots := 0, locals := 22 } s m [.ref (a0 0), .int p1].toArray below meth c H locs 0 0 (MQ below (Qi g .int (m_X10_poolOf (v0_papers, v0_raw, v0_kind, v0_figure, v0_heavy, v0_place, v0_rules, v0_lower, v0_upper, v0_limits, v0_limit, v0_ties, v0_letter, v0_letters, v0_told, v0_tolds, v0_places, v0_cell, v0_refusals, v0_imaged, v0_hasImage, v0_before, v0_up, v0_down, v0_beneath, v0_numberUp, v0_numberDown, v0_block, v0_blocks, v0_merged, v0_valueUp, v0_valueDown, v0_said, v0_saids, v0_at, v0_number) p1) (fun u => u) (fun u => wX10 a0 g v0_papers v0_raw v0_kind v0_figure v0_heavy v0_place v0_rules v0_lower v0_upper v0_limits v0_limit v0_ties v0_letter v0_letters v0_told v0_tolds v0_places v0_cell v0_refusals v0_imaged v0_hasImage v0_before v0_up v0_down v0_beneath v0_numberUp v0_numberDown v0_block v0_blocks v0_merged v0_valueUp v0_valueDown v0_said v0_saids v0_at v0_number) A) [.ref (a0 0), .int p1].toArray s 0 0 A) (F0 m 103 ls [])) ?_ fu _ r28 er28 ?_ _ _ _ hP hD hS (lv_sub hl [1, 2, 3, 0] rfl)
    · rintro ⟨x21, x22⟩ y hf hB hXt H locs ls hP hD hS hl
      have hP : va_P g.1 vwCl (wX10 a0 g v0_papers v0_raw v0_kind v0_figure v0_heavy v0_place v0_rules v0_lower v0_upper v0_limits v0_limit v0_ties v0_letter v0_letters v0_told v0_tolds v0_places v0_cell v0_refusals v0_imaged v0_hasImage v0_before v0_up v0_down v0_beneath v0_numberUp v0_numberDown v0_block v0_blocks v0_merged v0_valueUp v0_valueDown v0_said v0_saids v0_at v0_number) H := hP
      have hD : va_D A (wX10 a0 g v0_papers v0_raw v0_kind v0_figure v0_heavy v0_place v0_rules v0_lower v0_upper v0_limits v0_limit v0_ties v0_letter v0_letters v0_told v0_tolds v0_places v0_cell v0_refusals v0_imaged v0_hasImage v0_before v0_up v0_down v0_beneath v0_numberUp v0_numberDown v0_block v0_blocks v0_merged v0_valueUp v0_valueDown v0_said v0_saids v0_at v0_number) := hD
      have hl : lv_has ls 5 [(0, .ref (a0 0)), (2, .int x21), (3, .int x15), (4, .int x22)] := hl
      have hf : m_X10_poolOf_l17_2 (v0_papers, v0_raw, v0_kind, v0_figure, v0_heavy, v0_place, v0_rules, v0_lower, v0_upper, v0_limits, v0_limit, v0_ties, v0_letter, v0_letters, v0_told, v0_tolds, v0_places, v0_cell, v0_refusals, v0_imaged, v0_hasImage, v0_before, v0_up, v0_down, v0_beneath, v0_numberUp, v0_numberDown, v0_block, v0_blocks, v0_merged, v0_valueUp, v0_valueDown, v0_said, v0_saids, v0_at, v0_number) x21 x22 = some y := hf
      unfold m_X10_poolOf_l17_2 at hf
      refine lv_iload hx hb dX10_poolOf_17 (lv_at hl 3 rfl) ?_
      refine lv_aload_n hx hb dX10_poolOf_19 rfl (lv_at hl 0 rfl) ?_
      refine va_get (D := g.1) (ci := 11) (v := .int v0_rules) (C := RX10) (T := TX10) (N := 36) hx hb hts layX10 hown hK.1 hP 0 rfl rfl 6 (by decide) (hts _ kw1283) (fun _ h9 => h9) rfl dX10_poolOf_20 ?_
      refine lv_icmp_ge (tgt := 103) hx hb dX10_poolOf_23 (by decide) (fun cb => ?_) (fun cb => ?_)
      · have hf := it_t cb hf
        exact hXt _ (Option.some.inj hf).symm _ _ _ hP hD hS (lv_sub hl [0, 1, 2] rfl)
      have hf := it_f cb hf
      refine lv_aload_n hx hb dX10_poolOf_26 rfl (lv_at hl 0 rfl) ?_
      refine lv_aload_n hx hb dX10_poolOf_27 rfl (lv_at hl 0 rfl) ?_
      refine va_get (D := g.1) (ci := 11) (v := .ref (a0 6)) (C := RX10) (T := TX10) (N := 36) hx hb hts layX10 hown hK.1 hP 0 rfl rfl 7 (by decide) (hts _ kw1284) (fun _ h9 => h9) rfl dX10_poolOf_28 ?_
      refine lv_iload hx hb dX10_poolOf_31 (lv_at hl 3 rfl) ?_
      have hi := it_n hf
      have hf := it_t hi hf
      refine va_iald hx hb hK.1 hP 6 0 rfl rfl (inb_in hi) dX10_poolOf_33 ?_
      refine lv_aload_n hx hb dX10_poolOf_34 rfl (lv_at hl 0 rfl) ?_
      refine va_get (D := g.1) (ci := 11) (v := .ref (a0 7)) (C := RX10) (T := TX10) (N := 36) hx hb hts layX10 hown hK.1 hP 0 rfl rfl 8 (by decide) (hts _ kw1285) (fun _ h9 => h9) rfl dX10_poolOf_35 ?_
      refine lv_iload hx hb dX10_poolOf_38 (lv_at hl 3 rfl) ?_
      have hi := it_n hf
      have hf := it_t hi hf
      refine va_iald hx hb hK.1 hP 7 0 rfl rfl (inb_in hi) dX10_poolOf_40 ?_
      refine cIp hP hD hS hA hE (fun hPc hDc hSc => rV (As := [.int (v0_lower x22.toNatClampNeg), .int (v0_upper x22.toNatClampNeg)]) (rest := []) hx hb hml hown hts hK (c_X10_isSame l g a0 v0_papers v0_raw v0_kind v0_figure v0_heavy v0_place v0_rules v0_lower v0_upper v0_limits v0_limit v0_ties v0_letter v0_letters v0_told v0_tolds v0_places v0_cell v0_refusals v0_imaged v0_hasImage v0_before v0_up v0_down v0_beneath v0_numberUp v0_numberDown v0_block v0_blocks v0_merged v0_valueUp v0_valueDown v0_said v0_saids v0_at v0_number (v0_lower x22.toNatClampNeg) (v0_upper x22.toNatClampNeg) (bnd_ne hf)) svV_X10_isSame kw1603 rfl rfl hPc hDc hSc rfl rfl hl.1 (Nat.le_of_ble_eq_true rfl) dX10_poolOf_41 ⟨Nat.le_of_ble_eq_true rfl, Nat.le_of_ble_eq_true rfl, rfl, rfl, Nat.le_of_ble_eq_true rfl, Nat.le_of_ble_eq_true rfl⟩) [(0, 22)] rfl rfl rfl (fun x23 H locs ex23 nx23 hP hS => ?_)
      have hf := bnd_of hf ex23
      refine lv_if_eq (tgt := 97) hx hb dX10_poolOf_44 (by decide) (fun cb => ?_) (fun cb => ?_)
      · have hf := it_t cb hf
        refine lv_iinc (v := (x22 + 1)) (lv' := [(4, .int (x22 + 1)), (0, .ref (a0 0)), (2, .int x21), (3, .int x15)]) hx hb dX10_poolOf_97 hl (k := 3) rfl (by rfl) (by decide) rfl (fun ls hl => ?_)
        refine lv_goto (tgt := 17) hx hb dX10_poolOf_100 (by decide) ?_
        exact hB _ (Option.some.inj hf).symm _ _ _ hP hD hS (lv_sub hl [1, 2, 3, 0] rfl)
      have hf := it_f cb hf
      refine lv_iload_n hx hb dX10_poolOf_47 rfl (lv_at hl 1 rfl) ?_
      refine lv_aload_n hx hb dX10_poolOf_48 rfl (lv_at hl 0 rfl) ?_
      refine va_get (D := g.1) (ci := 11) (v := .ref (a0 6)) (C := RX10) (T := TX10) (N := 36) hx hb hts layX10 hown hK.1 hP 0 rfl rfl 7 (by decide) (hts _ kw1284) (fun _ h9 => h9) rfl dX10_poolOf_49 ?_
      refine lv_iload hx hb dX10_poolOf_52 (lv_at hl 3 rfl) ?_
      have hi := it_n hf
      have hf := it_t hi hf
      refine va_iald hx hb hK.1 hP 6 0 rfl rfl (inb_in hi) dX10_poolOf_54 ?_
      refine cIp hP hD hS hA hE (fun hPc hDc hSc => rS (As := [.int x21, .int (v0_lower x22.toNatClampNeg)]) (rest := []) hx hb hml hown hts hK (c_X10_has l g x21 (v0_lower x22.toNatClampNeg) (bnd_ne hf)) svS_X10_has kw1395 hPc hDc hSc rfl rfl hl.1 (Nat.le_of_ble_eq_true rfl) dX10_poolOf_55 ⟨Nat.le_of_ble_eq_true rfl, Nat.le_of_ble_eq_true rfl, rfl, rfl, Nat.le_of_ble_eq_true rfl, Nat.le_of_ble_eq_true rfl⟩) [] rfl rfl rfl (fun x24 H locs ex24 nx24 hP hS => ?_)
      have hf := bnd_of hf ex24
      refine lv_if_ne (tgt := 75) hx hb dX10_poolOf_58 (by decide) (fun cb => ?_) (fun cb => ?_)
      · have hf := it_f cb hf
        refine lv_iload_n hx hb dX10_poolOf_75 rfl (lv_at hl 1 rfl) ?_
        refine lv_iconst (v := 1) hx hb dX10_poolOf_76 (by decide) ?_
        refine lv_aload_n hx hb dX10_poolOf_77 rfl (lv_at hl 0 rfl) ?_
        refine va_get (D := g.1) (ci := 11) (v := .ref (a0 6)) (C := RX10) (T := TX10) (N := 36) hx hb hts layX10 hown hK.1 hP 0 rfl rfl 7 (by decide) (hts _ kw1284) (fun _ h9 => h9) rfl dX10_poolOf_78 ?_
        refine lv_iload hx hb dX10_poolOf_81 (lv_at hl 3 rfl) ?_
        have hi := it_n hf
        have hf := it_t hi hf
        refine va_iald hx hb hK.1 hP 6 0 rfl rfl (inb_in hi) dX10_poolOf_83 ?_
        refine lv_ishl hx hb dX10_poolOf_84 ?_
        refine lv_iconst (v := 1) hx hb dX10_poolOf_85 (by decide) ?_
        refine lv_aload_n hx hb dX10_poolOf_86 rfl (lv_at hl 0 rfl) ?_
        refine va_get (D := g.1) (ci := 11) (v := .ref (a0 7)) (C := RX10) (T := TX10) (N := 36) hx hb hts layX10 hown hK.1 hP 0 rfl rfl 8 (by decide) (hts _ kw1285) (fun _ h9 => h9) rfl dX10_poolOf_87 ?_
        refine lv_iload hx hb dX10_poolOf_90 (lv_at hl 3 rfl) ?_
        have hi := it_n hf
        have hf := it_t hi hf
        refine va_iald hx hb hK.1 hP 7 0 rfl rfl (inb_in hi) dX10_poolOf_92 ?_
        refine lv_ishl hx hb dX10_poolOf_93 ?_
        refine lv_ior hx hb dX10_poolOf_94 ?_
        refine lv_ior hx hb dX10_poolOf_95 ?_
        obtain ⟨x25, ex25, hf⟩ := bnd hf
        refine nmI (Option.some.inj ex25) ?_
        refine lv_istore_n (lv' := [(2, .int x25), (0, .ref (a0 0)), (3, .int x15), (4, .int x22)]) hx hb dX10_poolOf_96 rfl hl (by decide) rfl (fun ls hl => ?_)
        refine lv_iinc (v := (x22 + 1)) (lv' := [(4, .int (x22 + 1)), (2, .int x25), (0, .ref (a0 0)), (3, .int x15)]) hx hb dX10_poolOf_97 hl (k := 3) rfl (by rfl) (by decide) rfl (fun ls hl => ?_)
        refine lv_goto (tgt := 17) hx hb dX10_poolOf_100 (by decide) ?_
        exact hB _ (Option.some.inj hf).symm _ _ _ hP hD hS (lv_sub hl [2, 1, 3, 0] rfl)
      have hf := it_t cb hf
      refine lv_iload_n hx hb dX10_poolOf_61 rfl (lv_at hl 1 rfl) ?_
      refine lv_aload_n hx hb dX10_poolOf_62 rfl (lv_at hl 0 rfl) ?_
      refine va_get (D := g.1) (ci := 11) (v := .ref (a0 7)) (C := RX10) (T := TX10) (N := 36) hx hb hts layX10 hown hK.1 hP 0 rfl rfl 8 (by decide) (hts _ kw1285) (fun _ h9 => h9) rfl dX10_poolOf_63 ?_
      refine lv_iload hx hb dX10_poolOf_66 (lv_at hl 3 rfl) ?_
      have hi := it_n hf
      have hf := it_t hi hf
      refine va_iald hx hb hK.1 hP 7 0 rfl rfl (inb_in hi) dX10_poolOf_68 ?_
      refine cIp hP hD hS hA hE (fun hPc hDc hSc => rS (As := [.int x21, .int (v0_upper x22.toNatClampNeg)]) (rest := []) hx hb hml hown hts hK (c_X10_has l g x21 (v0_upper x22.toNatClampNeg) (bnd_ne hf)) svS_X10_has kw1395 hPc hDc hSc rfl rfl hl.1 (Nat.le_of_ble_eq_true rfl) dX10_poolOf_69 ⟨Nat.le_of_ble_eq_true rfl, Nat.le_of_ble_eq_true rfl, rfl, rfl, Nat.le_of_ble_eq_true rfl, Nat.le_of_ble_eq_true rfl⟩) [] rfl rfl rfl (fun x26 H locs ex26 nx26 hP hS => ?_)
      have hf := bnd_of hf ex26
      refine lv_if_eq (tgt := 97) hx hb dX10_poolOf_72 (by decide) (fun cb => ?_) (fun cb => ?_)
      · have hf := it_t cb hf
        refine lv_iinc (v := (x22 + 1)) (lv' := [(4, .int (x22 + 1)), (0, .ref (a0 0)), (2, .int x21), (3, .int x15)]) hx hb dX10_poolOf_97 hl (k := 3) rfl (by rfl) (by decide) rfl (fun ls hl => ?_)
        refine lv_goto (tgt := 17) hx hb dX10_poolOf_100 (by decide) ?_
        exact hB _ (Option.some.inj hf).symm _ _ _ hP hD hS (lv_sub hl [1, 2, 3, 0] rfl)
      have hf := it_f cb hf
      refine lv_iload_n hx hb dX10_poolOf_75 rfl (lv_at hl 1 rfl) ?_
      refine lv_iconst (v := 1) hx hb dX10_poolOf_76 (by decide) ?_
      refine lv_aload_n hx hb dX10_poolOf_77 rfl (lv_at hl 0 rfl) ?_
      refine va_get (D := g.1) (ci := 11) (v := .ref (a0 6)) (C := RX10) (T := TX10) (N := 36) hx hb hts layX10 hown hK.1 hP 0 rfl rfl 7 (by decide) (hts _ kw1284) (fun _ h9 => h9) rfl dX10_poolOf_78 ?_
      refine lv_iload hx hb dX10_poolOf_81 (lv_at hl 3 rfl) ?_
      have hi := it_n hf
      have hf := it_t hi hf
      refine va_iald hx hb hK.1 hP 6 0 rfl rfl (inb_in hi) dX10_poolOf_83 ?_
      refine lv_ishl hx hb dX10_poolOf_84 ?_
      refine lv_iconst (v := 1) hx hb dX10_poolOf_85 (by decide) ?_
      refine lv_aload_n hx hb dX10_poolOf_86 rfl (lv_at hl 0 rfl) ?_
      refine va_get (D := g.1) (ci := 11) (v := .ref (a0 7)) (C := RX10) (T := TX10) (N := 36) hx hb hts layX10 hown hK.1 hP 0 rfl rfl 8 (by decide) (hts _ kw1285) (fun _ h9 => h9) rfl dX10_poolOf_87 ?_
      refine lv_iload hx hb dX10_poolOf_90 (lv_at hl 3 rfl) ?_
      have hi := it_n hf
      have hf := it_t hi hf
      refine va_iald hx hb hK.1 hP 7 0 rfl rfl (inb_in hi) dX10_poolOf_92 ?_
      refine lv_ishl hx hb dX10_poolOf_93 ?_
      refine lv_ior hx hb dX10_poolOf_94 ?_
      refine lv_ior hx hb dX10_poolOf_95 ?_
      obtain ⟨x27, ex27, hf⟩ := bnd hf
      refine nmI (Option.some.inj ex27) ?_
      refine lv_istore_n (lv' := [(2, .int x27), (0, .ref (a0 0)), (3, .int x15), (4, .int x22)]) hx hb dX10_poolOf_96 rfl hl (by decide) rfl (fun ls hl => ?_)
      refine lv_iinc (v := (x22 + 1)) (lv' := [(4, .int (x22 + 1)), (2, .int x27), (0, .ref (a0 0)), (3, .int x15)]) hx hb dX10_poolOf_97 hl (k := 3) rfl (by rfl) (by decide) rfl (fun ls hl => ?_)
      refine lv_goto (tgt := 17) hx hb dX10_poolOf_100 (by decide) ?_
      exact hB _ (Option.some.inj hf).symm _ _ _ hP hD hS (lv_sub hl [2, 1, 3, 0] rfl)
    intro H locs ls hP hD hS hl
    have hP : va_P g.1 vwCl (wX10 a0 g v0_papers v0_raw v0_kind v0_figure v0_heavy v0_place v0_rules v0_lower v0_upper v0_limits v0_limit v0_ties v0_letter v0_letters v0_told v0_tolds v0_places v0_cell v0_refusals v0_imaged v0_hasImage v0_before v0_up v0_down v0_beneath v0_numberUp v0_numberDown v0_block v0_blocks v0_merged v0_valueUp v0_valueDown v0_said v0_saids v0_at v0_number) H := hP
    have hD : va_D A (wX10 a0 g v0_papers v0_raw v0_kind v0_figure v0_heavy v0_place v0_rules v0_lower v0_upper v0_limits v0_limit v0_ties v0_letter v0_letters v0_told v0_tolds v0_places v0_cell v0_refusals v0_imaged v0_hasImage v0_before v0_up v0_down v0_beneath v0_numberUp v0_numberDown v0_block v0_blocks v0_merged v0_valueUp v0_valueDown v0_said v0_saids v0_at v0_number) := hD
    have hl : lv_has ls 5 [(0, .ref (a0 0)), (2, .int r28), (3, .int x15)] := hl
    refine lv_iinc (v := (x15 + 1)) (lv' := [(3, .int (x15 + 1)), (0, .ref (a0 0)), (2, .int r28)]) hx hb dX10_poolOf_103 hl (k := 2) rfl (by rfl) (by decide) rfl (fun ls hl => ?_)
    refine lv_goto (tgt := 6) hx hb dX10_poolOf_106 (by decide) ?_
    exact hB _ (Option.some.inj hf).symm _ _ _ hP hD hS (lv_sub hl [1, 2, 0] rfl)
  intro H locs ls hP hD hS hl
  have hP : va_P g.1 vwCl (wX10 a0 g v0_papers v0_raw v0_kind v0_figure v0_heavy v0_place v0_rules v0_lower v0_upper v0_limits v0_limit v0_ties v0_letter v0_letters v0_told v0_tolds v0_places v0_cell v0_refusals v0_imaged v0_hasImage v0_before v0_up v0_down v0_beneath v0_numberUp v0_numberDown v0_block v0_blocks v0_merged v0_valueUp v0_valueDown v0_said v0_saids v0_at v0_number) H := hP
  have hD : va_D A (wX10 a0 g v0_papers v0_raw v0_kind v0_figure v0_heavy v0_place v0_rules v0_lower v0_upper v0_limits v0_limit v0_ties v0_letter v0_letters v0_told v0_tolds v0_places v0_cell v0_refusals v0_imaged v0_hasImage v0_before v0_up v0_down v0_beneath v0_numberUp v0_numberDown v0_block v0_blocks v0_merged v0_valueUp v0_valueDown v0_said v0_saids v0_at v0_number) := hD
  have hl : lv_has ls 5 [(2, .int r29)] := hl
  refine lv_iload_n hx hb dX10_poolOf_109 rfl (lv_at hl 0 rfl) ?_
  exact retI (v := r29) (u := r29) (val := fun u => u) (W1 := fun u => wX10 a0 g v0_papers v0_raw v0_kind v0_figure v0_heavy v0_place v0_rules v0_lower v0_upper v0_limits v0_limit v0_ties v0_letter v0_letters v0_told v0_tolds v0_places v0_cell v0_refusals v0_imaged v0_hasImage v0_before v0_up v0_down v0_beneath v0_numberUp v0_numberDown v0_block v0_blocks v0_merged v0_valueUp v0_valueDown v0_said v0_saids v0_at v0_number) hx hb hr hlocks hS hP hD (hf0.trans hf.symm) rfl rfl dX10_poolOf_110
set_option maxHeartbeats 4000000 in
set_option maxRecDepth 100000 in
theorem c_X10_pool (l : Launch) (g : GG) (a0 : Nat → Nat) (v0_papers : Int32) (v0_raw : (Nat → Int32)) (v0_kind : (Nat → Int32)) (v0_figure : (Nat → Int32)) (v0_heavy : (Nat → Int32)) (v0_place : (Nat → Int32)) (v0_rules : Int32) (v0_lower : (Nat → Int32)) (v0_upper : (Nat → Int32)) (v0_limits : Int32) (v0_limit : (Nat → Int32)) (v0_ties : Int32) (v0_letter : (Nat → Int32)) (v0_letters : Int32) (v0_told : (Nat → Int32)) (v0_tolds : Int32) (v0_places : (Nat → Int32)) (v0_cell : (Nat → Int64)) (v0_refusals : (Nat → Int32)) (v0_imaged : (Nat → Int32)) (v0_hasImage : Int32) (v0_before : (Nat → Int32)) (v0_up : Int64) (v0_down : Int64) (v0_beneath : (Nat → Int32)) (v0_numberUp : Int32) (v0_numberDown : Int32) (v0_block : (Nat → Int32)) (v0_blocks : Int32) (v0_merged : Int32) (v0_valueUp : (Nat → Int32)) (v0_valueDown : (Nat → Int32)) (v0_said : (Nat → Int32)) (v0_saids : Int32) (v0_at : Int32) (v0_number : (Nat → Int32)) (p1 : Int32) (p2 : Int32) (hne : (m_X10_pool (v0_papers, v0_raw, v0_kind, v0_figure, v0_heavy, v0_place, v0_rules, v0_lower, v0_upper, v0_limits, v0_limit, v0_ties, v0_letter, v0_letters, v0_told, v0_tolds, v0_places, v0_cell, v0_refusals, v0_imaged, v0_hasImage, v0_before, v0_up, v0_down, v0_beneath, v0_numberUp, v0_numberDown, v0_block, v0_blocks, v0_merged, v0_valueUp, v0_valueDown, v0_said, v0_saids, v0_at, v0_number) p1 p2) ≠ none) : Ct l g yX10_pool cX10_pool 3 (some .int) ({ frames := 7, cells := 0, slots := 0, locals := 161 } : Room) [.ref (a0 0), .int p1, .int p2] (wX10 a0 g v0_papers v0_raw v0_kind v0_figure v0_heavy v0_place v0_rules v0_lower v0_upper v0_limits v0_limit v0_ties v0_letter v0_letters v0_told v0_tolds v0_places v0_cell v0_refusals v0_imaged v0_hasImage v0_before v0_up v0_down v0_beneath v0_numberUp v0_numberDown v0_block v0_blocks v0_merged v0_valueUp v0_valueDown v0_said v0_saids v0_at v0_number) (Qi g .int (m_X10_pool (v0_papers, v0_raw, v0_kind, v0_figure, v0_heavy, v0_place, v0_rules, v0_lower, v0_upper, v0_limits, v0_limit, v0_ties, v0_letter, v0_letters, v0_told, v0_tolds, v0_places, v0_cell, v0_refusals, v0_imaged, v0_hasImage, v0_before, v0_up, v0_down, v0_beneath, v0_numberUp, v0_numberDown, v0_block, v0_blocks, v0_merged, v0_valueUp, v0_valueDown, v0_said, v0_saids, v0_at, v0_number) p1 p2) (fun u => u.1) (fun u => wX10 a0 g v0_papers v0_raw v0_kind v0_figure v0_heavy v0_place v0_rules v0_lower v0_upper v0_limits v0_limit v0_ties v0_letter v0_letters v0_told v0_tolds v0_places v0_cell u.2.1 v0_imaged v0_hasImage v0_before u.2.2.1 u.2.2.2.1 u.2.2.2.2.1 v0_numberUp v0_numberDown v0_block v0_blocks v0_merged u.2.2.2.2.2.1 u.2.2.2.2.2.2 v0_said v0_saids v0_at v0_number)) 0 0 := by
  obtain ⟨out, hf⟩ := ne_ex hne
  have hf0 := hf
  refine Ct.of (own := RX10) (by decide +kernel) rfl (Nat.le_of_ble_eq_true rfl) ?_
  intro p e s m below meth c hx hb hr hml hown hts hlocks hin hK A H locs hA hP hD hS hE ls hl
  have hl : lv_has ls 3 [(0, .ref (a0 0)), (1, .int p1), (2, .int p2)] := hl
  unfold m_X10_pool at hf
  refine lv_iload_n hx hb dX10_pool_0 rfl (lv_at hl 1 rfl) ?_
  refine cIp hP hD hS hA hE (fun hPc hDc hSc => rS (As := [.int p1]) (rest := []) hx hb hml hown hts hK (c_X10_isLoss l g p1 (bnd_ne hf)) svS_X10_isLoss kw1548 hPc hDc hSc rfl rfl hl.1 (Nat.le_of_ble_eq_true rfl) dX10_pool_1 ⟨Nat.le_of_ble_eq_true rfl, Nat.le_of_ble_eq_true rfl, rfl, rfl, Nat.le_of_ble_eq_true rfl, Nat.le_of_ble_eq_true rfl⟩) [] rfl rfl rfl (fun x1 H locs ex1 nx1 hP hS => ?_)
  have hf := bnd_of hf ex1
  refine lv_if_ne (tgt := 14) hx hb dX10_pool_4 (by decide) (fun cb => ?_) (fun cb => ?_)
  · have hf := it_f cb hf
    refine lv_aload_n hx hb dX10_pool_14 rfl (lv_at hl 0 rfl) ?_
    refine lv_iload_n hx hb dX10_pool_15 rfl (lv_at hl 2 rfl) ?_
    refine cIp hP hD hS hA hE (fun hPc hDc hSc => rV (As := [.int p2]) (rest := []) hx hb hml hown hts hK (c_X10_isPaper l g a0 v0_papers v0_raw v0_kind v0_figure v0_heavy v0_place v0_rules v0_lower v0_upper v0_limits v0_limit v0_ties v0_letter v0_letters v0_told v0_tolds v0_places v0_cell v0_refusals v0_imaged v0_hasImage v0_before v0_up v0_down v0_beneath v0_numberUp v0_numberDown v0_block v0_blocks v0_merged v0_valueUp v0_valueDown v0_said v0_saids v0_at v0_number p2 (bnd_ne hf)) svV_X10_isPaper kw1361 rfl rfl hPc hDc hSc rfl rfl hl.1 (Nat.le_of_ble_eq_true rfl) dX10_pool_16 ⟨Nat.le_of_ble_eq_true rfl, Nat.le_of_ble_eq_true rfl, rfl, rfl, Nat.le_of_ble_eq_true rfl, Nat.le_of_ble_eq_true rfl⟩) [(0, 22)] rfl rfl rfl (fun x2 H locs ex2 nx2 hP hS => ?_)
    have hf := bnd_of hf ex2
    refine lv_if_ne (tgt := 28) hx hb dX10_pool_19 (by decide) (fun cb => ?_) (fun cb => ?_)
    · have hf := it_f cb hf
      refine lv_aload_n hx hb dX10_pool_28 rfl (lv_at hl 0 rfl) ?_
      refine lv_iload_n hx hb dX10_pool_29 rfl (lv_at hl 1 rfl) ?_
      refine lv_aload_n hx hb dX10_pool_30 rfl (lv_at hl 0 rfl) ?_
      refine cIp hP hD hS hA hE (fun hPc hDc hSc => rV (As := []) (rest := [.int p1, .ref (a0 0)]) hx hb hml hown hts hK (c_X10_allRules l g a0 v0_papers v0_raw v0_kind v0_figure v0_heavy v0_place v0_rules v0_lower v0_upper v0_limits v0_limit v0_ties v0_letter v0_letters v0_told v0_tolds v0_places v0_cell v0_refusals v0_imaged v0_hasImage v0_before v0_up v0_down v0_beneath v0_numberUp v0_numberDown v0_block v0_blocks v0_merged v0_valueUp v0_valueDown v0_said v0_saids v0_at v0_number (bnd_ne hf)) svV_X10_allRules kw1389 rfl rfl hPc hDc hSc rfl rfl hl.1 (Nat.le_of_ble_eq_true rfl) dX10_pool_31 ⟨Nat.le_of_ble_eq_true rfl, Nat.le_of_ble_eq_true rfl, rfl, rfl, Nat.le_of_ble_eq_true rfl, Nat.le_of_ble_eq_true rfl⟩) [(0, 22)] rfl rfl rfl (fun x3 H locs ex3 nx3 hP hS => ?_)
      have hf := bnd_of hf ex3
      refine cV hP hD hS hA hE (fun hPc hDc hSc => rV (As := [.int p1, .int x3]) (rest := []) hx hb hml hown hts hK (c_X10_values l g a0 v0_papers v0_raw v0_kind v0_figure v0_heavy v0_place v0_rules v0_lower v0_upper v0_limits v0_limit v0_ties v0_letter v0_letters v0_told v0_tolds v0_places v0_cell v0_refusals v0_imaged v0_hasImage v0_before v0_up v0_down v0_beneath v0_numberUp v0_numberDown v0_block v0_blocks v0_merged v0_valueUp v0_valueDown v0_said v0_saids v0_at v0_number p1 x3 (bnd_ne hf)) svV_X10_values kw1551 rfl rfl hPc hDc hSc rfl rfl hl.1 (Nat.le_of_ble_eq_true rfl) dX10_pool_34 ⟨Nat.le_of_ble_eq_true rfl, Nat.le_of_ble_eq_true rfl, rfl, rfl, Nat.le_of_ble_eq_true rfl, Nat.le_of_ble_eq_true rfl⟩) [(0, 22)] rfl rfl rfl (fun _ => rfl) (fun x4 H locs ex4 hP hD hS => ?_)
      have hf := bnd_of hf ex4
      have hP : va_P g.1 vwCl (wX10 a0 g v0_papers v0_raw v0_kind v0_figure v0_heavy v0_place v0_rules v0_lower v0_upper v0_limits v0_limit v0_ties v0_letter v0_letters v0_told v0_tolds v0_places v0_cell v0_refusals v0_imaged v0_hasImage v0_before x4.1 x4.2.1 x4.2.2.1 v0_numberUp v0_numberDown v0_block v0_blocks v0_merged x4.2.2.2.1 x4.2.2.2.2 v0_said v0_saids v0_at v0_number) H := hP
      have hD : va_D A (wX10 a0 g v0_papers v0_raw v0_kind v0_figure v0_heavy v0_place v0_rules v0_lower v0_upper v0_limits v0_limit v0_ties v0_letter v0_letters v0_told v0_tolds v0_places v0_cell v0_refusals v0_imaged v0_hasImage v0_before x4.1 x4.2.1 x4.2.2.1 v0_numberUp v0_numberDown v0_block v0_blocks v0_merged x4.2.2.2.1 x4.2.2.2.2 v0_said v0_saids v0_at v0_number) := hD
      refine lv_aload_n hx hb dX10_pool_37 rfl (lv_at hl 0 rfl) ?_
      refine lv_iload_n hx hb dX10_pool_38 rfl (lv_at hl 2 rfl) ?_
      refine cIp hP hD hS hA hE (fun hPc hDc hSc => rV (As := [.int p2]) (rest := []) hx hb hml hown hts hK (c_X10_poolOf l g a0 v0_papers v0_raw v0_kind v0_figure v0_heavy v0_place v0_rules v0_lower v0_upper v0_limits v0_limit v0_ties v0_letter v0_letters v0_told v0_tolds v0_places v0_cell v0_refusals v0_imaged v0_hasImage v0_before x4.1 x4.2.1 x4.2.2.1 v0_numberUp v0_numberDown v0_block v0_blocks v0_merged x4.2.2.2.1 x4.2.2.2.2 v0_said v0_saids v0_at v0_number p2 (bnd_ne hf)) svV_X10_poolOf kw1600 rfl rfl hPc hDc hSc rfl rfl hl.1 (Nat.le_of_ble_eq_true rfl) dX10_pool_39 ⟨Nat.le_of_ble_eq_true rfl, Nat.le_of_ble_eq_true rfl, rfl, rfl, Nat.le_of_ble_eq_true rfl, Nat.le_of_ble_eq_true rfl⟩) [(0, 22)] rfl rfl rfl (fun x5 H locs ex5 nx5 hP hS => ?_)
      have hf := bnd_of hf ex5
      exact retI (v := x5) (u := (x5, v0_refusals, x4.1, x4.2.1, x4.2.2.1, x4.2.2.2.1, x4.2.2.2.2)) (val := fun u => u.1) (W1 := fun u => wX10 a0 g v0_papers v0_raw v0_kind v0_figure v0_heavy v0_place v0_rules v0_lower v0_upper v0_limits v0_limit v0_ties v0_letter v0_letters v0_told v0_tolds v0_places v0_cell u.2.1 v0_imaged v0_hasImage v0_before u.2.2.1 u.2.2.2.1 u.2.2.2.2.1 v0_numberUp v0_numberDown v0_block v0_blocks v0_merged u.2.2.2.2.2.1 u.2.2.2.2.2.2 v0_said v0_saids v0_at v0_number) hx hb hr hlocks hS hP hD (hf0.trans hf.symm) rfl rfl dX10_pool_42
    have hf := it_t cb hf
    refine lv_aload_n hx hb dX10_pool_22 rfl (lv_at hl 0 rfl) ?_
    refine lv_iconst (v := (-1)) hx hb dX10_pool_23 (by decide) ?_
    refine cI hP hD hS hA hE (fun hPc hDc hSc => rV (As := [.int (-1 : Int32)]) (rest := []) hx hb hml hown hts hK (c_X10_no l g a0 v0_papers v0_raw v0_kind v0_figure v0_heavy v0_place v0_rules v0_lower v0_upper v0_limits v0_limit v0_ties v0_letter v0_letters v0_told v0_tolds v0_places v0_cell v0_refusals v0_imaged v0_hasImage v0_before v0_up v0_down v0_beneath v0_numberUp v0_numberDown v0_block v0_blocks v0_merged v0_valueUp v0_valueDown v0_said v0_saids v0_at v0_number (-1 : Int32) (bnd_ne hf)) svV_X10_no kw1354 rfl rfl hPc hDc hSc rfl rfl hl.1 (Nat.le_of_ble_eq_true rfl) dX10_pool_24 ⟨Nat.le_of_ble_eq_true rfl, Nat.le_of_ble_eq_true rfl, rfl, rfl, Nat.le_of_ble_eq_true rfl, Nat.le_of_ble_eq_true rfl⟩) [(0, 22)] rfl rfl rfl (fun _ => rfl) (fun x6 H locs ex6 nx6 hP hD hS => ?_)
    have hf := bnd_of hf ex6
    have hP : va_P g.1 vwCl (wX10 a0 g v0_papers v0_raw v0_kind v0_figure v0_heavy v0_place v0_rules v0_lower v0_upper v0_limits v0_limit v0_ties v0_letter v0_letters v0_told v0_tolds v0_places v0_cell x6.2 v0_imaged v0_hasImage v0_before v0_up v0_down v0_beneath v0_numberUp v0_numberDown v0_block v0_blocks v0_merged v0_valueUp v0_valueDown v0_said v0_saids v0_at v0_number) H := hP
    have hD : va_D A (wX10 a0 g v0_papers v0_raw v0_kind v0_figure v0_heavy v0_place v0_rules v0_lower v0_upper v0_limits v0_limit v0_ties v0_letter v0_letters v0_told v0_tolds v0_places v0_cell x6.2 v0_imaged v0_hasImage v0_before v0_up v0_down v0_beneath v0_numberUp v0_numberDown v0_block v0_blocks v0_merged v0_valueUp v0_valueDown v0_said v0_saids v0_at v0_number) := hD
    exact retI (v := x6.1) (u := (x6.1, x6.2, v0_up, v0_down, v0_beneath, v0_valueUp, v0_valueDown)) (val := fun u => u.1) (W1 := fun u => wX10 a0 g v0_papers v0_raw v0_kind v0_figure v0_heavy v0_place v0_rules v0_lower v0_upper v0_limits v0_limit v0_ties v0_letter v0_letters v0_told v0_tolds v0_places v0_cell u.2.1 v0_imaged v0_hasImage v0_before u.2.2.1 u.2.2.2.1 u.2.2.2.2.1 v0_numberUp v0_numberDown v0_block v0_blocks v0_merged u.2.2.2.2.2.1 u.2.2.2.2.2.2 v0_said v0_saids v0_at v0_number) hx hb hr hlocks hS hP hD (hf0.trans hf.symm) rfl rfl dX10_pool_27
  have hf := it_t cb hf
  refine lv_aload_n hx hb dX10_pool_7 rfl (lv_at hl 0 rfl) ?_
  refine lv_bipush (v := (-2)) hx hb dX10_pool_8 (by decide) ?_
  refine cI hP hD hS hA hE (fun hPc hDc hSc => rV (As := [.int (-2 : Int32)]) (rest := []) hx hb hml hown hts hK (c_X10_no l g a0 v0_papers v0_raw v0_kind v0_figure v0_heavy v0_place v0_rules v0_lower v0_upper v0_limits v0_limit v0_ties v0_letter v0_letters v0_told v0_tolds v0_places v0_cell v0_refusals v0_imaged v0_hasImage v0_before v0_up v0_down v0_beneath v0_numberUp v0_numberDown v0_block v0_blocks v0_merged v0_valueUp v0_valueDown v0_said v0_saids v0_at v0_number (-2 : Int32) (bnd_ne hf)) svV_X10_no kw1354 rfl rfl hPc hDc hSc rfl rfl hl.1 (Nat.le_of_ble_eq_true rfl) dX10_pool_10 ⟨Nat.le_of_ble_eq_true rfl, Nat.le_of_ble_eq_true rfl, rfl, rfl, Nat.le_of_ble_eq_true rfl, Nat.le_of_ble_eq_true rfl⟩) [(0, 22)] rfl rfl rfl (fun _ => rfl) (fun x7 H locs ex7 nx7 hP hD hS => ?_)
  have hf := bnd_of hf ex7
  have hP : va_P g.1 vwCl (wX10 a0 g v0_papers v0_raw v0_kind v0_figure v0_heavy v0_place v0_rules v0_lower v0_upper v0_limits v0_limit v0_ties v0_letter v0_letters v0_told v0_tolds v0_places v0_cell x7.2 v0_imaged v0_hasImage v0_before v0_up v0_down v0_beneath v0_numberUp v0_numberDown v0_block v0_blocks v0_merged v0_valueUp v0_valueDown v0_said v0_saids v0_at v0_number) H := hP
  have hD : va_D A (wX10 a0 g v0_papers v0_raw v0_kind v0_figure v0_heavy v0_place v0_rules v0_lower v0_upper v0_limits v0_limit v0_ties v0_letter v0_letters v0_told v0_tolds v0_places v0_cell x7.2 v0_imaged v0_hasImage v0_before v0_up v0_down v0_beneath v0_numberUp v0_numberDown v0_block v0_blocks v0_merged v0_valueUp v0_valueDown v0_said v0_saids v0_at v0_number) := hD
  exact retI (v := x7.1) (u := (x7.1, x7.2, v0_up, v0_down, v0_beneath, v0_valueUp, v0_valueDown)) (val := fun u => u.1) (W1 := fun u => wX10 a0 g v0_papers v0_raw v0_kind v0_figure v0_heavy v0_place v0_rules v0_lower v0_upper v0_limits v0_limit v0_ties v0_letter v0_letters v0_told v0_tolds v0_places v0_cell u.2.1 v0_imaged v0_hasImage v0_before u.2.2.1 u.2.2.2.1 u.2.2.2.2.1 v0_numberUp v0_numberDown v0_block v0_blocks v0_merged u.2.2.2.2.2.1 u.2.2.2.2.2.2 v0_said v0_saids v0_at v0_number) hx hb hr hlocks hS hP hD (hf0.trans hf.symm) rfl rfl dX10_pool_13
