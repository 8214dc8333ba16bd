theorem svS_X10_isShelf : SS RX10 yX10_isShelf cX10_isShelf 1 (some .boolean) 1 := ⟨kw1685, kw16, kw1686, rfl, by decide, by decide, by decide +kernel⟩
theorem svV_X10_isPlace : SV RX10 yX10_isPlace cX10_isPlace 3 (some .boolean) 2 := ⟨kw1692, kw1890, kw16, kw1693, rfl, by decide, by decide, by decide +kernel⟩
theorem svV_X10_valueAt : SV RX10 yX10_valueAt cX10_valueAt 2 (some .int) 1 := ⟨kw1705, kw1891, kw16, kw1706, rfl, by decide, by decide, by decide +kernel⟩
theorem dX10_isPlace_0 : decode cX10_isPlace 0 = .ok (.iload_n 2, 1) := by decide +kernel
theorem dX10_isPlace_1 : decode cX10_isPlace 1 = .ok (.iconst 0, 1) := by decide +kernel
theorem dX10_isPlace_2 : decode cX10_isPlace 2 = .ok (.aload_n 0, 1) := by decide +kernel
theorem dX10_isPlace_3 : decode cX10_isPlace 3 = .ok (.getfield 40, 3) := by decide +kernel
theorem dX10_isPlace_6 : decode cX10_isPlace 6 = .ok (.iload_n 1, 1) := by decide +kernel
theorem dX10_isPlace_7 : decode cX10_isPlace 7 = .ok (.iaload, 1) := by decide +kernel
theorem dX10_isPlace_8 : decode cX10_isPlace 8 = .ok (.iconst 1, 1) := by decide +kernel
theorem dX10_isPlace_9 : decode cX10_isPlace 9 = .ok (.isub, 1) := by decide +kernel
theorem dX10_isPlace_10 : decode cX10_isPlace 10 = .ok (.invokestatic 84, 3) := by decide +kernel
theorem dX10_isPlace_13 : decode cX10_isPlace 13 = .ok (.ireturn, 1) := by decide +kernel
theorem dX10_shelf_0 : decode cX10_shelf 0 = .ok (.iload_n 1, 1) := by decide +kernel
theorem dX10_shelf_1 : decode cX10_shelf 1 = .ok (.invokestatic 356, 3) := by decide +kernel
theorem dX10_shelf_4 : decode cX10_shelf 4 = .ok (.ifCond .ne 9, 3) := by decide +kernel
theorem dX10_shelf_13 : decode cX10_shelf 13 = .ok (.iload_n 2, 1) := by decide +kernel
theorem dX10_shelf_14 : decode cX10_shelf 14 = .ok (.bipush 20, 2) := by decide +kernel
theorem dX10_shelf_16 : decode cX10_shelf 16 = .ok (.if_icmp .le 10, 3) := by decide +kernel
theorem dX10_shelf_26 : decode cX10_shelf 26 = .ok (.iload_n 2, 1) := by decide +kernel
theorem dX10_shelf_27 : decode cX10_shelf 27 = .ok (.ifCond .ge 6, 3) := by decide +kernel
theorem dX10_shelf_33 : decode cX10_shelf 33 = .ok (.aload_n 0, 1) := by decide +kernel
theorem dX10_shelf_34 : decode cX10_shelf 34 = .ok (.getfield 40, 3) := by decide +kernel
theorem dX10_shelf_37 : decode cX10_shelf 37 = .ok (.iload_n 1, 1) := by decide +kernel
theorem dX10_shelf_38 : decode cX10_shelf 38 = .ok (.iload_n 2, 1) := by decide +kernel
theorem dX10_shelf_39 : decode cX10_shelf 39 = .ok (.iastore, 1) := by decide +kernel
theorem dX10_shelf_40 : decode cX10_shelf 40 = .ok (.iconst 0, 1) := by decide +kernel
theorem dX10_shelf_41 : decode cX10_shelf 41 = .ok (.istore_n 3, 1) := by decide +kernel
theorem dX10_shelf_42 : decode cX10_shelf 42 = .ok (.iload_n 3, 1) := by decide +kernel
theorem dX10_shelf_43 : decode cX10_shelf 43 = .ok (.bipush 20, 2) := by decide +kernel
theorem dX10_shelf_45 : decode cX10_shelf 45 = .ok (.if_icmp .ge 21, 3) := by decide +kernel
theorem dX10_shelf_48 : decode cX10_shelf 48 = .ok (.aload_n 0, 1) := by decide +kernel
theorem dX10_shelf_49 : decode cX10_shelf 49 = .ok (.getfield 43, 3) := by decide +kernel
theorem dX10_shelf_52 : decode cX10_shelf 52 = .ok (.bipush 20, 2) := by decide +kernel
theorem dX10_shelf_54 : decode cX10_shelf 54 = .ok (.iload_n 1, 1) := by decide +kernel
theorem dX10_shelf_55 : decode cX10_shelf 55 = .ok (.imul, 1) := by decide +kernel
theorem dX10_shelf_56 : decode cX10_shelf 56 = .ok (.iload_n 3, 1) := by decide +kernel
theorem dX10_shelf_57 : decode cX10_shelf 57 = .ok (.iadd, 1) := by decide +kernel
theorem dX10_shelf_58 : decode cX10_shelf 58 = .ok (.lconst 0, 1) := by decide +kernel
theorem dX10_shelf_59 : decode cX10_shelf 59 = .ok (.lastore, 1) := by decide +kernel
theorem dX10_shelf_60 : decode cX10_shelf 60 = .ok (.iinc 3 1, 3) := by decide +kernel
theorem dX10_shelf_63 : decode cX10_shelf 63 = .ok (.goto (-21), 3) := by decide +kernel
theorem dX10_shelf_66 : decode cX10_shelf 66 = .ok (.iconst 1, 1) := by decide +kernel
theorem dX10_shelf_67 : decode cX10_shelf 67 = .ok (.ireturn, 1) := by decide +kernel
theorem dX10_shelf_30 : decode cX10_shelf 30 = .ok (.bipush (-14), 2) := by decide +kernel
theorem dX10_shelf_32 : decode cX10_shelf 32 = .ok (.ireturn, 1) := by decide +kernel
theorem dX10_shelf_19 : decode cX10_shelf 19 = .ok (.aload_n 0, 1) := by decide +kernel
theorem dX10_shelf_20 : decode cX10_shelf 20 = .ok (.bipush (-6), 2) := by decide +kernel
theorem dX10_shelf_22 : decode cX10_shelf 22 = .ok (.invokevirtual 76, 3) := by decide +kernel
theorem dX10_shelf_25 : decode cX10_shelf 25 = .ok (.ireturn, 1) := by decide +kernel
theorem dX10_shelf_7 : decode cX10_shelf 7 = .ok (.aload_n 0, 1) := by decide +kernel
theorem dX10_shelf_8 : decode cX10_shelf 8 = .ok (.iconst (-1), 1) := by decide +kernel
theorem dX10_shelf_9 : decode cX10_shelf 9 = .ok (.invokevirtual 76, 3) := by decide +kernel
theorem dX10_shelf_12 : decode cX10_shelf 12 = .ok (.ireturn, 1) := by decide +kernel
theorem dX10_put_0 : decode cX10_put 0 = .ok (.iload_n 1, 1) := by decide +kernel
theorem dX10_put_1 : decode cX10_put 1 = .ok (.invokestatic 356, 3) := by decide +kernel
theorem dX10_put_4 : decode cX10_put 4 = .ok (.ifCond .ne 9, 3) := by decide +kernel
theorem dX10_put_13 : decode cX10_put 13 = .ok (.aload_n 0, 1) := by decide +kernel
theorem dX10_put_14 : decode cX10_put 14 = .ok (.getfield 40, 3) := by decide +kernel
theorem dX10_put_17 : decode cX10_put 17 = .ok (.iload_n 1, 1) := by decide +kernel
theorem dX10_put_18 : decode cX10_put 18 = .ok (.iaload, 1) := by decide +kernel
theorem dX10_put_19 : decode cX10_put 19 = .ok (.ifCond .ge 6, 3) := by decide +kernel
theorem dX10_put_25 : decode cX10_put 25 = .ok (.aload_n 0, 1) := by decide +kernel
theorem dX10_put_26 : decode cX10_put 26 = .ok (.iload_n 1, 1) := by decide +kernel
theorem dX10_put_27 : decode cX10_put 27 = .ok (.iload_n 2, 1) := by decide +kernel
theorem dX10_put_28 : decode cX10_put 28 = .ok (.invokevirtual 359, 3) := by decide +kernel
theorem dX10_put_31 : decode cX10_put 31 = .ok (.ifCond .ne 6, 3) := by decide +kernel
theorem dX10_put_37 : decode cX10_put 37 = .ok (.aload_n 0, 1) := by decide +kernel
theorem dX10_put_38 : decode cX10_put 38 = .ok (.getfield 43, 3) := by decide +kernel
theorem dX10_put_41 : decode cX10_put 41 = .ok (.bipush 20, 2) := by decide +kernel
theorem dX10_put_43 : decode cX10_put 43 = .ok (.iload_n 1, 1) := by decide +kernel
theorem dX10_put_44 : decode cX10_put 44 = .ok (.imul, 1) := by decide +kernel
theorem dX10_put_45 : decode cX10_put 45 = .ok (.iload_n 2, 1) := by decide +kernel
theorem dX10_put_46 : decode cX10_put 46 = .ok (.iadd, 1) := by decide +kernel
theorem dX10_put_47 : decode cX10_put 47 = .ok (.lload_n 3, 1) := by decide +kernel
theorem dX10_put_48 : decode cX10_put 48 = .ok (.lastore, 1) := by decide +kernel
theorem dX10_put_49 : decode cX10_put 49 = .ok (.iconst 1, 1) := by decide +kernel
theorem dX10_put_50 : decode cX10_put 50 = .ok (.ireturn, 1) := by decide +kernel
theorem dX10_put_34 : decode cX10_put 34 = .ok (.bipush (-13), 2) := by decide +kernel
theorem dX10_put_36 : decode cX10_put 36 = .ok (.ireturn, 1) := by decide +kernel
theorem dX10_put_22 : decode cX10_put 22 = .ok (.bipush (-11), 2) := by decide +kernel
theorem dX10_put_24 : decode cX10_put 24 = .ok (.ireturn, 1) := by decide +kernel
theorem dX10_put_7 : decode cX10_put 7 = .ok (.aload_n 0, 1) := by decide +kernel
theorem dX10_put_8 : decode cX10_put 8 = .ok (.iconst (-1), 1) := by decide +kernel
theorem dX10_put_9 : decode cX10_put 9 = .ok (.invokevirtual 76, 3) := by decide +kernel
theorem dX10_put_12 : decode cX10_put 12 = .ok (.ireturn, 1) := by decide +kernel
theorem dX10_look_0 : decode cX10_look 0 = .ok (.iload_n 1, 1) := by decide +kernel
theorem dX10_look_1 : decode cX10_look 1 = .ok (.invokestatic 356, 3) := by decide +kernel
theorem dX10_look_4 : decode cX10_look 4 = .ok (.ifCond .ne 9, 3) := by decide +kernel
theorem dX10_look_13 : decode cX10_look 13 = .ok (.aload_n 0, 1) := by decide +kernel
theorem dX10_look_14 : decode cX10_look 14 = .ok (.getfield 40, 3) := by decide +kernel
theorem dX10_look_17 : decode cX10_look 17 = .ok (.iload_n 1, 1) := by decide +kernel
theorem dX10_look_18 : decode cX10_look 18 = .ok (.iaload, 1) := by decide +kernel
theorem dX10_look_19 : decode cX10_look 19 = .ok (.ifCond .ge 7, 3) := by decide +kernel
theorem dX10_look_26 : decode cX10_look 26 = .ok (.aload_n 0, 1) := by decide +kernel
theorem dX10_look_27 : decode cX10_look 27 = .ok (.iload_n 1, 1) := by decide +kernel
theorem dX10_look_28 : decode cX10_look 28 = .ok (.iload_n 2, 1) := by decide +kernel
theorem dX10_look_29 : decode cX10_look 29 = .ok (.invokevirtual 359, 3) := by decide +kernel
theorem dX10_look_32 : decode cX10_look 32 = .ok (.ifCond .eq 17, 3) := by decide +kernel
theorem dX10_look_49 : decode cX10_look 49 = .ok (.ldc2_w 364, 3) := by decide +kernel
theorem dX10_look_52 : decode cX10_look 52 = .ok (.lreturn, 1) := by decide +kernel
theorem dX10_look_35 : decode cX10_look 35 = .ok (.aload_n 0, 1) := by decide +kernel
theorem dX10_look_36 : decode cX10_look 36 = .ok (.getfield 43, 3) := by decide +kernel
theorem dX10_look_39 : decode cX10_look 39 = .ok (.bipush 20, 2) := by decide +kernel
theorem dX10_look_41 : decode cX10_look 41 = .ok (.iload_n 1, 1) := by decide +kernel
theorem dX10_look_42 : decode cX10_look 42 = .ok (.imul, 1) := by decide +kernel
theorem dX10_look_43 : decode cX10_look 43 = .ok (.iload_n 2, 1) := by decide +kernel
theorem dX10_look_44 : decode cX10_look 44 = .ok (.iadd, 1) := by decide +kernel
theorem dX10_look_45 : decode cX10_look 45 = .ok (.laload, 1) := by decide +kernel
theorem dX10_look_46 : decode cX10_look 46 = .ok (.goto 6, 3) := by decide +kernel
theorem dX10_look_22 : decode cX10_look 22 = .ok (.ldc2_w 362, 3) := by decide +kernel
theorem dX10_look_25 : decode cX10_look 25 = .ok (.lreturn, 1) := by decide +kernel
theorem dX10_look_7 : decode cX10_look 7 = .ok (.aload_n 0, 1) := by decide +kernel
theorem dX10_look_8 : decode cX10_look 8 = .ok (.iconst (-1), 1) := by decide +kernel
theorem dX10_look_9 : decode cX10_look 9 = .ok (.invokevirtual 226, 3) := by decide +kernel
theorem dX10_look_12 : decode cX10_look 12 = .ok (.lreturn, 1) := by decide +kernel
theorem dX10_valueAt_0 : decode cX10_valueAt 0 = .ok (.iload_n 1, 1) := by decide +kernel
theorem dX10_valueAt_1 : decode cX10_valueAt 1 = .ok (.iconst 2, 1) := by decide +kernel
theorem dX10_valueAt_2 : decode cX10_valueAt 2 = .ok (.irem, 1) := by decide +kernel
theorem dX10_valueAt_3 : decode cX10_valueAt 3 = .ok (.ifCond .ne 14, 3) := by decide +kernel
theorem dX10_valueAt_17 : decode cX10_valueAt 17 = .ok (.aload_n 0, 1) := by decide +kernel
theorem dX10_valueAt_18 : decode cX10_valueAt 18 = .ok (.getfield 65, 3) := by decide +kernel
theorem dX10_valueAt_21 : decode cX10_valueAt 21 = .ok (.iload_n 1, 1) := by decide +kernel
theorem dX10_valueAt_22 : decode cX10_valueAt 22 = .ok (.iconst 2, 1) := by decide +kernel
theorem dX10_valueAt_23 : decode cX10_valueAt 23 = .ok (.idiv, 1) := by decide +kernel
theorem dX10_valueAt_24 : decode cX10_valueAt 24 = .ok (.iaload, 1) := by decide +kernel
theorem dX10_valueAt_25 : decode cX10_valueAt 25 = .ok (.ireturn, 1) := by decide +kernel
theorem dX10_valueAt_6 : decode cX10_valueAt 6 = .ok (.aload_n 0, 1) := by decide +kernel
theorem dX10_valueAt_7 : decode cX10_valueAt 7 = .ok (.getfield 62, 3) := by decide +kernel
theorem dX10_valueAt_10 : decode cX10_valueAt 10 = .ok (.iload_n 1, 1) := by decide +kernel
theorem dX10_valueAt_11 : decode cX10_valueAt 11 = .ok (.iconst 2, 1) := by decide +kernel
theorem dX10_valueAt_12 : decode cX10_valueAt 12 = .ok (.idiv, 1) := by decide +kernel
theorem dX10_valueAt_13 : decode cX10_valueAt 13 = .ok (.iaload, 1) := by decide +kernel
theorem dX10_valueAt_14 : decode cX10_valueAt 14 = .ok (.goto 11, 3) := by decide +kernel
theorem dX10_lays_0 : decode cX10_lays 0 = .ok (.iload_n 1, 1) := by decide +kernel
theorem dX10_lays_1 : decode cX10_lays 1 = .ok (.invokestatic 287, 3) := by decide +kernel
theorem dX10_lays_4 : decode cX10_lays 4 = .ok (.ifCond .ne 10, 3) := by decide +kernel
theorem dX10_lays_14 : decode cX10_lays 14 = .ok (.iload_n 2, 1) := by decide +kernel
theorem dX10_lays_15 : decode cX10_lays 15 = .ok (.invokestatic 356, 3) := by decide +kernel
theorem dX10_lays_18 : decode cX10_lays 18 = .ok (.ifCond .ne 9, 3) := by decide +kernel
theorem dX10_lays_27 : decode cX10_lays 27 = .ok (.aload_n 0, 1) := by decide +kernel
theorem dX10_lays_28 : decode cX10_lays 28 = .ok (.getfield 40, 3) := by decide +kernel
theorem dX10_lays_31 : decode cX10_lays 31 = .ok (.iload_n 2, 1) := by decide +kernel
theorem dX10_lays_32 : decode cX10_lays 32 = .ok (.iaload, 1) := by decide +kernel
theorem dX10_lays_33 : decode cX10_lays 33 = .ok (.ifCond .ge 6, 3) := by decide +kernel
theorem dX10_lays_39 : decode cX10_lays 39 = .ok (.aload_n 0, 1) := by decide +kernel
theorem dX10_lays_40 : decode cX10_lays 40 = .ok (.iload_n 1, 1) := by decide +kernel
theorem dX10_lays_41 : decode cX10_lays 41 = .ok (.aload_n 0, 1) := by decide +kernel
theorem dX10_lays_42 : decode cX10_lays 42 = .ok (.invokevirtual 134, 3) := by decide +kernel
theorem dX10_lays_45 : decode cX10_lays 45 = .ok (.invokevirtual 282, 3) := by decide +kernel
theorem dX10_lays_48 : decode cX10_lays 48 = .ok (.iconst 0, 1) := by decide +kernel
theorem dX10_lays_49 : decode cX10_lays 49 = .ok (.istore 4, 2) := by decide +kernel
theorem dX10_lays_51 : decode cX10_lays 51 = .ok (.iload 4, 2) := by decide +kernel
theorem dX10_lays_53 : decode cX10_lays 53 = .ok (.iconst 2, 1) := by decide +kernel
theorem dX10_lays_54 : decode cX10_lays 54 = .ok (.aload_n 0, 1) := by decide +kernel
theorem dX10_lays_55 : decode cX10_lays 55 = .ok (.getfield 80, 3) := by decide +kernel
theorem dX10_lays_58 : decode cX10_lays 58 = .ok (.imul, 1) := by decide +kernel
theorem dX10_lays_59 : decode cX10_lays 59 = .ok (.if_icmp .ge 54, 3) := by decide +kernel
theorem dX10_lays_62 : decode cX10_lays 62 = .ok (.iload_n 3, 1) := by decide +kernel
theorem dX10_lays_63 : decode cX10_lays 63 = .ok (.ifCond .lt 20, 3) := by decide +kernel
theorem dX10_lays_66 : decode cX10_lays 66 = .ok (.iload_n 3, 1) := by decide +kernel
theorem dX10_lays_67 : decode cX10_lays 67 = .ok (.i2l, 1) := by decide +kernel
theorem dX10_lays_68 : decode cX10_lays 68 = .ok (.iload 4, 2) := by decide +kernel
theorem dX10_lays_70 : decode cX10_lays 70 = .ok (.i2l, 1) := by decide +kernel
theorem dX10_lays_71 : decode cX10_lays 71 = .ok (.ladd, 1) := by decide +kernel
theorem dX10_lays_72 : decode cX10_lays 72 = .ok (.aload_n 0, 1) := by decide +kernel
theorem dX10_lays_73 : decode cX10_lays 73 = .ok (.getfield 40, 3) := by decide +kernel
theorem dX10_lays_76 : decode cX10_lays 76 = .ok (.iload_n 2, 1) := by decide +kernel
theorem dX10_lays_77 : decode cX10_lays 77 = .ok (.iaload, 1) := by decide +kernel
theorem dX10_lays_78 : decode cX10_lays 78 = .ok (.i2l, 1) := by decide +kernel
theorem dX10_lays_79 : decode cX10_lays 79 = .ok (.lcmp, 1) := by decide +kernel
theorem dX10_lays_80 : decode cX10_lays 80 = .ok (.ifCond .lt 6, 3) := by decide +kernel
theorem dX10_lays_86 : decode cX10_lays 86 = .ok (.aload_n 0, 1) := by decide +kernel
theorem dX10_lays_87 : decode cX10_lays 87 = .ok (.getfield 43, 3) := by decide +kernel
theorem dX10_lays_90 : decode cX10_lays 90 = .ok (.bipush 20, 2) := by decide +kernel
theorem dX10_lays_92 : decode cX10_lays 92 = .ok (.iload_n 2, 1) := by decide +kernel
theorem dX10_lays_93 : decode cX10_lays 93 = .ok (.imul, 1) := by decide +kernel
theorem dX10_lays_94 : decode cX10_lays 94 = .ok (.iload_n 3, 1) := by decide +kernel
theorem dX10_lays_95 : decode cX10_lays 95 = .ok (.iadd, 1) := by decide +kernel
theorem dX10_lays_96 : decode cX10_lays 96 = .ok (.iload 4, 2) := by decide +kernel
theorem dX10_lays_98 : decode cX10_lays 98 = .ok (.iadd, 1) := by decide +kernel
theorem dX10_lays_99 : decode cX10_lays 99 = .ok (.aload_n 0, 1) := by decide +kernel
theorem dX10_lays_100 : decode cX10_lays 100 = .ok (.iload 4, 2) := by decide +kernel
theorem dX10_lays_102 : decode cX10_lays 102 = .ok (.invokevirtual 366, 3) := by decide +kernel
theorem dX10_lays_105 : decode cX10_lays 105 = .ok (.i2l, 1) := by decide +kernel
theorem dX10_lays_106 : decode cX10_lays 106 = .ok (.lastore, 1) := by decide +kernel
theorem dX10_lays_107 : decode cX10_lays 107 = .ok (.iinc 4 1, 3) := by decide +kernel
theorem dX10_lays_110 : decode cX10_lays 110 = .ok (.goto (-59), 3) := by decide +kernel
theorem dX10_lays_83 : decode cX10_lays 83 = .ok (.bipush (-13), 2) := by decide +kernel
theorem dX10_lays_85 : decode cX10_lays 85 = .ok (.ireturn, 1) := by decide +kernel
theorem dX10_lays_113 : decode cX10_lays 113 = .ok (.aload_n 0, 1) := by decide +kernel
theorem dX10_lays_114 : decode cX10_lays 114 = .ok (.getfield 80, 3) := by decide +kernel
theorem dX10_lays_117 : decode cX10_lays 117 = .ok (.ireturn, 1) := by decide +kernel
theorem dX10_lays_36 : decode cX10_lays 36 = .ok (.bipush (-11), 2) := by decide +kernel
theorem dX10_lays_38 : decode cX10_lays 38 = .ok (.ireturn, 1) := by decide +kernel
theorem dX10_lays_21 : decode cX10_lays 21 = .ok (.aload_n 0, 1) := by decide +kernel
theorem dX10_lays_22 : decode cX10_lays 22 = .ok (.iconst (-1), 1) := by decide +kernel
theorem dX10_lays_23 : decode cX10_lays 23 = .ok (.invokevirtual 76, 3) := by decide +kernel
theorem dX10_lays_26 : decode cX10_lays 26 = .ok (.ireturn, 1) := by decide +kernel
theorem dX10_lays_7 : decode cX10_lays 7 = .ok (.aload_n 0, 1) := by decide +kernel
theorem dX10_lays_8 : decode cX10_lays 8 = .ok (.bipush (-2), 2) := by decide +kernel
theorem dX10_lays_10 : decode cX10_lays 10 = .ok (.invokevirtual 76, 3) := by decide +kernel
theorem dX10_lays_13 : decode cX10_lays 13 = .ok (.ireturn, 1) := by decide +kernel
theorem dX10_judge_0 : decode cX10_judge 0 = .ok (.iload_n 1, 1) := by decide +kernel
theorem dX10_judge_1 : decode cX10_judge 1 = .ok (.invokestatic 287, 3) := by decide +kernel
theorem dX10_judge_4 : decode cX10_judge 4 = .ok (.ifCond .ne 10, 3) := by decide +kernel
theorem dX10_judge_14 : decode cX10_judge 14 = .ok (.iload_n 2, 1) := by decide +kernel
theorem dX10_judge_15 : decode cX10_judge 15 = .ok (.invokestatic 356, 3) := by decide +kernel
theorem dX10_judge_18 : decode cX10_judge 18 = .ok (.ifCond .ne 9, 3) := by decide +kernel
theorem dX10_judge_27 : decode cX10_judge 27 = .ok (.aload_n 0, 1) := by decide +kernel
theorem dX10_judge_28 : decode cX10_judge 28 = .ok (.getfield 40, 3) := by decide +kernel
theorem dX10_judge_31 : decode cX10_judge 31 = .ok (.iload_n 2, 1) := by decide +kernel
theorem dX10_judge_32 : decode cX10_judge 32 = .ok (.iaload, 1) := by decide +kernel
theorem dX10_judge_33 : decode cX10_judge 33 = .ok (.ifCond .ge 6, 3) := by decide +kernel
theorem dX10_judge_39 : decode cX10_judge 39 = .ok (.aload_n 0, 1) := by decide +kernel
theorem dX10_judge_40 : decode cX10_judge 40 = .ok (.iload_n 1, 1) := by decide +kernel
theorem dX10_judge_41 : decode cX10_judge 41 = .ok (.aload_n 0, 1) := by decide +kernel
theorem dX10_judge_42 : decode cX10_judge 42 = .ok (.invokevirtual 134, 3) := by decide +kernel
theorem dX10_judge_45 : decode cX10_judge 45 = .ok (.invokevirtual 282, 3) := by decide +kernel
theorem dX10_judge_48 : decode cX10_judge 48 = .ok (.iconst 0, 1) := by decide +kernel
theorem dX10_judge_49 : decode cX10_judge 49 = .ok (.istore_n 3, 1) := by decide +kernel
theorem dX10_judge_50 : decode cX10_judge 50 = .ok (.iload_n 3, 1) := by decide +kernel
theorem dX10_judge_51 : decode cX10_judge 51 = .ok (.iconst 2, 1) := by decide +kernel
theorem dX10_judge_52 : decode cX10_judge 52 = .ok (.aload_n 0, 1) := by decide +kernel
theorem dX10_judge_53 : decode cX10_judge 53 = .ok (.getfield 80, 3) := by decide +kernel
theorem dX10_judge_56 : decode cX10_judge 56 = .ok (.imul, 1) := by decide +kernel
theorem dX10_judge_57 : decode cX10_judge 57 = .ok (.if_icmp .ge 51, 3) := by decide +kernel
theorem dX10_judge_60 : decode cX10_judge 60 = .ok (.iload_n 3, 1) := by decide +kernel
theorem dX10_judge_61 : decode cX10_judge 61 = .ok (.aload_n 0, 1) := by decide +kernel
theorem dX10_judge_62 : decode cX10_judge 62 = .ok (.getfield 40, 3) := by decide +kernel
theorem dX10_judge_65 : decode cX10_judge 65 = .ok (.iload_n 2, 1) := by decide +kernel
theorem dX10_judge_66 : decode cX10_judge 66 = .ok (.iaload, 1) := by decide +kernel
theorem dX10_judge_67 : decode cX10_judge 67 = .ok (.if_icmp .lt 10, 3) := by decide +kernel
theorem dX10_judge_77 : decode cX10_judge 77 = .ok (.aload_n 0, 1) := by decide +kernel
theorem dX10_judge_78 : decode cX10_judge 78 = .ok (.getfield 43, 3) := by decide +kernel
theorem dX10_judge_81 : decode cX10_judge 81 = .ok (.bipush 20, 2) := by decide +kernel
theorem dX10_judge_83 : decode cX10_judge 83 = .ok (.iload_n 2, 1) := by decide +kernel
theorem dX10_judge_84 : decode cX10_judge 84 = .ok (.imul, 1) := by decide +kernel
theorem dX10_judge_85 : decode cX10_judge 85 = .ok (.iload_n 3, 1) := by decide +kernel
theorem dX10_judge_86 : decode cX10_judge 86 = .ok (.iadd, 1) := by decide +kernel
theorem dX10_judge_87 : decode cX10_judge 87 = .ok (.laload, 1) := by decide +kernel
theorem dX10_judge_88 : decode cX10_judge 88 = .ok (.aload_n 0, 1) := by decide +kernel
theorem dX10_judge_89 : decode cX10_judge 89 = .ok (.iload_n 3, 1) := by decide +kernel
theorem dX10_judge_90 : decode cX10_judge 90 = .ok (.invokevirtual 366, 3) := by decide +kernel
theorem dX10_judge_93 : decode cX10_judge 93 = .ok (.i2l, 1) := by decide +kernel
theorem dX10_judge_94 : decode cX10_judge 94 = .ok (.lcmp, 1) := by decide +kernel
theorem dX10_judge_95 : decode cX10_judge 95 = .ok (.ifCond .eq 7, 3) := by decide +kernel
theorem dX10_judge_102 : decode cX10_judge 102 = .ok (.iinc 3 1, 3) := by decide +kernel
theorem dX10_judge_105 : decode cX10_judge 105 = .ok (.goto (-55), 3) := by decide +kernel
theorem dX10_judge_70 : decode cX10_judge 70 = .ok (.bipush 100, 2) := by decide +kernel
theorem dX10_judge_72 : decode cX10_judge 72 = .ok (.iload_n 3, 1) := by decide +kernel
theorem dX10_judge_73 : decode cX10_judge 73 = .ok (.iconst 2, 1) := by decide +kernel
theorem dX10_judge_74 : decode cX10_judge 74 = .ok (.idiv, 1) := by decide +kernel
theorem dX10_judge_75 : decode cX10_judge 75 = .ok (.iadd, 1) := by decide +kernel
theorem dX10_judge_76 : decode cX10_judge 76 = .ok (.ireturn, 1) := by decide +kernel
theorem dX10_judge_98 : decode cX10_judge 98 = .ok (.iload_n 3, 1) := by decide +kernel
theorem dX10_judge_99 : decode cX10_judge 99 = .ok (.iconst 2, 1) := by decide +kernel
theorem dX10_judge_100 : decode cX10_judge 100 = .ok (.idiv, 1) := by decide +kernel
theorem dX10_judge_101 : decode cX10_judge 101 = .ok (.ireturn, 1) := by decide +kernel
theorem dX10_judge_108 : decode cX10_judge 108 = .ok (.bipush (-9), 2) := by decide +kernel
theorem dX10_judge_110 : decode cX10_judge 110 = .ok (.ireturn, 1) := by decide +kernel
theorem dX10_judge_36 : decode cX10_judge 36 = .ok (.bipush (-11), 2) := by decide +kernel
theorem dX10_judge_38 : decode cX10_judge 38 = .ok (.ireturn, 1) := by decide +kernel
theorem dX10_judge_21 : decode cX10_judge 21 = .ok (.aload_n 0, 1) := by decide +kernel
theorem dX10_judge_22 : decode cX10_judge 22 = .ok (.iconst (-1), 1) := by decide +kernel
theorem dX10_judge_23 : decode cX10_judge 23 = .ok (.invokevirtual 76, 3) := by decide +kernel
theorem dX10_judge_26 : decode cX10_judge 26 = .ok (.ireturn, 1) := by decide +kernel
theorem dX10_judge_7 : decode cX10_judge 7 = .ok (.aload_n 0, 1) := by decide +kernel
theorem dX10_judge_8 : decode cX10_judge 8 = .ok (.bipush (-2), 2) := by decide +kernel
theorem dX10_judge_10 : decode cX10_judge 10 = .ok (.invokevirtual 76, 3) := by decide +kernel
theorem dX10_judge_13 : decode cX10_judge 13 = .ok (.ireturn, 1) := by decide +kernel
theorem dX10_letter_0 : decode cX10_letter 0 = .ok (.iload_n 1, 1) := by decide +kernel
theorem dX10_letter_1 : decode cX10_letter 1 = .ok (.ifCond .ge 10, 3) := by decide +kernel
theorem dX10_letter_11 : decode cX10_letter 11 = .ok (.iload_n 1, 1) := by decide +kernel
theorem dX10_letter_12 : decode cX10_letter 12 = .ok (.sipush 255, 3) := by decide +kernel
theorem dX10_letter_27 : decode cX10_letter 27 = .ok (.aload_n 0, 1) := by decide +kernel
theorem dX10_letter_28 : decode cX10_letter 28 = .ok (.bipush (-6), 2) := by decide +kernel
theorem dX10_letter_30 : decode cX10_letter 30 = .ok (.invokevirtual 76, 3) := by decide +kernel
theorem dX10_letter_33 : decode cX10_letter 33 = .ok (.ireturn, 1) := by decide +kernel
theorem dX10_letter_15 : decode cX10_letter 15 = .ok (.if_icmp .gt 12, 3) := by decide +kernel
theorem dX10_letter_18 : decode cX10_letter 18 = .ok (.aload_n 0, 1) := by decide +kernel
theorem dX10_letter_19 : decode cX10_letter 19 = .ok (.getfield 369, 3) := by decide +kernel
theorem dX10_letter_22 : decode cX10_letter 22 = .ok (.bipush 120, 2) := by decide +kernel
theorem dX10_letter_24 : decode cX10_letter 24 = .ok (.if_icmp .ne 10, 3) := by decide +kernel
theorem dX10_letter_34 : decode cX10_letter 34 = .ok (.aload_n 0, 1) := by decide +kernel
theorem dX10_letter_35 : decode cX10_letter 35 = .ok (.getfield 34, 3) := by decide +kernel
theorem dX10_letter_38 : decode cX10_letter 38 = .ok (.aload_n 0, 1) := by decide +kernel
theorem dX10_letter_39 : decode cX10_letter 39 = .ok (.getfield 369, 3) := by decide +kernel
theorem dX10_letter_42 : decode cX10_letter 42 = .ok (.iload_n 1, 1) := by decide +kernel
theorem dX10_letter_43 : decode cX10_letter 43 = .ok (.iastore, 1) := by decide +kernel
theorem dX10_letter_44 : decode cX10_letter 44 = .ok (.aload_n 0, 1) := by decide +kernel
theorem dX10_letter_45 : decode cX10_letter 45 = .ok (.dup, 1) := by decide +kernel
theorem dX10_letter_46 : decode cX10_letter 46 = .ok (.getfield 369, 3) := by decide +kernel
theorem dX10_letter_49 : decode cX10_letter 49 = .ok (.iconst 1, 1) := by decide +kernel
theorem dX10_letter_50 : decode cX10_letter 50 = .ok (.iadd, 1) := by decide +kernel
theorem dX10_letter_51 : decode cX10_letter 51 = .ok (.putfield 369, 3) := by decide +kernel
theorem dX10_letter_54 : decode cX10_letter 54 = .ok (.aload_n 0, 1) := by decide +kernel
theorem dX10_letter_55 : decode cX10_letter 55 = .ok (.getfield 369, 3) := by decide +kernel
theorem dX10_letter_58 : decode cX10_letter 58 = .ok (.ireturn, 1) := by decide +kernel
theorem dX10_letter_4 : decode cX10_letter 4 = .ok (.aload_n 0, 1) := by decide +kernel
theorem dX10_letter_5 : decode cX10_letter 5 = .ok (.bipush (-4), 2) := by decide +kernel
theorem dX10_letter_7 : decode cX10_letter 7 = .ok (.invokevirtual 76, 3) := by decide +kernel
theorem dX10_letter_10 : decode cX10_letter 10 = .ok (.ireturn, 1) := by decide +kernel
theorem dX10_word_0 : decode cX10_word 0 = .ok (.iload_n 0, 1) := by decide +kernel
theorem dX10_word_1 : decode cX10_word 1 = .ok (.tableswitch 71 0 6 #[43, 47, 51, 55, 59, 63, 67], 43) := by decide +kernel
theorem dX10_word_44 : decode cX10_word 44 = .ok (.ldc_w 372, 3) := by decide +kernel
theorem dX10_word_47 : decode cX10_word 47 = .ok (.areturn, 1) := by decide +kernel
theorem dX10_word_48 : decode cX10_word 48 = .ok (.ldc_w 374, 3) := by decide +kernel
theorem dX10_word_51 : decode cX10_word 51 = .ok (.areturn, 1) := by decide +kernel
theorem dX10_word_52 : decode cX10_word 52 = .ok (.ldc_w 375, 3) := by decide +kernel
theorem dX10_word_55 : decode cX10_word 55 = .ok (.areturn, 1) := by decide +kernel
theorem dX10_word_56 : decode cX10_word 56 = .ok (.ldc_w 376, 3) := by decide +kernel
theorem dX10_word_59 : decode cX10_word 59 = .ok (.areturn, 1) := by decide +kernel
theorem dX10_word_60 : decode cX10_word 60 = .ok (.ldc_w 377, 3) := by decide +kernel
theorem dX10_word_63 : decode cX10_word 63 = .ok (.areturn, 1) := by decide +kernel
theorem dX10_word_64 : decode cX10_word 64 = .ok (.ldc_w 379, 3) := by decide +kernel
theorem dX10_word_67 : decode cX10_word 67 = .ok (.areturn, 1) := by decide +kernel
theorem dX10_word_68 : decode cX10_word 68 = .ok (.ldc_w 381, 3) := by decide +kernel
theorem dX10_word_71 : decode cX10_word 71 = .ok (.areturn, 1) := by decide +kernel
theorem dX10_word_72 : decode cX10_word 72 = .ok (.ldc_w 382, 3) := by decide +kernel
theorem dX10_word_75 : decode cX10_word 75 = .ok (.areturn, 1) := by decide +kernel
set_option maxHeartbeats 4000000 in
set_option maxRecDepth 100000 in
theorem c_X10_isPlace (l : Launch) (g : GG) (a0 : Nat → Nat) (v0_papers : Int32) (v0_raw : (Nat → Int32)) (v0_kind : (Nat → Int32)) (v0_figure : (Nat → Int32)) (v0_heavy : (Nat → Int32)) (v0_place : (Nat → Int32)) (v0_rules : Int32) (v0_lower : (Nat → Int32)) (v0_upper : (Nat → Int32)) (v0_limits : Int32) (v0_limit : (Nat → Int32)) (v0_ties : Int32) (v0_letter : (Nat → Int32)) (v0_letters : Int32) (v0_told : (Nat → Int32)) (v0_tolds : Int32) (v0_places : (Nat → Int32)) (v0_cell : (Nat → Int64)) (v0_refusals : (Nat → Int32)) (v0_imaged : (Nat → Int32)) (v0_hasImage : Int32) (v0_before : (Nat → Int32)) (v0_up : Int64) (v0_down : Int64) (v0_beneath : (Nat → Int32)) (v0_numberUp : Int32) (v0_numberDown : Int32) (v0_block : (Nat → Int32)) (v0_blocks : Int32) (v0_merged : Int32) (v0_valueUp : (Nat → Int32)) (v0_valueDown : (Nat → Int32)) (v0_said : (Nat → Int32)) (v0_saids : Int32) (v0_at : Int32) (v0_number : (Nat → Int32)) (p1 : Int32) (p2 : Int32) (hne : (m_X10_isPlace (v0_papers, v0_raw, v0_kind, v0_figure, v0_heavy, v0_place, v0_rules, v0_lower, v0_upper, v0_limits, v0_limit, v0_ties, v0_letter, v0_letters, v0_told, v0_tolds, v0_places, v0_cell, v0_refusals, v0_imaged, v0_hasImage, v0_before, v0_up, v0_down, v0_beneath, v0_numberUp, v0_numberDown, v0_block, v0_blocks, v0_merged, v0_valueUp, v0_valueDown, v0_said, v0_saids, v0_at, v0_number) p1 p2) ≠ none) : Ct l g yX10_isPlace cX10_isPlace 3 (some .boolean) ({ frames := 1, cells := 0, slots := 0, locals := 22 } : Room) [.ref (a0 0), .int p1, .int p2] (wX10 a0 g v0_papers v0_raw v0_kind v0_figure v0_heavy v0_place v0_rules v0_lower v0_upper v0_limits v0_limit v0_ties v0_letter v0_letters v0_told v0_tolds v0_places v0_cell v0_refusals v0_imaged v0_hasImage v0_before v0_up v0_down v0_beneath v0_numberUp v0_numberDown v0_block v0_blocks v0_merged v0_valueUp v0_valueDown v0_said v0_saids v0_at v0_number) (Qi g .boolean (m_X10_isPlace (v0_papers, v0_raw, v0_kind, v0_figure, v0_heavy, v0_place, v0_rules, v0_lower, v0_upper, v0_limits, v0_limit, v0_ties, v0_letter, v0_letters, v0_told, v0_tolds, v0_places, v0_cell, v0_refusals, v0_imaged, v0_hasImage, v0_before, v0_up, v0_down, v0_beneath, v0_numberUp, v0_numberDown, v0_block, v0_blocks, v0_merged, v0_valueUp, v0_valueDown, v0_said, v0_saids, v0_at, v0_number) p1 p2) (fun u => u) (fun u => wX10 a0 g v0_papers v0_raw v0_kind v0_figure v0_heavy v0_place v0_rules v0_lower v0_upper v0_limits v0_limit v0_ties v0_letter v0_letters v0_told v0_tolds v0_places v0_cell v0_refusals v0_imaged v0_hasImage v0_before v0_up v0_down v0_beneath v0_numberUp v0_numberDown v0_block v0_blocks v0_merged v0_valueUp v0_valueDown v0_said v0_saids v0_at v0_number)) 0 0 := by
  obtain ⟨out, hf⟩ := ne_ex hne
  have hf0 := hf
  refine Ct.of (own := RX10) (by decide +kernel) rfl (Nat.le_of_ble_eq_true rfl) ?_
  intro p e s m below meth c hx hb hr hml hown hts hlocks hin hK A H locs hA hP hD hS hE ls hl
  have hl : lv_has ls 3 [(0, .ref (a0 0)), (1, .int p1), (2, .int p2)] := hl
  unfold m_X10_isPlace at hf
  refine lv_iload_n hx hb dX10_isPlace_0 rfl (lv_at hl 2 rfl) ?_
  refine lv_iconst (v := 0) hx hb dX10_isPlace_1 (by decide) ?_
  refine lv_aload_n hx hb dX10_isPlace_2 rfl (lv_at hl 0 rfl) ?_
  refine va_get (D := g.1) (ci := 11) (v := .ref (a0 11)) (C := RX10) (T := TX10) (N := 36) hx hb hts layX10 hown hK.1 hP 0 rfl rfl 16 (by decide) (hts _ kw1293) (fun _ h9 => h9) rfl dX10_isPlace_3 ?_
  refine lv_iload_n hx hb dX10_isPlace_6 rfl (lv_at hl 1 rfl) ?_
  have hi := it_n hf
  have hf := it_t hi hf
  refine va_iald hx hb hK.1 hP 11 0 rfl rfl (inb_in hi) dX10_isPlace_7 ?_
  refine lv_iconst (v := 1) hx hb dX10_isPlace_8 (by decide) ?_
  refine lv_isub hx hb dX10_isPlace_9 ?_
  refine cIp hP hD hS hA hE (fun hPc hDc hSc => rS (As := [.int p2, .int (0 : Int32), .int ((v0_places p1.toNatClampNeg) - (1 : Int32))]) (rest := []) hx hb hml hown hts hK (c_X10_in l g p2 (0 : Int32) ((v0_places p1.toNatClampNeg) - (1 : Int32)) (bnd_ne hf)) svS_X10_in kw1364 hPc hDc hSc rfl rfl hl.1 (Nat.le_of_ble_eq_true rfl) dX10_isPlace_10 ⟨Nat.le_of_ble_eq_true rfl, Nat.le_of_ble_eq_true rfl, rfl, rfl, Nat.le_of_ble_eq_true rfl, Nat.le_of_ble_eq_true rfl⟩) [] rfl rfl rfl (fun x1 H locs ex1 nx1 hP hS => ?_)
  have hf := bnd_of hf ex1
  exact retI (v := x1) (u := x1) (val := fun u => u) (W1 := fun u => wX10 a0 g v0_papers v0_raw v0_kind v0_figure v0_heavy v0_place v0_rules v0_lower v0_upper v0_limits v0_limit v0_ties v0_letter v0_letters v0_told v0_tolds v0_places v0_cell v0_refusals v0_imaged v0_hasImage v0_before v0_up v0_down v0_beneath v0_numberUp v0_numberDown v0_block v0_blocks v0_merged v0_valueUp v0_valueDown v0_said v0_saids v0_at v0_number) hx hb hr hlocks hS hP hD (hf0.trans hf.symm) rfl nx1 dX10_isPlace_13
set_option maxHeartbeats 4000000 in
set_option maxRecDepth 100000 in
theorem c_X10_shelf (l : Launch) (g : GG) (a0 : Nat → Nat) (v0_papers : Int32) (v0_raw : (Nat → Int32)) (v0_kind : (Nat → Int32)) (v0_figure : (Nat → Int32)) (v0_heavy : (Nat → Int32)) (v0_place : (Nat → Int32)) (v0_rules : Int32) (v0_lower : (Nat → Int32)) (v0_upper : (Nat → Int32)) (v0_limits : Int32) (v0_limit : (Nat → Int32)) (v0_ties : Int32) (v0_letter : (Nat → Int32)) (v0_letters : Int32) (v0_told : (Nat → Int32)) (v0_tolds : Int32) (v0_places : (Nat → Int32)) (v0_cell : (Nat → Int64)) (v0_refusals : (Nat → Int32)) (v0_imaged : (Nat → Int32)) (v0_hasImage : Int32) (v0_before : (Nat → Int32)) (v0_up : Int64) (v0_down : Int64) (v0_beneath : (Nat → Int32)) (v0_numberUp : Int32) (v0_numberDown : Int32) (v0_block : (Nat → Int32)) (v0_blocks : Int32) (v0_merged : Int32) (v0_valueUp : (Nat → Int32)) (v0_valueDown : (Nat → Int32)) (v0_said : (Nat → Int32)) (v0_saids : Int32) (v0_at : Int32) (v0_number : (Nat → Int32)) (p1 : Int32) (p2 : Int32) (hne : (m_X10_shelf (v0_papers, v0_raw, v0_kind, v0_figure, v0_heavy, v0_place, v0_rules, v0_lower, v0_upper, v0_limits, v0_limit, v0_ties, v0_letter, v0_letters, v0_told, v0_tolds, v0_places, v0_cell, v0_refusals, v0_imaged, v0_hasImage, v0_before, v0_up, v0_down, v0_beneath, v0_numberUp, v0_numberDown, v0_block, v0_blocks, v0_merged, v0_valueUp, v0_valueDown, v0_said, v0_saids, v0_at, v0_number) p1 p2) ≠ none) : Ct l g yX10_shelf cX10_shelf 4 (some .int) ({ frames := 2, cells := 0, slots := 0, locals := 42 } : Room) [.ref (a0 0), .int p1, .int p2] (wX10 a0 g v0_papers v0_raw v0_kind v0_figure v0_heavy v0_place v0_rules v0_lower v0_upper v0_limits v0_limit v0_ties v0_letter v0_letters v0_told v0_tolds v0_places v0_cell v0_refusals v0_imaged v0_hasImage v0_before v0_up v0_down v0_beneath v0_numberUp v0_numberDown v0_block v0_blocks v0_merged v0_valueUp v0_valueDown v0_said v0_saids v0_at v0_number) (Qi g .int (m_X10_shelf (v0_papers, v0_raw, v0_kind, v0_figure, v0_heavy, v0_place, v0_rules, v0_lower, v0_upper, v0_limits, v0_limit, v0_ties, v0_letter, v0_letters, v0_told, v0_tolds, v0_places, v0_cell, v0_refusals, v0_imaged, v0_hasImage, v0_before, v0_up, v0_down, v0_beneath, v0_numberUp, v0_numberDown, v0_block, v0_blocks, v0_merged, v0_valueUp, v0_valueDown, v0_said, v0_saids, v0_at, v0_number) p1 p2) (fun u => u.1) (fun u => wX10 a0 g v0_papers v0_raw v0_kind v0_figure v0_heavy v0_place v0_rules v0_lower v0_upper v0_limits v0_limit v0_ties v0_letter v0_letters v0_told v0_tolds u.2.1 u.2.2.1 u.2.2.2 v0_imaged v0_hasImage v0_before v0_up v0_down v0_beneath v0_numberUp v0_numberDown v0_block v0_blocks v0_merged v0_valueUp v0_valueDown v0_said v0_saids v0_at v0_number)) 0 0 := by
  obtain ⟨out, hf⟩ := ne_ex hne
  have hf0 := hf
  refine Ct.of (own := RX10) (by decide +kernel) rfl (Nat.le_of_ble_eq_true rfl) ?_
  intro p e s m below meth c hx hb hr hml hown hts hlocks hin hK A H locs hA hP hD hS hE ls hl
  have hl : lv_has ls 4 [(0, .ref (a0 0)), (1, .int p1), (2, .int p2)] := hl
  unfold m_X10_shelf at hf
  refine lv_iload_n hx hb dX10_shelf_0 rfl (lv_at hl 1 rfl) ?_
  refine cIp hP hD hS hA hE (fun hPc hDc hSc => rS (As := [.int p1]) (rest := []) hx hb hml hown hts hK (c_X10_isShelf l g p1 (bnd_ne hf)) svS_X10_isShelf kw1684 hPc hDc hSc rfl rfl hl.1 (Nat.le_of_ble_eq_true rfl) dX10_shelf_1 ⟨Nat.le_of_ble_eq_true rfl, Nat.le_of_ble_eq_true rfl, rfl, rfl, Nat.le_of_ble_eq_true rfl, Nat.le_of_ble_eq_true rfl⟩) [] rfl rfl rfl (fun x1 H locs ex1 nx1 hP hS => ?_)
  have hf := bnd_of hf ex1
  refine lv_if_ne (tgt := 13) hx hb dX10_shelf_4 (by decide) (fun cb => ?_) (fun cb => ?_)
  · have hf := it_f cb hf
    refine lv_iload_n hx hb dX10_shelf_13 rfl (lv_at hl 2 rfl) ?_
    refine lv_bipush (v := 20) hx hb dX10_shelf_14 (by decide) ?_
    refine lv_icmp_le (tgt := 26) hx hb dX10_shelf_16 (by decide) (fun cb => ?_) (fun cb => ?_)
    · have hf := it_t cb hf
      refine lv_iload_n hx hb dX10_shelf_26 rfl (lv_at hl 2 rfl) ?_
      refine lv_if_ge (tgt := 33) hx hb dX10_shelf_27 (by decide) (fun cb => ?_) (fun cb => ?_)
      · have hf := it_t cb hf
        refine lv_aload_n hx hb dX10_shelf_33 rfl (lv_at hl 0 rfl) ?_
        refine va_get (D := g.1) (ci := 11) (v := .ref (a0 11)) (C := RX10) (T := TX10) (N := 36) hx hb hts layX10 hown hK.1 hP 0 rfl rfl 16 (by decide) (hts _ kw1293) (fun _ h9 => h9) rfl dX10_shelf_34 ?_
        refine lv_iload_n hx hb dX10_shelf_37 rfl (lv_at hl 1 rfl) ?_
        refine lv_iload_n hx hb dX10_shelf_38 rfl (lv_at hl 2 rfl) ?_
        have hi := it_n hf
        have hf := it_t hi hf
        refine va_iast hx hb hK.1 hP hD hS 11 0 rfl rfl (inb_in hi) dX10_shelf_39 (fun H locs hP hD hS => ?_)
        have hP : va_P g.1 vwCl (wX10 a0 g v0_papers v0_raw v0_kind v0_figure v0_heavy v0_place v0_rules v0_lower v0_upper v0_limits v0_limit v0_ties v0_letter v0_letters v0_told v0_tolds (upd v0_places p1.toNatClampNeg p2) v0_cell v0_refusals v0_imaged v0_hasImage v0_before v0_up v0_down v0_beneath v0_numberUp v0_numberDown v0_block v0_blocks v0_merged v0_valueUp v0_valueDown v0_said v0_saids v0_at v0_number) H := hP
        have hD : va_D A (wX10 a0 g v0_papers v0_raw v0_kind v0_figure v0_heavy v0_place v0_rules v0_lower v0_upper v0_limits v0_limit v0_ties v0_letter v0_letters v0_told v0_tolds (upd v0_places p1.toNatClampNeg p2) v0_cell v0_refusals v0_imaged v0_hasImage v0_before v0_up v0_down v0_beneath v0_numberUp v0_numberDown v0_block v0_blocks v0_merged v0_valueUp v0_valueDown v0_said v0_saids v0_at v0_number) := hD
        refine lv_iconst (v := 0) hx hb dX10_shelf_40 (by decide) ?_
        refine lv_istore_n (lv' := [(3, .int (0 : Int32)), (0, .ref (a0 0)), (1, .int p1), (2, .int p2)]) hx hb dX10_shelf_41 rfl hl (by decide) rfl (fun ls hl => ?_)
        obtain ⟨r4, er4, hf⟩ := bnd hf
        refine lp_W (P := fun z => ∀ (H : Heap) (locs : List Loc) (ls : Array Slot), va_P g.1 vwCl (wX10 a0 g v0_papers v0_raw v0_kind v0_figure v0_heavy v0_place v0_rules v0_lower v0_upper v0_limits v0_limit v0_ties v0_letter v0_letters v0_told v0_tolds (upd v0_places p1.toNatClampNeg p2) z.2 v0_refusals v0_imaged v0_hasImage v0_before v0_up v0_down v0_beneath v0_numberUp v0_numberDown v0_block v0_blocks v0_merged v0_valueUp v0_valueDown v0_said v0_saids v0_at v0_number) H → va_D A (wX10 a0 g v0_papers v0_raw v0_kind v0_figure v0_heavy v0_place v0_rules v0_lower v0_upper v0_limits v0_limit v0_ties v0_letter v0_letters v0_told v0_tolds (upd v0_places p1.toNatClampNeg p2) z.2 v0_refusals v0_imaged v0_hasImage v0_before v0_up v0_down v0_beneath v0_numberUp v0_numberDown v0_block v0_blocks v0_merged v0_valueUp v0_valueDown v0_said v0_saids v0_at v0_number) → va_S A s.heap H locs → lv_has ls 4 [(0, .ref (a0 0)), (1, .int p1), (3, .int z.1)] → W p l e { frames := 2, cells := 0, slots := 0, locals := 42 } s m [.ref (a0 0), .int p1, .int p2].toArray below meth c H locs 0 0 (MQ below (Qi g .int (m_X10_shelf (v0_papers, v0_raw, v0_kind, v0_figure, v0_heavy, v0_place, v0_rules, v0_lower, v0_upper, v0_limits, v0_limit, v0_ties, v0_letter, v0_letters, v0_told, v0_tolds, v0_places, v0_cell, v0_refusals, v0_imaged, v0_hasImage, v0_before, v0_up, v0_down, v0_beneath, v0_numberUp, v0_numberDown, v0_block, v0_blocks, v0_merged, v0_valueUp, v0_valueDown, v0_said, v0_saids, v0_at, v0_number) p1 p2) (fun u => u.1) (fun u => wX10 a0 g v0_papers v0_raw v0_kind v0_figure v0_heavy v0_place v0_rules v0_lower v0_upper v0_limits v0_limit v0_ties v0_letter v0_letters v0_told v0_tolds u.2.1 u.2.2.1 u.2.2.2 v0_imaged v0_hasImage v0_before v0_up v0_down v0_beneath v0_numberUp v0_numberDown v0_block v0_blocks v0_merged v0_valueUp v0_valueDown v0_said v0_saids v0_at v0_number) A) [.ref (a0 0), .int p1, .int p2].toArray s 0 0 A) (F0 m 42 ls [])) (E := fun r4 => ∀ (H : Heap) (locs : List Loc) (ls : Array Slot), va_P g.1 vwCl (wX10 a0 g v0_papers v0_raw v0_kind v0_figure v0_heavy v0_place v0_rules v0_lower v0_upper v0_limits v0_limit v0_ties v0_letter v0_letters v0_told v0_tolds (upd v0_places p1.toNatClampNeg p2) r4 v0_refusals v0_imaged v0_hasImage v0_before v0_up v0_down v0_beneath v0_numberUp v0_numberDown v0_block v0_blocks v0_merged v0_valueUp v0_valueDown v0_said v0_saids v0_at v0_number) H → va_D A (wX10 a0 g v0_papers v0_raw v0_kind v0_figure v0_heavy v0_place v0_rules v0_lower v0_upper v0_limits v0_limit v0_ties v0_letter v0_letters v0_told v0_tolds (upd v0_places p1.toNatClampNeg p2) r4 v0_refusals v0_imaged v0_hasImage v0_before v0_up v0_down v0_beneath v0_numberUp v0_numberDown v0_block v0_blocks v0_merged v0_valueUp v0_valueDown v0_said v0_saids v0_at v0_number) → va_S A s.heap H locs → lv_has ls 4 [] → W p l e { frames := 2, cells := 0, slots := 0, locals := 42 } s m [.ref (a0 0), .int p1, .int p2].toArray below meth c H locs 0 0 (MQ below (Qi g .int (m_X10_shelf (v0_papers, v0_raw, v0_kind, v0_figure, v0_heavy, v0_place, v0_rules, v0_lower, v0_upper, v0_limits, v0_limit, v0_ties, v0_letter, v0_letters, v0_told, v0_tolds, v0_places, v0_cell, v0_refusals, v0_imaged, v0_hasImage, v0_before, v0_up, v0_down, v0_beneath, v0_numberUp, v0_numberDown, v0_block, v0_blocks, v0_merged, v0_valueUp, v0_valueDown, v0_said, v0_saids, v0_at, v0_number) p1 p2) (fun u => u.1) (fun u => wX10 a0 g v0_papers v0_raw v0_kind v0_figure v0_heavy v0_place v0_rules v0_lower v0_upper v0_limits v0_limit v0_ties v0_letter v0_letters v0_told v0_tolds u.2.1 u.2.2.1 u.2.2.2 v0_imaged v0_hasImage v0_before v0_up v0_down v0_beneath v0_numberUp v0_numberDown v0_block v0_blocks v0_merged v0_valueUp v0_valueDown v0_said v0_saids v0_at v0_number) A) [.ref (a0 0), .int p1, .int p2].toArray s 0 0 A) (F0 m 66 ls [])) ?_ fu _ r4 er4 ?_ _ _ _ hP hD hS (lv_sub hl [1, 2, 0] rfl)
        · rintro ⟨x2, x3⟩ y hf hB hXt H locs ls hP hD hS hl
          have hP : va_P g.1 vwCl (wX10 a0 g v0_papers v0_raw v0_kind v0_figure v0_heavy v0_place v0_rules v0_lower v0_upper v0_limits v0_limit v0_ties v0_letter v0_letters v0_told v0_tolds (upd v0_places p1.toNatClampNeg p2) x3 v0_refusals v0_imaged v0_hasImage v0_before v0_up v0_down v0_beneath v0_numberUp v0_numberDown v0_block v0_blocks v0_merged v0_valueUp v0_valueDown v0_said v0_saids v0_at v0_number) H := hP
          have hD : va_D A (wX10 a0 g v0_papers v0_raw v0_kind v0_figure v0_heavy v0_place v0_rules v0_lower v0_upper v0_limits v0_limit v0_ties v0_letter v0_letters v0_told v0_tolds (upd v0_places p1.toNatClampNeg p2) x3 v0_refusals v0_imaged v0_hasImage v0_before v0_up v0_down v0_beneath v0_numberUp v0_numberDown v0_block v0_blocks v0_merged v0_valueUp v0_valueDown v0_said v0_saids v0_at v0_number) := hD
          have hl : lv_has ls 4 [(0, .ref (a0 0)), (1, .int p1), (3, .int x2)] := hl
          have hf : m_X10_shelf_l42 p1 x2 x3 = some y := hf
          unfold m_X10_shelf_l42 at hf
          refine lv_iload_n hx hb dX10_shelf_42 rfl (lv_at hl 2 rfl) ?_
          refine lv_bipush (v := 20) hx hb dX10_shelf_43 (by decide) ?_
          refine lv_icmp_ge (tgt := 66) hx hb dX10_shelf_45 (by decide) (fun cb => ?_) (fun cb => ?_)
          · have hf := it_t cb hf
            exact hXt _ (Option.some.inj hf).symm _ _ _ hP hD hS (lv_sub hl [] rfl)
          have hf := it_f cb hf
          refine lv_aload_n hx hb dX10_shelf_48 rfl (lv_at hl 0 rfl) ?_
          refine va_get (D := g.1) (ci := 11) (v := .ref (a0 12)) (C := RX10) (T := TX10) (N := 36) hx hb hts layX10 hown hK.1 hP 0 rfl rfl 17 (by decide) (hts _ kw1294) (fun _ h9 => h9) rfl dX10_shelf_49 ?_
          refine lv_bipush (v := 20) hx hb dX10_shelf_52 (by decide) ?_
          refine lv_iload_n hx hb dX10_shelf_54 rfl (lv_at hl 1 rfl) ?_
          refine lv_imul hx hb dX10_shelf_55 ?_
          refine lv_iload_n hx hb dX10_shelf_56 rfl (lv_at hl 2 rfl) ?_
          refine lv_iadd hx hb dX10_shelf_57 ?_
          refine lv_lconst (v := 0) hx hb dX10_shelf_58 (by decide) ?_
          have hi := it_n hf
          have hf := it_t hi hf
          refine va_last hx hb hK.1 hP hD hS 12 1 rfl rfl (inb_in hi) dX10_shelf_59 (fun H locs hP hD hS => ?_)
          have hP : va_P g.1 vwCl (wX10 a0 g v0_papers v0_raw v0_kind v0_figure v0_heavy v0_place v0_rules v0_lower v0_upper v0_limits v0_limit v0_ties v0_letter v0_letters v0_told v0_tolds (upd v0_places p1.toNatClampNeg p2) (vp_updL x3 (((20 : Int32) * p1) + x2).toNatClampNeg (0 : Int64)) v0_refusals v0_imaged v0_hasImage v0_before v0_up v0_down v0_beneath v0_numberUp v0_numberDown v0_block v0_blocks v0_merged v0_valueUp v0_valueDown v0_said v0_saids v0_at v0_number) H := hP
          have hD : va_D A (wX10 a0 g v0_papers v0_raw v0_kind v0_figure v0_heavy v0_place v0_rules v0_lower v0_upper v0_limits v0_limit v0_ties v0_letter v0_letters v0_told v0_tolds (upd v0_places p1.toNatClampNeg p2) (vp_updL x3 (((20 : Int32) * p1) + x2).toNatClampNeg (0 : Int64)) v0_refusals v0_imaged v0_hasImage v0_before v0_up v0_down v0_beneath v0_numberUp v0_numberDown v0_block v0_blocks v0_merged v0_valueUp v0_valueDown v0_said v0_saids v0_at v0_number) := hD
          refine lv_iinc (v := (x2 + 1)) (lv' := [(3, .int (x2 + 1)), (0, .ref (a0 0)), (1, .int p1)]) hx hb dX10_shelf_60 hl (k := 2) rfl (by rfl) (by decide) rfl (fun ls hl => ?_)
          refine lv_goto (tgt := 42) hx hb dX10_shelf_63 (by decide) ?_
          exact hB _ (Option.some.inj hf).symm _ _ _ hP hD hS (lv_sub hl [1, 2, 0] rfl)
        intro H locs ls hP hD hS hl
        have hP : va_P g.1 vwCl (wX10 a0 g v0_papers v0_raw v0_kind v0_figure v0_heavy v0_place v0_rules v0_lower v0_upper v0_limits v0_limit v0_ties v0_letter v0_letters v0_told v0_tolds (upd v0_places p1.toNatClampNeg p2) r4 v0_refusals v0_imaged v0_hasImage v0_before v0_up v0_down v0_beneath v0_numberUp v0_numberDown v0_block v0_blocks v0_merged v0_valueUp v0_valueDown v0_said v0_saids v0_at v0_number) H := hP
        have hD : va_D A (wX10 a0 g v0_papers v0_raw v0_kind v0_figure v0_heavy v0_place v0_rules v0_lower v0_upper v0_limits v0_limit v0_ties v0_letter v0_letters v0_told v0_tolds (upd v0_places p1.toNatClampNeg p2) r4 v0_refusals v0_imaged v0_hasImage v0_before v0_up v0_down v0_beneath v0_numberUp v0_numberDown v0_block v0_blocks v0_merged v0_valueUp v0_valueDown v0_said v0_saids v0_at v0_number) := hD
        have hl : lv_has ls 4 [] := hl
        refine lv_iconst (v := 1) hx hb dX10_shelf_66 (by decide) ?_
        exact retI (v := (1 : Int32)) (u := ((1 : Int32), (upd v0_places p1.toNatClampNeg p2), r4, v0_refusals)) (val := fun u => u.1) (W1 := fun u => wX10 a0 g v0_papers v0_raw v0_kind v0_figure v0_heavy v0_place v0_rules v0_lower v0_upper v0_limits v0_limit v0_ties v0_letter v0_letters v0_told v0_tolds u.2.1 u.2.2.1 u.2.2.2 v0_imaged v0_hasImage v0_before v0_up v0_down v0_beneath v0_numberUp v0_numberDown v0_block v0_blocks v0_merged v0_valueUp v0_valueDown v0_said v0_saids v0_at v0_number) hx hb hr hlocks hS hP hD (hf0.trans hf.symm) rfl rfl dX10_shelf_67
      have hf := it_f cb hf
      refine lv_bipush (v := (-14)) hx hb dX10_shelf_30 (by decide) ?_
      exact retI (v := (-14 : Int32)) (u := ((-14 : Int32), v0_places, v0_cell, v0_refusals)) (val := fun u => u.1) (W1 := fun u => wX10 a0 g v0_papers v0_raw v0_kind v0_figure v0_heavy v0_place v0_rules v0_lower v0_upper v0_limits v0_limit v0_ties v0_letter v0_letters v0_told v0_tolds u.2.1 u.2.2.1 u.2.2.2 v0_imaged v0_hasImage v0_before v0_up v0_down v0_beneath v0_numberUp v0_numberDown v0_block v0_blocks v0_merged v0_valueUp v0_valueDown v0_said v0_saids v0_at v0_number) hx hb hr hlocks hS hP hD (hf0.trans hf.symm) rfl rfl dX10_shelf_32
    have hf := it_f cb hf
    refine lv_aload_n hx hb dX10_shelf_19 rfl (lv_at hl 0 rfl) ?_
    refine lv_bipush (v := (-6)) hx hb dX10_shelf_20 (by decide) ?_
    refine cI hP hD hS hA hE (fun hPc hDc hSc => rV (As := [.int (-6 : Int32)]) (rest := []) hx hb hml hown hts hK (c_X10_no l g a0 v0_papers v0_raw v0_kind v0_figure v0_heavy v0_place v0_rules v0_lower v0_upper v0_limits v0_limit v0_ties v0_letter v0_letters v0_told v0_tolds v0_places v0_cell v0_refusals v0_imaged v0_hasImage v0_before v0_up v0_down v0_beneath v0_numberUp v0_numberDown v0_block v0_blocks v0_merged v0_valueUp v0_valueDown v0_said v0_saids v0_at v0_number (-6 : Int32) (bnd_ne hf)) svV_X10_no kw1354 rfl rfl hPc hDc hSc rfl rfl hl.1 (Nat.le_of_ble_eq_true rfl) dX10_shelf_22 ⟨Nat.le_of_ble_eq_true rfl, Nat.le_of_ble_eq_true rfl, rfl, rfl, Nat.le_of_ble_eq_true rfl, Nat.le_of_ble_eq_true rfl⟩) [(0, 22)] rfl rfl rfl (fun _ => rfl) (fun x5 H locs ex5 nx5 hP hD hS => ?_)
    have hf := bnd_of hf ex5
    have hP : va_P g.1 vwCl (wX10 a0 g v0_papers v0_raw v0_kind v0_figure v0_heavy v0_place v0_rules v0_lower v0_upper v0_limits v0_limit v0_ties v0_letter v0_letters v0_told v0_tolds v0_places v0_cell x5.2 v0_imaged v0_hasImage v0_before v0_up v0_down v0_beneath v0_numberUp v0_numberDown v0_block v0_blocks v0_merged v0_valueUp v0_valueDown v0_said v0_saids v0_at v0_number) H := hP
    have hD : va_D A (wX10 a0 g v0_papers v0_raw v0_kind v0_figure v0_heavy v0_place v0_rules v0_lower v0_upper v0_limits v0_limit v0_ties v0_letter v0_letters v0_told v0_tolds v0_places v0_cell x5.2 v0_imaged v0_hasImage v0_before v0_up v0_down v0_beneath v0_numberUp v0_numberDown v0_block v0_blocks v0_merged v0_valueUp v0_valueDown v0_said v0_saids v0_at v0_number) := hD
    exact retI (v := x5.1) (u := (x5.1, v0_places, v0_cell, x5.2)) (val := fun u => u.1) (W1 := fun u => wX10 a0 g v0_papers v0_raw v0_kind v0_figure v0_heavy v0_place v0_rules v0_lower v0_upper v0_limits v0_limit v0_ties v0_letter v0_letters v0_told v0_tolds u.2.1 u.2.2.1 u.2.2.2 v0_imaged v0_hasImage v0_before v0_up v0_down v0_beneath v0_numberUp v0_numberDown v0_block v0_blocks v0_merged v0_valueUp v0_valueDown v0_said v0_saids v0_at v0_number) hx hb hr hlocks hS hP hD (hf0.trans hf.symm) rfl rfl dX10_shelf_25
  have hf := it_t cb hf
  refine lv_aload_n hx hb dX10_shelf_7 rfl (lv_at hl 0 rfl) ?_
  refine lv_iconst (v := (-1)) hx hb dX10_shelf_8 (by decide) ?_
  refine cI hP hD hS hA hE (fun hPc hDc hSc => rV (As := [.int (-1 : Int32)]) (rest := []) hx hb hml hown hts hK (c_X10_no l g a0 v0_papers v0_raw v0_kind v0_figure v0_heavy v0_place v0_rules v0_lower v0_upper v0_limits v0_limit v0_ties v0_letter v0_letters v0_told v0_tolds v0_places v0_cell v0_refusals v0_imaged v0_hasImage v0_before v0_up v0_down v0_beneath v0_numberUp v0_numberDown v0_block v0_blocks v0_merged v0_valueUp v0_valueDown v0_said v0_saids v0_at v0_number (-1 : Int32) (bnd_ne hf)) svV_X10_no kw1354 rfl rfl hPc hDc hSc rfl rfl hl.1 (Nat.le_of_ble_eq_true rfl) dX10_shelf_9 ⟨Nat.le_of_ble_eq_true rfl, Nat.le_of_ble_eq_true rfl, rfl, rfl, Nat.le_of_ble_eq_true rfl, Nat.le_of_ble_eq_true rfl⟩) [(0, 22)] rfl rfl rfl (fun _ => rfl) (fun x6 H locs ex6 nx6 hP hD hS => ?_)
  have hf := bnd_of hf ex6
  have hP : va_P g.1 vwCl (wX10 a0 g v0_papers v0_raw v0_kind v0_figure v0_heavy v0_place v0_rules v0_lower v0_upper v0_limits v0_limit v0_ties v0_letter v0_letters v0_told v0_tolds v0_places v0_cell x6.2 v0_imaged v0_hasImage v0_before v0_up v0_down v0_beneath v0_numberUp v0_numberDown v0_block v0_blocks v0_merged v0_valueUp v0_valueDown v0_said v0_saids v0_at v0_number) H := hP
  have hD : va_D A (wX10 a0 g v0_papers v0_raw v0_kind v0_figure v0_heavy v0_place v0_rules v0_lower v0_upper v0_limits v0_limit v0_ties v0_letter v0_letters v0_told v0_tolds v0_places v0_cell x6.2 v0_imaged v0_hasImage v0_before v0_up v0_down v0_beneath v0_numberUp v0_numberDown v0_block v0_blocks v0_merged v0_valueUp v0_valueDown v0_said v0_saids v0_at v0_number) := hD
  exact retI (v := x6.1) (u := (x6.1, v0_places, v0_cell, x6.2)) (val := fun u => u.1) (W1 := fun u => wX10 a0 g v0_papers v0_raw v0_kind v0_figure v0_heavy v0_place v0_rules v0_lower v0_upper v0_limits v0_limit v0_ties v0_letter v0_letters v0_told v0_tolds u.2.1 u.2.2.1 u.2.2.2 v0_imaged v0_hasImage v0_before v0_up v0_down v0_beneath v0_numberUp v0_numberDown v0_block v0_blocks v0_merged v0_valueUp v0_valueDown v0_said v0_saids v0_at v0_number) hx hb hr hlocks hS hP hD (hf0.trans hf.symm) rfl rfl dX10_shelf_12
set_option maxHeartbeats 4000000 in
set_option maxRecDepth 100000 in
theorem c_X10_put (l : Launch) (g : GG) (a0 : Nat → Nat) (v0_papers : Int32) (v0_raw : (Nat → Int32)) (v0_kind : (Nat → Int32)) (v0_figure : (Nat → Int32)) (v0_heavy : (Nat → Int32)) (v0_place : (Nat → Int32)) (v0_rules : Int32) (v0_lower : (Nat → Int32)) (v0_upper : (Nat → Int32)) (v0_limits : Int32) (v0_limit : (Nat → Int32)) (v0_ties : Int32) (v0_letter : (Nat → Int32)) (v0_letters : Int32) (v0_told : (Nat → Int32)) (v0_tolds : Int32) (v0_places : (Nat → Int32)) (v0_cell : (Nat → Int64)) (v0_refusals : (Nat → Int32)) (v0_imaged : (Nat → Int32)) (v0_hasImage : Int32) (v0_before : (Nat → Int32)) (v0_up : Int64) (v0_down : Int64) (v0_beneath : (Nat → Int32)) (v0_numberUp : Int32) (v0_numberDown : Int32) (v0_block : (Nat → Int32)) (v0_blocks : Int32) (v0_merged : Int32) (v0_valueUp : (Nat → Int32)) (v0_valueDown : (Nat → Int32)) (v0_said : (Nat → Int32)) (v0_saids : Int32) (v0_at : Int32) (v0_number : (Nat → Int32)) (p1 : Int32) (p2 : Int32) (p3 : Int64) (hne : (m_X10_put (v0_papers, v0_raw, v0_kind, v0_figure, v0_heavy, v0_place, v0_rules, v0_lower, v0_upper, v0_limits, v0_limit, v0_ties, v0_letter, v0_letters, v0_told, v0_tolds, v0_places, v0_cell, v0_refusals, v0_imaged, v0_hasImage, v0_before, v0_up, v0_down, v0_beneath, v0_numberUp, v0_numberDown, v0_block, v0_blocks, v0_merged, v0_valueUp, v0_valueDown, v0_said, v0_saids, v0_at, v0_number) p1 p2 p3) ≠ none) : Ct l g yX10_put cX10_put 5 (some .int) ({ frames := 2, cells := 0, slots := 0, locals := 44 } : Room) [.ref (a0 0), .int p1, .int p2, .long p3] (wX10 a0 g v0_papers v0_raw v0_kind v0_figure v0_heavy v0_place v0_rules v0_lower v0_upper v0_limits v0_limit v0_ties v0_letter v0_letters v0_told v0_tolds v0_places v0_cell v0_refusals v0_imaged v0_hasImage v0_before v0_up v0_down v0_beneath v0_numberUp v0_numberDown v0_block v0_blocks v0_merged v0_valueUp v0_valueDown v0_said v0_saids v0_at v0_number) (Qi g .int (m_X10_put (v0_papers, v0_raw, v0_kind, v0_figure, v0_heavy, v0_place, v0_rules, v0_lower, v0_upper, v0_limits, v0_limit, v0_ties, v0_letter, v0_letters, v0_told, v0_tolds, v0_places, v0_cell, v0_refusals, v0_imaged, v0_hasImage, v0_before, v0_up, v0_down, v0_beneath, v0_numberUp, v0_numberDown, v0_block, v0_blocks, v0_merged, v0_valueUp, v0_valueDown, v0_said, v0_saids, v0_at, v0_number) p1 p2 p3) (fun u => u.1) (fun u => wX10 a0 g v0_papers v0_raw v0_kind v0_figure v0_heavy v0_place v0_rules v0_lower v0_upper v0_limits v0_limit v0_ties v0_letter v0_letters v0_told v0_tolds v0_places u.2.1 u.2.2 v0_imaged v0_hasImage v0_before v0_up v0_down v0_beneath v0_numberUp v0_numberDown v0_block v0_blocks v0_merged v0_valueUp v0_valueDown v0_said v0_saids v0_at v0_number)) 0 0 := by
  obtain ⟨out, hf⟩ := ne_ex hne
  have hf0 := hf
  refine Ct.of (own := RX10) (by decide +kernel) rfl (Nat.le_of_ble_eq_true rfl) ?_
  intro p e s m below meth c hx hb hr hml hown hts hlocks hin hK A H locs hA hP hD hS hE ls hl
  have hl : lv_has ls 5 [(0, .ref (a0 0)), (1, .int p1), (2, .int p2), (3, .long p3)] := hl
  unfold m_X10_put at hf
  refine lv_iload_n hx hb dX10_put_0 rfl (lv_at hl 1 rfl) ?_
  refine cIp hP hD hS hA hE (fun hPc hDc hSc => rS (As := [.int p1]) (rest := []) hx hb hml hown hts hK (c_X10_isShelf l g p1 (bnd_ne hf)) svS_X10_isShelf kw1684 hPc hDc hSc rfl rfl hl.1 (Nat.le_of_ble_eq_true rfl) dX10_put_1 ⟨Nat.le_of_ble_eq_true rfl, Nat.le_of_ble_eq_true rfl, rfl, rfl, Nat.le_of_ble_eq_true rfl, Nat.le_of_ble_eq_true rfl⟩) [] rfl rfl rfl (fun x1 H locs ex1 nx1 hP hS => ?_)
  have hf := bnd_of hf ex1
  refine lv_if_ne (tgt := 13) hx hb dX10_put_4 (by decide) (fun cb => ?_) (fun cb => ?_)
  · have hf := it_f cb hf
    refine lv_aload_n hx hb dX10_put_13 rfl (lv_at hl 0 rfl) ?_
    refine va_get (D := g.1) (ci := 11) (v := .ref (a0 11)) (C := RX10) (T := TX10) (N := 36) hx hb hts layX10 hown hK.1 hP 0 rfl rfl 16 (by decide) (hts _ kw1293) (fun _ h9 => h9) rfl dX10_put_14 ?_
    refine lv_iload_n hx hb dX10_put_17 rfl (lv_at hl 1 rfl) ?_
    have hi := it_n hf
    have hf := it_t hi hf
    refine va_iald hx hb hK.1 hP 11 0 rfl rfl (inb_in hi) dX10_put_18 ?_
    refine lv_if_ge (tgt := 25) hx hb dX10_put_19 (by decide) (fun cb => ?_) (fun cb => ?_)
    · have hf := it_t cb hf
      refine lv_aload_n hx hb dX10_put_25 rfl (lv_at hl 0 rfl) ?_
      refine lv_iload_n hx hb dX10_put_26 rfl (lv_at hl 1 rfl) ?_
      refine lv_iload_n hx hb dX10_put_27 rfl (lv_at hl 2 rfl) ?_
      refine cIp hP hD hS hA hE (fun hPc hDc hSc => rV (As := [.int p1, .int p2]) (rest := []) hx hb hml hown hts hK (c_X10_isPlace l g a0 v0_papers v0_raw v0_kind v0_figure v0_heavy v0_place v0_rules v0_lower v0_upper v0_limits v0_limit v0_ties v0_letter v0_letters v0_told v0_tolds v0_places v0_cell v0_refusals v0_imaged v0_hasImage v0_before v0_up v0_down v0_beneath v0_numberUp v0_numberDown v0_block v0_blocks v0_merged v0_valueUp v0_valueDown v0_said v0_saids v0_at v0_number p1 p2 (bnd_ne hf)) svV_X10_isPlace kw1691 rfl rfl hPc hDc hSc rfl rfl hl.1 (Nat.le_of_ble_eq_true rfl) dX10_put_28 ⟨Nat.le_of_ble_eq_true rfl, Nat.le_of_ble_eq_true rfl, rfl, rfl, Nat.le_of_ble_eq_true rfl, Nat.le_of_ble_eq_true rfl⟩) [(0, 22)] rfl rfl rfl (fun x2 H locs ex2 nx2 hP hS => ?_)
      have hf := bnd_of hf ex2
      refine lv_if_ne (tgt := 37) hx hb dX10_put_31 (by decide) (fun cb => ?_) (fun cb => ?_)
      · have hf := it_f cb hf
        refine lv_aload_n hx hb dX10_put_37 rfl (lv_at hl 0 rfl) ?_
        refine va_get (D := g.1) (ci := 11) (v := .ref (a0 12)) (C := RX10) (T := TX10) (N := 36) hx hb hts layX10 hown hK.1 hP 0 rfl rfl 17 (by decide) (hts _ kw1294) (fun _ h9 => h9) rfl dX10_put_38 ?_
        refine lv_bipush (v := 20) hx hb dX10_put_41 (by decide) ?_
        refine lv_iload_n hx hb dX10_put_43 rfl (lv_at hl 1 rfl) ?_
        refine lv_imul hx hb dX10_put_44 ?_
        refine lv_iload_n hx hb dX10_put_45 rfl (lv_at hl 2 rfl) ?_
        refine lv_iadd hx hb dX10_put_46 ?_
        refine lv_lload_n hx hb dX10_put_47 rfl (lv_at hl 3 rfl) ?_
        have hi := it_n hf
        have hf := it_t hi hf
        refine va_last hx hb hK.1 hP hD hS 12 1 rfl rfl (inb_in hi) dX10_put_48 (fun H locs hP hD hS => ?_)
        have hP : va_P g.1 vwCl (wX10 a0 g v0_papers v0_raw v0_kind v0_figure v0_heavy v0_place v0_rules v0_lower v0_upper v0_limits v0_limit v0_ties v0_letter v0_letters v0_told v0_tolds v0_places (vp_updL v0_cell (((20 : Int32) * p1) + p2).toNatClampNeg p3) v0_refusals v0_imaged v0_hasImage v0_before v0_up v0_down v0_beneath v0_numberUp v0_numberDown v0_block v0_blocks v0_merged v0_valueUp v0_valueDown v0_said v0_saids v0_at v0_number) H := hP
        have hD : va_D A (wX10 a0 g v0_papers v0_raw v0_kind v0_figure v0_heavy v0_place v0_rules v0_lower v0_upper v0_limits v0_limit v0_ties v0_letter v0_letters v0_told v0_tolds v0_places (vp_updL v0_cell (((20 : Int32) * p1) + p2).toNatClampNeg p3) v0_refusals v0_imaged v0_hasImage v0_before v0_up v0_down v0_beneath v0_numberUp v0_numberDown v0_block v0_blocks v0_merged v0_valueUp v0_valueDown v0_said v0_saids v0_at v0_number) := hD
        refine lv_iconst (v := 1) hx hb dX10_put_49 (by decide) ?_
        exact retI (v := (1 : Int32)) (u := ((1 : Int32), (vp_updL v0_cell (((20 : Int32) * p1) + p2).toNatClampNeg p3), v0_refusals)) (val := fun u => u.1) (W1 := fun u => wX10 a0 g v0_papers v0_raw v0_kind v0_figure v0_heavy v0_place v0_rules v0_lower v0_upper v0_limits v0_limit v0_ties v0_letter v0_letters v0_told v0_tolds v0_places u.2.1 u.2.2 v0_imaged v0_hasImage v0_before v0_up v0_down v0_beneath v0_numberUp v0_numberDown v0_block v0_blocks v0_merged v0_valueUp v0_valueDown v0_said v0_saids v0_at v0_number) hx hb hr hlocks hS hP hD (hf0.trans hf.symm) rfl rfl dX10_put_50
      have hf := it_t cb hf
      refine lv_bipush (v := (-13)) hx hb dX10_put_34 (by decide) ?_
      exact retI (v := (-13 : Int32)) (u := ((-13 : Int32), v0_cell, v0_refusals)) (val := fun u => u.1) (W1 := fun u => wX10 a0 g v0_papers v0_raw v0_kind v0_figure v0_heavy v0_place v0_rules v0_lower v0_upper v0_limits v0_limit v0_ties v0_letter v0_letters v0_told v0_tolds v0_places u.2.1 u.2.2 v0_imaged v0_hasImage v0_before v0_up v0_down v0_beneath v0_numberUp v0_numberDown v0_block v0_blocks v0_merged v0_valueUp v0_valueDown v0_said v0_saids v0_at v0_number) hx hb hr hlocks hS hP hD (hf0.trans hf.symm) rfl rfl dX10_put_36
    have hf := it_f cb hf
    refine lv_bipush (v := (-11)) hx hb dX10_put_22 (by decide) ?_
    exact retI (v := (-11 : Int32)) (u := ((-11 : Int32), v0_cell, v0_refusals)) (val := fun u => u.1) (W1 := fun u => wX10 a0 g v0_papers v0_raw v0_kind v0_figure v0_heavy v0_place v0_rules v0_lower v0_upper v0_limits v0_limit v0_ties v0_letter v0_letters v0_told v0_tolds v0_places u.2.1 u.2.2 v0_imaged v0_hasImage v0_before v0_up v0_down v0_beneath v0_numberUp v0_numberDown v0_block v0_blocks v0_merged v0_valueUp v0_valueDown v0_said v0_saids v0_at v0_number) hx hb hr hlocks hS hP hD (hf0.trans hf.symm) rfl rfl dX10_put_24
  have hf := it_t cb hf
  refine lv_aload_n hx hb dX10_put_7 rfl (lv_at hl 0 rfl) ?_
  refine lv_iconst (v := (-1)) hx hb dX10_put_8 (by decide) ?_
  refine cI hP hD hS hA hE (fun hPc hDc hSc => rV (As := [.int (-1 : Int32)]) (rest := []) hx hb hml hown hts hK (c_X10_no l g a0 v0_papers v0_raw v0_kind v0_figure v0_heavy v0_place v0_rules v0_lower v0_upper v0_limits v0_limit v0_ties v0_letter v0_letters v0_told v0_tolds v0_places v0_cell v0_refusals v0_imaged v0_hasImage v0_before v0_up v0_down v0_beneath v0_numberUp v0_numberDown v0_block v0_blocks v0_merged v0_valueUp v0_valueDown v0_said v0_saids v0_at v0_number (-1 : Int32) (bnd_ne hf)) svV_X10_no kw1354 rfl rfl hPc hDc hSc rfl rfl hl.1 (Nat.le_of_ble_eq_true rfl) dX10_put_9 ⟨Nat.le_of_ble_eq_true rfl, Nat.le_of_ble_eq_true rfl, rfl, rfl, Nat.le_of_ble_eq_true rfl, Nat.le_of_ble_eq_true rfl⟩) [(0, 22)] rfl rfl rfl (fun _ => rfl) (fun x3 H locs ex3 nx3 hP hD hS => ?_)
  have hf := bnd_of hf ex3
  have hP : va_P g.1 vwCl (wX10 a0 g v0_papers v0_raw v0_kind v0_figure v0_heavy v0_place v0_rules v0_lower v0_upper v0_limits v0_limit v0_ties v0_letter v0_letters v0_told v0_tolds v0_places v0_cell x3.2 v0_imaged v0_hasImage v0_before v0_up v0_down v0_beneath v0_numberUp v0_numberDown v0_block v0_blocks v0_merged v0_valueUp v0_valueDown v0_said v0_saids v0_at v0_number) H := hP
  have hD : va_D A (wX10 a0 g v0_papers v0_raw v0_kind v0_figure v0_heavy v0_place v0_rules v0_lower v0_upper v0_limits v0_limit v0_ties v0_letter v0_letters v0_told v0_tolds v0_places v0_cell x3.2 v0_imaged v0_hasImage v0_before v0_up v0_down v0_beneath v0_numberUp v0_numberDown v0_block v0_blocks v0_merged v0_valueUp v0_valueDown v0_said v0_saids v0_at v0_number) := hD
  exact retI (v := x3.1) (u := (x3.1, v0_cell, x3.2)) (val := fun u => u.1) (W1 := fun u => wX10 a0 g v0_papers v0_raw v0_kind v0_figure v0_heavy v0_place v0_rules v0_lower v0_upper v0_limits v0_limit v0_ties v0_letter v0_letters v0_told v0_tolds v0_places u.2.1 u.2.2 v0_imaged v0_hasImage v0_before v0_up v0_down v0_beneath v0_numberUp v0_numberDown v0_block v0_blocks v0_merged v0_valueUp v0_valueDown v0_said v0_saids v0_at v0_number) hx hb hr hlocks hS hP hD (hf0.trans hf.symm) rfl rfl dX10_put_12
set_option maxHeartbeats 4000000 in
set_option maxRecDepth 100000 in
theorem c_X10_look (l : Launch) (g : GG) (a0 : Nat → Nat) (v0_papers : Int32) (v0_raw : (Nat → Int32)) (v0_kind : (Nat → Int32)) (v0_figure : (Nat → Int32)) (v0_heavy : (Nat → Int32)) (v0_place : (Nat → Int32)) (v0_rules : Int32) (v0_lower : (Nat → Int32)) (v0_upper : (Nat → Int32)) (v0_limits : Int32) (v0_limit : (Nat → Int32)) (v0_ties : Int32) (v0_letter : (Nat → Int32)) (v0_letters : Int32) (v0_told : (Nat → Int32)) (v0_tolds : Int32) (v0_places : (Nat → Int32)) (v0_cell : (Nat → Int64)) (v0_refusals : (Nat → Int32)) (v0_imaged : (Nat → Int32)) (v0_hasImage : Int32) (v0_before : (Nat → Int32)) (v0_up : Int64) (v0_down : Int64) (v0_beneath : (Nat → Int32)) (v0_numberUp : Int32) (v0_numberDown : Int32) (v0_block : (Nat → Int32)) (v0_blocks : Int32) (v0_merged : Int32) (v0_valueUp : (Nat → Int32)) (v0_valueDown : (Nat → Int32)) (v0_said : (Nat → Int32)) (v0_saids : Int32) (v0_at : Int32) (v0_number : (Nat → Int32)) (p1 : Int32) (p2 : Int32) (hne : (m_X10_look (v0_papers, v0_raw, v0_kind, v0_figure, v0_heavy, v0_place, v0_rules, v0_lower, v0_upper, v0_limits, v0_limit, v0_ties, v0_letter, v0_letters, v0_told, v0_tolds, v0_places, v0_cell, v0_refusals, v0_imaged, v0_hasImage, v0_before, v0_up, v0_down, v0_beneath, v0_numberUp, v0_numberDown, v0_block, v0_blocks, v0_merged, v0_valueUp, v0_valueDown, v0_said, v0_saids, v0_at, v0_number) p1 p2) ≠ none) : Ct l g yX10_look cX10_look 3 (some .long) ({ frames := 2, cells := 0, slots := 0, locals := 44 } : Room) [.ref (a0 0), .int p1, .int p2] (wX10 a0 g v0_papers v0_raw v0_kind v0_figure v0_heavy v0_place v0_rules v0_lower v0_upper v0_limits v0_limit v0_ties v0_letter v0_letters v0_told v0_tolds v0_places v0_cell v0_refusals v0_imaged v0_hasImage v0_before v0_up v0_down v0_beneath v0_numberUp v0_numberDown v0_block v0_blocks v0_merged v0_valueUp v0_valueDown v0_said v0_saids v0_at v0_number) (Ql g (m_X10_look (v0_papers, v0_raw, v0_kind, v0_figure, v0_heavy, v0_place, v0_rules, v0_lower, v0_upper, v0_limits, v0_limit, v0_ties, v0_letter, v0_letters, v0_told, v0_tolds, v0_places, v0_cell, v0_refusals, v0_imaged, v0_hasImage, v0_before, v0_up, v0_down, v0_beneath, v0_numberUp, v0_numberDown, v0_block, v0_blocks, v0_merged, v0_valueUp, v0_valueDown, v0_said, v0_saids, v0_at, v0_number) p1 p2) (fun u => u.1) (fun u => wX10 a0 g v0_papers v0_raw v0_kind v0_figure v0_heavy v0_place v0_rules v0_lower v0_upper v0_limits v0_limit v0_ties v0_letter v0_letters v0_told v0_tolds v0_places v0_cell u.2 v0_imaged v0_hasImage v0_before v0_up v0_down v0_beneath v0_numberUp v0_numberDown v0_block v0_blocks v0_merged v0_valueUp v0_valueDown v0_said v0_saids v0_at v0_number)) 0 0 := by
  obtain ⟨out, hf⟩ := ne_ex hne
  have hf0 := hf
  refine Ct.of (own := RX10) (by decide +kernel) rfl (Nat.le_of_ble_eq_true rfl) ?_
  intro p e s m below meth c hx hb hr hml hown hts hlocks hin hK A H locs hA hP hD hS hE ls hl
  have hl : lv_has ls 3 [(0, .ref (a0 0)), (1, .int p1), (2, .int p2)] := hl
  unfold m_X10_look at hf
  refine lv_iload_n hx hb dX10_look_0 rfl (lv_at hl 1 rfl) ?_
  refine cIp hP hD hS hA hE (fun hPc hDc hSc => rS (As := [.int p1]) (rest := []) hx hb hml hown hts hK (c_X10_isShelf l g p1 (bnd_ne hf)) svS_X10_isShelf kw1684 hPc hDc hSc rfl rfl hl.1 (Nat.le_of_ble_eq_true rfl) dX10_look_1 ⟨Nat.le_of_ble_eq_true rfl, Nat.le_of_ble_eq_true rfl, rfl, rfl, Nat.le_of_ble_eq_true rfl, Nat.le_of_ble_eq_true rfl⟩) [] rfl rfl rfl (fun x1 H locs ex1 nx1 hP hS => ?_)
  have hf := bnd_of hf ex1
  refine lv_if_ne (tgt := 13) hx hb dX10_look_4 (by decide) (fun cb => ?_) (fun cb => ?_)
  · have hf := it_f cb hf
    refine lv_aload_n hx hb dX10_look_13 rfl (lv_at hl 0 rfl) ?_
    refine va_get (D := g.1) (ci := 11) (v := .ref (a0 11)) (C := RX10) (T := TX10) (N := 36) hx hb hts layX10 hown hK.1 hP 0 rfl rfl 16 (by decide) (hts _ kw1293) (fun _ h9 => h9) rfl dX10_look_14 ?_
    refine lv_iload_n hx hb dX10_look_17 rfl (lv_at hl 1 rfl) ?_
    have hi := it_n hf
    have hf := it_t hi hf
    refine va_iald hx hb hK.1 hP 11 0 rfl rfl (inb_in hi) dX10_look_18 ?_
    refine lv_if_ge (tgt := 26) hx hb dX10_look_19 (by decide) (fun cb => ?_) (fun cb => ?_)
    · have hf := it_t cb hf
      refine lv_aload_n hx hb dX10_look_26 rfl (lv_at hl 0 rfl) ?_
      refine lv_iload_n hx hb dX10_look_27 rfl (lv_at hl 1 rfl) ?_
      refine lv_iload_n hx hb dX10_look_28 rfl (lv_at hl 2 rfl) ?_
      refine cIp hP hD hS hA hE (fun hPc hDc hSc => rV (As := [.int p1, .int p2]) (rest := []) hx hb hml hown hts hK (c_X10_isPlace l g a0 v0_papers v0_raw v0_kind v0_figure v0_heavy v0_place v0_rules v0_lower v0_upper v0_limits v0_limit v0_ties v0_letter v0_letters v0_told v0_tolds v0_places v0_cell v0_refusals v0_imaged v0_hasImage v0_before v0_up v0_down v0_beneath v0_numberUp v0_numberDown v0_block v0_blocks v0_merged v0_valueUp v0_valueDown v0_said v0_saids v0_at v0_number p1 p2 (bnd_ne hf)) svV_X10_isPlace kw1691 rfl rfl hPc hDc hSc rfl rfl hl.1 (Nat.le_of_ble_eq_true rfl) dX10_look_29 ⟨Nat.le_of_ble_eq_true rfl, Nat.le_of_ble_eq_true rfl, rfl, rfl, Nat.le_of_ble_eq_true rfl, Nat.le_of_ble_eq_true rfl⟩) [(0, 22)] rfl rfl rfl (fun x2 H locs ex2 nx2 hP hS => ?_)
      have hf := bnd_of hf ex2
      refine lv_if_eq (tgt := 49) hx hb dX10_look_32 (by decide) (fun cb => ?_) (fun cb => ?_)
      · have hf := it_t cb hf
        refine lv_ldc2 hx hb hown (hts _ kw1699) dX10_look_49 ?_
        exact retL (u := ((4000000000000000013 : Int64), v0_refusals)) (val := fun u => u.1) (W1 := fun u => wX10 a0 g v0_papers v0_raw v0_kind v0_figure v0_heavy v0_place v0_rules v0_lower v0_upper v0_limits v0_limit v0_ties v0_letter v0_letters v0_told v0_tolds v0_places v0_cell u.2 v0_imaged v0_hasImage v0_before v0_up v0_down v0_beneath v0_numberUp v0_numberDown v0_block v0_blocks v0_merged v0_valueUp v0_valueDown v0_said v0_saids v0_at v0_number) hx hb hr hlocks hS hP hD (hf0.trans hf.symm) rfl dX10_look_52
      have hf := it_f cb hf
      refine lv_aload_n hx hb dX10_look_35 rfl (lv_at hl 0 rfl) ?_
      refine va_get (D := g.1) (ci := 11) (v := .ref (a0 12)) (C := RX10) (T := TX10) (N := 36) hx hb hts layX10 hown hK.1 hP 0 rfl rfl 17 (by decide) (hts _ kw1294) (fun _ h9 => h9) rfl dX10_look_36 ?_
      refine lv_bipush (v := 20) hx hb dX10_look_39 (by decide) ?_
      refine lv_iload_n hx hb dX10_look_41 rfl (lv_at hl 1 rfl) ?_
      refine lv_imul hx hb dX10_look_42 ?_
      refine lv_iload_n hx hb dX10_look_43 rfl (lv_at hl 2 rfl) ?_
      refine lv_iadd hx hb dX10_look_44 ?_
      have hi := it_n hf
      have hf := it_t hi hf
      refine va_lald hx hb hK.1 hP 12 1 rfl rfl (inb_in hi) dX10_look_45 ?_
      refine lv_goto (tgt := 52) hx hb dX10_look_46 (by decide) ?_
      exact retL (u := ((v0_cell (((20 : Int32) * p1) + p2).toNatClampNeg), v0_refusals)) (val := fun u => u.1) (W1 := fun u => wX10 a0 g v0_papers v0_raw v0_kind v0_figure v0_heavy v0_place v0_rules v0_lower v0_upper v0_limits v0_limit v0_ties v0_letter v0_letters v0_told v0_tolds v0_places v0_cell u.2 v0_imaged v0_hasImage v0_before v0_up v0_down v0_beneath v0_numberUp v0_numberDown v0_block v0_blocks v0_merged v0_valueUp v0_valueDown v0_said v0_saids v0_at v0_number) hx hb hr hlocks hS hP hD (hf0.trans hf.symm) rfl dX10_look_52
    have hf := it_f cb hf
    refine lv_ldc2 hx hb hown (hts _ kw1698) dX10_look_22 ?_
    exact retL (u := ((4000000000000000011 : Int64), v0_refusals)) (val := fun u => u.1) (W1 := fun u => wX10 a0 g v0_papers v0_raw v0_kind v0_figure v0_heavy v0_place v0_rules v0_lower v0_upper v0_limits v0_limit v0_ties v0_letter v0_letters v0_told v0_tolds v0_places v0_cell u.2 v0_imaged v0_hasImage v0_before v0_up v0_down v0_beneath v0_numberUp v0_numberDown v0_block v0_blocks v0_merged v0_valueUp v0_valueDown v0_said v0_saids v0_at v0_number) hx hb hr hlocks hS hP hD (hf0.trans hf.symm) rfl dX10_look_25
  have hf := it_t cb hf
  refine lv_aload_n hx hb dX10_look_7 rfl (lv_at hl 0 rfl) ?_
  refine lv_iconst (v := (-1)) hx hb dX10_look_8 (by decide) ?_
  refine cL hP hD hS hA hE (fun hPc hDc hSc => rV (As := [.int (-1 : Int32)]) (rest := []) hx hb hml hown hts hK (c_X10_far l g a0 v0_papers v0_raw v0_kind v0_figure v0_heavy v0_place v0_rules v0_lower v0_upper v0_limits v0_limit v0_ties v0_letter v0_letters v0_told v0_tolds v0_places v0_cell v0_refusals v0_imaged v0_hasImage v0_before v0_up v0_down v0_beneath v0_numberUp v0_numberDown v0_block v0_blocks v0_merged v0_valueUp v0_valueDown v0_said v0_saids v0_at v0_number (-1 : Int32) (bnd_ne hf)) svV_X10_far kw1467 rfl rfl hPc hDc hSc rfl rfl hl.1 (Nat.le_of_ble_eq_true rfl) dX10_look_9 ⟨Nat.le_of_ble_eq_true rfl, Nat.le_of_ble_eq_true rfl, rfl, rfl, Nat.le_of_ble_eq_true rfl, Nat.le_of_ble_eq_true rfl⟩) [(0, 22)] rfl rfl rfl (fun _ => rfl) (fun x3 H locs ex3 hP hD hS => ?_)
  have hf := bnd_of hf ex3
  have hP : va_P g.1 vwCl (wX10 a0 g v0_papers v0_raw v0_kind v0_figure v0_heavy v0_place v0_rules v0_lower v0_upper v0_limits v0_limit v0_ties v0_letter v0_letters v0_told v0_tolds v0_places v0_cell x3.2 v0_imaged v0_hasImage v0_before v0_up v0_down v0_beneath v0_numberUp v0_numberDown v0_block v0_blocks v0_merged v0_valueUp v0_valueDown v0_said v0_saids v0_at v0_number) H := hP
  have hD : va_D A (wX10 a0 g v0_papers v0_raw v0_kind v0_figure v0_heavy v0_place v0_rules v0_lower v0_upper v0_limits v0_limit v0_ties v0_letter v0_letters v0_told v0_tolds v0_places v0_cell x3.2 v0_imaged v0_hasImage v0_before v0_up v0_down v0_beneath v0_numberUp v0_numberDown v0_block v0_blocks v0_merged v0_valueUp v0_valueDown v0_said v0_saids v0_at v0_number) := hD
  exact retL (u := (x3.1, x3.2)) (val := fun u => u.1) (W1 := fun u => wX10 a0 g v0_papers v0_raw v0_kind v0_figure v0_heavy v0_place v0_rules v0_lower v0_upper v0_limits v0_limit v0_ties v0_letter v0_letters v0_told v0_tolds v0_places v0_cell u.2 v0_imaged v0_hasImage v0_before v0_up v0_down v0_beneath v0_numberUp v0_numberDown v0_block v0_blocks v0_merged v0_valueUp v0_valueDown v0_said v0_saids v0_at v0_number) hx hb hr hlocks hS hP hD (hf0.trans hf.symm) rfl dX10_look_12
set_option maxHeartbeats 4000000 in
set_option maxRecDepth 100000 in
theorem c_X10_valueAt (l : Launch) (g : GG) (a0 : Nat → Nat) (v0_papers : Int32) (v0_raw : (Nat → Int32)) (v0_kind : (Nat → Int32)) (v0_figure : (Nat → Int32)) (v0_heavy : (Nat → Int32)) (v0_place : (Nat → Int32)) (v0_rules : Int32) (v0_lower : (Nat → Int32)) (v0_upper : (Nat → Int32)) (v0_limits : Int32) (v0_limit : (Nat → Int32)) (v0_ties : Int32) (v0_letter : (Nat → Int32)) (v0_letters : Int32) (v0_told : (Nat → Int32)) (v0_tolds : Int32) (v0_places : (Nat → Int32)) (v0_cell : (Nat → Int64)) (v0_refusals : (Nat → Int32)) (v0_imaged : (Nat → Int32)) (v0_hasImage : Int32) (v0_before : (Nat → Int32)) (v0_up : Int64) (v0_down : Int64) (v0_beneath : (Nat → Int32)) (v0_numberUp : Int32) (v0_numberDown : Int32) (v0_block : (Nat → Int32)) (v0_blocks : Int32) (v0_merged : Int32) (v0_valueUp : (Nat → Int32)) (v0_valueDown : (Nat → Int32)) (v0_said : (Nat → Int32)) (v0_saids : Int32) (v0_at : Int32) (v0_number : (Nat → Int32)) (p1 : Int32) (hne : (m_X10_valueAt (v0_papers, v0_raw, v0_kind, v0_figure, v0_heavy, v0_place, v0_rules, v0_lower, v0_upper, v0_limits, v0_limit, v0_ties, v0_letter, v0_letters, v0_told, v0_tolds, v0_places, v0_cell, v0_refusals, v0_imaged, v0_hasImage, v0_before, v0_up, v0_down, v0_beneath, v0_numberUp, v0_numberDown, v0_block, v0_blocks, v0_merged, v0_valueUp, v0_valueDown, v0_said, v0_saids, v0_at, v0_number) p1) ≠ none) : Ct l g yX10_valueAt cX10_valueAt 2 (some .int) ({ frames := 0, cells := 0, slots := 0, locals := 0 } : Room) [.ref (a0 0), .int p1] (wX10 a0 g v0_papers v0_raw v0_kind v0_figure v0_heavy v0_place v0_rules v0_lower v0_upper v0_limits v0_limit v0_ties v0_letter v0_letters v0_told v0_tolds v0_places v0_cell v0_refusals v0_imaged v0_hasImage v0_before v0_up v0_down v0_beneath v0_numberUp v0_numberDown v0_block v0_blocks v0_merged v0_valueUp v0_valueDown v0_said v0_saids v0_at v0_number) (Qi g .int (m_X10_valueAt (v0_papers, v0_raw, v0_kind, v0_figure, v0_heavy, v0_place, v0_rules, v0_lower, v0_upper, v0_limits, v0_limit, v0_ties, v0_letter, v0_letters, v0_told, v0_tolds, v0_places, v0_cell, v0_refusals, v0_imaged, v0_hasImage, v0_before, v0_up, v0_down, v0_beneath, v0_numberUp, v0_numberDown, v0_block, v0_blocks, v0_merged, v0_valueUp, v0_valueDown, v0_said, v0_saids, v0_at, v0_number) p1) (fun u => u) (fun u => wX10 a0 g v0_papers v0_raw v0_kind v0_figure v0_heavy v0_place v0_rules v0_lower v0_upper v0_limits v0_limit v0_ties v0_letter v0_letters v0_told v0_tolds v0_places v0_cell v0_refusals v0_imaged v0_hasImage v0_before v0_up v0_down v0_beneath v0_numberUp v0_numberDown v0_block v0_blocks v0_merged v0_valueUp v0_valueDown v0_said v0_saids v0_at v0_number)) 0 0 := by
  obtain ⟨out, hf⟩ := ne_ex hne
  have hf0 := hf
  refine Ct.of (own := RX10) (by decide +kernel) rfl (Nat.le_of_ble_eq_true rfl) ?_
  intro p e s m below meth c hx hb hr hml hown hts hlocks hin hK A H locs hA hP hD hS hE ls hl
  have hl : lv_has ls 2 [(0, .ref (a0 0)), (1, .int p1)] := hl
  unfold m_X10_valueAt at hf
  refine lv_iload_n hx hb dX10_valueAt_0 rfl (lv_at hl 1 rfl) ?_
  refine lv_iconst (v := 2) hx hb dX10_valueAt_1 (by decide) ?_
  refine lv_irem hx hb dX10_valueAt_2 (by decide) ?_
  refine lv_if_ne (tgt := 17) hx hb dX10_valueAt_3 (by decide) (fun cb => ?_) (fun cb => ?_)
  · have hf := it_f cb hf
    refine lv_aload_n hx hb dX10_valueAt_17 rfl (lv_at hl 0 rfl) ?_
    refine va_get (D := g.1) (ci := 11) (v := .ref (a0 19)) (C := RX10) (T := TX10) (N := 36) hx hb hts layX10 hown hK.1 hP 0 rfl rfl 31 (by decide) (hts _ kw1308) (fun _ h9 => h9) rfl dX10_valueAt_18 ?_
    refine lv_iload_n hx hb dX10_valueAt_21 rfl (lv_at hl 1 rfl) ?_
    refine lv_iconst (v := 2) hx hb dX10_valueAt_22 (by decide) ?_
    refine lv_idiv hx hb dX10_valueAt_23 (by decide) ?_
    have hi := it_n hf
    have hf := it_t hi hf
    refine va_iald hx hb hK.1 hP 19 0 rfl rfl (inb_in hi) dX10_valueAt_24 ?_
    exact retI (v := (v0_valueDown (p1 / (2 : Int32)).toNatClampNeg)) (u := (v0_valueDown (p1 / (2 : Int32)).toNatClampNeg)) (val := fun u => u) (W1 := fun u => wX10 a0 g v0_papers v0_raw v0_kind v0_figure v0_heavy v0_place v0_rules v0_lower v0_upper v0_limits v0_limit v0_ties v0_letter v0_letters v0_told v0_tolds v0_places v0_cell v0_refusals v0_imaged v0_hasImage v0_before v0_up v0_down v0_beneath v0_numberUp v0_numberDown v0_block v0_blocks v0_merged v0_valueUp v0_valueDown v0_said v0_saids v0_at v0_number) hx hb hr hlocks hS hP hD (hf0.trans hf.symm) rfl rfl dX10_valueAt_25
  have hf := it_t cb hf
  refine lv_aload_n hx hb dX10_valueAt_6 rfl (lv_at hl 0 rfl) ?_
  refine va_get (D := g.1) (ci := 11) (v := .ref (a0 18)) (C := RX10) (T := TX10) (N := 36) hx hb hts layX10 hown hK.1 hP 0 rfl rfl 30 (by decide) (hts _ kw1307) (fun _ h9 => h9) rfl dX10_valueAt_7 ?_
  refine lv_iload_n hx hb dX10_valueAt_10 rfl (lv_at hl 1 rfl) ?_
  refine lv_iconst (v := 2) hx hb dX10_valueAt_11 (by decide) ?_
  refine lv_idiv hx hb dX10_valueAt_12 (by decide) ?_
  have hi := it_n hf
  have hf := it_t hi hf
  refine va_iald hx hb hK.1 hP 18 0 rfl rfl (inb_in hi) dX10_valueAt_13 ?_
  refine lv_goto (tgt := 25) hx hb dX10_valueAt_14 (by decide) ?_
  exact retI (v := (v0_valueUp (p1 / (2 : Int32)).toNatClampNeg)) (u := (v0_valueUp (p1 / (2 : Int32)).toNatClampNeg)) (val := fun u => u) (W1 := fun u => wX10 a0 g v0_papers v0_raw v0_kind v0_figure v0_heavy v0_place v0_rules v0_lower v0_upper v0_limits v0_limit v0_ties v0_letter v0_letters v0_told v0_tolds v0_places v0_cell v0_refusals v0_imaged v0_hasImage v0_before v0_up v0_down v0_beneath v0_numberUp v0_numberDown v0_block v0_blocks v0_merged v0_valueUp v0_valueDown v0_said v0_saids v0_at v0_number) hx hb hr hlocks hS hP hD (hf0.trans hf.symm) rfl rfl dX10_valueAt_25
set_option maxHeartbeats 4000000 in
set_option maxRecDepth 100000 in
theorem c_X10_lays (l : Launch) (g : GG) (a0 : Nat → Nat) (v0_papers : Int32) (v0_raw : (Nat → Int32)) (v0_kind : (Nat → Int32)) (v0_figure : (Nat → Int32)) (v0_heavy : (Nat → Int32)) (v0_place : (Nat → Int32)) (v0_rules : Int32) (v0_lower : (Nat → Int32)) (v0_upper : (Nat → Int32)) (v0_limits : Int32) (v0_limit : (Nat → Int32)) (v0_ties : Int32) (v0_letter : (Nat → Int32)) (v0_letters : Int32) (v0_told : (Nat → Int32)) (v0_tolds : Int32) (v0_places : (Nat → Int32)) (v0_cell : (Nat → Int64)) (v0_refusals : (Nat → Int32)) (v0_imaged : (Nat → Int32)) (v0_hasImage : Int32) (v0_before : (Nat → Int32)) (v0_up : Int64) (v0_down : Int64) (v0_beneath : (Nat → Int32)) (v0_numberUp : Int32) (v0_numberDown : Int32) (v0_block : (Nat → Int32)) (v0_blocks : Int32) (v0_merged : Int32) (v0_valueUp : (Nat → Int32)) (v0_valueDown : (Nat → Int32)) (v0_said : (Nat → Int32)) (v0_saids : Int32) (v0_at : Int32) (v0_number : (Nat → Int32)) (p1 : Int32) (p2 : Int32) (p3 : Int32) (hne : (m_X10_lays (v0_papers, v0_raw, v0_kind, v0_figure, v0_heavy, v0_place, v0_rules, v0_lower, v0_upper, v0_limits, v0_limit, v0_ties, v0_letter, v0_letters, v0_told, v0_tolds, v0_places, v0_cell, v0_refusals, v0_imaged, v0_hasImage, v0_before, v0_up, v0_down, v0_beneath, v0_numberUp, v0_numberDown, v0_block, v0_blocks, v0_merged, v0_valueUp, v0_valueDown, v0_said, v0_saids, v0_at, v0_number) p1 p2 p3) ≠ none) : Ct l g yX10_lays cX10_lays 5 (some .int) ({ frames := 7, cells := 0, slots := 0, locals := 161 } : Room) [.ref (a0 0), .int p1, .int p2, .int p3] (wX10 a0 g v0_papers v0_raw v0_kind v0_figure v0_heavy v0_place v0_rules v0_lower v0_upper v0_limits v0_limit v0_ties v0_letter v0_letters v0_told v0_tolds v0_places v0_cell v0_refusals v0_imaged v0_hasImage v0_before v0_up v0_down v0_beneath v0_numberUp v0_numberDown v0_block v0_blocks v0_merged v0_valueUp v0_valueDown v0_said v0_saids v0_at v0_number) (Qi g .int (m_X10_lays (v0_papers, v0_raw, v0_kind, v0_figure, v0_heavy, v0_place, v0_rules, v0_lower, v0_upper, v0_limits, v0_limit, v0_ties, v0_letter, v0_letters, v0_told, v0_tolds, v0_places, v0_cell, v0_refusals, v0_imaged, v0_hasImage, v0_before, v0_up, v0_down, v0_beneath, v0_numberUp, v0_numberDown, v0_block, v0_blocks, v0_merged, v0_valueUp, v0_valueDown, v0_said, v0_saids, v0_at, v0_number) p1 p2 p3) (fun u => u.1) (fun u => wX10 a0 g v0_papers v0_raw v0_kind v0_figure v0_heavy v0_place v0_rules v0_lower v0_upper v0_limits v0_limit v0_ties v0_letter v0_letters v0_told v0_tolds v0_places u.2.1 u.2.2.1 v0_imaged v0_hasImage v0_before u.2.2.2.1 u.2.2.2.2.1 u.2.2.2.2.2.1 v0_numberUp v0_numberDown v0_block v0_blocks v0_merged u.2.2.2.2.2.2.1 u.2.2.2.2.2.2.2 v0_said v0_saids v0_at v0_number)) 0 0 := by
  obtain ⟨out, hf⟩ := ne_ex hne
  have hf0 := hf
  refine Ct.of (own := RX10) (by decide +kernel) rfl (Nat.le_of_ble_eq_true rfl) ?_
  intro p e s m below meth c hx hb hr hml hown hts hlocks hin hK A H locs hA hP hD hS hE ls hl
  have hl : lv_has ls 5 [(0, .ref (a0 0)), (1, .int p1), (2, .int p2), (3, .int p3)] := hl
  unfold m_X10_lays at hf
  refine lv_iload_n hx hb dX10_lays_0 rfl (lv_at hl 1 rfl) ?_
  refine cIp hP hD hS hA hE (fun hPc hDc hSc => rS (As := [.int p1]) (rest := []) hx hb hml hown hts hK (c_X10_isLoss l g p1 (bnd_ne hf)) svS_X10_isLoss kw1548 hPc hDc hSc rfl rfl hl.1 (Nat.le_of_ble_eq_true rfl) dX10_lays_1 ⟨Nat.le_of_ble_eq_true rfl, Nat.le_of_ble_eq_true rfl, rfl, rfl, Nat.le_of_ble_eq_true rfl, Nat.le_of_ble_eq_true rfl⟩) [] rfl rfl rfl (fun x1 H locs ex1 nx1 hP hS => ?_)
  have hf := bnd_of hf ex1
  refine lv_if_ne (tgt := 14) hx hb dX10_lays_4 (by decide) (fun cb => ?_) (fun cb => ?_)
  · have hf := it_f cb hf
    refine lv_iload_n hx hb dX10_lays_14 rfl (lv_at hl 2 rfl) ?_
    refine cIp hP hD hS hA hE (fun hPc hDc hSc => rS (As := [.int p2]) (rest := []) hx hb hml hown hts hK (c_X10_isShelf l g p2 (bnd_ne hf)) svS_X10_isShelf kw1684 hPc hDc hSc rfl rfl hl.1 (Nat.le_of_ble_eq_true rfl) dX10_lays_15 ⟨Nat.le_of_ble_eq_true rfl, Nat.le_of_ble_eq_true rfl, rfl, rfl, Nat.le_of_ble_eq_true rfl, Nat.le_of_ble_eq_true rfl⟩) [] rfl rfl rfl (fun x2 H locs ex2 nx2 hP hS => ?_)
    have hf := bnd_of hf ex2
    refine lv_if_ne (tgt := 27) hx hb dX10_lays_18 (by decide) (fun cb => ?_) (fun cb => ?_)
    · have hf := it_f cb hf
      refine lv_aload_n hx hb dX10_lays_27 rfl (lv_at hl 0 rfl) ?_
      refine va_get (D := g.1) (ci := 11) (v := .ref (a0 11)) (C := RX10) (T := TX10) (N := 36) hx hb hts layX10 hown hK.1 hP 0 rfl rfl 16 (by decide) (hts _ kw1293) (fun _ h9 => h9) rfl dX10_lays_28 ?_
      refine lv_iload_n hx hb dX10_lays_31 rfl (lv_at hl 2 rfl) ?_
      have hi := it_n hf
      have hf := it_t hi hf
      refine va_iald hx hb hK.1 hP 11 0 rfl rfl (inb_in hi) dX10_lays_32 ?_
      refine lv_if_ge (tgt := 39) hx hb dX10_lays_33 (by decide) (fun cb => ?_) (fun cb => ?_)
      · have hf := it_t cb hf
        refine lv_aload_n hx hb dX10_lays_39 rfl (lv_at hl 0 rfl) ?_
        refine lv_iload_n hx hb dX10_lays_40 rfl (lv_at hl 1 rfl) ?_
        refine lv_aload_n hx hb dX10_lays_41 rfl (lv_at hl 0 rfl) ?_
        refine cIp hP hD hS hA hE (fun hPc hDc hSc => rV (As := []) (rest := [.int p1, .ref (a0 0)]) hx hb hml hown hts hK (c_X10_allRules l g a0 v0_papers v0_raw v0_kind v0_figure v0_heavy v0_place v0_rules v0_lower v0_upper v0_limits v0_limit v0_ties v0_letter v0_letters v0_told v0_tolds v0_places v0_cell v0_refusals v0_imaged v0_hasImage v0_before v0_up v0_down v0_beneath v0_numberUp v0_numberDown v0_block v0_blocks v0_merged v0_valueUp v0_valueDown v0_said v0_saids v0_at v0_number (bnd_ne hf)) svV_X10_allRules kw1389 rfl rfl hPc hDc hSc rfl rfl hl.1 (Nat.le_of_ble_eq_true rfl) dX10_lays_42 ⟨Nat.le_of_ble_eq_true rfl, Nat.le_of_ble_eq_true rfl, rfl, rfl, Nat.le_of_ble_eq_true rfl, Nat.le_of_ble_eq_true rfl⟩) [(0, 22)] rfl rfl rfl (fun x3 H locs ex3 nx3 hP hS => ?_)
        have hf := bnd_of hf ex3
        refine cV hP hD hS hA hE (fun hPc hDc hSc => rV (As := [.int p1, .int x3]) (rest := []) hx hb hml hown hts hK (c_X10_values l g a0 v0_papers v0_raw v0_kind v0_figure v0_heavy v0_place v0_rules v0_lower v0_upper v0_limits v0_limit v0_ties v0_letter v0_letters v0_told v0_tolds v0_places v0_cell v0_refusals v0_imaged v0_hasImage v0_before v0_up v0_down v0_beneath v0_numberUp v0_numberDown v0_block v0_blocks v0_merged v0_valueUp v0_valueDown v0_said v0_saids v0_at v0_number p1 x3 (bnd_ne hf)) svV_X10_values kw1551 rfl rfl hPc hDc hSc rfl rfl hl.1 (Nat.le_of_ble_eq_true rfl) dX10_lays_45 ⟨Nat.le_of_ble_eq_true rfl, Nat.le_of_ble_eq_true rfl, rfl, rfl, Nat.le_of_ble_eq_true rfl, Nat.le_of_ble_eq_true rfl⟩) [(0, 22)] rfl rfl rfl (fun _ => rfl) (fun x4 H locs ex4 hP hD hS => ?_)
        have hf := bnd_of hf ex4
        have hP : va_P g.1 vwCl (wX10 a0 g v0_papers v0_raw v0_kind v0_figure v0_heavy v0_place v0_rules v0_lower v0_upper v0_limits v0_limit v0_ties v0_letter v0_letters v0_told v0_tolds v0_places v0_cell v0_refusals v0_imaged v0_hasImage v0_before x4.1 x4.2.1 x4.2.2.1 v0_numberUp v0_numberDown v0_block v0_blocks v0_merged x4.2.2.2.1 x4.2.2.2.2 v0_said v0_saids v0_at v0_number) H := hP
        have hD : va_D A (wX10 a0 g v0_papers v0_raw v0_kind v0_figure v0_heavy v0_place v0_rules v0_lower v0_upper v0_limits v0_limit v0_ties v0_letter v0_letters v0_told v0_tolds v0_places v0_cell v0_refusals v0_imaged v0_hasImage v0_before x4.1 x4.2.1 x4.2.2.1 v0_numberUp v0_numberDown v0_block v0_blocks v0_merged x4.2.2.2.1 x4.2.2.2.2 v0_said v0_saids v0_at v0_number) := hD
        refine lv_iconst (v := 0) hx hb dX10_lays_48 (by decide) ?_
        refine lv_istore (lv' := [(4, .int (0 : Int32)), (0, .ref (a0 0)), (1, .int p1), (2, .int p2), (3, .int p3)]) hx hb dX10_lays_49 hl (by decide) rfl (fun ls hl => ?_)
        obtain ⟨r9, er9, hf⟩ := bnd hf
        refine lp_W (P := fun z => ∀ (H : Heap) (locs : List Loc) (ls : Array Slot), va_P g.1 vwCl (wX10 a0 g v0_papers v0_raw v0_kind v0_figure v0_heavy v0_place v0_rules v0_lower v0_upper v0_limits v0_limit v0_ties v0_letter v0_letters v0_told v0_tolds v0_places z.2 v0_refusals v0_imaged v0_hasImage v0_before x4.1 x4.2.1 x4.2.2.1 v0_numberUp v0_numberDown v0_block v0_blocks v0_merged x4.2.2.2.1 x4.2.2.2.2 v0_said v0_saids v0_at v0_number) H → va_D A (wX10 a0 g v0_papers v0_raw v0_kind v0_figure v0_heavy v0_place v0_rules v0_lower v0_upper v0_limits v0_limit v0_ties v0_letter v0_letters v0_told v0_tolds v0_places z.2 v0_refusals v0_imaged v0_hasImage v0_before x4.1 x4.2.1 x4.2.2.1 v0_numberUp v0_numberDown v0_block v0_blocks v0_merged x4.2.2.2.1 x4.2.2.2.2 v0_said v0_saids v0_at v0_number) → va_S A s.heap H locs → lv_has ls 5 [(0, .ref (a0 0)), (2, .int p2), (3, .int p3), (4, .int z.1)] → W p l e { frames := 7, cells := 0, slots := 0, locals := 161 } s m [.ref (a0 0), .int p1, .int p2, .int p3].toArray below meth c H locs 0 0 (MQ below (Qi g .int (m_X10_lays (v0_papers, v0_raw, v0_kind, v0_figure, v0_heavy, v0_place, v0_rules, v0_lower, v0_upper, v0_limits, v0_limit, v0_ties, v0_letter, v0_letters, v0_told, v0_tolds, v0_places, v0_cell, v0_refusals, v0_imaged, v0_hasImage, v0_before, v0_up, v0_down, v0_beneath, v0_numberUp, v0_numberDown, v0_block, v0_blocks, v0_merged, v0_valueUp, v0_valueDown, v0_said, v0_saids, v0_at, v0_number) p1 p2 p3) (fun u => u.1) (fun u => wX10 a0 g v0_papers v0_raw v0_kind v0_figure v0_heavy v0_place v0_rules v0_lower v0_upper v0_limits v0_limit v0_ties v0_letter v0_letters v0_told v0_tolds v0_places u.2.1 u.2.2.1 v0_imaged v0_hasImage v0_before u.2.2.2.1 u.2.2.2.2.1 u.2.2.2.2.2.1 v0_numberUp v0_numberDown v0_block v0_blocks v0_merged u.2.2.2.2.2.2.1 u.2.2.2.2.2.2.2 v0_said v0_saids v0_at v0_number) A) [.ref (a0 0), .int p1, .int p2, .int p3].toArray s 0 0 A) (F0 m 51 ls [])) (E := fun r9 => match r9 with | .inl x10 => (∀ (H : Heap) (locs : List Loc) (ls : Array Slot), va_P g.1 vwCl (wX10 a0 g v0_papers v0_raw v0_kind v0_figure v0_heavy v0_place v0_rules v0_lower v0_upper v0_limits v0_limit v0_ties v0_letter v0_letters v0_told v0_tolds v0_places x10 v0_refusals v0_imaged v0_hasImage v0_before x4.1 x4.2.1 x4.2.2.1 v0_numberUp v0_numberDown v0_block v0_blocks v0_merged x4.2.2.2.1 x4.2.2.2.2 v0_said v0_saids v0_at v0_number) H → va_D A (wX10 a0 g v0_papers v0_raw v0_kind v0_figure v0_heavy v0_place v0_rules v0_lower v0_upper v0_limits v0_limit v0_ties v0_letter v0_letters v0_told v0_tolds v0_places x10 v0_refusals v0_imaged v0_hasImage v0_before x4.1 x4.2.1 x4.2.2.1 v0_numberUp v0_numberDown v0_block v0_blocks v0_merged x4.2.2.2.1 x4.2.2.2.2 v0_said v0_saids v0_at v0_number) → va_S A s.heap H locs → lv_has ls 5 [] → W p l e { frames := 7, cells := 0, slots := 0, locals := 161 } s m [.ref (a0 0), .int p1, .int p2, .int p3].toArray below meth c H locs 0 0 (MQ below (Qi g .int (m_X10_lays (v0_papers, v0_raw, v0_kind, v0_figure, v0_heavy, v0_place, v0_rules, v0_lower, v0_upper, v0_limits, v0_limit, v0_ties, v0_letter, v0_letters, v0_told, v0_tolds, v0_places, v0_cell, v0_refusals, v0_imaged, v0_hasImage, v0_before, v0_up, v0_down, v0_beneath, v0_numberUp, v0_numberDown, v0_block, v0_blocks, v0_merged, v0_valueUp, v0_valueDown, v0_said, v0_saids, v0_at, v0_number) p1 p2 p3) (fun u => u.1) (fun u => wX10 a0 g v0_papers v0_raw v0_kind v0_figure v0_heavy v0_place v0_rules v0_lower v0_upper v0_limits v0_limit v0_ties v0_letter v0_letters v0_told v0_tolds v0_places u.2.1 u.2.2.1 v0_imaged v0_hasImage v0_before u.2.2.2.1 u.2.2.2.2.1 u.2.2.2.2.2.1 v0_numberUp v0_numberDown v0_block v0_blocks v0_merged u.2.2.2.2.2.2.1 u.2.2.2.2.2.2.2 v0_said v0_saids v0_at v0_number) A) [.ref (a0 0), .int p1, .int p2, .int p3].toArray s 0 0 A) (F0 m 83 ls [])) | .inr x11 => (∀ (H : Heap) (locs : List Loc) (ls : Array Slot), va_P g.1 vwCl (wX10 a0 g v0_papers v0_raw v0_kind v0_figure v0_heavy v0_place v0_rules v0_lower v0_upper v0_limits v0_limit v0_ties v0_letter v0_letters v0_told v0_tolds v0_places x11 v0_refusals v0_imaged v0_hasImage v0_before x4.1 x4.2.1 x4.2.2.1 v0_numberUp v0_numberDown v0_block v0_blocks v0_merged x4.2.2.2.1 x4.2.2.2.2 v0_said v0_saids v0_at v0_number) H → va_D A (wX10 a0 g v0_papers v0_raw v0_kind v0_figure v0_heavy v0_place v0_rules v0_lower v0_upper v0_limits v0_limit v0_ties v0_letter v0_letters v0_told v0_tolds v0_places x11 v0_refusals v0_imaged v0_hasImage v0_before x4.1 x4.2.1 x4.2.2.1 v0_numberUp v0_numberDown v0_block v0_blocks v0_merged x4.2.2.2.1 x4.2.2.2.2 v0_said v0_saids v0_at v0_number) → va_S A s.heap H locs → lv_has ls 5 [(0, .ref (a0 0))] → W p l e { frames := 7, cells := 0, slots := 0, locals := 161 } s m [.ref (a0 0), .int p1, .int p2, .int p3].toArray below meth c H locs 0 0 (MQ below (Qi g .int (m_X10_lays (v0_papers, v0_raw, v0_kind, v0_figure, v0_heavy, v0_place, v0_rules, v0_lower, v0_upper, v0_limits, v0_limit, v0_ties, v0_letter, v0_letters, v0_told, v0_tolds, v0_places, v0_cell, v0_refusals, v0_imaged, v0_hasImage, v0_before, v0_up, v0_down, v0_beneath, v0_numberUp, v0_numberDown, v0_block, v0_blocks, v0_merged, v0_valueUp, v0_valueDown, v0_said, v0_saids, v0_at, v0_number) p1 p2 p3) (fun u => u.1) (fun u => wX10 a0 g v0_papers v0_raw v0_kind v0_figure v0_heavy v0_place v0_rules v0_lower v0_upper v0_limits v0_limit v0_ties v0_letter v0_letters v0_told v0_tolds v0_places u.2.1 u.2.2.1 v0_imaged v0_hasImage v0_before u.2.2.2.1 u.2.2.2.2.1 u.2.2.2.2.2.1 v0_numberUp v0_numberDown v0_block v0_blocks v0_merged u.2.2.2.2.2.2.1 u.2.2.2.2.2.2.2 v0_said v0_saids v0_at v0_number) A) [.ref (a0 0), .int p1, .int p2, .int p3].toArray s 0 0 A) (F0 m 113 ls []))) ?_ fu _ r9 er9 ?_ _ _ _ hP hD hS (lv_sub hl [1, 3, 4, 0] rfl)
        · rintro ⟨x6, x7⟩ y hf hB hXt H locs ls hP hD hS hl
          have hP : va_P g.1 vwCl (wX10 a0 g v0_papers v0_raw v0_kind v0_figure v0_heavy v0_place v0_rules v0_lower v0_upper v0_limits v0_limit v0_ties v0_letter v0_letters v0_told v0_tolds v0_places x7 v0_refusals v0_imaged v0_hasImage v0_before x4.1 x4.2.1 x4.2.2.1 v0_numberUp v0_numberDown v0_block v0_blocks v0_merged x4.2.2.2.1 x4.2.2.2.2 v0_said v0_saids v0_at v0_number) H := hP
          have hD : va_D A (wX10 a0 g v0_papers v0_raw v0_kind v0_figure v0_heavy v0_place v0_rules v0_lower v0_upper v0_limits v0_limit v0_ties v0_letter v0_letters v0_told v0_tolds v0_places x7 v0_refusals v0_imaged v0_hasImage v0_before x4.1 x4.2.1 x4.2.2.1 v0_numberUp v0_numberDown v0_block v0_blocks v0_merged x4.2.2.2.1 x4.2.2.2.2 v0_said v0_saids v0_at v0_number) := hD
          have hl : lv_has ls 5 [(0, .ref (a0 0)), (2, .int p2), (3, .int p3), (4, .int x6)] := hl
          have hf : m_X10_lays_l51 (v0_papers, v0_raw, v0_kind, v0_figure, v0_heavy, v0_place, v0_rules, v0_lower, v0_upper, v0_limits, v0_limit, v0_ties, v0_letter, v0_letters, v0_told, v0_tolds, v0_places, v0_cell, v0_refusals, v0_imaged, v0_hasImage, v0_before, v0_up, v0_down, v0_beneath, v0_numberUp, v0_numberDown, v0_block, v0_blocks, v0_merged, v0_valueUp, v0_valueDown, v0_said, v0_saids, v0_at, v0_number) p2 p3 x4 x6 x7 = some y := hf
          unfold m_X10_lays_l51 at hf
          refine lv_iload hx hb dX10_lays_51 (lv_at hl 3 rfl) ?_
          refine lv_iconst (v := 2) hx hb dX10_lays_53 (by decide) ?_
          refine lv_aload_n hx hb dX10_lays_54 rfl (lv_at hl 0 rfl) ?_
          refine va_get (D := g.1) (ci := 11) (v := .int v0_papers) (C := RX10) (T := TX10) (N := 36) hx hb hts layX10 hown hK.1 hP 0 rfl rfl 0 (by decide) (hts _ kw1277) (fun _ h9 => h9) rfl dX10_lays_55 ?_
          refine lv_imul hx hb dX10_lays_58 ?_
          refine lv_icmp_ge (tgt := 113) hx hb dX10_lays_59 (by decide) (fun cb => ?_) (fun cb => ?_)
          · have hf := it_t cb hf
            exact hXt _ (Option.some.inj hf).symm _ _ _ hP hD hS (lv_sub hl [0] rfl)
          have hf := it_f cb hf
          refine lv_iload_n hx hb dX10_lays_62 rfl (lv_at hl 2 rfl) ?_
          refine lv_if_lt (tgt := 83) hx hb dX10_lays_63 (by decide) (fun cb => ?_) (fun cb => ?_)
          · have hf := it_t cb hf
            exact hXt _ (Option.some.inj hf).symm _ _ _ hP hD hS (lv_sub hl [] rfl)
          have hf := it_f cb hf
          refine lv_iload_n hx hb dX10_lays_66 rfl (lv_at hl 2 rfl) ?_
          refine lv_i2l (v := p3.toInt64) hx hb dX10_lays_67 rfl ?_
          refine lv_iload hx hb dX10_lays_68 (lv_at hl 3 rfl) ?_
          refine lv_i2l (v := x6.toInt64) hx hb dX10_lays_70 rfl ?_
          refine lv_ladd hx hb dX10_lays_71 ?_
          refine lv_aload_n hx hb dX10_lays_72 rfl (lv_at hl 0 rfl) ?_
          refine va_get (D := g.1) (ci := 11) (v := .ref (a0 11)) (C := RX10) (T := TX10) (N := 36) hx hb hts layX10 hown hK.1 hP 0 rfl rfl 16 (by decide) (hts _ kw1293) (fun _ h9 => h9) rfl dX10_lays_73 ?_
          refine lv_iload_n hx hb dX10_lays_76 rfl (lv_at hl 1 rfl) ?_
          have hi := it_n hf
          have hf := it_t hi hf
          refine va_iald hx hb hK.1 hP 11 0 rfl rfl (inb_in hi) dX10_lays_77 ?_
          refine lv_i2l (v := (v0_places p2.toNatClampNeg).toInt64) hx hb dX10_lays_78 rfl ?_
          refine lc_lt (tgt := 86) hx hb dX10_lays_79 dX10_lays_80 (by decide) (fun cb => ?_) (fun cb => ?_)
          · have hf := it_t cb hf
            refine lv_aload_n hx hb dX10_lays_86 rfl (lv_at hl 0 rfl) ?_
            refine va_get (D := g.1) (ci := 11) (v := .ref (a0 12)) (C := RX10) (T := TX10) (N := 36) hx hb hts layX10 hown hK.1 hP 0 rfl rfl 17 (by decide) (hts _ kw1294) (fun _ h9 => h9) rfl dX10_lays_87 ?_
            refine lv_bipush (v := 20) hx hb dX10_lays_90 (by decide) ?_
            refine lv_iload_n hx hb dX10_lays_92 rfl (lv_at hl 1 rfl) ?_
            refine lv_imul hx hb dX10_lays_93 ?_
            refine lv_iload_n hx hb dX10_lays_94 rfl (lv_at hl 2 rfl) ?_
            refine lv_iadd hx hb dX10_lays_95 ?_
            refine lv_iload hx hb dX10_lays_96 (lv_at hl 3 rfl) ?_
            refine lv_iadd hx hb dX10_lays_98 ?_
            refine lv_aload_n hx hb dX10_lays_99 rfl (lv_at hl 0 rfl) ?_
            refine lv_iload hx hb dX10_lays_100 (lv_at hl 3 rfl) ?_
            refine cIp hP hD hS hA hE (fun hPc hDc hSc => rV (As := [.int x6]) (rest := [.int ((((20 : Int32) * p2) + p3) + x6), .ref (a0 12)]) hx hb hml hown hts hK (c_X10_valueAt l g a0 v0_papers v0_raw v0_kind v0_figure v0_heavy v0_place v0_rules v0_lower v0_upper v0_limits v0_limit v0_ties v0_letter v0_letters v0_told v0_tolds v0_places x7 v0_refusals v0_imaged v0_hasImage v0_before x4.1 x4.2.1 x4.2.2.1 v0_numberUp v0_numberDown v0_block v0_blocks v0_merged x4.2.2.2.1 x4.2.2.2.2 v0_said v0_saids v0_at v0_number x6 (bnd_ne hf)) svV_X10_valueAt kw1704 rfl rfl hPc hDc hSc rfl rfl hl.1 (Nat.le_of_ble_eq_true rfl) dX10_lays_102 ⟨Nat.le_of_ble_eq_true rfl, Nat.le_of_ble_eq_true rfl, rfl, rfl, Nat.le_of_ble_eq_true rfl, Nat.le_of_ble_eq_true rfl⟩) [(0, 22)] rfl rfl rfl (fun x8 H locs ex8 nx8 hP hS => ?_)
            have hf := bnd_of hf ex8
            refine lv_i2l (v := x8.toInt64) hx hb dX10_lays_105 rfl ?_
            have hi := it_n hf
            have hf := it_t hi hf
            refine va_last hx hb hK.1 hP hD hS 12 1 rfl rfl (inb_in hi) dX10_lays_106 (fun H locs hP hD hS => ?_)
            have hP : va_P g.1 vwCl (wX10 a0 g v0_papers v0_raw v0_kind v0_figure v0_heavy v0_place v0_rules v0_lower v0_upper v0_limits v0_limit v0_ties v0_letter v0_letters v0_told v0_tolds v0_places (vp_updL x7 ((((20 : Int32) * p2) + p3) + x6).toNatClampNeg x8.toInt64) v0_refusals v0_imaged v0_hasImage v0_before x4.1 x4.2.1 x4.2.2.1 v0_numberUp v0_numberDown v0_block v0_blocks v0_merged x4.2.2.2.1 x4.2.2.2.2 v0_said v0_saids v0_at v0_number) H := hP
            have hD : va_D A (wX10 a0 g v0_papers v0_raw v0_kind v0_figure v0_heavy v0_place v0_rules v0_lower v0_upper v0_limits v0_limit v0_ties v0_letter v0_letters v0_told v0_tolds v0_places (vp_updL x7 ((((20 : Int32) * p2) + p3) + x6).toNatClampNeg x8.toInt64) v0_refusals v0_imaged v0_hasImage v0_before x4.1 x4.2.1 x4.2.2.1 v0_numberUp v0_numberDown v0_block v0_blocks v0_merged x4.2.2.2.1 x4.2.2.2.2 v0_said v0_saids v0_at v0_number) := hD
            refine lv_iinc (v := (x6 + 1)) (lv' := [(4, .int (x6 + 1)), (0, .ref (a0 0)), (2, .int p2), (3, .int p3)]) hx hb dX10_lays_107 hl (k := 3) rfl (by rfl) (by decide) rfl (fun ls hl => ?_)
            refine lv_goto (tgt := 51) hx hb dX10_lays_110 (by decide) ?_
            exact hB _ (Option.some.inj hf).symm _ _ _ hP hD hS (lv_sub hl [1, 2, 3, 0] rfl)
          have hf := it_f cb hf
          exact hXt _ (Option.some.inj hf).symm _ _ _ hP hD hS (lv_sub hl [] rfl)
        rcases r9 with x10 | x11
        · intro H locs ls hP hD hS hl
          have hP : va_P g.1 vwCl (wX10 a0 g v0_papers v0_raw v0_kind v0_figure v0_heavy v0_place v0_rules v0_lower v0_upper v0_limits v0_limit v0_ties v0_letter v0_letters v0_told v0_tolds v0_places x10 v0_refusals v0_imaged v0_hasImage v0_before x4.1 x4.2.1 x4.2.2.1 v0_numberUp v0_numberDown v0_block v0_blocks v0_merged x4.2.2.2.1 x4.2.2.2.2 v0_said v0_saids v0_at v0_number) H := hP
          have hD : va_D A (wX10 a0 g v0_papers v0_raw v0_kind v0_figure v0_heavy v0_place v0_rules v0_lower v0_upper v0_limits v0_limit v0_ties v0_letter v0_letters v0_told v0_tolds v0_places x10 v0_refusals v0_imaged v0_hasImage v0_before x4.1 x4.2.1 x4.2.2.1 v0_numberUp v0_numberDown v0_block v0_blocks v0_merged x4.2.2.2.1 x4.2.2.2.2 v0_said v0_saids v0_at v0_number) := hD
          have hl : lv_has ls 5 [] := hl
          refine lv_bipush (v := (-13)) hx hb dX10_lays_83 (by decide) ?_
          exact retI (v := (-13 : Int32)) (u := ((-13 : Int32), x10, v0_refusals, x4.1, x4.2.1, x4.2.2.1, x4.2.2.2.1, x4.2.2.2.2)) (val := fun u => u.1) (W1 := fun u => wX10 a0 g v0_papers v0_raw v0_kind v0_figure v0_heavy v0_place v0_rules v0_lower v0_upper v0_limits v0_limit v0_ties v0_letter v0_letters v0_told v0_tolds v0_places u.2.1 u.2.2.1 v0_imaged v0_hasImage v0_before u.2.2.2.1 u.2.2.2.2.1 u.2.2.2.2.2.1 v0_numberUp v0_numberDown v0_block v0_blocks v0_merged u.2.2.2.2.2.2.1 u.2.2.2.2.2.2.2 v0_said v0_saids v0_at v0_number) hx hb hr hlocks hS hP hD (hf0.trans hf.symm) rfl rfl dX10_lays_85
        · intro H locs ls hP hD hS hl
          have hP : va_P g.1 vwCl (wX10 a0 g v0_papers v0_raw v0_kind v0_figure v0_heavy v0_place v0_rules v0_lower v0_upper v0_limits v0_limit v0_ties v0_letter v0_letters v0_told v0_tolds v0_places x11 v0_refusals v0_imaged v0_hasImage v0_before x4.1 x4.2.1 x4.2.2.1 v0_numberUp v0_numberDown v0_block v0_blocks v0_merged x4.2.2.2.1 x4.2.2.2.2 v0_said v0_saids v0_at v0_number) H := hP
          have hD : va_D A (wX10 a0 g v0_papers v0_raw v0_kind v0_figure v0_heavy v0_place v0_rules v0_lower v0_upper v0_limits v0_limit v0_ties v0_letter v0_letters v0_told v0_tolds v0_places x11 v0_refusals v0_imaged v0_hasImage v0_before x4.1 x4.2.1 x4.2.2.1 v0_numberUp v0_numberDown v0_block v0_blocks v0_merged x4.2.2.2.1 x4.2.2.2.2 v0_said v0_saids v0_at v0_number) := hD
          have hl : lv_has ls 5 [(0, .ref (a0 0))] := hl
          refine lv_aload_n hx hb dX10_lays_113 rfl (lv_at hl 0 rfl) ?_
          refine va_get (D := g.1) (ci := 11) (v := .int v0_papers) (C := RX10) (T := TX10) (N := 36) hx hb hts layX10 hown hK.1 hP 0 rfl rfl 0 (by decide) (hts _ kw1277) (fun _ h9 => h9) rfl dX10_lays_114 ?_
          exact retI (v := v0_papers) (u := (v0_papers, x11, v0_refusals, x4.1, x4.2.1, x4.2.2.1, x4.2.2.2.1, x4.2.2.2.2)) (val := fun u => u.1) (W1 := fun u => wX10 a0 g v0_papers v0_raw v0_kind v0_figure v0_heavy v0_place v0_rules v0_lower v0_upper v0_limits v0_limit v0_ties v0_letter v0_letters v0_told v0_tolds v0_places u.2.1 u.2.2.1 v0_imaged v0_hasImage v0_before u.2.2.2.1 u.2.2.2.2.1 u.2.2.2.2.2.1 v0_numberUp v0_numberDown v0_block v0_blocks v0_merged u.2.2.2.2.2.2.1 u.2.2.2.2.2.2.2 v0_said v0_saids v0_at v0_number) hx hb hr hlocks hS hP hD (hf0.trans hf.symm) rfl rfl dX10_lays_117
      have hf := it_f cb hf
      refine lv_bipush (v := (-11)) hx hb dX10_lays_36 (by decide) ?_
      exact retI (v := (-11 : Int32)) (u := ((-11 : Int32), v0_cell, v0_refusals, v0_up, v0_down, v0_beneath, v0_valueUp, v0_valueDown)) (val := fun u => u.1) (W1 := fun u => wX10 a0 g v0_papers v0_raw v0_kind v0_figure v0_heavy v0_place v0_rules v0_lower v0_upper v0_limits v0_limit v0_ties v0_letter v0_letters v0_told v0_tolds v0_places u.2.1 u.2.2.1 v0_imaged v0_hasImage v0_before u.2.2.2.1 u.2.2.2.2.1 u.2.2.2.2.2.1 v0_numberUp v0_numberDown v0_block v0_blocks v0_merged u.2.2.2.2.2.2.1 u.2.2.2.2.2.2.2 v0_said v0_saids v0_at v0_number) hx hb hr hlocks hS hP hD (hf0.trans hf.symm) rfl rfl dX10_lays_38
    have hf := it_t cb hf
    refine lv_aload_n hx hb dX10_lays_21 rfl (lv_at hl 0 rfl) ?_
    refine lv_iconst (v := (-1)) hx hb dX10_lays_22 (by decide) ?_
    refine cI hP hD hS hA hE (fun hPc hDc hSc => rV (As := [.int (-1 : Int32)]) (rest := []) hx hb hml hown hts hK (c_X10_no l g a0 v0_papers v0_raw v0_kind v0_figure v0_heavy v0_place v0_rules v0_lower v0_upper v0_limits v0_limit v0_ties v0_letter v0_letters v0_told v0_tolds v0_places v0_cell v0_refusals v0_imaged v0_hasImage v0_before v0_up v0_down v0_beneath v0_numberUp v0_numberDown v0_block v0_blocks v0_merged v0_valueUp v0_valueDown v0_said v0_saids v0_at v0_number (-1 : Int32) (bnd_ne hf)) svV_X10_no kw1354 rfl rfl hPc hDc hSc rfl rfl hl.1 (Nat.le_of_ble_eq_true rfl) dX10_lays_23 ⟨Nat.le_of_ble_eq_true rfl, Nat.le_of_ble_eq_true rfl, rfl, rfl, Nat.le_of_ble_eq_true rfl, Nat.le_of_ble_eq_true rfl⟩) [(0, 22)] rfl rfl rfl (fun _ => rfl) (fun x12 H locs ex12 nx12 hP hD hS => ?_)
    have hf := bnd_of hf ex12
    have hP : va_P g.1 vwCl (wX10 a0 g v0_papers v0_raw v0_kind v0_figure v0_heavy v0_place v0_rules v0_lower v0_upper v0_limits v0_limit v0_ties v0_letter v0_letters v0_told v0_tolds v0_places v0_cell x12.2 v0_imaged v0_hasImage v0_before v0_up v0_down v0_beneath v0_numberUp v0_numberDown v0_block v0_blocks v0_merged v0_valueUp v0_valueDown v0_said v0_saids v0_at v0_number) H := hP
    have hD : va_D A (wX10 a0 g v0_papers v0_raw v0_kind v0_figure v0_heavy v0_place v0_rules v0_lower v0_upper v0_limits v0_limit v0_ties v0_letter v0_letters v0_told v0_tolds v0_places v0_cell x12.2 v0_imaged v0_hasImage v0_before v0_up v0_down v0_beneath v0_numberUp v0_numberDown v0_block v0_blocks v0_merged v0_valueUp v0_valueDown v0_said v0_saids v0_at v0_number) := hD
    exact retI (v := x12.1) (u := (x12.1, v0_cell, x12.2, v0_up, v0_down, v0_beneath, v0_valueUp, v0_valueDown)) (val := fun u => u.1) (W1 := fun u => wX10 a0 g v0_papers v0_raw v0_kind v0_figure v0_heavy v0_place v0_rules v0_lower v0_upper v0_limits v0_limit v0_ties v0_letter v0_letters v0_told v0_tolds v0_places u.2.1 u.2.2.1 v0_imaged v0_hasImage v0_before u.2.2.2.1 u.2.2.2.2.1 u.2.2.2.2.2.1 v0_numberUp v0_numberDown v0_block v0_blocks v0_merged u.2.2.2.2.2.2.1 u.2.2.2.2.2.2.2 v0_said v0_saids v0_at v0_number) hx hb hr hlocks hS hP hD (hf0.trans hf.symm) rfl rfl dX10_lays_26
  have hf := it_t cb hf
  refine lv_aload_n hx hb dX10_lays_7 rfl (lv_at hl 0 rfl) ?_
  refine lv_bipush (v := (-2)) hx hb dX10_lays_8 (by decide) ?_
  refine cI hP hD hS hA hE (fun hPc hDc hSc => rV (As := [.int (-2 : Int32)]) (rest := []) hx hb hml hown hts hK (c_X10_no l g a0 v0_papers v0_raw v0_kind v0_figure v0_heavy v0_place v0_rules v0_lower v0_upper v0_limits v0_limit v0_ties v0_letter v0_letters v0_told v0_tolds v0_places v0_cell v0_refusals v0_imaged v0_hasImage v0_before v0_up v0_down v0_beneath v0_numberUp v0_numberDown v0_block v0_blocks v0_merged v0_valueUp v0_valueDown v0_said v0_saids v0_at v0_number (-2 : Int32) (bnd_ne hf)) svV_X10_no kw1354 rfl rfl hPc hDc hSc rfl rfl hl.1 (Nat.le_of_ble_eq_true rfl) dX10_lays_10 ⟨Nat.le_of_ble_eq_true rfl, Nat.le_of_ble_eq_true rfl, rfl, rfl, Nat.le_of_ble_eq_true rfl, Nat.le_of_ble_eq_true rfl⟩) [(0, 22)] rfl rfl rfl (fun _ => rfl) (fun x13 H locs ex13 nx13 hP hD hS => ?_)
  have hf := bnd_of hf ex13
  have hP : va_P g.1 vwCl (wX10 a0 g v0_papers v0_raw v0_kind v0_figure v0_heavy v0_place v0_rules v0_lower v0_upper v0_limits v0_limit v0_ties v0_letter v0_letters v0_told v0_tolds v0_places v0_cell x13.2 v0_imaged v0_hasImage v0_before v0_up v0_down v0_beneath v0_numberUp v0_numberDown v0_block v0_blocks v0_merged v0_valueUp v0_valueDown v0_said v0_saids v0_at v0_number) H := hP
  have hD : va_D A (wX10 a0 g v0_papers v0_raw v0_kind v0_figure v0_heavy v0_place v0_rules v0_lower v0_upper v0_limits v0_limit v0_ties v0_letter v0_letters v0_told v0_tolds v0_places v0_cell x13.2 v0_imaged v0_hasImage v0_before v0_up v0_down v0_beneath v0_numberUp v0_numberDown v0_block v0_blocks v0_merged v0_valueUp v0_valueDown v0_said v0_saids v0_at v0_number) := hD
  exact retI (v := x13.1) (u := (x13.1, v0_cell, x13.2, v0_up, v0_down, v0_beneath, v0_valueUp, v0_valueDown)) (val := fun u => u.1) (W1 := fun u => wX10 a0 g v0_papers v0_raw v0_kind v0_figure v0_heavy v0_place v0_rules v0_lower v0_upper v0_limits v0_limit v0_ties v0_letter v0_letters v0_told v0_tolds v0_places u.2.1 u.2.2.1 v0_imaged v0_hasImage v0_before u.2.2.2.1 u.2.2.2.2.1 u.2.2.2.2.2.1 v0_numberUp v0_numberDown v0_block v0_blocks v0_merged u.2.2.2.2.2.2.1 u.2.2.2.2.2.2.2 v0_said v0_saids v0_at v0_number) hx hb hr hlocks hS hP hD (hf0.trans hf.symm) rfl rfl dX10_lays_13
set_option maxHeartbeats 4000000 in
set_option maxRecDepth 100000 in
theorem c_X10_judge (l : Launch) (g : GG) (a0 : Nat → Nat) (v0_papers : Int32) (v0_raw : (Nat → Int32)) (v0_kind : (Nat → Int32)) (v0_figure : (Nat → Int32)) (v0_heavy : (Nat → Int32)) (v0_place : (Nat → Int32)) (v0_rules : Int32) (v0_lower : (Nat → Int32)) (v0_upper : (Nat → Int32)) (v0_limits : Int32) (v0_limit : (Nat → Int32)) (v0_ties : Int32) (v0_letter : (Nat → Int32)) (v0_letters : Int32) (v0_told : (Nat → Int32)) (v0_tolds : Int32) (v0_places : (Nat → Int32)) (v0_cell : (Nat → Int64)) (v0_refusals : (Nat → Int32)) (v0_imaged : (Nat → Int32)) (v0_hasImage : Int32) (v0_before : (Nat → Int32)) (v0_up : Int64) (v0_down : Int64) (v0_beneath : (Nat → Int32)) (v0_numberUp : Int32) (v0_numberDown : Int32) (v0_block : (Nat → Int32)) (v0_blocks : Int32) (v0_merged : Int32) (v0_valueUp : (Nat → Int32)) (v0_valueDown : (Nat → Int32)) (v0_said : (Nat → Int32)) (v0_saids : Int32) (v0_at : Int32) (v0_number : (Nat → Int32)) (p1 : Int32) (p2 : Int32) (hne : (m_X10_judge (v0_papers, v0_raw, v0_kind, v0_figure, v0_heavy, v0_place, v0_rules, v0_lower, v0_upper, v0_limits, v0_limit, v0_ties, v0_letter, v0_letters, v0_told, v0_tolds, v0_places, v0_cell, v0_refusals, v0_imaged, v0_hasImage, v0_before, v0_up, v0_down, v0_beneath, v0_numberUp, v0_numberDown, v0_block, v0_blocks, v0_merged, v0_valueUp, v0_valueDown, v0_said, v0_saids, v0_at, v0_number) p1 p2) ≠ none) : Ct l g yX10_judge cX10_judge 4 (some .int) ({ frames := 7, cells := 0, slots := 0, locals := 161 } : Room) [.ref (a0 0), .int p1, .int p2] (wX10 a0 g v0_papers v0_raw v0_kind v0_figure v0_heavy v0_place v0_rules v0_lower v0_upper v0_limits v0_limit v0_ties v0_letter v0_letters v0_told v0_tolds v0_places v0_cell v0_refusals v0_imaged v0_hasImage v0_before v0_up v0_down v0_beneath v0_numberUp v0_numberDown v0_block v0_blocks v0_merged v0_valueUp v0_valueDown v0_said v0_saids v0_at v0_number) (Qi g .int (m_X10_judge (v0_papers, v0_raw, v0_kind, v0_figure, v0_heavy, v0_place, v0_rules, v0_lower, v0_upper, v0_limits, v0_limit, v0_ties, v0_letter, v0_letters, v0_told, v0_tolds, v0_places, v0_cell, v0_refusals, v0_imaged, v0_hasImage, v0_before, v0_up, v0_down, v0_beneath, v0_numberUp, v0_numberDown, v0_block, v0_blocks, v0_merged, v0_valueUp, v0_valueDown, v0_said, v0_saids, v0_at, v0_number) p1 p2) (fun u => u.1) (fun u => wX10 a0 g v0_papers v0_raw v0_kind v0_figure v0_heavy v0_place v0_rules v0_lower v0_upper v0_limits v0_limit v0_ties v0_letter v0_letters v0_told v0_tolds v0_places v0_cell u.2.1 v0_imaged v0_hasImage v0_before u.2.2.1 u.2.2.2.1 u.2.2.2.2.1 v0_numberUp v0_numberDown v0_block v0_blocks v0_merged u.2.2.2.2.2.1 u.2.2.2.2.2.2 v0_said v0_saids v0_at v0_number)) 0 0 := by
  obtain ⟨out, hf⟩ := ne_ex hne
  have hf0 := hf
  refine Ct.of (own := RX10) (by decide +kernel) rfl (Nat.le_of_ble_eq_true rfl) ?_
  intro p e s m below meth c hx hb hr hml hown hts hlocks hin hK A H locs hA hP hD hS hE ls hl
  have hl : lv_has ls 4 [(0, .ref (a0 0)), (1, .int p1), (2, .int p2)] := hl
  unfold m_X10_judge at hf
  refine lv_iload_n hx hb dX10_judge_0 rfl (lv_at hl 1 rfl) ?_
  refine cIp hP hD hS hA hE (fun hPc hDc hSc => rS (As := [.int p1]) (rest := []) hx hb hml hown hts hK (c_X10_isLoss l g p1 (bnd_ne hf)) svS_X10_isLoss kw1548 hPc hDc hSc rfl rfl hl.1 (Nat.le_of_ble_eq_true rfl) dX10_judge_1 ⟨Nat.le_of_ble_eq_true rfl, Nat.le_of_ble_eq_true rfl, rfl, rfl, Nat.le_of_ble_eq_true rfl, Nat.le_of_ble_eq_true rfl⟩) [] rfl rfl rfl (fun x1 H locs ex1 nx1 hP hS => ?_)
  have hf := bnd_of hf ex1
  refine lv_if_ne (tgt := 14) hx hb dX10_judge_4 (by decide) (fun cb => ?_) (fun cb => ?_)
  · have hf := it_f cb hf
    refine lv_iload_n hx hb dX10_judge_14 rfl (lv_at hl 2 rfl) ?_
    refine cIp hP hD hS hA hE (fun hPc hDc hSc => rS (As := [.int p2]) (rest := []) hx hb hml hown hts hK (c_X10_isShelf l g p2 (bnd_ne hf)) svS_X10_isShelf kw1684 hPc hDc hSc rfl rfl hl.1 (Nat.le_of_ble_eq_true rfl) dX10_judge_15 ⟨Nat.le_of_ble_eq_true rfl, Nat.le_of_ble_eq_true rfl, rfl, rfl, Nat.le_of_ble_eq_true rfl, Nat.le_of_ble_eq_true rfl⟩) [] rfl rfl rfl (fun x2 H locs ex2 nx2 hP hS => ?_)
    have hf := bnd_of hf ex2
    refine lv_if_ne (tgt := 27) hx hb dX10_judge_18 (by decide) (fun cb => ?_) (fun cb => ?_)
    · have hf := it_f cb hf
      refine lv_aload_n hx hb dX10_judge_27 rfl (lv_at hl 0 rfl) ?_
      refine va_get (D := g.1) (ci := 11) (v := .ref (a0 11)) (C := RX10) (T := TX10) (N := 36) hx hb hts layX10 hown hK.1 hP 0 rfl rfl 16 (by decide) (hts _ kw1293) (fun _ h9 => h9) rfl dX10_judge_28 ?_
      refine lv_iload_n hx hb dX10_judge_31 rfl (lv_at hl 2 rfl) ?_
      have hi := it_n hf
      have hf := it_t hi hf
      refine va_iald hx hb hK.1 hP 11 0 rfl rfl (inb_in hi) dX10_judge_32 ?_
      refine lv_if_ge (tgt := 39) hx hb dX10_judge_33 (by decide) (fun cb => ?_) (fun cb => ?_)
      · have hf := it_t cb hf
        refine lv_aload_n hx hb dX10_judge_39 rfl (lv_at hl 0 rfl) ?_
        refine lv_iload_n hx hb dX10_judge_40 rfl (lv_at hl 1 rfl) ?_
        refine lv_aload_n hx hb dX10_judge_41 rfl (lv_at hl 0 rfl) ?_
        refine cIp hP hD hS hA hE (fun hPc hDc hSc => rV (As := []) (rest := [.int p1, .ref (a0 0)]) hx hb hml hown hts hK (c_X10_allRules l g a0 v0_papers v0_raw v0_kind v0_figure v0_heavy v0_place v0_rules v0_lower v0_upper v0_limits v0_limit v0_ties v0_letter v0_letters v0_told v0_tolds v0_places v0_cell v0_refusals v0_imaged v0_hasImage v0_before v0_up v0_down v0_beneath v0_numberUp v0_numberDown v0_block v0_blocks v0_merged v0_valueUp v0_valueDown v0_said v0_saids v0_at v0_number (bnd_ne hf)) svV_X10_allRules kw1389 rfl rfl hPc hDc hSc rfl rfl hl.1 (Nat.le_of_ble_eq_true rfl) dX10_judge_42 ⟨Nat.le_of_ble_eq_true rfl, Nat.le_of_ble_eq_true rfl, rfl, rfl, Nat.le_of_ble_eq_true rfl, Nat.le_of_ble_eq_true rfl⟩) [(0, 22)] rfl rfl rfl (fun x3 H locs ex3 nx3 hP hS => ?_)
        have hf := bnd_of hf ex3
        refine cV hP hD hS hA hE (fun hPc hDc hSc => rV (As := [.int p1, .int x3]) (rest := []) hx hb hml hown hts hK (c_X10_values l g a0 v0_papers v0_raw v0_kind v0_figure v0_heavy v0_place v0_rules v0_lower v0_upper v0_limits v0_limit v0_ties v0_letter v0_letters v0_told v0_tolds v0_places v0_cell v0_refusals v0_imaged v0_hasImage v0_before v0_up v0_down v0_beneath v0_numberUp v0_numberDown v0_block v0_blocks v0_merged v0_valueUp v0_valueDown v0_said v0_saids v0_at v0_number p1 x3 (bnd_ne hf)) svV_X10_values kw1551 rfl rfl hPc hDc hSc rfl rfl hl.1 (Nat.le_of_ble_eq_true rfl) dX10_judge_45 ⟨Nat.le_of_ble_eq_true rfl, Nat.le_of_ble_eq_true rfl, rfl, rfl, Nat.le_of_ble_eq_true rfl, Nat.le_of_ble_eq_true rfl⟩) [(0, 22)] rfl rfl rfl (fun _ => rfl) (fun x4 H locs ex4 hP hD hS => ?_)
        have hf := bnd_of hf ex4
        have hP : va_P g.1 vwCl (wX10 a0 g v0_papers v0_raw v0_kind v0_figure v0_heavy v0_place v0_rules v0_lower v0_upper v0_limits v0_limit v0_ties v0_letter v0_letters v0_told v0_tolds v0_places v0_cell v0_refusals v0_imaged v0_hasImage v0_before x4.1 x4.2.1 x4.2.2.1 v0_numberUp v0_numberDown v0_block v0_blocks v0_merged x4.2.2.2.1 x4.2.2.2.2 v0_said v0_saids v0_at v0_number) H := hP
        have hD : va_D A (wX10 a0 g v0_papers v0_raw v0_kind v0_figure v0_heavy v0_place v0_rules v0_lower v0_upper v0_limits v0_limit v0_ties v0_letter v0_letters v0_told v0_tolds v0_places v0_cell v0_refusals v0_imaged v0_hasImage v0_before x4.1 x4.2.1 x4.2.2.1 v0_numberUp v0_numberDown v0_block v0_blocks v0_merged x4.2.2.2.1 x4.2.2.2.2 v0_said v0_saids v0_at v0_number) := hD
        refine lv_iconst (v := 0) hx hb dX10_judge_48 (by decide) ?_
        refine lv_istore_n (lv' := [(3, .int (0 : Int32)), (0, .ref (a0 0)), (1, .int p1), (2, .int p2)]) hx hb dX10_judge_49 rfl hl (by decide) rfl (fun ls hl => ?_)
        obtain ⟨r8, er8, hf⟩ := bnd hf
        refine lp_W (P := fun z => ∀ (H : Heap) (locs : List Loc) (ls : Array Slot), va_P g.1 vwCl (wX10 a0 g v0_papers v0_raw v0_kind v0_figure v0_heavy v0_place v0_rules v0_lower v0_upper v0_limits v0_limit v0_ties v0_letter v0_letters v0_told v0_tolds v0_places v0_cell v0_refusals v0_imaged v0_hasImage v0_before x4.1 x4.2.1 x4.2.2.1 v0_numberUp v0_numberDown v0_block v0_blocks v0_merged x4.2.2.2.1 x4.2.2.2.2 v0_said v0_saids v0_at v0_number) H → va_D A (wX10 a0 g v0_papers v0_raw v0_kind v0_figure v0_heavy v0_place v0_rules v0_lower v0_upper v0_limits v0_limit v0_ties v0_letter v0_letters v0_told v0_tolds v0_places v0_cell v0_refusals v0_imaged v0_hasImage v0_before x4.1 x4.2.1 x4.2.2.1 v0_numberUp v0_numberDown v0_block v0_blocks v0_merged x4.2.2.2.1 x4.2.2.2.2 v0_said v0_saids v0_at v0_number) → va_S A s.heap H locs → lv_has ls 4 [(0, .ref (a0 0)), (2, .int p2), (3, .int z)] → W p l e { frames := 7, cells := 0, slots := 0, locals := 161 } s m [.ref (a0 0), .int p1, .int p2].toArray below meth c H locs 0 0 (MQ below (Qi g .int (m_X10_judge (v0_papers, v0_raw, v0_kind, v0_figure, v0_heavy, v0_place, v0_rules, v0_lower, v0_upper, v0_limits, v0_limit, v0_ties, v0_letter, v0_letters, v0_told, v0_tolds, v0_places, v0_cell, v0_refusals, v0_imaged, v0_hasImage, v0_before, v0_up, v0_down, v0_beneath, v0_numberUp, v0_numberDown, v0_block, v0_blocks, v0_merged, v0_valueUp, v0_valueDown, v0_said, v0_saids, v0_at, v0_number) p1 p2) (fun u => u.1) (fun u => wX10 a0 g v0_papers v0_raw v0_kind v0_figure v0_heavy v0_place v0_rules v0_lower v0_upper v0_limits v0_limit v0_ties v0_letter v0_letters v0_told v0_tolds v0_places v0_cell u.2.1 v0_imaged v0_hasImage v0_before u.2.2.1 u.2.2.2.1 u.2.2.2.2.1 v0_numberUp v0_numberDown v0_block v0_blocks v0_merged u.2.2.2.2.2.1 u.2.2.2.2.2.2 v0_said v0_saids v0_at v0_number) A) [.ref (a0 0), .int p1, .int p2].toArray s 0 0 A) (F0 m 50 ls [])) (E := fun r8 => match r8 with | .inl x9 => (∀ (H : Heap) (locs : List Loc) (ls : Array Slot), va_P g.1 vwCl (wX10 a0 g v0_papers v0_raw v0_kind v0_figure v0_heavy v0_place v0_rules v0_lower v0_upper v0_limits v0_limit v0_ties v0_letter v0_letters v0_told v0_tolds v0_places v0_cell v0_refusals v0_imaged v0_hasImage v0_before x4.1 x4.2.1 x4.2.2.1 v0_numberUp v0_numberDown v0_block v0_blocks v0_merged x4.2.2.2.1 x4.2.2.2.2 v0_said v0_saids v0_at v0_number) H → va_D A (wX10 a0 g v0_papers v0_raw v0_kind v0_figure v0_heavy v0_place v0_rules v0_lower v0_upper v0_limits v0_limit v0_ties v0_letter v0_letters v0_told v0_tolds v0_places v0_cell v0_refusals v0_imaged v0_hasImage v0_before x4.1 x4.2.1 x4.2.2.1 v0_numberUp v0_numberDown v0_block v0_blocks v0_merged x4.2.2.2.1 x4.2.2.2.2 v0_said v0_saids v0_at v0_number) → va_S A s.heap H locs → lv_has ls 4 [(3, .int x9)] → W p l e { frames := 7, cells := 0, slots := 0, locals := 161 } s m [.ref (a0 0), .int p1, .int p2].toArray below meth c H locs 0 0 (MQ below (Qi g .int (m_X10_judge (v0_papers, v0_raw, v0_kind, v0_figure, v0_heavy, v0_place, v0_rules, v0_lower, v0_upper, v0_limits, v0_limit, v0_ties, v0_letter, v0_letters, v0_told, v0_tolds, v0_places, v0_cell, v0_refusals, v0_imaged, v0_hasImage, v0_before, v0_up, v0_down, v0_beneath, v0_numberUp, v0_numberDown, v0_block, v0_blocks, v0_merged, v0_valueUp, v0_valueDown, v0_said, v0_saids, v0_at, v0_number) p1 p2) (fun u => u.1) (fun u => wX10 a0 g v0_papers v0_raw v0_kind v0_figure v0_heavy v0_place v0_rules v0_lower v0_upper v0_limits v0_limit v0_ties v0_letter v0_letters v0_told v0_tolds v0_places v0_cell u.2.1 v0_imaged v0_hasImage v0_before u.2.2.1 u.2.2.2.1 u.2.2.2.2.1 v0_numberUp v0_numberDown v0_block v0_blocks v0_merged u.2.2.2.2.2.1 u.2.2.2.2.2.2 v0_said v0_saids v0_at v0_number) A) [.ref (a0 0), .int p1, .int p2].toArray s 0 0 A) (F0 m 70 ls [])) | .inr (.inl x10) => (∀ (H : Heap) (locs : List Loc) (ls : Array Slot), va_P g.1 vwCl (wX10 a0 g v0_papers v0_raw v0_kind v0_figure v0_heavy v0_place v0_rules v0_lower v0_upper v0_limits v0_limit v0_ties v0_letter v0_letters v0_told v0_tolds v0_places v0_cell v0_refusals v0_imaged v0_hasImage v0_before x4.1 x4.2.1 x4.2.2.1 v0_numberUp v0_numberDown v0_block v0_blocks v0_merged x4.2.2.2.1 x4.2.2.2.2 v0_said v0_saids v0_at v0_number) H → va_D A (wX10 a0 g v0_papers v0_raw v0_kind v0_figure v0_heavy v0_place v0_rules v0_lower v0_upper v0_limits v0_limit v0_ties v0_letter v0_letters v0_told v0_tolds v0_places v0_cell v0_refusals v0_imaged v0_hasImage v0_before x4.1 x4.2.1 x4.2.2.1 v0_numberUp v0_numberDown v0_block v0_blocks v0_merged x4.2.2.2.1 x4.2.2.2.2 v0_said v0_saids v0_at v0_number) → va_S A s.heap H locs → lv_has ls 4 [(3, .int x10)] → W p l e { frames := 7, cells := 0, slots := 0, locals := 161 } s m [.ref (a0 0), .int p1, .int p2].toArray below meth c H locs 0 0 (MQ below (Qi g .int (m_X10_judge (v0_papers, v0_raw, v0_kind, v0_figure, v0_heavy, v0_place, v0_rules, v0_lower, v0_upper, v0_limits, v0_limit, v0_ties, v0_letter, v0_letters, v0_told, v0_tolds, v0_places, v0_cell, v0_refusals, v0_imaged, v0_hasImage, v0_before, v0_up, v0_down, v0_beneath, v0_numberUp, v0_numberDown, v0_block, v0_blocks, v0_merged, v0_valueUp, v0_valueDown, v0_said, v0_saids, v0_at, v0_number) p1 p2) (fun u => u.1) (fun u => wX10 a0 g v0_papers v0_raw v0_kind v0_figure v0_heavy v0_place v0_rules v0_lower v0_upper v0_limits v0_limit v0_ties v0_letter v0_letters v0_told v0_tolds v0_places v0_cell u.2.1 v0_imaged v0_hasImage v0_before u.2.2.1 u.2.2.2.1 u.2.2.2.2.1 v0_numberUp v0_numberDown v0_block v0_blocks v0_merged u.2.2.2.2.2.1 u.2.2.2.2.2.2 v0_said v0_saids v0_at v0_number) A) [.ref (a0 0), .int p1, .int p2].toArray s 0 0 A) (F0 m 98 ls [])) | .inr (.inr x11) => (∀ (H : Heap) (locs : List Loc) (ls : Array Slot), va_P g.1 vwCl (wX10 a0 g v0_papers v0_raw v0_kind v0_figure v0_heavy v0_place v0_rules v0_lower v0_upper v0_limits v0_limit v0_ties v0_letter v0_letters v0_told v0_tolds v0_places v0_cell v0_refusals v0_imaged v0_hasImage v0_before x4.1 x4.2.1 x4.2.2.1 v0_numberUp v0_numberDown v0_block v0_blocks v0_merged x4.2.2.2.1 x4.2.2.2.2 v0_said v0_saids v0_at v0_number) H → va_D A (wX10 a0 g v0_papers v0_raw v0_kind v0_figure v0_heavy v0_place v0_rules v0_lower v0_upper v0_limits v0_limit v0_ties v0_letter v0_letters v0_told v0_tolds v0_places v0_cell v0_refusals v0_imaged v0_hasImage v0_before x4.1 x4.2.1 x4.2.2.1 v0_numberUp v0_numberDown v0_block v0_blocks v0_merged x4.2.2.2.1 x4.2.2.2.2 v0_said v0_saids v0_at v0_number) → va_S A s.heap H locs → lv_has ls 4 [] → W p l e { frames := 7, cells := 0, slots := 0, locals := 161 } s m [.ref (a0 0), .int p1, .int p2].toArray below meth c H locs 0 0 (MQ below (Qi g .int (m_X10_judge (v0_papers, v0_raw, v0_kind, v0_figure, v0_heavy, v0_place, v0_rules, v0_lower, v0_upper, v0_limits, v0_limit, v0_ties, v0_letter, v0_letters, v0_told, v0_tolds, v0_places, v0_cell, v0_refusals, v0_imaged, v0_hasImage, v0_before, v0_up, v0_down, v0_beneath, v0_numberUp, v0_numberDown, v0_block, v0_blocks, v0_merged, v0_valueUp, v0_valueDown, v0_said, v0_saids, v0_at, v0_number) p1 p2) (fun u => u.1) (fun u => wX10 a0 g v0_papers v0_raw v0_kind v0_figure v0_heavy v0_place v0_rules v0_lower v0_upper v0_limits v0_limit v0_ties v0_letter v0_letters v0_told v0_tolds v0_places v0_cell u.2.1 v0_imaged v0_hasImage v0_before u.2.2.1 u.2.2.2.1 u.2.2.2.2.1 v0_numberUp v0_numberDown v0_block v0_blocks v0_merged u.2.2.2.2.2.1 u.2.2.2.2.2.2 v0_said v0_saids v0_at v0_number) A) [.ref (a0 0), .int p1, .int p2].toArray s 0 0 A) (F0 m 108 ls []))) ?_ fu _ r8 er8 ?_ _ _ _ hP hD hS (lv_sub hl [1, 3, 0] rfl)
        · rintro x6 y hf hB hXt H locs ls hP hD hS hl
          have hP : va_P g.1 vwCl (wX10 a0 g v0_papers v0_raw v0_kind v0_figure v0_heavy v0_place v0_rules v0_lower v0_upper v0_limits v0_limit v0_ties v0_letter v0_letters v0_told v0_tolds v0_places v0_cell v0_refusals v0_imaged v0_hasImage v0_before x4.1 x4.2.1 x4.2.2.1 v0_numberUp v0_numberDown v0_block v0_blocks v0_merged x4.2.2.2.1 x4.2.2.2.2 v0_said v0_saids v0_at v0_number) H := hP
          have hD : va_D A (wX10 a0 g v0_papers v0_raw v0_kind v0_figure v0_heavy v0_place v0_rules v0_lower v0_upper v0_limits v0_limit v0_ties v0_letter v0_letters v0_told v0_tolds v0_places v0_cell v0_refusals v0_imaged v0_hasImage v0_before x4.1 x4.2.1 x4.2.2.1 v0_numberUp v0_numberDown v0_block v0_blocks v0_merged x4.2.2.2.1 x4.2.2.2.2 v0_said v0_saids v0_at v0_number) := hD
          have hl : lv_has ls 4 [(0, .ref (a0 0)), (2, .int p2), (3, .int x6)] := hl
          have hf : m_X10_judge_l50 (v0_papers, v0_raw, v0_kind, v0_figure, v0_heavy, v0_place, v0_rules, v0_lower, v0_upper, v0_limits, v0_limit, v0_ties, v0_letter, v0_letters, v0_told, v0_tolds, v0_places, v0_cell, v0_refusals, v0_imaged, v0_hasImage, v0_before, v0_up, v0_down, v0_beneath, v0_numberUp, v0_numberDown, v0_block, v0_blocks, v0_merged, v0_valueUp, v0_valueDown, v0_said, v0_saids, v0_at, v0_number) p2 x4 x6 = some y := hf
          unfold m_X10_judge_l50 at hf
          refine lv_iload_n hx hb dX10_judge_50 rfl (lv_at hl 2 rfl) ?_
          refine lv_iconst (v := 2) hx hb dX10_judge_51 (by decide) ?_
          refine lv_aload_n hx hb dX10_judge_52 rfl (lv_at hl 0 rfl) ?_
          refine va_get (D := g.1) (ci := 11) (v := .int v0_papers) (C := RX10) (T := TX10) (N := 36) hx hb hts layX10 hown hK.1 hP 0 rfl rfl 0 (by decide) (hts _ kw1277) (fun _ h9 => h9) rfl dX10_judge_53 ?_
          refine lv_imul hx hb dX10_judge_56 ?_
          refine lv_icmp_ge (tgt := 108) hx hb dX10_judge_57 (by decide) (fun cb => ?_) (fun cb => ?_)
          · have hf := it_t cb hf
            exact hXt _ (Option.some.inj hf).symm _ _ _ hP hD hS (lv_sub hl [] rfl)
          have hf := it_f cb hf
          refine lv_iload_n hx hb dX10_judge_60 rfl (lv_at hl 2 rfl) ?_
          refine lv_aload_n hx hb dX10_judge_61 rfl (lv_at hl 0 rfl) ?_
          refine va_get (D := g.1) (ci := 11) (v := .ref (a0 11)) (C := RX10) (T := TX10) (N := 36) hx hb hts layX10 hown hK.1 hP 0 rfl rfl 16 (by decide) (hts _ kw1293) (fun _ h9 => h9) rfl dX10_judge_62 ?_
          refine lv_iload_n hx hb dX10_judge_65 rfl (lv_at hl 1 rfl) ?_
          have hi := it_n hf
          have hf := it_t hi hf
          refine va_iald hx hb hK.1 hP 11 0 rfl rfl (inb_in hi) dX10_judge_66 ?_
          refine lv_icmp_lt (tgt := 77) hx hb dX10_judge_67 (by decide) (fun cb => ?_) (fun cb => ?_)
          · have hf := it_t cb hf
            refine lv_aload_n hx hb dX10_judge_77 rfl (lv_at hl 0 rfl) ?_
            refine va_get (D := g.1) (ci := 11) (v := .ref (a0 12)) (C := RX10) (T := TX10) (N := 36) hx hb hts layX10 hown hK.1 hP 0 rfl rfl 17 (by decide) (hts _ kw1294) (fun _ h9 => h9) rfl dX10_judge_78 ?_
            refine lv_bipush (v := 20) hx hb dX10_judge_81 (by decide) ?_
            refine lv_iload_n hx hb dX10_judge_83 rfl (lv_at hl 1 rfl) ?_
            refine lv_imul hx hb dX10_judge_84 ?_
            refine lv_iload_n hx hb dX10_judge_85 rfl (lv_at hl 2 rfl) ?_
            refine lv_iadd hx hb dX10_judge_86 ?_
            have hi := it_n hf
            have hf := it_t hi hf
            refine va_lald hx hb hK.1 hP 12 1 rfl rfl (inb_in hi) dX10_judge_87 ?_
            refine lv_aload_n hx hb dX10_judge_88 rfl (lv_at hl 0 rfl) ?_
            refine lv_iload_n hx hb dX10_judge_89 rfl (lv_at hl 2 rfl) ?_
            refine cIp hP hD hS hA hE (fun hPc hDc hSc => rV (As := [.int x6]) (rest := [.long (v0_cell (((20 : Int32) * p2) + x6).toNatClampNeg)]) hx hb hml hown hts hK (c_X10_valueAt l g a0 v0_papers v0_raw v0_kind v0_figure v0_heavy v0_place v0_rules v0_lower v0_upper v0_limits v0_limit v0_ties v0_letter v0_letters v0_told v0_tolds v0_places v0_cell v0_refusals v0_imaged v0_hasImage v0_before x4.1 x4.2.1 x4.2.2.1 v0_numberUp v0_numberDown v0_block v0_blocks v0_merged x4.2.2.2.1 x4.2.2.2.2 v0_said v0_saids v0_at v0_number x6 (bnd_ne hf)) svV_X10_valueAt kw1704 rfl rfl hPc hDc hSc rfl rfl hl.1 (Nat.le_of_ble_eq_true rfl) dX10_judge_90 ⟨Nat.le_of_ble_eq_true rfl, Nat.le_of_ble_eq_true rfl, rfl, rfl, Nat.le_of_ble_eq_true rfl, Nat.le_of_ble_eq_true rfl⟩) [(0, 22)] rfl rfl rfl (fun x7 H locs ex7 nx7 hP hS => ?_)
            have hf := bnd_of hf ex7
            refine lv_i2l (v := x7.toInt64) hx hb dX10_judge_93 rfl ?_
            refine lc_eq (tgt := 102) hx hb dX10_judge_94 dX10_judge_95 (by decide) (fun cb => ?_) (fun cb => ?_)
            · have hf := it_t cb hf
              refine lv_iinc (v := (x6 + 1)) (lv' := [(3, .int (x6 + 1)), (0, .ref (a0 0)), (2, .int p2)]) hx hb dX10_judge_102 hl (k := 2) rfl (by rfl) (by decide) rfl (fun ls hl => ?_)
              refine lv_goto (tgt := 50) hx hb dX10_judge_105 (by decide) ?_
              exact hB _ (Option.some.inj hf).symm _ _ _ hP hD hS (lv_sub hl [1, 2, 0] rfl)
            have hf := it_f cb hf
            exact hXt _ (Option.some.inj hf).symm _ _ _ hP hD hS (lv_sub hl [2] rfl)
          have hf := it_f cb hf
          exact hXt _ (Option.some.inj hf).symm _ _ _ hP hD hS (lv_sub hl [2] rfl)
        rcases r8 with x9 | x10 | x11
        · intro H locs ls hP hD hS hl
          have hP : va_P g.1 vwCl (wX10 a0 g v0_papers v0_raw v0_kind v0_figure v0_heavy v0_place v0_rules v0_lower v0_upper v0_limits v0_limit v0_ties v0_letter v0_letters v0_told v0_tolds v0_places v0_cell v0_refusals v0_imaged v0_hasImage v0_before x4.1 x4.2.1 x4.2.2.1 v0_numberUp v0_numberDown v0_block v0_blocks v0_merged x4.2.2.2.1 x4.2.2.2.2 v0_said v0_saids v0_at v0_number) H := hP
          have hD : va_D A (wX10 a0 g v0_papers v0_raw v0_kind v0_figure v0_heavy v0_place v0_rules v0_lower v0_upper v0_limits v0_limit v0_ties v0_letter v0_letters v0_told v0_tolds v0_places v0_cell v0_refusals v0_imaged v0_hasImage v0_before x4.1 x4.2.1 x4.2.2.1 v0_numberUp v0_numberDown v0_block v0_blocks v0_merged x4.2.2.2.1 x4.2.2.2.2 v0_said v0_saids v0_at v0_number) := hD
          have hl : lv_has ls 4 [(3, .int x9)] := hl
          refine lv_bipush (v := 100) hx hb dX10_judge_70 (by decide) ?_
          refine lv_iload_n hx hb dX10_judge_72 rfl (lv_at hl 0 rfl) ?_
          refine lv_iconst (v := 2) hx hb dX10_judge_73 (by decide) ?_
          refine lv_idiv hx hb dX10_judge_74 (by decide) ?_
          refine lv_iadd hx hb dX10_judge_75 ?_
          exact retI (v := ((100 : Int32) + (x9 / (2 : Int32)))) (u := (((100 : Int32) + (x9 / (2 : Int32))), v0_refusals, x4.1, x4.2.1, x4.2.2.1, x4.2.2.2.1, x4.2.2.2.2)) (val := fun u => u.1) (W1 := fun u => wX10 a0 g v0_papers v0_raw v0_kind v0_figure v0_heavy v0_place v0_rules v0_lower v0_upper v0_limits v0_limit v0_ties v0_letter v0_letters v0_told v0_tolds v0_places v0_cell u.2.1 v0_imaged v0_hasImage v0_before u.2.2.1 u.2.2.2.1 u.2.2.2.2.1 v0_numberUp v0_numberDown v0_block v0_blocks v0_merged u.2.2.2.2.2.1 u.2.2.2.2.2.2 v0_said v0_saids v0_at v0_number) hx hb hr hlocks hS hP hD (hf0.trans hf.symm) rfl rfl dX10_judge_76
        · intro H locs ls hP hD hS hl
          have hP : va_P g.1 vwCl (wX10 a0 g v0_papers v0_raw v0_kind v0_figure v0_heavy v0_place v0_rules v0_lower v0_upper v0_limits v0_limit v0_ties v0_letter v0_letters v0_told v0_tolds v0_places v0_cell v0_refusals v0_imaged v0_hasImage v0_before x4.1 x4.2.1 x4.2.2.1 v0_numberUp v0_numberDown v0_block v0_blocks v0_merged x4.2.2.2.1 x4.2.2.2.2 v0_said v0_saids v0_at v0_number) H := hP
          have hD : va_D A (wX10 a0 g v0_papers v0_raw v0_kind v0_figure v0_heavy v0_place v0_rules v0_lower v0_upper v0_limits v0_limit v0_ties v0_letter v0_letters v0_told v0_tolds v0_places v0_cell v0_refusals v0_imaged v0_hasImage v0_before x4.1 x4.2.1 x4.2.2.1 v0_numberUp v0_numberDown v0_block v0_blocks v0_merged x4.2.2.2.1 x4.2.2.2.2 v0_said v0_saids v0_at v0_number) := hD
          have hl : lv_has ls 4 [(3, .int x10)] := hl
          refine lv_iload_n hx hb dX10_judge_98 rfl (lv_at hl 0 rfl) ?_
          refine lv_iconst (v := 2) hx hb dX10_judge_99 (by decide) ?_
          refine lv_idiv hx hb dX10_judge_100 (by decide) ?_
          exact retI (v := (x10 / (2 : Int32))) (u := ((x10 / (2 : Int32)), v0_refusals, x4.1, x4.2.1, x4.2.2.1, x4.2.2.2.1, x4.2.2.2.2)) (val := fun u => u.1) (W1 := fun u => wX10 a0 g v0_papers v0_raw v0_kind v0_figure v0_heavy v0_place v0_rules v0_lower v0_upper v0_limits v0_limit v0_ties v0_letter v0_letters v0_told v0_tolds v0_places v0_cell u.2.1 v0_imaged v0_hasImage v0_before u.2.2.1 u.2.2.2.1 u.2.2.2.2.1 v0_numberUp v0_numberDown v0_block v0_blocks v0_merged u.2.2.2.2.2.1 u.2.2.2.2.2.2 v0_said v0_saids v0_at v0_number) hx hb hr hlocks hS hP hD (hf0.trans hf.symm) rfl rfl dX10_judge_101
        · intro H locs ls hP hD hS hl
          have hP : va_P g.1 vwCl (wX10 a0 g v0_papers v0_raw v0_kind v0_figure v0_heavy v0_place v0_rules v0_lower v0_upper v0_limits v0_limit v0_ties v0_letter v0_letters v0_told v0_tolds v0_places v0_cell v0_refusals v0_imaged v0_hasImage v0_before x4.1 x4.2.1 x4.2.2.1 v0_numberUp v0_numberDown v0_block v0_blocks v0_merged x4.2.2.2.1 x4.2.2.2.2 v0_said v0_saids v0_at v0_number) H := hP
          have hD : va_D A (wX10 a0 g v0_papers v0_raw v0_kind v0_figure v0_heavy v0_place v0_rules v0_lower v0_upper v0_limits v0_limit v0_ties v0_letter v0_letters v0_told v0_tolds v0_places v0_cell v0_refusals v0_imaged v0_hasImage v0_before x4.1 x4.2.1 x4.2.2.1 v0_numberUp v0_numberDown v0_block v0_blocks v0_merged x4.2.2.2.1 x4.2.2.2.2 v0_said v0_saids v0_at v0_number) := hD
          have hl : lv_has ls 4 [] := hl
          refine lv_bipush (v := (-9)) hx hb dX10_judge_108 (by decide) ?_
          exact retI (v := (-9 : Int32)) (u := ((-9 : Int32), v0_refusals, x4.1, x4.2.1, x4.2.2.1, x4.2.2.2.1, x4.2.2.2.2)) (val := fun u => u.1) (W1 := fun u => wX10 a0 g v0_papers v0_raw v0_kind v0_figure v0_heavy v0_place v0_rules v0_lower v0_upper v0_limits v0_limit v0_ties v0_letter v0_letters v0_told v0_tolds v0_places v0_cell u.2.1 v0_imaged v0_hasImage v0_before u.2.2.1 u.2.2.2.1 u.2.2.2.2.1 v0_numberUp v0_numberDown v0_block v0_blocks v0_merged u.2.2.2.2.2.1 u.2.2.2.2.2.2 v0_said v0_saids v0_at v0_number) hx hb hr hlocks hS hP hD (hf0.trans hf.symm) rfl rfl dX10_judge_110
      have hf := it_f cb hf
      refine lv_bipush (v := (-11)) hx hb dX10_judge_36 (by decide) ?_
      exact retI (v := (-11 : Int32)) (u := ((-11 : Int32), v0_refusals, v0_up, v0_down, v0_beneath, v0_valueUp, v0_valueDown)) (val := fun u => u.1) (W1 := fun u => wX10 a0 g v0_papers v0_raw v0_kind v0_figure v0_heavy v0_place v0_rules v0_lower v0_upper v0_limits v0_limit v0_ties v0_letter v0_letters v0_told v0_tolds v0_places v0_cell u.2.1 v0_imaged v0_hasImage v0_before u.2.2.1 u.2.2.2.1 u.2.2.2.2.1 v0_numberUp v0_numberDown v0_block v0_blocks v0_merged u.2.2.2.2.2.1 u.2.2.2.2.2.2 v0_said v0_saids v0_at v0_number) hx hb hr hlocks hS hP hD (hf0.trans hf.symm) rfl rfl dX10_judge_38
    have hf := it_t cb hf
    refine lv_aload_n hx hb dX10_judge_21 rfl (lv_at hl 0 rfl) ?_
    refine lv_iconst (v := (-1)) hx hb dX10_judge_22 (by decide) ?_
    refine cI hP hD hS hA hE (fun hPc hDc hSc => rV (As := [.int (-1 : Int32)]) (rest := []) hx hb hml hown hts hK (c_X10_no l g a0 v0_papers v0_raw v0_kind v0_figure v0_heavy v0_place v0_rules v0_lower v0_upper v0_limits v0_limit v0_ties v0_letter v0_letters v0_told v0_tolds v0_places v0_cell v0_refusals v0_imaged v0_hasImage v0_before v0_up v0_down v0_beneath v0_numberUp v0_numberDown v0_block v0_blocks v0_merged v0_valueUp v0_valueDown v0_said v0_saids v0_at v0_number (-1 : Int32) (bnd_ne hf)) svV_X10_no kw1354 rfl rfl hPc hDc hSc rfl rfl hl.1 (Nat.le_of_ble_eq_true rfl) dX10_judge_23 ⟨Nat.le_of_ble_eq_true rfl, Nat.le_of_ble_eq_true rfl, rfl, rfl, Nat.le_of_ble_eq_true rfl, Nat.le_of_ble_eq_true rfl⟩) [(0, 22)] rfl rfl rfl (fun _ => rfl) (fun x12 H locs ex12 nx12 hP hD hS => ?_)
    have hf := bnd_of hf ex12
    have hP : va_P g.1 vwCl (wX10 a0 g v0_papers v0_raw v0_kind v0_figure v0_heavy v0_place v0_rules v0_lower v0_upper v0_limits v0_limit v0_ties v0_letter v0_letters v0_told v0_tolds v0_places v0_cell x12.2 v0_imaged v0_hasImage v0_before v0_up v0_down v0_beneath v0_numberUp v0_numberDown v0_block v0_blocks v0_merged v0_valueUp v0_valueDown v0_said v0_saids v0_at v0_number) H := hP
    have hD : va_D A (wX10 a0 g v0_papers v0_raw v0_kind v0_figure v0_heavy v0_place v0_rules v0_lower v0_upper v0_limits v0_limit v0_ties v0_letter v0_letters v0_told v0_tolds v0_places v0_cell x12.2 v0_imaged v0_hasImage v0_before v0_up v0_down v0_beneath v0_numberUp v0_numberDown v0_block v0_blocks v0_merged v0_valueUp v0_valueDown v0_said v0_saids v0_at v0_number) := hD
    exact retI (v := x12.1) (u := (x12.1, x12.2, v0_up, v0_down, v0_beneath, v0_valueUp, v0_valueDown)) (val := fun u => u.1) (W1 := fun u => wX10 a0 g v0_papers v0_raw v0_kind v0_figure v0_heavy v0_place v0_rules v0_lower v0_upper v0_limits v0_limit v0_ties v0_letter v0_letters v0_told v0_tolds v0_places v0_cell u.2.1 v0_imaged v0_hasImage v0_before u.2.2.1 u.2.2.2.1 u.2.2.2.2.1 v0_numberUp v0_numberDown v0_block v0_blocks v0_merged u.2.2.2.2.2.1 u.2.2.2.2.2.2 v0_said v0_saids v0_at v0_number) hx hb hr hlocks hS hP hD (hf0.trans hf.symm) rfl rfl dX10_judge_26
  have hf := it_t cb hf
  refine lv_aload_n hx hb dX10_judge_7 rfl (lv_at hl 0 rfl) ?_
  refine lv_bipush (v := (-2)) hx hb dX10_judge_8 (by decide) ?_
  refine cI hP hD hS hA hE (fun hPc hDc hSc => rV (As := [.int (-2 : Int32)]) (rest := []) hx hb hml hown hts hK (c_X10_no l g a0 v0_papers v0_raw v0_kind v0_figure v0_heavy v0_place v0_rules v0_lower v0_upper v0_limits v0_limit v0_ties v0_letter v0_letters v0_told v0_tolds v0_places v0_cell v0_refusals v0_imaged v0_hasImage v0_before v0_up v0_down v0_beneath v0_numberUp v0_numberDown v0_block v0_blocks v0_merged v0_valueUp v0_valueDown v0_said v0_saids v0_at v0_number (-2 : Int32) (bnd_ne hf)) svV_X10_no kw1354 rfl rfl hPc hDc hSc rfl rfl hl.1 (Nat.le_of_ble_eq_true rfl) dX10_judge_10 ⟨Nat.le_of_ble_eq_true rfl, Nat.le_of_ble_eq_true rfl, rfl, rfl, Nat.le_of_ble_eq_true rfl, Nat.le_of_ble_eq_true rfl⟩) [(0, 22)] rfl rfl rfl (fun _ => rfl) (fun x13 H locs ex13 nx13 hP hD hS => ?_)
  have hf := bnd_of hf ex13
  have hP : va_P g.1 vwCl (wX10 a0 g v0_papers v0_raw v0_kind v0_figure v0_heavy v0_place v0_rules v0_lower v0_upper v0_limits v0_limit v0_ties v0_letter v0_letters v0_told v0_tolds v0_places v0_cell x13.2 v0_imaged v0_hasImage v0_before v0_up v0_down v0_beneath v0_numberUp v0_numberDown v0_block v0_blocks v0_merged v0_valueUp v0_valueDown v0_said v0_saids v0_at v0_number) H := hP
  have hD : va_D A (wX10 a0 g v0_papers v0_raw v0_kind v0_figure v0_heavy v0_place v0_rules v0_lower v0_upper v0_limits v0_limit v0_ties v0_letter v0_letters v0_told v0_tolds v0_places v0_cell x13.2 v0_imaged v0_hasImage v0_before v0_up v0_down v0_beneath v0_numberUp v0_numberDown v0_block v0_blocks v0_merged v0_valueUp v0_valueDown v0_said v0_saids v0_at v0_number) := hD
  exact retI (v := x13.1) (u := (x13.1, x13.2, v0_up, v0_down, v0_beneath, v0_valueUp, v0_valueDown)) (val := fun u => u.1) (W1 := fun u => wX10 a0 g v0_papers v0_raw v0_kind v0_figure v0_heavy v0_place v0_rules v0_lower v0_upper v0_limits v0_limit v0_ties v0_letter v0_letters v0_told v0_tolds v0_places v0_cell u.2.1 v0_imaged v0_hasImage v0_before u.2.2.1 u.2.2.2.1 u.2.2.2.2.1 v0_numberUp v0_numberDown v0_block v0_blocks v0_merged u.2.2.2.2.2.1 u.2.2.2.2.2.2 v0_said v0_saids v0_at v0_number) hx hb hr hlocks hS hP hD (hf0.trans hf.symm) rfl rfl dX10_judge_13
set_option maxHeartbeats 4000000 in
set_option maxRecDepth 100000 in
theorem c_X10_letter (l : Launch) (g : GG) (a0 : Nat → Nat) (v0_papers : Int32) (v0_raw : (Nat → Int32)) (v0_kind : (Nat → Int32)) (v0_figure : (Nat → Int32)) (v0_heavy : (Nat → Int32)) (v0_place : (Nat → Int32)) (v0_rules : Int32) (v0_lower : (Nat → Int32)) (v0_upper : (Nat → Int32)) (v0_limits : Int32) (v0_limit : (Nat → Int32)) (v0_ties : Int32) (v0_letter : (Nat → Int32)) (v0_letters : Int32) (v0_told : (Nat → Int32)) (v0_tolds : Int32) (v0_places : (Nat → Int32)) (v0_cell : (Nat → Int64)) (v0_refusals : (Nat → Int32)) (v0_imaged : (Nat → Int32)) (v0_hasImage : Int32) (v0_before : (Nat → Int32)) (v0_up : Int64) (v0_down : Int64) (v0_beneath : (Nat → Int32)) (v0_numberUp : Int32) (v0_numberDown : Int32) (v0_block : (Nat → Int32)) (v0_blocks : Int32) (v0_merged : Int32) (v0_valueUp : (Nat → Int32)) (v0_valueDown : (Nat → Int32)) (v0_said : (Nat → Int32)) (v0_saids : Int32) (v0_at : Int32) (v0_number : (Nat → Int32)) (p1 : Int32) (hne : (m_X10_letter (v0_papers, v0_raw, v0_kind, v0_figure, v0_heavy, v0_place, v0_rules, v0_lower, v0_upper, v0_limits, v0_limit, v0_ties, v0_letter, v0_letters, v0_told, v0_tolds, v0_places, v0_cell, v0_refusals, v0_imaged, v0_hasImage, v0_before, v0_up, v0_down, v0_beneath, v0_numberUp, v0_numberDown, v0_block, v0_blocks, v0_merged, v0_valueUp, v0_valueDown, v0_said, v0_saids, v0_at, v0_number) p1) ≠ none) : Ct l g yX10_letter cX10_letter 2 (some .int) ({ frames := 1, cells := 0, slots := 0, locals := 21 } : Room) [.ref (a0 0), .int p1] (wX10 a0 g v0_papers v0_raw v0_kind v0_figure v0_heavy v0_place v0_rules v0_lower v0_upper v0_limits v0_limit v0_ties v0_letter v0_letters v0_told v0_tolds v0_places v0_cell v0_refusals v0_imaged v0_hasImage v0_before v0_up v0_down v0_beneath v0_numberUp v0_numberDown v0_block v0_blocks v0_merged v0_valueUp v0_valueDown v0_said v0_saids v0_at v0_number) (Qi g .int (m_X10_letter (v0_papers, v0_raw, v0_kind, v0_figure, v0_heavy, v0_place, v0_rules, v0_lower, v0_upper, v0_limits, v0_limit, v0_ties, v0_letter, v0_letters, v0_told, v0_tolds, v0_places, v0_cell, v0_refusals, v0_imaged, v0_hasImage, v0_before, v0_up, v0_down, v0_beneath, v0_numberUp, v0_numberDown, v0_block, v0_blocks, v0_merged, v0_valueUp, v0_valueDown, v0_said, v0_saids, v0_at, v0_number) p1) (fun u => u.1) (fun u => wX10 a0 g v0_papers v0_raw v0_kind v0_figure v0_heavy v0_place v0_rules v0_lower v0_upper v0_limits v0_limit v0_ties u.2.1 u.2.2.1 v0_told v0_tolds v0_places v0_cell u.2.2.2 v0_imaged v0_hasImage v0_before v0_up v0_down v0_beneath v0_numberUp v0_numberDown v0_block v0_blocks v0_merged v0_valueUp v0_valueDown v0_said v0_saids v0_at v0_number)) 0 0 := by
  obtain ⟨out, hf⟩ := ne_ex hne
  have hf0 := hf
  refine Ct.of (own := RX10) (by decide +kernel) rfl (Nat.le_of_ble_eq_true rfl) ?_
  intro p e s m below meth c hx hb hr hml hown hts hlocks hin hK A H locs hA hP hD hS hE ls hl
  have hl : lv_has ls 2 [(0, .ref (a0 0)), (1, .int p1)] := hl
  unfold m_X10_letter at hf
  refine lv_iload_n hx hb dX10_letter_0 rfl (lv_at hl 1 rfl) ?_
  refine lv_if_ge (tgt := 11) hx hb dX10_letter_1 (by decide) (fun cb => ?_) (fun cb => ?_)
  · have hf := it_t cb hf
    refine lv_iload_n hx hb dX10_letter_11 rfl (lv_at hl 1 rfl) ?_
    refine lv_sipush (v := 255) hx hb dX10_letter_12 (by decide) ?_
    obtain ⟨r1, er1, hf⟩ := bnd hf
    have K : match r1 with | .inl x2 => (∀ (H : Heap) (locs : List Loc) (ls : Array Slot), va_P g.1 vwCl (wX10 a0 g v0_papers v0_raw v0_kind v0_figure v0_heavy v0_place v0_rules v0_lower v0_upper v0_limits v0_limit v0_ties x2.1 x2.2 v0_told v0_tolds v0_places v0_cell v0_refusals v0_imaged v0_hasImage v0_before v0_up v0_down v0_beneath v0_numberUp v0_numberDown v0_block v0_blocks v0_merged v0_valueUp v0_valueDown v0_said v0_saids v0_at v0_number) H → va_D A (wX10 a0 g v0_papers v0_raw v0_kind v0_figure v0_heavy v0_place v0_rules v0_lower v0_upper v0_limits v0_limit v0_ties x2.1 x2.2 v0_told v0_tolds v0_places v0_cell v0_refusals v0_imaged v0_hasImage v0_before v0_up v0_down v0_beneath v0_numberUp v0_numberDown v0_block v0_blocks v0_merged v0_valueUp v0_valueDown v0_said v0_saids v0_at v0_number) → va_S A s.heap H locs → lv_has ls 2 [(0, .ref (a0 0))] → W p l e { frames := 1, cells := 0, slots := 0, locals := 21 } s m [.ref (a0 0), .int p1].toArray below meth c H locs 0 0 (MQ below (Qi g .int (m_X10_letter (v0_papers, v0_raw, v0_kind, v0_figure, v0_heavy, v0_place, v0_rules, v0_lower, v0_upper, v0_limits, v0_limit, v0_ties, v0_letter, v0_letters, v0_told, v0_tolds, v0_places, v0_cell, v0_refusals, v0_imaged, v0_hasImage, v0_before, v0_up, v0_down, v0_beneath, v0_numberUp, v0_numberDown, v0_block, v0_blocks, v0_merged, v0_valueUp, v0_valueDown, v0_said, v0_saids, v0_at, v0_number) p1) (fun u => u.1) (fun u => wX10 a0 g v0_papers v0_raw v0_kind v0_figure v0_heavy v0_place v0_rules v0_lower v0_upper v0_limits v0_limit v0_ties u.2.1 u.2.2.1 v0_told v0_tolds v0_places v0_cell u.2.2.2 v0_imaged v0_hasImage v0_before v0_up v0_down v0_beneath v0_numberUp v0_numberDown v0_block v0_blocks v0_merged v0_valueUp v0_valueDown v0_said v0_saids v0_at v0_number) A) [.ref (a0 0), .int p1].toArray s 0 0 A) (F0 m 27 ls [])) | .inr v => (m_X10_letter (v0_papers, v0_raw, v0_kind, v0_figure, v0_heavy, v0_place, v0_rules, v0_lower, v0_upper, v0_limits, v0_limit, v0_ties, v0_letter, v0_letters, v0_told, v0_tolds, v0_places, v0_cell, v0_refusals, v0_imaged, v0_hasImage, v0_before, v0_up, v0_down, v0_beneath, v0_numberUp, v0_numberDown, v0_block, v0_blocks, v0_merged, v0_valueUp, v0_valueDown, v0_said, v0_saids, v0_at, v0_number) p1) = some v := by
      rcases r1 with x2 | v
      · intro H locs ls hP hD hS hl
        refine lv_aload_n hx hb dX10_letter_27 rfl (lv_at hl 0 rfl) ?_
        refine lv_bipush (v := (-6)) hx hb dX10_letter_28 (by decide) ?_
        refine cI hP hD hS hA hE (fun hPc hDc hSc => rV (As := [.int (-6 : Int32)]) (rest := []) hx hb hml hown hts hK (c_X10_no l g a0 v0_papers v0_raw v0_kind v0_figure v0_heavy v0_place v0_rules v0_lower v0_upper v0_limits v0_limit v0_ties x2.1 x2.2 v0_told v0_tolds v0_places v0_cell v0_refusals v0_imaged v0_hasImage v0_before v0_up v0_down v0_beneath v0_numberUp v0_numberDown v0_block v0_blocks v0_merged v0_valueUp v0_valueDown v0_said v0_saids v0_at v0_number (-6 : Int32) (bnd_ne hf)) svV_X10_no kw1354 rfl rfl hPc hDc hSc rfl rfl hl.1 (Nat.le_of_ble_eq_true rfl) dX10_letter_30 ⟨Nat.le_of_ble_eq_true rfl, Nat.le_of_ble_eq_true rfl, rfl, rfl, Nat.le_of_ble_eq_true rfl, Nat.le_of_ble_eq_true rfl⟩) [(0, 22)] rfl rfl rfl (fun _ => rfl) (fun x3 H locs ex3 nx3 hP hD hS => ?_)
        have hf := bnd_of hf ex3
        have hP : va_P g.1 vwCl (wX10 a0 g v0_papers v0_raw v0_kind v0_figure v0_heavy v0_place v0_rules v0_lower v0_upper v0_limits v0_limit v0_ties x2.1 x2.2 v0_told v0_tolds v0_places v0_cell x3.2 v0_imaged v0_hasImage v0_before v0_up v0_down v0_beneath v0_numberUp v0_numberDown v0_block v0_blocks v0_merged v0_valueUp v0_valueDown v0_said v0_saids v0_at v0_number) H := hP
        have hD : va_D A (wX10 a0 g v0_papers v0_raw v0_kind v0_figure v0_heavy v0_place v0_rules v0_lower v0_upper v0_limits v0_limit v0_ties x2.1 x2.2 v0_told v0_tolds v0_places v0_cell x3.2 v0_imaged v0_hasImage v0_before v0_up v0_down v0_beneath v0_numberUp v0_numberDown v0_block v0_blocks v0_merged v0_valueUp v0_valueDown v0_said v0_saids v0_at v0_number) := hD
        exact retI (v := x3.1) (u := (x3.1, x2.1, x2.2, x3.2)) (val := fun u => u.1) (W1 := fun u => wX10 a0 g v0_papers v0_raw v0_kind v0_figure v0_heavy v0_place v0_rules v0_lower v0_upper v0_limits v0_limit v0_ties u.2.1 u.2.2.1 v0_told v0_tolds v0_places v0_cell u.2.2.2 v0_imaged v0_hasImage v0_before v0_up v0_down v0_beneath v0_numberUp v0_numberDown v0_block v0_blocks v0_merged v0_valueUp v0_valueDown v0_said v0_saids v0_at v0_number) hx hb hr hlocks hS hP hD (hf0.trans hf.symm) rfl rfl dX10_letter_33
      · exact hf0.trans hf.symm
    have hf := er1
    refine lv_icmp_gt (tgt := 27) hx hb dX10_letter_15 (by decide) (fun cb => ?_) (fun cb => ?_)
    · have hf := it_t cb hf
      have hq := Option.some.inj hf
      subst hq
      exact K _ _ _ hP hD hS (lv_sub hl [0] rfl)
    have hf := it_f cb hf
    refine lv_aload_n hx hb dX10_letter_18 rfl (lv_at hl 0 rfl) ?_
    refine va_get (D := g.1) (ci := 11) (v := .int v0_letters) (C := RX10) (T := TX10) (N := 36) hx hb hts layX10 hown hK.1 hP 0 rfl rfl 13 (by decide) (hts _ kw1290) (fun _ h9 => h9) rfl dX10_letter_19 ?_
    refine lv_bipush (v := 120) hx hb dX10_letter_22 (by decide) ?_
    refine lv_icmp_ne (tgt := 34) hx hb dX10_letter_24 (by decide) (fun cb => ?_) (fun cb => ?_)
    · have hf := it_f cb hf
      refine lv_aload_n hx hb dX10_letter_34 rfl (lv_at hl 0 rfl) ?_
      refine va_get (D := g.1) (ci := 11) (v := .ref (a0 9)) (C := RX10) (T := TX10) (N := 36) hx hb hts layX10 hown hK.1 hP 0 rfl rfl 12 (by decide) (hts _ kw1289) (fun _ h9 => h9) rfl dX10_letter_35 ?_
      refine lv_aload_n hx hb dX10_letter_38 rfl (lv_at hl 0 rfl) ?_
      refine va_get (D := g.1) (ci := 11) (v := .int v0_letters) (C := RX10) (T := TX10) (N := 36) hx hb hts layX10 hown hK.1 hP 0 rfl rfl 13 (by decide) (hts _ kw1290) (fun _ h9 => h9) rfl dX10_letter_39 ?_
      refine lv_iload_n hx hb dX10_letter_42 rfl (lv_at hl 1 rfl) ?_
      have hi := it_n hf
      have hf := it_t hi hf
      refine va_iast hx hb hK.1 hP hD hS 9 0 rfl rfl (inb_in hi) dX10_letter_43 (fun H locs hP hD hS => ?_)
      have hP : va_P g.1 vwCl (wX10 a0 g v0_papers v0_raw v0_kind v0_figure v0_heavy v0_place v0_rules v0_lower v0_upper v0_limits v0_limit v0_ties (upd v0_letter v0_letters.toNatClampNeg p1) v0_letters v0_told v0_tolds v0_places v0_cell v0_refusals v0_imaged v0_hasImage v0_before v0_up v0_down v0_beneath v0_numberUp v0_numberDown v0_block v0_blocks v0_merged v0_valueUp v0_valueDown v0_said v0_saids v0_at v0_number) H := hP
      have hD : va_D A (wX10 a0 g v0_papers v0_raw v0_kind v0_figure v0_heavy v0_place v0_rules v0_lower v0_upper v0_limits v0_limit v0_ties (upd v0_letter v0_letters.toNatClampNeg p1) v0_letters v0_told v0_tolds v0_places v0_cell v0_refusals v0_imaged v0_hasImage v0_before v0_up v0_down v0_beneath v0_numberUp v0_numberDown v0_block v0_blocks v0_merged v0_valueUp v0_valueDown v0_said v0_saids v0_at v0_number) := hD
      refine lv_aload_n hx hb dX10_letter_44 rfl (lv_at hl 0 rfl) ?_
      refine lv_dup hx hb dX10_letter_45 rfl ?_
      refine va_get (D := g.1) (ci := 11) (v := .int v0_letters) (C := RX10) (T := TX10) (N := 36) hx hb hts layX10 hown hK.1 hP 0 rfl rfl 13 (by decide) (hts _ kw1290) (fun _ h9 => h9) rfl dX10_letter_46 ?_
      refine lv_iconst (v := 1) hx hb dX10_letter_49 (by decide) ?_
      refine lv_iadd hx hb dX10_letter_50 ?_
      refine va_put (D := g.1) (ci := 11) (v := .int (v0_letters + (1 : Int32))) (ty := .int) (C := RX10) (T := TX10) (N := 36) hx hb hts layX10 tyX10 tyX10_ok nmX10 hown hK.1 hP hD hS 0 rfl rfl 13 (by decide) (hts _ kw1290) (fun _ h9 => h9) rfl (tyX10_ok 13 (by decide)) rfl rfl (Nat.le_of_ble_eq_true rfl) dX10_letter_51 (fun H locs hP hD hS => ?_)
      have hP : va_P g.1 vwCl (wX10 a0 g v0_papers v0_raw v0_kind v0_figure v0_heavy v0_place v0_rules v0_lower v0_upper v0_limits v0_limit v0_ties (upd v0_letter v0_letters.toNatClampNeg p1) (v0_letters + (1 : Int32)) v0_told v0_tolds v0_places v0_cell v0_refusals v0_imaged v0_hasImage v0_before v0_up v0_down v0_beneath v0_numberUp v0_numberDown v0_block v0_blocks v0_merged v0_valueUp v0_valueDown v0_said v0_saids v0_at v0_number) H := hP
      have hD : va_D A (wX10 a0 g v0_papers v0_raw v0_kind v0_figure v0_heavy v0_place v0_rules v0_lower v0_upper v0_limits v0_limit v0_ties (upd v0_letter v0_letters.toNatClampNeg p1) (v0_letters + (1 : Int32)) v0_told v0_tolds v0_places v0_cell v0_refusals v0_imaged v0_hasImage v0_before v0_up v0_down v0_beneath v0_numberUp v0_numberDown v0_block v0_blocks v0_merged v0_valueUp v0_valueDown v0_said v0_saids v0_at v0_number) := hD
      refine lv_aload_n hx hb dX10_letter_54 rfl (lv_at hl 0 rfl) ?_
      refine va_get (D := g.1) (ci := 11) (v := .int (v0_letters + (1 : Int32))) (C := RX10) (T := TX10) (N := 36) hx hb hts layX10 hown hK.1 hP 0 rfl rfl 13 (by decide) (hts _ kw1290) (fun _ h9 => h9) rfl dX10_letter_55 ?_
      have hq := Option.some.inj hf
      subst hq
      exact retI (v := (v0_letters + (1 : Int32))) (u := ((v0_letters + (1 : Int32)), (upd v0_letter v0_letters.toNatClampNeg p1), (v0_letters + (1 : Int32)), v0_refusals)) (val := fun u => u.1) (W1 := fun u => wX10 a0 g v0_papers v0_raw v0_kind v0_figure v0_heavy v0_place v0_rules v0_lower v0_upper v0_limits v0_limit v0_ties u.2.1 u.2.2.1 v0_told v0_tolds v0_places v0_cell u.2.2.2 v0_imaged v0_hasImage v0_before v0_up v0_down v0_beneath v0_numberUp v0_numberDown v0_block v0_blocks v0_merged v0_valueUp v0_valueDown v0_said v0_saids v0_at v0_number) hx hb hr hlocks hS hP hD K rfl rfl dX10_letter_58
    have hf := it_t cb hf
    have hq := Option.some.inj hf
    subst hq
    exact K _ _ _ hP hD hS (lv_sub hl [0] rfl)
  have hf := it_f cb hf
  refine lv_aload_n hx hb dX10_letter_4 rfl (lv_at hl 0 rfl) ?_
  refine lv_bipush (v := (-4)) hx hb dX10_letter_5 (by decide) ?_
  refine cI hP hD hS hA hE (fun hPc hDc hSc => rV (As := [.int (-4 : Int32)]) (rest := []) hx hb hml hown hts hK (c_X10_no l g a0 v0_papers v0_raw v0_kind v0_figure v0_heavy v0_place v0_rules v0_lower v0_upper v0_limits v0_limit v0_ties v0_letter v0_letters v0_told v0_tolds v0_places v0_cell v0_refusals v0_imaged v0_hasImage v0_before v0_up v0_down v0_beneath v0_numberUp v0_numberDown v0_block v0_blocks v0_merged v0_valueUp v0_valueDown v0_said v0_saids v0_at v0_number (-4 : Int32) (bnd_ne hf)) svV_X10_no kw1354 rfl rfl hPc hDc hSc rfl rfl hl.1 (Nat.le_of_ble_eq_true rfl) dX10_letter_7 ⟨Nat.le_of_ble_eq_true rfl, Nat.le_of_ble_eq_true rfl, rfl, rfl, Nat.le_of_ble_eq_true rfl, Nat.le_of_ble_eq_true rfl⟩) [(0, 22)] rfl rfl rfl (fun _ => rfl) (fun x4 H locs ex4 nx4 hP hD hS => ?_)
  have hf := bnd_of hf ex4
  have hP : va_P g.1 vwCl (wX10 a0 g v0_papers v0_raw v0_kind v0_figure v0_heavy v0_place v0_rules v0_lower v0_upper v0_limits v0_limit v0_ties v0_letter v0_letters v0_told v0_tolds v0_places v0_cell x4.2 v0_imaged v0_hasImage v0_before v0_up v0_down v0_beneath v0_numberUp v0_numberDown v0_block v0_blocks v0_merged v0_valueUp v0_valueDown v0_said v0_saids v0_at v0_number) H := hP
  have hD : va_D A (wX10 a0 g v0_papers v0_raw v0_kind v0_figure v0_heavy v0_place v0_rules v0_lower v0_upper v0_limits v0_limit v0_ties v0_letter v0_letters v0_told v0_tolds v0_places v0_cell x4.2 v0_imaged v0_hasImage v0_before v0_up v0_down v0_beneath v0_numberUp v0_numberDown v0_block v0_blocks v0_merged v0_valueUp v0_valueDown v0_said v0_saids v0_at v0_number) := hD
  exact retI (v := x4.1) (u := (x4.1, v0_letter, v0_letters, x4.2)) (val := fun u => u.1) (W1 := fun u => wX10 a0 g v0_papers v0_raw v0_kind v0_figure v0_heavy v0_place v0_rules v0_lower v0_upper v0_limits v0_limit v0_ties u.2.1 u.2.2.1 v0_told v0_tolds v0_places v0_cell u.2.2.2 v0_imaged v0_hasImage v0_before v0_up v0_down v0_beneath v0_numberUp v0_numberDown v0_block v0_blocks v0_merged v0_valueUp v0_valueDown v0_said v0_saids v0_at v0_number) hx hb hr hlocks hS hP hD (hf0.trans hf.symm) rfl rfl dX10_letter_10
set_option maxHeartbeats 4000000 in
set_option maxRecDepth 100000 in
theorem c_X10_word (l : Launch) (g : GG) (p0 : Int32) (hne : (m_X10_word p0) ≠ none) : Ct l g yX10_word cX10_word 1 (Option.some (Jvm.ClassFile.FieldType.object RJ0)) ({ frames := 0, cells := 0, slots := 0, locals := 0 } : Room) [.int p0] (([] : va_W)) (Qr g (m_X10_word p0) (fun u => adK g u) (fun u => ([] : va_W))) 0 0 := by
  obtain ⟨out, hf⟩ := ne_ex hne
  have hf0 := hf
  refine Ct.of (own := RX10) (by decide +kernel) rfl (Nat.le_of_ble_eq_true rfl) ?_
  intro p e s m below meth c hx hb hr hml hown hts hlocks hin hK A H locs hA hP hD hS hE ls hl
  have hl : lv_has ls 1 [(0, .int p0)] := hl
  unfold m_X10_word at hf
  refine lv_iload_n hx hb dX10_word_0 rfl (lv_at hl 0 rfl) ?_
  by_cases c0 : p0 = (0 : Int32)
  · have hf := it_t c0 hf
    refine lv_tableIn (off := 43) (tgt := 44) hx hb dX10_word_1 (by rw [c0]; decide) (by rw [c0]; decide) (by rw [c0]; rfl) (by decide) ?_
    refine lc_SW (q := adK g (0 : Nat)) hx hb hown (stR11 hK) dX10_word_44 ?_
    exact retR (u := (0 : Nat)) (ad := fun u => adK g u) (W1 := fun u => ([] : va_W)) hx hb hr (Or.inl ⟨_, rfl⟩) hlocks hS hP hD (hf0.trans hf.symm) rfl dX10_word_47
  have hf := it_f c0 hf
  by_cases c1 : p0 = (1 : Int32)
  · have hf := it_t c1 hf
    refine lv_tableIn (off := 47) (tgt := 48) hx hb dX10_word_1 (by rw [c1]; decide) (by rw [c1]; decide) (by rw [c1]; rfl) (by decide) ?_
    refine lc_SW (q := adK g (1 : Nat)) hx hb hown (stR12 hK) dX10_word_48 ?_
    exact retR (u := (1 : Nat)) (ad := fun u => adK g u) (W1 := fun u => ([] : va_W)) hx hb hr (Or.inl ⟨_, rfl⟩) hlocks hS hP hD (hf0.trans hf.symm) rfl dX10_word_51
  have hf := it_f c1 hf
  by_cases c2 : p0 = (2 : Int32)
  · have hf := it_t c2 hf
    refine lv_tableIn (off := 51) (tgt := 52) hx hb dX10_word_1 (by rw [c2]; decide) (by rw [c2]; decide) (by rw [c2]; rfl) (by decide) ?_
    refine lc_SW (q := adK g (2 : Nat)) hx hb hown (stR13 hK) dX10_word_52 ?_
    exact retR (u := (2 : Nat)) (ad := fun u => adK g u) (W1 := fun u => ([] : va_W)) hx hb hr (Or.inl ⟨_, rfl⟩) hlocks hS hP hD (hf0.trans hf.symm) rfl dX10_word_55
  have hf := it_f c2 hf
  by_cases c3 : p0 = (3 : Int32)
  · have hf := it_t c3 hf
    refine lv_tableIn (off := 55) (tgt := 56) hx hb dX10_word_1 (by rw [c3]; decide) (by rw [c3]; decide) (by rw [c3]; rfl) (by decide) ?_
    refine lc_SW (q := adK g (3 : Nat)) hx hb hown (stR14 hK) dX10_word_56 ?_
    exact retR (u := (3 : Nat)) (ad := fun u => adK g u) (W1 := fun u => ([] : va_W)) hx hb hr (Or.inl ⟨_, rfl⟩) hlocks hS hP hD (hf0.trans hf.symm) rfl dX10_word_59
  have hf := it_f c3 hf
  by_cases c4 : p0 = (4 : Int32)
  · have hf := it_t c4 hf
    refine lv_tableIn (off := 59) (tgt := 60) hx hb dX10_word_1 (by rw [c4]; decide) (by rw [c4]; decide) (by rw [c4]; rfl) (by decide) ?_
    refine lc_SW (q := adK g (4 : Nat)) hx hb hown (stR15 hK) dX10_word_60 ?_
    exact retR (u := (4 : Nat)) (ad := fun u => adK g u) (W1 := fun u => ([] : va_W)) hx hb hr (Or.inl ⟨_, rfl⟩) hlocks hS hP hD (hf0.trans hf.symm) rfl dX10_word_63
  have hf := it_f c4 hf
  by_cases c5 : p0 = (5 : Int32)
  · have hf := it_t c5 hf
    refine lv_tableIn (off := 63) (tgt := 64) hx hb dX10_word_1 (by rw [c5]; decide) (by rw [c5]; decide) (by rw [c5]; rfl) (by decide) ?_
    refine lc_SW (q := adK g (5 : Nat)) hx hb hown (stR16 hK) dX10_word_64 ?_
    exact retR (u := (5 : Nat)) (ad := fun u => adK g u) (W1 := fun u => ([] : va_W)) hx hb hr (Or.inl ⟨_, rfl⟩) hlocks hS hP hD (hf0.trans hf.symm) rfl dX10_word_67
  have hf := it_f c5 hf
  by_cases c6 : p0 = (6 : Int32)
  · have hf := it_t c6 hf
    refine lv_tableIn (off := 67) (tgt := 68) hx hb dX10_word_1 (by rw [c6]; decide) (by rw [c6]; decide) (by rw [c6]; rfl) (by decide) ?_
    refine lc_SW (q := adK g (6 : Nat)) hx hb hown (stR17 hK) dX10_word_68 ?_
    exact retR (u := (6 : Nat)) (ad := fun u => adK g u) (W1 := fun u => ([] : va_W)) hx hb hr (Or.inl ⟨_, rfl⟩) hlocks hS hP hD (hf0.trans hf.symm) rfl dX10_word_71
  have hf := it_f c6 hf
  refine lv_tableOut (tgt := 72) hx hb dX10_word_1 (by have q0 := lv_neT c0 (a := 0) rfl; have q1 := lv_neT c1 (a := 1) rfl; have q2 := lv_neT c2 (a := 2) rfl; have q3 := lv_neT c3 (a := 3) rfl; have q4 := lv_neT c4 (a := 4) rfl; have q5 := lv_neT c5 (a := 5) rfl; have q6 := lv_neT c6 (a := 6) rfl; omega) (by decide) ?_
  refine lc_SW (q := adK g (7 : Nat)) hx hb hown (stR18 hK) dX10_word_72 ?_
  exact retR (u := (7 : Nat)) (ad := fun u => adK g u) (W1 := fun u => ([] : va_W)) hx hb hr (Or.inl ⟨_, rfl⟩) hlocks hS hP hD (hf0.trans hf.symm) rfl dX10_word_75
