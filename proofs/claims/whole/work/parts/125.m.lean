theorem dX10_binds_0 : decode cX10_binds 0 = .ok (.iload_n 1, 1) := by decide +kernel
theorem dX10_binds_1 : decode cX10_binds 1 = .ok (.invokestatic 287, 3) := by decide +kernel
theorem dX10_binds_4 : decode cX10_binds 4 = .ok (.ifCond .ne 10, 3) := by decide +kernel
theorem dX10_binds_14 : decode cX10_binds 14 = .ok (.aload_n 0, 1) := by decide +kernel
theorem dX10_binds_15 : decode cX10_binds 15 = .ok (.iload_n 1, 1) := by decide +kernel
theorem dX10_binds_16 : decode cX10_binds 16 = .ok (.aload_n 0, 1) := by decide +kernel
theorem dX10_binds_17 : decode cX10_binds 17 = .ok (.invokevirtual 134, 3) := by decide +kernel
theorem dX10_binds_20 : decode cX10_binds 20 = .ok (.invokevirtual 282, 3) := by decide +kernel
theorem dX10_binds_23 : decode cX10_binds 23 = .ok (.iconst 0, 1) := by decide +kernel
theorem dX10_binds_24 : decode cX10_binds 24 = .ok (.istore_n 2, 1) := by decide +kernel
theorem dX10_binds_25 : decode cX10_binds 25 = .ok (.iconst 0, 1) := by decide +kernel
theorem dX10_binds_26 : decode cX10_binds 26 = .ok (.istore_n 3, 1) := by decide +kernel
theorem dX10_binds_27 : decode cX10_binds 27 = .ok (.iload_n 3, 1) := by decide +kernel
theorem dX10_binds_28 : decode cX10_binds 28 = .ok (.aload_n 0, 1) := by decide +kernel
theorem dX10_binds_29 : decode cX10_binds 29 = .ok (.getfield 88, 3) := by decide +kernel
theorem dX10_binds_32 : decode cX10_binds 32 = .ok (.if_icmp .ge 38, 3) := by decide +kernel
theorem dX10_binds_35 : decode cX10_binds 35 = .ok (.iload_n 2, 1) := by decide +kernel
theorem dX10_binds_36 : decode cX10_binds 36 = .ok (.aload_n 0, 1) := by decide +kernel
theorem dX10_binds_37 : decode cX10_binds 37 = .ok (.aload_n 0, 1) := by decide +kernel
theorem dX10_binds_38 : decode cX10_binds 38 = .ok (.getfield 25, 3) := by decide +kernel
theorem dX10_binds_41 : decode cX10_binds 41 = .ok (.iload_n 3, 1) := by decide +kernel
theorem dX10_binds_42 : decode cX10_binds 42 = .ok (.iaload, 1) := by decide +kernel
theorem dX10_binds_43 : decode cX10_binds 43 = .ok (.aload_n 0, 1) := by decide +kernel
theorem dX10_binds_44 : decode cX10_binds 44 = .ok (.getfield 28, 3) := by decide +kernel
theorem dX10_binds_47 : decode cX10_binds 47 = .ok (.iload_n 3, 1) := by decide +kernel
theorem dX10_binds_48 : decode cX10_binds 48 = .ok (.iaload, 1) := by decide +kernel
theorem dX10_binds_49 : decode cX10_binds 49 = .ok (.invokevirtual 296, 3) := by decide +kernel
theorem dX10_binds_52 : decode cX10_binds 52 = .ok (.ifCond .eq 9, 3) := by decide +kernel
theorem dX10_binds_61 : decode cX10_binds 61 = .ok (.iconst 0, 1) := by decide +kernel
theorem dX10_binds_62 : decode cX10_binds 62 = .ok (.ior, 1) := by decide +kernel
theorem dX10_binds_63 : decode cX10_binds 63 = .ok (.istore_n 2, 1) := by decide +kernel
theorem dX10_binds_64 : decode cX10_binds 64 = .ok (.iinc 3 1, 3) := by decide +kernel
theorem dX10_binds_67 : decode cX10_binds 67 = .ok (.goto (-40), 3) := by decide +kernel
theorem dX10_binds_55 : decode cX10_binds 55 = .ok (.iconst 1, 1) := by decide +kernel
theorem dX10_binds_56 : decode cX10_binds 56 = .ok (.iload_n 3, 1) := by decide +kernel
theorem dX10_binds_57 : decode cX10_binds 57 = .ok (.ishl, 1) := by decide +kernel
theorem dX10_binds_58 : decode cX10_binds 58 = .ok (.goto 4, 3) := by decide +kernel
theorem dX10_binds_70 : decode cX10_binds 70 = .ok (.iload_n 2, 1) := by decide +kernel
theorem dX10_binds_71 : decode cX10_binds 71 = .ok (.ireturn, 1) := by decide +kernel
theorem dX10_binds_7 : decode cX10_binds 7 = .ok (.aload_n 0, 1) := by decide +kernel
theorem dX10_binds_8 : decode cX10_binds 8 = .ok (.bipush (-2), 2) := by decide +kernel
theorem dX10_binds_10 : decode cX10_binds 10 = .ok (.invokevirtual 76, 3) := by decide +kernel
theorem dX10_binds_13 : decode cX10_binds 13 = .ok (.ireturn, 1) := by decide +kernel
theorem dX10_worth_0 : decode cX10_worth 0 = .ok (.iload_n 1, 1) := by decide +kernel
theorem dX10_worth_1 : decode cX10_worth 1 = .ok (.invokestatic 287, 3) := by decide +kernel
theorem dX10_worth_4 : decode cX10_worth 4 = .ok (.ifCond .ne 10, 3) := by decide +kernel
theorem dX10_worth_14 : decode cX10_worth 14 = .ok (.aload_n 0, 1) := by decide +kernel
theorem dX10_worth_15 : decode cX10_worth 15 = .ok (.iload_n 2, 1) := by decide +kernel
theorem dX10_worth_16 : decode cX10_worth 16 = .ok (.invokevirtual 145, 3) := by decide +kernel
theorem dX10_worth_19 : decode cX10_worth 19 = .ok (.ifCond .ne 9, 3) := by decide +kernel
theorem dX10_worth_28 : decode cX10_worth 28 = .ok (.iload_n 3, 1) := by decide +kernel
theorem dX10_worth_29 : decode cX10_worth 29 = .ok (.invokestatic 230, 3) := by decide +kernel
theorem dX10_worth_32 : decode cX10_worth 32 = .ok (.ifCond .ne 10, 3) := by decide +kernel
theorem dX10_worth_42 : decode cX10_worth 42 = .ok (.aload_n 0, 1) := by decide +kernel
theorem dX10_worth_43 : decode cX10_worth 43 = .ok (.iload_n 1, 1) := by decide +kernel
theorem dX10_worth_44 : decode cX10_worth 44 = .ok (.aload_n 0, 1) := by decide +kernel
theorem dX10_worth_45 : decode cX10_worth 45 = .ok (.invokevirtual 134, 3) := by decide +kernel
theorem dX10_worth_48 : decode cX10_worth 48 = .ok (.iconst 1, 1) := by decide +kernel
theorem dX10_worth_49 : decode cX10_worth 49 = .ok (.iload_n 2, 1) := by decide +kernel
theorem dX10_worth_50 : decode cX10_worth 50 = .ok (.ishl, 1) := by decide +kernel
theorem dX10_worth_51 : decode cX10_worth 51 = .ok (.iconst (-1), 1) := by decide +kernel
theorem dX10_worth_52 : decode cX10_worth 52 = .ok (.ixor, 1) := by decide +kernel
theorem dX10_worth_53 : decode cX10_worth 53 = .ok (.iand, 1) := by decide +kernel
theorem dX10_worth_54 : decode cX10_worth 54 = .ok (.invokevirtual 293, 3) := by decide +kernel
theorem dX10_worth_57 : decode cX10_worth 57 = .ok (.aload_n 0, 1) := by decide +kernel
theorem dX10_worth_58 : decode cX10_worth 58 = .ok (.getfield 95, 3) := by decide +kernel
theorem dX10_worth_61 : decode cX10_worth 61 = .ok (.lstore 4, 2) := by decide +kernel
theorem dX10_worth_63 : decode cX10_worth 63 = .ok (.aload_n 0, 1) := by decide +kernel
theorem dX10_worth_64 : decode cX10_worth 64 = .ok (.getfield 99, 3) := by decide +kernel
theorem dX10_worth_67 : decode cX10_worth 67 = .ok (.lstore 6, 2) := by decide +kernel
theorem dX10_worth_69 : decode cX10_worth 69 = .ok (.aload_n 0, 1) := by decide +kernel
theorem dX10_worth_70 : decode cX10_worth 70 = .ok (.iload_n 1, 1) := by decide +kernel
theorem dX10_worth_71 : decode cX10_worth 71 = .ok (.aload_n 0, 1) := by decide +kernel
theorem dX10_worth_72 : decode cX10_worth 72 = .ok (.invokevirtual 134, 3) := by decide +kernel
theorem dX10_worth_75 : decode cX10_worth 75 = .ok (.invokevirtual 293, 3) := by decide +kernel
theorem dX10_worth_78 : decode cX10_worth 78 = .ok (.aload_n 0, 1) := by decide +kernel
theorem dX10_worth_79 : decode cX10_worth 79 = .ok (.lload 4, 2) := by decide +kernel
theorem dX10_worth_81 : decode cX10_worth 81 = .ok (.lneg, 1) := by decide +kernel
theorem dX10_worth_82 : decode cX10_worth 82 = .ok (.lload 6, 2) := by decide +kernel
theorem dX10_worth_84 : decode cX10_worth 84 = .ok (.invokevirtual 220, 3) := by decide +kernel
theorem dX10_worth_87 : decode cX10_worth 87 = .ok (.aload_n 0, 1) := by decide +kernel
theorem dX10_worth_88 : decode cX10_worth 88 = .ok (.iload_n 3, 1) := by decide +kernel
theorem dX10_worth_89 : decode cX10_worth 89 = .ok (.invokevirtual 239, 3) := by decide +kernel
theorem dX10_worth_92 : decode cX10_worth 92 = .ok (.lreturn, 1) := by decide +kernel
theorem dX10_worth_35 : decode cX10_worth 35 = .ok (.aload_n 0, 1) := by decide +kernel
theorem dX10_worth_36 : decode cX10_worth 36 = .ok (.bipush (-2), 2) := by decide +kernel
theorem dX10_worth_38 : decode cX10_worth 38 = .ok (.invokevirtual 226, 3) := by decide +kernel
theorem dX10_worth_41 : decode cX10_worth 41 = .ok (.lreturn, 1) := by decide +kernel
theorem dX10_worth_22 : decode cX10_worth 22 = .ok (.aload_n 0, 1) := by decide +kernel
theorem dX10_worth_23 : decode cX10_worth 23 = .ok (.iconst (-1), 1) := by decide +kernel
theorem dX10_worth_24 : decode cX10_worth 24 = .ok (.invokevirtual 226, 3) := by decide +kernel
theorem dX10_worth_27 : decode cX10_worth 27 = .ok (.lreturn, 1) := by decide +kernel
theorem dX10_worth_7 : decode cX10_worth 7 = .ok (.aload_n 0, 1) := by decide +kernel
theorem dX10_worth_8 : decode cX10_worth 8 = .ok (.bipush (-2), 2) := by decide +kernel
theorem dX10_worth_10 : decode cX10_worth 10 = .ok (.invokevirtual 226, 3) := by decide +kernel
theorem dX10_worth_13 : decode cX10_worth 13 = .ok (.lreturn, 1) := by decide +kernel
theorem dX10_dearest_0 : decode cX10_dearest 0 = .ok (.iload_n 1, 1) := by decide +kernel
theorem dX10_dearest_1 : decode cX10_dearest 1 = .ok (.invokestatic 287, 3) := by decide +kernel
theorem dX10_dearest_4 : decode cX10_dearest 4 = .ok (.ifCond .ne 10, 3) := by decide +kernel
theorem dX10_dearest_14 : decode cX10_dearest 14 = .ok (.aload_n 0, 1) := by decide +kernel
theorem dX10_dearest_15 : decode cX10_dearest 15 = .ok (.iload_n 1, 1) := by decide +kernel
theorem dX10_dearest_16 : decode cX10_dearest 16 = .ok (.aload_n 0, 1) := by decide +kernel
theorem dX10_dearest_17 : decode cX10_dearest 17 = .ok (.invokevirtual 134, 3) := by decide +kernel
theorem dX10_dearest_20 : decode cX10_dearest 20 = .ok (.invokevirtual 293, 3) := by decide +kernel
theorem dX10_dearest_23 : decode cX10_dearest 23 = .ok (.aload_n 0, 1) := by decide +kernel
theorem dX10_dearest_24 : decode cX10_dearest 24 = .ok (.getfield 95, 3) := by decide +kernel
theorem dX10_dearest_27 : decode cX10_dearest 27 = .ok (.lstore_n 2, 1) := by decide +kernel
theorem dX10_dearest_28 : decode cX10_dearest 28 = .ok (.aload_n 0, 1) := by decide +kernel
theorem dX10_dearest_29 : decode cX10_dearest 29 = .ok (.getfield 99, 3) := by decide +kernel
theorem dX10_dearest_32 : decode cX10_dearest 32 = .ok (.lstore 4, 2) := by decide +kernel
theorem dX10_dearest_34 : decode cX10_dearest 34 = .ok (.bipush (-9), 2) := by decide +kernel
theorem dX10_dearest_36 : decode cX10_dearest 36 = .ok (.istore 6, 2) := by decide +kernel
theorem dX10_dearest_38 : decode cX10_dearest 38 = .ok (.iconst 0, 1) := by decide +kernel
theorem dX10_dearest_39 : decode cX10_dearest 39 = .ok (.istore 7, 2) := by decide +kernel
theorem dX10_dearest_41 : decode cX10_dearest 41 = .ok (.iload 7, 2) := by decide +kernel
theorem dX10_dearest_43 : decode cX10_dearest 43 = .ok (.aload_n 0, 1) := by decide +kernel
theorem dX10_dearest_44 : decode cX10_dearest 44 = .ok (.getfield 88, 3) := by decide +kernel
theorem dX10_dearest_47 : decode cX10_dearest 47 = .ok (.if_icmp .ge 57, 3) := by decide +kernel
theorem dX10_dearest_50 : decode cX10_dearest 50 = .ok (.aload_n 0, 1) := by decide +kernel
theorem dX10_dearest_51 : decode cX10_dearest 51 = .ok (.iload_n 1, 1) := by decide +kernel
theorem dX10_dearest_52 : decode cX10_dearest 52 = .ok (.aload_n 0, 1) := by decide +kernel
theorem dX10_dearest_53 : decode cX10_dearest 53 = .ok (.invokevirtual 134, 3) := by decide +kernel
theorem dX10_dearest_56 : decode cX10_dearest 56 = .ok (.iconst 1, 1) := by decide +kernel
theorem dX10_dearest_57 : decode cX10_dearest 57 = .ok (.iload 7, 2) := by decide +kernel
theorem dX10_dearest_59 : decode cX10_dearest 59 = .ok (.ishl, 1) := by decide +kernel
theorem dX10_dearest_60 : decode cX10_dearest 60 = .ok (.iconst (-1), 1) := by decide +kernel
theorem dX10_dearest_61 : decode cX10_dearest 61 = .ok (.ixor, 1) := by decide +kernel
theorem dX10_dearest_62 : decode cX10_dearest 62 = .ok (.iand, 1) := by decide +kernel
theorem dX10_dearest_63 : decode cX10_dearest 63 = .ok (.invokevirtual 293, 3) := by decide +kernel
theorem dX10_dearest_66 : decode cX10_dearest 66 = .ok (.aload_n 0, 1) := by decide +kernel
theorem dX10_dearest_67 : decode cX10_dearest 67 = .ok (.getfield 95, 3) := by decide +kernel
theorem dX10_dearest_70 : decode cX10_dearest 70 = .ok (.lload 4, 2) := by decide +kernel
theorem dX10_dearest_72 : decode cX10_dearest 72 = .ok (.lmul, 1) := by decide +kernel
theorem dX10_dearest_73 : decode cX10_dearest 73 = .ok (.lload_n 2, 1) := by decide +kernel
theorem dX10_dearest_74 : decode cX10_dearest 74 = .ok (.aload_n 0, 1) := by decide +kernel
theorem dX10_dearest_75 : decode cX10_dearest 75 = .ok (.getfield 99, 3) := by decide +kernel
theorem dX10_dearest_78 : decode cX10_dearest 78 = .ok (.lmul, 1) := by decide +kernel
theorem dX10_dearest_79 : decode cX10_dearest 79 = .ok (.lcmp, 1) := by decide +kernel
theorem dX10_dearest_80 : decode cX10_dearest 80 = .ok (.ifCond .ge 18, 3) := by decide +kernel
theorem dX10_dearest_98 : decode cX10_dearest 98 = .ok (.iinc 7 1, 3) := by decide +kernel
theorem dX10_dearest_101 : decode cX10_dearest 101 = .ok (.goto (-60), 3) := by decide +kernel
theorem dX10_dearest_83 : decode cX10_dearest 83 = .ok (.iload 7, 2) := by decide +kernel
theorem dX10_dearest_85 : decode cX10_dearest 85 = .ok (.istore 6, 2) := by decide +kernel
theorem dX10_dearest_87 : decode cX10_dearest 87 = .ok (.aload_n 0, 1) := by decide +kernel
theorem dX10_dearest_88 : decode cX10_dearest 88 = .ok (.getfield 95, 3) := by decide +kernel
theorem dX10_dearest_91 : decode cX10_dearest 91 = .ok (.lstore_n 2, 1) := by decide +kernel
theorem dX10_dearest_92 : decode cX10_dearest 92 = .ok (.aload_n 0, 1) := by decide +kernel
theorem dX10_dearest_93 : decode cX10_dearest 93 = .ok (.getfield 99, 3) := by decide +kernel
theorem dX10_dearest_96 : decode cX10_dearest 96 = .ok (.lstore 4, 2) := by decide +kernel
theorem dX10_dearest_104 : decode cX10_dearest 104 = .ok (.iload 6, 2) := by decide +kernel
theorem dX10_dearest_106 : decode cX10_dearest 106 = .ok (.ireturn, 1) := by decide +kernel
theorem dX10_dearest_7 : decode cX10_dearest 7 = .ok (.aload_n 0, 1) := by decide +kernel
theorem dX10_dearest_8 : decode cX10_dearest 8 = .ok (.bipush (-2), 2) := by decide +kernel
theorem dX10_dearest_10 : decode cX10_dearest 10 = .ok (.invokevirtual 76, 3) := by decide +kernel
theorem dX10_dearest_13 : decode cX10_dearest 13 = .ok (.ireturn, 1) := by decide +kernel
theorem dX10_needs_0 : decode cX10_needs 0 = .ok (.iload_n 1, 1) := by decide +kernel
theorem dX10_needs_1 : decode cX10_needs 1 = .ok (.invokestatic 287, 3) := by decide +kernel
theorem dX10_needs_4 : decode cX10_needs 4 = .ok (.ifCond .ne 10, 3) := by decide +kernel
theorem dX10_needs_14 : decode cX10_needs 14 = .ok (.aload_n 0, 1) := by decide +kernel
theorem dX10_needs_15 : decode cX10_needs 15 = .ok (.iload_n 2, 1) := by decide +kernel
theorem dX10_needs_16 : decode cX10_needs 16 = .ok (.invokevirtual 122, 3) := by decide +kernel
theorem dX10_needs_19 : decode cX10_needs 19 = .ok (.ifCond .ne 9, 3) := by decide +kernel
theorem dX10_needs_28 : decode cX10_needs 28 = .ok (.iload_n 3, 1) := by decide +kernel
theorem dX10_needs_29 : decode cX10_needs 29 = .ok (.ifCond .ge 10, 3) := by decide +kernel
theorem dX10_needs_39 : decode cX10_needs 39 = .ok (.iload_n 3, 1) := by decide +kernel
theorem dX10_needs_40 : decode cX10_needs 40 = .ok (.iconst 5, 1) := by decide +kernel
theorem dX10_needs_41 : decode cX10_needs 41 = .ok (.if_icmp .le 10, 3) := by decide +kernel
theorem dX10_needs_51 : decode cX10_needs 51 = .ok (.aload_n 0, 1) := by decide +kernel
theorem dX10_needs_52 : decode cX10_needs 52 = .ok (.getfield 7, 3) := by decide +kernel
theorem dX10_needs_55 : decode cX10_needs 55 = .ok (.iload_n 2, 1) := by decide +kernel
theorem dX10_needs_56 : decode cX10_needs 56 = .ok (.iaload, 1) := by decide +kernel
theorem dX10_needs_57 : decode cX10_needs 57 = .ok (.istore 4, 2) := by decide +kernel
theorem dX10_needs_59 : decode cX10_needs 59 = .ok (.bipush (-9), 2) := by decide +kernel
theorem dX10_needs_61 : decode cX10_needs 61 = .ok (.istore 5, 2) := by decide +kernel
theorem dX10_needs_63 : decode cX10_needs 63 = .ok (.iconst 0, 1) := by decide +kernel
theorem dX10_needs_64 : decode cX10_needs 64 = .ok (.istore 6, 2) := by decide +kernel
theorem dX10_needs_66 : decode cX10_needs 66 = .ok (.iload 6, 2) := by decide +kernel
theorem dX10_needs_68 : decode cX10_needs 68 = .ok (.bipush 100, 2) := by decide +kernel
theorem dX10_needs_70 : decode cX10_needs 70 = .ok (.if_icmp .ge 43, 3) := by decide +kernel
theorem dX10_needs_73 : decode cX10_needs 73 = .ok (.iload 5, 2) := by decide +kernel
theorem dX10_needs_75 : decode cX10_needs 75 = .ok (.bipush (-9), 2) := by decide +kernel
theorem dX10_needs_77 : decode cX10_needs 77 = .ok (.if_icmp .ne 36, 3) := by decide +kernel
theorem dX10_needs_80 : decode cX10_needs 80 = .ok (.aload_n 0, 1) := by decide +kernel
theorem dX10_needs_81 : decode cX10_needs 81 = .ok (.getfield 7, 3) := by decide +kernel
theorem dX10_needs_84 : decode cX10_needs 84 = .ok (.iload_n 2, 1) := by decide +kernel
theorem dX10_needs_85 : decode cX10_needs 85 = .ok (.iload 6, 2) := by decide +kernel
theorem dX10_needs_87 : decode cX10_needs 87 = .ok (.iastore, 1) := by decide +kernel
theorem dX10_needs_88 : decode cX10_needs 88 = .ok (.aload_n 0, 1) := by decide +kernel
theorem dX10_needs_89 : decode cX10_needs 89 = .ok (.iload_n 1, 1) := by decide +kernel
theorem dX10_needs_90 : decode cX10_needs 90 = .ok (.iload_n 2, 1) := by decide +kernel
theorem dX10_needs_91 : decode cX10_needs 91 = .ok (.invokevirtual 290, 3) := by decide +kernel
theorem dX10_needs_94 : decode cX10_needs 94 = .ok (.iload_n 3, 1) := by decide +kernel
theorem dX10_needs_95 : decode cX10_needs 95 = .ok (.if_icmp .lt 8, 3) := by decide +kernel
theorem dX10_needs_103 : decode cX10_needs 103 = .ok (.bipush (-9), 2) := by decide +kernel
theorem dX10_needs_105 : decode cX10_needs 105 = .ok (.istore 5, 2) := by decide +kernel
theorem dX10_needs_107 : decode cX10_needs 107 = .ok (.iinc 6 1, 3) := by decide +kernel
theorem dX10_needs_110 : decode cX10_needs 110 = .ok (.goto (-44), 3) := by decide +kernel
theorem dX10_needs_98 : decode cX10_needs 98 = .ok (.iload 6, 2) := by decide +kernel
theorem dX10_needs_100 : decode cX10_needs 100 = .ok (.goto 5, 3) := by decide +kernel
theorem dX10_needs_113 : decode cX10_needs 113 = .ok (.aload_n 0, 1) := by decide +kernel
theorem dX10_needs_114 : decode cX10_needs 114 = .ok (.getfield 7, 3) := by decide +kernel
theorem dX10_needs_117 : decode cX10_needs 117 = .ok (.iload_n 2, 1) := by decide +kernel
theorem dX10_needs_118 : decode cX10_needs 118 = .ok (.iload 4, 2) := by decide +kernel
theorem dX10_needs_120 : decode cX10_needs 120 = .ok (.iastore, 1) := by decide +kernel
theorem dX10_needs_121 : decode cX10_needs 121 = .ok (.iload 5, 2) := by decide +kernel
theorem dX10_needs_123 : decode cX10_needs 123 = .ok (.ireturn, 1) := by decide +kernel
theorem dX10_needs_44 : decode cX10_needs 44 = .ok (.aload_n 0, 1) := by decide +kernel
theorem dX10_needs_45 : decode cX10_needs 45 = .ok (.bipush (-6), 2) := by decide +kernel
theorem dX10_needs_47 : decode cX10_needs 47 = .ok (.invokevirtual 76, 3) := by decide +kernel
theorem dX10_needs_50 : decode cX10_needs 50 = .ok (.ireturn, 1) := by decide +kernel
theorem dX10_needs_32 : decode cX10_needs 32 = .ok (.aload_n 0, 1) := by decide +kernel
theorem dX10_needs_33 : decode cX10_needs 33 = .ok (.bipush (-4), 2) := by decide +kernel
theorem dX10_needs_35 : decode cX10_needs 35 = .ok (.invokevirtual 76, 3) := by decide +kernel
theorem dX10_needs_38 : decode cX10_needs 38 = .ok (.ireturn, 1) := by decide +kernel
theorem dX10_needs_22 : decode cX10_needs 22 = .ok (.aload_n 0, 1) := by decide +kernel
theorem dX10_needs_23 : decode cX10_needs 23 = .ok (.iconst (-1), 1) := by decide +kernel
theorem dX10_needs_24 : decode cX10_needs 24 = .ok (.invokevirtual 76, 3) := by decide +kernel
theorem dX10_needs_27 : decode cX10_needs 27 = .ok (.ireturn, 1) := by decide +kernel
theorem dX10_needs_7 : decode cX10_needs 7 = .ok (.aload_n 0, 1) := by decide +kernel
theorem dX10_needs_8 : decode cX10_needs 8 = .ok (.bipush (-2), 2) := by decide +kernel
theorem dX10_needs_10 : decode cX10_needs 10 = .ok (.invokevirtual 76, 3) := by decide +kernel
theorem dX10_needs_13 : decode cX10_needs 13 = .ok (.ireturn, 1) := by decide +kernel
set_option maxHeartbeats 4000000 in
set_option maxRecDepth 100000 in
theorem c_X10_binds (l : Launch) (g : GG) (a0 : Nat → Nat) (v0_papers : Int32) (v0_raw : (Nat → Int32)) (v0_kind : (Nat → Int32)) (v0_figure : (Nat → Int32)) (v0_heavy : (Nat → Int32)) (v0_place : (Nat → Int32)) (v0_rules : Int32) (v0_lower : (Nat → Int32)) (v0_upper : (Nat → Int32)) (v0_limits : Int32) (v0_limit : (Nat → Int32)) (v0_ties : Int32) (v0_letter : (Nat → Int32)) (v0_letters : Int32) (v0_told : (Nat → Int32)) (v0_tolds : Int32) (v0_places : (Nat → Int32)) (v0_cell : (Nat → Int64)) (v0_refusals : (Nat → Int32)) (v0_imaged : (Nat → Int32)) (v0_hasImage : Int32) (v0_before : (Nat → Int32)) (v0_up : Int64) (v0_down : Int64) (v0_beneath : (Nat → Int32)) (v0_numberUp : Int32) (v0_numberDown : Int32) (v0_block : (Nat → Int32)) (v0_blocks : Int32) (v0_merged : Int32) (v0_valueUp : (Nat → Int32)) (v0_valueDown : (Nat → Int32)) (v0_said : (Nat → Int32)) (v0_saids : Int32) (v0_at : Int32) (v0_number : (Nat → Int32)) (p1 : Int32) (hne : (m_X10_binds (v0_papers, v0_raw, v0_kind, v0_figure, v0_heavy, v0_place, v0_rules, v0_lower, v0_upper, v0_limits, v0_limit, v0_ties, v0_letter, v0_letters, v0_told, v0_tolds, v0_places, v0_cell, v0_refusals, v0_imaged, v0_hasImage, v0_before, v0_up, v0_down, v0_beneath, v0_numberUp, v0_numberDown, v0_block, v0_blocks, v0_merged, v0_valueUp, v0_valueDown, v0_said, v0_saids, v0_at, v0_number) p1) ≠ none) : Ct l g yX10_binds cX10_binds 4 (some .int) ({ frames := 7, cells := 0, slots := 0, locals := 161 } : Room) [.ref (a0 0), .int p1] (wX10 a0 g v0_papers v0_raw v0_kind v0_figure v0_heavy v0_place v0_rules v0_lower v0_upper v0_limits v0_limit v0_ties v0_letter v0_letters v0_told v0_tolds v0_places v0_cell v0_refusals v0_imaged v0_hasImage v0_before v0_up v0_down v0_beneath v0_numberUp v0_numberDown v0_block v0_blocks v0_merged v0_valueUp v0_valueDown v0_said v0_saids v0_at v0_number) (Qi g .int (m_X10_binds (v0_papers, v0_raw, v0_kind, v0_figure, v0_heavy, v0_place, v0_rules, v0_lower, v0_upper, v0_limits, v0_limit, v0_ties, v0_letter, v0_letters, v0_told, v0_tolds, v0_places, v0_cell, v0_refusals, v0_imaged, v0_hasImage, v0_before, v0_up, v0_down, v0_beneath, v0_numberUp, v0_numberDown, v0_block, v0_blocks, v0_merged, v0_valueUp, v0_valueDown, v0_said, v0_saids, v0_at, v0_number) p1) (fun u => u.1) (fun u => wX10 a0 g v0_papers v0_raw v0_kind v0_figure v0_heavy v0_place v0_rules v0_lower v0_upper v0_limits v0_limit v0_ties v0_letter v0_letters v0_told v0_tolds v0_places v0_cell u.2.1 v0_imaged v0_hasImage v0_before u.2.2.1 u.2.2.2.1 u.2.2.2.2.1 v0_numberUp v0_numberDown v0_block v0_blocks v0_merged u.2.2.2.2.2.1 u.2.2.2.2.2.2 v0_said v0_saids v0_at v0_number)) 0 0 := by
  obtain ⟨out, hf⟩ := ne_ex hne
  have hf0 := hf
  refine Ct.of (own := RX10) (by decide +kernel) rfl (Nat.le_of_ble_eq_true rfl) ?_
  intro p e s m below meth c hx hb hr hml hown hts hlocks hin hK A H locs hA hP hD hS hE ls hl
  have hl : lv_has ls 4 [(0, .ref (a0 0)), (1, .int p1)] := hl
  unfold m_X10_binds at hf
  refine lv_iload_n hx hb dX10_binds_0 rfl (lv_at hl 1 rfl) ?_
  refine cIp hP hD hS hA hE (fun hPc hDc hSc => rS (As := [.int p1]) (rest := []) hx hb hml hown hts hK (c_X10_isLoss l g p1 (bnd_ne hf)) svS_X10_isLoss kw1548 hPc hDc hSc rfl rfl hl.1 (Nat.le_of_ble_eq_true rfl) dX10_binds_1 ⟨Nat.le_of_ble_eq_true rfl, Nat.le_of_ble_eq_true rfl, rfl, rfl, Nat.le_of_ble_eq_true rfl, Nat.le_of_ble_eq_true rfl⟩) [] rfl rfl rfl (fun x1 H locs ex1 nx1 hP hS => ?_)
  have hf := bnd_of hf ex1
  refine lv_if_ne (tgt := 14) hx hb dX10_binds_4 (by decide) (fun cb => ?_) (fun cb => ?_)
  · have hf := it_f cb hf
    refine lv_aload_n hx hb dX10_binds_14 rfl (lv_at hl 0 rfl) ?_
    refine lv_iload_n hx hb dX10_binds_15 rfl (lv_at hl 1 rfl) ?_
    refine lv_aload_n hx hb dX10_binds_16 rfl (lv_at hl 0 rfl) ?_
    refine cIp hP hD hS hA hE (fun hPc hDc hSc => rV (As := []) (rest := [.int p1, .ref (a0 0)]) hx hb hml hown hts hK (c_X10_allRules l g a0 v0_papers v0_raw v0_kind v0_figure v0_heavy v0_place v0_rules v0_lower v0_upper v0_limits v0_limit v0_ties v0_letter v0_letters v0_told v0_tolds v0_places v0_cell v0_refusals v0_imaged v0_hasImage v0_before v0_up v0_down v0_beneath v0_numberUp v0_numberDown v0_block v0_blocks v0_merged v0_valueUp v0_valueDown v0_said v0_saids v0_at v0_number (bnd_ne hf)) svV_X10_allRules kw1389 rfl rfl hPc hDc hSc rfl rfl hl.1 (Nat.le_of_ble_eq_true rfl) dX10_binds_17 ⟨Nat.le_of_ble_eq_true rfl, Nat.le_of_ble_eq_true rfl, rfl, rfl, Nat.le_of_ble_eq_true rfl, Nat.le_of_ble_eq_true rfl⟩) [(0, 22)] rfl rfl rfl (fun x2 H locs ex2 nx2 hP hS => ?_)
    have hf := bnd_of hf ex2
    refine cV hP hD hS hA hE (fun hPc hDc hSc => rV (As := [.int p1, .int x2]) (rest := []) hx hb hml hown hts hK (c_X10_values l g a0 v0_papers v0_raw v0_kind v0_figure v0_heavy v0_place v0_rules v0_lower v0_upper v0_limits v0_limit v0_ties v0_letter v0_letters v0_told v0_tolds v0_places v0_cell v0_refusals v0_imaged v0_hasImage v0_before v0_up v0_down v0_beneath v0_numberUp v0_numberDown v0_block v0_blocks v0_merged v0_valueUp v0_valueDown v0_said v0_saids v0_at v0_number p1 x2 (bnd_ne hf)) svV_X10_values kw1551 rfl rfl hPc hDc hSc rfl rfl hl.1 (Nat.le_of_ble_eq_true rfl) dX10_binds_20 ⟨Nat.le_of_ble_eq_true rfl, Nat.le_of_ble_eq_true rfl, rfl, rfl, Nat.le_of_ble_eq_true rfl, Nat.le_of_ble_eq_true rfl⟩) [(0, 22)] rfl rfl rfl (fun _ => rfl) (fun x3 H locs ex3 hP hD hS => ?_)
    have hf := bnd_of hf ex3
    have hP : va_P g.1 vwCl (wX10 a0 g v0_papers v0_raw v0_kind v0_figure v0_heavy v0_place v0_rules v0_lower v0_upper v0_limits v0_limit v0_ties v0_letter v0_letters v0_told v0_tolds v0_places v0_cell v0_refusals v0_imaged v0_hasImage v0_before x3.1 x3.2.1 x3.2.2.1 v0_numberUp v0_numberDown v0_block v0_blocks v0_merged x3.2.2.2.1 x3.2.2.2.2 v0_said v0_saids v0_at v0_number) H := hP
    have hD : va_D A (wX10 a0 g v0_papers v0_raw v0_kind v0_figure v0_heavy v0_place v0_rules v0_lower v0_upper v0_limits v0_limit v0_ties v0_letter v0_letters v0_told v0_tolds v0_places v0_cell v0_refusals v0_imaged v0_hasImage v0_before x3.1 x3.2.1 x3.2.2.1 v0_numberUp v0_numberDown v0_block v0_blocks v0_merged x3.2.2.2.1 x3.2.2.2.2 v0_said v0_saids v0_at v0_number) := hD
    refine lv_iconst (v := 0) hx hb dX10_binds_23 (by decide) ?_
    refine lv_istore_n (lv' := [(2, .int (0 : Int32)), (0, .ref (a0 0)), (1, .int p1)]) hx hb dX10_binds_24 rfl hl (by decide) rfl (fun ls hl => ?_)
    refine lv_iconst (v := 0) hx hb dX10_binds_25 (by decide) ?_
    refine lv_istore_n (lv' := [(3, .int (0 : Int32)), (2, .int (0 : Int32)), (0, .ref (a0 0)), (1, .int p1)]) hx hb dX10_binds_26 rfl hl (by decide) rfl (fun ls hl => ?_)
    obtain ⟨r9, er9, hf⟩ := bnd hf
    refine lp_W (P := fun z => ∀ (H : Heap) (locs : List Loc) (ls : Array Slot), va_P g.1 vwCl (wX10 a0 g v0_papers v0_raw v0_kind v0_figure v0_heavy v0_place v0_rules v0_lower v0_upper v0_limits v0_limit v0_ties v0_letter v0_letters v0_told v0_tolds v0_places v0_cell v0_refusals v0_imaged v0_hasImage v0_before x3.1 x3.2.1 x3.2.2.1 v0_numberUp v0_numberDown v0_block v0_blocks v0_merged x3.2.2.2.1 x3.2.2.2.2 v0_said v0_saids v0_at v0_number) H → va_D A (wX10 a0 g v0_papers v0_raw v0_kind v0_figure v0_heavy v0_place v0_rules v0_lower v0_upper v0_limits v0_limit v0_ties v0_letter v0_letters v0_told v0_tolds v0_places v0_cell v0_refusals v0_imaged v0_hasImage v0_before x3.1 x3.2.1 x3.2.2.1 v0_numberUp v0_numberDown v0_block v0_blocks v0_merged x3.2.2.2.1 x3.2.2.2.2 v0_said v0_saids v0_at v0_number) → va_S A s.heap H locs → lv_has ls 4 [(0, .ref (a0 0)), (2, .int z.1), (3, .int z.2)] → W p l e { frames := 7, cells := 0, slots := 0, locals := 161 } s m [.ref (a0 0), .int p1].toArray below meth c H locs 0 0 (MQ below (Qi g .int (m_X10_binds (v0_papers, v0_raw, v0_kind, v0_figure, v0_heavy, v0_place, v0_rules, v0_lower, v0_upper, v0_limits, v0_limit, v0_ties, v0_letter, v0_letters, v0_told, v0_tolds, v0_places, v0_cell, v0_refusals, v0_imaged, v0_hasImage, v0_before, v0_up, v0_down, v0_beneath, v0_numberUp, v0_numberDown, v0_block, v0_blocks, v0_merged, v0_valueUp, v0_valueDown, v0_said, v0_saids, v0_at, v0_number) p1) (fun u => u.1) (fun u => wX10 a0 g v0_papers v0_raw v0_kind v0_figure v0_heavy v0_place v0_rules v0_lower v0_upper v0_limits v0_limit v0_ties v0_letter v0_letters v0_told v0_tolds v0_places v0_cell u.2.1 v0_imaged v0_hasImage v0_before u.2.2.1 u.2.2.2.1 u.2.2.2.2.1 v0_numberUp v0_numberDown v0_block v0_blocks v0_merged u.2.2.2.2.2.1 u.2.2.2.2.2.2 v0_said v0_saids v0_at v0_number) A) [.ref (a0 0), .int p1].toArray s 0 0 A) (F0 m 27 ls [])) (E := fun r9 => ∀ (H : Heap) (locs : List Loc) (ls : Array Slot), va_P g.1 vwCl (wX10 a0 g v0_papers v0_raw v0_kind v0_figure v0_heavy v0_place v0_rules v0_lower v0_upper v0_limits v0_limit v0_ties v0_letter v0_letters v0_told v0_tolds v0_places v0_cell v0_refusals v0_imaged v0_hasImage v0_before x3.1 x3.2.1 x3.2.2.1 v0_numberUp v0_numberDown v0_block v0_blocks v0_merged x3.2.2.2.1 x3.2.2.2.2 v0_said v0_saids v0_at v0_number) H → va_D A (wX10 a0 g v0_papers v0_raw v0_kind v0_figure v0_heavy v0_place v0_rules v0_lower v0_upper v0_limits v0_limit v0_ties v0_letter v0_letters v0_told v0_tolds v0_places v0_cell v0_refusals v0_imaged v0_hasImage v0_before x3.1 x3.2.1 x3.2.2.1 v0_numberUp v0_numberDown v0_block v0_blocks v0_merged x3.2.2.2.1 x3.2.2.2.2 v0_said v0_saids v0_at v0_number) → va_S A s.heap H locs → lv_has ls 4 [(2, .int r9)] → W p l e { frames := 7, cells := 0, slots := 0, locals := 161 } s m [.ref (a0 0), .int p1].toArray below meth c H locs 0 0 (MQ below (Qi g .int (m_X10_binds (v0_papers, v0_raw, v0_kind, v0_figure, v0_heavy, v0_place, v0_rules, v0_lower, v0_upper, v0_limits, v0_limit, v0_ties, v0_letter, v0_letters, v0_told, v0_tolds, v0_places, v0_cell, v0_refusals, v0_imaged, v0_hasImage, v0_before, v0_up, v0_down, v0_beneath, v0_numberUp, v0_numberDown, v0_block, v0_blocks, v0_merged, v0_valueUp, v0_valueDown, v0_said, v0_saids, v0_at, v0_number) p1) (fun u => u.1) (fun u => wX10 a0 g v0_papers v0_raw v0_kind v0_figure v0_heavy v0_place v0_rules v0_lower v0_upper v0_limits v0_limit v0_ties v0_letter v0_letters v0_told v0_tolds v0_places v0_cell u.2.1 v0_imaged v0_hasImage v0_before u.2.2.1 u.2.2.2.1 u.2.2.2.2.1 v0_numberUp v0_numberDown v0_block v0_blocks v0_merged u.2.2.2.2.2.1 u.2.2.2.2.2.2 v0_said v0_saids v0_at v0_number) A) [.ref (a0 0), .int p1].toArray s 0 0 A) (F0 m 70 ls [])) ?_ fu _ r9 er9 ?_ _ _ _ hP hD hS (lv_sub hl [2, 1, 0] rfl)
    · rintro ⟨x6, x7⟩ y hf hB hXt H locs ls hP hD hS hl
      have hP : va_P g.1 vwCl (wX10 a0 g v0_papers v0_raw v0_kind v0_figure v0_heavy v0_place v0_rules v0_lower v0_upper v0_limits v0_limit v0_ties v0_letter v0_letters v0_told v0_tolds v0_places v0_cell v0_refusals v0_imaged v0_hasImage v0_before x3.1 x3.2.1 x3.2.2.1 v0_numberUp v0_numberDown v0_block v0_blocks v0_merged x3.2.2.2.1 x3.2.2.2.2 v0_said v0_saids v0_at v0_number) H := hP
      have hD : va_D A (wX10 a0 g v0_papers v0_raw v0_kind v0_figure v0_heavy v0_place v0_rules v0_lower v0_upper v0_limits v0_limit v0_ties v0_letter v0_letters v0_told v0_tolds v0_places v0_cell v0_refusals v0_imaged v0_hasImage v0_before x3.1 x3.2.1 x3.2.2.1 v0_numberUp v0_numberDown v0_block v0_blocks v0_merged x3.2.2.2.1 x3.2.2.2.2 v0_said v0_saids v0_at v0_number) := hD
      have hl : lv_has ls 4 [(0, .ref (a0 0)), (2, .int x6), (3, .int x7)] := hl
      have hf : m_X10_binds_l27 (v0_papers, v0_raw, v0_kind, v0_figure, v0_heavy, v0_place, v0_rules, v0_lower, v0_upper, v0_limits, v0_limit, v0_ties, v0_letter, v0_letters, v0_told, v0_tolds, v0_places, v0_cell, v0_refusals, v0_imaged, v0_hasImage, v0_before, v0_up, v0_down, v0_beneath, v0_numberUp, v0_numberDown, v0_block, v0_blocks, v0_merged, v0_valueUp, v0_valueDown, v0_said, v0_saids, v0_at, v0_number) x3 x6 x7 = some y := hf
      unfold m_X10_binds_l27 at hf
      refine lv_iload_n hx hb dX10_binds_27 rfl (lv_at hl 2 rfl) ?_
      refine lv_aload_n hx hb dX10_binds_28 rfl (lv_at hl 0 rfl) ?_
      refine va_get (D := g.1) (ci := 11) (v := .int v0_rules) (C := RX10) (T := TX10) (N := 36) hx hb hts layX10 hown hK.1 hP 0 rfl rfl 6 (by decide) (hts _ kw1283) (fun _ h9 => h9) rfl dX10_binds_29 ?_
      refine lv_icmp_ge (tgt := 70) hx hb dX10_binds_32 (by decide) (fun cb => ?_) (fun cb => ?_)
      · have hf := it_t cb hf
        exact hXt _ (Option.some.inj hf).symm _ _ _ hP hD hS (lv_sub hl [1] rfl)
      have hf := it_f cb hf
      refine lv_iload_n hx hb dX10_binds_35 rfl (lv_at hl 1 rfl) ?_
      refine lv_aload_n hx hb dX10_binds_36 rfl (lv_at hl 0 rfl) ?_
      refine lv_aload_n hx hb dX10_binds_37 rfl (lv_at hl 0 rfl) ?_
      refine va_get (D := g.1) (ci := 11) (v := .ref (a0 6)) (C := RX10) (T := TX10) (N := 36) hx hb hts layX10 hown hK.1 hP 0 rfl rfl 7 (by decide) (hts _ kw1284) (fun _ h9 => h9) rfl dX10_binds_38 ?_
      refine lv_iload_n hx hb dX10_binds_41 rfl (lv_at hl 2 rfl) ?_
      have hi := it_n hf
      have hf := it_t hi hf
      refine va_iald hx hb hK.1 hP 6 0 rfl rfl (inb_in hi) dX10_binds_42 ?_
      refine lv_aload_n hx hb dX10_binds_43 rfl (lv_at hl 0 rfl) ?_
      refine va_get (D := g.1) (ci := 11) (v := .ref (a0 7)) (C := RX10) (T := TX10) (N := 36) hx hb hts layX10 hown hK.1 hP 0 rfl rfl 8 (by decide) (hts _ kw1285) (fun _ h9 => h9) rfl dX10_binds_44 ?_
      refine lv_iload_n hx hb dX10_binds_47 rfl (lv_at hl 2 rfl) ?_
      have hi := it_n hf
      have hf := it_t hi hf
      refine va_iald hx hb hK.1 hP 7 0 rfl rfl (inb_in hi) dX10_binds_48 ?_
      refine cIp hP hD hS hA hE (fun hPc hDc hSc => rV (As := [.int (v0_lower x7.toNatClampNeg), .int (v0_upper x7.toNatClampNeg)]) (rest := [.int x6]) hx hb hml hown hts hK (c_X10_isSame l g a0 v0_papers v0_raw v0_kind v0_figure v0_heavy v0_place v0_rules v0_lower v0_upper v0_limits v0_limit v0_ties v0_letter v0_letters v0_told v0_tolds v0_places v0_cell v0_refusals v0_imaged v0_hasImage v0_before x3.1 x3.2.1 x3.2.2.1 v0_numberUp v0_numberDown v0_block v0_blocks v0_merged x3.2.2.2.1 x3.2.2.2.2 v0_said v0_saids v0_at v0_number (v0_lower x7.toNatClampNeg) (v0_upper x7.toNatClampNeg) (bnd_ne hf)) svV_X10_isSame kw1603 rfl rfl hPc hDc hSc rfl rfl hl.1 (Nat.le_of_ble_eq_true rfl) dX10_binds_49 ⟨Nat.le_of_ble_eq_true rfl, Nat.le_of_ble_eq_true rfl, rfl, rfl, Nat.le_of_ble_eq_true rfl, Nat.le_of_ble_eq_true rfl⟩) [(0, 22)] rfl rfl rfl (fun x8 H locs ex8 nx8 hP hS => ?_)
      have hf := bnd_of hf ex8
      refine lv_if_eq (tgt := 61) hx hb dX10_binds_52 (by decide) (fun cb => ?_) (fun cb => ?_)
      · have hf := it_t cb hf
        refine lv_iconst (v := 0) hx hb dX10_binds_61 (by decide) ?_
        refine lv_ior hx hb dX10_binds_62 ?_
        refine lv_istore_n (lv' := [(2, .int (x6 ||| (0 : Int32))), (0, .ref (a0 0)), (3, .int x7)]) hx hb dX10_binds_63 rfl hl (by decide) rfl (fun ls hl => ?_)
        refine lv_iinc (v := (x7 + 1)) (lv' := [(3, .int (x7 + 1)), (2, .int (x6 ||| (0 : Int32))), (0, .ref (a0 0))]) hx hb dX10_binds_64 hl (k := 2) rfl (by rfl) (by decide) rfl (fun ls hl => ?_)
        refine lv_goto (tgt := 27) hx hb dX10_binds_67 (by decide) ?_
        exact hB _ (Option.some.inj hf).symm _ _ _ hP hD hS (lv_sub hl [2, 1, 0] rfl)
      have hf := it_f cb hf
      refine lv_iconst (v := 1) hx hb dX10_binds_55 (by decide) ?_
      refine lv_iload_n hx hb dX10_binds_56 rfl (lv_at hl 2 rfl) ?_
      refine lv_ishl hx hb dX10_binds_57 ?_
      refine lv_goto (tgt := 62) hx hb dX10_binds_58 (by decide) ?_
      refine lv_ior hx hb dX10_binds_62 ?_
      refine lv_istore_n (lv' := [(2, .int (x6 ||| ((1 : Int32) <<< (x7 &&& 31)))), (0, .ref (a0 0)), (3, .int x7)]) hx hb dX10_binds_63 rfl hl (by decide) rfl (fun ls hl => ?_)
      refine lv_iinc (v := (x7 + 1)) (lv' := [(3, .int (x7 + 1)), (2, .int (x6 ||| ((1 : Int32) <<< (x7 &&& 31)))), (0, .ref (a0 0))]) hx hb dX10_binds_64 hl (k := 2) rfl (by rfl) (by decide) rfl (fun ls hl => ?_)
      refine lv_goto (tgt := 27) hx hb dX10_binds_67 (by decide) ?_
      exact hB _ (Option.some.inj hf).symm _ _ _ hP hD hS (lv_sub hl [2, 1, 0] rfl)
    intro H locs ls hP hD hS hl
    have hP : va_P g.1 vwCl (wX10 a0 g v0_papers v0_raw v0_kind v0_figure v0_heavy v0_place v0_rules v0_lower v0_upper v0_limits v0_limit v0_ties v0_letter v0_letters v0_told v0_tolds v0_places v0_cell v0_refusals v0_imaged v0_hasImage v0_before x3.1 x3.2.1 x3.2.2.1 v0_numberUp v0_numberDown v0_block v0_blocks v0_merged x3.2.2.2.1 x3.2.2.2.2 v0_said v0_saids v0_at v0_number) H := hP
    have hD : va_D A (wX10 a0 g v0_papers v0_raw v0_kind v0_figure v0_heavy v0_place v0_rules v0_lower v0_upper v0_limits v0_limit v0_ties v0_letter v0_letters v0_told v0_tolds v0_places v0_cell v0_refusals v0_imaged v0_hasImage v0_before x3.1 x3.2.1 x3.2.2.1 v0_numberUp v0_numberDown v0_block v0_blocks v0_merged x3.2.2.2.1 x3.2.2.2.2 v0_said v0_saids v0_at v0_number) := hD
    have hl : lv_has ls 4 [(2, .int r9)] := hl
    refine lv_iload_n hx hb dX10_binds_70 rfl (lv_at hl 0 rfl) ?_
    exact retI (v := r9) (u := (r9, v0_refusals, x3.1, x3.2.1, x3.2.2.1, x3.2.2.2.1, x3.2.2.2.2)) (val := fun u => u.1) (W1 := fun u => wX10 a0 g v0_papers v0_raw v0_kind v0_figure v0_heavy v0_place v0_rules v0_lower v0_upper v0_limits v0_limit v0_ties v0_letter v0_letters v0_told v0_tolds v0_places v0_cell u.2.1 v0_imaged v0_hasImage v0_before u.2.2.1 u.2.2.2.1 u.2.2.2.2.1 v0_numberUp v0_numberDown v0_block v0_blocks v0_merged u.2.2.2.2.2.1 u.2.2.2.2.2.2 v0_said v0_saids v0_at v0_number) hx hb hr hlocks hS hP hD (hf0.trans hf.symm) rfl rfl dX10_binds_71
  have hf := it_t cb hf
  refine lv_aload_n hx hb dX10_binds_7 rfl (lv_at hl 0 rfl) ?_
  refine lv_bipush (v := (-2)) hx hb dX10_binds_8 (by decide) ?_
  refine cI hP hD hS hA hE (fun hPc hDc hSc => rV (As := [.int (-2 : Int32)]) (rest := []) hx hb hml hown hts hK (c_X10_no l g a0 v0_papers v0_raw v0_kind v0_figure v0_heavy v0_place v0_rules v0_lower v0_upper v0_limits v0_limit v0_ties v0_letter v0_letters v0_told v0_tolds v0_places v0_cell v0_refusals v0_imaged v0_hasImage v0_before v0_up v0_down v0_beneath v0_numberUp v0_numberDown v0_block v0_blocks v0_merged v0_valueUp v0_valueDown v0_said v0_saids v0_at v0_number (-2 : Int32) (bnd_ne hf)) svV_X10_no kw1354 rfl rfl hPc hDc hSc rfl rfl hl.1 (Nat.le_of_ble_eq_true rfl) dX10_binds_10 ⟨Nat.le_of_ble_eq_true rfl, Nat.le_of_ble_eq_true rfl, rfl, rfl, Nat.le_of_ble_eq_true rfl, Nat.le_of_ble_eq_true rfl⟩) [(0, 22)] rfl rfl rfl (fun _ => rfl) (fun x10 H locs ex10 nx10 hP hD hS => ?_)
  have hf := bnd_of hf ex10
  have hP : va_P g.1 vwCl (wX10 a0 g v0_papers v0_raw v0_kind v0_figure v0_heavy v0_place v0_rules v0_lower v0_upper v0_limits v0_limit v0_ties v0_letter v0_letters v0_told v0_tolds v0_places v0_cell x10.2 v0_imaged v0_hasImage v0_before v0_up v0_down v0_beneath v0_numberUp v0_numberDown v0_block v0_blocks v0_merged v0_valueUp v0_valueDown v0_said v0_saids v0_at v0_number) H := hP
  have hD : va_D A (wX10 a0 g v0_papers v0_raw v0_kind v0_figure v0_heavy v0_place v0_rules v0_lower v0_upper v0_limits v0_limit v0_ties v0_letter v0_letters v0_told v0_tolds v0_places v0_cell x10.2 v0_imaged v0_hasImage v0_before v0_up v0_down v0_beneath v0_numberUp v0_numberDown v0_block v0_blocks v0_merged v0_valueUp v0_valueDown v0_said v0_saids v0_at v0_number) := hD
  exact retI (v := x10.1) (u := (x10.1, x10.2, v0_up, v0_down, v0_beneath, v0_valueUp, v0_valueDown)) (val := fun u => u.1) (W1 := fun u => wX10 a0 g v0_papers v0_raw v0_kind v0_figure v0_heavy v0_place v0_rules v0_lower v0_upper v0_limits v0_limit v0_ties v0_letter v0_letters v0_told v0_tolds v0_places v0_cell u.2.1 v0_imaged v0_hasImage v0_before u.2.2.1 u.2.2.2.1 u.2.2.2.2.1 v0_numberUp v0_numberDown v0_block v0_blocks v0_merged u.2.2.2.2.2.1 u.2.2.2.2.2.2 v0_said v0_saids v0_at v0_number) hx hb hr hlocks hS hP hD (hf0.trans hf.symm) rfl rfl dX10_binds_13
set_option maxHeartbeats 4000000 in
set_option maxRecDepth 100000 in
theorem c_X10_worth (l : Launch) (g : GG) (a0 : Nat → Nat) (v0_papers : Int32) (v0_raw : (Nat → Int32)) (v0_kind : (Nat → Int32)) (v0_figure : (Nat → Int32)) (v0_heavy : (Nat → Int32)) (v0_place : (Nat → Int32)) (v0_rules : Int32) (v0_lower : (Nat → Int32)) (v0_upper : (Nat → Int32)) (v0_limits : Int32) (v0_limit : (Nat → Int32)) (v0_ties : Int32) (v0_letter : (Nat → Int32)) (v0_letters : Int32) (v0_told : (Nat → Int32)) (v0_tolds : Int32) (v0_places : (Nat → Int32)) (v0_cell : (Nat → Int64)) (v0_refusals : (Nat → Int32)) (v0_imaged : (Nat → Int32)) (v0_hasImage : Int32) (v0_before : (Nat → Int32)) (v0_up : Int64) (v0_down : Int64) (v0_beneath : (Nat → Int32)) (v0_numberUp : Int32) (v0_numberDown : Int32) (v0_block : (Nat → Int32)) (v0_blocks : Int32) (v0_merged : Int32) (v0_valueUp : (Nat → Int32)) (v0_valueDown : (Nat → Int32)) (v0_said : (Nat → Int32)) (v0_saids : Int32) (v0_at : Int32) (v0_number : (Nat → Int32)) (p1 : Int32) (p2 : Int32) (p3 : Int32) (hne : (m_X10_worth (v0_papers, v0_raw, v0_kind, v0_figure, v0_heavy, v0_place, v0_rules, v0_lower, v0_upper, v0_limits, v0_limit, v0_ties, v0_letter, v0_letters, v0_told, v0_tolds, v0_places, v0_cell, v0_refusals, v0_imaged, v0_hasImage, v0_before, v0_up, v0_down, v0_beneath, v0_numberUp, v0_numberDown, v0_block, v0_blocks, v0_merged, v0_valueUp, v0_valueDown, v0_said, v0_saids, v0_at, v0_number) p1 p2 p3) ≠ none) : Ct l g yX10_worth cX10_worth 8 (some .long) ({ frames := 8, cells := 0, slots := 0, locals := 188 } : Room) [.ref (a0 0), .int p1, .int p2, .int p3] (wX10 a0 g v0_papers v0_raw v0_kind v0_figure v0_heavy v0_place v0_rules v0_lower v0_upper v0_limits v0_limit v0_ties v0_letter v0_letters v0_told v0_tolds v0_places v0_cell v0_refusals v0_imaged v0_hasImage v0_before v0_up v0_down v0_beneath v0_numberUp v0_numberDown v0_block v0_blocks v0_merged v0_valueUp v0_valueDown v0_said v0_saids v0_at v0_number) (Ql g (m_X10_worth (v0_papers, v0_raw, v0_kind, v0_figure, v0_heavy, v0_place, v0_rules, v0_lower, v0_upper, v0_limits, v0_limit, v0_ties, v0_letter, v0_letters, v0_told, v0_tolds, v0_places, v0_cell, v0_refusals, v0_imaged, v0_hasImage, v0_before, v0_up, v0_down, v0_beneath, v0_numberUp, v0_numberDown, v0_block, v0_blocks, v0_merged, v0_valueUp, v0_valueDown, v0_said, v0_saids, v0_at, v0_number) p1 p2 p3) (fun u => u.1) (fun u => wX10 a0 g v0_papers v0_raw v0_kind v0_figure v0_heavy v0_place v0_rules v0_lower v0_upper v0_limits v0_limit v0_ties v0_letter v0_letters v0_told v0_tolds v0_places v0_cell u.2.1 v0_imaged v0_hasImage v0_before u.2.2.1 u.2.2.2.1 u.2.2.2.2.1 v0_numberUp v0_numberDown v0_block v0_blocks v0_merged u.2.2.2.2.2.1 u.2.2.2.2.2.2 v0_said v0_saids v0_at v0_number)) 0 0 := by
  obtain ⟨out, hf⟩ := ne_ex hne
  have hf0 := hf
  refine Ct.of (own := RX10) (by decide +kernel) rfl (Nat.le_of_ble_eq_true rfl) ?_
  intro p e s m below meth c hx hb hr hml hown hts hlocks hin hK A H locs hA hP hD hS hE ls hl
  have hl : lv_has ls 8 [(0, .ref (a0 0)), (1, .int p1), (2, .int p2), (3, .int p3)] := hl
  unfold m_X10_worth at hf
  refine lv_iload_n hx hb dX10_worth_0 rfl (lv_at hl 1 rfl) ?_
  refine cIp hP hD hS hA hE (fun hPc hDc hSc => rS (As := [.int p1]) (rest := []) hx hb hml hown hts hK (c_X10_isLoss l g p1 (bnd_ne hf)) svS_X10_isLoss kw1548 hPc hDc hSc rfl rfl hl.1 (Nat.le_of_ble_eq_true rfl) dX10_worth_1 ⟨Nat.le_of_ble_eq_true rfl, Nat.le_of_ble_eq_true rfl, rfl, rfl, Nat.le_of_ble_eq_true rfl, Nat.le_of_ble_eq_true rfl⟩) [] rfl rfl rfl (fun x1 H locs ex1 nx1 hP hS => ?_)
  have hf := bnd_of hf ex1
  refine lv_if_ne (tgt := 14) hx hb dX10_worth_4 (by decide) (fun cb => ?_) (fun cb => ?_)
  · have hf := it_f cb hf
    refine lv_aload_n hx hb dX10_worth_14 rfl (lv_at hl 0 rfl) ?_
    refine lv_iload_n hx hb dX10_worth_15 rfl (lv_at hl 2 rfl) ?_
    refine cIp hP hD hS hA hE (fun hPc hDc hSc => rV (As := [.int p2]) (rest := []) hx hb hml hown hts hK (c_X10_isRule l g a0 v0_papers v0_raw v0_kind v0_figure v0_heavy v0_place v0_rules v0_lower v0_upper v0_limits v0_limit v0_ties v0_letter v0_letters v0_told v0_tolds v0_places v0_cell v0_refusals v0_imaged v0_hasImage v0_before v0_up v0_down v0_beneath v0_numberUp v0_numberDown v0_block v0_blocks v0_merged v0_valueUp v0_valueDown v0_said v0_saids v0_at v0_number p2 (bnd_ne hf)) svV_X10_isRule kw1402 rfl rfl hPc hDc hSc rfl rfl hl.1 (Nat.le_of_ble_eq_true rfl) dX10_worth_16 ⟨Nat.le_of_ble_eq_true rfl, Nat.le_of_ble_eq_true rfl, rfl, rfl, Nat.le_of_ble_eq_true rfl, Nat.le_of_ble_eq_true rfl⟩) [(0, 22)] rfl rfl rfl (fun x2 H locs ex2 nx2 hP hS => ?_)
    have hf := bnd_of hf ex2
    refine lv_if_ne (tgt := 28) hx hb dX10_worth_19 (by decide) (fun cb => ?_) (fun cb => ?_)
    · have hf := it_f cb hf
      refine lv_iload_n hx hb dX10_worth_28 rfl (lv_at hl 3 rfl) ?_
      refine cIp hP hD hS hA hE (fun hPc hDc hSc => rS (As := [.int p3]) (rest := []) hx hb hml hown hts hK (c_X10_isPart l g p3 (bnd_ne hf)) svS_X10_isPart kw1471 hPc hDc hSc rfl rfl hl.1 (Nat.le_of_ble_eq_true rfl) dX10_worth_29 ⟨Nat.le_of_ble_eq_true rfl, Nat.le_of_ble_eq_true rfl, rfl, rfl, Nat.le_of_ble_eq_true rfl, Nat.le_of_ble_eq_true rfl⟩) [] rfl rfl rfl (fun x3 H locs ex3 nx3 hP hS => ?_)
      have hf := bnd_of hf ex3
      refine lv_if_ne (tgt := 42) hx hb dX10_worth_32 (by decide) (fun cb => ?_) (fun cb => ?_)
      · have hf := it_f cb hf
        refine lv_aload_n hx hb dX10_worth_42 rfl (lv_at hl 0 rfl) ?_
        refine lv_iload_n hx hb dX10_worth_43 rfl (lv_at hl 1 rfl) ?_
        refine lv_aload_n hx hb dX10_worth_44 rfl (lv_at hl 0 rfl) ?_
        refine cIp hP hD hS hA hE (fun hPc hDc hSc => rV (As := []) (rest := [.int p1, .ref (a0 0)]) hx hb hml hown hts hK (c_X10_allRules l g a0 v0_papers v0_raw v0_kind v0_figure v0_heavy v0_place v0_rules v0_lower v0_upper v0_limits v0_limit v0_ties v0_letter v0_letters v0_told v0_tolds v0_places v0_cell v0_refusals v0_imaged v0_hasImage v0_before v0_up v0_down v0_beneath v0_numberUp v0_numberDown v0_block v0_blocks v0_merged v0_valueUp v0_valueDown v0_said v0_saids v0_at v0_number (bnd_ne hf)) svV_X10_allRules kw1389 rfl rfl hPc hDc hSc rfl rfl hl.1 (Nat.le_of_ble_eq_true rfl) dX10_worth_45 ⟨Nat.le_of_ble_eq_true rfl, Nat.le_of_ble_eq_true rfl, rfl, rfl, Nat.le_of_ble_eq_true rfl, Nat.le_of_ble_eq_true rfl⟩) [(0, 22)] rfl rfl rfl (fun x4 H locs ex4 nx4 hP hS => ?_)
        have hf := bnd_of hf ex4
        refine lv_iconst (v := 1) hx hb dX10_worth_48 (by decide) ?_
        refine lv_iload_n hx hb dX10_worth_49 rfl (lv_at hl 2 rfl) ?_
        refine lv_ishl hx hb dX10_worth_50 ?_
        refine lv_iconst (v := (-1)) hx hb dX10_worth_51 (by decide) ?_
        refine lv_ixor hx hb dX10_worth_52 ?_
        refine lv_iand hx hb dX10_worth_53 ?_
        refine cV hP hD hS hA hE (fun hPc hDc hSc => rV (As := [.int p1, .int (x4 &&& (((1 : Int32) <<< (p2 &&& 31)) ^^^ (-1 : Int32)))]) (rest := []) hx hb hml hown hts hK (c_X10_changes l g a0 v0_papers v0_raw v0_kind v0_figure v0_heavy v0_place v0_rules v0_lower v0_upper v0_limits v0_limit v0_ties v0_letter v0_letters v0_told v0_tolds v0_places v0_cell v0_refusals v0_imaged v0_hasImage v0_before v0_up v0_down v0_beneath v0_numberUp v0_numberDown v0_block v0_blocks v0_merged v0_valueUp v0_valueDown v0_said v0_saids v0_at v0_number p1 (x4 &&& (((1 : Int32) <<< (p2 &&& 31)) ^^^ (-1 : Int32))) (bnd_ne hf)) svV_X10_changes kw1590 rfl rfl hPc hDc hSc rfl rfl hl.1 (Nat.le_of_ble_eq_true rfl) dX10_worth_54 ⟨Nat.le_of_ble_eq_true rfl, Nat.le_of_ble_eq_true rfl, rfl, rfl, Nat.le_of_ble_eq_true rfl, Nat.le_of_ble_eq_true rfl⟩) [(0, 22)] rfl rfl rfl (fun _ => rfl) (fun x5 H locs ex5 hP hD hS => ?_)
        have hf := bnd_of hf ex5
        have hP : va_P g.1 vwCl (wX10 a0 g v0_papers v0_raw v0_kind v0_figure v0_heavy v0_place v0_rules v0_lower v0_upper v0_limits v0_limit v0_ties v0_letter v0_letters v0_told v0_tolds v0_places v0_cell v0_refusals v0_imaged v0_hasImage v0_before x5.1 x5.2.1 x5.2.2.1 v0_numberUp v0_numberDown v0_block v0_blocks v0_merged x5.2.2.2.1 x5.2.2.2.2 v0_said v0_saids v0_at v0_number) H := hP
        have hD : va_D A (wX10 a0 g v0_papers v0_raw v0_kind v0_figure v0_heavy v0_place v0_rules v0_lower v0_upper v0_limits v0_limit v0_ties v0_letter v0_letters v0_told v0_tolds v0_places v0_cell v0_refusals v0_imaged v0_hasImage v0_before x5.1 x5.2.1 x5.2.2.1 v0_numberUp v0_numberDown v0_block v0_blocks v0_merged x5.2.2.2.1 x5.2.2.2.2 v0_said v0_saids v0_at v0_number) := hD
        refine lv_aload_n hx hb dX10_worth_57 rfl (lv_at hl 0 rfl) ?_
        refine va_get (D := g.1) (ci := 11) (v := .long x5.1) (C := RX10) (T := TX10) (N := 36) hx hb hts layX10 hown hK.1 hP 0 rfl rfl 22 (by decide) (hts _ kw1299) (fun _ h9 => h9) rfl dX10_worth_58 ?_
        refine lv_lstore (lv' := [(4, .long x5.1), (0, .ref (a0 0)), (1, .int p1), (2, .int p2), (3, .int p3)]) hx hb dX10_worth_61 hl (by decide) rfl (fun ls hl => ?_)
        refine lv_aload_n hx hb dX10_worth_63 rfl (lv_at hl 1 rfl) ?_
        refine va_get (D := g.1) (ci := 11) (v := .long x5.2.1) (C := RX10) (T := TX10) (N := 36) hx hb hts layX10 hown hK.1 hP 0 rfl rfl 23 (by decide) (hts _ kw1300) (fun _ h9 => h9) rfl dX10_worth_64 ?_
        refine lv_lstore (lv' := [(6, .long x5.2.1), (4, .long x5.1), (0, .ref (a0 0)), (1, .int p1), (2, .int p2), (3, .int p3)]) hx hb dX10_worth_67 hl (by decide) rfl (fun ls hl => ?_)
        refine lv_aload_n hx hb dX10_worth_69 rfl (lv_at hl 2 rfl) ?_
        refine lv_iload_n hx hb dX10_worth_70 rfl (lv_at hl 3 rfl) ?_
        refine lv_aload_n hx hb dX10_worth_71 rfl (lv_at hl 2 rfl) ?_
        refine cIp hP hD hS hA hE (fun hPc hDc hSc => rV (As := []) (rest := [.int p1, .ref (a0 0)]) hx hb hml hown hts hK (c_X10_allRules l g a0 v0_papers v0_raw v0_kind v0_figure v0_heavy v0_place v0_rules v0_lower v0_upper v0_limits v0_limit v0_ties v0_letter v0_letters v0_told v0_tolds v0_places v0_cell v0_refusals v0_imaged v0_hasImage v0_before x5.1 x5.2.1 x5.2.2.1 v0_numberUp v0_numberDown v0_block v0_blocks v0_merged x5.2.2.2.1 x5.2.2.2.2 v0_said v0_saids v0_at v0_number (bnd_ne hf)) svV_X10_allRules kw1389 rfl rfl hPc hDc hSc rfl rfl hl.1 (Nat.le_of_ble_eq_true rfl) dX10_worth_72 ⟨Nat.le_of_ble_eq_true rfl, Nat.le_of_ble_eq_true rfl, rfl, rfl, Nat.le_of_ble_eq_true rfl, Nat.le_of_ble_eq_true rfl⟩) [(0, 22)] rfl rfl rfl (fun x6 H locs ex6 nx6 hP hS => ?_)
        have hf := bnd_of hf ex6
        refine cV hP hD hS hA hE (fun hPc hDc hSc => rV (As := [.int p1, .int x6]) (rest := []) hx hb hml hown hts hK (c_X10_changes l g a0 v0_papers v0_raw v0_kind v0_figure v0_heavy v0_place v0_rules v0_lower v0_upper v0_limits v0_limit v0_ties v0_letter v0_letters v0_told v0_tolds v0_places v0_cell v0_refusals v0_imaged v0_hasImage v0_before x5.1 x5.2.1 x5.2.2.1 v0_numberUp v0_numberDown v0_block v0_blocks v0_merged x5.2.2.2.1 x5.2.2.2.2 v0_said v0_saids v0_at v0_number p1 x6 (bnd_ne hf)) svV_X10_changes kw1590 rfl rfl hPc hDc hSc rfl rfl hl.1 (Nat.le_of_ble_eq_true rfl) dX10_worth_75 ⟨Nat.le_of_ble_eq_true rfl, Nat.le_of_ble_eq_true rfl, rfl, rfl, Nat.le_of_ble_eq_true rfl, Nat.le_of_ble_eq_true rfl⟩) [(0, 22)] rfl rfl rfl (fun _ => rfl) (fun x7 H locs ex7 hP hD hS => ?_)
        have hf := bnd_of hf ex7
        have hP : va_P g.1 vwCl (wX10 a0 g v0_papers v0_raw v0_kind v0_figure v0_heavy v0_place v0_rules v0_lower v0_upper v0_limits v0_limit v0_ties v0_letter v0_letters v0_told v0_tolds v0_places v0_cell v0_refusals v0_imaged v0_hasImage v0_before x7.1 x7.2.1 x7.2.2.1 v0_numberUp v0_numberDown v0_block v0_blocks v0_merged x7.2.2.2.1 x7.2.2.2.2 v0_said v0_saids v0_at v0_number) H := hP
        have hD : va_D A (wX10 a0 g v0_papers v0_raw v0_kind v0_figure v0_heavy v0_place v0_rules v0_lower v0_upper v0_limits v0_limit v0_ties v0_letter v0_letters v0_told v0_tolds v0_places v0_cell v0_refusals v0_imaged v0_hasImage v0_before x7.1 x7.2.1 x7.2.2.1 v0_numberUp v0_numberDown v0_block v0_blocks v0_merged x7.2.2.2.1 x7.2.2.2.2 v0_said v0_saids v0_at v0_number) := hD
        refine lv_aload_n hx hb dX10_worth_78 rfl (lv_at hl 2 rfl) ?_
        refine lv_lload hx hb dX10_worth_79 (lv_at hl 1 rfl) ?_
        refine lv_lneg hx hb dX10_worth_81 ?_
        refine lv_lload hx hb dX10_worth_82 (lv_at hl 0 rfl) ?_
        refine cV hP hD hS hA hE (fun hPc hDc hSc => rV (As := [.long (-x5.1), .long x5.2.1]) (rest := []) hx hb hml hown hts hK (c_X10_add l g a0 v0_papers v0_raw v0_kind v0_figure v0_heavy v0_place v0_rules v0_lower v0_upper v0_limits v0_limit v0_ties v0_letter v0_letters v0_told v0_tolds v0_places v0_cell v0_refusals v0_imaged v0_hasImage v0_before x7.1 x7.2.1 x7.2.2.1 v0_numberUp v0_numberDown v0_block v0_blocks v0_merged x7.2.2.2.1 x7.2.2.2.2 v0_said v0_saids v0_at v0_number (-x5.1) x5.2.1 (bnd_ne hf)) svV_X10_add kw1516 rfl rfl hPc hDc hSc rfl rfl hl.1 (Nat.le_of_ble_eq_true rfl) dX10_worth_84 ⟨Nat.le_of_ble_eq_true rfl, Nat.le_of_ble_eq_true rfl, rfl, rfl, Nat.le_of_ble_eq_true rfl, Nat.le_of_ble_eq_true rfl⟩) [(0, 22)] rfl rfl rfl (fun _ => rfl) (fun x8 H locs ex8 hP hD hS => ?_)
        have hf := bnd_of hf ex8
        have hP : va_P g.1 vwCl (wX10 a0 g v0_papers v0_raw v0_kind v0_figure v0_heavy v0_place v0_rules v0_lower v0_upper v0_limits v0_limit v0_ties v0_letter v0_letters v0_told v0_tolds v0_places v0_cell v0_refusals v0_imaged v0_hasImage v0_before x8.1 x8.2 x7.2.2.1 v0_numberUp v0_numberDown v0_block v0_blocks v0_merged x7.2.2.2.1 x7.2.2.2.2 v0_said v0_saids v0_at v0_number) H := hP
        have hD : va_D A (wX10 a0 g v0_papers v0_raw v0_kind v0_figure v0_heavy v0_place v0_rules v0_lower v0_upper v0_limits v0_limit v0_ties v0_letter v0_letters v0_told v0_tolds v0_places v0_cell v0_refusals v0_imaged v0_hasImage v0_before x8.1 x8.2 x7.2.2.1 v0_numberUp v0_numberDown v0_block v0_blocks v0_merged x7.2.2.2.1 x7.2.2.2.2 v0_said v0_saids v0_at v0_number) := hD
        refine lv_aload_n hx hb dX10_worth_87 rfl (lv_at hl 2 rfl) ?_
        refine lv_iload_n hx hb dX10_worth_88 rfl (lv_at hl 5 rfl) ?_
        refine cLp hP hD hS hA hE (fun hPc hDc hSc => rV (As := [.int p3]) (rest := []) hx hb hml hown hts hK (c_X10_part l g a0 v0_papers v0_raw v0_kind v0_figure v0_heavy v0_place v0_rules v0_lower v0_upper v0_limits v0_limit v0_ties v0_letter v0_letters v0_told v0_tolds v0_places v0_cell v0_refusals v0_imaged v0_hasImage v0_before x8.1 x8.2 x7.2.2.1 v0_numberUp v0_numberDown v0_block v0_blocks v0_merged x7.2.2.2.1 x7.2.2.2.2 v0_said v0_saids v0_at v0_number p3 (bnd_ne hf)) svV_X10_part kw1519 rfl rfl hPc hDc hSc rfl rfl hl.1 (Nat.le_of_ble_eq_true rfl) dX10_worth_89 ⟨Nat.le_of_ble_eq_true rfl, Nat.le_of_ble_eq_true rfl, rfl, rfl, Nat.le_of_ble_eq_true rfl, Nat.le_of_ble_eq_true rfl⟩) [(0, 22)] rfl rfl rfl (fun x9 H locs ex9 hP hS => ?_)
        have hf := bnd_of hf ex9
        exact retL (u := (x9, v0_refusals, x8.1, x8.2, x7.2.2.1, x7.2.2.2.1, x7.2.2.2.2)) (val := fun u => u.1) (W1 := fun u => wX10 a0 g v0_papers v0_raw v0_kind v0_figure v0_heavy v0_place v0_rules v0_lower v0_upper v0_limits v0_limit v0_ties v0_letter v0_letters v0_told v0_tolds v0_places v0_cell u.2.1 v0_imaged v0_hasImage v0_before u.2.2.1 u.2.2.2.1 u.2.2.2.2.1 v0_numberUp v0_numberDown v0_block v0_blocks v0_merged u.2.2.2.2.2.1 u.2.2.2.2.2.2 v0_said v0_saids v0_at v0_number) hx hb hr hlocks hS hP hD (hf0.trans hf.symm) rfl dX10_worth_92
      have hf := it_t cb hf
      refine lv_aload_n hx hb dX10_worth_35 rfl (lv_at hl 0 rfl) ?_
      refine lv_bipush (v := (-2)) hx hb dX10_worth_36 (by decide) ?_
      refine cL hP hD hS hA hE (fun hPc hDc hSc => rV (As := [.int (-2 : Int32)]) (rest := []) hx hb hml hown hts hK (c_X10_far l g a0 v0_papers v0_raw v0_kind v0_figure v0_heavy v0_place v0_rules v0_lower v0_upper v0_limits v0_limit v0_ties v0_letter v0_letters v0_told v0_tolds v0_places v0_cell v0_refusals v0_imaged v0_hasImage v0_before v0_up v0_down v0_beneath v0_numberUp v0_numberDown v0_block v0_blocks v0_merged v0_valueUp v0_valueDown v0_said v0_saids v0_at v0_number (-2 : Int32) (bnd_ne hf)) svV_X10_far kw1467 rfl rfl hPc hDc hSc rfl rfl hl.1 (Nat.le_of_ble_eq_true rfl) dX10_worth_38 ⟨Nat.le_of_ble_eq_true rfl, Nat.le_of_ble_eq_true rfl, rfl, rfl, Nat.le_of_ble_eq_true rfl, Nat.le_of_ble_eq_true rfl⟩) [(0, 22)] rfl rfl rfl (fun _ => rfl) (fun x10 H locs ex10 hP hD hS => ?_)
      have hf := bnd_of hf ex10
      have hP : va_P g.1 vwCl (wX10 a0 g v0_papers v0_raw v0_kind v0_figure v0_heavy v0_place v0_rules v0_lower v0_upper v0_limits v0_limit v0_ties v0_letter v0_letters v0_told v0_tolds v0_places v0_cell x10.2 v0_imaged v0_hasImage v0_before v0_up v0_down v0_beneath v0_numberUp v0_numberDown v0_block v0_blocks v0_merged v0_valueUp v0_valueDown v0_said v0_saids v0_at v0_number) H := hP
      have hD : va_D A (wX10 a0 g v0_papers v0_raw v0_kind v0_figure v0_heavy v0_place v0_rules v0_lower v0_upper v0_limits v0_limit v0_ties v0_letter v0_letters v0_told v0_tolds v0_places v0_cell x10.2 v0_imaged v0_hasImage v0_before v0_up v0_down v0_beneath v0_numberUp v0_numberDown v0_block v0_blocks v0_merged v0_valueUp v0_valueDown v0_said v0_saids v0_at v0_number) := hD
      exact retL (u := (x10.1, x10.2, v0_up, v0_down, v0_beneath, v0_valueUp, v0_valueDown)) (val := fun u => u.1) (W1 := fun u => wX10 a0 g v0_papers v0_raw v0_kind v0_figure v0_heavy v0_place v0_rules v0_lower v0_upper v0_limits v0_limit v0_ties v0_letter v0_letters v0_told v0_tolds v0_places v0_cell u.2.1 v0_imaged v0_hasImage v0_before u.2.2.1 u.2.2.2.1 u.2.2.2.2.1 v0_numberUp v0_numberDown v0_block v0_blocks v0_merged u.2.2.2.2.2.1 u.2.2.2.2.2.2 v0_said v0_saids v0_at v0_number) hx hb hr hlocks hS hP hD (hf0.trans hf.symm) rfl dX10_worth_41
    have hf := it_t cb hf
    refine lv_aload_n hx hb dX10_worth_22 rfl (lv_at hl 0 rfl) ?_
    refine lv_iconst (v := (-1)) hx hb dX10_worth_23 (by decide) ?_
    refine cL hP hD hS hA hE (fun hPc hDc hSc => rV (As := [.int (-1 : Int32)]) (rest := []) hx hb hml hown hts hK (c_X10_far l g a0 v0_papers v0_raw v0_kind v0_figure v0_heavy v0_place v0_rules v0_lower v0_upper v0_limits v0_limit v0_ties v0_letter v0_letters v0_told v0_tolds v0_places v0_cell v0_refusals v0_imaged v0_hasImage v0_before v0_up v0_down v0_beneath v0_numberUp v0_numberDown v0_block v0_blocks v0_merged v0_valueUp v0_valueDown v0_said v0_saids v0_at v0_number (-1 : Int32) (bnd_ne hf)) svV_X10_far kw1467 rfl rfl hPc hDc hSc rfl rfl hl.1 (Nat.le_of_ble_eq_true rfl) dX10_worth_24 ⟨Nat.le_of_ble_eq_true rfl, Nat.le_of_ble_eq_true rfl, rfl, rfl, Nat.le_of_ble_eq_true rfl, Nat.le_of_ble_eq_true rfl⟩) [(0, 22)] rfl rfl rfl (fun _ => rfl) (fun x11 H locs ex11 hP hD hS => ?_)
    have hf := bnd_of hf ex11
    have hP : va_P g.1 vwCl (wX10 a0 g v0_papers v0_raw v0_kind v0_figure v0_heavy v0_place v0_rules v0_lower v0_upper v0_limits v0_limit v0_ties v0_letter v0_letters v0_told v0_tolds v0_places v0_cell x11.2 v0_imaged v0_hasImage v0_before v0_up v0_down v0_beneath v0_numberUp v0_numberDown v0_block v0_blocks v0_merged v0_valueUp v0_valueDown v0_said v0_saids v0_at v0_number) H := hP
    have hD : va_D A (wX10 a0 g v0_papers v0_raw v0_kind v0_figure v0_heavy v0_place v0_rules v0_lower v0_upper v0_limits v0_limit v0_ties v0_letter v0_letters v0_told v0_tolds v0_places v0_cell x11.2 v0_imaged v0_hasImage v0_before v0_up v0_down v0_beneath v0_numberUp v0_numberDown v0_block v0_blocks v0_merged v0_valueUp v0_valueDown v0_said v0_saids v0_at v0_number) := hD
    exact retL (u := (x11.1, x11.2, v0_up, v0_down, v0_beneath, v0_valueUp, v0_valueDown)) (val := fun u => u.1) (W1 := fun u => wX10 a0 g v0_papers v0_raw v0_kind v0_figure v0_heavy v0_place v0_rules v0_lower v0_upper v0_limits v0_limit v0_ties v0_letter v0_letters v0_told v0_tolds v0_places v0_cell u.2.1 v0_imaged v0_hasImage v0_before u.2.2.1 u.2.2.2.1 u.2.2.2.2.1 v0_numberUp v0_numberDown v0_block v0_blocks v0_merged u.2.2.2.2.2.1 u.2.2.2.2.2.2 v0_said v0_saids v0_at v0_number) hx hb hr hlocks hS hP hD (hf0.trans hf.symm) rfl dX10_worth_27
  have hf := it_t cb hf
  refine lv_aload_n hx hb dX10_worth_7 rfl (lv_at hl 0 rfl) ?_
  refine lv_bipush (v := (-2)) hx hb dX10_worth_8 (by decide) ?_
  refine cL hP hD hS hA hE (fun hPc hDc hSc => rV (As := [.int (-2 : Int32)]) (rest := []) hx hb hml hown hts hK (c_X10_far l g a0 v0_papers v0_raw v0_kind v0_figure v0_heavy v0_place v0_rules v0_lower v0_upper v0_limits v0_limit v0_ties v0_letter v0_letters v0_told v0_tolds v0_places v0_cell v0_refusals v0_imaged v0_hasImage v0_before v0_up v0_down v0_beneath v0_numberUp v0_numberDown v0_block v0_blocks v0_merged v0_valueUp v0_valueDown v0_said v0_saids v0_at v0_number (-2 : Int32) (bnd_ne hf)) svV_X10_far kw1467 rfl rfl hPc hDc hSc rfl rfl hl.1 (Nat.le_of_ble_eq_true rfl) dX10_worth_10 ⟨Nat.le_of_ble_eq_true rfl, Nat.le_of_ble_eq_true rfl, rfl, rfl, Nat.le_of_ble_eq_true rfl, Nat.le_of_ble_eq_true rfl⟩) [(0, 22)] rfl rfl rfl (fun _ => rfl) (fun x12 H locs ex12 hP hD hS => ?_)
  have hf := bnd_of hf ex12
  have hP : va_P g.1 vwCl (wX10 a0 g v0_papers v0_raw v0_kind v0_figure v0_heavy v0_place v0_rules v0_lower v0_upper v0_limits v0_limit v0_ties v0_letter v0_letters v0_told v0_tolds v0_places v0_cell x12.2 v0_imaged v0_hasImage v0_before v0_up v0_down v0_beneath v0_numberUp v0_numberDown v0_block v0_blocks v0_merged v0_valueUp v0_valueDown v0_said v0_saids v0_at v0_number) H := hP
  have hD : va_D A (wX10 a0 g v0_papers v0_raw v0_kind v0_figure v0_heavy v0_place v0_rules v0_lower v0_upper v0_limits v0_limit v0_ties v0_letter v0_letters v0_told v0_tolds v0_places v0_cell x12.2 v0_imaged v0_hasImage v0_before v0_up v0_down v0_beneath v0_numberUp v0_numberDown v0_block v0_blocks v0_merged v0_valueUp v0_valueDown v0_said v0_saids v0_at v0_number) := hD
  exact retL (u := (x12.1, x12.2, v0_up, v0_down, v0_beneath, v0_valueUp, v0_valueDown)) (val := fun u => u.1) (W1 := fun u => wX10 a0 g v0_papers v0_raw v0_kind v0_figure v0_heavy v0_place v0_rules v0_lower v0_upper v0_limits v0_limit v0_ties v0_letter v0_letters v0_told v0_tolds v0_places v0_cell u.2.1 v0_imaged v0_hasImage v0_before u.2.2.1 u.2.2.2.1 u.2.2.2.2.1 v0_numberUp v0_numberDown v0_block v0_blocks v0_merged u.2.2.2.2.2.1 u.2.2.2.2.2.2 v0_said v0_saids v0_at v0_number) hx hb hr hlocks hS hP hD (hf0.trans hf.symm) rfl dX10_worth_13
set_option maxHeartbeats 4000000 in
set_option maxRecDepth 100000 in
theorem c_X10_dearest (l : Launch) (g : GG) (a0 : Nat → Nat) (v0_papers : Int32) (v0_raw : (Nat → Int32)) (v0_kind : (Nat → Int32)) (v0_figure : (Nat → Int32)) (v0_heavy : (Nat → Int32)) (v0_place : (Nat → Int32)) (v0_rules : Int32) (v0_lower : (Nat → Int32)) (v0_upper : (Nat → Int32)) (v0_limits : Int32) (v0_limit : (Nat → Int32)) (v0_ties : Int32) (v0_letter : (Nat → Int32)) (v0_letters : Int32) (v0_told : (Nat → Int32)) (v0_tolds : Int32) (v0_places : (Nat → Int32)) (v0_cell : (Nat → Int64)) (v0_refusals : (Nat → Int32)) (v0_imaged : (Nat → Int32)) (v0_hasImage : Int32) (v0_before : (Nat → Int32)) (v0_up : Int64) (v0_down : Int64) (v0_beneath : (Nat → Int32)) (v0_numberUp : Int32) (v0_numberDown : Int32) (v0_block : (Nat → Int32)) (v0_blocks : Int32) (v0_merged : Int32) (v0_valueUp : (Nat → Int32)) (v0_valueDown : (Nat → Int32)) (v0_said : (Nat → Int32)) (v0_saids : Int32) (v0_at : Int32) (v0_number : (Nat → Int32)) (p1 : Int32) (hne : (m_X10_dearest (v0_papers, v0_raw, v0_kind, v0_figure, v0_heavy, v0_place, v0_rules, v0_lower, v0_upper, v0_limits, v0_limit, v0_ties, v0_letter, v0_letters, v0_told, v0_tolds, v0_places, v0_cell, v0_refusals, v0_imaged, v0_hasImage, v0_before, v0_up, v0_down, v0_beneath, v0_numberUp, v0_numberDown, v0_block, v0_blocks, v0_merged, v0_valueUp, v0_valueDown, v0_said, v0_saids, v0_at, v0_number) p1) ≠ none) : Ct l g yX10_dearest cX10_dearest 8 (some .int) ({ frames := 8, cells := 0, slots := 0, locals := 188 } : Room) [.ref (a0 0), .int p1] (wX10 a0 g v0_papers v0_raw v0_kind v0_figure v0_heavy v0_place v0_rules v0_lower v0_upper v0_limits v0_limit v0_ties v0_letter v0_letters v0_told v0_tolds v0_places v0_cell v0_refusals v0_imaged v0_hasImage v0_before v0_up v0_down v0_beneath v0_numberUp v0_numberDown v0_block v0_blocks v0_merged v0_valueUp v0_valueDown v0_said v0_saids v0_at v0_number) (Qi g .int (m_X10_dearest (v0_papers, v0_raw, v0_kind, v0_figure, v0_heavy, v0_place, v0_rules, v0_lower, v0_upper, v0_limits, v0_limit, v0_ties, v0_letter, v0_letters, v0_told, v0_tolds, v0_places, v0_cell, v0_refusals, v0_imaged, v0_hasImage, v0_before, v0_up, v0_down, v0_beneath, v0_numberUp, v0_numberDown, v0_block, v0_blocks, v0_merged, v0_valueUp, v0_valueDown, v0_said, v0_saids, v0_at, v0_number) p1) (fun u => u.1) (fun u => wX10 a0 g v0_papers v0_raw v0_kind v0_figure v0_heavy v0_place v0_rules v0_lower v0_upper v0_limits v0_limit v0_ties v0_letter v0_letters v0_told v0_tolds v0_places v0_cell u.2.1 v0_imaged v0_hasImage v0_before u.2.2.1 u.2.2.2.1 u.2.2.2.2.1 v0_numberUp v0_numberDown v0_block v0_blocks v0_merged u.2.2.2.2.2.1 u.2.2.2.2.2.2 v0_said v0_saids v0_at v0_number)) 0 0 := by
  obtain ⟨out, hf⟩ := ne_ex hne
  have hf0 := hf
  refine Ct.of (own := RX10) (by decide +kernel) rfl (Nat.le_of_ble_eq_true rfl) ?_
  intro p e s m below meth c hx hb hr hml hown hts hlocks hin hK A H locs hA hP hD hS hE ls hl
  have hl : lv_has ls 8 [(0, .ref (a0 0)), (1, .int p1)] := hl
  unfold m_X10_dearest at hf
  refine lv_iload_n hx hb dX10_dearest_0 rfl (lv_at hl 1 rfl) ?_
  refine cIp hP hD hS hA hE (fun hPc hDc hSc => rS (As := [.int p1]) (rest := []) hx hb hml hown hts hK (c_X10_isLoss l g p1 (bnd_ne hf)) svS_X10_isLoss kw1548 hPc hDc hSc rfl rfl hl.1 (Nat.le_of_ble_eq_true rfl) dX10_dearest_1 ⟨Nat.le_of_ble_eq_true rfl, Nat.le_of_ble_eq_true rfl, rfl, rfl, Nat.le_of_ble_eq_true rfl, Nat.le_of_ble_eq_true rfl⟩) [] rfl rfl rfl (fun x1 H locs ex1 nx1 hP hS => ?_)
  have hf := bnd_of hf ex1
  refine lv_if_ne (tgt := 14) hx hb dX10_dearest_4 (by decide) (fun cb => ?_) (fun cb => ?_)
  · have hf := it_f cb hf
    refine lv_aload_n hx hb dX10_dearest_14 rfl (lv_at hl 0 rfl) ?_
    refine lv_iload_n hx hb dX10_dearest_15 rfl (lv_at hl 1 rfl) ?_
    refine lv_aload_n hx hb dX10_dearest_16 rfl (lv_at hl 0 rfl) ?_
    refine cIp hP hD hS hA hE (fun hPc hDc hSc => rV (As := []) (rest := [.int p1, .ref (a0 0)]) hx hb hml hown hts hK (c_X10_allRules l g a0 v0_papers v0_raw v0_kind v0_figure v0_heavy v0_place v0_rules v0_lower v0_upper v0_limits v0_limit v0_ties v0_letter v0_letters v0_told v0_tolds v0_places v0_cell v0_refusals v0_imaged v0_hasImage v0_before v0_up v0_down v0_beneath v0_numberUp v0_numberDown v0_block v0_blocks v0_merged v0_valueUp v0_valueDown v0_said v0_saids v0_at v0_number (bnd_ne hf)) svV_X10_allRules kw1389 rfl rfl hPc hDc hSc rfl rfl hl.1 (Nat.le_of_ble_eq_true rfl) dX10_dearest_17 ⟨Nat.le_of_ble_eq_true rfl, Nat.le_of_ble_eq_true rfl, rfl, rfl, Nat.le_of_ble_eq_true rfl, Nat.le_of_ble_eq_true rfl⟩) [(0, 22)] rfl rfl rfl (fun x2 H locs ex2 nx2 hP hS => ?_)
    have hf := bnd_of hf ex2
    refine cV hP hD hS hA hE (fun hPc hDc hSc => rV (As := [.int p1, .int x2]) (rest := []) hx hb hml hown hts hK (c_X10_changes l g a0 v0_papers v0_raw v0_kind v0_figure v0_heavy v0_place v0_rules v0_lower v0_upper v0_limits v0_limit v0_ties v0_letter v0_letters v0_told v0_tolds v0_places v0_cell v0_refusals v0_imaged v0_hasImage v0_before v0_up v0_down v0_beneath v0_numberUp v0_numberDown v0_block v0_blocks v0_merged v0_valueUp v0_valueDown v0_said v0_saids v0_at v0_number p1 x2 (bnd_ne hf)) svV_X10_changes kw1590 rfl rfl hPc hDc hSc rfl rfl hl.1 (Nat.le_of_ble_eq_true rfl) dX10_dearest_20 ⟨Nat.le_of_ble_eq_true rfl, Nat.le_of_ble_eq_true rfl, rfl, rfl, Nat.le_of_ble_eq_true rfl, Nat.le_of_ble_eq_true rfl⟩) [(0, 22)] rfl rfl rfl (fun _ => rfl) (fun x3 H locs ex3 hP hD hS => ?_)
    have hf := bnd_of hf ex3
    have hP : va_P g.1 vwCl (wX10 a0 g v0_papers v0_raw v0_kind v0_figure v0_heavy v0_place v0_rules v0_lower v0_upper v0_limits v0_limit v0_ties v0_letter v0_letters v0_told v0_tolds v0_places v0_cell v0_refusals v0_imaged v0_hasImage v0_before x3.1 x3.2.1 x3.2.2.1 v0_numberUp v0_numberDown v0_block v0_blocks v0_merged x3.2.2.2.1 x3.2.2.2.2 v0_said v0_saids v0_at v0_number) H := hP
    have hD : va_D A (wX10 a0 g v0_papers v0_raw v0_kind v0_figure v0_heavy v0_place v0_rules v0_lower v0_upper v0_limits v0_limit v0_ties v0_letter v0_letters v0_told v0_tolds v0_places v0_cell v0_refusals v0_imaged v0_hasImage v0_before x3.1 x3.2.1 x3.2.2.1 v0_numberUp v0_numberDown v0_block v0_blocks v0_merged x3.2.2.2.1 x3.2.2.2.2 v0_said v0_saids v0_at v0_number) := hD
    refine lv_aload_n hx hb dX10_dearest_23 rfl (lv_at hl 0 rfl) ?_
    refine va_get (D := g.1) (ci := 11) (v := .long x3.1) (C := RX10) (T := TX10) (N := 36) hx hb hts layX10 hown hK.1 hP 0 rfl rfl 22 (by decide) (hts _ kw1299) (fun _ h9 => h9) rfl dX10_dearest_24 ?_
    refine lv_lstore_n (lv' := [(2, .long x3.1), (0, .ref (a0 0)), (1, .int p1)]) hx hb dX10_dearest_27 rfl hl (by decide) rfl (fun ls hl => ?_)
    refine lv_aload_n hx hb dX10_dearest_28 rfl (lv_at hl 1 rfl) ?_
    refine va_get (D := g.1) (ci := 11) (v := .long x3.2.1) (C := RX10) (T := TX10) (N := 36) hx hb hts layX10 hown hK.1 hP 0 rfl rfl 23 (by decide) (hts _ kw1300) (fun _ h9 => h9) rfl dX10_dearest_29 ?_
    refine lv_lstore (lv' := [(4, .long x3.2.1), (2, .long x3.1), (0, .ref (a0 0)), (1, .int p1)]) hx hb dX10_dearest_32 hl (by decide) rfl (fun ls hl => ?_)
    refine lv_bipush (v := (-9)) hx hb dX10_dearest_34 (by decide) ?_
    refine lv_istore (lv' := [(6, .int (-9 : Int32)), (4, .long x3.2.1), (2, .long x3.1), (0, .ref (a0 0)), (1, .int p1)]) hx hb dX10_dearest_36 hl (by decide) rfl (fun ls hl => ?_)
    refine lv_iconst (v := 0) hx hb dX10_dearest_38 (by decide) ?_
    refine lv_istore (lv' := [(7, .int (0 : Int32)), (6, .int (-9 : Int32)), (4, .long x3.2.1), (2, .long x3.1), (0, .ref (a0 0)), (1, .int p1)]) hx hb dX10_dearest_39 hl (by decide) rfl (fun ls hl => ?_)
    obtain ⟨r17, er17, hf⟩ := bnd hf
    refine lp_W (P := fun z => ∀ (H : Heap) (locs : List Loc) (ls : Array Slot), va_P g.1 vwCl (wX10 a0 g v0_papers v0_raw v0_kind v0_figure v0_heavy v0_place v0_rules v0_lower v0_upper v0_limits v0_limit v0_ties v0_letter v0_letters v0_told v0_tolds v0_places v0_cell v0_refusals v0_imaged v0_hasImage v0_before z.2.2.2.2.1 z.2.2.2.2.2.1 z.2.2.2.2.2.2.1 v0_numberUp v0_numberDown v0_block v0_blocks v0_merged z.2.2.2.2.2.2.2.1 z.2.2.2.2.2.2.2.2 v0_said v0_saids v0_at v0_number) H → va_D A (wX10 a0 g v0_papers v0_raw v0_kind v0_figure v0_heavy v0_place v0_rules v0_lower v0_upper v0_limits v0_limit v0_ties v0_letter v0_letters v0_told v0_tolds v0_places v0_cell v0_refusals v0_imaged v0_hasImage v0_before z.2.2.2.2.1 z.2.2.2.2.2.1 z.2.2.2.2.2.2.1 v0_numberUp v0_numberDown v0_block v0_blocks v0_merged z.2.2.2.2.2.2.2.1 z.2.2.2.2.2.2.2.2 v0_said v0_saids v0_at v0_number) → va_S A s.heap H locs → lv_has ls 8 [(0, .ref (a0 0)), (1, .int p1), (2, .long z.1), (4, .long z.2.1), (6, .int z.2.2.1), (7, .int z.2.2.2.1)] → W p l e { frames := 8, cells := 0, slots := 0, locals := 188 } s m [.ref (a0 0), .int p1].toArray below meth c H locs 0 0 (MQ below (Qi g .int (m_X10_dearest (v0_papers, v0_raw, v0_kind, v0_figure, v0_heavy, v0_place, v0_rules, v0_lower, v0_upper, v0_limits, v0_limit, v0_ties, v0_letter, v0_letters, v0_told, v0_tolds, v0_places, v0_cell, v0_refusals, v0_imaged, v0_hasImage, v0_before, v0_up, v0_down, v0_beneath, v0_numberUp, v0_numberDown, v0_block, v0_blocks, v0_merged, v0_valueUp, v0_valueDown, v0_said, v0_saids, v0_at, v0_number) p1) (fun u => u.1) (fun u => wX10 a0 g v0_papers v0_raw v0_kind v0_figure v0_heavy v0_place v0_rules v0_lower v0_upper v0_limits v0_limit v0_ties v0_letter v0_letters v0_told v0_tolds v0_places v0_cell u.2.1 v0_imaged v0_hasImage v0_before u.2.2.1 u.2.2.2.1 u.2.2.2.2.1 v0_numberUp v0_numberDown v0_block v0_blocks v0_merged u.2.2.2.2.2.1 u.2.2.2.2.2.2 v0_said v0_saids v0_at v0_number) A) [.ref (a0 0), .int p1].toArray s 0 0 A) (F0 m 41 ls [])) (E := fun r17 => ∀ (H : Heap) (locs : List Loc) (ls : Array Slot), va_P g.1 vwCl (wX10 a0 g v0_papers v0_raw v0_kind v0_figure v0_heavy v0_place v0_rules v0_lower v0_upper v0_limits v0_limit v0_ties v0_letter v0_letters v0_told v0_tolds v0_places v0_cell v0_refusals v0_imaged v0_hasImage v0_before r17.2.1 r17.2.2.1 r17.2.2.2.1 v0_numberUp v0_numberDown v0_block v0_blocks v0_merged r17.2.2.2.2.1 r17.2.2.2.2.2 v0_said v0_saids v0_at v0_number) H → va_D A (wX10 a0 g v0_papers v0_raw v0_kind v0_figure v0_heavy v0_place v0_rules v0_lower v0_upper v0_limits v0_limit v0_ties v0_letter v0_letters v0_told v0_tolds v0_places v0_cell v0_refusals v0_imaged v0_hasImage v0_before r17.2.1 r17.2.2.1 r17.2.2.2.1 v0_numberUp v0_numberDown v0_block v0_blocks v0_merged r17.2.2.2.2.1 r17.2.2.2.2.2 v0_said v0_saids v0_at v0_number) → va_S A s.heap H locs → lv_has ls 8 [(6, .int r17.1)] → W p l e { frames := 8, cells := 0, slots := 0, locals := 188 } s m [.ref (a0 0), .int p1].toArray below meth c H locs 0 0 (MQ below (Qi g .int (m_X10_dearest (v0_papers, v0_raw, v0_kind, v0_figure, v0_heavy, v0_place, v0_rules, v0_lower, v0_upper, v0_limits, v0_limit, v0_ties, v0_letter, v0_letters, v0_told, v0_tolds, v0_places, v0_cell, v0_refusals, v0_imaged, v0_hasImage, v0_before, v0_up, v0_down, v0_beneath, v0_numberUp, v0_numberDown, v0_block, v0_blocks, v0_merged, v0_valueUp, v0_valueDown, v0_said, v0_saids, v0_at, v0_number) p1) (fun u => u.1) (fun u => wX10 a0 g v0_papers v0_raw v0_kind v0_figure v0_heavy v0_place v0_rules v0_lower v0_upper v0_limits v0_limit v0_ties v0_letter v0_letters v0_told v0_tolds v0_places v0_cell u.2.1 v0_imaged v0_hasImage v0_before u.2.2.1 u.2.2.2.1 u.2.2.2.2.1 v0_numberUp v0_numberDown v0_block v0_blocks v0_merged u.2.2.2.2.2.1 u.2.2.2.2.2.2 v0_said v0_saids v0_at v0_number) A) [.ref (a0 0), .int p1].toArray s 0 0 A) (F0 m 104 ls [])) ?_ fu _ r17 er17 ?_ _ _ _ hP hD hS (lv_sub hl [4, 5, 3, 2, 1, 0] rfl)
    · rintro ⟨x6, x7, x8, x9, x10, x11, x12, x13, x14⟩ y hf hB hXt H locs ls hP hD hS hl
      have hP : va_P g.1 vwCl (wX10 a0 g v0_papers v0_raw v0_kind v0_figure v0_heavy v0_place v0_rules v0_lower v0_upper v0_limits v0_limit v0_ties v0_letter v0_letters v0_told v0_tolds v0_places v0_cell v0_refusals v0_imaged v0_hasImage v0_before x10 x11 x12 v0_numberUp v0_numberDown v0_block v0_blocks v0_merged x13 x14 v0_said v0_saids v0_at v0_number) H := hP
      have hD : va_D A (wX10 a0 g v0_papers v0_raw v0_kind v0_figure v0_heavy v0_place v0_rules v0_lower v0_upper v0_limits v0_limit v0_ties v0_letter v0_letters v0_told v0_tolds v0_places v0_cell v0_refusals v0_imaged v0_hasImage v0_before x10 x11 x12 v0_numberUp v0_numberDown v0_block v0_blocks v0_merged x13 x14 v0_said v0_saids v0_at v0_number) := hD
      have hl : lv_has ls 8 [(0, .ref (a0 0)), (1, .int p1), (2, .long x6), (4, .long x7), (6, .int x8), (7, .int x9)] := hl
      have hf : m_X10_dearest_l41 (v0_papers, v0_raw, v0_kind, v0_figure, v0_heavy, v0_place, v0_rules, v0_lower, v0_upper, v0_limits, v0_limit, v0_ties, v0_letter, v0_letters, v0_told, v0_tolds, v0_places, v0_cell, v0_refusals, v0_imaged, v0_hasImage, v0_before, v0_up, v0_down, v0_beneath, v0_numberUp, v0_numberDown, v0_block, v0_blocks, v0_merged, v0_valueUp, v0_valueDown, v0_said, v0_saids, v0_at, v0_number) p1 x6 x7 x8 x9 x10 x11 x12 x13 x14 = some y := hf
      unfold m_X10_dearest_l41 at hf
      refine lv_iload hx hb dX10_dearest_41 (lv_at hl 5 rfl) ?_
      refine lv_aload_n hx hb dX10_dearest_43 rfl (lv_at hl 0 rfl) ?_
      refine va_get (D := g.1) (ci := 11) (v := .int v0_rules) (C := RX10) (T := TX10) (N := 36) hx hb hts layX10 hown hK.1 hP 0 rfl rfl 6 (by decide) (hts _ kw1283) (fun _ h9 => h9) rfl dX10_dearest_44 ?_
      refine lv_icmp_ge (tgt := 104) hx hb dX10_dearest_47 (by decide) (fun cb => ?_) (fun cb => ?_)
      · have hf := it_t cb hf
        exact hXt _ (Option.some.inj hf).symm _ _ _ hP hD hS (lv_sub hl [4] rfl)
      have hf := it_f cb hf
      refine lv_aload_n hx hb dX10_dearest_50 rfl (lv_at hl 0 rfl) ?_
      refine lv_iload_n hx hb dX10_dearest_51 rfl (lv_at hl 1 rfl) ?_
      refine lv_aload_n hx hb dX10_dearest_52 rfl (lv_at hl 0 rfl) ?_
      refine cIp hP hD hS hA hE (fun hPc hDc hSc => rV (As := []) (rest := [.int p1, .ref (a0 0)]) hx hb hml hown hts hK (c_X10_allRules l g a0 v0_papers v0_raw v0_kind v0_figure v0_heavy v0_place v0_rules v0_lower v0_upper v0_limits v0_limit v0_ties v0_letter v0_letters v0_told v0_tolds v0_places v0_cell v0_refusals v0_imaged v0_hasImage v0_before x10 x11 x12 v0_numberUp v0_numberDown v0_block v0_blocks v0_merged x13 x14 v0_said v0_saids v0_at v0_number (bnd_ne hf)) svV_X10_allRules kw1389 rfl rfl hPc hDc hSc rfl rfl hl.1 (Nat.le_of_ble_eq_true rfl) dX10_dearest_53 ⟨Nat.le_of_ble_eq_true rfl, Nat.le_of_ble_eq_true rfl, rfl, rfl, Nat.le_of_ble_eq_true rfl, Nat.le_of_ble_eq_true rfl⟩) [(0, 22)] rfl rfl rfl (fun x15 H locs ex15 nx15 hP hS => ?_)
      have hf := bnd_of hf ex15
      refine lv_iconst (v := 1) hx hb dX10_dearest_56 (by decide) ?_
      refine lv_iload hx hb dX10_dearest_57 (lv_at hl 5 rfl) ?_
      refine lv_ishl hx hb dX10_dearest_59 ?_
      refine lv_iconst (v := (-1)) hx hb dX10_dearest_60 (by decide) ?_
      refine lv_ixor hx hb dX10_dearest_61 ?_
      refine lv_iand hx hb dX10_dearest_62 ?_
      refine cV hP hD hS hA hE (fun hPc hDc hSc => rV (As := [.int p1, .int (x15 &&& (((1 : Int32) <<< (x9 &&& 31)) ^^^ (-1 : Int32)))]) (rest := []) hx hb hml hown hts hK (c_X10_changes l g a0 v0_papers v0_raw v0_kind v0_figure v0_heavy v0_place v0_rules v0_lower v0_upper v0_limits v0_limit v0_ties v0_letter v0_letters v0_told v0_tolds v0_places v0_cell v0_refusals v0_imaged v0_hasImage v0_before x10 x11 x12 v0_numberUp v0_numberDown v0_block v0_blocks v0_merged x13 x14 v0_said v0_saids v0_at v0_number p1 (x15 &&& (((1 : Int32) <<< (x9 &&& 31)) ^^^ (-1 : Int32))) (bnd_ne hf)) svV_X10_changes kw1590 rfl rfl hPc hDc hSc rfl rfl hl.1 (Nat.le_of_ble_eq_true rfl) dX10_dearest_63 ⟨Nat.le_of_ble_eq_true rfl, Nat.le_of_ble_eq_true rfl, rfl, rfl, Nat.le_of_ble_eq_true rfl, Nat.le_of_ble_eq_true rfl⟩) [(0, 22)] rfl rfl rfl (fun _ => rfl) (fun x16 H locs ex16 hP hD hS => ?_)
      have hf := bnd_of hf ex16
      have hP : va_P g.1 vwCl (wX10 a0 g v0_papers v0_raw v0_kind v0_figure v0_heavy v0_place v0_rules v0_lower v0_upper v0_limits v0_limit v0_ties v0_letter v0_letters v0_told v0_tolds v0_places v0_cell v0_refusals v0_imaged v0_hasImage v0_before x16.1 x16.2.1 x16.2.2.1 v0_numberUp v0_numberDown v0_block v0_blocks v0_merged x16.2.2.2.1 x16.2.2.2.2 v0_said v0_saids v0_at v0_number) H := hP
      have hD : va_D A (wX10 a0 g v0_papers v0_raw v0_kind v0_figure v0_heavy v0_place v0_rules v0_lower v0_upper v0_limits v0_limit v0_ties v0_letter v0_letters v0_told v0_tolds v0_places v0_cell v0_refusals v0_imaged v0_hasImage v0_before x16.1 x16.2.1 x16.2.2.1 v0_numberUp v0_numberDown v0_block v0_blocks v0_merged x16.2.2.2.1 x16.2.2.2.2 v0_said v0_saids v0_at v0_number) := hD
      refine lv_aload_n hx hb dX10_dearest_66 rfl (lv_at hl 0 rfl) ?_
      refine va_get (D := g.1) (ci := 11) (v := .long x16.1) (C := RX10) (T := TX10) (N := 36) hx hb hts layX10 hown hK.1 hP 0 rfl rfl 22 (by decide) (hts _ kw1299) (fun _ h9 => h9) rfl dX10_dearest_67 ?_
      refine lv_lload hx hb dX10_dearest_70 (lv_at hl 3 rfl) ?_
      refine lv_lmul hx hb dX10_dearest_72 ?_
      refine lv_lload_n hx hb dX10_dearest_73 rfl (lv_at hl 2 rfl) ?_
      refine lv_aload_n hx hb dX10_dearest_74 rfl (lv_at hl 0 rfl) ?_
      refine va_get (D := g.1) (ci := 11) (v := .long x16.2.1) (C := RX10) (T := TX10) (N := 36) hx hb hts layX10 hown hK.1 hP 0 rfl rfl 23 (by decide) (hts _ kw1300) (fun _ h9 => h9) rfl dX10_dearest_75 ?_
      refine lv_lmul hx hb dX10_dearest_78 ?_
      refine lc_ge (tgt := 98) hx hb dX10_dearest_79 dX10_dearest_80 (by decide) (fun cb => ?_) (fun cb => ?_)
      · have hf := it_t cb hf
        refine lv_iinc (v := (x9 + 1)) (lv' := [(7, .int (x9 + 1)), (0, .ref (a0 0)), (1, .int p1), (2, .long x6), (4, .long x7), (6, .int x8)]) hx hb dX10_dearest_98 hl (k := 5) rfl (by rfl) (by decide) rfl (fun ls hl => ?_)
        refine lv_goto (tgt := 41) hx hb dX10_dearest_101 (by decide) ?_
        exact hB _ (Option.some.inj hf).symm _ _ _ hP hD hS (lv_sub hl [1, 2, 3, 4, 5, 0] rfl)
      have hf := it_f cb hf
      refine lv_iload hx hb dX10_dearest_83 (lv_at hl 5 rfl) ?_
      refine lv_istore (lv' := [(6, .int x9), (0, .ref (a0 0)), (1, .int p1), (2, .long x6), (4, .long x7), (7, .int x9)]) hx hb dX10_dearest_85 hl (by decide) rfl (fun ls hl => ?_)
      refine lv_aload_n hx hb dX10_dearest_87 rfl (lv_at hl 1 rfl) ?_
      refine va_get (D := g.1) (ci := 11) (v := .long x16.1) (C := RX10) (T := TX10) (N := 36) hx hb hts layX10 hown hK.1 hP 0 rfl rfl 22 (by decide) (hts _ kw1299) (fun _ h9 => h9) rfl dX10_dearest_88 ?_
      refine lv_lstore_n (lv' := [(2, .long x16.1), (6, .int x9), (0, .ref (a0 0)), (1, .int p1), (4, .long x7), (7, .int x9)]) hx hb dX10_dearest_91 rfl hl (by decide) rfl (fun ls hl => ?_)
      refine lv_aload_n hx hb dX10_dearest_92 rfl (lv_at hl 2 rfl) ?_
      refine va_get (D := g.1) (ci := 11) (v := .long x16.2.1) (C := RX10) (T := TX10) (N := 36) hx hb hts layX10 hown hK.1 hP 0 rfl rfl 23 (by decide) (hts _ kw1300) (fun _ h9 => h9) rfl dX10_dearest_93 ?_
      refine lv_lstore (lv' := [(4, .long x16.2.1), (2, .long x16.1), (6, .int x9), (0, .ref (a0 0)), (1, .int p1), (7, .int x9)]) hx hb dX10_dearest_96 hl (by decide) rfl (fun ls hl => ?_)
      refine lv_iinc (v := (x9 + 1)) (lv' := [(7, .int (x9 + 1)), (4, .long x16.2.1), (2, .long x16.1), (6, .int x9), (0, .ref (a0 0)), (1, .int p1)]) hx hb dX10_dearest_98 hl (k := 5) rfl (by rfl) (by decide) rfl (fun ls hl => ?_)
      refine lv_goto (tgt := 41) hx hb dX10_dearest_101 (by decide) ?_
      exact hB _ (Option.some.inj hf).symm _ _ _ hP hD hS (lv_sub hl [4, 5, 2, 1, 3, 0] rfl)
    intro H locs ls hP hD hS hl
    have hP : va_P g.1 vwCl (wX10 a0 g v0_papers v0_raw v0_kind v0_figure v0_heavy v0_place v0_rules v0_lower v0_upper v0_limits v0_limit v0_ties v0_letter v0_letters v0_told v0_tolds v0_places v0_cell v0_refusals v0_imaged v0_hasImage v0_before r17.2.1 r17.2.2.1 r17.2.2.2.1 v0_numberUp v0_numberDown v0_block v0_blocks v0_merged r17.2.2.2.2.1 r17.2.2.2.2.2 v0_said v0_saids v0_at v0_number) H := hP
    have hD : va_D A (wX10 a0 g v0_papers v0_raw v0_kind v0_figure v0_heavy v0_place v0_rules v0_lower v0_upper v0_limits v0_limit v0_ties v0_letter v0_letters v0_told v0_tolds v0_places v0_cell v0_refusals v0_imaged v0_hasImage v0_before r17.2.1 r17.2.2.1 r17.2.2.2.1 v0_numberUp v0_numberDown v0_block v0_blocks v0_merged r17.2.2.2.2.1 r17.2.2.2.2.2 v0_said v0_saids v0_at v0_number) := hD
    have hl : lv_has ls 8 [(6, .int r17.1)] := hl
    refine lv_iload hx hb dX10_dearest_104 (lv_at hl 0 rfl) ?_
    exact retI (v := r17.1) (u := (r17.1, v0_refusals, r17.2.1, r17.2.2.1, r17.2.2.2.1, r17.2.2.2.2.1, r17.2.2.2.2.2)) (val := fun u => u.1) (W1 := fun u => wX10 a0 g v0_papers v0_raw v0_kind v0_figure v0_heavy v0_place v0_rules v0_lower v0_upper v0_limits v0_limit v0_ties v0_letter v0_letters v0_told v0_tolds v0_places v0_cell u.2.1 v0_imaged v0_hasImage v0_before u.2.2.1 u.2.2.2.1 u.2.2.2.2.1 v0_numberUp v0_numberDown v0_block v0_blocks v0_merged u.2.2.2.2.2.1 u.2.2.2.2.2.2 v0_said v0_saids v0_at v0_number) hx hb hr hlocks hS hP hD (hf0.trans hf.symm) rfl rfl dX10_dearest_106
  have hf := it_t cb hf
  refine lv_aload_n hx hb dX10_dearest_7 rfl (lv_at hl 0 rfl) ?_
  refine lv_bipush (v := (-2)) hx hb dX10_dearest_8 (by decide) ?_
  refine cI hP hD hS hA hE (fun hPc hDc hSc => rV (As := [.int (-2 : Int32)]) (rest := []) hx hb hml hown hts hK (c_X10_no l g a0 v0_papers v0_raw v0_kind v0_figure v0_heavy v0_place v0_rules v0_lower v0_upper v0_limits v0_limit v0_ties v0_letter v0_letters v0_told v0_tolds v0_places v0_cell v0_refusals v0_imaged v0_hasImage v0_before v0_up v0_down v0_beneath v0_numberUp v0_numberDown v0_block v0_blocks v0_merged v0_valueUp v0_valueDown v0_said v0_saids v0_at v0_number (-2 : Int32) (bnd_ne hf)) svV_X10_no kw1354 rfl rfl hPc hDc hSc rfl rfl hl.1 (Nat.le_of_ble_eq_true rfl) dX10_dearest_10 ⟨Nat.le_of_ble_eq_true rfl, Nat.le_of_ble_eq_true rfl, rfl, rfl, Nat.le_of_ble_eq_true rfl, Nat.le_of_ble_eq_true rfl⟩) [(0, 22)] rfl rfl rfl (fun _ => rfl) (fun x18 H locs ex18 nx18 hP hD hS => ?_)
  have hf := bnd_of hf ex18
  have hP : va_P g.1 vwCl (wX10 a0 g v0_papers v0_raw v0_kind v0_figure v0_heavy v0_place v0_rules v0_lower v0_upper v0_limits v0_limit v0_ties v0_letter v0_letters v0_told v0_tolds v0_places v0_cell x18.2 v0_imaged v0_hasImage v0_before v0_up v0_down v0_beneath v0_numberUp v0_numberDown v0_block v0_blocks v0_merged v0_valueUp v0_valueDown v0_said v0_saids v0_at v0_number) H := hP
  have hD : va_D A (wX10 a0 g v0_papers v0_raw v0_kind v0_figure v0_heavy v0_place v0_rules v0_lower v0_upper v0_limits v0_limit v0_ties v0_letter v0_letters v0_told v0_tolds v0_places v0_cell x18.2 v0_imaged v0_hasImage v0_before v0_up v0_down v0_beneath v0_numberUp v0_numberDown v0_block v0_blocks v0_merged v0_valueUp v0_valueDown v0_said v0_saids v0_at v0_number) := hD
  exact retI (v := x18.1) (u := (x18.1, x18.2, v0_up, v0_down, v0_beneath, v0_valueUp, v0_valueDown)) (val := fun u => u.1) (W1 := fun u => wX10 a0 g v0_papers v0_raw v0_kind v0_figure v0_heavy v0_place v0_rules v0_lower v0_upper v0_limits v0_limit v0_ties v0_letter v0_letters v0_told v0_tolds v0_places v0_cell u.2.1 v0_imaged v0_hasImage v0_before u.2.2.1 u.2.2.2.1 u.2.2.2.2.1 v0_numberUp v0_numberDown v0_block v0_blocks v0_merged u.2.2.2.2.2.1 u.2.2.2.2.2.2 v0_said v0_saids v0_at v0_number) hx hb hr hlocks hS hP hD (hf0.trans hf.symm) rfl rfl dX10_dearest_13
set_option maxHeartbeats 4000000 in
set_option maxRecDepth 100000 in
theorem c_X10_needs (l : Launch) (g : GG) (a0 : Nat → Nat) (v0_papers : Int32) (v0_raw : (Nat → Int32)) (v0_kind : (Nat → Int32)) (v0_figure : (Nat → Int32)) (v0_heavy : (Nat → Int32)) (v0_place : (Nat → Int32)) (v0_rules : Int32) (v0_lower : (Nat → Int32)) (v0_upper : (Nat → Int32)) (v0_limits : Int32) (v0_limit : (Nat → Int32)) (v0_ties : Int32) (v0_letter : (Nat → Int32)) (v0_letters : Int32) (v0_told : (Nat → Int32)) (v0_tolds : Int32) (v0_places : (Nat → Int32)) (v0_cell : (Nat → Int64)) (v0_refusals : (Nat → Int32)) (v0_imaged : (Nat → Int32)) (v0_hasImage : Int32) (v0_before : (Nat → Int32)) (v0_up : Int64) (v0_down : Int64) (v0_beneath : (Nat → Int32)) (v0_numberUp : Int32) (v0_numberDown : Int32) (v0_block : (Nat → Int32)) (v0_blocks : Int32) (v0_merged : Int32) (v0_valueUp : (Nat → Int32)) (v0_valueDown : (Nat → Int32)) (v0_said : (Nat → Int32)) (v0_saids : Int32) (v0_at : Int32) (v0_number : (Nat → Int32)) (p1 : Int32) (p2 : Int32) (p3 : Int32) (hne : (m_X10_needs (v0_papers, v0_raw, v0_kind, v0_figure, v0_heavy, v0_place, v0_rules, v0_lower, v0_upper, v0_limits, v0_limit, v0_ties, v0_letter, v0_letters, v0_told, v0_tolds, v0_places, v0_cell, v0_refusals, v0_imaged, v0_hasImage, v0_before, v0_up, v0_down, v0_beneath, v0_numberUp, v0_numberDown, v0_block, v0_blocks, v0_merged, v0_valueUp, v0_valueDown, v0_said, v0_saids, v0_at, v0_number) p1 p2 p3) ≠ none) : Ct l g yX10_needs cX10_needs 7 (some .int) ({ frames := 8, cells := 0, slots := 0, locals := 183 } : Room) [.ref (a0 0), .int p1, .int p2, .int p3] (wX10 a0 g v0_papers v0_raw v0_kind v0_figure v0_heavy v0_place v0_rules v0_lower v0_upper v0_limits v0_limit v0_ties v0_letter v0_letters v0_told v0_tolds v0_places v0_cell v0_refusals v0_imaged v0_hasImage v0_before v0_up v0_down v0_beneath v0_numberUp v0_numberDown v0_block v0_blocks v0_merged v0_valueUp v0_valueDown v0_said v0_saids v0_at v0_number) (Qi g .int (m_X10_needs (v0_papers, v0_raw, v0_kind, v0_figure, v0_heavy, v0_place, v0_rules, v0_lower, v0_upper, v0_limits, v0_limit, v0_ties, v0_letter, v0_letters, v0_told, v0_tolds, v0_places, v0_cell, v0_refusals, v0_imaged, v0_hasImage, v0_before, v0_up, v0_down, v0_beneath, v0_numberUp, v0_numberDown, v0_block, v0_blocks, v0_merged, v0_valueUp, v0_valueDown, v0_said, v0_saids, v0_at, v0_number) p1 p2 p3) (fun u => u.1) (fun u => wX10 a0 g v0_papers u.2.1 v0_kind v0_figure v0_heavy v0_place v0_rules v0_lower v0_upper v0_limits v0_limit v0_ties v0_letter v0_letters v0_told v0_tolds v0_places v0_cell u.2.2.1 v0_imaged v0_hasImage v0_before u.2.2.2.1 u.2.2.2.2.1 u.2.2.2.2.2.1 v0_numberUp v0_numberDown v0_block v0_blocks v0_merged u.2.2.2.2.2.2.1 u.2.2.2.2.2.2.2 v0_said v0_saids v0_at v0_number)) 0 0 := by
  obtain ⟨out, hf⟩ := ne_ex hne
  have hf0 := hf
  refine Ct.of (own := RX10) (by decide +kernel) rfl (Nat.le_of_ble_eq_true rfl) ?_
  intro p e s m below meth c hx hb hr hml hown hts hlocks hin hK A H locs hA hP hD hS hE ls hl
  have hl : lv_has ls 7 [(0, .ref (a0 0)), (1, .int p1), (2, .int p2), (3, .int p3)] := hl
  unfold m_X10_needs at hf
  refine lv_iload_n hx hb dX10_needs_0 rfl (lv_at hl 1 rfl) ?_
  refine cIp hP hD hS hA hE (fun hPc hDc hSc => rS (As := [.int p1]) (rest := []) hx hb hml hown hts hK (c_X10_isLoss l g p1 (bnd_ne hf)) svS_X10_isLoss kw1548 hPc hDc hSc rfl rfl hl.1 (Nat.le_of_ble_eq_true rfl) dX10_needs_1 ⟨Nat.le_of_ble_eq_true rfl, Nat.le_of_ble_eq_true rfl, rfl, rfl, Nat.le_of_ble_eq_true rfl, Nat.le_of_ble_eq_true rfl⟩) [] rfl rfl rfl (fun x1 H locs ex1 nx1 hP hS => ?_)
  have hf := bnd_of hf ex1
  refine lv_if_ne (tgt := 14) hx hb dX10_needs_4 (by decide) (fun cb => ?_) (fun cb => ?_)
  · have hf := it_f cb hf
    refine lv_aload_n hx hb dX10_needs_14 rfl (lv_at hl 0 rfl) ?_
    refine lv_iload_n hx hb dX10_needs_15 rfl (lv_at hl 2 rfl) ?_
    refine cIp hP hD hS hA hE (fun hPc hDc hSc => rV (As := [.int p2]) (rest := []) hx hb hml hown hts hK (c_X10_isPaper l g a0 v0_papers v0_raw v0_kind v0_figure v0_heavy v0_place v0_rules v0_lower v0_upper v0_limits v0_limit v0_ties v0_letter v0_letters v0_told v0_tolds v0_places v0_cell v0_refusals v0_imaged v0_hasImage v0_before v0_up v0_down v0_beneath v0_numberUp v0_numberDown v0_block v0_blocks v0_merged v0_valueUp v0_valueDown v0_said v0_saids v0_at v0_number p2 (bnd_ne hf)) svV_X10_isPaper kw1361 rfl rfl hPc hDc hSc rfl rfl hl.1 (Nat.le_of_ble_eq_true rfl) dX10_needs_16 ⟨Nat.le_of_ble_eq_true rfl, Nat.le_of_ble_eq_true rfl, rfl, rfl, Nat.le_of_ble_eq_true rfl, Nat.le_of_ble_eq_true rfl⟩) [(0, 22)] rfl rfl rfl (fun x2 H locs ex2 nx2 hP hS => ?_)
    have hf := bnd_of hf ex2
    refine lv_if_ne (tgt := 28) hx hb dX10_needs_19 (by decide) (fun cb => ?_) (fun cb => ?_)
    · have hf := it_f cb hf
      refine lv_iload_n hx hb dX10_needs_28 rfl (lv_at hl 3 rfl) ?_
      refine lv_if_ge (tgt := 39) hx hb dX10_needs_29 (by decide) (fun cb => ?_) (fun cb => ?_)
      · have hf := it_t cb hf
        refine lv_iload_n hx hb dX10_needs_39 rfl (lv_at hl 3 rfl) ?_
        refine lv_iconst (v := 5) hx hb dX10_needs_40 (by decide) ?_
        refine lv_icmp_le (tgt := 51) hx hb dX10_needs_41 (by decide) (fun cb => ?_) (fun cb => ?_)
        · have hf := it_t cb hf
          refine lv_aload_n hx hb dX10_needs_51 rfl (lv_at hl 0 rfl) ?_
          refine va_get (D := g.1) (ci := 11) (v := .ref (a0 1)) (C := RX10) (T := TX10) (N := 36) hx hb hts layX10 hown hK.1 hP 0 rfl rfl 1 (by decide) (hts _ kw1278) (fun _ h9 => h9) rfl dX10_needs_52 ?_
          refine lv_iload_n hx hb dX10_needs_55 rfl (lv_at hl 2 rfl) ?_
          have hi := it_n hf
          have hf := it_t hi hf
          refine va_iald hx hb hK.1 hP 1 0 rfl rfl (inb_in hi) dX10_needs_56 ?_
          refine lv_istore (lv' := [(4, .int (v0_raw p2.toNatClampNeg)), (0, .ref (a0 0)), (1, .int p1), (2, .int p2), (3, .int p3)]) hx hb dX10_needs_57 hl (by decide) rfl (fun ls hl => ?_)
          refine lv_bipush (v := (-9)) hx hb dX10_needs_59 (by decide) ?_
          refine lv_istore (lv' := [(5, .int (-9 : Int32)), (4, .int (v0_raw p2.toNatClampNeg)), (0, .ref (a0 0)), (1, .int p1), (2, .int p2), (3, .int p3)]) hx hb dX10_needs_61 hl (by decide) rfl (fun ls hl => ?_)
          refine lv_iconst (v := 0) hx hb dX10_needs_63 (by decide) ?_
          refine lv_istore (lv' := [(6, .int (0 : Int32)), (5, .int (-9 : Int32)), (4, .int (v0_raw p2.toNatClampNeg)), (0, .ref (a0 0)), (1, .int p1), (2, .int p2), (3, .int p3)]) hx hb dX10_needs_64 hl (by decide) rfl (fun ls hl => ?_)
          obtain ⟨r13, er13, hf⟩ := bnd hf
          refine lp_W (P := fun z => ∀ (H : Heap) (locs : List Loc) (ls : Array Slot), va_P g.1 vwCl (wX10 a0 g v0_papers z.2.2.1 v0_kind v0_figure v0_heavy v0_place v0_rules v0_lower v0_upper v0_limits v0_limit v0_ties v0_letter v0_letters v0_told v0_tolds v0_places v0_cell v0_refusals v0_imaged v0_hasImage v0_before z.2.2.2.1 z.2.2.2.2.1 z.2.2.2.2.2.1 v0_numberUp v0_numberDown v0_block v0_blocks v0_merged z.2.2.2.2.2.2.1 z.2.2.2.2.2.2.2 v0_said v0_saids v0_at v0_number) H → va_D A (wX10 a0 g v0_papers z.2.2.1 v0_kind v0_figure v0_heavy v0_place v0_rules v0_lower v0_upper v0_limits v0_limit v0_ties v0_letter v0_letters v0_told v0_tolds v0_places v0_cell v0_refusals v0_imaged v0_hasImage v0_before z.2.2.2.1 z.2.2.2.2.1 z.2.2.2.2.2.1 v0_numberUp v0_numberDown v0_block v0_blocks v0_merged z.2.2.2.2.2.2.1 z.2.2.2.2.2.2.2 v0_said v0_saids v0_at v0_number) → va_S A s.heap H locs → lv_has ls 7 [(0, .ref (a0 0)), (1, .int p1), (2, .int p2), (3, .int p3), (4, .int (v0_raw p2.toNatClampNeg)), (5, .int z.1), (6, .int z.2.1)] → W p l e { frames := 8, cells := 0, slots := 0, locals := 183 } s m [.ref (a0 0), .int p1, .int p2, .int p3].toArray below meth c H locs 0 0 (MQ below (Qi g .int (m_X10_needs (v0_papers, v0_raw, v0_kind, v0_figure, v0_heavy, v0_place, v0_rules, v0_lower, v0_upper, v0_limits, v0_limit, v0_ties, v0_letter, v0_letters, v0_told, v0_tolds, v0_places, v0_cell, v0_refusals, v0_imaged, v0_hasImage, v0_before, v0_up, v0_down, v0_beneath, v0_numberUp, v0_numberDown, v0_block, v0_blocks, v0_merged, v0_valueUp, v0_valueDown, v0_said, v0_saids, v0_at, v0_number) p1 p2 p3) (fun u => u.1) (fun u => wX10 a0 g v0_papers u.2.1 v0_kind v0_figure v0_heavy v0_place v0_rules v0_lower v0_upper v0_limits v0_limit v0_ties v0_letter v0_letters v0_told v0_tolds v0_places v0_cell u.2.2.1 v0_imaged v0_hasImage v0_before u.2.2.2.1 u.2.2.2.2.1 u.2.2.2.2.2.1 v0_numberUp v0_numberDown v0_block v0_blocks v0_merged u.2.2.2.2.2.2.1 u.2.2.2.2.2.2.2 v0_said v0_saids v0_at v0_number) A) [.ref (a0 0), .int p1, .int p2, .int p3].toArray s 0 0 A) (F0 m 66 ls [])) (E := fun r13 => ∀ (H : Heap) (locs : List Loc) (ls : Array Slot), va_P g.1 vwCl (wX10 a0 g v0_papers r13.2.1 v0_kind v0_figure v0_heavy v0_place v0_rules v0_lower v0_upper v0_limits v0_limit v0_ties v0_letter v0_letters v0_told v0_tolds v0_places v0_cell v0_refusals v0_imaged v0_hasImage v0_before r13.2.2.1 r13.2.2.2.1 r13.2.2.2.2.1 v0_numberUp v0_numberDown v0_block v0_blocks v0_merged r13.2.2.2.2.2.1 r13.2.2.2.2.2.2 v0_said v0_saids v0_at v0_number) H → va_D A (wX10 a0 g v0_papers r13.2.1 v0_kind v0_figure v0_heavy v0_place v0_rules v0_lower v0_upper v0_limits v0_limit v0_ties v0_letter v0_letters v0_told v0_tolds v0_places v0_cell v0_refusals v0_imaged v0_hasImage v0_before r13.2.2.1 r13.2.2.2.1 r13.2.2.2.2.1 v0_numberUp v0_numberDown v0_block v0_blocks v0_merged r13.2.2.2.2.2.1 r13.2.2.2.2.2.2 v0_said v0_saids v0_at v0_number) → va_S A s.heap H locs → lv_has ls 7 [(0, .ref (a0 0)), (2, .int p2), (4, .int (v0_raw p2.toNatClampNeg)), (5, .int r13.1)] → W p l e { frames := 8, cells := 0, slots := 0, locals := 183 } s m [.ref (a0 0), .int p1, .int p2, .int p3].toArray below meth c H locs 0 0 (MQ below (Qi g .int (m_X10_needs (v0_papers, v0_raw, v0_kind, v0_figure, v0_heavy, v0_place, v0_rules, v0_lower, v0_upper, v0_limits, v0_limit, v0_ties, v0_letter, v0_letters, v0_told, v0_tolds, v0_places, v0_cell, v0_refusals, v0_imaged, v0_hasImage, v0_before, v0_up, v0_down, v0_beneath, v0_numberUp, v0_numberDown, v0_block, v0_blocks, v0_merged, v0_valueUp, v0_valueDown, v0_said, v0_saids, v0_at, v0_number) p1 p2 p3) (fun u => u.1) (fun u => wX10 a0 g v0_papers u.2.1 v0_kind v0_figure v0_heavy v0_place v0_rules v0_lower v0_upper v0_limits v0_limit v0_ties v0_letter v0_letters v0_told v0_tolds v0_places v0_cell u.2.2.1 v0_imaged v0_hasImage v0_before u.2.2.2.1 u.2.2.2.2.1 u.2.2.2.2.2.1 v0_numberUp v0_numberDown v0_block v0_blocks v0_merged u.2.2.2.2.2.2.1 u.2.2.2.2.2.2.2 v0_said v0_saids v0_at v0_number) A) [.ref (a0 0), .int p1, .int p2, .int p3].toArray s 0 0 A) (F0 m 113 ls [])) ?_ fu _ r13 er13 ?_ _ _ _ hP hD hS (lv_sub hl [3, 4, 5, 6, 2, 1, 0] rfl)
          · rintro ⟨x4, x5, x6, x7, x8, x9, x10, x11⟩ y hf hB hXt H locs ls hP hD hS hl
            have hP : va_P g.1 vwCl (wX10 a0 g v0_papers x6 v0_kind v0_figure v0_heavy v0_place v0_rules v0_lower v0_upper v0_limits v0_limit v0_ties v0_letter v0_letters v0_told v0_tolds v0_places v0_cell v0_refusals v0_imaged v0_hasImage v0_before x7 x8 x9 v0_numberUp v0_numberDown v0_block v0_blocks v0_merged x10 x11 v0_said v0_saids v0_at v0_number) H := hP
            have hD : va_D A (wX10 a0 g v0_papers x6 v0_kind v0_figure v0_heavy v0_place v0_rules v0_lower v0_upper v0_limits v0_limit v0_ties v0_letter v0_letters v0_told v0_tolds v0_places v0_cell v0_refusals v0_imaged v0_hasImage v0_before x7 x8 x9 v0_numberUp v0_numberDown v0_block v0_blocks v0_merged x10 x11 v0_said v0_saids v0_at v0_number) := hD
            have hl : lv_has ls 7 [(0, .ref (a0 0)), (1, .int p1), (2, .int p2), (3, .int p3), (4, .int (v0_raw p2.toNatClampNeg)), (5, .int x4), (6, .int x5)] := hl
            have hf : m_X10_needs_l66 (v0_papers, v0_raw, v0_kind, v0_figure, v0_heavy, v0_place, v0_rules, v0_lower, v0_upper, v0_limits, v0_limit, v0_ties, v0_letter, v0_letters, v0_told, v0_tolds, v0_places, v0_cell, v0_refusals, v0_imaged, v0_hasImage, v0_before, v0_up, v0_down, v0_beneath, v0_numberUp, v0_numberDown, v0_block, v0_blocks, v0_merged, v0_valueUp, v0_valueDown, v0_said, v0_saids, v0_at, v0_number) p1 p2 p3 x4 x5 x6 x7 x8 x9 x10 x11 = some y := hf
            unfold m_X10_needs_l66 at hf
            refine lv_iload hx hb dX10_needs_66 (lv_at hl 6 rfl) ?_
            refine lv_bipush (v := 100) hx hb dX10_needs_68 (by decide) ?_
            refine lv_icmp_ge (tgt := 113) hx hb dX10_needs_70 (by decide) (fun cb => ?_) (fun cb => ?_)
            · have hf := it_t cb hf
              exact hXt _ (Option.some.inj hf).symm _ _ _ hP hD hS (lv_sub hl [0, 2, 4, 5] rfl)
            have hf := it_f cb hf
            refine lv_iload hx hb dX10_needs_73 (lv_at hl 5 rfl) ?_
            refine lv_bipush (v := (-9)) hx hb dX10_needs_75 (by decide) ?_
            refine lv_icmp_ne (tgt := 113) hx hb dX10_needs_77 (by decide) (fun cb => ?_) (fun cb => ?_)
            · have hf := it_f cb hf
              exact hXt _ (Option.some.inj hf).symm _ _ _ hP hD hS (lv_sub hl [0, 2, 4, 5] rfl)
            have hf := it_t cb hf
            refine lv_aload_n hx hb dX10_needs_80 rfl (lv_at hl 0 rfl) ?_
            refine va_get (D := g.1) (ci := 11) (v := .ref (a0 1)) (C := RX10) (T := TX10) (N := 36) hx hb hts layX10 hown hK.1 hP 0 rfl rfl 1 (by decide) (hts _ kw1278) (fun _ h9 => h9) rfl dX10_needs_81 ?_
            refine lv_iload_n hx hb dX10_needs_84 rfl (lv_at hl 2 rfl) ?_
            refine lv_iload hx hb dX10_needs_85 (lv_at hl 6 rfl) ?_
            have hi := it_n hf
            have hf := it_t hi hf
            refine va_iast hx hb hK.1 hP hD hS 1 0 rfl rfl (inb_in hi) dX10_needs_87 (fun H locs hP hD hS => ?_)
            have hP : va_P g.1 vwCl (wX10 a0 g v0_papers (upd x6 p2.toNatClampNeg x5) v0_kind v0_figure v0_heavy v0_place v0_rules v0_lower v0_upper v0_limits v0_limit v0_ties v0_letter v0_letters v0_told v0_tolds v0_places v0_cell v0_refusals v0_imaged v0_hasImage v0_before x7 x8 x9 v0_numberUp v0_numberDown v0_block v0_blocks v0_merged x10 x11 v0_said v0_saids v0_at v0_number) H := hP
            have hD : va_D A (wX10 a0 g v0_papers (upd x6 p2.toNatClampNeg x5) v0_kind v0_figure v0_heavy v0_place v0_rules v0_lower v0_upper v0_limits v0_limit v0_ties v0_letter v0_letters v0_told v0_tolds v0_places v0_cell v0_refusals v0_imaged v0_hasImage v0_before x7 x8 x9 v0_numberUp v0_numberDown v0_block v0_blocks v0_merged x10 x11 v0_said v0_saids v0_at v0_number) := hD
            refine lv_aload_n hx hb dX10_needs_88 rfl (lv_at hl 0 rfl) ?_
            refine lv_iload_n hx hb dX10_needs_89 rfl (lv_at hl 1 rfl) ?_
            refine lv_iload_n hx hb dX10_needs_90 rfl (lv_at hl 2 rfl) ?_
            refine cI hP hD hS hA hE (fun hPc hDc hSc => rV (As := [.int p1, .int p2]) (rest := []) hx hb hml hown hts hK (c_X10_gradeBy l g a0 v0_papers (upd x6 p2.toNatClampNeg x5) v0_kind v0_figure v0_heavy v0_place v0_rules v0_lower v0_upper v0_limits v0_limit v0_ties v0_letter v0_letters v0_told v0_tolds v0_places v0_cell v0_refusals v0_imaged v0_hasImage v0_before x7 x8 x9 v0_numberUp v0_numberDown v0_block v0_blocks v0_merged x10 x11 v0_said v0_saids v0_at v0_number p1 p2 (bnd_ne hf)) svV_X10_gradeBy kw1583 rfl rfl hPc hDc hSc rfl rfl hl.1 (Nat.le_of_ble_eq_true rfl) dX10_needs_91 ⟨Nat.le_of_ble_eq_true rfl, Nat.le_of_ble_eq_true rfl, rfl, rfl, Nat.le_of_ble_eq_true rfl, Nat.le_of_ble_eq_true rfl⟩) [(0, 22)] rfl rfl rfl (fun _ => rfl) (fun x12 H locs ex12 nx12 hP hD hS => ?_)
            have hf := bnd_of hf ex12
            have hP : va_P g.1 vwCl (wX10 a0 g v0_papers (upd x6 p2.toNatClampNeg x5) v0_kind v0_figure v0_heavy v0_place v0_rules v0_lower v0_upper v0_limits v0_limit v0_ties v0_letter v0_letters v0_told v0_tolds v0_places v0_cell v0_refusals v0_imaged v0_hasImage v0_before x12.2.1 x12.2.2.1 x12.2.2.2.1 v0_numberUp v0_numberDown v0_block v0_blocks v0_merged x12.2.2.2.2.1 x12.2.2.2.2.2 v0_said v0_saids v0_at v0_number) H := hP
            have hD : va_D A (wX10 a0 g v0_papers (upd x6 p2.toNatClampNeg x5) v0_kind v0_figure v0_heavy v0_place v0_rules v0_lower v0_upper v0_limits v0_limit v0_ties v0_letter v0_letters v0_told v0_tolds v0_places v0_cell v0_refusals v0_imaged v0_hasImage v0_before x12.2.1 x12.2.2.1 x12.2.2.2.1 v0_numberUp v0_numberDown v0_block v0_blocks v0_merged x12.2.2.2.2.1 x12.2.2.2.2.2 v0_said v0_saids v0_at v0_number) := hD
            refine lv_iload_n hx hb dX10_needs_94 rfl (lv_at hl 3 rfl) ?_
            refine lv_icmp_lt (tgt := 103) hx hb dX10_needs_95 (by decide) (fun cb => ?_) (fun cb => ?_)
            · have hf := it_t cb hf
              refine lv_bipush (v := (-9)) hx hb dX10_needs_103 (by decide) ?_
              refine lv_istore (lv' := [(5, .int (-9 : Int32)), (0, .ref (a0 0)), (1, .int p1), (2, .int p2), (3, .int p3), (4, .int (v0_raw p2.toNatClampNeg)), (6, .int x5)]) hx hb dX10_needs_105 hl (by decide) rfl (fun ls hl => ?_)
              refine lv_iinc (v := (x5 + 1)) (lv' := [(6, .int (x5 + 1)), (5, .int (-9 : Int32)), (0, .ref (a0 0)), (1, .int p1), (2, .int p2), (3, .int p3), (4, .int (v0_raw p2.toNatClampNeg))]) hx hb dX10_needs_107 hl (k := 6) rfl (by rfl) (by decide) rfl (fun ls hl => ?_)
              refine lv_goto (tgt := 66) hx hb dX10_needs_110 (by decide) ?_
              exact hB _ (Option.some.inj hf).symm _ _ _ hP hD hS (lv_sub hl [2, 3, 4, 5, 6, 1, 0] rfl)
            have hf := it_f cb hf
            refine lv_iload hx hb dX10_needs_98 (lv_at hl 6 rfl) ?_
            refine lv_goto (tgt := 105) hx hb dX10_needs_100 (by decide) ?_
            refine lv_istore (lv' := [(5, .int x5), (0, .ref (a0 0)), (1, .int p1), (2, .int p2), (3, .int p3), (4, .int (v0_raw p2.toNatClampNeg)), (6, .int x5)]) hx hb dX10_needs_105 hl (by decide) rfl (fun ls hl => ?_)
            refine lv_iinc (v := (x5 + 1)) (lv' := [(6, .int (x5 + 1)), (5, .int x5), (0, .ref (a0 0)), (1, .int p1), (2, .int p2), (3, .int p3), (4, .int (v0_raw p2.toNatClampNeg))]) hx hb dX10_needs_107 hl (k := 6) rfl (by rfl) (by decide) rfl (fun ls hl => ?_)
            refine lv_goto (tgt := 66) hx hb dX10_needs_110 (by decide) ?_
            exact hB _ (Option.some.inj hf).symm _ _ _ hP hD hS (lv_sub hl [2, 3, 4, 5, 6, 1, 0] rfl)
          intro H locs ls hP hD hS hl
          have hP : va_P g.1 vwCl (wX10 a0 g v0_papers r13.2.1 v0_kind v0_figure v0_heavy v0_place v0_rules v0_lower v0_upper v0_limits v0_limit v0_ties v0_letter v0_letters v0_told v0_tolds v0_places v0_cell v0_refusals v0_imaged v0_hasImage v0_before r13.2.2.1 r13.2.2.2.1 r13.2.2.2.2.1 v0_numberUp v0_numberDown v0_block v0_blocks v0_merged r13.2.2.2.2.2.1 r13.2.2.2.2.2.2 v0_said v0_saids v0_at v0_number) H := hP
          have hD : va_D A (wX10 a0 g v0_papers r13.2.1 v0_kind v0_figure v0_heavy v0_place v0_rules v0_lower v0_upper v0_limits v0_limit v0_ties v0_letter v0_letters v0_told v0_tolds v0_places v0_cell v0_refusals v0_imaged v0_hasImage v0_before r13.2.2.1 r13.2.2.2.1 r13.2.2.2.2.1 v0_numberUp v0_numberDown v0_block v0_blocks v0_merged r13.2.2.2.2.2.1 r13.2.2.2.2.2.2 v0_said v0_saids v0_at v0_number) := hD
          have hl : lv_has ls 7 [(0, .ref (a0 0)), (2, .int p2), (4, .int (v0_raw p2.toNatClampNeg)), (5, .int r13.1)] := hl
          refine lv_aload_n hx hb dX10_needs_113 rfl (lv_at hl 0 rfl) ?_
          refine va_get (D := g.1) (ci := 11) (v := .ref (a0 1)) (C := RX10) (T := TX10) (N := 36) hx hb hts layX10 hown hK.1 hP 0 rfl rfl 1 (by decide) (hts _ kw1278) (fun _ h9 => h9) rfl dX10_needs_114 ?_
          refine lv_iload_n hx hb dX10_needs_117 rfl (lv_at hl 1 rfl) ?_
          refine lv_iload hx hb dX10_needs_118 (lv_at hl 2 rfl) ?_
          have hi := it_n hf
          have hf := it_t hi hf
          refine va_iast hx hb hK.1 hP hD hS 1 0 rfl rfl (inb_in hi) dX10_needs_120 (fun H locs hP hD hS => ?_)
          have hP : va_P g.1 vwCl (wX10 a0 g v0_papers (upd r13.2.1 p2.toNatClampNeg (v0_raw p2.toNatClampNeg)) v0_kind v0_figure v0_heavy v0_place v0_rules v0_lower v0_upper v0_limits v0_limit v0_ties v0_letter v0_letters v0_told v0_tolds v0_places v0_cell v0_refusals v0_imaged v0_hasImage v0_before r13.2.2.1 r13.2.2.2.1 r13.2.2.2.2.1 v0_numberUp v0_numberDown v0_block v0_blocks v0_merged r13.2.2.2.2.2.1 r13.2.2.2.2.2.2 v0_said v0_saids v0_at v0_number) H := hP
          have hD : va_D A (wX10 a0 g v0_papers (upd r13.2.1 p2.toNatClampNeg (v0_raw p2.toNatClampNeg)) v0_kind v0_figure v0_heavy v0_place v0_rules v0_lower v0_upper v0_limits v0_limit v0_ties v0_letter v0_letters v0_told v0_tolds v0_places v0_cell v0_refusals v0_imaged v0_hasImage v0_before r13.2.2.1 r13.2.2.2.1 r13.2.2.2.2.1 v0_numberUp v0_numberDown v0_block v0_blocks v0_merged r13.2.2.2.2.2.1 r13.2.2.2.2.2.2 v0_said v0_saids v0_at v0_number) := hD
          refine lv_iload hx hb dX10_needs_121 (lv_at hl 3 rfl) ?_
          exact retI (v := r13.1) (u := (r13.1, (upd r13.2.1 p2.toNatClampNeg (v0_raw p2.toNatClampNeg)), v0_refusals, r13.2.2.1, r13.2.2.2.1, r13.2.2.2.2.1, r13.2.2.2.2.2.1, r13.2.2.2.2.2.2)) (val := fun u => u.1) (W1 := fun u => wX10 a0 g v0_papers u.2.1 v0_kind v0_figure v0_heavy v0_place v0_rules v0_lower v0_upper v0_limits v0_limit v0_ties v0_letter v0_letters v0_told v0_tolds v0_places v0_cell u.2.2.1 v0_imaged v0_hasImage v0_before u.2.2.2.1 u.2.2.2.2.1 u.2.2.2.2.2.1 v0_numberUp v0_numberDown v0_block v0_blocks v0_merged u.2.2.2.2.2.2.1 u.2.2.2.2.2.2.2 v0_said v0_saids v0_at v0_number) hx hb hr hlocks hS hP hD (hf0.trans hf.symm) rfl rfl dX10_needs_123
        have hf := it_f cb hf
        refine lv_aload_n hx hb dX10_needs_44 rfl (lv_at hl 0 rfl) ?_
        refine lv_bipush (v := (-6)) hx hb dX10_needs_45 (by decide) ?_
        refine cI hP hD hS hA hE (fun hPc hDc hSc => rV (As := [.int (-6 : Int32)]) (rest := []) hx hb hml hown hts hK (c_X10_no l g a0 v0_papers v0_raw v0_kind v0_figure v0_heavy v0_place v0_rules v0_lower v0_upper v0_limits v0_limit v0_ties v0_letter v0_letters v0_told v0_tolds v0_places v0_cell v0_refusals v0_imaged v0_hasImage v0_before v0_up v0_down v0_beneath v0_numberUp v0_numberDown v0_block v0_blocks v0_merged v0_valueUp v0_valueDown v0_said v0_saids v0_at v0_number (-6 : Int32) (bnd_ne hf)) svV_X10_no kw1354 rfl rfl hPc hDc hSc rfl rfl hl.1 (Nat.le_of_ble_eq_true rfl) dX10_needs_47 ⟨Nat.le_of_ble_eq_true rfl, Nat.le_of_ble_eq_true rfl, rfl, rfl, Nat.le_of_ble_eq_true rfl, Nat.le_of_ble_eq_true rfl⟩) [(0, 22)] rfl rfl rfl (fun _ => rfl) (fun x14 H locs ex14 nx14 hP hD hS => ?_)
        have hf := bnd_of hf ex14
        have hP : va_P g.1 vwCl (wX10 a0 g v0_papers v0_raw v0_kind v0_figure v0_heavy v0_place v0_rules v0_lower v0_upper v0_limits v0_limit v0_ties v0_letter v0_letters v0_told v0_tolds v0_places v0_cell x14.2 v0_imaged v0_hasImage v0_before v0_up v0_down v0_beneath v0_numberUp v0_numberDown v0_block v0_blocks v0_merged v0_valueUp v0_valueDown v0_said v0_saids v0_at v0_number) H := hP
        have hD : va_D A (wX10 a0 g v0_papers v0_raw v0_kind v0_figure v0_heavy v0_place v0_rules v0_lower v0_upper v0_limits v0_limit v0_ties v0_letter v0_letters v0_told v0_tolds v0_places v0_cell x14.2 v0_imaged v0_hasImage v0_before v0_up v0_down v0_beneath v0_numberUp v0_numberDown v0_block v0_blocks v0_merged v0_valueUp v0_valueDown v0_said v0_saids v0_at v0_number) := hD
        exact retI (v := x14.1) (u := (x14.1, v0_raw, x14.2, v0_up, v0_down, v0_beneath, v0_valueUp, v0_valueDown)) (val := fun u => u.1) (W1 := fun u => wX10 a0 g v0_papers u.2.1 v0_kind v0_figure v0_heavy v0_place v0_rules v0_lower v0_upper v0_limits v0_limit v0_ties v0_letter v0_letters v0_told v0_tolds v0_places v0_cell u.2.2.1 v0_imaged v0_hasImage v0_before u.2.2.2.1 u.2.2.2.2.1 u.2.2.2.2.2.1 v0_numberUp v0_numberDown v0_block v0_blocks v0_merged u.2.2.2.2.2.2.1 u.2.2.2.2.2.2.2 v0_said v0_saids v0_at v0_number) hx hb hr hlocks hS hP hD (hf0.trans hf.symm) rfl rfl dX10_needs_50
      have hf := it_f cb hf
      refine lv_aload_n hx hb dX10_needs_32 rfl (lv_at hl 0 rfl) ?_
      refine lv_bipush (v := (-4)) hx hb dX10_needs_33 (by decide) ?_
      refine cI hP hD hS hA hE (fun hPc hDc hSc => rV (As := [.int (-4 : Int32)]) (rest := []) hx hb hml hown hts hK (c_X10_no l g a0 v0_papers v0_raw v0_kind v0_figure v0_heavy v0_place v0_rules v0_lower v0_upper v0_limits v0_limit v0_ties v0_letter v0_letters v0_told v0_tolds v0_places v0_cell v0_refusals v0_imaged v0_hasImage v0_before v0_up v0_down v0_beneath v0_numberUp v0_numberDown v0_block v0_blocks v0_merged v0_valueUp v0_valueDown v0_said v0_saids v0_at v0_number (-4 : Int32) (bnd_ne hf)) svV_X10_no kw1354 rfl rfl hPc hDc hSc rfl rfl hl.1 (Nat.le_of_ble_eq_true rfl) dX10_needs_35 ⟨Nat.le_of_ble_eq_true rfl, Nat.le_of_ble_eq_true rfl, rfl, rfl, Nat.le_of_ble_eq_true rfl, Nat.le_of_ble_eq_true rfl⟩) [(0, 22)] rfl rfl rfl (fun _ => rfl) (fun x15 H locs ex15 nx15 hP hD hS => ?_)
      have hf := bnd_of hf ex15
      have hP : va_P g.1 vwCl (wX10 a0 g v0_papers v0_raw v0_kind v0_figure v0_heavy v0_place v0_rules v0_lower v0_upper v0_limits v0_limit v0_ties v0_letter v0_letters v0_told v0_tolds v0_places v0_cell x15.2 v0_imaged v0_hasImage v0_before v0_up v0_down v0_beneath v0_numberUp v0_numberDown v0_block v0_blocks v0_merged v0_valueUp v0_valueDown v0_said v0_saids v0_at v0_number) H := hP
      have hD : va_D A (wX10 a0 g v0_papers v0_raw v0_kind v0_figure v0_heavy v0_place v0_rules v0_lower v0_upper v0_limits v0_limit v0_ties v0_letter v0_letters v0_told v0_tolds v0_places v0_cell x15.2 v0_imaged v0_hasImage v0_before v0_up v0_down v0_beneath v0_numberUp v0_numberDown v0_block v0_blocks v0_merged v0_valueUp v0_valueDown v0_said v0_saids v0_at v0_number) := hD
      exact retI (v := x15.1) (u := (x15.1, v0_raw, x15.2, v0_up, v0_down, v0_beneath, v0_valueUp, v0_valueDown)) (val := fun u => u.1) (W1 := fun u => wX10 a0 g v0_papers u.2.1 v0_kind v0_figure v0_heavy v0_place v0_rules v0_lower v0_upper v0_limits v0_limit v0_ties v0_letter v0_letters v0_told v0_tolds v0_places v0_cell u.2.2.1 v0_imaged v0_hasImage v0_before u.2.2.2.1 u.2.2.2.2.1 u.2.2.2.2.2.1 v0_numberUp v0_numberDown v0_block v0_blocks v0_merged u.2.2.2.2.2.2.1 u.2.2.2.2.2.2.2 v0_said v0_saids v0_at v0_number) hx hb hr hlocks hS hP hD (hf0.trans hf.symm) rfl rfl dX10_needs_38
    have hf := it_t cb hf
    refine lv_aload_n hx hb dX10_needs_22 rfl (lv_at hl 0 rfl) ?_
    refine lv_iconst (v := (-1)) hx hb dX10_needs_23 (by decide) ?_
    refine cI hP hD hS hA hE (fun hPc hDc hSc => rV (As := [.int (-1 : Int32)]) (rest := []) hx hb hml hown hts hK (c_X10_no l g a0 v0_papers v0_raw v0_kind v0_figure v0_heavy v0_place v0_rules v0_lower v0_upper v0_limits v0_limit v0_ties v0_letter v0_letters v0_told v0_tolds v0_places v0_cell v0_refusals v0_imaged v0_hasImage v0_before v0_up v0_down v0_beneath v0_numberUp v0_numberDown v0_block v0_blocks v0_merged v0_valueUp v0_valueDown v0_said v0_saids v0_at v0_number (-1 : Int32) (bnd_ne hf)) svV_X10_no kw1354 rfl rfl hPc hDc hSc rfl rfl hl.1 (Nat.le_of_ble_eq_true rfl) dX10_needs_24 ⟨Nat.le_of_ble_eq_true rfl, Nat.le_of_ble_eq_true rfl, rfl, rfl, Nat.le_of_ble_eq_true rfl, Nat.le_of_ble_eq_true rfl⟩) [(0, 22)] rfl rfl rfl (fun _ => rfl) (fun x16 H locs ex16 nx16 hP hD hS => ?_)
    have hf := bnd_of hf ex16
    have hP : va_P g.1 vwCl (wX10 a0 g v0_papers v0_raw v0_kind v0_figure v0_heavy v0_place v0_rules v0_lower v0_upper v0_limits v0_limit v0_ties v0_letter v0_letters v0_told v0_tolds v0_places v0_cell x16.2 v0_imaged v0_hasImage v0_before v0_up v0_down v0_beneath v0_numberUp v0_numberDown v0_block v0_blocks v0_merged v0_valueUp v0_valueDown v0_said v0_saids v0_at v0_number) H := hP
    have hD : va_D A (wX10 a0 g v0_papers v0_raw v0_kind v0_figure v0_heavy v0_place v0_rules v0_lower v0_upper v0_limits v0_limit v0_ties v0_letter v0_letters v0_told v0_tolds v0_places v0_cell x16.2 v0_imaged v0_hasImage v0_before v0_up v0_down v0_beneath v0_numberUp v0_numberDown v0_block v0_blocks v0_merged v0_valueUp v0_valueDown v0_said v0_saids v0_at v0_number) := hD
    exact retI (v := x16.1) (u := (x16.1, v0_raw, x16.2, v0_up, v0_down, v0_beneath, v0_valueUp, v0_valueDown)) (val := fun u => u.1) (W1 := fun u => wX10 a0 g v0_papers u.2.1 v0_kind v0_figure v0_heavy v0_place v0_rules v0_lower v0_upper v0_limits v0_limit v0_ties v0_letter v0_letters v0_told v0_tolds v0_places v0_cell u.2.2.1 v0_imaged v0_hasImage v0_before u.2.2.2.1 u.2.2.2.2.1 u.2.2.2.2.2.1 v0_numberUp v0_numberDown v0_block v0_blocks v0_merged u.2.2.2.2.2.2.1 u.2.2.2.2.2.2.2 v0_said v0_saids v0_at v0_number) hx hb hr hlocks hS hP hD (hf0.trans hf.symm) rfl rfl dX10_needs_27
  have hf := it_t cb hf
  refine lv_aload_n hx hb dX10_needs_7 rfl (lv_at hl 0 rfl) ?_
  refine lv_bipush (v := (-2)) hx hb dX10_needs_8 (by decide) ?_
  refine cI hP hD hS hA hE (fun hPc hDc hSc => rV (As := [.int (-2 : Int32)]) (rest := []) hx hb hml hown hts hK (c_X10_no l g a0 v0_papers v0_raw v0_kind v0_figure v0_heavy v0_place v0_rules v0_lower v0_upper v0_limits v0_limit v0_ties v0_letter v0_letters v0_told v0_tolds v0_places v0_cell v0_refusals v0_imaged v0_hasImage v0_before v0_up v0_down v0_beneath v0_numberUp v0_numberDown v0_block v0_blocks v0_merged v0_valueUp v0_valueDown v0_said v0_saids v0_at v0_number (-2 : Int32) (bnd_ne hf)) svV_X10_no kw1354 rfl rfl hPc hDc hSc rfl rfl hl.1 (Nat.le_of_ble_eq_true rfl) dX10_needs_10 ⟨Nat.le_of_ble_eq_true rfl, Nat.le_of_ble_eq_true rfl, rfl, rfl, Nat.le_of_ble_eq_true rfl, Nat.le_of_ble_eq_true rfl⟩) [(0, 22)] rfl rfl rfl (fun _ => rfl) (fun x17 H locs ex17 nx17 hP hD hS => ?_)
  have hf := bnd_of hf ex17
  have hP : va_P g.1 vwCl (wX10 a0 g v0_papers v0_raw v0_kind v0_figure v0_heavy v0_place v0_rules v0_lower v0_upper v0_limits v0_limit v0_ties v0_letter v0_letters v0_told v0_tolds v0_places v0_cell x17.2 v0_imaged v0_hasImage v0_before v0_up v0_down v0_beneath v0_numberUp v0_numberDown v0_block v0_blocks v0_merged v0_valueUp v0_valueDown v0_said v0_saids v0_at v0_number) H := hP
  have hD : va_D A (wX10 a0 g v0_papers v0_raw v0_kind v0_figure v0_heavy v0_place v0_rules v0_lower v0_upper v0_limits v0_limit v0_ties v0_letter v0_letters v0_told v0_tolds v0_places v0_cell x17.2 v0_imaged v0_hasImage v0_before v0_up v0_down v0_beneath v0_numberUp v0_numberDown v0_block v0_blocks v0_merged v0_valueUp v0_valueDown v0_said v0_saids v0_at v0_number) := hD
  exact retI (v := x17.1) (u := (x17.1, v0_raw, x17.2, v0_up, v0_down, v0_beneath, v0_valueUp, v0_valueDown)) (val := fun u => u.1) (W1 := fun u => wX10 a0 g v0_papers u.2.1 v0_kind v0_figure v0_heavy v0_place v0_rules v0_lower v0_upper v0_limits v0_limit v0_ties v0_letter v0_letters v0_told v0_tolds v0_places v0_cell u.2.2.1 v0_imaged v0_hasImage v0_before u.2.2.2.1 u.2.2.2.2.1 u.2.2.2.2.2.1 v0_numberUp v0_numberDown v0_block v0_blocks v0_merged u.2.2.2.2.2.2.1 u.2.2.2.2.2.2.2 v0_said v0_saids v0_at v0_number) hx hb hr hlocks hS hP hD (hf0.trans hf.symm) rfl rfl dX10_needs_13
