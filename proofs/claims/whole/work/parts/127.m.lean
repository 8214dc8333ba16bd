theorem svV_X10_sayOthers : SV RX10 yX10_sayOthers cX10_sayOthers 4 none 1 := ⟨kw1642, kw1884, kw16, kw1643, rfl, by decide, by decide, by decide +kernel⟩
theorem svV_X10_sayAll : SV RX10 yX10_sayAll cX10_sayAll 2 none 1 := ⟨kw1631, kw1881, kw16, kw1632, rfl, by decide, by decide, by decide +kernel⟩
theorem svV_X10_isTold : SV RX10 yX10_isTold cX10_isTold 4 (some .boolean) 2 := ⟨kw1654, kw1886, kw16, kw1655, rfl, by decide, by decide, by decide +kernel⟩
theorem dX10_sayAll_0 : decode cX10_sayAll 0 = .ok (.aload_n 0, 1) := by decide +kernel
theorem dX10_sayAll_1 : decode cX10_sayAll 1 = .ok (.iconst 0, 1) := by decide +kernel
theorem dX10_sayAll_2 : decode cX10_sayAll 2 = .ok (.putfield 302, 3) := by decide +kernel
theorem dX10_sayAll_5 : decode cX10_sayAll 5 = .ok (.aload_n 0, 1) := by decide +kernel
theorem dX10_sayAll_6 : decode cX10_sayAll 6 = .ok (.iconst 0, 1) := by decide +kernel
theorem dX10_sayAll_7 : decode cX10_sayAll 7 = .ok (.aload_n 0, 1) := by decide +kernel
theorem dX10_sayAll_8 : decode cX10_sayAll 8 = .ok (.invokevirtual 134, 3) := by decide +kernel
theorem dX10_sayAll_11 : decode cX10_sayAll 11 = .ok (.invokevirtual 282, 3) := by decide +kernel
theorem dX10_sayAll_14 : decode cX10_sayAll 14 = .ok (.aload_n 0, 1) := by decide +kernel
theorem dX10_sayAll_15 : decode cX10_sayAll 15 = .ok (.iload_n 1, 1) := by decide +kernel
theorem dX10_sayAll_16 : decode cX10_sayAll 16 = .ok (.i2l, 1) := by decide +kernel
theorem dX10_sayAll_17 : decode cX10_sayAll 17 = .ok (.invokevirtual 321, 3) := by decide +kernel
theorem dX10_sayAll_20 : decode cX10_sayAll 20 = .ok (.aload_n 0, 1) := by decide +kernel
theorem dX10_sayAll_21 : decode cX10_sayAll 21 = .ok (.bipush 58, 2) := by decide +kernel
theorem dX10_sayAll_23 : decode cX10_sayAll 23 = .ok (.invokevirtual 309, 3) := by decide +kernel
theorem dX10_sayAll_26 : decode cX10_sayAll 26 = .ok (.aload_n 0, 1) := by decide +kernel
theorem dX10_sayAll_27 : decode cX10_sayAll 27 = .ok (.aload_n 0, 1) := by decide +kernel
theorem dX10_sayAll_28 : decode cX10_sayAll 28 = .ok (.iload_n 1, 1) := by decide +kernel
theorem dX10_sayAll_29 : decode cX10_sayAll 29 = .ok (.invokevirtual 151, 3) := by decide +kernel
theorem dX10_sayAll_32 : decode cX10_sayAll 32 = .ok (.i2l, 1) := by decide +kernel
theorem dX10_sayAll_33 : decode cX10_sayAll 33 = .ok (.invokevirtual 321, 3) := by decide +kernel
theorem dX10_sayAll_36 : decode cX10_sayAll 36 = .ok (.aload_n 0, 1) := by decide +kernel
theorem dX10_sayAll_37 : decode cX10_sayAll 37 = .ok (.aload_n 0, 1) := by decide +kernel
theorem dX10_sayAll_38 : decode cX10_sayAll 38 = .ok (.getfield 62, 3) := by decide +kernel
theorem dX10_sayAll_41 : decode cX10_sayAll 41 = .ok (.iload_n 1, 1) := by decide +kernel
theorem dX10_sayAll_42 : decode cX10_sayAll 42 = .ok (.iaload, 1) := by decide +kernel
theorem dX10_sayAll_43 : decode cX10_sayAll 43 = .ok (.i2l, 1) := by decide +kernel
theorem dX10_sayAll_44 : decode cX10_sayAll 44 = .ok (.aload_n 0, 1) := by decide +kernel
theorem dX10_sayAll_45 : decode cX10_sayAll 45 = .ok (.iload_n 1, 1) := by decide +kernel
theorem dX10_sayAll_46 : decode cX10_sayAll 46 = .ok (.invokevirtual 151, 3) := by decide +kernel
theorem dX10_sayAll_49 : decode cX10_sayAll 49 = .ok (.i2l, 1) := by decide +kernel
theorem dX10_sayAll_50 : decode cX10_sayAll 50 = .ok (.aload_n 0, 1) := by decide +kernel
theorem dX10_sayAll_51 : decode cX10_sayAll 51 = .ok (.getfield 65, 3) := by decide +kernel
theorem dX10_sayAll_54 : decode cX10_sayAll 54 = .ok (.iload_n 1, 1) := by decide +kernel
theorem dX10_sayAll_55 : decode cX10_sayAll 55 = .ok (.iaload, 1) := by decide +kernel
theorem dX10_sayAll_56 : decode cX10_sayAll 56 = .ok (.i2l, 1) := by decide +kernel
theorem dX10_sayAll_57 : decode cX10_sayAll 57 = .ok (.lmul, 1) := by decide +kernel
theorem dX10_sayAll_58 : decode cX10_sayAll 58 = .ok (.lsub, 1) := by decide +kernel
theorem dX10_sayAll_59 : decode cX10_sayAll 59 = .ok (.aload_n 0, 1) := by decide +kernel
theorem dX10_sayAll_60 : decode cX10_sayAll 60 = .ok (.getfield 65, 3) := by decide +kernel
theorem dX10_sayAll_63 : decode cX10_sayAll 63 = .ok (.iload_n 1, 1) := by decide +kernel
theorem dX10_sayAll_64 : decode cX10_sayAll 64 = .ok (.iaload, 1) := by decide +kernel
theorem dX10_sayAll_65 : decode cX10_sayAll 65 = .ok (.i2l, 1) := by decide +kernel
theorem dX10_sayAll_66 : decode cX10_sayAll 66 = .ok (.invokevirtual 102, 3) := by decide +kernel
theorem dX10_sayAll_69 : decode cX10_sayAll 69 = .ok (.aload_n 0, 1) := by decide +kernel
theorem dX10_sayAll_70 : decode cX10_sayAll 70 = .ok (.getfield 95, 3) := by decide +kernel
theorem dX10_sayAll_73 : decode cX10_sayAll 73 = .ok (.lconst 0, 1) := by decide +kernel
theorem dX10_sayAll_141 : decode cX10_sayAll 141 = .ok (.aload_n 0, 1) := by decide +kernel
theorem dX10_sayAll_142 : decode cX10_sayAll 142 = .ok (.bipush 32, 2) := by decide +kernel
theorem dX10_sayAll_144 : decode cX10_sayAll 144 = .ok (.invokevirtual 309, 3) := by decide +kernel
theorem dX10_sayAll_147 : decode cX10_sayAll 147 = .ok (.aload_n 0, 1) := by decide +kernel
theorem dX10_sayAll_148 : decode cX10_sayAll 148 = .ok (.bipush 65, 2) := by decide +kernel
theorem dX10_sayAll_150 : decode cX10_sayAll 150 = .ok (.aload_n 0, 1) := by decide +kernel
theorem dX10_sayAll_151 : decode cX10_sayAll 151 = .ok (.aload_n 0, 1) := by decide +kernel
theorem dX10_sayAll_152 : decode cX10_sayAll 152 = .ok (.getfield 62, 3) := by decide +kernel
theorem dX10_sayAll_155 : decode cX10_sayAll 155 = .ok (.iload_n 1, 1) := by decide +kernel
theorem dX10_sayAll_156 : decode cX10_sayAll 156 = .ok (.iaload, 1) := by decide +kernel
theorem dX10_sayAll_157 : decode cX10_sayAll 157 = .ok (.i2l, 1) := by decide +kernel
theorem dX10_sayAll_158 : decode cX10_sayAll 158 = .ok (.aload_n 0, 1) := by decide +kernel
theorem dX10_sayAll_159 : decode cX10_sayAll 159 = .ok (.getfield 65, 3) := by decide +kernel
theorem dX10_sayAll_162 : decode cX10_sayAll 162 = .ok (.iload_n 1, 1) := by decide +kernel
theorem dX10_sayAll_163 : decode cX10_sayAll 163 = .ok (.iaload, 1) := by decide +kernel
theorem dX10_sayAll_164 : decode cX10_sayAll 164 = .ok (.i2l, 1) := by decide +kernel
theorem dX10_sayAll_165 : decode cX10_sayAll 165 = .ok (.invokevirtual 157, 3) := by decide +kernel
theorem dX10_sayAll_168 : decode cX10_sayAll 168 = .ok (.iadd, 1) := by decide +kernel
theorem dX10_sayAll_169 : decode cX10_sayAll 169 = .ok (.invokevirtual 309, 3) := by decide +kernel
theorem dX10_sayAll_172 : decode cX10_sayAll 172 = .ok (.aload_n 0, 1) := by decide +kernel
theorem dX10_sayAll_173 : decode cX10_sayAll 173 = .ok (.aload_n 0, 1) := by decide +kernel
theorem dX10_sayAll_174 : decode cX10_sayAll 174 = .ok (.iload_n 1, 1) := by decide +kernel
theorem dX10_sayAll_175 : decode cX10_sayAll 175 = .ok (.invokevirtual 299, 3) := by decide +kernel
theorem dX10_sayAll_178 : decode cX10_sayAll 178 = .ok (.iconst 1, 1) := by decide +kernel
theorem dX10_sayAll_179 : decode cX10_sayAll 179 = .ok (.iload_n 1, 1) := by decide +kernel
theorem dX10_sayAll_180 : decode cX10_sayAll 180 = .ok (.ishl, 1) := by decide +kernel
theorem dX10_sayAll_181 : decode cX10_sayAll 181 = .ok (.iconst (-1), 1) := by decide +kernel
theorem dX10_sayAll_182 : decode cX10_sayAll 182 = .ok (.ixor, 1) := by decide +kernel
theorem dX10_sayAll_183 : decode cX10_sayAll 183 = .ok (.iand, 1) := by decide +kernel
theorem dX10_sayAll_184 : decode cX10_sayAll 184 = .ok (.invokevirtual 325, 3) := by decide +kernel
theorem dX10_sayAll_187 : decode cX10_sayAll 187 = .ok (.return_, 1) := by decide +kernel
theorem dX10_sayAll_74 : decode cX10_sayAll 74 = .ok (.lcmp, 1) := by decide +kernel
theorem dX10_sayAll_75 : decode cX10_sayAll 75 = .ok (.ifCond .ne 12, 3) := by decide +kernel
theorem dX10_sayAll_87 : decode cX10_sayAll 87 = .ok (.aload_n 0, 1) := by decide +kernel
theorem dX10_sayAll_88 : decode cX10_sayAll 88 = .ok (.aload_n 0, 1) := by decide +kernel
theorem dX10_sayAll_89 : decode cX10_sayAll 89 = .ok (.getfield 95, 3) := by decide +kernel
theorem dX10_sayAll_92 : decode cX10_sayAll 92 = .ok (.lconst 0, 1) := by decide +kernel
theorem dX10_sayAll_104 : decode cX10_sayAll 104 = .ok (.invokevirtual 309, 3) := by decide +kernel
theorem dX10_sayAll_107 : decode cX10_sayAll 107 = .ok (.aload_n 0, 1) := by decide +kernel
theorem dX10_sayAll_108 : decode cX10_sayAll 108 = .ok (.aload_n 0, 1) := by decide +kernel
theorem dX10_sayAll_109 : decode cX10_sayAll 109 = .ok (.getfield 95, 3) := by decide +kernel
theorem dX10_sayAll_112 : decode cX10_sayAll 112 = .ok (.invokestatic 245, 3) := by decide +kernel
theorem dX10_sayAll_115 : decode cX10_sayAll 115 = .ok (.invokevirtual 321, 3) := by decide +kernel
theorem dX10_sayAll_118 : decode cX10_sayAll 118 = .ok (.aload_n 0, 1) := by decide +kernel
theorem dX10_sayAll_119 : decode cX10_sayAll 119 = .ok (.getfield 99, 3) := by decide +kernel
theorem dX10_sayAll_122 : decode cX10_sayAll 122 = .ok (.lconst 1, 1) := by decide +kernel
theorem dX10_sayAll_123 : decode cX10_sayAll 123 = .ok (.lcmp, 1) := by decide +kernel
theorem dX10_sayAll_124 : decode cX10_sayAll 124 = .ok (.ifCond .le 17, 3) := by decide +kernel
theorem dX10_sayAll_127 : decode cX10_sayAll 127 = .ok (.aload_n 0, 1) := by decide +kernel
theorem dX10_sayAll_128 : decode cX10_sayAll 128 = .ok (.bipush 47, 2) := by decide +kernel
theorem dX10_sayAll_130 : decode cX10_sayAll 130 = .ok (.invokevirtual 309, 3) := by decide +kernel
theorem dX10_sayAll_133 : decode cX10_sayAll 133 = .ok (.aload_n 0, 1) := by decide +kernel
theorem dX10_sayAll_134 : decode cX10_sayAll 134 = .ok (.aload_n 0, 1) := by decide +kernel
theorem dX10_sayAll_135 : decode cX10_sayAll 135 = .ok (.getfield 99, 3) := by decide +kernel
theorem dX10_sayAll_138 : decode cX10_sayAll 138 = .ok (.invokevirtual 321, 3) := by decide +kernel
theorem dX10_sayAll_93 : decode cX10_sayAll 93 = .ok (.lcmp, 1) := by decide +kernel
theorem dX10_sayAll_94 : decode cX10_sayAll 94 = .ok (.ifCond .le 8, 3) := by decide +kernel
theorem dX10_sayAll_102 : decode cX10_sayAll 102 = .ok (.bipush 45, 2) := by decide +kernel
theorem dX10_sayAll_97 : decode cX10_sayAll 97 = .ok (.bipush 43, 2) := by decide +kernel
theorem dX10_sayAll_99 : decode cX10_sayAll 99 = .ok (.goto 5, 3) := by decide +kernel
theorem dX10_sayAll_78 : decode cX10_sayAll 78 = .ok (.aload_n 0, 1) := by decide +kernel
theorem dX10_sayAll_79 : decode cX10_sayAll 79 = .ok (.bipush 61, 2) := by decide +kernel
theorem dX10_sayAll_81 : decode cX10_sayAll 81 = .ok (.invokevirtual 309, 3) := by decide +kernel
theorem dX10_sayAll_84 : decode cX10_sayAll 84 = .ok (.goto 57, 3) := by decide +kernel
theorem dX10_says_0 : decode cX10_says 0 = .ok (.aload_n 0, 1) := by decide +kernel
theorem dX10_says_1 : decode cX10_says 1 = .ok (.iload_n 1, 1) := by decide +kernel
theorem dX10_says_2 : decode cX10_says 2 = .ok (.invokevirtual 122, 3) := by decide +kernel
theorem dX10_says_5 : decode cX10_says 5 = .ok (.ifCond .ne 9, 3) := by decide +kernel
theorem dX10_says_14 : decode cX10_says 14 = .ok (.aload_n 0, 1) := by decide +kernel
theorem dX10_says_15 : decode cX10_says 15 = .ok (.iload_n 1, 1) := by decide +kernel
theorem dX10_says_16 : decode cX10_says 16 = .ok (.invokevirtual 334, 3) := by decide +kernel
theorem dX10_says_19 : decode cX10_says 19 = .ok (.iload_n 2, 1) := by decide +kernel
theorem dX10_says_20 : decode cX10_says 20 = .ok (.iconst (-1), 1) := by decide +kernel
theorem dX10_says_21 : decode cX10_says 21 = .ok (.aload_n 0, 1) := by decide +kernel
theorem dX10_says_22 : decode cX10_says 22 = .ok (.getfield 302, 3) := by decide +kernel
theorem dX10_says_25 : decode cX10_says 25 = .ok (.iconst 1, 1) := by decide +kernel
theorem dX10_says_26 : decode cX10_says 26 = .ok (.isub, 1) := by decide +kernel
theorem dX10_says_27 : decode cX10_says 27 = .ok (.invokestatic 84, 3) := by decide +kernel
theorem dX10_says_30 : decode cX10_says 30 = .ok (.ifCond .ne 9, 3) := by decide +kernel
theorem dX10_says_39 : decode cX10_says 39 = .ok (.iload_n 2, 1) := by decide +kernel
theorem dX10_says_40 : decode cX10_says 40 = .ok (.ifCond .ge 10, 3) := by decide +kernel
theorem dX10_says_50 : decode cX10_says 50 = .ok (.aload_n 0, 1) := by decide +kernel
theorem dX10_says_51 : decode cX10_says 51 = .ok (.getfield 68, 3) := by decide +kernel
theorem dX10_says_54 : decode cX10_says 54 = .ok (.iload_n 2, 1) := by decide +kernel
theorem dX10_says_55 : decode cX10_says 55 = .ok (.iaload, 1) := by decide +kernel
theorem dX10_says_56 : decode cX10_says 56 = .ok (.ireturn, 1) := by decide +kernel
theorem dX10_says_43 : decode cX10_says 43 = .ok (.aload_n 0, 1) := by decide +kernel
theorem dX10_says_44 : decode cX10_says 44 = .ok (.getfield 302, 3) := by decide +kernel
theorem dX10_says_47 : decode cX10_says 47 = .ok (.goto 9, 3) := by decide +kernel
theorem dX10_says_33 : decode cX10_says 33 = .ok (.aload_n 0, 1) := by decide +kernel
theorem dX10_says_34 : decode cX10_says 34 = .ok (.iconst (-1), 1) := by decide +kernel
theorem dX10_says_35 : decode cX10_says 35 = .ok (.invokevirtual 76, 3) := by decide +kernel
theorem dX10_says_38 : decode cX10_says 38 = .ok (.ireturn, 1) := by decide +kernel
theorem dX10_says_8 : decode cX10_says 8 = .ok (.aload_n 0, 1) := by decide +kernel
theorem dX10_says_9 : decode cX10_says 9 = .ok (.iconst (-1), 1) := by decide +kernel
theorem dX10_says_10 : decode cX10_says 10 = .ok (.invokevirtual 76, 3) := by decide +kernel
theorem dX10_says_13 : decode cX10_says 13 = .ok (.ireturn, 1) := by decide +kernel
theorem dX10_isTold_0 : decode cX10_isTold 0 = .ok (.iconst 0, 1) := by decide +kernel
theorem dX10_isTold_1 : decode cX10_isTold 1 = .ok (.istore_n 3, 1) := by decide +kernel
theorem dX10_isTold_2 : decode cX10_isTold 2 = .ok (.iload_n 3, 1) := by decide +kernel
theorem dX10_isTold_3 : decode cX10_isTold 3 = .ok (.aload_n 0, 1) := by decide +kernel
theorem dX10_isTold_4 : decode cX10_isTold 4 = .ok (.getfield 337, 3) := by decide +kernel
theorem dX10_isTold_7 : decode cX10_isTold 7 = .ok (.if_icmp .ge 29, 3) := by decide +kernel
theorem dX10_isTold_10 : decode cX10_isTold 10 = .ok (.aload_n 0, 1) := by decide +kernel
theorem dX10_isTold_11 : decode cX10_isTold 11 = .ok (.getfield 37, 3) := by decide +kernel
theorem dX10_isTold_14 : decode cX10_isTold 14 = .ok (.iload_n 3, 1) := by decide +kernel
theorem dX10_isTold_15 : decode cX10_isTold 15 = .ok (.iaload, 1) := by decide +kernel
theorem dX10_isTold_16 : decode cX10_isTold 16 = .ok (.iload_n 1, 1) := by decide +kernel
theorem dX10_isTold_17 : decode cX10_isTold 17 = .ok (.iload_n 2, 1) := by decide +kernel
theorem dX10_isTold_18 : decode cX10_isTold 18 = .ok (.bipush 10, 2) := by decide +kernel
theorem dX10_isTold_20 : decode cX10_isTold 20 = .ok (.iload_n 3, 1) := by decide +kernel
theorem dX10_isTold_21 : decode cX10_isTold 21 = .ok (.imul, 1) := by decide +kernel
theorem dX10_isTold_22 : decode cX10_isTold 22 = .ok (.invokestatic 115, 3) := by decide +kernel
theorem dX10_isTold_25 : decode cX10_isTold 25 = .ok (.if_icmp .eq 5, 3) := by decide +kernel
theorem dX10_isTold_30 : decode cX10_isTold 30 = .ok (.iinc 3 1, 3) := by decide +kernel
theorem dX10_isTold_33 : decode cX10_isTold 33 = .ok (.goto (-31), 3) := by decide +kernel
theorem dX10_isTold_28 : decode cX10_isTold 28 = .ok (.iconst 0, 1) := by decide +kernel
theorem dX10_isTold_29 : decode cX10_isTold 29 = .ok (.ireturn, 1) := by decide +kernel
theorem dX10_isTold_36 : decode cX10_isTold 36 = .ok (.iconst 1, 1) := by decide +kernel
theorem dX10_isTold_37 : decode cX10_isTold 37 = .ok (.ireturn, 1) := by decide +kernel
theorem dX10_whatIs_0 : decode cX10_whatIs 0 = .ok (.aload_n 0, 1) := by decide +kernel
theorem dX10_whatIs_1 : decode cX10_whatIs 1 = .ok (.iload_n 1, 1) := by decide +kernel
theorem dX10_whatIs_2 : decode cX10_whatIs 2 = .ok (.invokevirtual 122, 3) := by decide +kernel
theorem dX10_whatIs_5 : decode cX10_whatIs 5 = .ok (.ifCond .ne 9, 3) := by decide +kernel
theorem dX10_whatIs_14 : decode cX10_whatIs 14 = .ok (.iload_n 2, 1) := by decide +kernel
theorem dX10_whatIs_15 : decode cX10_whatIs 15 = .ok (.iconst 0, 1) := by decide +kernel
theorem dX10_whatIs_16 : decode cX10_whatIs 16 = .ok (.iconst 1, 1) := by decide +kernel
theorem dX10_whatIs_17 : decode cX10_whatIs 17 = .ok (.invokestatic 84, 3) := by decide +kernel
theorem dX10_whatIs_20 : decode cX10_whatIs 20 = .ok (.ifCond .ne 10, 3) := by decide +kernel
theorem dX10_whatIs_30 : decode cX10_whatIs 30 = .ok (.iconst 0, 1) := by decide +kernel
theorem dX10_whatIs_31 : decode cX10_whatIs 31 = .ok (.istore_n 3, 1) := by decide +kernel
theorem dX10_whatIs_32 : decode cX10_whatIs 32 = .ok (.iconst 0, 1) := by decide +kernel
theorem dX10_whatIs_33 : decode cX10_whatIs 33 = .ok (.istore 4, 2) := by decide +kernel
theorem dX10_whatIs_35 : decode cX10_whatIs 35 = .ok (.iload 4, 2) := by decide +kernel
theorem dX10_whatIs_37 : decode cX10_whatIs 37 = .ok (.iload_n 2, 1) := by decide +kernel
theorem dX10_whatIs_48 : decode cX10_whatIs 48 = .ok (.if_icmp .ge 57, 3) := by decide +kernel
theorem dX10_whatIs_51 : decode cX10_whatIs 51 = .ok (.iload_n 3, 1) := by decide +kernel
theorem dX10_whatIs_52 : decode cX10_whatIs 52 = .ok (.iload_n 2, 1) := by decide +kernel
theorem dX10_whatIs_53 : decode cX10_whatIs 53 = .ok (.ifCond .ne 21, 3) := by decide +kernel
theorem dX10_whatIs_74 : decode cX10_whatIs 74 = .ok (.aload_n 0, 1) := by decide +kernel
theorem dX10_whatIs_75 : decode cX10_whatIs 75 = .ok (.aload_n 0, 1) := by decide +kernel
theorem dX10_whatIs_76 : decode cX10_whatIs 76 = .ok (.getfield 13, 3) := by decide +kernel
theorem dX10_whatIs_79 : decode cX10_whatIs 79 = .ok (.iload_n 1, 1) := by decide +kernel
theorem dX10_whatIs_80 : decode cX10_whatIs 80 = .ok (.iaload, 1) := by decide +kernel
theorem dX10_whatIs_81 : decode cX10_whatIs 81 = .ok (.iload 4, 2) := by decide +kernel
theorem dX10_whatIs_83 : decode cX10_whatIs 83 = .ok (.invokevirtual 340, 3) := by decide +kernel
theorem dX10_whatIs_86 : decode cX10_whatIs 86 = .ok (.ifCond .eq 10, 3) := by decide +kernel
theorem dX10_whatIs_96 : decode cX10_whatIs 96 = .ok (.iconst 0, 1) := by decide +kernel
theorem dX10_whatIs_97 : decode cX10_whatIs 97 = .ok (.ior, 1) := by decide +kernel
theorem dX10_whatIs_98 : decode cX10_whatIs 98 = .ok (.istore_n 3, 1) := by decide +kernel
theorem dX10_whatIs_99 : decode cX10_whatIs 99 = .ok (.iinc 4 1, 3) := by decide +kernel
theorem dX10_whatIs_102 : decode cX10_whatIs 102 = .ok (.goto (-67), 3) := by decide +kernel
theorem dX10_whatIs_89 : decode cX10_whatIs 89 = .ok (.iconst 1, 1) := by decide +kernel
theorem dX10_whatIs_90 : decode cX10_whatIs 90 = .ok (.iload 4, 2) := by decide +kernel
theorem dX10_whatIs_92 : decode cX10_whatIs 92 = .ok (.ishl, 1) := by decide +kernel
theorem dX10_whatIs_93 : decode cX10_whatIs 93 = .ok (.goto 4, 3) := by decide +kernel
theorem dX10_whatIs_56 : decode cX10_whatIs 56 = .ok (.aload_n 0, 1) := by decide +kernel
theorem dX10_whatIs_57 : decode cX10_whatIs 57 = .ok (.iload 4, 2) := by decide +kernel
theorem dX10_whatIs_59 : decode cX10_whatIs 59 = .ok (.aload_n 0, 1) := by decide +kernel
theorem dX10_whatIs_60 : decode cX10_whatIs 60 = .ok (.getfield 16, 3) := by decide +kernel
theorem dX10_whatIs_63 : decode cX10_whatIs 63 = .ok (.iload_n 1, 1) := by decide +kernel
theorem dX10_whatIs_64 : decode cX10_whatIs 64 = .ok (.iaload, 1) := by decide +kernel
theorem dX10_whatIs_65 : decode cX10_whatIs 65 = .ok (.invokevirtual 340, 3) := by decide +kernel
theorem dX10_whatIs_68 : decode cX10_whatIs 68 = .ok (.ifCond .eq 28, 3) := by decide +kernel
theorem dX10_whatIs_71 : decode cX10_whatIs 71 = .ok (.goto 18, 3) := by decide +kernel
theorem dX10_whatIs_38 : decode cX10_whatIs 38 = .ok (.ifCond .ne 8, 3) := by decide +kernel
theorem dX10_whatIs_46 : decode cX10_whatIs 46 = .ok (.bipush 10, 2) := by decide +kernel
theorem dX10_whatIs_41 : decode cX10_whatIs 41 = .ok (.bipush 6, 2) := by decide +kernel
theorem dX10_whatIs_43 : decode cX10_whatIs 43 = .ok (.goto 5, 3) := by decide +kernel
theorem dX10_whatIs_105 : decode cX10_whatIs 105 = .ok (.iload_n 3, 1) := by decide +kernel
theorem dX10_whatIs_106 : decode cX10_whatIs 106 = .ok (.ireturn, 1) := by decide +kernel
theorem dX10_whatIs_23 : decode cX10_whatIs 23 = .ok (.aload_n 0, 1) := by decide +kernel
theorem dX10_whatIs_24 : decode cX10_whatIs 24 = .ok (.bipush (-2), 2) := by decide +kernel
theorem dX10_whatIs_26 : decode cX10_whatIs 26 = .ok (.invokevirtual 76, 3) := by decide +kernel
theorem dX10_whatIs_29 : decode cX10_whatIs 29 = .ok (.ireturn, 1) := by decide +kernel
theorem dX10_whatIs_8 : decode cX10_whatIs 8 = .ok (.aload_n 0, 1) := by decide +kernel
theorem dX10_whatIs_9 : decode cX10_whatIs 9 = .ok (.iconst (-1), 1) := by decide +kernel
theorem dX10_whatIs_10 : decode cX10_whatIs 10 = .ok (.invokevirtual 76, 3) := by decide +kernel
theorem dX10_whatIs_13 : decode cX10_whatIs 13 = .ok (.ireturn, 1) := by decide +kernel
theorem dX10_row_0 : decode cX10_row 0 = .ok (.iload_n 1, 1) := by decide +kernel
theorem dX10_row_1 : decode cX10_row 1 = .ok (.ifCond .ge 10, 3) := by decide +kernel
theorem dX10_row_11 : decode cX10_row 11 = .ok (.iload_n 1, 1) := by decide +kernel
theorem dX10_row_12 : decode cX10_row 12 = .ok (.sipush 999, 3) := by decide +kernel
theorem dX10_row_27 : decode cX10_row 27 = .ok (.aload_n 0, 1) := by decide +kernel
theorem dX10_row_28 : decode cX10_row 28 = .ok (.bipush (-6), 2) := by decide +kernel
theorem dX10_row_30 : decode cX10_row 30 = .ok (.invokevirtual 76, 3) := by decide +kernel
theorem dX10_row_33 : decode cX10_row 33 = .ok (.ireturn, 1) := by decide +kernel
theorem dX10_row_15 : decode cX10_row 15 = .ok (.if_icmp .gt 12, 3) := by decide +kernel
theorem dX10_row_18 : decode cX10_row 18 = .ok (.aload_n 0, 1) := by decide +kernel
theorem dX10_row_19 : decode cX10_row 19 = .ok (.getfield 337, 3) := by decide +kernel
theorem dX10_row_22 : decode cX10_row 22 = .ok (.bipush 10, 2) := by decide +kernel
theorem dX10_row_24 : decode cX10_row 24 = .ok (.if_icmp .ne 10, 3) := by decide +kernel
theorem dX10_row_34 : decode cX10_row 34 = .ok (.aload_n 0, 1) := by decide +kernel
theorem dX10_row_35 : decode cX10_row 35 = .ok (.getfield 37, 3) := by decide +kernel
theorem dX10_row_38 : decode cX10_row 38 = .ok (.aload_n 0, 1) := by decide +kernel
theorem dX10_row_39 : decode cX10_row 39 = .ok (.getfield 337, 3) := by decide +kernel
theorem dX10_row_42 : decode cX10_row 42 = .ok (.iload_n 1, 1) := by decide +kernel
theorem dX10_row_43 : decode cX10_row 43 = .ok (.iastore, 1) := by decide +kernel
theorem dX10_row_44 : decode cX10_row 44 = .ok (.aload_n 0, 1) := by decide +kernel
theorem dX10_row_45 : decode cX10_row 45 = .ok (.dup, 1) := by decide +kernel
theorem dX10_row_46 : decode cX10_row 46 = .ok (.getfield 337, 3) := by decide +kernel
theorem dX10_row_49 : decode cX10_row 49 = .ok (.iconst 1, 1) := by decide +kernel
theorem dX10_row_50 : decode cX10_row 50 = .ok (.iadd, 1) := by decide +kernel
theorem dX10_row_51 : decode cX10_row 51 = .ok (.putfield 337, 3) := by decide +kernel
theorem dX10_row_54 : decode cX10_row 54 = .ok (.aload_n 0, 1) := by decide +kernel
theorem dX10_row_55 : decode cX10_row 55 = .ok (.getfield 337, 3) := by decide +kernel
theorem dX10_row_58 : decode cX10_row 58 = .ok (.ireturn, 1) := by decide +kernel
theorem dX10_row_4 : decode cX10_row 4 = .ok (.aload_n 0, 1) := by decide +kernel
theorem dX10_row_5 : decode cX10_row 5 = .ok (.bipush (-4), 2) := by decide +kernel
theorem dX10_row_7 : decode cX10_row 7 = .ok (.invokevirtual 76, 3) := by decide +kernel
theorem dX10_row_10 : decode cX10_row 10 = .ok (.ireturn, 1) := by decide +kernel
theorem dX10_clear_0 : decode cX10_clear 0 = .ok (.aload_n 0, 1) := by decide +kernel
theorem dX10_clear_1 : decode cX10_clear 1 = .ok (.getfield 337, 3) := by decide +kernel
theorem dX10_clear_4 : decode cX10_clear 4 = .ok (.istore_n 1, 1) := by decide +kernel
theorem dX10_clear_5 : decode cX10_clear 5 = .ok (.aload_n 0, 1) := by decide +kernel
theorem dX10_clear_6 : decode cX10_clear 6 = .ok (.iconst 0, 1) := by decide +kernel
theorem dX10_clear_7 : decode cX10_clear 7 = .ok (.putfield 337, 3) := by decide +kernel
theorem dX10_clear_10 : decode cX10_clear 10 = .ok (.iload_n 1, 1) := by decide +kernel
theorem dX10_clear_11 : decode cX10_clear 11 = .ok (.ireturn, 1) := by decide +kernel
theorem dX10_inPools_0 : decode cX10_inPools 0 = .ok (.aload_n 0, 1) := by decide +kernel
theorem dX10_inPools_1 : decode cX10_inPools 1 = .ok (.iconst 0, 1) := by decide +kernel
theorem dX10_inPools_2 : decode cX10_inPools 2 = .ok (.aload_n 0, 1) := by decide +kernel
theorem dX10_inPools_3 : decode cX10_inPools 3 = .ok (.invokevirtual 134, 3) := by decide +kernel
theorem dX10_inPools_6 : decode cX10_inPools 6 = .ok (.invokevirtual 282, 3) := by decide +kernel
theorem dX10_inPools_9 : decode cX10_inPools 9 = .ok (.iconst 0, 1) := by decide +kernel
theorem dX10_inPools_10 : decode cX10_inPools 10 = .ok (.istore_n 1, 1) := by decide +kernel
theorem dX10_inPools_11 : decode cX10_inPools 11 = .ok (.iconst 0, 1) := by decide +kernel
theorem dX10_inPools_12 : decode cX10_inPools 12 = .ok (.istore_n 2, 1) := by decide +kernel
theorem dX10_inPools_13 : decode cX10_inPools 13 = .ok (.iload_n 2, 1) := by decide +kernel
theorem dX10_inPools_14 : decode cX10_inPools 14 = .ok (.aload_n 0, 1) := by decide +kernel
theorem dX10_inPools_15 : decode cX10_inPools 15 = .ok (.getfield 80, 3) := by decide +kernel
theorem dX10_inPools_18 : decode cX10_inPools 18 = .ok (.if_icmp .ge 28, 3) := by decide +kernel
theorem dX10_inPools_21 : decode cX10_inPools 21 = .ok (.iload_n 1, 1) := by decide +kernel
theorem dX10_inPools_22 : decode cX10_inPools 22 = .ok (.aload_n 0, 1) := by decide +kernel
theorem dX10_inPools_23 : decode cX10_inPools 23 = .ok (.iload_n 2, 1) := by decide +kernel
theorem dX10_inPools_24 : decode cX10_inPools 24 = .ok (.invokevirtual 299, 3) := by decide +kernel
theorem dX10_inPools_27 : decode cX10_inPools 27 = .ok (.iconst 1, 1) := by decide +kernel
theorem dX10_inPools_28 : decode cX10_inPools 28 = .ok (.iload_n 2, 1) := by decide +kernel
theorem dX10_inPools_29 : decode cX10_inPools 29 = .ok (.ishl, 1) := by decide +kernel
theorem dX10_inPools_30 : decode cX10_inPools 30 = .ok (.if_icmp .eq 7, 3) := by decide +kernel
theorem dX10_inPools_37 : decode cX10_inPools 37 = .ok (.iconst 0, 1) := by decide +kernel
theorem dX10_inPools_38 : decode cX10_inPools 38 = .ok (.iadd, 1) := by decide +kernel
theorem dX10_inPools_39 : decode cX10_inPools 39 = .ok (.istore_n 1, 1) := by decide +kernel
theorem dX10_inPools_40 : decode cX10_inPools 40 = .ok (.iinc 2 1, 3) := by decide +kernel
theorem dX10_inPools_43 : decode cX10_inPools 43 = .ok (.goto (-30), 3) := by decide +kernel
theorem dX10_inPools_33 : decode cX10_inPools 33 = .ok (.iconst 1, 1) := by decide +kernel
theorem dX10_inPools_34 : decode cX10_inPools 34 = .ok (.goto 4, 3) := by decide +kernel
theorem dX10_inPools_46 : decode cX10_inPools 46 = .ok (.iload_n 1, 1) := by decide +kernel
theorem dX10_inPools_47 : decode cX10_inPools 47 = .ok (.ireturn, 1) := by decide +kernel
set_option maxHeartbeats 4000000 in
set_option maxRecDepth 100000 in
theorem c_X10_sayAll (l : Launch) (g : GG) (a0 : Nat → Nat) (v0_papers : Int32) (v0_raw : (Nat → Int32)) (v0_kind : (Nat → Int32)) (v0_figure : (Nat → Int32)) (v0_heavy : (Nat → Int32)) (v0_place : (Nat → Int32)) (v0_rules : Int32) (v0_lower : (Nat → Int32)) (v0_upper : (Nat → Int32)) (v0_limits : Int32) (v0_limit : (Nat → Int32)) (v0_ties : Int32) (v0_letter : (Nat → Int32)) (v0_letters : Int32) (v0_told : (Nat → Int32)) (v0_tolds : Int32) (v0_places : (Nat → Int32)) (v0_cell : (Nat → Int64)) (v0_refusals : (Nat → Int32)) (v0_imaged : (Nat → Int32)) (v0_hasImage : Int32) (v0_before : (Nat → Int32)) (v0_up : Int64) (v0_down : Int64) (v0_beneath : (Nat → Int32)) (v0_numberUp : Int32) (v0_numberDown : Int32) (v0_block : (Nat → Int32)) (v0_blocks : Int32) (v0_merged : Int32) (v0_valueUp : (Nat → Int32)) (v0_valueDown : (Nat → Int32)) (v0_said : (Nat → Int32)) (v0_saids : Int32) (v0_at : Int32) (v0_number : (Nat → Int32)) (p1 : Int32) (hne : (m_X10_sayAll (v0_papers, v0_raw, v0_kind, v0_figure, v0_heavy, v0_place, v0_rules, v0_lower, v0_upper, v0_limits, v0_limit, v0_ties, v0_letter, v0_letters, v0_told, v0_tolds, v0_places, v0_cell, v0_refusals, v0_imaged, v0_hasImage, v0_before, v0_up, v0_down, v0_beneath, v0_numberUp, v0_numberDown, v0_block, v0_blocks, v0_merged, v0_valueUp, v0_valueDown, v0_said, v0_saids, v0_at, v0_number) p1) ≠ none) : Ct l g yX10_sayAll cX10_sayAll 2 none ({ frames := 7, cells := 0, slots := 0, locals := 161 } : Room) [.ref (a0 0), .int p1] (wX10 a0 g v0_papers v0_raw v0_kind v0_figure v0_heavy v0_place v0_rules v0_lower v0_upper v0_limits v0_limit v0_ties v0_letter v0_letters v0_told v0_tolds v0_places v0_cell v0_refusals v0_imaged v0_hasImage v0_before v0_up v0_down v0_beneath v0_numberUp v0_numberDown v0_block v0_blocks v0_merged v0_valueUp v0_valueDown v0_said v0_saids v0_at v0_number) (Qv g (m_X10_sayAll (v0_papers, v0_raw, v0_kind, v0_figure, v0_heavy, v0_place, v0_rules, v0_lower, v0_upper, v0_limits, v0_limit, v0_ties, v0_letter, v0_letters, v0_told, v0_tolds, v0_places, v0_cell, v0_refusals, v0_imaged, v0_hasImage, v0_before, v0_up, v0_down, v0_beneath, v0_numberUp, v0_numberDown, v0_block, v0_blocks, v0_merged, v0_valueUp, v0_valueDown, v0_said, v0_saids, v0_at, v0_number) p1) (fun u => wX10 a0 g v0_papers v0_raw v0_kind v0_figure v0_heavy v0_place v0_rules v0_lower v0_upper v0_limits v0_limit v0_ties v0_letter v0_letters v0_told v0_tolds v0_places v0_cell v0_refusals v0_imaged v0_hasImage v0_before u.1 u.2.1 u.2.2.1 v0_numberUp v0_numberDown v0_block v0_blocks v0_merged u.2.2.2.1 u.2.2.2.2.1 u.2.2.2.2.2.1 u.2.2.2.2.2.2 v0_at v0_number)) 0 0 := by
  obtain ⟨out, hf⟩ := ne_ex hne
  have hf0 := hf
  refine Ct.of (own := RX10) (by decide +kernel) rfl (Nat.le_of_ble_eq_true rfl) ?_
  intro p e s m below meth c hx hb hr hml hown hts hlocks hin hK A H locs hA hP hD hS hE ls hl
  have hl : lv_has ls 2 [(0, .ref (a0 0)), (1, .int p1)] := hl
  unfold m_X10_sayAll at hf
  refine lv_aload_n hx hb dX10_sayAll_0 rfl (lv_at hl 0 rfl) ?_
  refine lv_iconst (v := 0) hx hb dX10_sayAll_1 (by decide) ?_
  refine va_put (D := g.1) (ci := 11) (v := .int (0 : Int32)) (ty := .int) (C := RX10) (T := TX10) (N := 36) hx hb hts layX10 tyX10 tyX10_ok nmX10 hown hK.1 hP hD hS 0 rfl rfl 33 (by decide) (hts _ kw1310) (fun _ h9 => h9) rfl (tyX10_ok 33 (by decide)) rfl rfl (Nat.le_of_ble_eq_true rfl) dX10_sayAll_2 (fun H locs hP hD hS => ?_)
  have hP : va_P g.1 vwCl (wX10 a0 g v0_papers v0_raw v0_kind v0_figure v0_heavy v0_place v0_rules v0_lower v0_upper v0_limits v0_limit v0_ties v0_letter v0_letters v0_told v0_tolds v0_places v0_cell v0_refusals v0_imaged v0_hasImage v0_before v0_up v0_down v0_beneath v0_numberUp v0_numberDown v0_block v0_blocks v0_merged v0_valueUp v0_valueDown v0_said (0 : Int32) v0_at v0_number) H := hP
  have hD : va_D A (wX10 a0 g v0_papers v0_raw v0_kind v0_figure v0_heavy v0_place v0_rules v0_lower v0_upper v0_limits v0_limit v0_ties v0_letter v0_letters v0_told v0_tolds v0_places v0_cell v0_refusals v0_imaged v0_hasImage v0_before v0_up v0_down v0_beneath v0_numberUp v0_numberDown v0_block v0_blocks v0_merged v0_valueUp v0_valueDown v0_said (0 : Int32) v0_at v0_number) := hD
  refine lv_aload_n hx hb dX10_sayAll_5 rfl (lv_at hl 0 rfl) ?_
  refine lv_iconst (v := 0) hx hb dX10_sayAll_6 (by decide) ?_
  refine lv_aload_n hx hb dX10_sayAll_7 rfl (lv_at hl 0 rfl) ?_
  refine cIp hP hD hS hA hE (fun hPc hDc hSc => rV (As := []) (rest := [.int (0 : Int32), .ref (a0 0)]) hx hb hml hown hts hK (c_X10_allRules l g a0 v0_papers v0_raw v0_kind v0_figure v0_heavy v0_place v0_rules v0_lower v0_upper v0_limits v0_limit v0_ties v0_letter v0_letters v0_told v0_tolds v0_places v0_cell v0_refusals v0_imaged v0_hasImage v0_before v0_up v0_down v0_beneath v0_numberUp v0_numberDown v0_block v0_blocks v0_merged v0_valueUp v0_valueDown v0_said (0 : Int32) v0_at v0_number (bnd_ne hf)) svV_X10_allRules kw1389 rfl rfl hPc hDc hSc rfl rfl hl.1 (Nat.le_of_ble_eq_true rfl) dX10_sayAll_8 ⟨Nat.le_of_ble_eq_true rfl, Nat.le_of_ble_eq_true rfl, rfl, rfl, Nat.le_of_ble_eq_true rfl, Nat.le_of_ble_eq_true rfl⟩) [(0, 22)] rfl rfl rfl (fun x1 H locs ex1 nx1 hP hS => ?_)
  have hf := bnd_of hf ex1
  refine cV hP hD hS hA hE (fun hPc hDc hSc => rV (As := [.int (0 : Int32), .int x1]) (rest := []) hx hb hml hown hts hK (c_X10_values l g a0 v0_papers v0_raw v0_kind v0_figure v0_heavy v0_place v0_rules v0_lower v0_upper v0_limits v0_limit v0_ties v0_letter v0_letters v0_told v0_tolds v0_places v0_cell v0_refusals v0_imaged v0_hasImage v0_before v0_up v0_down v0_beneath v0_numberUp v0_numberDown v0_block v0_blocks v0_merged v0_valueUp v0_valueDown v0_said (0 : Int32) v0_at v0_number (0 : Int32) x1 (bnd_ne hf)) svV_X10_values kw1551 rfl rfl hPc hDc hSc rfl rfl hl.1 (Nat.le_of_ble_eq_true rfl) dX10_sayAll_11 ⟨Nat.le_of_ble_eq_true rfl, Nat.le_of_ble_eq_true rfl, rfl, rfl, Nat.le_of_ble_eq_true rfl, Nat.le_of_ble_eq_true rfl⟩) [(0, 22)] rfl rfl rfl (fun _ => rfl) (fun x2 H locs ex2 hP hD hS => ?_)
  have hf := bnd_of hf ex2
  have hP : va_P g.1 vwCl (wX10 a0 g v0_papers v0_raw v0_kind v0_figure v0_heavy v0_place v0_rules v0_lower v0_upper v0_limits v0_limit v0_ties v0_letter v0_letters v0_told v0_tolds v0_places v0_cell v0_refusals v0_imaged v0_hasImage v0_before x2.1 x2.2.1 x2.2.2.1 v0_numberUp v0_numberDown v0_block v0_blocks v0_merged x2.2.2.2.1 x2.2.2.2.2 v0_said (0 : Int32) v0_at v0_number) H := hP
  have hD : va_D A (wX10 a0 g v0_papers v0_raw v0_kind v0_figure v0_heavy v0_place v0_rules v0_lower v0_upper v0_limits v0_limit v0_ties v0_letter v0_letters v0_told v0_tolds v0_places v0_cell v0_refusals v0_imaged v0_hasImage v0_before x2.1 x2.2.1 x2.2.2.1 v0_numberUp v0_numberDown v0_block v0_blocks v0_merged x2.2.2.2.1 x2.2.2.2.2 v0_said (0 : Int32) v0_at v0_number) := hD
  refine lv_aload_n hx hb dX10_sayAll_14 rfl (lv_at hl 0 rfl) ?_
  refine lv_iload_n hx hb dX10_sayAll_15 rfl (lv_at hl 1 rfl) ?_
  refine lv_i2l (v := p1.toInt64) hx hb dX10_sayAll_16 rfl ?_
  refine cV hP hD hS hA hE (fun hPc hDc hSc => rV (As := [.long p1.toInt64]) (rest := []) hx hb hml hown hts hK (c_X10_sayNumber l g a0 v0_papers v0_raw v0_kind v0_figure v0_heavy v0_place v0_rules v0_lower v0_upper v0_limits v0_limit v0_ties v0_letter v0_letters v0_told v0_tolds v0_places v0_cell v0_refusals v0_imaged v0_hasImage v0_before x2.1 x2.2.1 x2.2.2.1 v0_numberUp v0_numberDown v0_block v0_blocks v0_merged x2.2.2.2.1 x2.2.2.2.2 v0_said (0 : Int32) v0_at v0_number p1.toInt64 (bnd_ne hf)) svV_X10_sayNumber kw1633 rfl rfl hPc hDc hSc rfl rfl hl.1 (Nat.le_of_ble_eq_true rfl) dX10_sayAll_17 ⟨Nat.le_of_ble_eq_true rfl, Nat.le_of_ble_eq_true rfl, rfl, rfl, Nat.le_of_ble_eq_true rfl, Nat.le_of_ble_eq_true rfl⟩) [(0, 22)] rfl rfl rfl (fun _ => rfl) (fun x3 H locs ex3 hP hD hS => ?_)
  have hf := bnd_of hf ex3
  have hP : va_P g.1 vwCl (wX10 a0 g v0_papers v0_raw v0_kind v0_figure v0_heavy v0_place v0_rules v0_lower v0_upper v0_limits v0_limit v0_ties v0_letter v0_letters v0_told v0_tolds v0_places v0_cell v0_refusals v0_imaged v0_hasImage v0_before x2.1 x2.2.1 x2.2.2.1 v0_numberUp v0_numberDown v0_block v0_blocks v0_merged x2.2.2.2.1 x2.2.2.2.2 x3.1 x3.2 v0_at v0_number) H := hP
  have hD : va_D A (wX10 a0 g v0_papers v0_raw v0_kind v0_figure v0_heavy v0_place v0_rules v0_lower v0_upper v0_limits v0_limit v0_ties v0_letter v0_letters v0_told v0_tolds v0_places v0_cell v0_refusals v0_imaged v0_hasImage v0_before x2.1 x2.2.1 x2.2.2.1 v0_numberUp v0_numberDown v0_block v0_blocks v0_merged x2.2.2.2.1 x2.2.2.2.2 x3.1 x3.2 v0_at v0_number) := hD
  refine lv_aload_n hx hb dX10_sayAll_20 rfl (lv_at hl 0 rfl) ?_
  refine lv_bipush (v := 58) hx hb dX10_sayAll_21 (by decide) ?_
  refine cV hP hD hS hA hE (fun hPc hDc hSc => rV (As := [.int (58 : Int32)]) (rest := []) hx hb hml hown hts hK (c_X10_say l g a0 v0_papers v0_raw v0_kind v0_figure v0_heavy v0_place v0_rules v0_lower v0_upper v0_limits v0_limit v0_ties v0_letter v0_letters v0_told v0_tolds v0_places v0_cell v0_refusals v0_imaged v0_hasImage v0_before x2.1 x2.2.1 x2.2.2.1 v0_numberUp v0_numberDown v0_block v0_blocks v0_merged x2.2.2.2.1 x2.2.2.2.2 x3.1 x3.2 v0_at v0_number (58 : Int32) (bnd_ne hf)) svV_X10_say kw1638 rfl rfl hPc hDc hSc rfl rfl hl.1 (Nat.le_of_ble_eq_true rfl) dX10_sayAll_23 ⟨Nat.le_of_ble_eq_true rfl, Nat.le_of_ble_eq_true rfl, rfl, rfl, Nat.le_of_ble_eq_true rfl, Nat.le_of_ble_eq_true rfl⟩) [(0, 22)] rfl rfl rfl (fun _ => rfl) (fun x4 H locs ex4 hP hD hS => ?_)
  have hf := bnd_of hf ex4
  have hP : va_P g.1 vwCl (wX10 a0 g v0_papers v0_raw v0_kind v0_figure v0_heavy v0_place v0_rules v0_lower v0_upper v0_limits v0_limit v0_ties v0_letter v0_letters v0_told v0_tolds v0_places v0_cell v0_refusals v0_imaged v0_hasImage v0_before x2.1 x2.2.1 x2.2.2.1 v0_numberUp v0_numberDown v0_block v0_blocks v0_merged x2.2.2.2.1 x2.2.2.2.2 x4.1 x4.2 v0_at v0_number) H := hP
  have hD : va_D A (wX10 a0 g v0_papers v0_raw v0_kind v0_figure v0_heavy v0_place v0_rules v0_lower v0_upper v0_limits v0_limit v0_ties v0_letter v0_letters v0_told v0_tolds v0_places v0_cell v0_refusals v0_imaged v0_hasImage v0_before x2.1 x2.2.1 x2.2.2.1 v0_numberUp v0_numberDown v0_block v0_blocks v0_merged x2.2.2.2.1 x2.2.2.2.2 x4.1 x4.2 v0_at v0_number) := hD
  refine lv_aload_n hx hb dX10_sayAll_26 rfl (lv_at hl 0 rfl) ?_
  refine lv_aload_n hx hb dX10_sayAll_27 rfl (lv_at hl 0 rfl) ?_
  refine lv_iload_n hx hb dX10_sayAll_28 rfl (lv_at hl 1 rfl) ?_
  refine cIp hP hD hS hA hE (fun hPc hDc hSc => rV (As := [.int p1]) (rest := [.ref (a0 0)]) hx hb hml hown hts hK (c_X10_mark l g a0 v0_papers v0_raw v0_kind v0_figure v0_heavy v0_place v0_rules v0_lower v0_upper v0_limits v0_limit v0_ties v0_letter v0_letters v0_told v0_tolds v0_places v0_cell v0_refusals v0_imaged v0_hasImage v0_before x2.1 x2.2.1 x2.2.2.1 v0_numberUp v0_numberDown v0_block v0_blocks v0_merged x2.2.2.2.1 x2.2.2.2.2 x4.1 x4.2 v0_at v0_number p1 (bnd_ne hf)) svV_X10_mark kw1421 rfl rfl hPc hDc hSc rfl rfl hl.1 (Nat.le_of_ble_eq_true rfl) dX10_sayAll_29 ⟨Nat.le_of_ble_eq_true rfl, Nat.le_of_ble_eq_true rfl, rfl, rfl, Nat.le_of_ble_eq_true rfl, Nat.le_of_ble_eq_true rfl⟩) [(0, 22)] rfl rfl rfl (fun x5 H locs ex5 nx5 hP hS => ?_)
  have hf := bnd_of hf ex5
  refine lv_i2l (v := x5.toInt64) hx hb dX10_sayAll_32 rfl ?_
  refine cV hP hD hS hA hE (fun hPc hDc hSc => rV (As := [.long x5.toInt64]) (rest := []) hx hb hml hown hts hK (c_X10_sayNumber l g a0 v0_papers v0_raw v0_kind v0_figure v0_heavy v0_place v0_rules v0_lower v0_upper v0_limits v0_limit v0_ties v0_letter v0_letters v0_told v0_tolds v0_places v0_cell v0_refusals v0_imaged v0_hasImage v0_before x2.1 x2.2.1 x2.2.2.1 v0_numberUp v0_numberDown v0_block v0_blocks v0_merged x2.2.2.2.1 x2.2.2.2.2 x4.1 x4.2 v0_at v0_number x5.toInt64 (bnd_ne hf)) svV_X10_sayNumber kw1633 rfl rfl hPc hDc hSc rfl rfl hl.1 (Nat.le_of_ble_eq_true rfl) dX10_sayAll_33 ⟨Nat.le_of_ble_eq_true rfl, Nat.le_of_ble_eq_true rfl, rfl, rfl, Nat.le_of_ble_eq_true rfl, Nat.le_of_ble_eq_true rfl⟩) [(0, 22)] rfl rfl rfl (fun _ => rfl) (fun x6 H locs ex6 hP hD hS => ?_)
  have hf := bnd_of hf ex6
  have hP : va_P g.1 vwCl (wX10 a0 g v0_papers v0_raw v0_kind v0_figure v0_heavy v0_place v0_rules v0_lower v0_upper v0_limits v0_limit v0_ties v0_letter v0_letters v0_told v0_tolds v0_places v0_cell v0_refusals v0_imaged v0_hasImage v0_before x2.1 x2.2.1 x2.2.2.1 v0_numberUp v0_numberDown v0_block v0_blocks v0_merged x2.2.2.2.1 x2.2.2.2.2 x6.1 x6.2 v0_at v0_number) H := hP
  have hD : va_D A (wX10 a0 g v0_papers v0_raw v0_kind v0_figure v0_heavy v0_place v0_rules v0_lower v0_upper v0_limits v0_limit v0_ties v0_letter v0_letters v0_told v0_tolds v0_places v0_cell v0_refusals v0_imaged v0_hasImage v0_before x2.1 x2.2.1 x2.2.2.1 v0_numberUp v0_numberDown v0_block v0_blocks v0_merged x2.2.2.2.1 x2.2.2.2.2 x6.1 x6.2 v0_at v0_number) := hD
  refine lv_aload_n hx hb dX10_sayAll_36 rfl (lv_at hl 0 rfl) ?_
  refine lv_aload_n hx hb dX10_sayAll_37 rfl (lv_at hl 0 rfl) ?_
  refine va_get (D := g.1) (ci := 11) (v := .ref (a0 18)) (C := RX10) (T := TX10) (N := 36) hx hb hts layX10 hown hK.1 hP 0 rfl rfl 30 (by decide) (hts _ kw1307) (fun _ h9 => h9) rfl dX10_sayAll_38 ?_
  refine lv_iload_n hx hb dX10_sayAll_41 rfl (lv_at hl 1 rfl) ?_
  have hi := it_n hf
  have hf := it_t hi hf
  refine va_iald hx hb hK.1 hP 18 0 rfl rfl (inb_in hi) dX10_sayAll_42 ?_
  refine lv_i2l (v := (x2.2.2.2.1 p1.toNatClampNeg).toInt64) hx hb dX10_sayAll_43 rfl ?_
  refine lv_aload_n hx hb dX10_sayAll_44 rfl (lv_at hl 0 rfl) ?_
  refine lv_iload_n hx hb dX10_sayAll_45 rfl (lv_at hl 1 rfl) ?_
  refine cIp hP hD hS hA hE (fun hPc hDc hSc => rV (As := [.int p1]) (rest := [.long (x2.2.2.2.1 p1.toNatClampNeg).toInt64, .ref (a0 0)]) hx hb hml hown hts hK (c_X10_mark l g a0 v0_papers v0_raw v0_kind v0_figure v0_heavy v0_place v0_rules v0_lower v0_upper v0_limits v0_limit v0_ties v0_letter v0_letters v0_told v0_tolds v0_places v0_cell v0_refusals v0_imaged v0_hasImage v0_before x2.1 x2.2.1 x2.2.2.1 v0_numberUp v0_numberDown v0_block v0_blocks v0_merged x2.2.2.2.1 x2.2.2.2.2 x6.1 x6.2 v0_at v0_number p1 (bnd_ne hf)) svV_X10_mark kw1421 rfl rfl hPc hDc hSc rfl rfl hl.1 (Nat.le_of_ble_eq_true rfl) dX10_sayAll_46 ⟨Nat.le_of_ble_eq_true rfl, Nat.le_of_ble_eq_true rfl, rfl, rfl, Nat.le_of_ble_eq_true rfl, Nat.le_of_ble_eq_true rfl⟩) [(0, 22)] rfl rfl rfl (fun x7 H locs ex7 nx7 hP hS => ?_)
  have hf := bnd_of hf ex7
  refine lv_i2l (v := x7.toInt64) hx hb dX10_sayAll_49 rfl ?_
  refine lv_aload_n hx hb dX10_sayAll_50 rfl (lv_at hl 0 rfl) ?_
  refine va_get (D := g.1) (ci := 11) (v := .ref (a0 19)) (C := RX10) (T := TX10) (N := 36) hx hb hts layX10 hown hK.1 hP 0 rfl rfl 31 (by decide) (hts _ kw1308) (fun _ h9 => h9) rfl dX10_sayAll_51 ?_
  refine lv_iload_n hx hb dX10_sayAll_54 rfl (lv_at hl 1 rfl) ?_
  have hi := it_n hf
  have hf := it_t hi hf
  refine va_iald hx hb hK.1 hP 19 0 rfl rfl (inb_in hi) dX10_sayAll_55 ?_
  refine lv_i2l (v := (x2.2.2.2.2 p1.toNatClampNeg).toInt64) hx hb dX10_sayAll_56 rfl ?_
  refine lv_lmul hx hb dX10_sayAll_57 ?_
  refine lv_lsub hx hb dX10_sayAll_58 ?_
  refine lv_aload_n hx hb dX10_sayAll_59 rfl (lv_at hl 0 rfl) ?_
  refine va_get (D := g.1) (ci := 11) (v := .ref (a0 19)) (C := RX10) (T := TX10) (N := 36) hx hb hts layX10 hown hK.1 hP 0 rfl rfl 31 (by decide) (hts _ kw1308) (fun _ h9 => h9) rfl dX10_sayAll_60 ?_
  refine lv_iload_n hx hb dX10_sayAll_63 rfl (lv_at hl 1 rfl) ?_
  have hi := it_n hf
  have hf := it_t hi hf
  refine va_iald hx hb hK.1 hP 19 0 rfl rfl (inb_in hi) dX10_sayAll_64 ?_
  refine lv_i2l (v := (x2.2.2.2.2 p1.toNatClampNeg).toInt64) hx hb dX10_sayAll_65 rfl ?_
  refine cV hP hD hS hA hE (fun hPc hDc hSc => rV (As := [.long ((x2.2.2.2.1 p1.toNatClampNeg).toInt64 - (x7.toInt64 * (x2.2.2.2.2 p1.toNatClampNeg).toInt64)), .long (x2.2.2.2.2 p1.toNatClampNeg).toInt64]) (rest := []) hx hb hml hown hts hK (c_X10_fraction l g a0 v0_papers v0_raw v0_kind v0_figure v0_heavy v0_place v0_rules v0_lower v0_upper v0_limits v0_limit v0_ties v0_letter v0_letters v0_told v0_tolds v0_places v0_cell v0_refusals v0_imaged v0_hasImage v0_before x2.1 x2.2.1 x2.2.2.1 v0_numberUp v0_numberDown v0_block v0_blocks v0_merged x2.2.2.2.1 x2.2.2.2.2 x6.1 x6.2 v0_at v0_number ((x2.2.2.2.1 p1.toNatClampNeg).toInt64 - (x7.toInt64 * (x2.2.2.2.2 p1.toNatClampNeg).toInt64)) (x2.2.2.2.2 p1.toNatClampNeg).toInt64 (bnd_ne hf)) svV_X10_fraction kw1510 rfl rfl hPc hDc hSc rfl rfl hl.1 (Nat.le_of_ble_eq_true rfl) dX10_sayAll_66 ⟨Nat.le_of_ble_eq_true rfl, Nat.le_of_ble_eq_true rfl, rfl, rfl, Nat.le_of_ble_eq_true rfl, Nat.le_of_ble_eq_true rfl⟩) [(0, 22)] rfl rfl rfl (fun _ => rfl) (fun x8 H locs ex8 hP hD hS => ?_)
  have hf := bnd_of hf ex8
  have hP : va_P g.1 vwCl (wX10 a0 g v0_papers v0_raw v0_kind v0_figure v0_heavy v0_place v0_rules v0_lower v0_upper v0_limits v0_limit v0_ties v0_letter v0_letters v0_told v0_tolds v0_places v0_cell v0_refusals v0_imaged v0_hasImage v0_before x8.1 x8.2 x2.2.2.1 v0_numberUp v0_numberDown v0_block v0_blocks v0_merged x2.2.2.2.1 x2.2.2.2.2 x6.1 x6.2 v0_at v0_number) H := hP
  have hD : va_D A (wX10 a0 g v0_papers v0_raw v0_kind v0_figure v0_heavy v0_place v0_rules v0_lower v0_upper v0_limits v0_limit v0_ties v0_letter v0_letters v0_told v0_tolds v0_places v0_cell v0_refusals v0_imaged v0_hasImage v0_before x8.1 x8.2 x2.2.2.1 v0_numberUp v0_numberDown v0_block v0_blocks v0_merged x2.2.2.2.1 x2.2.2.2.2 x6.1 x6.2 v0_at v0_number) := hD
  refine lv_aload_n hx hb dX10_sayAll_69 rfl (lv_at hl 0 rfl) ?_
  refine va_get (D := g.1) (ci := 11) (v := .long x8.1) (C := RX10) (T := TX10) (N := 36) hx hb hts layX10 hown hK.1 hP 0 rfl rfl 22 (by decide) (hts _ kw1299) (fun _ h9 => h9) rfl dX10_sayAll_70 ?_
  refine lv_lconst (v := 0) hx hb dX10_sayAll_73 (by decide) ?_
  obtain ⟨r16, er16, hf⟩ := bnd hf
  have K : ∀ (H : Heap) (locs : List Loc) (ls : Array Slot), va_P g.1 vwCl (wX10 a0 g v0_papers v0_raw v0_kind v0_figure v0_heavy v0_place v0_rules v0_lower v0_upper v0_limits v0_limit v0_ties v0_letter v0_letters v0_told v0_tolds v0_places v0_cell v0_refusals v0_imaged v0_hasImage v0_before x8.1 x8.2 x2.2.2.1 v0_numberUp v0_numberDown v0_block v0_blocks v0_merged x2.2.2.2.1 x2.2.2.2.2 r16.1 r16.2 v0_at v0_number) H → va_D A (wX10 a0 g v0_papers v0_raw v0_kind v0_figure v0_heavy v0_place v0_rules v0_lower v0_upper v0_limits v0_limit v0_ties v0_letter v0_letters v0_told v0_tolds v0_places v0_cell v0_refusals v0_imaged v0_hasImage v0_before x8.1 x8.2 x2.2.2.1 v0_numberUp v0_numberDown v0_block v0_blocks v0_merged x2.2.2.2.1 x2.2.2.2.2 r16.1 r16.2 v0_at v0_number) → va_S A s.heap H locs → lv_has ls 2 [(0, .ref (a0 0)), (1, .int p1)] → W p l e { frames := 7, cells := 0, slots := 0, locals := 161 } s m [.ref (a0 0), .int p1].toArray below meth c H locs 0 0 (MQ below (Qv g (m_X10_sayAll (v0_papers, v0_raw, v0_kind, v0_figure, v0_heavy, v0_place, v0_rules, v0_lower, v0_upper, v0_limits, v0_limit, v0_ties, v0_letter, v0_letters, v0_told, v0_tolds, v0_places, v0_cell, v0_refusals, v0_imaged, v0_hasImage, v0_before, v0_up, v0_down, v0_beneath, v0_numberUp, v0_numberDown, v0_block, v0_blocks, v0_merged, v0_valueUp, v0_valueDown, v0_said, v0_saids, v0_at, v0_number) p1) (fun u => wX10 a0 g v0_papers v0_raw v0_kind v0_figure v0_heavy v0_place v0_rules v0_lower v0_upper v0_limits v0_limit v0_ties v0_letter v0_letters v0_told v0_tolds v0_places v0_cell v0_refusals v0_imaged v0_hasImage v0_before u.1 u.2.1 u.2.2.1 v0_numberUp v0_numberDown v0_block v0_blocks v0_merged u.2.2.2.1 u.2.2.2.2.1 u.2.2.2.2.2.1 u.2.2.2.2.2.2 v0_at v0_number) A) [.ref (a0 0), .int p1].toArray s 0 0 A) (F0 m 141 ls []) := by
    intro H locs ls hP hD hS hl
    refine lv_aload_n hx hb dX10_sayAll_141 rfl (lv_at hl 0 rfl) ?_
    refine lv_bipush (v := 32) hx hb dX10_sayAll_142 (by decide) ?_
    refine cV hP hD hS hA hE (fun hPc hDc hSc => rV (As := [.int (32 : Int32)]) (rest := []) hx hb hml hown hts hK (c_X10_say l g a0 v0_papers v0_raw v0_kind v0_figure v0_heavy v0_place v0_rules v0_lower v0_upper v0_limits v0_limit v0_ties v0_letter v0_letters v0_told v0_tolds v0_places v0_cell v0_refusals v0_imaged v0_hasImage v0_before x8.1 x8.2 x2.2.2.1 v0_numberUp v0_numberDown v0_block v0_blocks v0_merged x2.2.2.2.1 x2.2.2.2.2 r16.1 r16.2 v0_at v0_number (32 : Int32) (bnd_ne hf)) svV_X10_say kw1638 rfl rfl hPc hDc hSc rfl rfl hl.1 (Nat.le_of_ble_eq_true rfl) dX10_sayAll_144 ⟨Nat.le_of_ble_eq_true rfl, Nat.le_of_ble_eq_true rfl, rfl, rfl, Nat.le_of_ble_eq_true rfl, Nat.le_of_ble_eq_true rfl⟩) [(0, 22)] rfl rfl rfl (fun _ => rfl) (fun x17 H locs ex17 hP hD hS => ?_)
    have hf := bnd_of hf ex17
    have hP : va_P g.1 vwCl (wX10 a0 g v0_papers v0_raw v0_kind v0_figure v0_heavy v0_place v0_rules v0_lower v0_upper v0_limits v0_limit v0_ties v0_letter v0_letters v0_told v0_tolds v0_places v0_cell v0_refusals v0_imaged v0_hasImage v0_before x8.1 x8.2 x2.2.2.1 v0_numberUp v0_numberDown v0_block v0_blocks v0_merged x2.2.2.2.1 x2.2.2.2.2 x17.1 x17.2 v0_at v0_number) H := hP
    have hD : va_D A (wX10 a0 g v0_papers v0_raw v0_kind v0_figure v0_heavy v0_place v0_rules v0_lower v0_upper v0_limits v0_limit v0_ties v0_letter v0_letters v0_told v0_tolds v0_places v0_cell v0_refusals v0_imaged v0_hasImage v0_before x8.1 x8.2 x2.2.2.1 v0_numberUp v0_numberDown v0_block v0_blocks v0_merged x2.2.2.2.1 x2.2.2.2.2 x17.1 x17.2 v0_at v0_number) := hD
    refine lv_aload_n hx hb dX10_sayAll_147 rfl (lv_at hl 0 rfl) ?_
    refine lv_bipush (v := 65) hx hb dX10_sayAll_148 (by decide) ?_
    refine lv_aload_n hx hb dX10_sayAll_150 rfl (lv_at hl 0 rfl) ?_
    refine lv_aload_n hx hb dX10_sayAll_151 rfl (lv_at hl 0 rfl) ?_
    refine va_get (D := g.1) (ci := 11) (v := .ref (a0 18)) (C := RX10) (T := TX10) (N := 36) hx hb hts layX10 hown hK.1 hP 0 rfl rfl 30 (by decide) (hts _ kw1307) (fun _ h9 => h9) rfl dX10_sayAll_152 ?_
    refine lv_iload_n hx hb dX10_sayAll_155 rfl (lv_at hl 1 rfl) ?_
    have hi := it_n hf
    have hf := it_t hi hf
    refine va_iald hx hb hK.1 hP 18 0 rfl rfl (inb_in hi) dX10_sayAll_156 ?_
    refine lv_i2l (v := (x2.2.2.2.1 p1.toNatClampNeg).toInt64) hx hb dX10_sayAll_157 rfl ?_
    refine lv_aload_n hx hb dX10_sayAll_158 rfl (lv_at hl 0 rfl) ?_
    refine va_get (D := g.1) (ci := 11) (v := .ref (a0 19)) (C := RX10) (T := TX10) (N := 36) hx hb hts layX10 hown hK.1 hP 0 rfl rfl 31 (by decide) (hts _ kw1308) (fun _ h9 => h9) rfl dX10_sayAll_159 ?_
    refine lv_iload_n hx hb dX10_sayAll_162 rfl (lv_at hl 1 rfl) ?_
    have hi := it_n hf
    have hf := it_t hi hf
    refine va_iald hx hb hK.1 hP 19 0 rfl rfl (inb_in hi) dX10_sayAll_163 ?_
    refine lv_i2l (v := (x2.2.2.2.2 p1.toNatClampNeg).toInt64) hx hb dX10_sayAll_164 rfl ?_
    refine cIp hP hD hS hA hE (fun hPc hDc hSc => rV (As := [.long (x2.2.2.2.1 p1.toNatClampNeg).toInt64, .long (x2.2.2.2.2 p1.toNatClampNeg).toInt64]) (rest := [.int (65 : Int32), .ref (a0 0)]) hx hb hml hown hts hK (c_X10_gradeOf l g a0 v0_papers v0_raw v0_kind v0_figure v0_heavy v0_place v0_rules v0_lower v0_upper v0_limits v0_limit v0_ties v0_letter v0_letters v0_told v0_tolds v0_places v0_cell v0_refusals v0_imaged v0_hasImage v0_before x8.1 x8.2 x2.2.2.1 v0_numberUp v0_numberDown v0_block v0_blocks v0_merged x2.2.2.2.1 x2.2.2.2.2 x17.1 x17.2 v0_at v0_number (x2.2.2.2.1 p1.toNatClampNeg).toInt64 (x2.2.2.2.2 p1.toNatClampNeg).toInt64 (bnd_ne hf)) svV_X10_gradeOf kw1432 rfl rfl hPc hDc hSc rfl rfl hl.1 (Nat.le_of_ble_eq_true rfl) dX10_sayAll_165 ⟨Nat.le_of_ble_eq_true rfl, Nat.le_of_ble_eq_true rfl, rfl, rfl, Nat.le_of_ble_eq_true rfl, Nat.le_of_ble_eq_true rfl⟩) [(0, 22)] rfl rfl rfl (fun x18 H locs ex18 nx18 hP hS => ?_)
    have hf := bnd_of hf ex18
    refine lv_iadd hx hb dX10_sayAll_168 ?_
    refine cV hP hD hS hA hE (fun hPc hDc hSc => rV (As := [.int ((65 : Int32) + x18)]) (rest := []) hx hb hml hown hts hK (c_X10_say l g a0 v0_papers v0_raw v0_kind v0_figure v0_heavy v0_place v0_rules v0_lower v0_upper v0_limits v0_limit v0_ties v0_letter v0_letters v0_told v0_tolds v0_places v0_cell v0_refusals v0_imaged v0_hasImage v0_before x8.1 x8.2 x2.2.2.1 v0_numberUp v0_numberDown v0_block v0_blocks v0_merged x2.2.2.2.1 x2.2.2.2.2 x17.1 x17.2 v0_at v0_number ((65 : Int32) + x18) (bnd_ne hf)) svV_X10_say kw1638 rfl rfl hPc hDc hSc rfl rfl hl.1 (Nat.le_of_ble_eq_true rfl) dX10_sayAll_169 ⟨Nat.le_of_ble_eq_true rfl, Nat.le_of_ble_eq_true rfl, rfl, rfl, Nat.le_of_ble_eq_true rfl, Nat.le_of_ble_eq_true rfl⟩) [(0, 22)] rfl rfl rfl (fun _ => rfl) (fun x19 H locs ex19 hP hD hS => ?_)
    have hf := bnd_of hf ex19
    have hP : va_P g.1 vwCl (wX10 a0 g v0_papers v0_raw v0_kind v0_figure v0_heavy v0_place v0_rules v0_lower v0_upper v0_limits v0_limit v0_ties v0_letter v0_letters v0_told v0_tolds v0_places v0_cell v0_refusals v0_imaged v0_hasImage v0_before x8.1 x8.2 x2.2.2.1 v0_numberUp v0_numberDown v0_block v0_blocks v0_merged x2.2.2.2.1 x2.2.2.2.2 x19.1 x19.2 v0_at v0_number) H := hP
    have hD : va_D A (wX10 a0 g v0_papers v0_raw v0_kind v0_figure v0_heavy v0_place v0_rules v0_lower v0_upper v0_limits v0_limit v0_ties v0_letter v0_letters v0_told v0_tolds v0_places v0_cell v0_refusals v0_imaged v0_hasImage v0_before x8.1 x8.2 x2.2.2.1 v0_numberUp v0_numberDown v0_block v0_blocks v0_merged x2.2.2.2.1 x2.2.2.2.2 x19.1 x19.2 v0_at v0_number) := hD
    refine lv_aload_n hx hb dX10_sayAll_172 rfl (lv_at hl 0 rfl) ?_
    refine lv_aload_n hx hb dX10_sayAll_173 rfl (lv_at hl 0 rfl) ?_
    refine lv_iload_n hx hb dX10_sayAll_174 rfl (lv_at hl 1 rfl) ?_
    refine cIp hP hD hS hA hE (fun hPc hDc hSc => rV (As := [.int p1]) (rest := [.ref (a0 0)]) hx hb hml hown hts hK (c_X10_poolOf l g a0 v0_papers v0_raw v0_kind v0_figure v0_heavy v0_place v0_rules v0_lower v0_upper v0_limits v0_limit v0_ties v0_letter v0_letters v0_told v0_tolds v0_places v0_cell v0_refusals v0_imaged v0_hasImage v0_before x8.1 x8.2 x2.2.2.1 v0_numberUp v0_numberDown v0_block v0_blocks v0_merged x2.2.2.2.1 x2.2.2.2.2 x19.1 x19.2 v0_at v0_number p1 (bnd_ne hf)) svV_X10_poolOf kw1600 rfl rfl hPc hDc hSc rfl rfl hl.1 (Nat.le_of_ble_eq_true rfl) dX10_sayAll_175 ⟨Nat.le_of_ble_eq_true rfl, Nat.le_of_ble_eq_true rfl, rfl, rfl, Nat.le_of_ble_eq_true rfl, Nat.le_of_ble_eq_true rfl⟩) [(0, 22)] rfl rfl rfl (fun x20 H locs ex20 nx20 hP hS => ?_)
    have hf := bnd_of hf ex20
    refine lv_iconst (v := 1) hx hb dX10_sayAll_178 (by decide) ?_
    refine lv_iload_n hx hb dX10_sayAll_179 rfl (lv_at hl 1 rfl) ?_
    refine lv_ishl hx hb dX10_sayAll_180 ?_
    refine lv_iconst (v := (-1)) hx hb dX10_sayAll_181 (by decide) ?_
    refine lv_ixor hx hb dX10_sayAll_182 ?_
    refine lv_iand hx hb dX10_sayAll_183 ?_
    refine cV hP hD hS hA hE (fun hPc hDc hSc => rV (As := [.int (x20 &&& (((1 : Int32) <<< (p1 &&& 31)) ^^^ (-1 : Int32)))]) (rest := []) hx hb hml hown hts hK (c_X10_sayOthers l g a0 v0_papers v0_raw v0_kind v0_figure v0_heavy v0_place v0_rules v0_lower v0_upper v0_limits v0_limit v0_ties v0_letter v0_letters v0_told v0_tolds v0_places v0_cell v0_refusals v0_imaged v0_hasImage v0_before x8.1 x8.2 x2.2.2.1 v0_numberUp v0_numberDown v0_block v0_blocks v0_merged x2.2.2.2.1 x2.2.2.2.2 x19.1 x19.2 v0_at v0_number (x20 &&& (((1 : Int32) <<< (p1 &&& 31)) ^^^ (-1 : Int32))) (bnd_ne hf)) svV_X10_sayOthers kw1641 rfl rfl hPc hDc hSc rfl rfl hl.1 (Nat.le_of_ble_eq_true rfl) dX10_sayAll_184 ⟨Nat.le_of_ble_eq_true rfl, Nat.le_of_ble_eq_true rfl, rfl, rfl, Nat.le_of_ble_eq_true rfl, Nat.le_of_ble_eq_true rfl⟩) [(0, 22)] rfl rfl rfl (fun _ => rfl) (fun x21 H locs ex21 hP hD hS => ?_)
    have hf := bnd_of hf ex21
    have hP : va_P g.1 vwCl (wX10 a0 g v0_papers v0_raw v0_kind v0_figure v0_heavy v0_place v0_rules v0_lower v0_upper v0_limits v0_limit v0_ties v0_letter v0_letters v0_told v0_tolds v0_places v0_cell v0_refusals v0_imaged v0_hasImage v0_before x8.1 x8.2 x2.2.2.1 v0_numberUp v0_numberDown v0_block v0_blocks v0_merged x2.2.2.2.1 x2.2.2.2.2 x21.1 x21.2 v0_at v0_number) H := hP
    have hD : va_D A (wX10 a0 g v0_papers v0_raw v0_kind v0_figure v0_heavy v0_place v0_rules v0_lower v0_upper v0_limits v0_limit v0_ties v0_letter v0_letters v0_told v0_tolds v0_places v0_cell v0_refusals v0_imaged v0_hasImage v0_before x8.1 x8.2 x2.2.2.1 v0_numberUp v0_numberDown v0_block v0_blocks v0_merged x2.2.2.2.1 x2.2.2.2.2 x21.1 x21.2 v0_at v0_number) := hD
    exact retV (u := (x8.1, x8.2, x2.2.2.1, x2.2.2.2.1, x2.2.2.2.2, x21.1, x21.2)) (W1 := fun u => wX10 a0 g v0_papers v0_raw v0_kind v0_figure v0_heavy v0_place v0_rules v0_lower v0_upper v0_limits v0_limit v0_ties v0_letter v0_letters v0_told v0_tolds v0_places v0_cell v0_refusals v0_imaged v0_hasImage v0_before u.1 u.2.1 u.2.2.1 v0_numberUp v0_numberDown v0_block v0_blocks v0_merged u.2.2.2.1 u.2.2.2.2.1 u.2.2.2.2.2.1 u.2.2.2.2.2.2 v0_at v0_number) hx hb hr hlocks hS hP hD (hf0.trans hf.symm) dX10_sayAll_187
  have hf := er16
  refine lc_ne (tgt := 87) hx hb dX10_sayAll_74 dX10_sayAll_75 (by decide) (fun cb => ?_) (fun cb => ?_)
  · have hf := it_f cb hf
    refine lv_aload_n hx hb dX10_sayAll_87 rfl (lv_at hl 0 rfl) ?_
    refine lv_aload_n hx hb dX10_sayAll_88 rfl (lv_at hl 0 rfl) ?_
    refine va_get (D := g.1) (ci := 11) (v := .long x8.1) (C := RX10) (T := TX10) (N := 36) hx hb hts layX10 hown hK.1 hP 0 rfl rfl 22 (by decide) (hts _ kw1299) (fun _ h9 => h9) rfl dX10_sayAll_89 ?_
    refine lv_lconst (v := 0) hx hb dX10_sayAll_92 (by decide) ?_
    obtain ⟨r22, er22, hf⟩ := bnd hf
    have K : ∀ (H : Heap) (locs : List Loc) (ls : Array Slot), va_P g.1 vwCl (wX10 a0 g v0_papers v0_raw v0_kind v0_figure v0_heavy v0_place v0_rules v0_lower v0_upper v0_limits v0_limit v0_ties v0_letter v0_letters v0_told v0_tolds v0_places v0_cell v0_refusals v0_imaged v0_hasImage v0_before x8.1 x8.2 x2.2.2.1 v0_numberUp v0_numberDown v0_block v0_blocks v0_merged x2.2.2.2.1 x2.2.2.2.2 x6.1 x6.2 v0_at v0_number) H → va_D A (wX10 a0 g v0_papers v0_raw v0_kind v0_figure v0_heavy v0_place v0_rules v0_lower v0_upper v0_limits v0_limit v0_ties v0_letter v0_letters v0_told v0_tolds v0_places v0_cell v0_refusals v0_imaged v0_hasImage v0_before x8.1 x8.2 x2.2.2.1 v0_numberUp v0_numberDown v0_block v0_blocks v0_merged x2.2.2.2.1 x2.2.2.2.2 x6.1 x6.2 v0_at v0_number) → va_S A s.heap H locs → lv_has ls 2 [(0, .ref (a0 0)), (1, .int p1)] → W p l e { frames := 7, cells := 0, slots := 0, locals := 161 } s m [.ref (a0 0), .int p1].toArray below meth c H locs 0 0 (MQ below (Qv g (m_X10_sayAll (v0_papers, v0_raw, v0_kind, v0_figure, v0_heavy, v0_place, v0_rules, v0_lower, v0_upper, v0_limits, v0_limit, v0_ties, v0_letter, v0_letters, v0_told, v0_tolds, v0_places, v0_cell, v0_refusals, v0_imaged, v0_hasImage, v0_before, v0_up, v0_down, v0_beneath, v0_numberUp, v0_numberDown, v0_block, v0_blocks, v0_merged, v0_valueUp, v0_valueDown, v0_said, v0_saids, v0_at, v0_number) p1) (fun u => wX10 a0 g v0_papers v0_raw v0_kind v0_figure v0_heavy v0_place v0_rules v0_lower v0_upper v0_limits v0_limit v0_ties v0_letter v0_letters v0_told v0_tolds v0_places v0_cell v0_refusals v0_imaged v0_hasImage v0_before u.1 u.2.1 u.2.2.1 v0_numberUp v0_numberDown v0_block v0_blocks v0_merged u.2.2.2.1 u.2.2.2.2.1 u.2.2.2.2.2.1 u.2.2.2.2.2.2 v0_at v0_number) A) [.ref (a0 0), .int p1].toArray s 0 0 A) (F0 m 104 ls [.int r22, .ref (a0 0)]) := by
      intro H locs ls hP hD hS hl
      refine cV hP hD hS hA hE (fun hPc hDc hSc => rV (As := [.int r22]) (rest := []) hx hb hml hown hts hK (c_X10_say l g a0 v0_papers v0_raw v0_kind v0_figure v0_heavy v0_place v0_rules v0_lower v0_upper v0_limits v0_limit v0_ties v0_letter v0_letters v0_told v0_tolds v0_places v0_cell v0_refusals v0_imaged v0_hasImage v0_before x8.1 x8.2 x2.2.2.1 v0_numberUp v0_numberDown v0_block v0_blocks v0_merged x2.2.2.2.1 x2.2.2.2.2 x6.1 x6.2 v0_at v0_number r22 (bnd_ne hf)) svV_X10_say kw1638 rfl rfl hPc hDc hSc rfl rfl hl.1 (Nat.le_of_ble_eq_true rfl) dX10_sayAll_104 ⟨Nat.le_of_ble_eq_true rfl, Nat.le_of_ble_eq_true rfl, rfl, rfl, Nat.le_of_ble_eq_true rfl, Nat.le_of_ble_eq_true rfl⟩) [(0, 22)] rfl rfl rfl (fun _ => rfl) (fun x23 H locs ex23 hP hD hS => ?_)
      have hf := bnd_of hf ex23
      have hP : va_P g.1 vwCl (wX10 a0 g v0_papers v0_raw v0_kind v0_figure v0_heavy v0_place v0_rules v0_lower v0_upper v0_limits v0_limit v0_ties v0_letter v0_letters v0_told v0_tolds v0_places v0_cell v0_refusals v0_imaged v0_hasImage v0_before x8.1 x8.2 x2.2.2.1 v0_numberUp v0_numberDown v0_block v0_blocks v0_merged x2.2.2.2.1 x2.2.2.2.2 x23.1 x23.2 v0_at v0_number) H := hP
      have hD : va_D A (wX10 a0 g v0_papers v0_raw v0_kind v0_figure v0_heavy v0_place v0_rules v0_lower v0_upper v0_limits v0_limit v0_ties v0_letter v0_letters v0_told v0_tolds v0_places v0_cell v0_refusals v0_imaged v0_hasImage v0_before x8.1 x8.2 x2.2.2.1 v0_numberUp v0_numberDown v0_block v0_blocks v0_merged x2.2.2.2.1 x2.2.2.2.2 x23.1 x23.2 v0_at v0_number) := hD
      refine lv_aload_n hx hb dX10_sayAll_107 rfl (lv_at hl 0 rfl) ?_
      refine lv_aload_n hx hb dX10_sayAll_108 rfl (lv_at hl 0 rfl) ?_
      refine va_get (D := g.1) (ci := 11) (v := .long x8.1) (C := RX10) (T := TX10) (N := 36) hx hb hts layX10 hown hK.1 hP 0 rfl rfl 22 (by decide) (hts _ kw1299) (fun _ h9 => h9) rfl dX10_sayAll_109 ?_
      refine va_mabs_long hx hb (hml.trans hl.1.symm) hown (hts _ kw1543) (hts _ kw813) (hts _ kw4) (hts _ kw814) (Nat.le_of_ble_eq_true rfl) (Nat.le_of_ble_eq_true rfl) (Nat.zero_le _) (Nat.zero_le _) dX10_sayAll_112 ?_
      obtain ⟨x24, ex24, hf⟩ := bnd hf
      refine nmL (Option.some.inj ex24) ?_
      refine cV hP hD hS hA hE (fun hPc hDc hSc => rV (As := [.long x24]) (rest := []) hx hb hml hown hts hK (c_X10_sayNumber l g a0 v0_papers v0_raw v0_kind v0_figure v0_heavy v0_place v0_rules v0_lower v0_upper v0_limits v0_limit v0_ties v0_letter v0_letters v0_told v0_tolds v0_places v0_cell v0_refusals v0_imaged v0_hasImage v0_before x8.1 x8.2 x2.2.2.1 v0_numberUp v0_numberDown v0_block v0_blocks v0_merged x2.2.2.2.1 x2.2.2.2.2 x23.1 x23.2 v0_at v0_number x24 (bnd_ne hf)) svV_X10_sayNumber kw1633 rfl rfl hPc hDc hSc rfl rfl hl.1 (Nat.le_of_ble_eq_true rfl) dX10_sayAll_115 ⟨Nat.le_of_ble_eq_true rfl, Nat.le_of_ble_eq_true rfl, rfl, rfl, Nat.le_of_ble_eq_true rfl, Nat.le_of_ble_eq_true rfl⟩) [(0, 22)] rfl rfl rfl (fun _ => rfl) (fun x25 H locs ex25 hP hD hS => ?_)
      have hf := bnd_of hf ex25
      have hP : va_P g.1 vwCl (wX10 a0 g v0_papers v0_raw v0_kind v0_figure v0_heavy v0_place v0_rules v0_lower v0_upper v0_limits v0_limit v0_ties v0_letter v0_letters v0_told v0_tolds v0_places v0_cell v0_refusals v0_imaged v0_hasImage v0_before x8.1 x8.2 x2.2.2.1 v0_numberUp v0_numberDown v0_block v0_blocks v0_merged x2.2.2.2.1 x2.2.2.2.2 x25.1 x25.2 v0_at v0_number) H := hP
      have hD : va_D A (wX10 a0 g v0_papers v0_raw v0_kind v0_figure v0_heavy v0_place v0_rules v0_lower v0_upper v0_limits v0_limit v0_ties v0_letter v0_letters v0_told v0_tolds v0_places v0_cell v0_refusals v0_imaged v0_hasImage v0_before x8.1 x8.2 x2.2.2.1 v0_numberUp v0_numberDown v0_block v0_blocks v0_merged x2.2.2.2.1 x2.2.2.2.2 x25.1 x25.2 v0_at v0_number) := hD
      refine lv_aload_n hx hb dX10_sayAll_118 rfl (lv_at hl 0 rfl) ?_
      refine va_get (D := g.1) (ci := 11) (v := .long x8.2) (C := RX10) (T := TX10) (N := 36) hx hb hts layX10 hown hK.1 hP 0 rfl rfl 23 (by decide) (hts _ kw1300) (fun _ h9 => h9) rfl dX10_sayAll_119 ?_
      refine lv_lconst (v := 1) hx hb dX10_sayAll_122 (by decide) ?_
      refine lc_le (tgt := 141) hx hb dX10_sayAll_123 dX10_sayAll_124 (by decide) (fun cb => ?_) (fun cb => ?_)
      · have hf := it_t cb hf
        have hq := Option.some.inj hf
        subst hq
        exact K _ _ _ hP hD hS (lv_sub hl [0, 1] rfl)
      have hf := it_f cb hf
      refine lv_aload_n hx hb dX10_sayAll_127 rfl (lv_at hl 0 rfl) ?_
      refine lv_bipush (v := 47) hx hb dX10_sayAll_128 (by decide) ?_
      refine cV hP hD hS hA hE (fun hPc hDc hSc => rV (As := [.int (47 : Int32)]) (rest := []) hx hb hml hown hts hK (c_X10_say l g a0 v0_papers v0_raw v0_kind v0_figure v0_heavy v0_place v0_rules v0_lower v0_upper v0_limits v0_limit v0_ties v0_letter v0_letters v0_told v0_tolds v0_places v0_cell v0_refusals v0_imaged v0_hasImage v0_before x8.1 x8.2 x2.2.2.1 v0_numberUp v0_numberDown v0_block v0_blocks v0_merged x2.2.2.2.1 x2.2.2.2.2 x25.1 x25.2 v0_at v0_number (47 : Int32) (bnd_ne hf)) svV_X10_say kw1638 rfl rfl hPc hDc hSc rfl rfl hl.1 (Nat.le_of_ble_eq_true rfl) dX10_sayAll_130 ⟨Nat.le_of_ble_eq_true rfl, Nat.le_of_ble_eq_true rfl, rfl, rfl, Nat.le_of_ble_eq_true rfl, Nat.le_of_ble_eq_true rfl⟩) [(0, 22)] rfl rfl rfl (fun _ => rfl) (fun x26 H locs ex26 hP hD hS => ?_)
      have hf := bnd_of hf ex26
      have hP : va_P g.1 vwCl (wX10 a0 g v0_papers v0_raw v0_kind v0_figure v0_heavy v0_place v0_rules v0_lower v0_upper v0_limits v0_limit v0_ties v0_letter v0_letters v0_told v0_tolds v0_places v0_cell v0_refusals v0_imaged v0_hasImage v0_before x8.1 x8.2 x2.2.2.1 v0_numberUp v0_numberDown v0_block v0_blocks v0_merged x2.2.2.2.1 x2.2.2.2.2 x26.1 x26.2 v0_at v0_number) H := hP
      have hD : va_D A (wX10 a0 g v0_papers v0_raw v0_kind v0_figure v0_heavy v0_place v0_rules v0_lower v0_upper v0_limits v0_limit v0_ties v0_letter v0_letters v0_told v0_tolds v0_places v0_cell v0_refusals v0_imaged v0_hasImage v0_before x8.1 x8.2 x2.2.2.1 v0_numberUp v0_numberDown v0_block v0_blocks v0_merged x2.2.2.2.1 x2.2.2.2.2 x26.1 x26.2 v0_at v0_number) := hD
      refine lv_aload_n hx hb dX10_sayAll_133 rfl (lv_at hl 0 rfl) ?_
      refine lv_aload_n hx hb dX10_sayAll_134 rfl (lv_at hl 0 rfl) ?_
      refine va_get (D := g.1) (ci := 11) (v := .long x8.2) (C := RX10) (T := TX10) (N := 36) hx hb hts layX10 hown hK.1 hP 0 rfl rfl 23 (by decide) (hts _ kw1300) (fun _ h9 => h9) rfl dX10_sayAll_135 ?_
      refine cV hP hD hS hA hE (fun hPc hDc hSc => rV (As := [.long x8.2]) (rest := []) hx hb hml hown hts hK (c_X10_sayNumber l g a0 v0_papers v0_raw v0_kind v0_figure v0_heavy v0_place v0_rules v0_lower v0_upper v0_limits v0_limit v0_ties v0_letter v0_letters v0_told v0_tolds v0_places v0_cell v0_refusals v0_imaged v0_hasImage v0_before x8.1 x8.2 x2.2.2.1 v0_numberUp v0_numberDown v0_block v0_blocks v0_merged x2.2.2.2.1 x2.2.2.2.2 x26.1 x26.2 v0_at v0_number x8.2 (bnd_ne hf)) svV_X10_sayNumber kw1633 rfl rfl hPc hDc hSc rfl rfl hl.1 (Nat.le_of_ble_eq_true rfl) dX10_sayAll_138 ⟨Nat.le_of_ble_eq_true rfl, Nat.le_of_ble_eq_true rfl, rfl, rfl, Nat.le_of_ble_eq_true rfl, Nat.le_of_ble_eq_true rfl⟩) [(0, 22)] rfl rfl rfl (fun _ => rfl) (fun x27 H locs ex27 hP hD hS => ?_)
      have hf := bnd_of hf ex27
      have hP : va_P g.1 vwCl (wX10 a0 g v0_papers v0_raw v0_kind v0_figure v0_heavy v0_place v0_rules v0_lower v0_upper v0_limits v0_limit v0_ties v0_letter v0_letters v0_told v0_tolds v0_places v0_cell v0_refusals v0_imaged v0_hasImage v0_before x8.1 x8.2 x2.2.2.1 v0_numberUp v0_numberDown v0_block v0_blocks v0_merged x2.2.2.2.1 x2.2.2.2.2 x27.1 x27.2 v0_at v0_number) H := hP
      have hD : va_D A (wX10 a0 g v0_papers v0_raw v0_kind v0_figure v0_heavy v0_place v0_rules v0_lower v0_upper v0_limits v0_limit v0_ties v0_letter v0_letters v0_told v0_tolds v0_places v0_cell v0_refusals v0_imaged v0_hasImage v0_before x8.1 x8.2 x2.2.2.1 v0_numberUp v0_numberDown v0_block v0_blocks v0_merged x2.2.2.2.1 x2.2.2.2.2 x27.1 x27.2 v0_at v0_number) := hD
      have hq := Option.some.inj hf
      subst hq
      exact K _ _ _ hP hD hS (lv_sub hl [0, 1] rfl)
    have hf := er22
    refine lc_le (tgt := 102) hx hb dX10_sayAll_93 dX10_sayAll_94 (by decide) (fun cb => ?_) (fun cb => ?_)
    · have hf := it_t cb hf
      refine lv_bipush (v := 45) hx hb dX10_sayAll_102 (by decide) ?_
      have hq := Option.some.inj hf
      subst hq
      exact K _ _ _ hP hD hS (lv_sub hl [0, 1] rfl)
    have hf := it_f cb hf
    refine lv_bipush (v := 43) hx hb dX10_sayAll_97 (by decide) ?_
    refine lv_goto (tgt := 104) hx hb dX10_sayAll_99 (by decide) ?_
    have hq := Option.some.inj hf
    subst hq
    exact K _ _ _ hP hD hS (lv_sub hl [0, 1] rfl)
  have hf := it_t cb hf
  refine lv_aload_n hx hb dX10_sayAll_78 rfl (lv_at hl 0 rfl) ?_
  refine lv_bipush (v := 61) hx hb dX10_sayAll_79 (by decide) ?_
  refine cV hP hD hS hA hE (fun hPc hDc hSc => rV (As := [.int (61 : Int32)]) (rest := []) hx hb hml hown hts hK (c_X10_say l g a0 v0_papers v0_raw v0_kind v0_figure v0_heavy v0_place v0_rules v0_lower v0_upper v0_limits v0_limit v0_ties v0_letter v0_letters v0_told v0_tolds v0_places v0_cell v0_refusals v0_imaged v0_hasImage v0_before x8.1 x8.2 x2.2.2.1 v0_numberUp v0_numberDown v0_block v0_blocks v0_merged x2.2.2.2.1 x2.2.2.2.2 x6.1 x6.2 v0_at v0_number (61 : Int32) (bnd_ne hf)) svV_X10_say kw1638 rfl rfl hPc hDc hSc rfl rfl hl.1 (Nat.le_of_ble_eq_true rfl) dX10_sayAll_81 ⟨Nat.le_of_ble_eq_true rfl, Nat.le_of_ble_eq_true rfl, rfl, rfl, Nat.le_of_ble_eq_true rfl, Nat.le_of_ble_eq_true rfl⟩) [(0, 22)] rfl rfl rfl (fun _ => rfl) (fun x28 H locs ex28 hP hD hS => ?_)
  have hf := bnd_of hf ex28
  have hP : va_P g.1 vwCl (wX10 a0 g v0_papers v0_raw v0_kind v0_figure v0_heavy v0_place v0_rules v0_lower v0_upper v0_limits v0_limit v0_ties v0_letter v0_letters v0_told v0_tolds v0_places v0_cell v0_refusals v0_imaged v0_hasImage v0_before x8.1 x8.2 x2.2.2.1 v0_numberUp v0_numberDown v0_block v0_blocks v0_merged x2.2.2.2.1 x2.2.2.2.2 x28.1 x28.2 v0_at v0_number) H := hP
  have hD : va_D A (wX10 a0 g v0_papers v0_raw v0_kind v0_figure v0_heavy v0_place v0_rules v0_lower v0_upper v0_limits v0_limit v0_ties v0_letter v0_letters v0_told v0_tolds v0_places v0_cell v0_refusals v0_imaged v0_hasImage v0_before x8.1 x8.2 x2.2.2.1 v0_numberUp v0_numberDown v0_block v0_blocks v0_merged x2.2.2.2.1 x2.2.2.2.2 x28.1 x28.2 v0_at v0_number) := hD
  refine lv_goto (tgt := 141) hx hb dX10_sayAll_84 (by decide) ?_
  have hq := Option.some.inj hf
  subst hq
  exact K _ _ _ hP hD hS (lv_sub hl [0, 1] rfl)
set_option maxHeartbeats 4000000 in
set_option maxRecDepth 100000 in
theorem c_X10_says (l : Launch) (g : GG) (a0 : Nat → Nat) (v0_papers : Int32) (v0_raw : (Nat → Int32)) (v0_kind : (Nat → Int32)) (v0_figure : (Nat → Int32)) (v0_heavy : (Nat → Int32)) (v0_place : (Nat → Int32)) (v0_rules : Int32) (v0_lower : (Nat → Int32)) (v0_upper : (Nat → Int32)) (v0_limits : Int32) (v0_limit : (Nat → Int32)) (v0_ties : Int32) (v0_letter : (Nat → Int32)) (v0_letters : Int32) (v0_told : (Nat → Int32)) (v0_tolds : Int32) (v0_places : (Nat → Int32)) (v0_cell : (Nat → Int64)) (v0_refusals : (Nat → Int32)) (v0_imaged : (Nat → Int32)) (v0_hasImage : Int32) (v0_before : (Nat → Int32)) (v0_up : Int64) (v0_down : Int64) (v0_beneath : (Nat → Int32)) (v0_numberUp : Int32) (v0_numberDown : Int32) (v0_block : (Nat → Int32)) (v0_blocks : Int32) (v0_merged : Int32) (v0_valueUp : (Nat → Int32)) (v0_valueDown : (Nat → Int32)) (v0_said : (Nat → Int32)) (v0_saids : Int32) (v0_at : Int32) (v0_number : (Nat → Int32)) (p1 : Int32) (p2 : Int32) (hne : (m_X10_says (v0_papers, v0_raw, v0_kind, v0_figure, v0_heavy, v0_place, v0_rules, v0_lower, v0_upper, v0_limits, v0_limit, v0_ties, v0_letter, v0_letters, v0_told, v0_tolds, v0_places, v0_cell, v0_refusals, v0_imaged, v0_hasImage, v0_before, v0_up, v0_down, v0_beneath, v0_numberUp, v0_numberDown, v0_block, v0_blocks, v0_merged, v0_valueUp, v0_valueDown, v0_said, v0_saids, v0_at, v0_number) p1 p2) ≠ none) : Ct l g yX10_says cX10_says 3 (some .int) ({ frames := 8, cells := 0, slots := 0, locals := 182 } : Room) [.ref (a0 0), .int p1, .int p2] (wX10 a0 g v0_papers v0_raw v0_kind v0_figure v0_heavy v0_place v0_rules v0_lower v0_upper v0_limits v0_limit v0_ties v0_letter v0_letters v0_told v0_tolds v0_places v0_cell v0_refusals v0_imaged v0_hasImage v0_before v0_up v0_down v0_beneath v0_numberUp v0_numberDown v0_block v0_blocks v0_merged v0_valueUp v0_valueDown v0_said v0_saids v0_at v0_number) (Qi g .int (m_X10_says (v0_papers, v0_raw, v0_kind, v0_figure, v0_heavy, v0_place, v0_rules, v0_lower, v0_upper, v0_limits, v0_limit, v0_ties, v0_letter, v0_letters, v0_told, v0_tolds, v0_places, v0_cell, v0_refusals, v0_imaged, v0_hasImage, v0_before, v0_up, v0_down, v0_beneath, v0_numberUp, v0_numberDown, v0_block, v0_blocks, v0_merged, v0_valueUp, v0_valueDown, v0_said, v0_saids, v0_at, v0_number) p1 p2) (fun u => u.1) (fun u => wX10 a0 g v0_papers v0_raw v0_kind v0_figure v0_heavy v0_place v0_rules v0_lower v0_upper v0_limits v0_limit v0_ties v0_letter v0_letters v0_told v0_tolds v0_places v0_cell u.2.1 v0_imaged v0_hasImage v0_before u.2.2.1 u.2.2.2.1 u.2.2.2.2.1 v0_numberUp v0_numberDown v0_block v0_blocks v0_merged u.2.2.2.2.2.1 u.2.2.2.2.2.2.1 u.2.2.2.2.2.2.2.1 u.2.2.2.2.2.2.2.2 v0_at v0_number)) 0 0 := by
  obtain ⟨out, hf⟩ := ne_ex hne
  have hf0 := hf
  refine Ct.of (own := RX10) (by decide +kernel) rfl (Nat.le_of_ble_eq_true rfl) ?_
  intro p e s m below meth c hx hb hr hml hown hts hlocks hin hK A H locs hA hP hD hS hE ls hl
  have hl : lv_has ls 3 [(0, .ref (a0 0)), (1, .int p1), (2, .int p2)] := hl
  unfold m_X10_says at hf
  refine lv_aload_n hx hb dX10_says_0 rfl (lv_at hl 0 rfl) ?_
  refine lv_iload_n hx hb dX10_says_1 rfl (lv_at hl 1 rfl) ?_
  refine cIp hP hD hS hA hE (fun hPc hDc hSc => rV (As := [.int p1]) (rest := []) hx hb hml hown hts hK (c_X10_isPaper l g a0 v0_papers v0_raw v0_kind v0_figure v0_heavy v0_place v0_rules v0_lower v0_upper v0_limits v0_limit v0_ties v0_letter v0_letters v0_told v0_tolds v0_places v0_cell v0_refusals v0_imaged v0_hasImage v0_before v0_up v0_down v0_beneath v0_numberUp v0_numberDown v0_block v0_blocks v0_merged v0_valueUp v0_valueDown v0_said v0_saids v0_at v0_number p1 (bnd_ne hf)) svV_X10_isPaper kw1361 rfl rfl hPc hDc hSc rfl rfl hl.1 (Nat.le_of_ble_eq_true rfl) dX10_says_2 ⟨Nat.le_of_ble_eq_true rfl, Nat.le_of_ble_eq_true rfl, rfl, rfl, Nat.le_of_ble_eq_true rfl, Nat.le_of_ble_eq_true rfl⟩) [(0, 22)] rfl rfl rfl (fun x1 H locs ex1 nx1 hP hS => ?_)
  have hf := bnd_of hf ex1
  refine lv_if_ne (tgt := 14) hx hb dX10_says_5 (by decide) (fun cb => ?_) (fun cb => ?_)
  · have hf := it_f cb hf
    refine lv_aload_n hx hb dX10_says_14 rfl (lv_at hl 0 rfl) ?_
    refine lv_iload_n hx hb dX10_says_15 rfl (lv_at hl 1 rfl) ?_
    refine cV hP hD hS hA hE (fun hPc hDc hSc => rV (As := [.int p1]) (rest := []) hx hb hml hown hts hK (c_X10_sayAll l g a0 v0_papers v0_raw v0_kind v0_figure v0_heavy v0_place v0_rules v0_lower v0_upper v0_limits v0_limit v0_ties v0_letter v0_letters v0_told v0_tolds v0_places v0_cell v0_refusals v0_imaged v0_hasImage v0_before v0_up v0_down v0_beneath v0_numberUp v0_numberDown v0_block v0_blocks v0_merged v0_valueUp v0_valueDown v0_said v0_saids v0_at v0_number p1 (bnd_ne hf)) svV_X10_sayAll kw1630 rfl rfl hPc hDc hSc rfl rfl hl.1 (Nat.le_of_ble_eq_true rfl) dX10_says_16 ⟨Nat.le_of_ble_eq_true rfl, Nat.le_of_ble_eq_true rfl, rfl, rfl, Nat.le_of_ble_eq_true rfl, Nat.le_of_ble_eq_true rfl⟩) [(0, 22)] rfl rfl rfl (fun _ => rfl) (fun x2 H locs ex2 hP hD hS => ?_)
    have hf := bnd_of hf ex2
    have hP : va_P g.1 vwCl (wX10 a0 g v0_papers v0_raw v0_kind v0_figure v0_heavy v0_place v0_rules v0_lower v0_upper v0_limits v0_limit v0_ties v0_letter v0_letters v0_told v0_tolds v0_places v0_cell v0_refusals v0_imaged v0_hasImage v0_before x2.1 x2.2.1 x2.2.2.1 v0_numberUp v0_numberDown v0_block v0_blocks v0_merged x2.2.2.2.1 x2.2.2.2.2.1 x2.2.2.2.2.2.1 x2.2.2.2.2.2.2 v0_at v0_number) H := hP
    have hD : va_D A (wX10 a0 g v0_papers v0_raw v0_kind v0_figure v0_heavy v0_place v0_rules v0_lower v0_upper v0_limits v0_limit v0_ties v0_letter v0_letters v0_told v0_tolds v0_places v0_cell v0_refusals v0_imaged v0_hasImage v0_before x2.1 x2.2.1 x2.2.2.1 v0_numberUp v0_numberDown v0_block v0_blocks v0_merged x2.2.2.2.1 x2.2.2.2.2.1 x2.2.2.2.2.2.1 x2.2.2.2.2.2.2 v0_at v0_number) := hD
    refine lv_iload_n hx hb dX10_says_19 rfl (lv_at hl 2 rfl) ?_
    refine lv_iconst (v := (-1)) hx hb dX10_says_20 (by decide) ?_
    refine lv_aload_n hx hb dX10_says_21 rfl (lv_at hl 0 rfl) ?_
    refine va_get (D := g.1) (ci := 11) (v := .int x2.2.2.2.2.2.2) (C := RX10) (T := TX10) (N := 36) hx hb hts layX10 hown hK.1 hP 0 rfl rfl 33 (by decide) (hts _ kw1310) (fun _ h9 => h9) rfl dX10_says_22 ?_
    refine lv_iconst (v := 1) hx hb dX10_says_25 (by decide) ?_
    refine lv_isub hx hb dX10_says_26 ?_
    refine cIp hP hD hS hA hE (fun hPc hDc hSc => rS (As := [.int p2, .int (-1 : Int32), .int (x2.2.2.2.2.2.2 - (1 : Int32))]) (rest := []) hx hb hml hown hts hK (c_X10_in l g p2 (-1 : Int32) (x2.2.2.2.2.2.2 - (1 : Int32)) (bnd_ne hf)) svS_X10_in kw1364 hPc hDc hSc rfl rfl hl.1 (Nat.le_of_ble_eq_true rfl) dX10_says_27 ⟨Nat.le_of_ble_eq_true rfl, Nat.le_of_ble_eq_true rfl, rfl, rfl, Nat.le_of_ble_eq_true rfl, Nat.le_of_ble_eq_true rfl⟩) [] rfl rfl rfl (fun x3 H locs ex3 nx3 hP hS => ?_)
    have hf := bnd_of hf ex3
    refine lv_if_ne (tgt := 39) hx hb dX10_says_30 (by decide) (fun cb => ?_) (fun cb => ?_)
    · have hf := it_f cb hf
      refine lv_iload_n hx hb dX10_says_39 rfl (lv_at hl 2 rfl) ?_
      refine lv_if_ge (tgt := 50) hx hb dX10_says_40 (by decide) (fun cb => ?_) (fun cb => ?_)
      · have hf := it_t cb hf
        refine lv_aload_n hx hb dX10_says_50 rfl (lv_at hl 0 rfl) ?_
        refine va_get (D := g.1) (ci := 11) (v := .ref (a0 20)) (C := RX10) (T := TX10) (N := 36) hx hb hts layX10 hown hK.1 hP 0 rfl rfl 32 (by decide) (hts _ kw1309) (fun _ h9 => h9) rfl dX10_says_51 ?_
        refine lv_iload_n hx hb dX10_says_54 rfl (lv_at hl 2 rfl) ?_
        have hi := it_n hf
        have hf := it_t hi hf
        refine va_iald hx hb hK.1 hP 20 0 rfl rfl (inb_in hi) dX10_says_55 ?_
        exact retI (v := (x2.2.2.2.2.2.1 p2.toNatClampNeg)) (u := ((x2.2.2.2.2.2.1 p2.toNatClampNeg), v0_refusals, x2.1, x2.2.1, x2.2.2.1, x2.2.2.2.1, x2.2.2.2.2.1, x2.2.2.2.2.2.1, x2.2.2.2.2.2.2)) (val := fun u => u.1) (W1 := fun u => wX10 a0 g v0_papers v0_raw v0_kind v0_figure v0_heavy v0_place v0_rules v0_lower v0_upper v0_limits v0_limit v0_ties v0_letter v0_letters v0_told v0_tolds v0_places v0_cell u.2.1 v0_imaged v0_hasImage v0_before u.2.2.1 u.2.2.2.1 u.2.2.2.2.1 v0_numberUp v0_numberDown v0_block v0_blocks v0_merged u.2.2.2.2.2.1 u.2.2.2.2.2.2.1 u.2.2.2.2.2.2.2.1 u.2.2.2.2.2.2.2.2 v0_at v0_number) hx hb hr hlocks hS hP hD (hf0.trans hf.symm) rfl rfl dX10_says_56
      have hf := it_f cb hf
      refine lv_aload_n hx hb dX10_says_43 rfl (lv_at hl 0 rfl) ?_
      refine va_get (D := g.1) (ci := 11) (v := .int x2.2.2.2.2.2.2) (C := RX10) (T := TX10) (N := 36) hx hb hts layX10 hown hK.1 hP 0 rfl rfl 33 (by decide) (hts _ kw1310) (fun _ h9 => h9) rfl dX10_says_44 ?_
      refine lv_goto (tgt := 56) hx hb dX10_says_47 (by decide) ?_
      exact retI (v := x2.2.2.2.2.2.2) (u := (x2.2.2.2.2.2.2, v0_refusals, x2.1, x2.2.1, x2.2.2.1, x2.2.2.2.1, x2.2.2.2.2.1, x2.2.2.2.2.2.1, x2.2.2.2.2.2.2)) (val := fun u => u.1) (W1 := fun u => wX10 a0 g v0_papers v0_raw v0_kind v0_figure v0_heavy v0_place v0_rules v0_lower v0_upper v0_limits v0_limit v0_ties v0_letter v0_letters v0_told v0_tolds v0_places v0_cell u.2.1 v0_imaged v0_hasImage v0_before u.2.2.1 u.2.2.2.1 u.2.2.2.2.1 v0_numberUp v0_numberDown v0_block v0_blocks v0_merged u.2.2.2.2.2.1 u.2.2.2.2.2.2.1 u.2.2.2.2.2.2.2.1 u.2.2.2.2.2.2.2.2 v0_at v0_number) hx hb hr hlocks hS hP hD (hf0.trans hf.symm) rfl rfl dX10_says_56
    have hf := it_t cb hf
    refine lv_aload_n hx hb dX10_says_33 rfl (lv_at hl 0 rfl) ?_
    refine lv_iconst (v := (-1)) hx hb dX10_says_34 (by decide) ?_
    refine cI hP hD hS hA hE (fun hPc hDc hSc => rV (As := [.int (-1 : Int32)]) (rest := []) hx hb hml hown hts hK (c_X10_no l g a0 v0_papers v0_raw v0_kind v0_figure v0_heavy v0_place v0_rules v0_lower v0_upper v0_limits v0_limit v0_ties v0_letter v0_letters v0_told v0_tolds v0_places v0_cell v0_refusals v0_imaged v0_hasImage v0_before x2.1 x2.2.1 x2.2.2.1 v0_numberUp v0_numberDown v0_block v0_blocks v0_merged x2.2.2.2.1 x2.2.2.2.2.1 x2.2.2.2.2.2.1 x2.2.2.2.2.2.2 v0_at v0_number (-1 : Int32) (bnd_ne hf)) svV_X10_no kw1354 rfl rfl hPc hDc hSc rfl rfl hl.1 (Nat.le_of_ble_eq_true rfl) dX10_says_35 ⟨Nat.le_of_ble_eq_true rfl, Nat.le_of_ble_eq_true rfl, rfl, rfl, Nat.le_of_ble_eq_true rfl, Nat.le_of_ble_eq_true rfl⟩) [(0, 22)] rfl rfl rfl (fun _ => rfl) (fun x4 H locs ex4 nx4 hP hD hS => ?_)
    have hf := bnd_of hf ex4
    have hP : va_P g.1 vwCl (wX10 a0 g v0_papers v0_raw v0_kind v0_figure v0_heavy v0_place v0_rules v0_lower v0_upper v0_limits v0_limit v0_ties v0_letter v0_letters v0_told v0_tolds v0_places v0_cell x4.2 v0_imaged v0_hasImage v0_before x2.1 x2.2.1 x2.2.2.1 v0_numberUp v0_numberDown v0_block v0_blocks v0_merged x2.2.2.2.1 x2.2.2.2.2.1 x2.2.2.2.2.2.1 x2.2.2.2.2.2.2 v0_at v0_number) H := hP
    have hD : va_D A (wX10 a0 g v0_papers v0_raw v0_kind v0_figure v0_heavy v0_place v0_rules v0_lower v0_upper v0_limits v0_limit v0_ties v0_letter v0_letters v0_told v0_tolds v0_places v0_cell x4.2 v0_imaged v0_hasImage v0_before x2.1 x2.2.1 x2.2.2.1 v0_numberUp v0_numberDown v0_block v0_blocks v0_merged x2.2.2.2.1 x2.2.2.2.2.1 x2.2.2.2.2.2.1 x2.2.2.2.2.2.2 v0_at v0_number) := hD
    exact retI (v := x4.1) (u := (x4.1, x4.2, x2.1, x2.2.1, x2.2.2.1, x2.2.2.2.1, x2.2.2.2.2.1, x2.2.2.2.2.2.1, x2.2.2.2.2.2.2)) (val := fun u => u.1) (W1 := fun u => wX10 a0 g v0_papers v0_raw v0_kind v0_figure v0_heavy v0_place v0_rules v0_lower v0_upper v0_limits v0_limit v0_ties v0_letter v0_letters v0_told v0_tolds v0_places v0_cell u.2.1 v0_imaged v0_hasImage v0_before u.2.2.1 u.2.2.2.1 u.2.2.2.2.1 v0_numberUp v0_numberDown v0_block v0_blocks v0_merged u.2.2.2.2.2.1 u.2.2.2.2.2.2.1 u.2.2.2.2.2.2.2.1 u.2.2.2.2.2.2.2.2 v0_at v0_number) hx hb hr hlocks hS hP hD (hf0.trans hf.symm) rfl rfl dX10_says_38
  have hf := it_t cb hf
  refine lv_aload_n hx hb dX10_says_8 rfl (lv_at hl 0 rfl) ?_
  refine lv_iconst (v := (-1)) hx hb dX10_says_9 (by decide) ?_
  refine cI hP hD hS hA hE (fun hPc hDc hSc => rV (As := [.int (-1 : Int32)]) (rest := []) hx hb hml hown hts hK (c_X10_no l g a0 v0_papers v0_raw v0_kind v0_figure v0_heavy v0_place v0_rules v0_lower v0_upper v0_limits v0_limit v0_ties v0_letter v0_letters v0_told v0_tolds v0_places v0_cell v0_refusals v0_imaged v0_hasImage v0_before v0_up v0_down v0_beneath v0_numberUp v0_numberDown v0_block v0_blocks v0_merged v0_valueUp v0_valueDown v0_said v0_saids v0_at v0_number (-1 : Int32) (bnd_ne hf)) svV_X10_no kw1354 rfl rfl hPc hDc hSc rfl rfl hl.1 (Nat.le_of_ble_eq_true rfl) dX10_says_10 ⟨Nat.le_of_ble_eq_true rfl, Nat.le_of_ble_eq_true rfl, rfl, rfl, Nat.le_of_ble_eq_true rfl, Nat.le_of_ble_eq_true rfl⟩) [(0, 22)] rfl rfl rfl (fun _ => rfl) (fun x5 H locs ex5 nx5 hP hD hS => ?_)
  have hf := bnd_of hf ex5
  have hP : va_P g.1 vwCl (wX10 a0 g v0_papers v0_raw v0_kind v0_figure v0_heavy v0_place v0_rules v0_lower v0_upper v0_limits v0_limit v0_ties v0_letter v0_letters v0_told v0_tolds v0_places v0_cell x5.2 v0_imaged v0_hasImage v0_before v0_up v0_down v0_beneath v0_numberUp v0_numberDown v0_block v0_blocks v0_merged v0_valueUp v0_valueDown v0_said v0_saids v0_at v0_number) H := hP
  have hD : va_D A (wX10 a0 g v0_papers v0_raw v0_kind v0_figure v0_heavy v0_place v0_rules v0_lower v0_upper v0_limits v0_limit v0_ties v0_letter v0_letters v0_told v0_tolds v0_places v0_cell x5.2 v0_imaged v0_hasImage v0_before v0_up v0_down v0_beneath v0_numberUp v0_numberDown v0_block v0_blocks v0_merged v0_valueUp v0_valueDown v0_said v0_saids v0_at v0_number) := hD
  exact retI (v := x5.1) (u := (x5.1, x5.2, v0_up, v0_down, v0_beneath, v0_valueUp, v0_valueDown, v0_said, v0_saids)) (val := fun u => u.1) (W1 := fun u => wX10 a0 g v0_papers v0_raw v0_kind v0_figure v0_heavy v0_place v0_rules v0_lower v0_upper v0_limits v0_limit v0_ties v0_letter v0_letters v0_told v0_tolds v0_places v0_cell u.2.1 v0_imaged v0_hasImage v0_before u.2.2.1 u.2.2.2.1 u.2.2.2.2.1 v0_numberUp v0_numberDown v0_block v0_blocks v0_merged u.2.2.2.2.2.1 u.2.2.2.2.2.2.1 u.2.2.2.2.2.2.2.1 u.2.2.2.2.2.2.2.2 v0_at v0_number) hx hb hr hlocks hS hP hD (hf0.trans hf.symm) rfl rfl dX10_says_13
set_option maxHeartbeats 4000000 in
set_option maxRecDepth 100000 in
theorem c_X10_isTold (l : Launch) (g : GG) (a0 : Nat → Nat) (v0_papers : Int32) (v0_raw : (Nat → Int32)) (v0_kind : (Nat → Int32)) (v0_figure : (Nat → Int32)) (v0_heavy : (Nat → Int32)) (v0_place : (Nat → Int32)) (v0_rules : Int32) (v0_lower : (Nat → Int32)) (v0_upper : (Nat → Int32)) (v0_limits : Int32) (v0_limit : (Nat → Int32)) (v0_ties : Int32) (v0_letter : (Nat → Int32)) (v0_letters : Int32) (v0_told : (Nat → Int32)) (v0_tolds : Int32) (v0_places : (Nat → Int32)) (v0_cell : (Nat → Int64)) (v0_refusals : (Nat → Int32)) (v0_imaged : (Nat → Int32)) (v0_hasImage : Int32) (v0_before : (Nat → Int32)) (v0_up : Int64) (v0_down : Int64) (v0_beneath : (Nat → Int32)) (v0_numberUp : Int32) (v0_numberDown : Int32) (v0_block : (Nat → Int32)) (v0_blocks : Int32) (v0_merged : Int32) (v0_valueUp : (Nat → Int32)) (v0_valueDown : (Nat → Int32)) (v0_said : (Nat → Int32)) (v0_saids : Int32) (v0_at : Int32) (v0_number : (Nat → Int32)) (p1 : Int32) (p2 : Int32) (hne : (m_X10_isTold (v0_papers, v0_raw, v0_kind, v0_figure, v0_heavy, v0_place, v0_rules, v0_lower, v0_upper, v0_limits, v0_limit, v0_ties, v0_letter, v0_letters, v0_told, v0_tolds, v0_places, v0_cell, v0_refusals, v0_imaged, v0_hasImage, v0_before, v0_up, v0_down, v0_beneath, v0_numberUp, v0_numberDown, v0_block, v0_blocks, v0_merged, v0_valueUp, v0_valueDown, v0_said, v0_saids, v0_at, v0_number) p1 p2) ≠ none) : Ct l g yX10_isTold cX10_isTold 4 (some .boolean) ({ frames := 2, cells := 0, slots := 0, locals := 45 } : Room) [.ref (a0 0), .int p1, .int p2] (wX10 a0 g v0_papers v0_raw v0_kind v0_figure v0_heavy v0_place v0_rules v0_lower v0_upper v0_limits v0_limit v0_ties v0_letter v0_letters v0_told v0_tolds v0_places v0_cell v0_refusals v0_imaged v0_hasImage v0_before v0_up v0_down v0_beneath v0_numberUp v0_numberDown v0_block v0_blocks v0_merged v0_valueUp v0_valueDown v0_said v0_saids v0_at v0_number) (Qi g .boolean (m_X10_isTold (v0_papers, v0_raw, v0_kind, v0_figure, v0_heavy, v0_place, v0_rules, v0_lower, v0_upper, v0_limits, v0_limit, v0_ties, v0_letter, v0_letters, v0_told, v0_tolds, v0_places, v0_cell, v0_refusals, v0_imaged, v0_hasImage, v0_before, v0_up, v0_down, v0_beneath, v0_numberUp, v0_numberDown, v0_block, v0_blocks, v0_merged, v0_valueUp, v0_valueDown, v0_said, v0_saids, v0_at, v0_number) p1 p2) (fun u => u) (fun u => wX10 a0 g v0_papers v0_raw v0_kind v0_figure v0_heavy v0_place v0_rules v0_lower v0_upper v0_limits v0_limit v0_ties v0_letter v0_letters v0_told v0_tolds v0_places v0_cell v0_refusals v0_imaged v0_hasImage v0_before v0_up v0_down v0_beneath v0_numberUp v0_numberDown v0_block v0_blocks v0_merged v0_valueUp v0_valueDown v0_said v0_saids v0_at v0_number)) 0 0 := by
  obtain ⟨out, hf⟩ := ne_ex hne
  have hf0 := hf
  refine Ct.of (own := RX10) (by decide +kernel) rfl (Nat.le_of_ble_eq_true rfl) ?_
  intro p e s m below meth c hx hb hr hml hown hts hlocks hin hK A H locs hA hP hD hS hE ls hl
  have hl : lv_has ls 4 [(0, .ref (a0 0)), (1, .int p1), (2, .int p2)] := hl
  unfold m_X10_isTold at hf
  refine lv_iconst (v := 0) hx hb dX10_isTold_0 (by decide) ?_
  refine lv_istore_n (lv' := [(3, .int (0 : Int32)), (0, .ref (a0 0)), (1, .int p1), (2, .int p2)]) hx hb dX10_isTold_1 rfl hl (by decide) rfl (fun ls hl => ?_)
  obtain ⟨r4, er4, hf⟩ := bnd hf
  refine lp_W (P := fun z => ∀ (H : Heap) (locs : List Loc) (ls : Array Slot), va_P g.1 vwCl (wX10 a0 g v0_papers v0_raw v0_kind v0_figure v0_heavy v0_place v0_rules v0_lower v0_upper v0_limits v0_limit v0_ties v0_letter v0_letters v0_told v0_tolds v0_places v0_cell v0_refusals v0_imaged v0_hasImage v0_before v0_up v0_down v0_beneath v0_numberUp v0_numberDown v0_block v0_blocks v0_merged v0_valueUp v0_valueDown v0_said v0_saids v0_at v0_number) H → va_D A (wX10 a0 g v0_papers v0_raw v0_kind v0_figure v0_heavy v0_place v0_rules v0_lower v0_upper v0_limits v0_limit v0_ties v0_letter v0_letters v0_told v0_tolds v0_places v0_cell v0_refusals v0_imaged v0_hasImage v0_before v0_up v0_down v0_beneath v0_numberUp v0_numberDown v0_block v0_blocks v0_merged v0_valueUp v0_valueDown v0_said v0_saids v0_at v0_number) → va_S A s.heap H locs → lv_has ls 4 [(0, .ref (a0 0)), (1, .int p1), (2, .int p2), (3, .int z)] → W p l e { frames := 2, cells := 0, slots := 0, locals := 45 } s m [.ref (a0 0), .int p1, .int p2].toArray below meth c H locs 0 0 (MQ below (Qi g .boolean (m_X10_isTold (v0_papers, v0_raw, v0_kind, v0_figure, v0_heavy, v0_place, v0_rules, v0_lower, v0_upper, v0_limits, v0_limit, v0_ties, v0_letter, v0_letters, v0_told, v0_tolds, v0_places, v0_cell, v0_refusals, v0_imaged, v0_hasImage, v0_before, v0_up, v0_down, v0_beneath, v0_numberUp, v0_numberDown, v0_block, v0_blocks, v0_merged, v0_valueUp, v0_valueDown, v0_said, v0_saids, v0_at, v0_number) p1 p2) (fun u => u) (fun u => wX10 a0 g v0_papers v0_raw v0_kind v0_figure v0_heavy v0_place v0_rules v0_lower v0_upper v0_limits v0_limit v0_ties v0_letter v0_letters v0_told v0_tolds v0_places v0_cell v0_refusals v0_imaged v0_hasImage v0_before v0_up v0_down v0_beneath v0_numberUp v0_numberDown v0_block v0_blocks v0_merged v0_valueUp v0_valueDown v0_said v0_saids v0_at v0_number) A) [.ref (a0 0), .int p1, .int p2].toArray s 0 0 A) (F0 m 2 ls [])) (E := fun r4 => match r4 with | .inl x5 => (∀ (H : Heap) (locs : List Loc) (ls : Array Slot), va_P g.1 vwCl (wX10 a0 g v0_papers v0_raw v0_kind v0_figure v0_heavy v0_place v0_rules v0_lower v0_upper v0_limits v0_limit v0_ties v0_letter v0_letters v0_told v0_tolds v0_places v0_cell v0_refusals v0_imaged v0_hasImage v0_before v0_up v0_down v0_beneath v0_numberUp v0_numberDown v0_block v0_blocks v0_merged v0_valueUp v0_valueDown v0_said v0_saids v0_at v0_number) H → va_D A (wX10 a0 g v0_papers v0_raw v0_kind v0_figure v0_heavy v0_place v0_rules v0_lower v0_upper v0_limits v0_limit v0_ties v0_letter v0_letters v0_told v0_tolds v0_places v0_cell v0_refusals v0_imaged v0_hasImage v0_before v0_up v0_down v0_beneath v0_numberUp v0_numberDown v0_block v0_blocks v0_merged v0_valueUp v0_valueDown v0_said v0_saids v0_at v0_number) → va_S A s.heap H locs → lv_has ls 4 [] → W p l e { frames := 2, cells := 0, slots := 0, locals := 45 } s m [.ref (a0 0), .int p1, .int p2].toArray below meth c H locs 0 0 (MQ below (Qi g .boolean (m_X10_isTold (v0_papers, v0_raw, v0_kind, v0_figure, v0_heavy, v0_place, v0_rules, v0_lower, v0_upper, v0_limits, v0_limit, v0_ties, v0_letter, v0_letters, v0_told, v0_tolds, v0_places, v0_cell, v0_refusals, v0_imaged, v0_hasImage, v0_before, v0_up, v0_down, v0_beneath, v0_numberUp, v0_numberDown, v0_block, v0_blocks, v0_merged, v0_valueUp, v0_valueDown, v0_said, v0_saids, v0_at, v0_number) p1 p2) (fun u => u) (fun u => wX10 a0 g v0_papers v0_raw v0_kind v0_figure v0_heavy v0_place v0_rules v0_lower v0_upper v0_limits v0_limit v0_ties v0_letter v0_letters v0_told v0_tolds v0_places v0_cell v0_refusals v0_imaged v0_hasImage v0_before v0_up v0_down v0_beneath v0_numberUp v0_numberDown v0_block v0_blocks v0_merged v0_valueUp v0_valueDown v0_said v0_saids v0_at v0_number) A) [.ref (a0 0), .int p1, .int p2].toArray s 0 0 A) (F0 m 28 ls [])) | .inr x6 => (∀ (H : Heap) (locs : List Loc) (ls : Array Slot), va_P g.1 vwCl (wX10 a0 g v0_papers v0_raw v0_kind v0_figure v0_heavy v0_place v0_rules v0_lower v0_upper v0_limits v0_limit v0_ties v0_letter v0_letters v0_told v0_tolds v0_places v0_cell v0_refusals v0_imaged v0_hasImage v0_before v0_up v0_down v0_beneath v0_numberUp v0_numberDown v0_block v0_blocks v0_merged v0_valueUp v0_valueDown v0_said v0_saids v0_at v0_number) H → va_D A (wX10 a0 g v0_papers v0_raw v0_kind v0_figure v0_heavy v0_place v0_rules v0_lower v0_upper v0_limits v0_limit v0_ties v0_letter v0_letters v0_told v0_tolds v0_places v0_cell v0_refusals v0_imaged v0_hasImage v0_before v0_up v0_down v0_beneath v0_numberUp v0_numberDown v0_block v0_blocks v0_merged v0_valueUp v0_valueDown v0_said v0_saids v0_at v0_number) → va_S A s.heap H locs → lv_has ls 4 [] → W p l e { frames := 2, cells := 0, slots := 0, locals := 45 } s m [.ref (a0 0), .int p1, .int p2].toArray below meth c H locs 0 0 (MQ below (Qi g .boolean (m_X10_isTold (v0_papers, v0_raw, v0_kind, v0_figure, v0_heavy, v0_place, v0_rules, v0_lower, v0_upper, v0_limits, v0_limit, v0_ties, v0_letter, v0_letters, v0_told, v0_tolds, v0_places, v0_cell, v0_refusals, v0_imaged, v0_hasImage, v0_before, v0_up, v0_down, v0_beneath, v0_numberUp, v0_numberDown, v0_block, v0_blocks, v0_merged, v0_valueUp, v0_valueDown, v0_said, v0_saids, v0_at, v0_number) p1 p2) (fun u => u) (fun u => wX10 a0 g v0_papers v0_raw v0_kind v0_figure v0_heavy v0_place v0_rules v0_lower v0_upper v0_limits v0_limit v0_ties v0_letter v0_letters v0_told v0_tolds v0_places v0_cell v0_refusals v0_imaged v0_hasImage v0_before v0_up v0_down v0_beneath v0_numberUp v0_numberDown v0_block v0_blocks v0_merged v0_valueUp v0_valueDown v0_said v0_saids v0_at v0_number) A) [.ref (a0 0), .int p1, .int p2].toArray s 0 0 A) (F0 m 36 ls []))) ?_ fu _ r4 er4 ?_ _ _ _ hP hD hS (lv_sub hl [1, 2, 3, 0] rfl)
  · rintro x2 y hf hB hXt H locs ls hP hD hS hl
    have hP : va_P g.1 vwCl (wX10 a0 g v0_papers v0_raw v0_kind v0_figure v0_heavy v0_place v0_rules v0_lower v0_upper v0_limits v0_limit v0_ties v0_letter v0_letters v0_told v0_tolds v0_places v0_cell v0_refusals v0_imaged v0_hasImage v0_before v0_up v0_down v0_beneath v0_numberUp v0_numberDown v0_block v0_blocks v0_merged v0_valueUp v0_valueDown v0_said v0_saids v0_at v0_number) H := hP
    have hD : va_D A (wX10 a0 g v0_papers v0_raw v0_kind v0_figure v0_heavy v0_place v0_rules v0_lower v0_upper v0_limits v0_limit v0_ties v0_letter v0_letters v0_told v0_tolds v0_places v0_cell v0_refusals v0_imaged v0_hasImage v0_before v0_up v0_down v0_beneath v0_numberUp v0_numberDown v0_block v0_blocks v0_merged v0_valueUp v0_valueDown v0_said v0_saids v0_at v0_number) := hD
    have hl : lv_has ls 4 [(0, .ref (a0 0)), (1, .int p1), (2, .int p2), (3, .int x2)] := hl
    have hf : m_X10_isTold_l2 (v0_papers, v0_raw, v0_kind, v0_figure, v0_heavy, v0_place, v0_rules, v0_lower, v0_upper, v0_limits, v0_limit, v0_ties, v0_letter, v0_letters, v0_told, v0_tolds, v0_places, v0_cell, v0_refusals, v0_imaged, v0_hasImage, v0_before, v0_up, v0_down, v0_beneath, v0_numberUp, v0_numberDown, v0_block, v0_blocks, v0_merged, v0_valueUp, v0_valueDown, v0_said, v0_saids, v0_at, v0_number) p1 p2 x2 = some y := hf
    unfold m_X10_isTold_l2 at hf
    refine lv_iload_n hx hb dX10_isTold_2 rfl (lv_at hl 3 rfl) ?_
    refine lv_aload_n hx hb dX10_isTold_3 rfl (lv_at hl 0 rfl) ?_
    refine va_get (D := g.1) (ci := 11) (v := .int v0_tolds) (C := RX10) (T := TX10) (N := 36) hx hb hts layX10 hown hK.1 hP 0 rfl rfl 15 (by decide) (hts _ kw1292) (fun _ h9 => h9) rfl dX10_isTold_4 ?_
    refine lv_icmp_ge (tgt := 36) hx hb dX10_isTold_7 (by decide) (fun cb => ?_) (fun cb => ?_)
    · have hf := it_t cb hf
      exact hXt _ (Option.some.inj hf).symm _ _ _ hP hD hS (lv_sub hl [] rfl)
    have hf := it_f cb hf
    refine lv_aload_n hx hb dX10_isTold_10 rfl (lv_at hl 0 rfl) ?_
    refine va_get (D := g.1) (ci := 11) (v := .ref (a0 10)) (C := RX10) (T := TX10) (N := 36) hx hb hts layX10 hown hK.1 hP 0 rfl rfl 14 (by decide) (hts _ kw1291) (fun _ h9 => h9) rfl dX10_isTold_11 ?_
    refine lv_iload_n hx hb dX10_isTold_14 rfl (lv_at hl 3 rfl) ?_
    have hi := it_n hf
    have hf := it_t hi hf
    refine va_iald hx hb hK.1 hP 10 0 rfl rfl (inb_in hi) dX10_isTold_15 ?_
    refine lv_iload_n hx hb dX10_isTold_16 rfl (lv_at hl 1 rfl) ?_
    refine lv_iload_n hx hb dX10_isTold_17 rfl (lv_at hl 2 rfl) ?_
    refine lv_bipush (v := 10) hx hb dX10_isTold_18 (by decide) ?_
    refine lv_iload_n hx hb dX10_isTold_20 rfl (lv_at hl 3 rfl) ?_
    refine lv_imul hx hb dX10_isTold_21 ?_
    refine cIp hP hD hS hA hE (fun hPc hDc hSc => rS (As := [.int p1, .int p2, .int ((10 : Int32) * x2)]) (rest := [.int (v0_told x2.toNatClampNeg)]) hx hb hml hown hts hK (c_X10_markBy l g p1 p2 ((10 : Int32) * x2) (bnd_ne hf)) svS_X10_markBy kw1424 hPc hDc hSc rfl rfl hl.1 (Nat.le_of_ble_eq_true rfl) dX10_isTold_22 ⟨Nat.le_of_ble_eq_true rfl, Nat.le_of_ble_eq_true rfl, rfl, rfl, Nat.le_of_ble_eq_true rfl, Nat.le_of_ble_eq_true rfl⟩) [] rfl rfl rfl (fun x3 H locs ex3 nx3 hP hS => ?_)
    have hf := bnd_of hf ex3
    refine lv_icmp_eq (tgt := 30) hx hb dX10_isTold_25 (by decide) (fun cb => ?_) (fun cb => ?_)
    · have hf := it_t cb hf
      refine lv_iinc (v := (x2 + 1)) (lv' := [(3, .int (x2 + 1)), (0, .ref (a0 0)), (1, .int p1), (2, .int p2)]) hx hb dX10_isTold_30 hl (k := 3) rfl (by rfl) (by decide) rfl (fun ls hl => ?_)
      refine lv_goto (tgt := 2) hx hb dX10_isTold_33 (by decide) ?_
      exact hB _ (Option.some.inj hf).symm _ _ _ hP hD hS (lv_sub hl [1, 2, 3, 0] rfl)
    have hf := it_f cb hf
    exact hXt _ (Option.some.inj hf).symm _ _ _ hP hD hS (lv_sub hl [] rfl)
  rcases r4 with x5 | x6
  · intro H locs ls hP hD hS hl
    have hP : va_P g.1 vwCl (wX10 a0 g v0_papers v0_raw v0_kind v0_figure v0_heavy v0_place v0_rules v0_lower v0_upper v0_limits v0_limit v0_ties v0_letter v0_letters v0_told v0_tolds v0_places v0_cell v0_refusals v0_imaged v0_hasImage v0_before v0_up v0_down v0_beneath v0_numberUp v0_numberDown v0_block v0_blocks v0_merged v0_valueUp v0_valueDown v0_said v0_saids v0_at v0_number) H := hP
    have hD : va_D A (wX10 a0 g v0_papers v0_raw v0_kind v0_figure v0_heavy v0_place v0_rules v0_lower v0_upper v0_limits v0_limit v0_ties v0_letter v0_letters v0_told v0_tolds v0_places v0_cell v0_refusals v0_imaged v0_hasImage v0_before v0_up v0_down v0_beneath v0_numberUp v0_numberDown v0_block v0_blocks v0_merged v0_valueUp v0_valueDown v0_said v0_saids v0_at v0_number) := hD
    have hl : lv_has ls 4 [] := hl
    refine lv_iconst (v := 0) hx hb dX10_isTold_28 (by decide) ?_
    exact retI (v := (0 : Int32)) (u := (0 : Int32)) (val := fun u => u) (W1 := fun u => wX10 a0 g v0_papers v0_raw v0_kind v0_figure v0_heavy v0_place v0_rules v0_lower v0_upper v0_limits v0_limit v0_ties v0_letter v0_letters v0_told v0_tolds v0_places v0_cell v0_refusals v0_imaged v0_hasImage v0_before v0_up v0_down v0_beneath v0_numberUp v0_numberDown v0_block v0_blocks v0_merged v0_valueUp v0_valueDown v0_said v0_saids v0_at v0_number) hx hb hr hlocks hS hP hD (hf0.trans hf.symm) rfl rfl dX10_isTold_29
  · intro H locs ls hP hD hS hl
    have hP : va_P g.1 vwCl (wX10 a0 g v0_papers v0_raw v0_kind v0_figure v0_heavy v0_place v0_rules v0_lower v0_upper v0_limits v0_limit v0_ties v0_letter v0_letters v0_told v0_tolds v0_places v0_cell v0_refusals v0_imaged v0_hasImage v0_before v0_up v0_down v0_beneath v0_numberUp v0_numberDown v0_block v0_blocks v0_merged v0_valueUp v0_valueDown v0_said v0_saids v0_at v0_number) H := hP
    have hD : va_D A (wX10 a0 g v0_papers v0_raw v0_kind v0_figure v0_heavy v0_place v0_rules v0_lower v0_upper v0_limits v0_limit v0_ties v0_letter v0_letters v0_told v0_tolds v0_places v0_cell v0_refusals v0_imaged v0_hasImage v0_before v0_up v0_down v0_beneath v0_numberUp v0_numberDown v0_block v0_blocks v0_merged v0_valueUp v0_valueDown v0_said v0_saids v0_at v0_number) := hD
    have hl : lv_has ls 4 [] := hl
    refine lv_iconst (v := 1) hx hb dX10_isTold_36 (by decide) ?_
    exact retI (v := (1 : Int32)) (u := (1 : Int32)) (val := fun u => u) (W1 := fun u => wX10 a0 g v0_papers v0_raw v0_kind v0_figure v0_heavy v0_place v0_rules v0_lower v0_upper v0_limits v0_limit v0_ties v0_letter v0_letters v0_told v0_tolds v0_places v0_cell v0_refusals v0_imaged v0_hasImage v0_before v0_up v0_down v0_beneath v0_numberUp v0_numberDown v0_block v0_blocks v0_merged v0_valueUp v0_valueDown v0_said v0_saids v0_at v0_number) hx hb hr hlocks hS hP hD (hf0.trans hf.symm) rfl rfl dX10_isTold_37
set_option maxHeartbeats 4000000 in
set_option maxRecDepth 100000 in
theorem c_X10_whatIs (l : Launch) (g : GG) (a0 : Nat → Nat) (v0_papers : Int32) (v0_raw : (Nat → Int32)) (v0_kind : (Nat → Int32)) (v0_figure : (Nat → Int32)) (v0_heavy : (Nat → Int32)) (v0_place : (Nat → Int32)) (v0_rules : Int32) (v0_lower : (Nat → Int32)) (v0_upper : (Nat → Int32)) (v0_limits : Int32) (v0_limit : (Nat → Int32)) (v0_ties : Int32) (v0_letter : (Nat → Int32)) (v0_letters : Int32) (v0_told : (Nat → Int32)) (v0_tolds : Int32) (v0_places : (Nat → Int32)) (v0_cell : (Nat → Int64)) (v0_refusals : (Nat → Int32)) (v0_imaged : (Nat → Int32)) (v0_hasImage : Int32) (v0_before : (Nat → Int32)) (v0_up : Int64) (v0_down : Int64) (v0_beneath : (Nat → Int32)) (v0_numberUp : Int32) (v0_numberDown : Int32) (v0_block : (Nat → Int32)) (v0_blocks : Int32) (v0_merged : Int32) (v0_valueUp : (Nat → Int32)) (v0_valueDown : (Nat → Int32)) (v0_said : (Nat → Int32)) (v0_saids : Int32) (v0_at : Int32) (v0_number : (Nat → Int32)) (p1 : Int32) (p2 : Int32) (hne : (m_X10_whatIs (v0_papers, v0_raw, v0_kind, v0_figure, v0_heavy, v0_place, v0_rules, v0_lower, v0_upper, v0_limits, v0_limit, v0_ties, v0_letter, v0_letters, v0_told, v0_tolds, v0_places, v0_cell, v0_refusals, v0_imaged, v0_hasImage, v0_before, v0_up, v0_down, v0_beneath, v0_numberUp, v0_numberDown, v0_block, v0_blocks, v0_merged, v0_valueUp, v0_valueDown, v0_said, v0_saids, v0_at, v0_number) p1 p2) ≠ none) : Ct l g yX10_whatIs cX10_whatIs 5 (some .int) ({ frames := 3, cells := 0, slots := 0, locals := 68 } : Room) [.ref (a0 0), .int p1, .int p2] (wX10 a0 g v0_papers v0_raw v0_kind v0_figure v0_heavy v0_place v0_rules v0_lower v0_upper v0_limits v0_limit v0_ties v0_letter v0_letters v0_told v0_tolds v0_places v0_cell v0_refusals v0_imaged v0_hasImage v0_before v0_up v0_down v0_beneath v0_numberUp v0_numberDown v0_block v0_blocks v0_merged v0_valueUp v0_valueDown v0_said v0_saids v0_at v0_number) (Qi g .int (m_X10_whatIs (v0_papers, v0_raw, v0_kind, v0_figure, v0_heavy, v0_place, v0_rules, v0_lower, v0_upper, v0_limits, v0_limit, v0_ties, v0_letter, v0_letters, v0_told, v0_tolds, v0_places, v0_cell, v0_refusals, v0_imaged, v0_hasImage, v0_before, v0_up, v0_down, v0_beneath, v0_numberUp, v0_numberDown, v0_block, v0_blocks, v0_merged, v0_valueUp, v0_valueDown, v0_said, v0_saids, v0_at, v0_number) p1 p2) (fun u => u.1) (fun u => wX10 a0 g v0_papers v0_raw v0_kind v0_figure v0_heavy v0_place v0_rules v0_lower v0_upper v0_limits v0_limit v0_ties v0_letter v0_letters v0_told v0_tolds v0_places v0_cell u.2 v0_imaged v0_hasImage v0_before v0_up v0_down v0_beneath v0_numberUp v0_numberDown v0_block v0_blocks v0_merged v0_valueUp v0_valueDown v0_said v0_saids v0_at v0_number)) 0 0 := by
  obtain ⟨out, hf⟩ := ne_ex hne
  have hf0 := hf
  refine Ct.of (own := RX10) (by decide +kernel) rfl (Nat.le_of_ble_eq_true rfl) ?_
  intro p e s m below meth c hx hb hr hml hown hts hlocks hin hK A H locs hA hP hD hS hE ls hl
  have hl : lv_has ls 5 [(0, .ref (a0 0)), (1, .int p1), (2, .int p2)] := hl
  unfold m_X10_whatIs at hf
  refine lv_aload_n hx hb dX10_whatIs_0 rfl (lv_at hl 0 rfl) ?_
  refine lv_iload_n hx hb dX10_whatIs_1 rfl (lv_at hl 1 rfl) ?_
  refine cIp hP hD hS hA hE (fun hPc hDc hSc => rV (As := [.int p1]) (rest := []) hx hb hml hown hts hK (c_X10_isPaper l g a0 v0_papers v0_raw v0_kind v0_figure v0_heavy v0_place v0_rules v0_lower v0_upper v0_limits v0_limit v0_ties v0_letter v0_letters v0_told v0_tolds v0_places v0_cell v0_refusals v0_imaged v0_hasImage v0_before v0_up v0_down v0_beneath v0_numberUp v0_numberDown v0_block v0_blocks v0_merged v0_valueUp v0_valueDown v0_said v0_saids v0_at v0_number p1 (bnd_ne hf)) svV_X10_isPaper kw1361 rfl rfl hPc hDc hSc rfl rfl hl.1 (Nat.le_of_ble_eq_true rfl) dX10_whatIs_2 ⟨Nat.le_of_ble_eq_true rfl, Nat.le_of_ble_eq_true rfl, rfl, rfl, Nat.le_of_ble_eq_true rfl, Nat.le_of_ble_eq_true rfl⟩) [(0, 22)] rfl rfl rfl (fun x1 H locs ex1 nx1 hP hS => ?_)
  have hf := bnd_of hf ex1
  refine lv_if_ne (tgt := 14) hx hb dX10_whatIs_5 (by decide) (fun cb => ?_) (fun cb => ?_)
  · have hf := it_f cb hf
    refine lv_iload_n hx hb dX10_whatIs_14 rfl (lv_at hl 2 rfl) ?_
    refine lv_iconst (v := 0) hx hb dX10_whatIs_15 (by decide) ?_
    refine lv_iconst (v := 1) hx hb dX10_whatIs_16 (by decide) ?_
    refine cIp hP hD hS hA hE (fun hPc hDc hSc => rS (As := [.int p2, .int (0 : Int32), .int (1 : Int32)]) (rest := []) hx hb hml hown hts hK (c_X10_in l g p2 (0 : Int32) (1 : Int32) (bnd_ne hf)) svS_X10_in kw1364 hPc hDc hSc rfl rfl hl.1 (Nat.le_of_ble_eq_true rfl) dX10_whatIs_17 ⟨Nat.le_of_ble_eq_true rfl, Nat.le_of_ble_eq_true rfl, rfl, rfl, Nat.le_of_ble_eq_true rfl, Nat.le_of_ble_eq_true rfl⟩) [] rfl rfl rfl (fun x2 H locs ex2 nx2 hP hS => ?_)
    have hf := bnd_of hf ex2
    refine lv_if_ne (tgt := 30) hx hb dX10_whatIs_20 (by decide) (fun cb => ?_) (fun cb => ?_)
    · have hf := it_f cb hf
      refine lv_iconst (v := 0) hx hb dX10_whatIs_30 (by decide) ?_
      refine lv_istore_n (lv' := [(3, .int (0 : Int32)), (0, .ref (a0 0)), (1, .int p1), (2, .int p2)]) hx hb dX10_whatIs_31 rfl hl (by decide) rfl (fun ls hl => ?_)
      refine lv_iconst (v := 0) hx hb dX10_whatIs_32 (by decide) ?_
      refine lv_istore (lv' := [(4, .int (0 : Int32)), (3, .int (0 : Int32)), (0, .ref (a0 0)), (1, .int p1), (2, .int p2)]) hx hb dX10_whatIs_33 hl (by decide) rfl (fun ls hl => ?_)
      obtain ⟨r13, er13, hf⟩ := bnd hf
      refine lp_W (P := fun z => ∀ (H : Heap) (locs : List Loc) (ls : Array Slot), va_P g.1 vwCl (wX10 a0 g v0_papers v0_raw v0_kind v0_figure v0_heavy v0_place v0_rules v0_lower v0_upper v0_limits v0_limit v0_ties v0_letter v0_letters v0_told v0_tolds v0_places v0_cell v0_refusals v0_imaged v0_hasImage v0_before v0_up v0_down v0_beneath v0_numberUp v0_numberDown v0_block v0_blocks v0_merged v0_valueUp v0_valueDown v0_said v0_saids v0_at v0_number) H → va_D A (wX10 a0 g v0_papers v0_raw v0_kind v0_figure v0_heavy v0_place v0_rules v0_lower v0_upper v0_limits v0_limit v0_ties v0_letter v0_letters v0_told v0_tolds v0_places v0_cell v0_refusals v0_imaged v0_hasImage v0_before v0_up v0_down v0_beneath v0_numberUp v0_numberDown v0_block v0_blocks v0_merged v0_valueUp v0_valueDown v0_said v0_saids v0_at v0_number) → va_S A s.heap H locs → lv_has ls 5 [(0, .ref (a0 0)), (1, .int p1), (2, .int p2), (3, .int z.1), (4, .int z.2)] → W p l e { frames := 3, cells := 0, slots := 0, locals := 68 } s m [.ref (a0 0), .int p1, .int p2].toArray below meth c H locs 0 0 (MQ below (Qi g .int (m_X10_whatIs (v0_papers, v0_raw, v0_kind, v0_figure, v0_heavy, v0_place, v0_rules, v0_lower, v0_upper, v0_limits, v0_limit, v0_ties, v0_letter, v0_letters, v0_told, v0_tolds, v0_places, v0_cell, v0_refusals, v0_imaged, v0_hasImage, v0_before, v0_up, v0_down, v0_beneath, v0_numberUp, v0_numberDown, v0_block, v0_blocks, v0_merged, v0_valueUp, v0_valueDown, v0_said, v0_saids, v0_at, v0_number) p1 p2) (fun u => u.1) (fun u => wX10 a0 g v0_papers v0_raw v0_kind v0_figure v0_heavy v0_place v0_rules v0_lower v0_upper v0_limits v0_limit v0_ties v0_letter v0_letters v0_told v0_tolds v0_places v0_cell u.2 v0_imaged v0_hasImage v0_before v0_up v0_down v0_beneath v0_numberUp v0_numberDown v0_block v0_blocks v0_merged v0_valueUp v0_valueDown v0_said v0_saids v0_at v0_number) A) [.ref (a0 0), .int p1, .int p2].toArray s 0 0 A) (F0 m 35 ls [])) (E := fun r13 => ∀ (H : Heap) (locs : List Loc) (ls : Array Slot), va_P g.1 vwCl (wX10 a0 g v0_papers v0_raw v0_kind v0_figure v0_heavy v0_place v0_rules v0_lower v0_upper v0_limits v0_limit v0_ties v0_letter v0_letters v0_told v0_tolds v0_places v0_cell v0_refusals v0_imaged v0_hasImage v0_before v0_up v0_down v0_beneath v0_numberUp v0_numberDown v0_block v0_blocks v0_merged v0_valueUp v0_valueDown v0_said v0_saids v0_at v0_number) H → va_D A (wX10 a0 g v0_papers v0_raw v0_kind v0_figure v0_heavy v0_place v0_rules v0_lower v0_upper v0_limits v0_limit v0_ties v0_letter v0_letters v0_told v0_tolds v0_places v0_cell v0_refusals v0_imaged v0_hasImage v0_before v0_up v0_down v0_beneath v0_numberUp v0_numberDown v0_block v0_blocks v0_merged v0_valueUp v0_valueDown v0_said v0_saids v0_at v0_number) → va_S A s.heap H locs → lv_has ls 5 [(3, .int r13)] → W p l e { frames := 3, cells := 0, slots := 0, locals := 68 } s m [.ref (a0 0), .int p1, .int p2].toArray below meth c H locs 0 0 (MQ below (Qi g .int (m_X10_whatIs (v0_papers, v0_raw, v0_kind, v0_figure, v0_heavy, v0_place, v0_rules, v0_lower, v0_upper, v0_limits, v0_limit, v0_ties, v0_letter, v0_letters, v0_told, v0_tolds, v0_places, v0_cell, v0_refusals, v0_imaged, v0_hasImage, v0_before, v0_up, v0_down, v0_beneath, v0_numberUp, v0_numberDown, v0_block, v0_blocks, v0_merged, v0_valueUp, v0_valueDown, v0_said, v0_saids, v0_at, v0_number) p1 p2) (fun u => u.1) (fun u => wX10 a0 g v0_papers v0_raw v0_kind v0_figure v0_heavy v0_place v0_rules v0_lower v0_upper v0_limits v0_limit v0_ties v0_letter v0_letters v0_told v0_tolds v0_places v0_cell u.2 v0_imaged v0_hasImage v0_before v0_up v0_down v0_beneath v0_numberUp v0_numberDown v0_block v0_blocks v0_merged v0_valueUp v0_valueDown v0_said v0_saids v0_at v0_number) A) [.ref (a0 0), .int p1, .int p2].toArray s 0 0 A) (F0 m 105 ls [])) ?_ fu _ r13 er13 ?_ _ _ _ hP hD hS (lv_sub hl [2, 3, 4, 1, 0] rfl)
      · rintro ⟨x8, x9⟩ y hf hB hXt H locs ls hP hD hS hl
        have hP : va_P g.1 vwCl (wX10 a0 g v0_papers v0_raw v0_kind v0_figure v0_heavy v0_place v0_rules v0_lower v0_upper v0_limits v0_limit v0_ties v0_letter v0_letters v0_told v0_tolds v0_places v0_cell v0_refusals v0_imaged v0_hasImage v0_before v0_up v0_down v0_beneath v0_numberUp v0_numberDown v0_block v0_blocks v0_merged v0_valueUp v0_valueDown v0_said v0_saids v0_at v0_number) H := hP
        have hD : va_D A (wX10 a0 g v0_papers v0_raw v0_kind v0_figure v0_heavy v0_place v0_rules v0_lower v0_upper v0_limits v0_limit v0_ties v0_letter v0_letters v0_told v0_tolds v0_places v0_cell v0_refusals v0_imaged v0_hasImage v0_before v0_up v0_down v0_beneath v0_numberUp v0_numberDown v0_block v0_blocks v0_merged v0_valueUp v0_valueDown v0_said v0_saids v0_at v0_number) := hD
        have hl : lv_has ls 5 [(0, .ref (a0 0)), (1, .int p1), (2, .int p2), (3, .int x8), (4, .int x9)] := hl
        have hf : m_X10_whatIs_l35 (v0_papers, v0_raw, v0_kind, v0_figure, v0_heavy, v0_place, v0_rules, v0_lower, v0_upper, v0_limits, v0_limit, v0_ties, v0_letter, v0_letters, v0_told, v0_tolds, v0_places, v0_cell, v0_refusals, v0_imaged, v0_hasImage, v0_before, v0_up, v0_down, v0_beneath, v0_numberUp, v0_numberDown, v0_block, v0_blocks, v0_merged, v0_valueUp, v0_valueDown, v0_said, v0_saids, v0_at, v0_number) p1 p2 x8 x9 = some y := hf
        unfold m_X10_whatIs_l35 at hf
        refine lv_iload hx hb dX10_whatIs_35 (lv_at hl 4 rfl) ?_
        refine lv_iload_n hx hb dX10_whatIs_37 rfl (lv_at hl 2 rfl) ?_
        obtain ⟨r10, er10, hf⟩ := bnd hf
        have K : ∀ (H : Heap) (locs : List Loc) (ls : Array Slot), va_P g.1 vwCl (wX10 a0 g v0_papers v0_raw v0_kind v0_figure v0_heavy v0_place v0_rules v0_lower v0_upper v0_limits v0_limit v0_ties v0_letter v0_letters v0_told v0_tolds v0_places v0_cell v0_refusals v0_imaged v0_hasImage v0_before v0_up v0_down v0_beneath v0_numberUp v0_numberDown v0_block v0_blocks v0_merged v0_valueUp v0_valueDown v0_said v0_saids v0_at v0_number) H → va_D A (wX10 a0 g v0_papers v0_raw v0_kind v0_figure v0_heavy v0_place v0_rules v0_lower v0_upper v0_limits v0_limit v0_ties v0_letter v0_letters v0_told v0_tolds v0_places v0_cell v0_refusals v0_imaged v0_hasImage v0_before v0_up v0_down v0_beneath v0_numberUp v0_numberDown v0_block v0_blocks v0_merged v0_valueUp v0_valueDown v0_said v0_saids v0_at v0_number) → va_S A s.heap H locs → lv_has ls 5 [(0, .ref (a0 0)), (1, .int p1), (2, .int p2), (3, .int x8), (4, .int x9)] → W p l e { frames := 3, cells := 0, slots := 0, locals := 68 } s m [.ref (a0 0), .int p1, .int p2].toArray below meth c H locs 0 0 (MQ below (Qi g .int (m_X10_whatIs (v0_papers, v0_raw, v0_kind, v0_figure, v0_heavy, v0_place, v0_rules, v0_lower, v0_upper, v0_limits, v0_limit, v0_ties, v0_letter, v0_letters, v0_told, v0_tolds, v0_places, v0_cell, v0_refusals, v0_imaged, v0_hasImage, v0_before, v0_up, v0_down, v0_beneath, v0_numberUp, v0_numberDown, v0_block, v0_blocks, v0_merged, v0_valueUp, v0_valueDown, v0_said, v0_saids, v0_at, v0_number) p1 p2) (fun u => u.1) (fun u => wX10 a0 g v0_papers v0_raw v0_kind v0_figure v0_heavy v0_place v0_rules v0_lower v0_upper v0_limits v0_limit v0_ties v0_letter v0_letters v0_told v0_tolds v0_places v0_cell u.2 v0_imaged v0_hasImage v0_before v0_up v0_down v0_beneath v0_numberUp v0_numberDown v0_block v0_blocks v0_merged v0_valueUp v0_valueDown v0_said v0_saids v0_at v0_number) A) [.ref (a0 0), .int p1, .int p2].toArray s 0 0 A) (F0 m 48 ls [.int r10, .int x9]) := by
          intro H locs ls hP hD hS hl
          refine lv_icmp_ge (tgt := 105) hx hb dX10_whatIs_48 (by decide) (fun cb => ?_) (fun cb => ?_)
          · have hf := it_t cb hf
            exact hXt _ (Option.some.inj hf).symm _ _ _ hP hD hS (lv_sub hl [3] rfl)
          have hf := it_f cb hf
          refine lv_iload_n hx hb dX10_whatIs_51 rfl (lv_at hl 3 rfl) ?_
          refine lv_iload_n hx hb dX10_whatIs_52 rfl (lv_at hl 2 rfl) ?_
          refine lv_if_ne (tgt := 74) hx hb dX10_whatIs_53 (by decide) (fun cb => ?_) (fun cb => ?_)
          · have hf := it_f cb hf
            refine lv_aload_n hx hb dX10_whatIs_74 rfl (lv_at hl 0 rfl) ?_
            refine lv_aload_n hx hb dX10_whatIs_75 rfl (lv_at hl 0 rfl) ?_
            refine va_get (D := g.1) (ci := 11) (v := .ref (a0 2)) (C := RX10) (T := TX10) (N := 36) hx hb hts layX10 hown hK.1 hP 0 rfl rfl 2 (by decide) (hts _ kw1279) (fun _ h9 => h9) rfl dX10_whatIs_76 ?_
            refine lv_iload_n hx hb dX10_whatIs_79 rfl (lv_at hl 1 rfl) ?_
            have hi := it_n hf
            have hf := it_t hi hf
            refine va_iald hx hb hK.1 hP 2 0 rfl rfl (inb_in hi) dX10_whatIs_80 ?_
            refine lv_iload hx hb dX10_whatIs_81 (lv_at hl 4 rfl) ?_
            refine cIp hP hD hS hA hE (fun hPc hDc hSc => rV (As := [.int (v0_kind p1.toNatClampNeg), .int x9]) (rest := [.int x8]) hx hb hml hown hts hK (c_X10_isTold l g a0 v0_papers v0_raw v0_kind v0_figure v0_heavy v0_place v0_rules v0_lower v0_upper v0_limits v0_limit v0_ties v0_letter v0_letters v0_told v0_tolds v0_places v0_cell v0_refusals v0_imaged v0_hasImage v0_before v0_up v0_down v0_beneath v0_numberUp v0_numberDown v0_block v0_blocks v0_merged v0_valueUp v0_valueDown v0_said v0_saids v0_at v0_number (v0_kind p1.toNatClampNeg) x9 (bnd_ne hf)) svV_X10_isTold kw1653 rfl rfl hPc hDc hSc rfl rfl hl.1 (Nat.le_of_ble_eq_true rfl) dX10_whatIs_83 ⟨Nat.le_of_ble_eq_true rfl, Nat.le_of_ble_eq_true rfl, rfl, rfl, Nat.le_of_ble_eq_true rfl, Nat.le_of_ble_eq_true rfl⟩) [(0, 22)] rfl rfl rfl (fun x11 H locs ex11 nx11 hP hS => ?_)
            have hf := bnd_of hf ex11
            refine lv_if_eq (tgt := 96) hx hb dX10_whatIs_86 (by decide) (fun cb => ?_) (fun cb => ?_)
            · have hf := it_t cb hf
              refine lv_iconst (v := 0) hx hb dX10_whatIs_96 (by decide) ?_
              refine lv_ior hx hb dX10_whatIs_97 ?_
              refine lv_istore_n (lv' := [(3, .int (x8 ||| (0 : Int32))), (0, .ref (a0 0)), (1, .int p1), (2, .int p2), (4, .int x9)]) hx hb dX10_whatIs_98 rfl hl (by decide) rfl (fun ls hl => ?_)
              refine lv_iinc (v := (x9 + 1)) (lv' := [(4, .int (x9 + 1)), (3, .int (x8 ||| (0 : Int32))), (0, .ref (a0 0)), (1, .int p1), (2, .int p2)]) hx hb dX10_whatIs_99 hl (k := 4) rfl (by rfl) (by decide) rfl (fun ls hl => ?_)
              refine lv_goto (tgt := 35) hx hb dX10_whatIs_102 (by decide) ?_
              exact hB _ (Option.some.inj hf).symm _ _ _ hP hD hS (lv_sub hl [2, 3, 4, 1, 0] rfl)
            have hf := it_f cb hf
            refine lv_iconst (v := 1) hx hb dX10_whatIs_89 (by decide) ?_
            refine lv_iload hx hb dX10_whatIs_90 (lv_at hl 4 rfl) ?_
            refine lv_ishl hx hb dX10_whatIs_92 ?_
            refine lv_goto (tgt := 97) hx hb dX10_whatIs_93 (by decide) ?_
            refine lv_ior hx hb dX10_whatIs_97 ?_
            refine lv_istore_n (lv' := [(3, .int (x8 ||| ((1 : Int32) <<< (x9 &&& 31)))), (0, .ref (a0 0)), (1, .int p1), (2, .int p2), (4, .int x9)]) hx hb dX10_whatIs_98 rfl hl (by decide) rfl (fun ls hl => ?_)
            refine lv_iinc (v := (x9 + 1)) (lv' := [(4, .int (x9 + 1)), (3, .int (x8 ||| ((1 : Int32) <<< (x9 &&& 31)))), (0, .ref (a0 0)), (1, .int p1), (2, .int p2)]) hx hb dX10_whatIs_99 hl (k := 4) rfl (by rfl) (by decide) rfl (fun ls hl => ?_)
            refine lv_goto (tgt := 35) hx hb dX10_whatIs_102 (by decide) ?_
            exact hB _ (Option.some.inj hf).symm _ _ _ hP hD hS (lv_sub hl [2, 3, 4, 1, 0] rfl)
          have hf := it_t cb hf
          refine lv_aload_n hx hb dX10_whatIs_56 rfl (lv_at hl 0 rfl) ?_
          refine lv_iload hx hb dX10_whatIs_57 (lv_at hl 4 rfl) ?_
          refine lv_aload_n hx hb dX10_whatIs_59 rfl (lv_at hl 0 rfl) ?_
          refine va_get (D := g.1) (ci := 11) (v := .ref (a0 3)) (C := RX10) (T := TX10) (N := 36) hx hb hts layX10 hown hK.1 hP 0 rfl rfl 3 (by decide) (hts _ kw1280) (fun _ h9 => h9) rfl dX10_whatIs_60 ?_
          refine lv_iload_n hx hb dX10_whatIs_63 rfl (lv_at hl 1 rfl) ?_
          have hi := it_n hf
          have hf := it_t hi hf
          refine va_iald hx hb hK.1 hP 3 0 rfl rfl (inb_in hi) dX10_whatIs_64 ?_
          refine cIp hP hD hS hA hE (fun hPc hDc hSc => rV (As := [.int x9, .int (v0_figure p1.toNatClampNeg)]) (rest := [.int x8]) hx hb hml hown hts hK (c_X10_isTold l g a0 v0_papers v0_raw v0_kind v0_figure v0_heavy v0_place v0_rules v0_lower v0_upper v0_limits v0_limit v0_ties v0_letter v0_letters v0_told v0_tolds v0_places v0_cell v0_refusals v0_imaged v0_hasImage v0_before v0_up v0_down v0_beneath v0_numberUp v0_numberDown v0_block v0_blocks v0_merged v0_valueUp v0_valueDown v0_said v0_saids v0_at v0_number x9 (v0_figure p1.toNatClampNeg) (bnd_ne hf)) svV_X10_isTold kw1653 rfl rfl hPc hDc hSc rfl rfl hl.1 (Nat.le_of_ble_eq_true rfl) dX10_whatIs_65 ⟨Nat.le_of_ble_eq_true rfl, Nat.le_of_ble_eq_true rfl, rfl, rfl, Nat.le_of_ble_eq_true rfl, Nat.le_of_ble_eq_true rfl⟩) [(0, 22)] rfl rfl rfl (fun x12 H locs ex12 nx12 hP hS => ?_)
          have hf := bnd_of hf ex12
          refine lv_if_eq (tgt := 96) hx hb dX10_whatIs_68 (by decide) (fun cb => ?_) (fun cb => ?_)
          · have hf := it_t cb hf
            refine lv_iconst (v := 0) hx hb dX10_whatIs_96 (by decide) ?_
            refine lv_ior hx hb dX10_whatIs_97 ?_
            refine lv_istore_n (lv' := [(3, .int (x8 ||| (0 : Int32))), (0, .ref (a0 0)), (1, .int p1), (2, .int p2), (4, .int x9)]) hx hb dX10_whatIs_98 rfl hl (by decide) rfl (fun ls hl => ?_)
            refine lv_iinc (v := (x9 + 1)) (lv' := [(4, .int (x9 + 1)), (3, .int (x8 ||| (0 : Int32))), (0, .ref (a0 0)), (1, .int p1), (2, .int p2)]) hx hb dX10_whatIs_99 hl (k := 4) rfl (by rfl) (by decide) rfl (fun ls hl => ?_)
            refine lv_goto (tgt := 35) hx hb dX10_whatIs_102 (by decide) ?_
            exact hB _ (Option.some.inj hf).symm _ _ _ hP hD hS (lv_sub hl [2, 3, 4, 1, 0] rfl)
          have hf := it_f cb hf
          refine lv_goto (tgt := 89) hx hb dX10_whatIs_71 (by decide) ?_
          refine lv_iconst (v := 1) hx hb dX10_whatIs_89 (by decide) ?_
          refine lv_iload hx hb dX10_whatIs_90 (lv_at hl 4 rfl) ?_
          refine lv_ishl hx hb dX10_whatIs_92 ?_
          refine lv_goto (tgt := 97) hx hb dX10_whatIs_93 (by decide) ?_
          refine lv_ior hx hb dX10_whatIs_97 ?_
          refine lv_istore_n (lv' := [(3, .int (x8 ||| ((1 : Int32) <<< (x9 &&& 31)))), (0, .ref (a0 0)), (1, .int p1), (2, .int p2), (4, .int x9)]) hx hb dX10_whatIs_98 rfl hl (by decide) rfl (fun ls hl => ?_)
          refine lv_iinc (v := (x9 + 1)) (lv' := [(4, .int (x9 + 1)), (3, .int (x8 ||| ((1 : Int32) <<< (x9 &&& 31)))), (0, .ref (a0 0)), (1, .int p1), (2, .int p2)]) hx hb dX10_whatIs_99 hl (k := 4) rfl (by rfl) (by decide) rfl (fun ls hl => ?_)
          refine lv_goto (tgt := 35) hx hb dX10_whatIs_102 (by decide) ?_
          exact hB _ (Option.some.inj hf).symm _ _ _ hP hD hS (lv_sub hl [2, 3, 4, 1, 0] rfl)
        have hf := er10
        refine lv_if_ne (tgt := 46) hx hb dX10_whatIs_38 (by decide) (fun cb => ?_) (fun cb => ?_)
        · have hf := it_f cb hf
          refine lv_bipush (v := 10) hx hb dX10_whatIs_46 (by decide) ?_
          have hq := Option.some.inj hf
          subst hq
          exact K _ _ _ hP hD hS (lv_sub hl [0, 1, 2, 3, 4] rfl)
        have hf := it_t cb hf
        refine lv_bipush (v := 6) hx hb dX10_whatIs_41 (by decide) ?_
        refine lv_goto (tgt := 48) hx hb dX10_whatIs_43 (by decide) ?_
        have hq := Option.some.inj hf
        subst hq
        exact K _ _ _ hP hD hS (lv_sub hl [0, 1, 2, 3, 4] rfl)
      intro H locs ls hP hD hS hl
      have hP : va_P g.1 vwCl (wX10 a0 g v0_papers v0_raw v0_kind v0_figure v0_heavy v0_place v0_rules v0_lower v0_upper v0_limits v0_limit v0_ties v0_letter v0_letters v0_told v0_tolds v0_places v0_cell v0_refusals v0_imaged v0_hasImage v0_before v0_up v0_down v0_beneath v0_numberUp v0_numberDown v0_block v0_blocks v0_merged v0_valueUp v0_valueDown v0_said v0_saids v0_at v0_number) H := hP
      have hD : va_D A (wX10 a0 g v0_papers v0_raw v0_kind v0_figure v0_heavy v0_place v0_rules v0_lower v0_upper v0_limits v0_limit v0_ties v0_letter v0_letters v0_told v0_tolds v0_places v0_cell v0_refusals v0_imaged v0_hasImage v0_before v0_up v0_down v0_beneath v0_numberUp v0_numberDown v0_block v0_blocks v0_merged v0_valueUp v0_valueDown v0_said v0_saids v0_at v0_number) := hD
      have hl : lv_has ls 5 [(3, .int r13)] := hl
      refine lv_iload_n hx hb dX10_whatIs_105 rfl (lv_at hl 0 rfl) ?_
      exact retI (v := r13) (u := (r13, v0_refusals)) (val := fun u => u.1) (W1 := fun u => wX10 a0 g v0_papers v0_raw v0_kind v0_figure v0_heavy v0_place v0_rules v0_lower v0_upper v0_limits v0_limit v0_ties v0_letter v0_letters v0_told v0_tolds v0_places v0_cell u.2 v0_imaged v0_hasImage v0_before v0_up v0_down v0_beneath v0_numberUp v0_numberDown v0_block v0_blocks v0_merged v0_valueUp v0_valueDown v0_said v0_saids v0_at v0_number) hx hb hr hlocks hS hP hD (hf0.trans hf.symm) rfl rfl dX10_whatIs_106
    have hf := it_t cb hf
    refine lv_aload_n hx hb dX10_whatIs_23 rfl (lv_at hl 0 rfl) ?_
    refine lv_bipush (v := (-2)) hx hb dX10_whatIs_24 (by decide) ?_
    refine cI hP hD hS hA hE (fun hPc hDc hSc => rV (As := [.int (-2 : Int32)]) (rest := []) hx hb hml hown hts hK (c_X10_no l g a0 v0_papers v0_raw v0_kind v0_figure v0_heavy v0_place v0_rules v0_lower v0_upper v0_limits v0_limit v0_ties v0_letter v0_letters v0_told v0_tolds v0_places v0_cell v0_refusals v0_imaged v0_hasImage v0_before v0_up v0_down v0_beneath v0_numberUp v0_numberDown v0_block v0_blocks v0_merged v0_valueUp v0_valueDown v0_said v0_saids v0_at v0_number (-2 : Int32) (bnd_ne hf)) svV_X10_no kw1354 rfl rfl hPc hDc hSc rfl rfl hl.1 (Nat.le_of_ble_eq_true rfl) dX10_whatIs_26 ⟨Nat.le_of_ble_eq_true rfl, Nat.le_of_ble_eq_true rfl, rfl, rfl, Nat.le_of_ble_eq_true rfl, Nat.le_of_ble_eq_true rfl⟩) [(0, 22)] rfl rfl rfl (fun _ => rfl) (fun x14 H locs ex14 nx14 hP hD hS => ?_)
    have hf := bnd_of hf ex14
    have hP : va_P g.1 vwCl (wX10 a0 g v0_papers v0_raw v0_kind v0_figure v0_heavy v0_place v0_rules v0_lower v0_upper v0_limits v0_limit v0_ties v0_letter v0_letters v0_told v0_tolds v0_places v0_cell x14.2 v0_imaged v0_hasImage v0_before v0_up v0_down v0_beneath v0_numberUp v0_numberDown v0_block v0_blocks v0_merged v0_valueUp v0_valueDown v0_said v0_saids v0_at v0_number) H := hP
    have hD : va_D A (wX10 a0 g v0_papers v0_raw v0_kind v0_figure v0_heavy v0_place v0_rules v0_lower v0_upper v0_limits v0_limit v0_ties v0_letter v0_letters v0_told v0_tolds v0_places v0_cell x14.2 v0_imaged v0_hasImage v0_before v0_up v0_down v0_beneath v0_numberUp v0_numberDown v0_block v0_blocks v0_merged v0_valueUp v0_valueDown v0_said v0_saids v0_at v0_number) := hD
    exact retI (v := x14.1) (u := (x14.1, x14.2)) (val := fun u => u.1) (W1 := fun u => wX10 a0 g v0_papers v0_raw v0_kind v0_figure v0_heavy v0_place v0_rules v0_lower v0_upper v0_limits v0_limit v0_ties v0_letter v0_letters v0_told v0_tolds v0_places v0_cell u.2 v0_imaged v0_hasImage v0_before v0_up v0_down v0_beneath v0_numberUp v0_numberDown v0_block v0_blocks v0_merged v0_valueUp v0_valueDown v0_said v0_saids v0_at v0_number) hx hb hr hlocks hS hP hD (hf0.trans hf.symm) rfl rfl dX10_whatIs_29
  have hf := it_t cb hf
  refine lv_aload_n hx hb dX10_whatIs_8 rfl (lv_at hl 0 rfl) ?_
  refine lv_iconst (v := (-1)) hx hb dX10_whatIs_9 (by decide) ?_
  refine cI hP hD hS hA hE (fun hPc hDc hSc => rV (As := [.int (-1 : Int32)]) (rest := []) hx hb hml hown hts hK (c_X10_no l g a0 v0_papers v0_raw v0_kind v0_figure v0_heavy v0_place v0_rules v0_lower v0_upper v0_limits v0_limit v0_ties v0_letter v0_letters v0_told v0_tolds v0_places v0_cell v0_refusals v0_imaged v0_hasImage v0_before v0_up v0_down v0_beneath v0_numberUp v0_numberDown v0_block v0_blocks v0_merged v0_valueUp v0_valueDown v0_said v0_saids v0_at v0_number (-1 : Int32) (bnd_ne hf)) svV_X10_no kw1354 rfl rfl hPc hDc hSc rfl rfl hl.1 (Nat.le_of_ble_eq_true rfl) dX10_whatIs_10 ⟨Nat.le_of_ble_eq_true rfl, Nat.le_of_ble_eq_true rfl, rfl, rfl, Nat.le_of_ble_eq_true rfl, Nat.le_of_ble_eq_true rfl⟩) [(0, 22)] rfl rfl rfl (fun _ => rfl) (fun x15 H locs ex15 nx15 hP hD hS => ?_)
  have hf := bnd_of hf ex15
  have hP : va_P g.1 vwCl (wX10 a0 g v0_papers v0_raw v0_kind v0_figure v0_heavy v0_place v0_rules v0_lower v0_upper v0_limits v0_limit v0_ties v0_letter v0_letters v0_told v0_tolds v0_places v0_cell x15.2 v0_imaged v0_hasImage v0_before v0_up v0_down v0_beneath v0_numberUp v0_numberDown v0_block v0_blocks v0_merged v0_valueUp v0_valueDown v0_said v0_saids v0_at v0_number) H := hP
  have hD : va_D A (wX10 a0 g v0_papers v0_raw v0_kind v0_figure v0_heavy v0_place v0_rules v0_lower v0_upper v0_limits v0_limit v0_ties v0_letter v0_letters v0_told v0_tolds v0_places v0_cell x15.2 v0_imaged v0_hasImage v0_before v0_up v0_down v0_beneath v0_numberUp v0_numberDown v0_block v0_blocks v0_merged v0_valueUp v0_valueDown v0_said v0_saids v0_at v0_number) := hD
  exact retI (v := x15.1) (u := (x15.1, x15.2)) (val := fun u => u.1) (W1 := fun u => wX10 a0 g v0_papers v0_raw v0_kind v0_figure v0_heavy v0_place v0_rules v0_lower v0_upper v0_limits v0_limit v0_ties v0_letter v0_letters v0_told v0_tolds v0_places v0_cell u.2 v0_imaged v0_hasImage v0_before v0_up v0_down v0_beneath v0_numberUp v0_numberDown v0_block v0_blocks v0_merged v0_valueUp v0_valueDown v0_said v0_saids v0_at v0_number) hx hb hr hlocks hS hP hD (hf0.trans hf.symm) rfl rfl dX10_whatIs_13
set_option maxHeartbeats 4000000 in
set_option maxRecDepth 100000 in
theorem c_X10_row (l : Launch) (g : GG) (a0 : Nat → Nat) (v0_papers : Int32) (v0_raw : (Nat → Int32)) (v0_kind : (Nat → Int32)) (v0_figure : (Nat → Int32)) (v0_heavy : (Nat → Int32)) (v0_place : (Nat → Int32)) (v0_rules : Int32) (v0_lower : (Nat → Int32)) (v0_upper : (Nat → Int32)) (v0_limits : Int32) (v0_limit : (Nat → Int32)) (v0_ties : Int32) (v0_letter : (Nat → Int32)) (v0_letters : Int32) (v0_told : (Nat → Int32)) (v0_tolds : Int32) (v0_places : (Nat → Int32)) (v0_cell : (Nat → Int64)) (v0_refusals : (Nat → Int32)) (v0_imaged : (Nat → Int32)) (v0_hasImage : Int32) (v0_before : (Nat → Int32)) (v0_up : Int64) (v0_down : Int64) (v0_beneath : (Nat → Int32)) (v0_numberUp : Int32) (v0_numberDown : Int32) (v0_block : (Nat → Int32)) (v0_blocks : Int32) (v0_merged : Int32) (v0_valueUp : (Nat → Int32)) (v0_valueDown : (Nat → Int32)) (v0_said : (Nat → Int32)) (v0_saids : Int32) (v0_at : Int32) (v0_number : (Nat → Int32)) (p1 : Int32) (hne : (m_X10_row (v0_papers, v0_raw, v0_kind, v0_figure, v0_heavy, v0_place, v0_rules, v0_lower, v0_upper, v0_limits, v0_limit, v0_ties, v0_letter, v0_letters, v0_told, v0_tolds, v0_places, v0_cell, v0_refusals, v0_imaged, v0_hasImage, v0_before, v0_up, v0_down, v0_beneath, v0_numberUp, v0_numberDown, v0_block, v0_blocks, v0_merged, v0_valueUp, v0_valueDown, v0_said, v0_saids, v0_at, v0_number) p1) ≠ none) : Ct l g yX10_row cX10_row 2 (some .int) ({ frames := 1, cells := 0, slots := 0, locals := 21 } : Room) [.ref (a0 0), .int p1] (wX10 a0 g v0_papers v0_raw v0_kind v0_figure v0_heavy v0_place v0_rules v0_lower v0_upper v0_limits v0_limit v0_ties v0_letter v0_letters v0_told v0_tolds v0_places v0_cell v0_refusals v0_imaged v0_hasImage v0_before v0_up v0_down v0_beneath v0_numberUp v0_numberDown v0_block v0_blocks v0_merged v0_valueUp v0_valueDown v0_said v0_saids v0_at v0_number) (Qi g .int (m_X10_row (v0_papers, v0_raw, v0_kind, v0_figure, v0_heavy, v0_place, v0_rules, v0_lower, v0_upper, v0_limits, v0_limit, v0_ties, v0_letter, v0_letters, v0_told, v0_tolds, v0_places, v0_cell, v0_refusals, v0_imaged, v0_hasImage, v0_before, v0_up, v0_down, v0_beneath, v0_numberUp, v0_numberDown, v0_block, v0_blocks, v0_merged, v0_valueUp, v0_valueDown, v0_said, v0_saids, v0_at, v0_number) p1) (fun u => u.1) (fun u => wX10 a0 g v0_papers v0_raw v0_kind v0_figure v0_heavy v0_place v0_rules v0_lower v0_upper v0_limits v0_limit v0_ties v0_letter v0_letters u.2.1 u.2.2.1 v0_places v0_cell u.2.2.2 v0_imaged v0_hasImage v0_before v0_up v0_down v0_beneath v0_numberUp v0_numberDown v0_block v0_blocks v0_merged v0_valueUp v0_valueDown v0_said v0_saids v0_at v0_number)) 0 0 := by
  obtain ⟨out, hf⟩ := ne_ex hne
  have hf0 := hf
  refine Ct.of (own := RX10) (by decide +kernel) rfl (Nat.le_of_ble_eq_true rfl) ?_
  intro p e s m below meth c hx hb hr hml hown hts hlocks hin hK A H locs hA hP hD hS hE ls hl
  have hl : lv_has ls 2 [(0, .ref (a0 0)), (1, .int p1)] := hl
  unfold m_X10_row at hf
  refine lv_iload_n hx hb dX10_row_0 rfl (lv_at hl 1 rfl) ?_
  refine lv_if_ge (tgt := 11) hx hb dX10_row_1 (by decide) (fun cb => ?_) (fun cb => ?_)
  · have hf := it_t cb hf
    refine lv_iload_n hx hb dX10_row_11 rfl (lv_at hl 1 rfl) ?_
    refine lv_sipush (v := 999) hx hb dX10_row_12 (by decide) ?_
    obtain ⟨r1, er1, hf⟩ := bnd hf
    have K : match r1 with | .inl x2 => (∀ (H : Heap) (locs : List Loc) (ls : Array Slot), va_P g.1 vwCl (wX10 a0 g v0_papers v0_raw v0_kind v0_figure v0_heavy v0_place v0_rules v0_lower v0_upper v0_limits v0_limit v0_ties v0_letter v0_letters x2.1 x2.2 v0_places v0_cell v0_refusals v0_imaged v0_hasImage v0_before v0_up v0_down v0_beneath v0_numberUp v0_numberDown v0_block v0_blocks v0_merged v0_valueUp v0_valueDown v0_said v0_saids v0_at v0_number) H → va_D A (wX10 a0 g v0_papers v0_raw v0_kind v0_figure v0_heavy v0_place v0_rules v0_lower v0_upper v0_limits v0_limit v0_ties v0_letter v0_letters x2.1 x2.2 v0_places v0_cell v0_refusals v0_imaged v0_hasImage v0_before v0_up v0_down v0_beneath v0_numberUp v0_numberDown v0_block v0_blocks v0_merged v0_valueUp v0_valueDown v0_said v0_saids v0_at v0_number) → va_S A s.heap H locs → lv_has ls 2 [(0, .ref (a0 0))] → W p l e { frames := 1, cells := 0, slots := 0, locals := 21 } s m [.ref (a0 0), .int p1].toArray below meth c H locs 0 0 (MQ below (Qi g .int (m_X10_row (v0_papers, v0_raw, v0_kind, v0_figure, v0_heavy, v0_place, v0_rules, v0_lower, v0_upper, v0_limits, v0_limit, v0_ties, v0_letter, v0_letters, v0_told, v0_tolds, v0_places, v0_cell, v0_refusals, v0_imaged, v0_hasImage, v0_before, v0_up, v0_down, v0_beneath, v0_numberUp, v0_numberDown, v0_block, v0_blocks, v0_merged, v0_valueUp, v0_valueDown, v0_said, v0_saids, v0_at, v0_number) p1) (fun u => u.1) (fun u => wX10 a0 g v0_papers v0_raw v0_kind v0_figure v0_heavy v0_place v0_rules v0_lower v0_upper v0_limits v0_limit v0_ties v0_letter v0_letters u.2.1 u.2.2.1 v0_places v0_cell u.2.2.2 v0_imaged v0_hasImage v0_before v0_up v0_down v0_beneath v0_numberUp v0_numberDown v0_block v0_blocks v0_merged v0_valueUp v0_valueDown v0_said v0_saids v0_at v0_number) A) [.ref (a0 0), .int p1].toArray s 0 0 A) (F0 m 27 ls [])) | .inr v => (m_X10_row (v0_papers, v0_raw, v0_kind, v0_figure, v0_heavy, v0_place, v0_rules, v0_lower, v0_upper, v0_limits, v0_limit, v0_ties, v0_letter, v0_letters, v0_told, v0_tolds, v0_places, v0_cell, v0_refusals, v0_imaged, v0_hasImage, v0_before, v0_up, v0_down, v0_beneath, v0_numberUp, v0_numberDown, v0_block, v0_blocks, v0_merged, v0_valueUp, v0_valueDown, v0_said, v0_saids, v0_at, v0_number) p1) = some v := by
      rcases r1 with x2 | v
      · intro H locs ls hP hD hS hl
        refine lv_aload_n hx hb dX10_row_27 rfl (lv_at hl 0 rfl) ?_
        refine lv_bipush (v := (-6)) hx hb dX10_row_28 (by decide) ?_
        refine cI hP hD hS hA hE (fun hPc hDc hSc => rV (As := [.int (-6 : Int32)]) (rest := []) hx hb hml hown hts hK (c_X10_no l g a0 v0_papers v0_raw v0_kind v0_figure v0_heavy v0_place v0_rules v0_lower v0_upper v0_limits v0_limit v0_ties v0_letter v0_letters x2.1 x2.2 v0_places v0_cell v0_refusals v0_imaged v0_hasImage v0_before v0_up v0_down v0_beneath v0_numberUp v0_numberDown v0_block v0_blocks v0_merged v0_valueUp v0_valueDown v0_said v0_saids v0_at v0_number (-6 : Int32) (bnd_ne hf)) svV_X10_no kw1354 rfl rfl hPc hDc hSc rfl rfl hl.1 (Nat.le_of_ble_eq_true rfl) dX10_row_30 ⟨Nat.le_of_ble_eq_true rfl, Nat.le_of_ble_eq_true rfl, rfl, rfl, Nat.le_of_ble_eq_true rfl, Nat.le_of_ble_eq_true rfl⟩) [(0, 22)] rfl rfl rfl (fun _ => rfl) (fun x3 H locs ex3 nx3 hP hD hS => ?_)
        have hf := bnd_of hf ex3
        have hP : va_P g.1 vwCl (wX10 a0 g v0_papers v0_raw v0_kind v0_figure v0_heavy v0_place v0_rules v0_lower v0_upper v0_limits v0_limit v0_ties v0_letter v0_letters x2.1 x2.2 v0_places v0_cell x3.2 v0_imaged v0_hasImage v0_before v0_up v0_down v0_beneath v0_numberUp v0_numberDown v0_block v0_blocks v0_merged v0_valueUp v0_valueDown v0_said v0_saids v0_at v0_number) H := hP
        have hD : va_D A (wX10 a0 g v0_papers v0_raw v0_kind v0_figure v0_heavy v0_place v0_rules v0_lower v0_upper v0_limits v0_limit v0_ties v0_letter v0_letters x2.1 x2.2 v0_places v0_cell x3.2 v0_imaged v0_hasImage v0_before v0_up v0_down v0_beneath v0_numberUp v0_numberDown v0_block v0_blocks v0_merged v0_valueUp v0_valueDown v0_said v0_saids v0_at v0_number) := hD
        exact retI (v := x3.1) (u := (x3.1, x2.1, x2.2, x3.2)) (val := fun u => u.1) (W1 := fun u => wX10 a0 g v0_papers v0_raw v0_kind v0_figure v0_heavy v0_place v0_rules v0_lower v0_upper v0_limits v0_limit v0_ties v0_letter v0_letters u.2.1 u.2.2.1 v0_places v0_cell u.2.2.2 v0_imaged v0_hasImage v0_before v0_up v0_down v0_beneath v0_numberUp v0_numberDown v0_block v0_blocks v0_merged v0_valueUp v0_valueDown v0_said v0_saids v0_at v0_number) hx hb hr hlocks hS hP hD (hf0.trans hf.symm) rfl rfl dX10_row_33
      · exact hf0.trans hf.symm
    have hf := er1
    refine lv_icmp_gt (tgt := 27) hx hb dX10_row_15 (by decide) (fun cb => ?_) (fun cb => ?_)
    · have hf := it_t cb hf
      have hq := Option.some.inj hf
      subst hq
      exact K _ _ _ hP hD hS (lv_sub hl [0] rfl)
    have hf := it_f cb hf
    refine lv_aload_n hx hb dX10_row_18 rfl (lv_at hl 0 rfl) ?_
    refine va_get (D := g.1) (ci := 11) (v := .int v0_tolds) (C := RX10) (T := TX10) (N := 36) hx hb hts layX10 hown hK.1 hP 0 rfl rfl 15 (by decide) (hts _ kw1292) (fun _ h9 => h9) rfl dX10_row_19 ?_
    refine lv_bipush (v := 10) hx hb dX10_row_22 (by decide) ?_
    refine lv_icmp_ne (tgt := 34) hx hb dX10_row_24 (by decide) (fun cb => ?_) (fun cb => ?_)
    · have hf := it_f cb hf
      refine lv_aload_n hx hb dX10_row_34 rfl (lv_at hl 0 rfl) ?_
      refine va_get (D := g.1) (ci := 11) (v := .ref (a0 10)) (C := RX10) (T := TX10) (N := 36) hx hb hts layX10 hown hK.1 hP 0 rfl rfl 14 (by decide) (hts _ kw1291) (fun _ h9 => h9) rfl dX10_row_35 ?_
      refine lv_aload_n hx hb dX10_row_38 rfl (lv_at hl 0 rfl) ?_
      refine va_get (D := g.1) (ci := 11) (v := .int v0_tolds) (C := RX10) (T := TX10) (N := 36) hx hb hts layX10 hown hK.1 hP 0 rfl rfl 15 (by decide) (hts _ kw1292) (fun _ h9 => h9) rfl dX10_row_39 ?_
      refine lv_iload_n hx hb dX10_row_42 rfl (lv_at hl 1 rfl) ?_
      have hi := it_n hf
      have hf := it_t hi hf
      refine va_iast hx hb hK.1 hP hD hS 10 0 rfl rfl (inb_in hi) dX10_row_43 (fun H locs hP hD hS => ?_)
      have hP : va_P g.1 vwCl (wX10 a0 g v0_papers v0_raw v0_kind v0_figure v0_heavy v0_place v0_rules v0_lower v0_upper v0_limits v0_limit v0_ties v0_letter v0_letters (upd v0_told v0_tolds.toNatClampNeg p1) v0_tolds v0_places v0_cell v0_refusals v0_imaged v0_hasImage v0_before v0_up v0_down v0_beneath v0_numberUp v0_numberDown v0_block v0_blocks v0_merged v0_valueUp v0_valueDown v0_said v0_saids v0_at v0_number) H := hP
      have hD : va_D A (wX10 a0 g v0_papers v0_raw v0_kind v0_figure v0_heavy v0_place v0_rules v0_lower v0_upper v0_limits v0_limit v0_ties v0_letter v0_letters (upd v0_told v0_tolds.toNatClampNeg p1) v0_tolds v0_places v0_cell v0_refusals v0_imaged v0_hasImage v0_before v0_up v0_down v0_beneath v0_numberUp v0_numberDown v0_block v0_blocks v0_merged v0_valueUp v0_valueDown v0_said v0_saids v0_at v0_number) := hD
      refine lv_aload_n hx hb dX10_row_44 rfl (lv_at hl 0 rfl) ?_
      refine lv_dup hx hb dX10_row_45 rfl ?_
      refine va_get (D := g.1) (ci := 11) (v := .int v0_tolds) (C := RX10) (T := TX10) (N := 36) hx hb hts layX10 hown hK.1 hP 0 rfl rfl 15 (by decide) (hts _ kw1292) (fun _ h9 => h9) rfl dX10_row_46 ?_
      refine lv_iconst (v := 1) hx hb dX10_row_49 (by decide) ?_
      refine lv_iadd hx hb dX10_row_50 ?_
      refine va_put (D := g.1) (ci := 11) (v := .int (v0_tolds + (1 : Int32))) (ty := .int) (C := RX10) (T := TX10) (N := 36) hx hb hts layX10 tyX10 tyX10_ok nmX10 hown hK.1 hP hD hS 0 rfl rfl 15 (by decide) (hts _ kw1292) (fun _ h9 => h9) rfl (tyX10_ok 15 (by decide)) rfl rfl (Nat.le_of_ble_eq_true rfl) dX10_row_51 (fun H locs hP hD hS => ?_)
      have hP : va_P g.1 vwCl (wX10 a0 g v0_papers v0_raw v0_kind v0_figure v0_heavy v0_place v0_rules v0_lower v0_upper v0_limits v0_limit v0_ties v0_letter v0_letters (upd v0_told v0_tolds.toNatClampNeg p1) (v0_tolds + (1 : Int32)) v0_places v0_cell v0_refusals v0_imaged v0_hasImage v0_before v0_up v0_down v0_beneath v0_numberUp v0_numberDown v0_block v0_blocks v0_merged v0_valueUp v0_valueDown v0_said v0_saids v0_at v0_number) H := hP
      have hD : va_D A (wX10 a0 g v0_papers v0_raw v0_kind v0_figure v0_heavy v0_place v0_rules v0_lower v0_upper v0_limits v0_limit v0_ties v0_letter v0_letters (upd v0_told v0_tolds.toNatClampNeg p1) (v0_tolds + (1 : Int32)) v0_places v0_cell v0_refusals v0_imaged v0_hasImage v0_before v0_up v0_down v0_beneath v0_numberUp v0_numberDown v0_block v0_blocks v0_merged v0_valueUp v0_valueDown v0_said v0_saids v0_at v0_number) := hD
      refine lv_aload_n hx hb dX10_row_54 rfl (lv_at hl 0 rfl) ?_
      refine va_get (D := g.1) (ci := 11) (v := .int (v0_tolds + (1 : Int32))) (C := RX10) (T := TX10) (N := 36) hx hb hts layX10 hown hK.1 hP 0 rfl rfl 15 (by decide) (hts _ kw1292) (fun _ h9 => h9) rfl dX10_row_55 ?_
      have hq := Option.some.inj hf
      subst hq
      exact retI (v := (v0_tolds + (1 : Int32))) (u := ((v0_tolds + (1 : Int32)), (upd v0_told v0_tolds.toNatClampNeg p1), (v0_tolds + (1 : Int32)), v0_refusals)) (val := fun u => u.1) (W1 := fun u => wX10 a0 g v0_papers v0_raw v0_kind v0_figure v0_heavy v0_place v0_rules v0_lower v0_upper v0_limits v0_limit v0_ties v0_letter v0_letters u.2.1 u.2.2.1 v0_places v0_cell u.2.2.2 v0_imaged v0_hasImage v0_before v0_up v0_down v0_beneath v0_numberUp v0_numberDown v0_block v0_blocks v0_merged v0_valueUp v0_valueDown v0_said v0_saids v0_at v0_number) hx hb hr hlocks hS hP hD K rfl rfl dX10_row_58
    have hf := it_t cb hf
    have hq := Option.some.inj hf
    subst hq
    exact K _ _ _ hP hD hS (lv_sub hl [0] rfl)
  have hf := it_f cb hf
  refine lv_aload_n hx hb dX10_row_4 rfl (lv_at hl 0 rfl) ?_
  refine lv_bipush (v := (-4)) hx hb dX10_row_5 (by decide) ?_
  refine cI hP hD hS hA hE (fun hPc hDc hSc => rV (As := [.int (-4 : Int32)]) (rest := []) hx hb hml hown hts hK (c_X10_no l g a0 v0_papers v0_raw v0_kind v0_figure v0_heavy v0_place v0_rules v0_lower v0_upper v0_limits v0_limit v0_ties v0_letter v0_letters v0_told v0_tolds v0_places v0_cell v0_refusals v0_imaged v0_hasImage v0_before v0_up v0_down v0_beneath v0_numberUp v0_numberDown v0_block v0_blocks v0_merged v0_valueUp v0_valueDown v0_said v0_saids v0_at v0_number (-4 : Int32) (bnd_ne hf)) svV_X10_no kw1354 rfl rfl hPc hDc hSc rfl rfl hl.1 (Nat.le_of_ble_eq_true rfl) dX10_row_7 ⟨Nat.le_of_ble_eq_true rfl, Nat.le_of_ble_eq_true rfl, rfl, rfl, Nat.le_of_ble_eq_true rfl, Nat.le_of_ble_eq_true rfl⟩) [(0, 22)] rfl rfl rfl (fun _ => rfl) (fun x4 H locs ex4 nx4 hP hD hS => ?_)
  have hf := bnd_of hf ex4
  have hP : va_P g.1 vwCl (wX10 a0 g v0_papers v0_raw v0_kind v0_figure v0_heavy v0_place v0_rules v0_lower v0_upper v0_limits v0_limit v0_ties v0_letter v0_letters v0_told v0_tolds v0_places v0_cell x4.2 v0_imaged v0_hasImage v0_before v0_up v0_down v0_beneath v0_numberUp v0_numberDown v0_block v0_blocks v0_merged v0_valueUp v0_valueDown v0_said v0_saids v0_at v0_number) H := hP
  have hD : va_D A (wX10 a0 g v0_papers v0_raw v0_kind v0_figure v0_heavy v0_place v0_rules v0_lower v0_upper v0_limits v0_limit v0_ties v0_letter v0_letters v0_told v0_tolds v0_places v0_cell x4.2 v0_imaged v0_hasImage v0_before v0_up v0_down v0_beneath v0_numberUp v0_numberDown v0_block v0_blocks v0_merged v0_valueUp v0_valueDown v0_said v0_saids v0_at v0_number) := hD
  exact retI (v := x4.1) (u := (x4.1, v0_told, v0_tolds, x4.2)) (val := fun u => u.1) (W1 := fun u => wX10 a0 g v0_papers v0_raw v0_kind v0_figure v0_heavy v0_place v0_rules v0_lower v0_upper v0_limits v0_limit v0_ties v0_letter v0_letters u.2.1 u.2.2.1 v0_places v0_cell u.2.2.2 v0_imaged v0_hasImage v0_before v0_up v0_down v0_beneath v0_numberUp v0_numberDown v0_block v0_blocks v0_merged v0_valueUp v0_valueDown v0_said v0_saids v0_at v0_number) hx hb hr hlocks hS hP hD (hf0.trans hf.symm) rfl rfl dX10_row_10
set_option maxHeartbeats 4000000 in
set_option maxRecDepth 100000 in
theorem c_X10_clear (l : Launch) (g : GG) (a0 : Nat → Nat) (v0_papers : Int32) (v0_raw : (Nat → Int32)) (v0_kind : (Nat → Int32)) (v0_figure : (Nat → Int32)) (v0_heavy : (Nat → Int32)) (v0_place : (Nat → Int32)) (v0_rules : Int32) (v0_lower : (Nat → Int32)) (v0_upper : (Nat → Int32)) (v0_limits : Int32) (v0_limit : (Nat → Int32)) (v0_ties : Int32) (v0_letter : (Nat → Int32)) (v0_letters : Int32) (v0_told : (Nat → Int32)) (v0_tolds : Int32) (v0_places : (Nat → Int32)) (v0_cell : (Nat → Int64)) (v0_refusals : (Nat → Int32)) (v0_imaged : (Nat → Int32)) (v0_hasImage : Int32) (v0_before : (Nat → Int32)) (v0_up : Int64) (v0_down : Int64) (v0_beneath : (Nat → Int32)) (v0_numberUp : Int32) (v0_numberDown : Int32) (v0_block : (Nat → Int32)) (v0_blocks : Int32) (v0_merged : Int32) (v0_valueUp : (Nat → Int32)) (v0_valueDown : (Nat → Int32)) (v0_said : (Nat → Int32)) (v0_saids : Int32) (v0_at : Int32) (v0_number : (Nat → Int32)) (hne : (m_X10_clear (v0_papers, v0_raw, v0_kind, v0_figure, v0_heavy, v0_place, v0_rules, v0_lower, v0_upper, v0_limits, v0_limit, v0_ties, v0_letter, v0_letters, v0_told, v0_tolds, v0_places, v0_cell, v0_refusals, v0_imaged, v0_hasImage, v0_before, v0_up, v0_down, v0_beneath, v0_numberUp, v0_numberDown, v0_block, v0_blocks, v0_merged, v0_valueUp, v0_valueDown, v0_said, v0_saids, v0_at, v0_number)) ≠ none) : Ct l g yX10_clear cX10_clear 2 (some .int) ({ frames := 0, cells := 0, slots := 0, locals := 0 } : Room) [.ref (a0 0)] (wX10 a0 g v0_papers v0_raw v0_kind v0_figure v0_heavy v0_place v0_rules v0_lower v0_upper v0_limits v0_limit v0_ties v0_letter v0_letters v0_told v0_tolds v0_places v0_cell v0_refusals v0_imaged v0_hasImage v0_before v0_up v0_down v0_beneath v0_numberUp v0_numberDown v0_block v0_blocks v0_merged v0_valueUp v0_valueDown v0_said v0_saids v0_at v0_number) (Qi g .int (m_X10_clear (v0_papers, v0_raw, v0_kind, v0_figure, v0_heavy, v0_place, v0_rules, v0_lower, v0_upper, v0_limits, v0_limit, v0_ties, v0_letter, v0_letters, v0_told, v0_tolds, v0_places, v0_cell, v0_refusals, v0_imaged, v0_hasImage, v0_before, v0_up, v0_down, v0_beneath, v0_numberUp, v0_numberDown, v0_block, v0_blocks, v0_merged, v0_valueUp, v0_valueDown, v0_said, v0_saids, v0_at, v0_number)) (fun u => u.1) (fun u => wX10 a0 g v0_papers v0_raw v0_kind v0_figure v0_heavy v0_place v0_rules v0_lower v0_upper v0_limits v0_limit v0_ties v0_letter v0_letters v0_told u.2 v0_places v0_cell v0_refusals v0_imaged v0_hasImage v0_before v0_up v0_down v0_beneath v0_numberUp v0_numberDown v0_block v0_blocks v0_merged v0_valueUp v0_valueDown v0_said v0_saids v0_at v0_number)) 0 0 := by
  obtain ⟨out, hf⟩ := ne_ex hne
  have hf0 := hf
  refine Ct.of (own := RX10) (by decide +kernel) rfl (Nat.le_of_ble_eq_true rfl) ?_
  intro p e s m below meth c hx hb hr hml hown hts hlocks hin hK A H locs hA hP hD hS hE ls hl
  have hl : lv_has ls 2 [(0, .ref (a0 0))] := hl
  unfold m_X10_clear at hf
  refine lv_aload_n hx hb dX10_clear_0 rfl (lv_at hl 0 rfl) ?_
  refine va_get (D := g.1) (ci := 11) (v := .int v0_tolds) (C := RX10) (T := TX10) (N := 36) hx hb hts layX10 hown hK.1 hP 0 rfl rfl 15 (by decide) (hts _ kw1292) (fun _ h9 => h9) rfl dX10_clear_1 ?_
  refine lv_istore_n (lv' := [(1, .int v0_tolds), (0, .ref (a0 0))]) hx hb dX10_clear_4 rfl hl (by decide) rfl (fun ls hl => ?_)
  refine lv_aload_n hx hb dX10_clear_5 rfl (lv_at hl 1 rfl) ?_
  refine lv_iconst (v := 0) hx hb dX10_clear_6 (by decide) ?_
  refine va_put (D := g.1) (ci := 11) (v := .int (0 : Int32)) (ty := .int) (C := RX10) (T := TX10) (N := 36) hx hb hts layX10 tyX10 tyX10_ok nmX10 hown hK.1 hP hD hS 0 rfl rfl 15 (by decide) (hts _ kw1292) (fun _ h9 => h9) rfl (tyX10_ok 15 (by decide)) rfl rfl (Nat.le_of_ble_eq_true rfl) dX10_clear_7 (fun H locs hP hD hS => ?_)
  have hP : va_P g.1 vwCl (wX10 a0 g v0_papers v0_raw v0_kind v0_figure v0_heavy v0_place v0_rules v0_lower v0_upper v0_limits v0_limit v0_ties v0_letter v0_letters v0_told (0 : Int32) v0_places v0_cell v0_refusals v0_imaged v0_hasImage v0_before v0_up v0_down v0_beneath v0_numberUp v0_numberDown v0_block v0_blocks v0_merged v0_valueUp v0_valueDown v0_said v0_saids v0_at v0_number) H := hP
  have hD : va_D A (wX10 a0 g v0_papers v0_raw v0_kind v0_figure v0_heavy v0_place v0_rules v0_lower v0_upper v0_limits v0_limit v0_ties v0_letter v0_letters v0_told (0 : Int32) v0_places v0_cell v0_refusals v0_imaged v0_hasImage v0_before v0_up v0_down v0_beneath v0_numberUp v0_numberDown v0_block v0_blocks v0_merged v0_valueUp v0_valueDown v0_said v0_saids v0_at v0_number) := hD
  refine lv_iload_n hx hb dX10_clear_10 rfl (lv_at hl 0 rfl) ?_
  exact retI (v := v0_tolds) (u := (v0_tolds, (0 : Int32))) (val := fun u => u.1) (W1 := fun u => wX10 a0 g v0_papers v0_raw v0_kind v0_figure v0_heavy v0_place v0_rules v0_lower v0_upper v0_limits v0_limit v0_ties v0_letter v0_letters v0_told u.2 v0_places v0_cell v0_refusals v0_imaged v0_hasImage v0_before v0_up v0_down v0_beneath v0_numberUp v0_numberDown v0_block v0_blocks v0_merged v0_valueUp v0_valueDown v0_said v0_saids v0_at v0_number) hx hb hr hlocks hS hP hD (hf0.trans hf.symm) rfl rfl dX10_clear_11
set_option maxHeartbeats 4000000 in
set_option maxRecDepth 100000 in
theorem c_X10_inPools (l : Launch) (g : GG) (a0 : Nat → Nat) (v0_papers : Int32) (v0_raw : (Nat → Int32)) (v0_kind : (Nat → Int32)) (v0_figure : (Nat → Int32)) (v0_heavy : (Nat → Int32)) (v0_place : (Nat → Int32)) (v0_rules : Int32) (v0_lower : (Nat → Int32)) (v0_upper : (Nat → Int32)) (v0_limits : Int32) (v0_limit : (Nat → Int32)) (v0_ties : Int32) (v0_letter : (Nat → Int32)) (v0_letters : Int32) (v0_told : (Nat → Int32)) (v0_tolds : Int32) (v0_places : (Nat → Int32)) (v0_cell : (Nat → Int64)) (v0_refusals : (Nat → Int32)) (v0_imaged : (Nat → Int32)) (v0_hasImage : Int32) (v0_before : (Nat → Int32)) (v0_up : Int64) (v0_down : Int64) (v0_beneath : (Nat → Int32)) (v0_numberUp : Int32) (v0_numberDown : Int32) (v0_block : (Nat → Int32)) (v0_blocks : Int32) (v0_merged : Int32) (v0_valueUp : (Nat → Int32)) (v0_valueDown : (Nat → Int32)) (v0_said : (Nat → Int32)) (v0_saids : Int32) (v0_at : Int32) (v0_number : (Nat → Int32)) (hne : (m_X10_inPools (v0_papers, v0_raw, v0_kind, v0_figure, v0_heavy, v0_place, v0_rules, v0_lower, v0_upper, v0_limits, v0_limit, v0_ties, v0_letter, v0_letters, v0_told, v0_tolds, v0_places, v0_cell, v0_refusals, v0_imaged, v0_hasImage, v0_before, v0_up, v0_down, v0_beneath, v0_numberUp, v0_numberDown, v0_block, v0_blocks, v0_merged, v0_valueUp, v0_valueDown, v0_said, v0_saids, v0_at, v0_number)) ≠ none) : Ct l g yX10_inPools cX10_inPools 3 (some .int) ({ frames := 7, cells := 0, slots := 0, locals := 161 } : Room) [.ref (a0 0)] (wX10 a0 g v0_papers v0_raw v0_kind v0_figure v0_heavy v0_place v0_rules v0_lower v0_upper v0_limits v0_limit v0_ties v0_letter v0_letters v0_told v0_tolds v0_places v0_cell v0_refusals v0_imaged v0_hasImage v0_before v0_up v0_down v0_beneath v0_numberUp v0_numberDown v0_block v0_blocks v0_merged v0_valueUp v0_valueDown v0_said v0_saids v0_at v0_number) (Qi g .int (m_X10_inPools (v0_papers, v0_raw, v0_kind, v0_figure, v0_heavy, v0_place, v0_rules, v0_lower, v0_upper, v0_limits, v0_limit, v0_ties, v0_letter, v0_letters, v0_told, v0_tolds, v0_places, v0_cell, v0_refusals, v0_imaged, v0_hasImage, v0_before, v0_up, v0_down, v0_beneath, v0_numberUp, v0_numberDown, v0_block, v0_blocks, v0_merged, v0_valueUp, v0_valueDown, v0_said, v0_saids, v0_at, v0_number)) (fun u => u.1) (fun u => wX10 a0 g v0_papers v0_raw v0_kind v0_figure v0_heavy v0_place v0_rules v0_lower v0_upper v0_limits v0_limit v0_ties v0_letter v0_letters v0_told v0_tolds v0_places v0_cell v0_refusals v0_imaged v0_hasImage v0_before u.2.1 u.2.2.1 u.2.2.2.1 v0_numberUp v0_numberDown v0_block v0_blocks v0_merged u.2.2.2.2.1 u.2.2.2.2.2 v0_said v0_saids v0_at v0_number)) 0 0 := by
  obtain ⟨out, hf⟩ := ne_ex hne
  have hf0 := hf
  refine Ct.of (own := RX10) (by decide +kernel) rfl (Nat.le_of_ble_eq_true rfl) ?_
  intro p e s m below meth c hx hb hr hml hown hts hlocks hin hK A H locs hA hP hD hS hE ls hl
  have hl : lv_has ls 3 [(0, .ref (a0 0))] := hl
  unfold m_X10_inPools at hf
  refine lv_aload_n hx hb dX10_inPools_0 rfl (lv_at hl 0 rfl) ?_
  refine lv_iconst (v := 0) hx hb dX10_inPools_1 (by decide) ?_
  refine lv_aload_n hx hb dX10_inPools_2 rfl (lv_at hl 0 rfl) ?_
  refine cIp hP hD hS hA hE (fun hPc hDc hSc => rV (As := []) (rest := [.int (0 : Int32), .ref (a0 0)]) hx hb hml hown hts hK (c_X10_allRules l g a0 v0_papers v0_raw v0_kind v0_figure v0_heavy v0_place v0_rules v0_lower v0_upper v0_limits v0_limit v0_ties v0_letter v0_letters v0_told v0_tolds v0_places v0_cell v0_refusals v0_imaged v0_hasImage v0_before v0_up v0_down v0_beneath v0_numberUp v0_numberDown v0_block v0_blocks v0_merged v0_valueUp v0_valueDown v0_said v0_saids v0_at v0_number (bnd_ne hf)) svV_X10_allRules kw1389 rfl rfl hPc hDc hSc rfl rfl hl.1 (Nat.le_of_ble_eq_true rfl) dX10_inPools_3 ⟨Nat.le_of_ble_eq_true rfl, Nat.le_of_ble_eq_true rfl, rfl, rfl, Nat.le_of_ble_eq_true rfl, Nat.le_of_ble_eq_true rfl⟩) [(0, 22)] rfl rfl rfl (fun x1 H locs ex1 nx1 hP hS => ?_)
  have hf := bnd_of hf ex1
  refine cV hP hD hS hA hE (fun hPc hDc hSc => rV (As := [.int (0 : Int32), .int x1]) (rest := []) hx hb hml hown hts hK (c_X10_values l g a0 v0_papers v0_raw v0_kind v0_figure v0_heavy v0_place v0_rules v0_lower v0_upper v0_limits v0_limit v0_ties v0_letter v0_letters v0_told v0_tolds v0_places v0_cell v0_refusals v0_imaged v0_hasImage v0_before v0_up v0_down v0_beneath v0_numberUp v0_numberDown v0_block v0_blocks v0_merged v0_valueUp v0_valueDown v0_said v0_saids v0_at v0_number (0 : Int32) x1 (bnd_ne hf)) svV_X10_values kw1551 rfl rfl hPc hDc hSc rfl rfl hl.1 (Nat.le_of_ble_eq_true rfl) dX10_inPools_6 ⟨Nat.le_of_ble_eq_true rfl, Nat.le_of_ble_eq_true rfl, rfl, rfl, Nat.le_of_ble_eq_true rfl, Nat.le_of_ble_eq_true rfl⟩) [(0, 22)] rfl rfl rfl (fun _ => rfl) (fun x2 H locs ex2 hP hD hS => ?_)
  have hf := bnd_of hf ex2
  have hP : va_P g.1 vwCl (wX10 a0 g v0_papers v0_raw v0_kind v0_figure v0_heavy v0_place v0_rules v0_lower v0_upper v0_limits v0_limit v0_ties v0_letter v0_letters v0_told v0_tolds v0_places v0_cell v0_refusals v0_imaged v0_hasImage v0_before x2.1 x2.2.1 x2.2.2.1 v0_numberUp v0_numberDown v0_block v0_blocks v0_merged x2.2.2.2.1 x2.2.2.2.2 v0_said v0_saids v0_at v0_number) H := hP
  have hD : va_D A (wX10 a0 g v0_papers v0_raw v0_kind v0_figure v0_heavy v0_place v0_rules v0_lower v0_upper v0_limits v0_limit v0_ties v0_letter v0_letters v0_told v0_tolds v0_places v0_cell v0_refusals v0_imaged v0_hasImage v0_before x2.1 x2.2.1 x2.2.2.1 v0_numberUp v0_numberDown v0_block v0_blocks v0_merged x2.2.2.2.1 x2.2.2.2.2 v0_said v0_saids v0_at v0_number) := hD
  refine lv_iconst (v := 0) hx hb dX10_inPools_9 (by decide) ?_
  refine lv_istore_n (lv' := [(1, .int (0 : Int32)), (0, .ref (a0 0))]) hx hb dX10_inPools_10 rfl hl (by decide) rfl (fun ls hl => ?_)
  refine lv_iconst (v := 0) hx hb dX10_inPools_11 (by decide) ?_
  refine lv_istore_n (lv' := [(2, .int (0 : Int32)), (1, .int (0 : Int32)), (0, .ref (a0 0))]) hx hb dX10_inPools_12 rfl hl (by decide) rfl (fun ls hl => ?_)
  obtain ⟨r7, er7, hf⟩ := bnd hf
  refine lp_W (P := fun z => ∀ (H : Heap) (locs : List Loc) (ls : Array Slot), va_P g.1 vwCl (wX10 a0 g v0_papers v0_raw v0_kind v0_figure v0_heavy v0_place v0_rules v0_lower v0_upper v0_limits v0_limit v0_ties v0_letter v0_letters v0_told v0_tolds v0_places v0_cell v0_refusals v0_imaged v0_hasImage v0_before x2.1 x2.2.1 x2.2.2.1 v0_numberUp v0_numberDown v0_block v0_blocks v0_merged x2.2.2.2.1 x2.2.2.2.2 v0_said v0_saids v0_at v0_number) H → va_D A (wX10 a0 g v0_papers v0_raw v0_kind v0_figure v0_heavy v0_place v0_rules v0_lower v0_upper v0_limits v0_limit v0_ties v0_letter v0_letters v0_told v0_tolds v0_places v0_cell v0_refusals v0_imaged v0_hasImage v0_before x2.1 x2.2.1 x2.2.2.1 v0_numberUp v0_numberDown v0_block v0_blocks v0_merged x2.2.2.2.1 x2.2.2.2.2 v0_said v0_saids v0_at v0_number) → va_S A s.heap H locs → lv_has ls 3 [(0, .ref (a0 0)), (1, .int z.1), (2, .int z.2)] → W p l e { frames := 7, cells := 0, slots := 0, locals := 161 } s m [.ref (a0 0)].toArray below meth c H locs 0 0 (MQ below (Qi g .int (m_X10_inPools (v0_papers, v0_raw, v0_kind, v0_figure, v0_heavy, v0_place, v0_rules, v0_lower, v0_upper, v0_limits, v0_limit, v0_ties, v0_letter, v0_letters, v0_told, v0_tolds, v0_places, v0_cell, v0_refusals, v0_imaged, v0_hasImage, v0_before, v0_up, v0_down, v0_beneath, v0_numberUp, v0_numberDown, v0_block, v0_blocks, v0_merged, v0_valueUp, v0_valueDown, v0_said, v0_saids, v0_at, v0_number)) (fun u => u.1) (fun u => wX10 a0 g v0_papers v0_raw v0_kind v0_figure v0_heavy v0_place v0_rules v0_lower v0_upper v0_limits v0_limit v0_ties v0_letter v0_letters v0_told v0_tolds v0_places v0_cell v0_refusals v0_imaged v0_hasImage v0_before u.2.1 u.2.2.1 u.2.2.2.1 v0_numberUp v0_numberDown v0_block v0_blocks v0_merged u.2.2.2.2.1 u.2.2.2.2.2 v0_said v0_saids v0_at v0_number) A) [.ref (a0 0)].toArray s 0 0 A) (F0 m 13 ls [])) (E := fun r7 => ∀ (H : Heap) (locs : List Loc) (ls : Array Slot), va_P g.1 vwCl (wX10 a0 g v0_papers v0_raw v0_kind v0_figure v0_heavy v0_place v0_rules v0_lower v0_upper v0_limits v0_limit v0_ties v0_letter v0_letters v0_told v0_tolds v0_places v0_cell v0_refusals v0_imaged v0_hasImage v0_before x2.1 x2.2.1 x2.2.2.1 v0_numberUp v0_numberDown v0_block v0_blocks v0_merged x2.2.2.2.1 x2.2.2.2.2 v0_said v0_saids v0_at v0_number) H → va_D A (wX10 a0 g v0_papers v0_raw v0_kind v0_figure v0_heavy v0_place v0_rules v0_lower v0_upper v0_limits v0_limit v0_ties v0_letter v0_letters v0_told v0_tolds v0_places v0_cell v0_refusals v0_imaged v0_hasImage v0_before x2.1 x2.2.1 x2.2.2.1 v0_numberUp v0_numberDown v0_block v0_blocks v0_merged x2.2.2.2.1 x2.2.2.2.2 v0_said v0_saids v0_at v0_number) → va_S A s.heap H locs → lv_has ls 3 [(1, .int r7)] → W p l e { frames := 7, cells := 0, slots := 0, locals := 161 } s m [.ref (a0 0)].toArray below meth c H locs 0 0 (MQ below (Qi g .int (m_X10_inPools (v0_papers, v0_raw, v0_kind, v0_figure, v0_heavy, v0_place, v0_rules, v0_lower, v0_upper, v0_limits, v0_limit, v0_ties, v0_letter, v0_letters, v0_told, v0_tolds, v0_places, v0_cell, v0_refusals, v0_imaged, v0_hasImage, v0_before, v0_up, v0_down, v0_beneath, v0_numberUp, v0_numberDown, v0_block, v0_blocks, v0_merged, v0_valueUp, v0_valueDown, v0_said, v0_saids, v0_at, v0_number)) (fun u => u.1) (fun u => wX10 a0 g v0_papers v0_raw v0_kind v0_figure v0_heavy v0_place v0_rules v0_lower v0_upper v0_limits v0_limit v0_ties v0_letter v0_letters v0_told v0_tolds v0_places v0_cell v0_refusals v0_imaged v0_hasImage v0_before u.2.1 u.2.2.1 u.2.2.2.1 v0_numberUp v0_numberDown v0_block v0_blocks v0_merged u.2.2.2.2.1 u.2.2.2.2.2 v0_said v0_saids v0_at v0_number) A) [.ref (a0 0)].toArray s 0 0 A) (F0 m 46 ls [])) ?_ fu _ r7 er7 ?_ _ _ _ hP hD hS (lv_sub hl [2, 1, 0] rfl)
  · rintro ⟨x4, x5⟩ y hf hB hXt H locs ls hP hD hS hl
    have hP : va_P g.1 vwCl (wX10 a0 g v0_papers v0_raw v0_kind v0_figure v0_heavy v0_place v0_rules v0_lower v0_upper v0_limits v0_limit v0_ties v0_letter v0_letters v0_told v0_tolds v0_places v0_cell v0_refusals v0_imaged v0_hasImage v0_before x2.1 x2.2.1 x2.2.2.1 v0_numberUp v0_numberDown v0_block v0_blocks v0_merged x2.2.2.2.1 x2.2.2.2.2 v0_said v0_saids v0_at v0_number) H := hP
    have hD : va_D A (wX10 a0 g v0_papers v0_raw v0_kind v0_figure v0_heavy v0_place v0_rules v0_lower v0_upper v0_limits v0_limit v0_ties v0_letter v0_letters v0_told v0_tolds v0_places v0_cell v0_refusals v0_imaged v0_hasImage v0_before x2.1 x2.2.1 x2.2.2.1 v0_numberUp v0_numberDown v0_block v0_blocks v0_merged x2.2.2.2.1 x2.2.2.2.2 v0_said v0_saids v0_at v0_number) := hD
    have hl : lv_has ls 3 [(0, .ref (a0 0)), (1, .int x4), (2, .int x5)] := hl
    have hf : m_X10_inPools_l13 (v0_papers, v0_raw, v0_kind, v0_figure, v0_heavy, v0_place, v0_rules, v0_lower, v0_upper, v0_limits, v0_limit, v0_ties, v0_letter, v0_letters, v0_told, v0_tolds, v0_places, v0_cell, v0_refusals, v0_imaged, v0_hasImage, v0_before, v0_up, v0_down, v0_beneath, v0_numberUp, v0_numberDown, v0_block, v0_blocks, v0_merged, v0_valueUp, v0_valueDown, v0_said, v0_saids, v0_at, v0_number) x2 x4 x5 = some y := hf
    unfold m_X10_inPools_l13 at hf
    refine lv_iload_n hx hb dX10_inPools_13 rfl (lv_at hl 2 rfl) ?_
    refine lv_aload_n hx hb dX10_inPools_14 rfl (lv_at hl 0 rfl) ?_
    refine va_get (D := g.1) (ci := 11) (v := .int v0_papers) (C := RX10) (T := TX10) (N := 36) hx hb hts layX10 hown hK.1 hP 0 rfl rfl 0 (by decide) (hts _ kw1277) (fun _ h9 => h9) rfl dX10_inPools_15 ?_
    refine lv_icmp_ge (tgt := 46) hx hb dX10_inPools_18 (by decide) (fun cb => ?_) (fun cb => ?_)
    · have hf := it_t cb hf
      exact hXt _ (Option.some.inj hf).symm _ _ _ hP hD hS (lv_sub hl [1] rfl)
    have hf := it_f cb hf
    refine lv_iload_n hx hb dX10_inPools_21 rfl (lv_at hl 1 rfl) ?_
    refine lv_aload_n hx hb dX10_inPools_22 rfl (lv_at hl 0 rfl) ?_
    refine lv_iload_n hx hb dX10_inPools_23 rfl (lv_at hl 2 rfl) ?_
    refine cIp hP hD hS hA hE (fun hPc hDc hSc => rV (As := [.int x5]) (rest := [.int x4]) hx hb hml hown hts hK (c_X10_poolOf l g a0 v0_papers v0_raw v0_kind v0_figure v0_heavy v0_place v0_rules v0_lower v0_upper v0_limits v0_limit v0_ties v0_letter v0_letters v0_told v0_tolds v0_places v0_cell v0_refusals v0_imaged v0_hasImage v0_before x2.1 x2.2.1 x2.2.2.1 v0_numberUp v0_numberDown v0_block v0_blocks v0_merged x2.2.2.2.1 x2.2.2.2.2 v0_said v0_saids v0_at v0_number x5 (bnd_ne hf)) svV_X10_poolOf kw1600 rfl rfl hPc hDc hSc rfl rfl hl.1 (Nat.le_of_ble_eq_true rfl) dX10_inPools_24 ⟨Nat.le_of_ble_eq_true rfl, Nat.le_of_ble_eq_true rfl, rfl, rfl, Nat.le_of_ble_eq_true rfl, Nat.le_of_ble_eq_true rfl⟩) [(0, 22)] rfl rfl rfl (fun x6 H locs ex6 nx6 hP hS => ?_)
    have hf := bnd_of hf ex6
    refine lv_iconst (v := 1) hx hb dX10_inPools_27 (by decide) ?_
    refine lv_iload_n hx hb dX10_inPools_28 rfl (lv_at hl 2 rfl) ?_
    refine lv_ishl hx hb dX10_inPools_29 ?_
    refine lv_icmp_eq (tgt := 37) hx hb dX10_inPools_30 (by decide) (fun cb => ?_) (fun cb => ?_)
    · have hf := it_t cb hf
      refine lv_iconst (v := 0) hx hb dX10_inPools_37 (by decide) ?_
      refine lv_iadd hx hb dX10_inPools_38 ?_
      refine lv_istore_n (lv' := [(1, .int (x4 + (0 : Int32))), (0, .ref (a0 0)), (2, .int x5)]) hx hb dX10_inPools_39 rfl hl (by decide) rfl (fun ls hl => ?_)
      refine lv_iinc (v := (x5 + 1)) (lv' := [(2, .int (x5 + 1)), (1, .int (x4 + (0 : Int32))), (0, .ref (a0 0))]) hx hb dX10_inPools_40 hl (k := 2) rfl (by rfl) (by decide) rfl (fun ls hl => ?_)
      refine lv_goto (tgt := 13) hx hb dX10_inPools_43 (by decide) ?_
      exact hB _ (Option.some.inj hf).symm _ _ _ hP hD hS (lv_sub hl [2, 1, 0] rfl)
    have hf := it_f cb hf
    refine lv_iconst (v := 1) hx hb dX10_inPools_33 (by decide) ?_
    refine lv_goto (tgt := 38) hx hb dX10_inPools_34 (by decide) ?_
    refine lv_iadd hx hb dX10_inPools_38 ?_
    refine lv_istore_n (lv' := [(1, .int (x4 + (1 : Int32))), (0, .ref (a0 0)), (2, .int x5)]) hx hb dX10_inPools_39 rfl hl (by decide) rfl (fun ls hl => ?_)
    refine lv_iinc (v := (x5 + 1)) (lv' := [(2, .int (x5 + 1)), (1, .int (x4 + (1 : Int32))), (0, .ref (a0 0))]) hx hb dX10_inPools_40 hl (k := 2) rfl (by rfl) (by decide) rfl (fun ls hl => ?_)
    refine lv_goto (tgt := 13) hx hb dX10_inPools_43 (by decide) ?_
    exact hB _ (Option.some.inj hf).symm _ _ _ hP hD hS (lv_sub hl [2, 1, 0] rfl)
  intro H locs ls hP hD hS hl
  have hP : va_P g.1 vwCl (wX10 a0 g v0_papers v0_raw v0_kind v0_figure v0_heavy v0_place v0_rules v0_lower v0_upper v0_limits v0_limit v0_ties v0_letter v0_letters v0_told v0_tolds v0_places v0_cell v0_refusals v0_imaged v0_hasImage v0_before x2.1 x2.2.1 x2.2.2.1 v0_numberUp v0_numberDown v0_block v0_blocks v0_merged x2.2.2.2.1 x2.2.2.2.2 v0_said v0_saids v0_at v0_number) H := hP
  have hD : va_D A (wX10 a0 g v0_papers v0_raw v0_kind v0_figure v0_heavy v0_place v0_rules v0_lower v0_upper v0_limits v0_limit v0_ties v0_letter v0_letters v0_told v0_tolds v0_places v0_cell v0_refusals v0_imaged v0_hasImage v0_before x2.1 x2.2.1 x2.2.2.1 v0_numberUp v0_numberDown v0_block v0_blocks v0_merged x2.2.2.2.1 x2.2.2.2.2 v0_said v0_saids v0_at v0_number) := hD
  have hl : lv_has ls 3 [(1, .int r7)] := hl
  refine lv_iload_n hx hb dX10_inPools_46 rfl (lv_at hl 0 rfl) ?_
  exact retI (v := r7) (u := (r7, x2.1, x2.2.1, x2.2.2.1, x2.2.2.2.1, x2.2.2.2.2)) (val := fun u => u.1) (W1 := fun u => wX10 a0 g v0_papers v0_raw v0_kind v0_figure v0_heavy v0_place v0_rules v0_lower v0_upper v0_limits v0_limit v0_ties v0_letter v0_letters v0_told v0_tolds v0_places v0_cell v0_refusals v0_imaged v0_hasImage v0_before u.2.1 u.2.2.1 u.2.2.2.1 v0_numberUp v0_numberDown v0_block v0_blocks v0_merged u.2.2.2.2.1 u.2.2.2.2.2 v0_said v0_saids v0_at v0_number) hx hb hr hlocks hS hP hD (hf0.trans hf.symm) rfl rfl dX10_inPools_47
