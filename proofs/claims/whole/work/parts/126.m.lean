theorem svV_X10_say : SV RX10 yX10_say cX10_say 2 none 1 := ⟨kw1639, kw1883, kw16, kw1640, rfl, by decide, by decide, by decide +kernel⟩
theorem svV_X10_sayNumber : SV RX10 yX10_sayNumber cX10_sayNumber 5 none 1 := ⟨kw1634, kw1882, kw16, kw1635, rfl, by decide, by decide, by decide +kernel⟩
theorem svV_X10_sayWord : SV RX10 yX10_sayWord cX10_sayWord 3 none 1 := ⟨kw1645, kw1885, kw16, kw1646, rfl, by decide, by decide, by decide +kernel⟩
theorem dX10_likely_0 : decode cX10_likely 0 = .ok (.iload_n 1, 1) := by decide +kernel
theorem dX10_likely_1 : decode cX10_likely 1 = .ok (.invokestatic 287, 3) := by decide +kernel
theorem dX10_likely_4 : decode cX10_likely 4 = .ok (.ifCond .ne 10, 3) := by decide +kernel
theorem dX10_likely_14 : decode cX10_likely 14 = .ok (.aload_n 0, 1) := by decide +kernel
theorem dX10_likely_15 : decode cX10_likely 15 = .ok (.iload_n 2, 1) := by decide +kernel
theorem dX10_likely_16 : decode cX10_likely 16 = .ok (.invokevirtual 122, 3) := by decide +kernel
theorem dX10_likely_19 : decode cX10_likely 19 = .ok (.ifCond .ne 9, 3) := by decide +kernel
theorem dX10_likely_28 : decode cX10_likely 28 = .ok (.iload_n 3, 1) := by decide +kernel
theorem dX10_likely_29 : decode cX10_likely 29 = .ok (.iconst 2, 1) := by decide +kernel
theorem dX10_likely_30 : decode cX10_likely 30 = .ok (.if_icmp .ge 10, 3) := by decide +kernel
theorem dX10_likely_40 : decode cX10_likely 40 = .ok (.iload_n 3, 1) := by decide +kernel
theorem dX10_likely_41 : decode cX10_likely 41 = .ok (.bipush 20, 2) := by decide +kernel
theorem dX10_likely_43 : decode cX10_likely 43 = .ok (.if_icmp .le 10, 3) := by decide +kernel
theorem dX10_likely_53 : decode cX10_likely 53 = .ok (.iload 4, 2) := by decide +kernel
theorem dX10_likely_55 : decode cX10_likely 55 = .ok (.invokestatic 230, 3) := by decide +kernel
theorem dX10_likely_58 : decode cX10_likely 58 = .ok (.ifCond .ne 10, 3) := by decide +kernel
theorem dX10_likely_68 : decode cX10_likely 68 = .ok (.iconst 5, 1) := by decide +kernel
theorem dX10_likely_69 : decode cX10_likely 69 = .ok (.aload_n 0, 1) := by decide +kernel
theorem dX10_likely_70 : decode cX10_likely 70 = .ok (.getfield 88, 3) := by decide +kernel
theorem dX10_likely_73 : decode cX10_likely 73 = .ok (.invokestatic 112, 3) := by decide +kernel
theorem dX10_likely_76 : decode cX10_likely 76 = .ok (.istore 5, 2) := by decide +kernel
theorem dX10_likely_78 : decode cX10_likely 78 = .ok (.lconst 0, 1) := by decide +kernel
theorem dX10_likely_79 : decode cX10_likely 79 = .ok (.lstore 6, 2) := by decide +kernel
theorem dX10_likely_81 : decode cX10_likely 81 = .ok (.lconst 1, 1) := by decide +kernel
theorem dX10_likely_82 : decode cX10_likely 82 = .ok (.lstore 8, 2) := by decide +kernel
theorem dX10_likely_84 : decode cX10_likely 84 = .ok (.iconst 0, 1) := by decide +kernel
theorem dX10_likely_85 : decode cX10_likely 85 = .ok (.istore 10, 2) := by decide +kernel
theorem dX10_likely_87 : decode cX10_likely 87 = .ok (.iload 10, 2) := by decide +kernel
theorem dX10_likely_89 : decode cX10_likely 89 = .ok (.iload 5, 2) := by decide +kernel
theorem dX10_likely_91 : decode cX10_likely 91 = .ok (.if_icmp .ge 16, 3) := by decide +kernel
theorem dX10_likely_94 : decode cX10_likely 94 = .ok (.lload 8, 2) := by decide +kernel
theorem dX10_likely_96 : decode cX10_likely 96 = .ok (.iload_n 3, 1) := by decide +kernel
theorem dX10_likely_97 : decode cX10_likely 97 = .ok (.i2l, 1) := by decide +kernel
theorem dX10_likely_98 : decode cX10_likely 98 = .ok (.lmul, 1) := by decide +kernel
theorem dX10_likely_99 : decode cX10_likely 99 = .ok (.lstore 8, 2) := by decide +kernel
theorem dX10_likely_101 : decode cX10_likely 101 = .ok (.iinc 10 1, 3) := by decide +kernel
theorem dX10_likely_104 : decode cX10_likely 104 = .ok (.goto (-17), 3) := by decide +kernel
theorem dX10_likely_107 : decode cX10_likely 107 = .ok (.iconst 0, 1) := by decide +kernel
theorem dX10_likely_108 : decode cX10_likely 108 = .ok (.istore 10, 2) := by decide +kernel
theorem dX10_likely_110 : decode cX10_likely 110 = .ok (.iload 10, 2) := by decide +kernel
theorem dX10_likely_112 : decode cX10_likely 112 = .ok (.iconst 1, 1) := by decide +kernel
theorem dX10_likely_113 : decode cX10_likely 113 = .ok (.iload 5, 2) := by decide +kernel
theorem dX10_likely_115 : decode cX10_likely 115 = .ok (.ishl, 1) := by decide +kernel
theorem dX10_likely_116 : decode cX10_likely 116 = .ok (.if_icmp .ge 100, 3) := by decide +kernel
theorem dX10_likely_119 : decode cX10_likely 119 = .ok (.lconst 1, 1) := by decide +kernel
theorem dX10_likely_120 : decode cX10_likely 120 = .ok (.lstore 11, 2) := by decide +kernel
theorem dX10_likely_122 : decode cX10_likely 122 = .ok (.iconst 0, 1) := by decide +kernel
theorem dX10_likely_123 : decode cX10_likely 123 = .ok (.istore 13, 2) := by decide +kernel
theorem dX10_likely_125 : decode cX10_likely 125 = .ok (.iload 13, 2) := by decide +kernel
theorem dX10_likely_127 : decode cX10_likely 127 = .ok (.iload 5, 2) := by decide +kernel
theorem dX10_likely_129 : decode cX10_likely 129 = .ok (.if_icmp .ge 32, 3) := by decide +kernel
theorem dX10_likely_132 : decode cX10_likely 132 = .ok (.lload 11, 2) := by decide +kernel
theorem dX10_likely_134 : decode cX10_likely 134 = .ok (.iload 10, 2) := by decide +kernel
theorem dX10_likely_136 : decode cX10_likely 136 = .ok (.iload 13, 2) := by decide +kernel
theorem dX10_likely_138 : decode cX10_likely 138 = .ok (.invokestatic 130, 3) := by decide +kernel
theorem dX10_likely_141 : decode cX10_likely 141 = .ok (.ifCond .eq 7, 3) := by decide +kernel
theorem dX10_likely_148 : decode cX10_likely 148 = .ok (.iload_n 3, 1) := by decide +kernel
theorem dX10_likely_149 : decode cX10_likely 149 = .ok (.iconst 1, 1) := by decide +kernel
theorem dX10_likely_150 : decode cX10_likely 150 = .ok (.isub, 1) := by decide +kernel
theorem dX10_likely_151 : decode cX10_likely 151 = .ok (.i2l, 1) := by decide +kernel
theorem dX10_likely_152 : decode cX10_likely 152 = .ok (.lmul, 1) := by decide +kernel
theorem dX10_likely_153 : decode cX10_likely 153 = .ok (.lstore 11, 2) := by decide +kernel
theorem dX10_likely_155 : decode cX10_likely 155 = .ok (.iinc 13 1, 3) := by decide +kernel
theorem dX10_likely_158 : decode cX10_likely 158 = .ok (.goto (-33), 3) := by decide +kernel
theorem dX10_likely_144 : decode cX10_likely 144 = .ok (.lconst 1, 1) := by decide +kernel
theorem dX10_likely_145 : decode cX10_likely 145 = .ok (.goto 7, 3) := by decide +kernel
theorem dX10_likely_161 : decode cX10_likely 161 = .ok (.aload_n 0, 1) := by decide +kernel
theorem dX10_likely_162 : decode cX10_likely 162 = .ok (.iload_n 1, 1) := by decide +kernel
theorem dX10_likely_163 : decode cX10_likely 163 = .ok (.aload_n 0, 1) := by decide +kernel
theorem dX10_likely_164 : decode cX10_likely 164 = .ok (.invokevirtual 134, 3) := by decide +kernel
theorem dX10_likely_167 : decode cX10_likely 167 = .ok (.iload 10, 2) := by decide +kernel
theorem dX10_likely_169 : decode cX10_likely 169 = .ok (.iconst (-1), 1) := by decide +kernel
theorem dX10_likely_170 : decode cX10_likely 170 = .ok (.ixor, 1) := by decide +kernel
theorem dX10_likely_171 : decode cX10_likely 171 = .ok (.iand, 1) := by decide +kernel
theorem dX10_likely_172 : decode cX10_likely 172 = .ok (.invokevirtual 282, 3) := by decide +kernel
theorem dX10_likely_175 : decode cX10_likely 175 = .ok (.lload 6, 2) := by decide +kernel
theorem dX10_likely_177 : decode cX10_likely 177 = .ok (.aload_n 0, 1) := by decide +kernel
theorem dX10_likely_178 : decode cX10_likely 178 = .ok (.getfield 62, 3) := by decide +kernel
theorem dX10_likely_181 : decode cX10_likely 181 = .ok (.iload_n 2, 1) := by decide +kernel
theorem dX10_likely_182 : decode cX10_likely 182 = .ok (.iaload, 1) := by decide +kernel
theorem dX10_likely_183 : decode cX10_likely 183 = .ok (.aload_n 0, 1) := by decide +kernel
theorem dX10_likely_184 : decode cX10_likely 184 = .ok (.iload_n 2, 1) := by decide +kernel
theorem dX10_likely_185 : decode cX10_likely 185 = .ok (.invokevirtual 151, 3) := by decide +kernel
theorem dX10_likely_188 : decode cX10_likely 188 = .ok (.if_icmp .ne 18, 3) := by decide +kernel
theorem dX10_likely_206 : decode cX10_likely 206 = .ok (.lconst 0, 1) := by decide +kernel
theorem dX10_likely_207 : decode cX10_likely 207 = .ok (.ladd, 1) := by decide +kernel
theorem dX10_likely_208 : decode cX10_likely 208 = .ok (.lstore 6, 2) := by decide +kernel
theorem dX10_likely_210 : decode cX10_likely 210 = .ok (.iinc 10 1, 3) := by decide +kernel
theorem dX10_likely_213 : decode cX10_likely 213 = .ok (.goto (-103), 3) := by decide +kernel
theorem dX10_likely_191 : decode cX10_likely 191 = .ok (.aload_n 0, 1) := by decide +kernel
theorem dX10_likely_192 : decode cX10_likely 192 = .ok (.getfield 65, 3) := by decide +kernel
theorem dX10_likely_195 : decode cX10_likely 195 = .ok (.iload_n 2, 1) := by decide +kernel
theorem dX10_likely_196 : decode cX10_likely 196 = .ok (.iaload, 1) := by decide +kernel
theorem dX10_likely_197 : decode cX10_likely 197 = .ok (.iconst 1, 1) := by decide +kernel
theorem dX10_likely_198 : decode cX10_likely 198 = .ok (.if_icmp .ne 8, 3) := by decide +kernel
theorem dX10_likely_201 : decode cX10_likely 201 = .ok (.lload 11, 2) := by decide +kernel
theorem dX10_likely_203 : decode cX10_likely 203 = .ok (.goto 4, 3) := by decide +kernel
theorem dX10_likely_216 : decode cX10_likely 216 = .ok (.aload_n 0, 1) := by decide +kernel
theorem dX10_likely_217 : decode cX10_likely 217 = .ok (.lload 6, 2) := by decide +kernel
theorem dX10_likely_219 : decode cX10_likely 219 = .ok (.lload 8, 2) := by decide +kernel
theorem dX10_likely_221 : decode cX10_likely 221 = .ok (.invokevirtual 102, 3) := by decide +kernel
theorem dX10_likely_224 : decode cX10_likely 224 = .ok (.aload_n 0, 1) := by decide +kernel
theorem dX10_likely_225 : decode cX10_likely 225 = .ok (.iload 4, 2) := by decide +kernel
theorem dX10_likely_227 : decode cX10_likely 227 = .ok (.invokevirtual 239, 3) := by decide +kernel
theorem dX10_likely_230 : decode cX10_likely 230 = .ok (.lreturn, 1) := by decide +kernel
theorem dX10_likely_61 : decode cX10_likely 61 = .ok (.aload_n 0, 1) := by decide +kernel
theorem dX10_likely_62 : decode cX10_likely 62 = .ok (.bipush (-2), 2) := by decide +kernel
theorem dX10_likely_64 : decode cX10_likely 64 = .ok (.invokevirtual 226, 3) := by decide +kernel
theorem dX10_likely_67 : decode cX10_likely 67 = .ok (.lreturn, 1) := by decide +kernel
theorem dX10_likely_46 : decode cX10_likely 46 = .ok (.aload_n 0, 1) := by decide +kernel
theorem dX10_likely_47 : decode cX10_likely 47 = .ok (.bipush (-6), 2) := by decide +kernel
theorem dX10_likely_49 : decode cX10_likely 49 = .ok (.invokevirtual 226, 3) := by decide +kernel
theorem dX10_likely_52 : decode cX10_likely 52 = .ok (.lreturn, 1) := by decide +kernel
theorem dX10_likely_33 : decode cX10_likely 33 = .ok (.aload_n 0, 1) := by decide +kernel
theorem dX10_likely_34 : decode cX10_likely 34 = .ok (.bipush (-4), 2) := by decide +kernel
theorem dX10_likely_36 : decode cX10_likely 36 = .ok (.invokevirtual 226, 3) := by decide +kernel
theorem dX10_likely_39 : decode cX10_likely 39 = .ok (.lreturn, 1) := by decide +kernel
theorem dX10_likely_22 : decode cX10_likely 22 = .ok (.aload_n 0, 1) := by decide +kernel
theorem dX10_likely_23 : decode cX10_likely 23 = .ok (.iconst (-1), 1) := by decide +kernel
theorem dX10_likely_24 : decode cX10_likely 24 = .ok (.invokevirtual 226, 3) := by decide +kernel
theorem dX10_likely_27 : decode cX10_likely 27 = .ok (.lreturn, 1) := by decide +kernel
theorem dX10_likely_7 : decode cX10_likely 7 = .ok (.aload_n 0, 1) := by decide +kernel
theorem dX10_likely_8 : decode cX10_likely 8 = .ok (.bipush (-2), 2) := by decide +kernel
theorem dX10_likely_10 : decode cX10_likely 10 = .ok (.invokevirtual 226, 3) := by decide +kernel
theorem dX10_likely_13 : decode cX10_likely 13 = .ok (.lreturn, 1) := by decide +kernel
theorem dX10_say_0 : decode cX10_say 0 = .ok (.aload_n 0, 1) := by decide +kernel
theorem dX10_say_1 : decode cX10_say 1 = .ok (.getfield 68, 3) := by decide +kernel
theorem dX10_say_4 : decode cX10_say 4 = .ok (.aload_n 0, 1) := by decide +kernel
theorem dX10_say_5 : decode cX10_say 5 = .ok (.getfield 302, 3) := by decide +kernel
theorem dX10_say_8 : decode cX10_say 8 = .ok (.iload_n 1, 1) := by decide +kernel
theorem dX10_say_9 : decode cX10_say 9 = .ok (.iastore, 1) := by decide +kernel
theorem dX10_say_10 : decode cX10_say 10 = .ok (.aload_n 0, 1) := by decide +kernel
theorem dX10_say_11 : decode cX10_say 11 = .ok (.dup, 1) := by decide +kernel
theorem dX10_say_12 : decode cX10_say 12 = .ok (.getfield 302, 3) := by decide +kernel
theorem dX10_say_15 : decode cX10_say 15 = .ok (.iconst 1, 1) := by decide +kernel
theorem dX10_say_16 : decode cX10_say 16 = .ok (.iadd, 1) := by decide +kernel
theorem dX10_say_17 : decode cX10_say 17 = .ok (.putfield 302, 3) := by decide +kernel
theorem dX10_say_20 : decode cX10_say 20 = .ok (.return_, 1) := by decide +kernel
theorem dX10_sayNumber_0 : decode cX10_sayNumber 0 = .ok (.lconst 1, 1) := by decide +kernel
theorem dX10_sayNumber_1 : decode cX10_sayNumber 1 = .ok (.lstore_n 3, 1) := by decide +kernel
theorem dX10_sayNumber_2 : decode cX10_sayNumber 2 = .ok (.lload_n 1, 1) := by decide +kernel
theorem dX10_sayNumber_3 : decode cX10_sayNumber 3 = .ok (.lload_n 3, 1) := by decide +kernel
theorem dX10_sayNumber_4 : decode cX10_sayNumber 4 = .ok (.ldiv, 1) := by decide +kernel
theorem dX10_sayNumber_5 : decode cX10_sayNumber 5 = .ok (.ldc2_w 305, 3) := by decide +kernel
theorem dX10_sayNumber_8 : decode cX10_sayNumber 8 = .ok (.lcmp, 1) := by decide +kernel
theorem dX10_sayNumber_9 : decode cX10_sayNumber 9 = .ok (.ifCond .le 12, 3) := by decide +kernel
theorem dX10_sayNumber_12 : decode cX10_sayNumber 12 = .ok (.lload_n 3, 1) := by decide +kernel
theorem dX10_sayNumber_13 : decode cX10_sayNumber 13 = .ok (.ldc2_w 307, 3) := by decide +kernel
theorem dX10_sayNumber_16 : decode cX10_sayNumber 16 = .ok (.lmul, 1) := by decide +kernel
theorem dX10_sayNumber_17 : decode cX10_sayNumber 17 = .ok (.lstore_n 3, 1) := by decide +kernel
theorem dX10_sayNumber_18 : decode cX10_sayNumber 18 = .ok (.goto (-16), 3) := by decide +kernel
theorem dX10_sayNumber_21 : decode cX10_sayNumber 21 = .ok (.lload_n 3, 1) := by decide +kernel
theorem dX10_sayNumber_22 : decode cX10_sayNumber 22 = .ok (.lconst 0, 1) := by decide +kernel
theorem dX10_sayNumber_23 : decode cX10_sayNumber 23 = .ok (.lcmp, 1) := by decide +kernel
theorem dX10_sayNumber_24 : decode cX10_sayNumber 24 = .ok (.ifCond .le 27, 3) := by decide +kernel
theorem dX10_sayNumber_27 : decode cX10_sayNumber 27 = .ok (.aload_n 0, 1) := by decide +kernel
theorem dX10_sayNumber_28 : decode cX10_sayNumber 28 = .ok (.bipush 48, 2) := by decide +kernel
theorem dX10_sayNumber_30 : decode cX10_sayNumber 30 = .ok (.lload_n 1, 1) := by decide +kernel
theorem dX10_sayNumber_31 : decode cX10_sayNumber 31 = .ok (.lload_n 3, 1) := by decide +kernel
theorem dX10_sayNumber_32 : decode cX10_sayNumber 32 = .ok (.ldiv, 1) := by decide +kernel
theorem dX10_sayNumber_33 : decode cX10_sayNumber 33 = .ok (.ldc2_w 307, 3) := by decide +kernel
theorem dX10_sayNumber_36 : decode cX10_sayNumber 36 = .ok (.lrem, 1) := by decide +kernel
theorem dX10_sayNumber_37 : decode cX10_sayNumber 37 = .ok (.l2i, 1) := by decide +kernel
theorem dX10_sayNumber_38 : decode cX10_sayNumber 38 = .ok (.iadd, 1) := by decide +kernel
theorem dX10_sayNumber_39 : decode cX10_sayNumber 39 = .ok (.invokevirtual 309, 3) := by decide +kernel
theorem dX10_sayNumber_42 : decode cX10_sayNumber 42 = .ok (.lload_n 3, 1) := by decide +kernel
theorem dX10_sayNumber_43 : decode cX10_sayNumber 43 = .ok (.ldc2_w 307, 3) := by decide +kernel
theorem dX10_sayNumber_46 : decode cX10_sayNumber 46 = .ok (.ldiv, 1) := by decide +kernel
theorem dX10_sayNumber_47 : decode cX10_sayNumber 47 = .ok (.lstore_n 3, 1) := by decide +kernel
theorem dX10_sayNumber_48 : decode cX10_sayNumber 48 = .ok (.goto (-27), 3) := by decide +kernel
theorem dX10_sayNumber_51 : decode cX10_sayNumber 51 = .ok (.return_, 1) := by decide +kernel
theorem dX10_sayWord_0 : decode cX10_sayWord 0 = .ok (.iconst 0, 1) := by decide +kernel
theorem dX10_sayWord_1 : decode cX10_sayWord 1 = .ok (.istore_n 2, 1) := by decide +kernel
theorem dX10_sayWord_2 : decode cX10_sayWord 2 = .ok (.iload_n 2, 1) := by decide +kernel
theorem dX10_sayWord_3 : decode cX10_sayWord 3 = .ok (.aload_n 1, 1) := by decide +kernel
theorem dX10_sayWord_4 : decode cX10_sayWord 4 = .ok (.invokevirtual 312, 3) := by decide +kernel
theorem dX10_sayWord_7 : decode cX10_sayWord 7 = .ok (.if_icmp .ge 18, 3) := by decide +kernel
theorem dX10_sayWord_10 : decode cX10_sayWord 10 = .ok (.aload_n 0, 1) := by decide +kernel
theorem dX10_sayWord_11 : decode cX10_sayWord 11 = .ok (.aload_n 1, 1) := by decide +kernel
theorem dX10_sayWord_12 : decode cX10_sayWord 12 = .ok (.iload_n 2, 1) := by decide +kernel
theorem dX10_sayWord_13 : decode cX10_sayWord 13 = .ok (.invokevirtual 317, 3) := by decide +kernel
theorem dX10_sayWord_16 : decode cX10_sayWord 16 = .ok (.invokevirtual 309, 3) := by decide +kernel
theorem dX10_sayWord_19 : decode cX10_sayWord 19 = .ok (.iinc 2 1, 3) := by decide +kernel
theorem dX10_sayWord_22 : decode cX10_sayWord 22 = .ok (.goto (-20), 3) := by decide +kernel
theorem dX10_sayWord_25 : decode cX10_sayWord 25 = .ok (.return_, 1) := by decide +kernel
theorem dX10_sayOthers_0 : decode cX10_sayOthers 0 = .ok (.iload_n 1, 1) := by decide +kernel
theorem dX10_sayOthers_1 : decode cX10_sayOthers 1 = .ok (.ifCond .ne 4, 3) := by decide +kernel
theorem dX10_sayOthers_5 : decode cX10_sayOthers 5 = .ok (.aload_n 0, 1) := by decide +kernel
theorem dX10_sayOthers_6 : decode cX10_sayOthers 6 = .ok (.ldc_w 328, 3) := by decide +kernel
theorem dX10_sayOthers_9 : decode cX10_sayOthers 9 = .ok (.invokevirtual 330, 3) := by decide +kernel
theorem dX10_sayOthers_12 : decode cX10_sayOthers 12 = .ok (.iconst 1, 1) := by decide +kernel
theorem dX10_sayOthers_13 : decode cX10_sayOthers 13 = .ok (.istore_n 2, 1) := by decide +kernel
theorem dX10_sayOthers_14 : decode cX10_sayOthers 14 = .ok (.iconst 0, 1) := by decide +kernel
theorem dX10_sayOthers_15 : decode cX10_sayOthers 15 = .ok (.istore_n 3, 1) := by decide +kernel
theorem dX10_sayOthers_16 : decode cX10_sayOthers 16 = .ok (.iload_n 3, 1) := by decide +kernel
theorem dX10_sayOthers_17 : decode cX10_sayOthers 17 = .ok (.aload_n 0, 1) := by decide +kernel
theorem dX10_sayOthers_18 : decode cX10_sayOthers 18 = .ok (.getfield 80, 3) := by decide +kernel
theorem dX10_sayOthers_21 : decode cX10_sayOthers 21 = .ok (.if_icmp .ge 35, 3) := by decide +kernel
theorem dX10_sayOthers_24 : decode cX10_sayOthers 24 = .ok (.iload_n 1, 1) := by decide +kernel
theorem dX10_sayOthers_25 : decode cX10_sayOthers 25 = .ok (.iload_n 3, 1) := by decide +kernel
theorem dX10_sayOthers_26 : decode cX10_sayOthers 26 = .ok (.invokestatic 130, 3) := by decide +kernel
theorem dX10_sayOthers_29 : decode cX10_sayOthers 29 = .ok (.ifCond .eq 21, 3) := by decide +kernel
theorem dX10_sayOthers_50 : decode cX10_sayOthers 50 = .ok (.iinc 3 1, 3) := by decide +kernel
theorem dX10_sayOthers_53 : decode cX10_sayOthers 53 = .ok (.goto (-37), 3) := by decide +kernel
theorem dX10_sayOthers_32 : decode cX10_sayOthers 32 = .ok (.iload_n 2, 1) := by decide +kernel
theorem dX10_sayOthers_42 : decode cX10_sayOthers 42 = .ok (.aload_n 0, 1) := by decide +kernel
theorem dX10_sayOthers_43 : decode cX10_sayOthers 43 = .ok (.iload_n 3, 1) := by decide +kernel
theorem dX10_sayOthers_44 : decode cX10_sayOthers 44 = .ok (.i2l, 1) := by decide +kernel
theorem dX10_sayOthers_45 : decode cX10_sayOthers 45 = .ok (.invokevirtual 321, 3) := by decide +kernel
theorem dX10_sayOthers_48 : decode cX10_sayOthers 48 = .ok (.iconst 0, 1) := by decide +kernel
theorem dX10_sayOthers_49 : decode cX10_sayOthers 49 = .ok (.istore_n 2, 1) := by decide +kernel
theorem dX10_sayOthers_33 : decode cX10_sayOthers 33 = .ok (.ifCond .ne 9, 3) := by decide +kernel
theorem dX10_sayOthers_36 : decode cX10_sayOthers 36 = .ok (.aload_n 0, 1) := by decide +kernel
theorem dX10_sayOthers_37 : decode cX10_sayOthers 37 = .ok (.bipush 44, 2) := by decide +kernel
theorem dX10_sayOthers_39 : decode cX10_sayOthers 39 = .ok (.invokevirtual 309, 3) := by decide +kernel
theorem dX10_sayOthers_56 : decode cX10_sayOthers 56 = .ok (.return_, 1) := by decide +kernel
theorem dX10_sayOthers_4 : decode cX10_sayOthers 4 = .ok (.return_, 1) := by decide +kernel
set_option maxHeartbeats 4000000 in
set_option maxRecDepth 100000 in
theorem c_X10_likely (l : Launch) (g : GG) (a0 : Nat → Nat) (v0_papers : Int32) (v0_raw : (Nat → Int32)) (v0_kind : (Nat → Int32)) (v0_figure : (Nat → Int32)) (v0_heavy : (Nat → Int32)) (v0_place : (Nat → Int32)) (v0_rules : Int32) (v0_lower : (Nat → Int32)) (v0_upper : (Nat → Int32)) (v0_limits : Int32) (v0_limit : (Nat → Int32)) (v0_ties : Int32) (v0_letter : (Nat → Int32)) (v0_letters : Int32) (v0_told : (Nat → Int32)) (v0_tolds : Int32) (v0_places : (Nat → Int32)) (v0_cell : (Nat → Int64)) (v0_refusals : (Nat → Int32)) (v0_imaged : (Nat → Int32)) (v0_hasImage : Int32) (v0_before : (Nat → Int32)) (v0_up : Int64) (v0_down : Int64) (v0_beneath : (Nat → Int32)) (v0_numberUp : Int32) (v0_numberDown : Int32) (v0_block : (Nat → Int32)) (v0_blocks : Int32) (v0_merged : Int32) (v0_valueUp : (Nat → Int32)) (v0_valueDown : (Nat → Int32)) (v0_said : (Nat → Int32)) (v0_saids : Int32) (v0_at : Int32) (v0_number : (Nat → Int32)) (p1 : Int32) (p2 : Int32) (p3 : Int32) (p4 : Int32) (hne : (m_X10_likely (v0_papers, v0_raw, v0_kind, v0_figure, v0_heavy, v0_place, v0_rules, v0_lower, v0_upper, v0_limits, v0_limit, v0_ties, v0_letter, v0_letters, v0_told, v0_tolds, v0_places, v0_cell, v0_refusals, v0_imaged, v0_hasImage, v0_before, v0_up, v0_down, v0_beneath, v0_numberUp, v0_numberDown, v0_block, v0_blocks, v0_merged, v0_valueUp, v0_valueDown, v0_said, v0_saids, v0_at, v0_number) p1 p2 p3 p4) ≠ none) : Ct l g yX10_likely cX10_likely 14 (some .long) ({ frames := 7, cells := 0, slots := 0, locals := 161 } : Room) [.ref (a0 0), .int p1, .int p2, .int p3, .int p4] (wX10 a0 g v0_papers v0_raw v0_kind v0_figure v0_heavy v0_place v0_rules v0_lower v0_upper v0_limits v0_limit v0_ties v0_letter v0_letters v0_told v0_tolds v0_places v0_cell v0_refusals v0_imaged v0_hasImage v0_before v0_up v0_down v0_beneath v0_numberUp v0_numberDown v0_block v0_blocks v0_merged v0_valueUp v0_valueDown v0_said v0_saids v0_at v0_number) (Ql g (m_X10_likely (v0_papers, v0_raw, v0_kind, v0_figure, v0_heavy, v0_place, v0_rules, v0_lower, v0_upper, v0_limits, v0_limit, v0_ties, v0_letter, v0_letters, v0_told, v0_tolds, v0_places, v0_cell, v0_refusals, v0_imaged, v0_hasImage, v0_before, v0_up, v0_down, v0_beneath, v0_numberUp, v0_numberDown, v0_block, v0_blocks, v0_merged, v0_valueUp, v0_valueDown, v0_said, v0_saids, v0_at, v0_number) p1 p2 p3 p4) (fun u => u.1) (fun u => wX10 a0 g v0_papers v0_raw v0_kind v0_figure v0_heavy v0_place v0_rules v0_lower v0_upper v0_limits v0_limit v0_ties v0_letter v0_letters v0_told v0_tolds v0_places v0_cell u.2.1 v0_imaged v0_hasImage v0_before u.2.2.1 u.2.2.2.1 u.2.2.2.2.1 v0_numberUp v0_numberDown v0_block v0_blocks v0_merged u.2.2.2.2.2.1 u.2.2.2.2.2.2 v0_said v0_saids v0_at v0_number)) 0 0 := by
  obtain ⟨out, hf⟩ := ne_ex hne
  have hf0 := hf
  refine Ct.of (own := RX10) (by decide +kernel) rfl (Nat.le_of_ble_eq_true rfl) ?_
  intro p e s m below meth c hx hb hr hml hown hts hlocks hin hK A H locs hA hP hD hS hE ls hl
  have hl : lv_has ls 14 [(0, .ref (a0 0)), (1, .int p1), (2, .int p2), (3, .int p3), (4, .int p4)] := hl
  unfold m_X10_likely at hf
  refine lv_iload_n hx hb dX10_likely_0 rfl (lv_at hl 1 rfl) ?_
  refine cIp hP hD hS hA hE (fun hPc hDc hSc => rS (As := [.int p1]) (rest := []) hx hb hml hown hts hK (c_X10_isLoss l g p1 (bnd_ne hf)) svS_X10_isLoss kw1548 hPc hDc hSc rfl rfl hl.1 (Nat.le_of_ble_eq_true rfl) dX10_likely_1 ⟨Nat.le_of_ble_eq_true rfl, Nat.le_of_ble_eq_true rfl, rfl, rfl, Nat.le_of_ble_eq_true rfl, Nat.le_of_ble_eq_true rfl⟩) [] rfl rfl rfl (fun x1 H locs ex1 nx1 hP hS => ?_)
  have hf := bnd_of hf ex1
  refine lv_if_ne (tgt := 14) hx hb dX10_likely_4 (by decide) (fun cb => ?_) (fun cb => ?_)
  · have hf := it_f cb hf
    refine lv_aload_n hx hb dX10_likely_14 rfl (lv_at hl 0 rfl) ?_
    refine lv_iload_n hx hb dX10_likely_15 rfl (lv_at hl 2 rfl) ?_
    refine cIp hP hD hS hA hE (fun hPc hDc hSc => rV (As := [.int p2]) (rest := []) hx hb hml hown hts hK (c_X10_isPaper l g a0 v0_papers v0_raw v0_kind v0_figure v0_heavy v0_place v0_rules v0_lower v0_upper v0_limits v0_limit v0_ties v0_letter v0_letters v0_told v0_tolds v0_places v0_cell v0_refusals v0_imaged v0_hasImage v0_before v0_up v0_down v0_beneath v0_numberUp v0_numberDown v0_block v0_blocks v0_merged v0_valueUp v0_valueDown v0_said v0_saids v0_at v0_number p2 (bnd_ne hf)) svV_X10_isPaper kw1361 rfl rfl hPc hDc hSc rfl rfl hl.1 (Nat.le_of_ble_eq_true rfl) dX10_likely_16 ⟨Nat.le_of_ble_eq_true rfl, Nat.le_of_ble_eq_true rfl, rfl, rfl, Nat.le_of_ble_eq_true rfl, Nat.le_of_ble_eq_true rfl⟩) [(0, 22)] rfl rfl rfl (fun x2 H locs ex2 nx2 hP hS => ?_)
    have hf := bnd_of hf ex2
    refine lv_if_ne (tgt := 28) hx hb dX10_likely_19 (by decide) (fun cb => ?_) (fun cb => ?_)
    · have hf := it_f cb hf
      refine lv_iload_n hx hb dX10_likely_28 rfl (lv_at hl 3 rfl) ?_
      refine lv_iconst (v := 2) hx hb dX10_likely_29 (by decide) ?_
      refine lv_icmp_ge (tgt := 40) hx hb dX10_likely_30 (by decide) (fun cb => ?_) (fun cb => ?_)
      · have hf := it_t cb hf
        refine lv_iload_n hx hb dX10_likely_40 rfl (lv_at hl 3 rfl) ?_
        refine lv_bipush (v := 20) hx hb dX10_likely_41 (by decide) ?_
        refine lv_icmp_le (tgt := 53) hx hb dX10_likely_43 (by decide) (fun cb => ?_) (fun cb => ?_)
        · have hf := it_t cb hf
          refine lv_iload hx hb dX10_likely_53 (lv_at hl 4 rfl) ?_
          refine cIp hP hD hS hA hE (fun hPc hDc hSc => rS (As := [.int p4]) (rest := []) hx hb hml hown hts hK (c_X10_isPart l g p4 (bnd_ne hf)) svS_X10_isPart kw1471 hPc hDc hSc rfl rfl hl.1 (Nat.le_of_ble_eq_true rfl) dX10_likely_55 ⟨Nat.le_of_ble_eq_true rfl, Nat.le_of_ble_eq_true rfl, rfl, rfl, Nat.le_of_ble_eq_true rfl, Nat.le_of_ble_eq_true rfl⟩) [] rfl rfl rfl (fun x3 H locs ex3 nx3 hP hS => ?_)
          have hf := bnd_of hf ex3
          refine lv_if_ne (tgt := 68) hx hb dX10_likely_58 (by decide) (fun cb => ?_) (fun cb => ?_)
          · have hf := it_f cb hf
            refine lv_iconst (v := 5) hx hb dX10_likely_68 (by decide) ?_
            refine lv_aload_n hx hb dX10_likely_69 rfl (lv_at hl 0 rfl) ?_
            refine va_get (D := g.1) (ci := 11) (v := .int v0_rules) (C := RX10) (T := TX10) (N := 36) hx hb hts layX10 hown hK.1 hP 0 rfl rfl 6 (by decide) (hts _ kw1283) (fun _ h9 => h9) rfl dX10_likely_70 ?_
            refine va_mmin hx hb (hml.trans hl.1.symm) hown (hts _ kw1428) (hts _ kw567) (hts _ kw4) (hts _ kw568) (Nat.le_of_ble_eq_true rfl) (Nat.le_of_ble_eq_true rfl) (Nat.zero_le _) (Nat.zero_le _) dX10_likely_73 ?_
            obtain ⟨x4, ex4, hf⟩ := bnd hf
            refine nmI (Option.some.inj ex4) ?_
            refine lv_istore (lv' := [(5, .int x4), (0, .ref (a0 0)), (1, .int p1), (2, .int p2), (3, .int p3), (4, .int p4)]) hx hb dX10_likely_76 hl (by decide) rfl (fun ls hl => ?_)
            refine lv_lconst (v := 0) hx hb dX10_likely_78 (by decide) ?_
            refine lv_lstore (lv' := [(6, .long (0 : Int64)), (5, .int x4), (0, .ref (a0 0)), (1, .int p1), (2, .int p2), (3, .int p3), (4, .int p4)]) hx hb dX10_likely_79 hl (by decide) rfl (fun ls hl => ?_)
            refine lv_lconst (v := 1) hx hb dX10_likely_81 (by decide) ?_
            refine lv_lstore (lv' := [(8, .long (1 : Int64)), (6, .long (0 : Int64)), (5, .int x4), (0, .ref (a0 0)), (1, .int p1), (2, .int p2), (3, .int p3), (4, .int p4)]) hx hb dX10_likely_82 hl (by decide) rfl (fun ls hl => ?_)
            refine lv_iconst (v := 0) hx hb dX10_likely_84 (by decide) ?_
            refine lv_istore (lv' := [(10, .int (0 : Int32)), (8, .long (1 : Int64)), (6, .long (0 : Int64)), (5, .int x4), (0, .ref (a0 0)), (1, .int p1), (2, .int p2), (3, .int p3), (4, .int p4)]) hx hb dX10_likely_85 hl (by decide) rfl (fun ls hl => ?_)
            obtain ⟨r7, er7, hf⟩ := bnd hf
            refine lp_W (P := fun z => ∀ (H : Heap) (locs : List Loc) (ls : Array Slot), va_P g.1 vwCl (wX10 a0 g v0_papers v0_raw v0_kind v0_figure v0_heavy v0_place v0_rules v0_lower v0_upper v0_limits v0_limit v0_ties v0_letter v0_letters v0_told v0_tolds v0_places v0_cell v0_refusals v0_imaged v0_hasImage v0_before v0_up v0_down v0_beneath v0_numberUp v0_numberDown v0_block v0_blocks v0_merged v0_valueUp v0_valueDown v0_said v0_saids v0_at v0_number) H → va_D A (wX10 a0 g v0_papers v0_raw v0_kind v0_figure v0_heavy v0_place v0_rules v0_lower v0_upper v0_limits v0_limit v0_ties v0_letter v0_letters v0_told v0_tolds v0_places v0_cell v0_refusals v0_imaged v0_hasImage v0_before v0_up v0_down v0_beneath v0_numberUp v0_numberDown v0_block v0_blocks v0_merged v0_valueUp v0_valueDown v0_said v0_saids v0_at v0_number) → va_S A s.heap H locs → lv_has ls 14 [(0, .ref (a0 0)), (1, .int p1), (2, .int p2), (3, .int p3), (4, .int p4), (5, .int x4), (6, .long (0 : Int64)), (8, .long z.1), (10, .int z.2)] → W p l e { frames := 7, cells := 0, slots := 0, locals := 161 } s m [.ref (a0 0), .int p1, .int p2, .int p3, .int p4].toArray below meth c H locs 0 0 (MQ below (Ql g (m_X10_likely (v0_papers, v0_raw, v0_kind, v0_figure, v0_heavy, v0_place, v0_rules, v0_lower, v0_upper, v0_limits, v0_limit, v0_ties, v0_letter, v0_letters, v0_told, v0_tolds, v0_places, v0_cell, v0_refusals, v0_imaged, v0_hasImage, v0_before, v0_up, v0_down, v0_beneath, v0_numberUp, v0_numberDown, v0_block, v0_blocks, v0_merged, v0_valueUp, v0_valueDown, v0_said, v0_saids, v0_at, v0_number) p1 p2 p3 p4) (fun u => u.1) (fun u => wX10 a0 g v0_papers v0_raw v0_kind v0_figure v0_heavy v0_place v0_rules v0_lower v0_upper v0_limits v0_limit v0_ties v0_letter v0_letters v0_told v0_tolds v0_places v0_cell u.2.1 v0_imaged v0_hasImage v0_before u.2.2.1 u.2.2.2.1 u.2.2.2.2.1 v0_numberUp v0_numberDown v0_block v0_blocks v0_merged u.2.2.2.2.2.1 u.2.2.2.2.2.2 v0_said v0_saids v0_at v0_number) A) [.ref (a0 0), .int p1, .int p2, .int p3, .int p4].toArray s 0 0 A) (F0 m 87 ls [])) (E := fun r7 => ∀ (H : Heap) (locs : List Loc) (ls : Array Slot), va_P g.1 vwCl (wX10 a0 g v0_papers v0_raw v0_kind v0_figure v0_heavy v0_place v0_rules v0_lower v0_upper v0_limits v0_limit v0_ties v0_letter v0_letters v0_told v0_tolds v0_places v0_cell v0_refusals v0_imaged v0_hasImage v0_before v0_up v0_down v0_beneath v0_numberUp v0_numberDown v0_block v0_blocks v0_merged v0_valueUp v0_valueDown v0_said v0_saids v0_at v0_number) H → va_D A (wX10 a0 g v0_papers v0_raw v0_kind v0_figure v0_heavy v0_place v0_rules v0_lower v0_upper v0_limits v0_limit v0_ties v0_letter v0_letters v0_told v0_tolds v0_places v0_cell v0_refusals v0_imaged v0_hasImage v0_before v0_up v0_down v0_beneath v0_numberUp v0_numberDown v0_block v0_blocks v0_merged v0_valueUp v0_valueDown v0_said v0_saids v0_at v0_number) → va_S A s.heap H locs → lv_has ls 14 [(0, .ref (a0 0)), (1, .int p1), (2, .int p2), (3, .int p3), (4, .int p4), (5, .int x4), (6, .long (0 : Int64)), (8, .long r7)] → W p l e { frames := 7, cells := 0, slots := 0, locals := 161 } s m [.ref (a0 0), .int p1, .int p2, .int p3, .int p4].toArray below meth c H locs 0 0 (MQ below (Ql g (m_X10_likely (v0_papers, v0_raw, v0_kind, v0_figure, v0_heavy, v0_place, v0_rules, v0_lower, v0_upper, v0_limits, v0_limit, v0_ties, v0_letter, v0_letters, v0_told, v0_tolds, v0_places, v0_cell, v0_refusals, v0_imaged, v0_hasImage, v0_before, v0_up, v0_down, v0_beneath, v0_numberUp, v0_numberDown, v0_block, v0_blocks, v0_merged, v0_valueUp, v0_valueDown, v0_said, v0_saids, v0_at, v0_number) p1 p2 p3 p4) (fun u => u.1) (fun u => wX10 a0 g v0_papers v0_raw v0_kind v0_figure v0_heavy v0_place v0_rules v0_lower v0_upper v0_limits v0_limit v0_ties v0_letter v0_letters v0_told v0_tolds v0_places v0_cell u.2.1 v0_imaged v0_hasImage v0_before u.2.2.1 u.2.2.2.1 u.2.2.2.2.1 v0_numberUp v0_numberDown v0_block v0_blocks v0_merged u.2.2.2.2.2.1 u.2.2.2.2.2.2 v0_said v0_saids v0_at v0_number) A) [.ref (a0 0), .int p1, .int p2, .int p3, .int p4].toArray s 0 0 A) (F0 m 107 ls [])) ?_ fu _ r7 er7 ?_ _ _ _ hP hD hS (lv_sub hl [4, 5, 6, 7, 8, 3, 2, 1, 0] rfl)
            · rintro ⟨x5, x6⟩ y hf hB hXt H locs ls hP hD hS hl
              have hP : va_P g.1 vwCl (wX10 a0 g v0_papers v0_raw v0_kind v0_figure v0_heavy v0_place v0_rules v0_lower v0_upper v0_limits v0_limit v0_ties v0_letter v0_letters v0_told v0_tolds v0_places v0_cell v0_refusals v0_imaged v0_hasImage v0_before v0_up v0_down v0_beneath v0_numberUp v0_numberDown v0_block v0_blocks v0_merged v0_valueUp v0_valueDown v0_said v0_saids v0_at v0_number) H := hP
              have hD : va_D A (wX10 a0 g v0_papers v0_raw v0_kind v0_figure v0_heavy v0_place v0_rules v0_lower v0_upper v0_limits v0_limit v0_ties v0_letter v0_letters v0_told v0_tolds v0_places v0_cell v0_refusals v0_imaged v0_hasImage v0_before v0_up v0_down v0_beneath v0_numberUp v0_numberDown v0_block v0_blocks v0_merged v0_valueUp v0_valueDown v0_said v0_saids v0_at v0_number) := hD
              have hl : lv_has ls 14 [(0, .ref (a0 0)), (1, .int p1), (2, .int p2), (3, .int p3), (4, .int p4), (5, .int x4), (6, .long (0 : Int64)), (8, .long x5), (10, .int x6)] := hl
              have hf : m_X10_likely_l87 p3 x4 x5 x6 = some y := hf
              unfold m_X10_likely_l87 at hf
              refine lv_iload hx hb dX10_likely_87 (lv_at hl 8 rfl) ?_
              refine lv_iload hx hb dX10_likely_89 (lv_at hl 5 rfl) ?_
              refine lv_icmp_ge (tgt := 107) hx hb dX10_likely_91 (by decide) (fun cb => ?_) (fun cb => ?_)
              · have hf := it_t cb hf
                exact hXt _ (Option.some.inj hf).symm _ _ _ hP hD hS (lv_sub hl [0, 1, 2, 3, 4, 5, 6, 7] rfl)
              have hf := it_f cb hf
              refine lv_lload hx hb dX10_likely_94 (lv_at hl 7 rfl) ?_
              refine lv_iload_n hx hb dX10_likely_96 rfl (lv_at hl 3 rfl) ?_
              refine lv_i2l (v := p3.toInt64) hx hb dX10_likely_97 rfl ?_
              refine lv_lmul hx hb dX10_likely_98 ?_
              refine lv_lstore (lv' := [(8, .long (x5 * p3.toInt64)), (0, .ref (a0 0)), (1, .int p1), (2, .int p2), (3, .int p3), (4, .int p4), (5, .int x4), (6, .long (0 : Int64)), (10, .int x6)]) hx hb dX10_likely_99 hl (by decide) rfl (fun ls hl => ?_)
              refine lv_iinc (v := (x6 + 1)) (lv' := [(10, .int (x6 + 1)), (8, .long (x5 * p3.toInt64)), (0, .ref (a0 0)), (1, .int p1), (2, .int p2), (3, .int p3), (4, .int p4), (5, .int x4), (6, .long (0 : Int64))]) hx hb dX10_likely_101 hl (k := 8) rfl (by rfl) (by decide) rfl (fun ls hl => ?_)
              refine lv_goto (tgt := 87) hx hb dX10_likely_104 (by decide) ?_
              exact hB _ (Option.some.inj hf).symm _ _ _ hP hD hS (lv_sub hl [2, 3, 4, 5, 6, 7, 8, 1, 0] rfl)
            intro H locs ls hP hD hS hl
            have hP : va_P g.1 vwCl (wX10 a0 g v0_papers v0_raw v0_kind v0_figure v0_heavy v0_place v0_rules v0_lower v0_upper v0_limits v0_limit v0_ties v0_letter v0_letters v0_told v0_tolds v0_places v0_cell v0_refusals v0_imaged v0_hasImage v0_before v0_up v0_down v0_beneath v0_numberUp v0_numberDown v0_block v0_blocks v0_merged v0_valueUp v0_valueDown v0_said v0_saids v0_at v0_number) H := hP
            have hD : va_D A (wX10 a0 g v0_papers v0_raw v0_kind v0_figure v0_heavy v0_place v0_rules v0_lower v0_upper v0_limits v0_limit v0_ties v0_letter v0_letters v0_told v0_tolds v0_places v0_cell v0_refusals v0_imaged v0_hasImage v0_before v0_up v0_down v0_beneath v0_numberUp v0_numberDown v0_block v0_blocks v0_merged v0_valueUp v0_valueDown v0_said v0_saids v0_at v0_number) := hD
            have hl : lv_has ls 14 [(0, .ref (a0 0)), (1, .int p1), (2, .int p2), (3, .int p3), (4, .int p4), (5, .int x4), (6, .long (0 : Int64)), (8, .long r7)] := hl
            refine lv_iconst (v := 0) hx hb dX10_likely_107 (by decide) ?_
            refine lv_istore (lv' := [(10, .int (0 : Int32)), (0, .ref (a0 0)), (1, .int p1), (2, .int p2), (3, .int p3), (4, .int p4), (5, .int x4), (6, .long (0 : Int64)), (8, .long r7)]) hx hb dX10_likely_108 hl (by decide) rfl (fun ls hl => ?_)
            obtain ⟨r31, er31, hf⟩ := bnd hf
            refine lp_W (P := fun z => ∀ (H : Heap) (locs : List Loc) (ls : Array Slot), va_P g.1 vwCl (wX10 a0 g v0_papers v0_raw v0_kind v0_figure v0_heavy v0_place v0_rules v0_lower v0_upper v0_limits v0_limit v0_ties v0_letter v0_letters v0_told v0_tolds v0_places v0_cell v0_refusals v0_imaged v0_hasImage v0_before z.2.2.1 z.2.2.2.1 z.2.2.2.2.1 v0_numberUp v0_numberDown v0_block v0_blocks v0_merged z.2.2.2.2.2.1 z.2.2.2.2.2.2 v0_said v0_saids v0_at v0_number) H → va_D A (wX10 a0 g v0_papers v0_raw v0_kind v0_figure v0_heavy v0_place v0_rules v0_lower v0_upper v0_limits v0_limit v0_ties v0_letter v0_letters v0_told v0_tolds v0_places v0_cell v0_refusals v0_imaged v0_hasImage v0_before z.2.2.1 z.2.2.2.1 z.2.2.2.2.1 v0_numberUp v0_numberDown v0_block v0_blocks v0_merged z.2.2.2.2.2.1 z.2.2.2.2.2.2 v0_said v0_saids v0_at v0_number) → va_S A s.heap H locs → lv_has ls 14 [(0, .ref (a0 0)), (1, .int p1), (2, .int p2), (3, .int p3), (4, .int p4), (5, .int x4), (6, .long z.1), (8, .long r7), (10, .int z.2.1)] → W p l e { frames := 7, cells := 0, slots := 0, locals := 161 } s m [.ref (a0 0), .int p1, .int p2, .int p3, .int p4].toArray below meth c H locs 0 0 (MQ below (Ql g (m_X10_likely (v0_papers, v0_raw, v0_kind, v0_figure, v0_heavy, v0_place, v0_rules, v0_lower, v0_upper, v0_limits, v0_limit, v0_ties, v0_letter, v0_letters, v0_told, v0_tolds, v0_places, v0_cell, v0_refusals, v0_imaged, v0_hasImage, v0_before, v0_up, v0_down, v0_beneath, v0_numberUp, v0_numberDown, v0_block, v0_blocks, v0_merged, v0_valueUp, v0_valueDown, v0_said, v0_saids, v0_at, v0_number) p1 p2 p3 p4) (fun u => u.1) (fun u => wX10 a0 g v0_papers v0_raw v0_kind v0_figure v0_heavy v0_place v0_rules v0_lower v0_upper v0_limits v0_limit v0_ties v0_letter v0_letters v0_told v0_tolds v0_places v0_cell u.2.1 v0_imaged v0_hasImage v0_before u.2.2.1 u.2.2.2.1 u.2.2.2.2.1 v0_numberUp v0_numberDown v0_block v0_blocks v0_merged u.2.2.2.2.2.1 u.2.2.2.2.2.2 v0_said v0_saids v0_at v0_number) A) [.ref (a0 0), .int p1, .int p2, .int p3, .int p4].toArray s 0 0 A) (F0 m 110 ls [])) (E := fun r31 => ∀ (H : Heap) (locs : List Loc) (ls : Array Slot), va_P g.1 vwCl (wX10 a0 g v0_papers v0_raw v0_kind v0_figure v0_heavy v0_place v0_rules v0_lower v0_upper v0_limits v0_limit v0_ties v0_letter v0_letters v0_told v0_tolds v0_places v0_cell v0_refusals v0_imaged v0_hasImage v0_before r31.2.1 r31.2.2.1 r31.2.2.2.1 v0_numberUp v0_numberDown v0_block v0_blocks v0_merged r31.2.2.2.2.1 r31.2.2.2.2.2 v0_said v0_saids v0_at v0_number) H → va_D A (wX10 a0 g v0_papers v0_raw v0_kind v0_figure v0_heavy v0_place v0_rules v0_lower v0_upper v0_limits v0_limit v0_ties v0_letter v0_letters v0_told v0_tolds v0_places v0_cell v0_refusals v0_imaged v0_hasImage v0_before r31.2.1 r31.2.2.1 r31.2.2.2.1 v0_numberUp v0_numberDown v0_block v0_blocks v0_merged r31.2.2.2.2.1 r31.2.2.2.2.2 v0_said v0_saids v0_at v0_number) → va_S A s.heap H locs → lv_has ls 14 [(0, .ref (a0 0)), (4, .int p4), (6, .long r31.1), (8, .long r7)] → W p l e { frames := 7, cells := 0, slots := 0, locals := 161 } s m [.ref (a0 0), .int p1, .int p2, .int p3, .int p4].toArray below meth c H locs 0 0 (MQ below (Ql g (m_X10_likely (v0_papers, v0_raw, v0_kind, v0_figure, v0_heavy, v0_place, v0_rules, v0_lower, v0_upper, v0_limits, v0_limit, v0_ties, v0_letter, v0_letters, v0_told, v0_tolds, v0_places, v0_cell, v0_refusals, v0_imaged, v0_hasImage, v0_before, v0_up, v0_down, v0_beneath, v0_numberUp, v0_numberDown, v0_block, v0_blocks, v0_merged, v0_valueUp, v0_valueDown, v0_said, v0_saids, v0_at, v0_number) p1 p2 p3 p4) (fun u => u.1) (fun u => wX10 a0 g v0_papers v0_raw v0_kind v0_figure v0_heavy v0_place v0_rules v0_lower v0_upper v0_limits v0_limit v0_ties v0_letter v0_letters v0_told v0_tolds v0_places v0_cell u.2.1 v0_imaged v0_hasImage v0_before u.2.2.1 u.2.2.2.1 u.2.2.2.2.1 v0_numberUp v0_numberDown v0_block v0_blocks v0_merged u.2.2.2.2.2.1 u.2.2.2.2.2.2 v0_said v0_saids v0_at v0_number) A) [.ref (a0 0), .int p1, .int p2, .int p3, .int p4].toArray s 0 0 A) (F0 m 216 ls [])) ?_ fu _ r31 er31 ?_ _ _ _ hP hD hS (lv_sub hl [1, 2, 3, 4, 5, 6, 7, 8, 0] rfl)
            · rintro ⟨x16, x17, x18, x19, x20, x21, x22⟩ y hf hB hXt H locs ls hP hD hS hl
              have hP : va_P g.1 vwCl (wX10 a0 g v0_papers v0_raw v0_kind v0_figure v0_heavy v0_place v0_rules v0_lower v0_upper v0_limits v0_limit v0_ties v0_letter v0_letters v0_told v0_tolds v0_places v0_cell v0_refusals v0_imaged v0_hasImage v0_before x18 x19 x20 v0_numberUp v0_numberDown v0_block v0_blocks v0_merged x21 x22 v0_said v0_saids v0_at v0_number) H := hP
              have hD : va_D A (wX10 a0 g v0_papers v0_raw v0_kind v0_figure v0_heavy v0_place v0_rules v0_lower v0_upper v0_limits v0_limit v0_ties v0_letter v0_letters v0_told v0_tolds v0_places v0_cell v0_refusals v0_imaged v0_hasImage v0_before x18 x19 x20 v0_numberUp v0_numberDown v0_block v0_blocks v0_merged x21 x22 v0_said v0_saids v0_at v0_number) := hD
              have hl : lv_has ls 14 [(0, .ref (a0 0)), (1, .int p1), (2, .int p2), (3, .int p3), (4, .int p4), (5, .int x4), (6, .long x16), (8, .long r7), (10, .int x17)] := hl
              have hf : m_X10_likely_l110 (v0_papers, v0_raw, v0_kind, v0_figure, v0_heavy, v0_place, v0_rules, v0_lower, v0_upper, v0_limits, v0_limit, v0_ties, v0_letter, v0_letters, v0_told, v0_tolds, v0_places, v0_cell, v0_refusals, v0_imaged, v0_hasImage, v0_before, v0_up, v0_down, v0_beneath, v0_numberUp, v0_numberDown, v0_block, v0_blocks, v0_merged, v0_valueUp, v0_valueDown, v0_said, v0_saids, v0_at, v0_number) p1 p2 p3 x4 x16 x17 x18 x19 x20 x21 x22 = some y := hf
              unfold m_X10_likely_l110 at hf
              refine lv_iload hx hb dX10_likely_110 (lv_at hl 8 rfl) ?_
              refine lv_iconst (v := 1) hx hb dX10_likely_112 (by decide) ?_
              refine lv_iload hx hb dX10_likely_113 (lv_at hl 5 rfl) ?_
              refine lv_ishl hx hb dX10_likely_115 ?_
              refine lv_icmp_ge (tgt := 216) hx hb dX10_likely_116 (by decide) (fun cb => ?_) (fun cb => ?_)
              · have hf := it_t cb hf
                exact hXt _ (Option.some.inj hf).symm _ _ _ hP hD hS (lv_sub hl [0, 4, 6, 7] rfl)
              have hf := it_f cb hf
              refine lv_lconst (v := 1) hx hb dX10_likely_119 (by decide) ?_
              refine lv_lstore (lv' := [(11, .long (1 : Int64)), (0, .ref (a0 0)), (1, .int p1), (2, .int p2), (3, .int p3), (4, .int p4), (5, .int x4), (6, .long x16), (8, .long r7), (10, .int x17)]) hx hb dX10_likely_120 hl (by decide) rfl (fun ls hl => ?_)
              refine lv_iconst (v := 0) hx hb dX10_likely_122 (by decide) ?_
              refine lv_istore (lv' := [(13, .int (0 : Int32)), (11, .long (1 : Int64)), (0, .ref (a0 0)), (1, .int p1), (2, .int p2), (3, .int p3), (4, .int p4), (5, .int x4), (6, .long x16), (8, .long r7), (10, .int x17)]) hx hb dX10_likely_123 hl (by decide) rfl (fun ls hl => ?_)
              obtain ⟨r27, er27, hf⟩ := bnd hf
              refine lp_W (P := fun z => ∀ (H : Heap) (locs : List Loc) (ls : Array Slot), va_P g.1 vwCl (wX10 a0 g v0_papers v0_raw v0_kind v0_figure v0_heavy v0_place v0_rules v0_lower v0_upper v0_limits v0_limit v0_ties v0_letter v0_letters v0_told v0_tolds v0_places v0_cell v0_refusals v0_imaged v0_hasImage v0_before x18 x19 x20 v0_numberUp v0_numberDown v0_block v0_blocks v0_merged x21 x22 v0_said v0_saids v0_at v0_number) H → va_D A (wX10 a0 g v0_papers v0_raw v0_kind v0_figure v0_heavy v0_place v0_rules v0_lower v0_upper v0_limits v0_limit v0_ties v0_letter v0_letters v0_told v0_tolds v0_places v0_cell v0_refusals v0_imaged v0_hasImage v0_before x18 x19 x20 v0_numberUp v0_numberDown v0_block v0_blocks v0_merged x21 x22 v0_said v0_saids v0_at v0_number) → va_S A s.heap H locs → lv_has ls 14 [(0, .ref (a0 0)), (1, .int p1), (2, .int p2), (3, .int p3), (4, .int p4), (5, .int x4), (6, .long x16), (8, .long r7), (10, .int x17), (11, .long z.1), (13, .int z.2)] → W p l e { frames := 7, cells := 0, slots := 0, locals := 161 } s m [.ref (a0 0), .int p1, .int p2, .int p3, .int p4].toArray below meth c H locs 0 0 (MQ below (Ql g (m_X10_likely (v0_papers, v0_raw, v0_kind, v0_figure, v0_heavy, v0_place, v0_rules, v0_lower, v0_upper, v0_limits, v0_limit, v0_ties, v0_letter, v0_letters, v0_told, v0_tolds, v0_places, v0_cell, v0_refusals, v0_imaged, v0_hasImage, v0_before, v0_up, v0_down, v0_beneath, v0_numberUp, v0_numberDown, v0_block, v0_blocks, v0_merged, v0_valueUp, v0_valueDown, v0_said, v0_saids, v0_at, v0_number) p1 p2 p3 p4) (fun u => u.1) (fun u => wX10 a0 g v0_papers v0_raw v0_kind v0_figure v0_heavy v0_place v0_rules v0_lower v0_upper v0_limits v0_limit v0_ties v0_letter v0_letters v0_told v0_tolds v0_places v0_cell u.2.1 v0_imaged v0_hasImage v0_before u.2.2.1 u.2.2.2.1 u.2.2.2.2.1 v0_numberUp v0_numberDown v0_block v0_blocks v0_merged u.2.2.2.2.2.1 u.2.2.2.2.2.2 v0_said v0_saids v0_at v0_number) A) [.ref (a0 0), .int p1, .int p2, .int p3, .int p4].toArray s 0 0 A) (F0 m 125 ls [])) (E := fun r27 => ∀ (H : Heap) (locs : List Loc) (ls : Array Slot), va_P g.1 vwCl (wX10 a0 g v0_papers v0_raw v0_kind v0_figure v0_heavy v0_place v0_rules v0_lower v0_upper v0_limits v0_limit v0_ties v0_letter v0_letters v0_told v0_tolds v0_places v0_cell v0_refusals v0_imaged v0_hasImage v0_before x18 x19 x20 v0_numberUp v0_numberDown v0_block v0_blocks v0_merged x21 x22 v0_said v0_saids v0_at v0_number) H → va_D A (wX10 a0 g v0_papers v0_raw v0_kind v0_figure v0_heavy v0_place v0_rules v0_lower v0_upper v0_limits v0_limit v0_ties v0_letter v0_letters v0_told v0_tolds v0_places v0_cell v0_refusals v0_imaged v0_hasImage v0_before x18 x19 x20 v0_numberUp v0_numberDown v0_block v0_blocks v0_merged x21 x22 v0_said v0_saids v0_at v0_number) → va_S A s.heap H locs → lv_has ls 14 [(0, .ref (a0 0)), (1, .int p1), (2, .int p2), (3, .int p3), (4, .int p4), (5, .int x4), (6, .long x16), (8, .long r7), (10, .int x17), (11, .long r27)] → W p l e { frames := 7, cells := 0, slots := 0, locals := 161 } s m [.ref (a0 0), .int p1, .int p2, .int p3, .int p4].toArray below meth c H locs 0 0 (MQ below (Ql g (m_X10_likely (v0_papers, v0_raw, v0_kind, v0_figure, v0_heavy, v0_place, v0_rules, v0_lower, v0_upper, v0_limits, v0_limit, v0_ties, v0_letter, v0_letters, v0_told, v0_tolds, v0_places, v0_cell, v0_refusals, v0_imaged, v0_hasImage, v0_before, v0_up, v0_down, v0_beneath, v0_numberUp, v0_numberDown, v0_block, v0_blocks, v0_merged, v0_valueUp, v0_valueDown, v0_said, v0_saids, v0_at, v0_number) p1 p2 p3 p4) (fun u => u.1) (fun u => wX10 a0 g v0_papers v0_raw v0_kind v0_figure v0_heavy v0_place v0_rules v0_lower v0_upper v0_limits v0_limit v0_ties v0_letter v0_letters v0_told v0_tolds v0_places v0_cell u.2.1 v0_imaged v0_hasImage v0_before u.2.2.1 u.2.2.2.1 u.2.2.2.2.1 v0_numberUp v0_numberDown v0_block v0_blocks v0_merged u.2.2.2.2.2.1 u.2.2.2.2.2.2 v0_said v0_saids v0_at v0_number) A) [.ref (a0 0), .int p1, .int p2, .int p3, .int p4].toArray s 0 0 A) (F0 m 161 ls [])) ?_ fu _ r27 er27 ?_ _ _ _ hP hD hS (lv_sub hl [2, 3, 4, 5, 6, 7, 8, 9, 10, 1, 0] rfl)
              · rintro ⟨x24, x25⟩ y hf hB hXt H locs ls hP hD hS hl
                have hP : va_P g.1 vwCl (wX10 a0 g v0_papers v0_raw v0_kind v0_figure v0_heavy v0_place v0_rules v0_lower v0_upper v0_limits v0_limit v0_ties v0_letter v0_letters v0_told v0_tolds v0_places v0_cell v0_refusals v0_imaged v0_hasImage v0_before x18 x19 x20 v0_numberUp v0_numberDown v0_block v0_blocks v0_merged x21 x22 v0_said v0_saids v0_at v0_number) H := hP
                have hD : va_D A (wX10 a0 g v0_papers v0_raw v0_kind v0_figure v0_heavy v0_place v0_rules v0_lower v0_upper v0_limits v0_limit v0_ties v0_letter v0_letters v0_told v0_tolds v0_places v0_cell v0_refusals v0_imaged v0_hasImage v0_before x18 x19 x20 v0_numberUp v0_numberDown v0_block v0_blocks v0_merged x21 x22 v0_said v0_saids v0_at v0_number) := hD
                have hl : lv_has ls 14 [(0, .ref (a0 0)), (1, .int p1), (2, .int p2), (3, .int p3), (4, .int p4), (5, .int x4), (6, .long x16), (8, .long r7), (10, .int x17), (11, .long x24), (13, .int x25)] := hl
                have hf : m_X10_likely_l125_2 p3 x4 x17 x24 x25 = some y := hf
                unfold m_X10_likely_l125_2 at hf
                refine lv_iload hx hb dX10_likely_125 (lv_at hl 10 rfl) ?_
                refine lv_iload hx hb dX10_likely_127 (lv_at hl 5 rfl) ?_
                refine lv_icmp_ge (tgt := 161) hx hb dX10_likely_129 (by decide) (fun cb => ?_) (fun cb => ?_)
                · have hf := it_t cb hf
                  exact hXt _ (Option.some.inj hf).symm _ _ _ hP hD hS (lv_sub hl [0, 1, 2, 3, 4, 5, 6, 7, 8, 9] rfl)
                have hf := it_f cb hf
                refine lv_lload hx hb dX10_likely_132 (lv_at hl 9 rfl) ?_
                refine lv_iload hx hb dX10_likely_134 (lv_at hl 8 rfl) ?_
                refine lv_iload hx hb dX10_likely_136 (lv_at hl 10 rfl) ?_
                refine cIp hP hD hS hA hE (fun hPc hDc hSc => rS (As := [.int x17, .int x25]) (rest := [.long x24]) hx hb hml hown hts hK (c_X10_has l g x17 x25 (bnd_ne hf)) svS_X10_has kw1395 hPc hDc hSc rfl rfl hl.1 (Nat.le_of_ble_eq_true rfl) dX10_likely_138 ⟨Nat.le_of_ble_eq_true rfl, Nat.le_of_ble_eq_true rfl, rfl, rfl, Nat.le_of_ble_eq_true rfl, Nat.le_of_ble_eq_true rfl⟩) [] rfl rfl rfl (fun x26 H locs ex26 nx26 hP hS => ?_)
                have hf := bnd_of hf ex26
                refine lv_if_eq (tgt := 148) hx hb dX10_likely_141 (by decide) (fun cb => ?_) (fun cb => ?_)
                · have hf := it_t cb hf
                  refine lv_iload_n hx hb dX10_likely_148 rfl (lv_at hl 3 rfl) ?_
                  refine lv_iconst (v := 1) hx hb dX10_likely_149 (by decide) ?_
                  refine lv_isub hx hb dX10_likely_150 ?_
                  refine lv_i2l (v := (p3 - (1 : Int32)).toInt64) hx hb dX10_likely_151 rfl ?_
                  refine lv_lmul hx hb dX10_likely_152 ?_
                  refine lv_lstore (lv' := [(11, .long (x24 * (p3 - (1 : Int32)).toInt64)), (0, .ref (a0 0)), (1, .int p1), (2, .int p2), (3, .int p3), (4, .int p4), (5, .int x4), (6, .long x16), (8, .long r7), (10, .int x17), (13, .int x25)]) hx hb dX10_likely_153 hl (by decide) rfl (fun ls hl => ?_)
                  refine lv_iinc (v := (x25 + 1)) (lv' := [(13, .int (x25 + 1)), (11, .long (x24 * (p3 - (1 : Int32)).toInt64)), (0, .ref (a0 0)), (1, .int p1), (2, .int p2), (3, .int p3), (4, .int p4), (5, .int x4), (6, .long x16), (8, .long r7), (10, .int x17)]) hx hb dX10_likely_155 hl (k := 10) rfl (by rfl) (by decide) rfl (fun ls hl => ?_)
                  refine lv_goto (tgt := 125) hx hb dX10_likely_158 (by decide) ?_
                  exact hB _ (Option.some.inj hf).symm _ _ _ hP hD hS (lv_sub hl [2, 3, 4, 5, 6, 7, 8, 9, 10, 1, 0] rfl)
                have hf := it_f cb hf
                refine lv_lconst (v := 1) hx hb dX10_likely_144 (by decide) ?_
                refine lv_goto (tgt := 152) hx hb dX10_likely_145 (by decide) ?_
                refine lv_lmul hx hb dX10_likely_152 ?_
                refine lv_lstore (lv' := [(11, .long (x24 * (1 : Int64))), (0, .ref (a0 0)), (1, .int p1), (2, .int p2), (3, .int p3), (4, .int p4), (5, .int x4), (6, .long x16), (8, .long r7), (10, .int x17), (13, .int x25)]) hx hb dX10_likely_153 hl (by decide) rfl (fun ls hl => ?_)
                refine lv_iinc (v := (x25 + 1)) (lv' := [(13, .int (x25 + 1)), (11, .long (x24 * (1 : Int64))), (0, .ref (a0 0)), (1, .int p1), (2, .int p2), (3, .int p3), (4, .int p4), (5, .int x4), (6, .long x16), (8, .long r7), (10, .int x17)]) hx hb dX10_likely_155 hl (k := 10) rfl (by rfl) (by decide) rfl (fun ls hl => ?_)
                refine lv_goto (tgt := 125) hx hb dX10_likely_158 (by decide) ?_
                exact hB _ (Option.some.inj hf).symm _ _ _ hP hD hS (lv_sub hl [2, 3, 4, 5, 6, 7, 8, 9, 10, 1, 0] rfl)
              intro H locs ls hP hD hS hl
              have hP : va_P g.1 vwCl (wX10 a0 g v0_papers v0_raw v0_kind v0_figure v0_heavy v0_place v0_rules v0_lower v0_upper v0_limits v0_limit v0_ties v0_letter v0_letters v0_told v0_tolds v0_places v0_cell v0_refusals v0_imaged v0_hasImage v0_before x18 x19 x20 v0_numberUp v0_numberDown v0_block v0_blocks v0_merged x21 x22 v0_said v0_saids v0_at v0_number) H := hP
              have hD : va_D A (wX10 a0 g v0_papers v0_raw v0_kind v0_figure v0_heavy v0_place v0_rules v0_lower v0_upper v0_limits v0_limit v0_ties v0_letter v0_letters v0_told v0_tolds v0_places v0_cell v0_refusals v0_imaged v0_hasImage v0_before x18 x19 x20 v0_numberUp v0_numberDown v0_block v0_blocks v0_merged x21 x22 v0_said v0_saids v0_at v0_number) := hD
              have hl : lv_has ls 14 [(0, .ref (a0 0)), (1, .int p1), (2, .int p2), (3, .int p3), (4, .int p4), (5, .int x4), (6, .long x16), (8, .long r7), (10, .int x17), (11, .long r27)] := hl
              refine lv_aload_n hx hb dX10_likely_161 rfl (lv_at hl 0 rfl) ?_
              refine lv_iload_n hx hb dX10_likely_162 rfl (lv_at hl 1 rfl) ?_
              refine lv_aload_n hx hb dX10_likely_163 rfl (lv_at hl 0 rfl) ?_
              refine cIp hP hD hS hA hE (fun hPc hDc hSc => rV (As := []) (rest := [.int p1, .ref (a0 0)]) hx hb hml hown hts hK (c_X10_allRules l g a0 v0_papers v0_raw v0_kind v0_figure v0_heavy v0_place v0_rules v0_lower v0_upper v0_limits v0_limit v0_ties v0_letter v0_letters v0_told v0_tolds v0_places v0_cell v0_refusals v0_imaged v0_hasImage v0_before x18 x19 x20 v0_numberUp v0_numberDown v0_block v0_blocks v0_merged x21 x22 v0_said v0_saids v0_at v0_number (bnd_ne hf)) svV_X10_allRules kw1389 rfl rfl hPc hDc hSc rfl rfl hl.1 (Nat.le_of_ble_eq_true rfl) dX10_likely_164 ⟨Nat.le_of_ble_eq_true rfl, Nat.le_of_ble_eq_true rfl, rfl, rfl, Nat.le_of_ble_eq_true rfl, Nat.le_of_ble_eq_true rfl⟩) [(0, 22)] rfl rfl rfl (fun x28 H locs ex28 nx28 hP hS => ?_)
              have hf := bnd_of hf ex28
              refine lv_iload hx hb dX10_likely_167 (lv_at hl 8 rfl) ?_
              refine lv_iconst (v := (-1)) hx hb dX10_likely_169 (by decide) ?_
              refine lv_ixor hx hb dX10_likely_170 ?_
              refine lv_iand hx hb dX10_likely_171 ?_
              refine cV hP hD hS hA hE (fun hPc hDc hSc => rV (As := [.int p1, .int (x28 &&& (x17 ^^^ (-1 : Int32)))]) (rest := []) hx hb hml hown hts hK (c_X10_values l g a0 v0_papers v0_raw v0_kind v0_figure v0_heavy v0_place v0_rules v0_lower v0_upper v0_limits v0_limit v0_ties v0_letter v0_letters v0_told v0_tolds v0_places v0_cell v0_refusals v0_imaged v0_hasImage v0_before x18 x19 x20 v0_numberUp v0_numberDown v0_block v0_blocks v0_merged x21 x22 v0_said v0_saids v0_at v0_number p1 (x28 &&& (x17 ^^^ (-1 : Int32))) (bnd_ne hf)) svV_X10_values kw1551 rfl rfl hPc hDc hSc rfl rfl hl.1 (Nat.le_of_ble_eq_true rfl) dX10_likely_172 ⟨Nat.le_of_ble_eq_true rfl, Nat.le_of_ble_eq_true rfl, rfl, rfl, Nat.le_of_ble_eq_true rfl, Nat.le_of_ble_eq_true rfl⟩) [(0, 22)] rfl rfl rfl (fun _ => rfl) (fun x29 H locs ex29 hP hD hS => ?_)
              have hf := bnd_of hf ex29
              have hP : va_P g.1 vwCl (wX10 a0 g v0_papers v0_raw v0_kind v0_figure v0_heavy v0_place v0_rules v0_lower v0_upper v0_limits v0_limit v0_ties v0_letter v0_letters v0_told v0_tolds v0_places v0_cell v0_refusals v0_imaged v0_hasImage v0_before x29.1 x29.2.1 x29.2.2.1 v0_numberUp v0_numberDown v0_block v0_blocks v0_merged x29.2.2.2.1 x29.2.2.2.2 v0_said v0_saids v0_at v0_number) H := hP
              have hD : va_D A (wX10 a0 g v0_papers v0_raw v0_kind v0_figure v0_heavy v0_place v0_rules v0_lower v0_upper v0_limits v0_limit v0_ties v0_letter v0_letters v0_told v0_tolds v0_places v0_cell v0_refusals v0_imaged v0_hasImage v0_before x29.1 x29.2.1 x29.2.2.1 v0_numberUp v0_numberDown v0_block v0_blocks v0_merged x29.2.2.2.1 x29.2.2.2.2 v0_said v0_saids v0_at v0_number) := hD
              refine lv_lload hx hb dX10_likely_175 (lv_at hl 6 rfl) ?_
              refine lv_aload_n hx hb dX10_likely_177 rfl (lv_at hl 0 rfl) ?_
              refine va_get (D := g.1) (ci := 11) (v := .ref (a0 18)) (C := RX10) (T := TX10) (N := 36) hx hb hts layX10 hown hK.1 hP 0 rfl rfl 30 (by decide) (hts _ kw1307) (fun _ h9 => h9) rfl dX10_likely_178 ?_
              refine lv_iload_n hx hb dX10_likely_181 rfl (lv_at hl 2 rfl) ?_
              have hi := it_n hf
              have hf := it_t hi hf
              refine va_iald hx hb hK.1 hP 18 0 rfl rfl (inb_in hi) dX10_likely_182 ?_
              refine lv_aload_n hx hb dX10_likely_183 rfl (lv_at hl 0 rfl) ?_
              refine lv_iload_n hx hb dX10_likely_184 rfl (lv_at hl 2 rfl) ?_
              refine cIp hP hD hS hA hE (fun hPc hDc hSc => rV (As := [.int p2]) (rest := [.int (x29.2.2.2.1 p2.toNatClampNeg), .long x16]) hx hb hml hown hts hK (c_X10_mark l g a0 v0_papers v0_raw v0_kind v0_figure v0_heavy v0_place v0_rules v0_lower v0_upper v0_limits v0_limit v0_ties v0_letter v0_letters v0_told v0_tolds v0_places v0_cell v0_refusals v0_imaged v0_hasImage v0_before x29.1 x29.2.1 x29.2.2.1 v0_numberUp v0_numberDown v0_block v0_blocks v0_merged x29.2.2.2.1 x29.2.2.2.2 v0_said v0_saids v0_at v0_number p2 (bnd_ne hf)) svV_X10_mark kw1421 rfl rfl hPc hDc hSc rfl rfl hl.1 (Nat.le_of_ble_eq_true rfl) dX10_likely_185 ⟨Nat.le_of_ble_eq_true rfl, Nat.le_of_ble_eq_true rfl, rfl, rfl, Nat.le_of_ble_eq_true rfl, Nat.le_of_ble_eq_true rfl⟩) [(0, 22)] rfl rfl rfl (fun x30 H locs ex30 nx30 hP hS => ?_)
              have hf := bnd_of hf ex30
              refine lv_icmp_ne (tgt := 206) hx hb dX10_likely_188 (by decide) (fun cb => ?_) (fun cb => ?_)
              · have hf := it_f cb hf
                refine lv_lconst (v := 0) hx hb dX10_likely_206 (by decide) ?_
                refine lv_ladd hx hb dX10_likely_207 ?_
                refine lv_lstore (lv' := [(6, .long (x16 + (0 : Int64))), (0, .ref (a0 0)), (1, .int p1), (2, .int p2), (3, .int p3), (4, .int p4), (5, .int x4), (8, .long r7), (10, .int x17), (11, .long r27)]) hx hb dX10_likely_208 hl (by decide) rfl (fun ls hl => ?_)
                refine lv_iinc (v := (x17 + 1)) (lv' := [(10, .int (x17 + 1)), (6, .long (x16 + (0 : Int64))), (0, .ref (a0 0)), (1, .int p1), (2, .int p2), (3, .int p3), (4, .int p4), (5, .int x4), (8, .long r7), (11, .long r27)]) hx hb dX10_likely_210 hl (k := 8) rfl (by rfl) (by decide) rfl (fun ls hl => ?_)
                refine lv_goto (tgt := 110) hx hb dX10_likely_213 (by decide) ?_
                exact hB _ (Option.some.inj hf).symm _ _ _ hP hD hS (lv_sub hl [2, 3, 4, 5, 6, 7, 1, 8, 0] rfl)
              have hf := it_t cb hf
              refine lv_aload_n hx hb dX10_likely_191 rfl (lv_at hl 0 rfl) ?_
              refine va_get (D := g.1) (ci := 11) (v := .ref (a0 19)) (C := RX10) (T := TX10) (N := 36) hx hb hts layX10 hown hK.1 hP 0 rfl rfl 31 (by decide) (hts _ kw1308) (fun _ h9 => h9) rfl dX10_likely_192 ?_
              refine lv_iload_n hx hb dX10_likely_195 rfl (lv_at hl 2 rfl) ?_
              have hi := it_n hf
              have hf := it_t hi hf
              refine va_iald hx hb hK.1 hP 19 0 rfl rfl (inb_in hi) dX10_likely_196 ?_
              refine lv_iconst (v := 1) hx hb dX10_likely_197 (by decide) ?_
              refine lv_icmp_ne (tgt := 206) hx hb dX10_likely_198 (by decide) (fun cb => ?_) (fun cb => ?_)
              · have hf := it_f cb hf
                refine lv_lconst (v := 0) hx hb dX10_likely_206 (by decide) ?_
                refine lv_ladd hx hb dX10_likely_207 ?_
                refine lv_lstore (lv' := [(6, .long (x16 + (0 : Int64))), (0, .ref (a0 0)), (1, .int p1), (2, .int p2), (3, .int p3), (4, .int p4), (5, .int x4), (8, .long r7), (10, .int x17), (11, .long r27)]) hx hb dX10_likely_208 hl (by decide) rfl (fun ls hl => ?_)
                refine lv_iinc (v := (x17 + 1)) (lv' := [(10, .int (x17 + 1)), (6, .long (x16 + (0 : Int64))), (0, .ref (a0 0)), (1, .int p1), (2, .int p2), (3, .int p3), (4, .int p4), (5, .int x4), (8, .long r7), (11, .long r27)]) hx hb dX10_likely_210 hl (k := 8) rfl (by rfl) (by decide) rfl (fun ls hl => ?_)
                refine lv_goto (tgt := 110) hx hb dX10_likely_213 (by decide) ?_
                exact hB _ (Option.some.inj hf).symm _ _ _ hP hD hS (lv_sub hl [2, 3, 4, 5, 6, 7, 1, 8, 0] rfl)
              have hf := it_t cb hf
              refine lv_lload hx hb dX10_likely_201 (lv_at hl 9 rfl) ?_
              refine lv_goto (tgt := 207) hx hb dX10_likely_203 (by decide) ?_
              refine lv_ladd hx hb dX10_likely_207 ?_
              refine lv_lstore (lv' := [(6, .long (x16 + r27)), (0, .ref (a0 0)), (1, .int p1), (2, .int p2), (3, .int p3), (4, .int p4), (5, .int x4), (8, .long r7), (10, .int x17), (11, .long r27)]) hx hb dX10_likely_208 hl (by decide) rfl (fun ls hl => ?_)
              refine lv_iinc (v := (x17 + 1)) (lv' := [(10, .int (x17 + 1)), (6, .long (x16 + r27)), (0, .ref (a0 0)), (1, .int p1), (2, .int p2), (3, .int p3), (4, .int p4), (5, .int x4), (8, .long r7), (11, .long r27)]) hx hb dX10_likely_210 hl (k := 8) rfl (by rfl) (by decide) rfl (fun ls hl => ?_)
              refine lv_goto (tgt := 110) hx hb dX10_likely_213 (by decide) ?_
              exact hB _ (Option.some.inj hf).symm _ _ _ hP hD hS (lv_sub hl [2, 3, 4, 5, 6, 7, 1, 8, 0] rfl)
            intro H locs ls hP hD hS hl
            have hP : va_P g.1 vwCl (wX10 a0 g v0_papers v0_raw v0_kind v0_figure v0_heavy v0_place v0_rules v0_lower v0_upper v0_limits v0_limit v0_ties v0_letter v0_letters v0_told v0_tolds v0_places v0_cell v0_refusals v0_imaged v0_hasImage v0_before r31.2.1 r31.2.2.1 r31.2.2.2.1 v0_numberUp v0_numberDown v0_block v0_blocks v0_merged r31.2.2.2.2.1 r31.2.2.2.2.2 v0_said v0_saids v0_at v0_number) H := hP
            have hD : va_D A (wX10 a0 g v0_papers v0_raw v0_kind v0_figure v0_heavy v0_place v0_rules v0_lower v0_upper v0_limits v0_limit v0_ties v0_letter v0_letters v0_told v0_tolds v0_places v0_cell v0_refusals v0_imaged v0_hasImage v0_before r31.2.1 r31.2.2.1 r31.2.2.2.1 v0_numberUp v0_numberDown v0_block v0_blocks v0_merged r31.2.2.2.2.1 r31.2.2.2.2.2 v0_said v0_saids v0_at v0_number) := hD
            have hl : lv_has ls 14 [(0, .ref (a0 0)), (4, .int p4), (6, .long r31.1), (8, .long r7)] := hl
            refine lv_aload_n hx hb dX10_likely_216 rfl (lv_at hl 0 rfl) ?_
            refine lv_lload hx hb dX10_likely_217 (lv_at hl 2 rfl) ?_
            refine lv_lload hx hb dX10_likely_219 (lv_at hl 3 rfl) ?_
            refine cV hP hD hS hA hE (fun hPc hDc hSc => rV (As := [.long r31.1, .long r7]) (rest := []) hx hb hml hown hts hK (c_X10_fraction l g a0 v0_papers v0_raw v0_kind v0_figure v0_heavy v0_place v0_rules v0_lower v0_upper v0_limits v0_limit v0_ties v0_letter v0_letters v0_told v0_tolds v0_places v0_cell v0_refusals v0_imaged v0_hasImage v0_before r31.2.1 r31.2.2.1 r31.2.2.2.1 v0_numberUp v0_numberDown v0_block v0_blocks v0_merged r31.2.2.2.2.1 r31.2.2.2.2.2 v0_said v0_saids v0_at v0_number r31.1 r7 (bnd_ne hf)) svV_X10_fraction kw1510 rfl rfl hPc hDc hSc rfl rfl hl.1 (Nat.le_of_ble_eq_true rfl) dX10_likely_221 ⟨Nat.le_of_ble_eq_true rfl, Nat.le_of_ble_eq_true rfl, rfl, rfl, Nat.le_of_ble_eq_true rfl, Nat.le_of_ble_eq_true rfl⟩) [(0, 22)] rfl rfl rfl (fun _ => rfl) (fun x32 H locs ex32 hP hD hS => ?_)
            have hf := bnd_of hf ex32
            have hP : va_P g.1 vwCl (wX10 a0 g v0_papers v0_raw v0_kind v0_figure v0_heavy v0_place v0_rules v0_lower v0_upper v0_limits v0_limit v0_ties v0_letter v0_letters v0_told v0_tolds v0_places v0_cell v0_refusals v0_imaged v0_hasImage v0_before x32.1 x32.2 r31.2.2.2.1 v0_numberUp v0_numberDown v0_block v0_blocks v0_merged r31.2.2.2.2.1 r31.2.2.2.2.2 v0_said v0_saids v0_at v0_number) H := hP
            have hD : va_D A (wX10 a0 g v0_papers v0_raw v0_kind v0_figure v0_heavy v0_place v0_rules v0_lower v0_upper v0_limits v0_limit v0_ties v0_letter v0_letters v0_told v0_tolds v0_places v0_cell v0_refusals v0_imaged v0_hasImage v0_before x32.1 x32.2 r31.2.2.2.1 v0_numberUp v0_numberDown v0_block v0_blocks v0_merged r31.2.2.2.2.1 r31.2.2.2.2.2 v0_said v0_saids v0_at v0_number) := hD
            refine lv_aload_n hx hb dX10_likely_224 rfl (lv_at hl 0 rfl) ?_
            refine lv_iload hx hb dX10_likely_225 (lv_at hl 1 rfl) ?_
            refine cLp hP hD hS hA hE (fun hPc hDc hSc => rV (As := [.int p4]) (rest := []) hx hb hml hown hts hK (c_X10_part l g a0 v0_papers v0_raw v0_kind v0_figure v0_heavy v0_place v0_rules v0_lower v0_upper v0_limits v0_limit v0_ties v0_letter v0_letters v0_told v0_tolds v0_places v0_cell v0_refusals v0_imaged v0_hasImage v0_before x32.1 x32.2 r31.2.2.2.1 v0_numberUp v0_numberDown v0_block v0_blocks v0_merged r31.2.2.2.2.1 r31.2.2.2.2.2 v0_said v0_saids v0_at v0_number p4 (bnd_ne hf)) svV_X10_part kw1519 rfl rfl hPc hDc hSc rfl rfl hl.1 (Nat.le_of_ble_eq_true rfl) dX10_likely_227 ⟨Nat.le_of_ble_eq_true rfl, Nat.le_of_ble_eq_true rfl, rfl, rfl, Nat.le_of_ble_eq_true rfl, Nat.le_of_ble_eq_true rfl⟩) [(0, 22)] rfl rfl rfl (fun x33 H locs ex33 hP hS => ?_)
            have hf := bnd_of hf ex33
            exact retL (u := (x33, v0_refusals, x32.1, x32.2, r31.2.2.2.1, r31.2.2.2.2.1, r31.2.2.2.2.2)) (val := fun u => u.1) (W1 := fun u => wX10 a0 g v0_papers v0_raw v0_kind v0_figure v0_heavy v0_place v0_rules v0_lower v0_upper v0_limits v0_limit v0_ties v0_letter v0_letters v0_told v0_tolds v0_places v0_cell u.2.1 v0_imaged v0_hasImage v0_before u.2.2.1 u.2.2.2.1 u.2.2.2.2.1 v0_numberUp v0_numberDown v0_block v0_blocks v0_merged u.2.2.2.2.2.1 u.2.2.2.2.2.2 v0_said v0_saids v0_at v0_number) hx hb hr hlocks hS hP hD (hf0.trans hf.symm) rfl dX10_likely_230
          have hf := it_t cb hf
          refine lv_aload_n hx hb dX10_likely_61 rfl (lv_at hl 0 rfl) ?_
          refine lv_bipush (v := (-2)) hx hb dX10_likely_62 (by decide) ?_
          refine cL hP hD hS hA hE (fun hPc hDc hSc => rV (As := [.int (-2 : Int32)]) (rest := []) hx hb hml hown hts hK (c_X10_far l g a0 v0_papers v0_raw v0_kind v0_figure v0_heavy v0_place v0_rules v0_lower v0_upper v0_limits v0_limit v0_ties v0_letter v0_letters v0_told v0_tolds v0_places v0_cell v0_refusals v0_imaged v0_hasImage v0_before v0_up v0_down v0_beneath v0_numberUp v0_numberDown v0_block v0_blocks v0_merged v0_valueUp v0_valueDown v0_said v0_saids v0_at v0_number (-2 : Int32) (bnd_ne hf)) svV_X10_far kw1467 rfl rfl hPc hDc hSc rfl rfl hl.1 (Nat.le_of_ble_eq_true rfl) dX10_likely_64 ⟨Nat.le_of_ble_eq_true rfl, Nat.le_of_ble_eq_true rfl, rfl, rfl, Nat.le_of_ble_eq_true rfl, Nat.le_of_ble_eq_true rfl⟩) [(0, 22)] rfl rfl rfl (fun _ => rfl) (fun x34 H locs ex34 hP hD hS => ?_)
          have hf := bnd_of hf ex34
          have hP : va_P g.1 vwCl (wX10 a0 g v0_papers v0_raw v0_kind v0_figure v0_heavy v0_place v0_rules v0_lower v0_upper v0_limits v0_limit v0_ties v0_letter v0_letters v0_told v0_tolds v0_places v0_cell x34.2 v0_imaged v0_hasImage v0_before v0_up v0_down v0_beneath v0_numberUp v0_numberDown v0_block v0_blocks v0_merged v0_valueUp v0_valueDown v0_said v0_saids v0_at v0_number) H := hP
          have hD : va_D A (wX10 a0 g v0_papers v0_raw v0_kind v0_figure v0_heavy v0_place v0_rules v0_lower v0_upper v0_limits v0_limit v0_ties v0_letter v0_letters v0_told v0_tolds v0_places v0_cell x34.2 v0_imaged v0_hasImage v0_before v0_up v0_down v0_beneath v0_numberUp v0_numberDown v0_block v0_blocks v0_merged v0_valueUp v0_valueDown v0_said v0_saids v0_at v0_number) := hD
          exact retL (u := (x34.1, x34.2, v0_up, v0_down, v0_beneath, v0_valueUp, v0_valueDown)) (val := fun u => u.1) (W1 := fun u => wX10 a0 g v0_papers v0_raw v0_kind v0_figure v0_heavy v0_place v0_rules v0_lower v0_upper v0_limits v0_limit v0_ties v0_letter v0_letters v0_told v0_tolds v0_places v0_cell u.2.1 v0_imaged v0_hasImage v0_before u.2.2.1 u.2.2.2.1 u.2.2.2.2.1 v0_numberUp v0_numberDown v0_block v0_blocks v0_merged u.2.2.2.2.2.1 u.2.2.2.2.2.2 v0_said v0_saids v0_at v0_number) hx hb hr hlocks hS hP hD (hf0.trans hf.symm) rfl dX10_likely_67
        have hf := it_f cb hf
        refine lv_aload_n hx hb dX10_likely_46 rfl (lv_at hl 0 rfl) ?_
        refine lv_bipush (v := (-6)) hx hb dX10_likely_47 (by decide) ?_
        refine cL hP hD hS hA hE (fun hPc hDc hSc => rV (As := [.int (-6 : Int32)]) (rest := []) hx hb hml hown hts hK (c_X10_far l g a0 v0_papers v0_raw v0_kind v0_figure v0_heavy v0_place v0_rules v0_lower v0_upper v0_limits v0_limit v0_ties v0_letter v0_letters v0_told v0_tolds v0_places v0_cell v0_refusals v0_imaged v0_hasImage v0_before v0_up v0_down v0_beneath v0_numberUp v0_numberDown v0_block v0_blocks v0_merged v0_valueUp v0_valueDown v0_said v0_saids v0_at v0_number (-6 : Int32) (bnd_ne hf)) svV_X10_far kw1467 rfl rfl hPc hDc hSc rfl rfl hl.1 (Nat.le_of_ble_eq_true rfl) dX10_likely_49 ⟨Nat.le_of_ble_eq_true rfl, Nat.le_of_ble_eq_true rfl, rfl, rfl, Nat.le_of_ble_eq_true rfl, Nat.le_of_ble_eq_true rfl⟩) [(0, 22)] rfl rfl rfl (fun _ => rfl) (fun x35 H locs ex35 hP hD hS => ?_)
        have hf := bnd_of hf ex35
        have hP : va_P g.1 vwCl (wX10 a0 g v0_papers v0_raw v0_kind v0_figure v0_heavy v0_place v0_rules v0_lower v0_upper v0_limits v0_limit v0_ties v0_letter v0_letters v0_told v0_tolds v0_places v0_cell x35.2 v0_imaged v0_hasImage v0_before v0_up v0_down v0_beneath v0_numberUp v0_numberDown v0_block v0_blocks v0_merged v0_valueUp v0_valueDown v0_said v0_saids v0_at v0_number) H := hP
        have hD : va_D A (wX10 a0 g v0_papers v0_raw v0_kind v0_figure v0_heavy v0_place v0_rules v0_lower v0_upper v0_limits v0_limit v0_ties v0_letter v0_letters v0_told v0_tolds v0_places v0_cell x35.2 v0_imaged v0_hasImage v0_before v0_up v0_down v0_beneath v0_numberUp v0_numberDown v0_block v0_blocks v0_merged v0_valueUp v0_valueDown v0_said v0_saids v0_at v0_number) := hD
        exact retL (u := (x35.1, x35.2, v0_up, v0_down, v0_beneath, v0_valueUp, v0_valueDown)) (val := fun u => u.1) (W1 := fun u => wX10 a0 g v0_papers v0_raw v0_kind v0_figure v0_heavy v0_place v0_rules v0_lower v0_upper v0_limits v0_limit v0_ties v0_letter v0_letters v0_told v0_tolds v0_places v0_cell u.2.1 v0_imaged v0_hasImage v0_before u.2.2.1 u.2.2.2.1 u.2.2.2.2.1 v0_numberUp v0_numberDown v0_block v0_blocks v0_merged u.2.2.2.2.2.1 u.2.2.2.2.2.2 v0_said v0_saids v0_at v0_number) hx hb hr hlocks hS hP hD (hf0.trans hf.symm) rfl dX10_likely_52
      have hf := it_f cb hf
      refine lv_aload_n hx hb dX10_likely_33 rfl (lv_at hl 0 rfl) ?_
      refine lv_bipush (v := (-4)) hx hb dX10_likely_34 (by decide) ?_
      refine cL hP hD hS hA hE (fun hPc hDc hSc => rV (As := [.int (-4 : Int32)]) (rest := []) hx hb hml hown hts hK (c_X10_far l g a0 v0_papers v0_raw v0_kind v0_figure v0_heavy v0_place v0_rules v0_lower v0_upper v0_limits v0_limit v0_ties v0_letter v0_letters v0_told v0_tolds v0_places v0_cell v0_refusals v0_imaged v0_hasImage v0_before v0_up v0_down v0_beneath v0_numberUp v0_numberDown v0_block v0_blocks v0_merged v0_valueUp v0_valueDown v0_said v0_saids v0_at v0_number (-4 : Int32) (bnd_ne hf)) svV_X10_far kw1467 rfl rfl hPc hDc hSc rfl rfl hl.1 (Nat.le_of_ble_eq_true rfl) dX10_likely_36 ⟨Nat.le_of_ble_eq_true rfl, Nat.le_of_ble_eq_true rfl, rfl, rfl, Nat.le_of_ble_eq_true rfl, Nat.le_of_ble_eq_true rfl⟩) [(0, 22)] rfl rfl rfl (fun _ => rfl) (fun x36 H locs ex36 hP hD hS => ?_)
      have hf := bnd_of hf ex36
      have hP : va_P g.1 vwCl (wX10 a0 g v0_papers v0_raw v0_kind v0_figure v0_heavy v0_place v0_rules v0_lower v0_upper v0_limits v0_limit v0_ties v0_letter v0_letters v0_told v0_tolds v0_places v0_cell x36.2 v0_imaged v0_hasImage v0_before v0_up v0_down v0_beneath v0_numberUp v0_numberDown v0_block v0_blocks v0_merged v0_valueUp v0_valueDown v0_said v0_saids v0_at v0_number) H := hP
      have hD : va_D A (wX10 a0 g v0_papers v0_raw v0_kind v0_figure v0_heavy v0_place v0_rules v0_lower v0_upper v0_limits v0_limit v0_ties v0_letter v0_letters v0_told v0_tolds v0_places v0_cell x36.2 v0_imaged v0_hasImage v0_before v0_up v0_down v0_beneath v0_numberUp v0_numberDown v0_block v0_blocks v0_merged v0_valueUp v0_valueDown v0_said v0_saids v0_at v0_number) := hD
      exact retL (u := (x36.1, x36.2, v0_up, v0_down, v0_beneath, v0_valueUp, v0_valueDown)) (val := fun u => u.1) (W1 := fun u => wX10 a0 g v0_papers v0_raw v0_kind v0_figure v0_heavy v0_place v0_rules v0_lower v0_upper v0_limits v0_limit v0_ties v0_letter v0_letters v0_told v0_tolds v0_places v0_cell u.2.1 v0_imaged v0_hasImage v0_before u.2.2.1 u.2.2.2.1 u.2.2.2.2.1 v0_numberUp v0_numberDown v0_block v0_blocks v0_merged u.2.2.2.2.2.1 u.2.2.2.2.2.2 v0_said v0_saids v0_at v0_number) hx hb hr hlocks hS hP hD (hf0.trans hf.symm) rfl dX10_likely_39
    have hf := it_t cb hf
    refine lv_aload_n hx hb dX10_likely_22 rfl (lv_at hl 0 rfl) ?_
    refine lv_iconst (v := (-1)) hx hb dX10_likely_23 (by decide) ?_
    refine cL hP hD hS hA hE (fun hPc hDc hSc => rV (As := [.int (-1 : Int32)]) (rest := []) hx hb hml hown hts hK (c_X10_far l g a0 v0_papers v0_raw v0_kind v0_figure v0_heavy v0_place v0_rules v0_lower v0_upper v0_limits v0_limit v0_ties v0_letter v0_letters v0_told v0_tolds v0_places v0_cell v0_refusals v0_imaged v0_hasImage v0_before v0_up v0_down v0_beneath v0_numberUp v0_numberDown v0_block v0_blocks v0_merged v0_valueUp v0_valueDown v0_said v0_saids v0_at v0_number (-1 : Int32) (bnd_ne hf)) svV_X10_far kw1467 rfl rfl hPc hDc hSc rfl rfl hl.1 (Nat.le_of_ble_eq_true rfl) dX10_likely_24 ⟨Nat.le_of_ble_eq_true rfl, Nat.le_of_ble_eq_true rfl, rfl, rfl, Nat.le_of_ble_eq_true rfl, Nat.le_of_ble_eq_true rfl⟩) [(0, 22)] rfl rfl rfl (fun _ => rfl) (fun x37 H locs ex37 hP hD hS => ?_)
    have hf := bnd_of hf ex37
    have hP : va_P g.1 vwCl (wX10 a0 g v0_papers v0_raw v0_kind v0_figure v0_heavy v0_place v0_rules v0_lower v0_upper v0_limits v0_limit v0_ties v0_letter v0_letters v0_told v0_tolds v0_places v0_cell x37.2 v0_imaged v0_hasImage v0_before v0_up v0_down v0_beneath v0_numberUp v0_numberDown v0_block v0_blocks v0_merged v0_valueUp v0_valueDown v0_said v0_saids v0_at v0_number) H := hP
    have hD : va_D A (wX10 a0 g v0_papers v0_raw v0_kind v0_figure v0_heavy v0_place v0_rules v0_lower v0_upper v0_limits v0_limit v0_ties v0_letter v0_letters v0_told v0_tolds v0_places v0_cell x37.2 v0_imaged v0_hasImage v0_before v0_up v0_down v0_beneath v0_numberUp v0_numberDown v0_block v0_blocks v0_merged v0_valueUp v0_valueDown v0_said v0_saids v0_at v0_number) := hD
    exact retL (u := (x37.1, x37.2, v0_up, v0_down, v0_beneath, v0_valueUp, v0_valueDown)) (val := fun u => u.1) (W1 := fun u => wX10 a0 g v0_papers v0_raw v0_kind v0_figure v0_heavy v0_place v0_rules v0_lower v0_upper v0_limits v0_limit v0_ties v0_letter v0_letters v0_told v0_tolds v0_places v0_cell u.2.1 v0_imaged v0_hasImage v0_before u.2.2.1 u.2.2.2.1 u.2.2.2.2.1 v0_numberUp v0_numberDown v0_block v0_blocks v0_merged u.2.2.2.2.2.1 u.2.2.2.2.2.2 v0_said v0_saids v0_at v0_number) hx hb hr hlocks hS hP hD (hf0.trans hf.symm) rfl dX10_likely_27
  have hf := it_t cb hf
  refine lv_aload_n hx hb dX10_likely_7 rfl (lv_at hl 0 rfl) ?_
  refine lv_bipush (v := (-2)) hx hb dX10_likely_8 (by decide) ?_
  refine cL hP hD hS hA hE (fun hPc hDc hSc => rV (As := [.int (-2 : Int32)]) (rest := []) hx hb hml hown hts hK (c_X10_far l g a0 v0_papers v0_raw v0_kind v0_figure v0_heavy v0_place v0_rules v0_lower v0_upper v0_limits v0_limit v0_ties v0_letter v0_letters v0_told v0_tolds v0_places v0_cell v0_refusals v0_imaged v0_hasImage v0_before v0_up v0_down v0_beneath v0_numberUp v0_numberDown v0_block v0_blocks v0_merged v0_valueUp v0_valueDown v0_said v0_saids v0_at v0_number (-2 : Int32) (bnd_ne hf)) svV_X10_far kw1467 rfl rfl hPc hDc hSc rfl rfl hl.1 (Nat.le_of_ble_eq_true rfl) dX10_likely_10 ⟨Nat.le_of_ble_eq_true rfl, Nat.le_of_ble_eq_true rfl, rfl, rfl, Nat.le_of_ble_eq_true rfl, Nat.le_of_ble_eq_true rfl⟩) [(0, 22)] rfl rfl rfl (fun _ => rfl) (fun x38 H locs ex38 hP hD hS => ?_)
  have hf := bnd_of hf ex38
  have hP : va_P g.1 vwCl (wX10 a0 g v0_papers v0_raw v0_kind v0_figure v0_heavy v0_place v0_rules v0_lower v0_upper v0_limits v0_limit v0_ties v0_letter v0_letters v0_told v0_tolds v0_places v0_cell x38.2 v0_imaged v0_hasImage v0_before v0_up v0_down v0_beneath v0_numberUp v0_numberDown v0_block v0_blocks v0_merged v0_valueUp v0_valueDown v0_said v0_saids v0_at v0_number) H := hP
  have hD : va_D A (wX10 a0 g v0_papers v0_raw v0_kind v0_figure v0_heavy v0_place v0_rules v0_lower v0_upper v0_limits v0_limit v0_ties v0_letter v0_letters v0_told v0_tolds v0_places v0_cell x38.2 v0_imaged v0_hasImage v0_before v0_up v0_down v0_beneath v0_numberUp v0_numberDown v0_block v0_blocks v0_merged v0_valueUp v0_valueDown v0_said v0_saids v0_at v0_number) := hD
  exact retL (u := (x38.1, x38.2, v0_up, v0_down, v0_beneath, v0_valueUp, v0_valueDown)) (val := fun u => u.1) (W1 := fun u => wX10 a0 g v0_papers v0_raw v0_kind v0_figure v0_heavy v0_place v0_rules v0_lower v0_upper v0_limits v0_limit v0_ties v0_letter v0_letters v0_told v0_tolds v0_places v0_cell u.2.1 v0_imaged v0_hasImage v0_before u.2.2.1 u.2.2.2.1 u.2.2.2.2.1 v0_numberUp v0_numberDown v0_block v0_blocks v0_merged u.2.2.2.2.2.1 u.2.2.2.2.2.2 v0_said v0_saids v0_at v0_number) hx hb hr hlocks hS hP hD (hf0.trans hf.symm) rfl dX10_likely_13
set_option maxHeartbeats 4000000 in
set_option maxRecDepth 100000 in
theorem c_X10_say (l : Launch) (g : GG) (a0 : Nat → Nat) (v0_papers : Int32) (v0_raw : (Nat → Int32)) (v0_kind : (Nat → Int32)) (v0_figure : (Nat → Int32)) (v0_heavy : (Nat → Int32)) (v0_place : (Nat → Int32)) (v0_rules : Int32) (v0_lower : (Nat → Int32)) (v0_upper : (Nat → Int32)) (v0_limits : Int32) (v0_limit : (Nat → Int32)) (v0_ties : Int32) (v0_letter : (Nat → Int32)) (v0_letters : Int32) (v0_told : (Nat → Int32)) (v0_tolds : Int32) (v0_places : (Nat → Int32)) (v0_cell : (Nat → Int64)) (v0_refusals : (Nat → Int32)) (v0_imaged : (Nat → Int32)) (v0_hasImage : Int32) (v0_before : (Nat → Int32)) (v0_up : Int64) (v0_down : Int64) (v0_beneath : (Nat → Int32)) (v0_numberUp : Int32) (v0_numberDown : Int32) (v0_block : (Nat → Int32)) (v0_blocks : Int32) (v0_merged : Int32) (v0_valueUp : (Nat → Int32)) (v0_valueDown : (Nat → Int32)) (v0_said : (Nat → Int32)) (v0_saids : Int32) (v0_at : Int32) (v0_number : (Nat → Int32)) (p1 : Int32) (hne : (m_X10_say (v0_papers, v0_raw, v0_kind, v0_figure, v0_heavy, v0_place, v0_rules, v0_lower, v0_upper, v0_limits, v0_limit, v0_ties, v0_letter, v0_letters, v0_told, v0_tolds, v0_places, v0_cell, v0_refusals, v0_imaged, v0_hasImage, v0_before, v0_up, v0_down, v0_beneath, v0_numberUp, v0_numberDown, v0_block, v0_blocks, v0_merged, v0_valueUp, v0_valueDown, v0_said, v0_saids, v0_at, v0_number) p1) ≠ none) : Ct l g yX10_say cX10_say 2 none ({ frames := 0, cells := 0, slots := 0, locals := 0 } : Room) [.ref (a0 0), .int p1] (wX10 a0 g v0_papers v0_raw v0_kind v0_figure v0_heavy v0_place v0_rules v0_lower v0_upper v0_limits v0_limit v0_ties v0_letter v0_letters v0_told v0_tolds v0_places v0_cell v0_refusals v0_imaged v0_hasImage v0_before v0_up v0_down v0_beneath v0_numberUp v0_numberDown v0_block v0_blocks v0_merged v0_valueUp v0_valueDown v0_said v0_saids v0_at v0_number) (Qv g (m_X10_say (v0_papers, v0_raw, v0_kind, v0_figure, v0_heavy, v0_place, v0_rules, v0_lower, v0_upper, v0_limits, v0_limit, v0_ties, v0_letter, v0_letters, v0_told, v0_tolds, v0_places, v0_cell, v0_refusals, v0_imaged, v0_hasImage, v0_before, v0_up, v0_down, v0_beneath, v0_numberUp, v0_numberDown, v0_block, v0_blocks, v0_merged, v0_valueUp, v0_valueDown, v0_said, v0_saids, v0_at, v0_number) p1) (fun u => wX10 a0 g v0_papers v0_raw v0_kind v0_figure v0_heavy v0_place v0_rules v0_lower v0_upper v0_limits v0_limit v0_ties v0_letter v0_letters v0_told v0_tolds v0_places v0_cell v0_refusals v0_imaged v0_hasImage v0_before v0_up v0_down v0_beneath v0_numberUp v0_numberDown v0_block v0_blocks v0_merged v0_valueUp v0_valueDown u.1 u.2 v0_at v0_number)) 0 0 := by
  obtain ⟨out, hf⟩ := ne_ex hne
  have hf0 := hf
  refine Ct.of (own := RX10) (by decide +kernel) rfl (Nat.le_of_ble_eq_true rfl) ?_
  intro p e s m below meth c hx hb hr hml hown hts hlocks hin hK A H locs hA hP hD hS hE ls hl
  have hl : lv_has ls 2 [(0, .ref (a0 0)), (1, .int p1)] := hl
  unfold m_X10_say at hf
  refine lv_aload_n hx hb dX10_say_0 rfl (lv_at hl 0 rfl) ?_
  refine va_get (D := g.1) (ci := 11) (v := .ref (a0 20)) (C := RX10) (T := TX10) (N := 36) hx hb hts layX10 hown hK.1 hP 0 rfl rfl 32 (by decide) (hts _ kw1309) (fun _ h9 => h9) rfl dX10_say_1 ?_
  refine lv_aload_n hx hb dX10_say_4 rfl (lv_at hl 0 rfl) ?_
  refine va_get (D := g.1) (ci := 11) (v := .int v0_saids) (C := RX10) (T := TX10) (N := 36) hx hb hts layX10 hown hK.1 hP 0 rfl rfl 33 (by decide) (hts _ kw1310) (fun _ h9 => h9) rfl dX10_say_5 ?_
  refine lv_iload_n hx hb dX10_say_8 rfl (lv_at hl 1 rfl) ?_
  have hi := it_n hf
  have hf := it_t hi hf
  refine va_iast hx hb hK.1 hP hD hS 20 0 rfl rfl (inb_in hi) dX10_say_9 (fun H locs hP hD hS => ?_)
  have hP : va_P g.1 vwCl (wX10 a0 g v0_papers v0_raw v0_kind v0_figure v0_heavy v0_place v0_rules v0_lower v0_upper v0_limits v0_limit v0_ties v0_letter v0_letters v0_told v0_tolds v0_places v0_cell v0_refusals v0_imaged v0_hasImage v0_before v0_up v0_down v0_beneath v0_numberUp v0_numberDown v0_block v0_blocks v0_merged v0_valueUp v0_valueDown (upd v0_said v0_saids.toNatClampNeg p1) v0_saids v0_at v0_number) H := hP
  have hD : va_D A (wX10 a0 g v0_papers v0_raw v0_kind v0_figure v0_heavy v0_place v0_rules v0_lower v0_upper v0_limits v0_limit v0_ties v0_letter v0_letters v0_told v0_tolds v0_places v0_cell v0_refusals v0_imaged v0_hasImage v0_before v0_up v0_down v0_beneath v0_numberUp v0_numberDown v0_block v0_blocks v0_merged v0_valueUp v0_valueDown (upd v0_said v0_saids.toNatClampNeg p1) v0_saids v0_at v0_number) := hD
  refine lv_aload_n hx hb dX10_say_10 rfl (lv_at hl 0 rfl) ?_
  refine lv_dup hx hb dX10_say_11 rfl ?_
  refine va_get (D := g.1) (ci := 11) (v := .int v0_saids) (C := RX10) (T := TX10) (N := 36) hx hb hts layX10 hown hK.1 hP 0 rfl rfl 33 (by decide) (hts _ kw1310) (fun _ h9 => h9) rfl dX10_say_12 ?_
  refine lv_iconst (v := 1) hx hb dX10_say_15 (by decide) ?_
  refine lv_iadd hx hb dX10_say_16 ?_
  refine va_put (D := g.1) (ci := 11) (v := .int (v0_saids + (1 : Int32))) (ty := .int) (C := RX10) (T := TX10) (N := 36) hx hb hts layX10 tyX10 tyX10_ok nmX10 hown hK.1 hP hD hS 0 rfl rfl 33 (by decide) (hts _ kw1310) (fun _ h9 => h9) rfl (tyX10_ok 33 (by decide)) rfl rfl (Nat.le_of_ble_eq_true rfl) dX10_say_17 (fun H locs hP hD hS => ?_)
  have hP : va_P g.1 vwCl (wX10 a0 g v0_papers v0_raw v0_kind v0_figure v0_heavy v0_place v0_rules v0_lower v0_upper v0_limits v0_limit v0_ties v0_letter v0_letters v0_told v0_tolds v0_places v0_cell v0_refusals v0_imaged v0_hasImage v0_before v0_up v0_down v0_beneath v0_numberUp v0_numberDown v0_block v0_blocks v0_merged v0_valueUp v0_valueDown (upd v0_said v0_saids.toNatClampNeg p1) (v0_saids + (1 : Int32)) v0_at v0_number) H := hP
  have hD : va_D A (wX10 a0 g v0_papers v0_raw v0_kind v0_figure v0_heavy v0_place v0_rules v0_lower v0_upper v0_limits v0_limit v0_ties v0_letter v0_letters v0_told v0_tolds v0_places v0_cell v0_refusals v0_imaged v0_hasImage v0_before v0_up v0_down v0_beneath v0_numberUp v0_numberDown v0_block v0_blocks v0_merged v0_valueUp v0_valueDown (upd v0_said v0_saids.toNatClampNeg p1) (v0_saids + (1 : Int32)) v0_at v0_number) := hD
  exact retV (u := ((upd v0_said v0_saids.toNatClampNeg p1), (v0_saids + (1 : Int32)))) (W1 := fun u => wX10 a0 g v0_papers v0_raw v0_kind v0_figure v0_heavy v0_place v0_rules v0_lower v0_upper v0_limits v0_limit v0_ties v0_letter v0_letters v0_told v0_tolds v0_places v0_cell v0_refusals v0_imaged v0_hasImage v0_before v0_up v0_down v0_beneath v0_numberUp v0_numberDown v0_block v0_blocks v0_merged v0_valueUp v0_valueDown u.1 u.2 v0_at v0_number) hx hb hr hlocks hS hP hD (hf0.trans hf.symm) dX10_say_20
set_option maxHeartbeats 4000000 in
set_option maxRecDepth 100000 in
theorem c_X10_sayNumber (l : Launch) (g : GG) (a0 : Nat → Nat) (v0_papers : Int32) (v0_raw : (Nat → Int32)) (v0_kind : (Nat → Int32)) (v0_figure : (Nat → Int32)) (v0_heavy : (Nat → Int32)) (v0_place : (Nat → Int32)) (v0_rules : Int32) (v0_lower : (Nat → Int32)) (v0_upper : (Nat → Int32)) (v0_limits : Int32) (v0_limit : (Nat → Int32)) (v0_ties : Int32) (v0_letter : (Nat → Int32)) (v0_letters : Int32) (v0_told : (Nat → Int32)) (v0_tolds : Int32) (v0_places : (Nat → Int32)) (v0_cell : (Nat → Int64)) (v0_refusals : (Nat → Int32)) (v0_imaged : (Nat → Int32)) (v0_hasImage : Int32) (v0_before : (Nat → Int32)) (v0_up : Int64) (v0_down : Int64) (v0_beneath : (Nat → Int32)) (v0_numberUp : Int32) (v0_numberDown : Int32) (v0_block : (Nat → Int32)) (v0_blocks : Int32) (v0_merged : Int32) (v0_valueUp : (Nat → Int32)) (v0_valueDown : (Nat → Int32)) (v0_said : (Nat → Int32)) (v0_saids : Int32) (v0_at : Int32) (v0_number : (Nat → Int32)) (p1 : Int64) (hne : (m_X10_sayNumber (v0_papers, v0_raw, v0_kind, v0_figure, v0_heavy, v0_place, v0_rules, v0_lower, v0_upper, v0_limits, v0_limit, v0_ties, v0_letter, v0_letters, v0_told, v0_tolds, v0_places, v0_cell, v0_refusals, v0_imaged, v0_hasImage, v0_before, v0_up, v0_down, v0_beneath, v0_numberUp, v0_numberDown, v0_block, v0_blocks, v0_merged, v0_valueUp, v0_valueDown, v0_said, v0_saids, v0_at, v0_number) p1) ≠ none) : Ct l g yX10_sayNumber cX10_sayNumber 5 none ({ frames := 1, cells := 0, slots := 0, locals := 21 } : Room) [.ref (a0 0), .long p1] (wX10 a0 g v0_papers v0_raw v0_kind v0_figure v0_heavy v0_place v0_rules v0_lower v0_upper v0_limits v0_limit v0_ties v0_letter v0_letters v0_told v0_tolds v0_places v0_cell v0_refusals v0_imaged v0_hasImage v0_before v0_up v0_down v0_beneath v0_numberUp v0_numberDown v0_block v0_blocks v0_merged v0_valueUp v0_valueDown v0_said v0_saids v0_at v0_number) (Qv g (m_X10_sayNumber (v0_papers, v0_raw, v0_kind, v0_figure, v0_heavy, v0_place, v0_rules, v0_lower, v0_upper, v0_limits, v0_limit, v0_ties, v0_letter, v0_letters, v0_told, v0_tolds, v0_places, v0_cell, v0_refusals, v0_imaged, v0_hasImage, v0_before, v0_up, v0_down, v0_beneath, v0_numberUp, v0_numberDown, v0_block, v0_blocks, v0_merged, v0_valueUp, v0_valueDown, v0_said, v0_saids, v0_at, v0_number) p1) (fun u => wX10 a0 g v0_papers v0_raw v0_kind v0_figure v0_heavy v0_place v0_rules v0_lower v0_upper v0_limits v0_limit v0_ties v0_letter v0_letters v0_told v0_tolds v0_places v0_cell v0_refusals v0_imaged v0_hasImage v0_before v0_up v0_down v0_beneath v0_numberUp v0_numberDown v0_block v0_blocks v0_merged v0_valueUp v0_valueDown u.1 u.2 v0_at v0_number)) 0 0 := by
  obtain ⟨out, hf⟩ := ne_ex hne
  have hf0 := hf
  refine Ct.of (own := RX10) (by decide +kernel) rfl (Nat.le_of_ble_eq_true rfl) ?_
  intro p e s m below meth c hx hb hr hml hown hts hlocks hin hK A H locs hA hP hD hS hE ls hl
  have hl : lv_has ls 5 [(0, .ref (a0 0)), (1, .long p1)] := hl
  unfold m_X10_sayNumber at hf
  refine lv_lconst (v := 1) hx hb dX10_sayNumber_0 (by decide) ?_
  refine lv_lstore_n (lv' := [(3, .long (1 : Int64)), (0, .ref (a0 0)), (1, .long p1)]) hx hb dX10_sayNumber_1 rfl hl (by decide) rfl (fun ls hl => ?_)
  obtain ⟨r2, er2, hf⟩ := bnd hf
  refine lp_W (P := fun z => ∀ (H : Heap) (locs : List Loc) (ls : Array Slot), va_P g.1 vwCl (wX10 a0 g v0_papers v0_raw v0_kind v0_figure v0_heavy v0_place v0_rules v0_lower v0_upper v0_limits v0_limit v0_ties v0_letter v0_letters v0_told v0_tolds v0_places v0_cell v0_refusals v0_imaged v0_hasImage v0_before v0_up v0_down v0_beneath v0_numberUp v0_numberDown v0_block v0_blocks v0_merged v0_valueUp v0_valueDown v0_said v0_saids v0_at v0_number) H → va_D A (wX10 a0 g v0_papers v0_raw v0_kind v0_figure v0_heavy v0_place v0_rules v0_lower v0_upper v0_limits v0_limit v0_ties v0_letter v0_letters v0_told v0_tolds v0_places v0_cell v0_refusals v0_imaged v0_hasImage v0_before v0_up v0_down v0_beneath v0_numberUp v0_numberDown v0_block v0_blocks v0_merged v0_valueUp v0_valueDown v0_said v0_saids v0_at v0_number) → va_S A s.heap H locs → lv_has ls 5 [(0, .ref (a0 0)), (1, .long p1), (3, .long z)] → W p l e { frames := 1, cells := 0, slots := 0, locals := 21 } s m [.ref (a0 0), .long p1].toArray below meth c H locs 0 0 (MQ below (Qv g (m_X10_sayNumber (v0_papers, v0_raw, v0_kind, v0_figure, v0_heavy, v0_place, v0_rules, v0_lower, v0_upper, v0_limits, v0_limit, v0_ties, v0_letter, v0_letters, v0_told, v0_tolds, v0_places, v0_cell, v0_refusals, v0_imaged, v0_hasImage, v0_before, v0_up, v0_down, v0_beneath, v0_numberUp, v0_numberDown, v0_block, v0_blocks, v0_merged, v0_valueUp, v0_valueDown, v0_said, v0_saids, v0_at, v0_number) p1) (fun u => wX10 a0 g v0_papers v0_raw v0_kind v0_figure v0_heavy v0_place v0_rules v0_lower v0_upper v0_limits v0_limit v0_ties v0_letter v0_letters v0_told v0_tolds v0_places v0_cell v0_refusals v0_imaged v0_hasImage v0_before v0_up v0_down v0_beneath v0_numberUp v0_numberDown v0_block v0_blocks v0_merged v0_valueUp v0_valueDown u.1 u.2 v0_at v0_number) A) [.ref (a0 0), .long p1].toArray s 0 0 A) (F0 m 2 ls [])) (E := fun r2 => ∀ (H : Heap) (locs : List Loc) (ls : Array Slot), va_P g.1 vwCl (wX10 a0 g v0_papers v0_raw v0_kind v0_figure v0_heavy v0_place v0_rules v0_lower v0_upper v0_limits v0_limit v0_ties v0_letter v0_letters v0_told v0_tolds v0_places v0_cell v0_refusals v0_imaged v0_hasImage v0_before v0_up v0_down v0_beneath v0_numberUp v0_numberDown v0_block v0_blocks v0_merged v0_valueUp v0_valueDown v0_said v0_saids v0_at v0_number) H → va_D A (wX10 a0 g v0_papers v0_raw v0_kind v0_figure v0_heavy v0_place v0_rules v0_lower v0_upper v0_limits v0_limit v0_ties v0_letter v0_letters v0_told v0_tolds v0_places v0_cell v0_refusals v0_imaged v0_hasImage v0_before v0_up v0_down v0_beneath v0_numberUp v0_numberDown v0_block v0_blocks v0_merged v0_valueUp v0_valueDown v0_said v0_saids v0_at v0_number) → va_S A s.heap H locs → lv_has ls 5 [(0, .ref (a0 0)), (1, .long p1), (3, .long r2)] → W p l e { frames := 1, cells := 0, slots := 0, locals := 21 } s m [.ref (a0 0), .long p1].toArray below meth c H locs 0 0 (MQ below (Qv g (m_X10_sayNumber (v0_papers, v0_raw, v0_kind, v0_figure, v0_heavy, v0_place, v0_rules, v0_lower, v0_upper, v0_limits, v0_limit, v0_ties, v0_letter, v0_letters, v0_told, v0_tolds, v0_places, v0_cell, v0_refusals, v0_imaged, v0_hasImage, v0_before, v0_up, v0_down, v0_beneath, v0_numberUp, v0_numberDown, v0_block, v0_blocks, v0_merged, v0_valueUp, v0_valueDown, v0_said, v0_saids, v0_at, v0_number) p1) (fun u => wX10 a0 g v0_papers v0_raw v0_kind v0_figure v0_heavy v0_place v0_rules v0_lower v0_upper v0_limits v0_limit v0_ties v0_letter v0_letters v0_told v0_tolds v0_places v0_cell v0_refusals v0_imaged v0_hasImage v0_before v0_up v0_down v0_beneath v0_numberUp v0_numberDown v0_block v0_blocks v0_merged v0_valueUp v0_valueDown u.1 u.2 v0_at v0_number) A) [.ref (a0 0), .long p1].toArray s 0 0 A) (F0 m 21 ls [])) ?_ fu _ r2 er2 ?_ _ _ _ hP hD hS (lv_sub hl [1, 2, 0] rfl)
  · rintro x1 y hf hB hXt H locs ls hP hD hS hl
    have hP : va_P g.1 vwCl (wX10 a0 g v0_papers v0_raw v0_kind v0_figure v0_heavy v0_place v0_rules v0_lower v0_upper v0_limits v0_limit v0_ties v0_letter v0_letters v0_told v0_tolds v0_places v0_cell v0_refusals v0_imaged v0_hasImage v0_before v0_up v0_down v0_beneath v0_numberUp v0_numberDown v0_block v0_blocks v0_merged v0_valueUp v0_valueDown v0_said v0_saids v0_at v0_number) H := hP
    have hD : va_D A (wX10 a0 g v0_papers v0_raw v0_kind v0_figure v0_heavy v0_place v0_rules v0_lower v0_upper v0_limits v0_limit v0_ties v0_letter v0_letters v0_told v0_tolds v0_places v0_cell v0_refusals v0_imaged v0_hasImage v0_before v0_up v0_down v0_beneath v0_numberUp v0_numberDown v0_block v0_blocks v0_merged v0_valueUp v0_valueDown v0_said v0_saids v0_at v0_number) := hD
    have hl : lv_has ls 5 [(0, .ref (a0 0)), (1, .long p1), (3, .long x1)] := hl
    have hf : m_X10_sayNumber_l2 p1 x1 = some y := hf
    unfold m_X10_sayNumber_l2 at hf
    refine lv_lload_n hx hb dX10_sayNumber_2 rfl (lv_at hl 1 rfl) ?_
    refine lv_lload_n hx hb dX10_sayNumber_3 rfl (lv_at hl 2 rfl) ?_
    have hi := it_n hf
    have hf := it_t hi hf
    refine lv_ldiv hx hb dX10_sayNumber_4 hi ?_
    refine lv_ldc2 hx hb hown (hts _ kw1636) dX10_sayNumber_5 ?_
    refine lc_le (tgt := 21) hx hb dX10_sayNumber_8 dX10_sayNumber_9 (by decide) (fun cb => ?_) (fun cb => ?_)
    · have hf := it_t cb hf
      exact hXt _ (Option.some.inj hf).symm _ _ _ hP hD hS (lv_sub hl [0, 1, 2] rfl)
    have hf := it_f cb hf
    refine lv_lload_n hx hb dX10_sayNumber_12 rfl (lv_at hl 2 rfl) ?_
    refine lv_ldc2 hx hb hown (hts _ kw1637) dX10_sayNumber_13 ?_
    refine lv_lmul hx hb dX10_sayNumber_16 ?_
    refine lv_lstore_n (lv' := [(3, .long (x1 * (10 : Int64))), (0, .ref (a0 0)), (1, .long p1)]) hx hb dX10_sayNumber_17 rfl hl (by decide) rfl (fun ls hl => ?_)
    refine lv_goto (tgt := 2) hx hb dX10_sayNumber_18 (by decide) ?_
    exact hB _ (Option.some.inj hf).symm _ _ _ hP hD hS (lv_sub hl [1, 2, 0] rfl)
  intro H locs ls hP hD hS hl
  have hP : va_P g.1 vwCl (wX10 a0 g v0_papers v0_raw v0_kind v0_figure v0_heavy v0_place v0_rules v0_lower v0_upper v0_limits v0_limit v0_ties v0_letter v0_letters v0_told v0_tolds v0_places v0_cell v0_refusals v0_imaged v0_hasImage v0_before v0_up v0_down v0_beneath v0_numberUp v0_numberDown v0_block v0_blocks v0_merged v0_valueUp v0_valueDown v0_said v0_saids v0_at v0_number) H := hP
  have hD : va_D A (wX10 a0 g v0_papers v0_raw v0_kind v0_figure v0_heavy v0_place v0_rules v0_lower v0_upper v0_limits v0_limit v0_ties v0_letter v0_letters v0_told v0_tolds v0_places v0_cell v0_refusals v0_imaged v0_hasImage v0_before v0_up v0_down v0_beneath v0_numberUp v0_numberDown v0_block v0_blocks v0_merged v0_valueUp v0_valueDown v0_said v0_saids v0_at v0_number) := hD
  have hl : lv_has ls 5 [(0, .ref (a0 0)), (1, .long p1), (3, .long r2)] := hl
  obtain ⟨r8, er8, hf⟩ := bnd hf
  refine lp_W (P := fun z => ∀ (H : Heap) (locs : List Loc) (ls : Array Slot), va_P g.1 vwCl (wX10 a0 g v0_papers v0_raw v0_kind v0_figure v0_heavy v0_place v0_rules v0_lower v0_upper v0_limits v0_limit v0_ties v0_letter v0_letters v0_told v0_tolds v0_places v0_cell v0_refusals v0_imaged v0_hasImage v0_before v0_up v0_down v0_beneath v0_numberUp v0_numberDown v0_block v0_blocks v0_merged v0_valueUp v0_valueDown z.2.1 z.2.2 v0_at v0_number) H → va_D A (wX10 a0 g v0_papers v0_raw v0_kind v0_figure v0_heavy v0_place v0_rules v0_lower v0_upper v0_limits v0_limit v0_ties v0_letter v0_letters v0_told v0_tolds v0_places v0_cell v0_refusals v0_imaged v0_hasImage v0_before v0_up v0_down v0_beneath v0_numberUp v0_numberDown v0_block v0_blocks v0_merged v0_valueUp v0_valueDown z.2.1 z.2.2 v0_at v0_number) → va_S A s.heap H locs → lv_has ls 5 [(0, .ref (a0 0)), (1, .long p1), (3, .long z.1)] → W p l e { frames := 1, cells := 0, slots := 0, locals := 21 } s m [.ref (a0 0), .long p1].toArray below meth c H locs 0 0 (MQ below (Qv g (m_X10_sayNumber (v0_papers, v0_raw, v0_kind, v0_figure, v0_heavy, v0_place, v0_rules, v0_lower, v0_upper, v0_limits, v0_limit, v0_ties, v0_letter, v0_letters, v0_told, v0_tolds, v0_places, v0_cell, v0_refusals, v0_imaged, v0_hasImage, v0_before, v0_up, v0_down, v0_beneath, v0_numberUp, v0_numberDown, v0_block, v0_blocks, v0_merged, v0_valueUp, v0_valueDown, v0_said, v0_saids, v0_at, v0_number) p1) (fun u => wX10 a0 g v0_papers v0_raw v0_kind v0_figure v0_heavy v0_place v0_rules v0_lower v0_upper v0_limits v0_limit v0_ties v0_letter v0_letters v0_told v0_tolds v0_places v0_cell v0_refusals v0_imaged v0_hasImage v0_before v0_up v0_down v0_beneath v0_numberUp v0_numberDown v0_block v0_blocks v0_merged v0_valueUp v0_valueDown u.1 u.2 v0_at v0_number) A) [.ref (a0 0), .long p1].toArray s 0 0 A) (F0 m 21 ls [])) (E := fun r8 => ∀ (H : Heap) (locs : List Loc) (ls : Array Slot), va_P g.1 vwCl (wX10 a0 g v0_papers v0_raw v0_kind v0_figure v0_heavy v0_place v0_rules v0_lower v0_upper v0_limits v0_limit v0_ties v0_letter v0_letters v0_told v0_tolds v0_places v0_cell v0_refusals v0_imaged v0_hasImage v0_before v0_up v0_down v0_beneath v0_numberUp v0_numberDown v0_block v0_blocks v0_merged v0_valueUp v0_valueDown r8.1 r8.2 v0_at v0_number) H → va_D A (wX10 a0 g v0_papers v0_raw v0_kind v0_figure v0_heavy v0_place v0_rules v0_lower v0_upper v0_limits v0_limit v0_ties v0_letter v0_letters v0_told v0_tolds v0_places v0_cell v0_refusals v0_imaged v0_hasImage v0_before v0_up v0_down v0_beneath v0_numberUp v0_numberDown v0_block v0_blocks v0_merged v0_valueUp v0_valueDown r8.1 r8.2 v0_at v0_number) → va_S A s.heap H locs → lv_has ls 5 [] → W p l e { frames := 1, cells := 0, slots := 0, locals := 21 } s m [.ref (a0 0), .long p1].toArray below meth c H locs 0 0 (MQ below (Qv g (m_X10_sayNumber (v0_papers, v0_raw, v0_kind, v0_figure, v0_heavy, v0_place, v0_rules, v0_lower, v0_upper, v0_limits, v0_limit, v0_ties, v0_letter, v0_letters, v0_told, v0_tolds, v0_places, v0_cell, v0_refusals, v0_imaged, v0_hasImage, v0_before, v0_up, v0_down, v0_beneath, v0_numberUp, v0_numberDown, v0_block, v0_blocks, v0_merged, v0_valueUp, v0_valueDown, v0_said, v0_saids, v0_at, v0_number) p1) (fun u => wX10 a0 g v0_papers v0_raw v0_kind v0_figure v0_heavy v0_place v0_rules v0_lower v0_upper v0_limits v0_limit v0_ties v0_letter v0_letters v0_told v0_tolds v0_places v0_cell v0_refusals v0_imaged v0_hasImage v0_before v0_up v0_down v0_beneath v0_numberUp v0_numberDown v0_block v0_blocks v0_merged v0_valueUp v0_valueDown u.1 u.2 v0_at v0_number) A) [.ref (a0 0), .long p1].toArray s 0 0 A) (F0 m 51 ls [])) ?_ fu _ r8 er8 ?_ _ _ _ hP hD hS (lv_sub hl [0, 1, 2] rfl)
  · rintro ⟨x4, x5, x6⟩ y hf hB hXt H locs ls hP hD hS hl
    have hP : va_P g.1 vwCl (wX10 a0 g v0_papers v0_raw v0_kind v0_figure v0_heavy v0_place v0_rules v0_lower v0_upper v0_limits v0_limit v0_ties v0_letter v0_letters v0_told v0_tolds v0_places v0_cell v0_refusals v0_imaged v0_hasImage v0_before v0_up v0_down v0_beneath v0_numberUp v0_numberDown v0_block v0_blocks v0_merged v0_valueUp v0_valueDown x5 x6 v0_at v0_number) H := hP
    have hD : va_D A (wX10 a0 g v0_papers v0_raw v0_kind v0_figure v0_heavy v0_place v0_rules v0_lower v0_upper v0_limits v0_limit v0_ties v0_letter v0_letters v0_told v0_tolds v0_places v0_cell v0_refusals v0_imaged v0_hasImage v0_before v0_up v0_down v0_beneath v0_numberUp v0_numberDown v0_block v0_blocks v0_merged v0_valueUp v0_valueDown x5 x6 v0_at v0_number) := hD
    have hl : lv_has ls 5 [(0, .ref (a0 0)), (1, .long p1), (3, .long x4)] := hl
    have hf : m_X10_sayNumber_l21 (v0_papers, v0_raw, v0_kind, v0_figure, v0_heavy, v0_place, v0_rules, v0_lower, v0_upper, v0_limits, v0_limit, v0_ties, v0_letter, v0_letters, v0_told, v0_tolds, v0_places, v0_cell, v0_refusals, v0_imaged, v0_hasImage, v0_before, v0_up, v0_down, v0_beneath, v0_numberUp, v0_numberDown, v0_block, v0_blocks, v0_merged, v0_valueUp, v0_valueDown, v0_said, v0_saids, v0_at, v0_number) p1 x4 x5 x6 = some y := hf
    unfold m_X10_sayNumber_l21 at hf
    refine lv_lload_n hx hb dX10_sayNumber_21 rfl (lv_at hl 2 rfl) ?_
    refine lv_lconst (v := 0) hx hb dX10_sayNumber_22 (by decide) ?_
    refine lc_le (tgt := 51) hx hb dX10_sayNumber_23 dX10_sayNumber_24 (by decide) (fun cb => ?_) (fun cb => ?_)
    · have hf := it_t cb hf
      exact hXt _ (Option.some.inj hf).symm _ _ _ hP hD hS (lv_sub hl [] rfl)
    have hf := it_f cb hf
    refine lv_aload_n hx hb dX10_sayNumber_27 rfl (lv_at hl 0 rfl) ?_
    refine lv_bipush (v := 48) hx hb dX10_sayNumber_28 (by decide) ?_
    refine lv_lload_n hx hb dX10_sayNumber_30 rfl (lv_at hl 1 rfl) ?_
    refine lv_lload_n hx hb dX10_sayNumber_31 rfl (lv_at hl 2 rfl) ?_
    have hi := it_n hf
    have hf := it_t hi hf
    refine lv_ldiv hx hb dX10_sayNumber_32 hi ?_
    refine lv_ldc2 hx hb hown (hts _ kw1637) dX10_sayNumber_33 ?_
    refine lv_lrem hx hb dX10_sayNumber_36 (by decide) ?_
    refine lv_l2i (v := ((p1 / x4) - (p1 / x4) / (10 : Int64) * (10 : Int64)).toInt32) hx hb dX10_sayNumber_37 rfl ?_
    refine lv_iadd hx hb dX10_sayNumber_38 ?_
    refine cV hP hD hS hA hE (fun hPc hDc hSc => rV (As := [.int ((48 : Int32) + ((p1 / x4) - (p1 / x4) / (10 : Int64) * (10 : Int64)).toInt32)]) (rest := []) hx hb hml hown hts hK (c_X10_say l g a0 v0_papers v0_raw v0_kind v0_figure v0_heavy v0_place v0_rules v0_lower v0_upper v0_limits v0_limit v0_ties v0_letter v0_letters v0_told v0_tolds v0_places v0_cell v0_refusals v0_imaged v0_hasImage v0_before v0_up v0_down v0_beneath v0_numberUp v0_numberDown v0_block v0_blocks v0_merged v0_valueUp v0_valueDown x5 x6 v0_at v0_number ((48 : Int32) + ((p1 / x4) - (p1 / x4) / (10 : Int64) * (10 : Int64)).toInt32) (bnd_ne hf)) svV_X10_say kw1638 rfl rfl hPc hDc hSc rfl rfl hl.1 (Nat.le_of_ble_eq_true rfl) dX10_sayNumber_39 ⟨Nat.le_of_ble_eq_true rfl, Nat.le_of_ble_eq_true rfl, rfl, rfl, Nat.le_of_ble_eq_true rfl, Nat.le_of_ble_eq_true rfl⟩) [(0, 22)] rfl rfl rfl (fun _ => rfl) (fun x7 H locs ex7 hP hD hS => ?_)
    have hf := bnd_of hf ex7
    have hP : va_P g.1 vwCl (wX10 a0 g v0_papers v0_raw v0_kind v0_figure v0_heavy v0_place v0_rules v0_lower v0_upper v0_limits v0_limit v0_ties v0_letter v0_letters v0_told v0_tolds v0_places v0_cell v0_refusals v0_imaged v0_hasImage v0_before v0_up v0_down v0_beneath v0_numberUp v0_numberDown v0_block v0_blocks v0_merged v0_valueUp v0_valueDown x7.1 x7.2 v0_at v0_number) H := hP
    have hD : va_D A (wX10 a0 g v0_papers v0_raw v0_kind v0_figure v0_heavy v0_place v0_rules v0_lower v0_upper v0_limits v0_limit v0_ties v0_letter v0_letters v0_told v0_tolds v0_places v0_cell v0_refusals v0_imaged v0_hasImage v0_before v0_up v0_down v0_beneath v0_numberUp v0_numberDown v0_block v0_blocks v0_merged v0_valueUp v0_valueDown x7.1 x7.2 v0_at v0_number) := hD
    refine lv_lload_n hx hb dX10_sayNumber_42 rfl (lv_at hl 2 rfl) ?_
    refine lv_ldc2 hx hb hown (hts _ kw1637) dX10_sayNumber_43 ?_
    refine lv_ldiv hx hb dX10_sayNumber_46 (by decide) ?_
    refine lv_lstore_n (lv' := [(3, .long (x4 / (10 : Int64))), (0, .ref (a0 0)), (1, .long p1)]) hx hb dX10_sayNumber_47 rfl hl (by decide) rfl (fun ls hl => ?_)
    refine lv_goto (tgt := 21) hx hb dX10_sayNumber_48 (by decide) ?_
    exact hB _ (Option.some.inj hf).symm _ _ _ hP hD hS (lv_sub hl [1, 2, 0] rfl)
  intro H locs ls hP hD hS hl
  have hP : va_P g.1 vwCl (wX10 a0 g v0_papers v0_raw v0_kind v0_figure v0_heavy v0_place v0_rules v0_lower v0_upper v0_limits v0_limit v0_ties v0_letter v0_letters v0_told v0_tolds v0_places v0_cell v0_refusals v0_imaged v0_hasImage v0_before v0_up v0_down v0_beneath v0_numberUp v0_numberDown v0_block v0_blocks v0_merged v0_valueUp v0_valueDown r8.1 r8.2 v0_at v0_number) H := hP
  have hD : va_D A (wX10 a0 g v0_papers v0_raw v0_kind v0_figure v0_heavy v0_place v0_rules v0_lower v0_upper v0_limits v0_limit v0_ties v0_letter v0_letters v0_told v0_tolds v0_places v0_cell v0_refusals v0_imaged v0_hasImage v0_before v0_up v0_down v0_beneath v0_numberUp v0_numberDown v0_block v0_blocks v0_merged v0_valueUp v0_valueDown r8.1 r8.2 v0_at v0_number) := hD
  have hl : lv_has ls 5 [] := hl
  exact retV (u := (r8.1, r8.2)) (W1 := fun u => wX10 a0 g v0_papers v0_raw v0_kind v0_figure v0_heavy v0_place v0_rules v0_lower v0_upper v0_limits v0_limit v0_ties v0_letter v0_letters v0_told v0_tolds v0_places v0_cell v0_refusals v0_imaged v0_hasImage v0_before v0_up v0_down v0_beneath v0_numberUp v0_numberDown v0_block v0_blocks v0_merged v0_valueUp v0_valueDown u.1 u.2 v0_at v0_number) hx hb hr hlocks hS hP hD (hf0.trans hf.symm) dX10_sayNumber_51
set_option maxHeartbeats 4000000 in
set_option maxRecDepth 100000 in
theorem c_X10_sayWord (l : Launch) (g : GG) (a0 : Nat → Nat) (v0_papers : Int32) (v0_raw : (Nat → Int32)) (v0_kind : (Nat → Int32)) (v0_figure : (Nat → Int32)) (v0_heavy : (Nat → Int32)) (v0_place : (Nat → Int32)) (v0_rules : Int32) (v0_lower : (Nat → Int32)) (v0_upper : (Nat → Int32)) (v0_limits : Int32) (v0_limit : (Nat → Int32)) (v0_ties : Int32) (v0_letter : (Nat → Int32)) (v0_letters : Int32) (v0_told : (Nat → Int32)) (v0_tolds : Int32) (v0_places : (Nat → Int32)) (v0_cell : (Nat → Int64)) (v0_refusals : (Nat → Int32)) (v0_imaged : (Nat → Int32)) (v0_hasImage : Int32) (v0_before : (Nat → Int32)) (v0_up : Int64) (v0_down : Int64) (v0_beneath : (Nat → Int32)) (v0_numberUp : Int32) (v0_numberDown : Int32) (v0_block : (Nat → Int32)) (v0_blocks : Int32) (v0_merged : Int32) (v0_valueUp : (Nat → Int32)) (v0_valueDown : (Nat → Int32)) (v0_said : (Nat → Int32)) (v0_saids : Int32) (v0_at : Int32) (v0_number : (Nat → Int32)) (p1 : Nat) (hne : (m_X10_sayWord (v0_papers, v0_raw, v0_kind, v0_figure, v0_heavy, v0_place, v0_rules, v0_lower, v0_upper, v0_limits, v0_limit, v0_ties, v0_letter, v0_letters, v0_told, v0_tolds, v0_places, v0_cell, v0_refusals, v0_imaged, v0_hasImage, v0_before, v0_up, v0_down, v0_beneath, v0_numberUp, v0_numberDown, v0_block, v0_blocks, v0_merged, v0_valueUp, v0_valueDown, v0_said, v0_saids, v0_at, v0_number) p1) ≠ none) : Ct l g yX10_sayWord cX10_sayWord 3 none ({ frames := 4, cells := 0, slots := 0, locals := 85 } : Room) [.ref (a0 0), .ref (adK g p1)] (wX10 a0 g v0_papers v0_raw v0_kind v0_figure v0_heavy v0_place v0_rules v0_lower v0_upper v0_limits v0_limit v0_ties v0_letter v0_letters v0_told v0_tolds v0_places v0_cell v0_refusals v0_imaged v0_hasImage v0_before v0_up v0_down v0_beneath v0_numberUp v0_numberDown v0_block v0_blocks v0_merged v0_valueUp v0_valueDown v0_said v0_saids v0_at v0_number) (Qv g (m_X10_sayWord (v0_papers, v0_raw, v0_kind, v0_figure, v0_heavy, v0_place, v0_rules, v0_lower, v0_upper, v0_limits, v0_limit, v0_ties, v0_letter, v0_letters, v0_told, v0_tolds, v0_places, v0_cell, v0_refusals, v0_imaged, v0_hasImage, v0_before, v0_up, v0_down, v0_beneath, v0_numberUp, v0_numberDown, v0_block, v0_blocks, v0_merged, v0_valueUp, v0_valueDown, v0_said, v0_saids, v0_at, v0_number) p1) (fun u => wX10 a0 g v0_papers v0_raw v0_kind v0_figure v0_heavy v0_place v0_rules v0_lower v0_upper v0_limits v0_limit v0_ties v0_letter v0_letters v0_told v0_tolds v0_places v0_cell v0_refusals v0_imaged v0_hasImage v0_before v0_up v0_down v0_beneath v0_numberUp v0_numberDown v0_block v0_blocks v0_merged v0_valueUp v0_valueDown u.1 u.2 v0_at v0_number)) 0 0 := by
  obtain ⟨out, hf⟩ := ne_ex hne
  have hf0 := hf
  refine Ct.of (own := RX10) (by decide +kernel) rfl (Nat.le_of_ble_eq_true rfl) ?_
  intro p e s m below meth c hx hb hr hml hown hts hlocks hin hK A H locs hA hP hD hS hE ls hl
  have hl : lv_has ls 3 [(0, .ref (a0 0)), (1, .ref (adK g p1))] := hl
  unfold m_X10_sayWord at hf
  refine lv_iconst (v := 0) hx hb dX10_sayWord_0 (by decide) ?_
  refine lv_istore_n (lv' := [(2, .int (0 : Int32)), (0, .ref (a0 0)), (1, .ref (adK g p1))]) hx hb dX10_sayWord_1 rfl hl (by decide) rfl (fun ls hl => ?_)
  obtain ⟨r10, er10, hf⟩ := bnd hf
  refine lp_W (P := fun z => ∀ (H : Heap) (locs : List Loc) (ls : Array Slot), va_P g.1 vwCl (wX10 a0 g v0_papers v0_raw v0_kind v0_figure v0_heavy v0_place v0_rules v0_lower v0_upper v0_limits v0_limit v0_ties v0_letter v0_letters v0_told v0_tolds v0_places v0_cell v0_refusals v0_imaged v0_hasImage v0_before v0_up v0_down v0_beneath v0_numberUp v0_numberDown v0_block v0_blocks v0_merged v0_valueUp v0_valueDown z.2.1 z.2.2 v0_at v0_number) H → va_D A (wX10 a0 g v0_papers v0_raw v0_kind v0_figure v0_heavy v0_place v0_rules v0_lower v0_upper v0_limits v0_limit v0_ties v0_letter v0_letters v0_told v0_tolds v0_places v0_cell v0_refusals v0_imaged v0_hasImage v0_before v0_up v0_down v0_beneath v0_numberUp v0_numberDown v0_block v0_blocks v0_merged v0_valueUp v0_valueDown z.2.1 z.2.2 v0_at v0_number) → va_S A s.heap H locs → lv_has ls 3 [(0, .ref (a0 0)), (1, .ref (adK g p1)), (2, .int z.1)] → W p l e { frames := 4, cells := 0, slots := 0, locals := 85 } s m [.ref (a0 0), .ref (adK g p1)].toArray below meth c H locs 0 0 (MQ below (Qv g (m_X10_sayWord (v0_papers, v0_raw, v0_kind, v0_figure, v0_heavy, v0_place, v0_rules, v0_lower, v0_upper, v0_limits, v0_limit, v0_ties, v0_letter, v0_letters, v0_told, v0_tolds, v0_places, v0_cell, v0_refusals, v0_imaged, v0_hasImage, v0_before, v0_up, v0_down, v0_beneath, v0_numberUp, v0_numberDown, v0_block, v0_blocks, v0_merged, v0_valueUp, v0_valueDown, v0_said, v0_saids, v0_at, v0_number) p1) (fun u => wX10 a0 g v0_papers v0_raw v0_kind v0_figure v0_heavy v0_place v0_rules v0_lower v0_upper v0_limits v0_limit v0_ties v0_letter v0_letters v0_told v0_tolds v0_places v0_cell v0_refusals v0_imaged v0_hasImage v0_before v0_up v0_down v0_beneath v0_numberUp v0_numberDown v0_block v0_blocks v0_merged v0_valueUp v0_valueDown u.1 u.2 v0_at v0_number) A) [.ref (a0 0), .ref (adK g p1)].toArray s 0 0 A) (F0 m 2 ls [])) (E := fun r10 => ∀ (H : Heap) (locs : List Loc) (ls : Array Slot), va_P g.1 vwCl (wX10 a0 g v0_papers v0_raw v0_kind v0_figure v0_heavy v0_place v0_rules v0_lower v0_upper v0_limits v0_limit v0_ties v0_letter v0_letters v0_told v0_tolds v0_places v0_cell v0_refusals v0_imaged v0_hasImage v0_before v0_up v0_down v0_beneath v0_numberUp v0_numberDown v0_block v0_blocks v0_merged v0_valueUp v0_valueDown r10.1 r10.2 v0_at v0_number) H → va_D A (wX10 a0 g v0_papers v0_raw v0_kind v0_figure v0_heavy v0_place v0_rules v0_lower v0_upper v0_limits v0_limit v0_ties v0_letter v0_letters v0_told v0_tolds v0_places v0_cell v0_refusals v0_imaged v0_hasImage v0_before v0_up v0_down v0_beneath v0_numberUp v0_numberDown v0_block v0_blocks v0_merged v0_valueUp v0_valueDown r10.1 r10.2 v0_at v0_number) → va_S A s.heap H locs → lv_has ls 3 [] → W p l e { frames := 4, cells := 0, slots := 0, locals := 85 } s m [.ref (a0 0), .ref (adK g p1)].toArray below meth c H locs 0 0 (MQ below (Qv g (m_X10_sayWord (v0_papers, v0_raw, v0_kind, v0_figure, v0_heavy, v0_place, v0_rules, v0_lower, v0_upper, v0_limits, v0_limit, v0_ties, v0_letter, v0_letters, v0_told, v0_tolds, v0_places, v0_cell, v0_refusals, v0_imaged, v0_hasImage, v0_before, v0_up, v0_down, v0_beneath, v0_numberUp, v0_numberDown, v0_block, v0_blocks, v0_merged, v0_valueUp, v0_valueDown, v0_said, v0_saids, v0_at, v0_number) p1) (fun u => wX10 a0 g v0_papers v0_raw v0_kind v0_figure v0_heavy v0_place v0_rules v0_lower v0_upper v0_limits v0_limit v0_ties v0_letter v0_letters v0_told v0_tolds v0_places v0_cell v0_refusals v0_imaged v0_hasImage v0_before v0_up v0_down v0_beneath v0_numberUp v0_numberDown v0_block v0_blocks v0_merged v0_valueUp v0_valueDown u.1 u.2 v0_at v0_number) A) [.ref (a0 0), .ref (adK g p1)].toArray s 0 0 A) (F0 m 25 ls [])) ?_ fu _ r10 er10 ?_ _ _ _ hP hD hS (lv_sub hl [1, 2, 0] rfl)
  · rintro ⟨x4, x5, x6⟩ y hf hB hXt H locs ls hP hD hS hl
    have hP : va_P g.1 vwCl (wX10 a0 g v0_papers v0_raw v0_kind v0_figure v0_heavy v0_place v0_rules v0_lower v0_upper v0_limits v0_limit v0_ties v0_letter v0_letters v0_told v0_tolds v0_places v0_cell v0_refusals v0_imaged v0_hasImage v0_before v0_up v0_down v0_beneath v0_numberUp v0_numberDown v0_block v0_blocks v0_merged v0_valueUp v0_valueDown x5 x6 v0_at v0_number) H := hP
    have hD : va_D A (wX10 a0 g v0_papers v0_raw v0_kind v0_figure v0_heavy v0_place v0_rules v0_lower v0_upper v0_limits v0_limit v0_ties v0_letter v0_letters v0_told v0_tolds v0_places v0_cell v0_refusals v0_imaged v0_hasImage v0_before v0_up v0_down v0_beneath v0_numberUp v0_numberDown v0_block v0_blocks v0_merged v0_valueUp v0_valueDown x5 x6 v0_at v0_number) := hD
    have hl : lv_has ls 3 [(0, .ref (a0 0)), (1, .ref (adK g p1)), (2, .int x4)] := hl
    have hf : m_X10_sayWord_l2 (v0_papers, v0_raw, v0_kind, v0_figure, v0_heavy, v0_place, v0_rules, v0_lower, v0_upper, v0_limits, v0_limit, v0_ties, v0_letter, v0_letters, v0_told, v0_tolds, v0_places, v0_cell, v0_refusals, v0_imaged, v0_hasImage, v0_before, v0_up, v0_down, v0_beneath, v0_numberUp, v0_numberDown, v0_block, v0_blocks, v0_merged, v0_valueUp, v0_valueDown, v0_said, v0_saids, v0_at, v0_number) p1 x4 x5 x6 = some y := hf
    unfold m_X10_sayWord_l2 at hf
    refine lv_iload_n hx hb dX10_sayWord_2 rfl (lv_at hl 2 rfl) ?_
    refine lv_aload_n hx hb dX10_sayWord_3 rfl (lv_at hl 1 rfl) ?_
    have hT9 := it_n hf
    have hf := it_t hT9 hf
    refine cIp hP hD hS hA hE (fun hPc hDc hSc => rVs (As := []) (rest := [.int x4]) hx hb hml hown hts hK (c_J0_length_8abf5 l g p1 (bnd_ne hf)) svV_J0_length_8abf5 kw1647 hE hS hT9 hPc hDc hSc rfl rfl hl.1 (Nat.le_of_ble_eq_true rfl) dX10_sayWord_4 ⟨Nat.le_of_ble_eq_true rfl, Nat.le_of_ble_eq_true rfl, rfl, rfl, Nat.le_of_ble_eq_true rfl, Nat.le_of_ble_eq_true rfl⟩) [] rfl rfl rfl (fun x7 H locs ex7 nx7 hP hS => ?_)
    have hf := bnd_of hf ex7
    refine lv_icmp_ge (tgt := 25) hx hb dX10_sayWord_7 (by decide) (fun cb => ?_) (fun cb => ?_)
    · have hf := it_t cb hf
      exact hXt _ (Option.some.inj hf).symm _ _ _ hP hD hS (lv_sub hl [] rfl)
    have hf := it_f cb hf
    refine lv_aload_n hx hb dX10_sayWord_10 rfl (lv_at hl 0 rfl) ?_
    refine lv_aload_n hx hb dX10_sayWord_11 rfl (lv_at hl 1 rfl) ?_
    refine lv_iload_n hx hb dX10_sayWord_12 rfl (lv_at hl 2 rfl) ?_
    have hT9 := it_n hf
    have hf := it_t hT9 hf
    refine cIp hP hD hS hA hE (fun hPc hDc hSc => rVs (As := [.int x4]) (rest := [.ref (a0 0)]) hx hb hml hown hts hK (c_J0_charAt_5068e l g p1 x4 (bnd_ne hf)) svV_J0_charAt_5068e kw1648 hE hS hT9 hPc hDc hSc rfl rfl hl.1 (Nat.le_of_ble_eq_true rfl) dX10_sayWord_13 ⟨Nat.le_of_ble_eq_true rfl, Nat.le_of_ble_eq_true rfl, rfl, rfl, Nat.le_of_ble_eq_true rfl, Nat.le_of_ble_eq_true rfl⟩) [] rfl rfl rfl (fun x8 H locs ex8 nx8 hP hS => ?_)
    have hf := bnd_of hf ex8
    refine cV hP hD hS hA hE (fun hPc hDc hSc => rV (As := [.int x8]) (rest := []) hx hb hml hown hts hK (c_X10_say l g a0 v0_papers v0_raw v0_kind v0_figure v0_heavy v0_place v0_rules v0_lower v0_upper v0_limits v0_limit v0_ties v0_letter v0_letters v0_told v0_tolds v0_places v0_cell v0_refusals v0_imaged v0_hasImage v0_before v0_up v0_down v0_beneath v0_numberUp v0_numberDown v0_block v0_blocks v0_merged v0_valueUp v0_valueDown x5 x6 v0_at v0_number x8 (bnd_ne hf)) svV_X10_say kw1638 rfl rfl hPc hDc hSc rfl rfl hl.1 (Nat.le_of_ble_eq_true rfl) dX10_sayWord_16 ⟨Nat.le_of_ble_eq_true rfl, Nat.le_of_ble_eq_true rfl, rfl, rfl, Nat.le_of_ble_eq_true rfl, Nat.le_of_ble_eq_true rfl⟩) [(0, 22)] rfl rfl rfl (fun _ => rfl) (fun x9 H locs ex9 hP hD hS => ?_)
    have hf := bnd_of hf ex9
    have hP : va_P g.1 vwCl (wX10 a0 g v0_papers v0_raw v0_kind v0_figure v0_heavy v0_place v0_rules v0_lower v0_upper v0_limits v0_limit v0_ties v0_letter v0_letters v0_told v0_tolds v0_places v0_cell v0_refusals v0_imaged v0_hasImage v0_before v0_up v0_down v0_beneath v0_numberUp v0_numberDown v0_block v0_blocks v0_merged v0_valueUp v0_valueDown x9.1 x9.2 v0_at v0_number) H := hP
    have hD : va_D A (wX10 a0 g v0_papers v0_raw v0_kind v0_figure v0_heavy v0_place v0_rules v0_lower v0_upper v0_limits v0_limit v0_ties v0_letter v0_letters v0_told v0_tolds v0_places v0_cell v0_refusals v0_imaged v0_hasImage v0_before v0_up v0_down v0_beneath v0_numberUp v0_numberDown v0_block v0_blocks v0_merged v0_valueUp v0_valueDown x9.1 x9.2 v0_at v0_number) := hD
    refine lv_iinc (v := (x4 + 1)) (lv' := [(2, .int (x4 + 1)), (0, .ref (a0 0)), (1, .ref (adK g p1))]) hx hb dX10_sayWord_19 hl (k := 2) rfl (by rfl) (by decide) rfl (fun ls hl => ?_)
    refine lv_goto (tgt := 2) hx hb dX10_sayWord_22 (by decide) ?_
    exact hB _ (Option.some.inj hf).symm _ _ _ hP hD hS (lv_sub hl [1, 2, 0] rfl)
  intro H locs ls hP hD hS hl
  have hP : va_P g.1 vwCl (wX10 a0 g v0_papers v0_raw v0_kind v0_figure v0_heavy v0_place v0_rules v0_lower v0_upper v0_limits v0_limit v0_ties v0_letter v0_letters v0_told v0_tolds v0_places v0_cell v0_refusals v0_imaged v0_hasImage v0_before v0_up v0_down v0_beneath v0_numberUp v0_numberDown v0_block v0_blocks v0_merged v0_valueUp v0_valueDown r10.1 r10.2 v0_at v0_number) H := hP
  have hD : va_D A (wX10 a0 g v0_papers v0_raw v0_kind v0_figure v0_heavy v0_place v0_rules v0_lower v0_upper v0_limits v0_limit v0_ties v0_letter v0_letters v0_told v0_tolds v0_places v0_cell v0_refusals v0_imaged v0_hasImage v0_before v0_up v0_down v0_beneath v0_numberUp v0_numberDown v0_block v0_blocks v0_merged v0_valueUp v0_valueDown r10.1 r10.2 v0_at v0_number) := hD
  have hl : lv_has ls 3 [] := hl
  exact retV (u := (r10.1, r10.2)) (W1 := fun u => wX10 a0 g v0_papers v0_raw v0_kind v0_figure v0_heavy v0_place v0_rules v0_lower v0_upper v0_limits v0_limit v0_ties v0_letter v0_letters v0_told v0_tolds v0_places v0_cell v0_refusals v0_imaged v0_hasImage v0_before v0_up v0_down v0_beneath v0_numberUp v0_numberDown v0_block v0_blocks v0_merged v0_valueUp v0_valueDown u.1 u.2 v0_at v0_number) hx hb hr hlocks hS hP hD (hf0.trans hf.symm) dX10_sayWord_25
set_option maxHeartbeats 4000000 in
set_option maxRecDepth 100000 in
theorem c_X10_sayOthers (l : Launch) (g : GG) (a0 : Nat → Nat) (v0_papers : Int32) (v0_raw : (Nat → Int32)) (v0_kind : (Nat → Int32)) (v0_figure : (Nat → Int32)) (v0_heavy : (Nat → Int32)) (v0_place : (Nat → Int32)) (v0_rules : Int32) (v0_lower : (Nat → Int32)) (v0_upper : (Nat → Int32)) (v0_limits : Int32) (v0_limit : (Nat → Int32)) (v0_ties : Int32) (v0_letter : (Nat → Int32)) (v0_letters : Int32) (v0_told : (Nat → Int32)) (v0_tolds : Int32) (v0_places : (Nat → Int32)) (v0_cell : (Nat → Int64)) (v0_refusals : (Nat → Int32)) (v0_imaged : (Nat → Int32)) (v0_hasImage : Int32) (v0_before : (Nat → Int32)) (v0_up : Int64) (v0_down : Int64) (v0_beneath : (Nat → Int32)) (v0_numberUp : Int32) (v0_numberDown : Int32) (v0_block : (Nat → Int32)) (v0_blocks : Int32) (v0_merged : Int32) (v0_valueUp : (Nat → Int32)) (v0_valueDown : (Nat → Int32)) (v0_said : (Nat → Int32)) (v0_saids : Int32) (v0_at : Int32) (v0_number : (Nat → Int32)) (p1 : Int32) (hne : (m_X10_sayOthers (v0_papers, v0_raw, v0_kind, v0_figure, v0_heavy, v0_place, v0_rules, v0_lower, v0_upper, v0_limits, v0_limit, v0_ties, v0_letter, v0_letters, v0_told, v0_tolds, v0_places, v0_cell, v0_refusals, v0_imaged, v0_hasImage, v0_before, v0_up, v0_down, v0_beneath, v0_numberUp, v0_numberDown, v0_block, v0_blocks, v0_merged, v0_valueUp, v0_valueDown, v0_said, v0_saids, v0_at, v0_number) p1) ≠ none) : Ct l g yX10_sayOthers cX10_sayOthers 4 none ({ frames := 5, cells := 0, slots := 0, locals := 107 } : Room) [.ref (a0 0), .int p1] (wX10 a0 g v0_papers v0_raw v0_kind v0_figure v0_heavy v0_place v0_rules v0_lower v0_upper v0_limits v0_limit v0_ties v0_letter v0_letters v0_told v0_tolds v0_places v0_cell v0_refusals v0_imaged v0_hasImage v0_before v0_up v0_down v0_beneath v0_numberUp v0_numberDown v0_block v0_blocks v0_merged v0_valueUp v0_valueDown v0_said v0_saids v0_at v0_number) (Qv g (m_X10_sayOthers (v0_papers, v0_raw, v0_kind, v0_figure, v0_heavy, v0_place, v0_rules, v0_lower, v0_upper, v0_limits, v0_limit, v0_ties, v0_letter, v0_letters, v0_told, v0_tolds, v0_places, v0_cell, v0_refusals, v0_imaged, v0_hasImage, v0_before, v0_up, v0_down, v0_beneath, v0_numberUp, v0_numberDown, v0_block, v0_blocks, v0_merged, v0_valueUp, v0_valueDown, v0_said, v0_saids, v0_at, v0_number) p1) (fun u => wX10 a0 g v0_papers v0_raw v0_kind v0_figure v0_heavy v0_place v0_rules v0_lower v0_upper v0_limits v0_limit v0_ties v0_letter v0_letters v0_told v0_tolds v0_places v0_cell v0_refusals v0_imaged v0_hasImage v0_before v0_up v0_down v0_beneath v0_numberUp v0_numberDown v0_block v0_blocks v0_merged v0_valueUp v0_valueDown u.1 u.2 v0_at v0_number)) 0 0 := by
  obtain ⟨out, hf⟩ := ne_ex hne
  have hf0 := hf
  refine Ct.of (own := RX10) (by decide +kernel) rfl (Nat.le_of_ble_eq_true rfl) ?_
  intro p e s m below meth c hx hb hr hml hown hts hlocks hin hK A H locs hA hP hD hS hE ls hl
  have hl : lv_has ls 4 [(0, .ref (a0 0)), (1, .int p1)] := hl
  unfold m_X10_sayOthers at hf
  refine lv_iload_n hx hb dX10_sayOthers_0 rfl (lv_at hl 1 rfl) ?_
  refine lv_if_ne (tgt := 5) hx hb dX10_sayOthers_1 (by decide) (fun cb => ?_) (fun cb => ?_)
  · have hf := it_f cb hf
    refine lv_aload_n hx hb dX10_sayOthers_5 rfl (lv_at hl 0 rfl) ?_
    refine lc_SW (q := adK g (8 : Nat)) hx hb hown (stR10 hK) dX10_sayOthers_6 ?_
    refine cV hP hD hS hA hE (fun hPc hDc hSc => rV (As := [.ref (adK g (8 : Nat))]) (rest := []) hx hb hml hown hts hK (c_X10_sayWord l g a0 v0_papers v0_raw v0_kind v0_figure v0_heavy v0_place v0_rules v0_lower v0_upper v0_limits v0_limit v0_ties v0_letter v0_letters v0_told v0_tolds v0_places v0_cell v0_refusals v0_imaged v0_hasImage v0_before v0_up v0_down v0_beneath v0_numberUp v0_numberDown v0_block v0_blocks v0_merged v0_valueUp v0_valueDown v0_said v0_saids v0_at v0_number (8 : Nat) (bnd_ne hf)) svV_X10_sayWord kw1644 rfl rfl hPc hDc hSc rfl rfl hl.1 (Nat.le_of_ble_eq_true rfl) dX10_sayOthers_9 ⟨Nat.le_of_ble_eq_true rfl, Nat.le_of_ble_eq_true rfl, rfl, rfl, Nat.le_of_ble_eq_true rfl, Nat.le_of_ble_eq_true rfl⟩) [(0, 22)] rfl rfl rfl (fun _ => rfl) (fun x1 H locs ex1 hP hD hS => ?_)
    have hf := bnd_of hf ex1
    have hP : va_P g.1 vwCl (wX10 a0 g v0_papers v0_raw v0_kind v0_figure v0_heavy v0_place v0_rules v0_lower v0_upper v0_limits v0_limit v0_ties v0_letter v0_letters v0_told v0_tolds v0_places v0_cell v0_refusals v0_imaged v0_hasImage v0_before v0_up v0_down v0_beneath v0_numberUp v0_numberDown v0_block v0_blocks v0_merged v0_valueUp v0_valueDown x1.1 x1.2 v0_at v0_number) H := hP
    have hD : va_D A (wX10 a0 g v0_papers v0_raw v0_kind v0_figure v0_heavy v0_place v0_rules v0_lower v0_upper v0_limits v0_limit v0_ties v0_letter v0_letters v0_told v0_tolds v0_places v0_cell v0_refusals v0_imaged v0_hasImage v0_before v0_up v0_down v0_beneath v0_numberUp v0_numberDown v0_block v0_blocks v0_merged v0_valueUp v0_valueDown x1.1 x1.2 v0_at v0_number) := hD
    refine lv_iconst (v := 1) hx hb dX10_sayOthers_12 (by decide) ?_
    refine lv_istore_n (lv' := [(2, .int (1 : Int32)), (0, .ref (a0 0)), (1, .int p1)]) hx hb dX10_sayOthers_13 rfl hl (by decide) rfl (fun ls hl => ?_)
    refine lv_iconst (v := 0) hx hb dX10_sayOthers_14 (by decide) ?_
    refine lv_istore_n (lv' := [(3, .int (0 : Int32)), (2, .int (1 : Int32)), (0, .ref (a0 0)), (1, .int p1)]) hx hb dX10_sayOthers_15 rfl hl (by decide) rfl (fun ls hl => ?_)
    obtain ⟨r16, er16, hf⟩ := bnd hf
    refine lp_W (P := fun z => ∀ (H : Heap) (locs : List Loc) (ls : Array Slot), va_P g.1 vwCl (wX10 a0 g v0_papers v0_raw v0_kind v0_figure v0_heavy v0_place v0_rules v0_lower v0_upper v0_limits v0_limit v0_ties v0_letter v0_letters v0_told v0_tolds v0_places v0_cell v0_refusals v0_imaged v0_hasImage v0_before v0_up v0_down v0_beneath v0_numberUp v0_numberDown v0_block v0_blocks v0_merged v0_valueUp v0_valueDown z.2.2.1 z.2.2.2 v0_at v0_number) H → va_D A (wX10 a0 g v0_papers v0_raw v0_kind v0_figure v0_heavy v0_place v0_rules v0_lower v0_upper v0_limits v0_limit v0_ties v0_letter v0_letters v0_told v0_tolds v0_places v0_cell v0_refusals v0_imaged v0_hasImage v0_before v0_up v0_down v0_beneath v0_numberUp v0_numberDown v0_block v0_blocks v0_merged v0_valueUp v0_valueDown z.2.2.1 z.2.2.2 v0_at v0_number) → va_S A s.heap H locs → lv_has ls 4 [(0, .ref (a0 0)), (1, .int p1), (2, .int z.1), (3, .int z.2.1)] → W p l e { frames := 5, cells := 0, slots := 0, locals := 107 } s m [.ref (a0 0), .int p1].toArray below meth c H locs 0 0 (MQ below (Qv g (m_X10_sayOthers (v0_papers, v0_raw, v0_kind, v0_figure, v0_heavy, v0_place, v0_rules, v0_lower, v0_upper, v0_limits, v0_limit, v0_ties, v0_letter, v0_letters, v0_told, v0_tolds, v0_places, v0_cell, v0_refusals, v0_imaged, v0_hasImage, v0_before, v0_up, v0_down, v0_beneath, v0_numberUp, v0_numberDown, v0_block, v0_blocks, v0_merged, v0_valueUp, v0_valueDown, v0_said, v0_saids, v0_at, v0_number) p1) (fun u => wX10 a0 g v0_papers v0_raw v0_kind v0_figure v0_heavy v0_place v0_rules v0_lower v0_upper v0_limits v0_limit v0_ties v0_letter v0_letters v0_told v0_tolds v0_places v0_cell v0_refusals v0_imaged v0_hasImage v0_before v0_up v0_down v0_beneath v0_numberUp v0_numberDown v0_block v0_blocks v0_merged v0_valueUp v0_valueDown u.1 u.2 v0_at v0_number) A) [.ref (a0 0), .int p1].toArray s 0 0 A) (F0 m 16 ls [])) (E := fun r16 => ∀ (H : Heap) (locs : List Loc) (ls : Array Slot), va_P g.1 vwCl (wX10 a0 g v0_papers v0_raw v0_kind v0_figure v0_heavy v0_place v0_rules v0_lower v0_upper v0_limits v0_limit v0_ties v0_letter v0_letters v0_told v0_tolds v0_places v0_cell v0_refusals v0_imaged v0_hasImage v0_before v0_up v0_down v0_beneath v0_numberUp v0_numberDown v0_block v0_blocks v0_merged v0_valueUp v0_valueDown r16.1 r16.2 v0_at v0_number) H → va_D A (wX10 a0 g v0_papers v0_raw v0_kind v0_figure v0_heavy v0_place v0_rules v0_lower v0_upper v0_limits v0_limit v0_ties v0_letter v0_letters v0_told v0_tolds v0_places v0_cell v0_refusals v0_imaged v0_hasImage v0_before v0_up v0_down v0_beneath v0_numberUp v0_numberDown v0_block v0_blocks v0_merged v0_valueUp v0_valueDown r16.1 r16.2 v0_at v0_number) → va_S A s.heap H locs → lv_has ls 4 [] → W p l e { frames := 5, cells := 0, slots := 0, locals := 107 } s m [.ref (a0 0), .int p1].toArray below meth c H locs 0 0 (MQ below (Qv g (m_X10_sayOthers (v0_papers, v0_raw, v0_kind, v0_figure, v0_heavy, v0_place, v0_rules, v0_lower, v0_upper, v0_limits, v0_limit, v0_ties, v0_letter, v0_letters, v0_told, v0_tolds, v0_places, v0_cell, v0_refusals, v0_imaged, v0_hasImage, v0_before, v0_up, v0_down, v0_beneath, v0_numberUp, v0_numberDown, v0_block, v0_blocks, v0_merged, v0_valueUp, v0_valueDown, v0_said, v0_saids, v0_at, v0_number) p1) (fun u => wX10 a0 g v0_papers v0_raw v0_kind v0_figure v0_heavy v0_place v0_rules v0_lower v0_upper v0_limits v0_limit v0_ties v0_letter v0_letters v0_told v0_tolds v0_places v0_cell v0_refusals v0_imaged v0_hasImage v0_before v0_up v0_down v0_beneath v0_numberUp v0_numberDown v0_block v0_blocks v0_merged v0_valueUp v0_valueDown u.1 u.2 v0_at v0_number) A) [.ref (a0 0), .int p1].toArray s 0 0 A) (F0 m 56 ls [])) ?_ fu _ r16 er16 ?_ _ _ _ hP hD hS (lv_sub hl [2, 3, 1, 0] rfl)
    · rintro ⟨x7, x8, x9, x10⟩ y hf hB hXt H locs ls hP hD hS hl
      have hP : va_P g.1 vwCl (wX10 a0 g v0_papers v0_raw v0_kind v0_figure v0_heavy v0_place v0_rules v0_lower v0_upper v0_limits v0_limit v0_ties v0_letter v0_letters v0_told v0_tolds v0_places v0_cell v0_refusals v0_imaged v0_hasImage v0_before v0_up v0_down v0_beneath v0_numberUp v0_numberDown v0_block v0_blocks v0_merged v0_valueUp v0_valueDown x9 x10 v0_at v0_number) H := hP
      have hD : va_D A (wX10 a0 g v0_papers v0_raw v0_kind v0_figure v0_heavy v0_place v0_rules v0_lower v0_upper v0_limits v0_limit v0_ties v0_letter v0_letters v0_told v0_tolds v0_places v0_cell v0_refusals v0_imaged v0_hasImage v0_before v0_up v0_down v0_beneath v0_numberUp v0_numberDown v0_block v0_blocks v0_merged v0_valueUp v0_valueDown x9 x10 v0_at v0_number) := hD
      have hl : lv_has ls 4 [(0, .ref (a0 0)), (1, .int p1), (2, .int x7), (3, .int x8)] := hl
      have hf : m_X10_sayOthers_l16 (v0_papers, v0_raw, v0_kind, v0_figure, v0_heavy, v0_place, v0_rules, v0_lower, v0_upper, v0_limits, v0_limit, v0_ties, v0_letter, v0_letters, v0_told, v0_tolds, v0_places, v0_cell, v0_refusals, v0_imaged, v0_hasImage, v0_before, v0_up, v0_down, v0_beneath, v0_numberUp, v0_numberDown, v0_block, v0_blocks, v0_merged, v0_valueUp, v0_valueDown, v0_said, v0_saids, v0_at, v0_number) p1 x7 x8 x9 x10 = some y := hf
      unfold m_X10_sayOthers_l16 at hf
      refine lv_iload_n hx hb dX10_sayOthers_16 rfl (lv_at hl 3 rfl) ?_
      refine lv_aload_n hx hb dX10_sayOthers_17 rfl (lv_at hl 0 rfl) ?_
      refine va_get (D := g.1) (ci := 11) (v := .int v0_papers) (C := RX10) (T := TX10) (N := 36) hx hb hts layX10 hown hK.1 hP 0 rfl rfl 0 (by decide) (hts _ kw1277) (fun _ h9 => h9) rfl dX10_sayOthers_18 ?_
      refine lv_icmp_ge (tgt := 56) hx hb dX10_sayOthers_21 (by decide) (fun cb => ?_) (fun cb => ?_)
      · have hf := it_t cb hf
        exact hXt _ (Option.some.inj hf).symm _ _ _ hP hD hS (lv_sub hl [] rfl)
      have hf := it_f cb hf
      refine lv_iload_n hx hb dX10_sayOthers_24 rfl (lv_at hl 1 rfl) ?_
      refine lv_iload_n hx hb dX10_sayOthers_25 rfl (lv_at hl 3 rfl) ?_
      refine cIp hP hD hS hA hE (fun hPc hDc hSc => rS (As := [.int p1, .int x8]) (rest := []) hx hb hml hown hts hK (c_X10_has l g p1 x8 (bnd_ne hf)) svS_X10_has kw1395 hPc hDc hSc rfl rfl hl.1 (Nat.le_of_ble_eq_true rfl) dX10_sayOthers_26 ⟨Nat.le_of_ble_eq_true rfl, Nat.le_of_ble_eq_true rfl, rfl, rfl, Nat.le_of_ble_eq_true rfl, Nat.le_of_ble_eq_true rfl⟩) [] rfl rfl rfl (fun x11 H locs ex11 nx11 hP hS => ?_)
      have hf := bnd_of hf ex11
      refine lv_if_eq (tgt := 50) hx hb dX10_sayOthers_29 (by decide) (fun cb => ?_) (fun cb => ?_)
      · have hf := it_t cb hf
        refine lv_iinc (v := (x8 + 1)) (lv' := [(3, .int (x8 + 1)), (0, .ref (a0 0)), (1, .int p1), (2, .int x7)]) hx hb dX10_sayOthers_50 hl (k := 3) rfl (by rfl) (by decide) rfl (fun ls hl => ?_)
        refine lv_goto (tgt := 16) hx hb dX10_sayOthers_53 (by decide) ?_
        exact hB _ (Option.some.inj hf).symm _ _ _ hP hD hS (lv_sub hl [1, 2, 3, 0] rfl)
      have hf := it_f cb hf
      refine lv_iload_n hx hb dX10_sayOthers_32 rfl (lv_at hl 2 rfl) ?_
      obtain ⟨r13, er13, hf⟩ := bnd hf
      have K : ∀ (H : Heap) (locs : List Loc) (ls : Array Slot), va_P g.1 vwCl (wX10 a0 g v0_papers v0_raw v0_kind v0_figure v0_heavy v0_place v0_rules v0_lower v0_upper v0_limits v0_limit v0_ties v0_letter v0_letters v0_told v0_tolds v0_places v0_cell v0_refusals v0_imaged v0_hasImage v0_before v0_up v0_down v0_beneath v0_numberUp v0_numberDown v0_block v0_blocks v0_merged v0_valueUp v0_valueDown r13.1 r13.2 v0_at v0_number) H → va_D A (wX10 a0 g v0_papers v0_raw v0_kind v0_figure v0_heavy v0_place v0_rules v0_lower v0_upper v0_limits v0_limit v0_ties v0_letter v0_letters v0_told v0_tolds v0_places v0_cell v0_refusals v0_imaged v0_hasImage v0_before v0_up v0_down v0_beneath v0_numberUp v0_numberDown v0_block v0_blocks v0_merged v0_valueUp v0_valueDown r13.1 r13.2 v0_at v0_number) → va_S A s.heap H locs → lv_has ls 4 [(0, .ref (a0 0)), (1, .int p1), (3, .int x8)] → W p l e { frames := 5, cells := 0, slots := 0, locals := 107 } s m [.ref (a0 0), .int p1].toArray below meth c H locs 0 0 (MQ below (Qv g (m_X10_sayOthers (v0_papers, v0_raw, v0_kind, v0_figure, v0_heavy, v0_place, v0_rules, v0_lower, v0_upper, v0_limits, v0_limit, v0_ties, v0_letter, v0_letters, v0_told, v0_tolds, v0_places, v0_cell, v0_refusals, v0_imaged, v0_hasImage, v0_before, v0_up, v0_down, v0_beneath, v0_numberUp, v0_numberDown, v0_block, v0_blocks, v0_merged, v0_valueUp, v0_valueDown, v0_said, v0_saids, v0_at, v0_number) p1) (fun u => wX10 a0 g v0_papers v0_raw v0_kind v0_figure v0_heavy v0_place v0_rules v0_lower v0_upper v0_limits v0_limit v0_ties v0_letter v0_letters v0_told v0_tolds v0_places v0_cell v0_refusals v0_imaged v0_hasImage v0_before v0_up v0_down v0_beneath v0_numberUp v0_numberDown v0_block v0_blocks v0_merged v0_valueUp v0_valueDown u.1 u.2 v0_at v0_number) A) [.ref (a0 0), .int p1].toArray s 0 0 A) (F0 m 42 ls []) := by
        intro H locs ls hP hD hS hl
        refine lv_aload_n hx hb dX10_sayOthers_42 rfl (lv_at hl 0 rfl) ?_
        refine lv_iload_n hx hb dX10_sayOthers_43 rfl (lv_at hl 2 rfl) ?_
        refine lv_i2l (v := x8.toInt64) hx hb dX10_sayOthers_44 rfl ?_
        refine cV hP hD hS hA hE (fun hPc hDc hSc => rV (As := [.long x8.toInt64]) (rest := []) hx hb hml hown hts hK (c_X10_sayNumber l g a0 v0_papers v0_raw v0_kind v0_figure v0_heavy v0_place v0_rules v0_lower v0_upper v0_limits v0_limit v0_ties v0_letter v0_letters v0_told v0_tolds v0_places v0_cell v0_refusals v0_imaged v0_hasImage v0_before v0_up v0_down v0_beneath v0_numberUp v0_numberDown v0_block v0_blocks v0_merged v0_valueUp v0_valueDown r13.1 r13.2 v0_at v0_number x8.toInt64 (bnd_ne hf)) svV_X10_sayNumber kw1633 rfl rfl hPc hDc hSc rfl rfl hl.1 (Nat.le_of_ble_eq_true rfl) dX10_sayOthers_45 ⟨Nat.le_of_ble_eq_true rfl, Nat.le_of_ble_eq_true rfl, rfl, rfl, Nat.le_of_ble_eq_true rfl, Nat.le_of_ble_eq_true rfl⟩) [(0, 22)] rfl rfl rfl (fun _ => rfl) (fun x14 H locs ex14 hP hD hS => ?_)
        have hf := bnd_of hf ex14
        have hP : va_P g.1 vwCl (wX10 a0 g v0_papers v0_raw v0_kind v0_figure v0_heavy v0_place v0_rules v0_lower v0_upper v0_limits v0_limit v0_ties v0_letter v0_letters v0_told v0_tolds v0_places v0_cell v0_refusals v0_imaged v0_hasImage v0_before v0_up v0_down v0_beneath v0_numberUp v0_numberDown v0_block v0_blocks v0_merged v0_valueUp v0_valueDown x14.1 x14.2 v0_at v0_number) H := hP
        have hD : va_D A (wX10 a0 g v0_papers v0_raw v0_kind v0_figure v0_heavy v0_place v0_rules v0_lower v0_upper v0_limits v0_limit v0_ties v0_letter v0_letters v0_told v0_tolds v0_places v0_cell v0_refusals v0_imaged v0_hasImage v0_before v0_up v0_down v0_beneath v0_numberUp v0_numberDown v0_block v0_blocks v0_merged v0_valueUp v0_valueDown x14.1 x14.2 v0_at v0_number) := hD
        refine lv_iconst (v := 0) hx hb dX10_sayOthers_48 (by decide) ?_
        refine lv_istore_n (lv' := [(2, .int (0 : Int32)), (0, .ref (a0 0)), (1, .int p1), (3, .int x8)]) hx hb dX10_sayOthers_49 rfl hl (by decide) rfl (fun ls hl => ?_)
        refine lv_iinc (v := (x8 + 1)) (lv' := [(3, .int (x8 + 1)), (2, .int (0 : Int32)), (0, .ref (a0 0)), (1, .int p1)]) hx hb dX10_sayOthers_50 hl (k := 3) rfl (by rfl) (by decide) rfl (fun ls hl => ?_)
        refine lv_goto (tgt := 16) hx hb dX10_sayOthers_53 (by decide) ?_
        exact hB _ (Option.some.inj hf).symm _ _ _ hP hD hS (lv_sub hl [2, 3, 1, 0] rfl)
      have hf := er13
      refine lv_if_ne (tgt := 42) hx hb dX10_sayOthers_33 (by decide) (fun cb => ?_) (fun cb => ?_)
      · have hf := it_f cb hf
        have hq := Option.some.inj hf
        subst hq
        exact K _ _ _ hP hD hS (lv_sub hl [0, 1, 3] rfl)
      have hf := it_t cb hf
      refine lv_aload_n hx hb dX10_sayOthers_36 rfl (lv_at hl 0 rfl) ?_
      refine lv_bipush (v := 44) hx hb dX10_sayOthers_37 (by decide) ?_
      refine cV hP hD hS hA hE (fun hPc hDc hSc => rV (As := [.int (44 : Int32)]) (rest := []) hx hb hml hown hts hK (c_X10_say l g a0 v0_papers v0_raw v0_kind v0_figure v0_heavy v0_place v0_rules v0_lower v0_upper v0_limits v0_limit v0_ties v0_letter v0_letters v0_told v0_tolds v0_places v0_cell v0_refusals v0_imaged v0_hasImage v0_before v0_up v0_down v0_beneath v0_numberUp v0_numberDown v0_block v0_blocks v0_merged v0_valueUp v0_valueDown x9 x10 v0_at v0_number (44 : Int32) (bnd_ne hf)) svV_X10_say kw1638 rfl rfl hPc hDc hSc rfl rfl hl.1 (Nat.le_of_ble_eq_true rfl) dX10_sayOthers_39 ⟨Nat.le_of_ble_eq_true rfl, Nat.le_of_ble_eq_true rfl, rfl, rfl, Nat.le_of_ble_eq_true rfl, Nat.le_of_ble_eq_true rfl⟩) [(0, 22)] rfl rfl rfl (fun _ => rfl) (fun x15 H locs ex15 hP hD hS => ?_)
      have hf := bnd_of hf ex15
      have hP : va_P g.1 vwCl (wX10 a0 g v0_papers v0_raw v0_kind v0_figure v0_heavy v0_place v0_rules v0_lower v0_upper v0_limits v0_limit v0_ties v0_letter v0_letters v0_told v0_tolds v0_places v0_cell v0_refusals v0_imaged v0_hasImage v0_before v0_up v0_down v0_beneath v0_numberUp v0_numberDown v0_block v0_blocks v0_merged v0_valueUp v0_valueDown x15.1 x15.2 v0_at v0_number) H := hP
      have hD : va_D A (wX10 a0 g v0_papers v0_raw v0_kind v0_figure v0_heavy v0_place v0_rules v0_lower v0_upper v0_limits v0_limit v0_ties v0_letter v0_letters v0_told v0_tolds v0_places v0_cell v0_refusals v0_imaged v0_hasImage v0_before v0_up v0_down v0_beneath v0_numberUp v0_numberDown v0_block v0_blocks v0_merged v0_valueUp v0_valueDown x15.1 x15.2 v0_at v0_number) := hD
      have hq := Option.some.inj hf
      subst hq
      exact K _ _ _ hP hD hS (lv_sub hl [0, 1, 3] rfl)
    intro H locs ls hP hD hS hl
    have hP : va_P g.1 vwCl (wX10 a0 g v0_papers v0_raw v0_kind v0_figure v0_heavy v0_place v0_rules v0_lower v0_upper v0_limits v0_limit v0_ties v0_letter v0_letters v0_told v0_tolds v0_places v0_cell v0_refusals v0_imaged v0_hasImage v0_before v0_up v0_down v0_beneath v0_numberUp v0_numberDown v0_block v0_blocks v0_merged v0_valueUp v0_valueDown r16.1 r16.2 v0_at v0_number) H := hP
    have hD : va_D A (wX10 a0 g v0_papers v0_raw v0_kind v0_figure v0_heavy v0_place v0_rules v0_lower v0_upper v0_limits v0_limit v0_ties v0_letter v0_letters v0_told v0_tolds v0_places v0_cell v0_refusals v0_imaged v0_hasImage v0_before v0_up v0_down v0_beneath v0_numberUp v0_numberDown v0_block v0_blocks v0_merged v0_valueUp v0_valueDown r16.1 r16.2 v0_at v0_number) := hD
    have hl : lv_has ls 4 [] := hl
    exact retV (u := (r16.1, r16.2)) (W1 := fun u => wX10 a0 g v0_papers v0_raw v0_kind v0_figure v0_heavy v0_place v0_rules v0_lower v0_upper v0_limits v0_limit v0_ties v0_letter v0_letters v0_told v0_tolds v0_places v0_cell v0_refusals v0_imaged v0_hasImage v0_before v0_up v0_down v0_beneath v0_numberUp v0_numberDown v0_block v0_blocks v0_merged v0_valueUp v0_valueDown u.1 u.2 v0_at v0_number) hx hb hr hlocks hS hP hD (hf0.trans hf.symm) dX10_sayOthers_56
  have hf := it_t cb hf
  exact retV (u := (v0_said, v0_saids)) (W1 := fun u => wX10 a0 g v0_papers v0_raw v0_kind v0_figure v0_heavy v0_place v0_rules v0_lower v0_upper v0_limits v0_limit v0_ties v0_letter v0_letters v0_told v0_tolds v0_places v0_cell v0_refusals v0_imaged v0_hasImage v0_before v0_up v0_down v0_beneath v0_numberUp v0_numberDown v0_block v0_blocks v0_merged v0_valueUp v0_valueDown u.1 u.2 v0_at v0_number) hx hb hr hlocks hS hP hD (hf0.trans hf.symm) dX10_sayOthers_4
