theorem svV_X10_keeps : SV RX10 yX10_keeps cX10_keeps 3 none 1 := ⟨kw1669, kw1887, kw16, kw1670, rfl, by decide, by decide, by decide +kernel⟩
theorem svV_X10_inPools : SV RX10 yX10_inPools cX10_inPools 3 (some .int) 0 := ⟨kw1675, kw1888, kw16, kw1676, rfl, by decide, by decide, by decide +kernel⟩
theorem svV_X10_again : SV RX10 yX10_again cX10_again 3 none 1 := ⟨kw1678, kw1889, kw16, kw1679, rfl, by decide, by decide, by decide +kernel⟩
theorem dX10_keeps_0 : decode cX10_keeps 0 = .ok (.iconst 0, 1) := by decide +kernel
theorem dX10_keeps_1 : decode cX10_keeps 1 = .ok (.istore_n 2, 1) := by decide +kernel
theorem dX10_keeps_2 : decode cX10_keeps 2 = .ok (.iload_n 2, 1) := by decide +kernel
theorem dX10_keeps_3 : decode cX10_keeps 3 = .ok (.bipush 7, 2) := by decide +kernel
theorem dX10_keeps_5 : decode cX10_keeps 5 = .ok (.if_icmp .ge 66, 3) := by decide +kernel
theorem dX10_keeps_8 : decode cX10_keeps 8 = .ok (.aload_n 1, 1) := by decide +kernel
theorem dX10_keeps_9 : decode cX10_keeps 9 = .ok (.iload_n 2, 1) := by decide +kernel
theorem dX10_keeps_10 : decode cX10_keeps 10 = .ok (.aload_n 0, 1) := by decide +kernel
theorem dX10_keeps_11 : decode cX10_keeps 11 = .ok (.getfield 7, 3) := by decide +kernel
theorem dX10_keeps_14 : decode cX10_keeps 14 = .ok (.iload_n 2, 1) := by decide +kernel
theorem dX10_keeps_15 : decode cX10_keeps 15 = .ok (.iaload, 1) := by decide +kernel
theorem dX10_keeps_16 : decode cX10_keeps 16 = .ok (.iastore, 1) := by decide +kernel
theorem dX10_keeps_17 : decode cX10_keeps 17 = .ok (.aload_n 1, 1) := by decide +kernel
theorem dX10_keeps_18 : decode cX10_keeps 18 = .ok (.bipush 7, 2) := by decide +kernel
theorem dX10_keeps_20 : decode cX10_keeps 20 = .ok (.iload_n 2, 1) := by decide +kernel
theorem dX10_keeps_21 : decode cX10_keeps 21 = .ok (.iadd, 1) := by decide +kernel
theorem dX10_keeps_22 : decode cX10_keeps 22 = .ok (.aload_n 0, 1) := by decide +kernel
theorem dX10_keeps_23 : decode cX10_keeps 23 = .ok (.getfield 13, 3) := by decide +kernel
theorem dX10_keeps_26 : decode cX10_keeps 26 = .ok (.iload_n 2, 1) := by decide +kernel
theorem dX10_keeps_27 : decode cX10_keeps 27 = .ok (.iaload, 1) := by decide +kernel
theorem dX10_keeps_28 : decode cX10_keeps 28 = .ok (.iastore, 1) := by decide +kernel
theorem dX10_keeps_29 : decode cX10_keeps 29 = .ok (.aload_n 1, 1) := by decide +kernel
theorem dX10_keeps_30 : decode cX10_keeps 30 = .ok (.bipush 14, 2) := by decide +kernel
theorem dX10_keeps_32 : decode cX10_keeps 32 = .ok (.iload_n 2, 1) := by decide +kernel
theorem dX10_keeps_33 : decode cX10_keeps 33 = .ok (.iadd, 1) := by decide +kernel
theorem dX10_keeps_34 : decode cX10_keeps 34 = .ok (.aload_n 0, 1) := by decide +kernel
theorem dX10_keeps_35 : decode cX10_keeps 35 = .ok (.getfield 16, 3) := by decide +kernel
theorem dX10_keeps_38 : decode cX10_keeps 38 = .ok (.iload_n 2, 1) := by decide +kernel
theorem dX10_keeps_39 : decode cX10_keeps 39 = .ok (.iaload, 1) := by decide +kernel
theorem dX10_keeps_40 : decode cX10_keeps 40 = .ok (.iastore, 1) := by decide +kernel
theorem dX10_keeps_41 : decode cX10_keeps 41 = .ok (.aload_n 1, 1) := by decide +kernel
theorem dX10_keeps_42 : decode cX10_keeps 42 = .ok (.bipush 21, 2) := by decide +kernel
theorem dX10_keeps_44 : decode cX10_keeps 44 = .ok (.iload_n 2, 1) := by decide +kernel
theorem dX10_keeps_45 : decode cX10_keeps 45 = .ok (.iadd, 1) := by decide +kernel
theorem dX10_keeps_46 : decode cX10_keeps 46 = .ok (.aload_n 0, 1) := by decide +kernel
theorem dX10_keeps_47 : decode cX10_keeps 47 = .ok (.getfield 19, 3) := by decide +kernel
theorem dX10_keeps_50 : decode cX10_keeps 50 = .ok (.iload_n 2, 1) := by decide +kernel
theorem dX10_keeps_51 : decode cX10_keeps 51 = .ok (.iaload, 1) := by decide +kernel
theorem dX10_keeps_52 : decode cX10_keeps 52 = .ok (.iastore, 1) := by decide +kernel
theorem dX10_keeps_53 : decode cX10_keeps 53 = .ok (.aload_n 1, 1) := by decide +kernel
theorem dX10_keeps_54 : decode cX10_keeps 54 = .ok (.bipush 28, 2) := by decide +kernel
theorem dX10_keeps_56 : decode cX10_keeps 56 = .ok (.iload_n 2, 1) := by decide +kernel
theorem dX10_keeps_57 : decode cX10_keeps 57 = .ok (.iadd, 1) := by decide +kernel
theorem dX10_keeps_58 : decode cX10_keeps 58 = .ok (.aload_n 0, 1) := by decide +kernel
theorem dX10_keeps_59 : decode cX10_keeps 59 = .ok (.getfield 22, 3) := by decide +kernel
theorem dX10_keeps_62 : decode cX10_keeps 62 = .ok (.iload_n 2, 1) := by decide +kernel
theorem dX10_keeps_63 : decode cX10_keeps 63 = .ok (.iaload, 1) := by decide +kernel
theorem dX10_keeps_64 : decode cX10_keeps 64 = .ok (.iastore, 1) := by decide +kernel
theorem dX10_keeps_65 : decode cX10_keeps 65 = .ok (.iinc 2 1, 3) := by decide +kernel
theorem dX10_keeps_68 : decode cX10_keeps 68 = .ok (.goto (-66), 3) := by decide +kernel
theorem dX10_keeps_71 : decode cX10_keeps 71 = .ok (.iconst 0, 1) := by decide +kernel
theorem dX10_keeps_72 : decode cX10_keeps 72 = .ok (.istore_n 2, 1) := by decide +kernel
theorem dX10_keeps_73 : decode cX10_keeps 73 = .ok (.iload_n 2, 1) := by decide +kernel
theorem dX10_keeps_74 : decode cX10_keeps 74 = .ok (.bipush 12, 2) := by decide +kernel
theorem dX10_keeps_76 : decode cX10_keeps 76 = .ok (.if_icmp .ge 33, 3) := by decide +kernel
theorem dX10_keeps_79 : decode cX10_keeps 79 = .ok (.aload_n 1, 1) := by decide +kernel
theorem dX10_keeps_80 : decode cX10_keeps 80 = .ok (.bipush 35, 2) := by decide +kernel
theorem dX10_keeps_82 : decode cX10_keeps 82 = .ok (.iload_n 2, 1) := by decide +kernel
theorem dX10_keeps_83 : decode cX10_keeps 83 = .ok (.iadd, 1) := by decide +kernel
theorem dX10_keeps_84 : decode cX10_keeps 84 = .ok (.aload_n 0, 1) := by decide +kernel
theorem dX10_keeps_85 : decode cX10_keeps 85 = .ok (.getfield 25, 3) := by decide +kernel
theorem dX10_keeps_88 : decode cX10_keeps 88 = .ok (.iload_n 2, 1) := by decide +kernel
theorem dX10_keeps_89 : decode cX10_keeps 89 = .ok (.iaload, 1) := by decide +kernel
theorem dX10_keeps_90 : decode cX10_keeps 90 = .ok (.iastore, 1) := by decide +kernel
theorem dX10_keeps_91 : decode cX10_keeps 91 = .ok (.aload_n 1, 1) := by decide +kernel
theorem dX10_keeps_92 : decode cX10_keeps 92 = .ok (.bipush 47, 2) := by decide +kernel
theorem dX10_keeps_94 : decode cX10_keeps 94 = .ok (.iload_n 2, 1) := by decide +kernel
theorem dX10_keeps_95 : decode cX10_keeps 95 = .ok (.iadd, 1) := by decide +kernel
theorem dX10_keeps_96 : decode cX10_keeps 96 = .ok (.aload_n 0, 1) := by decide +kernel
theorem dX10_keeps_97 : decode cX10_keeps 97 = .ok (.getfield 28, 3) := by decide +kernel
theorem dX10_keeps_100 : decode cX10_keeps 100 = .ok (.iload_n 2, 1) := by decide +kernel
theorem dX10_keeps_101 : decode cX10_keeps 101 = .ok (.iaload, 1) := by decide +kernel
theorem dX10_keeps_102 : decode cX10_keeps 102 = .ok (.iastore, 1) := by decide +kernel
theorem dX10_keeps_103 : decode cX10_keeps 103 = .ok (.iinc 2 1, 3) := by decide +kernel
theorem dX10_keeps_106 : decode cX10_keeps 106 = .ok (.goto (-33), 3) := by decide +kernel
theorem dX10_keeps_109 : decode cX10_keeps 109 = .ok (.iconst 0, 1) := by decide +kernel
theorem dX10_keeps_110 : decode cX10_keeps 110 = .ok (.istore_n 2, 1) := by decide +kernel
theorem dX10_keeps_111 : decode cX10_keeps 111 = .ok (.iload_n 2, 1) := by decide +kernel
theorem dX10_keeps_112 : decode cX10_keeps 112 = .ok (.iconst 5, 1) := by decide +kernel
theorem dX10_keeps_113 : decode cX10_keeps 113 = .ok (.if_icmp .ge 21, 3) := by decide +kernel
theorem dX10_keeps_116 : decode cX10_keeps 116 = .ok (.aload_n 1, 1) := by decide +kernel
theorem dX10_keeps_117 : decode cX10_keeps 117 = .ok (.bipush 59, 2) := by decide +kernel
theorem dX10_keeps_119 : decode cX10_keeps 119 = .ok (.iload_n 2, 1) := by decide +kernel
theorem dX10_keeps_120 : decode cX10_keeps 120 = .ok (.iadd, 1) := by decide +kernel
theorem dX10_keeps_121 : decode cX10_keeps 121 = .ok (.aload_n 0, 1) := by decide +kernel
theorem dX10_keeps_122 : decode cX10_keeps 122 = .ok (.getfield 31, 3) := by decide +kernel
theorem dX10_keeps_125 : decode cX10_keeps 125 = .ok (.iload_n 2, 1) := by decide +kernel
theorem dX10_keeps_126 : decode cX10_keeps 126 = .ok (.iaload, 1) := by decide +kernel
theorem dX10_keeps_127 : decode cX10_keeps 127 = .ok (.iastore, 1) := by decide +kernel
theorem dX10_keeps_128 : decode cX10_keeps 128 = .ok (.iinc 2 1, 3) := by decide +kernel
theorem dX10_keeps_131 : decode cX10_keeps 131 = .ok (.goto (-20), 3) := by decide +kernel
theorem dX10_keeps_134 : decode cX10_keeps 134 = .ok (.aload_n 1, 1) := by decide +kernel
theorem dX10_keeps_135 : decode cX10_keeps 135 = .ok (.bipush 64, 2) := by decide +kernel
theorem dX10_keeps_137 : decode cX10_keeps 137 = .ok (.aload_n 0, 1) := by decide +kernel
theorem dX10_keeps_138 : decode cX10_keeps 138 = .ok (.getfield 80, 3) := by decide +kernel
theorem dX10_keeps_141 : decode cX10_keeps 141 = .ok (.iastore, 1) := by decide +kernel
theorem dX10_keeps_142 : decode cX10_keeps 142 = .ok (.aload_n 1, 1) := by decide +kernel
theorem dX10_keeps_143 : decode cX10_keeps 143 = .ok (.bipush 65, 2) := by decide +kernel
theorem dX10_keeps_145 : decode cX10_keeps 145 = .ok (.aload_n 0, 1) := by decide +kernel
theorem dX10_keeps_146 : decode cX10_keeps 146 = .ok (.getfield 88, 3) := by decide +kernel
theorem dX10_keeps_149 : decode cX10_keeps 149 = .ok (.iastore, 1) := by decide +kernel
theorem dX10_keeps_150 : decode cX10_keeps 150 = .ok (.aload_n 1, 1) := by decide +kernel
theorem dX10_keeps_151 : decode cX10_keeps 151 = .ok (.bipush 66, 2) := by decide +kernel
theorem dX10_keeps_153 : decode cX10_keeps 153 = .ok (.aload_n 0, 1) := by decide +kernel
theorem dX10_keeps_154 : decode cX10_keeps 154 = .ok (.getfield 119, 3) := by decide +kernel
theorem dX10_keeps_157 : decode cX10_keeps 157 = .ok (.iastore, 1) := by decide +kernel
theorem dX10_keeps_158 : decode cX10_keeps 158 = .ok (.aload_n 1, 1) := by decide +kernel
theorem dX10_keeps_159 : decode cX10_keeps 159 = .ok (.bipush 67, 2) := by decide +kernel
theorem dX10_keeps_161 : decode cX10_keeps 161 = .ok (.aload_n 0, 1) := by decide +kernel
theorem dX10_keeps_162 : decode cX10_keeps 162 = .ok (.getfield 148, 3) := by decide +kernel
theorem dX10_keeps_165 : decode cX10_keeps 165 = .ok (.iastore, 1) := by decide +kernel
theorem dX10_keeps_166 : decode cX10_keeps 166 = .ok (.return_, 1) := by decide +kernel
theorem dX10_again_0 : decode cX10_again 0 = .ok (.iconst 0, 1) := by decide +kernel
theorem dX10_again_1 : decode cX10_again 1 = .ok (.istore_n 2, 1) := by decide +kernel
theorem dX10_again_2 : decode cX10_again 2 = .ok (.iload_n 2, 1) := by decide +kernel
theorem dX10_again_3 : decode cX10_again 3 = .ok (.bipush 7, 2) := by decide +kernel
theorem dX10_again_5 : decode cX10_again 5 = .ok (.if_icmp .ge 66, 3) := by decide +kernel
theorem dX10_again_8 : decode cX10_again 8 = .ok (.aload_n 0, 1) := by decide +kernel
theorem dX10_again_9 : decode cX10_again 9 = .ok (.getfield 7, 3) := by decide +kernel
theorem dX10_again_12 : decode cX10_again 12 = .ok (.iload_n 2, 1) := by decide +kernel
theorem dX10_again_13 : decode cX10_again 13 = .ok (.aload_n 1, 1) := by decide +kernel
theorem dX10_again_14 : decode cX10_again 14 = .ok (.iload_n 2, 1) := by decide +kernel
theorem dX10_again_15 : decode cX10_again 15 = .ok (.iaload, 1) := by decide +kernel
theorem dX10_again_16 : decode cX10_again 16 = .ok (.iastore, 1) := by decide +kernel
theorem dX10_again_17 : decode cX10_again 17 = .ok (.aload_n 0, 1) := by decide +kernel
theorem dX10_again_18 : decode cX10_again 18 = .ok (.getfield 13, 3) := by decide +kernel
theorem dX10_again_21 : decode cX10_again 21 = .ok (.iload_n 2, 1) := by decide +kernel
theorem dX10_again_22 : decode cX10_again 22 = .ok (.aload_n 1, 1) := by decide +kernel
theorem dX10_again_23 : decode cX10_again 23 = .ok (.bipush 7, 2) := by decide +kernel
theorem dX10_again_25 : decode cX10_again 25 = .ok (.iload_n 2, 1) := by decide +kernel
theorem dX10_again_26 : decode cX10_again 26 = .ok (.iadd, 1) := by decide +kernel
theorem dX10_again_27 : decode cX10_again 27 = .ok (.iaload, 1) := by decide +kernel
theorem dX10_again_28 : decode cX10_again 28 = .ok (.iastore, 1) := by decide +kernel
theorem dX10_again_29 : decode cX10_again 29 = .ok (.aload_n 0, 1) := by decide +kernel
theorem dX10_again_30 : decode cX10_again 30 = .ok (.getfield 16, 3) := by decide +kernel
theorem dX10_again_33 : decode cX10_again 33 = .ok (.iload_n 2, 1) := by decide +kernel
theorem dX10_again_34 : decode cX10_again 34 = .ok (.aload_n 1, 1) := by decide +kernel
theorem dX10_again_35 : decode cX10_again 35 = .ok (.bipush 14, 2) := by decide +kernel
theorem dX10_again_37 : decode cX10_again 37 = .ok (.iload_n 2, 1) := by decide +kernel
theorem dX10_again_38 : decode cX10_again 38 = .ok (.iadd, 1) := by decide +kernel
theorem dX10_again_39 : decode cX10_again 39 = .ok (.iaload, 1) := by decide +kernel
theorem dX10_again_40 : decode cX10_again 40 = .ok (.iastore, 1) := by decide +kernel
theorem dX10_again_41 : decode cX10_again 41 = .ok (.aload_n 0, 1) := by decide +kernel
theorem dX10_again_42 : decode cX10_again 42 = .ok (.getfield 19, 3) := by decide +kernel
theorem dX10_again_45 : decode cX10_again 45 = .ok (.iload_n 2, 1) := by decide +kernel
theorem dX10_again_46 : decode cX10_again 46 = .ok (.aload_n 1, 1) := by decide +kernel
theorem dX10_again_47 : decode cX10_again 47 = .ok (.bipush 21, 2) := by decide +kernel
theorem dX10_again_49 : decode cX10_again 49 = .ok (.iload_n 2, 1) := by decide +kernel
theorem dX10_again_50 : decode cX10_again 50 = .ok (.iadd, 1) := by decide +kernel
theorem dX10_again_51 : decode cX10_again 51 = .ok (.iaload, 1) := by decide +kernel
theorem dX10_again_52 : decode cX10_again 52 = .ok (.iastore, 1) := by decide +kernel
theorem dX10_again_53 : decode cX10_again 53 = .ok (.aload_n 0, 1) := by decide +kernel
theorem dX10_again_54 : decode cX10_again 54 = .ok (.getfield 22, 3) := by decide +kernel
theorem dX10_again_57 : decode cX10_again 57 = .ok (.iload_n 2, 1) := by decide +kernel
theorem dX10_again_58 : decode cX10_again 58 = .ok (.aload_n 1, 1) := by decide +kernel
theorem dX10_again_59 : decode cX10_again 59 = .ok (.bipush 28, 2) := by decide +kernel
theorem dX10_again_61 : decode cX10_again 61 = .ok (.iload_n 2, 1) := by decide +kernel
theorem dX10_again_62 : decode cX10_again 62 = .ok (.iadd, 1) := by decide +kernel
theorem dX10_again_63 : decode cX10_again 63 = .ok (.iaload, 1) := by decide +kernel
theorem dX10_again_64 : decode cX10_again 64 = .ok (.iastore, 1) := by decide +kernel
theorem dX10_again_65 : decode cX10_again 65 = .ok (.iinc 2 1, 3) := by decide +kernel
theorem dX10_again_68 : decode cX10_again 68 = .ok (.goto (-66), 3) := by decide +kernel
theorem dX10_again_71 : decode cX10_again 71 = .ok (.iconst 0, 1) := by decide +kernel
theorem dX10_again_72 : decode cX10_again 72 = .ok (.istore_n 2, 1) := by decide +kernel
theorem dX10_again_73 : decode cX10_again 73 = .ok (.iload_n 2, 1) := by decide +kernel
theorem dX10_again_74 : decode cX10_again 74 = .ok (.bipush 12, 2) := by decide +kernel
theorem dX10_again_76 : decode cX10_again 76 = .ok (.if_icmp .ge 33, 3) := by decide +kernel
theorem dX10_again_79 : decode cX10_again 79 = .ok (.aload_n 0, 1) := by decide +kernel
theorem dX10_again_80 : decode cX10_again 80 = .ok (.getfield 25, 3) := by decide +kernel
theorem dX10_again_83 : decode cX10_again 83 = .ok (.iload_n 2, 1) := by decide +kernel
theorem dX10_again_84 : decode cX10_again 84 = .ok (.aload_n 1, 1) := by decide +kernel
theorem dX10_again_85 : decode cX10_again 85 = .ok (.bipush 35, 2) := by decide +kernel
theorem dX10_again_87 : decode cX10_again 87 = .ok (.iload_n 2, 1) := by decide +kernel
theorem dX10_again_88 : decode cX10_again 88 = .ok (.iadd, 1) := by decide +kernel
theorem dX10_again_89 : decode cX10_again 89 = .ok (.iaload, 1) := by decide +kernel
theorem dX10_again_90 : decode cX10_again 90 = .ok (.iastore, 1) := by decide +kernel
theorem dX10_again_91 : decode cX10_again 91 = .ok (.aload_n 0, 1) := by decide +kernel
theorem dX10_again_92 : decode cX10_again 92 = .ok (.getfield 28, 3) := by decide +kernel
theorem dX10_again_95 : decode cX10_again 95 = .ok (.iload_n 2, 1) := by decide +kernel
theorem dX10_again_96 : decode cX10_again 96 = .ok (.aload_n 1, 1) := by decide +kernel
theorem dX10_again_97 : decode cX10_again 97 = .ok (.bipush 47, 2) := by decide +kernel
theorem dX10_again_99 : decode cX10_again 99 = .ok (.iload_n 2, 1) := by decide +kernel
theorem dX10_again_100 : decode cX10_again 100 = .ok (.iadd, 1) := by decide +kernel
theorem dX10_again_101 : decode cX10_again 101 = .ok (.iaload, 1) := by decide +kernel
theorem dX10_again_102 : decode cX10_again 102 = .ok (.iastore, 1) := by decide +kernel
theorem dX10_again_103 : decode cX10_again 103 = .ok (.iinc 2 1, 3) := by decide +kernel
theorem dX10_again_106 : decode cX10_again 106 = .ok (.goto (-33), 3) := by decide +kernel
theorem dX10_again_109 : decode cX10_again 109 = .ok (.iconst 0, 1) := by decide +kernel
theorem dX10_again_110 : decode cX10_again 110 = .ok (.istore_n 2, 1) := by decide +kernel
theorem dX10_again_111 : decode cX10_again 111 = .ok (.iload_n 2, 1) := by decide +kernel
theorem dX10_again_112 : decode cX10_again 112 = .ok (.iconst 5, 1) := by decide +kernel
theorem dX10_again_113 : decode cX10_again 113 = .ok (.if_icmp .ge 21, 3) := by decide +kernel
theorem dX10_again_116 : decode cX10_again 116 = .ok (.aload_n 0, 1) := by decide +kernel
theorem dX10_again_117 : decode cX10_again 117 = .ok (.getfield 31, 3) := by decide +kernel
theorem dX10_again_120 : decode cX10_again 120 = .ok (.iload_n 2, 1) := by decide +kernel
theorem dX10_again_121 : decode cX10_again 121 = .ok (.aload_n 1, 1) := by decide +kernel
theorem dX10_again_122 : decode cX10_again 122 = .ok (.bipush 59, 2) := by decide +kernel
theorem dX10_again_124 : decode cX10_again 124 = .ok (.iload_n 2, 1) := by decide +kernel
theorem dX10_again_125 : decode cX10_again 125 = .ok (.iadd, 1) := by decide +kernel
theorem dX10_again_126 : decode cX10_again 126 = .ok (.iaload, 1) := by decide +kernel
theorem dX10_again_127 : decode cX10_again 127 = .ok (.iastore, 1) := by decide +kernel
theorem dX10_again_128 : decode cX10_again 128 = .ok (.iinc 2 1, 3) := by decide +kernel
theorem dX10_again_131 : decode cX10_again 131 = .ok (.goto (-20), 3) := by decide +kernel
theorem dX10_again_134 : decode cX10_again 134 = .ok (.aload_n 0, 1) := by decide +kernel
theorem dX10_again_135 : decode cX10_again 135 = .ok (.aload_n 1, 1) := by decide +kernel
theorem dX10_again_136 : decode cX10_again 136 = .ok (.bipush 64, 2) := by decide +kernel
theorem dX10_again_138 : decode cX10_again 138 = .ok (.iaload, 1) := by decide +kernel
theorem dX10_again_139 : decode cX10_again 139 = .ok (.putfield 80, 3) := by decide +kernel
theorem dX10_again_142 : decode cX10_again 142 = .ok (.aload_n 0, 1) := by decide +kernel
theorem dX10_again_143 : decode cX10_again 143 = .ok (.aload_n 1, 1) := by decide +kernel
theorem dX10_again_144 : decode cX10_again 144 = .ok (.bipush 65, 2) := by decide +kernel
theorem dX10_again_146 : decode cX10_again 146 = .ok (.iaload, 1) := by decide +kernel
theorem dX10_again_147 : decode cX10_again 147 = .ok (.putfield 88, 3) := by decide +kernel
theorem dX10_again_150 : decode cX10_again 150 = .ok (.aload_n 0, 1) := by decide +kernel
theorem dX10_again_151 : decode cX10_again 151 = .ok (.aload_n 1, 1) := by decide +kernel
theorem dX10_again_152 : decode cX10_again 152 = .ok (.bipush 66, 2) := by decide +kernel
theorem dX10_again_154 : decode cX10_again 154 = .ok (.iaload, 1) := by decide +kernel
theorem dX10_again_155 : decode cX10_again 155 = .ok (.putfield 119, 3) := by decide +kernel
theorem dX10_again_158 : decode cX10_again 158 = .ok (.aload_n 0, 1) := by decide +kernel
theorem dX10_again_159 : decode cX10_again 159 = .ok (.aload_n 1, 1) := by decide +kernel
theorem dX10_again_160 : decode cX10_again 160 = .ok (.bipush 67, 2) := by decide +kernel
theorem dX10_again_162 : decode cX10_again 162 = .ok (.iaload, 1) := by decide +kernel
theorem dX10_again_163 : decode cX10_again 163 = .ok (.putfield 148, 3) := by decide +kernel
theorem dX10_again_166 : decode cX10_again 166 = .ok (.return_, 1) := by decide +kernel
theorem dX10_lots_0 : decode cX10_lots 0 = .ok (.iload_n 1, 1) := by decide +kernel
theorem dX10_lots_1 : decode cX10_lots 1 = .ok (.iconst 1, 1) := by decide +kernel
theorem dX10_lots_2 : decode cX10_lots 2 = .ok (.if_icmp .ge 10, 3) := by decide +kernel
theorem dX10_lots_12 : decode cX10_lots 12 = .ok (.iload_n 1, 1) := by decide +kernel
theorem dX10_lots_13 : decode cX10_lots 13 = .ok (.bipush 20, 2) := by decide +kernel
theorem dX10_lots_15 : decode cX10_lots 15 = .ok (.if_icmp .le 10, 3) := by decide +kernel
theorem dX10_lots_25 : decode cX10_lots 25 = .ok (.iload_n 3, 1) := by decide +kernel
theorem dX10_lots_26 : decode cX10_lots 26 = .ok (.iconst 0, 1) := by decide +kernel
theorem dX10_lots_27 : decode cX10_lots 27 = .ok (.iconst 1, 1) := by decide +kernel
theorem dX10_lots_28 : decode cX10_lots 28 = .ok (.invokestatic 84, 3) := by decide +kernel
theorem dX10_lots_31 : decode cX10_lots 31 = .ok (.ifCond .ne 10, 3) := by decide +kernel
theorem dX10_lots_41 : decode cX10_lots 41 = .ok (.aload_n 0, 1) := by decide +kernel
theorem dX10_lots_42 : decode cX10_lots 42 = .ok (.aload_n 0, 1) := by decide +kernel
theorem dX10_lots_43 : decode cX10_lots 43 = .ok (.getfield 53, 3) := by decide +kernel
theorem dX10_lots_46 : decode cX10_lots 46 = .ok (.invokevirtual 343, 3) := by decide +kernel
theorem dX10_lots_49 : decode cX10_lots 49 = .ok (.iload_n 2, 1) := by decide +kernel
theorem dX10_lots_50 : decode cX10_lots 50 = .ok (.istore 4, 2) := by decide +kernel
theorem dX10_lots_52 : decode cX10_lots 52 = .ok (.iconst 0, 1) := by decide +kernel
theorem dX10_lots_53 : decode cX10_lots 53 = .ok (.istore 5, 2) := by decide +kernel
theorem dX10_lots_55 : decode cX10_lots 55 = .ok (.iconst 0, 1) := by decide +kernel
theorem dX10_lots_56 : decode cX10_lots 56 = .ok (.istore 6, 2) := by decide +kernel
theorem dX10_lots_58 : decode cX10_lots 58 = .ok (.iload 6, 2) := by decide +kernel
theorem dX10_lots_60 : decode cX10_lots 60 = .ok (.iload_n 1, 1) := by decide +kernel
theorem dX10_lots_61 : decode cX10_lots 61 = .ok (.if_icmp .ge 79, 3) := by decide +kernel
theorem dX10_lots_64 : decode cX10_lots 64 = .ok (.iconst 0, 1) := by decide +kernel
theorem dX10_lots_65 : decode cX10_lots 65 = .ok (.istore 7, 2) := by decide +kernel
theorem dX10_lots_67 : decode cX10_lots 67 = .ok (.iload 7, 2) := by decide +kernel
theorem dX10_lots_69 : decode cX10_lots 69 = .ok (.aload_n 0, 1) := by decide +kernel
theorem dX10_lots_70 : decode cX10_lots 70 = .ok (.getfield 80, 3) := by decide +kernel
theorem dX10_lots_73 : decode cX10_lots 73 = .ok (.if_icmp .ge 41, 3) := by decide +kernel
theorem dX10_lots_76 : decode cX10_lots 76 = .ok (.iload 4, 2) := by decide +kernel
theorem dX10_lots_78 : decode cX10_lots 78 = .ok (.ldc_w 347, 3) := by decide +kernel
theorem dX10_lots_81 : decode cX10_lots 81 = .ok (.imul, 1) := by decide +kernel
theorem dX10_lots_82 : decode cX10_lots 82 = .ok (.ldc_w 348, 3) := by decide +kernel
theorem dX10_lots_85 : decode cX10_lots 85 = .ok (.iadd, 1) := by decide +kernel
theorem dX10_lots_86 : decode cX10_lots 86 = .ok (.istore 4, 2) := by decide +kernel
theorem dX10_lots_88 : decode cX10_lots 88 = .ok (.aload_n 0, 1) := by decide +kernel
theorem dX10_lots_89 : decode cX10_lots 89 = .ok (.getfield 7, 3) := by decide +kernel
theorem dX10_lots_92 : decode cX10_lots 92 = .ok (.iload 7, 2) := by decide +kernel
theorem dX10_lots_94 : decode cX10_lots 94 = .ok (.iload 4, 2) := by decide +kernel
theorem dX10_lots_96 : decode cX10_lots 96 = .ok (.ldc_w 349, 3) := by decide +kernel
theorem dX10_lots_99 : decode cX10_lots 99 = .ok (.iand, 1) := by decide +kernel
theorem dX10_lots_100 : decode cX10_lots 100 = .ok (.sipush 256, 3) := by decide +kernel
theorem dX10_lots_103 : decode cX10_lots 103 = .ok (.idiv, 1) := by decide +kernel
theorem dX10_lots_104 : decode cX10_lots 104 = .ok (.bipush 100, 2) := by decide +kernel
theorem dX10_lots_106 : decode cX10_lots 106 = .ok (.irem, 1) := by decide +kernel
theorem dX10_lots_107 : decode cX10_lots 107 = .ok (.iastore, 1) := by decide +kernel
theorem dX10_lots_108 : decode cX10_lots 108 = .ok (.iinc 7 1, 3) := by decide +kernel
theorem dX10_lots_111 : decode cX10_lots 111 = .ok (.goto (-44), 3) := by decide +kernel
theorem dX10_lots_114 : decode cX10_lots 114 = .ok (.iload 5, 2) := by decide +kernel
theorem dX10_lots_116 : decode cX10_lots 116 = .ok (.iload_n 3, 1) := by decide +kernel
theorem dX10_lots_117 : decode cX10_lots 117 = .ok (.ifCond .ne 10, 3) := by decide +kernel
theorem dX10_lots_127 : decode cX10_lots 127 = .ok (.aload_n 0, 1) := by decide +kernel
theorem dX10_lots_128 : decode cX10_lots 128 = .ok (.invokevirtual 350, 3) := by decide +kernel
theorem dX10_lots_131 : decode cX10_lots 131 = .ok (.iadd, 1) := by decide +kernel
theorem dX10_lots_132 : decode cX10_lots 132 = .ok (.istore 5, 2) := by decide +kernel
theorem dX10_lots_134 : decode cX10_lots 134 = .ok (.iinc 6 1, 3) := by decide +kernel
theorem dX10_lots_137 : decode cX10_lots 137 = .ok (.goto (-79), 3) := by decide +kernel
theorem dX10_lots_120 : decode cX10_lots 120 = .ok (.aload_n 0, 1) := by decide +kernel
theorem dX10_lots_121 : decode cX10_lots 121 = .ok (.invokevirtual 167, 3) := by decide +kernel
theorem dX10_lots_124 : decode cX10_lots 124 = .ok (.goto 7, 3) := by decide +kernel
theorem dX10_lots_140 : decode cX10_lots 140 = .ok (.aload_n 0, 1) := by decide +kernel
theorem dX10_lots_141 : decode cX10_lots 141 = .ok (.aload_n 0, 1) := by decide +kernel
theorem dX10_lots_142 : decode cX10_lots 142 = .ok (.getfield 53, 3) := by decide +kernel
theorem dX10_lots_145 : decode cX10_lots 145 = .ok (.invokevirtual 353, 3) := by decide +kernel
theorem dX10_lots_148 : decode cX10_lots 148 = .ok (.iload 5, 2) := by decide +kernel
theorem dX10_lots_150 : decode cX10_lots 150 = .ok (.ireturn, 1) := by decide +kernel
theorem dX10_lots_34 : decode cX10_lots 34 = .ok (.aload_n 0, 1) := by decide +kernel
theorem dX10_lots_35 : decode cX10_lots 35 = .ok (.bipush (-2), 2) := by decide +kernel
theorem dX10_lots_37 : decode cX10_lots 37 = .ok (.invokevirtual 76, 3) := by decide +kernel
theorem dX10_lots_40 : decode cX10_lots 40 = .ok (.ireturn, 1) := by decide +kernel
theorem dX10_lots_18 : decode cX10_lots 18 = .ok (.aload_n 0, 1) := by decide +kernel
theorem dX10_lots_19 : decode cX10_lots 19 = .ok (.bipush (-6), 2) := by decide +kernel
theorem dX10_lots_21 : decode cX10_lots 21 = .ok (.invokevirtual 76, 3) := by decide +kernel
theorem dX10_lots_24 : decode cX10_lots 24 = .ok (.ireturn, 1) := by decide +kernel
theorem dX10_lots_5 : decode cX10_lots 5 = .ok (.aload_n 0, 1) := by decide +kernel
theorem dX10_lots_6 : decode cX10_lots 6 = .ok (.bipush (-4), 2) := by decide +kernel
theorem dX10_lots_8 : decode cX10_lots 8 = .ok (.invokevirtual 76, 3) := by decide +kernel
theorem dX10_lots_11 : decode cX10_lots 11 = .ok (.ireturn, 1) := by decide +kernel
theorem dX10_isShelf_0 : decode cX10_isShelf 0 = .ok (.iload_n 0, 1) := by decide +kernel
theorem dX10_isShelf_1 : decode cX10_isShelf 1 = .ok (.iconst 0, 1) := by decide +kernel
theorem dX10_isShelf_2 : decode cX10_isShelf 2 = .ok (.iconst 3, 1) := by decide +kernel
theorem dX10_isShelf_3 : decode cX10_isShelf 3 = .ok (.invokestatic 84, 3) := by decide +kernel
theorem dX10_isShelf_6 : decode cX10_isShelf 6 = .ok (.ireturn, 1) := by decide +kernel
set_option maxHeartbeats 4000000 in
set_option maxRecDepth 100000 in
theorem c_X10_keeps_0_0_15 (l : Launch) (g : GG) (a0 : Nat → Nat) (v0_papers : Int32) (v0_raw : (Nat → Int32)) (v0_kind : (Nat → Int32)) (v0_figure : (Nat → Int32)) (v0_heavy : (Nat → Int32)) (v0_place : (Nat → Int32)) (v0_rules : Int32) (v0_lower : (Nat → Int32)) (v0_upper : (Nat → Int32)) (v0_limits : Int32) (v0_limit : (Nat → Int32)) (v0_ties : Int32) (v0_letter : (Nat → Int32)) (v0_letters : Int32) (v0_told : (Nat → Int32)) (v0_tolds : Int32) (v0_places : (Nat → Int32)) (v0_cell : (Nat → Int64)) (v0_refusals : (Nat → Int32)) (v0_imaged : (Nat → Int32)) (v0_hasImage : Int32) (v0_before : (Nat → Int32)) (v0_up : Int64) (v0_down : Int64) (v0_beneath : (Nat → Int32)) (v0_numberUp : Int32) (v0_numberDown : Int32) (v0_block : (Nat → Int32)) (v0_blocks : Int32) (v0_merged : Int32) (v0_valueUp : (Nat → Int32)) (v0_valueDown : (Nat → Int32)) (v0_said : (Nat → Int32)) (v0_saids : Int32) (v0_at : Int32) (v0_number : (Nat → Int32)) (hne : (m_X10_keeps_0_0_15 (v0_papers, v0_raw, v0_kind, v0_figure, v0_heavy, v0_place, v0_rules, v0_lower, v0_upper, v0_limits, v0_limit, v0_ties, v0_letter, v0_letters, v0_told, v0_tolds, v0_places, v0_cell, v0_refusals, v0_imaged, v0_hasImage, v0_before, v0_up, v0_down, v0_beneath, v0_numberUp, v0_numberDown, v0_block, v0_blocks, v0_merged, v0_valueUp, v0_valueDown, v0_said, v0_saids, v0_at, v0_number)) ≠ none) : Ct l g yX10_keeps cX10_keeps 3 none ({ frames := 0, cells := 0, slots := 0, locals := 0 } : Room) [.ref (a0 0), .ref (a0 15)] (wX10 a0 g v0_papers v0_raw v0_kind v0_figure v0_heavy v0_place v0_rules v0_lower v0_upper v0_limits v0_limit v0_ties v0_letter v0_letters v0_told v0_tolds v0_places v0_cell v0_refusals v0_imaged v0_hasImage v0_before v0_up v0_down v0_beneath v0_numberUp v0_numberDown v0_block v0_blocks v0_merged v0_valueUp v0_valueDown v0_said v0_saids v0_at v0_number) (Qv g (m_X10_keeps_0_0_15 (v0_papers, v0_raw, v0_kind, v0_figure, v0_heavy, v0_place, v0_rules, v0_lower, v0_upper, v0_limits, v0_limit, v0_ties, v0_letter, v0_letters, v0_told, v0_tolds, v0_places, v0_cell, v0_refusals, v0_imaged, v0_hasImage, v0_before, v0_up, v0_down, v0_beneath, v0_numberUp, v0_numberDown, v0_block, v0_blocks, v0_merged, v0_valueUp, v0_valueDown, v0_said, v0_saids, v0_at, v0_number)) (fun u => wX10 a0 g v0_papers v0_raw v0_kind v0_figure v0_heavy v0_place v0_rules v0_lower v0_upper v0_limits v0_limit v0_ties v0_letter v0_letters v0_told v0_tolds v0_places v0_cell v0_refusals v0_imaged v0_hasImage u v0_up v0_down v0_beneath v0_numberUp v0_numberDown v0_block v0_blocks v0_merged v0_valueUp v0_valueDown v0_said v0_saids v0_at v0_number)) 0 0 := by
  obtain ⟨out, hf⟩ := ne_ex hne
  have hf0 := hf
  refine Ct.of (own := RX10) (by decide +kernel) rfl (Nat.le_of_ble_eq_true rfl) ?_
  intro p e s m below meth c hx hb hr hml hown hts hlocks hin hK A H locs hA hP hD hS hE ls hl
  have hl : lv_has ls 3 [(0, .ref (a0 0)), (1, .ref (a0 15))] := hl
  unfold m_X10_keeps_0_0_15 at hf
  refine lv_iconst (v := 0) hx hb dX10_keeps_0 (by decide) ?_
  refine lv_istore_n (lv' := [(2, .int (0 : Int32)), (0, .ref (a0 0)), (1, .ref (a0 15))]) hx hb dX10_keeps_1 rfl hl (by decide) rfl (fun ls hl => ?_)
  obtain ⟨r3, er3, hf⟩ := bnd hf
  refine lp_W (P := fun z => ∀ (H : Heap) (locs : List Loc) (ls : Array Slot), va_P g.1 vwCl (wX10 a0 g v0_papers v0_raw v0_kind v0_figure v0_heavy v0_place v0_rules v0_lower v0_upper v0_limits v0_limit v0_ties v0_letter v0_letters v0_told v0_tolds v0_places v0_cell v0_refusals v0_imaged v0_hasImage z.2 v0_up v0_down v0_beneath v0_numberUp v0_numberDown v0_block v0_blocks v0_merged v0_valueUp v0_valueDown v0_said v0_saids v0_at v0_number) H → va_D A (wX10 a0 g v0_papers v0_raw v0_kind v0_figure v0_heavy v0_place v0_rules v0_lower v0_upper v0_limits v0_limit v0_ties v0_letter v0_letters v0_told v0_tolds v0_places v0_cell v0_refusals v0_imaged v0_hasImage z.2 v0_up v0_down v0_beneath v0_numberUp v0_numberDown v0_block v0_blocks v0_merged v0_valueUp v0_valueDown v0_said v0_saids v0_at v0_number) → va_S A s.heap H locs → lv_has ls 3 [(0, .ref (a0 0)), (1, .ref (a0 15)), (2, .int z.1)] → W p l e { frames := 0, cells := 0, slots := 0, locals := 0 } s m [.ref (a0 0), .ref (a0 15)].toArray below meth c H locs 0 0 (MQ below (Qv g (m_X10_keeps_0_0_15 (v0_papers, v0_raw, v0_kind, v0_figure, v0_heavy, v0_place, v0_rules, v0_lower, v0_upper, v0_limits, v0_limit, v0_ties, v0_letter, v0_letters, v0_told, v0_tolds, v0_places, v0_cell, v0_refusals, v0_imaged, v0_hasImage, v0_before, v0_up, v0_down, v0_beneath, v0_numberUp, v0_numberDown, v0_block, v0_blocks, v0_merged, v0_valueUp, v0_valueDown, v0_said, v0_saids, v0_at, v0_number)) (fun u => wX10 a0 g v0_papers v0_raw v0_kind v0_figure v0_heavy v0_place v0_rules v0_lower v0_upper v0_limits v0_limit v0_ties v0_letter v0_letters v0_told v0_tolds v0_places v0_cell v0_refusals v0_imaged v0_hasImage u v0_up v0_down v0_beneath v0_numberUp v0_numberDown v0_block v0_blocks v0_merged v0_valueUp v0_valueDown v0_said v0_saids v0_at v0_number) A) [.ref (a0 0), .ref (a0 15)].toArray s 0 0 A) (F0 m 2 ls [])) (E := fun r3 => ∀ (H : Heap) (locs : List Loc) (ls : Array Slot), va_P g.1 vwCl (wX10 a0 g v0_papers v0_raw v0_kind v0_figure v0_heavy v0_place v0_rules v0_lower v0_upper v0_limits v0_limit v0_ties v0_letter v0_letters v0_told v0_tolds v0_places v0_cell v0_refusals v0_imaged v0_hasImage r3 v0_up v0_down v0_beneath v0_numberUp v0_numberDown v0_block v0_blocks v0_merged v0_valueUp v0_valueDown v0_said v0_saids v0_at v0_number) H → va_D A (wX10 a0 g v0_papers v0_raw v0_kind v0_figure v0_heavy v0_place v0_rules v0_lower v0_upper v0_limits v0_limit v0_ties v0_letter v0_letters v0_told v0_tolds v0_places v0_cell v0_refusals v0_imaged v0_hasImage r3 v0_up v0_down v0_beneath v0_numberUp v0_numberDown v0_block v0_blocks v0_merged v0_valueUp v0_valueDown v0_said v0_saids v0_at v0_number) → va_S A s.heap H locs → lv_has ls 3 [(0, .ref (a0 0)), (1, .ref (a0 15))] → W p l e { frames := 0, cells := 0, slots := 0, locals := 0 } s m [.ref (a0 0), .ref (a0 15)].toArray below meth c H locs 0 0 (MQ below (Qv g (m_X10_keeps_0_0_15 (v0_papers, v0_raw, v0_kind, v0_figure, v0_heavy, v0_place, v0_rules, v0_lower, v0_upper, v0_limits, v0_limit, v0_ties, v0_letter, v0_letters, v0_told, v0_tolds, v0_places, v0_cell, v0_refusals, v0_imaged, v0_hasImage, v0_before, v0_up, v0_down, v0_beneath, v0_numberUp, v0_numberDown, v0_block, v0_blocks, v0_merged, v0_valueUp, v0_valueDown, v0_said, v0_saids, v0_at, v0_number)) (fun u => wX10 a0 g v0_papers v0_raw v0_kind v0_figure v0_heavy v0_place v0_rules v0_lower v0_upper v0_limits v0_limit v0_ties v0_letter v0_letters v0_told v0_tolds v0_places v0_cell v0_refusals v0_imaged v0_hasImage u v0_up v0_down v0_beneath v0_numberUp v0_numberDown v0_block v0_blocks v0_merged v0_valueUp v0_valueDown v0_said v0_saids v0_at v0_number) A) [.ref (a0 0), .ref (a0 15)].toArray s 0 0 A) (F0 m 71 ls [])) ?_ fu _ r3 er3 ?_ _ _ _ hP hD hS (lv_sub hl [1, 2, 0] rfl)
  · rintro ⟨x1, x2⟩ y hf hB hXt H locs ls hP hD hS hl
    have hP : va_P g.1 vwCl (wX10 a0 g v0_papers v0_raw v0_kind v0_figure v0_heavy v0_place v0_rules v0_lower v0_upper v0_limits v0_limit v0_ties v0_letter v0_letters v0_told v0_tolds v0_places v0_cell v0_refusals v0_imaged v0_hasImage x2 v0_up v0_down v0_beneath v0_numberUp v0_numberDown v0_block v0_blocks v0_merged v0_valueUp v0_valueDown v0_said v0_saids v0_at v0_number) H := hP
    have hD : va_D A (wX10 a0 g v0_papers v0_raw v0_kind v0_figure v0_heavy v0_place v0_rules v0_lower v0_upper v0_limits v0_limit v0_ties v0_letter v0_letters v0_told v0_tolds v0_places v0_cell v0_refusals v0_imaged v0_hasImage x2 v0_up v0_down v0_beneath v0_numberUp v0_numberDown v0_block v0_blocks v0_merged v0_valueUp v0_valueDown v0_said v0_saids v0_at v0_number) := hD
    have hl : lv_has ls 3 [(0, .ref (a0 0)), (1, .ref (a0 15)), (2, .int x1)] := hl
    have hf : m_X10_keeps_0_0_15_l2 (v0_papers, v0_raw, v0_kind, v0_figure, v0_heavy, v0_place, v0_rules, v0_lower, v0_upper, v0_limits, v0_limit, v0_ties, v0_letter, v0_letters, v0_told, v0_tolds, v0_places, v0_cell, v0_refusals, v0_imaged, v0_hasImage, v0_before, v0_up, v0_down, v0_beneath, v0_numberUp, v0_numberDown, v0_block, v0_blocks, v0_merged, v0_valueUp, v0_valueDown, v0_said, v0_saids, v0_at, v0_number) x1 x2 = some y := hf
    unfold m_X10_keeps_0_0_15_l2 at hf
    refine lv_iload_n hx hb dX10_keeps_2 rfl (lv_at hl 2 rfl) ?_
    refine lv_bipush (v := 7) hx hb dX10_keeps_3 (by decide) ?_
    refine lv_icmp_ge (tgt := 71) hx hb dX10_keeps_5 (by decide) (fun cb => ?_) (fun cb => ?_)
    · have hf := it_t cb hf
      exact hXt _ (Option.some.inj hf).symm _ _ _ hP hD hS (lv_sub hl [0, 1] rfl)
    have hf := it_f cb hf
    refine lv_aload_n hx hb dX10_keeps_8 rfl (lv_at hl 1 rfl) ?_
    refine lv_iload_n hx hb dX10_keeps_9 rfl (lv_at hl 2 rfl) ?_
    refine lv_aload_n hx hb dX10_keeps_10 rfl (lv_at hl 0 rfl) ?_
    refine va_get (D := g.1) (ci := 11) (v := .ref (a0 1)) (C := RX10) (T := TX10) (N := 36) hx hb hts layX10 hown hK.1 hP 0 rfl rfl 1 (by decide) (hts _ kw1278) (fun _ h9 => h9) rfl dX10_keeps_11 ?_
    refine lv_iload_n hx hb dX10_keeps_14 rfl (lv_at hl 2 rfl) ?_
    have hi := it_n hf
    have hf := it_t hi hf
    refine va_iald hx hb hK.1 hP 1 0 rfl rfl (inb_in hi) dX10_keeps_15 ?_
    have hi := it_n hf
    have hf := it_t hi hf
    refine va_iast hx hb hK.1 hP hD hS 15 0 rfl rfl (inb_in hi) dX10_keeps_16 (fun H locs hP hD hS => ?_)
    have hP : va_P g.1 vwCl (wX10 a0 g v0_papers v0_raw v0_kind v0_figure v0_heavy v0_place v0_rules v0_lower v0_upper v0_limits v0_limit v0_ties v0_letter v0_letters v0_told v0_tolds v0_places v0_cell v0_refusals v0_imaged v0_hasImage (upd x2 x1.toNatClampNeg (v0_raw x1.toNatClampNeg)) v0_up v0_down v0_beneath v0_numberUp v0_numberDown v0_block v0_blocks v0_merged v0_valueUp v0_valueDown v0_said v0_saids v0_at v0_number) H := hP
    have hD : va_D A (wX10 a0 g v0_papers v0_raw v0_kind v0_figure v0_heavy v0_place v0_rules v0_lower v0_upper v0_limits v0_limit v0_ties v0_letter v0_letters v0_told v0_tolds v0_places v0_cell v0_refusals v0_imaged v0_hasImage (upd x2 x1.toNatClampNeg (v0_raw x1.toNatClampNeg)) v0_up v0_down v0_beneath v0_numberUp v0_numberDown v0_block v0_blocks v0_merged v0_valueUp v0_valueDown v0_said v0_saids v0_at v0_number) := hD
    refine lv_aload_n hx hb dX10_keeps_17 rfl (lv_at hl 1 rfl) ?_
    refine lv_bipush (v := 7) hx hb dX10_keeps_18 (by decide) ?_
    refine lv_iload_n hx hb dX10_keeps_20 rfl (lv_at hl 2 rfl) ?_
    refine lv_iadd hx hb dX10_keeps_21 ?_
    refine lv_aload_n hx hb dX10_keeps_22 rfl (lv_at hl 0 rfl) ?_
    refine va_get (D := g.1) (ci := 11) (v := .ref (a0 2)) (C := RX10) (T := TX10) (N := 36) hx hb hts layX10 hown hK.1 hP 0 rfl rfl 2 (by decide) (hts _ kw1279) (fun _ h9 => h9) rfl dX10_keeps_23 ?_
    refine lv_iload_n hx hb dX10_keeps_26 rfl (lv_at hl 2 rfl) ?_
    have hi := it_n hf
    have hf := it_t hi hf
    refine va_iald hx hb hK.1 hP 2 0 rfl rfl (inb_in hi) dX10_keeps_27 ?_
    have hi := it_n hf
    have hf := it_t hi hf
    refine va_iast hx hb hK.1 hP hD hS 15 0 rfl rfl (inb_in hi) dX10_keeps_28 (fun H locs hP hD hS => ?_)
    have hP : va_P g.1 vwCl (wX10 a0 g v0_papers v0_raw v0_kind v0_figure v0_heavy v0_place v0_rules v0_lower v0_upper v0_limits v0_limit v0_ties v0_letter v0_letters v0_told v0_tolds v0_places v0_cell v0_refusals v0_imaged v0_hasImage (upd (upd x2 x1.toNatClampNeg (v0_raw x1.toNatClampNeg)) ((7 : Int32) + x1).toNatClampNeg (v0_kind x1.toNatClampNeg)) v0_up v0_down v0_beneath v0_numberUp v0_numberDown v0_block v0_blocks v0_merged v0_valueUp v0_valueDown v0_said v0_saids v0_at v0_number) H := hP
    have hD : va_D A (wX10 a0 g v0_papers v0_raw v0_kind v0_figure v0_heavy v0_place v0_rules v0_lower v0_upper v0_limits v0_limit v0_ties v0_letter v0_letters v0_told v0_tolds v0_places v0_cell v0_refusals v0_imaged v0_hasImage (upd (upd x2 x1.toNatClampNeg (v0_raw x1.toNatClampNeg)) ((7 : Int32) + x1).toNatClampNeg (v0_kind x1.toNatClampNeg)) v0_up v0_down v0_beneath v0_numberUp v0_numberDown v0_block v0_blocks v0_merged v0_valueUp v0_valueDown v0_said v0_saids v0_at v0_number) := hD
    refine lv_aload_n hx hb dX10_keeps_29 rfl (lv_at hl 1 rfl) ?_
    refine lv_bipush (v := 14) hx hb dX10_keeps_30 (by decide) ?_
    refine lv_iload_n hx hb dX10_keeps_32 rfl (lv_at hl 2 rfl) ?_
    refine lv_iadd hx hb dX10_keeps_33 ?_
    refine lv_aload_n hx hb dX10_keeps_34 rfl (lv_at hl 0 rfl) ?_
    refine va_get (D := g.1) (ci := 11) (v := .ref (a0 3)) (C := RX10) (T := TX10) (N := 36) hx hb hts layX10 hown hK.1 hP 0 rfl rfl 3 (by decide) (hts _ kw1280) (fun _ h9 => h9) rfl dX10_keeps_35 ?_
    refine lv_iload_n hx hb dX10_keeps_38 rfl (lv_at hl 2 rfl) ?_
    have hi := it_n hf
    have hf := it_t hi hf
    refine va_iald hx hb hK.1 hP 3 0 rfl rfl (inb_in hi) dX10_keeps_39 ?_
    have hi := it_n hf
    have hf := it_t hi hf
    refine va_iast hx hb hK.1 hP hD hS 15 0 rfl rfl (inb_in hi) dX10_keeps_40 (fun H locs hP hD hS => ?_)
    have hP : va_P g.1 vwCl (wX10 a0 g v0_papers v0_raw v0_kind v0_figure v0_heavy v0_place v0_rules v0_lower v0_upper v0_limits v0_limit v0_ties v0_letter v0_letters v0_told v0_tolds v0_places v0_cell v0_refusals v0_imaged v0_hasImage (upd (upd (upd x2 x1.toNatClampNeg (v0_raw x1.toNatClampNeg)) ((7 : Int32) + x1).toNatClampNeg (v0_kind x1.toNatClampNeg)) ((14 : Int32) + x1).toNatClampNeg (v0_figure x1.toNatClampNeg)) v0_up v0_down v0_beneath v0_numberUp v0_numberDown v0_block v0_blocks v0_merged v0_valueUp v0_valueDown v0_said v0_saids v0_at v0_number) H := hP
    have hD : va_D A (wX10 a0 g v0_papers v0_raw v0_kind v0_figure v0_heavy v0_place v0_rules v0_lower v0_upper v0_limits v0_limit v0_ties v0_letter v0_letters v0_told v0_tolds v0_places v0_cell v0_refusals v0_imaged v0_hasImage (upd (upd (upd x2 x1.toNatClampNeg (v0_raw x1.toNatClampNeg)) ((7 : Int32) + x1).toNatClampNeg (v0_kind x1.toNatClampNeg)) ((14 : Int32) + x1).toNatClampNeg (v0_figure x1.toNatClampNeg)) v0_up v0_down v0_beneath v0_numberUp v0_numberDown v0_block v0_blocks v0_merged v0_valueUp v0_valueDown v0_said v0_saids v0_at v0_number) := hD
    refine lv_aload_n hx hb dX10_keeps_41 rfl (lv_at hl 1 rfl) ?_
    refine lv_bipush (v := 21) hx hb dX10_keeps_42 (by decide) ?_
    refine lv_iload_n hx hb dX10_keeps_44 rfl (lv_at hl 2 rfl) ?_
    refine lv_iadd hx hb dX10_keeps_45 ?_
    refine lv_aload_n hx hb dX10_keeps_46 rfl (lv_at hl 0 rfl) ?_
    refine va_get (D := g.1) (ci := 11) (v := .ref (a0 4)) (C := RX10) (T := TX10) (N := 36) hx hb hts layX10 hown hK.1 hP 0 rfl rfl 4 (by decide) (hts _ kw1281) (fun _ h9 => h9) rfl dX10_keeps_47 ?_
    refine lv_iload_n hx hb dX10_keeps_50 rfl (lv_at hl 2 rfl) ?_
    have hi := it_n hf
    have hf := it_t hi hf
    refine va_iald hx hb hK.1 hP 4 0 rfl rfl (inb_in hi) dX10_keeps_51 ?_
    have hi := it_n hf
    have hf := it_t hi hf
    refine va_iast hx hb hK.1 hP hD hS 15 0 rfl rfl (inb_in hi) dX10_keeps_52 (fun H locs hP hD hS => ?_)
    have hP : va_P g.1 vwCl (wX10 a0 g v0_papers v0_raw v0_kind v0_figure v0_heavy v0_place v0_rules v0_lower v0_upper v0_limits v0_limit v0_ties v0_letter v0_letters v0_told v0_tolds v0_places v0_cell v0_refusals v0_imaged v0_hasImage (upd (upd (upd (upd x2 x1.toNatClampNeg (v0_raw x1.toNatClampNeg)) ((7 : Int32) + x1).toNatClampNeg (v0_kind x1.toNatClampNeg)) ((14 : Int32) + x1).toNatClampNeg (v0_figure x1.toNatClampNeg)) ((21 : Int32) + x1).toNatClampNeg (v0_heavy x1.toNatClampNeg)) v0_up v0_down v0_beneath v0_numberUp v0_numberDown v0_block v0_blocks v0_merged v0_valueUp v0_valueDown v0_said v0_saids v0_at v0_number) H := hP
    have hD : va_D A (wX10 a0 g v0_papers v0_raw v0_kind v0_figure v0_heavy v0_place v0_rules v0_lower v0_upper v0_limits v0_limit v0_ties v0_letter v0_letters v0_told v0_tolds v0_places v0_cell v0_refusals v0_imaged v0_hasImage (upd (upd (upd (upd x2 x1.toNatClampNeg (v0_raw x1.toNatClampNeg)) ((7 : Int32) + x1).toNatClampNeg (v0_kind x1.toNatClampNeg)) ((14 : Int32) + x1).toNatClampNeg (v0_figure x1.toNatClampNeg)) ((21 : Int32) + x1).toNatClampNeg (v0_heavy x1.toNatClampNeg)) v0_up v0_down v0_beneath v0_numberUp v0_numberDown v0_block v0_blocks v0_merged v0_valueUp v0_valueDown v0_said v0_saids v0_at v0_number) := hD
    refine lv_aload_n hx hb dX10_keeps_53 rfl (lv_at hl 1 rfl) ?_
    refine lv_bipush (v := 28) hx hb dX10_keeps_54 (by decide) ?_
    refine lv_iload_n hx hb dX10_keeps_56 rfl (lv_at hl 2 rfl) ?_
    refine lv_iadd hx hb dX10_keeps_57 ?_
    refine lv_aload_n hx hb dX10_keeps_58 rfl (lv_at hl 0 rfl) ?_
    refine va_get (D := g.1) (ci := 11) (v := .ref (a0 5)) (C := RX10) (T := TX10) (N := 36) hx hb hts layX10 hown hK.1 hP 0 rfl rfl 5 (by decide) (hts _ kw1282) (fun _ h9 => h9) rfl dX10_keeps_59 ?_
    refine lv_iload_n hx hb dX10_keeps_62 rfl (lv_at hl 2 rfl) ?_
    have hi := it_n hf
    have hf := it_t hi hf
    refine va_iald hx hb hK.1 hP 5 0 rfl rfl (inb_in hi) dX10_keeps_63 ?_
    have hi := it_n hf
    have hf := it_t hi hf
    refine va_iast hx hb hK.1 hP hD hS 15 0 rfl rfl (inb_in hi) dX10_keeps_64 (fun H locs hP hD hS => ?_)
    have hP : va_P g.1 vwCl (wX10 a0 g v0_papers v0_raw v0_kind v0_figure v0_heavy v0_place v0_rules v0_lower v0_upper v0_limits v0_limit v0_ties v0_letter v0_letters v0_told v0_tolds v0_places v0_cell v0_refusals v0_imaged v0_hasImage (upd (upd (upd (upd (upd x2 x1.toNatClampNeg (v0_raw x1.toNatClampNeg)) ((7 : Int32) + x1).toNatClampNeg (v0_kind x1.toNatClampNeg)) ((14 : Int32) + x1).toNatClampNeg (v0_figure x1.toNatClampNeg)) ((21 : Int32) + x1).toNatClampNeg (v0_heavy x1.toNatClampNeg)) ((28 : Int32) + x1).toNatClampNeg (v0_place x1.toNatClampNeg)) v0_up v0_down v0_beneath v0_numberUp v0_numberDown v0_block v0_blocks v0_merged v0_valueUp v0_valueDown v0_said v0_saids v0_at v0_number) H := hP
    have hD : va_D A (wX10 a0 g v0_papers v0_raw v0_kind v0_figure v0_heavy v0_place v0_rules v0_lower v0_upper v0_limits v0_limit v0_ties v0_letter v0_letters v0_told v0_tolds v0_places v0_cell v0_refusals v0_imaged v0_hasImage (upd (upd (upd (upd (upd x2 x1.toNatClampNeg (v0_raw x1.toNatClampNeg)) ((7 : Int32) + x1).toNatClampNeg (v0_kind x1.toNatClampNeg)) ((14 : Int32) + x1).toNatClampNeg (v0_figure x1.toNatClampNeg)) ((21 : Int32) + x1).toNatClampNeg (v0_heavy x1.toNatClampNeg)) ((28 : Int32) + x1).toNatClampNeg (v0_place x1.toNatClampNeg)) v0_up v0_down v0_beneath v0_numberUp v0_numberDown v0_block v0_blocks v0_merged v0_valueUp v0_valueDown v0_said v0_saids v0_at v0_number) := hD
    refine lv_iinc (v := (x1 + 1)) (lv' := [(2, .int (x1 + 1)), (0, .ref (a0 0)), (1, .ref (a0 15))]) hx hb dX10_keeps_65 hl (k := 2) rfl (by rfl) (by decide) rfl (fun ls hl => ?_)
    refine lv_goto (tgt := 2) hx hb dX10_keeps_68 (by decide) ?_
    exact hB _ (Option.some.inj hf).symm _ _ _ hP hD hS (lv_sub hl [1, 2, 0] rfl)
  intro H locs ls hP hD hS hl
  have hP : va_P g.1 vwCl (wX10 a0 g v0_papers v0_raw v0_kind v0_figure v0_heavy v0_place v0_rules v0_lower v0_upper v0_limits v0_limit v0_ties v0_letter v0_letters v0_told v0_tolds v0_places v0_cell v0_refusals v0_imaged v0_hasImage r3 v0_up v0_down v0_beneath v0_numberUp v0_numberDown v0_block v0_blocks v0_merged v0_valueUp v0_valueDown v0_said v0_saids v0_at v0_number) H := hP
  have hD : va_D A (wX10 a0 g v0_papers v0_raw v0_kind v0_figure v0_heavy v0_place v0_rules v0_lower v0_upper v0_limits v0_limit v0_ties v0_letter v0_letters v0_told v0_tolds v0_places v0_cell v0_refusals v0_imaged v0_hasImage r3 v0_up v0_down v0_beneath v0_numberUp v0_numberDown v0_block v0_blocks v0_merged v0_valueUp v0_valueDown v0_said v0_saids v0_at v0_number) := hD
  have hl : lv_has ls 3 [(0, .ref (a0 0)), (1, .ref (a0 15))] := hl
  refine lv_iconst (v := 0) hx hb dX10_keeps_71 (by decide) ?_
  refine lv_istore_n (lv' := [(2, .int (0 : Int32)), (0, .ref (a0 0)), (1, .ref (a0 15))]) hx hb dX10_keeps_72 rfl hl (by decide) rfl (fun ls hl => ?_)
  obtain ⟨r6, er6, hf⟩ := bnd hf
  refine lp_W (P := fun z => ∀ (H : Heap) (locs : List Loc) (ls : Array Slot), va_P g.1 vwCl (wX10 a0 g v0_papers v0_raw v0_kind v0_figure v0_heavy v0_place v0_rules v0_lower v0_upper v0_limits v0_limit v0_ties v0_letter v0_letters v0_told v0_tolds v0_places v0_cell v0_refusals v0_imaged v0_hasImage z.2 v0_up v0_down v0_beneath v0_numberUp v0_numberDown v0_block v0_blocks v0_merged v0_valueUp v0_valueDown v0_said v0_saids v0_at v0_number) H → va_D A (wX10 a0 g v0_papers v0_raw v0_kind v0_figure v0_heavy v0_place v0_rules v0_lower v0_upper v0_limits v0_limit v0_ties v0_letter v0_letters v0_told v0_tolds v0_places v0_cell v0_refusals v0_imaged v0_hasImage z.2 v0_up v0_down v0_beneath v0_numberUp v0_numberDown v0_block v0_blocks v0_merged v0_valueUp v0_valueDown v0_said v0_saids v0_at v0_number) → va_S A s.heap H locs → lv_has ls 3 [(0, .ref (a0 0)), (1, .ref (a0 15)), (2, .int z.1)] → W p l e { frames := 0, cells := 0, slots := 0, locals := 0 } s m [.ref (a0 0), .ref (a0 15)].toArray below meth c H locs 0 0 (MQ below (Qv g (m_X10_keeps_0_0_15 (v0_papers, v0_raw, v0_kind, v0_figure, v0_heavy, v0_place, v0_rules, v0_lower, v0_upper, v0_limits, v0_limit, v0_ties, v0_letter, v0_letters, v0_told, v0_tolds, v0_places, v0_cell, v0_refusals, v0_imaged, v0_hasImage, v0_before, v0_up, v0_down, v0_beneath, v0_numberUp, v0_numberDown, v0_block, v0_blocks, v0_merged, v0_valueUp, v0_valueDown, v0_said, v0_saids, v0_at, v0_number)) (fun u => wX10 a0 g v0_papers v0_raw v0_kind v0_figure v0_heavy v0_place v0_rules v0_lower v0_upper v0_limits v0_limit v0_ties v0_letter v0_letters v0_told v0_tolds v0_places v0_cell v0_refusals v0_imaged v0_hasImage u v0_up v0_down v0_beneath v0_numberUp v0_numberDown v0_block v0_blocks v0_merged v0_valueUp v0_valueDown v0_said v0_saids v0_at v0_number) A) [.ref (a0 0), .ref (a0 15)].toArray s 0 0 A) (F0 m 73 ls [])) (E := fun r6 => ∀ (H : Heap) (locs : List Loc) (ls : Array Slot), va_P g.1 vwCl (wX10 a0 g v0_papers v0_raw v0_kind v0_figure v0_heavy v0_place v0_rules v0_lower v0_upper v0_limits v0_limit v0_ties v0_letter v0_letters v0_told v0_tolds v0_places v0_cell v0_refusals v0_imaged v0_hasImage r6 v0_up v0_down v0_beneath v0_numberUp v0_numberDown v0_block v0_blocks v0_merged v0_valueUp v0_valueDown v0_said v0_saids v0_at v0_number) H → va_D A (wX10 a0 g v0_papers v0_raw v0_kind v0_figure v0_heavy v0_place v0_rules v0_lower v0_upper v0_limits v0_limit v0_ties v0_letter v0_letters v0_told v0_tolds v0_places v0_cell v0_refusals v0_imaged v0_hasImage r6 v0_up v0_down v0_beneath v0_numberUp v0_numberDown v0_block v0_blocks v0_merged v0_valueUp v0_valueDown v0_said v0_saids v0_at v0_number) → va_S A s.heap H locs → lv_has ls 3 [(0, .ref (a0 0)), (1, .ref (a0 15))] → W p l e { frames := 0, cells := 0, slots := 0, locals := 0 } s m [.ref (a0 0), .ref (a0 15)].toArray below meth c H locs 0 0 (MQ below (Qv g (m_X10_keeps_0_0_15 (v0_papers, v0_raw, v0_kind, v0_figure, v0_heavy, v0_place, v0_rules, v0_lower, v0_upper, v0_limits, v0_limit, v0_ties, v0_letter, v0_letters, v0_told, v0_tolds, v0_places, v0_cell, v0_refusals, v0_imaged, v0_hasImage, v0_before, v0_up, v0_down, v0_beneath, v0_numberUp, v0_numberDown, v0_block, v0_blocks, v0_merged, v0_valueUp, v0_valueDown, v0_said, v0_saids, v0_at, v0_number)) (fun u => wX10 a0 g v0_papers v0_raw v0_kind v0_figure v0_heavy v0_place v0_rules v0_lower v0_upper v0_limits v0_limit v0_ties v0_letter v0_letters v0_told v0_tolds v0_places v0_cell v0_refusals v0_imaged v0_hasImage u v0_up v0_down v0_beneath v0_numberUp v0_numberDown v0_block v0_blocks v0_merged v0_valueUp v0_valueDown v0_said v0_saids v0_at v0_number) A) [.ref (a0 0), .ref (a0 15)].toArray s 0 0 A) (F0 m 109 ls [])) ?_ fu _ r6 er6 ?_ _ _ _ hP hD hS (lv_sub hl [1, 2, 0] rfl)
  · rintro ⟨x4, x5⟩ y hf hB hXt H locs ls hP hD hS hl
    have hP : va_P g.1 vwCl (wX10 a0 g v0_papers v0_raw v0_kind v0_figure v0_heavy v0_place v0_rules v0_lower v0_upper v0_limits v0_limit v0_ties v0_letter v0_letters v0_told v0_tolds v0_places v0_cell v0_refusals v0_imaged v0_hasImage x5 v0_up v0_down v0_beneath v0_numberUp v0_numberDown v0_block v0_blocks v0_merged v0_valueUp v0_valueDown v0_said v0_saids v0_at v0_number) H := hP
    have hD : va_D A (wX10 a0 g v0_papers v0_raw v0_kind v0_figure v0_heavy v0_place v0_rules v0_lower v0_upper v0_limits v0_limit v0_ties v0_letter v0_letters v0_told v0_tolds v0_places v0_cell v0_refusals v0_imaged v0_hasImage x5 v0_up v0_down v0_beneath v0_numberUp v0_numberDown v0_block v0_blocks v0_merged v0_valueUp v0_valueDown v0_said v0_saids v0_at v0_number) := hD
    have hl : lv_has ls 3 [(0, .ref (a0 0)), (1, .ref (a0 15)), (2, .int x4)] := hl
    have hf : m_X10_keeps_0_0_15_l73 (v0_papers, v0_raw, v0_kind, v0_figure, v0_heavy, v0_place, v0_rules, v0_lower, v0_upper, v0_limits, v0_limit, v0_ties, v0_letter, v0_letters, v0_told, v0_tolds, v0_places, v0_cell, v0_refusals, v0_imaged, v0_hasImage, v0_before, v0_up, v0_down, v0_beneath, v0_numberUp, v0_numberDown, v0_block, v0_blocks, v0_merged, v0_valueUp, v0_valueDown, v0_said, v0_saids, v0_at, v0_number) x4 x5 = some y := hf
    unfold m_X10_keeps_0_0_15_l73 at hf
    refine lv_iload_n hx hb dX10_keeps_73 rfl (lv_at hl 2 rfl) ?_
    refine lv_bipush (v := 12) hx hb dX10_keeps_74 (by decide) ?_
    refine lv_icmp_ge (tgt := 109) hx hb dX10_keeps_76 (by decide) (fun cb => ?_) (fun cb => ?_)
    · have hf := it_t cb hf
      exact hXt _ (Option.some.inj hf).symm _ _ _ hP hD hS (lv_sub hl [0, 1] rfl)
    have hf := it_f cb hf
    refine lv_aload_n hx hb dX10_keeps_79 rfl (lv_at hl 1 rfl) ?_
    refine lv_bipush (v := 35) hx hb dX10_keeps_80 (by decide) ?_
    refine lv_iload_n hx hb dX10_keeps_82 rfl (lv_at hl 2 rfl) ?_
    refine lv_iadd hx hb dX10_keeps_83 ?_
    refine lv_aload_n hx hb dX10_keeps_84 rfl (lv_at hl 0 rfl) ?_
    refine va_get (D := g.1) (ci := 11) (v := .ref (a0 6)) (C := RX10) (T := TX10) (N := 36) hx hb hts layX10 hown hK.1 hP 0 rfl rfl 7 (by decide) (hts _ kw1284) (fun _ h9 => h9) rfl dX10_keeps_85 ?_
    refine lv_iload_n hx hb dX10_keeps_88 rfl (lv_at hl 2 rfl) ?_
    have hi := it_n hf
    have hf := it_t hi hf
    refine va_iald hx hb hK.1 hP 6 0 rfl rfl (inb_in hi) dX10_keeps_89 ?_
    have hi := it_n hf
    have hf := it_t hi hf
    refine va_iast hx hb hK.1 hP hD hS 15 0 rfl rfl (inb_in hi) dX10_keeps_90 (fun H locs hP hD hS => ?_)
    have hP : va_P g.1 vwCl (wX10 a0 g v0_papers v0_raw v0_kind v0_figure v0_heavy v0_place v0_rules v0_lower v0_upper v0_limits v0_limit v0_ties v0_letter v0_letters v0_told v0_tolds v0_places v0_cell v0_refusals v0_imaged v0_hasImage (upd x5 ((35 : Int32) + x4).toNatClampNeg (v0_lower x4.toNatClampNeg)) v0_up v0_down v0_beneath v0_numberUp v0_numberDown v0_block v0_blocks v0_merged v0_valueUp v0_valueDown v0_said v0_saids v0_at v0_number) H := hP
    have hD : va_D A (wX10 a0 g v0_papers v0_raw v0_kind v0_figure v0_heavy v0_place v0_rules v0_lower v0_upper v0_limits v0_limit v0_ties v0_letter v0_letters v0_told v0_tolds v0_places v0_cell v0_refusals v0_imaged v0_hasImage (upd x5 ((35 : Int32) + x4).toNatClampNeg (v0_lower x4.toNatClampNeg)) v0_up v0_down v0_beneath v0_numberUp v0_numberDown v0_block v0_blocks v0_merged v0_valueUp v0_valueDown v0_said v0_saids v0_at v0_number) := hD
    refine lv_aload_n hx hb dX10_keeps_91 rfl (lv_at hl 1 rfl) ?_
    refine lv_bipush (v := 47) hx hb dX10_keeps_92 (by decide) ?_
    refine lv_iload_n hx hb dX10_keeps_94 rfl (lv_at hl 2 rfl) ?_
    refine lv_iadd hx hb dX10_keeps_95 ?_
    refine lv_aload_n hx hb dX10_keeps_96 rfl (lv_at hl 0 rfl) ?_
    refine va_get (D := g.1) (ci := 11) (v := .ref (a0 7)) (C := RX10) (T := TX10) (N := 36) hx hb hts layX10 hown hK.1 hP 0 rfl rfl 8 (by decide) (hts _ kw1285) (fun _ h9 => h9) rfl dX10_keeps_97 ?_
    refine lv_iload_n hx hb dX10_keeps_100 rfl (lv_at hl 2 rfl) ?_
    have hi := it_n hf
    have hf := it_t hi hf
    refine va_iald hx hb hK.1 hP 7 0 rfl rfl (inb_in hi) dX10_keeps_101 ?_
    have hi := it_n hf
    have hf := it_t hi hf
    refine va_iast hx hb hK.1 hP hD hS 15 0 rfl rfl (inb_in hi) dX10_keeps_102 (fun H locs hP hD hS => ?_)
    have hP : va_P g.1 vwCl (wX10 a0 g v0_papers v0_raw v0_kind v0_figure v0_heavy v0_place v0_rules v0_lower v0_upper v0_limits v0_limit v0_ties v0_letter v0_letters v0_told v0_tolds v0_places v0_cell v0_refusals v0_imaged v0_hasImage (upd (upd x5 ((35 : Int32) + x4).toNatClampNeg (v0_lower x4.toNatClampNeg)) ((47 : Int32) + x4).toNatClampNeg (v0_upper x4.toNatClampNeg)) v0_up v0_down v0_beneath v0_numberUp v0_numberDown v0_block v0_blocks v0_merged v0_valueUp v0_valueDown v0_said v0_saids v0_at v0_number) H := hP
    have hD : va_D A (wX10 a0 g v0_papers v0_raw v0_kind v0_figure v0_heavy v0_place v0_rules v0_lower v0_upper v0_limits v0_limit v0_ties v0_letter v0_letters v0_told v0_tolds v0_places v0_cell v0_refusals v0_imaged v0_hasImage (upd (upd x5 ((35 : Int32) + x4).toNatClampNeg (v0_lower x4.toNatClampNeg)) ((47 : Int32) + x4).toNatClampNeg (v0_upper x4.toNatClampNeg)) v0_up v0_down v0_beneath v0_numberUp v0_numberDown v0_block v0_blocks v0_merged v0_valueUp v0_valueDown v0_said v0_saids v0_at v0_number) := hD
    refine lv_iinc (v := (x4 + 1)) (lv' := [(2, .int (x4 + 1)), (0, .ref (a0 0)), (1, .ref (a0 15))]) hx hb dX10_keeps_103 hl (k := 2) rfl (by rfl) (by decide) rfl (fun ls hl => ?_)
    refine lv_goto (tgt := 73) hx hb dX10_keeps_106 (by decide) ?_
    exact hB _ (Option.some.inj hf).symm _ _ _ hP hD hS (lv_sub hl [1, 2, 0] rfl)
  intro H locs ls hP hD hS hl
  have hP : va_P g.1 vwCl (wX10 a0 g v0_papers v0_raw v0_kind v0_figure v0_heavy v0_place v0_rules v0_lower v0_upper v0_limits v0_limit v0_ties v0_letter v0_letters v0_told v0_tolds v0_places v0_cell v0_refusals v0_imaged v0_hasImage r6 v0_up v0_down v0_beneath v0_numberUp v0_numberDown v0_block v0_blocks v0_merged v0_valueUp v0_valueDown v0_said v0_saids v0_at v0_number) H := hP
  have hD : va_D A (wX10 a0 g v0_papers v0_raw v0_kind v0_figure v0_heavy v0_place v0_rules v0_lower v0_upper v0_limits v0_limit v0_ties v0_letter v0_letters v0_told v0_tolds v0_places v0_cell v0_refusals v0_imaged v0_hasImage r6 v0_up v0_down v0_beneath v0_numberUp v0_numberDown v0_block v0_blocks v0_merged v0_valueUp v0_valueDown v0_said v0_saids v0_at v0_number) := hD
  have hl : lv_has ls 3 [(0, .ref (a0 0)), (1, .ref (a0 15))] := hl
  refine lv_iconst (v := 0) hx hb dX10_keeps_109 (by decide) ?_
  refine lv_istore_n (lv' := [(2, .int (0 : Int32)), (0, .ref (a0 0)), (1, .ref (a0 15))]) hx hb dX10_keeps_110 rfl hl (by decide) rfl (fun ls hl => ?_)
  obtain ⟨r9, er9, hf⟩ := bnd hf
  refine lp_W (P := fun z => ∀ (H : Heap) (locs : List Loc) (ls : Array Slot), va_P g.1 vwCl (wX10 a0 g v0_papers v0_raw v0_kind v0_figure v0_heavy v0_place v0_rules v0_lower v0_upper v0_limits v0_limit v0_ties v0_letter v0_letters v0_told v0_tolds v0_places v0_cell v0_refusals v0_imaged v0_hasImage z.2 v0_up v0_down v0_beneath v0_numberUp v0_numberDown v0_block v0_blocks v0_merged v0_valueUp v0_valueDown v0_said v0_saids v0_at v0_number) H → va_D A (wX10 a0 g v0_papers v0_raw v0_kind v0_figure v0_heavy v0_place v0_rules v0_lower v0_upper v0_limits v0_limit v0_ties v0_letter v0_letters v0_told v0_tolds v0_places v0_cell v0_refusals v0_imaged v0_hasImage z.2 v0_up v0_down v0_beneath v0_numberUp v0_numberDown v0_block v0_blocks v0_merged v0_valueUp v0_valueDown v0_said v0_saids v0_at v0_number) → va_S A s.heap H locs → lv_has ls 3 [(0, .ref (a0 0)), (1, .ref (a0 15)), (2, .int z.1)] → W p l e { frames := 0, cells := 0, slots := 0, locals := 0 } s m [.ref (a0 0), .ref (a0 15)].toArray below meth c H locs 0 0 (MQ below (Qv g (m_X10_keeps_0_0_15 (v0_papers, v0_raw, v0_kind, v0_figure, v0_heavy, v0_place, v0_rules, v0_lower, v0_upper, v0_limits, v0_limit, v0_ties, v0_letter, v0_letters, v0_told, v0_tolds, v0_places, v0_cell, v0_refusals, v0_imaged, v0_hasImage, v0_before, v0_up, v0_down, v0_beneath, v0_numberUp, v0_numberDown, v0_block, v0_blocks, v0_merged, v0_valueUp, v0_valueDown, v0_said, v0_saids, v0_at, v0_number)) (fun u => wX10 a0 g v0_papers v0_raw v0_kind v0_figure v0_heavy v0_place v0_rules v0_lower v0_upper v0_limits v0_limit v0_ties v0_letter v0_letters v0_told v0_tolds v0_places v0_cell v0_refusals v0_imaged v0_hasImage u v0_up v0_down v0_beneath v0_numberUp v0_numberDown v0_block v0_blocks v0_merged v0_valueUp v0_valueDown v0_said v0_saids v0_at v0_number) A) [.ref (a0 0), .ref (a0 15)].toArray s 0 0 A) (F0 m 111 ls [])) (E := fun r9 => ∀ (H : Heap) (locs : List Loc) (ls : Array Slot), va_P g.1 vwCl (wX10 a0 g v0_papers v0_raw v0_kind v0_figure v0_heavy v0_place v0_rules v0_lower v0_upper v0_limits v0_limit v0_ties v0_letter v0_letters v0_told v0_tolds v0_places v0_cell v0_refusals v0_imaged v0_hasImage r9 v0_up v0_down v0_beneath v0_numberUp v0_numberDown v0_block v0_blocks v0_merged v0_valueUp v0_valueDown v0_said v0_saids v0_at v0_number) H → va_D A (wX10 a0 g v0_papers v0_raw v0_kind v0_figure v0_heavy v0_place v0_rules v0_lower v0_upper v0_limits v0_limit v0_ties v0_letter v0_letters v0_told v0_tolds v0_places v0_cell v0_refusals v0_imaged v0_hasImage r9 v0_up v0_down v0_beneath v0_numberUp v0_numberDown v0_block v0_blocks v0_merged v0_valueUp v0_valueDown v0_said v0_saids v0_at v0_number) → va_S A s.heap H locs → lv_has ls 3 [(0, .ref (a0 0)), (1, .ref (a0 15))] → W p l e { frames := 0, cells := 0, slots := 0, locals := 0 } s m [.ref (a0 0), .ref (a0 15)].toArray below meth c H locs 0 0 (MQ below (Qv g (m_X10_keeps_0_0_15 (v0_papers, v0_raw, v0_kind, v0_figure, v0_heavy, v0_place, v0_rules, v0_lower, v0_upper, v0_limits, v0_limit, v0_ties, v0_letter, v0_letters, v0_told, v0_tolds, v0_places, v0_cell, v0_refusals, v0_imaged, v0_hasImage, v0_before, v0_up, v0_down, v0_beneath, v0_numberUp, v0_numberDown, v0_block, v0_blocks, v0_merged, v0_valueUp, v0_valueDown, v0_said, v0_saids, v0_at, v0_number)) (fun u => wX10 a0 g v0_papers v0_raw v0_kind v0_figure v0_heavy v0_place v0_rules v0_lower v0_upper v0_limits v0_limit v0_ties v0_letter v0_letters v0_told v0_tolds v0_places v0_cell v0_refusals v0_imaged v0_hasImage u v0_up v0_down v0_beneath v0_numberUp v0_numberDown v0_block v0_blocks v0_merged v0_valueUp v0_valueDown v0_said v0_saids v0_at v0_number) A) [.ref (a0 0), .ref (a0 15)].toArray s 0 0 A) (F0 m 134 ls [])) ?_ fu _ r9 er9 ?_ _ _ _ hP hD hS (lv_sub hl [1, 2, 0] rfl)
  · rintro ⟨x7, x8⟩ y hf hB hXt H locs ls hP hD hS hl
    have hP : va_P g.1 vwCl (wX10 a0 g v0_papers v0_raw v0_kind v0_figure v0_heavy v0_place v0_rules v0_lower v0_upper v0_limits v0_limit v0_ties v0_letter v0_letters v0_told v0_tolds v0_places v0_cell v0_refusals v0_imaged v0_hasImage x8 v0_up v0_down v0_beneath v0_numberUp v0_numberDown v0_block v0_blocks v0_merged v0_valueUp v0_valueDown v0_said v0_saids v0_at v0_number) H := hP
    have hD : va_D A (wX10 a0 g v0_papers v0_raw v0_kind v0_figure v0_heavy v0_place v0_rules v0_lower v0_upper v0_limits v0_limit v0_ties v0_letter v0_letters v0_told v0_tolds v0_places v0_cell v0_refusals v0_imaged v0_hasImage x8 v0_up v0_down v0_beneath v0_numberUp v0_numberDown v0_block v0_blocks v0_merged v0_valueUp v0_valueDown v0_said v0_saids v0_at v0_number) := hD
    have hl : lv_has ls 3 [(0, .ref (a0 0)), (1, .ref (a0 15)), (2, .int x7)] := hl
    have hf : m_X10_keeps_0_0_15_l111 (v0_papers, v0_raw, v0_kind, v0_figure, v0_heavy, v0_place, v0_rules, v0_lower, v0_upper, v0_limits, v0_limit, v0_ties, v0_letter, v0_letters, v0_told, v0_tolds, v0_places, v0_cell, v0_refusals, v0_imaged, v0_hasImage, v0_before, v0_up, v0_down, v0_beneath, v0_numberUp, v0_numberDown, v0_block, v0_blocks, v0_merged, v0_valueUp, v0_valueDown, v0_said, v0_saids, v0_at, v0_number) x7 x8 = some y := hf
    unfold m_X10_keeps_0_0_15_l111 at hf
    refine lv_iload_n hx hb dX10_keeps_111 rfl (lv_at hl 2 rfl) ?_
    refine lv_iconst (v := 5) hx hb dX10_keeps_112 (by decide) ?_
    refine lv_icmp_ge (tgt := 134) hx hb dX10_keeps_113 (by decide) (fun cb => ?_) (fun cb => ?_)
    · have hf := it_t cb hf
      exact hXt _ (Option.some.inj hf).symm _ _ _ hP hD hS (lv_sub hl [0, 1] rfl)
    have hf := it_f cb hf
    refine lv_aload_n hx hb dX10_keeps_116 rfl (lv_at hl 1 rfl) ?_
    refine lv_bipush (v := 59) hx hb dX10_keeps_117 (by decide) ?_
    refine lv_iload_n hx hb dX10_keeps_119 rfl (lv_at hl 2 rfl) ?_
    refine lv_iadd hx hb dX10_keeps_120 ?_
    refine lv_aload_n hx hb dX10_keeps_121 rfl (lv_at hl 0 rfl) ?_
    refine va_get (D := g.1) (ci := 11) (v := .ref (a0 8)) (C := RX10) (T := TX10) (N := 36) hx hb hts layX10 hown hK.1 hP 0 rfl rfl 10 (by decide) (hts _ kw1287) (fun _ h9 => h9) rfl dX10_keeps_122 ?_
    refine lv_iload_n hx hb dX10_keeps_125 rfl (lv_at hl 2 rfl) ?_
    have hi := it_n hf
    have hf := it_t hi hf
    refine va_iald hx hb hK.1 hP 8 0 rfl rfl (inb_in hi) dX10_keeps_126 ?_
    have hi := it_n hf
    have hf := it_t hi hf
    refine va_iast hx hb hK.1 hP hD hS 15 0 rfl rfl (inb_in hi) dX10_keeps_127 (fun H locs hP hD hS => ?_)
    have hP : va_P g.1 vwCl (wX10 a0 g v0_papers v0_raw v0_kind v0_figure v0_heavy v0_place v0_rules v0_lower v0_upper v0_limits v0_limit v0_ties v0_letter v0_letters v0_told v0_tolds v0_places v0_cell v0_refusals v0_imaged v0_hasImage (upd x8 ((59 : Int32) + x7).toNatClampNeg (v0_limit x7.toNatClampNeg)) v0_up v0_down v0_beneath v0_numberUp v0_numberDown v0_block v0_blocks v0_merged v0_valueUp v0_valueDown v0_said v0_saids v0_at v0_number) H := hP
    have hD : va_D A (wX10 a0 g v0_papers v0_raw v0_kind v0_figure v0_heavy v0_place v0_rules v0_lower v0_upper v0_limits v0_limit v0_ties v0_letter v0_letters v0_told v0_tolds v0_places v0_cell v0_refusals v0_imaged v0_hasImage (upd x8 ((59 : Int32) + x7).toNatClampNeg (v0_limit x7.toNatClampNeg)) v0_up v0_down v0_beneath v0_numberUp v0_numberDown v0_block v0_blocks v0_merged v0_valueUp v0_valueDown v0_said v0_saids v0_at v0_number) := hD
    refine lv_iinc (v := (x7 + 1)) (lv' := [(2, .int (x7 + 1)), (0, .ref (a0 0)), (1, .ref (a0 15))]) hx hb dX10_keeps_128 hl (k := 2) rfl (by rfl) (by decide) rfl (fun ls hl => ?_)
    refine lv_goto (tgt := 111) hx hb dX10_keeps_131 (by decide) ?_
    exact hB _ (Option.some.inj hf).symm _ _ _ hP hD hS (lv_sub hl [1, 2, 0] rfl)
  intro H locs ls hP hD hS hl
  have hP : va_P g.1 vwCl (wX10 a0 g v0_papers v0_raw v0_kind v0_figure v0_heavy v0_place v0_rules v0_lower v0_upper v0_limits v0_limit v0_ties v0_letter v0_letters v0_told v0_tolds v0_places v0_cell v0_refusals v0_imaged v0_hasImage r9 v0_up v0_down v0_beneath v0_numberUp v0_numberDown v0_block v0_blocks v0_merged v0_valueUp v0_valueDown v0_said v0_saids v0_at v0_number) H := hP
  have hD : va_D A (wX10 a0 g v0_papers v0_raw v0_kind v0_figure v0_heavy v0_place v0_rules v0_lower v0_upper v0_limits v0_limit v0_ties v0_letter v0_letters v0_told v0_tolds v0_places v0_cell v0_refusals v0_imaged v0_hasImage r9 v0_up v0_down v0_beneath v0_numberUp v0_numberDown v0_block v0_blocks v0_merged v0_valueUp v0_valueDown v0_said v0_saids v0_at v0_number) := hD
  have hl : lv_has ls 3 [(0, .ref (a0 0)), (1, .ref (a0 15))] := hl
  refine lv_aload_n hx hb dX10_keeps_134 rfl (lv_at hl 1 rfl) ?_
  refine lv_bipush (v := 64) hx hb dX10_keeps_135 (by decide) ?_
  refine lv_aload_n hx hb dX10_keeps_137 rfl (lv_at hl 0 rfl) ?_
  refine va_get (D := g.1) (ci := 11) (v := .int v0_papers) (C := RX10) (T := TX10) (N := 36) hx hb hts layX10 hown hK.1 hP 0 rfl rfl 0 (by decide) (hts _ kw1277) (fun _ h9 => h9) rfl dX10_keeps_138 ?_
  have hi := it_n hf
  have hf := it_t hi hf
  refine va_iast hx hb hK.1 hP hD hS 15 0 rfl rfl (inb_in hi) dX10_keeps_141 (fun H locs hP hD hS => ?_)
  have hP : va_P g.1 vwCl (wX10 a0 g v0_papers v0_raw v0_kind v0_figure v0_heavy v0_place v0_rules v0_lower v0_upper v0_limits v0_limit v0_ties v0_letter v0_letters v0_told v0_tolds v0_places v0_cell v0_refusals v0_imaged v0_hasImage (upd r9 (64 : Int32).toNatClampNeg v0_papers) v0_up v0_down v0_beneath v0_numberUp v0_numberDown v0_block v0_blocks v0_merged v0_valueUp v0_valueDown v0_said v0_saids v0_at v0_number) H := hP
  have hD : va_D A (wX10 a0 g v0_papers v0_raw v0_kind v0_figure v0_heavy v0_place v0_rules v0_lower v0_upper v0_limits v0_limit v0_ties v0_letter v0_letters v0_told v0_tolds v0_places v0_cell v0_refusals v0_imaged v0_hasImage (upd r9 (64 : Int32).toNatClampNeg v0_papers) v0_up v0_down v0_beneath v0_numberUp v0_numberDown v0_block v0_blocks v0_merged v0_valueUp v0_valueDown v0_said v0_saids v0_at v0_number) := hD
  refine lv_aload_n hx hb dX10_keeps_142 rfl (lv_at hl 1 rfl) ?_
  refine lv_bipush (v := 65) hx hb dX10_keeps_143 (by decide) ?_
  refine lv_aload_n hx hb dX10_keeps_145 rfl (lv_at hl 0 rfl) ?_
  refine va_get (D := g.1) (ci := 11) (v := .int v0_rules) (C := RX10) (T := TX10) (N := 36) hx hb hts layX10 hown hK.1 hP 0 rfl rfl 6 (by decide) (hts _ kw1283) (fun _ h9 => h9) rfl dX10_keeps_146 ?_
  have hi := it_n hf
  have hf := it_t hi hf
  refine va_iast hx hb hK.1 hP hD hS 15 0 rfl rfl (inb_in hi) dX10_keeps_149 (fun H locs hP hD hS => ?_)
  have hP : va_P g.1 vwCl (wX10 a0 g v0_papers v0_raw v0_kind v0_figure v0_heavy v0_place v0_rules v0_lower v0_upper v0_limits v0_limit v0_ties v0_letter v0_letters v0_told v0_tolds v0_places v0_cell v0_refusals v0_imaged v0_hasImage (upd (upd r9 (64 : Int32).toNatClampNeg v0_papers) (65 : Int32).toNatClampNeg v0_rules) v0_up v0_down v0_beneath v0_numberUp v0_numberDown v0_block v0_blocks v0_merged v0_valueUp v0_valueDown v0_said v0_saids v0_at v0_number) H := hP
  have hD : va_D A (wX10 a0 g v0_papers v0_raw v0_kind v0_figure v0_heavy v0_place v0_rules v0_lower v0_upper v0_limits v0_limit v0_ties v0_letter v0_letters v0_told v0_tolds v0_places v0_cell v0_refusals v0_imaged v0_hasImage (upd (upd r9 (64 : Int32).toNatClampNeg v0_papers) (65 : Int32).toNatClampNeg v0_rules) v0_up v0_down v0_beneath v0_numberUp v0_numberDown v0_block v0_blocks v0_merged v0_valueUp v0_valueDown v0_said v0_saids v0_at v0_number) := hD
  refine lv_aload_n hx hb dX10_keeps_150 rfl (lv_at hl 1 rfl) ?_
  refine lv_bipush (v := 66) hx hb dX10_keeps_151 (by decide) ?_
  refine lv_aload_n hx hb dX10_keeps_153 rfl (lv_at hl 0 rfl) ?_
  refine va_get (D := g.1) (ci := 11) (v := .int v0_limits) (C := RX10) (T := TX10) (N := 36) hx hb hts layX10 hown hK.1 hP 0 rfl rfl 9 (by decide) (hts _ kw1286) (fun _ h9 => h9) rfl dX10_keeps_154 ?_
  have hi := it_n hf
  have hf := it_t hi hf
  refine va_iast hx hb hK.1 hP hD hS 15 0 rfl rfl (inb_in hi) dX10_keeps_157 (fun H locs hP hD hS => ?_)
  have hP : va_P g.1 vwCl (wX10 a0 g v0_papers v0_raw v0_kind v0_figure v0_heavy v0_place v0_rules v0_lower v0_upper v0_limits v0_limit v0_ties v0_letter v0_letters v0_told v0_tolds v0_places v0_cell v0_refusals v0_imaged v0_hasImage (upd (upd (upd r9 (64 : Int32).toNatClampNeg v0_papers) (65 : Int32).toNatClampNeg v0_rules) (66 : Int32).toNatClampNeg v0_limits) v0_up v0_down v0_beneath v0_numberUp v0_numberDown v0_block v0_blocks v0_merged v0_valueUp v0_valueDown v0_said v0_saids v0_at v0_number) H := hP
  have hD : va_D A (wX10 a0 g v0_papers v0_raw v0_kind v0_figure v0_heavy v0_place v0_rules v0_lower v0_upper v0_limits v0_limit v0_ties v0_letter v0_letters v0_told v0_tolds v0_places v0_cell v0_refusals v0_imaged v0_hasImage (upd (upd (upd r9 (64 : Int32).toNatClampNeg v0_papers) (65 : Int32).toNatClampNeg v0_rules) (66 : Int32).toNatClampNeg v0_limits) v0_up v0_down v0_beneath v0_numberUp v0_numberDown v0_block v0_blocks v0_merged v0_valueUp v0_valueDown v0_said v0_saids v0_at v0_number) := hD
  refine lv_aload_n hx hb dX10_keeps_158 rfl (lv_at hl 1 rfl) ?_
  refine lv_bipush (v := 67) hx hb dX10_keeps_159 (by decide) ?_
  refine lv_aload_n hx hb dX10_keeps_161 rfl (lv_at hl 0 rfl) ?_
  refine va_get (D := g.1) (ci := 11) (v := .int v0_ties) (C := RX10) (T := TX10) (N := 36) hx hb hts layX10 hown hK.1 hP 0 rfl rfl 11 (by decide) (hts _ kw1288) (fun _ h9 => h9) rfl dX10_keeps_162 ?_
  have hi := it_n hf
  have hf := it_t hi hf
  refine va_iast hx hb hK.1 hP hD hS 15 0 rfl rfl (inb_in hi) dX10_keeps_165 (fun H locs hP hD hS => ?_)
  have hP : va_P g.1 vwCl (wX10 a0 g v0_papers v0_raw v0_kind v0_figure v0_heavy v0_place v0_rules v0_lower v0_upper v0_limits v0_limit v0_ties v0_letter v0_letters v0_told v0_tolds v0_places v0_cell v0_refusals v0_imaged v0_hasImage (upd (upd (upd (upd r9 (64 : Int32).toNatClampNeg v0_papers) (65 : Int32).toNatClampNeg v0_rules) (66 : Int32).toNatClampNeg v0_limits) (67 : Int32).toNatClampNeg v0_ties) v0_up v0_down v0_beneath v0_numberUp v0_numberDown v0_block v0_blocks v0_merged v0_valueUp v0_valueDown v0_said v0_saids v0_at v0_number) H := hP
  have hD : va_D A (wX10 a0 g v0_papers v0_raw v0_kind v0_figure v0_heavy v0_place v0_rules v0_lower v0_upper v0_limits v0_limit v0_ties v0_letter v0_letters v0_told v0_tolds v0_places v0_cell v0_refusals v0_imaged v0_hasImage (upd (upd (upd (upd r9 (64 : Int32).toNatClampNeg v0_papers) (65 : Int32).toNatClampNeg v0_rules) (66 : Int32).toNatClampNeg v0_limits) (67 : Int32).toNatClampNeg v0_ties) v0_up v0_down v0_beneath v0_numberUp v0_numberDown v0_block v0_blocks v0_merged v0_valueUp v0_valueDown v0_said v0_saids v0_at v0_number) := hD
  exact retV (u := (upd (upd (upd (upd r9 (64 : Int32).toNatClampNeg v0_papers) (65 : Int32).toNatClampNeg v0_rules) (66 : Int32).toNatClampNeg v0_limits) (67 : Int32).toNatClampNeg v0_ties)) (W1 := fun u => wX10 a0 g v0_papers v0_raw v0_kind v0_figure v0_heavy v0_place v0_rules v0_lower v0_upper v0_limits v0_limit v0_ties v0_letter v0_letters v0_told v0_tolds v0_places v0_cell v0_refusals v0_imaged v0_hasImage u v0_up v0_down v0_beneath v0_numberUp v0_numberDown v0_block v0_blocks v0_merged v0_valueUp v0_valueDown v0_said v0_saids v0_at v0_number) hx hb hr hlocks hS hP hD (hf0.trans hf.symm) dX10_keeps_166
set_option maxHeartbeats 4000000 in
set_option maxRecDepth 100000 in
theorem c_X10_again_0_0_15 (l : Launch) (g : GG) (a0 : Nat → Nat) (v0_papers : Int32) (v0_raw : (Nat → Int32)) (v0_kind : (Nat → Int32)) (v0_figure : (Nat → Int32)) (v0_heavy : (Nat → Int32)) (v0_place : (Nat → Int32)) (v0_rules : Int32) (v0_lower : (Nat → Int32)) (v0_upper : (Nat → Int32)) (v0_limits : Int32) (v0_limit : (Nat → Int32)) (v0_ties : Int32) (v0_letter : (Nat → Int32)) (v0_letters : Int32) (v0_told : (Nat → Int32)) (v0_tolds : Int32) (v0_places : (Nat → Int32)) (v0_cell : (Nat → Int64)) (v0_refusals : (Nat → Int32)) (v0_imaged : (Nat → Int32)) (v0_hasImage : Int32) (v0_before : (Nat → Int32)) (v0_up : Int64) (v0_down : Int64) (v0_beneath : (Nat → Int32)) (v0_numberUp : Int32) (v0_numberDown : Int32) (v0_block : (Nat → Int32)) (v0_blocks : Int32) (v0_merged : Int32) (v0_valueUp : (Nat → Int32)) (v0_valueDown : (Nat → Int32)) (v0_said : (Nat → Int32)) (v0_saids : Int32) (v0_at : Int32) (v0_number : (Nat → Int32)) (hne : (m_X10_again_0_0_15 (v0_papers, v0_raw, v0_kind, v0_figure, v0_heavy, v0_place, v0_rules, v0_lower, v0_upper, v0_limits, v0_limit, v0_ties, v0_letter, v0_letters, v0_told, v0_tolds, v0_places, v0_cell, v0_refusals, v0_imaged, v0_hasImage, v0_before, v0_up, v0_down, v0_beneath, v0_numberUp, v0_numberDown, v0_block, v0_blocks, v0_merged, v0_valueUp, v0_valueDown, v0_said, v0_saids, v0_at, v0_number)) ≠ none) : Ct l g yX10_again cX10_again 3 none ({ frames := 0, cells := 0, slots := 0, locals := 0 } : Room) [.ref (a0 0), .ref (a0 15)] (wX10 a0 g v0_papers v0_raw v0_kind v0_figure v0_heavy v0_place v0_rules v0_lower v0_upper v0_limits v0_limit v0_ties v0_letter v0_letters v0_told v0_tolds v0_places v0_cell v0_refusals v0_imaged v0_hasImage v0_before v0_up v0_down v0_beneath v0_numberUp v0_numberDown v0_block v0_blocks v0_merged v0_valueUp v0_valueDown v0_said v0_saids v0_at v0_number) (Qv g (m_X10_again_0_0_15 (v0_papers, v0_raw, v0_kind, v0_figure, v0_heavy, v0_place, v0_rules, v0_lower, v0_upper, v0_limits, v0_limit, v0_ties, v0_letter, v0_letters, v0_told, v0_tolds, v0_places, v0_cell, v0_refusals, v0_imaged, v0_hasImage, v0_before, v0_up, v0_down, v0_beneath, v0_numberUp, v0_numberDown, v0_block, v0_blocks, v0_merged, v0_valueUp, v0_valueDown, v0_said, v0_saids, v0_at, v0_number)) (fun u => wX10 a0 g u.1 u.2.1 u.2.2.1 u.2.2.2.1 u.2.2.2.2.1 u.2.2.2.2.2.1 u.2.2.2.2.2.2.1 u.2.2.2.2.2.2.2.1 u.2.2.2.2.2.2.2.2.1 u.2.2.2.2.2.2.2.2.2.1 u.2.2.2.2.2.2.2.2.2.2.1 u.2.2.2.2.2.2.2.2.2.2.2 v0_letter v0_letters v0_told v0_tolds v0_places v0_cell v0_refusals v0_imaged v0_hasImage v0_before v0_up v0_down v0_beneath v0_numberUp v0_numberDown v0_block v0_blocks v0_merged v0_valueUp v0_valueDown v0_said v0_saids v0_at v0_number)) 0 0 := by
  obtain ⟨out, hf⟩ := ne_ex hne
  have hf0 := hf
  refine Ct.of (own := RX10) (by decide +kernel) rfl (Nat.le_of_ble_eq_true rfl) ?_
  intro p e s m below meth c hx hb hr hml hown hts hlocks hin hK A H locs hA hP hD hS hE ls hl
  have hl : lv_has ls 3 [(0, .ref (a0 0)), (1, .ref (a0 15))] := hl
  unfold m_X10_again_0_0_15 at hf
  refine lv_iconst (v := 0) hx hb dX10_again_0 (by decide) ?_
  refine lv_istore_n (lv' := [(2, .int (0 : Int32)), (0, .ref (a0 0)), (1, .ref (a0 15))]) hx hb dX10_again_1 rfl hl (by decide) rfl (fun ls hl => ?_)
  obtain ⟨r7, er7, hf⟩ := bnd hf
  refine lp_W (P := fun z => ∀ (H : Heap) (locs : List Loc) (ls : Array Slot), va_P g.1 vwCl (wX10 a0 g v0_papers z.2.1 z.2.2.1 z.2.2.2.1 z.2.2.2.2.1 z.2.2.2.2.2 v0_rules v0_lower v0_upper v0_limits v0_limit v0_ties v0_letter v0_letters v0_told v0_tolds v0_places v0_cell v0_refusals v0_imaged v0_hasImage v0_before v0_up v0_down v0_beneath v0_numberUp v0_numberDown v0_block v0_blocks v0_merged v0_valueUp v0_valueDown v0_said v0_saids v0_at v0_number) H → va_D A (wX10 a0 g v0_papers z.2.1 z.2.2.1 z.2.2.2.1 z.2.2.2.2.1 z.2.2.2.2.2 v0_rules v0_lower v0_upper v0_limits v0_limit v0_ties v0_letter v0_letters v0_told v0_tolds v0_places v0_cell v0_refusals v0_imaged v0_hasImage v0_before v0_up v0_down v0_beneath v0_numberUp v0_numberDown v0_block v0_blocks v0_merged v0_valueUp v0_valueDown v0_said v0_saids v0_at v0_number) → va_S A s.heap H locs → lv_has ls 3 [(0, .ref (a0 0)), (1, .ref (a0 15)), (2, .int z.1)] → W p l e { frames := 0, cells := 0, slots := 0, locals := 0 } s m [.ref (a0 0), .ref (a0 15)].toArray below meth c H locs 0 0 (MQ below (Qv g (m_X10_again_0_0_15 (v0_papers, v0_raw, v0_kind, v0_figure, v0_heavy, v0_place, v0_rules, v0_lower, v0_upper, v0_limits, v0_limit, v0_ties, v0_letter, v0_letters, v0_told, v0_tolds, v0_places, v0_cell, v0_refusals, v0_imaged, v0_hasImage, v0_before, v0_up, v0_down, v0_beneath, v0_numberUp, v0_numberDown, v0_block, v0_blocks, v0_merged, v0_valueUp, v0_valueDown, v0_said, v0_saids, v0_at, v0_number)) (fun u => wX10 a0 g u.1 u.2.1 u.2.2.1 u.2.2.2.1 u.2.2.2.2.1 u.2.2.2.2.2.1 u.2.2.2.2.2.2.1 u.2.2.2.2.2.2.2.1 u.2.2.2.2.2.2.2.2.1 u.2.2.2.2.2.2.2.2.2.1 u.2.2.2.2.2.2.2.2.2.2.1 u.2.2.2.2.2.2.2.2.2.2.2 v0_letter v0_letters v0_told v0_tolds v0_places v0_cell v0_refusals v0_imaged v0_hasImage v0_before v0_up v0_down v0_beneath v0_numberUp v0_numberDown v0_block v0_blocks v0_merged v0_valueUp v0_valueDown v0_said v0_saids v0_at v0_number) A) [.ref (a0 0), .ref (a0 15)].toArray s 0 0 A) (F0 m 2 ls [])) (E := fun r7 => ∀ (H : Heap) (locs : List Loc) (ls : Array Slot), va_P g.1 vwCl (wX10 a0 g v0_papers r7.1 r7.2.1 r7.2.2.1 r7.2.2.2.1 r7.2.2.2.2 v0_rules v0_lower v0_upper v0_limits v0_limit v0_ties v0_letter v0_letters v0_told v0_tolds v0_places v0_cell v0_refusals v0_imaged v0_hasImage v0_before v0_up v0_down v0_beneath v0_numberUp v0_numberDown v0_block v0_blocks v0_merged v0_valueUp v0_valueDown v0_said v0_saids v0_at v0_number) H → va_D A (wX10 a0 g v0_papers r7.1 r7.2.1 r7.2.2.1 r7.2.2.2.1 r7.2.2.2.2 v0_rules v0_lower v0_upper v0_limits v0_limit v0_ties v0_letter v0_letters v0_told v0_tolds v0_places v0_cell v0_refusals v0_imaged v0_hasImage v0_before v0_up v0_down v0_beneath v0_numberUp v0_numberDown v0_block v0_blocks v0_merged v0_valueUp v0_valueDown v0_said v0_saids v0_at v0_number) → va_S A s.heap H locs → lv_has ls 3 [(0, .ref (a0 0)), (1, .ref (a0 15))] → W p l e { frames := 0, cells := 0, slots := 0, locals := 0 } s m [.ref (a0 0), .ref (a0 15)].toArray below meth c H locs 0 0 (MQ below (Qv g (m_X10_again_0_0_15 (v0_papers, v0_raw, v0_kind, v0_figure, v0_heavy, v0_place, v0_rules, v0_lower, v0_upper, v0_limits, v0_limit, v0_ties, v0_letter, v0_letters, v0_told, v0_tolds, v0_places, v0_cell, v0_refusals, v0_imaged, v0_hasImage, v0_before, v0_up, v0_down, v0_beneath, v0_numberUp, v0_numberDown, v0_block, v0_blocks, v0_merged, v0_valueUp, v0_valueDown, v0_said, v0_saids, v0_at, v0_number)) (fun u => wX10 a0 g u.1 u.2.1 u.2.2.1 u.2.2.2.1 u.2.2.2.2.1 u.2.2.2.2.2.1 u.2.2.2.2.2.2.1 u.2.2.2.2.2.2.2.1 u.2.2.2.2.2.2.2.2.1 u.2.2.2.2.2.2.2.2.2.1 u.2.2.2.2.2.2.2.2.2.2.1 u.2.2.2.2.2.2.2.2.2.2.2 v0_letter v0_letters v0_told v0_tolds v0_places v0_cell v0_refusals v0_imaged v0_hasImage v0_before v0_up v0_down v0_beneath v0_numberUp v0_numberDown v0_block v0_blocks v0_merged v0_valueUp v0_valueDown v0_said v0_saids v0_at v0_number) A) [.ref (a0 0), .ref (a0 15)].toArray s 0 0 A) (F0 m 71 ls [])) ?_ fu _ r7 er7 ?_ _ _ _ hP hD hS (lv_sub hl [1, 2, 0] rfl)
  · rintro ⟨x1, x2, x3, x4, x5, x6⟩ y hf hB hXt H locs ls hP hD hS hl
    have hP : va_P g.1 vwCl (wX10 a0 g v0_papers x2 x3 x4 x5 x6 v0_rules v0_lower v0_upper v0_limits v0_limit v0_ties v0_letter v0_letters v0_told v0_tolds v0_places v0_cell v0_refusals v0_imaged v0_hasImage v0_before v0_up v0_down v0_beneath v0_numberUp v0_numberDown v0_block v0_blocks v0_merged v0_valueUp v0_valueDown v0_said v0_saids v0_at v0_number) H := hP
    have hD : va_D A (wX10 a0 g v0_papers x2 x3 x4 x5 x6 v0_rules v0_lower v0_upper v0_limits v0_limit v0_ties v0_letter v0_letters v0_told v0_tolds v0_places v0_cell v0_refusals v0_imaged v0_hasImage v0_before v0_up v0_down v0_beneath v0_numberUp v0_numberDown v0_block v0_blocks v0_merged v0_valueUp v0_valueDown v0_said v0_saids v0_at v0_number) := hD
    have hl : lv_has ls 3 [(0, .ref (a0 0)), (1, .ref (a0 15)), (2, .int x1)] := hl
    have hf : m_X10_again_0_0_15_l2 (v0_papers, v0_raw, v0_kind, v0_figure, v0_heavy, v0_place, v0_rules, v0_lower, v0_upper, v0_limits, v0_limit, v0_ties, v0_letter, v0_letters, v0_told, v0_tolds, v0_places, v0_cell, v0_refusals, v0_imaged, v0_hasImage, v0_before, v0_up, v0_down, v0_beneath, v0_numberUp, v0_numberDown, v0_block, v0_blocks, v0_merged, v0_valueUp, v0_valueDown, v0_said, v0_saids, v0_at, v0_number) x1 x2 x3 x4 x5 x6 = some y := hf
    unfold m_X10_again_0_0_15_l2 at hf
    refine lv_iload_n hx hb dX10_again_2 rfl (lv_at hl 2 rfl) ?_
    refine lv_bipush (v := 7) hx hb dX10_again_3 (by decide) ?_
    refine lv_icmp_ge (tgt := 71) hx hb dX10_again_5 (by decide) (fun cb => ?_) (fun cb => ?_)
    · have hf := it_t cb hf
      exact hXt _ (Option.some.inj hf).symm _ _ _ hP hD hS (lv_sub hl [0, 1] rfl)
    have hf := it_f cb hf
    refine lv_aload_n hx hb dX10_again_8 rfl (lv_at hl 0 rfl) ?_
    refine va_get (D := g.1) (ci := 11) (v := .ref (a0 1)) (C := RX10) (T := TX10) (N := 36) hx hb hts layX10 hown hK.1 hP 0 rfl rfl 1 (by decide) (hts _ kw1278) (fun _ h9 => h9) rfl dX10_again_9 ?_
    refine lv_iload_n hx hb dX10_again_12 rfl (lv_at hl 2 rfl) ?_
    refine lv_aload_n hx hb dX10_again_13 rfl (lv_at hl 1 rfl) ?_
    refine lv_iload_n hx hb dX10_again_14 rfl (lv_at hl 2 rfl) ?_
    have hi := it_n hf
    have hf := it_t hi hf
    refine va_iald hx hb hK.1 hP 15 0 rfl rfl (inb_in hi) dX10_again_15 ?_
    have hi := it_n hf
    have hf := it_t hi hf
    refine va_iast hx hb hK.1 hP hD hS 1 0 rfl rfl (inb_in hi) dX10_again_16 (fun H locs hP hD hS => ?_)
    have hP : va_P g.1 vwCl (wX10 a0 g v0_papers (upd x2 x1.toNatClampNeg (v0_before x1.toNatClampNeg)) x3 x4 x5 x6 v0_rules v0_lower v0_upper v0_limits v0_limit v0_ties v0_letter v0_letters v0_told v0_tolds v0_places v0_cell v0_refusals v0_imaged v0_hasImage v0_before v0_up v0_down v0_beneath v0_numberUp v0_numberDown v0_block v0_blocks v0_merged v0_valueUp v0_valueDown v0_said v0_saids v0_at v0_number) H := hP
    have hD : va_D A (wX10 a0 g v0_papers (upd x2 x1.toNatClampNeg (v0_before x1.toNatClampNeg)) x3 x4 x5 x6 v0_rules v0_lower v0_upper v0_limits v0_limit v0_ties v0_letter v0_letters v0_told v0_tolds v0_places v0_cell v0_refusals v0_imaged v0_hasImage v0_before v0_up v0_down v0_beneath v0_numberUp v0_numberDown v0_block v0_blocks v0_merged v0_valueUp v0_valueDown v0_said v0_saids v0_at v0_number) := hD
    refine lv_aload_n hx hb dX10_again_17 rfl (lv_at hl 0 rfl) ?_
    refine va_get (D := g.1) (ci := 11) (v := .ref (a0 2)) (C := RX10) (T := TX10) (N := 36) hx hb hts layX10 hown hK.1 hP 0 rfl rfl 2 (by decide) (hts _ kw1279) (fun _ h9 => h9) rfl dX10_again_18 ?_
    refine lv_iload_n hx hb dX10_again_21 rfl (lv_at hl 2 rfl) ?_
    refine lv_aload_n hx hb dX10_again_22 rfl (lv_at hl 1 rfl) ?_
    refine lv_bipush (v := 7) hx hb dX10_again_23 (by decide) ?_
    refine lv_iload_n hx hb dX10_again_25 rfl (lv_at hl 2 rfl) ?_
    refine lv_iadd hx hb dX10_again_26 ?_
    have hi := it_n hf
    have hf := it_t hi hf
    refine va_iald hx hb hK.1 hP 15 0 rfl rfl (inb_in hi) dX10_again_27 ?_
    have hi := it_n hf
    have hf := it_t hi hf
    refine va_iast hx hb hK.1 hP hD hS 2 0 rfl rfl (inb_in hi) dX10_again_28 (fun H locs hP hD hS => ?_)
    have hP : va_P g.1 vwCl (wX10 a0 g v0_papers (upd x2 x1.toNatClampNeg (v0_before x1.toNatClampNeg)) (upd x3 x1.toNatClampNeg (v0_before ((7 : Int32) + x1).toNatClampNeg)) x4 x5 x6 v0_rules v0_lower v0_upper v0_limits v0_limit v0_ties v0_letter v0_letters v0_told v0_tolds v0_places v0_cell v0_refusals v0_imaged v0_hasImage v0_before v0_up v0_down v0_beneath v0_numberUp v0_numberDown v0_block v0_blocks v0_merged v0_valueUp v0_valueDown v0_said v0_saids v0_at v0_number) H := hP
    have hD : va_D A (wX10 a0 g v0_papers (upd x2 x1.toNatClampNeg (v0_before x1.toNatClampNeg)) (upd x3 x1.toNatClampNeg (v0_before ((7 : Int32) + x1).toNatClampNeg)) x4 x5 x6 v0_rules v0_lower v0_upper v0_limits v0_limit v0_ties v0_letter v0_letters v0_told v0_tolds v0_places v0_cell v0_refusals v0_imaged v0_hasImage v0_before v0_up v0_down v0_beneath v0_numberUp v0_numberDown v0_block v0_blocks v0_merged v0_valueUp v0_valueDown v0_said v0_saids v0_at v0_number) := hD
    refine lv_aload_n hx hb dX10_again_29 rfl (lv_at hl 0 rfl) ?_
    refine va_get (D := g.1) (ci := 11) (v := .ref (a0 3)) (C := RX10) (T := TX10) (N := 36) hx hb hts layX10 hown hK.1 hP 0 rfl rfl 3 (by decide) (hts _ kw1280) (fun _ h9 => h9) rfl dX10_again_30 ?_
    refine lv_iload_n hx hb dX10_again_33 rfl (lv_at hl 2 rfl) ?_
    refine lv_aload_n hx hb dX10_again_34 rfl (lv_at hl 1 rfl) ?_
    refine lv_bipush (v := 14) hx hb dX10_again_35 (by decide) ?_
    refine lv_iload_n hx hb dX10_again_37 rfl (lv_at hl 2 rfl) ?_
    refine lv_iadd hx hb dX10_again_38 ?_
    have hi := it_n hf
    have hf := it_t hi hf
    refine va_iald hx hb hK.1 hP 15 0 rfl rfl (inb_in hi) dX10_again_39 ?_
    have hi := it_n hf
    have hf := it_t hi hf
    refine va_iast hx hb hK.1 hP hD hS 3 0 rfl rfl (inb_in hi) dX10_again_40 (fun H locs hP hD hS => ?_)
    have hP : va_P g.1 vwCl (wX10 a0 g v0_papers (upd x2 x1.toNatClampNeg (v0_before x1.toNatClampNeg)) (upd x3 x1.toNatClampNeg (v0_before ((7 : Int32) + x1).toNatClampNeg)) (upd x4 x1.toNatClampNeg (v0_before ((14 : Int32) + x1).toNatClampNeg)) x5 x6 v0_rules v0_lower v0_upper v0_limits v0_limit v0_ties v0_letter v0_letters v0_told v0_tolds v0_places v0_cell v0_refusals v0_imaged v0_hasImage v0_before v0_up v0_down v0_beneath v0_numberUp v0_numberDown v0_block v0_blocks v0_merged v0_valueUp v0_valueDown v0_said v0_saids v0_at v0_number) H := hP
    have hD : va_D A (wX10 a0 g v0_papers (upd x2 x1.toNatClampNeg (v0_before x1.toNatClampNeg)) (upd x3 x1.toNatClampNeg (v0_before ((7 : Int32) + x1).toNatClampNeg)) (upd x4 x1.toNatClampNeg (v0_before ((14 : Int32) + x1).toNatClampNeg)) x5 x6 v0_rules v0_lower v0_upper v0_limits v0_limit v0_ties v0_letter v0_letters v0_told v0_tolds v0_places v0_cell v0_refusals v0_imaged v0_hasImage v0_before v0_up v0_down v0_beneath v0_numberUp v0_numberDown v0_block v0_blocks v0_merged v0_valueUp v0_valueDown v0_said v0_saids v0_at v0_number) := hD
    refine lv_aload_n hx hb dX10_again_41 rfl (lv_at hl 0 rfl) ?_
    refine va_get (D := g.1) (ci := 11) (v := .ref (a0 4)) (C := RX10) (T := TX10) (N := 36) hx hb hts layX10 hown hK.1 hP 0 rfl rfl 4 (by decide) (hts _ kw1281) (fun _ h9 => h9) rfl dX10_again_42 ?_
    refine lv_iload_n hx hb dX10_again_45 rfl (lv_at hl 2 rfl) ?_
    refine lv_aload_n hx hb dX10_again_46 rfl (lv_at hl 1 rfl) ?_
    refine lv_bipush (v := 21) hx hb dX10_again_47 (by decide) ?_
    refine lv_iload_n hx hb dX10_again_49 rfl (lv_at hl 2 rfl) ?_
    refine lv_iadd hx hb dX10_again_50 ?_
    have hi := it_n hf
    have hf := it_t hi hf
    refine va_iald hx hb hK.1 hP 15 0 rfl rfl (inb_in hi) dX10_again_51 ?_
    have hi := it_n hf
    have hf := it_t hi hf
    refine va_iast hx hb hK.1 hP hD hS 4 0 rfl rfl (inb_in hi) dX10_again_52 (fun H locs hP hD hS => ?_)
    have hP : va_P g.1 vwCl (wX10 a0 g v0_papers (upd x2 x1.toNatClampNeg (v0_before x1.toNatClampNeg)) (upd x3 x1.toNatClampNeg (v0_before ((7 : Int32) + x1).toNatClampNeg)) (upd x4 x1.toNatClampNeg (v0_before ((14 : Int32) + x1).toNatClampNeg)) (upd x5 x1.toNatClampNeg (v0_before ((21 : Int32) + x1).toNatClampNeg)) x6 v0_rules v0_lower v0_upper v0_limits v0_limit v0_ties v0_letter v0_letters v0_told v0_tolds v0_places v0_cell v0_refusals v0_imaged v0_hasImage v0_before v0_up v0_down v0_beneath v0_numberUp v0_numberDown v0_block v0_blocks v0_merged v0_valueUp v0_valueDown v0_said v0_saids v0_at v0_number) H := hP
    have hD : va_D A (wX10 a0 g v0_papers (upd x2 x1.toNatClampNeg (v0_before x1.toNatClampNeg)) (upd x3 x1.toNatClampNeg (v0_before ((7 : Int32) + x1).toNatClampNeg)) (upd x4 x1.toNatClampNeg (v0_before ((14 : Int32) + x1).toNatClampNeg)) (upd x5 x1.toNatClampNeg (v0_before ((21 : Int32) + x1).toNatClampNeg)) x6 v0_rules v0_lower v0_upper v0_limits v0_limit v0_ties v0_letter v0_letters v0_told v0_tolds v0_places v0_cell v0_refusals v0_imaged v0_hasImage v0_before v0_up v0_down v0_beneath v0_numberUp v0_numberDown v0_block v0_blocks v0_merged v0_valueUp v0_valueDown v0_said v0_saids v0_at v0_number) := hD
    refine lv_aload_n hx hb dX10_again_53 rfl (lv_at hl 0 rfl) ?_
    refine va_get (D := g.1) (ci := 11) (v := .ref (a0 5)) (C := RX10) (T := TX10) (N := 36) hx hb hts layX10 hown hK.1 hP 0 rfl rfl 5 (by decide) (hts _ kw1282) (fun _ h9 => h9) rfl dX10_again_54 ?_
    refine lv_iload_n hx hb dX10_again_57 rfl (lv_at hl 2 rfl) ?_
    refine lv_aload_n hx hb dX10_again_58 rfl (lv_at hl 1 rfl) ?_
    refine lv_bipush (v := 28) hx hb dX10_again_59 (by decide) ?_
    refine lv_iload_n hx hb dX10_again_61 rfl (lv_at hl 2 rfl) ?_
    refine lv_iadd hx hb dX10_again_62 ?_
    have hi := it_n hf
    have hf := it_t hi hf
    refine va_iald hx hb hK.1 hP 15 0 rfl rfl (inb_in hi) dX10_again_63 ?_
    have hi := it_n hf
    have hf := it_t hi hf
    refine va_iast hx hb hK.1 hP hD hS 5 0 rfl rfl (inb_in hi) dX10_again_64 (fun H locs hP hD hS => ?_)
    have hP : va_P g.1 vwCl (wX10 a0 g v0_papers (upd x2 x1.toNatClampNeg (v0_before x1.toNatClampNeg)) (upd x3 x1.toNatClampNeg (v0_before ((7 : Int32) + x1).toNatClampNeg)) (upd x4 x1.toNatClampNeg (v0_before ((14 : Int32) + x1).toNatClampNeg)) (upd x5 x1.toNatClampNeg (v0_before ((21 : Int32) + x1).toNatClampNeg)) (upd x6 x1.toNatClampNeg (v0_before ((28 : Int32) + x1).toNatClampNeg)) v0_rules v0_lower v0_upper v0_limits v0_limit v0_ties v0_letter v0_letters v0_told v0_tolds v0_places v0_cell v0_refusals v0_imaged v0_hasImage v0_before v0_up v0_down v0_beneath v0_numberUp v0_numberDown v0_block v0_blocks v0_merged v0_valueUp v0_valueDown v0_said v0_saids v0_at v0_number) H := hP
    have hD : va_D A (wX10 a0 g v0_papers (upd x2 x1.toNatClampNeg (v0_before x1.toNatClampNeg)) (upd x3 x1.toNatClampNeg (v0_before ((7 : Int32) + x1).toNatClampNeg)) (upd x4 x1.toNatClampNeg (v0_before ((14 : Int32) + x1).toNatClampNeg)) (upd x5 x1.toNatClampNeg (v0_before ((21 : Int32) + x1).toNatClampNeg)) (upd x6 x1.toNatClampNeg (v0_before ((28 : Int32) + x1).toNatClampNeg)) v0_rules v0_lower v0_upper v0_limits v0_limit v0_ties v0_letter v0_letters v0_told v0_tolds v0_places v0_cell v0_refusals v0_imaged v0_hasImage v0_before v0_up v0_down v0_beneath v0_numberUp v0_numberDown v0_block v0_blocks v0_merged v0_valueUp v0_valueDown v0_said v0_saids v0_at v0_number) := hD
    refine lv_iinc (v := (x1 + 1)) (lv' := [(2, .int (x1 + 1)), (0, .ref (a0 0)), (1, .ref (a0 15))]) hx hb dX10_again_65 hl (k := 2) rfl (by rfl) (by decide) rfl (fun ls hl => ?_)
    refine lv_goto (tgt := 2) hx hb dX10_again_68 (by decide) ?_
    exact hB _ (Option.some.inj hf).symm _ _ _ hP hD hS (lv_sub hl [1, 2, 0] rfl)
  intro H locs ls hP hD hS hl
  have hP : va_P g.1 vwCl (wX10 a0 g v0_papers r7.1 r7.2.1 r7.2.2.1 r7.2.2.2.1 r7.2.2.2.2 v0_rules v0_lower v0_upper v0_limits v0_limit v0_ties v0_letter v0_letters v0_told v0_tolds v0_places v0_cell v0_refusals v0_imaged v0_hasImage v0_before v0_up v0_down v0_beneath v0_numberUp v0_numberDown v0_block v0_blocks v0_merged v0_valueUp v0_valueDown v0_said v0_saids v0_at v0_number) H := hP
  have hD : va_D A (wX10 a0 g v0_papers r7.1 r7.2.1 r7.2.2.1 r7.2.2.2.1 r7.2.2.2.2 v0_rules v0_lower v0_upper v0_limits v0_limit v0_ties v0_letter v0_letters v0_told v0_tolds v0_places v0_cell v0_refusals v0_imaged v0_hasImage v0_before v0_up v0_down v0_beneath v0_numberUp v0_numberDown v0_block v0_blocks v0_merged v0_valueUp v0_valueDown v0_said v0_saids v0_at v0_number) := hD
  have hl : lv_has ls 3 [(0, .ref (a0 0)), (1, .ref (a0 15))] := hl
  refine lv_iconst (v := 0) hx hb dX10_again_71 (by decide) ?_
  refine lv_istore_n (lv' := [(2, .int (0 : Int32)), (0, .ref (a0 0)), (1, .ref (a0 15))]) hx hb dX10_again_72 rfl hl (by decide) rfl (fun ls hl => ?_)
  obtain ⟨r11, er11, hf⟩ := bnd hf
  refine lp_W (P := fun z => ∀ (H : Heap) (locs : List Loc) (ls : Array Slot), va_P g.1 vwCl (wX10 a0 g v0_papers r7.1 r7.2.1 r7.2.2.1 r7.2.2.2.1 r7.2.2.2.2 v0_rules z.2.1 z.2.2 v0_limits v0_limit v0_ties v0_letter v0_letters v0_told v0_tolds v0_places v0_cell v0_refusals v0_imaged v0_hasImage v0_before v0_up v0_down v0_beneath v0_numberUp v0_numberDown v0_block v0_blocks v0_merged v0_valueUp v0_valueDown v0_said v0_saids v0_at v0_number) H → va_D A (wX10 a0 g v0_papers r7.1 r7.2.1 r7.2.2.1 r7.2.2.2.1 r7.2.2.2.2 v0_rules z.2.1 z.2.2 v0_limits v0_limit v0_ties v0_letter v0_letters v0_told v0_tolds v0_places v0_cell v0_refusals v0_imaged v0_hasImage v0_before v0_up v0_down v0_beneath v0_numberUp v0_numberDown v0_block v0_blocks v0_merged v0_valueUp v0_valueDown v0_said v0_saids v0_at v0_number) → va_S A s.heap H locs → lv_has ls 3 [(0, .ref (a0 0)), (1, .ref (a0 15)), (2, .int z.1)] → W p l e { frames := 0, cells := 0, slots := 0, locals := 0 } s m [.ref (a0 0), .ref (a0 15)].toArray below meth c H locs 0 0 (MQ below (Qv g (m_X10_again_0_0_15 (v0_papers, v0_raw, v0_kind, v0_figure, v0_heavy, v0_place, v0_rules, v0_lower, v0_upper, v0_limits, v0_limit, v0_ties, v0_letter, v0_letters, v0_told, v0_tolds, v0_places, v0_cell, v0_refusals, v0_imaged, v0_hasImage, v0_before, v0_up, v0_down, v0_beneath, v0_numberUp, v0_numberDown, v0_block, v0_blocks, v0_merged, v0_valueUp, v0_valueDown, v0_said, v0_saids, v0_at, v0_number)) (fun u => wX10 a0 g u.1 u.2.1 u.2.2.1 u.2.2.2.1 u.2.2.2.2.1 u.2.2.2.2.2.1 u.2.2.2.2.2.2.1 u.2.2.2.2.2.2.2.1 u.2.2.2.2.2.2.2.2.1 u.2.2.2.2.2.2.2.2.2.1 u.2.2.2.2.2.2.2.2.2.2.1 u.2.2.2.2.2.2.2.2.2.2.2 v0_letter v0_letters v0_told v0_tolds v0_places v0_cell v0_refusals v0_imaged v0_hasImage v0_before v0_up v0_down v0_beneath v0_numberUp v0_numberDown v0_block v0_blocks v0_merged v0_valueUp v0_valueDown v0_said v0_saids v0_at v0_number) A) [.ref (a0 0), .ref (a0 15)].toArray s 0 0 A) (F0 m 73 ls [])) (E := fun r11 => ∀ (H : Heap) (locs : List Loc) (ls : Array Slot), va_P g.1 vwCl (wX10 a0 g v0_papers r7.1 r7.2.1 r7.2.2.1 r7.2.2.2.1 r7.2.2.2.2 v0_rules r11.1 r11.2 v0_limits v0_limit v0_ties v0_letter v0_letters v0_told v0_tolds v0_places v0_cell v0_refusals v0_imaged v0_hasImage v0_before v0_up v0_down v0_beneath v0_numberUp v0_numberDown v0_block v0_blocks v0_merged v0_valueUp v0_valueDown v0_said v0_saids v0_at v0_number) H → va_D A (wX10 a0 g v0_papers r7.1 r7.2.1 r7.2.2.1 r7.2.2.2.1 r7.2.2.2.2 v0_rules r11.1 r11.2 v0_limits v0_limit v0_ties v0_letter v0_letters v0_told v0_tolds v0_places v0_cell v0_refusals v0_imaged v0_hasImage v0_before v0_up v0_down v0_beneath v0_numberUp v0_numberDown v0_block v0_blocks v0_merged v0_valueUp v0_valueDown v0_said v0_saids v0_at v0_number) → va_S A s.heap H locs → lv_has ls 3 [(0, .ref (a0 0)), (1, .ref (a0 15))] → W p l e { frames := 0, cells := 0, slots := 0, locals := 0 } s m [.ref (a0 0), .ref (a0 15)].toArray below meth c H locs 0 0 (MQ below (Qv g (m_X10_again_0_0_15 (v0_papers, v0_raw, v0_kind, v0_figure, v0_heavy, v0_place, v0_rules, v0_lower, v0_upper, v0_limits, v0_limit, v0_ties, v0_letter, v0_letters, v0_told, v0_tolds, v0_places, v0_cell, v0_refusals, v0_imaged, v0_hasImage, v0_before, v0_up, v0_down, v0_beneath, v0_numberUp, v0_numberDown, v0_block, v0_blocks, v0_merged, v0_valueUp, v0_valueDown, v0_said, v0_saids, v0_at, v0_number)) (fun u => wX10 a0 g u.1 u.2.1 u.2.2.1 u.2.2.2.1 u.2.2.2.2.1 u.2.2.2.2.2.1 u.2.2.2.2.2.2.1 u.2.2.2.2.2.2.2.1 u.2.2.2.2.2.2.2.2.1 u.2.2.2.2.2.2.2.2.2.1 u.2.2.2.2.2.2.2.2.2.2.1 u.2.2.2.2.2.2.2.2.2.2.2 v0_letter v0_letters v0_told v0_tolds v0_places v0_cell v0_refusals v0_imaged v0_hasImage v0_before v0_up v0_down v0_beneath v0_numberUp v0_numberDown v0_block v0_blocks v0_merged v0_valueUp v0_valueDown v0_said v0_saids v0_at v0_number) A) [.ref (a0 0), .ref (a0 15)].toArray s 0 0 A) (F0 m 109 ls [])) ?_ fu _ r11 er11 ?_ _ _ _ hP hD hS (lv_sub hl [1, 2, 0] rfl)
  · rintro ⟨x8, x9, x10⟩ y hf hB hXt H locs ls hP hD hS hl
    have hP : va_P g.1 vwCl (wX10 a0 g v0_papers r7.1 r7.2.1 r7.2.2.1 r7.2.2.2.1 r7.2.2.2.2 v0_rules x9 x10 v0_limits v0_limit v0_ties v0_letter v0_letters v0_told v0_tolds v0_places v0_cell v0_refusals v0_imaged v0_hasImage v0_before v0_up v0_down v0_beneath v0_numberUp v0_numberDown v0_block v0_blocks v0_merged v0_valueUp v0_valueDown v0_said v0_saids v0_at v0_number) H := hP
    have hD : va_D A (wX10 a0 g v0_papers r7.1 r7.2.1 r7.2.2.1 r7.2.2.2.1 r7.2.2.2.2 v0_rules x9 x10 v0_limits v0_limit v0_ties v0_letter v0_letters v0_told v0_tolds v0_places v0_cell v0_refusals v0_imaged v0_hasImage v0_before v0_up v0_down v0_beneath v0_numberUp v0_numberDown v0_block v0_blocks v0_merged v0_valueUp v0_valueDown v0_said v0_saids v0_at v0_number) := hD
    have hl : lv_has ls 3 [(0, .ref (a0 0)), (1, .ref (a0 15)), (2, .int x8)] := hl
    have hf : m_X10_again_0_0_15_l73 (v0_papers, v0_raw, v0_kind, v0_figure, v0_heavy, v0_place, v0_rules, v0_lower, v0_upper, v0_limits, v0_limit, v0_ties, v0_letter, v0_letters, v0_told, v0_tolds, v0_places, v0_cell, v0_refusals, v0_imaged, v0_hasImage, v0_before, v0_up, v0_down, v0_beneath, v0_numberUp, v0_numberDown, v0_block, v0_blocks, v0_merged, v0_valueUp, v0_valueDown, v0_said, v0_saids, v0_at, v0_number) x8 x9 x10 = some y := hf
    unfold m_X10_again_0_0_15_l73 at hf
    refine lv_iload_n hx hb dX10_again_73 rfl (lv_at hl 2 rfl) ?_
    refine lv_bipush (v := 12) hx hb dX10_again_74 (by decide) ?_
    refine lv_icmp_ge (tgt := 109) hx hb dX10_again_76 (by decide) (fun cb => ?_) (fun cb => ?_)
    · have hf := it_t cb hf
      exact hXt _ (Option.some.inj hf).symm _ _ _ hP hD hS (lv_sub hl [0, 1] rfl)
    have hf := it_f cb hf
    refine lv_aload_n hx hb dX10_again_79 rfl (lv_at hl 0 rfl) ?_
    refine va_get (D := g.1) (ci := 11) (v := .ref (a0 6)) (C := RX10) (T := TX10) (N := 36) hx hb hts layX10 hown hK.1 hP 0 rfl rfl 7 (by decide) (hts _ kw1284) (fun _ h9 => h9) rfl dX10_again_80 ?_
    refine lv_iload_n hx hb dX10_again_83 rfl (lv_at hl 2 rfl) ?_
    refine lv_aload_n hx hb dX10_again_84 rfl (lv_at hl 1 rfl) ?_
    refine lv_bipush (v := 35) hx hb dX10_again_85 (by decide) ?_
    refine lv_iload_n hx hb dX10_again_87 rfl (lv_at hl 2 rfl) ?_
    refine lv_iadd hx hb dX10_again_88 ?_
    have hi := it_n hf
    have hf := it_t hi hf
    refine va_iald hx hb hK.1 hP 15 0 rfl rfl (inb_in hi) dX10_again_89 ?_
    have hi := it_n hf
    have hf := it_t hi hf
    refine va_iast hx hb hK.1 hP hD hS 6 0 rfl rfl (inb_in hi) dX10_again_90 (fun H locs hP hD hS => ?_)
    have hP : va_P g.1 vwCl (wX10 a0 g v0_papers r7.1 r7.2.1 r7.2.2.1 r7.2.2.2.1 r7.2.2.2.2 v0_rules (upd x9 x8.toNatClampNeg (v0_before ((35 : Int32) + x8).toNatClampNeg)) x10 v0_limits v0_limit v0_ties v0_letter v0_letters v0_told v0_tolds v0_places v0_cell v0_refusals v0_imaged v0_hasImage v0_before v0_up v0_down v0_beneath v0_numberUp v0_numberDown v0_block v0_blocks v0_merged v0_valueUp v0_valueDown v0_said v0_saids v0_at v0_number) H := hP
    have hD : va_D A (wX10 a0 g v0_papers r7.1 r7.2.1 r7.2.2.1 r7.2.2.2.1 r7.2.2.2.2 v0_rules (upd x9 x8.toNatClampNeg (v0_before ((35 : Int32) + x8).toNatClampNeg)) x10 v0_limits v0_limit v0_ties v0_letter v0_letters v0_told v0_tolds v0_places v0_cell v0_refusals v0_imaged v0_hasImage v0_before v0_up v0_down v0_beneath v0_numberUp v0_numberDown v0_block v0_blocks v0_merged v0_valueUp v0_valueDown v0_said v0_saids v0_at v0_number) := hD
    refine lv_aload_n hx hb dX10_again_91 rfl (lv_at hl 0 rfl) ?_
    refine va_get (D := g.1) (ci := 11) (v := .ref (a0 7)) (C := RX10) (T := TX10) (N := 36) hx hb hts layX10 hown hK.1 hP 0 rfl rfl 8 (by decide) (hts _ kw1285) (fun _ h9 => h9) rfl dX10_again_92 ?_
    refine lv_iload_n hx hb dX10_again_95 rfl (lv_at hl 2 rfl) ?_
    refine lv_aload_n hx hb dX10_again_96 rfl (lv_at hl 1 rfl) ?_
    refine lv_bipush (v := 47) hx hb dX10_again_97 (by decide) ?_
    refine lv_iload_n hx hb dX10_again_99 rfl (lv_at hl 2 rfl) ?_
    refine lv_iadd hx hb dX10_again_100 ?_
    have hi := it_n hf
    have hf := it_t hi hf
    refine va_iald hx hb hK.1 hP 15 0 rfl rfl (inb_in hi) dX10_again_101 ?_
    have hi := it_n hf
    have hf := it_t hi hf
    refine va_iast hx hb hK.1 hP hD hS 7 0 rfl rfl (inb_in hi) dX10_again_102 (fun H locs hP hD hS => ?_)
    have hP : va_P g.1 vwCl (wX10 a0 g v0_papers r7.1 r7.2.1 r7.2.2.1 r7.2.2.2.1 r7.2.2.2.2 v0_rules (upd x9 x8.toNatClampNeg (v0_before ((35 : Int32) + x8).toNatClampNeg)) (upd x10 x8.toNatClampNeg (v0_before ((47 : Int32) + x8).toNatClampNeg)) v0_limits v0_limit v0_ties v0_letter v0_letters v0_told v0_tolds v0_places v0_cell v0_refusals v0_imaged v0_hasImage v0_before v0_up v0_down v0_beneath v0_numberUp v0_numberDown v0_block v0_blocks v0_merged v0_valueUp v0_valueDown v0_said v0_saids v0_at v0_number) H := hP
    have hD : va_D A (wX10 a0 g v0_papers r7.1 r7.2.1 r7.2.2.1 r7.2.2.2.1 r7.2.2.2.2 v0_rules (upd x9 x8.toNatClampNeg (v0_before ((35 : Int32) + x8).toNatClampNeg)) (upd x10 x8.toNatClampNeg (v0_before ((47 : Int32) + x8).toNatClampNeg)) v0_limits v0_limit v0_ties v0_letter v0_letters v0_told v0_tolds v0_places v0_cell v0_refusals v0_imaged v0_hasImage v0_before v0_up v0_down v0_beneath v0_numberUp v0_numberDown v0_block v0_blocks v0_merged v0_valueUp v0_valueDown v0_said v0_saids v0_at v0_number) := hD
    refine lv_iinc (v := (x8 + 1)) (lv' := [(2, .int (x8 + 1)), (0, .ref (a0 0)), (1, .ref (a0 15))]) hx hb dX10_again_103 hl (k := 2) rfl (by rfl) (by decide) rfl (fun ls hl => ?_)
    refine lv_goto (tgt := 73) hx hb dX10_again_106 (by decide) ?_
    exact hB _ (Option.some.inj hf).symm _ _ _ hP hD hS (lv_sub hl [1, 2, 0] rfl)
  intro H locs ls hP hD hS hl
  have hP : va_P g.1 vwCl (wX10 a0 g v0_papers r7.1 r7.2.1 r7.2.2.1 r7.2.2.2.1 r7.2.2.2.2 v0_rules r11.1 r11.2 v0_limits v0_limit v0_ties v0_letter v0_letters v0_told v0_tolds v0_places v0_cell v0_refusals v0_imaged v0_hasImage v0_before v0_up v0_down v0_beneath v0_numberUp v0_numberDown v0_block v0_blocks v0_merged v0_valueUp v0_valueDown v0_said v0_saids v0_at v0_number) H := hP
  have hD : va_D A (wX10 a0 g v0_papers r7.1 r7.2.1 r7.2.2.1 r7.2.2.2.1 r7.2.2.2.2 v0_rules r11.1 r11.2 v0_limits v0_limit v0_ties v0_letter v0_letters v0_told v0_tolds v0_places v0_cell v0_refusals v0_imaged v0_hasImage v0_before v0_up v0_down v0_beneath v0_numberUp v0_numberDown v0_block v0_blocks v0_merged v0_valueUp v0_valueDown v0_said v0_saids v0_at v0_number) := hD
  have hl : lv_has ls 3 [(0, .ref (a0 0)), (1, .ref (a0 15))] := hl
  refine lv_iconst (v := 0) hx hb dX10_again_109 (by decide) ?_
  refine lv_istore_n (lv' := [(2, .int (0 : Int32)), (0, .ref (a0 0)), (1, .ref (a0 15))]) hx hb dX10_again_110 rfl hl (by decide) rfl (fun ls hl => ?_)
  obtain ⟨r14, er14, hf⟩ := bnd hf
  refine lp_W (P := fun z => ∀ (H : Heap) (locs : List Loc) (ls : Array Slot), va_P g.1 vwCl (wX10 a0 g v0_papers r7.1 r7.2.1 r7.2.2.1 r7.2.2.2.1 r7.2.2.2.2 v0_rules r11.1 r11.2 v0_limits z.2 v0_ties v0_letter v0_letters v0_told v0_tolds v0_places v0_cell v0_refusals v0_imaged v0_hasImage v0_before v0_up v0_down v0_beneath v0_numberUp v0_numberDown v0_block v0_blocks v0_merged v0_valueUp v0_valueDown v0_said v0_saids v0_at v0_number) H → va_D A (wX10 a0 g v0_papers r7.1 r7.2.1 r7.2.2.1 r7.2.2.2.1 r7.2.2.2.2 v0_rules r11.1 r11.2 v0_limits z.2 v0_ties v0_letter v0_letters v0_told v0_tolds v0_places v0_cell v0_refusals v0_imaged v0_hasImage v0_before v0_up v0_down v0_beneath v0_numberUp v0_numberDown v0_block v0_blocks v0_merged v0_valueUp v0_valueDown v0_said v0_saids v0_at v0_number) → va_S A s.heap H locs → lv_has ls 3 [(0, .ref (a0 0)), (1, .ref (a0 15)), (2, .int z.1)] → W p l e { frames := 0, cells := 0, slots := 0, locals := 0 } s m [.ref (a0 0), .ref (a0 15)].toArray below meth c H locs 0 0 (MQ below (Qv g (m_X10_again_0_0_15 (v0_papers, v0_raw, v0_kind, v0_figure, v0_heavy, v0_place, v0_rules, v0_lower, v0_upper, v0_limits, v0_limit, v0_ties, v0_letter, v0_letters, v0_told, v0_tolds, v0_places, v0_cell, v0_refusals, v0_imaged, v0_hasImage, v0_before, v0_up, v0_down, v0_beneath, v0_numberUp, v0_numberDown, v0_block, v0_blocks, v0_merged, v0_valueUp, v0_valueDown, v0_said, v0_saids, v0_at, v0_number)) (fun u => wX10 a0 g u.1 u.2.1 u.2.2.1 u.2.2.2.1 u.2.2.2.2.1 u.2.2.2.2.2.1 u.2.2.2.2.2.2.1 u.2.2.2.2.2.2.2.1 u.2.2.2.2.2.2.2.2.1 u.2.2.2.2.2.2.2.2.2.1 u.2.2.2.2.2.2.2.2.2.2.1 u.2.2.2.2.2.2.2.2.2.2.2 v0_letter v0_letters v0_told v0_tolds v0_places v0_cell v0_refusals v0_imaged v0_hasImage v0_before v0_up v0_down v0_beneath v0_numberUp v0_numberDown v0_block v0_blocks v0_merged v0_valueUp v0_valueDown v0_said v0_saids v0_at v0_number) A) [.ref (a0 0), .ref (a0 15)].toArray s 0 0 A) (F0 m 111 ls [])) (E := fun r14 => ∀ (H : Heap) (locs : List Loc) (ls : Array Slot), va_P g.1 vwCl (wX10 a0 g v0_papers r7.1 r7.2.1 r7.2.2.1 r7.2.2.2.1 r7.2.2.2.2 v0_rules r11.1 r11.2 v0_limits r14 v0_ties v0_letter v0_letters v0_told v0_tolds v0_places v0_cell v0_refusals v0_imaged v0_hasImage v0_before v0_up v0_down v0_beneath v0_numberUp v0_numberDown v0_block v0_blocks v0_merged v0_valueUp v0_valueDown v0_said v0_saids v0_at v0_number) H → va_D A (wX10 a0 g v0_papers r7.1 r7.2.1 r7.2.2.1 r7.2.2.2.1 r7.2.2.2.2 v0_rules r11.1 r11.2 v0_limits r14 v0_ties v0_letter v0_letters v0_told v0_tolds v0_places v0_cell v0_refusals v0_imaged v0_hasImage v0_before v0_up v0_down v0_beneath v0_numberUp v0_numberDown v0_block v0_blocks v0_merged v0_valueUp v0_valueDown v0_said v0_saids v0_at v0_number) → va_S A s.heap H locs → lv_has ls 3 [(0, .ref (a0 0)), (1, .ref (a0 15))] → W p l e { frames := 0, cells := 0, slots := 0, locals := 0 } s m [.ref (a0 0), .ref (a0 15)].toArray below meth c H locs 0 0 (MQ below (Qv g (m_X10_again_0_0_15 (v0_papers, v0_raw, v0_kind, v0_figure, v0_heavy, v0_place, v0_rules, v0_lower, v0_upper, v0_limits, v0_limit, v0_ties, v0_letter, v0_letters, v0_told, v0_tolds, v0_places, v0_cell, v0_refusals, v0_imaged, v0_hasImage, v0_before, v0_up, v0_down, v0_beneath, v0_numberUp, v0_numberDown, v0_block, v0_blocks, v0_merged, v0_valueUp, v0_valueDown, v0_said, v0_saids, v0_at, v0_number)) (fun u => wX10 a0 g u.1 u.2.1 u.2.2.1 u.2.2.2.1 u.2.2.2.2.1 u.2.2.2.2.2.1 u.2.2.2.2.2.2.1 u.2.2.2.2.2.2.2.1 u.2.2.2.2.2.2.2.2.1 u.2.2.2.2.2.2.2.2.2.1 u.2.2.2.2.2.2.2.2.2.2.1 u.2.2.2.2.2.2.2.2.2.2.2 v0_letter v0_letters v0_told v0_tolds v0_places v0_cell v0_refusals v0_imaged v0_hasImage v0_before v0_up v0_down v0_beneath v0_numberUp v0_numberDown v0_block v0_blocks v0_merged v0_valueUp v0_valueDown v0_said v0_saids v0_at v0_number) A) [.ref (a0 0), .ref (a0 15)].toArray s 0 0 A) (F0 m 134 ls [])) ?_ fu _ r14 er14 ?_ _ _ _ hP hD hS (lv_sub hl [1, 2, 0] rfl)
  · rintro ⟨x12, x13⟩ y hf hB hXt H locs ls hP hD hS hl
    have hP : va_P g.1 vwCl (wX10 a0 g v0_papers r7.1 r7.2.1 r7.2.2.1 r7.2.2.2.1 r7.2.2.2.2 v0_rules r11.1 r11.2 v0_limits x13 v0_ties v0_letter v0_letters v0_told v0_tolds v0_places v0_cell v0_refusals v0_imaged v0_hasImage v0_before v0_up v0_down v0_beneath v0_numberUp v0_numberDown v0_block v0_blocks v0_merged v0_valueUp v0_valueDown v0_said v0_saids v0_at v0_number) H := hP
    have hD : va_D A (wX10 a0 g v0_papers r7.1 r7.2.1 r7.2.2.1 r7.2.2.2.1 r7.2.2.2.2 v0_rules r11.1 r11.2 v0_limits x13 v0_ties v0_letter v0_letters v0_told v0_tolds v0_places v0_cell v0_refusals v0_imaged v0_hasImage v0_before v0_up v0_down v0_beneath v0_numberUp v0_numberDown v0_block v0_blocks v0_merged v0_valueUp v0_valueDown v0_said v0_saids v0_at v0_number) := hD
    have hl : lv_has ls 3 [(0, .ref (a0 0)), (1, .ref (a0 15)), (2, .int x12)] := hl
    have hf : m_X10_again_0_0_15_l111 (v0_papers, v0_raw, v0_kind, v0_figure, v0_heavy, v0_place, v0_rules, v0_lower, v0_upper, v0_limits, v0_limit, v0_ties, v0_letter, v0_letters, v0_told, v0_tolds, v0_places, v0_cell, v0_refusals, v0_imaged, v0_hasImage, v0_before, v0_up, v0_down, v0_beneath, v0_numberUp, v0_numberDown, v0_block, v0_blocks, v0_merged, v0_valueUp, v0_valueDown, v0_said, v0_saids, v0_at, v0_number) x12 x13 = some y := hf
    unfold m_X10_again_0_0_15_l111 at hf
    refine lv_iload_n hx hb dX10_again_111 rfl (lv_at hl 2 rfl) ?_
    refine lv_iconst (v := 5) hx hb dX10_again_112 (by decide) ?_
    refine lv_icmp_ge (tgt := 134) hx hb dX10_again_113 (by decide) (fun cb => ?_) (fun cb => ?_)
    · have hf := it_t cb hf
      exact hXt _ (Option.some.inj hf).symm _ _ _ hP hD hS (lv_sub hl [0, 1] rfl)
    have hf := it_f cb hf
    refine lv_aload_n hx hb dX10_again_116 rfl (lv_at hl 0 rfl) ?_
    refine va_get (D := g.1) (ci := 11) (v := .ref (a0 8)) (C := RX10) (T := TX10) (N := 36) hx hb hts layX10 hown hK.1 hP 0 rfl rfl 10 (by decide) (hts _ kw1287) (fun _ h9 => h9) rfl dX10_again_117 ?_
    refine lv_iload_n hx hb dX10_again_120 rfl (lv_at hl 2 rfl) ?_
    refine lv_aload_n hx hb dX10_again_121 rfl (lv_at hl 1 rfl) ?_
    refine lv_bipush (v := 59) hx hb dX10_again_122 (by decide) ?_
    refine lv_iload_n hx hb dX10_again_124 rfl (lv_at hl 2 rfl) ?_
    refine lv_iadd hx hb dX10_again_125 ?_
    have hi := it_n hf
    have hf := it_t hi hf
    refine va_iald hx hb hK.1 hP 15 0 rfl rfl (inb_in hi) dX10_again_126 ?_
    have hi := it_n hf
    have hf := it_t hi hf
    refine va_iast hx hb hK.1 hP hD hS 8 0 rfl rfl (inb_in hi) dX10_again_127 (fun H locs hP hD hS => ?_)
    have hP : va_P g.1 vwCl (wX10 a0 g v0_papers r7.1 r7.2.1 r7.2.2.1 r7.2.2.2.1 r7.2.2.2.2 v0_rules r11.1 r11.2 v0_limits (upd x13 x12.toNatClampNeg (v0_before ((59 : Int32) + x12).toNatClampNeg)) v0_ties v0_letter v0_letters v0_told v0_tolds v0_places v0_cell v0_refusals v0_imaged v0_hasImage v0_before v0_up v0_down v0_beneath v0_numberUp v0_numberDown v0_block v0_blocks v0_merged v0_valueUp v0_valueDown v0_said v0_saids v0_at v0_number) H := hP
    have hD : va_D A (wX10 a0 g v0_papers r7.1 r7.2.1 r7.2.2.1 r7.2.2.2.1 r7.2.2.2.2 v0_rules r11.1 r11.2 v0_limits (upd x13 x12.toNatClampNeg (v0_before ((59 : Int32) + x12).toNatClampNeg)) v0_ties v0_letter v0_letters v0_told v0_tolds v0_places v0_cell v0_refusals v0_imaged v0_hasImage v0_before v0_up v0_down v0_beneath v0_numberUp v0_numberDown v0_block v0_blocks v0_merged v0_valueUp v0_valueDown v0_said v0_saids v0_at v0_number) := hD
    refine lv_iinc (v := (x12 + 1)) (lv' := [(2, .int (x12 + 1)), (0, .ref (a0 0)), (1, .ref (a0 15))]) hx hb dX10_again_128 hl (k := 2) rfl (by rfl) (by decide) rfl (fun ls hl => ?_)
    refine lv_goto (tgt := 111) hx hb dX10_again_131 (by decide) ?_
    exact hB _ (Option.some.inj hf).symm _ _ _ hP hD hS (lv_sub hl [1, 2, 0] rfl)
  intro H locs ls hP hD hS hl
  have hP : va_P g.1 vwCl (wX10 a0 g v0_papers r7.1 r7.2.1 r7.2.2.1 r7.2.2.2.1 r7.2.2.2.2 v0_rules r11.1 r11.2 v0_limits r14 v0_ties v0_letter v0_letters v0_told v0_tolds v0_places v0_cell v0_refusals v0_imaged v0_hasImage v0_before v0_up v0_down v0_beneath v0_numberUp v0_numberDown v0_block v0_blocks v0_merged v0_valueUp v0_valueDown v0_said v0_saids v0_at v0_number) H := hP
  have hD : va_D A (wX10 a0 g v0_papers r7.1 r7.2.1 r7.2.2.1 r7.2.2.2.1 r7.2.2.2.2 v0_rules r11.1 r11.2 v0_limits r14 v0_ties v0_letter v0_letters v0_told v0_tolds v0_places v0_cell v0_refusals v0_imaged v0_hasImage v0_before v0_up v0_down v0_beneath v0_numberUp v0_numberDown v0_block v0_blocks v0_merged v0_valueUp v0_valueDown v0_said v0_saids v0_at v0_number) := hD
  have hl : lv_has ls 3 [(0, .ref (a0 0)), (1, .ref (a0 15))] := hl
  refine lv_aload_n hx hb dX10_again_134 rfl (lv_at hl 0 rfl) ?_
  refine lv_aload_n hx hb dX10_again_135 rfl (lv_at hl 1 rfl) ?_
  refine lv_bipush (v := 64) hx hb dX10_again_136 (by decide) ?_
  have hi := it_n hf
  have hf := it_t hi hf
  refine va_iald hx hb hK.1 hP 15 0 rfl rfl (inb_in hi) dX10_again_138 ?_
  refine va_put (D := g.1) (ci := 11) (v := .int (v0_before (64 : Int32).toNatClampNeg)) (ty := .int) (C := RX10) (T := TX10) (N := 36) hx hb hts layX10 tyX10 tyX10_ok nmX10 hown hK.1 hP hD hS 0 rfl rfl 0 (by decide) (hts _ kw1277) (fun _ h9 => h9) rfl (tyX10_ok 0 (by decide)) rfl rfl (Nat.le_of_ble_eq_true rfl) dX10_again_139 (fun H locs hP hD hS => ?_)
  have hP : va_P g.1 vwCl (wX10 a0 g (v0_before (64 : Int32).toNatClampNeg) r7.1 r7.2.1 r7.2.2.1 r7.2.2.2.1 r7.2.2.2.2 v0_rules r11.1 r11.2 v0_limits r14 v0_ties v0_letter v0_letters v0_told v0_tolds v0_places v0_cell v0_refusals v0_imaged v0_hasImage v0_before v0_up v0_down v0_beneath v0_numberUp v0_numberDown v0_block v0_blocks v0_merged v0_valueUp v0_valueDown v0_said v0_saids v0_at v0_number) H := hP
  have hD : va_D A (wX10 a0 g (v0_before (64 : Int32).toNatClampNeg) r7.1 r7.2.1 r7.2.2.1 r7.2.2.2.1 r7.2.2.2.2 v0_rules r11.1 r11.2 v0_limits r14 v0_ties v0_letter v0_letters v0_told v0_tolds v0_places v0_cell v0_refusals v0_imaged v0_hasImage v0_before v0_up v0_down v0_beneath v0_numberUp v0_numberDown v0_block v0_blocks v0_merged v0_valueUp v0_valueDown v0_said v0_saids v0_at v0_number) := hD
  refine lv_aload_n hx hb dX10_again_142 rfl (lv_at hl 0 rfl) ?_
  refine lv_aload_n hx hb dX10_again_143 rfl (lv_at hl 1 rfl) ?_
  refine lv_bipush (v := 65) hx hb dX10_again_144 (by decide) ?_
  have hi := it_n hf
  have hf := it_t hi hf
  refine va_iald hx hb hK.1 hP 15 0 rfl rfl (inb_in hi) dX10_again_146 ?_
  refine va_put (D := g.1) (ci := 11) (v := .int (v0_before (65 : Int32).toNatClampNeg)) (ty := .int) (C := RX10) (T := TX10) (N := 36) hx hb hts layX10 tyX10 tyX10_ok nmX10 hown hK.1 hP hD hS 0 rfl rfl 6 (by decide) (hts _ kw1283) (fun _ h9 => h9) rfl (tyX10_ok 6 (by decide)) rfl rfl (Nat.le_of_ble_eq_true rfl) dX10_again_147 (fun H locs hP hD hS => ?_)
  have hP : va_P g.1 vwCl (wX10 a0 g (v0_before (64 : Int32).toNatClampNeg) r7.1 r7.2.1 r7.2.2.1 r7.2.2.2.1 r7.2.2.2.2 (v0_before (65 : Int32).toNatClampNeg) r11.1 r11.2 v0_limits r14 v0_ties v0_letter v0_letters v0_told v0_tolds v0_places v0_cell v0_refusals v0_imaged v0_hasImage v0_before v0_up v0_down v0_beneath v0_numberUp v0_numberDown v0_block v0_blocks v0_merged v0_valueUp v0_valueDown v0_said v0_saids v0_at v0_number) H := hP
  have hD : va_D A (wX10 a0 g (v0_before (64 : Int32).toNatClampNeg) r7.1 r7.2.1 r7.2.2.1 r7.2.2.2.1 r7.2.2.2.2 (v0_before (65 : Int32).toNatClampNeg) r11.1 r11.2 v0_limits r14 v0_ties v0_letter v0_letters v0_told v0_tolds v0_places v0_cell v0_refusals v0_imaged v0_hasImage v0_before v0_up v0_down v0_beneath v0_numberUp v0_numberDown v0_block v0_blocks v0_merged v0_valueUp v0_valueDown v0_said v0_saids v0_at v0_number) := hD
  refine lv_aload_n hx hb dX10_again_150 rfl (lv_at hl 0 rfl) ?_
  refine lv_aload_n hx hb dX10_again_151 rfl (lv_at hl 1 rfl) ?_
  refine lv_bipush (v := 66) hx hb dX10_again_152 (by decide) ?_
  have hi := it_n hf
  have hf := it_t hi hf
  refine va_iald hx hb hK.1 hP 15 0 rfl rfl (inb_in hi) dX10_again_154 ?_
  refine va_put (D := g.1) (ci := 11) (v := .int (v0_before (66 : Int32).toNatClampNeg)) (ty := .int) (C := RX10) (T := TX10) (N := 36) hx hb hts layX10 tyX10 tyX10_ok nmX10 hown hK.1 hP hD hS 0 rfl rfl 9 (by decide) (hts _ kw1286) (fun _ h9 => h9) rfl (tyX10_ok 9 (by decide)) rfl rfl (Nat.le_of_ble_eq_true rfl) dX10_again_155 (fun H locs hP hD hS => ?_)
  have hP : va_P g.1 vwCl (wX10 a0 g (v0_before (64 : Int32).toNatClampNeg) r7.1 r7.2.1 r7.2.2.1 r7.2.2.2.1 r7.2.2.2.2 (v0_before (65 : Int32).toNatClampNeg) r11.1 r11.2 (v0_before (66 : Int32).toNatClampNeg) r14 v0_ties v0_letter v0_letters v0_told v0_tolds v0_places v0_cell v0_refusals v0_imaged v0_hasImage v0_before v0_up v0_down v0_beneath v0_numberUp v0_numberDown v0_block v0_blocks v0_merged v0_valueUp v0_valueDown v0_said v0_saids v0_at v0_number) H := hP
  have hD : va_D A (wX10 a0 g (v0_before (64 : Int32).toNatClampNeg) r7.1 r7.2.1 r7.2.2.1 r7.2.2.2.1 r7.2.2.2.2 (v0_before (65 : Int32).toNatClampNeg) r11.1 r11.2 (v0_before (66 : Int32).toNatClampNeg) r14 v0_ties v0_letter v0_letters v0_told v0_tolds v0_places v0_cell v0_refusals v0_imaged v0_hasImage v0_before v0_up v0_down v0_beneath v0_numberUp v0_numberDown v0_block v0_blocks v0_merged v0_valueUp v0_valueDown v0_said v0_saids v0_at v0_number) := hD
  refine lv_aload_n hx hb dX10_again_158 rfl (lv_at hl 0 rfl) ?_
  refine lv_aload_n hx hb dX10_again_159 rfl (lv_at hl 1 rfl) ?_
  refine lv_bipush (v := 67) hx hb dX10_again_160 (by decide) ?_
  have hi := it_n hf
  have hf := it_t hi hf
  refine va_iald hx hb hK.1 hP 15 0 rfl rfl (inb_in hi) dX10_again_162 ?_
  refine va_put (D := g.1) (ci := 11) (v := .int (v0_before (67 : Int32).toNatClampNeg)) (ty := .int) (C := RX10) (T := TX10) (N := 36) hx hb hts layX10 tyX10 tyX10_ok nmX10 hown hK.1 hP hD hS 0 rfl rfl 11 (by decide) (hts _ kw1288) (fun _ h9 => h9) rfl (tyX10_ok 11 (by decide)) rfl rfl (Nat.le_of_ble_eq_true rfl) dX10_again_163 (fun H locs hP hD hS => ?_)
  have hP : va_P g.1 vwCl (wX10 a0 g (v0_before (64 : Int32).toNatClampNeg) r7.1 r7.2.1 r7.2.2.1 r7.2.2.2.1 r7.2.2.2.2 (v0_before (65 : Int32).toNatClampNeg) r11.1 r11.2 (v0_before (66 : Int32).toNatClampNeg) r14 (v0_before (67 : Int32).toNatClampNeg) v0_letter v0_letters v0_told v0_tolds v0_places v0_cell v0_refusals v0_imaged v0_hasImage v0_before v0_up v0_down v0_beneath v0_numberUp v0_numberDown v0_block v0_blocks v0_merged v0_valueUp v0_valueDown v0_said v0_saids v0_at v0_number) H := hP
  have hD : va_D A (wX10 a0 g (v0_before (64 : Int32).toNatClampNeg) r7.1 r7.2.1 r7.2.2.1 r7.2.2.2.1 r7.2.2.2.2 (v0_before (65 : Int32).toNatClampNeg) r11.1 r11.2 (v0_before (66 : Int32).toNatClampNeg) r14 (v0_before (67 : Int32).toNatClampNeg) v0_letter v0_letters v0_told v0_tolds v0_places v0_cell v0_refusals v0_imaged v0_hasImage v0_before v0_up v0_down v0_beneath v0_numberUp v0_numberDown v0_block v0_blocks v0_merged v0_valueUp v0_valueDown v0_said v0_saids v0_at v0_number) := hD
  exact retV (u := ((v0_before (64 : Int32).toNatClampNeg), r7.1, r7.2.1, r7.2.2.1, r7.2.2.2.1, r7.2.2.2.2, (v0_before (65 : Int32).toNatClampNeg), r11.1, r11.2, (v0_before (66 : Int32).toNatClampNeg), r14, (v0_before (67 : Int32).toNatClampNeg))) (W1 := fun u => wX10 a0 g u.1 u.2.1 u.2.2.1 u.2.2.2.1 u.2.2.2.2.1 u.2.2.2.2.2.1 u.2.2.2.2.2.2.1 u.2.2.2.2.2.2.2.1 u.2.2.2.2.2.2.2.2.1 u.2.2.2.2.2.2.2.2.2.1 u.2.2.2.2.2.2.2.2.2.2.1 u.2.2.2.2.2.2.2.2.2.2.2 v0_letter v0_letters v0_told v0_tolds v0_places v0_cell v0_refusals v0_imaged v0_hasImage v0_before v0_up v0_down v0_beneath v0_numberUp v0_numberDown v0_block v0_blocks v0_merged v0_valueUp v0_valueDown v0_said v0_saids v0_at v0_number) hx hb hr hlocks hS hP hD (hf0.trans hf.symm) dX10_again_166
set_option maxHeartbeats 4000000 in
set_option maxRecDepth 100000 in
theorem c_X10_lots (l : Launch) (g : GG) (a0 : Nat → Nat) (v0_papers : Int32) (v0_raw : (Nat → Int32)) (v0_kind : (Nat → Int32)) (v0_figure : (Nat → Int32)) (v0_heavy : (Nat → Int32)) (v0_place : (Nat → Int32)) (v0_rules : Int32) (v0_lower : (Nat → Int32)) (v0_upper : (Nat → Int32)) (v0_limits : Int32) (v0_limit : (Nat → Int32)) (v0_ties : Int32) (v0_letter : (Nat → Int32)) (v0_letters : Int32) (v0_told : (Nat → Int32)) (v0_tolds : Int32) (v0_places : (Nat → Int32)) (v0_cell : (Nat → Int64)) (v0_refusals : (Nat → Int32)) (v0_imaged : (Nat → Int32)) (v0_hasImage : Int32) (v0_before : (Nat → Int32)) (v0_up : Int64) (v0_down : Int64) (v0_beneath : (Nat → Int32)) (v0_numberUp : Int32) (v0_numberDown : Int32) (v0_block : (Nat → Int32)) (v0_blocks : Int32) (v0_merged : Int32) (v0_valueUp : (Nat → Int32)) (v0_valueDown : (Nat → Int32)) (v0_said : (Nat → Int32)) (v0_saids : Int32) (v0_at : Int32) (v0_number : (Nat → Int32)) (p1 : Int32) (p2 : Int32) (p3 : Int32) (hne : (m_X10_lots (v0_papers, v0_raw, v0_kind, v0_figure, v0_heavy, v0_place, v0_rules, v0_lower, v0_upper, v0_limits, v0_limit, v0_ties, v0_letter, v0_letters, v0_told, v0_tolds, v0_places, v0_cell, v0_refusals, v0_imaged, v0_hasImage, v0_before, v0_up, v0_down, v0_beneath, v0_numberUp, v0_numberDown, v0_block, v0_blocks, v0_merged, v0_valueUp, v0_valueDown, v0_said, v0_saids, v0_at, v0_number) p1 p2 p3) ≠ none) : Ct l g yX10_lots cX10_lots 8 (some .int) ({ frames := 8, cells := 0, slots := 0, locals := 183 } : Room) [.ref (a0 0), .int p1, .int p2, .int p3] (wX10 a0 g v0_papers v0_raw v0_kind v0_figure v0_heavy v0_place v0_rules v0_lower v0_upper v0_limits v0_limit v0_ties v0_letter v0_letters v0_told v0_tolds v0_places v0_cell v0_refusals v0_imaged v0_hasImage v0_before v0_up v0_down v0_beneath v0_numberUp v0_numberDown v0_block v0_blocks v0_merged v0_valueUp v0_valueDown v0_said v0_saids v0_at v0_number) (Qi g .int (m_X10_lots (v0_papers, v0_raw, v0_kind, v0_figure, v0_heavy, v0_place, v0_rules, v0_lower, v0_upper, v0_limits, v0_limit, v0_ties, v0_letter, v0_letters, v0_told, v0_tolds, v0_places, v0_cell, v0_refusals, v0_imaged, v0_hasImage, v0_before, v0_up, v0_down, v0_beneath, v0_numberUp, v0_numberDown, v0_block, v0_blocks, v0_merged, v0_valueUp, v0_valueDown, v0_said, v0_saids, v0_at, v0_number) p1 p2 p3) (fun u => u.1) (fun u => wX10 a0 g u.2.1 u.2.2.1 u.2.2.2.1 u.2.2.2.2.1 u.2.2.2.2.2.1 u.2.2.2.2.2.2.1 u.2.2.2.2.2.2.2.1 u.2.2.2.2.2.2.2.2.1 u.2.2.2.2.2.2.2.2.2.1 u.2.2.2.2.2.2.2.2.2.2.1 u.2.2.2.2.2.2.2.2.2.2.2.1 u.2.2.2.2.2.2.2.2.2.2.2.2.1 v0_letter v0_letters v0_told v0_tolds v0_places v0_cell u.2.2.2.2.2.2.2.2.2.2.2.2.2.1 v0_imaged v0_hasImage u.2.2.2.2.2.2.2.2.2.2.2.2.2.2.1 u.2.2.2.2.2.2.2.2.2.2.2.2.2.2.2.1 u.2.2.2.2.2.2.2.2.2.2.2.2.2.2.2.2.1 u.2.2.2.2.2.2.2.2.2.2.2.2.2.2.2.2.2.1 v0_numberUp v0_numberDown v0_block v0_blocks v0_merged u.2.2.2.2.2.2.2.2.2.2.2.2.2.2.2.2.2.2.1 u.2.2.2.2.2.2.2.2.2.2.2.2.2.2.2.2.2.2.2 v0_said v0_saids v0_at v0_number)) 0 0 := by
  obtain ⟨out, hf⟩ := ne_ex hne
  have hf0 := hf
  refine Ct.of (own := RX10) (by decide +kernel) rfl (Nat.le_of_ble_eq_true rfl) ?_
  intro p e s m below meth c hx hb hr hml hown hts hlocks hin hK A H locs hA hP hD hS hE ls hl
  have hl : lv_has ls 8 [(0, .ref (a0 0)), (1, .int p1), (2, .int p2), (3, .int p3)] := hl
  unfold m_X10_lots at hf
  refine lv_iload_n hx hb dX10_lots_0 rfl (lv_at hl 1 rfl) ?_
  refine lv_iconst (v := 1) hx hb dX10_lots_1 (by decide) ?_
  refine lv_icmp_ge (tgt := 12) hx hb dX10_lots_2 (by decide) (fun cb => ?_) (fun cb => ?_)
  · have hf := it_t cb hf
    refine lv_iload_n hx hb dX10_lots_12 rfl (lv_at hl 1 rfl) ?_
    refine lv_bipush (v := 20) hx hb dX10_lots_13 (by decide) ?_
    refine lv_icmp_le (tgt := 25) hx hb dX10_lots_15 (by decide) (fun cb => ?_) (fun cb => ?_)
    · have hf := it_t cb hf
      refine lv_iload_n hx hb dX10_lots_25 rfl (lv_at hl 3 rfl) ?_
      refine lv_iconst (v := 0) hx hb dX10_lots_26 (by decide) ?_
      refine lv_iconst (v := 1) hx hb dX10_lots_27 (by decide) ?_
      refine cIp hP hD hS hA hE (fun hPc hDc hSc => rS (As := [.int p3, .int (0 : Int32), .int (1 : Int32)]) (rest := []) hx hb hml hown hts hK (c_X10_in l g p3 (0 : Int32) (1 : Int32) (bnd_ne hf)) svS_X10_in kw1364 hPc hDc hSc rfl rfl hl.1 (Nat.le_of_ble_eq_true rfl) dX10_lots_28 ⟨Nat.le_of_ble_eq_true rfl, Nat.le_of_ble_eq_true rfl, rfl, rfl, Nat.le_of_ble_eq_true rfl, Nat.le_of_ble_eq_true rfl⟩) [] rfl rfl rfl (fun x1 H locs ex1 nx1 hP hS => ?_)
      have hf := bnd_of hf ex1
      refine lv_if_ne (tgt := 41) hx hb dX10_lots_31 (by decide) (fun cb => ?_) (fun cb => ?_)
      · have hf := it_f cb hf
        refine lv_aload_n hx hb dX10_lots_41 rfl (lv_at hl 0 rfl) ?_
        refine lv_aload_n hx hb dX10_lots_42 rfl (lv_at hl 0 rfl) ?_
        refine va_get (D := g.1) (ci := 11) (v := .ref (a0 15)) (C := RX10) (T := TX10) (N := 36) hx hb hts layX10 hown hK.1 hP 0 rfl rfl 21 (by decide) (hts _ kw1298) (fun _ h9 => h9) rfl dX10_lots_43 ?_
        refine cV hP hD hS hA hE (fun hPc hDc hSc => rV (As := [.ref (a0 15)]) (rest := []) hx hb hml hown hts hK (c_X10_keeps_0_0_15 l g a0 v0_papers v0_raw v0_kind v0_figure v0_heavy v0_place v0_rules v0_lower v0_upper v0_limits v0_limit v0_ties v0_letter v0_letters v0_told v0_tolds v0_places v0_cell v0_refusals v0_imaged v0_hasImage v0_before v0_up v0_down v0_beneath v0_numberUp v0_numberDown v0_block v0_blocks v0_merged v0_valueUp v0_valueDown v0_said v0_saids v0_at v0_number (bnd_ne hf)) svV_X10_keeps kw1668 rfl rfl hPc hDc hSc rfl rfl hl.1 (Nat.le_of_ble_eq_true rfl) dX10_lots_46 ⟨Nat.le_of_ble_eq_true rfl, Nat.le_of_ble_eq_true rfl, rfl, rfl, Nat.le_of_ble_eq_true rfl, Nat.le_of_ble_eq_true rfl⟩) [(0, 22)] rfl rfl rfl (fun _ => rfl) (fun x2 H locs ex2 hP hD hS => ?_)
        have hf := bnd_of hf ex2
        have hP : va_P g.1 vwCl (wX10 a0 g v0_papers v0_raw v0_kind v0_figure v0_heavy v0_place v0_rules v0_lower v0_upper v0_limits v0_limit v0_ties v0_letter v0_letters v0_told v0_tolds v0_places v0_cell v0_refusals v0_imaged v0_hasImage x2 v0_up v0_down v0_beneath v0_numberUp v0_numberDown v0_block v0_blocks v0_merged v0_valueUp v0_valueDown v0_said v0_saids v0_at v0_number) H := hP
        have hD : va_D A (wX10 a0 g v0_papers v0_raw v0_kind v0_figure v0_heavy v0_place v0_rules v0_lower v0_upper v0_limits v0_limit v0_ties v0_letter v0_letters v0_told v0_tolds v0_places v0_cell v0_refusals v0_imaged v0_hasImage x2 v0_up v0_down v0_beneath v0_numberUp v0_numberDown v0_block v0_blocks v0_merged v0_valueUp v0_valueDown v0_said v0_saids v0_at v0_number) := hD
        refine lv_iload_n hx hb dX10_lots_49 rfl (lv_at hl 2 rfl) ?_
        refine lv_istore (lv' := [(4, .int p2), (0, .ref (a0 0)), (1, .int p1), (2, .int p2), (3, .int p3)]) hx hb dX10_lots_50 hl (by decide) rfl (fun ls hl => ?_)
        refine lv_iconst (v := 0) hx hb dX10_lots_52 (by decide) ?_
        refine lv_istore (lv' := [(5, .int (0 : Int32)), (4, .int p2), (0, .ref (a0 0)), (1, .int p1), (2, .int p2), (3, .int p3)]) hx hb dX10_lots_53 hl (by decide) rfl (fun ls hl => ?_)
        refine lv_iconst (v := 0) hx hb dX10_lots_55 (by decide) ?_
        refine lv_istore (lv' := [(6, .int (0 : Int32)), (5, .int (0 : Int32)), (4, .int p2), (0, .ref (a0 0)), (1, .int p1), (2, .int p2), (3, .int p3)]) hx hb dX10_lots_56 hl (by decide) rfl (fun ls hl => ?_)
        obtain ⟨r28, er28, hf⟩ := bnd hf
        refine lp_W (P := fun z => ∀ (H : Heap) (locs : List Loc) (ls : Array Slot), va_P g.1 vwCl (wX10 a0 g v0_papers z.2.2.2.1 v0_kind v0_figure v0_heavy v0_place v0_rules v0_lower v0_upper v0_limits v0_limit v0_ties v0_letter v0_letters v0_told v0_tolds v0_places v0_cell v0_refusals v0_imaged v0_hasImage x2 z.2.2.2.2.1 z.2.2.2.2.2.1 z.2.2.2.2.2.2.1 v0_numberUp v0_numberDown v0_block v0_blocks v0_merged z.2.2.2.2.2.2.2.1 z.2.2.2.2.2.2.2.2 v0_said v0_saids v0_at v0_number) H → va_D A (wX10 a0 g v0_papers z.2.2.2.1 v0_kind v0_figure v0_heavy v0_place v0_rules v0_lower v0_upper v0_limits v0_limit v0_ties v0_letter v0_letters v0_told v0_tolds v0_places v0_cell v0_refusals v0_imaged v0_hasImage x2 z.2.2.2.2.1 z.2.2.2.2.2.1 z.2.2.2.2.2.2.1 v0_numberUp v0_numberDown v0_block v0_blocks v0_merged z.2.2.2.2.2.2.2.1 z.2.2.2.2.2.2.2.2 v0_said v0_saids v0_at v0_number) → va_S A s.heap H locs → lv_has ls 8 [(0, .ref (a0 0)), (1, .int p1), (3, .int p3), (4, .int z.1), (5, .int z.2.1), (6, .int z.2.2.1)] → W p l e { frames := 8, cells := 0, slots := 0, locals := 183 } s m [.ref (a0 0), .int p1, .int p2, .int p3].toArray below meth c H locs 0 0 (MQ below (Qi g .int (m_X10_lots (v0_papers, v0_raw, v0_kind, v0_figure, v0_heavy, v0_place, v0_rules, v0_lower, v0_upper, v0_limits, v0_limit, v0_ties, v0_letter, v0_letters, v0_told, v0_tolds, v0_places, v0_cell, v0_refusals, v0_imaged, v0_hasImage, v0_before, v0_up, v0_down, v0_beneath, v0_numberUp, v0_numberDown, v0_block, v0_blocks, v0_merged, v0_valueUp, v0_valueDown, v0_said, v0_saids, v0_at, v0_number) p1 p2 p3) (fun u => u.1) (fun u => wX10 a0 g u.2.1 u.2.2.1 u.2.2.2.1 u.2.2.2.2.1 u.2.2.2.2.2.1 u.2.2.2.2.2.2.1 u.2.2.2.2.2.2.2.1 u.2.2.2.2.2.2.2.2.1 u.2.2.2.2.2.2.2.2.2.1 u.2.2.2.2.2.2.2.2.2.2.1 u.2.2.2.2.2.2.2.2.2.2.2.1 u.2.2.2.2.2.2.2.2.2.2.2.2.1 v0_letter v0_letters v0_told v0_tolds v0_places v0_cell u.2.2.2.2.2.2.2.2.2.2.2.2.2.1 v0_imaged v0_hasImage u.2.2.2.2.2.2.2.2.2.2.2.2.2.2.1 u.2.2.2.2.2.2.2.2.2.2.2.2.2.2.2.1 u.2.2.2.2.2.2.2.2.2.2.2.2.2.2.2.2.1 u.2.2.2.2.2.2.2.2.2.2.2.2.2.2.2.2.2.1 v0_numberUp v0_numberDown v0_block v0_blocks v0_merged u.2.2.2.2.2.2.2.2.2.2.2.2.2.2.2.2.2.2.1 u.2.2.2.2.2.2.2.2.2.2.2.2.2.2.2.2.2.2.2 v0_said v0_saids v0_at v0_number) A) [.ref (a0 0), .int p1, .int p2, .int p3].toArray s 0 0 A) (F0 m 58 ls [])) (E := fun r28 => ∀ (H : Heap) (locs : List Loc) (ls : Array Slot), va_P g.1 vwCl (wX10 a0 g v0_papers r28.2.1 v0_kind v0_figure v0_heavy v0_place v0_rules v0_lower v0_upper v0_limits v0_limit v0_ties v0_letter v0_letters v0_told v0_tolds v0_places v0_cell v0_refusals v0_imaged v0_hasImage x2 r28.2.2.1 r28.2.2.2.1 r28.2.2.2.2.1 v0_numberUp v0_numberDown v0_block v0_blocks v0_merged r28.2.2.2.2.2.1 r28.2.2.2.2.2.2 v0_said v0_saids v0_at v0_number) H → va_D A (wX10 a0 g v0_papers r28.2.1 v0_kind v0_figure v0_heavy v0_place v0_rules v0_lower v0_upper v0_limits v0_limit v0_ties v0_letter v0_letters v0_told v0_tolds v0_places v0_cell v0_refusals v0_imaged v0_hasImage x2 r28.2.2.1 r28.2.2.2.1 r28.2.2.2.2.1 v0_numberUp v0_numberDown v0_block v0_blocks v0_merged r28.2.2.2.2.2.1 r28.2.2.2.2.2.2 v0_said v0_saids v0_at v0_number) → va_S A s.heap H locs → lv_has ls 8 [(0, .ref (a0 0)), (5, .int r28.1)] → W p l e { frames := 8, cells := 0, slots := 0, locals := 183 } s m [.ref (a0 0), .int p1, .int p2, .int p3].toArray below meth c H locs 0 0 (MQ below (Qi g .int (m_X10_lots (v0_papers, v0_raw, v0_kind, v0_figure, v0_heavy, v0_place, v0_rules, v0_lower, v0_upper, v0_limits, v0_limit, v0_ties, v0_letter, v0_letters, v0_told, v0_tolds, v0_places, v0_cell, v0_refusals, v0_imaged, v0_hasImage, v0_before, v0_up, v0_down, v0_beneath, v0_numberUp, v0_numberDown, v0_block, v0_blocks, v0_merged, v0_valueUp, v0_valueDown, v0_said, v0_saids, v0_at, v0_number) p1 p2 p3) (fun u => u.1) (fun u => wX10 a0 g u.2.1 u.2.2.1 u.2.2.2.1 u.2.2.2.2.1 u.2.2.2.2.2.1 u.2.2.2.2.2.2.1 u.2.2.2.2.2.2.2.1 u.2.2.2.2.2.2.2.2.1 u.2.2.2.2.2.2.2.2.2.1 u.2.2.2.2.2.2.2.2.2.2.1 u.2.2.2.2.2.2.2.2.2.2.2.1 u.2.2.2.2.2.2.2.2.2.2.2.2.1 v0_letter v0_letters v0_told v0_tolds v0_places v0_cell u.2.2.2.2.2.2.2.2.2.2.2.2.2.1 v0_imaged v0_hasImage u.2.2.2.2.2.2.2.2.2.2.2.2.2.2.1 u.2.2.2.2.2.2.2.2.2.2.2.2.2.2.2.1 u.2.2.2.2.2.2.2.2.2.2.2.2.2.2.2.2.1 u.2.2.2.2.2.2.2.2.2.2.2.2.2.2.2.2.2.1 v0_numberUp v0_numberDown v0_block v0_blocks v0_merged u.2.2.2.2.2.2.2.2.2.2.2.2.2.2.2.2.2.2.1 u.2.2.2.2.2.2.2.2.2.2.2.2.2.2.2.2.2.2.2 v0_said v0_saids v0_at v0_number) A) [.ref (a0 0), .int p1, .int p2, .int p3].toArray s 0 0 A) (F0 m 140 ls [])) ?_ fu _ r28 er28 ?_ _ _ _ hP hD hS (lv_sub hl [3, 4, 6, 2, 1, 0] rfl)
        · rintro ⟨x11, x12, x13, x14, x15, x16, x17, x18, x19⟩ y hf hB hXt H locs ls hP hD hS hl
          have hP : va_P g.1 vwCl (wX10 a0 g v0_papers x14 v0_kind v0_figure v0_heavy v0_place v0_rules v0_lower v0_upper v0_limits v0_limit v0_ties v0_letter v0_letters v0_told v0_tolds v0_places v0_cell v0_refusals v0_imaged v0_hasImage x2 x15 x16 x17 v0_numberUp v0_numberDown v0_block v0_blocks v0_merged x18 x19 v0_said v0_saids v0_at v0_number) H := hP
          have hD : va_D A (wX10 a0 g v0_papers x14 v0_kind v0_figure v0_heavy v0_place v0_rules v0_lower v0_upper v0_limits v0_limit v0_ties v0_letter v0_letters v0_told v0_tolds v0_places v0_cell v0_refusals v0_imaged v0_hasImage x2 x15 x16 x17 v0_numberUp v0_numberDown v0_block v0_blocks v0_merged x18 x19 v0_said v0_saids v0_at v0_number) := hD
          have hl : lv_has ls 8 [(0, .ref (a0 0)), (1, .int p1), (3, .int p3), (4, .int x11), (5, .int x12), (6, .int x13)] := hl
          have hf : m_X10_lots_l58 (v0_papers, v0_raw, v0_kind, v0_figure, v0_heavy, v0_place, v0_rules, v0_lower, v0_upper, v0_limits, v0_limit, v0_ties, v0_letter, v0_letters, v0_told, v0_tolds, v0_places, v0_cell, v0_refusals, v0_imaged, v0_hasImage, v0_before, v0_up, v0_down, v0_beneath, v0_numberUp, v0_numberDown, v0_block, v0_blocks, v0_merged, v0_valueUp, v0_valueDown, v0_said, v0_saids, v0_at, v0_number) p1 p3 x2 x11 x12 x13 x14 x15 x16 x17 x18 x19 = some y := hf
          unfold m_X10_lots_l58 at hf
          refine lv_iload hx hb dX10_lots_58 (lv_at hl 5 rfl) ?_
          refine lv_iload_n hx hb dX10_lots_60 rfl (lv_at hl 1 rfl) ?_
          refine lv_icmp_ge (tgt := 140) hx hb dX10_lots_61 (by decide) (fun cb => ?_) (fun cb => ?_)
          · have hf := it_t cb hf
            exact hXt _ (Option.some.inj hf).symm _ _ _ hP hD hS (lv_sub hl [0, 4] rfl)
          have hf := it_f cb hf
          refine lv_iconst (v := 0) hx hb dX10_lots_64 (by decide) ?_
          refine lv_istore (lv' := [(7, .int (0 : Int32)), (0, .ref (a0 0)), (1, .int p1), (3, .int p3), (4, .int x11), (5, .int x12), (6, .int x13)]) hx hb dX10_lots_65 hl (by decide) rfl (fun ls hl => ?_)
          obtain ⟨r25, er25, hf⟩ := bnd hf
          refine lp_W (P := fun z => ∀ (H : Heap) (locs : List Loc) (ls : Array Slot), va_P g.1 vwCl (wX10 a0 g v0_papers z.2.2 v0_kind v0_figure v0_heavy v0_place v0_rules v0_lower v0_upper v0_limits v0_limit v0_ties v0_letter v0_letters v0_told v0_tolds v0_places v0_cell v0_refusals v0_imaged v0_hasImage x2 x15 x16 x17 v0_numberUp v0_numberDown v0_block v0_blocks v0_merged x18 x19 v0_said v0_saids v0_at v0_number) H → va_D A (wX10 a0 g v0_papers z.2.2 v0_kind v0_figure v0_heavy v0_place v0_rules v0_lower v0_upper v0_limits v0_limit v0_ties v0_letter v0_letters v0_told v0_tolds v0_places v0_cell v0_refusals v0_imaged v0_hasImage x2 x15 x16 x17 v0_numberUp v0_numberDown v0_block v0_blocks v0_merged x18 x19 v0_said v0_saids v0_at v0_number) → va_S A s.heap H locs → lv_has ls 8 [(0, .ref (a0 0)), (1, .int p1), (3, .int p3), (4, .int z.1), (5, .int x12), (6, .int x13), (7, .int z.2.1)] → W p l e { frames := 8, cells := 0, slots := 0, locals := 183 } s m [.ref (a0 0), .int p1, .int p2, .int p3].toArray below meth c H locs 0 0 (MQ below (Qi g .int (m_X10_lots (v0_papers, v0_raw, v0_kind, v0_figure, v0_heavy, v0_place, v0_rules, v0_lower, v0_upper, v0_limits, v0_limit, v0_ties, v0_letter, v0_letters, v0_told, v0_tolds, v0_places, v0_cell, v0_refusals, v0_imaged, v0_hasImage, v0_before, v0_up, v0_down, v0_beneath, v0_numberUp, v0_numberDown, v0_block, v0_blocks, v0_merged, v0_valueUp, v0_valueDown, v0_said, v0_saids, v0_at, v0_number) p1 p2 p3) (fun u => u.1) (fun u => wX10 a0 g u.2.1 u.2.2.1 u.2.2.2.1 u.2.2.2.2.1 u.2.2.2.2.2.1 u.2.2.2.2.2.2.1 u.2.2.2.2.2.2.2.1 u.2.2.2.2.2.2.2.2.1 u.2.2.2.2.2.2.2.2.2.1 u.2.2.2.2.2.2.2.2.2.2.1 u.2.2.2.2.2.2.2.2.2.2.2.1 u.2.2.2.2.2.2.2.2.2.2.2.2.1 v0_letter v0_letters v0_told v0_tolds v0_places v0_cell u.2.2.2.2.2.2.2.2.2.2.2.2.2.1 v0_imaged v0_hasImage u.2.2.2.2.2.2.2.2.2.2.2.2.2.2.1 u.2.2.2.2.2.2.2.2.2.2.2.2.2.2.2.1 u.2.2.2.2.2.2.2.2.2.2.2.2.2.2.2.2.1 u.2.2.2.2.2.2.2.2.2.2.2.2.2.2.2.2.2.1 v0_numberUp v0_numberDown v0_block v0_blocks v0_merged u.2.2.2.2.2.2.2.2.2.2.2.2.2.2.2.2.2.2.1 u.2.2.2.2.2.2.2.2.2.2.2.2.2.2.2.2.2.2.2 v0_said v0_saids v0_at v0_number) A) [.ref (a0 0), .int p1, .int p2, .int p3].toArray s 0 0 A) (F0 m 67 ls [])) (E := fun r25 => ∀ (H : Heap) (locs : List Loc) (ls : Array Slot), va_P g.1 vwCl (wX10 a0 g v0_papers r25.2 v0_kind v0_figure v0_heavy v0_place v0_rules v0_lower v0_upper v0_limits v0_limit v0_ties v0_letter v0_letters v0_told v0_tolds v0_places v0_cell v0_refusals v0_imaged v0_hasImage x2 x15 x16 x17 v0_numberUp v0_numberDown v0_block v0_blocks v0_merged x18 x19 v0_said v0_saids v0_at v0_number) H → va_D A (wX10 a0 g v0_papers r25.2 v0_kind v0_figure v0_heavy v0_place v0_rules v0_lower v0_upper v0_limits v0_limit v0_ties v0_letter v0_letters v0_told v0_tolds v0_places v0_cell v0_refusals v0_imaged v0_hasImage x2 x15 x16 x17 v0_numberUp v0_numberDown v0_block v0_blocks v0_merged x18 x19 v0_said v0_saids v0_at v0_number) → va_S A s.heap H locs → lv_has ls 8 [(0, .ref (a0 0)), (1, .int p1), (3, .int p3), (4, .int r25.1), (5, .int x12), (6, .int x13)] → W p l e { frames := 8, cells := 0, slots := 0, locals := 183 } s m [.ref (a0 0), .int p1, .int p2, .int p3].toArray below meth c H locs 0 0 (MQ below (Qi g .int (m_X10_lots (v0_papers, v0_raw, v0_kind, v0_figure, v0_heavy, v0_place, v0_rules, v0_lower, v0_upper, v0_limits, v0_limit, v0_ties, v0_letter, v0_letters, v0_told, v0_tolds, v0_places, v0_cell, v0_refusals, v0_imaged, v0_hasImage, v0_before, v0_up, v0_down, v0_beneath, v0_numberUp, v0_numberDown, v0_block, v0_blocks, v0_merged, v0_valueUp, v0_valueDown, v0_said, v0_saids, v0_at, v0_number) p1 p2 p3) (fun u => u.1) (fun u => wX10 a0 g u.2.1 u.2.2.1 u.2.2.2.1 u.2.2.2.2.1 u.2.2.2.2.2.1 u.2.2.2.2.2.2.1 u.2.2.2.2.2.2.2.1 u.2.2.2.2.2.2.2.2.1 u.2.2.2.2.2.2.2.2.2.1 u.2.2.2.2.2.2.2.2.2.2.1 u.2.2.2.2.2.2.2.2.2.2.2.1 u.2.2.2.2.2.2.2.2.2.2.2.2.1 v0_letter v0_letters v0_told v0_tolds v0_places v0_cell u.2.2.2.2.2.2.2.2.2.2.2.2.2.1 v0_imaged v0_hasImage u.2.2.2.2.2.2.2.2.2.2.2.2.2.2.1 u.2.2.2.2.2.2.2.2.2.2.2.2.2.2.2.1 u.2.2.2.2.2.2.2.2.2.2.2.2.2.2.2.2.1 u.2.2.2.2.2.2.2.2.2.2.2.2.2.2.2.2.2.1 v0_numberUp v0_numberDown v0_block v0_blocks v0_merged u.2.2.2.2.2.2.2.2.2.2.2.2.2.2.2.2.2.2.1 u.2.2.2.2.2.2.2.2.2.2.2.2.2.2.2.2.2.2.2 v0_said v0_saids v0_at v0_number) A) [.ref (a0 0), .int p1, .int p2, .int p3].toArray s 0 0 A) (F0 m 114 ls [])) ?_ fu _ r25 er25 ?_ _ _ _ hP hD hS (lv_sub hl [1, 2, 3, 4, 5, 6, 0] rfl)
          · rintro ⟨x21, x22, x23⟩ y hf hB hXt H locs ls hP hD hS hl
            have hP : va_P g.1 vwCl (wX10 a0 g v0_papers x23 v0_kind v0_figure v0_heavy v0_place v0_rules v0_lower v0_upper v0_limits v0_limit v0_ties v0_letter v0_letters v0_told v0_tolds v0_places v0_cell v0_refusals v0_imaged v0_hasImage x2 x15 x16 x17 v0_numberUp v0_numberDown v0_block v0_blocks v0_merged x18 x19 v0_said v0_saids v0_at v0_number) H := hP
            have hD : va_D A (wX10 a0 g v0_papers x23 v0_kind v0_figure v0_heavy v0_place v0_rules v0_lower v0_upper v0_limits v0_limit v0_ties v0_letter v0_letters v0_told v0_tolds v0_places v0_cell v0_refusals v0_imaged v0_hasImage x2 x15 x16 x17 v0_numberUp v0_numberDown v0_block v0_blocks v0_merged x18 x19 v0_said v0_saids v0_at v0_number) := hD
            have hl : lv_has ls 8 [(0, .ref (a0 0)), (1, .int p1), (3, .int p3), (4, .int x21), (5, .int x12), (6, .int x13), (7, .int x22)] := hl
            have hf : m_X10_lots_l67_2 (v0_papers, v0_raw, v0_kind, v0_figure, v0_heavy, v0_place, v0_rules, v0_lower, v0_upper, v0_limits, v0_limit, v0_ties, v0_letter, v0_letters, v0_told, v0_tolds, v0_places, v0_cell, v0_refusals, v0_imaged, v0_hasImage, v0_before, v0_up, v0_down, v0_beneath, v0_numberUp, v0_numberDown, v0_block, v0_blocks, v0_merged, v0_valueUp, v0_valueDown, v0_said, v0_saids, v0_at, v0_number) x21 x22 x23 = some y := hf
            unfold m_X10_lots_l67_2 at hf
            refine lv_iload hx hb dX10_lots_67 (lv_at hl 6 rfl) ?_
            refine lv_aload_n hx hb dX10_lots_69 rfl (lv_at hl 0 rfl) ?_
            refine va_get (D := g.1) (ci := 11) (v := .int v0_papers) (C := RX10) (T := TX10) (N := 36) hx hb hts layX10 hown hK.1 hP 0 rfl rfl 0 (by decide) (hts _ kw1277) (fun _ h9 => h9) rfl dX10_lots_70 ?_
            refine lv_icmp_ge (tgt := 114) hx hb dX10_lots_73 (by decide) (fun cb => ?_) (fun cb => ?_)
            · have hf := it_t cb hf
              exact hXt _ (Option.some.inj hf).symm _ _ _ hP hD hS (lv_sub hl [0, 1, 2, 3, 4, 5] rfl)
            have hf := it_f cb hf
            refine lv_iload hx hb dX10_lots_76 (lv_at hl 3 rfl) ?_
            refine lv_ldcw hx hb hown (hts _ kw1671) dX10_lots_78 ?_
            refine lv_imul hx hb dX10_lots_81 ?_
            refine lv_ldcw hx hb hown (hts _ kw1672) dX10_lots_82 ?_
            refine lv_iadd hx hb dX10_lots_85 ?_
            obtain ⟨x24, ex24, hf⟩ := bnd hf
            refine nmI (Option.some.inj ex24) ?_
            refine lv_istore (lv' := [(4, .int x24), (0, .ref (a0 0)), (1, .int p1), (3, .int p3), (5, .int x12), (6, .int x13), (7, .int x22)]) hx hb dX10_lots_86 hl (by decide) rfl (fun ls hl => ?_)
            refine lv_aload_n hx hb dX10_lots_88 rfl (lv_at hl 1 rfl) ?_
            refine va_get (D := g.1) (ci := 11) (v := .ref (a0 1)) (C := RX10) (T := TX10) (N := 36) hx hb hts layX10 hown hK.1 hP 0 rfl rfl 1 (by decide) (hts _ kw1278) (fun _ h9 => h9) rfl dX10_lots_89 ?_
            refine lv_iload hx hb dX10_lots_92 (lv_at hl 6 rfl) ?_
            refine lv_iload hx hb dX10_lots_94 (lv_at hl 0 rfl) ?_
            refine lv_ldcw hx hb hown (hts _ kw1673) dX10_lots_96 ?_
            refine lv_iand hx hb dX10_lots_99 ?_
            refine lv_sipush (v := 256) hx hb dX10_lots_100 (by decide) ?_
            refine lv_idiv hx hb dX10_lots_103 (by decide) ?_
            refine lv_bipush (v := 100) hx hb dX10_lots_104 (by decide) ?_
            refine lv_irem hx hb dX10_lots_106 (by decide) ?_
            have hi := it_n hf
            have hf := it_t hi hf
            refine va_iast hx hb hK.1 hP hD hS 1 0 rfl rfl (inb_in hi) dX10_lots_107 (fun H locs hP hD hS => ?_)
            have hP : va_P g.1 vwCl (wX10 a0 g v0_papers (upd x23 x22.toNatClampNeg (((x24 &&& (2147483647 : Int32)) / (256 : Int32)) - ((x24 &&& (2147483647 : Int32)) / (256 : Int32)) / (100 : Int32) * (100 : Int32))) v0_kind v0_figure v0_heavy v0_place v0_rules v0_lower v0_upper v0_limits v0_limit v0_ties v0_letter v0_letters v0_told v0_tolds v0_places v0_cell v0_refusals v0_imaged v0_hasImage x2 x15 x16 x17 v0_numberUp v0_numberDown v0_block v0_blocks v0_merged x18 x19 v0_said v0_saids v0_at v0_number) H := hP
            have hD : va_D A (wX10 a0 g v0_papers (upd x23 x22.toNatClampNeg (((x24 &&& (2147483647 : Int32)) / (256 : Int32)) - ((x24 &&& (2147483647 : Int32)) / (256 : Int32)) / (100 : Int32) * (100 : Int32))) v0_kind v0_figure v0_heavy v0_place v0_rules v0_lower v0_upper v0_limits v0_limit v0_ties v0_letter v0_letters v0_told v0_tolds v0_places v0_cell v0_refusals v0_imaged v0_hasImage x2 x15 x16 x17 v0_numberUp v0_numberDown v0_block v0_blocks v0_merged x18 x19 v0_said v0_saids v0_at v0_number) := hD
            refine lv_iinc (v := (x22 + 1)) (lv' := [(7, .int (x22 + 1)), (4, .int x24), (0, .ref (a0 0)), (1, .int p1), (3, .int p3), (5, .int x12), (6, .int x13)]) hx hb dX10_lots_108 hl (k := 6) rfl (by rfl) (by decide) rfl (fun ls hl => ?_)
            refine lv_goto (tgt := 67) hx hb dX10_lots_111 (by decide) ?_
            exact hB _ (Option.some.inj hf).symm _ _ _ hP hD hS (lv_sub hl [2, 3, 4, 1, 5, 6, 0] rfl)
          intro H locs ls hP hD hS hl
          have hP : va_P g.1 vwCl (wX10 a0 g v0_papers r25.2 v0_kind v0_figure v0_heavy v0_place v0_rules v0_lower v0_upper v0_limits v0_limit v0_ties v0_letter v0_letters v0_told v0_tolds v0_places v0_cell v0_refusals v0_imaged v0_hasImage x2 x15 x16 x17 v0_numberUp v0_numberDown v0_block v0_blocks v0_merged x18 x19 v0_said v0_saids v0_at v0_number) H := hP
          have hD : va_D A (wX10 a0 g v0_papers r25.2 v0_kind v0_figure v0_heavy v0_place v0_rules v0_lower v0_upper v0_limits v0_limit v0_ties v0_letter v0_letters v0_told v0_tolds v0_places v0_cell v0_refusals v0_imaged v0_hasImage x2 x15 x16 x17 v0_numberUp v0_numberDown v0_block v0_blocks v0_merged x18 x19 v0_said v0_saids v0_at v0_number) := hD
          have hl : lv_has ls 8 [(0, .ref (a0 0)), (1, .int p1), (3, .int p3), (4, .int r25.1), (5, .int x12), (6, .int x13)] := hl
          refine lv_iload hx hb dX10_lots_114 (lv_at hl 4 rfl) ?_
          refine lv_iload_n hx hb dX10_lots_116 rfl (lv_at hl 2 rfl) ?_
          refine lv_if_ne (tgt := 127) hx hb dX10_lots_117 (by decide) (fun cb => ?_) (fun cb => ?_)
          · have hf := it_f cb hf
            refine lv_aload_n hx hb dX10_lots_127 rfl (lv_at hl 0 rfl) ?_
            refine cI hP hD hS hA hE (fun hPc hDc hSc => rV (As := []) (rest := [.int x12]) hx hb hml hown hts hK (c_X10_inPools l g a0 v0_papers r25.2 v0_kind v0_figure v0_heavy v0_place v0_rules v0_lower v0_upper v0_limits v0_limit v0_ties v0_letter v0_letters v0_told v0_tolds v0_places v0_cell v0_refusals v0_imaged v0_hasImage x2 x15 x16 x17 v0_numberUp v0_numberDown v0_block v0_blocks v0_merged x18 x19 v0_said v0_saids v0_at v0_number (bnd_ne hf)) svV_X10_inPools kw1674 rfl rfl hPc hDc hSc rfl rfl hl.1 (Nat.le_of_ble_eq_true rfl) dX10_lots_128 ⟨Nat.le_of_ble_eq_true rfl, Nat.le_of_ble_eq_true rfl, rfl, rfl, Nat.le_of_ble_eq_true rfl, Nat.le_of_ble_eq_true rfl⟩) [(0, 22)] rfl rfl rfl (fun _ => rfl) (fun x26 H locs ex26 nx26 hP hD hS => ?_)
            have hf := bnd_of hf ex26
            have hP : va_P g.1 vwCl (wX10 a0 g v0_papers r25.2 v0_kind v0_figure v0_heavy v0_place v0_rules v0_lower v0_upper v0_limits v0_limit v0_ties v0_letter v0_letters v0_told v0_tolds v0_places v0_cell v0_refusals v0_imaged v0_hasImage x2 x26.2.1 x26.2.2.1 x26.2.2.2.1 v0_numberUp v0_numberDown v0_block v0_blocks v0_merged x26.2.2.2.2.1 x26.2.2.2.2.2 v0_said v0_saids v0_at v0_number) H := hP
            have hD : va_D A (wX10 a0 g v0_papers r25.2 v0_kind v0_figure v0_heavy v0_place v0_rules v0_lower v0_upper v0_limits v0_limit v0_ties v0_letter v0_letters v0_told v0_tolds v0_places v0_cell v0_refusals v0_imaged v0_hasImage x2 x26.2.1 x26.2.2.1 x26.2.2.2.1 v0_numberUp v0_numberDown v0_block v0_blocks v0_merged x26.2.2.2.2.1 x26.2.2.2.2.2 v0_said v0_saids v0_at v0_number) := hD
            refine lv_iadd hx hb dX10_lots_131 ?_
            refine lv_istore (lv' := [(5, .int (x12 + x26.1)), (0, .ref (a0 0)), (1, .int p1), (3, .int p3), (4, .int r25.1), (6, .int x13)]) hx hb dX10_lots_132 hl (by decide) rfl (fun ls hl => ?_)
            refine lv_iinc (v := (x13 + 1)) (lv' := [(6, .int (x13 + 1)), (5, .int (x12 + x26.1)), (0, .ref (a0 0)), (1, .int p1), (3, .int p3), (4, .int r25.1)]) hx hb dX10_lots_134 hl (k := 5) rfl (by rfl) (by decide) rfl (fun ls hl => ?_)
            refine lv_goto (tgt := 58) hx hb dX10_lots_137 (by decide) ?_
            exact hB _ (Option.some.inj hf).symm _ _ _ hP hD hS (lv_sub hl [2, 3, 4, 5, 1, 0] rfl)
          have hf := it_t cb hf
          refine lv_aload_n hx hb dX10_lots_120 rfl (lv_at hl 0 rfl) ?_
          refine cI hP hD hS hA hE (fun hPc hDc hSc => rV (As := []) (rest := [.int x12]) hx hb hml hown hts hK (c_X10_pairMany l g a0 v0_papers r25.2 v0_kind v0_figure v0_heavy v0_place v0_rules v0_lower v0_upper v0_limits v0_limit v0_ties v0_letter v0_letters v0_told v0_tolds v0_places v0_cell v0_refusals v0_imaged v0_hasImage x2 x15 x16 x17 v0_numberUp v0_numberDown v0_block v0_blocks v0_merged x18 x19 v0_said v0_saids v0_at v0_number (bnd_ne hf)) svV_X10_pairMany kw1450 rfl rfl hPc hDc hSc rfl rfl hl.1 (Nat.le_of_ble_eq_true rfl) dX10_lots_121 ⟨Nat.le_of_ble_eq_true rfl, Nat.le_of_ble_eq_true rfl, rfl, rfl, Nat.le_of_ble_eq_true rfl, Nat.le_of_ble_eq_true rfl⟩) [(0, 22)] rfl rfl rfl (fun _ => rfl) (fun x27 H locs ex27 nx27 hP hD hS => ?_)
          have hf := bnd_of hf ex27
          have hP : va_P g.1 vwCl (wX10 a0 g v0_papers r25.2 v0_kind v0_figure v0_heavy v0_place v0_rules v0_lower v0_upper v0_limits v0_limit v0_ties v0_letter v0_letters v0_told v0_tolds v0_places v0_cell v0_refusals v0_imaged v0_hasImage x2 x15 x16 x27.2 v0_numberUp v0_numberDown v0_block v0_blocks v0_merged x18 x19 v0_said v0_saids v0_at v0_number) H := hP
          have hD : va_D A (wX10 a0 g v0_papers r25.2 v0_kind v0_figure v0_heavy v0_place v0_rules v0_lower v0_upper v0_limits v0_limit v0_ties v0_letter v0_letters v0_told v0_tolds v0_places v0_cell v0_refusals v0_imaged v0_hasImage x2 x15 x16 x27.2 v0_numberUp v0_numberDown v0_block v0_blocks v0_merged x18 x19 v0_said v0_saids v0_at v0_number) := hD
          refine lv_goto (tgt := 131) hx hb dX10_lots_124 (by decide) ?_
          refine lv_iadd hx hb dX10_lots_131 ?_
          refine lv_istore (lv' := [(5, .int (x12 + x27.1)), (0, .ref (a0 0)), (1, .int p1), (3, .int p3), (4, .int r25.1), (6, .int x13)]) hx hb dX10_lots_132 hl (by decide) rfl (fun ls hl => ?_)
          refine lv_iinc (v := (x13 + 1)) (lv' := [(6, .int (x13 + 1)), (5, .int (x12 + x27.1)), (0, .ref (a0 0)), (1, .int p1), (3, .int p3), (4, .int r25.1)]) hx hb dX10_lots_134 hl (k := 5) rfl (by rfl) (by decide) rfl (fun ls hl => ?_)
          refine lv_goto (tgt := 58) hx hb dX10_lots_137 (by decide) ?_
          exact hB _ (Option.some.inj hf).symm _ _ _ hP hD hS (lv_sub hl [2, 3, 4, 5, 1, 0] rfl)
        intro H locs ls hP hD hS hl
        have hP : va_P g.1 vwCl (wX10 a0 g v0_papers r28.2.1 v0_kind v0_figure v0_heavy v0_place v0_rules v0_lower v0_upper v0_limits v0_limit v0_ties v0_letter v0_letters v0_told v0_tolds v0_places v0_cell v0_refusals v0_imaged v0_hasImage x2 r28.2.2.1 r28.2.2.2.1 r28.2.2.2.2.1 v0_numberUp v0_numberDown v0_block v0_blocks v0_merged r28.2.2.2.2.2.1 r28.2.2.2.2.2.2 v0_said v0_saids v0_at v0_number) H := hP
        have hD : va_D A (wX10 a0 g v0_papers r28.2.1 v0_kind v0_figure v0_heavy v0_place v0_rules v0_lower v0_upper v0_limits v0_limit v0_ties v0_letter v0_letters v0_told v0_tolds v0_places v0_cell v0_refusals v0_imaged v0_hasImage x2 r28.2.2.1 r28.2.2.2.1 r28.2.2.2.2.1 v0_numberUp v0_numberDown v0_block v0_blocks v0_merged r28.2.2.2.2.2.1 r28.2.2.2.2.2.2 v0_said v0_saids v0_at v0_number) := hD
        have hl : lv_has ls 8 [(0, .ref (a0 0)), (5, .int r28.1)] := hl
        refine lv_aload_n hx hb dX10_lots_140 rfl (lv_at hl 0 rfl) ?_
        refine lv_aload_n hx hb dX10_lots_141 rfl (lv_at hl 0 rfl) ?_
        refine va_get (D := g.1) (ci := 11) (v := .ref (a0 15)) (C := RX10) (T := TX10) (N := 36) hx hb hts layX10 hown hK.1 hP 0 rfl rfl 21 (by decide) (hts _ kw1298) (fun _ h9 => h9) rfl dX10_lots_142 ?_
        refine cV hP hD hS hA hE (fun hPc hDc hSc => rV (As := [.ref (a0 15)]) (rest := []) hx hb hml hown hts hK (c_X10_again_0_0_15 l g a0 v0_papers r28.2.1 v0_kind v0_figure v0_heavy v0_place v0_rules v0_lower v0_upper v0_limits v0_limit v0_ties v0_letter v0_letters v0_told v0_tolds v0_places v0_cell v0_refusals v0_imaged v0_hasImage x2 r28.2.2.1 r28.2.2.2.1 r28.2.2.2.2.1 v0_numberUp v0_numberDown v0_block v0_blocks v0_merged r28.2.2.2.2.2.1 r28.2.2.2.2.2.2 v0_said v0_saids v0_at v0_number (bnd_ne hf)) svV_X10_again kw1677 rfl rfl hPc hDc hSc rfl rfl hl.1 (Nat.le_of_ble_eq_true rfl) dX10_lots_145 ⟨Nat.le_of_ble_eq_true rfl, Nat.le_of_ble_eq_true rfl, rfl, rfl, Nat.le_of_ble_eq_true rfl, Nat.le_of_ble_eq_true rfl⟩) [(0, 22)] rfl rfl rfl (fun _ => rfl) (fun x29 H locs ex29 hP hD hS => ?_)
        have hf := bnd_of hf ex29
        have hP : va_P g.1 vwCl (wX10 a0 g x29.1 x29.2.1 x29.2.2.1 x29.2.2.2.1 x29.2.2.2.2.1 x29.2.2.2.2.2.1 x29.2.2.2.2.2.2.1 x29.2.2.2.2.2.2.2.1 x29.2.2.2.2.2.2.2.2.1 x29.2.2.2.2.2.2.2.2.2.1 x29.2.2.2.2.2.2.2.2.2.2.1 x29.2.2.2.2.2.2.2.2.2.2.2 v0_letter v0_letters v0_told v0_tolds v0_places v0_cell v0_refusals v0_imaged v0_hasImage x2 r28.2.2.1 r28.2.2.2.1 r28.2.2.2.2.1 v0_numberUp v0_numberDown v0_block v0_blocks v0_merged r28.2.2.2.2.2.1 r28.2.2.2.2.2.2 v0_said v0_saids v0_at v0_number) H := hP
        have hD : va_D A (wX10 a0 g x29.1 x29.2.1 x29.2.2.1 x29.2.2.2.1 x29.2.2.2.2.1 x29.2.2.2.2.2.1 x29.2.2.2.2.2.2.1 x29.2.2.2.2.2.2.2.1 x29.2.2.2.2.2.2.2.2.1 x29.2.2.2.2.2.2.2.2.2.1 x29.2.2.2.2.2.2.2.2.2.2.1 x29.2.2.2.2.2.2.2.2.2.2.2 v0_letter v0_letters v0_told v0_tolds v0_places v0_cell v0_refusals v0_imaged v0_hasImage x2 r28.2.2.1 r28.2.2.2.1 r28.2.2.2.2.1 v0_numberUp v0_numberDown v0_block v0_blocks v0_merged r28.2.2.2.2.2.1 r28.2.2.2.2.2.2 v0_said v0_saids v0_at v0_number) := hD
        refine lv_iload hx hb dX10_lots_148 (lv_at hl 1 rfl) ?_
        exact retI (v := r28.1) (u := (r28.1, x29.1, x29.2.1, x29.2.2.1, x29.2.2.2.1, x29.2.2.2.2.1, x29.2.2.2.2.2.1, x29.2.2.2.2.2.2.1, x29.2.2.2.2.2.2.2.1, x29.2.2.2.2.2.2.2.2.1, x29.2.2.2.2.2.2.2.2.2.1, x29.2.2.2.2.2.2.2.2.2.2.1, x29.2.2.2.2.2.2.2.2.2.2.2, v0_refusals, x2, r28.2.2.1, r28.2.2.2.1, r28.2.2.2.2.1, r28.2.2.2.2.2.1, r28.2.2.2.2.2.2)) (val := fun u => u.1) (W1 := fun u => wX10 a0 g u.2.1 u.2.2.1 u.2.2.2.1 u.2.2.2.2.1 u.2.2.2.2.2.1 u.2.2.2.2.2.2.1 u.2.2.2.2.2.2.2.1 u.2.2.2.2.2.2.2.2.1 u.2.2.2.2.2.2.2.2.2.1 u.2.2.2.2.2.2.2.2.2.2.1 u.2.2.2.2.2.2.2.2.2.2.2.1 u.2.2.2.2.2.2.2.2.2.2.2.2.1 v0_letter v0_letters v0_told v0_tolds v0_places v0_cell u.2.2.2.2.2.2.2.2.2.2.2.2.2.1 v0_imaged v0_hasImage u.2.2.2.2.2.2.2.2.2.2.2.2.2.2.1 u.2.2.2.2.2.2.2.2.2.2.2.2.2.2.2.1 u.2.2.2.2.2.2.2.2.2.2.2.2.2.2.2.2.1 u.2.2.2.2.2.2.2.2.2.2.2.2.2.2.2.2.2.1 v0_numberUp v0_numberDown v0_block v0_blocks v0_merged u.2.2.2.2.2.2.2.2.2.2.2.2.2.2.2.2.2.2.1 u.2.2.2.2.2.2.2.2.2.2.2.2.2.2.2.2.2.2.2 v0_said v0_saids v0_at v0_number) hx hb hr hlocks hS hP hD (hf0.trans hf.symm) rfl rfl dX10_lots_150
      have hf := it_t cb hf
      refine lv_aload_n hx hb dX10_lots_34 rfl (lv_at hl 0 rfl) ?_
      refine lv_bipush (v := (-2)) hx hb dX10_lots_35 (by decide) ?_
      refine cI hP hD hS hA hE (fun hPc hDc hSc => rV (As := [.int (-2 : Int32)]) (rest := []) hx hb hml hown hts hK (c_X10_no l g a0 v0_papers v0_raw v0_kind v0_figure v0_heavy v0_place v0_rules v0_lower v0_upper v0_limits v0_limit v0_ties v0_letter v0_letters v0_told v0_tolds v0_places v0_cell v0_refusals v0_imaged v0_hasImage v0_before v0_up v0_down v0_beneath v0_numberUp v0_numberDown v0_block v0_blocks v0_merged v0_valueUp v0_valueDown v0_said v0_saids v0_at v0_number (-2 : Int32) (bnd_ne hf)) svV_X10_no kw1354 rfl rfl hPc hDc hSc rfl rfl hl.1 (Nat.le_of_ble_eq_true rfl) dX10_lots_37 ⟨Nat.le_of_ble_eq_true rfl, Nat.le_of_ble_eq_true rfl, rfl, rfl, Nat.le_of_ble_eq_true rfl, Nat.le_of_ble_eq_true rfl⟩) [(0, 22)] rfl rfl rfl (fun _ => rfl) (fun x30 H locs ex30 nx30 hP hD hS => ?_)
      have hf := bnd_of hf ex30
      have hP : va_P g.1 vwCl (wX10 a0 g v0_papers v0_raw v0_kind v0_figure v0_heavy v0_place v0_rules v0_lower v0_upper v0_limits v0_limit v0_ties v0_letter v0_letters v0_told v0_tolds v0_places v0_cell x30.2 v0_imaged v0_hasImage v0_before v0_up v0_down v0_beneath v0_numberUp v0_numberDown v0_block v0_blocks v0_merged v0_valueUp v0_valueDown v0_said v0_saids v0_at v0_number) H := hP
      have hD : va_D A (wX10 a0 g v0_papers v0_raw v0_kind v0_figure v0_heavy v0_place v0_rules v0_lower v0_upper v0_limits v0_limit v0_ties v0_letter v0_letters v0_told v0_tolds v0_places v0_cell x30.2 v0_imaged v0_hasImage v0_before v0_up v0_down v0_beneath v0_numberUp v0_numberDown v0_block v0_blocks v0_merged v0_valueUp v0_valueDown v0_said v0_saids v0_at v0_number) := hD
      exact retI (v := x30.1) (u := (x30.1, v0_papers, v0_raw, v0_kind, v0_figure, v0_heavy, v0_place, v0_rules, v0_lower, v0_upper, v0_limits, v0_limit, v0_ties, x30.2, v0_before, v0_up, v0_down, v0_beneath, v0_valueUp, v0_valueDown)) (val := fun u => u.1) (W1 := fun u => wX10 a0 g u.2.1 u.2.2.1 u.2.2.2.1 u.2.2.2.2.1 u.2.2.2.2.2.1 u.2.2.2.2.2.2.1 u.2.2.2.2.2.2.2.1 u.2.2.2.2.2.2.2.2.1 u.2.2.2.2.2.2.2.2.2.1 u.2.2.2.2.2.2.2.2.2.2.1 u.2.2.2.2.2.2.2.2.2.2.2.1 u.2.2.2.2.2.2.2.2.2.2.2.2.1 v0_letter v0_letters v0_told v0_tolds v0_places v0_cell u.2.2.2.2.2.2.2.2.2.2.2.2.2.1 v0_imaged v0_hasImage u.2.2.2.2.2.2.2.2.2.2.2.2.2.2.1 u.2.2.2.2.2.2.2.2.2.2.2.2.2.2.2.1 u.2.2.2.2.2.2.2.2.2.2.2.2.2.2.2.2.1 u.2.2.2.2.2.2.2.2.2.2.2.2.2.2.2.2.2.1 v0_numberUp v0_numberDown v0_block v0_blocks v0_merged u.2.2.2.2.2.2.2.2.2.2.2.2.2.2.2.2.2.2.1 u.2.2.2.2.2.2.2.2.2.2.2.2.2.2.2.2.2.2.2 v0_said v0_saids v0_at v0_number) hx hb hr hlocks hS hP hD (hf0.trans hf.symm) rfl rfl dX10_lots_40
    have hf := it_f cb hf
    refine lv_aload_n hx hb dX10_lots_18 rfl (lv_at hl 0 rfl) ?_
    refine lv_bipush (v := (-6)) hx hb dX10_lots_19 (by decide) ?_
    refine cI hP hD hS hA hE (fun hPc hDc hSc => rV (As := [.int (-6 : Int32)]) (rest := []) hx hb hml hown hts hK (c_X10_no l g a0 v0_papers v0_raw v0_kind v0_figure v0_heavy v0_place v0_rules v0_lower v0_upper v0_limits v0_limit v0_ties v0_letter v0_letters v0_told v0_tolds v0_places v0_cell v0_refusals v0_imaged v0_hasImage v0_before v0_up v0_down v0_beneath v0_numberUp v0_numberDown v0_block v0_blocks v0_merged v0_valueUp v0_valueDown v0_said v0_saids v0_at v0_number (-6 : Int32) (bnd_ne hf)) svV_X10_no kw1354 rfl rfl hPc hDc hSc rfl rfl hl.1 (Nat.le_of_ble_eq_true rfl) dX10_lots_21 ⟨Nat.le_of_ble_eq_true rfl, Nat.le_of_ble_eq_true rfl, rfl, rfl, Nat.le_of_ble_eq_true rfl, Nat.le_of_ble_eq_true rfl⟩) [(0, 22)] rfl rfl rfl (fun _ => rfl) (fun x31 H locs ex31 nx31 hP hD hS => ?_)
    have hf := bnd_of hf ex31
    have hP : va_P g.1 vwCl (wX10 a0 g v0_papers v0_raw v0_kind v0_figure v0_heavy v0_place v0_rules v0_lower v0_upper v0_limits v0_limit v0_ties v0_letter v0_letters v0_told v0_tolds v0_places v0_cell x31.2 v0_imaged v0_hasImage v0_before v0_up v0_down v0_beneath v0_numberUp v0_numberDown v0_block v0_blocks v0_merged v0_valueUp v0_valueDown v0_said v0_saids v0_at v0_number) H := hP
    have hD : va_D A (wX10 a0 g v0_papers v0_raw v0_kind v0_figure v0_heavy v0_place v0_rules v0_lower v0_upper v0_limits v0_limit v0_ties v0_letter v0_letters v0_told v0_tolds v0_places v0_cell x31.2 v0_imaged v0_hasImage v0_before v0_up v0_down v0_beneath v0_numberUp v0_numberDown v0_block v0_blocks v0_merged v0_valueUp v0_valueDown v0_said v0_saids v0_at v0_number) := hD
    exact retI (v := x31.1) (u := (x31.1, v0_papers, v0_raw, v0_kind, v0_figure, v0_heavy, v0_place, v0_rules, v0_lower, v0_upper, v0_limits, v0_limit, v0_ties, x31.2, v0_before, v0_up, v0_down, v0_beneath, v0_valueUp, v0_valueDown)) (val := fun u => u.1) (W1 := fun u => wX10 a0 g u.2.1 u.2.2.1 u.2.2.2.1 u.2.2.2.2.1 u.2.2.2.2.2.1 u.2.2.2.2.2.2.1 u.2.2.2.2.2.2.2.1 u.2.2.2.2.2.2.2.2.1 u.2.2.2.2.2.2.2.2.2.1 u.2.2.2.2.2.2.2.2.2.2.1 u.2.2.2.2.2.2.2.2.2.2.2.1 u.2.2.2.2.2.2.2.2.2.2.2.2.1 v0_letter v0_letters v0_told v0_tolds v0_places v0_cell u.2.2.2.2.2.2.2.2.2.2.2.2.2.1 v0_imaged v0_hasImage u.2.2.2.2.2.2.2.2.2.2.2.2.2.2.1 u.2.2.2.2.2.2.2.2.2.2.2.2.2.2.2.1 u.2.2.2.2.2.2.2.2.2.2.2.2.2.2.2.2.1 u.2.2.2.2.2.2.2.2.2.2.2.2.2.2.2.2.2.1 v0_numberUp v0_numberDown v0_block v0_blocks v0_merged u.2.2.2.2.2.2.2.2.2.2.2.2.2.2.2.2.2.2.1 u.2.2.2.2.2.2.2.2.2.2.2.2.2.2.2.2.2.2.2 v0_said v0_saids v0_at v0_number) hx hb hr hlocks hS hP hD (hf0.trans hf.symm) rfl rfl dX10_lots_24
  have hf := it_f cb hf
  refine lv_aload_n hx hb dX10_lots_5 rfl (lv_at hl 0 rfl) ?_
  refine lv_bipush (v := (-4)) hx hb dX10_lots_6 (by decide) ?_
  refine cI hP hD hS hA hE (fun hPc hDc hSc => rV (As := [.int (-4 : Int32)]) (rest := []) hx hb hml hown hts hK (c_X10_no l g a0 v0_papers v0_raw v0_kind v0_figure v0_heavy v0_place v0_rules v0_lower v0_upper v0_limits v0_limit v0_ties v0_letter v0_letters v0_told v0_tolds v0_places v0_cell v0_refusals v0_imaged v0_hasImage v0_before v0_up v0_down v0_beneath v0_numberUp v0_numberDown v0_block v0_blocks v0_merged v0_valueUp v0_valueDown v0_said v0_saids v0_at v0_number (-4 : Int32) (bnd_ne hf)) svV_X10_no kw1354 rfl rfl hPc hDc hSc rfl rfl hl.1 (Nat.le_of_ble_eq_true rfl) dX10_lots_8 ⟨Nat.le_of_ble_eq_true rfl, Nat.le_of_ble_eq_true rfl, rfl, rfl, Nat.le_of_ble_eq_true rfl, Nat.le_of_ble_eq_true rfl⟩) [(0, 22)] rfl rfl rfl (fun _ => rfl) (fun x32 H locs ex32 nx32 hP hD hS => ?_)
  have hf := bnd_of hf ex32
  have hP : va_P g.1 vwCl (wX10 a0 g v0_papers v0_raw v0_kind v0_figure v0_heavy v0_place v0_rules v0_lower v0_upper v0_limits v0_limit v0_ties v0_letter v0_letters v0_told v0_tolds v0_places v0_cell x32.2 v0_imaged v0_hasImage v0_before v0_up v0_down v0_beneath v0_numberUp v0_numberDown v0_block v0_blocks v0_merged v0_valueUp v0_valueDown v0_said v0_saids v0_at v0_number) H := hP
  have hD : va_D A (wX10 a0 g v0_papers v0_raw v0_kind v0_figure v0_heavy v0_place v0_rules v0_lower v0_upper v0_limits v0_limit v0_ties v0_letter v0_letters v0_told v0_tolds v0_places v0_cell x32.2 v0_imaged v0_hasImage v0_before v0_up v0_down v0_beneath v0_numberUp v0_numberDown v0_block v0_blocks v0_merged v0_valueUp v0_valueDown v0_said v0_saids v0_at v0_number) := hD
  exact retI (v := x32.1) (u := (x32.1, v0_papers, v0_raw, v0_kind, v0_figure, v0_heavy, v0_place, v0_rules, v0_lower, v0_upper, v0_limits, v0_limit, v0_ties, x32.2, v0_before, v0_up, v0_down, v0_beneath, v0_valueUp, v0_valueDown)) (val := fun u => u.1) (W1 := fun u => wX10 a0 g u.2.1 u.2.2.1 u.2.2.2.1 u.2.2.2.2.1 u.2.2.2.2.2.1 u.2.2.2.2.2.2.1 u.2.2.2.2.2.2.2.1 u.2.2.2.2.2.2.2.2.1 u.2.2.2.2.2.2.2.2.2.1 u.2.2.2.2.2.2.2.2.2.2.1 u.2.2.2.2.2.2.2.2.2.2.2.1 u.2.2.2.2.2.2.2.2.2.2.2.2.1 v0_letter v0_letters v0_told v0_tolds v0_places v0_cell u.2.2.2.2.2.2.2.2.2.2.2.2.2.1 v0_imaged v0_hasImage u.2.2.2.2.2.2.2.2.2.2.2.2.2.2.1 u.2.2.2.2.2.2.2.2.2.2.2.2.2.2.2.1 u.2.2.2.2.2.2.2.2.2.2.2.2.2.2.2.2.1 u.2.2.2.2.2.2.2.2.2.2.2.2.2.2.2.2.2.1 v0_numberUp v0_numberDown v0_block v0_blocks v0_merged u.2.2.2.2.2.2.2.2.2.2.2.2.2.2.2.2.2.2.1 u.2.2.2.2.2.2.2.2.2.2.2.2.2.2.2.2.2.2.2 v0_said v0_saids v0_at v0_number) hx hb hr hlocks hS hP hD (hf0.trans hf.symm) rfl rfl dX10_lots_11
set_option maxHeartbeats 4000000 in
set_option maxRecDepth 100000 in
theorem c_X10_isShelf (l : Launch) (g : GG) (p0 : Int32) (hne : (m_X10_isShelf p0) ≠ none) : Ct l g yX10_isShelf cX10_isShelf 1 (some .boolean) ({ frames := 1, cells := 0, slots := 0, locals := 22 } : Room) [.int p0] (([] : va_W)) (Qi g .boolean (m_X10_isShelf p0) (fun u => u) (fun u => ([] : va_W))) 0 0 := by
  obtain ⟨out, hf⟩ := ne_ex hne
  have hf0 := hf
  refine Ct.of (own := RX10) (by decide +kernel) rfl (Nat.le_of_ble_eq_true rfl) ?_
  intro p e s m below meth c hx hb hr hml hown hts hlocks hin hK A H locs hA hP hD hS hE ls hl
  have hl : lv_has ls 1 [(0, .int p0)] := hl
  unfold m_X10_isShelf at hf
  refine lv_iload_n hx hb dX10_isShelf_0 rfl (lv_at hl 0 rfl) ?_
  refine lv_iconst (v := 0) hx hb dX10_isShelf_1 (by decide) ?_
  refine lv_iconst (v := 3) hx hb dX10_isShelf_2 (by decide) ?_
  refine cIp hP hD hS hA hE (fun hPc hDc hSc => rS (As := [.int p0, .int (0 : Int32), .int (3 : Int32)]) (rest := []) hx hb hml hown hts hK (c_X10_in l g p0 (0 : Int32) (3 : Int32) (bnd_ne hf)) svS_X10_in kw1364 hPc hDc hSc rfl rfl hl.1 (Nat.le_of_ble_eq_true rfl) dX10_isShelf_3 ⟨Nat.le_of_ble_eq_true rfl, Nat.le_of_ble_eq_true rfl, rfl, rfl, Nat.le_of_ble_eq_true rfl, Nat.le_of_ble_eq_true rfl⟩) [] rfl rfl rfl (fun x1 H locs ex1 nx1 hP hS => ?_)
  have hf := bnd_of hf ex1
  exact retI (v := x1) (u := x1) (val := fun u => u) (W1 := fun u => ([] : va_W)) hx hb hr hlocks hS hP hD (hf0.trans hf.symm) rfl nx1 dX10_isShelf_6
