theorem svV_X9_needs : SV RX9 yX9_needs cX9_needs 5 (some .int) 3 := ⟨kw942, kw943, kw1, kw944, rfl, by decide, by decide, by decide +kernel⟩
theorem svV_X10_needs : SV RX10 yX10_needs cX10_needs 7 (some .int) 3 := ⟨kw1619, kw1620, kw16, kw1621, rfl, by decide, by decide, by decide +kernel⟩
theorem svV_X9_likely : SV RX9 yX9_likely cX9_likely 6 (some .long) 4 := ⟨kw949, kw950, kw1, kw951, rfl, by decide, by decide, by decide +kernel⟩
theorem svV_X10_likely : SV RX10 yX10_likely cX10_likely 14 (some .long) 4 := ⟨kw1623, kw1624, kw16, kw1625, rfl, by decide, by decide, by decide +kernel⟩
theorem svV_X9_says : SV RX9 yX9_says cX9_says 3 (some .int) 2 := ⟨kw965, kw966, kw1, kw967, rfl, by decide, by decide, by decide +kernel⟩
theorem svV_X10_says : SV RX10 yX10_says cX10_says 3 (some .int) 2 := ⟨kw1627, kw1628, kw16, kw1629, rfl, by decide, by decide, by decide +kernel⟩
theorem svV_X9_whatIs : SV RX9 yX9_whatIs cX9_whatIs 3 (some .int) 2 := ⟨kw1141, kw1142, kw1, kw1143, rfl, by decide, by decide, by decide +kernel⟩
theorem svV_X10_whatIs : SV RX10 yX10_whatIs cX10_whatIs 5 (some .int) 2 := ⟨kw1650, kw1651, kw16, kw1652, rfl, by decide, by decide, by decide +kernel⟩
theorem svV_X9_row : SV RX9 yX9_row cX9_row 2 (some .int) 1 := ⟨kw1155, kw1156, kw1, kw1157, rfl, by decide, by decide, by decide +kernel⟩
theorem svV_X10_row : SV RX10 yX10_row cX10_row 2 (some .int) 1 := ⟨kw1657, kw1658, kw16, kw1659, rfl, by decide, by decide, by decide +kernel⟩
theorem svV_X9_clear : SV RX9 yX9_clear cX9_clear 2 (some .int) 0 := ⟨kw1159, kw1160, kw1, kw1161, rfl, by decide, by decide, by decide +kernel⟩
theorem svV_X10_clear : SV RX10 yX10_clear cX10_clear 2 (some .int) 0 := ⟨kw1661, kw1662, kw16, kw1663, rfl, by decide, by decide, by decide +kernel⟩
theorem svV_X9_lots : SV RX9 yX9_lots cX9_lots 4 (some .int) 3 := ⟨kw1163, kw1164, kw1, kw1165, rfl, by decide, by decide, by decide +kernel⟩
theorem svV_X10_lots : SV RX10 yX10_lots cX10_lots 8 (some .int) 3 := ⟨kw1665, kw1666, kw16, kw1667, rfl, by decide, by decide, by decide +kernel⟩
theorem svV_X9_shelf : SV RX9 yX9_shelf cX9_shelf 3 (some .int) 2 := ⟨kw1182, kw1183, kw1, kw1184, rfl, by decide, by decide, by decide +kernel⟩
theorem svV_X10_shelf : SV RX10 yX10_shelf cX10_shelf 4 (some .int) 2 := ⟨kw1681, kw1682, kw16, kw1683, rfl, by decide, by decide, by decide +kernel⟩
theorem svV_X9_put : SV RX9 yX9_put cX9_put 5 (some .int) 3 := ⟨kw1199, kw1200, kw1, kw1201, rfl, by decide, by decide, by decide +kernel⟩
theorem svV_X10_put : SV RX10 yX10_put cX10_put 5 (some .int) 3 := ⟨kw1688, kw1689, kw16, kw1690, rfl, by decide, by decide, by decide +kernel⟩
theorem dL_law_1022 : decode cL_law 1022 = .ok (.aload_n 1, 1) := by decide +kernel
theorem dL_law_1023 : decode cL_law 1023 = .ok (.aload_n 0, 1) := by decide +kernel
theorem dL_law_1024 : decode cL_law 1024 = .ok (.iload_n 3, 1) := by decide +kernel
theorem dL_law_1025 : decode cL_law 1025 = .ok (.iconst 1, 1) := by decide +kernel
theorem dL_law_1026 : decode cL_law 1026 = .ok (.iadd, 1) := by decide +kernel
theorem dL_law_1027 : decode cL_law 1027 = .ok (.iaload, 1) := by decide +kernel
theorem dL_law_1028 : decode cL_law 1028 = .ok (.aload_n 0, 1) := by decide +kernel
theorem dL_law_1029 : decode cL_law 1029 = .ok (.iload_n 3, 1) := by decide +kernel
theorem dL_law_1030 : decode cL_law 1030 = .ok (.iconst 2, 1) := by decide +kernel
theorem dL_law_1031 : decode cL_law 1031 = .ok (.iadd, 1) := by decide +kernel
theorem dL_law_1032 : decode cL_law 1032 = .ok (.iaload, 1) := by decide +kernel
theorem dL_law_1033 : decode cL_law 1033 = .ok (.aload_n 0, 1) := by decide +kernel
theorem dL_law_1034 : decode cL_law 1034 = .ok (.iload_n 3, 1) := by decide +kernel
theorem dL_law_1035 : decode cL_law 1035 = .ok (.iconst 3, 1) := by decide +kernel
theorem dL_law_1036 : decode cL_law 1036 = .ok (.iadd, 1) := by decide +kernel
theorem dL_law_1037 : decode cL_law 1037 = .ok (.iaload, 1) := by decide +kernel
theorem dL_law_1038 : decode cL_law 1038 = .ok (.invokevirtual 127, 3) := by decide +kernel
theorem dL_law_1041 : decode cL_law 1041 = .ok (.aload_n 2, 1) := by decide +kernel
theorem dL_law_1042 : decode cL_law 1042 = .ok (.aload_n 0, 1) := by decide +kernel
theorem dL_law_1043 : decode cL_law 1043 = .ok (.iload_n 3, 1) := by decide +kernel
theorem dL_law_1044 : decode cL_law 1044 = .ok (.iconst 1, 1) := by decide +kernel
theorem dL_law_1045 : decode cL_law 1045 = .ok (.iadd, 1) := by decide +kernel
theorem dL_law_1046 : decode cL_law 1046 = .ok (.iaload, 1) := by decide +kernel
theorem dL_law_1047 : decode cL_law 1047 = .ok (.aload_n 0, 1) := by decide +kernel
theorem dL_law_1048 : decode cL_law 1048 = .ok (.iload_n 3, 1) := by decide +kernel
theorem dL_law_1049 : decode cL_law 1049 = .ok (.iconst 2, 1) := by decide +kernel
theorem dL_law_1050 : decode cL_law 1050 = .ok (.iadd, 1) := by decide +kernel
theorem dL_law_1051 : decode cL_law 1051 = .ok (.iaload, 1) := by decide +kernel
theorem dL_law_1052 : decode cL_law 1052 = .ok (.aload_n 0, 1) := by decide +kernel
theorem dL_law_1053 : decode cL_law 1053 = .ok (.iload_n 3, 1) := by decide +kernel
theorem dL_law_1054 : decode cL_law 1054 = .ok (.iconst 3, 1) := by decide +kernel
theorem dL_law_1055 : decode cL_law 1055 = .ok (.iadd, 1) := by decide +kernel
theorem dL_law_1056 : decode cL_law 1056 = .ok (.iaload, 1) := by decide +kernel
theorem dL_law_1057 : decode cL_law 1057 = .ok (.invokevirtual 130, 3) := by decide +kernel
theorem dL_law_1060 : decode cL_law 1060 = .ok (.if_icmp .eq 469, 3) := by decide +kernel
theorem dL_law_1065 : decode cL_law 1065 = .ok (.aload_n 1, 1) := by decide +kernel
theorem dL_law_1066 : decode cL_law 1066 = .ok (.aload_n 0, 1) := by decide +kernel
theorem dL_law_1067 : decode cL_law 1067 = .ok (.iload_n 3, 1) := by decide +kernel
theorem dL_law_1068 : decode cL_law 1068 = .ok (.iconst 1, 1) := by decide +kernel
theorem dL_law_1069 : decode cL_law 1069 = .ok (.iadd, 1) := by decide +kernel
theorem dL_law_1070 : decode cL_law 1070 = .ok (.iaload, 1) := by decide +kernel
theorem dL_law_1071 : decode cL_law 1071 = .ok (.aload_n 0, 1) := by decide +kernel
theorem dL_law_1072 : decode cL_law 1072 = .ok (.iload_n 3, 1) := by decide +kernel
theorem dL_law_1073 : decode cL_law 1073 = .ok (.iconst 2, 1) := by decide +kernel
theorem dL_law_1074 : decode cL_law 1074 = .ok (.iadd, 1) := by decide +kernel
theorem dL_law_1075 : decode cL_law 1075 = .ok (.iaload, 1) := by decide +kernel
theorem dL_law_1076 : decode cL_law 1076 = .ok (.aload_n 0, 1) := by decide +kernel
theorem dL_law_1077 : decode cL_law 1077 = .ok (.iload_n 3, 1) := by decide +kernel
theorem dL_law_1078 : decode cL_law 1078 = .ok (.iconst 3, 1) := by decide +kernel
theorem dL_law_1079 : decode cL_law 1079 = .ok (.iadd, 1) := by decide +kernel
theorem dL_law_1080 : decode cL_law 1080 = .ok (.iaload, 1) := by decide +kernel
theorem dL_law_1081 : decode cL_law 1081 = .ok (.aload_n 0, 1) := by decide +kernel
theorem dL_law_1082 : decode cL_law 1082 = .ok (.iload_n 3, 1) := by decide +kernel
theorem dL_law_1083 : decode cL_law 1083 = .ok (.iconst 4, 1) := by decide +kernel
theorem dL_law_1084 : decode cL_law 1084 = .ok (.iadd, 1) := by decide +kernel
theorem dL_law_1085 : decode cL_law 1085 = .ok (.iaload, 1) := by decide +kernel
theorem dL_law_1086 : decode cL_law 1086 = .ok (.invokevirtual 131, 3) := by decide +kernel
theorem dL_law_1089 : decode cL_law 1089 = .ok (.aload_n 2, 1) := by decide +kernel
theorem dL_law_1090 : decode cL_law 1090 = .ok (.aload_n 0, 1) := by decide +kernel
theorem dL_law_1091 : decode cL_law 1091 = .ok (.iload_n 3, 1) := by decide +kernel
theorem dL_law_1092 : decode cL_law 1092 = .ok (.iconst 1, 1) := by decide +kernel
theorem dL_law_1093 : decode cL_law 1093 = .ok (.iadd, 1) := by decide +kernel
theorem dL_law_1094 : decode cL_law 1094 = .ok (.iaload, 1) := by decide +kernel
theorem dL_law_1095 : decode cL_law 1095 = .ok (.aload_n 0, 1) := by decide +kernel
theorem dL_law_1096 : decode cL_law 1096 = .ok (.iload_n 3, 1) := by decide +kernel
theorem dL_law_1097 : decode cL_law 1097 = .ok (.iconst 2, 1) := by decide +kernel
theorem dL_law_1098 : decode cL_law 1098 = .ok (.iadd, 1) := by decide +kernel
theorem dL_law_1099 : decode cL_law 1099 = .ok (.iaload, 1) := by decide +kernel
theorem dL_law_1100 : decode cL_law 1100 = .ok (.aload_n 0, 1) := by decide +kernel
theorem dL_law_1101 : decode cL_law 1101 = .ok (.iload_n 3, 1) := by decide +kernel
theorem dL_law_1102 : decode cL_law 1102 = .ok (.iconst 3, 1) := by decide +kernel
theorem dL_law_1103 : decode cL_law 1103 = .ok (.iadd, 1) := by decide +kernel
theorem dL_law_1104 : decode cL_law 1104 = .ok (.iaload, 1) := by decide +kernel
theorem dL_law_1105 : decode cL_law 1105 = .ok (.aload_n 0, 1) := by decide +kernel
theorem dL_law_1106 : decode cL_law 1106 = .ok (.iload_n 3, 1) := by decide +kernel
theorem dL_law_1107 : decode cL_law 1107 = .ok (.iconst 4, 1) := by decide +kernel
theorem dL_law_1108 : decode cL_law 1108 = .ok (.iadd, 1) := by decide +kernel
theorem dL_law_1109 : decode cL_law 1109 = .ok (.iaload, 1) := by decide +kernel
theorem dL_law_1110 : decode cL_law 1110 = .ok (.invokevirtual 135, 3) := by decide +kernel
theorem dL_law_1113 : decode cL_law 1113 = .ok (.lcmp, 1) := by decide +kernel
theorem dL_law_1114 : decode cL_law 1114 = .ok (.ifCond .eq 415, 3) := by decide +kernel
theorem dL_law_1119 : decode cL_law 1119 = .ok (.aload_n 1, 1) := by decide +kernel
theorem dL_law_1120 : decode cL_law 1120 = .ok (.aload_n 0, 1) := by decide +kernel
theorem dL_law_1121 : decode cL_law 1121 = .ok (.iload_n 3, 1) := by decide +kernel
theorem dL_law_1122 : decode cL_law 1122 = .ok (.iconst 1, 1) := by decide +kernel
theorem dL_law_1123 : decode cL_law 1123 = .ok (.iadd, 1) := by decide +kernel
theorem dL_law_1124 : decode cL_law 1124 = .ok (.iaload, 1) := by decide +kernel
theorem dL_law_1125 : decode cL_law 1125 = .ok (.aload_n 0, 1) := by decide +kernel
theorem dL_law_1126 : decode cL_law 1126 = .ok (.iload_n 3, 1) := by decide +kernel
theorem dL_law_1127 : decode cL_law 1127 = .ok (.iconst 2, 1) := by decide +kernel
theorem dL_law_1128 : decode cL_law 1128 = .ok (.iadd, 1) := by decide +kernel
theorem dL_law_1129 : decode cL_law 1129 = .ok (.iaload, 1) := by decide +kernel
theorem dL_law_1130 : decode cL_law 1130 = .ok (.invokevirtual 136, 3) := by decide +kernel
theorem dL_law_1133 : decode cL_law 1133 = .ok (.aload_n 2, 1) := by decide +kernel
theorem dL_law_1134 : decode cL_law 1134 = .ok (.aload_n 0, 1) := by decide +kernel
theorem dL_law_1135 : decode cL_law 1135 = .ok (.iload_n 3, 1) := by decide +kernel
theorem dL_law_1136 : decode cL_law 1136 = .ok (.iconst 1, 1) := by decide +kernel
theorem dL_law_1137 : decode cL_law 1137 = .ok (.iadd, 1) := by decide +kernel
theorem dL_law_1138 : decode cL_law 1138 = .ok (.iaload, 1) := by decide +kernel
theorem dL_law_1139 : decode cL_law 1139 = .ok (.aload_n 0, 1) := by decide +kernel
theorem dL_law_1140 : decode cL_law 1140 = .ok (.iload_n 3, 1) := by decide +kernel
theorem dL_law_1141 : decode cL_law 1141 = .ok (.iconst 2, 1) := by decide +kernel
theorem dL_law_1142 : decode cL_law 1142 = .ok (.iadd, 1) := by decide +kernel
theorem dL_law_1143 : decode cL_law 1143 = .ok (.iaload, 1) := by decide +kernel
theorem dL_law_1144 : decode cL_law 1144 = .ok (.invokevirtual 139, 3) := by decide +kernel
theorem dL_law_1147 : decode cL_law 1147 = .ok (.if_icmp .eq 382, 3) := by decide +kernel
theorem dL_law_1152 : decode cL_law 1152 = .ok (.aload_n 1, 1) := by decide +kernel
theorem dL_law_1153 : decode cL_law 1153 = .ok (.aload_n 0, 1) := by decide +kernel
theorem dL_law_1154 : decode cL_law 1154 = .ok (.iload_n 3, 1) := by decide +kernel
theorem dL_law_1155 : decode cL_law 1155 = .ok (.iconst 1, 1) := by decide +kernel
theorem dL_law_1156 : decode cL_law 1156 = .ok (.iadd, 1) := by decide +kernel
theorem dL_law_1157 : decode cL_law 1157 = .ok (.iaload, 1) := by decide +kernel
theorem dL_law_1158 : decode cL_law 1158 = .ok (.aload_n 0, 1) := by decide +kernel
theorem dL_law_1159 : decode cL_law 1159 = .ok (.iload_n 3, 1) := by decide +kernel
theorem dL_law_1160 : decode cL_law 1160 = .ok (.iconst 2, 1) := by decide +kernel
theorem dL_law_1161 : decode cL_law 1161 = .ok (.iadd, 1) := by decide +kernel
theorem dL_law_1162 : decode cL_law 1162 = .ok (.iaload, 1) := by decide +kernel
theorem dL_law_1163 : decode cL_law 1163 = .ok (.invokevirtual 140, 3) := by decide +kernel
theorem dL_law_1166 : decode cL_law 1166 = .ok (.aload_n 2, 1) := by decide +kernel
theorem dL_law_1167 : decode cL_law 1167 = .ok (.aload_n 0, 1) := by decide +kernel
theorem dL_law_1168 : decode cL_law 1168 = .ok (.iload_n 3, 1) := by decide +kernel
theorem dL_law_1169 : decode cL_law 1169 = .ok (.iconst 1, 1) := by decide +kernel
theorem dL_law_1170 : decode cL_law 1170 = .ok (.iadd, 1) := by decide +kernel
theorem dL_law_1171 : decode cL_law 1171 = .ok (.iaload, 1) := by decide +kernel
theorem dL_law_1172 : decode cL_law 1172 = .ok (.aload_n 0, 1) := by decide +kernel
theorem dL_law_1173 : decode cL_law 1173 = .ok (.iload_n 3, 1) := by decide +kernel
theorem dL_law_1174 : decode cL_law 1174 = .ok (.iconst 2, 1) := by decide +kernel
theorem dL_law_1175 : decode cL_law 1175 = .ok (.iadd, 1) := by decide +kernel
theorem dL_law_1176 : decode cL_law 1176 = .ok (.iaload, 1) := by decide +kernel
theorem dL_law_1177 : decode cL_law 1177 = .ok (.invokevirtual 143, 3) := by decide +kernel
theorem dL_law_1180 : decode cL_law 1180 = .ok (.if_icmp .eq 349, 3) := by decide +kernel
theorem dL_law_1185 : decode cL_law 1185 = .ok (.aload_n 1, 1) := by decide +kernel
theorem dL_law_1186 : decode cL_law 1186 = .ok (.aload_n 0, 1) := by decide +kernel
theorem dL_law_1187 : decode cL_law 1187 = .ok (.iload_n 3, 1) := by decide +kernel
theorem dL_law_1188 : decode cL_law 1188 = .ok (.iconst 1, 1) := by decide +kernel
theorem dL_law_1189 : decode cL_law 1189 = .ok (.iadd, 1) := by decide +kernel
theorem dL_law_1190 : decode cL_law 1190 = .ok (.iaload, 1) := by decide +kernel
theorem dL_law_1191 : decode cL_law 1191 = .ok (.invokevirtual 144, 3) := by decide +kernel
theorem dL_law_1194 : decode cL_law 1194 = .ok (.aload_n 2, 1) := by decide +kernel
theorem dL_law_1195 : decode cL_law 1195 = .ok (.aload_n 0, 1) := by decide +kernel
theorem dL_law_1196 : decode cL_law 1196 = .ok (.iload_n 3, 1) := by decide +kernel
theorem dL_law_1197 : decode cL_law 1197 = .ok (.iconst 1, 1) := by decide +kernel
theorem dL_law_1198 : decode cL_law 1198 = .ok (.iadd, 1) := by decide +kernel
theorem dL_law_1199 : decode cL_law 1199 = .ok (.iaload, 1) := by decide +kernel
theorem dL_law_1200 : decode cL_law 1200 = .ok (.invokevirtual 147, 3) := by decide +kernel
theorem dL_law_1203 : decode cL_law 1203 = .ok (.if_icmp .eq 326, 3) := by decide +kernel
theorem dL_law_1208 : decode cL_law 1208 = .ok (.aload_n 1, 1) := by decide +kernel
theorem dL_law_1209 : decode cL_law 1209 = .ok (.invokevirtual 148, 3) := by decide +kernel
theorem dL_law_1212 : decode cL_law 1212 = .ok (.aload_n 2, 1) := by decide +kernel
theorem dL_law_1213 : decode cL_law 1213 = .ok (.invokevirtual 151, 3) := by decide +kernel
theorem dL_law_1216 : decode cL_law 1216 = .ok (.if_icmp .eq 313, 3) := by decide +kernel
theorem dL_law_1221 : decode cL_law 1221 = .ok (.aload_n 1, 1) := by decide +kernel
theorem dL_law_1222 : decode cL_law 1222 = .ok (.aload_n 0, 1) := by decide +kernel
theorem dL_law_1223 : decode cL_law 1223 = .ok (.iload_n 3, 1) := by decide +kernel
theorem dL_law_1224 : decode cL_law 1224 = .ok (.iconst 1, 1) := by decide +kernel
theorem dL_law_1225 : decode cL_law 1225 = .ok (.iadd, 1) := by decide +kernel
theorem dL_law_1226 : decode cL_law 1226 = .ok (.iaload, 1) := by decide +kernel
theorem dL_law_1227 : decode cL_law 1227 = .ok (.aload_n 0, 1) := by decide +kernel
theorem dL_law_1228 : decode cL_law 1228 = .ok (.iload_n 3, 1) := by decide +kernel
theorem dL_law_1229 : decode cL_law 1229 = .ok (.iconst 2, 1) := by decide +kernel
theorem dL_law_1230 : decode cL_law 1230 = .ok (.iadd, 1) := by decide +kernel
theorem dL_law_1231 : decode cL_law 1231 = .ok (.iaload, 1) := by decide +kernel
theorem dL_law_1232 : decode cL_law 1232 = .ok (.aload_n 0, 1) := by decide +kernel
theorem dL_law_1233 : decode cL_law 1233 = .ok (.iload_n 3, 1) := by decide +kernel
theorem dL_law_1234 : decode cL_law 1234 = .ok (.iconst 3, 1) := by decide +kernel
theorem dL_law_1235 : decode cL_law 1235 = .ok (.iadd, 1) := by decide +kernel
theorem dL_law_1236 : decode cL_law 1236 = .ok (.iaload, 1) := by decide +kernel
theorem dL_law_1237 : decode cL_law 1237 = .ok (.invokevirtual 152, 3) := by decide +kernel
theorem dL_law_1240 : decode cL_law 1240 = .ok (.aload_n 2, 1) := by decide +kernel
theorem dL_law_1241 : decode cL_law 1241 = .ok (.aload_n 0, 1) := by decide +kernel
theorem dL_law_1242 : decode cL_law 1242 = .ok (.iload_n 3, 1) := by decide +kernel
theorem dL_law_1243 : decode cL_law 1243 = .ok (.iconst 1, 1) := by decide +kernel
theorem dL_law_1244 : decode cL_law 1244 = .ok (.iadd, 1) := by decide +kernel
theorem dL_law_1245 : decode cL_law 1245 = .ok (.iaload, 1) := by decide +kernel
theorem dL_law_1246 : decode cL_law 1246 = .ok (.aload_n 0, 1) := by decide +kernel
theorem dL_law_1247 : decode cL_law 1247 = .ok (.iload_n 3, 1) := by decide +kernel
theorem dL_law_1248 : decode cL_law 1248 = .ok (.iconst 2, 1) := by decide +kernel
theorem dL_law_1249 : decode cL_law 1249 = .ok (.iadd, 1) := by decide +kernel
theorem dL_law_1250 : decode cL_law 1250 = .ok (.iaload, 1) := by decide +kernel
theorem dL_law_1251 : decode cL_law 1251 = .ok (.aload_n 0, 1) := by decide +kernel
theorem dL_law_1252 : decode cL_law 1252 = .ok (.iload_n 3, 1) := by decide +kernel
theorem dL_law_1253 : decode cL_law 1253 = .ok (.iconst 3, 1) := by decide +kernel
theorem dL_law_1254 : decode cL_law 1254 = .ok (.iadd, 1) := by decide +kernel
theorem dL_law_1255 : decode cL_law 1255 = .ok (.iaload, 1) := by decide +kernel
theorem dL_law_1256 : decode cL_law 1256 = .ok (.invokevirtual 155, 3) := by decide +kernel
theorem dL_law_1259 : decode cL_law 1259 = .ok (.if_icmp .eq 270, 3) := by decide +kernel
theorem dL_law_1264 : decode cL_law 1264 = .ok (.aload_n 1, 1) := by decide +kernel
theorem dL_law_1265 : decode cL_law 1265 = .ok (.aload_n 0, 1) := by decide +kernel
theorem dL_law_1266 : decode cL_law 1266 = .ok (.iload_n 3, 1) := by decide +kernel
theorem dL_law_1267 : decode cL_law 1267 = .ok (.iconst 1, 1) := by decide +kernel
theorem dL_law_1268 : decode cL_law 1268 = .ok (.iadd, 1) := by decide +kernel
theorem dL_law_1269 : decode cL_law 1269 = .ok (.iaload, 1) := by decide +kernel
theorem dL_law_1270 : decode cL_law 1270 = .ok (.aload_n 0, 1) := by decide +kernel
theorem dL_law_1271 : decode cL_law 1271 = .ok (.iload_n 3, 1) := by decide +kernel
theorem dL_law_1272 : decode cL_law 1272 = .ok (.iconst 2, 1) := by decide +kernel
theorem dL_law_1273 : decode cL_law 1273 = .ok (.iadd, 1) := by decide +kernel
theorem dL_law_1274 : decode cL_law 1274 = .ok (.iaload, 1) := by decide +kernel
theorem dL_law_1275 : decode cL_law 1275 = .ok (.invokevirtual 156, 3) := by decide +kernel
theorem dL_law_1278 : decode cL_law 1278 = .ok (.aload_n 2, 1) := by decide +kernel
theorem dL_law_1279 : decode cL_law 1279 = .ok (.aload_n 0, 1) := by decide +kernel
theorem dL_law_1280 : decode cL_law 1280 = .ok (.iload_n 3, 1) := by decide +kernel
theorem dL_law_1281 : decode cL_law 1281 = .ok (.iconst 1, 1) := by decide +kernel
theorem dL_law_1282 : decode cL_law 1282 = .ok (.iadd, 1) := by decide +kernel
theorem dL_law_1283 : decode cL_law 1283 = .ok (.iaload, 1) := by decide +kernel
theorem dL_law_1284 : decode cL_law 1284 = .ok (.aload_n 0, 1) := by decide +kernel
theorem dL_law_1285 : decode cL_law 1285 = .ok (.iload_n 3, 1) := by decide +kernel
theorem dL_law_1286 : decode cL_law 1286 = .ok (.iconst 2, 1) := by decide +kernel
theorem dL_law_1287 : decode cL_law 1287 = .ok (.iadd, 1) := by decide +kernel
theorem dL_law_1288 : decode cL_law 1288 = .ok (.iaload, 1) := by decide +kernel
theorem dL_law_1289 : decode cL_law 1289 = .ok (.invokevirtual 159, 3) := by decide +kernel
theorem dL_law_1292 : decode cL_law 1292 = .ok (.if_icmp .eq 237, 3) := by decide +kernel
theorem dL_law_1297 : decode cL_law 1297 = .ok (.aload_n 1, 1) := by decide +kernel
theorem dL_law_1298 : decode cL_law 1298 = .ok (.aload_n 0, 1) := by decide +kernel
theorem dL_law_1299 : decode cL_law 1299 = .ok (.iload_n 3, 1) := by decide +kernel
theorem dL_law_1300 : decode cL_law 1300 = .ok (.iconst 1, 1) := by decide +kernel
theorem dL_law_1301 : decode cL_law 1301 = .ok (.iadd, 1) := by decide +kernel
theorem dL_law_1302 : decode cL_law 1302 = .ok (.iaload, 1) := by decide +kernel
theorem dL_law_1303 : decode cL_law 1303 = .ok (.aload_n 0, 1) := by decide +kernel
theorem dL_law_1304 : decode cL_law 1304 = .ok (.iload_n 3, 1) := by decide +kernel
theorem dL_law_1305 : decode cL_law 1305 = .ok (.iconst 2, 1) := by decide +kernel
theorem dL_law_1306 : decode cL_law 1306 = .ok (.iadd, 1) := by decide +kernel
theorem dL_law_1307 : decode cL_law 1307 = .ok (.iaload, 1) := by decide +kernel
theorem dL_law_1308 : decode cL_law 1308 = .ok (.aload_n 0, 1) := by decide +kernel
theorem dL_law_1309 : decode cL_law 1309 = .ok (.iload_n 3, 1) := by decide +kernel
theorem dL_law_1310 : decode cL_law 1310 = .ok (.iconst 3, 1) := by decide +kernel
theorem dL_law_1311 : decode cL_law 1311 = .ok (.iadd, 1) := by decide +kernel
theorem dL_law_1312 : decode cL_law 1312 = .ok (.iaload, 1) := by decide +kernel
theorem dL_law_1313 : decode cL_law 1313 = .ok (.i2l, 1) := by decide +kernel
theorem dL_law_1314 : decode cL_law 1314 = .ok (.bipush 32, 2) := by decide +kernel
theorem dL_law_1316 : decode cL_law 1316 = .ok (.lshl, 1) := by decide +kernel
theorem dL_law_1317 : decode cL_law 1317 = .ok (.aload_n 0, 1) := by decide +kernel
theorem dL_law_1318 : decode cL_law 1318 = .ok (.iload_n 3, 1) := by decide +kernel
theorem dL_law_1319 : decode cL_law 1319 = .ok (.iconst 4, 1) := by decide +kernel
theorem dL_law_1320 : decode cL_law 1320 = .ok (.iadd, 1) := by decide +kernel
theorem dL_law_1321 : decode cL_law 1321 = .ok (.iaload, 1) := by decide +kernel
theorem dL_law_1322 : decode cL_law 1322 = .ok (.i2l, 1) := by decide +kernel
theorem dL_law_1323 : decode cL_law 1323 = .ok (.ldc2_w 160, 3) := by decide +kernel
theorem dL_law_1326 : decode cL_law 1326 = .ok (.land, 1) := by decide +kernel
theorem dL_law_1327 : decode cL_law 1327 = .ok (.lor, 1) := by decide +kernel
theorem dL_law_1328 : decode cL_law 1328 = .ok (.invokevirtual 162, 3) := by decide +kernel
theorem dL_law_1331 : decode cL_law 1331 = .ok (.aload_n 2, 1) := by decide +kernel
theorem dL_law_1332 : decode cL_law 1332 = .ok (.aload_n 0, 1) := by decide +kernel
theorem dL_law_1333 : decode cL_law 1333 = .ok (.iload_n 3, 1) := by decide +kernel
theorem dL_law_1334 : decode cL_law 1334 = .ok (.iconst 1, 1) := by decide +kernel
theorem dL_law_1335 : decode cL_law 1335 = .ok (.iadd, 1) := by decide +kernel
theorem dL_law_1336 : decode cL_law 1336 = .ok (.iaload, 1) := by decide +kernel
theorem dL_law_1337 : decode cL_law 1337 = .ok (.aload_n 0, 1) := by decide +kernel
theorem dL_law_1338 : decode cL_law 1338 = .ok (.iload_n 3, 1) := by decide +kernel
theorem dL_law_1339 : decode cL_law 1339 = .ok (.iconst 2, 1) := by decide +kernel
theorem dL_law_1340 : decode cL_law 1340 = .ok (.iadd, 1) := by decide +kernel
theorem dL_law_1341 : decode cL_law 1341 = .ok (.iaload, 1) := by decide +kernel
theorem dL_law_1342 : decode cL_law 1342 = .ok (.aload_n 0, 1) := by decide +kernel
theorem dL_law_1343 : decode cL_law 1343 = .ok (.iload_n 3, 1) := by decide +kernel
theorem dL_law_1344 : decode cL_law 1344 = .ok (.iconst 3, 1) := by decide +kernel
theorem dL_law_1345 : decode cL_law 1345 = .ok (.iadd, 1) := by decide +kernel
theorem dL_law_1346 : decode cL_law 1346 = .ok (.iaload, 1) := by decide +kernel
theorem dL_law_1347 : decode cL_law 1347 = .ok (.i2l, 1) := by decide +kernel
theorem dL_law_1348 : decode cL_law 1348 = .ok (.bipush 32, 2) := by decide +kernel
theorem dL_law_1350 : decode cL_law 1350 = .ok (.lshl, 1) := by decide +kernel
theorem dL_law_1351 : decode cL_law 1351 = .ok (.aload_n 0, 1) := by decide +kernel
theorem dL_law_1352 : decode cL_law 1352 = .ok (.iload_n 3, 1) := by decide +kernel
theorem dL_law_1353 : decode cL_law 1353 = .ok (.iconst 4, 1) := by decide +kernel
theorem dL_law_1354 : decode cL_law 1354 = .ok (.iadd, 1) := by decide +kernel
theorem dL_law_1355 : decode cL_law 1355 = .ok (.iaload, 1) := by decide +kernel
theorem dL_law_1356 : decode cL_law 1356 = .ok (.i2l, 1) := by decide +kernel
theorem dL_law_1357 : decode cL_law 1357 = .ok (.ldc2_w 160, 3) := by decide +kernel
theorem dL_law_1360 : decode cL_law 1360 = .ok (.land, 1) := by decide +kernel
theorem dL_law_1361 : decode cL_law 1361 = .ok (.lor, 1) := by decide +kernel
theorem dL_law_1362 : decode cL_law 1362 = .ok (.invokevirtual 166, 3) := by decide +kernel
theorem dL_law_1365 : decode cL_law 1365 = .ok (.if_icmp .eq 164, 3) := by decide +kernel
/-- needs -/
abbrev OP_needs (Rel : T9 → T10 → Prop) : Prop := ∀ (s9 : T9) (s10 : T10) (p1 p2 p3 : Int32), Rel s9 s10 → ∃ u v, m_X9_needs s9 p1 p2 p3 = some u ∧ m_X10_needs s10 p1 p2 p3 = some v ∧ u.1 = v.1 ∧ Rel (st_X9_needs s9 u) (st_X10_needs s10 v)
set_option maxHeartbeats 4000000 in
set_option maxRecDepth 100000 in
theorem law_needs {p : Program} {e : Env} {s : State} {m : MethodId} {below : List Frame} {meth : Method} {c : Code} (l : Launch) (g : GG) (Rel : T9 → T10 → Prop) (hop : OP_needs Rel) {b L : Nat} {xs : Nat → Int32} (hL : L ≤ 2560) (hx : p.tables.exec = Jvm.exec) (hb : c.code = code) (hml : c.maxLocals = 4) (hown : s.vm.findClass RL = some m.cls) (hts : ∀ w ∈ G, w.before #[Value.ref b] s = true) (hX : va_X b L xs s s.heap) (hbl : b < s.heap.size) (hK : NK g s) (hE : SK g (fun q : Nat => s.heap.size ≤ q) s s.heap) (a0 a1 : Nat → Nat) (i : Nat) (hi : i + 5 ≤ L) (s9 : T9) (s10 : T10) (hR : Rel s9 s10) {H : Heap} {locs : List Loc} {ls : Array Slot} {cells slots : Nat} (hcl0 : cells + 24 ≤ 600000) (hsl0 : slots + 7200 ≤ 7302250) (hP : va_P g.1 vwCl (w9s a0 g s9 ++ w10s a1 g s10) H) (hD : va_D (fun q : Nat => s.heap.size ≤ q) (w9s a0 g s9 ++ w10s a1 g s10)) (hS : va_S (fun q : Nat => s.heap.size ≤ q) s.heap H locs) (hl : lv_has ls 4 [(3, .int (nI i)), (0, .ref b), (1, .ref (a0 0)), (2, .ref (a1 0))])
    (kk : ∀ (s9 : T9) (s10 : T10) (H : Heap) (locs : List Loc), Rel s9 s10 → va_P g.1 vwCl (w9s a0 g s9 ++ w10s a1 g s10) H → va_D (fun q : Nat => s.heap.size ≤ q) (w9s a0 g s9 ++ w10s a1 g s10) → va_S (fun q : Nat => s.heap.size ≤ q) s.heap H locs → W p l e room_1 s m #[Value.ref b] below meth c H locs (cells + 24) (slots + 7200) (lw_Z below #[Value.ref b] s) (F0 m 1529 ls [])) :
    W p l e room_1 s m #[Value.ref b] below meth c H locs cells slots (lw_Z below #[Value.ref b] s) (F0 m 1022 ls []) := by
  have hA : ∀ q : Nat, s.heap.size ≤ q → (fun q : Nat => s.heap.size ≤ q) q := fun _ h => h
  have hbA : ¬ (fun q : Nat => s.heap.size ≤ q) b := Nat.not_le.mpr hbl
  have hcl : cells + 0 ≤ room_1.cells := by show cells + 0 ≤ 600000; omega
  have hsl : slots + 0 ≤ room_1.slots := by show slots + 0 ≤ 7302250; omega
  obtain ⟨u, v, hu, hv, he, hR⟩ := hop s9 s10 (xs (i + 1)) (xs (i + 2)) (xs (i + 3)) hR
  refine lv_aload_n hx hb dL_law_1022 rfl (lv_at hl 2 rfl) ?_
  refine lv_aload_n hx hb dL_law_1023 rfl (lv_at hl 1 rfl) ?_
  refine lv_iload_n hx hb dL_law_1024 rfl (lv_at hl 0 rfl) ?_
  refine lv_iconst (v := 1) hx hb dL_law_1025 (by decide) ?_
  refine lv_iadd hx hb dL_law_1026 ?_
  refine nmI (nI_p i 1 (by decide)) ?_
  refine va_sld hx hb hX hbl hbA hS (vp_in_nI (show i + 1 < L by omega) (by omega)) dL_law_1027 ?_
  refine nmI (z := xs (i + 1)) (by rw [nI_clamp (by omega)]) ?_
  refine lv_aload_n hx hb dL_law_1028 rfl (lv_at hl 1 rfl) ?_
  refine lv_iload_n hx hb dL_law_1029 rfl (lv_at hl 0 rfl) ?_
  refine lv_iconst (v := 2) hx hb dL_law_1030 (by decide) ?_
  refine lv_iadd hx hb dL_law_1031 ?_
  refine nmI (nI_p i 2 (by decide)) ?_
  refine va_sld hx hb hX hbl hbA hS (vp_in_nI (show i + 2 < L by omega) (by omega)) dL_law_1032 ?_
  refine nmI (z := xs (i + 2)) (by rw [nI_clamp (by omega)]) ?_
  refine lv_aload_n hx hb dL_law_1033 rfl (lv_at hl 1 rfl) ?_
  refine lv_iload_n hx hb dL_law_1034 rfl (lv_at hl 0 rfl) ?_
  refine lv_iconst (v := 3) hx hb dL_law_1035 (by decide) ?_
  refine lv_iadd hx hb dL_law_1036 ?_
  refine nmI (nI_p i 3 (by decide)) ?_
  refine va_sld hx hb hX hbl hbA hS (vp_in_nI (show i + 3 < L by omega) (by omega)) dL_law_1037 ?_
  refine nmI (z := xs (i + 3)) (by rw [nI_clamp (by omega)]) ?_
  refine cI hP hD hS hA hE (fun hPc hDc hSc => rV (As := [.int (xs (i + 1)), .int (xs (i + 2)), .int (xs (i + 3))]) (rest := []) hx hb hml hown hts hK (c_X9_needs l g a0 (p6_raws (p9_now s9)) (p6_kinds (p9_now s9)) (p6_figures (p9_now s9)) (p6_heavies (p9_now s9)) (p6_places (p9_now s9)) (p6_papers (p9_now s9)) (p6_lowers (p9_now s9)) (p6_uppers (p9_now s9)) (p6_rules (p9_now s9)) (p6_bounds (p9_now s9)) (p6_boundCount (p9_now s9)) (p6_tieWay (p9_now s9)) (p6_reached (p9_now s9)) (p6_raws (p9_kept s9)) (p6_kinds (p9_kept s9)) (p6_figures (p9_kept s9)) (p6_heavies (p9_kept s9)) (p6_places (p9_kept s9)) (p6_papers (p9_kept s9)) (p6_lowers (p9_kept s9)) (p6_uppers (p9_kept s9)) (p6_rules (p9_kept s9)) (p6_bounds (p9_kept s9)) (p6_boundCount (p9_kept s9)) (p6_tieWay (p9_kept s9)) (p6_reached (p9_kept s9)) (p6_raws (p9_spare s9)) (p6_kinds (p9_spare s9)) (p6_figures (p9_spare s9)) (p6_heavies (p9_spare s9)) (p6_places (p9_spare s9)) (p6_papers (p9_spare s9)) (p6_lowers (p9_spare s9)) (p6_uppers (p9_spare s9)) (p6_rules (p9_spare s9)) (p6_bounds (p9_spare s9)) (p6_boundCount (p9_spare s9)) (p6_tieWay (p9_spare s9)) (p6_reached (p9_spare s9)) (p9_isKept s9) (p3_signs (p9_letters s9)) (p3_numbers (p9_letters s9)) (p3_size (p9_letters s9)) (p3_at (p9_letters s9)) (p3_word (p9_letters s9)) (p9_told s9) (p9_toldCount s9) (p7_cells (p9_shelves s9)) (p7_sizes (p9_shelves s9)) (p7_made (p9_shelves s9)) (p9_refusals s9) (p5_overs (p9_order s9)) (p5_unders (p9_order s9)) (p5_marks (p9_order s9)) (p5_wrongs (p9_order s9)) (p5_papers (p9_order s9)) (p8_marks (p4_values (p9_standing s9))) (p8_weights (p4_values (p9_standing s9))) (p8_places (p4_values (p9_standing s9))) (p8_aboves (p4_values (p9_standing s9))) (p8_belows (p4_values (p9_standing s9))) (p1_above (p8_reduced (p4_values (p9_standing s9)))) (p1_below (p8_reduced (p4_values (p9_standing s9)))) (p8_papers (p4_values (p9_standing s9))) (p4_blocks (p9_standing s9)) (p4_tops (p9_standing s9)) (p4_bottoms (p9_standing s9)) (p4_blocksNow (p9_standing s9)) (p4_mergesDone (p9_standing s9)) (p4_loss (p9_standing s9)) (p8_marks (p0_values (p9_byRules s9))) (p8_weights (p0_values (p9_byRules s9))) (p8_places (p0_values (p9_byRules s9))) (p8_aboves (p0_values (p9_byRules s9))) (p8_belows (p0_values (p9_byRules s9))) (p1_above (p8_reduced (p0_values (p9_byRules s9)))) (p1_below (p8_reduced (p0_values (p9_byRules s9)))) (p8_papers (p0_values (p9_byRules s9))) (p5_overs (p0_order (p9_byRules s9))) (p5_unders (p0_order (p9_byRules s9))) (p5_marks (p0_order (p9_byRules s9))) (p5_wrongs (p0_order (p9_byRules s9))) (p5_papers (p0_order (p9_byRules s9))) (p0_sums (p9_byRules s9)) (p0_weighs (p9_byRules s9)) (p0_downs (p9_byRules s9)) (p1_above (p9_fraction s9)) (p1_below (p9_fraction s9)) (pSB_a (p9_said s9)) (pSB_m (p9_said s9)) (pSB_f (p9_said s9)) (pSB_l (p9_said s9)) (pSB_n (p9_said s9)) (xs (i + 1)) (xs (i + 2)) (xs (i + 3)) (by rw [hu]; exact Option.some_ne_none _)) svV_X9_needs kw941 rfl rfl hPc hDc hSc rfl rfl hl.1 (Nat.le_of_ble_eq_true rfl) dL_law_1038 ⟨Nat.le_of_ble_eq_true rfl, Nat.le_of_ble_eq_true rfl, rfl, rfl, hcl, hsl⟩) [(0, 132)] rfl rfl rfl (fun _ => rfl) (fun w H locs ew nw hP hD hS => ?_)
  obtain rfl := Option.some.inj (hu.symm.trans ew)
  have hP : va_P g.1 vwCl (w9s a0 g (st_X9_needs s9 u) ++ w10s a1 g s10) H := hP
  have hD : va_D (fun q : Nat => s.heap.size ≤ q) (w9s a0 g (st_X9_needs s9 u) ++ w10s a1 g s10) := hD
  refine lv_aload_n hx hb dL_law_1041 rfl (lv_at hl 3 rfl) ?_
  refine lv_aload_n hx hb dL_law_1042 rfl (lv_at hl 1 rfl) ?_
  refine lv_iload_n hx hb dL_law_1043 rfl (lv_at hl 0 rfl) ?_
  refine lv_iconst (v := 1) hx hb dL_law_1044 (by decide) ?_
  refine lv_iadd hx hb dL_law_1045 ?_
  refine nmI (nI_p i 1 (by decide)) ?_
  refine va_sld hx hb hX hbl hbA hS (vp_in_nI (show i + 1 < L by omega) (by omega)) dL_law_1046 ?_
  refine nmI (z := xs (i + 1)) (by rw [nI_clamp (by omega)]) ?_
  refine lv_aload_n hx hb dL_law_1047 rfl (lv_at hl 1 rfl) ?_
  refine lv_iload_n hx hb dL_law_1048 rfl (lv_at hl 0 rfl) ?_
  refine lv_iconst (v := 2) hx hb dL_law_1049 (by decide) ?_
  refine lv_iadd hx hb dL_law_1050 ?_
  refine nmI (nI_p i 2 (by decide)) ?_
  refine va_sld hx hb hX hbl hbA hS (vp_in_nI (show i + 2 < L by omega) (by omega)) dL_law_1051 ?_
  refine nmI (z := xs (i + 2)) (by rw [nI_clamp (by omega)]) ?_
  refine lv_aload_n hx hb dL_law_1052 rfl (lv_at hl 1 rfl) ?_
  refine lv_iload_n hx hb dL_law_1053 rfl (lv_at hl 0 rfl) ?_
  refine lv_iconst (v := 3) hx hb dL_law_1054 (by decide) ?_
  refine lv_iadd hx hb dL_law_1055 ?_
  refine nmI (nI_p i 3 (by decide)) ?_
  refine va_sld hx hb hX hbl hbA hS (vp_in_nI (show i + 3 < L by omega) (by omega)) dL_law_1056 ?_
  refine nmI (z := xs (i + 3)) (by rw [nI_clamp (by omega)]) ?_
  refine cI hP hD hS hA hE (fun hPc hDc hSc => rV (As := [.int (xs (i + 1)), .int (xs (i + 2)), .int (xs (i + 3))]) (rest := [.int u.1]) hx hb hml hown hts hK (c_X10_needs l g a1 (p10_papers s10) (p10_raw s10) (p10_kind s10) (p10_figure s10) (p10_heavy s10) (p10_place s10) (p10_rules s10) (p10_lower s10) (p10_upper s10) (p10_limits s10) (p10_limit s10) (p10_ties s10) (p10_letter s10) (p10_letters s10) (p10_told s10) (p10_tolds s10) (p10_places s10) (p10_cell s10) (p10_refusals s10) (p10_imaged s10) (p10_hasImage s10) (p10_before s10) (p10_up s10) (p10_down s10) (p10_beneath s10) (p10_numberUp s10) (p10_numberDown s10) (p10_block s10) (p10_blocks s10) (p10_merged s10) (p10_valueUp s10) (p10_valueDown s10) (p10_said s10) (p10_saids s10) (p10_at s10) (p10_number s10) (xs (i + 1)) (xs (i + 2)) (xs (i + 3)) (by rw [hv]; exact Option.some_ne_none _)) svV_X10_needs kw1618 rfl rfl hPc hDc hSc rfl rfl hl.1 (Nat.le_of_ble_eq_true rfl) dL_law_1057 ⟨Nat.le_of_ble_eq_true rfl, Nat.le_of_ble_eq_true rfl, rfl, rfl, hcl, hsl⟩) [(132, 22)] rfl rfl rfl (fun _ => rfl) (fun w H locs ew nw hP hD hS => ?_)
  obtain rfl := Option.some.inj (hv.symm.trans ew)
  have hP : va_P g.1 vwCl (w9s a0 g (st_X9_needs s9 u) ++ w10s a1 g (st_X10_needs s10 v)) H := hP
  have hD : va_D (fun q : Nat => s.heap.size ≤ q) (w9s a0 g (st_X9_needs s9 u) ++ w10s a1 g (st_X10_needs s10 v)) := hD
  refine lv_icmp_eq (tgt := 1529) hx hb dL_law_1060 (by decide) (fun _ => ?_) (fun c => absurd he c)
  refine W.widen (k := cells + 24) (n := slots + 7200) (by omega) (by omega) ?_
  exact kk (st_X9_needs s9 u) (st_X10_needs s10 v) _ _ hR hP hD hS
/-- likely -/
abbrev OP_likely (Rel : T9 → T10 → Prop) : Prop := ∀ (s9 : T9) (s10 : T10) (p1 p2 p3 p4 : Int32), Rel s9 s10 → ∃ u v, m_X9_likely s9 p1 p2 p3 p4 = some u ∧ m_X10_likely s10 p1 p2 p3 p4 = some v ∧ u.1 = v.1 ∧ Rel (st_X9_likely s9 u) (st_X10_likely s10 v)
set_option maxHeartbeats 4000000 in
set_option maxRecDepth 100000 in
theorem law_likely {p : Program} {e : Env} {s : State} {m : MethodId} {below : List Frame} {meth : Method} {c : Code} (l : Launch) (g : GG) (Rel : T9 → T10 → Prop) (hop : OP_likely Rel) {b L : Nat} {xs : Nat → Int32} (hL : L ≤ 2560) (hx : p.tables.exec = Jvm.exec) (hb : c.code = code) (hml : c.maxLocals = 4) (hown : s.vm.findClass RL = some m.cls) (hts : ∀ w ∈ G, w.before #[Value.ref b] s = true) (hX : va_X b L xs s s.heap) (hbl : b < s.heap.size) (hK : NK g s) (hE : SK g (fun q : Nat => s.heap.size ≤ q) s s.heap) (a0 a1 : Nat → Nat) (i : Nat) (hi : i + 5 ≤ L) (s9 : T9) (s10 : T10) (hR : Rel s9 s10) {H : Heap} {locs : List Loc} {ls : Array Slot} {cells slots : Nat} (hcl0 : cells + 24 ≤ 600000) (hsl0 : slots + 7200 ≤ 7302250) (hP : va_P g.1 vwCl (w9s a0 g s9 ++ w10s a1 g s10) H) (hD : va_D (fun q : Nat => s.heap.size ≤ q) (w9s a0 g s9 ++ w10s a1 g s10)) (hS : va_S (fun q : Nat => s.heap.size ≤ q) s.heap H locs) (hl : lv_has ls 4 [(3, .int (nI i)), (0, .ref b), (1, .ref (a0 0)), (2, .ref (a1 0))])
    (kk : ∀ (s9 : T9) (s10 : T10) (H : Heap) (locs : List Loc), Rel s9 s10 → va_P g.1 vwCl (w9s a0 g s9 ++ w10s a1 g s10) H → va_D (fun q : Nat => s.heap.size ≤ q) (w9s a0 g s9 ++ w10s a1 g s10) → va_S (fun q : Nat => s.heap.size ≤ q) s.heap H locs → W p l e room_1 s m #[Value.ref b] below meth c H locs (cells + 24) (slots + 7200) (lw_Z below #[Value.ref b] s) (F0 m 1529 ls [])) :
    W p l e room_1 s m #[Value.ref b] below meth c H locs cells slots (lw_Z below #[Value.ref b] s) (F0 m 1065 ls []) := by
  have hA : ∀ q : Nat, s.heap.size ≤ q → (fun q : Nat => s.heap.size ≤ q) q := fun _ h => h
  have hbA : ¬ (fun q : Nat => s.heap.size ≤ q) b := Nat.not_le.mpr hbl
  have hcl : cells + 0 ≤ room_1.cells := by show cells + 0 ≤ 600000; omega
  have hsl : slots + 0 ≤ room_1.slots := by show slots + 0 ≤ 7302250; omega
  obtain ⟨u, v, hu, hv, he, hR⟩ := hop s9 s10 (xs (i + 1)) (xs (i + 2)) (xs (i + 3)) (xs (i + 4)) hR
  refine lv_aload_n hx hb dL_law_1065 rfl (lv_at hl 2 rfl) ?_
  refine lv_aload_n hx hb dL_law_1066 rfl (lv_at hl 1 rfl) ?_
  refine lv_iload_n hx hb dL_law_1067 rfl (lv_at hl 0 rfl) ?_
  refine lv_iconst (v := 1) hx hb dL_law_1068 (by decide) ?_
  refine lv_iadd hx hb dL_law_1069 ?_
  refine nmI (nI_p i 1 (by decide)) ?_
  refine va_sld hx hb hX hbl hbA hS (vp_in_nI (show i + 1 < L by omega) (by omega)) dL_law_1070 ?_
  refine nmI (z := xs (i + 1)) (by rw [nI_clamp (by omega)]) ?_
  refine lv_aload_n hx hb dL_law_1071 rfl (lv_at hl 1 rfl) ?_
  refine lv_iload_n hx hb dL_law_1072 rfl (lv_at hl 0 rfl) ?_
  refine lv_iconst (v := 2) hx hb dL_law_1073 (by decide) ?_
  refine lv_iadd hx hb dL_law_1074 ?_
  refine nmI (nI_p i 2 (by decide)) ?_
  refine va_sld hx hb hX hbl hbA hS (vp_in_nI (show i + 2 < L by omega) (by omega)) dL_law_1075 ?_
  refine nmI (z := xs (i + 2)) (by rw [nI_clamp (by omega)]) ?_
  refine lv_aload_n hx hb dL_law_1076 rfl (lv_at hl 1 rfl) ?_
  refine lv_iload_n hx hb dL_law_1077 rfl (lv_at hl 0 rfl) ?_
  refine lv_iconst (v := 3) hx hb dL_law_1078 (by decide) ?_
  refine lv_iadd hx hb dL_law_1079 ?_
  refine nmI (nI_p i 3 (by decide)) ?_
  refine va_sld hx hb hX hbl hbA hS (vp_in_nI (show i + 3 < L by omega) (by omega)) dL_law_1080 ?_
  refine nmI (z := xs (i + 3)) (by rw [nI_clamp (by omega)]) ?_
  refine lv_aload_n hx hb dL_law_1081 rfl (lv_at hl 1 rfl) ?_
  refine lv_iload_n hx hb dL_law_1082 rfl (lv_at hl 0 rfl) ?_
  refine lv_iconst (v := 4) hx hb dL_law_1083 (by decide) ?_
  refine lv_iadd hx hb dL_law_1084 ?_
  refine nmI (nI_p i 4 (by decide)) ?_
  refine va_sld hx hb hX hbl hbA hS (vp_in_nI (show i + 4 < L by omega) (by omega)) dL_law_1085 ?_
  refine nmI (z := xs (i + 4)) (by rw [nI_clamp (by omega)]) ?_
  refine cL hP hD hS hA hE (fun hPc hDc hSc => rV (As := [.int (xs (i + 1)), .int (xs (i + 2)), .int (xs (i + 3)), .int (xs (i + 4))]) (rest := []) hx hb hml hown hts hK (c_X9_likely l g a0 (p6_raws (p9_now s9)) (p6_kinds (p9_now s9)) (p6_figures (p9_now s9)) (p6_heavies (p9_now s9)) (p6_places (p9_now s9)) (p6_papers (p9_now s9)) (p6_lowers (p9_now s9)) (p6_uppers (p9_now s9)) (p6_rules (p9_now s9)) (p6_bounds (p9_now s9)) (p6_boundCount (p9_now s9)) (p6_tieWay (p9_now s9)) (p6_reached (p9_now s9)) (p6_raws (p9_kept s9)) (p6_kinds (p9_kept s9)) (p6_figures (p9_kept s9)) (p6_heavies (p9_kept s9)) (p6_places (p9_kept s9)) (p6_papers (p9_kept s9)) (p6_lowers (p9_kept s9)) (p6_uppers (p9_kept s9)) (p6_rules (p9_kept s9)) (p6_bounds (p9_kept s9)) (p6_boundCount (p9_kept s9)) (p6_tieWay (p9_kept s9)) (p6_reached (p9_kept s9)) (p6_raws (p9_spare s9)) (p6_kinds (p9_spare s9)) (p6_figures (p9_spare s9)) (p6_heavies (p9_spare s9)) (p6_places (p9_spare s9)) (p6_papers (p9_spare s9)) (p6_lowers (p9_spare s9)) (p6_uppers (p9_spare s9)) (p6_rules (p9_spare s9)) (p6_bounds (p9_spare s9)) (p6_boundCount (p9_spare s9)) (p6_tieWay (p9_spare s9)) (p6_reached (p9_spare s9)) (p9_isKept s9) (p3_signs (p9_letters s9)) (p3_numbers (p9_letters s9)) (p3_size (p9_letters s9)) (p3_at (p9_letters s9)) (p3_word (p9_letters s9)) (p9_told s9) (p9_toldCount s9) (p7_cells (p9_shelves s9)) (p7_sizes (p9_shelves s9)) (p7_made (p9_shelves s9)) (p9_refusals s9) (p5_overs (p9_order s9)) (p5_unders (p9_order s9)) (p5_marks (p9_order s9)) (p5_wrongs (p9_order s9)) (p5_papers (p9_order s9)) (p8_marks (p4_values (p9_standing s9))) (p8_weights (p4_values (p9_standing s9))) (p8_places (p4_values (p9_standing s9))) (p8_aboves (p4_values (p9_standing s9))) (p8_belows (p4_values (p9_standing s9))) (p1_above (p8_reduced (p4_values (p9_standing s9)))) (p1_below (p8_reduced (p4_values (p9_standing s9)))) (p8_papers (p4_values (p9_standing s9))) (p4_blocks (p9_standing s9)) (p4_tops (p9_standing s9)) (p4_bottoms (p9_standing s9)) (p4_blocksNow (p9_standing s9)) (p4_mergesDone (p9_standing s9)) (p4_loss (p9_standing s9)) (p8_marks (p0_values (p9_byRules s9))) (p8_weights (p0_values (p9_byRules s9))) (p8_places (p0_values (p9_byRules s9))) (p8_aboves (p0_values (p9_byRules s9))) (p8_belows (p0_values (p9_byRules s9))) (p1_above (p8_reduced (p0_values (p9_byRules s9)))) (p1_below (p8_reduced (p0_values (p9_byRules s9)))) (p8_papers (p0_values (p9_byRules s9))) (p5_overs (p0_order (p9_byRules s9))) (p5_unders (p0_order (p9_byRules s9))) (p5_marks (p0_order (p9_byRules s9))) (p5_wrongs (p0_order (p9_byRules s9))) (p5_papers (p0_order (p9_byRules s9))) (p0_sums (p9_byRules s9)) (p0_weighs (p9_byRules s9)) (p0_downs (p9_byRules s9)) (p1_above (p9_fraction s9)) (p1_below (p9_fraction s9)) (pSB_a (p9_said s9)) (pSB_m (p9_said s9)) (pSB_f (p9_said s9)) (pSB_l (p9_said s9)) (pSB_n (p9_said s9)) (xs (i + 1)) (xs (i + 2)) (xs (i + 3)) (xs (i + 4)) (by rw [hu]; exact Option.some_ne_none _)) svV_X9_likely kw948 rfl rfl hPc hDc hSc rfl rfl hl.1 (Nat.le_of_ble_eq_true rfl) dL_law_1086 ⟨Nat.le_of_ble_eq_true rfl, Nat.le_of_ble_eq_true rfl, rfl, rfl, hcl, hsl⟩) [(0, 132)] rfl rfl rfl (fun _ => rfl) (fun w H locs ew hP hD hS => ?_)
  obtain rfl := Option.some.inj (hu.symm.trans ew)
  have hP : va_P g.1 vwCl (w9s a0 g (st_X9_likely s9 u) ++ w10s a1 g s10) H := hP
  have hD : va_D (fun q : Nat => s.heap.size ≤ q) (w9s a0 g (st_X9_likely s9 u) ++ w10s a1 g s10) := hD
  refine lv_aload_n hx hb dL_law_1089 rfl (lv_at hl 3 rfl) ?_
  refine lv_aload_n hx hb dL_law_1090 rfl (lv_at hl 1 rfl) ?_
  refine lv_iload_n hx hb dL_law_1091 rfl (lv_at hl 0 rfl) ?_
  refine lv_iconst (v := 1) hx hb dL_law_1092 (by decide) ?_
  refine lv_iadd hx hb dL_law_1093 ?_
  refine nmI (nI_p i 1 (by decide)) ?_
  refine va_sld hx hb hX hbl hbA hS (vp_in_nI (show i + 1 < L by omega) (by omega)) dL_law_1094 ?_
  refine nmI (z := xs (i + 1)) (by rw [nI_clamp (by omega)]) ?_
  refine lv_aload_n hx hb dL_law_1095 rfl (lv_at hl 1 rfl) ?_
  refine lv_iload_n hx hb dL_law_1096 rfl (lv_at hl 0 rfl) ?_
  refine lv_iconst (v := 2) hx hb dL_law_1097 (by decide) ?_
  refine lv_iadd hx hb dL_law_1098 ?_
  refine nmI (nI_p i 2 (by decide)) ?_
  refine va_sld hx hb hX hbl hbA hS (vp_in_nI (show i + 2 < L by omega) (by omega)) dL_law_1099 ?_
  refine nmI (z := xs (i + 2)) (by rw [nI_clamp (by omega)]) ?_
  refine lv_aload_n hx hb dL_law_1100 rfl (lv_at hl 1 rfl) ?_
  refine lv_iload_n hx hb dL_law_1101 rfl (lv_at hl 0 rfl) ?_
  refine lv_iconst (v := 3) hx hb dL_law_1102 (by decide) ?_
  refine lv_iadd hx hb dL_law_1103 ?_
  refine nmI (nI_p i 3 (by decide)) ?_
  refine va_sld hx hb hX hbl hbA hS (vp_in_nI (show i + 3 < L by omega) (by omega)) dL_law_1104 ?_
  refine nmI (z := xs (i + 3)) (by rw [nI_clamp (by omega)]) ?_
  refine lv_aload_n hx hb dL_law_1105 rfl (lv_at hl 1 rfl) ?_
  refine lv_iload_n hx hb dL_law_1106 rfl (lv_at hl 0 rfl) ?_
  refine lv_iconst (v := 4) hx hb dL_law_1107 (by decide) ?_
  refine lv_iadd hx hb dL_law_1108 ?_
  refine nmI (nI_p i 4 (by decide)) ?_
  refine va_sld hx hb hX hbl hbA hS (vp_in_nI (show i + 4 < L by omega) (by omega)) dL_law_1109 ?_
  refine nmI (z := xs (i + 4)) (by rw [nI_clamp (by omega)]) ?_
  refine cL hP hD hS hA hE (fun hPc hDc hSc => rV (As := [.int (xs (i + 1)), .int (xs (i + 2)), .int (xs (i + 3)), .int (xs (i + 4))]) (rest := [.long u.1]) hx hb hml hown hts hK (c_X10_likely l g a1 (p10_papers s10) (p10_raw s10) (p10_kind s10) (p10_figure s10) (p10_heavy s10) (p10_place s10) (p10_rules s10) (p10_lower s10) (p10_upper s10) (p10_limits s10) (p10_limit s10) (p10_ties s10) (p10_letter s10) (p10_letters s10) (p10_told s10) (p10_tolds s10) (p10_places s10) (p10_cell s10) (p10_refusals s10) (p10_imaged s10) (p10_hasImage s10) (p10_before s10) (p10_up s10) (p10_down s10) (p10_beneath s10) (p10_numberUp s10) (p10_numberDown s10) (p10_block s10) (p10_blocks s10) (p10_merged s10) (p10_valueUp s10) (p10_valueDown s10) (p10_said s10) (p10_saids s10) (p10_at s10) (p10_number s10) (xs (i + 1)) (xs (i + 2)) (xs (i + 3)) (xs (i + 4)) (by rw [hv]; exact Option.some_ne_none _)) svV_X10_likely kw1622 rfl rfl hPc hDc hSc rfl rfl hl.1 (Nat.le_of_ble_eq_true rfl) dL_law_1110 ⟨Nat.le_of_ble_eq_true rfl, Nat.le_of_ble_eq_true rfl, rfl, rfl, hcl, hsl⟩) [(132, 22)] rfl rfl rfl (fun _ => rfl) (fun w H locs ew hP hD hS => ?_)
  obtain rfl := Option.some.inj (hv.symm.trans ew)
  have hP : va_P g.1 vwCl (w9s a0 g (st_X9_likely s9 u) ++ w10s a1 g (st_X10_likely s10 v)) H := hP
  have hD : va_D (fun q : Nat => s.heap.size ≤ q) (w9s a0 g (st_X9_likely s9 u) ++ w10s a1 g (st_X10_likely s10 v)) := hD
  refine lc_eq (tgt := 1529) hx hb dL_law_1113 dL_law_1114 (by decide) (fun _ => ?_) (fun c => absurd he c)
  refine W.widen (k := cells + 24) (n := slots + 7200) (by omega) (by omega) ?_
  exact kk (st_X9_likely s9 u) (st_X10_likely s10 v) _ _ hR hP hD hS
/-- says -/
abbrev OP_says (Rel : T9 → T10 → Prop) : Prop := ∀ (s9 : T9) (s10 : T10) (p1 p2 : Int32), Rel s9 s10 → ∃ u v, m_X9_says s9 p1 p2 = some u ∧ m_X10_says s10 p1 p2 = some v ∧ u.1 = v.1 ∧ ∀ ga : Nat, Rel (st_X9_says s9 u ga) (st_X10_says s10 v)
set_option maxHeartbeats 4000000 in
set_option maxRecDepth 100000 in
theorem law_says {p : Program} {e : Env} {s : State} {m : MethodId} {below : List Frame} {meth : Method} {c : Code} (l : Launch) (g : GG) (Rel : T9 → T10 → Prop) (hop : OP_says Rel) {b L : Nat} {xs : Nat → Int32} (hL : L ≤ 2560) (hx : p.tables.exec = Jvm.exec) (hb : c.code = code) (hml : c.maxLocals = 4) (hown : s.vm.findClass RL = some m.cls) (hts : ∀ w ∈ G, w.before #[Value.ref b] s = true) (hX : va_X b L xs s s.heap) (hbl : b < s.heap.size) (hK : NK g s) (hE : SK g (fun q : Nat => s.heap.size ≤ q) s s.heap) (a0 a1 : Nat → Nat) (i : Nat) (hi : i + 5 ≤ L) (s9 : T9) (s10 : T10) (hR : Rel s9 s10) {H : Heap} {locs : List Loc} {ls : Array Slot} {cells slots : Nat} (hcl0 : cells + 24 ≤ 600000) (hsl0 : slots + 7200 ≤ 7302250) (hP : va_P g.1 vwCl (w9s a0 g s9 ++ w10s a1 g s10) H) (hD : va_D (fun q : Nat => s.heap.size ≤ q) (w9s a0 g s9 ++ w10s a1 g s10)) (hS : va_S (fun q : Nat => s.heap.size ≤ q) s.heap H locs) (hl : lv_has ls 4 [(3, .int (nI i)), (0, .ref b), (1, .ref (a0 0)), (2, .ref (a1 0))])
    (kk : ∀ (s9 : T9) (s10 : T10) (H : Heap) (locs : List Loc), Rel s9 s10 → va_P g.1 vwCl (w9s a0 g s9 ++ w10s a1 g s10) H → va_D (fun q : Nat => s.heap.size ≤ q) (w9s a0 g s9 ++ w10s a1 g s10) → va_S (fun q : Nat => s.heap.size ≤ q) s.heap H locs → W p l e room_1 s m #[Value.ref b] below meth c H locs (cells + 24) (slots + 7200) (lw_Z below #[Value.ref b] s) (F0 m 1529 ls [])) :
    W p l e room_1 s m #[Value.ref b] below meth c H locs cells slots (lw_Z below #[Value.ref b] s) (F0 m 1119 ls []) := by
  have hA : ∀ q : Nat, s.heap.size ≤ q → (fun q : Nat => s.heap.size ≤ q) q := fun _ h => h
  have hbA : ¬ (fun q : Nat => s.heap.size ≤ q) b := Nat.not_le.mpr hbl
  have hcl : cells + 24 ≤ room_1.cells := by show cells + 24 ≤ 600000; omega
  have hsl : slots + 7200 ≤ room_1.slots := by show slots + 7200 ≤ 7302250; omega
  obtain ⟨u, v, hu, hv, he, hR⟩ := hop s9 s10 (xs (i + 1)) (xs (i + 2)) hR
  refine lv_aload_n hx hb dL_law_1119 rfl (lv_at hl 2 rfl) ?_
  refine lv_aload_n hx hb dL_law_1120 rfl (lv_at hl 1 rfl) ?_
  refine lv_iload_n hx hb dL_law_1121 rfl (lv_at hl 0 rfl) ?_
  refine lv_iconst (v := 1) hx hb dL_law_1122 (by decide) ?_
  refine lv_iadd hx hb dL_law_1123 ?_
  refine nmI (nI_p i 1 (by decide)) ?_
  refine va_sld hx hb hX hbl hbA hS (vp_in_nI (show i + 1 < L by omega) (by omega)) dL_law_1124 ?_
  refine nmI (z := xs (i + 1)) (by rw [nI_clamp (by omega)]) ?_
  refine lv_aload_n hx hb dL_law_1125 rfl (lv_at hl 1 rfl) ?_
  refine lv_iload_n hx hb dL_law_1126 rfl (lv_at hl 0 rfl) ?_
  refine lv_iconst (v := 2) hx hb dL_law_1127 (by decide) ?_
  refine lv_iadd hx hb dL_law_1128 ?_
  refine nmI (nI_p i 2 (by decide)) ?_
  refine va_sld hx hb hX hbl hbA hS (vp_in_nI (show i + 2 < L by omega) (by omega)) dL_law_1129 ?_
  refine nmI (z := xs (i + 2)) (by rw [nI_clamp (by omega)]) ?_
  refine cIg hP hD hS hA hE (fun hPc hDc hSc => rV (As := [.int (xs (i + 1)), .int (xs (i + 2))]) (rest := []) hx hb hml hown hts hK (c_X9_says l g a0 (p6_raws (p9_now s9)) (p6_kinds (p9_now s9)) (p6_figures (p9_now s9)) (p6_heavies (p9_now s9)) (p6_places (p9_now s9)) (p6_papers (p9_now s9)) (p6_lowers (p9_now s9)) (p6_uppers (p9_now s9)) (p6_rules (p9_now s9)) (p6_bounds (p9_now s9)) (p6_boundCount (p9_now s9)) (p6_tieWay (p9_now s9)) (p6_reached (p9_now s9)) (p6_raws (p9_kept s9)) (p6_kinds (p9_kept s9)) (p6_figures (p9_kept s9)) (p6_heavies (p9_kept s9)) (p6_places (p9_kept s9)) (p6_papers (p9_kept s9)) (p6_lowers (p9_kept s9)) (p6_uppers (p9_kept s9)) (p6_rules (p9_kept s9)) (p6_bounds (p9_kept s9)) (p6_boundCount (p9_kept s9)) (p6_tieWay (p9_kept s9)) (p6_reached (p9_kept s9)) (p6_raws (p9_spare s9)) (p6_kinds (p9_spare s9)) (p6_figures (p9_spare s9)) (p6_heavies (p9_spare s9)) (p6_places (p9_spare s9)) (p6_papers (p9_spare s9)) (p6_lowers (p9_spare s9)) (p6_uppers (p9_spare s9)) (p6_rules (p9_spare s9)) (p6_bounds (p9_spare s9)) (p6_boundCount (p9_spare s9)) (p6_tieWay (p9_spare s9)) (p6_reached (p9_spare s9)) (p9_isKept s9) (p3_signs (p9_letters s9)) (p3_numbers (p9_letters s9)) (p3_size (p9_letters s9)) (p3_at (p9_letters s9)) (p3_word (p9_letters s9)) (p9_told s9) (p9_toldCount s9) (p7_cells (p9_shelves s9)) (p7_sizes (p9_shelves s9)) (p7_made (p9_shelves s9)) (p9_refusals s9) (p5_overs (p9_order s9)) (p5_unders (p9_order s9)) (p5_marks (p9_order s9)) (p5_wrongs (p9_order s9)) (p5_papers (p9_order s9)) (p8_marks (p4_values (p9_standing s9))) (p8_weights (p4_values (p9_standing s9))) (p8_places (p4_values (p9_standing s9))) (p8_aboves (p4_values (p9_standing s9))) (p8_belows (p4_values (p9_standing s9))) (p1_above (p8_reduced (p4_values (p9_standing s9)))) (p1_below (p8_reduced (p4_values (p9_standing s9)))) (p8_papers (p4_values (p9_standing s9))) (p4_blocks (p9_standing s9)) (p4_tops (p9_standing s9)) (p4_bottoms (p9_standing s9)) (p4_blocksNow (p9_standing s9)) (p4_mergesDone (p9_standing s9)) (p4_loss (p9_standing s9)) (p8_marks (p0_values (p9_byRules s9))) (p8_weights (p0_values (p9_byRules s9))) (p8_places (p0_values (p9_byRules s9))) (p8_aboves (p0_values (p9_byRules s9))) (p8_belows (p0_values (p9_byRules s9))) (p1_above (p8_reduced (p0_values (p9_byRules s9)))) (p1_below (p8_reduced (p0_values (p9_byRules s9)))) (p8_papers (p0_values (p9_byRules s9))) (p5_overs (p0_order (p9_byRules s9))) (p5_unders (p0_order (p9_byRules s9))) (p5_marks (p0_order (p9_byRules s9))) (p5_wrongs (p0_order (p9_byRules s9))) (p5_papers (p0_order (p9_byRules s9))) (p0_sums (p9_byRules s9)) (p0_weighs (p9_byRules s9)) (p0_downs (p9_byRules s9)) (p1_above (p9_fraction s9)) (p1_below (p9_fraction s9)) (pSB_a (p9_said s9)) (pSB_m (p9_said s9)) (pSB_f (p9_said s9)) (pSB_l (p9_said s9)) (pSB_n (p9_said s9)) (xs (i + 1)) (xs (i + 2)) (by rw [hu]; exact Option.some_ne_none _)) svV_X9_says kw964 rfl rfl hPc hDc hSc rfl rfl hl.1 (Nat.le_of_ble_eq_true rfl) dL_law_1130 ⟨Nat.le_of_ble_eq_true rfl, Nat.le_of_ble_eq_true rfl, rfl, rfl, hcl, hsl⟩) 0 132 rfl rfl (fun w ga H locs ew nw hP hD hS => ?_)
  obtain rfl := Option.some.inj (hu.symm.trans ew)
  have hP : va_P g.1 vwCl (w9s a0 g (st_X9_says s9 u ga) ++ w10s a1 g s10) H := hP
  have hD : va_D (fun q : Nat => s.heap.size ≤ q) (w9s a0 g (st_X9_says s9 u ga) ++ w10s a1 g s10) := hD
  refine lv_aload_n hx hb dL_law_1133 rfl (lv_at hl 3 rfl) ?_
  refine lv_aload_n hx hb dL_law_1134 rfl (lv_at hl 1 rfl) ?_
  refine lv_iload_n hx hb dL_law_1135 rfl (lv_at hl 0 rfl) ?_
  refine lv_iconst (v := 1) hx hb dL_law_1136 (by decide) ?_
  refine lv_iadd hx hb dL_law_1137 ?_
  refine nmI (nI_p i 1 (by decide)) ?_
  refine va_sld hx hb hX hbl hbA hS (vp_in_nI (show i + 1 < L by omega) (by omega)) dL_law_1138 ?_
  refine nmI (z := xs (i + 1)) (by rw [nI_clamp (by omega)]) ?_
  refine lv_aload_n hx hb dL_law_1139 rfl (lv_at hl 1 rfl) ?_
  refine lv_iload_n hx hb dL_law_1140 rfl (lv_at hl 0 rfl) ?_
  refine lv_iconst (v := 2) hx hb dL_law_1141 (by decide) ?_
  refine lv_iadd hx hb dL_law_1142 ?_
  refine nmI (nI_p i 2 (by decide)) ?_
  refine va_sld hx hb hX hbl hbA hS (vp_in_nI (show i + 2 < L by omega) (by omega)) dL_law_1143 ?_
  refine nmI (z := xs (i + 2)) (by rw [nI_clamp (by omega)]) ?_
  have hcl : cells + 24 + 0 ≤ room_1.cells := hcl
  have hsl : slots + 7200 + 0 ≤ room_1.slots := hsl
  refine cI hP hD hS hA hE (fun hPc hDc hSc => rV (As := [.int (xs (i + 1)), .int (xs (i + 2))]) (rest := [.int u.1]) hx hb hml hown hts hK (c_X10_says l g a1 (p10_papers s10) (p10_raw s10) (p10_kind s10) (p10_figure s10) (p10_heavy s10) (p10_place s10) (p10_rules s10) (p10_lower s10) (p10_upper s10) (p10_limits s10) (p10_limit s10) (p10_ties s10) (p10_letter s10) (p10_letters s10) (p10_told s10) (p10_tolds s10) (p10_places s10) (p10_cell s10) (p10_refusals s10) (p10_imaged s10) (p10_hasImage s10) (p10_before s10) (p10_up s10) (p10_down s10) (p10_beneath s10) (p10_numberUp s10) (p10_numberDown s10) (p10_block s10) (p10_blocks s10) (p10_merged s10) (p10_valueUp s10) (p10_valueDown s10) (p10_said s10) (p10_saids s10) (p10_at s10) (p10_number s10) (xs (i + 1)) (xs (i + 2)) (by rw [hv]; exact Option.some_ne_none _)) svV_X10_says kw1626 rfl rfl hPc hDc hSc rfl rfl hl.1 (Nat.le_of_ble_eq_true rfl) dL_law_1144 ⟨Nat.le_of_ble_eq_true rfl, Nat.le_of_ble_eq_true rfl, rfl, rfl, hcl, hsl⟩) [(132, 22)] rfl rfl rfl (fun _ => rfl) (fun w H locs ew nw hP hD hS => ?_)
  obtain rfl := Option.some.inj (hv.symm.trans ew)
  have hP : va_P g.1 vwCl (w9s a0 g (st_X9_says s9 u ga) ++ w10s a1 g (st_X10_says s10 v)) H := hP
  have hD : va_D (fun q : Nat => s.heap.size ≤ q) (w9s a0 g (st_X9_says s9 u ga) ++ w10s a1 g (st_X10_says s10 v)) := hD
  refine lv_icmp_eq (tgt := 1529) hx hb dL_law_1147 (by decide) (fun _ => ?_) (fun c => absurd he c)
  refine W.widen (k := cells + 24) (n := slots + 7200) (by omega) (by omega) ?_
  exact kk (st_X9_says s9 u ga) (st_X10_says s10 v) _ _ (hR ga) hP hD hS
/-- whatIs -/
abbrev OP_whatIs (Rel : T9 → T10 → Prop) : Prop := ∀ (s9 : T9) (s10 : T10) (p1 p2 : Int32), Rel s9 s10 → ∃ u v, m_X9_whatIs s9 p1 p2 = some u ∧ m_X10_whatIs s10 p1 p2 = some v ∧ u.1 = v.1 ∧ Rel (st_X9_whatIs s9 u) (st_X10_whatIs s10 v)
set_option maxHeartbeats 4000000 in
set_option maxRecDepth 100000 in
theorem law_whatIs {p : Program} {e : Env} {s : State} {m : MethodId} {below : List Frame} {meth : Method} {c : Code} (l : Launch) (g : GG) (Rel : T9 → T10 → Prop) (hop : OP_whatIs Rel) {b L : Nat} {xs : Nat → Int32} (hL : L ≤ 2560) (hx : p.tables.exec = Jvm.exec) (hb : c.code = code) (hml : c.maxLocals = 4) (hown : s.vm.findClass RL = some m.cls) (hts : ∀ w ∈ G, w.before #[Value.ref b] s = true) (hX : va_X b L xs s s.heap) (hbl : b < s.heap.size) (hK : NK g s) (hE : SK g (fun q : Nat => s.heap.size ≤ q) s s.heap) (a0 a1 : Nat → Nat) (i : Nat) (hi : i + 5 ≤ L) (s9 : T9) (s10 : T10) (hR : Rel s9 s10) {H : Heap} {locs : List Loc} {ls : Array Slot} {cells slots : Nat} (hcl0 : cells + 24 ≤ 600000) (hsl0 : slots + 7200 ≤ 7302250) (hP : va_P g.1 vwCl (w9s a0 g s9 ++ w10s a1 g s10) H) (hD : va_D (fun q : Nat => s.heap.size ≤ q) (w9s a0 g s9 ++ w10s a1 g s10)) (hS : va_S (fun q : Nat => s.heap.size ≤ q) s.heap H locs) (hl : lv_has ls 4 [(3, .int (nI i)), (0, .ref b), (1, .ref (a0 0)), (2, .ref (a1 0))])
    (kk : ∀ (s9 : T9) (s10 : T10) (H : Heap) (locs : List Loc), Rel s9 s10 → va_P g.1 vwCl (w9s a0 g s9 ++ w10s a1 g s10) H → va_D (fun q : Nat => s.heap.size ≤ q) (w9s a0 g s9 ++ w10s a1 g s10) → va_S (fun q : Nat => s.heap.size ≤ q) s.heap H locs → W p l e room_1 s m #[Value.ref b] below meth c H locs (cells + 24) (slots + 7200) (lw_Z below #[Value.ref b] s) (F0 m 1529 ls [])) :
    W p l e room_1 s m #[Value.ref b] below meth c H locs cells slots (lw_Z below #[Value.ref b] s) (F0 m 1152 ls []) := by
  have hA : ∀ q : Nat, s.heap.size ≤ q → (fun q : Nat => s.heap.size ≤ q) q := fun _ h => h
  have hbA : ¬ (fun q : Nat => s.heap.size ≤ q) b := Nat.not_le.mpr hbl
  have hcl : cells + 0 ≤ room_1.cells := by show cells + 0 ≤ 600000; omega
  have hsl : slots + 0 ≤ room_1.slots := by show slots + 0 ≤ 7302250; omega
  obtain ⟨u, v, hu, hv, he, hR⟩ := hop s9 s10 (xs (i + 1)) (xs (i + 2)) hR
  refine lv_aload_n hx hb dL_law_1152 rfl (lv_at hl 2 rfl) ?_
  refine lv_aload_n hx hb dL_law_1153 rfl (lv_at hl 1 rfl) ?_
  refine lv_iload_n hx hb dL_law_1154 rfl (lv_at hl 0 rfl) ?_
  refine lv_iconst (v := 1) hx hb dL_law_1155 (by decide) ?_
  refine lv_iadd hx hb dL_law_1156 ?_
  refine nmI (nI_p i 1 (by decide)) ?_
  refine va_sld hx hb hX hbl hbA hS (vp_in_nI (show i + 1 < L by omega) (by omega)) dL_law_1157 ?_
  refine nmI (z := xs (i + 1)) (by rw [nI_clamp (by omega)]) ?_
  refine lv_aload_n hx hb dL_law_1158 rfl (lv_at hl 1 rfl) ?_
  refine lv_iload_n hx hb dL_law_1159 rfl (lv_at hl 0 rfl) ?_
  refine lv_iconst (v := 2) hx hb dL_law_1160 (by decide) ?_
  refine lv_iadd hx hb dL_law_1161 ?_
  refine nmI (nI_p i 2 (by decide)) ?_
  refine va_sld hx hb hX hbl hbA hS (vp_in_nI (show i + 2 < L by omega) (by omega)) dL_law_1162 ?_
  refine nmI (z := xs (i + 2)) (by rw [nI_clamp (by omega)]) ?_
  refine cI hP hD hS hA hE (fun hPc hDc hSc => rV (As := [.int (xs (i + 1)), .int (xs (i + 2))]) (rest := []) hx hb hml hown hts hK (c_X9_whatIs l g a0 (p6_raws (p9_now s9)) (p6_kinds (p9_now s9)) (p6_figures (p9_now s9)) (p6_heavies (p9_now s9)) (p6_places (p9_now s9)) (p6_papers (p9_now s9)) (p6_lowers (p9_now s9)) (p6_uppers (p9_now s9)) (p6_rules (p9_now s9)) (p6_bounds (p9_now s9)) (p6_boundCount (p9_now s9)) (p6_tieWay (p9_now s9)) (p6_reached (p9_now s9)) (p6_raws (p9_kept s9)) (p6_kinds (p9_kept s9)) (p6_figures (p9_kept s9)) (p6_heavies (p9_kept s9)) (p6_places (p9_kept s9)) (p6_papers (p9_kept s9)) (p6_lowers (p9_kept s9)) (p6_uppers (p9_kept s9)) (p6_rules (p9_kept s9)) (p6_bounds (p9_kept s9)) (p6_boundCount (p9_kept s9)) (p6_tieWay (p9_kept s9)) (p6_reached (p9_kept s9)) (p6_raws (p9_spare s9)) (p6_kinds (p9_spare s9)) (p6_figures (p9_spare s9)) (p6_heavies (p9_spare s9)) (p6_places (p9_spare s9)) (p6_papers (p9_spare s9)) (p6_lowers (p9_spare s9)) (p6_uppers (p9_spare s9)) (p6_rules (p9_spare s9)) (p6_bounds (p9_spare s9)) (p6_boundCount (p9_spare s9)) (p6_tieWay (p9_spare s9)) (p6_reached (p9_spare s9)) (p9_isKept s9) (p3_signs (p9_letters s9)) (p3_numbers (p9_letters s9)) (p3_size (p9_letters s9)) (p3_at (p9_letters s9)) (p3_word (p9_letters s9)) (p9_told s9) (p9_toldCount s9) (p7_cells (p9_shelves s9)) (p7_sizes (p9_shelves s9)) (p7_made (p9_shelves s9)) (p9_refusals s9) (p5_overs (p9_order s9)) (p5_unders (p9_order s9)) (p5_marks (p9_order s9)) (p5_wrongs (p9_order s9)) (p5_papers (p9_order s9)) (p8_marks (p4_values (p9_standing s9))) (p8_weights (p4_values (p9_standing s9))) (p8_places (p4_values (p9_standing s9))) (p8_aboves (p4_values (p9_standing s9))) (p8_belows (p4_values (p9_standing s9))) (p1_above (p8_reduced (p4_values (p9_standing s9)))) (p1_below (p8_reduced (p4_values (p9_standing s9)))) (p8_papers (p4_values (p9_standing s9))) (p4_blocks (p9_standing s9)) (p4_tops (p9_standing s9)) (p4_bottoms (p9_standing s9)) (p4_blocksNow (p9_standing s9)) (p4_mergesDone (p9_standing s9)) (p4_loss (p9_standing s9)) (p8_marks (p0_values (p9_byRules s9))) (p8_weights (p0_values (p9_byRules s9))) (p8_places (p0_values (p9_byRules s9))) (p8_aboves (p0_values (p9_byRules s9))) (p8_belows (p0_values (p9_byRules s9))) (p1_above (p8_reduced (p0_values (p9_byRules s9)))) (p1_below (p8_reduced (p0_values (p9_byRules s9)))) (p8_papers (p0_values (p9_byRules s9))) (p5_overs (p0_order (p9_byRules s9))) (p5_unders (p0_order (p9_byRules s9))) (p5_marks (p0_order (p9_byRules s9))) (p5_wrongs (p0_order (p9_byRules s9))) (p5_papers (p0_order (p9_byRules s9))) (p0_sums (p9_byRules s9)) (p0_weighs (p9_byRules s9)) (p0_downs (p9_byRules s9)) (p1_above (p9_fraction s9)) (p1_below (p9_fraction s9)) (pSB_a (p9_said s9)) (pSB_m (p9_said s9)) (pSB_f (p9_said s9)) (pSB_l (p9_said s9)) (pSB_n (p9_said s9)) (xs (i + 1)) (xs (i + 2)) (by rw [hu]; exact Option.some_ne_none _)) svV_X9_whatIs kw1140 rfl rfl hPc hDc hSc rfl rfl hl.1 (Nat.le_of_ble_eq_true rfl) dL_law_1163 ⟨Nat.le_of_ble_eq_true rfl, Nat.le_of_ble_eq_true rfl, rfl, rfl, hcl, hsl⟩) [(0, 132)] rfl rfl rfl (fun _ => rfl) (fun w H locs ew nw hP hD hS => ?_)
  obtain rfl := Option.some.inj (hu.symm.trans ew)
  have hP : va_P g.1 vwCl (w9s a0 g (st_X9_whatIs s9 u) ++ w10s a1 g s10) H := hP
  have hD : va_D (fun q : Nat => s.heap.size ≤ q) (w9s a0 g (st_X9_whatIs s9 u) ++ w10s a1 g s10) := hD
  refine lv_aload_n hx hb dL_law_1166 rfl (lv_at hl 3 rfl) ?_
  refine lv_aload_n hx hb dL_law_1167 rfl (lv_at hl 1 rfl) ?_
  refine lv_iload_n hx hb dL_law_1168 rfl (lv_at hl 0 rfl) ?_
  refine lv_iconst (v := 1) hx hb dL_law_1169 (by decide) ?_
  refine lv_iadd hx hb dL_law_1170 ?_
  refine nmI (nI_p i 1 (by decide)) ?_
  refine va_sld hx hb hX hbl hbA hS (vp_in_nI (show i + 1 < L by omega) (by omega)) dL_law_1171 ?_
  refine nmI (z := xs (i + 1)) (by rw [nI_clamp (by omega)]) ?_
  refine lv_aload_n hx hb dL_law_1172 rfl (lv_at hl 1 rfl) ?_
  refine lv_iload_n hx hb dL_law_1173 rfl (lv_at hl 0 rfl) ?_
  refine lv_iconst (v := 2) hx hb dL_law_1174 (by decide) ?_
  refine lv_iadd hx hb dL_law_1175 ?_
  refine nmI (nI_p i 2 (by decide)) ?_
  refine va_sld hx hb hX hbl hbA hS (vp_in_nI (show i + 2 < L by omega) (by omega)) dL_law_1176 ?_
  refine nmI (z := xs (i + 2)) (by rw [nI_clamp (by omega)]) ?_
  refine cI hP hD hS hA hE (fun hPc hDc hSc => rV (As := [.int (xs (i + 1)), .int (xs (i + 2))]) (rest := [.int u.1]) hx hb hml hown hts hK (c_X10_whatIs l g a1 (p10_papers s10) (p10_raw s10) (p10_kind s10) (p10_figure s10) (p10_heavy s10) (p10_place s10) (p10_rules s10) (p10_lower s10) (p10_upper s10) (p10_limits s10) (p10_limit s10) (p10_ties s10) (p10_letter s10) (p10_letters s10) (p10_told s10) (p10_tolds s10) (p10_places s10) (p10_cell s10) (p10_refusals s10) (p10_imaged s10) (p10_hasImage s10) (p10_before s10) (p10_up s10) (p10_down s10) (p10_beneath s10) (p10_numberUp s10) (p10_numberDown s10) (p10_block s10) (p10_blocks s10) (p10_merged s10) (p10_valueUp s10) (p10_valueDown s10) (p10_said s10) (p10_saids s10) (p10_at s10) (p10_number s10) (xs (i + 1)) (xs (i + 2)) (by rw [hv]; exact Option.some_ne_none _)) svV_X10_whatIs kw1649 rfl rfl hPc hDc hSc rfl rfl hl.1 (Nat.le_of_ble_eq_true rfl) dL_law_1177 ⟨Nat.le_of_ble_eq_true rfl, Nat.le_of_ble_eq_true rfl, rfl, rfl, hcl, hsl⟩) [(132, 22)] rfl rfl rfl (fun _ => rfl) (fun w H locs ew nw hP hD hS => ?_)
  obtain rfl := Option.some.inj (hv.symm.trans ew)
  have hP : va_P g.1 vwCl (w9s a0 g (st_X9_whatIs s9 u) ++ w10s a1 g (st_X10_whatIs s10 v)) H := hP
  have hD : va_D (fun q : Nat => s.heap.size ≤ q) (w9s a0 g (st_X9_whatIs s9 u) ++ w10s a1 g (st_X10_whatIs s10 v)) := hD
  refine lv_icmp_eq (tgt := 1529) hx hb dL_law_1180 (by decide) (fun _ => ?_) (fun c => absurd he c)
  refine W.widen (k := cells + 24) (n := slots + 7200) (by omega) (by omega) ?_
  exact kk (st_X9_whatIs s9 u) (st_X10_whatIs s10 v) _ _ hR hP hD hS
/-- row -/
abbrev OP_row (Rel : T9 → T10 → Prop) : Prop := ∀ (s9 : T9) (s10 : T10) (p1 : Int32), Rel s9 s10 → ∃ u v, m_X9_row s9 p1 = some u ∧ m_X10_row s10 p1 = some v ∧ u.1 = v.1 ∧ Rel (st_X9_row s9 u) (st_X10_row s10 v)
set_option maxHeartbeats 4000000 in
set_option maxRecDepth 100000 in
theorem law_row {p : Program} {e : Env} {s : State} {m : MethodId} {below : List Frame} {meth : Method} {c : Code} (l : Launch) (g : GG) (Rel : T9 → T10 → Prop) (hop : OP_row Rel) {b L : Nat} {xs : Nat → Int32} (hL : L ≤ 2560) (hx : p.tables.exec = Jvm.exec) (hb : c.code = code) (hml : c.maxLocals = 4) (hown : s.vm.findClass RL = some m.cls) (hts : ∀ w ∈ G, w.before #[Value.ref b] s = true) (hX : va_X b L xs s s.heap) (hbl : b < s.heap.size) (hK : NK g s) (hE : SK g (fun q : Nat => s.heap.size ≤ q) s s.heap) (a0 a1 : Nat → Nat) (i : Nat) (hi : i + 5 ≤ L) (s9 : T9) (s10 : T10) (hR : Rel s9 s10) {H : Heap} {locs : List Loc} {ls : Array Slot} {cells slots : Nat} (hcl0 : cells + 24 ≤ 600000) (hsl0 : slots + 7200 ≤ 7302250) (hP : va_P g.1 vwCl (w9s a0 g s9 ++ w10s a1 g s10) H) (hD : va_D (fun q : Nat => s.heap.size ≤ q) (w9s a0 g s9 ++ w10s a1 g s10)) (hS : va_S (fun q : Nat => s.heap.size ≤ q) s.heap H locs) (hl : lv_has ls 4 [(3, .int (nI i)), (0, .ref b), (1, .ref (a0 0)), (2, .ref (a1 0))])
    (kk : ∀ (s9 : T9) (s10 : T10) (H : Heap) (locs : List Loc), Rel s9 s10 → va_P g.1 vwCl (w9s a0 g s9 ++ w10s a1 g s10) H → va_D (fun q : Nat => s.heap.size ≤ q) (w9s a0 g s9 ++ w10s a1 g s10) → va_S (fun q : Nat => s.heap.size ≤ q) s.heap H locs → W p l e room_1 s m #[Value.ref b] below meth c H locs (cells + 24) (slots + 7200) (lw_Z below #[Value.ref b] s) (F0 m 1529 ls [])) :
    W p l e room_1 s m #[Value.ref b] below meth c H locs cells slots (lw_Z below #[Value.ref b] s) (F0 m 1185 ls []) := by
  have hA : ∀ q : Nat, s.heap.size ≤ q → (fun q : Nat => s.heap.size ≤ q) q := fun _ h => h
  have hbA : ¬ (fun q : Nat => s.heap.size ≤ q) b := Nat.not_le.mpr hbl
  have hcl : cells + 0 ≤ room_1.cells := by show cells + 0 ≤ 600000; omega
  have hsl : slots + 0 ≤ room_1.slots := by show slots + 0 ≤ 7302250; omega
  obtain ⟨u, v, hu, hv, he, hR⟩ := hop s9 s10 (xs (i + 1)) hR
  refine lv_aload_n hx hb dL_law_1185 rfl (lv_at hl 2 rfl) ?_
  refine lv_aload_n hx hb dL_law_1186 rfl (lv_at hl 1 rfl) ?_
  refine lv_iload_n hx hb dL_law_1187 rfl (lv_at hl 0 rfl) ?_
  refine lv_iconst (v := 1) hx hb dL_law_1188 (by decide) ?_
  refine lv_iadd hx hb dL_law_1189 ?_
  refine nmI (nI_p i 1 (by decide)) ?_
  refine va_sld hx hb hX hbl hbA hS (vp_in_nI (show i + 1 < L by omega) (by omega)) dL_law_1190 ?_
  refine nmI (z := xs (i + 1)) (by rw [nI_clamp (by omega)]) ?_
  refine cI hP hD hS hA hE (fun hPc hDc hSc => rV (As := [.int (xs (i + 1))]) (rest := []) hx hb hml hown hts hK (c_X9_row l g a0 (p6_raws (p9_now s9)) (p6_kinds (p9_now s9)) (p6_figures (p9_now s9)) (p6_heavies (p9_now s9)) (p6_places (p9_now s9)) (p6_papers (p9_now s9)) (p6_lowers (p9_now s9)) (p6_uppers (p9_now s9)) (p6_rules (p9_now s9)) (p6_bounds (p9_now s9)) (p6_boundCount (p9_now s9)) (p6_tieWay (p9_now s9)) (p6_reached (p9_now s9)) (p6_raws (p9_kept s9)) (p6_kinds (p9_kept s9)) (p6_figures (p9_kept s9)) (p6_heavies (p9_kept s9)) (p6_places (p9_kept s9)) (p6_papers (p9_kept s9)) (p6_lowers (p9_kept s9)) (p6_uppers (p9_kept s9)) (p6_rules (p9_kept s9)) (p6_bounds (p9_kept s9)) (p6_boundCount (p9_kept s9)) (p6_tieWay (p9_kept s9)) (p6_reached (p9_kept s9)) (p6_raws (p9_spare s9)) (p6_kinds (p9_spare s9)) (p6_figures (p9_spare s9)) (p6_heavies (p9_spare s9)) (p6_places (p9_spare s9)) (p6_papers (p9_spare s9)) (p6_lowers (p9_spare s9)) (p6_uppers (p9_spare s9)) (p6_rules (p9_spare s9)) (p6_bounds (p9_spare s9)) (p6_boundCount (p9_spare s9)) (p6_tieWay (p9_spare s9)) (p6_reached (p9_spare s9)) (p9_isKept s9) (p3_signs (p9_letters s9)) (p3_numbers (p9_letters s9)) (p3_size (p9_letters s9)) (p3_at (p9_letters s9)) (p3_word (p9_letters s9)) (p9_told s9) (p9_toldCount s9) (p7_cells (p9_shelves s9)) (p7_sizes (p9_shelves s9)) (p7_made (p9_shelves s9)) (p9_refusals s9) (p5_overs (p9_order s9)) (p5_unders (p9_order s9)) (p5_marks (p9_order s9)) (p5_wrongs (p9_order s9)) (p5_papers (p9_order s9)) (p8_marks (p4_values (p9_standing s9))) (p8_weights (p4_values (p9_standing s9))) (p8_places (p4_values (p9_standing s9))) (p8_aboves (p4_values (p9_standing s9))) (p8_belows (p4_values (p9_standing s9))) (p1_above (p8_reduced (p4_values (p9_standing s9)))) (p1_below (p8_reduced (p4_values (p9_standing s9)))) (p8_papers (p4_values (p9_standing s9))) (p4_blocks (p9_standing s9)) (p4_tops (p9_standing s9)) (p4_bottoms (p9_standing s9)) (p4_blocksNow (p9_standing s9)) (p4_mergesDone (p9_standing s9)) (p4_loss (p9_standing s9)) (p8_marks (p0_values (p9_byRules s9))) (p8_weights (p0_values (p9_byRules s9))) (p8_places (p0_values (p9_byRules s9))) (p8_aboves (p0_values (p9_byRules s9))) (p8_belows (p0_values (p9_byRules s9))) (p1_above (p8_reduced (p0_values (p9_byRules s9)))) (p1_below (p8_reduced (p0_values (p9_byRules s9)))) (p8_papers (p0_values (p9_byRules s9))) (p5_overs (p0_order (p9_byRules s9))) (p5_unders (p0_order (p9_byRules s9))) (p5_marks (p0_order (p9_byRules s9))) (p5_wrongs (p0_order (p9_byRules s9))) (p5_papers (p0_order (p9_byRules s9))) (p0_sums (p9_byRules s9)) (p0_weighs (p9_byRules s9)) (p0_downs (p9_byRules s9)) (p1_above (p9_fraction s9)) (p1_below (p9_fraction s9)) (pSB_a (p9_said s9)) (pSB_m (p9_said s9)) (pSB_f (p9_said s9)) (pSB_l (p9_said s9)) (pSB_n (p9_said s9)) (xs (i + 1)) (by rw [hu]; exact Option.some_ne_none _)) svV_X9_row kw1154 rfl rfl hPc hDc hSc rfl rfl hl.1 (Nat.le_of_ble_eq_true rfl) dL_law_1191 ⟨Nat.le_of_ble_eq_true rfl, Nat.le_of_ble_eq_true rfl, rfl, rfl, hcl, hsl⟩) [(0, 132)] rfl rfl rfl (fun _ => rfl) (fun w H locs ew nw hP hD hS => ?_)
  obtain rfl := Option.some.inj (hu.symm.trans ew)
  have hP : va_P g.1 vwCl (w9s a0 g (st_X9_row s9 u) ++ w10s a1 g s10) H := hP
  have hD : va_D (fun q : Nat => s.heap.size ≤ q) (w9s a0 g (st_X9_row s9 u) ++ w10s a1 g s10) := hD
  refine lv_aload_n hx hb dL_law_1194 rfl (lv_at hl 3 rfl) ?_
  refine lv_aload_n hx hb dL_law_1195 rfl (lv_at hl 1 rfl) ?_
  refine lv_iload_n hx hb dL_law_1196 rfl (lv_at hl 0 rfl) ?_
  refine lv_iconst (v := 1) hx hb dL_law_1197 (by decide) ?_
  refine lv_iadd hx hb dL_law_1198 ?_
  refine nmI (nI_p i 1 (by decide)) ?_
  refine va_sld hx hb hX hbl hbA hS (vp_in_nI (show i + 1 < L by omega) (by omega)) dL_law_1199 ?_
  refine nmI (z := xs (i + 1)) (by rw [nI_clamp (by omega)]) ?_
  refine cI hP hD hS hA hE (fun hPc hDc hSc => rV (As := [.int (xs (i + 1))]) (rest := [.int u.1]) hx hb hml hown hts hK (c_X10_row l g a1 (p10_papers s10) (p10_raw s10) (p10_kind s10) (p10_figure s10) (p10_heavy s10) (p10_place s10) (p10_rules s10) (p10_lower s10) (p10_upper s10) (p10_limits s10) (p10_limit s10) (p10_ties s10) (p10_letter s10) (p10_letters s10) (p10_told s10) (p10_tolds s10) (p10_places s10) (p10_cell s10) (p10_refusals s10) (p10_imaged s10) (p10_hasImage s10) (p10_before s10) (p10_up s10) (p10_down s10) (p10_beneath s10) (p10_numberUp s10) (p10_numberDown s10) (p10_block s10) (p10_blocks s10) (p10_merged s10) (p10_valueUp s10) (p10_valueDown s10) (p10_said s10) (p10_saids s10) (p10_at s10) (p10_number s10) (xs (i + 1)) (by rw [hv]; exact Option.some_ne_none _)) svV_X10_row kw1656 rfl rfl hPc hDc hSc rfl rfl hl.1 (Nat.le_of_ble_eq_true rfl) dL_law_1200 ⟨Nat.le_of_ble_eq_true rfl, Nat.le_of_ble_eq_true rfl, rfl, rfl, hcl, hsl⟩) [(132, 22)] rfl rfl rfl (fun _ => rfl) (fun w H locs ew nw hP hD hS => ?_)
  obtain rfl := Option.some.inj (hv.symm.trans ew)
  have hP : va_P g.1 vwCl (w9s a0 g (st_X9_row s9 u) ++ w10s a1 g (st_X10_row s10 v)) H := hP
  have hD : va_D (fun q : Nat => s.heap.size ≤ q) (w9s a0 g (st_X9_row s9 u) ++ w10s a1 g (st_X10_row s10 v)) := hD
  refine lv_icmp_eq (tgt := 1529) hx hb dL_law_1203 (by decide) (fun _ => ?_) (fun c => absurd he c)
  refine W.widen (k := cells + 24) (n := slots + 7200) (by omega) (by omega) ?_
  exact kk (st_X9_row s9 u) (st_X10_row s10 v) _ _ hR hP hD hS
/-- clear -/
abbrev OP_clear (Rel : T9 → T10 → Prop) : Prop := ∀ (s9 : T9) (s10 : T10), Rel s9 s10 → ∃ u v, m_X9_clear s9 = some u ∧ m_X10_clear s10 = some v ∧ u.1 = v.1 ∧ Rel (st_X9_clear s9 u) (st_X10_clear s10 v)
set_option maxHeartbeats 4000000 in
set_option maxRecDepth 100000 in
theorem law_clear {p : Program} {e : Env} {s : State} {m : MethodId} {below : List Frame} {meth : Method} {c : Code} (l : Launch) (g : GG) (Rel : T9 → T10 → Prop) (hop : OP_clear Rel) {b L : Nat} {xs : Nat → Int32} (hL : L ≤ 2560) (hx : p.tables.exec = Jvm.exec) (hb : c.code = code) (hml : c.maxLocals = 4) (hown : s.vm.findClass RL = some m.cls) (hts : ∀ w ∈ G, w.before #[Value.ref b] s = true) (hX : va_X b L xs s s.heap) (hbl : b < s.heap.size) (hK : NK g s) (hE : SK g (fun q : Nat => s.heap.size ≤ q) s s.heap) (a0 a1 : Nat → Nat) (i : Nat) (hi : i + 5 ≤ L) (s9 : T9) (s10 : T10) (hR : Rel s9 s10) {H : Heap} {locs : List Loc} {ls : Array Slot} {cells slots : Nat} (hcl0 : cells + 24 ≤ 600000) (hsl0 : slots + 7200 ≤ 7302250) (hP : va_P g.1 vwCl (w9s a0 g s9 ++ w10s a1 g s10) H) (hD : va_D (fun q : Nat => s.heap.size ≤ q) (w9s a0 g s9 ++ w10s a1 g s10)) (hS : va_S (fun q : Nat => s.heap.size ≤ q) s.heap H locs) (hl : lv_has ls 4 [(3, .int (nI i)), (0, .ref b), (1, .ref (a0 0)), (2, .ref (a1 0))])
    (kk : ∀ (s9 : T9) (s10 : T10) (H : Heap) (locs : List Loc), Rel s9 s10 → va_P g.1 vwCl (w9s a0 g s9 ++ w10s a1 g s10) H → va_D (fun q : Nat => s.heap.size ≤ q) (w9s a0 g s9 ++ w10s a1 g s10) → va_S (fun q : Nat => s.heap.size ≤ q) s.heap H locs → W p l e room_1 s m #[Value.ref b] below meth c H locs (cells + 24) (slots + 7200) (lw_Z below #[Value.ref b] s) (F0 m 1529 ls [])) :
    W p l e room_1 s m #[Value.ref b] below meth c H locs cells slots (lw_Z below #[Value.ref b] s) (F0 m 1208 ls []) := by
  have hA : ∀ q : Nat, s.heap.size ≤ q → (fun q : Nat => s.heap.size ≤ q) q := fun _ h => h
  have hbA : ¬ (fun q : Nat => s.heap.size ≤ q) b := Nat.not_le.mpr hbl
  have hcl : cells + 0 ≤ room_1.cells := by show cells + 0 ≤ 600000; omega
  have hsl : slots + 0 ≤ room_1.slots := by show slots + 0 ≤ 7302250; omega
  obtain ⟨u, v, hu, hv, he, hR⟩ := hop s9 s10 hR
  refine lv_aload_n hx hb dL_law_1208 rfl (lv_at hl 2 rfl) ?_
  refine cI hP hD hS hA hE (fun hPc hDc hSc => rV (As := []) (rest := []) hx hb hml hown hts hK (c_X9_clear l g a0 (p6_raws (p9_now s9)) (p6_kinds (p9_now s9)) (p6_figures (p9_now s9)) (p6_heavies (p9_now s9)) (p6_places (p9_now s9)) (p6_papers (p9_now s9)) (p6_lowers (p9_now s9)) (p6_uppers (p9_now s9)) (p6_rules (p9_now s9)) (p6_bounds (p9_now s9)) (p6_boundCount (p9_now s9)) (p6_tieWay (p9_now s9)) (p6_reached (p9_now s9)) (p6_raws (p9_kept s9)) (p6_kinds (p9_kept s9)) (p6_figures (p9_kept s9)) (p6_heavies (p9_kept s9)) (p6_places (p9_kept s9)) (p6_papers (p9_kept s9)) (p6_lowers (p9_kept s9)) (p6_uppers (p9_kept s9)) (p6_rules (p9_kept s9)) (p6_bounds (p9_kept s9)) (p6_boundCount (p9_kept s9)) (p6_tieWay (p9_kept s9)) (p6_reached (p9_kept s9)) (p6_raws (p9_spare s9)) (p6_kinds (p9_spare s9)) (p6_figures (p9_spare s9)) (p6_heavies (p9_spare s9)) (p6_places (p9_spare s9)) (p6_papers (p9_spare s9)) (p6_lowers (p9_spare s9)) (p6_uppers (p9_spare s9)) (p6_rules (p9_spare s9)) (p6_bounds (p9_spare s9)) (p6_boundCount (p9_spare s9)) (p6_tieWay (p9_spare s9)) (p6_reached (p9_spare s9)) (p9_isKept s9) (p3_signs (p9_letters s9)) (p3_numbers (p9_letters s9)) (p3_size (p9_letters s9)) (p3_at (p9_letters s9)) (p3_word (p9_letters s9)) (p9_told s9) (p9_toldCount s9) (p7_cells (p9_shelves s9)) (p7_sizes (p9_shelves s9)) (p7_made (p9_shelves s9)) (p9_refusals s9) (p5_overs (p9_order s9)) (p5_unders (p9_order s9)) (p5_marks (p9_order s9)) (p5_wrongs (p9_order s9)) (p5_papers (p9_order s9)) (p8_marks (p4_values (p9_standing s9))) (p8_weights (p4_values (p9_standing s9))) (p8_places (p4_values (p9_standing s9))) (p8_aboves (p4_values (p9_standing s9))) (p8_belows (p4_values (p9_standing s9))) (p1_above (p8_reduced (p4_values (p9_standing s9)))) (p1_below (p8_reduced (p4_values (p9_standing s9)))) (p8_papers (p4_values (p9_standing s9))) (p4_blocks (p9_standing s9)) (p4_tops (p9_standing s9)) (p4_bottoms (p9_standing s9)) (p4_blocksNow (p9_standing s9)) (p4_mergesDone (p9_standing s9)) (p4_loss (p9_standing s9)) (p8_marks (p0_values (p9_byRules s9))) (p8_weights (p0_values (p9_byRules s9))) (p8_places (p0_values (p9_byRules s9))) (p8_aboves (p0_values (p9_byRules s9))) (p8_belows (p0_values (p9_byRules s9))) (p1_above (p8_reduced (p0_values (p9_byRules s9)))) (p1_below (p8_reduced (p0_values (p9_byRules s9)))) (p8_papers (p0_values (p9_byRules s9))) (p5_overs (p0_order (p9_byRules s9))) (p5_unders (p0_order (p9_byRules s9))) (p5_marks (p0_order (p9_byRules s9))) (p5_wrongs (p0_order (p9_byRules s9))) (p5_papers (p0_order (p9_byRules s9))) (p0_sums (p9_byRules s9)) (p0_weighs (p9_byRules s9)) (p0_downs (p9_byRules s9)) (p1_above (p9_fraction s9)) (p1_below (p9_fraction s9)) (pSB_a (p9_said s9)) (pSB_m (p9_said s9)) (pSB_f (p9_said s9)) (pSB_l (p9_said s9)) (pSB_n (p9_said s9)) (by rw [hu]; exact Option.some_ne_none _)) svV_X9_clear kw1158 rfl rfl hPc hDc hSc rfl rfl hl.1 (Nat.le_of_ble_eq_true rfl) dL_law_1209 ⟨Nat.le_of_ble_eq_true rfl, Nat.le_of_ble_eq_true rfl, rfl, rfl, hcl, hsl⟩) [(0, 132)] rfl rfl rfl (fun _ => rfl) (fun w H locs ew nw hP hD hS => ?_)
  obtain rfl := Option.some.inj (hu.symm.trans ew)
  have hP : va_P g.1 vwCl (w9s a0 g (st_X9_clear s9 u) ++ w10s a1 g s10) H := hP
  have hD : va_D (fun q : Nat => s.heap.size ≤ q) (w9s a0 g (st_X9_clear s9 u) ++ w10s a1 g s10) := hD
  refine lv_aload_n hx hb dL_law_1212 rfl (lv_at hl 3 rfl) ?_
  refine cI hP hD hS hA hE (fun hPc hDc hSc => rV (As := []) (rest := [.int u.1]) hx hb hml hown hts hK (c_X10_clear l g a1 (p10_papers s10) (p10_raw s10) (p10_kind s10) (p10_figure s10) (p10_heavy s10) (p10_place s10) (p10_rules s10) (p10_lower s10) (p10_upper s10) (p10_limits s10) (p10_limit s10) (p10_ties s10) (p10_letter s10) (p10_letters s10) (p10_told s10) (p10_tolds s10) (p10_places s10) (p10_cell s10) (p10_refusals s10) (p10_imaged s10) (p10_hasImage s10) (p10_before s10) (p10_up s10) (p10_down s10) (p10_beneath s10) (p10_numberUp s10) (p10_numberDown s10) (p10_block s10) (p10_blocks s10) (p10_merged s10) (p10_valueUp s10) (p10_valueDown s10) (p10_said s10) (p10_saids s10) (p10_at s10) (p10_number s10) (by rw [hv]; exact Option.some_ne_none _)) svV_X10_clear kw1660 rfl rfl hPc hDc hSc rfl rfl hl.1 (Nat.le_of_ble_eq_true rfl) dL_law_1213 ⟨Nat.le_of_ble_eq_true rfl, Nat.le_of_ble_eq_true rfl, rfl, rfl, hcl, hsl⟩) [(132, 22)] rfl rfl rfl (fun _ => rfl) (fun w H locs ew nw hP hD hS => ?_)
  obtain rfl := Option.some.inj (hv.symm.trans ew)
  have hP : va_P g.1 vwCl (w9s a0 g (st_X9_clear s9 u) ++ w10s a1 g (st_X10_clear s10 v)) H := hP
  have hD : va_D (fun q : Nat => s.heap.size ≤ q) (w9s a0 g (st_X9_clear s9 u) ++ w10s a1 g (st_X10_clear s10 v)) := hD
  refine lv_icmp_eq (tgt := 1529) hx hb dL_law_1216 (by decide) (fun _ => ?_) (fun c => absurd he c)
  refine W.widen (k := cells + 24) (n := slots + 7200) (by omega) (by omega) ?_
  exact kk (st_X9_clear s9 u) (st_X10_clear s10 v) _ _ hR hP hD hS
/-- lots -/
abbrev OP_lots (Rel : T9 → T10 → Prop) : Prop := ∀ (s9 : T9) (s10 : T10) (p1 p2 p3 : Int32), Rel s9 s10 → ∃ u v, m_X9_lots s9 p1 p2 p3 = some u ∧ m_X10_lots s10 p1 p2 p3 = some v ∧ u.1 = v.1 ∧ Rel (st_X9_lots s9 u) (st_X10_lots s10 v)
set_option maxHeartbeats 4000000 in
set_option maxRecDepth 100000 in
theorem law_lots {p : Program} {e : Env} {s : State} {m : MethodId} {below : List Frame} {meth : Method} {c : Code} (l : Launch) (g : GG) (Rel : T9 → T10 → Prop) (hop : OP_lots Rel) {b L : Nat} {xs : Nat → Int32} (hL : L ≤ 2560) (hx : p.tables.exec = Jvm.exec) (hb : c.code = code) (hml : c.maxLocals = 4) (hown : s.vm.findClass RL = some m.cls) (hts : ∀ w ∈ G, w.before #[Value.ref b] s = true) (hX : va_X b L xs s s.heap) (hbl : b < s.heap.size) (hK : NK g s) (hE : SK g (fun q : Nat => s.heap.size ≤ q) s s.heap) (a0 a1 : Nat → Nat) (i : Nat) (hi : i + 5 ≤ L) (s9 : T9) (s10 : T10) (hR : Rel s9 s10) {H : Heap} {locs : List Loc} {ls : Array Slot} {cells slots : Nat} (hcl0 : cells + 24 ≤ 600000) (hsl0 : slots + 7200 ≤ 7302250) (hP : va_P g.1 vwCl (w9s a0 g s9 ++ w10s a1 g s10) H) (hD : va_D (fun q : Nat => s.heap.size ≤ q) (w9s a0 g s9 ++ w10s a1 g s10)) (hS : va_S (fun q : Nat => s.heap.size ≤ q) s.heap H locs) (hl : lv_has ls 4 [(3, .int (nI i)), (0, .ref b), (1, .ref (a0 0)), (2, .ref (a1 0))])
    (kk : ∀ (s9 : T9) (s10 : T10) (H : Heap) (locs : List Loc), Rel s9 s10 → va_P g.1 vwCl (w9s a0 g s9 ++ w10s a1 g s10) H → va_D (fun q : Nat => s.heap.size ≤ q) (w9s a0 g s9 ++ w10s a1 g s10) → va_S (fun q : Nat => s.heap.size ≤ q) s.heap H locs → W p l e room_1 s m #[Value.ref b] below meth c H locs (cells + 24) (slots + 7200) (lw_Z below #[Value.ref b] s) (F0 m 1529 ls [])) :
    W p l e room_1 s m #[Value.ref b] below meth c H locs cells slots (lw_Z below #[Value.ref b] s) (F0 m 1221 ls []) := by
  have hA : ∀ q : Nat, s.heap.size ≤ q → (fun q : Nat => s.heap.size ≤ q) q := fun _ h => h
  have hbA : ¬ (fun q : Nat => s.heap.size ≤ q) b := Nat.not_le.mpr hbl
  have hcl : cells + 0 ≤ room_1.cells := by show cells + 0 ≤ 600000; omega
  have hsl : slots + 0 ≤ room_1.slots := by show slots + 0 ≤ 7302250; omega
  obtain ⟨u, v, hu, hv, he, hR⟩ := hop s9 s10 (xs (i + 1)) (xs (i + 2)) (xs (i + 3)) hR
  refine lv_aload_n hx hb dL_law_1221 rfl (lv_at hl 2 rfl) ?_
  refine lv_aload_n hx hb dL_law_1222 rfl (lv_at hl 1 rfl) ?_
  refine lv_iload_n hx hb dL_law_1223 rfl (lv_at hl 0 rfl) ?_
  refine lv_iconst (v := 1) hx hb dL_law_1224 (by decide) ?_
  refine lv_iadd hx hb dL_law_1225 ?_
  refine nmI (nI_p i 1 (by decide)) ?_
  refine va_sld hx hb hX hbl hbA hS (vp_in_nI (show i + 1 < L by omega) (by omega)) dL_law_1226 ?_
  refine nmI (z := xs (i + 1)) (by rw [nI_clamp (by omega)]) ?_
  refine lv_aload_n hx hb dL_law_1227 rfl (lv_at hl 1 rfl) ?_
  refine lv_iload_n hx hb dL_law_1228 rfl (lv_at hl 0 rfl) ?_
  refine lv_iconst (v := 2) hx hb dL_law_1229 (by decide) ?_
  refine lv_iadd hx hb dL_law_1230 ?_
  refine nmI (nI_p i 2 (by decide)) ?_
  refine va_sld hx hb hX hbl hbA hS (vp_in_nI (show i + 2 < L by omega) (by omega)) dL_law_1231 ?_
  refine nmI (z := xs (i + 2)) (by rw [nI_clamp (by omega)]) ?_
  refine lv_aload_n hx hb dL_law_1232 rfl (lv_at hl 1 rfl) ?_
  refine lv_iload_n hx hb dL_law_1233 rfl (lv_at hl 0 rfl) ?_
  refine lv_iconst (v := 3) hx hb dL_law_1234 (by decide) ?_
  refine lv_iadd hx hb dL_law_1235 ?_
  refine nmI (nI_p i 3 (by decide)) ?_
  refine va_sld hx hb hX hbl hbA hS (vp_in_nI (show i + 3 < L by omega) (by omega)) dL_law_1236 ?_
  refine nmI (z := xs (i + 3)) (by rw [nI_clamp (by omega)]) ?_
  refine cI hP hD hS hA hE (fun hPc hDc hSc => rV (As := [.int (xs (i + 1)), .int (xs (i + 2)), .int (xs (i + 3))]) (rest := []) hx hb hml hown hts hK (c_X9_lots l g a0 (p6_raws (p9_now s9)) (p6_kinds (p9_now s9)) (p6_figures (p9_now s9)) (p6_heavies (p9_now s9)) (p6_places (p9_now s9)) (p6_papers (p9_now s9)) (p6_lowers (p9_now s9)) (p6_uppers (p9_now s9)) (p6_rules (p9_now s9)) (p6_bounds (p9_now s9)) (p6_boundCount (p9_now s9)) (p6_tieWay (p9_now s9)) (p6_reached (p9_now s9)) (p6_raws (p9_kept s9)) (p6_kinds (p9_kept s9)) (p6_figures (p9_kept s9)) (p6_heavies (p9_kept s9)) (p6_places (p9_kept s9)) (p6_papers (p9_kept s9)) (p6_lowers (p9_kept s9)) (p6_uppers (p9_kept s9)) (p6_rules (p9_kept s9)) (p6_bounds (p9_kept s9)) (p6_boundCount (p9_kept s9)) (p6_tieWay (p9_kept s9)) (p6_reached (p9_kept s9)) (p6_raws (p9_spare s9)) (p6_kinds (p9_spare s9)) (p6_figures (p9_spare s9)) (p6_heavies (p9_spare s9)) (p6_places (p9_spare s9)) (p6_papers (p9_spare s9)) (p6_lowers (p9_spare s9)) (p6_uppers (p9_spare s9)) (p6_rules (p9_spare s9)) (p6_bounds (p9_spare s9)) (p6_boundCount (p9_spare s9)) (p6_tieWay (p9_spare s9)) (p6_reached (p9_spare s9)) (p9_isKept s9) (p3_signs (p9_letters s9)) (p3_numbers (p9_letters s9)) (p3_size (p9_letters s9)) (p3_at (p9_letters s9)) (p3_word (p9_letters s9)) (p9_told s9) (p9_toldCount s9) (p7_cells (p9_shelves s9)) (p7_sizes (p9_shelves s9)) (p7_made (p9_shelves s9)) (p9_refusals s9) (p5_overs (p9_order s9)) (p5_unders (p9_order s9)) (p5_marks (p9_order s9)) (p5_wrongs (p9_order s9)) (p5_papers (p9_order s9)) (p8_marks (p4_values (p9_standing s9))) (p8_weights (p4_values (p9_standing s9))) (p8_places (p4_values (p9_standing s9))) (p8_aboves (p4_values (p9_standing s9))) (p8_belows (p4_values (p9_standing s9))) (p1_above (p8_reduced (p4_values (p9_standing s9)))) (p1_below (p8_reduced (p4_values (p9_standing s9)))) (p8_papers (p4_values (p9_standing s9))) (p4_blocks (p9_standing s9)) (p4_tops (p9_standing s9)) (p4_bottoms (p9_standing s9)) (p4_blocksNow (p9_standing s9)) (p4_mergesDone (p9_standing s9)) (p4_loss (p9_standing s9)) (p8_marks (p0_values (p9_byRules s9))) (p8_weights (p0_values (p9_byRules s9))) (p8_places (p0_values (p9_byRules s9))) (p8_aboves (p0_values (p9_byRules s9))) (p8_belows (p0_values (p9_byRules s9))) (p1_above (p8_reduced (p0_values (p9_byRules s9)))) (p1_below (p8_reduced (p0_values (p9_byRules s9)))) (p8_papers (p0_values (p9_byRules s9))) (p5_overs (p0_order (p9_byRules s9))) (p5_unders (p0_order (p9_byRules s9))) (p5_marks (p0_order (p9_byRules s9))) (p5_wrongs (p0_order (p9_byRules s9))) (p5_papers (p0_order (p9_byRules s9))) (p0_sums (p9_byRules s9)) (p0_weighs (p9_byRules s9)) (p0_downs (p9_byRules s9)) (p1_above (p9_fraction s9)) (p1_below (p9_fraction s9)) (pSB_a (p9_said s9)) (pSB_m (p9_said s9)) (pSB_f (p9_said s9)) (pSB_l (p9_said s9)) (pSB_n (p9_said s9)) (xs (i + 1)) (xs (i + 2)) (xs (i + 3)) (by rw [hu]; exact Option.some_ne_none _)) svV_X9_lots kw1162 rfl rfl hPc hDc hSc rfl rfl hl.1 (Nat.le_of_ble_eq_true rfl) dL_law_1237 ⟨Nat.le_of_ble_eq_true rfl, Nat.le_of_ble_eq_true rfl, rfl, rfl, hcl, hsl⟩) [(0, 132)] rfl rfl rfl (fun _ => rfl) (fun w H locs ew nw hP hD hS => ?_)
  obtain rfl := Option.some.inj (hu.symm.trans ew)
  have hP : va_P g.1 vwCl (w9s a0 g (st_X9_lots s9 u) ++ w10s a1 g s10) H := hP
  have hD : va_D (fun q : Nat => s.heap.size ≤ q) (w9s a0 g (st_X9_lots s9 u) ++ w10s a1 g s10) := hD
  refine lv_aload_n hx hb dL_law_1240 rfl (lv_at hl 3 rfl) ?_
  refine lv_aload_n hx hb dL_law_1241 rfl (lv_at hl 1 rfl) ?_
  refine lv_iload_n hx hb dL_law_1242 rfl (lv_at hl 0 rfl) ?_
  refine lv_iconst (v := 1) hx hb dL_law_1243 (by decide) ?_
  refine lv_iadd hx hb dL_law_1244 ?_
  refine nmI (nI_p i 1 (by decide)) ?_
  refine va_sld hx hb hX hbl hbA hS (vp_in_nI (show i + 1 < L by omega) (by omega)) dL_law_1245 ?_
  refine nmI (z := xs (i + 1)) (by rw [nI_clamp (by omega)]) ?_
  refine lv_aload_n hx hb dL_law_1246 rfl (lv_at hl 1 rfl) ?_
  refine lv_iload_n hx hb dL_law_1247 rfl (lv_at hl 0 rfl) ?_
  refine lv_iconst (v := 2) hx hb dL_law_1248 (by decide) ?_
  refine lv_iadd hx hb dL_law_1249 ?_
  refine nmI (nI_p i 2 (by decide)) ?_
  refine va_sld hx hb hX hbl hbA hS (vp_in_nI (show i + 2 < L by omega) (by omega)) dL_law_1250 ?_
  refine nmI (z := xs (i + 2)) (by rw [nI_clamp (by omega)]) ?_
  refine lv_aload_n hx hb dL_law_1251 rfl (lv_at hl 1 rfl) ?_
  refine lv_iload_n hx hb dL_law_1252 rfl (lv_at hl 0 rfl) ?_
  refine lv_iconst (v := 3) hx hb dL_law_1253 (by decide) ?_
  refine lv_iadd hx hb dL_law_1254 ?_
  refine nmI (nI_p i 3 (by decide)) ?_
  refine va_sld hx hb hX hbl hbA hS (vp_in_nI (show i + 3 < L by omega) (by omega)) dL_law_1255 ?_
  refine nmI (z := xs (i + 3)) (by rw [nI_clamp (by omega)]) ?_
  refine cI hP hD hS hA hE (fun hPc hDc hSc => rV (As := [.int (xs (i + 1)), .int (xs (i + 2)), .int (xs (i + 3))]) (rest := [.int u.1]) hx hb hml hown hts hK (c_X10_lots l g a1 (p10_papers s10) (p10_raw s10) (p10_kind s10) (p10_figure s10) (p10_heavy s10) (p10_place s10) (p10_rules s10) (p10_lower s10) (p10_upper s10) (p10_limits s10) (p10_limit s10) (p10_ties s10) (p10_letter s10) (p10_letters s10) (p10_told s10) (p10_tolds s10) (p10_places s10) (p10_cell s10) (p10_refusals s10) (p10_imaged s10) (p10_hasImage s10) (p10_before s10) (p10_up s10) (p10_down s10) (p10_beneath s10) (p10_numberUp s10) (p10_numberDown s10) (p10_block s10) (p10_blocks s10) (p10_merged s10) (p10_valueUp s10) (p10_valueDown s10) (p10_said s10) (p10_saids s10) (p10_at s10) (p10_number s10) (xs (i + 1)) (xs (i + 2)) (xs (i + 3)) (by rw [hv]; exact Option.some_ne_none _)) svV_X10_lots kw1664 rfl rfl hPc hDc hSc rfl rfl hl.1 (Nat.le_of_ble_eq_true rfl) dL_law_1256 ⟨Nat.le_of_ble_eq_true rfl, Nat.le_of_ble_eq_true rfl, rfl, rfl, hcl, hsl⟩) [(132, 22)] rfl rfl rfl (fun _ => rfl) (fun w H locs ew nw hP hD hS => ?_)
  obtain rfl := Option.some.inj (hv.symm.trans ew)
  have hP : va_P g.1 vwCl (w9s a0 g (st_X9_lots s9 u) ++ w10s a1 g (st_X10_lots s10 v)) H := hP
  have hD : va_D (fun q : Nat => s.heap.size ≤ q) (w9s a0 g (st_X9_lots s9 u) ++ w10s a1 g (st_X10_lots s10 v)) := hD
  refine lv_icmp_eq (tgt := 1529) hx hb dL_law_1259 (by decide) (fun _ => ?_) (fun c => absurd he c)
  refine W.widen (k := cells + 24) (n := slots + 7200) (by omega) (by omega) ?_
  exact kk (st_X9_lots s9 u) (st_X10_lots s10 v) _ _ hR hP hD hS
/-- shelf -/
abbrev OP_shelf (Rel : T9 → T10 → Prop) : Prop := ∀ (s9 : T9) (s10 : T10) (p1 p2 : Int32), Rel s9 s10 → ∃ u v, m_X9_shelf s9 p1 p2 = some u ∧ m_X10_shelf s10 p1 p2 = some v ∧ u.1 = v.1 ∧ Rel (st_X9_shelf s9 u) (st_X10_shelf s10 v)
set_option maxHeartbeats 4000000 in
set_option maxRecDepth 100000 in
theorem law_shelf {p : Program} {e : Env} {s : State} {m : MethodId} {below : List Frame} {meth : Method} {c : Code} (l : Launch) (g : GG) (Rel : T9 → T10 → Prop) (hop : OP_shelf Rel) {b L : Nat} {xs : Nat → Int32} (hL : L ≤ 2560) (hx : p.tables.exec = Jvm.exec) (hb : c.code = code) (hml : c.maxLocals = 4) (hown : s.vm.findClass RL = some m.cls) (hts : ∀ w ∈ G, w.before #[Value.ref b] s = true) (hX : va_X b L xs s s.heap) (hbl : b < s.heap.size) (hK : NK g s) (hE : SK g (fun q : Nat => s.heap.size ≤ q) s s.heap) (a0 a1 : Nat → Nat) (i : Nat) (hi : i + 5 ≤ L) (s9 : T9) (s10 : T10) (hR : Rel s9 s10) {H : Heap} {locs : List Loc} {ls : Array Slot} {cells slots : Nat} (hcl0 : cells + 24 ≤ 600000) (hsl0 : slots + 7200 ≤ 7302250) (hP : va_P g.1 vwCl (w9s a0 g s9 ++ w10s a1 g s10) H) (hD : va_D (fun q : Nat => s.heap.size ≤ q) (w9s a0 g s9 ++ w10s a1 g s10)) (hS : va_S (fun q : Nat => s.heap.size ≤ q) s.heap H locs) (hl : lv_has ls 4 [(3, .int (nI i)), (0, .ref b), (1, .ref (a0 0)), (2, .ref (a1 0))])
    (kk : ∀ (s9 : T9) (s10 : T10) (H : Heap) (locs : List Loc), Rel s9 s10 → va_P g.1 vwCl (w9s a0 g s9 ++ w10s a1 g s10) H → va_D (fun q : Nat => s.heap.size ≤ q) (w9s a0 g s9 ++ w10s a1 g s10) → va_S (fun q : Nat => s.heap.size ≤ q) s.heap H locs → W p l e room_1 s m #[Value.ref b] below meth c H locs (cells + 24) (slots + 7200) (lw_Z below #[Value.ref b] s) (F0 m 1529 ls [])) :
    W p l e room_1 s m #[Value.ref b] below meth c H locs cells slots (lw_Z below #[Value.ref b] s) (F0 m 1264 ls []) := by
  have hA : ∀ q : Nat, s.heap.size ≤ q → (fun q : Nat => s.heap.size ≤ q) q := fun _ h => h
  have hbA : ¬ (fun q : Nat => s.heap.size ≤ q) b := Nat.not_le.mpr hbl
  have hcl : cells + 0 ≤ room_1.cells := by show cells + 0 ≤ 600000; omega
  have hsl : slots + 0 ≤ room_1.slots := by show slots + 0 ≤ 7302250; omega
  obtain ⟨u, v, hu, hv, he, hR⟩ := hop s9 s10 (xs (i + 1)) (xs (i + 2)) hR
  refine lv_aload_n hx hb dL_law_1264 rfl (lv_at hl 2 rfl) ?_
  refine lv_aload_n hx hb dL_law_1265 rfl (lv_at hl 1 rfl) ?_
  refine lv_iload_n hx hb dL_law_1266 rfl (lv_at hl 0 rfl) ?_
  refine lv_iconst (v := 1) hx hb dL_law_1267 (by decide) ?_
  refine lv_iadd hx hb dL_law_1268 ?_
  refine nmI (nI_p i 1 (by decide)) ?_
  refine va_sld hx hb hX hbl hbA hS (vp_in_nI (show i + 1 < L by omega) (by omega)) dL_law_1269 ?_
  refine nmI (z := xs (i + 1)) (by rw [nI_clamp (by omega)]) ?_
  refine lv_aload_n hx hb dL_law_1270 rfl (lv_at hl 1 rfl) ?_
  refine lv_iload_n hx hb dL_law_1271 rfl (lv_at hl 0 rfl) ?_
  refine lv_iconst (v := 2) hx hb dL_law_1272 (by decide) ?_
  refine lv_iadd hx hb dL_law_1273 ?_
  refine nmI (nI_p i 2 (by decide)) ?_
  refine va_sld hx hb hX hbl hbA hS (vp_in_nI (show i + 2 < L by omega) (by omega)) dL_law_1274 ?_
  refine nmI (z := xs (i + 2)) (by rw [nI_clamp (by omega)]) ?_
  refine cI hP hD hS hA hE (fun hPc hDc hSc => rV (As := [.int (xs (i + 1)), .int (xs (i + 2))]) (rest := []) hx hb hml hown hts hK (c_X9_shelf l g a0 (p6_raws (p9_now s9)) (p6_kinds (p9_now s9)) (p6_figures (p9_now s9)) (p6_heavies (p9_now s9)) (p6_places (p9_now s9)) (p6_papers (p9_now s9)) (p6_lowers (p9_now s9)) (p6_uppers (p9_now s9)) (p6_rules (p9_now s9)) (p6_bounds (p9_now s9)) (p6_boundCount (p9_now s9)) (p6_tieWay (p9_now s9)) (p6_reached (p9_now s9)) (p6_raws (p9_kept s9)) (p6_kinds (p9_kept s9)) (p6_figures (p9_kept s9)) (p6_heavies (p9_kept s9)) (p6_places (p9_kept s9)) (p6_papers (p9_kept s9)) (p6_lowers (p9_kept s9)) (p6_uppers (p9_kept s9)) (p6_rules (p9_kept s9)) (p6_bounds (p9_kept s9)) (p6_boundCount (p9_kept s9)) (p6_tieWay (p9_kept s9)) (p6_reached (p9_kept s9)) (p6_raws (p9_spare s9)) (p6_kinds (p9_spare s9)) (p6_figures (p9_spare s9)) (p6_heavies (p9_spare s9)) (p6_places (p9_spare s9)) (p6_papers (p9_spare s9)) (p6_lowers (p9_spare s9)) (p6_uppers (p9_spare s9)) (p6_rules (p9_spare s9)) (p6_bounds (p9_spare s9)) (p6_boundCount (p9_spare s9)) (p6_tieWay (p9_spare s9)) (p6_reached (p9_spare s9)) (p9_isKept s9) (p3_signs (p9_letters s9)) (p3_numbers (p9_letters s9)) (p3_size (p9_letters s9)) (p3_at (p9_letters s9)) (p3_word (p9_letters s9)) (p9_told s9) (p9_toldCount s9) (p7_cells (p9_shelves s9)) (p7_sizes (p9_shelves s9)) (p7_made (p9_shelves s9)) (p9_refusals s9) (p5_overs (p9_order s9)) (p5_unders (p9_order s9)) (p5_marks (p9_order s9)) (p5_wrongs (p9_order s9)) (p5_papers (p9_order s9)) (p8_marks (p4_values (p9_standing s9))) (p8_weights (p4_values (p9_standing s9))) (p8_places (p4_values (p9_standing s9))) (p8_aboves (p4_values (p9_standing s9))) (p8_belows (p4_values (p9_standing s9))) (p1_above (p8_reduced (p4_values (p9_standing s9)))) (p1_below (p8_reduced (p4_values (p9_standing s9)))) (p8_papers (p4_values (p9_standing s9))) (p4_blocks (p9_standing s9)) (p4_tops (p9_standing s9)) (p4_bottoms (p9_standing s9)) (p4_blocksNow (p9_standing s9)) (p4_mergesDone (p9_standing s9)) (p4_loss (p9_standing s9)) (p8_marks (p0_values (p9_byRules s9))) (p8_weights (p0_values (p9_byRules s9))) (p8_places (p0_values (p9_byRules s9))) (p8_aboves (p0_values (p9_byRules s9))) (p8_belows (p0_values (p9_byRules s9))) (p1_above (p8_reduced (p0_values (p9_byRules s9)))) (p1_below (p8_reduced (p0_values (p9_byRules s9)))) (p8_papers (p0_values (p9_byRules s9))) (p5_overs (p0_order (p9_byRules s9))) (p5_unders (p0_order (p9_byRules s9))) (p5_marks (p0_order (p9_byRules s9))) (p5_wrongs (p0_order (p9_byRules s9))) (p5_papers (p0_order (p9_byRules s9))) (p0_sums (p9_byRules s9)) (p0_weighs (p9_byRules s9)) (p0_downs (p9_byRules s9)) (p1_above (p9_fraction s9)) (p1_below (p9_fraction s9)) (pSB_a (p9_said s9)) (pSB_m (p9_said s9)) (pSB_f (p9_said s9)) (pSB_l (p9_said s9)) (pSB_n (p9_said s9)) (xs (i + 1)) (xs (i + 2)) (by rw [hu]; exact Option.some_ne_none _)) svV_X9_shelf kw1181 rfl rfl hPc hDc hSc rfl rfl hl.1 (Nat.le_of_ble_eq_true rfl) dL_law_1275 ⟨Nat.le_of_ble_eq_true rfl, Nat.le_of_ble_eq_true rfl, rfl, rfl, hcl, hsl⟩) [(0, 132)] rfl rfl rfl (fun _ => rfl) (fun w H locs ew nw hP hD hS => ?_)
  obtain rfl := Option.some.inj (hu.symm.trans ew)
  have hP : va_P g.1 vwCl (w9s a0 g (st_X9_shelf s9 u) ++ w10s a1 g s10) H := hP
  have hD : va_D (fun q : Nat => s.heap.size ≤ q) (w9s a0 g (st_X9_shelf s9 u) ++ w10s a1 g s10) := hD
  refine lv_aload_n hx hb dL_law_1278 rfl (lv_at hl 3 rfl) ?_
  refine lv_aload_n hx hb dL_law_1279 rfl (lv_at hl 1 rfl) ?_
  refine lv_iload_n hx hb dL_law_1280 rfl (lv_at hl 0 rfl) ?_
  refine lv_iconst (v := 1) hx hb dL_law_1281 (by decide) ?_
  refine lv_iadd hx hb dL_law_1282 ?_
  refine nmI (nI_p i 1 (by decide)) ?_
  refine va_sld hx hb hX hbl hbA hS (vp_in_nI (show i + 1 < L by omega) (by omega)) dL_law_1283 ?_
  refine nmI (z := xs (i + 1)) (by rw [nI_clamp (by omega)]) ?_
  refine lv_aload_n hx hb dL_law_1284 rfl (lv_at hl 1 rfl) ?_
  refine lv_iload_n hx hb dL_law_1285 rfl (lv_at hl 0 rfl) ?_
  refine lv_iconst (v := 2) hx hb dL_law_1286 (by decide) ?_
  refine lv_iadd hx hb dL_law_1287 ?_
  refine nmI (nI_p i 2 (by decide)) ?_
  refine va_sld hx hb hX hbl hbA hS (vp_in_nI (show i + 2 < L by omega) (by omega)) dL_law_1288 ?_
  refine nmI (z := xs (i + 2)) (by rw [nI_clamp (by omega)]) ?_
  refine cI hP hD hS hA hE (fun hPc hDc hSc => rV (As := [.int (xs (i + 1)), .int (xs (i + 2))]) (rest := [.int u.1]) hx hb hml hown hts hK (c_X10_shelf l g a1 (p10_papers s10) (p10_raw s10) (p10_kind s10) (p10_figure s10) (p10_heavy s10) (p10_place s10) (p10_rules s10) (p10_lower s10) (p10_upper s10) (p10_limits s10) (p10_limit s10) (p10_ties s10) (p10_letter s10) (p10_letters s10) (p10_told s10) (p10_tolds s10) (p10_places s10) (p10_cell s10) (p10_refusals s10) (p10_imaged s10) (p10_hasImage s10) (p10_before s10) (p10_up s10) (p10_down s10) (p10_beneath s10) (p10_numberUp s10) (p10_numberDown s10) (p10_block s10) (p10_blocks s10) (p10_merged s10) (p10_valueUp s10) (p10_valueDown s10) (p10_said s10) (p10_saids s10) (p10_at s10) (p10_number s10) (xs (i + 1)) (xs (i + 2)) (by rw [hv]; exact Option.some_ne_none _)) svV_X10_shelf kw1680 rfl rfl hPc hDc hSc rfl rfl hl.1 (Nat.le_of_ble_eq_true rfl) dL_law_1289 ⟨Nat.le_of_ble_eq_true rfl, Nat.le_of_ble_eq_true rfl, rfl, rfl, hcl, hsl⟩) [(132, 22)] rfl rfl rfl (fun _ => rfl) (fun w H locs ew nw hP hD hS => ?_)
  obtain rfl := Option.some.inj (hv.symm.trans ew)
  have hP : va_P g.1 vwCl (w9s a0 g (st_X9_shelf s9 u) ++ w10s a1 g (st_X10_shelf s10 v)) H := hP
  have hD : va_D (fun q : Nat => s.heap.size ≤ q) (w9s a0 g (st_X9_shelf s9 u) ++ w10s a1 g (st_X10_shelf s10 v)) := hD
  refine lv_icmp_eq (tgt := 1529) hx hb dL_law_1292 (by decide) (fun _ => ?_) (fun c => absurd he c)
  refine W.widen (k := cells + 24) (n := slots + 7200) (by omega) (by omega) ?_
  exact kk (st_X9_shelf s9 u) (st_X10_shelf s10 v) _ _ hR hP hD hS
/-- put -/
abbrev OP_put (Rel : T9 → T10 → Prop) : Prop := ∀ (s9 : T9) (s10 : T10) (p1 : Int32) (p2 : Int32) (p3 : Int64), Rel s9 s10 → ∃ u v, m_X9_put s9 p1 p2 p3 = some u ∧ m_X10_put s10 p1 p2 p3 = some v ∧ u.1 = v.1 ∧ Rel (st_X9_put s9 u) (st_X10_put s10 v)
set_option maxHeartbeats 4000000 in
set_option maxRecDepth 100000 in
theorem law_put {p : Program} {e : Env} {s : State} {m : MethodId} {below : List Frame} {meth : Method} {c : Code} (l : Launch) (g : GG) (Rel : T9 → T10 → Prop) (hop : OP_put Rel) {b L : Nat} {xs : Nat → Int32} (hL : L ≤ 2560) (hx : p.tables.exec = Jvm.exec) (hb : c.code = code) (hml : c.maxLocals = 4) (hown : s.vm.findClass RL = some m.cls) (hts : ∀ w ∈ G, w.before #[Value.ref b] s = true) (hX : va_X b L xs s s.heap) (hbl : b < s.heap.size) (hK : NK g s) (hE : SK g (fun q : Nat => s.heap.size ≤ q) s s.heap) (a0 a1 : Nat → Nat) (i : Nat) (hi : i + 5 ≤ L) (s9 : T9) (s10 : T10) (hR : Rel s9 s10) {H : Heap} {locs : List Loc} {ls : Array Slot} {cells slots : Nat} (hcl0 : cells + 24 ≤ 600000) (hsl0 : slots + 7200 ≤ 7302250) (hP : va_P g.1 vwCl (w9s a0 g s9 ++ w10s a1 g s10) H) (hD : va_D (fun q : Nat => s.heap.size ≤ q) (w9s a0 g s9 ++ w10s a1 g s10)) (hS : va_S (fun q : Nat => s.heap.size ≤ q) s.heap H locs) (hl : lv_has ls 4 [(3, .int (nI i)), (0, .ref b), (1, .ref (a0 0)), (2, .ref (a1 0))])
    (kk : ∀ (s9 : T9) (s10 : T10) (H : Heap) (locs : List Loc), Rel s9 s10 → va_P g.1 vwCl (w9s a0 g s9 ++ w10s a1 g s10) H → va_D (fun q : Nat => s.heap.size ≤ q) (w9s a0 g s9 ++ w10s a1 g s10) → va_S (fun q : Nat => s.heap.size ≤ q) s.heap H locs → W p l e room_1 s m #[Value.ref b] below meth c H locs (cells + 24) (slots + 7200) (lw_Z below #[Value.ref b] s) (F0 m 1529 ls [])) :
    W p l e room_1 s m #[Value.ref b] below meth c H locs cells slots (lw_Z below #[Value.ref b] s) (F0 m 1297 ls []) := by
  have hA : ∀ q : Nat, s.heap.size ≤ q → (fun q : Nat => s.heap.size ≤ q) q := fun _ h => h
  have hbA : ¬ (fun q : Nat => s.heap.size ≤ q) b := Nat.not_le.mpr hbl
  have hcl : cells + 0 ≤ room_1.cells := by show cells + 0 ≤ 600000; omega
  have hsl : slots + 0 ≤ room_1.slots := by show slots + 0 ≤ 7302250; omega
  obtain ⟨u, v, hu, hv, he, hR⟩ := hop s9 s10 (xs (i + 1)) (xs (i + 2)) (((xs (i + 3)).toInt64 <<< ((32 : Int32).toInt64 &&& 63)) ||| ((xs (i + 4)).toInt64 &&& (4294967295 : Int64))) hR
  refine lv_aload_n hx hb dL_law_1297 rfl (lv_at hl 2 rfl) ?_
  refine lv_aload_n hx hb dL_law_1298 rfl (lv_at hl 1 rfl) ?_
  refine lv_iload_n hx hb dL_law_1299 rfl (lv_at hl 0 rfl) ?_
  refine lv_iconst (v := 1) hx hb dL_law_1300 (by decide) ?_
  refine lv_iadd hx hb dL_law_1301 ?_
  refine nmI (nI_p i 1 (by decide)) ?_
  refine va_sld hx hb hX hbl hbA hS (vp_in_nI (show i + 1 < L by omega) (by omega)) dL_law_1302 ?_
  refine nmI (z := xs (i + 1)) (by rw [nI_clamp (by omega)]) ?_
  refine lv_aload_n hx hb dL_law_1303 rfl (lv_at hl 1 rfl) ?_
  refine lv_iload_n hx hb dL_law_1304 rfl (lv_at hl 0 rfl) ?_
  refine lv_iconst (v := 2) hx hb dL_law_1305 (by decide) ?_
  refine lv_iadd hx hb dL_law_1306 ?_
  refine nmI (nI_p i 2 (by decide)) ?_
  refine va_sld hx hb hX hbl hbA hS (vp_in_nI (show i + 2 < L by omega) (by omega)) dL_law_1307 ?_
  refine nmI (z := xs (i + 2)) (by rw [nI_clamp (by omega)]) ?_
  refine lv_aload_n hx hb dL_law_1308 rfl (lv_at hl 1 rfl) ?_
  refine lv_iload_n hx hb dL_law_1309 rfl (lv_at hl 0 rfl) ?_
  refine lv_iconst (v := 3) hx hb dL_law_1310 (by decide) ?_
  refine lv_iadd hx hb dL_law_1311 ?_
  refine nmI (nI_p i 3 (by decide)) ?_
  refine va_sld hx hb hX hbl hbA hS (vp_in_nI (show i + 3 < L by omega) (by omega)) dL_law_1312 ?_
  refine nmI (z := xs (i + 3)) (by rw [nI_clamp (by omega)]) ?_
  refine lv_i2l (v := (xs (i + 3)).toInt64) hx hb dL_law_1313 rfl ?_
  refine lv_bipush (v := 32) hx hb dL_law_1314 (by decide) ?_
  refine lv_lshl (v := ((xs (i + 3)).toInt64 <<< ((32 : Int32).toInt64 &&& 63))) hx hb dL_law_1316 rfl ?_
  refine lv_aload_n hx hb dL_law_1317 rfl (lv_at hl 1 rfl) ?_
  refine lv_iload_n hx hb dL_law_1318 rfl (lv_at hl 0 rfl) ?_
  refine lv_iconst (v := 4) hx hb dL_law_1319 (by decide) ?_
  refine lv_iadd hx hb dL_law_1320 ?_
  refine nmI (nI_p i 4 (by decide)) ?_
  refine va_sld hx hb hX hbl hbA hS (vp_in_nI (show i + 4 < L by omega) (by omega)) dL_law_1321 ?_
  refine nmI (z := xs (i + 4)) (by rw [nI_clamp (by omega)]) ?_
  refine lv_i2l (v := (xs (i + 4)).toInt64) hx hb dL_law_1322 rfl ?_
  refine lv_ldc2 hx hb hown (hts _ kw1772) dL_law_1323 ?_
  refine lv_land hx hb dL_law_1326 ?_
  refine lv_lor hx hb dL_law_1327 ?_
  refine cI hP hD hS hA hE (fun hPc hDc hSc => rV (As := [.int (xs (i + 1)), .int (xs (i + 2)), .long (((xs (i + 3)).toInt64 <<< ((32 : Int32).toInt64 &&& 63)) ||| ((xs (i + 4)).toInt64 &&& (4294967295 : Int64)))]) (rest := []) hx hb hml hown hts hK (c_X9_put l g a0 (p6_raws (p9_now s9)) (p6_kinds (p9_now s9)) (p6_figures (p9_now s9)) (p6_heavies (p9_now s9)) (p6_places (p9_now s9)) (p6_papers (p9_now s9)) (p6_lowers (p9_now s9)) (p6_uppers (p9_now s9)) (p6_rules (p9_now s9)) (p6_bounds (p9_now s9)) (p6_boundCount (p9_now s9)) (p6_tieWay (p9_now s9)) (p6_reached (p9_now s9)) (p6_raws (p9_kept s9)) (p6_kinds (p9_kept s9)) (p6_figures (p9_kept s9)) (p6_heavies (p9_kept s9)) (p6_places (p9_kept s9)) (p6_papers (p9_kept s9)) (p6_lowers (p9_kept s9)) (p6_uppers (p9_kept s9)) (p6_rules (p9_kept s9)) (p6_bounds (p9_kept s9)) (p6_boundCount (p9_kept s9)) (p6_tieWay (p9_kept s9)) (p6_reached (p9_kept s9)) (p6_raws (p9_spare s9)) (p6_kinds (p9_spare s9)) (p6_figures (p9_spare s9)) (p6_heavies (p9_spare s9)) (p6_places (p9_spare s9)) (p6_papers (p9_spare s9)) (p6_lowers (p9_spare s9)) (p6_uppers (p9_spare s9)) (p6_rules (p9_spare s9)) (p6_bounds (p9_spare s9)) (p6_boundCount (p9_spare s9)) (p6_tieWay (p9_spare s9)) (p6_reached (p9_spare s9)) (p9_isKept s9) (p3_signs (p9_letters s9)) (p3_numbers (p9_letters s9)) (p3_size (p9_letters s9)) (p3_at (p9_letters s9)) (p3_word (p9_letters s9)) (p9_told s9) (p9_toldCount s9) (p7_cells (p9_shelves s9)) (p7_sizes (p9_shelves s9)) (p7_made (p9_shelves s9)) (p9_refusals s9) (p5_overs (p9_order s9)) (p5_unders (p9_order s9)) (p5_marks (p9_order s9)) (p5_wrongs (p9_order s9)) (p5_papers (p9_order s9)) (p8_marks (p4_values (p9_standing s9))) (p8_weights (p4_values (p9_standing s9))) (p8_places (p4_values (p9_standing s9))) (p8_aboves (p4_values (p9_standing s9))) (p8_belows (p4_values (p9_standing s9))) (p1_above (p8_reduced (p4_values (p9_standing s9)))) (p1_below (p8_reduced (p4_values (p9_standing s9)))) (p8_papers (p4_values (p9_standing s9))) (p4_blocks (p9_standing s9)) (p4_tops (p9_standing s9)) (p4_bottoms (p9_standing s9)) (p4_blocksNow (p9_standing s9)) (p4_mergesDone (p9_standing s9)) (p4_loss (p9_standing s9)) (p8_marks (p0_values (p9_byRules s9))) (p8_weights (p0_values (p9_byRules s9))) (p8_places (p0_values (p9_byRules s9))) (p8_aboves (p0_values (p9_byRules s9))) (p8_belows (p0_values (p9_byRules s9))) (p1_above (p8_reduced (p0_values (p9_byRules s9)))) (p1_below (p8_reduced (p0_values (p9_byRules s9)))) (p8_papers (p0_values (p9_byRules s9))) (p5_overs (p0_order (p9_byRules s9))) (p5_unders (p0_order (p9_byRules s9))) (p5_marks (p0_order (p9_byRules s9))) (p5_wrongs (p0_order (p9_byRules s9))) (p5_papers (p0_order (p9_byRules s9))) (p0_sums (p9_byRules s9)) (p0_weighs (p9_byRules s9)) (p0_downs (p9_byRules s9)) (p1_above (p9_fraction s9)) (p1_below (p9_fraction s9)) (pSB_a (p9_said s9)) (pSB_m (p9_said s9)) (pSB_f (p9_said s9)) (pSB_l (p9_said s9)) (pSB_n (p9_said s9)) (xs (i + 1)) (xs (i + 2)) (((xs (i + 3)).toInt64 <<< ((32 : Int32).toInt64 &&& 63)) ||| ((xs (i + 4)).toInt64 &&& (4294967295 : Int64))) (by rw [hu]; exact Option.some_ne_none _)) svV_X9_put kw1198 rfl rfl hPc hDc hSc rfl rfl hl.1 (Nat.le_of_ble_eq_true rfl) dL_law_1328 ⟨Nat.le_of_ble_eq_true rfl, Nat.le_of_ble_eq_true rfl, rfl, rfl, hcl, hsl⟩) [(0, 132)] rfl rfl rfl (fun _ => rfl) (fun w H locs ew nw hP hD hS => ?_)
  obtain rfl := Option.some.inj (hu.symm.trans ew)
  have hP : va_P g.1 vwCl (w9s a0 g (st_X9_put s9 u) ++ w10s a1 g s10) H := hP
  have hD : va_D (fun q : Nat => s.heap.size ≤ q) (w9s a0 g (st_X9_put s9 u) ++ w10s a1 g s10) := hD
  refine lv_aload_n hx hb dL_law_1331 rfl (lv_at hl 3 rfl) ?_
  refine lv_aload_n hx hb dL_law_1332 rfl (lv_at hl 1 rfl) ?_
  refine lv_iload_n hx hb dL_law_1333 rfl (lv_at hl 0 rfl) ?_
  refine lv_iconst (v := 1) hx hb dL_law_1334 (by decide) ?_
  refine lv_iadd hx hb dL_law_1335 ?_
  refine nmI (nI_p i 1 (by decide)) ?_
  refine va_sld hx hb hX hbl hbA hS (vp_in_nI (show i + 1 < L by omega) (by omega)) dL_law_1336 ?_
  refine nmI (z := xs (i + 1)) (by rw [nI_clamp (by omega)]) ?_
  refine lv_aload_n hx hb dL_law_1337 rfl (lv_at hl 1 rfl) ?_
  refine lv_iload_n hx hb dL_law_1338 rfl (lv_at hl 0 rfl) ?_
  refine lv_iconst (v := 2) hx hb dL_law_1339 (by decide) ?_
  refine lv_iadd hx hb dL_law_1340 ?_
  refine nmI (nI_p i 2 (by decide)) ?_
  refine va_sld hx hb hX hbl hbA hS (vp_in_nI (show i + 2 < L by omega) (by omega)) dL_law_1341 ?_
  refine nmI (z := xs (i + 2)) (by rw [nI_clamp (by omega)]) ?_
  refine lv_aload_n hx hb dL_law_1342 rfl (lv_at hl 1 rfl) ?_
  refine lv_iload_n hx hb dL_law_1343 rfl (lv_at hl 0 rfl) ?_
  refine lv_iconst (v := 3) hx hb dL_law_1344 (by decide) ?_
  refine lv_iadd hx hb dL_law_1345 ?_
  refine nmI (nI_p i 3 (by decide)) ?_
  refine va_sld hx hb hX hbl hbA hS (vp_in_nI (show i + 3 < L by omega) (by omega)) dL_law_1346 ?_
  refine nmI (z := xs (i + 3)) (by rw [nI_clamp (by omega)]) ?_
  refine lv_i2l (v := (xs (i + 3)).toInt64) hx hb dL_law_1347 rfl ?_
  refine lv_bipush (v := 32) hx hb dL_law_1348 (by decide) ?_
  refine lv_lshl (v := ((xs (i + 3)).toInt64 <<< ((32 : Int32).toInt64 &&& 63))) hx hb dL_law_1350 rfl ?_
  refine lv_aload_n hx hb dL_law_1351 rfl (lv_at hl 1 rfl) ?_
  refine lv_iload_n hx hb dL_law_1352 rfl (lv_at hl 0 rfl) ?_
  refine lv_iconst (v := 4) hx hb dL_law_1353 (by decide) ?_
  refine lv_iadd hx hb dL_law_1354 ?_
  refine nmI (nI_p i 4 (by decide)) ?_
  refine va_sld hx hb hX hbl hbA hS (vp_in_nI (show i + 4 < L by omega) (by omega)) dL_law_1355 ?_
  refine nmI (z := xs (i + 4)) (by rw [nI_clamp (by omega)]) ?_
  refine lv_i2l (v := (xs (i + 4)).toInt64) hx hb dL_law_1356 rfl ?_
  refine lv_ldc2 hx hb hown (hts _ kw1772) dL_law_1357 ?_
  refine lv_land hx hb dL_law_1360 ?_
  refine lv_lor hx hb dL_law_1361 ?_
  refine cI hP hD hS hA hE (fun hPc hDc hSc => rV (As := [.int (xs (i + 1)), .int (xs (i + 2)), .long (((xs (i + 3)).toInt64 <<< ((32 : Int32).toInt64 &&& 63)) ||| ((xs (i + 4)).toInt64 &&& (4294967295 : Int64)))]) (rest := [.int u.1]) hx hb hml hown hts hK (c_X10_put l g a1 (p10_papers s10) (p10_raw s10) (p10_kind s10) (p10_figure s10) (p10_heavy s10) (p10_place s10) (p10_rules s10) (p10_lower s10) (p10_upper s10) (p10_limits s10) (p10_limit s10) (p10_ties s10) (p10_letter s10) (p10_letters s10) (p10_told s10) (p10_tolds s10) (p10_places s10) (p10_cell s10) (p10_refusals s10) (p10_imaged s10) (p10_hasImage s10) (p10_before s10) (p10_up s10) (p10_down s10) (p10_beneath s10) (p10_numberUp s10) (p10_numberDown s10) (p10_block s10) (p10_blocks s10) (p10_merged s10) (p10_valueUp s10) (p10_valueDown s10) (p10_said s10) (p10_saids s10) (p10_at s10) (p10_number s10) (xs (i + 1)) (xs (i + 2)) (((xs (i + 3)).toInt64 <<< ((32 : Int32).toInt64 &&& 63)) ||| ((xs (i + 4)).toInt64 &&& (4294967295 : Int64))) (by rw [hv]; exact Option.some_ne_none _)) svV_X10_put kw1687 rfl rfl hPc hDc hSc rfl rfl hl.1 (Nat.le_of_ble_eq_true rfl) dL_law_1362 ⟨Nat.le_of_ble_eq_true rfl, Nat.le_of_ble_eq_true rfl, rfl, rfl, hcl, hsl⟩) [(132, 22)] rfl rfl rfl (fun _ => rfl) (fun w H locs ew nw hP hD hS => ?_)
  obtain rfl := Option.some.inj (hv.symm.trans ew)
  have hP : va_P g.1 vwCl (w9s a0 g (st_X9_put s9 u) ++ w10s a1 g (st_X10_put s10 v)) H := hP
  have hD : va_D (fun q : Nat => s.heap.size ≤ q) (w9s a0 g (st_X9_put s9 u) ++ w10s a1 g (st_X10_put s10 v)) := hD
  refine lv_icmp_eq (tgt := 1529) hx hb dL_law_1365 (by decide) (fun _ => ?_) (fun c => absurd he c)
  refine W.widen (k := cells + 24) (n := slots + 7200) (by omega) (by omega) ?_
  exact kk (st_X9_put s9 u) (st_X10_put s10 v) _ _ hR hP hD hS
