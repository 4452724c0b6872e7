theorem dL_law_1093 : decode cL_law 1093 = .ok (.ifCond .eq 22, 3) := by decide +kernel
theorem dL_law_1096 : decode cL_law 1096 = .ok (.aload 4, 2) := by decide +kernel
theorem dL_law_1098 : decode cL_law 1098 = .ok (.iconst 2, 1) := by decide +kernel
theorem dL_law_1099 : decode cL_law 1099 = .ok (.iload 20, 2) := by decide +kernel
theorem dL_law_1101 : decode cL_law 1101 = .ok (.imul, 1) := by decide +kernel
theorem dL_law_1102 : decode cL_law 1102 = .ok (.iaload, 1) := by decide +kernel
theorem dL_law_1103 : decode cL_law 1103 = .ok (.iload 10, 2) := by decide +kernel
theorem dL_law_1105 : decode cL_law 1105 = .ok (.aload_n 3, 1) := by decide +kernel
theorem dL_law_1106 : decode cL_law 1106 = .ok (.invokestatic 53, 3) := by decide +kernel
theorem dL_law_1109 : decode cL_law 1109 = .ok (.ifCond .eq 23, 3) := by decide +kernel
theorem dL_law_1112 : decode cL_law 1112 = .ok (.goto 10, 3) := by decide +kernel
theorem dL_law_1115 : decode cL_law 1115 = .ok (.iload 20, 2) := by decide +kernel
theorem dL_law_1117 : decode cL_law 1117 = .ok (.iload 14, 2) := by decide +kernel
theorem dL_law_1119 : decode cL_law 1119 = .ok (.if_icmp .ne 13, 3) := by decide +kernel
theorem dL_law_1122 : decode cL_law 1122 = .ok (.aload 4, 2) := by decide +kernel
theorem dL_law_1124 : decode cL_law 1124 = .ok (.iconst 2, 1) := by decide +kernel
theorem dL_law_1125 : decode cL_law 1125 = .ok (.iload 20, 2) := by decide +kernel
theorem dL_law_1127 : decode cL_law 1127 = .ok (.imul, 1) := by decide +kernel
theorem dL_law_1128 : decode cL_law 1128 = .ok (.iconst 1, 1) := by decide +kernel
theorem dL_law_1129 : decode cL_law 1129 = .ok (.iadd, 1) := by decide +kernel
theorem dL_law_1130 : decode cL_law 1130 = .ok (.iconst 0, 1) := by decide +kernel
theorem dL_law_1131 : decode cL_law 1131 = .ok (.iastore, 1) := by decide +kernel
theorem dL_law_1132 : decode cL_law 1132 = .ok (.iinc 20 1, 3) := by decide +kernel
theorem dL_law_1135 : decode cL_law 1135 = .ok (.goto (-52), 3) := by decide +kernel
theorem dL_law_1138 : decode cL_law 1138 = .ok (.iconst 0, 1) := by decide +kernel
theorem dL_law_1139 : decode cL_law 1139 = .ok (.istore 20, 2) := by decide +kernel
theorem dL_law_1141 : decode cL_law 1141 = .ok (.iload 20, 2) := by decide +kernel
theorem dL_law_1143 : decode cL_law 1143 = .ok (.aload_n 2, 1) := by decide +kernel
theorem dL_law_1144 : decode cL_law 1144 = .ok (.iconst 1, 1) := by decide +kernel
theorem dL_law_1145 : decode cL_law 1145 = .ok (.iaload, 1) := by decide +kernel
theorem dL_law_1146 : decode cL_law 1146 = .ok (.if_icmp .ge 34, 3) := by decide +kernel
theorem dL_law_1149 : decode cL_law 1149 = .ok (.iload 13, 2) := by decide +kernel
theorem dL_law_1151 : decode cL_law 1151 = .ok (.ifCond .eq 29, 3) := by decide +kernel
theorem dL_law_1154 : decode cL_law 1154 = .ok (.iload 20, 2) := by decide +kernel
theorem dL_law_1156 : decode cL_law 1156 = .ok (.iload 10, 2) := by decide +kernel
theorem dL_law_1158 : decode cL_law 1158 = .ok (.aload_n 3, 1) := by decide +kernel
theorem dL_law_1159 : decode cL_law 1159 = .ok (.invokestatic 53, 3) := by decide +kernel
theorem dL_law_1162 : decode cL_law 1162 = .ok (.ifCond .eq 12, 3) := by decide +kernel
theorem dL_law_1165 : decode cL_law 1165 = .ok (.aload_n 3, 1) := by decide +kernel
theorem dL_law_1166 : decode cL_law 1166 = .ok (.iconst 4, 1) := by decide +kernel
theorem dL_law_1167 : decode cL_law 1167 = .ok (.iload 20, 2) := by decide +kernel
theorem dL_law_1169 : decode cL_law 1169 = .ok (.imul, 1) := by decide +kernel
theorem dL_law_1170 : decode cL_law 1170 = .ok (.iconst 1, 1) := by decide +kernel
theorem dL_law_1171 : decode cL_law 1171 = .ok (.iadd, 1) := by decide +kernel
theorem dL_law_1172 : decode cL_law 1172 = .ok (.iconst 0, 1) := by decide +kernel
theorem dL_law_1173 : decode cL_law 1173 = .ok (.iastore, 1) := by decide +kernel
theorem dL_law_1174 : decode cL_law 1174 = .ok (.iinc 20 1, 3) := by decide +kernel
theorem dL_law_1177 : decode cL_law 1177 = .ok (.goto (-36), 3) := by decide +kernel
theorem dL_law_1180 : decode cL_law 1180 = .ok (.iconst (-1), 1) := by decide +kernel
theorem dL_law_1181 : decode cL_law 1181 = .ok (.aload_n 2, 1) := by decide +kernel
theorem dL_law_1182 : decode cL_law 1182 = .ok (.aload_n 3, 1) := by decide +kernel
theorem dL_law_1183 : decode cL_law 1183 = .ok (.aload 4, 2) := by decide +kernel
theorem dL_law_1185 : decode cL_law 1185 = .ok (.aload 5, 2) := by decide +kernel
theorem dL_law_1187 : decode cL_law 1187 = .ok (.invokestatic 32, 3) := by decide +kernel
theorem dL_law_1190 : decode cL_law 1190 = .ok (.iload 15, 2) := by decide +kernel
theorem dL_law_1192 : decode cL_law 1192 = .ok (.aload_n 2, 1) := by decide +kernel
theorem dL_law_1193 : decode cL_law 1193 = .ok (.aload_n 3, 1) := by decide +kernel
theorem dL_law_1194 : decode cL_law 1194 = .ok (.aload 4, 2) := by decide +kernel
theorem dL_law_1196 : decode cL_law 1196 = .ok (.aload 5, 2) := by decide +kernel
theorem dL_law_1198 : decode cL_law 1198 = .ok (.invokestatic 120, 3) := by decide +kernel
theorem dL_law_1201 : decode cL_law 1201 = .ok (.iload 17, 2) := by decide +kernel
theorem dL_law_1203 : decode cL_law 1203 = .ok (.if_icmp .eq 5, 3) := by decide +kernel
theorem dL_law_1206 : decode cL_law 1206 = .ok (.iconst 0, 1) := by decide +kernel
theorem dL_law_1207 : decode cL_law 1207 = .ok (.ireturn, 1) := by decide +kernel
theorem dL_law_1208 : decode cL_law 1208 = .ok (.aload_n 1, 1) := by decide +kernel
theorem dL_law_1209 : decode cL_law 1209 = .ok (.iload 8, 2) := by decide +kernel
theorem dL_law_1211 : decode cL_law 1211 = .ok (.iconst 2, 1) := by decide +kernel
theorem dL_law_1212 : decode cL_law 1212 = .ok (.ishr, 1) := by decide +kernel
theorem dL_law_1213 : decode cL_law 1213 = .ok (.aload_n 2, 1) := by decide +kernel
theorem dL_law_1214 : decode cL_law 1214 = .ok (.aload_n 3, 1) := by decide +kernel
theorem dL_law_1215 : decode cL_law 1215 = .ok (.aload 4, 2) := by decide +kernel
theorem dL_law_1217 : decode cL_law 1217 = .ok (.aload 5, 2) := by decide +kernel
theorem dL_law_1219 : decode cL_law 1219 = .ok (.aload 6, 2) := by decide +kernel
theorem dL_law_1221 : decode cL_law 1221 = .ok (.invokestatic 123, 3) := by decide +kernel
theorem dL_law_1224 : decode cL_law 1224 = .ok (.ifCond .ne 5, 3) := by decide +kernel
theorem dL_law_1227 : decode cL_law 1227 = .ok (.iconst 0, 1) := by decide +kernel
theorem dL_law_1228 : decode cL_law 1228 = .ok (.ireturn, 1) := by decide +kernel
theorem dL_law_1229 : decode cL_law 1229 = .ok (.iinc 7 1, 3) := by decide +kernel
theorem dL_law_1232 : decode cL_law 1232 = .ok (.goto (-1190), 3) := by decide +kernel
theorem dL_law_1235 : decode cL_law 1235 = .ok (.iconst 1, 1) := by decide +kernel
theorem dL_law_1236 : decode cL_law 1236 = .ok (.ireturn, 1) := by decide +kernel
