/-! decode rows of the law (by program: wip/whole/gen_law1.py) -/
theorem dl_1096 : decode code 1096 = .ok (.if_icmp .eq 166, 3) := by decide +kernel
theorem dl_1099 : decode code 1099 = .ok (.iconst 0, 1) := by decide +kernel
theorem dl_1100 : decode code 1100 = .ok (.ireturn, 1) := by decide +kernel
theorem dl_1101 : decode code 1101 = .ok (.aload_n 1, 1) := by decide +kernel
theorem dl_1102 : decode code 1102 = .ok (.aload_n 0, 1) := by decide +kernel
theorem dl_1103 : decode code 1103 = .ok (.iload_n 3, 1) := by decide +kernel
theorem dl_1104 : decode code 1104 = .ok (.iconst 1, 1) := by decide +kernel
theorem dl_1105 : decode code 1105 = .ok (.iadd, 1) := by decide +kernel
theorem dl_1106 : decode code 1106 = .ok (.iaload, 1) := by decide +kernel
theorem dl_1107 : decode code 1107 = .ok (.invokevirtual 120, 3) := by decide +kernel
theorem dl_1110 : decode code 1110 = .ok (.aload_n 2, 1) := by decide +kernel
theorem dl_1111 : decode code 1111 = .ok (.aload_n 0, 1) := by decide +kernel
theorem dl_1112 : decode code 1112 = .ok (.iload_n 3, 1) := by decide +kernel
theorem dl_1113 : decode code 1113 = .ok (.iconst 1, 1) := by decide +kernel
theorem dl_1114 : decode code 1114 = .ok (.iadd, 1) := by decide +kernel
theorem dl_1115 : decode code 1115 = .ok (.iaload, 1) := by decide +kernel
theorem dl_1116 : decode code 1116 = .ok (.invokevirtual 123, 3) := by decide +kernel
theorem dl_1119 : decode code 1119 = .ok (.if_icmp .eq 143, 3) := by decide +kernel
theorem dl_1122 : decode code 1122 = .ok (.iconst 0, 1) := by decide +kernel
theorem dl_1123 : decode code 1123 = .ok (.ireturn, 1) := by decide +kernel
theorem dl_1124 : decode code 1124 = .ok (.aload_n 1, 1) := by decide +kernel
theorem dl_1125 : decode code 1125 = .ok (.aload_n 0, 1) := by decide +kernel
theorem dl_1126 : decode code 1126 = .ok (.iload_n 3, 1) := by decide +kernel
theorem dl_1127 : decode code 1127 = .ok (.iconst 1, 1) := by decide +kernel
theorem dl_1128 : decode code 1128 = .ok (.iadd, 1) := by decide +kernel
theorem dl_1129 : decode code 1129 = .ok (.iaload, 1) := by decide +kernel
theorem dl_1130 : decode code 1130 = .ok (.invokevirtual 124, 3) := by decide +kernel
theorem dl_1133 : decode code 1133 = .ok (.aload_n 2, 1) := by decide +kernel
theorem dl_1134 : decode code 1134 = .ok (.aload_n 0, 1) := by decide +kernel
theorem dl_1135 : decode code 1135 = .ok (.iload_n 3, 1) := by decide +kernel
theorem dl_1136 : decode code 1136 = .ok (.iconst 1, 1) := by decide +kernel
theorem dl_1137 : decode code 1137 = .ok (.iadd, 1) := by decide +kernel
theorem dl_1138 : decode code 1138 = .ok (.iaload, 1) := by decide +kernel
theorem dl_1139 : decode code 1139 = .ok (.invokevirtual 127, 3) := by decide +kernel
theorem dl_1142 : decode code 1142 = .ok (.if_icmp .eq 120, 3) := by decide +kernel
theorem dl_1145 : decode code 1145 = .ok (.iconst 0, 1) := by decide +kernel
theorem dl_1146 : decode code 1146 = .ok (.ireturn, 1) := by decide +kernel
theorem dl_1147 : decode code 1147 = .ok (.aload_n 1, 1) := by decide +kernel
theorem dl_1148 : decode code 1148 = .ok (.invokevirtual 128, 3) := by decide +kernel
theorem dl_1151 : decode code 1151 = .ok (.aload_n 2, 1) := by decide +kernel
theorem dl_1152 : decode code 1152 = .ok (.invokevirtual 131, 3) := by decide +kernel
theorem dl_1155 : decode code 1155 = .ok (.if_icmp .eq 107, 3) := by decide +kernel
theorem dl_1158 : decode code 1158 = .ok (.iconst 0, 1) := by decide +kernel
theorem dl_1159 : decode code 1159 = .ok (.ireturn, 1) := by decide +kernel
theorem dl_1160 : decode code 1160 = .ok (.aload_n 1, 1) := by decide +kernel
theorem dl_1161 : decode code 1161 = .ok (.invokevirtual 132, 3) := by decide +kernel
theorem dl_1164 : decode code 1164 = .ok (.aload_n 2, 1) := by decide +kernel
theorem dl_1165 : decode code 1165 = .ok (.invokevirtual 135, 3) := by decide +kernel
theorem dl_1168 : decode code 1168 = .ok (.if_icmp .eq 94, 3) := by decide +kernel
theorem dl_1171 : decode code 1171 = .ok (.iconst 0, 1) := by decide +kernel
theorem dl_1172 : decode code 1172 = .ok (.ireturn, 1) := by decide +kernel
theorem dl_1173 : decode code 1173 = .ok (.aload_n 1, 1) := by decide +kernel
theorem dl_1174 : decode code 1174 = .ok (.aload_n 0, 1) := by decide +kernel
theorem dl_1175 : decode code 1175 = .ok (.iload_n 3, 1) := by decide +kernel
theorem dl_1176 : decode code 1176 = .ok (.iconst 1, 1) := by decide +kernel
theorem dl_1177 : decode code 1177 = .ok (.iadd, 1) := by decide +kernel
theorem dl_1178 : decode code 1178 = .ok (.iaload, 1) := by decide +kernel
theorem dl_1179 : decode code 1179 = .ok (.ifCond .eq 7, 3) := by decide +kernel
theorem dl_1182 : decode code 1182 = .ok (.iconst 1, 1) := by decide +kernel
theorem dl_1183 : decode code 1183 = .ok (.goto 4, 3) := by decide +kernel
theorem dl_1186 : decode code 1186 = .ok (.iconst 0, 1) := by decide +kernel
theorem dl_1187 : decode code 1187 = .ok (.invokevirtual 136, 3) := by decide +kernel
theorem dl_1190 : decode code 1190 = .ok (.aload_n 2, 1) := by decide +kernel
theorem dl_1191 : decode code 1191 = .ok (.aload_n 0, 1) := by decide +kernel
theorem dl_1192 : decode code 1192 = .ok (.iload_n 3, 1) := by decide +kernel
theorem dl_1193 : decode code 1193 = .ok (.iconst 1, 1) := by decide +kernel
theorem dl_1194 : decode code 1194 = .ok (.iadd, 1) := by decide +kernel
theorem dl_1195 : decode code 1195 = .ok (.iaload, 1) := by decide +kernel
theorem dl_1196 : decode code 1196 = .ok (.ifCond .eq 7, 3) := by decide +kernel
theorem dl_1199 : decode code 1199 = .ok (.iconst 1, 1) := by decide +kernel
theorem dl_1200 : decode code 1200 = .ok (.goto 4, 3) := by decide +kernel
theorem dl_1203 : decode code 1203 = .ok (.iconst 0, 1) := by decide +kernel
theorem dl_1204 : decode code 1204 = .ok (.invokevirtual 140, 3) := by decide +kernel
theorem dl_1207 : decode code 1207 = .ok (.lcmp, 1) := by decide +kernel
theorem dl_1208 : decode code 1208 = .ok (.ifCond .eq 54, 3) := by decide +kernel
theorem dl_1211 : decode code 1211 = .ok (.iconst 0, 1) := by decide +kernel
theorem dl_1212 : decode code 1212 = .ok (.ireturn, 1) := by decide +kernel
theorem dl_1213 : decode code 1213 = .ok (.aload_n 1, 1) := by decide +kernel
theorem dl_1214 : decode code 1214 = .ok (.invokevirtual 141, 3) := by decide +kernel
theorem dl_1217 : decode code 1217 = .ok (.aload_n 2, 1) := by decide +kernel
theorem dl_1218 : decode code 1218 = .ok (.invokevirtual 144, 3) := by decide +kernel
theorem dl_1221 : decode code 1221 = .ok (.if_icmp .eq 41, 3) := by decide +kernel
theorem dl_1224 : decode code 1224 = .ok (.iconst 0, 1) := by decide +kernel
theorem dl_1225 : decode code 1225 = .ok (.ireturn, 1) := by decide +kernel
theorem dl_1226 : decode code 1226 = .ok (.aload_n 1, 1) := by decide +kernel
theorem dl_1227 : decode code 1227 = .ok (.invokevirtual 145, 3) := by decide +kernel
theorem dl_1230 : decode code 1230 = .ok (.aload_n 2, 1) := by decide +kernel
theorem dl_1231 : decode code 1231 = .ok (.invokevirtual 148, 3) := by decide +kernel
theorem dl_1234 : decode code 1234 = .ok (.if_icmp .eq 28, 3) := by decide +kernel
theorem dl_1237 : decode code 1237 = .ok (.iconst 0, 1) := by decide +kernel
theorem dl_1238 : decode code 1238 = .ok (.ireturn, 1) := by decide +kernel
theorem dl_1239 : decode code 1239 = .ok (.aload_n 1, 1) := by decide +kernel
theorem dl_1240 : decode code 1240 = .ok (.aload_n 0, 1) := by decide +kernel
theorem dl_1241 : decode code 1241 = .ok (.iload_n 3, 1) := by decide +kernel
theorem dl_1242 : decode code 1242 = .ok (.iconst 1, 1) := by decide +kernel
theorem dl_1243 : decode code 1243 = .ok (.iadd, 1) := by decide +kernel
theorem dl_1244 : decode code 1244 = .ok (.iaload, 1) := by decide +kernel
theorem dl_1245 : decode code 1245 = .ok (.invokevirtual 149, 3) := by decide +kernel
theorem dl_1248 : decode code 1248 = .ok (.aload_n 2, 1) := by decide +kernel
theorem dl_1249 : decode code 1249 = .ok (.aload_n 0, 1) := by decide +kernel
theorem dl_1250 : decode code 1250 = .ok (.iload_n 3, 1) := by decide +kernel
theorem dl_1251 : decode code 1251 = .ok (.iconst 1, 1) := by decide +kernel
theorem dl_1252 : decode code 1252 = .ok (.iadd, 1) := by decide +kernel
theorem dl_1253 : decode code 1253 = .ok (.iaload, 1) := by decide +kernel
theorem dl_1254 : decode code 1254 = .ok (.invokevirtual 152, 3) := by decide +kernel
theorem dl_1257 : decode code 1257 = .ok (.if_icmp .eq 5, 3) := by decide +kernel
theorem dl_1260 : decode code 1260 = .ok (.iconst 0, 1) := by decide +kernel
theorem dl_1261 : decode code 1261 = .ok (.ireturn, 1) := by decide +kernel
theorem dl_1262 : decode code 1262 = .ok (.iinc 3 6, 3) := by decide +kernel
theorem dl_1265 : decode code 1265 = .ok (.goto (-1247), 3) := by decide +kernel
theorem dl_1268 : decode code 1268 = .ok (.iconst 1, 1) := by decide +kernel
theorem dl_1269 : decode code 1269 = .ok (.ireturn, 1) := by decide +kernel
