/-! the law, instruction by instruction -/
theorem d_law_1000 : decode code 1000 = .ok (.invokevirtual 122, 3) := by decide +kernel
theorem d_law_1003 : decode code 1003 = .ok (.if_icmp .eq 423, 3) := by decide +kernel
theorem d_law_1006 : decode code 1006 = .ok (.iconst 0, 1) := by decide +kernel
theorem d_law_1007 : decode code 1007 = .ok (.ireturn, 1) := by decide +kernel
theorem d_law_1008 : decode code 1008 = .ok (.aload_n 1, 1) := by decide +kernel
theorem d_law_1009 : decode code 1009 = .ok (.invokevirtual 123, 3) := by decide +kernel
theorem d_law_1012 : decode code 1012 = .ok (.aload_n 2, 1) := by decide +kernel
theorem d_law_1013 : decode code 1013 = .ok (.invokevirtual 126, 3) := by decide +kernel
theorem d_law_1016 : decode code 1016 = .ok (.if_icmp .eq 410, 3) := by decide +kernel
theorem d_law_1019 : decode code 1019 = .ok (.iconst 0, 1) := by decide +kernel
theorem d_law_1020 : decode code 1020 = .ok (.ireturn, 1) := by decide +kernel
theorem d_law_1021 : decode code 1021 = .ok (.aload_n 1, 1) := by decide +kernel
theorem d_law_1022 : decode code 1022 = .ok (.invokevirtual 127, 3) := by decide +kernel
theorem d_law_1025 : decode code 1025 = .ok (.aload_n 2, 1) := by decide +kernel
theorem d_law_1026 : decode code 1026 = .ok (.invokevirtual 130, 3) := by decide +kernel
theorem d_law_1029 : decode code 1029 = .ok (.if_icmp .eq 397, 3) := by decide +kernel
theorem d_law_1032 : decode code 1032 = .ok (.iconst 0, 1) := by decide +kernel
theorem d_law_1033 : decode code 1033 = .ok (.ireturn, 1) := by decide +kernel
theorem d_law_1034 : decode code 1034 = .ok (.aload_n 1, 1) := by decide +kernel
theorem d_law_1035 : decode code 1035 = .ok (.invokevirtual 131, 3) := by decide +kernel
theorem d_law_1038 : decode code 1038 = .ok (.aload_n 2, 1) := by decide +kernel
theorem d_law_1039 : decode code 1039 = .ok (.invokevirtual 134, 3) := by decide +kernel
theorem d_law_1042 : decode code 1042 = .ok (.if_icmp .eq 384, 3) := by decide +kernel
theorem d_law_1045 : decode code 1045 = .ok (.iconst 0, 1) := by decide +kernel
theorem d_law_1046 : decode code 1046 = .ok (.ireturn, 1) := by decide +kernel
theorem d_law_1047 : decode code 1047 = .ok (.aload_n 1, 1) := by decide +kernel
theorem d_law_1048 : decode code 1048 = .ok (.aload_n 0, 1) := by decide +kernel
theorem d_law_1049 : decode code 1049 = .ok (.iload_n 3, 1) := by decide +kernel
theorem d_law_1050 : decode code 1050 = .ok (.iconst 1, 1) := by decide +kernel
theorem d_law_1051 : decode code 1051 = .ok (.iadd, 1) := by decide +kernel
theorem d_law_1052 : decode code 1052 = .ok (.iaload, 1) := by decide +kernel
theorem d_law_1053 : decode code 1053 = .ok (.aload_n 0, 1) := by decide +kernel
theorem d_law_1054 : decode code 1054 = .ok (.iload_n 3, 1) := by decide +kernel
theorem d_law_1055 : decode code 1055 = .ok (.iconst 2, 1) := by decide +kernel
theorem d_law_1056 : decode code 1056 = .ok (.iadd, 1) := by decide +kernel
theorem d_law_1057 : decode code 1057 = .ok (.iaload, 1) := by decide +kernel
theorem d_law_1058 : decode code 1058 = .ok (.aload_n 0, 1) := by decide +kernel
theorem d_law_1059 : decode code 1059 = .ok (.iload_n 3, 1) := by decide +kernel
theorem d_law_1060 : decode code 1060 = .ok (.iconst 3, 1) := by decide +kernel
theorem d_law_1061 : decode code 1061 = .ok (.iadd, 1) := by decide +kernel
theorem d_law_1062 : decode code 1062 = .ok (.iaload, 1) := by decide +kernel
theorem d_law_1063 : decode code 1063 = .ok (.invokevirtual 135, 3) := by decide +kernel
theorem d_law_1066 : decode code 1066 = .ok (.aload_n 2, 1) := by decide +kernel
theorem d_law_1067 : decode code 1067 = .ok (.aload_n 0, 1) := by decide +kernel
theorem d_law_1068 : decode code 1068 = .ok (.iload_n 3, 1) := by decide +kernel
theorem d_law_1069 : decode code 1069 = .ok (.iconst 1, 1) := by decide +kernel
theorem d_law_1070 : decode code 1070 = .ok (.iadd, 1) := by decide +kernel
theorem d_law_1071 : decode code 1071 = .ok (.iaload, 1) := by decide +kernel
theorem d_law_1072 : decode code 1072 = .ok (.aload_n 0, 1) := by decide +kernel
theorem d_law_1073 : decode code 1073 = .ok (.iload_n 3, 1) := by decide +kernel
theorem d_law_1074 : decode code 1074 = .ok (.iconst 2, 1) := by decide +kernel
theorem d_law_1075 : decode code 1075 = .ok (.iadd, 1) := by decide +kernel
theorem d_law_1076 : decode code 1076 = .ok (.iaload, 1) := by decide +kernel
theorem d_law_1077 : decode code 1077 = .ok (.aload_n 0, 1) := by decide +kernel
theorem d_law_1078 : decode code 1078 = .ok (.iload_n 3, 1) := by decide +kernel
theorem d_law_1079 : decode code 1079 = .ok (.iconst 3, 1) := by decide +kernel
theorem d_law_1080 : decode code 1080 = .ok (.iadd, 1) := by decide +kernel
theorem d_law_1081 : decode code 1081 = .ok (.iaload, 1) := by decide +kernel
theorem d_law_1082 : decode code 1082 = .ok (.invokevirtual 138, 3) := by decide +kernel
theorem d_law_1085 : decode code 1085 = .ok (.if_icmp .eq 341, 3) := by decide +kernel
theorem d_law_1088 : decode code 1088 = .ok (.iconst 0, 1) := by decide +kernel
theorem d_law_1089 : decode code 1089 = .ok (.ireturn, 1) := by decide +kernel
theorem d_law_1090 : decode code 1090 = .ok (.aload_n 1, 1) := by decide +kernel
theorem d_law_1091 : decode code 1091 = .ok (.aload_n 0, 1) := by decide +kernel
theorem d_law_1092 : decode code 1092 = .ok (.iload_n 3, 1) := by decide +kernel
theorem d_law_1093 : decode code 1093 = .ok (.iconst 1, 1) := by decide +kernel
theorem d_law_1094 : decode code 1094 = .ok (.iadd, 1) := by decide +kernel
theorem d_law_1095 : decode code 1095 = .ok (.iaload, 1) := by decide +kernel
theorem d_law_1096 : decode code 1096 = .ok (.aload_n 0, 1) := by decide +kernel
theorem d_law_1097 : decode code 1097 = .ok (.iload_n 3, 1) := by decide +kernel
theorem d_law_1098 : decode code 1098 = .ok (.iconst 2, 1) := by decide +kernel
theorem d_law_1099 : decode code 1099 = .ok (.iadd, 1) := by decide +kernel
theorem d_law_1100 : decode code 1100 = .ok (.iaload, 1) := by decide +kernel
theorem d_law_1101 : decode code 1101 = .ok (.invokevirtual 139, 3) := by decide +kernel
theorem d_law_1104 : decode code 1104 = .ok (.aload_n 2, 1) := by decide +kernel
theorem d_law_1105 : decode code 1105 = .ok (.aload_n 0, 1) := by decide +kernel
theorem d_law_1106 : decode code 1106 = .ok (.iload_n 3, 1) := by decide +kernel
theorem d_law_1107 : decode code 1107 = .ok (.iconst 1, 1) := by decide +kernel
theorem d_law_1108 : decode code 1108 = .ok (.iadd, 1) := by decide +kernel
theorem d_law_1109 : decode code 1109 = .ok (.iaload, 1) := by decide +kernel
theorem d_law_1110 : decode code 1110 = .ok (.aload_n 0, 1) := by decide +kernel
theorem d_law_1111 : decode code 1111 = .ok (.iload_n 3, 1) := by decide +kernel
theorem d_law_1112 : decode code 1112 = .ok (.iconst 2, 1) := by decide +kernel
theorem d_law_1113 : decode code 1113 = .ok (.iadd, 1) := by decide +kernel
theorem d_law_1114 : decode code 1114 = .ok (.iaload, 1) := by decide +kernel
theorem d_law_1115 : decode code 1115 = .ok (.invokevirtual 142, 3) := by decide +kernel
theorem d_law_1118 : decode code 1118 = .ok (.if_icmp .eq 308, 3) := by decide +kernel
theorem d_law_1121 : decode code 1121 = .ok (.iconst 0, 1) := by decide +kernel
theorem d_law_1122 : decode code 1122 = .ok (.ireturn, 1) := by decide +kernel
theorem d_law_1123 : decode code 1123 = .ok (.aload_n 1, 1) := by decide +kernel
theorem d_law_1124 : decode code 1124 = .ok (.invokevirtual 143, 3) := by decide +kernel
theorem d_law_1127 : decode code 1127 = .ok (.aload_n 2, 1) := by decide +kernel
theorem d_law_1128 : decode code 1128 = .ok (.invokevirtual 146, 3) := by decide +kernel
theorem d_law_1131 : decode code 1131 = .ok (.if_icmp .eq 295, 3) := by decide +kernel
theorem d_law_1134 : decode code 1134 = .ok (.iconst 0, 1) := by decide +kernel
theorem d_law_1135 : decode code 1135 = .ok (.ireturn, 1) := by decide +kernel
theorem d_law_1136 : decode code 1136 = .ok (.aload_n 1, 1) := by decide +kernel
theorem d_law_1137 : decode code 1137 = .ok (.aload_n 0, 1) := by decide +kernel
theorem d_law_1138 : decode code 1138 = .ok (.iload_n 3, 1) := by decide +kernel
theorem d_law_1139 : decode code 1139 = .ok (.iconst 1, 1) := by decide +kernel
theorem d_law_1140 : decode code 1140 = .ok (.iadd, 1) := by decide +kernel
theorem d_law_1141 : decode code 1141 = .ok (.iaload, 1) := by decide +kernel
theorem d_law_1142 : decode code 1142 = .ok (.aload_n 0, 1) := by decide +kernel
theorem d_law_1143 : decode code 1143 = .ok (.iload_n 3, 1) := by decide +kernel
theorem d_law_1144 : decode code 1144 = .ok (.iconst 2, 1) := by decide +kernel
theorem d_law_1145 : decode code 1145 = .ok (.iadd, 1) := by decide +kernel
theorem d_law_1146 : decode code 1146 = .ok (.iaload, 1) := by decide +kernel
theorem d_law_1147 : decode code 1147 = .ok (.invokevirtual 147, 3) := by decide +kernel
theorem d_law_1150 : decode code 1150 = .ok (.aload_n 2, 1) := by decide +kernel
theorem d_law_1151 : decode code 1151 = .ok (.aload_n 0, 1) := by decide +kernel
theorem d_law_1152 : decode code 1152 = .ok (.iload_n 3, 1) := by decide +kernel
theorem d_law_1153 : decode code 1153 = .ok (.iconst 1, 1) := by decide +kernel
theorem d_law_1154 : decode code 1154 = .ok (.iadd, 1) := by decide +kernel
theorem d_law_1155 : decode code 1155 = .ok (.iaload, 1) := by decide +kernel
theorem d_law_1156 : decode code 1156 = .ok (.aload_n 0, 1) := by decide +kernel
theorem d_law_1157 : decode code 1157 = .ok (.iload_n 3, 1) := by decide +kernel
theorem d_law_1158 : decode code 1158 = .ok (.iconst 2, 1) := by decide +kernel
theorem d_law_1159 : decode code 1159 = .ok (.iadd, 1) := by decide +kernel
theorem d_law_1160 : decode code 1160 = .ok (.iaload, 1) := by decide +kernel
theorem d_law_1161 : decode code 1161 = .ok (.invokevirtual 150, 3) := by decide +kernel
theorem d_law_1164 : decode code 1164 = .ok (.if_icmp .eq 262, 3) := by decide +kernel
theorem d_law_1167 : decode code 1167 = .ok (.iconst 0, 1) := by decide +kernel
theorem d_law_1168 : decode code 1168 = .ok (.ireturn, 1) := by decide +kernel
theorem d_law_1169 : decode code 1169 = .ok (.aload_n 1, 1) := by decide +kernel
theorem d_law_1170 : decode code 1170 = .ok (.aload_n 0, 1) := by decide +kernel
theorem d_law_1171 : decode code 1171 = .ok (.iload_n 3, 1) := by decide +kernel
theorem d_law_1172 : decode code 1172 = .ok (.iconst 1, 1) := by decide +kernel
theorem d_law_1173 : decode code 1173 = .ok (.iadd, 1) := by decide +kernel
theorem d_law_1174 : decode code 1174 = .ok (.iaload, 1) := by decide +kernel
theorem d_law_1175 : decode code 1175 = .ok (.aload_n 0, 1) := by decide +kernel
theorem d_law_1176 : decode code 1176 = .ok (.iload_n 3, 1) := by decide +kernel
theorem d_law_1177 : decode code 1177 = .ok (.iconst 2, 1) := by decide +kernel
theorem d_law_1178 : decode code 1178 = .ok (.iadd, 1) := by decide +kernel
theorem d_law_1179 : decode code 1179 = .ok (.iaload, 1) := by decide +kernel
theorem d_law_1180 : decode code 1180 = .ok (.aload_n 0, 1) := by decide +kernel
theorem d_law_1181 : decode code 1181 = .ok (.iload_n 3, 1) := by decide +kernel
theorem d_law_1182 : decode code 1182 = .ok (.iconst 3, 1) := by decide +kernel
theorem d_law_1183 : decode code 1183 = .ok (.iadd, 1) := by decide +kernel
theorem d_law_1184 : decode code 1184 = .ok (.iaload, 1) := by decide +kernel
theorem d_law_1185 : decode code 1185 = .ok (.invokevirtual 151, 3) := by decide +kernel
theorem d_law_1188 : decode code 1188 = .ok (.aload_n 2, 1) := by decide +kernel
theorem d_law_1189 : decode code 1189 = .ok (.aload_n 0, 1) := by decide +kernel
theorem d_law_1190 : decode code 1190 = .ok (.iload_n 3, 1) := by decide +kernel
theorem d_law_1191 : decode code 1191 = .ok (.iconst 1, 1) := by decide +kernel
theorem d_law_1192 : decode code 1192 = .ok (.iadd, 1) := by decide +kernel
theorem d_law_1193 : decode code 1193 = .ok (.iaload, 1) := by decide +kernel
theorem d_law_1194 : decode code 1194 = .ok (.aload_n 0, 1) := by decide +kernel
theorem d_law_1195 : decode code 1195 = .ok (.iload_n 3, 1) := by decide +kernel
theorem d_law_1196 : decode code 1196 = .ok (.iconst 2, 1) := by decide +kernel
theorem d_law_1197 : decode code 1197 = .ok (.iadd, 1) := by decide +kernel
theorem d_law_1198 : decode code 1198 = .ok (.iaload, 1) := by decide +kernel
theorem d_law_1199 : decode code 1199 = .ok (.aload_n 0, 1) := by decide +kernel
theorem d_law_1200 : decode code 1200 = .ok (.iload_n 3, 1) := by decide +kernel
theorem d_law_1201 : decode code 1201 = .ok (.iconst 3, 1) := by decide +kernel
theorem d_law_1202 : decode code 1202 = .ok (.iadd, 1) := by decide +kernel
theorem d_law_1203 : decode code 1203 = .ok (.iaload, 1) := by decide +kernel
theorem d_law_1204 : decode code 1204 = .ok (.invokevirtual 154, 3) := by decide +kernel
theorem d_law_1207 : decode code 1207 = .ok (.if_icmp .eq 219, 3) := by decide +kernel
theorem d_law_1210 : decode code 1210 = .ok (.iconst 0, 1) := by decide +kernel
theorem d_law_1211 : decode code 1211 = .ok (.ireturn, 1) := by decide +kernel
theorem d_law_1212 : decode code 1212 = .ok (.aload_n 1, 1) := by decide +kernel
theorem d_law_1213 : decode code 1213 = .ok (.aload_n 0, 1) := by decide +kernel
theorem d_law_1214 : decode code 1214 = .ok (.iload_n 3, 1) := by decide +kernel
theorem d_law_1215 : decode code 1215 = .ok (.iconst 1, 1) := by decide +kernel
theorem d_law_1216 : decode code 1216 = .ok (.iadd, 1) := by decide +kernel
theorem d_law_1217 : decode code 1217 = .ok (.iaload, 1) := by decide +kernel
theorem d_law_1218 : decode code 1218 = .ok (.invokevirtual 155, 3) := by decide +kernel
theorem d_law_1221 : decode code 1221 = .ok (.aload_n 2, 1) := by decide +kernel
theorem d_law_1222 : decode code 1222 = .ok (.aload_n 0, 1) := by decide +kernel
theorem d_law_1223 : decode code 1223 = .ok (.iload_n 3, 1) := by decide +kernel
theorem d_law_1224 : decode code 1224 = .ok (.iconst 1, 1) := by decide +kernel
theorem d_law_1225 : decode code 1225 = .ok (.iadd, 1) := by decide +kernel
theorem d_law_1226 : decode code 1226 = .ok (.iaload, 1) := by decide +kernel
theorem d_law_1227 : decode code 1227 = .ok (.invokevirtual 158, 3) := by decide +kernel
theorem d_law_1230 : decode code 1230 = .ok (.if_icmp .eq 196, 3) := by decide +kernel
theorem d_law_1233 : decode code 1233 = .ok (.iconst 0, 1) := by decide +kernel
theorem d_law_1234 : decode code 1234 = .ok (.ireturn, 1) := by decide +kernel
theorem d_law_1235 : decode code 1235 = .ok (.aload_n 1, 1) := by decide +kernel
theorem d_law_1236 : decode code 1236 = .ok (.aload_n 0, 1) := by decide +kernel
theorem d_law_1237 : decode code 1237 = .ok (.iload_n 3, 1) := by decide +kernel
theorem d_law_1238 : decode code 1238 = .ok (.iconst 1, 1) := by decide +kernel
theorem d_law_1239 : decode code 1239 = .ok (.iadd, 1) := by decide +kernel
theorem d_law_1240 : decode code 1240 = .ok (.iaload, 1) := by decide +kernel
theorem d_law_1241 : decode code 1241 = .ok (.invokevirtual 159, 3) := by decide +kernel
theorem d_law_1244 : decode code 1244 = .ok (.aload_n 2, 1) := by decide +kernel
theorem d_law_1245 : decode code 1245 = .ok (.aload_n 0, 1) := by decide +kernel
theorem d_law_1246 : decode code 1246 = .ok (.iload_n 3, 1) := by decide +kernel
theorem d_law_1247 : decode code 1247 = .ok (.iconst 1, 1) := by decide +kernel
theorem d_law_1248 : decode code 1248 = .ok (.iadd, 1) := by decide +kernel
theorem d_law_1249 : decode code 1249 = .ok (.iaload, 1) := by decide +kernel
theorem d_law_1250 : decode code 1250 = .ok (.invokevirtual 162, 3) := by decide +kernel
theorem d_law_1253 : decode code 1253 = .ok (.if_icmp .eq 173, 3) := by decide +kernel
theorem d_law_1256 : decode code 1256 = .ok (.iconst 0, 1) := by decide +kernel
theorem d_law_1257 : decode code 1257 = .ok (.ireturn, 1) := by decide +kernel
theorem d_law_1258 : decode code 1258 = .ok (.aload_n 1, 1) := by decide +kernel
theorem d_law_1259 : decode code 1259 = .ok (.aload_n 0, 1) := by decide +kernel
theorem d_law_1260 : decode code 1260 = .ok (.iload_n 3, 1) := by decide +kernel
theorem d_law_1261 : decode code 1261 = .ok (.iconst 1, 1) := by decide +kernel
theorem d_law_1262 : decode code 1262 = .ok (.iadd, 1) := by decide +kernel
theorem d_law_1263 : decode code 1263 = .ok (.iaload, 1) := by decide +kernel
theorem d_law_1264 : decode code 1264 = .ok (.aload_n 0, 1) := by decide +kernel
theorem d_law_1265 : decode code 1265 = .ok (.iload_n 3, 1) := by decide +kernel
theorem d_law_1266 : decode code 1266 = .ok (.iconst 2, 1) := by decide +kernel
theorem d_law_1267 : decode code 1267 = .ok (.iadd, 1) := by decide +kernel
theorem d_law_1268 : decode code 1268 = .ok (.iaload, 1) := by decide +kernel
theorem d_law_1269 : decode code 1269 = .ok (.invokevirtual 163, 3) := by decide +kernel
theorem d_law_1272 : decode code 1272 = .ok (.aload_n 2, 1) := by decide +kernel
theorem d_law_1273 : decode code 1273 = .ok (.aload_n 0, 1) := by decide +kernel
theorem d_law_1274 : decode code 1274 = .ok (.iload_n 3, 1) := by decide +kernel
theorem d_law_1275 : decode code 1275 = .ok (.iconst 1, 1) := by decide +kernel
theorem d_law_1276 : decode code 1276 = .ok (.iadd, 1) := by decide +kernel
theorem d_law_1277 : decode code 1277 = .ok (.iaload, 1) := by decide +kernel
theorem d_law_1278 : decode code 1278 = .ok (.aload_n 0, 1) := by decide +kernel
theorem d_law_1279 : decode code 1279 = .ok (.iload_n 3, 1) := by decide +kernel
theorem d_law_1280 : decode code 1280 = .ok (.iconst 2, 1) := by decide +kernel
theorem d_law_1281 : decode code 1281 = .ok (.iadd, 1) := by decide +kernel
theorem d_law_1282 : decode code 1282 = .ok (.iaload, 1) := by decide +kernel
theorem d_law_1283 : decode code 1283 = .ok (.invokevirtual 166, 3) := by decide +kernel
theorem d_law_1286 : decode code 1286 = .ok (.if_icmp .eq 140, 3) := by decide +kernel
theorem d_law_1289 : decode code 1289 = .ok (.iconst 0, 1) := by decide +kernel
theorem d_law_1290 : decode code 1290 = .ok (.ireturn, 1) := by decide +kernel
theorem d_law_1291 : decode code 1291 = .ok (.aload_n 1, 1) := by decide +kernel
theorem d_law_1292 : decode code 1292 = .ok (.aload_n 0, 1) := by decide +kernel
theorem d_law_1293 : decode code 1293 = .ok (.iload_n 3, 1) := by decide +kernel
theorem d_law_1294 : decode code 1294 = .ok (.iconst 1, 1) := by decide +kernel
theorem d_law_1295 : decode code 1295 = .ok (.iadd, 1) := by decide +kernel
theorem d_law_1296 : decode code 1296 = .ok (.iaload, 1) := by decide +kernel
theorem d_law_1297 : decode code 1297 = .ok (.invokevirtual 167, 3) := by decide +kernel
theorem d_law_1300 : decode code 1300 = .ok (.aload_n 2, 1) := by decide +kernel
theorem d_law_1301 : decode code 1301 = .ok (.aload_n 0, 1) := by decide +kernel
theorem d_law_1302 : decode code 1302 = .ok (.iload_n 3, 1) := by decide +kernel
theorem d_law_1303 : decode code 1303 = .ok (.iconst 1, 1) := by decide +kernel
theorem d_law_1304 : decode code 1304 = .ok (.iadd, 1) := by decide +kernel
theorem d_law_1305 : decode code 1305 = .ok (.iaload, 1) := by decide +kernel
theorem d_law_1306 : decode code 1306 = .ok (.invokevirtual 170, 3) := by decide +kernel
theorem d_law_1309 : decode code 1309 = .ok (.if_icmp .eq 117, 3) := by decide +kernel
theorem d_law_1312 : decode code 1312 = .ok (.iconst 0, 1) := by decide +kernel
theorem d_law_1313 : decode code 1313 = .ok (.ireturn, 1) := by decide +kernel
theorem d_law_1314 : decode code 1314 = .ok (.aload_n 1, 1) := by decide +kernel
theorem d_law_1315 : decode code 1315 = .ok (.invokevirtual 171, 3) := by decide +kernel
theorem d_law_1318 : decode code 1318 = .ok (.aload_n 2, 1) := by decide +kernel
theorem d_law_1319 : decode code 1319 = .ok (.invokevirtual 174, 3) := by decide +kernel
theorem d_law_1322 : decode code 1322 = .ok (.if_icmp .eq 104, 3) := by decide +kernel
theorem d_law_1325 : decode code 1325 = .ok (.iconst 0, 1) := by decide +kernel
theorem d_law_1326 : decode code 1326 = .ok (.ireturn, 1) := by decide +kernel
theorem d_law_1327 : decode code 1327 = .ok (.aload_n 1, 1) := by decide +kernel
theorem d_law_1328 : decode code 1328 = .ok (.aload_n 0, 1) := by decide +kernel
theorem d_law_1329 : decode code 1329 = .ok (.iload_n 3, 1) := by decide +kernel
theorem d_law_1330 : decode code 1330 = .ok (.iconst 1, 1) := by decide +kernel
theorem d_law_1331 : decode code 1331 = .ok (.iadd, 1) := by decide +kernel
theorem d_law_1332 : decode code 1332 = .ok (.iaload, 1) := by decide +kernel
theorem d_law_1333 : decode code 1333 = .ok (.invokevirtual 175, 3) := by decide +kernel
theorem d_law_1336 : decode code 1336 = .ok (.aload_n 2, 1) := by decide +kernel
theorem d_law_1337 : decode code 1337 = .ok (.aload_n 0, 1) := by decide +kernel
theorem d_law_1338 : decode code 1338 = .ok (.iload_n 3, 1) := by decide +kernel
theorem d_law_1339 : decode code 1339 = .ok (.iconst 1, 1) := by decide +kernel
theorem d_law_1340 : decode code 1340 = .ok (.iadd, 1) := by decide +kernel
theorem d_law_1341 : decode code 1341 = .ok (.iaload, 1) := by decide +kernel
theorem d_law_1342 : decode code 1342 = .ok (.invokevirtual 178, 3) := by decide +kernel
theorem d_law_1345 : decode code 1345 = .ok (.if_icmp .eq 81, 3) := by decide +kernel
theorem d_law_1348 : decode code 1348 = .ok (.iconst 0, 1) := by decide +kernel
theorem d_law_1349 : decode code 1349 = .ok (.ireturn, 1) := by decide +kernel
theorem d_law_1350 : decode code 1350 = .ok (.aload_n 1, 1) := by decide +kernel
theorem d_law_1351 : decode code 1351 = .ok (.aload_n 0, 1) := by decide +kernel
theorem d_law_1352 : decode code 1352 = .ok (.iload_n 3, 1) := by decide +kernel
theorem d_law_1353 : decode code 1353 = .ok (.iconst 1, 1) := by decide +kernel
theorem d_law_1354 : decode code 1354 = .ok (.iadd, 1) := by decide +kernel
theorem d_law_1355 : decode code 1355 = .ok (.iaload, 1) := by decide +kernel
theorem d_law_1356 : decode code 1356 = .ok (.aload_n 0, 1) := by decide +kernel
theorem d_law_1357 : decode code 1357 = .ok (.iload_n 3, 1) := by decide +kernel
theorem d_law_1358 : decode code 1358 = .ok (.iconst 2, 1) := by decide +kernel
theorem d_law_1359 : decode code 1359 = .ok (.iadd, 1) := by decide +kernel
theorem d_law_1360 : decode code 1360 = .ok (.iaload, 1) := by decide +kernel
theorem d_law_1361 : decode code 1361 = .ok (.invokevirtual 179, 3) := by decide +kernel
theorem d_law_1364 : decode code 1364 = .ok (.aload_n 2, 1) := by decide +kernel
theorem d_law_1365 : decode code 1365 = .ok (.aload_n 0, 1) := by decide +kernel
theorem d_law_1366 : decode code 1366 = .ok (.iload_n 3, 1) := by decide +kernel
theorem d_law_1367 : decode code 1367 = .ok (.iconst 1, 1) := by decide +kernel
theorem d_law_1368 : decode code 1368 = .ok (.iadd, 1) := by decide +kernel
theorem d_law_1369 : decode code 1369 = .ok (.iaload, 1) := by decide +kernel
theorem d_law_1370 : decode code 1370 = .ok (.aload_n 0, 1) := by decide +kernel
theorem d_law_1371 : decode code 1371 = .ok (.iload_n 3, 1) := by decide +kernel
theorem d_law_1372 : decode code 1372 = .ok (.iconst 2, 1) := by decide +kernel
theorem d_law_1373 : decode code 1373 = .ok (.iadd, 1) := by decide +kernel
theorem d_law_1374 : decode code 1374 = .ok (.iaload, 1) := by decide +kernel
theorem d_law_1375 : decode code 1375 = .ok (.invokevirtual 182, 3) := by decide +kernel
theorem d_law_1378 : decode code 1378 = .ok (.if_icmp .eq 48, 3) := by decide +kernel
theorem d_law_1381 : decode code 1381 = .ok (.iconst 0, 1) := by decide +kernel
theorem d_law_1382 : decode code 1382 = .ok (.ireturn, 1) := by decide +kernel
theorem d_law_1383 : decode code 1383 = .ok (.aload_n 1, 1) := by decide +kernel
theorem d_law_1384 : decode code 1384 = .ok (.aload_n 0, 1) := by decide +kernel
theorem d_law_1385 : decode code 1385 = .ok (.iload_n 3, 1) := by decide +kernel
theorem d_law_1386 : decode code 1386 = .ok (.iconst 1, 1) := by decide +kernel
theorem d_law_1387 : decode code 1387 = .ok (.iadd, 1) := by decide +kernel
theorem d_law_1388 : decode code 1388 = .ok (.iaload, 1) := by decide +kernel
theorem d_law_1389 : decode code 1389 = .ok (.aload_n 0, 1) := by decide +kernel
theorem d_law_1390 : decode code 1390 = .ok (.iload_n 3, 1) := by decide +kernel
theorem d_law_1391 : decode code 1391 = .ok (.iconst 2, 1) := by decide +kernel
theorem d_law_1392 : decode code 1392 = .ok (.iadd, 1) := by decide +kernel
theorem d_law_1393 : decode code 1393 = .ok (.iaload, 1) := by decide +kernel
theorem d_law_1394 : decode code 1394 = .ok (.aload_n 0, 1) := by decide +kernel
theorem d_law_1395 : decode code 1395 = .ok (.iload_n 3, 1) := by decide +kernel
theorem d_law_1396 : decode code 1396 = .ok (.iconst 3, 1) := by decide +kernel
theorem d_law_1397 : decode code 1397 = .ok (.iadd, 1) := by decide +kernel
theorem d_law_1398 : decode code 1398 = .ok (.iaload, 1) := by decide +kernel
theorem d_law_1399 : decode code 1399 = .ok (.invokevirtual 183, 3) := by decide +kernel
theorem d_law_1402 : decode code 1402 = .ok (.aload_n 2, 1) := by decide +kernel
theorem d_law_1403 : decode code 1403 = .ok (.aload_n 0, 1) := by decide +kernel
theorem d_law_1404 : decode code 1404 = .ok (.iload_n 3, 1) := by decide +kernel
theorem d_law_1405 : decode code 1405 = .ok (.iconst 1, 1) := by decide +kernel
theorem d_law_1406 : decode code 1406 = .ok (.iadd, 1) := by decide +kernel
theorem d_law_1407 : decode code 1407 = .ok (.iaload, 1) := by decide +kernel
theorem d_law_1408 : decode code 1408 = .ok (.aload_n 0, 1) := by decide +kernel
theorem d_law_1409 : decode code 1409 = .ok (.iload_n 3, 1) := by decide +kernel
theorem d_law_1410 : decode code 1410 = .ok (.iconst 2, 1) := by decide +kernel
theorem d_law_1411 : decode code 1411 = .ok (.iadd, 1) := by decide +kernel
theorem d_law_1412 : decode code 1412 = .ok (.iaload, 1) := by decide +kernel
theorem d_law_1413 : decode code 1413 = .ok (.aload_n 0, 1) := by decide +kernel
theorem d_law_1414 : decode code 1414 = .ok (.iload_n 3, 1) := by decide +kernel
theorem d_law_1415 : decode code 1415 = .ok (.iconst 3, 1) := by decide +kernel
theorem d_law_1416 : decode code 1416 = .ok (.iadd, 1) := by decide +kernel
theorem d_law_1417 : decode code 1417 = .ok (.iaload, 1) := by decide +kernel
theorem d_law_1418 : decode code 1418 = .ok (.invokevirtual 186, 3) := by decide +kernel
theorem d_law_1421 : decode code 1421 = .ok (.if_icmp .eq 5, 3) := by decide +kernel
theorem d_law_1424 : decode code 1424 = .ok (.iconst 0, 1) := by decide +kernel
theorem d_law_1425 : decode code 1425 = .ok (.ireturn, 1) := by decide +kernel
theorem d_law_1426 : decode code 1426 = .ok (.iinc 3 6, 3) := by decide +kernel
theorem d_law_1429 : decode code 1429 = .ok (.goto (-1411), 3) := by decide +kernel
theorem d_law_1432 : decode code 1432 = .ok (.iconst 1, 1) := by decide +kernel
theorem d_law_1433 : decode code 1433 = .ok (.ireturn, 1) := by decide +kernel
