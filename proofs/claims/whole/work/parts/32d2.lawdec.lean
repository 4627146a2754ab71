/-! decode rows of the law -/
theorem d_Law_law_943 : decode code 943 = .ok (.iadd, 1) := by decide +kernel
theorem d_Law_law_944 : decode code 944 = .ok (.iaload, 1) := by decide +kernel
theorem d_Law_law_945 : decode code 945 = .ok (.aload_n 0, 1) := by decide +kernel
theorem d_Law_law_946 : decode code 946 = .ok (.iload 4, 2) := by decide +kernel
theorem d_Law_law_948 : decode code 948 = .ok (.iconst 3, 1) := by decide +kernel
theorem d_Law_law_949 : decode code 949 = .ok (.iadd, 1) := by decide +kernel
theorem d_Law_law_950 : decode code 950 = .ok (.iaload, 1) := by decide +kernel
theorem d_Law_law_951 : decode code 951 = .ok (.aload_n 3, 1) := by decide +kernel
theorem d_Law_law_952 : decode code 952 = .ok (.invokestatic 161, 3) := by decide +kernel
theorem d_Law_law_955 : decode code 955 = .ok (.istore 5, 2) := by decide +kernel
theorem d_Law_law_957 : decode code 957 = .ok (.aload_n 2, 1) := by decide +kernel
theorem d_Law_law_958 : decode code 958 = .ok (.aload_n 0, 1) := by decide +kernel
theorem d_Law_law_959 : decode code 959 = .ok (.iload 4, 2) := by decide +kernel
theorem d_Law_law_961 : decode code 961 = .ok (.iconst 1, 1) := by decide +kernel
theorem d_Law_law_962 : decode code 962 = .ok (.iadd, 1) := by decide +kernel
theorem d_Law_law_963 : decode code 963 = .ok (.iaload, 1) := by decide +kernel
theorem d_Law_law_964 : decode code 964 = .ok (.aload_n 0, 1) := by decide +kernel
theorem d_Law_law_965 : decode code 965 = .ok (.iload 4, 2) := by decide +kernel
theorem d_Law_law_967 : decode code 967 = .ok (.iconst 2, 1) := by decide +kernel
theorem d_Law_law_968 : decode code 968 = .ok (.iadd, 1) := by decide +kernel
theorem d_Law_law_969 : decode code 969 = .ok (.iaload, 1) := by decide +kernel
theorem d_Law_law_970 : decode code 970 = .ok (.aload_n 0, 1) := by decide +kernel
theorem d_Law_law_971 : decode code 971 = .ok (.iload 4, 2) := by decide +kernel
theorem d_Law_law_973 : decode code 973 = .ok (.iconst 3, 1) := by decide +kernel
theorem d_Law_law_974 : decode code 974 = .ok (.iadd, 1) := by decide +kernel
theorem d_Law_law_975 : decode code 975 = .ok (.iaload, 1) := by decide +kernel
theorem d_Law_law_976 : decode code 976 = .ok (.invokevirtual 163, 3) := by decide +kernel
theorem d_Law_law_979 : decode code 979 = .ok (.istore 6, 2) := by decide +kernel
theorem d_Law_law_981 : decode code 981 = .ok (.aload_n 2, 1) := by decide +kernel
theorem d_Law_law_982 : decode code 982 = .ok (.invokevirtual 132, 3) := by decide +kernel
theorem d_Law_law_985 : decode code 985 = .ok (.iload 5, 2) := by decide +kernel
theorem d_Law_law_987 : decode code 987 = .ok (.if_icmp .eq 5, 3) := by decide +kernel
theorem d_Law_law_992 : decode code 992 = .ok (.iload 5, 2) := by decide +kernel
theorem d_Law_law_994 : decode code 994 = .ok (.ifCond .ne 15, 3) := by decide +kernel
theorem d_Law_law_997 : decode code 997 = .ok (.aload_n 3, 1) := by decide +kernel
theorem d_Law_law_998 : decode code 998 = .ok (.iconst 0, 1) := by decide +kernel
theorem d_Law_law_999 : decode code 999 = .ok (.laload, 1) := by decide +kernel
theorem d_Law_law_1000 : decode code 1000 = .ok (.iload 6, 2) := by decide +kernel
theorem d_Law_law_1002 : decode code 1002 = .ok (.i2l, 1) := by decide +kernel
theorem d_Law_law_1003 : decode code 1003 = .ok (.lcmp, 1) := by decide +kernel
theorem d_Law_law_1004 : decode code 1004 = .ok (.ifCond .eq 5, 3) := by decide +kernel
theorem d_Law_law_1009 : decode code 1009 = .ok (.goto 1508, 3) := by decide +kernel
theorem d_Law_law_1012 : decode code 1012 = .ok (.aload_n 1, 1) := by decide +kernel
theorem d_Law_law_1013 : decode code 1013 = .ok (.aload_n 0, 1) := by decide +kernel
theorem d_Law_law_1014 : decode code 1014 = .ok (.iload 4, 2) := by decide +kernel
theorem d_Law_law_1016 : decode code 1016 = .ok (.iconst 1, 1) := by decide +kernel
theorem d_Law_law_1017 : decode code 1017 = .ok (.iadd, 1) := by decide +kernel
theorem d_Law_law_1018 : decode code 1018 = .ok (.iaload, 1) := by decide +kernel
theorem d_Law_law_1019 : decode code 1019 = .ok (.aload_n 0, 1) := by decide +kernel
theorem d_Law_law_1020 : decode code 1020 = .ok (.iload 4, 2) := by decide +kernel
theorem d_Law_law_1022 : decode code 1022 = .ok (.iconst 2, 1) := by decide +kernel
theorem d_Law_law_1023 : decode code 1023 = .ok (.iadd, 1) := by decide +kernel
theorem d_Law_law_1024 : decode code 1024 = .ok (.iaload, 1) := by decide +kernel
theorem d_Law_law_1025 : decode code 1025 = .ok (.aload_n 3, 1) := by decide +kernel
theorem d_Law_law_1026 : decode code 1026 = .ok (.invokestatic 164, 3) := by decide +kernel
theorem d_Law_law_1029 : decode code 1029 = .ok (.istore 5, 2) := by decide +kernel
theorem d_Law_law_1031 : decode code 1031 = .ok (.aload_n 2, 1) := by decide +kernel
theorem d_Law_law_1032 : decode code 1032 = .ok (.aload_n 0, 1) := by decide +kernel
theorem d_Law_law_1033 : decode code 1033 = .ok (.iload 4, 2) := by decide +kernel
theorem d_Law_law_1035 : decode code 1035 = .ok (.iconst 1, 1) := by decide +kernel
theorem d_Law_law_1036 : decode code 1036 = .ok (.iadd, 1) := by decide +kernel
theorem d_Law_law_1037 : decode code 1037 = .ok (.iaload, 1) := by decide +kernel
theorem d_Law_law_1038 : decode code 1038 = .ok (.aload_n 0, 1) := by decide +kernel
theorem d_Law_law_1039 : decode code 1039 = .ok (.iload 4, 2) := by decide +kernel
theorem d_Law_law_1041 : decode code 1041 = .ok (.iconst 2, 1) := by decide +kernel
theorem d_Law_law_1042 : decode code 1042 = .ok (.iadd, 1) := by decide +kernel
theorem d_Law_law_1043 : decode code 1043 = .ok (.iaload, 1) := by decide +kernel
theorem d_Law_law_1044 : decode code 1044 = .ok (.invokevirtual 166, 3) := by decide +kernel
theorem d_Law_law_1047 : decode code 1047 = .ok (.istore 6, 2) := by decide +kernel
theorem d_Law_law_1049 : decode code 1049 = .ok (.aload_n 2, 1) := by decide +kernel
theorem d_Law_law_1050 : decode code 1050 = .ok (.invokevirtual 132, 3) := by decide +kernel
theorem d_Law_law_1053 : decode code 1053 = .ok (.iload 5, 2) := by decide +kernel
theorem d_Law_law_1055 : decode code 1055 = .ok (.if_icmp .eq 5, 3) := by decide +kernel
theorem d_Law_law_1060 : decode code 1060 = .ok (.iload 5, 2) := by decide +kernel
theorem d_Law_law_1062 : decode code 1062 = .ok (.ifCond .ne 15, 3) := by decide +kernel
theorem d_Law_law_1065 : decode code 1065 = .ok (.aload_n 3, 1) := by decide +kernel
theorem d_Law_law_1066 : decode code 1066 = .ok (.iconst 0, 1) := by decide +kernel
theorem d_Law_law_1067 : decode code 1067 = .ok (.laload, 1) := by decide +kernel
theorem d_Law_law_1068 : decode code 1068 = .ok (.iload 6, 2) := by decide +kernel
theorem d_Law_law_1070 : decode code 1070 = .ok (.i2l, 1) := by decide +kernel
theorem d_Law_law_1071 : decode code 1071 = .ok (.lcmp, 1) := by decide +kernel
theorem d_Law_law_1072 : decode code 1072 = .ok (.ifCond .eq 5, 3) := by decide +kernel
theorem d_Law_law_1077 : decode code 1077 = .ok (.goto 1440, 3) := by decide +kernel
theorem d_Law_law_1080 : decode code 1080 = .ok (.aload_n 1, 1) := by decide +kernel
theorem d_Law_law_1081 : decode code 1081 = .ok (.aload_n 0, 1) := by decide +kernel
theorem d_Law_law_1082 : decode code 1082 = .ok (.iload 4, 2) := by decide +kernel
theorem d_Law_law_1084 : decode code 1084 = .ok (.iconst 1, 1) := by decide +kernel
theorem d_Law_law_1085 : decode code 1085 = .ok (.iadd, 1) := by decide +kernel
theorem d_Law_law_1086 : decode code 1086 = .ok (.iaload, 1) := by decide +kernel
theorem d_Law_law_1087 : decode code 1087 = .ok (.aload_n 0, 1) := by decide +kernel
theorem d_Law_law_1088 : decode code 1088 = .ok (.iload 4, 2) := by decide +kernel
theorem d_Law_law_1090 : decode code 1090 = .ok (.iconst 2, 1) := by decide +kernel
theorem d_Law_law_1091 : decode code 1091 = .ok (.iadd, 1) := by decide +kernel
theorem d_Law_law_1092 : decode code 1092 = .ok (.iaload, 1) := by decide +kernel
theorem d_Law_law_1093 : decode code 1093 = .ok (.aload_n 0, 1) := by decide +kernel
theorem d_Law_law_1094 : decode code 1094 = .ok (.iload 4, 2) := by decide +kernel
theorem d_Law_law_1096 : decode code 1096 = .ok (.iconst 3, 1) := by decide +kernel
theorem d_Law_law_1097 : decode code 1097 = .ok (.iadd, 1) := by decide +kernel
theorem d_Law_law_1098 : decode code 1098 = .ok (.iaload, 1) := by decide +kernel
theorem d_Law_law_1099 : decode code 1099 = .ok (.ifCond .eq 7, 3) := by decide +kernel
theorem d_Law_law_1102 : decode code 1102 = .ok (.iconst 1, 1) := by decide +kernel
theorem d_Law_law_1103 : decode code 1103 = .ok (.goto 4, 3) := by decide +kernel
theorem d_Law_law_1106 : decode code 1106 = .ok (.iconst 0, 1) := by decide +kernel
theorem d_Law_law_1107 : decode code 1107 = .ok (.aload_n 3, 1) := by decide +kernel
theorem d_Law_law_1108 : decode code 1108 = .ok (.invokestatic 167, 3) := by decide +kernel
theorem d_Law_law_1111 : decode code 1111 = .ok (.istore 5, 2) := by decide +kernel
theorem d_Law_law_1113 : decode code 1113 = .ok (.aload_n 2, 1) := by decide +kernel
theorem d_Law_law_1114 : decode code 1114 = .ok (.aload_n 0, 1) := by decide +kernel
theorem d_Law_law_1115 : decode code 1115 = .ok (.iload 4, 2) := by decide +kernel
theorem d_Law_law_1117 : decode code 1117 = .ok (.iconst 1, 1) := by decide +kernel
theorem d_Law_law_1118 : decode code 1118 = .ok (.iadd, 1) := by decide +kernel
theorem d_Law_law_1119 : decode code 1119 = .ok (.iaload, 1) := by decide +kernel
theorem d_Law_law_1120 : decode code 1120 = .ok (.aload_n 0, 1) := by decide +kernel
theorem d_Law_law_1121 : decode code 1121 = .ok (.iload 4, 2) := by decide +kernel
theorem d_Law_law_1123 : decode code 1123 = .ok (.iconst 2, 1) := by decide +kernel
theorem d_Law_law_1124 : decode code 1124 = .ok (.iadd, 1) := by decide +kernel
theorem d_Law_law_1125 : decode code 1125 = .ok (.iaload, 1) := by decide +kernel
theorem d_Law_law_1126 : decode code 1126 = .ok (.aload_n 0, 1) := by decide +kernel
theorem d_Law_law_1127 : decode code 1127 = .ok (.iload 4, 2) := by decide +kernel
theorem d_Law_law_1129 : decode code 1129 = .ok (.iconst 3, 1) := by decide +kernel
theorem d_Law_law_1130 : decode code 1130 = .ok (.iadd, 1) := by decide +kernel
theorem d_Law_law_1131 : decode code 1131 = .ok (.iaload, 1) := by decide +kernel
theorem d_Law_law_1132 : decode code 1132 = .ok (.ifCond .eq 7, 3) := by decide +kernel
theorem d_Law_law_1135 : decode code 1135 = .ok (.iconst 1, 1) := by decide +kernel
theorem d_Law_law_1136 : decode code 1136 = .ok (.goto 4, 3) := by decide +kernel
theorem d_Law_law_1139 : decode code 1139 = .ok (.iconst 0, 1) := by decide +kernel
theorem d_Law_law_1140 : decode code 1140 = .ok (.invokevirtual 170, 3) := by decide +kernel
theorem d_Law_law_1143 : decode code 1143 = .ok (.istore 6, 2) := by decide +kernel
theorem d_Law_law_1145 : decode code 1145 = .ok (.aload_n 2, 1) := by decide +kernel
theorem d_Law_law_1146 : decode code 1146 = .ok (.invokevirtual 132, 3) := by decide +kernel
theorem d_Law_law_1149 : decode code 1149 = .ok (.iload 5, 2) := by decide +kernel
theorem d_Law_law_1151 : decode code 1151 = .ok (.if_icmp .eq 5, 3) := by decide +kernel
theorem d_Law_law_1156 : decode code 1156 = .ok (.iload 5, 2) := by decide +kernel
theorem d_Law_law_1158 : decode code 1158 = .ok (.ifCond .ne 15, 3) := by decide +kernel
theorem d_Law_law_1161 : decode code 1161 = .ok (.aload_n 3, 1) := by decide +kernel
theorem d_Law_law_1162 : decode code 1162 = .ok (.iconst 0, 1) := by decide +kernel
theorem d_Law_law_1163 : decode code 1163 = .ok (.laload, 1) := by decide +kernel
theorem d_Law_law_1164 : decode code 1164 = .ok (.iload 6, 2) := by decide +kernel
theorem d_Law_law_1166 : decode code 1166 = .ok (.i2l, 1) := by decide +kernel
theorem d_Law_law_1167 : decode code 1167 = .ok (.lcmp, 1) := by decide +kernel
theorem d_Law_law_1168 : decode code 1168 = .ok (.ifCond .eq 5, 3) := by decide +kernel
theorem d_Law_law_1173 : decode code 1173 = .ok (.goto 1344, 3) := by decide +kernel
theorem d_Law_law_1176 : decode code 1176 = .ok (.aload_n 1, 1) := by decide +kernel
theorem d_Law_law_1177 : decode code 1177 = .ok (.aload_n 0, 1) := by decide +kernel
theorem d_Law_law_1178 : decode code 1178 = .ok (.iload 4, 2) := by decide +kernel
theorem d_Law_law_1180 : decode code 1180 = .ok (.iconst 1, 1) := by decide +kernel
theorem d_Law_law_1181 : decode code 1181 = .ok (.iadd, 1) := by decide +kernel
theorem d_Law_law_1182 : decode code 1182 = .ok (.iaload, 1) := by decide +kernel
theorem d_Law_law_1183 : decode code 1183 = .ok (.aload_n 3, 1) := by decide +kernel
theorem d_Law_law_1184 : decode code 1184 = .ok (.invokestatic 171, 3) := by decide +kernel
theorem d_Law_law_1187 : decode code 1187 = .ok (.istore 5, 2) := by decide +kernel
theorem d_Law_law_1189 : decode code 1189 = .ok (.aload_n 2, 1) := by decide +kernel
theorem d_Law_law_1190 : decode code 1190 = .ok (.aload_n 0, 1) := by decide +kernel
theorem d_Law_law_1191 : decode code 1191 = .ok (.iload 4, 2) := by decide +kernel
theorem d_Law_law_1193 : decode code 1193 = .ok (.iconst 1, 1) := by decide +kernel
theorem d_Law_law_1194 : decode code 1194 = .ok (.iadd, 1) := by decide +kernel
theorem d_Law_law_1195 : decode code 1195 = .ok (.iaload, 1) := by decide +kernel
theorem d_Law_law_1196 : decode code 1196 = .ok (.invokevirtual 174, 3) := by decide +kernel
theorem d_Law_law_1199 : decode code 1199 = .ok (.istore 6, 2) := by decide +kernel
theorem d_Law_law_1201 : decode code 1201 = .ok (.aload_n 2, 1) := by decide +kernel
theorem d_Law_law_1202 : decode code 1202 = .ok (.invokevirtual 132, 3) := by decide +kernel
theorem d_Law_law_1205 : decode code 1205 = .ok (.iload 5, 2) := by decide +kernel
theorem d_Law_law_1207 : decode code 1207 = .ok (.if_icmp .eq 5, 3) := by decide +kernel
theorem d_Law_law_1212 : decode code 1212 = .ok (.iload 5, 2) := by decide +kernel
theorem d_Law_law_1214 : decode code 1214 = .ok (.ifCond .ne 15, 3) := by decide +kernel
theorem d_Law_law_1217 : decode code 1217 = .ok (.aload_n 3, 1) := by decide +kernel
theorem d_Law_law_1218 : decode code 1218 = .ok (.iconst 0, 1) := by decide +kernel
theorem d_Law_law_1219 : decode code 1219 = .ok (.laload, 1) := by decide +kernel
theorem d_Law_law_1220 : decode code 1220 = .ok (.iload 6, 2) := by decide +kernel
theorem d_Law_law_1222 : decode code 1222 = .ok (.i2l, 1) := by decide +kernel
theorem d_Law_law_1223 : decode code 1223 = .ok (.lcmp, 1) := by decide +kernel
theorem d_Law_law_1224 : decode code 1224 = .ok (.ifCond .eq 5, 3) := by decide +kernel
theorem d_Law_law_1229 : decode code 1229 = .ok (.goto 1288, 3) := by decide +kernel
theorem d_Law_law_1232 : decode code 1232 = .ok (.aload_n 1, 1) := by decide +kernel
theorem d_Law_law_1233 : decode code 1233 = .ok (.aload_n 0, 1) := by decide +kernel
theorem d_Law_law_1234 : decode code 1234 = .ok (.iload 4, 2) := by decide +kernel
theorem d_Law_law_1236 : decode code 1236 = .ok (.iconst 1, 1) := by decide +kernel
theorem d_Law_law_1237 : decode code 1237 = .ok (.iadd, 1) := by decide +kernel
theorem d_Law_law_1238 : decode code 1238 = .ok (.iaload, 1) := by decide +kernel
theorem d_Law_law_1239 : decode code 1239 = .ok (.aload_n 0, 1) := by decide +kernel
theorem d_Law_law_1240 : decode code 1240 = .ok (.iload 4, 2) := by decide +kernel
theorem d_Law_law_1242 : decode code 1242 = .ok (.iconst 2, 1) := by decide +kernel
theorem d_Law_law_1243 : decode code 1243 = .ok (.iadd, 1) := by decide +kernel
theorem d_Law_law_1244 : decode code 1244 = .ok (.iaload, 1) := by decide +kernel
theorem d_Law_law_1245 : decode code 1245 = .ok (.aload_n 3, 1) := by decide +kernel
theorem d_Law_law_1246 : decode code 1246 = .ok (.invokestatic 175, 3) := by decide +kernel
theorem d_Law_law_1249 : decode code 1249 = .ok (.istore 5, 2) := by decide +kernel
theorem d_Law_law_1251 : decode code 1251 = .ok (.aload_n 2, 1) := by decide +kernel
theorem d_Law_law_1252 : decode code 1252 = .ok (.aload_n 0, 1) := by decide +kernel
theorem d_Law_law_1253 : decode code 1253 = .ok (.iload 4, 2) := by decide +kernel
theorem d_Law_law_1255 : decode code 1255 = .ok (.iconst 1, 1) := by decide +kernel
theorem d_Law_law_1256 : decode code 1256 = .ok (.iadd, 1) := by decide +kernel
theorem d_Law_law_1257 : decode code 1257 = .ok (.iaload, 1) := by decide +kernel
theorem d_Law_law_1258 : decode code 1258 = .ok (.aload_n 0, 1) := by decide +kernel
theorem d_Law_law_1259 : decode code 1259 = .ok (.iload 4, 2) := by decide +kernel
theorem d_Law_law_1261 : decode code 1261 = .ok (.iconst 2, 1) := by decide +kernel
theorem d_Law_law_1262 : decode code 1262 = .ok (.iadd, 1) := by decide +kernel
theorem d_Law_law_1263 : decode code 1263 = .ok (.iaload, 1) := by decide +kernel
theorem d_Law_law_1264 : decode code 1264 = .ok (.invokevirtual 177, 3) := by decide +kernel
theorem d_Law_law_1267 : decode code 1267 = .ok (.istore 6, 2) := by decide +kernel
theorem d_Law_law_1269 : decode code 1269 = .ok (.aload_n 2, 1) := by decide +kernel
theorem d_Law_law_1270 : decode code 1270 = .ok (.invokevirtual 132, 3) := by decide +kernel
theorem d_Law_law_1273 : decode code 1273 = .ok (.iload 5, 2) := by decide +kernel
theorem d_Law_law_1275 : decode code 1275 = .ok (.if_icmp .eq 5, 3) := by decide +kernel
theorem d_Law_law_1280 : decode code 1280 = .ok (.iload 5, 2) := by decide +kernel
theorem d_Law_law_1282 : decode code 1282 = .ok (.ifCond .ne 15, 3) := by decide +kernel
theorem d_Law_law_1285 : decode code 1285 = .ok (.aload_n 3, 1) := by decide +kernel
theorem d_Law_law_1286 : decode code 1286 = .ok (.iconst 0, 1) := by decide +kernel
theorem d_Law_law_1287 : decode code 1287 = .ok (.laload, 1) := by decide +kernel
theorem d_Law_law_1288 : decode code 1288 = .ok (.iload 6, 2) := by decide +kernel
theorem d_Law_law_1290 : decode code 1290 = .ok (.i2l, 1) := by decide +kernel
theorem d_Law_law_1291 : decode code 1291 = .ok (.lcmp, 1) := by decide +kernel
theorem d_Law_law_1292 : decode code 1292 = .ok (.ifCond .eq 5, 3) := by decide +kernel
theorem d_Law_law_1297 : decode code 1297 = .ok (.goto 1220, 3) := by decide +kernel
theorem d_Law_law_1300 : decode code 1300 = .ok (.aload_n 1, 1) := by decide +kernel
theorem d_Law_law_1301 : decode code 1301 = .ok (.aload_n 0, 1) := by decide +kernel
theorem d_Law_law_1302 : decode code 1302 = .ok (.iload 4, 2) := by decide +kernel
theorem d_Law_law_1304 : decode code 1304 = .ok (.iconst 1, 1) := by decide +kernel
theorem d_Law_law_1305 : decode code 1305 = .ok (.iadd, 1) := by decide +kernel
theorem d_Law_law_1306 : decode code 1306 = .ok (.iaload, 1) := by decide +kernel
theorem d_Law_law_1307 : decode code 1307 = .ok (.aload_n 0, 1) := by decide +kernel
theorem d_Law_law_1308 : decode code 1308 = .ok (.iload 4, 2) := by decide +kernel
theorem d_Law_law_1310 : decode code 1310 = .ok (.iconst 2, 1) := by decide +kernel
theorem d_Law_law_1311 : decode code 1311 = .ok (.iadd, 1) := by decide +kernel
theorem d_Law_law_1312 : decode code 1312 = .ok (.iaload, 1) := by decide +kernel
theorem d_Law_law_1313 : decode code 1313 = .ok (.aload_n 0, 1) := by decide +kernel
theorem d_Law_law_1314 : decode code 1314 = .ok (.iload 4, 2) := by decide +kernel
theorem d_Law_law_1316 : decode code 1316 = .ok (.iconst 3, 1) := by decide +kernel
theorem d_Law_law_1317 : decode code 1317 = .ok (.iadd, 1) := by decide +kernel
theorem d_Law_law_1318 : decode code 1318 = .ok (.iaload, 1) := by decide +kernel
theorem d_Law_law_1319 : decode code 1319 = .ok (.aload_n 3, 1) := by decide +kernel
theorem d_Law_law_1320 : decode code 1320 = .ok (.invokestatic 178, 3) := by decide +kernel
theorem d_Law_law_1323 : decode code 1323 = .ok (.istore 5, 2) := by decide +kernel
theorem d_Law_law_1325 : decode code 1325 = .ok (.aload_n 2, 1) := by decide +kernel
theorem d_Law_law_1326 : decode code 1326 = .ok (.aload_n 0, 1) := by decide +kernel
theorem d_Law_law_1327 : decode code 1327 = .ok (.iload 4, 2) := by decide +kernel
theorem d_Law_law_1329 : decode code 1329 = .ok (.iconst 1, 1) := by decide +kernel
theorem d_Law_law_1330 : decode code 1330 = .ok (.iadd, 1) := by decide +kernel
theorem d_Law_law_1331 : decode code 1331 = .ok (.iaload, 1) := by decide +kernel
theorem d_Law_law_1332 : decode code 1332 = .ok (.aload_n 0, 1) := by decide +kernel
theorem d_Law_law_1333 : decode code 1333 = .ok (.iload 4, 2) := by decide +kernel
theorem d_Law_law_1335 : decode code 1335 = .ok (.iconst 2, 1) := by decide +kernel
theorem d_Law_law_1336 : decode code 1336 = .ok (.iadd, 1) := by decide +kernel
theorem d_Law_law_1337 : decode code 1337 = .ok (.iaload, 1) := by decide +kernel
theorem d_Law_law_1338 : decode code 1338 = .ok (.aload_n 0, 1) := by decide +kernel
theorem d_Law_law_1339 : decode code 1339 = .ok (.iload 4, 2) := by decide +kernel
theorem d_Law_law_1341 : decode code 1341 = .ok (.iconst 3, 1) := by decide +kernel
theorem d_Law_law_1342 : decode code 1342 = .ok (.iadd, 1) := by decide +kernel
theorem d_Law_law_1343 : decode code 1343 = .ok (.iaload, 1) := by decide +kernel
theorem d_Law_law_1344 : decode code 1344 = .ok (.invokevirtual 180, 3) := by decide +kernel
