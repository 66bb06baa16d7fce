/-! the law's instructions, 3 -/
theorem dl_956 : decode code 956 = .ok (.invokevirtual 117, 3) := by decide +kernel
theorem dl_959 : decode code 959 = .ok (.aload_n 2, 1) := by decide +kernel
theorem dl_960 : decode code 960 = .ok (.aload_n 0, 1) := by decide +kernel
theorem dl_961 : decode code 961 = .ok (.iload_n 3, 1) := by decide +kernel
theorem dl_962 : decode code 962 = .ok (.iconst 1, 1) := by decide +kernel
theorem dl_963 : decode code 963 = .ok (.iadd, 1) := by decide +kernel
theorem dl_964 : decode code 964 = .ok (.iaload, 1) := by decide +kernel
theorem dl_965 : decode code 965 = .ok (.aload_n 0, 1) := by decide +kernel
theorem dl_966 : decode code 966 = .ok (.iload_n 3, 1) := by decide +kernel
theorem dl_967 : decode code 967 = .ok (.iconst 2, 1) := by decide +kernel
theorem dl_968 : decode code 968 = .ok (.iadd, 1) := by decide +kernel
theorem dl_969 : decode code 969 = .ok (.iaload, 1) := by decide +kernel
theorem dl_970 : decode code 970 = .ok (.invokevirtual 120, 3) := by decide +kernel
theorem dl_973 : decode code 973 = .ok (.if_icmp .eq 698, 3) := by decide +kernel
theorem dl_976 : decode code 976 = .ok (.iconst 0, 1) := by decide +kernel
theorem dl_977 : decode code 977 = .ok (.ireturn, 1) := by decide +kernel
theorem dl_978 : decode code 978 = .ok (.aload_n 1, 1) := by decide +kernel
theorem dl_979 : decode code 979 = .ok (.aload_n 0, 1) := by decide +kernel
theorem dl_980 : decode code 980 = .ok (.iload_n 3, 1) := by decide +kernel
theorem dl_981 : decode code 981 = .ok (.iconst 1, 1) := by decide +kernel
theorem dl_982 : decode code 982 = .ok (.iadd, 1) := by decide +kernel
theorem dl_983 : decode code 983 = .ok (.iaload, 1) := by decide +kernel
theorem dl_984 : decode code 984 = .ok (.aload_n 0, 1) := by decide +kernel
theorem dl_985 : decode code 985 = .ok (.iload_n 3, 1) := by decide +kernel
theorem dl_986 : decode code 986 = .ok (.iconst 2, 1) := by decide +kernel
theorem dl_987 : decode code 987 = .ok (.iadd, 1) := by decide +kernel
theorem dl_988 : decode code 988 = .ok (.iaload, 1) := by decide +kernel
theorem dl_989 : decode code 989 = .ok (.invokevirtual 121, 3) := by decide +kernel
theorem dl_992 : decode code 992 = .ok (.aload_n 2, 1) := by decide +kernel
theorem dl_993 : decode code 993 = .ok (.aload_n 0, 1) := by decide +kernel
theorem dl_994 : decode code 994 = .ok (.iload_n 3, 1) := by decide +kernel
theorem dl_995 : decode code 995 = .ok (.iconst 1, 1) := by decide +kernel
theorem dl_996 : decode code 996 = .ok (.iadd, 1) := by decide +kernel
theorem dl_997 : decode code 997 = .ok (.iaload, 1) := by decide +kernel
theorem dl_998 : decode code 998 = .ok (.aload_n 0, 1) := by decide +kernel
theorem dl_999 : decode code 999 = .ok (.iload_n 3, 1) := by decide +kernel
theorem dl_1000 : decode code 1000 = .ok (.iconst 2, 1) := by decide +kernel
theorem dl_1001 : decode code 1001 = .ok (.iadd, 1) := by decide +kernel
theorem dl_1002 : decode code 1002 = .ok (.iaload, 1) := by decide +kernel
theorem dl_1003 : decode code 1003 = .ok (.invokevirtual 124, 3) := by decide +kernel
theorem dl_1006 : decode code 1006 = .ok (.if_icmp .eq 665, 3) := by decide +kernel
theorem dl_1009 : decode code 1009 = .ok (.iconst 0, 1) := by decide +kernel
theorem dl_1010 : decode code 1010 = .ok (.ireturn, 1) := by decide +kernel
theorem dl_1011 : decode code 1011 = .ok (.aload_n 1, 1) := by decide +kernel
theorem dl_1012 : decode code 1012 = .ok (.aload_n 0, 1) := by decide +kernel
theorem dl_1013 : decode code 1013 = .ok (.iload_n 3, 1) := by decide +kernel
theorem dl_1014 : decode code 1014 = .ok (.iconst 1, 1) := by decide +kernel
theorem dl_1015 : decode code 1015 = .ok (.iadd, 1) := by decide +kernel
theorem dl_1016 : decode code 1016 = .ok (.iaload, 1) := by decide +kernel
theorem dl_1017 : decode code 1017 = .ok (.aload_n 0, 1) := by decide +kernel
theorem dl_1018 : decode code 1018 = .ok (.iload_n 3, 1) := by decide +kernel
theorem dl_1019 : decode code 1019 = .ok (.iconst 2, 1) := by decide +kernel
theorem dl_1020 : decode code 1020 = .ok (.iadd, 1) := by decide +kernel
theorem dl_1021 : decode code 1021 = .ok (.iaload, 1) := by decide +kernel
theorem dl_1022 : decode code 1022 = .ok (.aload_n 0, 1) := by decide +kernel
theorem dl_1023 : decode code 1023 = .ok (.iload_n 3, 1) := by decide +kernel
theorem dl_1024 : decode code 1024 = .ok (.iconst 3, 1) := by decide +kernel
theorem dl_1025 : decode code 1025 = .ok (.iadd, 1) := by decide +kernel
theorem dl_1026 : decode code 1026 = .ok (.iaload, 1) := by decide +kernel
theorem dl_1027 : decode code 1027 = .ok (.invokevirtual 125, 3) := by decide +kernel
theorem dl_1030 : decode code 1030 = .ok (.aload_n 2, 1) := by decide +kernel
theorem dl_1031 : decode code 1031 = .ok (.aload_n 0, 1) := by decide +kernel
theorem dl_1032 : decode code 1032 = .ok (.iload_n 3, 1) := by decide +kernel
theorem dl_1033 : decode code 1033 = .ok (.iconst 1, 1) := by decide +kernel
theorem dl_1034 : decode code 1034 = .ok (.iadd, 1) := by decide +kernel
theorem dl_1035 : decode code 1035 = .ok (.iaload, 1) := by decide +kernel
theorem dl_1036 : decode code 1036 = .ok (.aload_n 0, 1) := by decide +kernel
theorem dl_1037 : decode code 1037 = .ok (.iload_n 3, 1) := by decide +kernel
theorem dl_1038 : decode code 1038 = .ok (.iconst 2, 1) := by decide +kernel
theorem dl_1039 : decode code 1039 = .ok (.iadd, 1) := by decide +kernel
theorem dl_1040 : decode code 1040 = .ok (.iaload, 1) := by decide +kernel
theorem dl_1041 : decode code 1041 = .ok (.aload_n 0, 1) := by decide +kernel
theorem dl_1042 : decode code 1042 = .ok (.iload_n 3, 1) := by decide +kernel
theorem dl_1043 : decode code 1043 = .ok (.iconst 3, 1) := by decide +kernel
theorem dl_1044 : decode code 1044 = .ok (.iadd, 1) := by decide +kernel
theorem dl_1045 : decode code 1045 = .ok (.iaload, 1) := by decide +kernel
theorem dl_1046 : decode code 1046 = .ok (.invokevirtual 129, 3) := by decide +kernel
theorem dl_1049 : decode code 1049 = .ok (.if_icmp .eq 622, 3) := by decide +kernel
theorem dl_1052 : decode code 1052 = .ok (.iconst 0, 1) := by decide +kernel
theorem dl_1053 : decode code 1053 = .ok (.ireturn, 1) := by decide +kernel
theorem dl_1054 : decode code 1054 = .ok (.aload_n 1, 1) := by decide +kernel
theorem dl_1055 : decode code 1055 = .ok (.aload_n 0, 1) := by decide +kernel
theorem dl_1056 : decode code 1056 = .ok (.iload_n 3, 1) := by decide +kernel
theorem dl_1057 : decode code 1057 = .ok (.iconst 1, 1) := by decide +kernel
theorem dl_1058 : decode code 1058 = .ok (.iadd, 1) := by decide +kernel
theorem dl_1059 : decode code 1059 = .ok (.iaload, 1) := by decide +kernel
theorem dl_1060 : decode code 1060 = .ok (.aload_n 0, 1) := by decide +kernel
theorem dl_1061 : decode code 1061 = .ok (.iload_n 3, 1) := by decide +kernel
theorem dl_1062 : decode code 1062 = .ok (.iconst 2, 1) := by decide +kernel
theorem dl_1063 : decode code 1063 = .ok (.iadd, 1) := by decide +kernel
theorem dl_1064 : decode code 1064 = .ok (.iaload, 1) := by decide +kernel
theorem dl_1065 : decode code 1065 = .ok (.invokevirtual 130, 3) := by decide +kernel
theorem dl_1068 : decode code 1068 = .ok (.aload_n 2, 1) := by decide +kernel
theorem dl_1069 : decode code 1069 = .ok (.aload_n 0, 1) := by decide +kernel
theorem dl_1070 : decode code 1070 = .ok (.iload_n 3, 1) := by decide +kernel
theorem dl_1071 : decode code 1071 = .ok (.iconst 1, 1) := by decide +kernel
theorem dl_1072 : decode code 1072 = .ok (.iadd, 1) := by decide +kernel
theorem dl_1073 : decode code 1073 = .ok (.iaload, 1) := by decide +kernel
theorem dl_1074 : decode code 1074 = .ok (.aload_n 0, 1) := by decide +kernel
theorem dl_1075 : decode code 1075 = .ok (.iload_n 3, 1) := by decide +kernel
theorem dl_1076 : decode code 1076 = .ok (.iconst 2, 1) := by decide +kernel
theorem dl_1077 : decode code 1077 = .ok (.iadd, 1) := by decide +kernel
theorem dl_1078 : decode code 1078 = .ok (.iaload, 1) := by decide +kernel
theorem dl_1079 : decode code 1079 = .ok (.invokevirtual 133, 3) := by decide +kernel
theorem dl_1082 : decode code 1082 = .ok (.if_icmp .eq 589, 3) := by decide +kernel
theorem dl_1085 : decode code 1085 = .ok (.iconst 0, 1) := by decide +kernel
theorem dl_1086 : decode code 1086 = .ok (.ireturn, 1) := by decide +kernel
theorem dl_1087 : decode code 1087 = .ok (.aload_n 1, 1) := by decide +kernel
theorem dl_1088 : decode code 1088 = .ok (.aload_n 0, 1) := by decide +kernel
theorem dl_1089 : decode code 1089 = .ok (.iload_n 3, 1) := by decide +kernel
theorem dl_1090 : decode code 1090 = .ok (.iconst 1, 1) := by decide +kernel
theorem dl_1091 : decode code 1091 = .ok (.iadd, 1) := by decide +kernel
theorem dl_1092 : decode code 1092 = .ok (.iaload, 1) := by decide +kernel
theorem dl_1093 : decode code 1093 = .ok (.aload_n 0, 1) := by decide +kernel
theorem dl_1094 : decode code 1094 = .ok (.iload_n 3, 1) := by decide +kernel
theorem dl_1095 : decode code 1095 = .ok (.iconst 2, 1) := by decide +kernel
theorem dl_1096 : decode code 1096 = .ok (.iadd, 1) := by decide +kernel
theorem dl_1097 : decode code 1097 = .ok (.iaload, 1) := by decide +kernel
theorem dl_1098 : decode code 1098 = .ok (.aload_n 0, 1) := by decide +kernel
theorem dl_1099 : decode code 1099 = .ok (.iload_n 3, 1) := by decide +kernel
theorem dl_1100 : decode code 1100 = .ok (.iconst 3, 1) := by decide +kernel
theorem dl_1101 : decode code 1101 = .ok (.iadd, 1) := by decide +kernel
theorem dl_1102 : decode code 1102 = .ok (.iaload, 1) := by decide +kernel
theorem dl_1103 : decode code 1103 = .ok (.invokevirtual 134, 3) := by decide +kernel
theorem dl_1106 : decode code 1106 = .ok (.aload_n 2, 1) := by decide +kernel
theorem dl_1107 : decode code 1107 = .ok (.aload_n 0, 1) := by decide +kernel
theorem dl_1108 : decode code 1108 = .ok (.iload_n 3, 1) := by decide +kernel
theorem dl_1109 : decode code 1109 = .ok (.iconst 1, 1) := by decide +kernel
theorem dl_1110 : decode code 1110 = .ok (.iadd, 1) := by decide +kernel
theorem dl_1111 : decode code 1111 = .ok (.iaload, 1) := by decide +kernel
theorem dl_1112 : decode code 1112 = .ok (.aload_n 0, 1) := by decide +kernel
theorem dl_1113 : decode code 1113 = .ok (.iload_n 3, 1) := by decide +kernel
theorem dl_1114 : decode code 1114 = .ok (.iconst 2, 1) := by decide +kernel
theorem dl_1115 : decode code 1115 = .ok (.iadd, 1) := by decide +kernel
theorem dl_1116 : decode code 1116 = .ok (.iaload, 1) := by decide +kernel
theorem dl_1117 : decode code 1117 = .ok (.aload_n 0, 1) := by decide +kernel
theorem dl_1118 : decode code 1118 = .ok (.iload_n 3, 1) := by decide +kernel
theorem dl_1119 : decode code 1119 = .ok (.iconst 3, 1) := by decide +kernel
theorem dl_1120 : decode code 1120 = .ok (.iadd, 1) := by decide +kernel
theorem dl_1121 : decode code 1121 = .ok (.iaload, 1) := by decide +kernel
theorem dl_1122 : decode code 1122 = .ok (.invokevirtual 137, 3) := by decide +kernel
theorem dl_1125 : decode code 1125 = .ok (.if_icmp .eq 546, 3) := by decide +kernel
theorem dl_1128 : decode code 1128 = .ok (.iconst 0, 1) := by decide +kernel
theorem dl_1129 : decode code 1129 = .ok (.ireturn, 1) := by decide +kernel
theorem dl_1130 : decode code 1130 = .ok (.aload_n 1, 1) := by decide +kernel
theorem dl_1131 : decode code 1131 = .ok (.aload_n 0, 1) := by decide +kernel
theorem dl_1132 : decode code 1132 = .ok (.iload_n 3, 1) := by decide +kernel
theorem dl_1133 : decode code 1133 = .ok (.iconst 1, 1) := by decide +kernel
theorem dl_1134 : decode code 1134 = .ok (.iadd, 1) := by decide +kernel
theorem dl_1135 : decode code 1135 = .ok (.iaload, 1) := by decide +kernel
theorem dl_1136 : decode code 1136 = .ok (.aload_n 0, 1) := by decide +kernel
theorem dl_1137 : decode code 1137 = .ok (.iload_n 3, 1) := by decide +kernel
theorem dl_1138 : decode code 1138 = .ok (.iconst 2, 1) := by decide +kernel
theorem dl_1139 : decode code 1139 = .ok (.iadd, 1) := by decide +kernel
theorem dl_1140 : decode code 1140 = .ok (.iaload, 1) := by decide +kernel
theorem dl_1141 : decode code 1141 = .ok (.aload_n 0, 1) := by decide +kernel
theorem dl_1142 : decode code 1142 = .ok (.iload_n 3, 1) := by decide +kernel
theorem dl_1143 : decode code 1143 = .ok (.iconst 3, 1) := by decide +kernel
theorem dl_1144 : decode code 1144 = .ok (.iadd, 1) := by decide +kernel
theorem dl_1145 : decode code 1145 = .ok (.iaload, 1) := by decide +kernel
theorem dl_1146 : decode code 1146 = .ok (.invokevirtual 138, 3) := by decide +kernel
theorem dl_1149 : decode code 1149 = .ok (.aload_n 2, 1) := by decide +kernel
theorem dl_1150 : decode code 1150 = .ok (.aload_n 0, 1) := by decide +kernel
theorem dl_1151 : decode code 1151 = .ok (.iload_n 3, 1) := by decide +kernel
theorem dl_1152 : decode code 1152 = .ok (.iconst 1, 1) := by decide +kernel
theorem dl_1153 : decode code 1153 = .ok (.iadd, 1) := by decide +kernel
theorem dl_1154 : decode code 1154 = .ok (.iaload, 1) := by decide +kernel
theorem dl_1155 : decode code 1155 = .ok (.aload_n 0, 1) := by decide +kernel
theorem dl_1156 : decode code 1156 = .ok (.iload_n 3, 1) := by decide +kernel
theorem dl_1157 : decode code 1157 = .ok (.iconst 2, 1) := by decide +kernel
theorem dl_1158 : decode code 1158 = .ok (.iadd, 1) := by decide +kernel
theorem dl_1159 : decode code 1159 = .ok (.iaload, 1) := by decide +kernel
theorem dl_1160 : decode code 1160 = .ok (.aload_n 0, 1) := by decide +kernel
theorem dl_1161 : decode code 1161 = .ok (.iload_n 3, 1) := by decide +kernel
theorem dl_1162 : decode code 1162 = .ok (.iconst 3, 1) := by decide +kernel
theorem dl_1163 : decode code 1163 = .ok (.iadd, 1) := by decide +kernel
theorem dl_1164 : decode code 1164 = .ok (.iaload, 1) := by decide +kernel
theorem dl_1165 : decode code 1165 = .ok (.invokevirtual 141, 3) := by decide +kernel
theorem dl_1168 : decode code 1168 = .ok (.if_icmp .eq 503, 3) := by decide +kernel
theorem dl_1171 : decode code 1171 = .ok (.iconst 0, 1) := by decide +kernel
theorem dl_1172 : decode code 1172 = .ok (.ireturn, 1) := by decide +kernel
theorem dl_1173 : decode code 1173 = .ok (.aload_n 1, 1) := by decide +kernel
theorem dl_1174 : decode code 1174 = .ok (.aload_n 0, 1) := by decide +kernel
theorem dl_1175 : decode code 1175 = .ok (.iload_n 3, 1) := by decide +kernel
theorem dl_1176 : decode code 1176 = .ok (.iconst 1, 1) := by decide +kernel
theorem dl_1177 : decode code 1177 = .ok (.iadd, 1) := by decide +kernel
theorem dl_1178 : decode code 1178 = .ok (.iaload, 1) := by decide +kernel
theorem dl_1179 : decode code 1179 = .ok (.aload_n 0, 1) := by decide +kernel
theorem dl_1180 : decode code 1180 = .ok (.iload_n 3, 1) := by decide +kernel
theorem dl_1181 : decode code 1181 = .ok (.iconst 2, 1) := by decide +kernel
theorem dl_1182 : decode code 1182 = .ok (.iadd, 1) := by decide +kernel
theorem dl_1183 : decode code 1183 = .ok (.iaload, 1) := by decide +kernel
theorem dl_1184 : decode code 1184 = .ok (.aload_n 0, 1) := by decide +kernel
theorem dl_1185 : decode code 1185 = .ok (.iload_n 3, 1) := by decide +kernel
theorem dl_1186 : decode code 1186 = .ok (.iconst 3, 1) := by decide +kernel
theorem dl_1187 : decode code 1187 = .ok (.iadd, 1) := by decide +kernel
theorem dl_1188 : decode code 1188 = .ok (.iaload, 1) := by decide +kernel
theorem dl_1189 : decode code 1189 = .ok (.aload_n 0, 1) := by decide +kernel
theorem dl_1190 : decode code 1190 = .ok (.iload_n 3, 1) := by decide +kernel
theorem dl_1191 : decode code 1191 = .ok (.iconst 4, 1) := by decide +kernel
theorem dl_1192 : decode code 1192 = .ok (.iadd, 1) := by decide +kernel
theorem dl_1193 : decode code 1193 = .ok (.iaload, 1) := by decide +kernel
theorem dl_1194 : decode code 1194 = .ok (.invokevirtual 142, 3) := by decide +kernel
theorem dl_1197 : decode code 1197 = .ok (.aload_n 2, 1) := by decide +kernel
theorem dl_1198 : decode code 1198 = .ok (.aload_n 0, 1) := by decide +kernel
theorem dl_1199 : decode code 1199 = .ok (.iload_n 3, 1) := by decide +kernel
theorem dl_1200 : decode code 1200 = .ok (.iconst 1, 1) := by decide +kernel
theorem dl_1201 : decode code 1201 = .ok (.iadd, 1) := by decide +kernel
theorem dl_1202 : decode code 1202 = .ok (.iaload, 1) := by decide +kernel
theorem dl_1203 : decode code 1203 = .ok (.aload_n 0, 1) := by decide +kernel
theorem dl_1204 : decode code 1204 = .ok (.iload_n 3, 1) := by decide +kernel
theorem dl_1205 : decode code 1205 = .ok (.iconst 2, 1) := by decide +kernel
theorem dl_1206 : decode code 1206 = .ok (.iadd, 1) := by decide +kernel
theorem dl_1207 : decode code 1207 = .ok (.iaload, 1) := by decide +kernel
theorem dl_1208 : decode code 1208 = .ok (.aload_n 0, 1) := by decide +kernel
theorem dl_1209 : decode code 1209 = .ok (.iload_n 3, 1) := by decide +kernel
theorem dl_1210 : decode code 1210 = .ok (.iconst 3, 1) := by decide +kernel
theorem dl_1211 : decode code 1211 = .ok (.iadd, 1) := by decide +kernel
theorem dl_1212 : decode code 1212 = .ok (.iaload, 1) := by decide +kernel
theorem dl_1213 : decode code 1213 = .ok (.aload_n 0, 1) := by decide +kernel
theorem dl_1214 : decode code 1214 = .ok (.iload_n 3, 1) := by decide +kernel
theorem dl_1215 : decode code 1215 = .ok (.iconst 4, 1) := by decide +kernel
theorem dl_1216 : decode code 1216 = .ok (.iadd, 1) := by decide +kernel
theorem dl_1217 : decode code 1217 = .ok (.iaload, 1) := by decide +kernel
theorem dl_1218 : decode code 1218 = .ok (.invokevirtual 146, 3) := by decide +kernel
theorem dl_1221 : decode code 1221 = .ok (.if_icmp .eq 450, 3) := by decide +kernel
theorem dl_1224 : decode code 1224 = .ok (.iconst 0, 1) := by decide +kernel
theorem dl_1225 : decode code 1225 = .ok (.ireturn, 1) := by decide +kernel
theorem dl_1226 : decode code 1226 = .ok (.aload_n 1, 1) := by decide +kernel
theorem dl_1227 : decode code 1227 = .ok (.aload_n 0, 1) := by decide +kernel
theorem dl_1228 : decode code 1228 = .ok (.iload_n 3, 1) := by decide +kernel
theorem dl_1229 : decode code 1229 = .ok (.iconst 1, 1) := by decide +kernel
theorem dl_1230 : decode code 1230 = .ok (.iadd, 1) := by decide +kernel
theorem dl_1231 : decode code 1231 = .ok (.iaload, 1) := by decide +kernel
theorem dl_1232 : decode code 1232 = .ok (.aload_n 0, 1) := by decide +kernel
theorem dl_1233 : decode code 1233 = .ok (.iload_n 3, 1) := by decide +kernel
theorem dl_1234 : decode code 1234 = .ok (.iconst 2, 1) := by decide +kernel
theorem dl_1235 : decode code 1235 = .ok (.iadd, 1) := by decide +kernel
theorem dl_1236 : decode code 1236 = .ok (.iaload, 1) := by decide +kernel
theorem dl_1237 : decode code 1237 = .ok (.aload_n 0, 1) := by decide +kernel
theorem dl_1238 : decode code 1238 = .ok (.iload_n 3, 1) := by decide +kernel
theorem dl_1239 : decode code 1239 = .ok (.iconst 3, 1) := by decide +kernel
theorem dl_1240 : decode code 1240 = .ok (.iadd, 1) := by decide +kernel
theorem dl_1241 : decode code 1241 = .ok (.iaload, 1) := by decide +kernel
theorem dl_1242 : decode code 1242 = .ok (.invokevirtual 147, 3) := by decide +kernel
theorem dl_1245 : decode code 1245 = .ok (.aload_n 2, 1) := by decide +kernel
theorem dl_1246 : decode code 1246 = .ok (.aload_n 0, 1) := by decide +kernel
theorem dl_1247 : decode code 1247 = .ok (.iload_n 3, 1) := by decide +kernel
theorem dl_1248 : decode code 1248 = .ok (.iconst 1, 1) := by decide +kernel
theorem dl_1249 : decode code 1249 = .ok (.iadd, 1) := by decide +kernel
theorem dl_1250 : decode code 1250 = .ok (.iaload, 1) := by decide +kernel
theorem dl_1251 : decode code 1251 = .ok (.aload_n 0, 1) := by decide +kernel
theorem dl_1252 : decode code 1252 = .ok (.iload_n 3, 1) := by decide +kernel
theorem dl_1253 : decode code 1253 = .ok (.iconst 2, 1) := by decide +kernel
theorem dl_1254 : decode code 1254 = .ok (.iadd, 1) := by decide +kernel
theorem dl_1255 : decode code 1255 = .ok (.iaload, 1) := by decide +kernel
theorem dl_1256 : decode code 1256 = .ok (.aload_n 0, 1) := by decide +kernel
theorem dl_1257 : decode code 1257 = .ok (.iload_n 3, 1) := by decide +kernel
theorem dl_1258 : decode code 1258 = .ok (.iconst 3, 1) := by decide +kernel
theorem dl_1259 : decode code 1259 = .ok (.iadd, 1) := by decide +kernel
theorem dl_1260 : decode code 1260 = .ok (.iaload, 1) := by decide +kernel
theorem dl_1261 : decode code 1261 = .ok (.invokevirtual 150, 3) := by decide +kernel
theorem dl_1264 : decode code 1264 = .ok (.if_icmp .eq 407, 3) := by decide +kernel
theorem dl_1267 : decode code 1267 = .ok (.iconst 0, 1) := by decide +kernel
theorem dl_1268 : decode code 1268 = .ok (.ireturn, 1) := by decide +kernel
theorem dl_1269 : decode code 1269 = .ok (.aload_n 1, 1) := by decide +kernel
theorem dl_1270 : decode code 1270 = .ok (.aload_n 0, 1) := by decide +kernel
theorem dl_1271 : decode code 1271 = .ok (.iload_n 3, 1) := by decide +kernel
theorem dl_1272 : decode code 1272 = .ok (.iconst 1, 1) := by decide +kernel
theorem dl_1273 : decode code 1273 = .ok (.iadd, 1) := by decide +kernel
theorem dl_1274 : decode code 1274 = .ok (.iaload, 1) := by decide +kernel
theorem dl_1275 : decode code 1275 = .ok (.aload_n 0, 1) := by decide +kernel
theorem dl_1276 : decode code 1276 = .ok (.iload_n 3, 1) := by decide +kernel
theorem dl_1277 : decode code 1277 = .ok (.iconst 2, 1) := by decide +kernel
theorem dl_1278 : decode code 1278 = .ok (.iadd, 1) := by decide +kernel
theorem dl_1279 : decode code 1279 = .ok (.iaload, 1) := by decide +kernel
theorem dl_1280 : decode code 1280 = .ok (.aload_n 0, 1) := by decide +kernel
theorem dl_1281 : decode code 1281 = .ok (.iload_n 3, 1) := by decide +kernel
theorem dl_1282 : decode code 1282 = .ok (.iconst 3, 1) := by decide +kernel
theorem dl_1283 : decode code 1283 = .ok (.iadd, 1) := by decide +kernel
theorem dl_1284 : decode code 1284 = .ok (.iaload, 1) := by decide +kernel
theorem dl_1285 : decode code 1285 = .ok (.aload_n 0, 1) := by decide +kernel
theorem dl_1286 : decode code 1286 = .ok (.iload_n 3, 1) := by decide +kernel
theorem dl_1287 : decode code 1287 = .ok (.iconst 4, 1) := by decide +kernel
theorem dl_1288 : decode code 1288 = .ok (.iadd, 1) := by decide +kernel
theorem dl_1289 : decode code 1289 = .ok (.iaload, 1) := by decide +kernel
theorem dl_1290 : decode code 1290 = .ok (.invokevirtual 151, 3) := by decide +kernel
theorem dl_1293 : decode code 1293 = .ok (.aload_n 2, 1) := by decide +kernel
theorem dl_1294 : decode code 1294 = .ok (.aload_n 0, 1) := by decide +kernel
theorem dl_1295 : decode code 1295 = .ok (.iload_n 3, 1) := by decide +kernel
theorem dl_1296 : decode code 1296 = .ok (.iconst 1, 1) := by decide +kernel
theorem dl_1297 : decode code 1297 = .ok (.iadd, 1) := by decide +kernel
theorem dl_1298 : decode code 1298 = .ok (.iaload, 1) := by decide +kernel
theorem dl_1299 : decode code 1299 = .ok (.aload_n 0, 1) := by decide +kernel
theorem dl_1300 : decode code 1300 = .ok (.iload_n 3, 1) := by decide +kernel
theorem dl_1301 : decode code 1301 = .ok (.iconst 2, 1) := by decide +kernel
theorem dl_1302 : decode code 1302 = .ok (.iadd, 1) := by decide +kernel
theorem dl_1303 : decode code 1303 = .ok (.iaload, 1) := by decide +kernel
theorem dl_1304 : decode code 1304 = .ok (.aload_n 0, 1) := by decide +kernel
theorem dl_1305 : decode code 1305 = .ok (.iload_n 3, 1) := by decide +kernel
theorem dl_1306 : decode code 1306 = .ok (.iconst 3, 1) := by decide +kernel
theorem dl_1307 : decode code 1307 = .ok (.iadd, 1) := by decide +kernel
theorem dl_1308 : decode code 1308 = .ok (.iaload, 1) := by decide +kernel
theorem dl_1309 : decode code 1309 = .ok (.aload_n 0, 1) := by decide +kernel
