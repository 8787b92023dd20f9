/-! the law, decoded -/
theorem dL_law_1061 : decode code 1061 = .ok (.iconst 2, 1) := by decide +kernel
theorem dL_law_1062 : decode code 1062 = .ok (.iadd, 1) := by decide +kernel
theorem dL_law_1063 : decode code 1063 = .ok (.iaload, 1) := by decide +kernel
theorem dL_law_1064 : decode code 1064 = .ok (.invokevirtual 109, 3) := by decide +kernel
theorem dL_law_1067 : decode code 1067 = .ok (.aload_n 2, 1) := by decide +kernel
theorem dL_law_1068 : decode code 1068 = .ok (.aload_n 0, 1) := by decide +kernel
theorem dL_law_1069 : decode code 1069 = .ok (.iload 4, 2) := by decide +kernel
theorem dL_law_1071 : decode code 1071 = .ok (.iconst 1, 1) := by decide +kernel
theorem dL_law_1072 : decode code 1072 = .ok (.iadd, 1) := by decide +kernel
theorem dL_law_1073 : decode code 1073 = .ok (.iaload, 1) := by decide +kernel
theorem dL_law_1074 : decode code 1074 = .ok (.aload_n 0, 1) := by decide +kernel
theorem dL_law_1075 : decode code 1075 = .ok (.iload 4, 2) := by decide +kernel
theorem dL_law_1077 : decode code 1077 = .ok (.iconst 2, 1) := by decide +kernel
theorem dL_law_1078 : decode code 1078 = .ok (.iadd, 1) := by decide +kernel
theorem dL_law_1079 : decode code 1079 = .ok (.iaload, 1) := by decide +kernel
theorem dL_law_1080 : decode code 1080 = .ok (.invokevirtual 112, 3) := by decide +kernel
theorem dL_law_1083 : decode code 1083 = .ok (.if_icmp .eq 339, 3) := by decide +kernel
theorem dL_law_1086 : decode code 1086 = .ok (.iconst 0, 1) := by decide +kernel
theorem dL_law_1087 : decode code 1087 = .ok (.ireturn, 1) := by decide +kernel
theorem dL_law_1088 : decode code 1088 = .ok (.aload_n 1, 1) := by decide +kernel
theorem dL_law_1089 : decode code 1089 = .ok (.aload_n 0, 1) := by decide +kernel
theorem dL_law_1090 : decode code 1090 = .ok (.iload 4, 2) := by decide +kernel
theorem dL_law_1092 : decode code 1092 = .ok (.iconst 1, 1) := by decide +kernel
theorem dL_law_1093 : decode code 1093 = .ok (.iadd, 1) := by decide +kernel
theorem dL_law_1094 : decode code 1094 = .ok (.iaload, 1) := by decide +kernel
theorem dL_law_1095 : decode code 1095 = .ok (.aload_n 0, 1) := by decide +kernel
theorem dL_law_1096 : decode code 1096 = .ok (.iload 4, 2) := by decide +kernel
theorem dL_law_1098 : decode code 1098 = .ok (.iconst 2, 1) := by decide +kernel
theorem dL_law_1099 : decode code 1099 = .ok (.iadd, 1) := by decide +kernel
theorem dL_law_1100 : decode code 1100 = .ok (.iaload, 1) := by decide +kernel
theorem dL_law_1101 : decode code 1101 = .ok (.invokevirtual 113, 3) := by decide +kernel
theorem dL_law_1104 : decode code 1104 = .ok (.aload_n 2, 1) := by decide +kernel
theorem dL_law_1105 : decode code 1105 = .ok (.aload_n 0, 1) := by decide +kernel
theorem dL_law_1106 : decode code 1106 = .ok (.iload 4, 2) := by decide +kernel
theorem dL_law_1108 : decode code 1108 = .ok (.iconst 1, 1) := by decide +kernel
theorem dL_law_1109 : decode code 1109 = .ok (.iadd, 1) := by decide +kernel
theorem dL_law_1110 : decode code 1110 = .ok (.iaload, 1) := by decide +kernel
theorem dL_law_1111 : decode code 1111 = .ok (.aload_n 0, 1) := by decide +kernel
theorem dL_law_1112 : decode code 1112 = .ok (.iload 4, 2) := by decide +kernel
theorem dL_law_1114 : decode code 1114 = .ok (.iconst 2, 1) := by decide +kernel
theorem dL_law_1115 : decode code 1115 = .ok (.iadd, 1) := by decide +kernel
theorem dL_law_1116 : decode code 1116 = .ok (.iaload, 1) := by decide +kernel
theorem dL_law_1117 : decode code 1117 = .ok (.invokevirtual 116, 3) := by decide +kernel
theorem dL_law_1120 : decode code 1120 = .ok (.if_icmp .eq 302, 3) := by decide +kernel
theorem dL_law_1123 : decode code 1123 = .ok (.iconst 0, 1) := by decide +kernel
theorem dL_law_1124 : decode code 1124 = .ok (.ireturn, 1) := by decide +kernel
theorem dL_law_1125 : decode code 1125 = .ok (.aload_n 1, 1) := by decide +kernel
theorem dL_law_1126 : decode code 1126 = .ok (.aload_n 0, 1) := by decide +kernel
theorem dL_law_1127 : decode code 1127 = .ok (.iload 4, 2) := by decide +kernel
theorem dL_law_1129 : decode code 1129 = .ok (.iconst 1, 1) := by decide +kernel
theorem dL_law_1130 : decode code 1130 = .ok (.iadd, 1) := by decide +kernel
theorem dL_law_1131 : decode code 1131 = .ok (.iaload, 1) := by decide +kernel
theorem dL_law_1132 : decode code 1132 = .ok (.aload_n 0, 1) := by decide +kernel
theorem dL_law_1133 : decode code 1133 = .ok (.iload 4, 2) := by decide +kernel
theorem dL_law_1135 : decode code 1135 = .ok (.iconst 2, 1) := by decide +kernel
theorem dL_law_1136 : decode code 1136 = .ok (.iadd, 1) := by decide +kernel
theorem dL_law_1137 : decode code 1137 = .ok (.iaload, 1) := by decide +kernel
theorem dL_law_1138 : decode code 1138 = .ok (.invokevirtual 117, 3) := by decide +kernel
theorem dL_law_1141 : decode code 1141 = .ok (.aload_n 2, 1) := by decide +kernel
theorem dL_law_1142 : decode code 1142 = .ok (.aload_n 0, 1) := by decide +kernel
theorem dL_law_1143 : decode code 1143 = .ok (.iload 4, 2) := by decide +kernel
theorem dL_law_1145 : decode code 1145 = .ok (.iconst 1, 1) := by decide +kernel
theorem dL_law_1146 : decode code 1146 = .ok (.iadd, 1) := by decide +kernel
theorem dL_law_1147 : decode code 1147 = .ok (.iaload, 1) := by decide +kernel
theorem dL_law_1148 : decode code 1148 = .ok (.aload_n 0, 1) := by decide +kernel
theorem dL_law_1149 : decode code 1149 = .ok (.iload 4, 2) := by decide +kernel
theorem dL_law_1151 : decode code 1151 = .ok (.iconst 2, 1) := by decide +kernel
theorem dL_law_1152 : decode code 1152 = .ok (.iadd, 1) := by decide +kernel
theorem dL_law_1153 : decode code 1153 = .ok (.iaload, 1) := by decide +kernel
theorem dL_law_1154 : decode code 1154 = .ok (.invokevirtual 120, 3) := by decide +kernel
theorem dL_law_1157 : decode code 1157 = .ok (.if_icmp .eq 265, 3) := by decide +kernel
theorem dL_law_1160 : decode code 1160 = .ok (.iconst 0, 1) := by decide +kernel
theorem dL_law_1161 : decode code 1161 = .ok (.ireturn, 1) := by decide +kernel
theorem dL_law_1162 : decode code 1162 = .ok (.aload_n 1, 1) := by decide +kernel
theorem dL_law_1163 : decode code 1163 = .ok (.aload_n 0, 1) := by decide +kernel
theorem dL_law_1164 : decode code 1164 = .ok (.iload 4, 2) := by decide +kernel
theorem dL_law_1166 : decode code 1166 = .ok (.iconst 1, 1) := by decide +kernel
theorem dL_law_1167 : decode code 1167 = .ok (.iadd, 1) := by decide +kernel
theorem dL_law_1168 : decode code 1168 = .ok (.iaload, 1) := by decide +kernel
theorem dL_law_1169 : decode code 1169 = .ok (.aload_n 0, 1) := by decide +kernel
theorem dL_law_1170 : decode code 1170 = .ok (.iload 4, 2) := by decide +kernel
theorem dL_law_1172 : decode code 1172 = .ok (.iconst 2, 1) := by decide +kernel
theorem dL_law_1173 : decode code 1173 = .ok (.iadd, 1) := by decide +kernel
theorem dL_law_1174 : decode code 1174 = .ok (.iaload, 1) := by decide +kernel
theorem dL_law_1175 : decode code 1175 = .ok (.aload_n 0, 1) := by decide +kernel
theorem dL_law_1176 : decode code 1176 = .ok (.iload 4, 2) := by decide +kernel
theorem dL_law_1178 : decode code 1178 = .ok (.iconst 3, 1) := by decide +kernel
theorem dL_law_1179 : decode code 1179 = .ok (.iadd, 1) := by decide +kernel
theorem dL_law_1180 : decode code 1180 = .ok (.iaload, 1) := by decide +kernel
theorem dL_law_1181 : decode code 1181 = .ok (.invokevirtual 121, 3) := by decide +kernel
theorem dL_law_1184 : decode code 1184 = .ok (.aload_n 2, 1) := by decide +kernel
theorem dL_law_1185 : decode code 1185 = .ok (.aload_n 0, 1) := by decide +kernel
theorem dL_law_1186 : decode code 1186 = .ok (.iload 4, 2) := by decide +kernel
theorem dL_law_1188 : decode code 1188 = .ok (.iconst 1, 1) := by decide +kernel
theorem dL_law_1189 : decode code 1189 = .ok (.iadd, 1) := by decide +kernel
theorem dL_law_1190 : decode code 1190 = .ok (.iaload, 1) := by decide +kernel
theorem dL_law_1191 : decode code 1191 = .ok (.aload_n 0, 1) := by decide +kernel
theorem dL_law_1192 : decode code 1192 = .ok (.iload 4, 2) := by decide +kernel
theorem dL_law_1194 : decode code 1194 = .ok (.iconst 2, 1) := by decide +kernel
theorem dL_law_1195 : decode code 1195 = .ok (.iadd, 1) := by decide +kernel
theorem dL_law_1196 : decode code 1196 = .ok (.iaload, 1) := by decide +kernel
theorem dL_law_1197 : decode code 1197 = .ok (.aload_n 0, 1) := by decide +kernel
theorem dL_law_1198 : decode code 1198 = .ok (.iload 4, 2) := by decide +kernel
theorem dL_law_1200 : decode code 1200 = .ok (.iconst 3, 1) := by decide +kernel
theorem dL_law_1201 : decode code 1201 = .ok (.iadd, 1) := by decide +kernel
theorem dL_law_1202 : decode code 1202 = .ok (.iaload, 1) := by decide +kernel
theorem dL_law_1203 : decode code 1203 = .ok (.invokevirtual 124, 3) := by decide +kernel
theorem dL_law_1206 : decode code 1206 = .ok (.if_icmp .eq 216, 3) := by decide +kernel
theorem dL_law_1209 : decode code 1209 = .ok (.iconst 0, 1) := by decide +kernel
theorem dL_law_1210 : decode code 1210 = .ok (.ireturn, 1) := by decide +kernel
