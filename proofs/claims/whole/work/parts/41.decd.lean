theorem dL_law_970 : decode code 970 = .ok (.aload_n 0, 1) := by decide +kernel
theorem dL_law_971 : decode code 971 = .ok (.iload_n 3, 1) := by decide +kernel
theorem dL_law_972 : decode code 972 = .ok (.iconst 1, 1) := by decide +kernel
theorem dL_law_973 : decode code 973 = .ok (.iadd, 1) := by decide +kernel
theorem dL_law_974 : decode code 974 = .ok (.iaload, 1) := by decide +kernel
theorem dL_law_975 : decode code 975 = .ok (.invokevirtual 134, 3) := by decide +kernel
theorem dL_law_978 : decode code 978 = .ok (.if_icmp .eq 456, 3) := by decide +kernel
theorem dL_law_981 : decode code 981 = .ok (.iconst 0, 1) := by decide +kernel
theorem dL_law_982 : decode code 982 = .ok (.ireturn, 1) := by decide +kernel
theorem dL_law_983 : decode code 983 = .ok (.aload_n 1, 1) := by decide +kernel
theorem dL_law_984 : decode code 984 = .ok (.aload_n 0, 1) := by decide +kernel
theorem dL_law_985 : decode code 985 = .ok (.iload_n 3, 1) := by decide +kernel
theorem dL_law_986 : decode code 986 = .ok (.iconst 1, 1) := by decide +kernel
theorem dL_law_987 : decode code 987 = .ok (.iadd, 1) := by decide +kernel
theorem dL_law_988 : decode code 988 = .ok (.iaload, 1) := by decide +kernel
theorem dL_law_989 : decode code 989 = .ok (.aload_n 0, 1) := by decide +kernel
theorem dL_law_990 : decode code 990 = .ok (.iload_n 3, 1) := by decide +kernel
theorem dL_law_991 : decode code 991 = .ok (.iconst 2, 1) := by decide +kernel
theorem dL_law_992 : decode code 992 = .ok (.iadd, 1) := by decide +kernel
theorem dL_law_993 : decode code 993 = .ok (.iaload, 1) := by decide +kernel
theorem dL_law_994 : decode code 994 = .ok (.aload_n 0, 1) := by decide +kernel
theorem dL_law_995 : decode code 995 = .ok (.iload_n 3, 1) := by decide +kernel
theorem dL_law_996 : decode code 996 = .ok (.iconst 3, 1) := by decide +kernel
theorem dL_law_997 : decode code 997 = .ok (.iadd, 1) := by decide +kernel
theorem dL_law_998 : decode code 998 = .ok (.iaload, 1) := by decide +kernel
theorem dL_law_999 : decode code 999 = .ok (.aload_n 0, 1) := by decide +kernel
theorem dL_law_1000 : decode code 1000 = .ok (.iload_n 3, 1) := by decide +kernel
theorem dL_law_1001 : decode code 1001 = .ok (.iconst 4, 1) := by decide +kernel
theorem dL_law_1002 : decode code 1002 = .ok (.iadd, 1) := by decide +kernel
theorem dL_law_1003 : decode code 1003 = .ok (.iaload, 1) := by decide +kernel
theorem dL_law_1004 : decode code 1004 = .ok (.invokevirtual 135, 3) := by decide +kernel
theorem dL_law_1007 : decode code 1007 = .ok (.aload_n 2, 1) := by decide +kernel
theorem dL_law_1008 : decode code 1008 = .ok (.aload_n 0, 1) := by decide +kernel
theorem dL_law_1009 : decode code 1009 = .ok (.iload_n 3, 1) := by decide +kernel
theorem dL_law_1010 : decode code 1010 = .ok (.iconst 1, 1) := by decide +kernel
theorem dL_law_1011 : decode code 1011 = .ok (.iadd, 1) := by decide +kernel
theorem dL_law_1012 : decode code 1012 = .ok (.iaload, 1) := by decide +kernel
theorem dL_law_1013 : decode code 1013 = .ok (.aload_n 0, 1) := by decide +kernel
theorem dL_law_1014 : decode code 1014 = .ok (.iload_n 3, 1) := by decide +kernel
theorem dL_law_1015 : decode code 1015 = .ok (.iconst 2, 1) := by decide +kernel
theorem dL_law_1016 : decode code 1016 = .ok (.iadd, 1) := by decide +kernel
theorem dL_law_1017 : decode code 1017 = .ok (.iaload, 1) := by decide +kernel
theorem dL_law_1018 : decode code 1018 = .ok (.aload_n 0, 1) := by decide +kernel
theorem dL_law_1019 : decode code 1019 = .ok (.iload_n 3, 1) := by decide +kernel
theorem dL_law_1020 : decode code 1020 = .ok (.iconst 3, 1) := by decide +kernel
theorem dL_law_1021 : decode code 1021 = .ok (.iadd, 1) := by decide +kernel
theorem dL_law_1022 : decode code 1022 = .ok (.iaload, 1) := by decide +kernel
theorem dL_law_1023 : decode code 1023 = .ok (.aload_n 0, 1) := by decide +kernel
theorem dL_law_1024 : decode code 1024 = .ok (.iload_n 3, 1) := by decide +kernel
theorem dL_law_1025 : decode code 1025 = .ok (.iconst 4, 1) := by decide +kernel
theorem dL_law_1026 : decode code 1026 = .ok (.iadd, 1) := by decide +kernel
theorem dL_law_1027 : decode code 1027 = .ok (.iaload, 1) := by decide +kernel
theorem dL_law_1028 : decode code 1028 = .ok (.invokevirtual 139, 3) := by decide +kernel
theorem dL_law_1031 : decode code 1031 = .ok (.if_icmp .eq 403, 3) := by decide +kernel
theorem dL_law_1034 : decode code 1034 = .ok (.iconst 0, 1) := by decide +kernel
theorem dL_law_1035 : decode code 1035 = .ok (.ireturn, 1) := by decide +kernel
theorem dL_law_1036 : decode code 1036 = .ok (.aload_n 1, 1) := by decide +kernel
theorem dL_law_1037 : decode code 1037 = .ok (.aload_n 0, 1) := by decide +kernel
theorem dL_law_1038 : decode code 1038 = .ok (.iload_n 3, 1) := by decide +kernel
theorem dL_law_1039 : decode code 1039 = .ok (.iconst 1, 1) := by decide +kernel
theorem dL_law_1040 : decode code 1040 = .ok (.iadd, 1) := by decide +kernel
theorem dL_law_1041 : decode code 1041 = .ok (.iaload, 1) := by decide +kernel
theorem dL_law_1042 : decode code 1042 = .ok (.aload_n 0, 1) := by decide +kernel
theorem dL_law_1043 : decode code 1043 = .ok (.iload_n 3, 1) := by decide +kernel
theorem dL_law_1044 : decode code 1044 = .ok (.iconst 2, 1) := by decide +kernel
theorem dL_law_1045 : decode code 1045 = .ok (.iadd, 1) := by decide +kernel
theorem dL_law_1046 : decode code 1046 = .ok (.iaload, 1) := by decide +kernel
theorem dL_law_1047 : decode code 1047 = .ok (.invokevirtual 140, 3) := by decide +kernel
theorem dL_law_1050 : decode code 1050 = .ok (.aload_n 2, 1) := by decide +kernel
theorem dL_law_1051 : decode code 1051 = .ok (.aload_n 0, 1) := by decide +kernel
theorem dL_law_1052 : decode code 1052 = .ok (.iload_n 3, 1) := by decide +kernel
theorem dL_law_1053 : decode code 1053 = .ok (.iconst 1, 1) := by decide +kernel
theorem dL_law_1054 : decode code 1054 = .ok (.iadd, 1) := by decide +kernel
theorem dL_law_1055 : decode code 1055 = .ok (.iaload, 1) := by decide +kernel
theorem dL_law_1056 : decode code 1056 = .ok (.aload_n 0, 1) := by decide +kernel
theorem dL_law_1057 : decode code 1057 = .ok (.iload_n 3, 1) := by decide +kernel
theorem dL_law_1058 : decode code 1058 = .ok (.iconst 2, 1) := by decide +kernel
theorem dL_law_1059 : decode code 1059 = .ok (.iadd, 1) := by decide +kernel
theorem dL_law_1060 : decode code 1060 = .ok (.iaload, 1) := by decide +kernel
theorem dL_law_1061 : decode code 1061 = .ok (.invokevirtual 143, 3) := by decide +kernel
theorem dL_law_1064 : decode code 1064 = .ok (.if_icmp .eq 370, 3) := by decide +kernel
theorem dL_law_1067 : decode code 1067 = .ok (.iconst 0, 1) := by decide +kernel
theorem dL_law_1068 : decode code 1068 = .ok (.ireturn, 1) := by decide +kernel
theorem dL_law_1069 : decode code 1069 = .ok (.aload_n 1, 1) := by decide +kernel
theorem dL_law_1070 : decode code 1070 = .ok (.invokevirtual 144, 3) := by decide +kernel
theorem dL_law_1073 : decode code 1073 = .ok (.aload_n 2, 1) := by decide +kernel
theorem dL_law_1074 : decode code 1074 = .ok (.invokevirtual 147, 3) := by decide +kernel
theorem dL_law_1077 : decode code 1077 = .ok (.if_icmp .eq 357, 3) := by decide +kernel
theorem dL_law_1080 : decode code 1080 = .ok (.iconst 0, 1) := by decide +kernel
theorem dL_law_1081 : decode code 1081 = .ok (.ireturn, 1) := by decide +kernel
theorem dL_law_1082 : decode code 1082 = .ok (.aload_n 1, 1) := by decide +kernel
theorem dL_law_1083 : decode code 1083 = .ok (.aload_n 0, 1) := by decide +kernel
theorem dL_law_1084 : decode code 1084 = .ok (.iload_n 3, 1) := by decide +kernel
theorem dL_law_1085 : decode code 1085 = .ok (.iconst 1, 1) := by decide +kernel
theorem dL_law_1086 : decode code 1086 = .ok (.iadd, 1) := by decide +kernel
theorem dL_law_1087 : decode code 1087 = .ok (.iaload, 1) := by decide +kernel
theorem dL_law_1088 : decode code 1088 = .ok (.invokevirtual 148, 3) := by decide +kernel
theorem dL_law_1091 : decode code 1091 = .ok (.aload_n 2, 1) := by decide +kernel
theorem dL_law_1092 : decode code 1092 = .ok (.aload_n 0, 1) := by decide +kernel
theorem dL_law_1093 : decode code 1093 = .ok (.iload_n 3, 1) := by decide +kernel
theorem dL_law_1094 : decode code 1094 = .ok (.iconst 1, 1) := by decide +kernel
theorem dL_law_1095 : decode code 1095 = .ok (.iadd, 1) := by decide +kernel
theorem dL_law_1096 : decode code 1096 = .ok (.iaload, 1) := by decide +kernel
theorem dL_law_1097 : decode code 1097 = .ok (.invokevirtual 151, 3) := by decide +kernel
theorem dL_law_1100 : decode code 1100 = .ok (.if_icmp .eq 334, 3) := by decide +kernel
theorem dL_law_1103 : decode code 1103 = .ok (.iconst 0, 1) := by decide +kernel
theorem dL_law_1104 : decode code 1104 = .ok (.ireturn, 1) := by decide +kernel
theorem dL_law_1105 : decode code 1105 = .ok (.aload_n 1, 1) := by decide +kernel
theorem dL_law_1106 : decode code 1106 = .ok (.aload_n 0, 1) := by decide +kernel
theorem dL_law_1107 : decode code 1107 = .ok (.iload_n 3, 1) := by decide +kernel
theorem dL_law_1108 : decode code 1108 = .ok (.iconst 1, 1) := by decide +kernel
theorem dL_law_1109 : decode code 1109 = .ok (.iadd, 1) := by decide +kernel
theorem dL_law_1110 : decode code 1110 = .ok (.iaload, 1) := by decide +kernel
theorem dL_law_1111 : decode code 1111 = .ok (.aload_n 0, 1) := by decide +kernel
theorem dL_law_1112 : decode code 1112 = .ok (.iload_n 3, 1) := by decide +kernel
theorem dL_law_1113 : decode code 1113 = .ok (.iconst 2, 1) := by decide +kernel
theorem dL_law_1114 : decode code 1114 = .ok (.iadd, 1) := by decide +kernel
theorem dL_law_1115 : decode code 1115 = .ok (.iaload, 1) := by decide +kernel
theorem dL_law_1116 : decode code 1116 = .ok (.aload_n 0, 1) := by decide +kernel
theorem dL_law_1117 : decode code 1117 = .ok (.iload_n 3, 1) := by decide +kernel
theorem dL_law_1118 : decode code 1118 = .ok (.iconst 3, 1) := by decide +kernel
theorem dL_law_1119 : decode code 1119 = .ok (.iadd, 1) := by decide +kernel
theorem dL_law_1120 : decode code 1120 = .ok (.iaload, 1) := by decide +kernel
theorem dL_law_1121 : decode code 1121 = .ok (.aload_n 0, 1) := by decide +kernel
theorem dL_law_1122 : decode code 1122 = .ok (.iload_n 3, 1) := by decide +kernel
theorem dL_law_1123 : decode code 1123 = .ok (.iconst 4, 1) := by decide +kernel
theorem dL_law_1124 : decode code 1124 = .ok (.iadd, 1) := by decide +kernel
theorem dL_law_1125 : decode code 1125 = .ok (.iaload, 1) := by decide +kernel
theorem dL_law_1126 : decode code 1126 = .ok (.aload_n 0, 1) := by decide +kernel
theorem dL_law_1127 : decode code 1127 = .ok (.iload_n 3, 1) := by decide +kernel
theorem dL_law_1128 : decode code 1128 = .ok (.iconst 5, 1) := by decide +kernel
theorem dL_law_1129 : decode code 1129 = .ok (.iadd, 1) := by decide +kernel
theorem dL_law_1130 : decode code 1130 = .ok (.iaload, 1) := by decide +kernel
theorem dL_law_1131 : decode code 1131 = .ok (.invokevirtual 152, 3) := by decide +kernel
theorem dL_law_1134 : decode code 1134 = .ok (.aload_n 2, 1) := by decide +kernel
theorem dL_law_1135 : decode code 1135 = .ok (.aload_n 0, 1) := by decide +kernel
theorem dL_law_1136 : decode code 1136 = .ok (.iload_n 3, 1) := by decide +kernel
theorem dL_law_1137 : decode code 1137 = .ok (.iconst 1, 1) := by decide +kernel
theorem dL_law_1138 : decode code 1138 = .ok (.iadd, 1) := by decide +kernel
theorem dL_law_1139 : decode code 1139 = .ok (.iaload, 1) := by decide +kernel
theorem dL_law_1140 : decode code 1140 = .ok (.aload_n 0, 1) := by decide +kernel
theorem dL_law_1141 : decode code 1141 = .ok (.iload_n 3, 1) := by decide +kernel
theorem dL_law_1142 : decode code 1142 = .ok (.iconst 2, 1) := by decide +kernel
theorem dL_law_1143 : decode code 1143 = .ok (.iadd, 1) := by decide +kernel
theorem dL_law_1144 : decode code 1144 = .ok (.iaload, 1) := by decide +kernel
theorem dL_law_1145 : decode code 1145 = .ok (.aload_n 0, 1) := by decide +kernel
theorem dL_law_1146 : decode code 1146 = .ok (.iload_n 3, 1) := by decide +kernel
theorem dL_law_1147 : decode code 1147 = .ok (.iconst 3, 1) := by decide +kernel
theorem dL_law_1148 : decode code 1148 = .ok (.iadd, 1) := by decide +kernel
theorem dL_law_1149 : decode code 1149 = .ok (.iaload, 1) := by decide +kernel
theorem dL_law_1150 : decode code 1150 = .ok (.aload_n 0, 1) := by decide +kernel
theorem dL_law_1151 : decode code 1151 = .ok (.iload_n 3, 1) := by decide +kernel
theorem dL_law_1152 : decode code 1152 = .ok (.iconst 4, 1) := by decide +kernel
theorem dL_law_1153 : decode code 1153 = .ok (.iadd, 1) := by decide +kernel
theorem dL_law_1154 : decode code 1154 = .ok (.iaload, 1) := by decide +kernel
theorem dL_law_1155 : decode code 1155 = .ok (.aload_n 0, 1) := by decide +kernel
theorem dL_law_1156 : decode code 1156 = .ok (.iload_n 3, 1) := by decide +kernel
theorem dL_law_1157 : decode code 1157 = .ok (.iconst 5, 1) := by decide +kernel
theorem dL_law_1158 : decode code 1158 = .ok (.iadd, 1) := by decide +kernel
theorem dL_law_1159 : decode code 1159 = .ok (.iaload, 1) := by decide +kernel
theorem dL_law_1160 : decode code 1160 = .ok (.invokevirtual 156, 3) := by decide +kernel
theorem dL_law_1163 : decode code 1163 = .ok (.if_icmp .eq 271, 3) := by decide +kernel
theorem dL_law_1166 : decode code 1166 = .ok (.iconst 0, 1) := by decide +kernel
theorem dL_law_1167 : decode code 1167 = .ok (.ireturn, 1) := by decide +kernel
theorem dL_law_1168 : decode code 1168 = .ok (.aload_n 1, 1) := by decide +kernel
theorem dL_law_1169 : decode code 1169 = .ok (.aload_n 0, 1) := by decide +kernel
theorem dL_law_1170 : decode code 1170 = .ok (.iload_n 3, 1) := by decide +kernel
theorem dL_law_1171 : decode code 1171 = .ok (.iconst 1, 1) := by decide +kernel
theorem dL_law_1172 : decode code 1172 = .ok (.iadd, 1) := by decide +kernel
theorem dL_law_1173 : decode code 1173 = .ok (.iaload, 1) := by decide +kernel
theorem dL_law_1174 : decode code 1174 = .ok (.invokevirtual 157, 3) := by decide +kernel
theorem dL_law_1177 : decode code 1177 = .ok (.aload_n 2, 1) := by decide +kernel
theorem dL_law_1178 : decode code 1178 = .ok (.aload_n 0, 1) := by decide +kernel
theorem dL_law_1179 : decode code 1179 = .ok (.iload_n 3, 1) := by decide +kernel
theorem dL_law_1180 : decode code 1180 = .ok (.iconst 1, 1) := by decide +kernel
theorem dL_law_1181 : decode code 1181 = .ok (.iadd, 1) := by decide +kernel
theorem dL_law_1182 : decode code 1182 = .ok (.iaload, 1) := by decide +kernel
theorem dL_law_1183 : decode code 1183 = .ok (.invokevirtual 160, 3) := by decide +kernel
theorem dL_law_1186 : decode code 1186 = .ok (.if_icmp .eq 248, 3) := by decide +kernel
theorem dL_law_1189 : decode code 1189 = .ok (.iconst 0, 1) := by decide +kernel
theorem dL_law_1190 : decode code 1190 = .ok (.ireturn, 1) := by decide +kernel
theorem dL_law_1191 : decode code 1191 = .ok (.aload_n 1, 1) := by decide +kernel
theorem dL_law_1192 : decode code 1192 = .ok (.invokevirtual 161, 3) := by decide +kernel
theorem dL_law_1195 : decode code 1195 = .ok (.aload_n 2, 1) := by decide +kernel
theorem dL_law_1196 : decode code 1196 = .ok (.invokevirtual 164, 3) := by decide +kernel
theorem dL_law_1199 : decode code 1199 = .ok (.if_icmp .eq 235, 3) := by decide +kernel
theorem dL_law_1202 : decode code 1202 = .ok (.iconst 0, 1) := by decide +kernel
theorem dL_law_1203 : decode code 1203 = .ok (.ireturn, 1) := by decide +kernel
theorem dL_law_1204 : decode code 1204 = .ok (.aload_n 1, 1) := by decide +kernel
theorem dL_law_1205 : decode code 1205 = .ok (.aload_n 0, 1) := by decide +kernel
theorem dL_law_1206 : decode code 1206 = .ok (.iload_n 3, 1) := by decide +kernel
theorem dL_law_1207 : decode code 1207 = .ok (.iconst 1, 1) := by decide +kernel
theorem dL_law_1208 : decode code 1208 = .ok (.iadd, 1) := by decide +kernel
theorem dL_law_1209 : decode code 1209 = .ok (.iaload, 1) := by decide +kernel
theorem dL_law_1210 : decode code 1210 = .ok (.invokevirtual 165, 3) := by decide +kernel
theorem dL_law_1213 : decode code 1213 = .ok (.aload_n 2, 1) := by decide +kernel
theorem dL_law_1214 : decode code 1214 = .ok (.aload_n 0, 1) := by decide +kernel
theorem dL_law_1215 : decode code 1215 = .ok (.iload_n 3, 1) := by decide +kernel
theorem dL_law_1216 : decode code 1216 = .ok (.iconst 1, 1) := by decide +kernel
theorem dL_law_1217 : decode code 1217 = .ok (.iadd, 1) := by decide +kernel
