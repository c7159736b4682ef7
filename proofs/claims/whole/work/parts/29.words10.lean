theorem tw_25 : (.selects RX10 yX10_fails yX10_fails : Cond) ∈ tl_T := tl_tin 25 (by decide +kernel) rfl
theorem tw_26 : (.selects RX10 yX10_fresh yX10_fresh : Cond) ∈ tl_T := tl_tin 26 (by decide +kernel) rfl
theorem tw_27 : (.selects RX10 yX10_wrong yX10_wrong : Cond) ∈ tl_T := tl_tin 27 (by decide +kernel) rfl
theorem tw_28 : (.selects RX10 yX10_isLink yX10_isLink : Cond) ∈ tl_T := tl_tin 28 (by decide +kernel) rfl
theorem tw_29 : (.selects RX10 yX10_placeOf yX10_placeOf : Cond) ∈ tl_T := tl_tin 29 (by decide +kernel) rfl
theorem tw_30 : (.selects RX10 yX10_indexIn yX10_indexIn : Cond) ∈ tl_T := tl_tin 30 (by decide +kernel) rfl
theorem tw_31 : (.selects RX10 yX10_remove yX10_remove : Cond) ∈ tl_T := tl_tin 31 (by decide +kernel) rfl
theorem tw_32 : (.selects RX10 yX10_insert yX10_insert : Cond) ∈ tl_T := tl_tin 32 (by decide +kernel) rfl
theorem tw_33 : (.selects RX10 yX10_measure yX10_measure : Cond) ∈ tl_T := tl_tin 33 (by decide +kernel) rfl
theorem tw_34 : (.selects RX10 yX10_walk yX10_walk : Cond) ∈ tl_T := tl_tin 34 (by decide +kernel) rfl
theorem tw_35 : (.selects RX10 yX10_add yX10_add : Cond) ∈ tl_T := tl_tin 35 (by decide +kernel) rfl
theorem tw_36 : (.selects RX10 yX10_part yX10_part : Cond) ∈ tl_T := tl_tin 36 (by decide +kernel) rfl
theorem tw_37 : (.selects RX10 yX10_isHad yX10_isHad : Cond) ∈ tl_T := tl_tin 37 (by decide +kernel) rfl
theorem tw_38 : (.selects RX10 yX10_goesToo yX10_goesToo : Cond) ∈ tl_T := tl_tin 38 (by decide +kernel) rfl
theorem tw_39 : (.selects RX10 yX10_firstBarred yX10_firstBarred : Cond) ∈ tl_T := tl_tin 39 (by decide +kernel) rfl
theorem tw_40 : (.selects RX10 yX10_barred yX10_barred : Cond) ∈ tl_T := tl_tin 40 (by decide +kernel) rfl
theorem tw_41 : (.selects RX10 yX10_erase yX10_erase : Cond) ∈ tl_T := tl_tin 41 (by decide +kernel) rfl
theorem tw_42 : (.selects RX10 yX10_markUnder yX10_markUnder : Cond) ∈ tl_T := tl_tin 42 (by decide +kernel) rfl
theorem tw_43 : (.selects RX10 yX10_isCrowded yX10_isCrowded : Cond) ∈ tl_T := tl_tin 43 (by decide +kernel) rfl
theorem tw_44 : (.selects RX10 yX10_copyRow yX10_copyRow : Cond) ∈ tl_T := tl_tin 44 (by decide +kernel) rfl
theorem tw_45 : (.selects RX10 yX10_copyBack yX10_copyBack : Cond) ∈ tl_T := tl_tin 45 (by decide +kernel) rfl
theorem tw_46 : (.selects RX10 yX10_copyBeside yX10_copyBeside : Cond) ∈ tl_T := tl_tin 46 (by decide +kernel) rfl
theorem tw_47 : (.selects RX10 yX10_isAlikeAtOnce yX10_isAlikeAtOnce : Cond) ∈ tl_T := tl_tin 47 (by decide +kernel) rfl
theorem tw_48 : (.selects RX10 yX10_openPart yX10_openPart : Cond) ∈ tl_T := tl_tin 48 (by decide +kernel) rfl
theorem tw_49 : (.selects RX10 yX10_owners yX10_owners : Cond) ∈ tl_T := tl_tin 49 (by decide +kernel) rfl
theorem tw_50 : (.selects RX10 yX10_owns yX10_owns : Cond) ∈ tl_T := tl_tin 50 (by decide +kernel) rfl
theorem tw_51 : (.selects RX10 yX10_depth yX10_depth : Cond) ∈ tl_T := tl_tin 51 (by decide +kernel) rfl
theorem tw_52 : (.selects RX10 yX10_owned yX10_owned : Cond) ∈ tl_T := tl_tin 52 (by decide +kernel) rfl
theorem tw_53 : (.selects RX10 yX10_near yX10_near : Cond) ∈ tl_T := tl_tin 53 (by decide +kernel) rfl
theorem tw_56 : (.selects RX10 yX10_takeBack yX10_takeBack : Cond) ∈ tl_T := tl_tin 56 (by decide +kernel) rfl
theorem tw_57 : (.selects RX10 yX10_next yX10_next : Cond) ∈ tl_T := tl_tin 57 (by decide +kernel) rfl
theorem tw_58 : (.selects RX10 yX10_readRows yX10_readRows : Cond) ∈ tl_T := tl_tin 58 (by decide +kernel) rfl
theorem tw_70 : (.initialized RX10 : Cond) ∈ tl_T := tl_tin 70 (by decide +kernel) rfl
theorem tw_988 : (.fieldLink RX10 1 "TwinLinksModel" "thrown" "I" : Cond) ∈ tl_T := tl_tin 988 (by decide +kernel) rfl
theorem tw_989 : (.fieldLink RX10 13 "TwinLinksModel" "from" "[I" : Cond) ∈ tl_T := tl_tin 989 (by decide +kernel) rfl
theorem tw_990 : (.fieldLink RX10 17 "TwinLinksModel" "to" "[I" : Cond) ∈ tl_T := tl_tin 990 (by decide +kernel) rfl
theorem tw_991 : (.fieldLink RX10 20 "TwinLinksModel" "form" "[I" : Cond) ∈ tl_T := tl_tin 991 (by decide +kernel) rfl
theorem tw_992 : (.fieldLink RX10 23 "TwinLinksModel" "rule" "[I" : Cond) ∈ tl_T := tl_tin 992 (by decide +kernel) rfl
theorem tw_993 : (.fieldLink RX10 85 "TwinLinksModel" "links" "I" : Cond) ∈ tl_T := tl_tin 993 (by decide +kernel) rfl
theorem tw_994 : (.fieldLink RX10 26 "TwinLinksModel" "used" "[Z" : Cond) ∈ tl_T := tl_tin 994 (by decide +kernel) rfl
theorem tw_995 : (.fieldLink RX10 30 "TwinLinksModel" "number" "[I" : Cond) ∈ tl_T := tl_tin 995 (by decide +kernel) rfl
theorem tw_996 : (.fieldLink RX10 33 "TwinLinksModel" "kind" "[I" : Cond) ∈ tl_T := tl_tin 996 (by decide +kernel) rfl
theorem tw_997 : (.fieldLink RX10 95 "TwinLinksModel" "objects" "I" : Cond) ∈ tl_T := tl_tin 997 (by decide +kernel) rfl
theorem tw_998 : (.fieldLink RX10 92 "TwinLinksModel" "numbers" "I" : Cond) ∈ tl_T := tl_tin 998 (by decide +kernel) rfl
theorem tw_999 : (.fieldLink RX10 36 "TwinLinksModel" "hasMany" "[I" : Cond) ∈ tl_T := tl_tin 999 (by decide +kernel) rfl
theorem tw_1000 : (.fieldLink RX10 39 "TwinLinksModel" "hadMany" "[I" : Cond) ∈ tl_T := tl_tin 1000 (by decide +kernel) rfl
theorem tw_1001 : (.fieldLink RX10 42 "TwinLinksModel" "has" "[I" : Cond) ∈ tl_T := tl_tin 1001 (by decide +kernel) rfl
theorem tw_1002 : (.fieldLink RX10 45 "TwinLinksModel" "had" "[I" : Cond) ∈ tl_T := tl_tin 1002 (by decide +kernel) rfl
theorem tw_1003 : (.fieldLink RX10 48 "TwinLinksModel" "path" "[I" : Cond) ∈ tl_T := tl_tin 1003 (by decide +kernel) rfl
theorem tw_1004 : (.fieldLink RX10 114 "TwinLinksModel" "pathMany" "I" : Cond) ∈ tl_T := tl_tin 1004 (by decide +kernel) rfl
theorem tw_1005 : (.fieldLink RX10 51 "TwinLinksModel" "steps" "[I" : Cond) ∈ tl_T := tl_tin 1005 (by decide +kernel) rfl
theorem tw_1006 : (.fieldLink RX10 54 "TwinLinksModel" "queue" "[I" : Cond) ∈ tl_T := tl_tin 1006 (by decide +kernel) rfl
theorem tw_1007 : (.fieldLink RX10 57 "TwinLinksModel" "gone" "[Z" : Cond) ∈ tl_T := tl_tin 1007 (by decide +kernel) rfl
theorem tw_1008 : (.fieldLink RX10 60 "TwinLinksModel" "under" "[Z" : Cond) ∈ tl_T := tl_tin 1008 (by decide +kernel) rfl
theorem tw_1009 : (.fieldLink RX10 63 "TwinLinksModel" "twin" "[I" : Cond) ∈ tl_T := tl_tin 1009 (by decide +kernel) rfl
theorem tw_1010 : (.fieldLink RX10 66 "TwinLinksModel" "olds" "[I" : Cond) ∈ tl_T := tl_tin 1010 (by decide +kernel) rfl
theorem tw_1011 : (.fieldLink RX10 69 "TwinLinksModel" "more" "[I" : Cond) ∈ tl_T := tl_tin 1011 (by decide +kernel) rfl
theorem tw_1012 : (.fieldLink RX10 72 "TwinLinksModel" "known" "[B" : Cond) ∈ tl_T := tl_tin 1012 (by decide +kernel) rfl
theorem tw_1013 : (.fieldLink RX10 76 "TwinLinksModel" "waiting" "[I" : Cond) ∈ tl_T := tl_tin 1013 (by decide +kernel) rfl
theorem tw_1014 : (.fieldLink RX10 79 "TwinLinksModel" "kept" "[I" : Cond) ∈ tl_T := tl_tin 1014 (by decide +kernel) rfl
theorem tw_1015 : (.fieldLink RX10 197 "TwinLinksModel" "keptMany" "I" : Cond) ∈ tl_T := tl_tin 1015 (by decide +kernel) rfl
theorem tw_1016 : (.fieldLink RX10 204 "TwinLinksModel" "levels" "I" : Cond) ∈ tl_T := tl_tin 1016 (by decide +kernel) rfl
theorem tw_1017 : (.fieldLink RX10 82 "TwinLinksModel" "levelAt" "[I" : Cond) ∈ tl_T := tl_tin 1017 (by decide +kernel) rfl
theorem tw_1018 : (.fieldLink RX10 213 "TwinLinksModel" "readAt" "I" : Cond) ∈ tl_T := tl_tin 1018 (by decide +kernel) rfl
theorem tw_1086 : (.methodLink RX10 88 yX10_fails : Cond) ∈ tl_T := tl_tin 1086 (by decide +kernel) rfl
theorem tw_1088 : (.instanceMethod yX10_fails : Cond) ∈ tl_T := tl_tin 1088 (by decide +kernel) rfl
theorem tw_1089 : (.code yX10_fails cX10_fails 2 (some .boolean) : Cond) ∈ tl_T := tl_tin 1089 (by decide +kernel) rfl
theorem tw_1094 : (.methodLink RX10 98 yX10_fresh : Cond) ∈ tl_T := tl_tin 1094 (by decide +kernel) rfl
theorem tw_1096 : (.instanceMethod yX10_fresh : Cond) ∈ tl_T := tl_tin 1096 (by decide +kernel) rfl
theorem tw_1097 : (.code yX10_fresh cX10_fresh 4 (some .int) : Cond) ∈ tl_T := tl_tin 1097 (by decide +kernel) rfl
theorem tw_1102 : (.methodLink RX10 127 yX10_wrong : Cond) ∈ tl_T := tl_tin 1102 (by decide +kernel) rfl
theorem tw_1104 : (.instanceMethod yX10_wrong : Cond) ∈ tl_T := tl_tin 1104 (by decide +kernel) rfl
theorem tw_1105 : (.code yX10_wrong cX10_wrong 6 (some .int) : Cond) ∈ tl_T := tl_tin 1105 (by decide +kernel) rfl
theorem tw_1106 : (.methodLink RX10 121 yX10_isLink : Cond) ∈ tl_T := tl_tin 1106 (by decide +kernel) rfl
theorem tw_1108 : (.instanceMethod yX10_isLink : Cond) ∈ tl_T := tl_tin 1108 (by decide +kernel) rfl
theorem tw_1109 : (.code yX10_isLink cX10_isLink 2 (some .boolean) : Cond) ∈ tl_T := tl_tin 1109 (by decide +kernel) rfl
theorem tw_1110 : (.methodLink RX10 124 yX10_placeOf : Cond) ∈ tl_T := tl_tin 1110 (by decide +kernel) rfl
theorem tw_1112 : (.instanceMethod yX10_placeOf : Cond) ∈ tl_T := tl_tin 1112 (by decide +kernel) rfl
theorem tw_1113 : (.code yX10_placeOf cX10_placeOf 3 (some .int) : Cond) ∈ tl_T := tl_tin 1113 (by decide +kernel) rfl
theorem tw_1114 : (.methodLink RX10 102 yX10_indexIn : Cond) ∈ tl_T := tl_tin 1114 (by decide +kernel) rfl
theorem tw_1116 : (.instanceMethod yX10_indexIn : Cond) ∈ tl_T := tl_tin 1116 (by decide +kernel) rfl
theorem tw_1117 : (.code yX10_indexIn cX10_indexIn 6 (some .int) : Cond) ∈ tl_T := tl_tin 1117 (by decide +kernel) rfl
theorem tw_1118 : (.methodLink RX10 106 yX10_remove : Cond) ∈ tl_T := tl_tin 1118 (by decide +kernel) rfl
theorem tw_1120 : (.instanceMethod yX10_remove : Cond) ∈ tl_T := tl_tin 1120 (by decide +kernel) rfl
theorem tw_1121 : (.code yX10_remove cX10_remove 6 none : Cond) ∈ tl_T := tl_tin 1121 (by decide +kernel) rfl
theorem tw_1122 : (.methodLink RX10 131 yX10_insert : Cond) ∈ tl_T := tl_tin 1122 (by decide +kernel) rfl
theorem tw_1124 : (.instanceMethod yX10_insert : Cond) ∈ tl_T := tl_tin 1124 (by decide +kernel) rfl
theorem tw_1125 : (.code yX10_insert cX10_insert 7 none : Cond) ∈ tl_T := tl_tin 1125 (by decide +kernel) rfl
theorem tw_1126 : (.methodLink RX10 135 yX10_measure : Cond) ∈ tl_T := tl_tin 1126 (by decide +kernel) rfl
theorem tw_1128 : (.instanceMethod yX10_measure : Cond) ∈ tl_T := tl_tin 1128 (by decide +kernel) rfl
theorem tw_1129 : (.code yX10_measure cX10_measure 10 none : Cond) ∈ tl_T := tl_tin 1129 (by decide +kernel) rfl
theorem tw_1130 : (.methodLink RX10 139 yX10_walk : Cond) ∈ tl_T := tl_tin 1130 (by decide +kernel) rfl
theorem tw_1132 : (.instanceMethod yX10_walk : Cond) ∈ tl_T := tl_tin 1132 (by decide +kernel) rfl
theorem tw_1133 : (.code yX10_walk cX10_walk 8 none : Cond) ∈ tl_T := tl_tin 1133 (by decide +kernel) rfl
theorem tw_1134 : (.methodLink RX10 117 yX10_add : Cond) ∈ tl_T := tl_tin 1134 (by decide +kernel) rfl
theorem tw_1136 : (.instanceMethod yX10_add : Cond) ∈ tl_T := tl_tin 1136 (by decide +kernel) rfl
theorem tw_1137 : (.code yX10_add cX10_add 2 none : Cond) ∈ tl_T := tl_tin 1137 (by decide +kernel) rfl
theorem tw_1138 : (.methodLink RX10 142 yX10_part : Cond) ∈ tl_T := tl_tin 1138 (by decide +kernel) rfl
theorem tw_1140 : (.instanceMethod yX10_part : Cond) ∈ tl_T := tl_tin 1140 (by decide +kernel) rfl
theorem tw_1141 : (.code yX10_part cX10_part 4 none : Cond) ∈ tl_T := tl_tin 1141 (by decide +kernel) rfl
theorem tw_1146 : (.methodLink RX10 110 yX10_isHad : Cond) ∈ tl_T := tl_tin 1146 (by decide +kernel) rfl
theorem tw_1148 : (.instanceMethod yX10_isHad : Cond) ∈ tl_T := tl_tin 1148 (by decide +kernel) rfl
theorem tw_1149 : (.code yX10_isHad cX10_isHad 4 (some .boolean) : Cond) ∈ tl_T := tl_tin 1149 (by decide +kernel) rfl
theorem tw_1154 : (.methodLink RX10 146 yX10_goesToo : Cond) ∈ tl_T := tl_tin 1154 (by decide +kernel) rfl
theorem tw_1156 : (.instanceMethod yX10_goesToo : Cond) ∈ tl_T := tl_tin 1156 (by decide +kernel) rfl
theorem tw_1157 : (.code yX10_goesToo cX10_goesToo 6 (some .boolean) : Cond) ∈ tl_T := tl_tin 1157 (by decide +kernel) rfl
theorem tw_1158 : (.methodLink RX10 149 yX10_firstBarred : Cond) ∈ tl_T := tl_tin 1158 (by decide +kernel) rfl
theorem tw_1160 : (.instanceMethod yX10_firstBarred : Cond) ∈ tl_T := tl_tin 1160 (by decide +kernel) rfl
theorem tw_1161 : (.code yX10_firstBarred cX10_firstBarred 6 (some .int) : Cond) ∈ tl_T := tl_tin 1161 (by decide +kernel) rfl
theorem tw_1162 : (.methodLink RX10 152 yX10_barred : Cond) ∈ tl_T := tl_tin 1162 (by decide +kernel) rfl
theorem tw_1164 : (.instanceMethod yX10_barred : Cond) ∈ tl_T := tl_tin 1164 (by decide +kernel) rfl
theorem tw_1165 : (.code yX10_barred cX10_barred 7 (some .int) : Cond) ∈ tl_T := tl_tin 1165 (by decide +kernel) rfl
theorem tw_1166 : (.methodLink RX10 155 yX10_erase : Cond) ∈ tl_T := tl_tin 1166 (by decide +kernel) rfl
theorem tw_1168 : (.instanceMethod yX10_erase : Cond) ∈ tl_T := tl_tin 1168 (by decide +kernel) rfl
theorem tw_1169 : (.code yX10_erase cX10_erase 4 none : Cond) ∈ tl_T := tl_tin 1169 (by decide +kernel) rfl
theorem tw_1174 : (.methodLink RX10 158 yX10_markUnder : Cond) ∈ tl_T := tl_tin 1174 (by decide +kernel) rfl
theorem tw_1176 : (.instanceMethod yX10_markUnder : Cond) ∈ tl_T := tl_tin 1176 (by decide +kernel) rfl
theorem tw_1177 : (.code yX10_markUnder cX10_markUnder 9 (some .int) : Cond) ∈ tl_T := tl_tin 1177 (by decide +kernel) rfl
theorem tw_1178 : (.methodLink RX10 161 yX10_isCrowded : Cond) ∈ tl_T := tl_tin 1178 (by decide +kernel) rfl
theorem tw_1180 : (.instanceMethod yX10_isCrowded : Cond) ∈ tl_T := tl_tin 1180 (by decide +kernel) rfl
theorem tw_1181 : (.code yX10_isCrowded cX10_isCrowded 6 (some .boolean) : Cond) ∈ tl_T := tl_tin 1181 (by decide +kernel) rfl
theorem tw_1182 : (.methodLink RX10 164 yX10_copyRow : Cond) ∈ tl_T := tl_tin 1182 (by decide +kernel) rfl
theorem tw_1184 : (.instanceMethod yX10_copyRow : Cond) ∈ tl_T := tl_tin 1184 (by decide +kernel) rfl
theorem tw_1185 : (.code yX10_copyRow cX10_copyRow 7 none : Cond) ∈ tl_T := tl_tin 1185 (by decide +kernel) rfl
theorem tw_1186 : (.methodLink RX10 168 yX10_copyBack : Cond) ∈ tl_T := tl_tin 1186 (by decide +kernel) rfl
theorem tw_1188 : (.instanceMethod yX10_copyBack : Cond) ∈ tl_T := tl_tin 1188 (by decide +kernel) rfl
theorem tw_1189 : (.code yX10_copyBack cX10_copyBack 7 none : Cond) ∈ tl_T := tl_tin 1189 (by decide +kernel) rfl
theorem tw_1190 : (.methodLink RX10 171 yX10_copyBeside : Cond) ∈ tl_T := tl_tin 1190 (by decide +kernel) rfl
theorem tw_1192 : (.instanceMethod yX10_copyBeside : Cond) ∈ tl_T := tl_tin 1192 (by decide +kernel) rfl
theorem tw_1193 : (.code yX10_copyBeside cX10_copyBeside 7 none : Cond) ∈ tl_T := tl_tin 1193 (by decide +kernel) rfl
theorem tw_1198 : (.methodLink RX10 174 yX10_isAlikeAtOnce : Cond) ∈ tl_T := tl_tin 1198 (by decide +kernel) rfl
theorem tw_1200 : (.instanceMethod yX10_isAlikeAtOnce : Cond) ∈ tl_T := tl_tin 1200 (by decide +kernel) rfl
theorem tw_1201 : (.code yX10_isAlikeAtOnce cX10_isAlikeAtOnce 4 (some .boolean) : Cond) ∈ tl_T := tl_tin 1201 (by decide +kernel) rfl
theorem tw_1202 : (.methodLink RX10 178 yX10_openPart : Cond) ∈ tl_T := tl_tin 1202 (by decide +kernel) rfl
theorem tw_1204 : (.instanceMethod yX10_openPart : Cond) ∈ tl_T := tl_tin 1204 (by decide +kernel) rfl
theorem tw_1205 : (.code yX10_openPart cX10_openPart 8 (some .int) : Cond) ∈ tl_T := tl_tin 1205 (by decide +kernel) rfl
theorem tw_1218 : (.methodLink RX10 185 yX10_owners : Cond) ∈ tl_T := tl_tin 1218 (by decide +kernel) rfl
theorem tw_1220 : (.instanceMethod yX10_owners : Cond) ∈ tl_T := tl_tin 1220 (by decide +kernel) rfl
theorem tw_1221 : (.code yX10_owners cX10_owners 4 (some .int) : Cond) ∈ tl_T := tl_tin 1221 (by decide +kernel) rfl
theorem tw_1222 : (.methodLink RX10 182 yX10_owns : Cond) ∈ tl_T := tl_tin 1222 (by decide +kernel) rfl
theorem tw_1224 : (.instanceMethod yX10_owns : Cond) ∈ tl_T := tl_tin 1224 (by decide +kernel) rfl
theorem tw_1225 : (.code yX10_owns cX10_owns 4 (some .boolean) : Cond) ∈ tl_T := tl_tin 1225 (by decide +kernel) rfl
theorem tw_1226 : (.methodLink RX10 188 yX10_depth : Cond) ∈ tl_T := tl_tin 1226 (by decide +kernel) rfl
theorem tw_1228 : (.instanceMethod yX10_depth : Cond) ∈ tl_T := tl_tin 1228 (by decide +kernel) rfl
theorem tw_1229 : (.code yX10_depth cX10_depth 8 (some .int) : Cond) ∈ tl_T := tl_tin 1229 (by decide +kernel) rfl
theorem tw_1230 : (.methodLink RX10 191 yX10_owned : Cond) ∈ tl_T := tl_tin 1230 (by decide +kernel) rfl
theorem tw_1232 : (.instanceMethod yX10_owned : Cond) ∈ tl_T := tl_tin 1232 (by decide +kernel) rfl
theorem tw_1233 : (.code yX10_owned cX10_owned 4 (some .int) : Cond) ∈ tl_T := tl_tin 1233 (by decide +kernel) rfl
theorem tw_1234 : (.methodLink RX10 194 yX10_near : Cond) ∈ tl_T := tl_tin 1234 (by decide +kernel) rfl
theorem tw_1236 : (.instanceMethod yX10_near : Cond) ∈ tl_T := tl_tin 1236 (by decide +kernel) rfl
theorem tw_1237 : (.code yX10_near cX10_near 6 (some .int) : Cond) ∈ tl_T := tl_tin 1237 (by decide +kernel) rfl
theorem tw_1269 : (.methodLink RX10 216 yX10_takeBack : Cond) ∈ tl_T := tl_tin 1269 (by decide +kernel) rfl
theorem tw_1271 : (.instanceMethod yX10_takeBack : Cond) ∈ tl_T := tl_tin 1271 (by decide +kernel) rfl
theorem tw_1272 : (.code yX10_takeBack cX10_takeBack 4 none : Cond) ∈ tl_T := tl_tin 1272 (by decide +kernel) rfl
theorem tw_1273 : (.methodLink RX10 219 yX10_next : Cond) ∈ tl_T := tl_tin 1273 (by decide +kernel) rfl
theorem tw_1275 : (.instanceMethod yX10_next : Cond) ∈ tl_T := tl_tin 1275 (by decide +kernel) rfl
theorem tw_1276 : (.code yX10_next cX10_next 1 (some .int) : Cond) ∈ tl_T := tl_tin 1276 (by decide +kernel) rfl
theorem tw_1277 : (.methodLink RX10 223 yX10_readRows : Cond) ∈ tl_T := tl_tin 1277 (by decide +kernel) rfl
theorem tw_1279 : (.instanceMethod yX10_readRows : Cond) ∈ tl_T := tl_tin 1279 (by decide +kernel) rfl
theorem tw_1280 : (.code yX10_readRows cX10_readRows 3 none : Cond) ∈ tl_T := tl_tin 1280 (by decide +kernel) rfl
theorem td_X10_add : yX10_add.cls = RX10 ∧ yX10_add.cls ≠ "java/lang/invoke/MethodHandle" ∧ yX10_add.cls ≠ "java/lang/invoke/VarHandle" ∧ (parseMethodDescriptor yX10_add.desc).map (fun d => d.parameters.length) = some 1 := by decide +kernel
theorem td_X10_barred : yX10_barred.cls = RX10 ∧ yX10_barred.cls ≠ "java/lang/invoke/MethodHandle" ∧ yX10_barred.cls ≠ "java/lang/invoke/VarHandle" ∧ (parseMethodDescriptor yX10_barred.desc).map (fun d => d.parameters.length) = some 1 := by decide +kernel
theorem td_X10_copyBack : yX10_copyBack.cls = RX10 ∧ yX10_copyBack.cls ≠ "java/lang/invoke/MethodHandle" ∧ yX10_copyBack.cls ≠ "java/lang/invoke/VarHandle" ∧ (parseMethodDescriptor yX10_copyBack.desc).map (fun d => d.parameters.length) = some 2 := by decide +kernel
theorem td_X10_copyBeside : yX10_copyBeside.cls = RX10 ∧ yX10_copyBeside.cls ≠ "java/lang/invoke/MethodHandle" ∧ yX10_copyBeside.cls ≠ "java/lang/invoke/VarHandle" ∧ (parseMethodDescriptor yX10_copyBeside.desc).map (fun d => d.parameters.length) = some 2 := by decide +kernel
theorem td_X10_copyRow : yX10_copyRow.cls = RX10 ∧ yX10_copyRow.cls ≠ "java/lang/invoke/MethodHandle" ∧ yX10_copyRow.cls ≠ "java/lang/invoke/VarHandle" ∧ (parseMethodDescriptor yX10_copyRow.desc).map (fun d => d.parameters.length) = some 2 := by decide +kernel
theorem td_X10_depth : yX10_depth.cls = RX10 ∧ yX10_depth.cls ≠ "java/lang/invoke/MethodHandle" ∧ yX10_depth.cls ≠ "java/lang/invoke/VarHandle" ∧ (parseMethodDescriptor yX10_depth.desc).map (fun d => d.parameters.length) = some 1 := by decide +kernel
theorem td_X10_erase : yX10_erase.cls = RX10 ∧ yX10_erase.cls ≠ "java/lang/invoke/MethodHandle" ∧ yX10_erase.cls ≠ "java/lang/invoke/VarHandle" ∧ (parseMethodDescriptor yX10_erase.desc).map (fun d => d.parameters.length) = some 1 := by decide +kernel
theorem td_X10_fails : yX10_fails.cls = RX10 ∧ yX10_fails.cls ≠ "java/lang/invoke/MethodHandle" ∧ yX10_fails.cls ≠ "java/lang/invoke/VarHandle" ∧ (parseMethodDescriptor yX10_fails.desc).map (fun d => d.parameters.length) = some 1 := by decide +kernel
theorem td_X10_firstBarred : yX10_firstBarred.cls = RX10 ∧ yX10_firstBarred.cls ≠ "java/lang/invoke/MethodHandle" ∧ yX10_firstBarred.cls ≠ "java/lang/invoke/VarHandle" ∧ (parseMethodDescriptor yX10_firstBarred.desc).map (fun d => d.parameters.length) = some 1 := by decide +kernel
theorem td_X10_fresh : yX10_fresh.cls = RX10 ∧ yX10_fresh.cls ≠ "java/lang/invoke/MethodHandle" ∧ yX10_fresh.cls ≠ "java/lang/invoke/VarHandle" ∧ (parseMethodDescriptor yX10_fresh.desc).map (fun d => d.parameters.length) = some 1 := by decide +kernel
theorem td_X10_goesToo : yX10_goesToo.cls = RX10 ∧ yX10_goesToo.cls ≠ "java/lang/invoke/MethodHandle" ∧ yX10_goesToo.cls ≠ "java/lang/invoke/VarHandle" ∧ (parseMethodDescriptor yX10_goesToo.desc).map (fun d => d.parameters.length) = some 1 := by decide +kernel
theorem td_X10_indexIn : yX10_indexIn.cls = RX10 ∧ yX10_indexIn.cls ≠ "java/lang/invoke/MethodHandle" ∧ yX10_indexIn.cls ≠ "java/lang/invoke/VarHandle" ∧ (parseMethodDescriptor yX10_indexIn.desc).map (fun d => d.parameters.length) = some 4 := by decide +kernel
theorem td_X10_insert : yX10_insert.cls = RX10 ∧ yX10_insert.cls ≠ "java/lang/invoke/MethodHandle" ∧ yX10_insert.cls ≠ "java/lang/invoke/VarHandle" ∧ (parseMethodDescriptor yX10_insert.desc).map (fun d => d.parameters.length) = some 5 := by decide +kernel
theorem td_X10_isAlikeAtOnce : yX10_isAlikeAtOnce.cls = RX10 ∧ yX10_isAlikeAtOnce.cls ≠ "java/lang/invoke/MethodHandle" ∧ yX10_isAlikeAtOnce.cls ≠ "java/lang/invoke/VarHandle" ∧ (parseMethodDescriptor yX10_isAlikeAtOnce.desc).map (fun d => d.parameters.length) = some 2 := by decide +kernel
theorem td_X10_isCrowded : yX10_isCrowded.cls = RX10 ∧ yX10_isCrowded.cls ≠ "java/lang/invoke/MethodHandle" ∧ yX10_isCrowded.cls ≠ "java/lang/invoke/VarHandle" ∧ (parseMethodDescriptor yX10_isCrowded.desc).map (fun d => d.parameters.length) = some 1 := by decide +kernel
theorem td_X10_isHad : yX10_isHad.cls = RX10 ∧ yX10_isHad.cls ≠ "java/lang/invoke/MethodHandle" ∧ yX10_isHad.cls ≠ "java/lang/invoke/VarHandle" ∧ (parseMethodDescriptor yX10_isHad.desc).map (fun d => d.parameters.length) = some 3 := by decide +kernel
theorem td_X10_isLink : yX10_isLink.cls = RX10 ∧ yX10_isLink.cls ≠ "java/lang/invoke/MethodHandle" ∧ yX10_isLink.cls ≠ "java/lang/invoke/VarHandle" ∧ (parseMethodDescriptor yX10_isLink.desc).map (fun d => d.parameters.length) = some 1 := by decide +kernel
theorem td_X10_markUnder : yX10_markUnder.cls = RX10 ∧ yX10_markUnder.cls ≠ "java/lang/invoke/MethodHandle" ∧ yX10_markUnder.cls ≠ "java/lang/invoke/VarHandle" ∧ (parseMethodDescriptor yX10_markUnder.desc).map (fun d => d.parameters.length) = some 1 := by decide +kernel
theorem td_X10_measure : yX10_measure.cls = RX10 ∧ yX10_measure.cls ≠ "java/lang/invoke/MethodHandle" ∧ yX10_measure.cls ≠ "java/lang/invoke/VarHandle" ∧ (parseMethodDescriptor yX10_measure.desc).map (fun d => d.parameters.length) = some 2 := by decide +kernel
theorem td_X10_near : yX10_near.cls = RX10 ∧ yX10_near.cls ≠ "java/lang/invoke/MethodHandle" ∧ yX10_near.cls ≠ "java/lang/invoke/VarHandle" ∧ (parseMethodDescriptor yX10_near.desc).map (fun d => d.parameters.length) = some 1 := by decide +kernel
theorem td_X10_next : yX10_next.cls = RX10 ∧ yX10_next.cls ≠ "java/lang/invoke/MethodHandle" ∧ yX10_next.cls ≠ "java/lang/invoke/VarHandle" ∧ (parseMethodDescriptor yX10_next.desc).map (fun d => d.parameters.length) = some 0 := by decide +kernel
theorem td_X10_openPart : yX10_openPart.cls = RX10 ∧ yX10_openPart.cls ≠ "java/lang/invoke/MethodHandle" ∧ yX10_openPart.cls ≠ "java/lang/invoke/VarHandle" ∧ (parseMethodDescriptor yX10_openPart.desc).map (fun d => d.parameters.length) = some 2 := by decide +kernel
theorem td_X10_owned : yX10_owned.cls = RX10 ∧ yX10_owned.cls ≠ "java/lang/invoke/MethodHandle" ∧ yX10_owned.cls ≠ "java/lang/invoke/VarHandle" ∧ (parseMethodDescriptor yX10_owned.desc).map (fun d => d.parameters.length) = some 1 := by decide +kernel
theorem td_X10_owners : yX10_owners.cls = RX10 ∧ yX10_owners.cls ≠ "java/lang/invoke/MethodHandle" ∧ yX10_owners.cls ≠ "java/lang/invoke/VarHandle" ∧ (parseMethodDescriptor yX10_owners.desc).map (fun d => d.parameters.length) = some 1 := by decide +kernel
theorem td_X10_owns : yX10_owns.cls = RX10 ∧ yX10_owns.cls ≠ "java/lang/invoke/MethodHandle" ∧ yX10_owns.cls ≠ "java/lang/invoke/VarHandle" ∧ (parseMethodDescriptor yX10_owns.desc).map (fun d => d.parameters.length) = some 2 := by decide +kernel
theorem td_X10_part : yX10_part.cls = RX10 ∧ yX10_part.cls ≠ "java/lang/invoke/MethodHandle" ∧ yX10_part.cls ≠ "java/lang/invoke/VarHandle" ∧ (parseMethodDescriptor yX10_part.desc).map (fun d => d.parameters.length) = some 3 := by decide +kernel
theorem td_X10_placeOf : yX10_placeOf.cls = RX10 ∧ yX10_placeOf.cls ≠ "java/lang/invoke/MethodHandle" ∧ yX10_placeOf.cls ≠ "java/lang/invoke/VarHandle" ∧ (parseMethodDescriptor yX10_placeOf.desc).map (fun d => d.parameters.length) = some 1 := by decide +kernel
theorem td_X10_readRows : yX10_readRows.cls = RX10 ∧ yX10_readRows.cls ≠ "java/lang/invoke/MethodHandle" ∧ yX10_readRows.cls ≠ "java/lang/invoke/VarHandle" ∧ (parseMethodDescriptor yX10_readRows.desc).map (fun d => d.parameters.length) = some 1 := by decide +kernel
theorem td_X10_remove : yX10_remove.cls = RX10 ∧ yX10_remove.cls ≠ "java/lang/invoke/MethodHandle" ∧ yX10_remove.cls ≠ "java/lang/invoke/VarHandle" ∧ (parseMethodDescriptor yX10_remove.desc).map (fun d => d.parameters.length) = some 4 := by decide +kernel
theorem td_X10_takeBack : yX10_takeBack.cls = RX10 ∧ yX10_takeBack.cls ≠ "java/lang/invoke/MethodHandle" ∧ yX10_takeBack.cls ≠ "java/lang/invoke/VarHandle" ∧ (parseMethodDescriptor yX10_takeBack.desc).map (fun d => d.parameters.length) = some 0 := by decide +kernel
theorem td_X10_walk : yX10_walk.cls = RX10 ∧ yX10_walk.cls ≠ "java/lang/invoke/MethodHandle" ∧ yX10_walk.cls ≠ "java/lang/invoke/VarHandle" ∧ (parseMethodDescriptor yX10_walk.desc).map (fun d => d.parameters.length) = some 1 := by decide +kernel
theorem td_X10_wrong : yX10_wrong.cls = RX10 ∧ yX10_wrong.cls ≠ "java/lang/invoke/MethodHandle" ∧ yX10_wrong.cls ≠ "java/lang/invoke/VarHandle" ∧ (parseMethodDescriptor yX10_wrong.desc).map (fun d => d.parameters.length) = some 3 := by decide +kernel
theorem tg_X10_102 : GoodIn tl_T (wsV RX10 102 RX10 yX10_indexIn (tl_w yX10_indexIn cX10_indexIn 6 (some .int))) := tl_gV tw_1114 tw_1116 tw_30 tw_70 tw_1117
theorem tg_X10_106 : GoodIn tl_T (wsV RX10 106 RX10 yX10_remove (tl_w yX10_remove cX10_remove 6 none)) := tl_gV tw_1118 tw_1120 tw_31 tw_70 tw_1121
theorem tg_X10_110 : GoodIn tl_T (wsV RX10 110 RX10 yX10_isHad (tl_w yX10_isHad cX10_isHad 4 (some .boolean))) := tl_gV tw_1146 tw_1148 tw_37 tw_70 tw_1149
theorem tg_X10_117 : GoodIn tl_T (wsV RX10 117 RX10 yX10_add (tl_w yX10_add cX10_add 2 none)) := tl_gV tw_1134 tw_1136 tw_35 tw_70 tw_1137
theorem tg_X10_121 : GoodIn tl_T (wsV RX10 121 RX10 yX10_isLink (tl_w yX10_isLink cX10_isLink 2 (some .boolean))) := tl_gV tw_1106 tw_1108 tw_28 tw_70 tw_1109
theorem tg_X10_124 : GoodIn tl_T (wsV RX10 124 RX10 yX10_placeOf (tl_w yX10_placeOf cX10_placeOf 3 (some .int))) := tl_gV tw_1110 tw_1112 tw_29 tw_70 tw_1113
theorem tg_X10_127 : GoodIn tl_T (wsV RX10 127 RX10 yX10_wrong (tl_w yX10_wrong cX10_wrong 6 (some .int))) := tl_gV tw_1102 tw_1104 tw_27 tw_70 tw_1105
theorem tg_X10_131 : GoodIn tl_T (wsV RX10 131 RX10 yX10_insert (tl_w yX10_insert cX10_insert 7 none)) := tl_gV tw_1122 tw_1124 tw_32 tw_70 tw_1125
theorem tg_X10_135 : GoodIn tl_T (wsV RX10 135 RX10 yX10_measure (tl_w yX10_measure cX10_measure 10 none)) := tl_gV tw_1126 tw_1128 tw_33 tw_70 tw_1129
theorem tg_X10_139 : GoodIn tl_T (wsV RX10 139 RX10 yX10_walk (tl_w yX10_walk cX10_walk 8 none)) := tl_gV tw_1130 tw_1132 tw_34 tw_70 tw_1133
theorem tg_X10_142 : GoodIn tl_T (wsV RX10 142 RX10 yX10_part (tl_w yX10_part cX10_part 4 none)) := tl_gV tw_1138 tw_1140 tw_36 tw_70 tw_1141
theorem tg_X10_146 : GoodIn tl_T (wsV RX10 146 RX10 yX10_goesToo (tl_w yX10_goesToo cX10_goesToo 6 (some .boolean))) := tl_gV tw_1154 tw_1156 tw_38 tw_70 tw_1157
theorem tg_X10_149 : GoodIn tl_T (wsV RX10 149 RX10 yX10_firstBarred (tl_w yX10_firstBarred cX10_firstBarred 6 (some .int))) := tl_gV tw_1158 tw_1160 tw_39 tw_70 tw_1161
theorem tg_X10_152 : GoodIn tl_T (wsV RX10 152 RX10 yX10_barred (tl_w yX10_barred cX10_barred 7 (some .int))) := tl_gV tw_1162 tw_1164 tw_40 tw_70 tw_1165
theorem tg_X10_155 : GoodIn tl_T (wsV RX10 155 RX10 yX10_erase (tl_w yX10_erase cX10_erase 4 none)) := tl_gV tw_1166 tw_1168 tw_41 tw_70 tw_1169
theorem tg_X10_158 : GoodIn tl_T (wsV RX10 158 RX10 yX10_markUnder (tl_w yX10_markUnder cX10_markUnder 9 (some .int))) := tl_gV tw_1174 tw_1176 tw_42 tw_70 tw_1177
theorem tg_X10_161 : GoodIn tl_T (wsV RX10 161 RX10 yX10_isCrowded (tl_w yX10_isCrowded cX10_isCrowded 6 (some .boolean))) := tl_gV tw_1178 tw_1180 tw_43 tw_70 tw_1181
theorem tg_X10_164 : GoodIn tl_T (wsV RX10 164 RX10 yX10_copyRow (tl_w yX10_copyRow cX10_copyRow 7 none)) := tl_gV tw_1182 tw_1184 tw_44 tw_70 tw_1185
theorem tg_X10_168 : GoodIn tl_T (wsV RX10 168 RX10 yX10_copyBack (tl_w yX10_copyBack cX10_copyBack 7 none)) := tl_gV tw_1186 tw_1188 tw_45 tw_70 tw_1189
theorem tg_X10_171 : GoodIn tl_T (wsV RX10 171 RX10 yX10_copyBeside (tl_w yX10_copyBeside cX10_copyBeside 7 none)) := tl_gV tw_1190 tw_1192 tw_46 tw_70 tw_1193
theorem tg_X10_174 : GoodIn tl_T (wsV RX10 174 RX10 yX10_isAlikeAtOnce (tl_w yX10_isAlikeAtOnce cX10_isAlikeAtOnce 4 (some .boolean))) := tl_gV tw_1198 tw_1200 tw_47 tw_70 tw_1201
theorem tg_X10_178 : GoodIn tl_T (wsV RX10 178 RX10 yX10_openPart (tl_w yX10_openPart cX10_openPart 8 (some .int))) := tl_gV tw_1202 tw_1204 tw_48 tw_70 tw_1205
theorem tg_X10_182 : GoodIn tl_T (wsV RX10 182 RX10 yX10_owns (tl_w yX10_owns cX10_owns 4 (some .boolean))) := tl_gV tw_1222 tw_1224 tw_50 tw_70 tw_1225
theorem tg_X10_185 : GoodIn tl_T (wsV RX10 185 RX10 yX10_owners (tl_w yX10_owners cX10_owners 4 (some .int))) := tl_gV tw_1218 tw_1220 tw_49 tw_70 tw_1221
theorem tg_X10_188 : GoodIn tl_T (wsV RX10 188 RX10 yX10_depth (tl_w yX10_depth cX10_depth 8 (some .int))) := tl_gV tw_1226 tw_1228 tw_51 tw_70 tw_1229
theorem tg_X10_191 : GoodIn tl_T (wsV RX10 191 RX10 yX10_owned (tl_w yX10_owned cX10_owned 4 (some .int))) := tl_gV tw_1230 tw_1232 tw_52 tw_70 tw_1233
theorem tg_X10_194 : GoodIn tl_T (wsV RX10 194 RX10 yX10_near (tl_w yX10_near cX10_near 6 (some .int))) := tl_gV tw_1234 tw_1236 tw_53 tw_70 tw_1237
theorem tg_X10_216 : GoodIn tl_T (wsV RX10 216 RX10 yX10_takeBack (tl_w yX10_takeBack cX10_takeBack 4 none)) := tl_gV tw_1269 tw_1271 tw_56 tw_70 tw_1272
theorem tg_X10_219 : GoodIn tl_T (wsV RX10 219 RX10 yX10_next (tl_w yX10_next cX10_next 1 (some .int))) := tl_gV tw_1273 tw_1275 tw_57 tw_70 tw_1276
theorem tg_X10_223 : GoodIn tl_T (wsV RX10 223 RX10 yX10_readRows (tl_w yX10_readRows cX10_readRows 3 none)) := tl_gV tw_1277 tw_1279 tw_58 tw_70 tw_1280
theorem tg_X10_88 : GoodIn tl_T (wsV RX10 88 RX10 yX10_fails (tl_w yX10_fails cX10_fails 2 (some .boolean))) := tl_gV tw_1086 tw_1088 tw_25 tw_70 tw_1089
theorem tg_X10_98 : GoodIn tl_T (wsV RX10 98 RX10 yX10_fresh (tl_w yX10_fresh cX10_fresh 4 (some .int))) := tl_gV tw_1094 tw_1096 tw_26 tw_70 tw_1097
theorem in_X10 : ∀ w ∈ wsX100, w ∈ tl_T := by decide +kernel
