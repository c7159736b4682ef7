/-! the law's sixteen cases -/
theorem tw_1082 : (.methodLink RL 85 yX10_link : Cond) ∈ tl_T := tl_tin 1082 (by decide +kernel) rfl
theorem tw_1083 : (.instanceMethod yX10_link : Cond) ∈ tl_T := tl_tin 1083 (by decide +kernel) rfl
theorem tw_1084 : (.selects RX10 yX10_link yX10_link : Cond) ∈ tl_T := tl_tin 1084 (by decide +kernel) rfl
theorem tw_1085 : (.code yX10_link cX10_link 6 (some .int) : Cond) ∈ tl_T := tl_tin 1085 (by decide +kernel) rfl
theorem td_Lm_link : yX10_link.cls = RX10 ∧ yX10_link.cls ≠ "java/lang/invoke/MethodHandle" ∧ yX10_link.cls ≠ "java/lang/invoke/VarHandle" ∧ (parseMethodDescriptor yX10_link.desc).map (fun d => d.parameters.length) = some 4 := by decide +kernel
theorem tg_Lm_link : GoodIn tl_T (wsV RL 85 RX10 yX10_link (tl_w yX10_link cX10_link 6 (some .int))) := tl_gV tw_1082 tw_1083 tw_1084 tw_70 tw_1085
theorem tw_1090 : (.methodLink RL 92 yX10_make : Cond) ∈ tl_T := tl_tin 1090 (by decide +kernel) rfl
theorem tw_1091 : (.instanceMethod yX10_make : Cond) ∈ tl_T := tl_tin 1091 (by decide +kernel) rfl
theorem tw_1092 : (.selects RX10 yX10_make yX10_make : Cond) ∈ tl_T := tl_tin 1092 (by decide +kernel) rfl
theorem tw_1093 : (.code yX10_make cX10_make 2 (some .int) : Cond) ∈ tl_T := tl_tin 1093 (by decide +kernel) rfl
theorem td_Lm_make : yX10_make.cls = RX10 ∧ yX10_make.cls ≠ "java/lang/invoke/MethodHandle" ∧ yX10_make.cls ≠ "java/lang/invoke/VarHandle" ∧ (parseMethodDescriptor yX10_make.desc).map (fun d => d.parameters.length) = some 1 := by decide +kernel
theorem tg_Lm_make : GoodIn tl_T (wsV RL 92 RX10 yX10_make (tl_w yX10_make cX10_make 2 (some .int))) := tl_gV tw_1090 tw_1091 tw_1092 tw_70 tw_1093
theorem tw_1098 : (.methodLink RL 95 yX10_set : Cond) ∈ tl_T := tl_tin 1098 (by decide +kernel) rfl
theorem tw_1099 : (.instanceMethod yX10_set : Cond) ∈ tl_T := tl_tin 1099 (by decide +kernel) rfl
theorem tw_1100 : (.selects RX10 yX10_set yX10_set : Cond) ∈ tl_T := tl_tin 1100 (by decide +kernel) rfl
theorem tw_1101 : (.code yX10_set cX10_set 13 (some .int) : Cond) ∈ tl_T := tl_tin 1101 (by decide +kernel) rfl
theorem td_Lm_set : yX10_set.cls = RX10 ∧ yX10_set.cls ≠ "java/lang/invoke/MethodHandle" ∧ yX10_set.cls ≠ "java/lang/invoke/VarHandle" ∧ (parseMethodDescriptor yX10_set.desc).map (fun d => d.parameters.length) = some 4 := by decide +kernel
theorem tg_Lm_set : GoodIn tl_T (wsV RL 95 RX10 yX10_set (tl_w yX10_set cX10_set 13 (some .int))) := tl_gV tw_1098 tw_1099 tw_1100 tw_70 tw_1101
theorem tw_1142 : (.methodLink RL 99 yX10_cut : Cond) ∈ tl_T := tl_tin 1142 (by decide +kernel) rfl
theorem tw_1143 : (.instanceMethod yX10_cut : Cond) ∈ tl_T := tl_tin 1143 (by decide +kernel) rfl
theorem tw_1144 : (.selects RX10 yX10_cut yX10_cut : Cond) ∈ tl_T := tl_tin 1144 (by decide +kernel) rfl
theorem tw_1145 : (.code yX10_cut cX10_cut 6 (some .int) : Cond) ∈ tl_T := tl_tin 1145 (by decide +kernel) rfl
theorem td_Lm_cut : yX10_cut.cls = RX10 ∧ yX10_cut.cls ≠ "java/lang/invoke/MethodHandle" ∧ yX10_cut.cls ≠ "java/lang/invoke/VarHandle" ∧ (parseMethodDescriptor yX10_cut.desc).map (fun d => d.parameters.length) = some 3 := by decide +kernel
theorem tg_Lm_cut : GoodIn tl_T (wsV RL 99 RX10 yX10_cut (tl_w yX10_cut cX10_cut 6 (some .int))) := tl_gV tw_1142 tw_1143 tw_1144 tw_70 tw_1145
theorem tw_1150 : (.methodLink RL 102 yX10_drop : Cond) ∈ tl_T := tl_tin 1150 (by decide +kernel) rfl
theorem tw_1151 : (.instanceMethod yX10_drop : Cond) ∈ tl_T := tl_tin 1151 (by decide +kernel) rfl
theorem tw_1152 : (.selects RX10 yX10_drop yX10_drop : Cond) ∈ tl_T := tl_tin 1152 (by decide +kernel) rfl
theorem tw_1153 : (.code yX10_drop cX10_drop 7 (some .int) : Cond) ∈ tl_T := tl_tin 1153 (by decide +kernel) rfl
theorem td_Lm_drop : yX10_drop.cls = RX10 ∧ yX10_drop.cls ≠ "java/lang/invoke/MethodHandle" ∧ yX10_drop.cls ≠ "java/lang/invoke/VarHandle" ∧ (parseMethodDescriptor yX10_drop.desc).map (fun d => d.parameters.length) = some 1 := by decide +kernel
theorem tg_Lm_drop : GoodIn tl_T (wsV RL 102 RX10 yX10_drop (tl_w yX10_drop cX10_drop 7 (some .int))) := tl_gV tw_1150 tw_1151 tw_1152 tw_70 tw_1153
theorem tw_1170 : (.methodLink RL 105 yX10_copy : Cond) ∈ tl_T := tl_tin 1170 (by decide +kernel) rfl
theorem tw_1171 : (.instanceMethod yX10_copy : Cond) ∈ tl_T := tl_tin 1171 (by decide +kernel) rfl
theorem tw_1172 : (.selects RX10 yX10_copy yX10_copy : Cond) ∈ tl_T := tl_tin 1172 (by decide +kernel) rfl
theorem tw_1173 : (.code yX10_copy cX10_copy 7 (some .int) : Cond) ∈ tl_T := tl_tin 1173 (by decide +kernel) rfl
theorem td_Lm_copy : yX10_copy.cls = RX10 ∧ yX10_copy.cls ≠ "java/lang/invoke/MethodHandle" ∧ yX10_copy.cls ≠ "java/lang/invoke/VarHandle" ∧ (parseMethodDescriptor yX10_copy.desc).map (fun d => d.parameters.length) = some 1 := by decide +kernel
theorem tg_Lm_copy : GoodIn tl_T (wsV RL 105 RX10 yX10_copy (tl_w yX10_copy cX10_copy 7 (some .int))) := tl_gV tw_1170 tw_1171 tw_1172 tw_70 tw_1173
theorem tw_1194 : (.methodLink RL 109 yX10_alike : Cond) ∈ tl_T := tl_tin 1194 (by decide +kernel) rfl
theorem tw_1195 : (.instanceMethod yX10_alike : Cond) ∈ tl_T := tl_tin 1195 (by decide +kernel) rfl
theorem tw_1196 : (.selects RX10 yX10_alike yX10_alike : Cond) ∈ tl_T := tl_tin 1196 (by decide +kernel) rfl
theorem tw_1197 : (.code yX10_alike cX10_alike 9 (some .boolean) : Cond) ∈ tl_T := tl_tin 1197 (by decide +kernel) rfl
theorem td_Lm_alike : yX10_alike.cls = RX10 ∧ yX10_alike.cls ≠ "java/lang/invoke/MethodHandle" ∧ yX10_alike.cls ≠ "java/lang/invoke/VarHandle" ∧ (parseMethodDescriptor yX10_alike.desc).map (fun d => d.parameters.length) = some 2 := by decide +kernel
theorem tg_Lm_alike : GoodIn tl_T (wsV RL 109 RX10 yX10_alike (tl_w yX10_alike cX10_alike 9 (some .boolean))) := tl_gV tw_1194 tw_1195 tw_1196 tw_70 tw_1197
theorem tw_1206 : (.methodLink RL 112 yX10_at : Cond) ∈ tl_T := tl_tin 1206 (by decide +kernel) rfl
theorem tw_1207 : (.instanceMethod yX10_at : Cond) ∈ tl_T := tl_tin 1207 (by decide +kernel) rfl
theorem tw_1208 : (.selects RX10 yX10_at yX10_at : Cond) ∈ tl_T := tl_tin 1208 (by decide +kernel) rfl
theorem tw_1209 : (.code yX10_at cX10_at 5 (some .int) : Cond) ∈ tl_T := tl_tin 1209 (by decide +kernel) rfl
theorem td_Lm_at : yX10_at.cls = RX10 ∧ yX10_at.cls ≠ "java/lang/invoke/MethodHandle" ∧ yX10_at.cls ≠ "java/lang/invoke/VarHandle" ∧ (parseMethodDescriptor yX10_at.desc).map (fun d => d.parameters.length) = some 3 := by decide +kernel
theorem tg_Lm_at : GoodIn tl_T (wsV RL 112 RX10 yX10_at (tl_w yX10_at cX10_at 5 (some .int))) := tl_gV tw_1206 tw_1207 tw_1208 tw_70 tw_1209
theorem tw_1210 : (.methodLink RL 115 yX10_back : Cond) ∈ tl_T := tl_tin 1210 (by decide +kernel) rfl
theorem tw_1211 : (.instanceMethod yX10_back : Cond) ∈ tl_T := tl_tin 1211 (by decide +kernel) rfl
theorem tw_1212 : (.selects RX10 yX10_back yX10_back : Cond) ∈ tl_T := tl_tin 1212 (by decide +kernel) rfl
theorem tw_1213 : (.code yX10_back cX10_back 5 (some .int) : Cond) ∈ tl_T := tl_tin 1213 (by decide +kernel) rfl
theorem td_Lm_back : yX10_back.cls = RX10 ∧ yX10_back.cls ≠ "java/lang/invoke/MethodHandle" ∧ yX10_back.cls ≠ "java/lang/invoke/VarHandle" ∧ (parseMethodDescriptor yX10_back.desc).map (fun d => d.parameters.length) = some 3 := by decide +kernel
theorem tg_Lm_back : GoodIn tl_T (wsV RL 115 RX10 yX10_back (tl_w yX10_back cX10_back 5 (some .int))) := tl_gV tw_1210 tw_1211 tw_1212 tw_70 tw_1213
theorem tw_1214 : (.methodLink RL 118 yX10_ask : Cond) ∈ tl_T := tl_tin 1214 (by decide +kernel) rfl
theorem tw_1215 : (.instanceMethod yX10_ask : Cond) ∈ tl_T := tl_tin 1215 (by decide +kernel) rfl
theorem tw_1216 : (.selects RX10 yX10_ask yX10_ask : Cond) ∈ tl_T := tl_tin 1216 (by decide +kernel) rfl
theorem tw_1217 : (.code yX10_ask cX10_ask 4 (some .int) : Cond) ∈ tl_T := tl_tin 1217 (by decide +kernel) rfl
theorem td_Lm_ask : yX10_ask.cls = RX10 ∧ yX10_ask.cls ≠ "java/lang/invoke/MethodHandle" ∧ yX10_ask.cls ≠ "java/lang/invoke/VarHandle" ∧ (parseMethodDescriptor yX10_ask.desc).map (fun d => d.parameters.length) = some 2 := by decide +kernel
theorem tg_Lm_ask : GoodIn tl_T (wsV RL 118 RX10 yX10_ask (tl_w yX10_ask cX10_ask 4 (some .int))) := tl_gV tw_1214 tw_1215 tw_1216 tw_70 tw_1217
theorem tw_1238 : (.methodLink RL 121 yX10_size : Cond) ∈ tl_T := tl_tin 1238 (by decide +kernel) rfl
theorem tw_1239 : (.instanceMethod yX10_size : Cond) ∈ tl_T := tl_tin 1239 (by decide +kernel) rfl
theorem tw_1240 : (.selects RX10 yX10_size yX10_size : Cond) ∈ tl_T := tl_tin 1240 (by decide +kernel) rfl
theorem tw_1241 : (.code yX10_size cX10_size 5 (some .int) : Cond) ∈ tl_T := tl_tin 1241 (by decide +kernel) rfl
theorem td_Lm_size : yX10_size.cls = RX10 ∧ yX10_size.cls ≠ "java/lang/invoke/MethodHandle" ∧ yX10_size.cls ≠ "java/lang/invoke/VarHandle" ∧ (parseMethodDescriptor yX10_size.desc).map (fun d => d.parameters.length) = some 3 := by decide +kernel
theorem tg_Lm_size : GoodIn tl_T (wsV RL 121 RX10 yX10_size (tl_w yX10_size cX10_size 5 (some .int))) := tl_gV tw_1238 tw_1239 tw_1240 tw_70 tw_1241
theorem tw_1242 : (.methodLink RL 124 yX10_way : Cond) ∈ tl_T := tl_tin 1242 (by decide +kernel) rfl
theorem tw_1243 : (.instanceMethod yX10_way : Cond) ∈ tl_T := tl_tin 1243 (by decide +kernel) rfl
theorem tw_1244 : (.selects RX10 yX10_way yX10_way : Cond) ∈ tl_T := tl_tin 1244 (by decide +kernel) rfl
theorem tw_1245 : (.code yX10_way cX10_way 4 (some .int) : Cond) ∈ tl_T := tl_tin 1245 (by decide +kernel) rfl
theorem td_Lm_way : yX10_way.cls = RX10 ∧ yX10_way.cls ≠ "java/lang/invoke/MethodHandle" ∧ yX10_way.cls ≠ "java/lang/invoke/VarHandle" ∧ (parseMethodDescriptor yX10_way.desc).map (fun d => d.parameters.length) = some 2 := by decide +kernel
theorem tg_Lm_way : GoodIn tl_T (wsV RL 124 RX10 yX10_way (tl_w yX10_way cX10_way 4 (some .int))) := tl_gV tw_1242 tw_1243 tw_1244 tw_70 tw_1245
theorem tw_1246 : (.methodLink RL 127 yX10_path : Cond) ∈ tl_T := tl_tin 1246 (by decide +kernel) rfl
theorem tw_1247 : (.instanceMethod yX10_path : Cond) ∈ tl_T := tl_tin 1247 (by decide +kernel) rfl
theorem tw_1248 : (.selects RX10 yX10_path yX10_path : Cond) ∈ tl_T := tl_tin 1248 (by decide +kernel) rfl
theorem tw_1249 : (.code yX10_path cX10_path 2 (some .int) : Cond) ∈ tl_T := tl_tin 1249 (by decide +kernel) rfl
theorem td_Lm_path : yX10_path.cls = RX10 ∧ yX10_path.cls ≠ "java/lang/invoke/MethodHandle" ∧ yX10_path.cls ≠ "java/lang/invoke/VarHandle" ∧ (parseMethodDescriptor yX10_path.desc).map (fun d => d.parameters.length) = some 1 := by decide +kernel
theorem tg_Lm_path : GoodIn tl_T (wsV RL 127 RX10 yX10_path (tl_w yX10_path cX10_path 2 (some .int))) := tl_gV tw_1246 tw_1247 tw_1248 tw_70 tw_1249
theorem tw_1250 : (.methodLink RL 131 yX10_begin : Cond) ∈ tl_T := tl_tin 1250 (by decide +kernel) rfl
theorem tw_1251 : (.instanceMethod yX10_begin : Cond) ∈ tl_T := tl_tin 1251 (by decide +kernel) rfl
theorem tw_1252 : (.selects RX10 yX10_begin yX10_begin : Cond) ∈ tl_T := tl_tin 1252 (by decide +kernel) rfl
theorem tw_1253 : (.code yX10_begin cX10_begin 3 (some .int) : Cond) ∈ tl_T := tl_tin 1253 (by decide +kernel) rfl
theorem td_Lm_begin : yX10_begin.cls = RX10 ∧ yX10_begin.cls ≠ "java/lang/invoke/MethodHandle" ∧ yX10_begin.cls ≠ "java/lang/invoke/VarHandle" ∧ (parseMethodDescriptor yX10_begin.desc).map (fun d => d.parameters.length) = some 0 := by decide +kernel
theorem tg_Lm_begin : GoodIn tl_T (wsV RL 131 RX10 yX10_begin (tl_w yX10_begin cX10_begin 3 (some .int))) := tl_gV tw_1250 tw_1251 tw_1252 tw_70 tw_1253
theorem tw_1265 : (.methodLink RL 135 yX10_end : Cond) ∈ tl_T := tl_tin 1265 (by decide +kernel) rfl
theorem tw_1266 : (.instanceMethod yX10_end : Cond) ∈ tl_T := tl_tin 1266 (by decide +kernel) rfl
theorem tw_1267 : (.selects RX10 yX10_end yX10_end : Cond) ∈ tl_T := tl_tin 1267 (by decide +kernel) rfl
theorem tw_1268 : (.code yX10_end cX10_end 2 (some .int) : Cond) ∈ tl_T := tl_tin 1268 (by decide +kernel) rfl
theorem td_Lm_end : yX10_end.cls = RX10 ∧ yX10_end.cls ≠ "java/lang/invoke/MethodHandle" ∧ yX10_end.cls ≠ "java/lang/invoke/VarHandle" ∧ (parseMethodDescriptor yX10_end.desc).map (fun d => d.parameters.length) = some 1 := by decide +kernel
theorem tg_Lm_end : GoodIn tl_T (wsV RL 135 RX10 yX10_end (tl_w yX10_end cX10_end 2 (some .int))) := tl_gV tw_1265 tw_1266 tw_1267 tw_70 tw_1268
theorem tw_1281 : (.methodLink RL 138 yX10_count : Cond) ∈ tl_T := tl_tin 1281 (by decide +kernel) rfl
theorem tw_1282 : (.instanceMethod yX10_count : Cond) ∈ tl_T := tl_tin 1282 (by decide +kernel) rfl
theorem tw_1283 : (.selects RX10 yX10_count yX10_count : Cond) ∈ tl_T := tl_tin 1283 (by decide +kernel) rfl
theorem tw_1284 : (.code yX10_count cX10_count 5 (some .int) : Cond) ∈ tl_T := tl_tin 1284 (by decide +kernel) rfl
theorem td_Lm_count : yX10_count.cls = RX10 ∧ yX10_count.cls ≠ "java/lang/invoke/MethodHandle" ∧ yX10_count.cls ≠ "java/lang/invoke/VarHandle" ∧ (parseMethodDescriptor yX10_count.desc).map (fun d => d.parameters.length) = some 1 := by decide +kernel
theorem tg_Lm_count : GoodIn tl_T (wsV RL 138 RX10 yX10_count (tl_w yX10_count cX10_count 5 (some .int))) := tl_gV tw_1281 tw_1282 tw_1283 tw_70 tw_1284
theorem tw_978 : (.methodLink RL 86 yX10_thrown : Cond) ∈ tl_T := tl_tin 978 (by decide +kernel) rfl
theorem tw_979 : (.instanceMethod yX10_thrown : Cond) ∈ tl_T := tl_tin 979 (by decide +kernel) rfl
theorem tw_980 : (.selects RX10 yX10_thrown yX10_thrown : Cond) ∈ tl_T := tl_tin 980 (by decide +kernel) rfl
theorem tw_981 : (.code yX10_thrown cX10_thrown 1 (some .int) : Cond) ∈ tl_T := tl_tin 981 (by decide +kernel) rfl
theorem td_Lm_thrown : yX10_thrown.cls = RX10 ∧ yX10_thrown.cls ≠ "java/lang/invoke/MethodHandle" ∧ yX10_thrown.cls ≠ "java/lang/invoke/VarHandle" ∧ (parseMethodDescriptor yX10_thrown.desc).map (fun d => d.parameters.length) = some 0 := by decide +kernel
theorem tg_Lm_thrown : GoodIn tl_T (wsV RL 86 RX10 yX10_thrown (tl_w yX10_thrown cX10_thrown 1 (some .int))) := tl_gV tw_978 tw_979 tw_980 tw_70 tw_981
theorem lf_ask_6 {k : Nat} (h : 0 < lf_ask k) : tl_R (lf_ask k) ∧ lf_ask k ≠ 0 := by
  have h1 := lf_ask_c h
  rcases h1 with rfl | rfl <;> exact ⟨by decide, by decide⟩
theorem lf_at_6 {k : Nat} (h : 0 < lf_at k) : tl_R (lf_at k) ∧ lf_at k ≠ 0 := by
  have h1 := lf_at_c h
  rcases h1 with rfl | rfl | rfl | rfl <;> exact ⟨by decide, by decide⟩
theorem lf_count_6 {k : Nat} (h : 0 < lf_count k) : tl_R (lf_count k) ∧ lf_count k ≠ 0 := by
  have h1 := lf_count_c h
  rcases h1 with rfl <;> exact ⟨by decide, by decide⟩
theorem lf_cut_6 {k : Nat} (h : 0 < lf_cut k) : tl_R (lf_cut k) ∧ lf_cut k ≠ 0 := by
  have h1 := lf_cut_c h
  rcases h1 with rfl | rfl | rfl <;> exact ⟨by decide, by decide⟩
theorem lf_drop_6 {k : Nat} (h : 0 < lf_drop k) : tl_R (lf_drop k) ∧ lf_drop k ≠ 0 := by
  have h1 := lf_drop_c h
  rcases h1 with rfl | rfl <;> exact ⟨by decide, by decide⟩
theorem lf_level_6 {k : Nat} (h : 0 < lf_level k) : tl_R (lf_level k) ∧ lf_level k ≠ 0 := by
  have h1 := lf_level_c h
  rcases h1 with rfl <;> exact ⟨by decide, by decide⟩
theorem lf_link_6 {k : Nat} (h : 0 < lf_link k) : tl_R (lf_link k) ∧ lf_link k ≠ 0 := by
  have h1 := lf_link_c h
  rcases h1 with rfl | rfl <;> exact ⟨by decide, by decide⟩
theorem lf_path_6 {k : Nat} (h : 0 < lf_path k) : tl_R (lf_path k) ∧ lf_path k ≠ 0 := by
  have h1 := lf_path_c h
  rcases h1 with rfl <;> exact ⟨by decide, by decide⟩
theorem lf_set_6 {k : Nat} (h : 0 < lf_set k) : tl_R (lf_set k) ∧ lf_set k ≠ 0 := by
  have h1 := lf_set_c h
  rcases h1 with rfl | rfl | rfl | rfl | rfl | rfl <;> exact ⟨by decide, by decide⟩
theorem lf_way_6 {k : Nat} (h : 0 < lf_way k) : tl_R (lf_way k) ∧ lf_way k ≠ 0 := by
  have h1 := lf_way_c h
  rcases h1 with rfl <;> exact ⟨by decide, by decide⟩
theorem lv_less {ls : Array Slot} {n : Nat} {a b : List (Nat × Value)} (h : lv_has ls n a) (hs : ∀ q ∈ b, q ∈ a) : lv_has ls n b := ⟨h.1, h.2.1, fun q hq => h.2.2 q (hs q hq)⟩
theorem pm_1 {CW wc wr MW : va_W} {x : Nat × va_E} (h : CW.Perm (wc ++ wr)) : (CW ++ (MW ++ [x])).Perm ((x :: wc) ++ (wr ++ MW)) := by
  have a : (CW ++ (MW ++ [x])).Perm ((wc ++ wr) ++ (MW ++ [x])) := h.append_right _
  refine a.trans ?_
  rw [← List.append_assoc]
  refine (List.perm_append_singleton _ _).trans ?_
  rw [List.append_assoc, List.cons_append]
theorem pm_2 {wm wn wr MW w2 : va_W} {x : Nat × va_E} (h : MW.Perm (wm ++ wn)) : ((x :: w2) ++ (wr ++ MW)).Perm (wm ++ (wn ++ (x :: (w2 ++ wr)))) := by
  rw [← List.append_assoc, ← List.append_assoc wm]
  refine List.perm_append_comm.trans ?_
  rw [List.cons_append]
  exact h.append_right _
theorem pm_3 {M r Y : va_W} {w0 : Nat × va_E} (h : M.Perm (w0 :: r)) : (M ++ Y).Perm ([w0] ++ (r ++ Y)) := by
  refine (h.append_right Y).trans ?_
  exact List.Perm.refl _
theorem pm_4 {M C : va_W} {x : Nat × va_E} : (M ++ (x :: C)).Perm (x :: (C ++ M)) := by
  refine List.perm_append_comm.trans ?_
  exact List.Perm.refl _
theorem pm_5 {M C : va_W} {x : Nat × va_E} : (x :: (C ++ M)).Perm (C ++ (M ++ [x])) := by
  rw [← List.append_assoc]
  exact (List.perm_append_singleton _ _).symm
theorem lw_cmp0 (x : Int64) : lg_cmp x x = 0 := by simp [lg_cmp]
/-- both sides of a call, and what is between them behind it -/
def lw_OK (l : Launch) (D : va_G) (cy : Nat → ClassId) (sa : Nat → Nat) (y9 : MethodName) (c9 : ByteArray) (m9 : Nat) (r9 : FieldType) (y10 : MethodName) (c10 : ByteArray) (m10 : Nat) (r10 : FieldType) (a_x a_m : Nat) (As : List Value) (lf : Nat → Int) (SM : Int → va_W → va_W → Prop) (mc ms mcm msm : Nat) (CW MW : va_W) : Prop :=
  ∃ (rm rm2 : Room) (wc wr wm wn : va_W) (post : Option Value → va_W → Prop) (px : String → va_W → Prop) (postm : Option Value → va_W → Prop) (fs fs2 : List Value),
    CW.Perm (wc ++ wr) ∧ MW.Perm (wm ++ wn) ∧ wc[0]? = some (tl_ob a_x 10 fs) ∧ wm[0]? = some (tl_ob a_m 11 fs2) ∧
    tl_MX l D (tl_tys cy) sa y9 (tl_w y9 c9 m9 (some r9)) rm (.ref a_x :: As) wc mc ms post px ∧ (rm.cells = mc ∧ rm.slots = ms ∧ rm.frames ≤ 7 ∧ rm.locals ≤ 160) ∧
    tl_MC l D (tl_tys cy) y10 (tl_w y10 c10 m10 (some r10)) rm2 (.ref a_m :: As) wm mcm msm postm ∧ (rm2.cells = mcm ∧ rm2.slots = msm ∧ rm2.frames ≤ 9 ∧ rm2.locals ≤ 350) ∧
    (∀ v w1, post v w1 → ∃ r : Int, v = some (.int (tl_I r)) ∧ ∀ v2 w2, postm v2 w2 → v2 = some (.int (tl_I r)) ∧ SM 0 (w1 ++ wr) (w2 ++ wn)) ∧
    (∀ E w1, px E w1 → ∃ k : Nat, E = tl_ex k ∧ 0 < lf k) ∧
    (∀ (k : Nat) w1, px (tl_ex k) w1 → 0 < lf k → ∀ v2 w2, postm v2 w2 → ∃ b : Int, v2 = some (.int (tl_I b)) ∧ SM (lf k) (w1 ++ wr) (w2 ++ wn))
/-- what thrown() answers -/
def lw_TH (l : Launch) (D : va_G) (cy : Nat → ClassId) (a_m : Nat) (SM : Int → va_W → va_W → Prop) : Prop :=
  ∀ t CW MW, SM t CW MW → ∃ (fs : List Value) (r : va_W), MW.Perm (tl_ob a_m 11 fs :: r) ∧ tl_MC l D (tl_tys cy) yX10_thrown (tl_w yX10_thrown cX10_thrown 1 (some .int)) { frames := 0, cells := 0, slots := 0, locals := 0 } (.ref a_m :: []) [tl_ob a_m 11 fs] 0 0 (fun v w1 => v = some (.int (tl_I t)) ∧ w1 = [tl_ob a_m 11 fs])
section TLW
variable {p : Program} {l : Launch} {e : Env} {R : Room} {s : State} {m : MethodId} {args : Array Value} {below : List Frame} {meth : Method} {c : Code} {Q : State → Prop}
variable {D : va_G} {A : Nat → Prop} {cy : Nat → ClassId} {sa : Nat → Nat} {b L i : Nat} {xs : Nat → Int32} {a_x a_m a_o : Nat} {SM : Int → va_W → va_W → Prop}
theorem ts_lald {cc : ByteArray} {pc : Nat} {ls : Array Slot} {rest : List Value} {H : Heap} {locs : List Loc} {cells slots : Nat} {a n : Nat} {ws : va_W} {cl : List vw_C} {cA : ClassId} {f : Nat → Int64} {j : Int} {tys : List (ClassId × FieldType)} (hexec : p.tables.exec = Jvm.exec) (hb : c.code = cc) (hi : tl_in j n) (hK : va_K D cl tys s) (hP : va_P D cl ws H) (q0 t0 : Nat) (ha : ws[q0]? = some (tl_ja cA a n f)) (ht : tys[t0]? = some (cA, .long)) (hn : n ≤ 2147483647) (hdg : decode cc pc = .ok (.laload, 1))
    (kk : W p l e R s m args below meth c H locs cells slots Q (F0 m (pc + 1) ls (.long (f j.toNat) :: rest))) : W p l e R s m args below meth c H locs cells slots Q (F0 m pc ls (.int (tl_I j) :: .ref a :: rest)) :=
  tr_lald (F := some ()) (r := ()) hexec hb (by rw [tl_gt hi]) hK hP q0 t0 ha ht hn hdg (fun _ => kk)
theorem ts_sld {cc : ByteArray} {pc : Nat} {ls : Array Slot} {rest : List Value} {H : Heap} {locs : List Loc} {cells slots : Nat} {j : Nat} (hexec : p.tables.exec = Jvm.exec) (hb : c.code = cc) (hX : va_X b L xs s s.heap) (hbl : b < s.heap.size) (hbA : ¬ A b) (hS : va_S A s.heap H locs) {x : Int} (hx : x = (j : Int)) (hj : j < L) (hL : L ≤ 2560) (hdg : decode cc pc = .ok (.iaload, 1))
    (kk : W p l e R s m args below meth c H locs cells slots Q (F0 m (pc + 1) ls (.int (tl_I (xs j).toInt) :: rest))) : W p l e R s m args below meth c H locs cells slots Q (F0 m pc ls (.int (tl_I x) :: .ref b :: rest)) := by
  subst hx
  refine va_sld hexec hb hX hbl hbA hS (tl_vin ⟨by omega, by omega⟩ (by omega)) hdg ?_
  rw [tl_cl (by omega) (by omega), Int.toNat_natCast, ← tl_of (xs j)]
  rw [tl_of] at kk ⊢
  exact kk
theorem lw_bool {cc : ByteArray} {pc tgt nxt : Nat} {o1 o2 : Int} {x : Int32} {ls : Array Slot} {rest : List Value} {H : Heap} {locs : List Loc} {cells slots : Nat} (hexec : p.tables.exec = Jvm.exec) (hb : c.code = cc) (d1 : decode cc pc = .ok (.ifCond .eq o1, 3)) (d2 : decode cc (pc + 3) = .ok (.iconst 1, 1)) (d3 : decode cc (pc + 3 + 1) = .ok (.goto o2, 3)) (d4 : decode cc tgt = .ok (.iconst 0, 1)) (hnx : tgt + 1 = nxt) (h1 : (pc : Int) + o1 = (tgt : Int)) (h2 : ((pc + 3 + 1 : Nat) : Int) + o2 = (nxt : Int))
    (kk : W p l e R s m args below meth c H locs cells slots Q (F0 m nxt ls (.int (tl_I (if x = 0 then (0 : Int) else 1)) :: rest))) : W p l e R s m args below meth c H locs cells slots Q (F0 m pc ls (.int (tl_I x.toInt) :: rest)) := by
  rw [tl_of]
  refine lv_if_eq hexec hb d1 h1 (fun h => ?_) (fun h => ?_)
  · rw [if_pos h] at kk
    refine lv_iconst (v := tl_I (0 : Int)) hexec hb d4 rfl ?_
    rw [hnx]
    exact kk
  · rw [if_neg h] at kk
    refine lv_iconst (v := tl_I (1 : Int)) hexec hb d2 rfl ?_
    exact lv_goto hexec hb d3 h2 kk
set_option maxHeartbeats 4000000 in
set_option maxRecDepth 20000 in
theorem lc_link (hx : p.tables.exec = Jvm.exec) (hb : c.code = cL_law) (hml : c.maxLocals = 7) (hown : s.vm.findClass RL = some m.cls) (hts : ∀ w ∈ tl_T, w.before args s = true) (hX : va_X b L xs s s.heap) (hbl : b < s.heap.size) (hbA : ¬ A b) (hA : ∀ q, s.heap.size ≤ q → A q) (hL : L ≤ 2560) (hE : tl_E sa A s s.heap) (hN : tl_NC s) (hK : va_K D vwCl (tl_tys cy) s) (hR : 11 ≤ R.frames ∧ 410 ≤ R.locals) (hi : i + 5 ≤ L)
    {CW MW : va_W} {ov : Nat → Int64} {mc ms mcm msm cells slots : Nat} (hok : lw_OK l D cy sa yX9_link cX9_link 5 .int yX10_link cX10_link 6 .int a_x a_m [.int (tl_I ((xs (i + 1)).toInt)), .int (tl_I ((xs (i + 2)).toInt)), .int (tl_I ((xs (i + 3)).toInt)), .int (tl_I ((xs (i + 4)).toInt))] lf_link SM mc ms mcm msm CW MW) (hth : lw_TH l D cy a_m SM) (hf : cells + (mc + mcm) ≤ R.cells ∧ slots + (ms + msm) ≤ R.slots)
    {H : Heap} {locs : List Loc} {ls : Array Slot} (hP : va_P D vwCl (CW ++ (MW ++ [tl_ja (cy 2) a_o 1 ov])) H) (hD : va_D A (CW ++ (MW ++ [tl_ja (cy 2) a_o 1 ov]))) (hS : va_S A s.heap H locs) (hl : lv_has ls 7 [(4, .int (tl_I (i : Int))), (0, .ref b), (1, .ref a_x), (2, .ref a_m), (3, .ref a_o)])
    (kk : ∀ (t : Int) (CW2 MW2 : va_W) (ov2 : Nat → Int64) (H : Heap) (locs : List Loc) (ls : Array Slot), SM t CW2 MW2 → va_P D vwCl (CW2 ++ (MW2 ++ [tl_ja (cy 2) a_o 1 ov2])) H → va_D A (CW2 ++ (MW2 ++ [tl_ja (cy 2) a_o 1 ov2])) → va_S A s.heap H locs → lv_has ls 7 [(4, .int (tl_I (i : Int))), (0, .ref b), (1, .ref a_x), (2, .ref a_m), (3, .ref a_o)] → W p l e R s m args below meth c H locs (cells + (mc + mcm)) (slots + (ms + msm)) Q (F0 m 1227 ls [])) :
    W p l e R s m args below meth c H locs cells slots Q (F0 m 116 ls []) := by
  obtain ⟨rm, rm2, wc, wr, wm, wn, post, px, postm, fs, fs2, q1, q2, q3, q4, hM9, hrm, hM10, ⟨hr1, hr2, hr3, hr4⟩, hpo, hpx, hpk⟩ := hok
  refine lv_aload_n hx hb dL_law_116 rfl (lv_at hl 2 rfl) ?_
  refine lv_aload_n hx hb dL_law_117 rfl (lv_at hl 1 rfl) ?_
  refine lv_iload hx hb dL_law_118 (lv_at hl 0 rfl) ?_
  refine lv_iconst (v := tl_I (1 : Int)) hx hb dL_law_120 rfl ?_
  refine tr_iadd hx hb dL_law_121 ?_
  refine ts_sld (j := i + 1) hx hb hX hbl hbA hS (by omega) (by omega) hL dL_law_122 ?_
  refine lv_aload_n hx hb dL_law_123 rfl (lv_at hl 1 rfl) ?_
  refine lv_iload hx hb dL_law_124 (lv_at hl 0 rfl) ?_
  refine lv_iconst (v := tl_I (2 : Int)) hx hb dL_law_126 rfl ?_
  refine tr_iadd hx hb dL_law_127 ?_
  refine ts_sld (j := i + 2) hx hb hX hbl hbA hS (by omega) (by omega) hL dL_law_128 ?_
  refine lv_aload_n hx hb dL_law_129 rfl (lv_at hl 1 rfl) ?_
  refine lv_iload hx hb dL_law_130 (lv_at hl 0 rfl) ?_
  refine lv_iconst (v := tl_I (3 : Int)) hx hb dL_law_132 rfl ?_
  refine tr_iadd hx hb dL_law_133 ?_
  refine ts_sld (j := i + 3) hx hb hX hbl hbA hS (by omega) (by omega) hL dL_law_134 ?_
  refine lv_aload_n hx hb dL_law_135 rfl (lv_at hl 1 rfl) ?_
  refine lv_iload hx hb dL_law_136 (lv_at hl 0 rfl) ?_
  refine lv_iconst (v := tl_I (4 : Int)) hx hb dL_law_138 rfl ?_
  refine tr_iadd hx hb dL_law_139 ?_
  refine ts_sld (j := i + 4) hx hb hX hbl hbA hS (by omega) (by omega) hL dL_law_140 ?_
  refine lv_aload_n hx hb dL_law_141 rfl (lv_at hl 4 rfl) ?_
  refine tl_callYA (wc := tl_ja (cy 2) a_o 1 ov :: wc) (wr := wr ++ MW) (As := [.ref a_x, .int (tl_I ((xs (i + 1)).toInt)), .int (tl_I ((xs (i + 2)).toInt)), .int (tl_I ((xs (i + 3)).toInt)), .int (tl_I ((xs (i + 4)).toInt)), .ref a_o]) (rest := []) ⟨hx, hb, hml, hown, hts⟩ (kt_L_link l D cy sa a_x a_o ((xs (i + 1)).toInt) ((xs (i + 2)).toInt) ((xs (i + 3)).toInt) ((xs (i + 4)).toInt) ov rm wc fs mc ms post px q3 hM9 hrm (fun v w1 h => (hpo v w1 h).imp (fun r h2 => h2.1)) hpx) (vx_cwSW 6 hts tg_L_link rfl rfl rfl td_L_link ⟨by show 8 + 1 ≤ R.frames; omega, by show 8 + (7 + 11) + 200 ≤ R.locals; omega⟩) hE hN hK (hP.perm (pm_1 q1)) (hD.perm (pm_1 q1)) hS hA rfl hl.1 rfl (Nat.le_of_ble_eq_true rfl) dL_law_142 ⟨by omega, by omega⟩ (fun v w1 H locs hp hP hD hS => ?_)
  rcases hp with ⟨r, w2, hpp, rfl, rfl⟩ | ⟨k, w2, hpp, hk, rfl, rfl⟩
  · obtain ⟨r2, er, hsm⟩ := hpo _ _ hpp
    have er : tl_I r = tl_I r2 := by injection er with er; injection er
    refine W.eq (g2 := F0 m 145 ls [.int (tl_I (0 : Int))]) rfl ?_
    refine lv_istore (lv' := [(5, .int (tl_I (0 : Int))), (4, .int (tl_I (i : Int))), (0, .ref b), (1, .ref a_x), (2, .ref a_m), (3, .ref a_o)]) hx hb dL_law_145 hl (by decide) rfl (fun ls hl => ?_)
    refine lv_aload_n hx hb dL_law_147 rfl (lv_at hl 4 rfl) ?_
    refine lv_aload_n hx hb dL_law_148 rfl (lv_at hl 2 rfl) ?_
    refine lv_iload hx hb dL_law_149 (lv_at hl 1 rfl) ?_
    refine lv_iconst (v := tl_I (1 : Int)) hx hb dL_law_151 rfl ?_
    refine tr_iadd hx hb dL_law_152 ?_
    refine ts_sld (j := i + 1) hx hb hX hbl hbA hS (by omega) (by omega) hL dL_law_153 ?_
    refine lv_aload_n hx hb dL_law_154 rfl (lv_at hl 2 rfl) ?_
    refine lv_iload hx hb dL_law_155 (lv_at hl 1 rfl) ?_
    refine lv_iconst (v := tl_I (2 : Int)) hx hb dL_law_157 rfl ?_
    refine tr_iadd hx hb dL_law_158 ?_
    refine ts_sld (j := i + 2) hx hb hX hbl hbA hS (by omega) (by omega) hL dL_law_159 ?_
    refine lv_aload_n hx hb dL_law_160 rfl (lv_at hl 2 rfl) ?_
    refine lv_iload hx hb dL_law_161 (lv_at hl 1 rfl) ?_
    refine lv_iconst (v := tl_I (3 : Int)) hx hb dL_law_163 rfl ?_
    refine tr_iadd hx hb dL_law_164 ?_
    refine ts_sld (j := i + 3) hx hb hX hbl hbA hS (by omega) (by omega) hL dL_law_165 ?_
    refine lv_aload_n hx hb dL_law_166 rfl (lv_at hl 2 rfl) ?_
    refine lv_iload hx hb dL_law_167 (lv_at hl 1 rfl) ?_
    refine lv_iconst (v := tl_I (4 : Int)) hx hb dL_law_169 rfl ?_
    refine tr_iadd hx hb dL_law_170 ?_
    refine ts_sld (j := i + 4) hx hb hX hbl hbA hS (by omega) (by omega) hL dL_law_171 ?_
    refine tl_callVA (wc := wm) (wr := wn ++ (tl_ja (cy 2) a_o 1 (va_up ov 0 ((fun x => x.toInt64) (tl_I r))) :: (w2 ++ wr))) (As := [.int (tl_I ((xs (i + 1)).toInt)), .int (tl_I ((xs (i + 2)).toInt)), .int (tl_I ((xs (i + 3)).toInt)), .int (tl_I ((xs (i + 4)).toInt))]) (rest := []) ⟨hx, hb, hml, hown, hts⟩ hM10 (cwV 4 hts tg_Lm_link rfl hr1 hr2 td_Lm_link ⟨by omega, by show 8 + (6 + 11) + rm2.locals ≤ R.locals; omega⟩) hK (hP.perm (pm_2 q2)) (hD.perm (pm_2 q2)) hS hA 11 q4 rfl rfl rfl hl.1 rfl (Nat.le_of_ble_eq_true rfl) dL_law_172 ⟨by omega, by omega⟩ (fun v w3 H locs hp hP hD hS => ?_)
    obtain ⟨rfl, hsm⟩ := hsm _ _ hp
    rw [← List.append_assoc] at hP hD
    obtain ⟨fs3, rr, q5, hM3⟩ := hth _ _ _ hsm
    refine W.eq (g2 := F0 m 175 ls [.int (tl_I r2)]) rfl ?_
    refine lv_istore (lv' := [(6, .int (tl_I r2)), (5, .int (tl_I (0 : Int))), (4, .int (tl_I (i : Int))), (0, .ref b), (1, .ref a_x), (2, .ref a_m), (3, .ref a_o)]) hx hb dL_law_175 hl (by decide) rfl (fun ls hl => ?_)
    refine lv_aload_n hx hb dL_law_177 rfl (lv_at hl 5 rfl) ?_
    refine tl_callVA (wc := [tl_ob a_m 11 fs3]) (wr := rr ++ (tl_ja (cy 2) a_o 1 (va_up ov 0 ((fun x => x.toInt64) (tl_I r))) :: (w2 ++ wr))) (As := []) (rest := []) ⟨hx, hb, hml, hown, hts⟩ hM3 (cwV 0 hts tg_Lm_thrown rfl rfl rfl td_Lm_thrown ⟨by show 0 + 1 ≤ R.frames; omega, by show 8 + (1 + 11) + 0 ≤ R.locals; omega⟩) hK (hP.perm (pm_3 q5)) (hD.perm (pm_3 q5)) hS hA 11 rfl rfl rfl rfl hl.1 rfl (Nat.le_of_ble_eq_true rfl) dL_law_178 ⟨by omega, by omega⟩ (fun v w4 H locs hp hP hD hS => ?_)
    obtain ⟨rfl, rfl⟩ := hp
    have hP := (hP.perm (pm_3 q5).symm).perm pm_4
    have hD := (hD.perm (pm_3 q5).symm).perm pm_4
    refine W.widen (k := cells + (mc + mcm)) (n := slots + (ms + msm)) (by omega) (by omega) ?_
    refine W.eq (g2 := F0 m 181 ls [.int (tl_I (0 : Int))]) rfl ?_
    refine lv_iload hx hb dL_law_181 (lv_at hl 1 rfl) ?_
    refine lv_icmp_eq (tgt := 188) hx hb dL_law_183 (by decide) (fun _ => ?_) (fun h => absurd rfl h)
    refine lv_iload hx hb dL_law_188 (lv_at hl 1 rfl) ?_
    refine lv_if_ne (tgt := 205) hx hb dL_law_190 (by decide) (fun h => absurd rfl h) (fun _ => ?_)
    refine lv_aload_n hx hb dL_law_193 rfl (lv_at hl 6 rfl) ?_
    refine lv_iconst (v := tl_I (0 : Int)) hx hb dL_law_194 rfl ?_
    refine ts_lald hx hb ⟨by omega, by omega⟩ hK hP 0 2 rfl rfl (by decide) dL_law_195 ?_
    rw [show (0 : Int).toNat = 0 from rfl, va_up_self, er]
    refine lv_iload hx hb dL_law_196 (lv_at hl 0 rfl) ?_
    refine lv_i2l (v := (tl_I r2).toInt64) hx hb dL_law_198 rfl ?_
    refine W.lcmp hx hb dL_law_199 ?_
    rw [lw_cmp0]
    refine lv_if_eq (tgt := 205) hx hb dL_law_200 (by decide) (fun _ => ?_) (fun h => absurd rfl h)
    refine lv_goto (tgt := 1227) hx hb dL_law_205 (by decide) ?_
    exact kk _ _ _ (va_up ov 0 ((fun x => x.toInt64) (tl_I r))) _ _ _ hsm (hP.perm pm_5) (hD.perm pm_5) hS (lv_less hl (fun q hq => List.mem_cons_of_mem _ (List.mem_cons_of_mem _ hq)))
  · have hsm := hpk k w2 hpp hk
    refine W.eq (g2 := F0 m 145 ls [.int (tl_I (lf_link k))]) rfl ?_
    refine lv_istore (lv' := [(5, .int (tl_I (lf_link k))), (4, .int (tl_I (i : Int))), (0, .ref b), (1, .ref a_x), (2, .ref a_m), (3, .ref a_o)]) hx hb dL_law_145 hl (by decide) rfl (fun ls hl => ?_)
    refine lv_aload_n hx hb dL_law_147 rfl (lv_at hl 4 rfl) ?_
    refine lv_aload_n hx hb dL_law_148 rfl (lv_at hl 2 rfl) ?_
    refine lv_iload hx hb dL_law_149 (lv_at hl 1 rfl) ?_
    refine lv_iconst (v := tl_I (1 : Int)) hx hb dL_law_151 rfl ?_
    refine tr_iadd hx hb dL_law_152 ?_
    refine ts_sld (j := i + 1) hx hb hX hbl hbA hS (by omega) (by omega) hL dL_law_153 ?_
    refine lv_aload_n hx hb dL_law_154 rfl (lv_at hl 2 rfl) ?_
    refine lv_iload hx hb dL_law_155 (lv_at hl 1 rfl) ?_
    refine lv_iconst (v := tl_I (2 : Int)) hx hb dL_law_157 rfl ?_
    refine tr_iadd hx hb dL_law_158 ?_
    refine ts_sld (j := i + 2) hx hb hX hbl hbA hS (by omega) (by omega) hL dL_law_159 ?_
    refine lv_aload_n hx hb dL_law_160 rfl (lv_at hl 2 rfl) ?_
    refine lv_iload hx hb dL_law_161 (lv_at hl 1 rfl) ?_
    refine lv_iconst (v := tl_I (3 : Int)) hx hb dL_law_163 rfl ?_
    refine tr_iadd hx hb dL_law_164 ?_
    refine ts_sld (j := i + 3) hx hb hX hbl hbA hS (by omega) (by omega) hL dL_law_165 ?_
    refine lv_aload_n hx hb dL_law_166 rfl (lv_at hl 2 rfl) ?_
    refine lv_iload hx hb dL_law_167 (lv_at hl 1 rfl) ?_
    refine lv_iconst (v := tl_I (4 : Int)) hx hb dL_law_169 rfl ?_
    refine tr_iadd hx hb dL_law_170 ?_
    refine ts_sld (j := i + 4) hx hb hX hbl hbA hS (by omega) (by omega) hL dL_law_171 ?_
    refine tl_callVA (wc := wm) (wr := wn ++ (tl_ja (cy 2) a_o 1 ov :: (w2 ++ wr))) (As := [.int (tl_I ((xs (i + 1)).toInt)), .int (tl_I ((xs (i + 2)).toInt)), .int (tl_I ((xs (i + 3)).toInt)), .int (tl_I ((xs (i + 4)).toInt))]) (rest := []) ⟨hx, hb, hml, hown, hts⟩ hM10 (cwV 4 hts tg_Lm_link rfl hr1 hr2 td_Lm_link ⟨by omega, by show 8 + (6 + 11) + rm2.locals ≤ R.locals; omega⟩) hK (hP.perm (pm_2 q2)) (hD.perm (pm_2 q2)) hS hA 11 q4 rfl rfl rfl hl.1 rfl (Nat.le_of_ble_eq_true rfl) dL_law_172 ⟨by omega, by omega⟩ (fun v w3 H locs hp hP hD hS => ?_)
    obtain ⟨r2, rfl, hsm⟩ := hsm _ _ hp
    rw [← List.append_assoc] at hP hD
    obtain ⟨fs3, rr, q5, hM3⟩ := hth _ _ _ hsm
    refine W.eq (g2 := F0 m 175 ls [.int (tl_I r2)]) rfl ?_
    refine lv_istore (lv' := [(6, .int (tl_I r2)), (5, .int (tl_I (lf_link k))), (4, .int (tl_I (i : Int))), (0, .ref b), (1, .ref a_x), (2, .ref a_m), (3, .ref a_o)]) hx hb dL_law_175 hl (by decide) rfl (fun ls hl => ?_)
    refine lv_aload_n hx hb dL_law_177 rfl (lv_at hl 5 rfl) ?_
    refine tl_callVA (wc := [tl_ob a_m 11 fs3]) (wr := rr ++ (tl_ja (cy 2) a_o 1 ov :: (w2 ++ wr))) (As := []) (rest := []) ⟨hx, hb, hml, hown, hts⟩ hM3 (cwV 0 hts tg_Lm_thrown rfl rfl rfl td_Lm_thrown ⟨by show 0 + 1 ≤ R.frames; omega, by show 8 + (1 + 11) + 0 ≤ R.locals; omega⟩) hK (hP.perm (pm_3 q5)) (hD.perm (pm_3 q5)) hS hA 11 rfl rfl rfl rfl hl.1 rfl (Nat.le_of_ble_eq_true rfl) dL_law_178 ⟨by omega, by omega⟩ (fun v w4 H locs hp hP hD hS => ?_)
    obtain ⟨rfl, rfl⟩ := hp
    have hP := (hP.perm (pm_3 q5).symm).perm pm_4
    have hD := (hD.perm (pm_3 q5).symm).perm pm_4
    refine W.widen (k := cells + (mc + mcm)) (n := slots + (ms + msm)) (by omega) (by omega) ?_
    refine W.eq (g2 := F0 m 181 ls [.int (tl_I (lf_link k))]) rfl ?_
    refine lv_iload hx hb dL_law_181 (lv_at hl 1 rfl) ?_
    refine lv_icmp_eq (tgt := 188) hx hb dL_law_183 (by decide) (fun _ => ?_) (fun h => absurd rfl h)
    refine lv_iload hx hb dL_law_188 (lv_at hl 1 rfl) ?_
    refine lv_if_ne (tgt := 205) hx hb dL_law_190 (by decide) (fun _ => ?_) (fun h => absurd ((tl_eq (lf_link_6 hk).1 tl_R0).mp h) (lf_link_6 hk).2)
    refine lv_goto (tgt := 1227) hx hb dL_law_205 (by decide) ?_
    exact kk _ _ _ ov _ _ _ hsm (hP.perm pm_5) (hD.perm pm_5) hS (lv_less hl (fun q hq => List.mem_cons_of_mem _ (List.mem_cons_of_mem _ hq)))
set_option maxHeartbeats 4000000 in
set_option maxRecDepth 20000 in
theorem lc_make (hx : p.tables.exec = Jvm.exec) (hb : c.code = cL_law) (hml : c.maxLocals = 7) (hown : s.vm.findClass RL = some m.cls) (hts : ∀ w ∈ tl_T, w.before args s = true) (hX : va_X b L xs s s.heap) (hbl : b < s.heap.size) (hbA : ¬ A b) (hA : ∀ q, s.heap.size ≤ q → A q) (hL : L ≤ 2560) (hE : tl_E sa A s s.heap) (hN : tl_NC s) (hK : va_K D vwCl (tl_tys cy) s) (hR : 11 ≤ R.frames ∧ 410 ≤ R.locals) (hi : i + 5 ≤ L)
    {CW MW : va_W} {ov : Nat → Int64} {mc ms mcm msm cells slots : Nat} (hok : lw_OK l D cy sa yX9_make cX9_make 3 .int yX10_make cX10_make 2 .int a_x a_m [.int (tl_I ((xs (i + 1)).toInt))] lf_link SM mc ms mcm msm CW MW) (hth : lw_TH l D cy a_m SM) (hf : cells + (mc + mcm) ≤ R.cells ∧ slots + (ms + msm) ≤ R.slots)
    {H : Heap} {locs : List Loc} {ls : Array Slot} (hP : va_P D vwCl (CW ++ (MW ++ [tl_ja (cy 2) a_o 1 ov])) H) (hD : va_D A (CW ++ (MW ++ [tl_ja (cy 2) a_o 1 ov]))) (hS : va_S A s.heap H locs) (hl : lv_has ls 7 [(4, .int (tl_I (i : Int))), (0, .ref b), (1, .ref a_x), (2, .ref a_m), (3, .ref a_o)])
    (kk : ∀ (t : Int) (CW2 MW2 : va_W) (ov2 : Nat → Int64) (H : Heap) (locs : List Loc) (ls : Array Slot), SM t CW2 MW2 → va_P D vwCl (CW2 ++ (MW2 ++ [tl_ja (cy 2) a_o 1 ov2])) H → va_D A (CW2 ++ (MW2 ++ [tl_ja (cy 2) a_o 1 ov2])) → va_S A s.heap H locs → lv_has ls 7 [(4, .int (tl_I (i : Int))), (0, .ref b), (1, .ref a_x), (2, .ref a_m), (3, .ref a_o)] → W p l e R s m args below meth c H locs (cells + (mc + mcm)) (slots + (ms + msm)) Q (F0 m 1227 ls [])) :
    W p l e R s m args below meth c H locs cells slots Q (F0 m 208 ls []) := by
  obtain ⟨rm, rm2, wc, wr, wm, wn, post, px, postm, fs, fs2, q1, q2, q3, q4, hM9, hrm, hM10, ⟨hr1, hr2, hr3, hr4⟩, hpo, hpx, hpk⟩ := hok
  refine lv_aload_n hx hb dL_law_208 rfl (lv_at hl 2 rfl) ?_
  refine lv_aload_n hx hb dL_law_209 rfl (lv_at hl 1 rfl) ?_
  refine lv_iload hx hb dL_law_210 (lv_at hl 0 rfl) ?_
  refine lv_iconst (v := tl_I (1 : Int)) hx hb dL_law_212 rfl ?_
  refine tr_iadd hx hb dL_law_213 ?_
  refine ts_sld (j := i + 1) hx hb hX hbl hbA hS (by omega) (by omega) hL dL_law_214 ?_
  refine lv_aload_n hx hb dL_law_215 rfl (lv_at hl 4 rfl) ?_
  refine tl_callYA (wc := tl_ja (cy 2) a_o 1 ov :: wc) (wr := wr ++ MW) (As := [.ref a_x, .int (tl_I ((xs (i + 1)).toInt)), .ref a_o]) (rest := []) ⟨hx, hb, hml, hown, hts⟩ (kt_L_make l D cy sa a_x a_o ((xs (i + 1)).toInt) ov rm wc fs mc ms post px q3 hM9 hrm (fun v w1 h => (hpo v w1 h).imp (fun r h2 => h2.1)) hpx) (vx_cwSW 3 hts tg_L_make rfl rfl rfl td_L_make ⟨by show 8 + 1 ≤ R.frames; omega, by show 8 + (4 + 11) + 200 ≤ R.locals; omega⟩) hE hN hK (hP.perm (pm_1 q1)) (hD.perm (pm_1 q1)) hS hA rfl hl.1 rfl (Nat.le_of_ble_eq_true rfl) dL_law_216 ⟨by omega, by omega⟩ (fun v w1 H locs hp hP hD hS => ?_)
  rcases hp with ⟨r, w2, hpp, rfl, rfl⟩ | ⟨k, w2, hpp, hk, rfl, rfl⟩
  · obtain ⟨r2, er, hsm⟩ := hpo _ _ hpp
    have er : tl_I r = tl_I r2 := by injection er with er; injection er
    refine W.eq (g2 := F0 m 219 ls [.int (tl_I (0 : Int))]) rfl ?_
    refine lv_istore (lv' := [(5, .int (tl_I (0 : Int))), (4, .int (tl_I (i : Int))), (0, .ref b), (1, .ref a_x), (2, .ref a_m), (3, .ref a_o)]) hx hb dL_law_219 hl (by decide) rfl (fun ls hl => ?_)
    refine lv_aload_n hx hb dL_law_221 rfl (lv_at hl 4 rfl) ?_
    refine lv_aload_n hx hb dL_law_222 rfl (lv_at hl 2 rfl) ?_
    refine lv_iload hx hb dL_law_223 (lv_at hl 1 rfl) ?_
    refine lv_iconst (v := tl_I (1 : Int)) hx hb dL_law_225 rfl ?_
    refine tr_iadd hx hb dL_law_226 ?_
    refine ts_sld (j := i + 1) hx hb hX hbl hbA hS (by omega) (by omega) hL dL_law_227 ?_
    refine tl_callVA (wc := wm) (wr := wn ++ (tl_ja (cy 2) a_o 1 (va_up ov 0 ((fun x => x.toInt64) (tl_I r))) :: (w2 ++ wr))) (As := [.int (tl_I ((xs (i + 1)).toInt))]) (rest := []) ⟨hx, hb, hml, hown, hts⟩ hM10 (cwV 1 hts tg_Lm_make rfl hr1 hr2 td_Lm_make ⟨by omega, by show 8 + (2 + 11) + rm2.locals ≤ R.locals; omega⟩) hK (hP.perm (pm_2 q2)) (hD.perm (pm_2 q2)) hS hA 11 q4 rfl rfl rfl hl.1 rfl (Nat.le_of_ble_eq_true rfl) dL_law_228 ⟨by omega, by omega⟩ (fun v w3 H locs hp hP hD hS => ?_)
    obtain ⟨rfl, hsm⟩ := hsm _ _ hp
    rw [← List.append_assoc] at hP hD
    obtain ⟨fs3, rr, q5, hM3⟩ := hth _ _ _ hsm
    refine W.eq (g2 := F0 m 231 ls [.int (tl_I r2)]) rfl ?_
    refine lv_istore (lv' := [(6, .int (tl_I r2)), (5, .int (tl_I (0 : Int))), (4, .int (tl_I (i : Int))), (0, .ref b), (1, .ref a_x), (2, .ref a_m), (3, .ref a_o)]) hx hb dL_law_231 hl (by decide) rfl (fun ls hl => ?_)
    refine lv_aload_n hx hb dL_law_233 rfl (lv_at hl 5 rfl) ?_
    refine tl_callVA (wc := [tl_ob a_m 11 fs3]) (wr := rr ++ (tl_ja (cy 2) a_o 1 (va_up ov 0 ((fun x => x.toInt64) (tl_I r))) :: (w2 ++ wr))) (As := []) (rest := []) ⟨hx, hb, hml, hown, hts⟩ hM3 (cwV 0 hts tg_Lm_thrown rfl rfl rfl td_Lm_thrown ⟨by show 0 + 1 ≤ R.frames; omega, by show 8 + (1 + 11) + 0 ≤ R.locals; omega⟩) hK (hP.perm (pm_3 q5)) (hD.perm (pm_3 q5)) hS hA 11 rfl rfl rfl rfl hl.1 rfl (Nat.le_of_ble_eq_true rfl) dL_law_234 ⟨by omega, by omega⟩ (fun v w4 H locs hp hP hD hS => ?_)
    obtain ⟨rfl, rfl⟩ := hp
    have hP := (hP.perm (pm_3 q5).symm).perm pm_4
    have hD := (hD.perm (pm_3 q5).symm).perm pm_4
    refine W.widen (k := cells + (mc + mcm)) (n := slots + (ms + msm)) (by omega) (by omega) ?_
    refine W.eq (g2 := F0 m 237 ls [.int (tl_I (0 : Int))]) rfl ?_
    refine lv_iload hx hb dL_law_237 (lv_at hl 1 rfl) ?_
    refine lv_icmp_eq (tgt := 244) hx hb dL_law_239 (by decide) (fun _ => ?_) (fun h => absurd rfl h)
    refine lv_iload hx hb dL_law_244 (lv_at hl 1 rfl) ?_
    refine lv_if_ne (tgt := 261) hx hb dL_law_246 (by decide) (fun h => absurd rfl h) (fun _ => ?_)
    refine lv_aload_n hx hb dL_law_249 rfl (lv_at hl 6 rfl) ?_
    refine lv_iconst (v := tl_I (0 : Int)) hx hb dL_law_250 rfl ?_
    refine ts_lald hx hb ⟨by omega, by omega⟩ hK hP 0 2 rfl rfl (by decide) dL_law_251 ?_
    rw [show (0 : Int).toNat = 0 from rfl, va_up_self, er]
    refine lv_iload hx hb dL_law_252 (lv_at hl 0 rfl) ?_
    refine lv_i2l (v := (tl_I r2).toInt64) hx hb dL_law_254 rfl ?_
    refine W.lcmp hx hb dL_law_255 ?_
    rw [lw_cmp0]
    refine lv_if_eq (tgt := 261) hx hb dL_law_256 (by decide) (fun _ => ?_) (fun h => absurd rfl h)
    refine lv_goto (tgt := 1227) hx hb dL_law_261 (by decide) ?_
    exact kk _ _ _ (va_up ov 0 ((fun x => x.toInt64) (tl_I r))) _ _ _ hsm (hP.perm pm_5) (hD.perm pm_5) hS (lv_less hl (fun q hq => List.mem_cons_of_mem _ (List.mem_cons_of_mem _ hq)))
  · have hsm := hpk k w2 hpp hk
    refine W.eq (g2 := F0 m 219 ls [.int (tl_I (lf_link k))]) rfl ?_
    refine lv_istore (lv' := [(5, .int (tl_I (lf_link k))), (4, .int (tl_I (i : Int))), (0, .ref b), (1, .ref a_x), (2, .ref a_m), (3, .ref a_o)]) hx hb dL_law_219 hl (by decide) rfl (fun ls hl => ?_)
    refine lv_aload_n hx hb dL_law_221 rfl (lv_at hl 4 rfl) ?_
    refine lv_aload_n hx hb dL_law_222 rfl (lv_at hl 2 rfl) ?_
    refine lv_iload hx hb dL_law_223 (lv_at hl 1 rfl) ?_
    refine lv_iconst (v := tl_I (1 : Int)) hx hb dL_law_225 rfl ?_
    refine tr_iadd hx hb dL_law_226 ?_
    refine ts_sld (j := i + 1) hx hb hX hbl hbA hS (by omega) (by omega) hL dL_law_227 ?_
    refine tl_callVA (wc := wm) (wr := wn ++ (tl_ja (cy 2) a_o 1 ov :: (w2 ++ wr))) (As := [.int (tl_I ((xs (i + 1)).toInt))]) (rest := []) ⟨hx, hb, hml, hown, hts⟩ hM10 (cwV 1 hts tg_Lm_make rfl hr1 hr2 td_Lm_make ⟨by omega, by show 8 + (2 + 11) + rm2.locals ≤ R.locals; omega⟩) hK (hP.perm (pm_2 q2)) (hD.perm (pm_2 q2)) hS hA 11 q4 rfl rfl rfl hl.1 rfl (Nat.le_of_ble_eq_true rfl) dL_law_228 ⟨by omega, by omega⟩ (fun v w3 H locs hp hP hD hS => ?_)
    obtain ⟨r2, rfl, hsm⟩ := hsm _ _ hp
    rw [← List.append_assoc] at hP hD
    obtain ⟨fs3, rr, q5, hM3⟩ := hth _ _ _ hsm
    refine W.eq (g2 := F0 m 231 ls [.int (tl_I r2)]) rfl ?_
    refine lv_istore (lv' := [(6, .int (tl_I r2)), (5, .int (tl_I (lf_link k))), (4, .int (tl_I (i : Int))), (0, .ref b), (1, .ref a_x), (2, .ref a_m), (3, .ref a_o)]) hx hb dL_law_231 hl (by decide) rfl (fun ls hl => ?_)
    refine lv_aload_n hx hb dL_law_233 rfl (lv_at hl 5 rfl) ?_
    refine tl_callVA (wc := [tl_ob a_m 11 fs3]) (wr := rr ++ (tl_ja (cy 2) a_o 1 ov :: (w2 ++ wr))) (As := []) (rest := []) ⟨hx, hb, hml, hown, hts⟩ hM3 (cwV 0 hts tg_Lm_thrown rfl rfl rfl td_Lm_thrown ⟨by show 0 + 1 ≤ R.frames; omega, by show 8 + (1 + 11) + 0 ≤ R.locals; omega⟩) hK (hP.perm (pm_3 q5)) (hD.perm (pm_3 q5)) hS hA 11 rfl rfl rfl rfl hl.1 rfl (Nat.le_of_ble_eq_true rfl) dL_law_234 ⟨by omega, by omega⟩ (fun v w4 H locs hp hP hD hS => ?_)
    obtain ⟨rfl, rfl⟩ := hp
    have hP := (hP.perm (pm_3 q5).symm).perm pm_4
    have hD := (hD.perm (pm_3 q5).symm).perm pm_4
    refine W.widen (k := cells + (mc + mcm)) (n := slots + (ms + msm)) (by omega) (by omega) ?_
    refine W.eq (g2 := F0 m 237 ls [.int (tl_I (lf_link k))]) rfl ?_
    refine lv_iload hx hb dL_law_237 (lv_at hl 1 rfl) ?_
    refine lv_icmp_eq (tgt := 244) hx hb dL_law_239 (by decide) (fun _ => ?_) (fun h => absurd rfl h)
    refine lv_iload hx hb dL_law_244 (lv_at hl 1 rfl) ?_
    refine lv_if_ne (tgt := 261) hx hb dL_law_246 (by decide) (fun _ => ?_) (fun h => absurd ((tl_eq (lf_link_6 hk).1 tl_R0).mp h) (lf_link_6 hk).2)
    refine lv_goto (tgt := 1227) hx hb dL_law_261 (by decide) ?_
    exact kk _ _ _ ov _ _ _ hsm (hP.perm pm_5) (hD.perm pm_5) hS (lv_less hl (fun q hq => List.mem_cons_of_mem _ (List.mem_cons_of_mem _ hq)))
set_option maxHeartbeats 4000000 in
set_option maxRecDepth 20000 in
theorem lc_set (hx : p.tables.exec = Jvm.exec) (hb : c.code = cL_law) (hml : c.maxLocals = 7) (hown : s.vm.findClass RL = some m.cls) (hts : ∀ w ∈ tl_T, w.before args s = true) (hX : va_X b L xs s s.heap) (hbl : b < s.heap.size) (hbA : ¬ A b) (hA : ∀ q, s.heap.size ≤ q → A q) (hL : L ≤ 2560) (hE : tl_E sa A s s.heap) (hN : tl_NC s) (hK : va_K D vwCl (tl_tys cy) s) (hR : 11 ≤ R.frames ∧ 410 ≤ R.locals) (hi : i + 5 ≤ L)
    {CW MW : va_W} {ov : Nat → Int64} {mc ms mcm msm cells slots : Nat} (hok : lw_OK l D cy sa yX9_set cX9_set 7 .int yX10_set cX10_set 13 .int a_x a_m [.int (tl_I ((xs (i + 1)).toInt)), .int (tl_I ((xs (i + 2)).toInt)), .int (tl_I ((xs (i + 3)).toInt)), .int (tl_I ((xs (i + 4)).toInt))] lf_set SM mc ms mcm msm CW MW) (hth : lw_TH l D cy a_m SM) (hf : cells + (mc + mcm) ≤ R.cells ∧ slots + (ms + msm) ≤ R.slots)
    {H : Heap} {locs : List Loc} {ls : Array Slot} (hP : va_P D vwCl (CW ++ (MW ++ [tl_ja (cy 2) a_o 1 ov])) H) (hD : va_D A (CW ++ (MW ++ [tl_ja (cy 2) a_o 1 ov]))) (hS : va_S A s.heap H locs) (hl : lv_has ls 7 [(4, .int (tl_I (i : Int))), (0, .ref b), (1, .ref a_x), (2, .ref a_m), (3, .ref a_o)])
    (kk : ∀ (t : Int) (CW2 MW2 : va_W) (ov2 : Nat → Int64) (H : Heap) (locs : List Loc) (ls : Array Slot), SM t CW2 MW2 → va_P D vwCl (CW2 ++ (MW2 ++ [tl_ja (cy 2) a_o 1 ov2])) H → va_D A (CW2 ++ (MW2 ++ [tl_ja (cy 2) a_o 1 ov2])) → va_S A s.heap H locs → lv_has ls 7 [(4, .int (tl_I (i : Int))), (0, .ref b), (1, .ref a_x), (2, .ref a_m), (3, .ref a_o)] → W p l e R s m args below meth c H locs (cells + (mc + mcm)) (slots + (ms + msm)) Q (F0 m 1227 ls [])) :
    W p l e R s m args below meth c H locs cells slots Q (F0 m 264 ls []) := by
  obtain ⟨rm, rm2, wc, wr, wm, wn, post, px, postm, fs, fs2, q1, q2, q3, q4, hM9, hrm, hM10, ⟨hr1, hr2, hr3, hr4⟩, hpo, hpx, hpk⟩ := hok
  refine lv_aload_n hx hb dL_law_264 rfl (lv_at hl 2 rfl) ?_
  refine lv_aload_n hx hb dL_law_265 rfl (lv_at hl 1 rfl) ?_
  refine lv_iload hx hb dL_law_266 (lv_at hl 0 rfl) ?_
  refine lv_iconst (v := tl_I (1 : Int)) hx hb dL_law_268 rfl ?_
  refine tr_iadd hx hb dL_law_269 ?_
  refine ts_sld (j := i + 1) hx hb hX hbl hbA hS (by omega) (by omega) hL dL_law_270 ?_
  refine lv_aload_n hx hb dL_law_271 rfl (lv_at hl 1 rfl) ?_
  refine lv_iload hx hb dL_law_272 (lv_at hl 0 rfl) ?_
  refine lv_iconst (v := tl_I (2 : Int)) hx hb dL_law_274 rfl ?_
  refine tr_iadd hx hb dL_law_275 ?_
  refine ts_sld (j := i + 2) hx hb hX hbl hbA hS (by omega) (by omega) hL dL_law_276 ?_
  refine lv_aload_n hx hb dL_law_277 rfl (lv_at hl 1 rfl) ?_
  refine lv_iload hx hb dL_law_278 (lv_at hl 0 rfl) ?_
  refine lv_iconst (v := tl_I (3 : Int)) hx hb dL_law_280 rfl ?_
  refine tr_iadd hx hb dL_law_281 ?_
  refine ts_sld (j := i + 3) hx hb hX hbl hbA hS (by omega) (by omega) hL dL_law_282 ?_
  refine lv_aload_n hx hb dL_law_283 rfl (lv_at hl 1 rfl) ?_
  refine lv_iload hx hb dL_law_284 (lv_at hl 0 rfl) ?_
  refine lv_iconst (v := tl_I (4 : Int)) hx hb dL_law_286 rfl ?_
  refine tr_iadd hx hb dL_law_287 ?_
  refine ts_sld (j := i + 4) hx hb hX hbl hbA hS (by omega) (by omega) hL dL_law_288 ?_
  refine lv_aload_n hx hb dL_law_289 rfl (lv_at hl 4 rfl) ?_
  refine tl_callYA (wc := tl_ja (cy 2) a_o 1 ov :: wc) (wr := wr ++ MW) (As := [.ref a_x, .int (tl_I ((xs (i + 1)).toInt)), .int (tl_I ((xs (i + 2)).toInt)), .int (tl_I ((xs (i + 3)).toInt)), .int (tl_I ((xs (i + 4)).toInt)), .ref a_o]) (rest := []) ⟨hx, hb, hml, hown, hts⟩ (kt_L_set l D cy sa a_x a_o ((xs (i + 1)).toInt) ((xs (i + 2)).toInt) ((xs (i + 3)).toInt) ((xs (i + 4)).toInt) ov rm wc fs mc ms post px q3 hM9 hrm (fun v w1 h => (hpo v w1 h).imp (fun r h2 => h2.1)) hpx) (vx_cwSW 6 hts tg_L_set rfl rfl rfl td_L_set ⟨by show 8 + 1 ≤ R.frames; omega, by show 8 + (7 + 11) + 200 ≤ R.locals; omega⟩) hE hN hK (hP.perm (pm_1 q1)) (hD.perm (pm_1 q1)) hS hA rfl hl.1 rfl (Nat.le_of_ble_eq_true rfl) dL_law_290 ⟨by omega, by omega⟩ (fun v w1 H locs hp hP hD hS => ?_)
  rcases hp with ⟨r, w2, hpp, rfl, rfl⟩ | ⟨k, w2, hpp, hk, rfl, rfl⟩
  · obtain ⟨r2, er, hsm⟩ := hpo _ _ hpp
    have er : tl_I r = tl_I r2 := by injection er with er; injection er
    refine W.eq (g2 := F0 m 293 ls [.int (tl_I (0 : Int))]) rfl ?_
    refine lv_istore (lv' := [(5, .int (tl_I (0 : Int))), (4, .int (tl_I (i : Int))), (0, .ref b), (1, .ref a_x), (2, .ref a_m), (3, .ref a_o)]) hx hb dL_law_293 hl (by decide) rfl (fun ls hl => ?_)
    refine lv_aload_n hx hb dL_law_295 rfl (lv_at hl 4 rfl) ?_
    refine lv_aload_n hx hb dL_law_296 rfl (lv_at hl 2 rfl) ?_
    refine lv_iload hx hb dL_law_297 (lv_at hl 1 rfl) ?_
    refine lv_iconst (v := tl_I (1 : Int)) hx hb dL_law_299 rfl ?_
    refine tr_iadd hx hb dL_law_300 ?_
    refine ts_sld (j := i + 1) hx hb hX hbl hbA hS (by omega) (by omega) hL dL_law_301 ?_
    refine lv_aload_n hx hb dL_law_302 rfl (lv_at hl 2 rfl) ?_
    refine lv_iload hx hb dL_law_303 (lv_at hl 1 rfl) ?_
    refine lv_iconst (v := tl_I (2 : Int)) hx hb dL_law_305 rfl ?_
    refine tr_iadd hx hb dL_law_306 ?_
    refine ts_sld (j := i + 2) hx hb hX hbl hbA hS (by omega) (by omega) hL dL_law_307 ?_
    refine lv_aload_n hx hb dL_law_308 rfl (lv_at hl 2 rfl) ?_
    refine lv_iload hx hb dL_law_309 (lv_at hl 1 rfl) ?_
    refine lv_iconst (v := tl_I (3 : Int)) hx hb dL_law_311 rfl ?_
    refine tr_iadd hx hb dL_law_312 ?_
    refine ts_sld (j := i + 3) hx hb hX hbl hbA hS (by omega) (by omega) hL dL_law_313 ?_
    refine lv_aload_n hx hb dL_law_314 rfl (lv_at hl 2 rfl) ?_
    refine lv_iload hx hb dL_law_315 (lv_at hl 1 rfl) ?_
    refine lv_iconst (v := tl_I (4 : Int)) hx hb dL_law_317 rfl ?_
    refine tr_iadd hx hb dL_law_318 ?_
    refine ts_sld (j := i + 4) hx hb hX hbl hbA hS (by omega) (by omega) hL dL_law_319 ?_
    refine tl_callVA (wc := wm) (wr := wn ++ (tl_ja (cy 2) a_o 1 (va_up ov 0 ((fun x => x.toInt64) (tl_I r))) :: (w2 ++ wr))) (As := [.int (tl_I ((xs (i + 1)).toInt)), .int (tl_I ((xs (i + 2)).toInt)), .int (tl_I ((xs (i + 3)).toInt)), .int (tl_I ((xs (i + 4)).toInt))]) (rest := []) ⟨hx, hb, hml, hown, hts⟩ hM10 (cwV 4 hts tg_Lm_set rfl hr1 hr2 td_Lm_set ⟨by omega, by show 8 + (13 + 11) + rm2.locals ≤ R.locals; omega⟩) hK (hP.perm (pm_2 q2)) (hD.perm (pm_2 q2)) hS hA 11 q4 rfl rfl rfl hl.1 rfl (Nat.le_of_ble_eq_true rfl) dL_law_320 ⟨by omega, by omega⟩ (fun v w3 H locs hp hP hD hS => ?_)
    obtain ⟨rfl, hsm⟩ := hsm _ _ hp
    rw [← List.append_assoc] at hP hD
    obtain ⟨fs3, rr, q5, hM3⟩ := hth _ _ _ hsm
    refine W.eq (g2 := F0 m 323 ls [.int (tl_I r2)]) rfl ?_
    refine lv_istore (lv' := [(6, .int (tl_I r2)), (5, .int (tl_I (0 : Int))), (4, .int (tl_I (i : Int))), (0, .ref b), (1, .ref a_x), (2, .ref a_m), (3, .ref a_o)]) hx hb dL_law_323 hl (by decide) rfl (fun ls hl => ?_)
    refine lv_aload_n hx hb dL_law_325 rfl (lv_at hl 5 rfl) ?_
    refine tl_callVA (wc := [tl_ob a_m 11 fs3]) (wr := rr ++ (tl_ja (cy 2) a_o 1 (va_up ov 0 ((fun x => x.toInt64) (tl_I r))) :: (w2 ++ wr))) (As := []) (rest := []) ⟨hx, hb, hml, hown, hts⟩ hM3 (cwV 0 hts tg_Lm_thrown rfl rfl rfl td_Lm_thrown ⟨by show 0 + 1 ≤ R.frames; omega, by show 8 + (1 + 11) + 0 ≤ R.locals; omega⟩) hK (hP.perm (pm_3 q5)) (hD.perm (pm_3 q5)) hS hA 11 rfl rfl rfl rfl hl.1 rfl (Nat.le_of_ble_eq_true rfl) dL_law_326 ⟨by omega, by omega⟩ (fun v w4 H locs hp hP hD hS => ?_)
    obtain ⟨rfl, rfl⟩ := hp
    have hP := (hP.perm (pm_3 q5).symm).perm pm_4
    have hD := (hD.perm (pm_3 q5).symm).perm pm_4
    refine W.widen (k := cells + (mc + mcm)) (n := slots + (ms + msm)) (by omega) (by omega) ?_
    refine W.eq (g2 := F0 m 329 ls [.int (tl_I (0 : Int))]) rfl ?_
    refine lv_iload hx hb dL_law_329 (lv_at hl 1 rfl) ?_
    refine lv_icmp_eq (tgt := 336) hx hb dL_law_331 (by decide) (fun _ => ?_) (fun h => absurd rfl h)
    refine lv_iload hx hb dL_law_336 (lv_at hl 1 rfl) ?_
    refine lv_if_ne (tgt := 353) hx hb dL_law_338 (by decide) (fun h => absurd rfl h) (fun _ => ?_)
    refine lv_aload_n hx hb dL_law_341 rfl (lv_at hl 6 rfl) ?_
    refine lv_iconst (v := tl_I (0 : Int)) hx hb dL_law_342 rfl ?_
    refine ts_lald hx hb ⟨by omega, by omega⟩ hK hP 0 2 rfl rfl (by decide) dL_law_343 ?_
    rw [show (0 : Int).toNat = 0 from rfl, va_up_self, er]
    refine lv_iload hx hb dL_law_344 (lv_at hl 0 rfl) ?_
    refine lv_i2l (v := (tl_I r2).toInt64) hx hb dL_law_346 rfl ?_
    refine W.lcmp hx hb dL_law_347 ?_
    rw [lw_cmp0]
    refine lv_if_eq (tgt := 353) hx hb dL_law_348 (by decide) (fun _ => ?_) (fun h => absurd rfl h)
    refine lv_goto (tgt := 1227) hx hb dL_law_353 (by decide) ?_
    exact kk _ _ _ (va_up ov 0 ((fun x => x.toInt64) (tl_I r))) _ _ _ hsm (hP.perm pm_5) (hD.perm pm_5) hS (lv_less hl (fun q hq => List.mem_cons_of_mem _ (List.mem_cons_of_mem _ hq)))
  · have hsm := hpk k w2 hpp hk
    refine W.eq (g2 := F0 m 293 ls [.int (tl_I (lf_set k))]) rfl ?_
    refine lv_istore (lv' := [(5, .int (tl_I (lf_set k))), (4, .int (tl_I (i : Int))), (0, .ref b), (1, .ref a_x), (2, .ref a_m), (3, .ref a_o)]) hx hb dL_law_293 hl (by decide) rfl (fun ls hl => ?_)
    refine lv_aload_n hx hb dL_law_295 rfl (lv_at hl 4 rfl) ?_
    refine lv_aload_n hx hb dL_law_296 rfl (lv_at hl 2 rfl) ?_
    refine lv_iload hx hb dL_law_297 (lv_at hl 1 rfl) ?_
    refine lv_iconst (v := tl_I (1 : Int)) hx hb dL_law_299 rfl ?_
    refine tr_iadd hx hb dL_law_300 ?_
    refine ts_sld (j := i + 1) hx hb hX hbl hbA hS (by omega) (by omega) hL dL_law_301 ?_
    refine lv_aload_n hx hb dL_law_302 rfl (lv_at hl 2 rfl) ?_
    refine lv_iload hx hb dL_law_303 (lv_at hl 1 rfl) ?_
    refine lv_iconst (v := tl_I (2 : Int)) hx hb dL_law_305 rfl ?_
    refine tr_iadd hx hb dL_law_306 ?_
    refine ts_sld (j := i + 2) hx hb hX hbl hbA hS (by omega) (by omega) hL dL_law_307 ?_
    refine lv_aload_n hx hb dL_law_308 rfl (lv_at hl 2 rfl) ?_
    refine lv_iload hx hb dL_law_309 (lv_at hl 1 rfl) ?_
    refine lv_iconst (v := tl_I (3 : Int)) hx hb dL_law_311 rfl ?_
    refine tr_iadd hx hb dL_law_312 ?_
    refine ts_sld (j := i + 3) hx hb hX hbl hbA hS (by omega) (by omega) hL dL_law_313 ?_
    refine lv_aload_n hx hb dL_law_314 rfl (lv_at hl 2 rfl) ?_
    refine lv_iload hx hb dL_law_315 (lv_at hl 1 rfl) ?_
    refine lv_iconst (v := tl_I (4 : Int)) hx hb dL_law_317 rfl ?_
    refine tr_iadd hx hb dL_law_318 ?_
    refine ts_sld (j := i + 4) hx hb hX hbl hbA hS (by omega) (by omega) hL dL_law_319 ?_
    refine tl_callVA (wc := wm) (wr := wn ++ (tl_ja (cy 2) a_o 1 ov :: (w2 ++ wr))) (As := [.int (tl_I ((xs (i + 1)).toInt)), .int (tl_I ((xs (i + 2)).toInt)), .int (tl_I ((xs (i + 3)).toInt)), .int (tl_I ((xs (i + 4)).toInt))]) (rest := []) ⟨hx, hb, hml, hown, hts⟩ hM10 (cwV 4 hts tg_Lm_set rfl hr1 hr2 td_Lm_set ⟨by omega, by show 8 + (13 + 11) + rm2.locals ≤ R.locals; omega⟩) hK (hP.perm (pm_2 q2)) (hD.perm (pm_2 q2)) hS hA 11 q4 rfl rfl rfl hl.1 rfl (Nat.le_of_ble_eq_true rfl) dL_law_320 ⟨by omega, by omega⟩ (fun v w3 H locs hp hP hD hS => ?_)
    obtain ⟨r2, rfl, hsm⟩ := hsm _ _ hp
    rw [← List.append_assoc] at hP hD
    obtain ⟨fs3, rr, q5, hM3⟩ := hth _ _ _ hsm
    refine W.eq (g2 := F0 m 323 ls [.int (tl_I r2)]) rfl ?_
    refine lv_istore (lv' := [(6, .int (tl_I r2)), (5, .int (tl_I (lf_set k))), (4, .int (tl_I (i : Int))), (0, .ref b), (1, .ref a_x), (2, .ref a_m), (3, .ref a_o)]) hx hb dL_law_323 hl (by decide) rfl (fun ls hl => ?_)
    refine lv_aload_n hx hb dL_law_325 rfl (lv_at hl 5 rfl) ?_
    refine tl_callVA (wc := [tl_ob a_m 11 fs3]) (wr := rr ++ (tl_ja (cy 2) a_o 1 ov :: (w2 ++ wr))) (As := []) (rest := []) ⟨hx, hb, hml, hown, hts⟩ hM3 (cwV 0 hts tg_Lm_thrown rfl rfl rfl td_Lm_thrown ⟨by show 0 + 1 ≤ R.frames; omega, by show 8 + (1 + 11) + 0 ≤ R.locals; omega⟩) hK (hP.perm (pm_3 q5)) (hD.perm (pm_3 q5)) hS hA 11 rfl rfl rfl rfl hl.1 rfl (Nat.le_of_ble_eq_true rfl) dL_law_326 ⟨by omega, by omega⟩ (fun v w4 H locs hp hP hD hS => ?_)
    obtain ⟨rfl, rfl⟩ := hp
    have hP := (hP.perm (pm_3 q5).symm).perm pm_4
    have hD := (hD.perm (pm_3 q5).symm).perm pm_4
    refine W.widen (k := cells + (mc + mcm)) (n := slots + (ms + msm)) (by omega) (by omega) ?_
    refine W.eq (g2 := F0 m 329 ls [.int (tl_I (lf_set k))]) rfl ?_
    refine lv_iload hx hb dL_law_329 (lv_at hl 1 rfl) ?_
    refine lv_icmp_eq (tgt := 336) hx hb dL_law_331 (by decide) (fun _ => ?_) (fun h => absurd rfl h)
    refine lv_iload hx hb dL_law_336 (lv_at hl 1 rfl) ?_
    refine lv_if_ne (tgt := 353) hx hb dL_law_338 (by decide) (fun _ => ?_) (fun h => absurd ((tl_eq (lf_set_6 hk).1 tl_R0).mp h) (lf_set_6 hk).2)
    refine lv_goto (tgt := 1227) hx hb dL_law_353 (by decide) ?_
    exact kk _ _ _ ov _ _ _ hsm (hP.perm pm_5) (hD.perm pm_5) hS (lv_less hl (fun q hq => List.mem_cons_of_mem _ (List.mem_cons_of_mem _ hq)))
set_option maxHeartbeats 4000000 in
set_option maxRecDepth 20000 in
theorem lc_cut (hx : p.tables.exec = Jvm.exec) (hb : c.code = cL_law) (hml : c.maxLocals = 7) (hown : s.vm.findClass RL = some m.cls) (hts : ∀ w ∈ tl_T, w.before args s = true) (hX : va_X b L xs s s.heap) (hbl : b < s.heap.size) (hbA : ¬ A b) (hA : ∀ q, s.heap.size ≤ q → A q) (hL : L ≤ 2560) (hE : tl_E sa A s s.heap) (hN : tl_NC s) (hK : va_K D vwCl (tl_tys cy) s) (hR : 11 ≤ R.frames ∧ 410 ≤ R.locals) (hi : i + 5 ≤ L)
    {CW MW : va_W} {ov : Nat → Int64} {mc ms mcm msm cells slots : Nat} (hok : lw_OK l D cy sa yX9_cut cX9_cut 6 .int yX10_cut cX10_cut 6 .int a_x a_m [.int (tl_I ((xs (i + 1)).toInt)), .int (tl_I ((xs (i + 2)).toInt)), .int (tl_I ((xs (i + 3)).toInt))] lf_cut SM mc ms mcm msm CW MW) (hth : lw_TH l D cy a_m SM) (hf : cells + (mc + mcm) ≤ R.cells ∧ slots + (ms + msm) ≤ R.slots)
    {H : Heap} {locs : List Loc} {ls : Array Slot} (hP : va_P D vwCl (CW ++ (MW ++ [tl_ja (cy 2) a_o 1 ov])) H) (hD : va_D A (CW ++ (MW ++ [tl_ja (cy 2) a_o 1 ov]))) (hS : va_S A s.heap H locs) (hl : lv_has ls 7 [(4, .int (tl_I (i : Int))), (0, .ref b), (1, .ref a_x), (2, .ref a_m), (3, .ref a_o)])
    (kk : ∀ (t : Int) (CW2 MW2 : va_W) (ov2 : Nat → Int64) (H : Heap) (locs : List Loc) (ls : Array Slot), SM t CW2 MW2 → va_P D vwCl (CW2 ++ (MW2 ++ [tl_ja (cy 2) a_o 1 ov2])) H → va_D A (CW2 ++ (MW2 ++ [tl_ja (cy 2) a_o 1 ov2])) → va_S A s.heap H locs → lv_has ls 7 [(4, .int (tl_I (i : Int))), (0, .ref b), (1, .ref a_x), (2, .ref a_m), (3, .ref a_o)] → W p l e R s m args below meth c H locs (cells + (mc + mcm)) (slots + (ms + msm)) Q (F0 m 1227 ls [])) :
    W p l e R s m args below meth c H locs cells slots Q (F0 m 356 ls []) := by
  obtain ⟨rm, rm2, wc, wr, wm, wn, post, px, postm, fs, fs2, q1, q2, q3, q4, hM9, hrm, hM10, ⟨hr1, hr2, hr3, hr4⟩, hpo, hpx, hpk⟩ := hok
  refine lv_aload_n hx hb dL_law_356 rfl (lv_at hl 2 rfl) ?_
  refine lv_aload_n hx hb dL_law_357 rfl (lv_at hl 1 rfl) ?_
  refine lv_iload hx hb dL_law_358 (lv_at hl 0 rfl) ?_
  refine lv_iconst (v := tl_I (1 : Int)) hx hb dL_law_360 rfl ?_
  refine tr_iadd hx hb dL_law_361 ?_
  refine ts_sld (j := i + 1) hx hb hX hbl hbA hS (by omega) (by omega) hL dL_law_362 ?_
  refine lv_aload_n hx hb dL_law_363 rfl (lv_at hl 1 rfl) ?_
  refine lv_iload hx hb dL_law_364 (lv_at hl 0 rfl) ?_
  refine lv_iconst (v := tl_I (2 : Int)) hx hb dL_law_366 rfl ?_
  refine tr_iadd hx hb dL_law_367 ?_
  refine ts_sld (j := i + 2) hx hb hX hbl hbA hS (by omega) (by omega) hL dL_law_368 ?_
  refine lv_aload_n hx hb dL_law_369 rfl (lv_at hl 1 rfl) ?_
  refine lv_iload hx hb dL_law_370 (lv_at hl 0 rfl) ?_
  refine lv_iconst (v := tl_I (3 : Int)) hx hb dL_law_372 rfl ?_
  refine tr_iadd hx hb dL_law_373 ?_
  refine ts_sld (j := i + 3) hx hb hX hbl hbA hS (by omega) (by omega) hL dL_law_374 ?_
  refine lv_aload_n hx hb dL_law_375 rfl (lv_at hl 4 rfl) ?_
  refine tl_callYA (wc := tl_ja (cy 2) a_o 1 ov :: wc) (wr := wr ++ MW) (As := [.ref a_x, .int (tl_I ((xs (i + 1)).toInt)), .int (tl_I ((xs (i + 2)).toInt)), .int (tl_I ((xs (i + 3)).toInt)), .ref a_o]) (rest := []) ⟨hx, hb, hml, hown, hts⟩ (kt_L_cut l D cy sa a_x a_o ((xs (i + 1)).toInt) ((xs (i + 2)).toInt) ((xs (i + 3)).toInt) ov rm wc fs mc ms post px q3 hM9 hrm (fun v w1 h => (hpo v w1 h).imp (fun r h2 => h2.1)) hpx) (vx_cwSW 5 hts tg_L_cut rfl rfl rfl td_L_cut ⟨by show 8 + 1 ≤ R.frames; omega, by show 8 + (6 + 11) + 200 ≤ R.locals; omega⟩) hE hN hK (hP.perm (pm_1 q1)) (hD.perm (pm_1 q1)) hS hA rfl hl.1 rfl (Nat.le_of_ble_eq_true rfl) dL_law_376 ⟨by omega, by omega⟩ (fun v w1 H locs hp hP hD hS => ?_)
  rcases hp with ⟨r, w2, hpp, rfl, rfl⟩ | ⟨k, w2, hpp, hk, rfl, rfl⟩
  · obtain ⟨r2, er, hsm⟩ := hpo _ _ hpp
    have er : tl_I r = tl_I r2 := by injection er with er; injection er
    refine W.eq (g2 := F0 m 379 ls [.int (tl_I (0 : Int))]) rfl ?_
    refine lv_istore (lv' := [(5, .int (tl_I (0 : Int))), (4, .int (tl_I (i : Int))), (0, .ref b), (1, .ref a_x), (2, .ref a_m), (3, .ref a_o)]) hx hb dL_law_379 hl (by decide) rfl (fun ls hl => ?_)
    refine lv_aload_n hx hb dL_law_381 rfl (lv_at hl 4 rfl) ?_
    refine lv_aload_n hx hb dL_law_382 rfl (lv_at hl 2 rfl) ?_
    refine lv_iload hx hb dL_law_383 (lv_at hl 1 rfl) ?_
    refine lv_iconst (v := tl_I (1 : Int)) hx hb dL_law_385 rfl ?_
    refine tr_iadd hx hb dL_law_386 ?_
    refine ts_sld (j := i + 1) hx hb hX hbl hbA hS (by omega) (by omega) hL dL_law_387 ?_
    refine lv_aload_n hx hb dL_law_388 rfl (lv_at hl 2 rfl) ?_
    refine lv_iload hx hb dL_law_389 (lv_at hl 1 rfl) ?_
    refine lv_iconst (v := tl_I (2 : Int)) hx hb dL_law_391 rfl ?_
    refine tr_iadd hx hb dL_law_392 ?_
    refine ts_sld (j := i + 2) hx hb hX hbl hbA hS (by omega) (by omega) hL dL_law_393 ?_
    refine lv_aload_n hx hb dL_law_394 rfl (lv_at hl 2 rfl) ?_
    refine lv_iload hx hb dL_law_395 (lv_at hl 1 rfl) ?_
    refine lv_iconst (v := tl_I (3 : Int)) hx hb dL_law_397 rfl ?_
    refine tr_iadd hx hb dL_law_398 ?_
    refine ts_sld (j := i + 3) hx hb hX hbl hbA hS (by omega) (by omega) hL dL_law_399 ?_
    refine tl_callVA (wc := wm) (wr := wn ++ (tl_ja (cy 2) a_o 1 (va_up ov 0 ((fun x => x.toInt64) (tl_I r))) :: (w2 ++ wr))) (As := [.int (tl_I ((xs (i + 1)).toInt)), .int (tl_I ((xs (i + 2)).toInt)), .int (tl_I ((xs (i + 3)).toInt))]) (rest := []) ⟨hx, hb, hml, hown, hts⟩ hM10 (cwV 3 hts tg_Lm_cut rfl hr1 hr2 td_Lm_cut ⟨by omega, by show 8 + (6 + 11) + rm2.locals ≤ R.locals; omega⟩) hK (hP.perm (pm_2 q2)) (hD.perm (pm_2 q2)) hS hA 11 q4 rfl rfl rfl hl.1 rfl (Nat.le_of_ble_eq_true rfl) dL_law_400 ⟨by omega, by omega⟩ (fun v w3 H locs hp hP hD hS => ?_)
    obtain ⟨rfl, hsm⟩ := hsm _ _ hp
    rw [← List.append_assoc] at hP hD
    obtain ⟨fs3, rr, q5, hM3⟩ := hth _ _ _ hsm
    refine W.eq (g2 := F0 m 403 ls [.int (tl_I r2)]) rfl ?_
    refine lv_istore (lv' := [(6, .int (tl_I r2)), (5, .int (tl_I (0 : Int))), (4, .int (tl_I (i : Int))), (0, .ref b), (1, .ref a_x), (2, .ref a_m), (3, .ref a_o)]) hx hb dL_law_403 hl (by decide) rfl (fun ls hl => ?_)
    refine lv_aload_n hx hb dL_law_405 rfl (lv_at hl 5 rfl) ?_
    refine tl_callVA (wc := [tl_ob a_m 11 fs3]) (wr := rr ++ (tl_ja (cy 2) a_o 1 (va_up ov 0 ((fun x => x.toInt64) (tl_I r))) :: (w2 ++ wr))) (As := []) (rest := []) ⟨hx, hb, hml, hown, hts⟩ hM3 (cwV 0 hts tg_Lm_thrown rfl rfl rfl td_Lm_thrown ⟨by show 0 + 1 ≤ R.frames; omega, by show 8 + (1 + 11) + 0 ≤ R.locals; omega⟩) hK (hP.perm (pm_3 q5)) (hD.perm (pm_3 q5)) hS hA 11 rfl rfl rfl rfl hl.1 rfl (Nat.le_of_ble_eq_true rfl) dL_law_406 ⟨by omega, by omega⟩ (fun v w4 H locs hp hP hD hS => ?_)
    obtain ⟨rfl, rfl⟩ := hp
    have hP := (hP.perm (pm_3 q5).symm).perm pm_4
    have hD := (hD.perm (pm_3 q5).symm).perm pm_4
    refine W.widen (k := cells + (mc + mcm)) (n := slots + (ms + msm)) (by omega) (by omega) ?_
    refine W.eq (g2 := F0 m 409 ls [.int (tl_I (0 : Int))]) rfl ?_
    refine lv_iload hx hb dL_law_409 (lv_at hl 1 rfl) ?_
    refine lv_icmp_eq (tgt := 416) hx hb dL_law_411 (by decide) (fun _ => ?_) (fun h => absurd rfl h)
    refine lv_iload hx hb dL_law_416 (lv_at hl 1 rfl) ?_
    refine lv_if_ne (tgt := 433) hx hb dL_law_418 (by decide) (fun h => absurd rfl h) (fun _ => ?_)
    refine lv_aload_n hx hb dL_law_421 rfl (lv_at hl 6 rfl) ?_
    refine lv_iconst (v := tl_I (0 : Int)) hx hb dL_law_422 rfl ?_
    refine ts_lald hx hb ⟨by omega, by omega⟩ hK hP 0 2 rfl rfl (by decide) dL_law_423 ?_
    rw [show (0 : Int).toNat = 0 from rfl, va_up_self, er]
    refine lv_iload hx hb dL_law_424 (lv_at hl 0 rfl) ?_
    refine lv_i2l (v := (tl_I r2).toInt64) hx hb dL_law_426 rfl ?_
    refine W.lcmp hx hb dL_law_427 ?_
    rw [lw_cmp0]
    refine lv_if_eq (tgt := 433) hx hb dL_law_428 (by decide) (fun _ => ?_) (fun h => absurd rfl h)
    refine lv_goto (tgt := 1227) hx hb dL_law_433 (by decide) ?_
    exact kk _ _ _ (va_up ov 0 ((fun x => x.toInt64) (tl_I r))) _ _ _ hsm (hP.perm pm_5) (hD.perm pm_5) hS (lv_less hl (fun q hq => List.mem_cons_of_mem _ (List.mem_cons_of_mem _ hq)))
  · have hsm := hpk k w2 hpp hk
    refine W.eq (g2 := F0 m 379 ls [.int (tl_I (lf_cut k))]) rfl ?_
    refine lv_istore (lv' := [(5, .int (tl_I (lf_cut k))), (4, .int (tl_I (i : Int))), (0, .ref b), (1, .ref a_x), (2, .ref a_m), (3, .ref a_o)]) hx hb dL_law_379 hl (by decide) rfl (fun ls hl => ?_)
    refine lv_aload_n hx hb dL_law_381 rfl (lv_at hl 4 rfl) ?_
    refine lv_aload_n hx hb dL_law_382 rfl (lv_at hl 2 rfl) ?_
    refine lv_iload hx hb dL_law_383 (lv_at hl 1 rfl) ?_
    refine lv_iconst (v := tl_I (1 : Int)) hx hb dL_law_385 rfl ?_
    refine tr_iadd hx hb dL_law_386 ?_
    refine ts_sld (j := i + 1) hx hb hX hbl hbA hS (by omega) (by omega) hL dL_law_387 ?_
    refine lv_aload_n hx hb dL_law_388 rfl (lv_at hl 2 rfl) ?_
    refine lv_iload hx hb dL_law_389 (lv_at hl 1 rfl) ?_
    refine lv_iconst (v := tl_I (2 : Int)) hx hb dL_law_391 rfl ?_
    refine tr_iadd hx hb dL_law_392 ?_
    refine ts_sld (j := i + 2) hx hb hX hbl hbA hS (by omega) (by omega) hL dL_law_393 ?_
    refine lv_aload_n hx hb dL_law_394 rfl (lv_at hl 2 rfl) ?_
    refine lv_iload hx hb dL_law_395 (lv_at hl 1 rfl) ?_
    refine lv_iconst (v := tl_I (3 : Int)) hx hb dL_law_397 rfl ?_
    refine tr_iadd hx hb dL_law_398 ?_
    refine ts_sld (j := i + 3) hx hb hX hbl hbA hS (by omega) (by omega) hL dL_law_399 ?_
    refine tl_callVA (wc := wm) (wr := wn ++ (tl_ja (cy 2) a_o 1 ov :: (w2 ++ wr))) (As := [.int (tl_I ((xs (i + 1)).toInt)), .int (tl_I ((xs (i + 2)).toInt)), .int (tl_I ((xs (i + 3)).toInt))]) (rest := []) ⟨hx, hb, hml, hown, hts⟩ hM10 (cwV 3 hts tg_Lm_cut rfl hr1 hr2 td_Lm_cut ⟨by omega, by show 8 + (6 + 11) + rm2.locals ≤ R.locals; omega⟩) hK (hP.perm (pm_2 q2)) (hD.perm (pm_2 q2)) hS hA 11 q4 rfl rfl rfl hl.1 rfl (Nat.le_of_ble_eq_true rfl) dL_law_400 ⟨by omega, by omega⟩ (fun v w3 H locs hp hP hD hS => ?_)
    obtain ⟨r2, rfl, hsm⟩ := hsm _ _ hp
    rw [← List.append_assoc] at hP hD
    obtain ⟨fs3, rr, q5, hM3⟩ := hth _ _ _ hsm
    refine W.eq (g2 := F0 m 403 ls [.int (tl_I r2)]) rfl ?_
    refine lv_istore (lv' := [(6, .int (tl_I r2)), (5, .int (tl_I (lf_cut k))), (4, .int (tl_I (i : Int))), (0, .ref b), (1, .ref a_x), (2, .ref a_m), (3, .ref a_o)]) hx hb dL_law_403 hl (by decide) rfl (fun ls hl => ?_)
    refine lv_aload_n hx hb dL_law_405 rfl (lv_at hl 5 rfl) ?_
    refine tl_callVA (wc := [tl_ob a_m 11 fs3]) (wr := rr ++ (tl_ja (cy 2) a_o 1 ov :: (w2 ++ wr))) (As := []) (rest := []) ⟨hx, hb, hml, hown, hts⟩ hM3 (cwV 0 hts tg_Lm_thrown rfl rfl rfl td_Lm_thrown ⟨by show 0 + 1 ≤ R.frames; omega, by show 8 + (1 + 11) + 0 ≤ R.locals; omega⟩) hK (hP.perm (pm_3 q5)) (hD.perm (pm_3 q5)) hS hA 11 rfl rfl rfl rfl hl.1 rfl (Nat.le_of_ble_eq_true rfl) dL_law_406 ⟨by omega, by omega⟩ (fun v w4 H locs hp hP hD hS => ?_)
    obtain ⟨rfl, rfl⟩ := hp
    have hP := (hP.perm (pm_3 q5).symm).perm pm_4
    have hD := (hD.perm (pm_3 q5).symm).perm pm_4
    refine W.widen (k := cells + (mc + mcm)) (n := slots + (ms + msm)) (by omega) (by omega) ?_
    refine W.eq (g2 := F0 m 409 ls [.int (tl_I (lf_cut k))]) rfl ?_
    refine lv_iload hx hb dL_law_409 (lv_at hl 1 rfl) ?_
    refine lv_icmp_eq (tgt := 416) hx hb dL_law_411 (by decide) (fun _ => ?_) (fun h => absurd rfl h)
    refine lv_iload hx hb dL_law_416 (lv_at hl 1 rfl) ?_
    refine lv_if_ne (tgt := 433) hx hb dL_law_418 (by decide) (fun _ => ?_) (fun h => absurd ((tl_eq (lf_cut_6 hk).1 tl_R0).mp h) (lf_cut_6 hk).2)
    refine lv_goto (tgt := 1227) hx hb dL_law_433 (by decide) ?_
    exact kk _ _ _ ov _ _ _ hsm (hP.perm pm_5) (hD.perm pm_5) hS (lv_less hl (fun q hq => List.mem_cons_of_mem _ (List.mem_cons_of_mem _ hq)))
set_option maxHeartbeats 4000000 in
set_option maxRecDepth 20000 in
theorem lc_drop (hx : p.tables.exec = Jvm.exec) (hb : c.code = cL_law) (hml : c.maxLocals = 7) (hown : s.vm.findClass RL = some m.cls) (hts : ∀ w ∈ tl_T, w.before args s = true) (hX : va_X b L xs s s.heap) (hbl : b < s.heap.size) (hbA : ¬ A b) (hA : ∀ q, s.heap.size ≤ q → A q) (hL : L ≤ 2560) (hE : tl_E sa A s s.heap) (hN : tl_NC s) (hK : va_K D vwCl (tl_tys cy) s) (hR : 11 ≤ R.frames ∧ 410 ≤ R.locals) (hi : i + 5 ≤ L)
    {CW MW : va_W} {ov : Nat → Int64} {mc ms mcm msm cells slots : Nat} (hok : lw_OK l D cy sa yX9_drop cX9_drop 4 .int yX10_drop cX10_drop 7 .int a_x a_m [.int (tl_I ((xs (i + 1)).toInt))] lf_drop SM mc ms mcm msm CW MW) (hth : lw_TH l D cy a_m SM) (hf : cells + (mc + mcm) ≤ R.cells ∧ slots + (ms + msm) ≤ R.slots)
    {H : Heap} {locs : List Loc} {ls : Array Slot} (hP : va_P D vwCl (CW ++ (MW ++ [tl_ja (cy 2) a_o 1 ov])) H) (hD : va_D A (CW ++ (MW ++ [tl_ja (cy 2) a_o 1 ov]))) (hS : va_S A s.heap H locs) (hl : lv_has ls 7 [(4, .int (tl_I (i : Int))), (0, .ref b), (1, .ref a_x), (2, .ref a_m), (3, .ref a_o)])
    (kk : ∀ (t : Int) (CW2 MW2 : va_W) (ov2 : Nat → Int64) (H : Heap) (locs : List Loc) (ls : Array Slot), SM t CW2 MW2 → va_P D vwCl (CW2 ++ (MW2 ++ [tl_ja (cy 2) a_o 1 ov2])) H → va_D A (CW2 ++ (MW2 ++ [tl_ja (cy 2) a_o 1 ov2])) → va_S A s.heap H locs → lv_has ls 7 [(4, .int (tl_I (i : Int))), (0, .ref b), (1, .ref a_x), (2, .ref a_m), (3, .ref a_o)] → W p l e R s m args below meth c H locs (cells + (mc + mcm)) (slots + (ms + msm)) Q (F0 m 1227 ls [])) :
    W p l e R s m args below meth c H locs cells slots Q (F0 m 436 ls []) := by
  obtain ⟨rm, rm2, wc, wr, wm, wn, post, px, postm, fs, fs2, q1, q2, q3, q4, hM9, hrm, hM10, ⟨hr1, hr2, hr3, hr4⟩, hpo, hpx, hpk⟩ := hok
  refine lv_aload_n hx hb dL_law_436 rfl (lv_at hl 2 rfl) ?_
  refine lv_aload_n hx hb dL_law_437 rfl (lv_at hl 1 rfl) ?_
  refine lv_iload hx hb dL_law_438 (lv_at hl 0 rfl) ?_
  refine lv_iconst (v := tl_I (1 : Int)) hx hb dL_law_440 rfl ?_
  refine tr_iadd hx hb dL_law_441 ?_
  refine ts_sld (j := i + 1) hx hb hX hbl hbA hS (by omega) (by omega) hL dL_law_442 ?_
  refine lv_aload_n hx hb dL_law_443 rfl (lv_at hl 4 rfl) ?_
  refine tl_callYA (wc := tl_ja (cy 2) a_o 1 ov :: wc) (wr := wr ++ MW) (As := [.ref a_x, .int (tl_I ((xs (i + 1)).toInt)), .ref a_o]) (rest := []) ⟨hx, hb, hml, hown, hts⟩ (kt_L_drop l D cy sa a_x a_o ((xs (i + 1)).toInt) ov rm wc fs mc ms post px q3 hM9 hrm (fun v w1 h => (hpo v w1 h).imp (fun r h2 => h2.1)) hpx) (vx_cwSW 3 hts tg_L_drop rfl rfl rfl td_L_drop ⟨by show 8 + 1 ≤ R.frames; omega, by show 8 + (4 + 11) + 200 ≤ R.locals; omega⟩) hE hN hK (hP.perm (pm_1 q1)) (hD.perm (pm_1 q1)) hS hA rfl hl.1 rfl (Nat.le_of_ble_eq_true rfl) dL_law_444 ⟨by omega, by omega⟩ (fun v w1 H locs hp hP hD hS => ?_)
  rcases hp with ⟨r, w2, hpp, rfl, rfl⟩ | ⟨k, w2, hpp, hk, rfl, rfl⟩
  · obtain ⟨r2, er, hsm⟩ := hpo _ _ hpp
    have er : tl_I r = tl_I r2 := by injection er with er; injection er
    refine W.eq (g2 := F0 m 447 ls [.int (tl_I (0 : Int))]) rfl ?_
    refine lv_istore (lv' := [(5, .int (tl_I (0 : Int))), (4, .int (tl_I (i : Int))), (0, .ref b), (1, .ref a_x), (2, .ref a_m), (3, .ref a_o)]) hx hb dL_law_447 hl (by decide) rfl (fun ls hl => ?_)
    refine lv_aload_n hx hb dL_law_449 rfl (lv_at hl 4 rfl) ?_
    refine lv_aload_n hx hb dL_law_450 rfl (lv_at hl 2 rfl) ?_
    refine lv_iload hx hb dL_law_451 (lv_at hl 1 rfl) ?_
    refine lv_iconst (v := tl_I (1 : Int)) hx hb dL_law_453 rfl ?_
    refine tr_iadd hx hb dL_law_454 ?_
    refine ts_sld (j := i + 1) hx hb hX hbl hbA hS (by omega) (by omega) hL dL_law_455 ?_
    refine tl_callVA (wc := wm) (wr := wn ++ (tl_ja (cy 2) a_o 1 (va_up ov 0 ((fun x => x.toInt64) (tl_I r))) :: (w2 ++ wr))) (As := [.int (tl_I ((xs (i + 1)).toInt))]) (rest := []) ⟨hx, hb, hml, hown, hts⟩ hM10 (cwV 1 hts tg_Lm_drop rfl hr1 hr2 td_Lm_drop ⟨by omega, by show 8 + (7 + 11) + rm2.locals ≤ R.locals; omega⟩) hK (hP.perm (pm_2 q2)) (hD.perm (pm_2 q2)) hS hA 11 q4 rfl rfl rfl hl.1 rfl (Nat.le_of_ble_eq_true rfl) dL_law_456 ⟨by omega, by omega⟩ (fun v w3 H locs hp hP hD hS => ?_)
    obtain ⟨rfl, hsm⟩ := hsm _ _ hp
    rw [← List.append_assoc] at hP hD
    obtain ⟨fs3, rr, q5, hM3⟩ := hth _ _ _ hsm
    refine W.eq (g2 := F0 m 459 ls [.int (tl_I r2)]) rfl ?_
    refine lv_istore (lv' := [(6, .int (tl_I r2)), (5, .int (tl_I (0 : Int))), (4, .int (tl_I (i : Int))), (0, .ref b), (1, .ref a_x), (2, .ref a_m), (3, .ref a_o)]) hx hb dL_law_459 hl (by decide) rfl (fun ls hl => ?_)
    refine lv_aload_n hx hb dL_law_461 rfl (lv_at hl 5 rfl) ?_
    refine tl_callVA (wc := [tl_ob a_m 11 fs3]) (wr := rr ++ (tl_ja (cy 2) a_o 1 (va_up ov 0 ((fun x => x.toInt64) (tl_I r))) :: (w2 ++ wr))) (As := []) (rest := []) ⟨hx, hb, hml, hown, hts⟩ hM3 (cwV 0 hts tg_Lm_thrown rfl rfl rfl td_Lm_thrown ⟨by show 0 + 1 ≤ R.frames; omega, by show 8 + (1 + 11) + 0 ≤ R.locals; omega⟩) hK (hP.perm (pm_3 q5)) (hD.perm (pm_3 q5)) hS hA 11 rfl rfl rfl rfl hl.1 rfl (Nat.le_of_ble_eq_true rfl) dL_law_462 ⟨by omega, by omega⟩ (fun v w4 H locs hp hP hD hS => ?_)
    obtain ⟨rfl, rfl⟩ := hp
    have hP := (hP.perm (pm_3 q5).symm).perm pm_4
    have hD := (hD.perm (pm_3 q5).symm).perm pm_4
    refine W.widen (k := cells + (mc + mcm)) (n := slots + (ms + msm)) (by omega) (by omega) ?_
    refine W.eq (g2 := F0 m 465 ls [.int (tl_I (0 : Int))]) rfl ?_
    refine lv_iload hx hb dL_law_465 (lv_at hl 1 rfl) ?_
    refine lv_icmp_eq (tgt := 472) hx hb dL_law_467 (by decide) (fun _ => ?_) (fun h => absurd rfl h)
    refine lv_iload hx hb dL_law_472 (lv_at hl 1 rfl) ?_
    refine lv_if_ne (tgt := 489) hx hb dL_law_474 (by decide) (fun h => absurd rfl h) (fun _ => ?_)
    refine lv_aload_n hx hb dL_law_477 rfl (lv_at hl 6 rfl) ?_
    refine lv_iconst (v := tl_I (0 : Int)) hx hb dL_law_478 rfl ?_
    refine ts_lald hx hb ⟨by omega, by omega⟩ hK hP 0 2 rfl rfl (by decide) dL_law_479 ?_
    rw [show (0 : Int).toNat = 0 from rfl, va_up_self, er]
    refine lv_iload hx hb dL_law_480 (lv_at hl 0 rfl) ?_
    refine lv_i2l (v := (tl_I r2).toInt64) hx hb dL_law_482 rfl ?_
    refine W.lcmp hx hb dL_law_483 ?_
    rw [lw_cmp0]
    refine lv_if_eq (tgt := 489) hx hb dL_law_484 (by decide) (fun _ => ?_) (fun h => absurd rfl h)
    refine lv_goto (tgt := 1227) hx hb dL_law_489 (by decide) ?_
    exact kk _ _ _ (va_up ov 0 ((fun x => x.toInt64) (tl_I r))) _ _ _ hsm (hP.perm pm_5) (hD.perm pm_5) hS (lv_less hl (fun q hq => List.mem_cons_of_mem _ (List.mem_cons_of_mem _ hq)))
  · have hsm := hpk k w2 hpp hk
    refine W.eq (g2 := F0 m 447 ls [.int (tl_I (lf_drop k))]) rfl ?_
    refine lv_istore (lv' := [(5, .int (tl_I (lf_drop k))), (4, .int (tl_I (i : Int))), (0, .ref b), (1, .ref a_x), (2, .ref a_m), (3, .ref a_o)]) hx hb dL_law_447 hl (by decide) rfl (fun ls hl => ?_)
    refine lv_aload_n hx hb dL_law_449 rfl (lv_at hl 4 rfl) ?_
    refine lv_aload_n hx hb dL_law_450 rfl (lv_at hl 2 rfl) ?_
    refine lv_iload hx hb dL_law_451 (lv_at hl 1 rfl) ?_
    refine lv_iconst (v := tl_I (1 : Int)) hx hb dL_law_453 rfl ?_
    refine tr_iadd hx hb dL_law_454 ?_
    refine ts_sld (j := i + 1) hx hb hX hbl hbA hS (by omega) (by omega) hL dL_law_455 ?_
    refine tl_callVA (wc := wm) (wr := wn ++ (tl_ja (cy 2) a_o 1 ov :: (w2 ++ wr))) (As := [.int (tl_I ((xs (i + 1)).toInt))]) (rest := []) ⟨hx, hb, hml, hown, hts⟩ hM10 (cwV 1 hts tg_Lm_drop rfl hr1 hr2 td_Lm_drop ⟨by omega, by show 8 + (7 + 11) + rm2.locals ≤ R.locals; omega⟩) hK (hP.perm (pm_2 q2)) (hD.perm (pm_2 q2)) hS hA 11 q4 rfl rfl rfl hl.1 rfl (Nat.le_of_ble_eq_true rfl) dL_law_456 ⟨by omega, by omega⟩ (fun v w3 H locs hp hP hD hS => ?_)
    obtain ⟨r2, rfl, hsm⟩ := hsm _ _ hp
    rw [← List.append_assoc] at hP hD
    obtain ⟨fs3, rr, q5, hM3⟩ := hth _ _ _ hsm
    refine W.eq (g2 := F0 m 459 ls [.int (tl_I r2)]) rfl ?_
    refine lv_istore (lv' := [(6, .int (tl_I r2)), (5, .int (tl_I (lf_drop k))), (4, .int (tl_I (i : Int))), (0, .ref b), (1, .ref a_x), (2, .ref a_m), (3, .ref a_o)]) hx hb dL_law_459 hl (by decide) rfl (fun ls hl => ?_)
    refine lv_aload_n hx hb dL_law_461 rfl (lv_at hl 5 rfl) ?_
    refine tl_callVA (wc := [tl_ob a_m 11 fs3]) (wr := rr ++ (tl_ja (cy 2) a_o 1 ov :: (w2 ++ wr))) (As := []) (rest := []) ⟨hx, hb, hml, hown, hts⟩ hM3 (cwV 0 hts tg_Lm_thrown rfl rfl rfl td_Lm_thrown ⟨by show 0 + 1 ≤ R.frames; omega, by show 8 + (1 + 11) + 0 ≤ R.locals; omega⟩) hK (hP.perm (pm_3 q5)) (hD.perm (pm_3 q5)) hS hA 11 rfl rfl rfl rfl hl.1 rfl (Nat.le_of_ble_eq_true rfl) dL_law_462 ⟨by omega, by omega⟩ (fun v w4 H locs hp hP hD hS => ?_)
    obtain ⟨rfl, rfl⟩ := hp
    have hP := (hP.perm (pm_3 q5).symm).perm pm_4
    have hD := (hD.perm (pm_3 q5).symm).perm pm_4
    refine W.widen (k := cells + (mc + mcm)) (n := slots + (ms + msm)) (by omega) (by omega) ?_
    refine W.eq (g2 := F0 m 465 ls [.int (tl_I (lf_drop k))]) rfl ?_
    refine lv_iload hx hb dL_law_465 (lv_at hl 1 rfl) ?_
    refine lv_icmp_eq (tgt := 472) hx hb dL_law_467 (by decide) (fun _ => ?_) (fun h => absurd rfl h)
    refine lv_iload hx hb dL_law_472 (lv_at hl 1 rfl) ?_
    refine lv_if_ne (tgt := 489) hx hb dL_law_474 (by decide) (fun _ => ?_) (fun h => absurd ((tl_eq (lf_drop_6 hk).1 tl_R0).mp h) (lf_drop_6 hk).2)
    refine lv_goto (tgt := 1227) hx hb dL_law_489 (by decide) ?_
    exact kk _ _ _ ov _ _ _ hsm (hP.perm pm_5) (hD.perm pm_5) hS (lv_less hl (fun q hq => List.mem_cons_of_mem _ (List.mem_cons_of_mem _ hq)))
set_option maxHeartbeats 4000000 in
set_option maxRecDepth 20000 in
theorem lc_copy (hx : p.tables.exec = Jvm.exec) (hb : c.code = cL_law) (hml : c.maxLocals = 7) (hown : s.vm.findClass RL = some m.cls) (hts : ∀ w ∈ tl_T, w.before args s = true) (hX : va_X b L xs s s.heap) (hbl : b < s.heap.size) (hbA : ¬ A b) (hA : ∀ q, s.heap.size ≤ q → A q) (hL : L ≤ 2560) (hE : tl_E sa A s s.heap) (hN : tl_NC s) (hK : va_K D vwCl (tl_tys cy) s) (hR : 11 ≤ R.frames ∧ 410 ≤ R.locals) (hi : i + 5 ≤ L)
    {CW MW : va_W} {ov : Nat → Int64} {mc ms mcm msm cells slots : Nat} (hok : lw_OK l D cy sa yX9_copy cX9_copy 3 .int yX10_copy cX10_copy 7 .int a_x a_m [.int (tl_I ((xs (i + 1)).toInt))] lf_drop SM mc ms mcm msm CW MW) (hth : lw_TH l D cy a_m SM) (hf : cells + (mc + mcm) ≤ R.cells ∧ slots + (ms + msm) ≤ R.slots)
    {H : Heap} {locs : List Loc} {ls : Array Slot} (hP : va_P D vwCl (CW ++ (MW ++ [tl_ja (cy 2) a_o 1 ov])) H) (hD : va_D A (CW ++ (MW ++ [tl_ja (cy 2) a_o 1 ov]))) (hS : va_S A s.heap H locs) (hl : lv_has ls 7 [(4, .int (tl_I (i : Int))), (0, .ref b), (1, .ref a_x), (2, .ref a_m), (3, .ref a_o)])
    (kk : ∀ (t : Int) (CW2 MW2 : va_W) (ov2 : Nat → Int64) (H : Heap) (locs : List Loc) (ls : Array Slot), SM t CW2 MW2 → va_P D vwCl (CW2 ++ (MW2 ++ [tl_ja (cy 2) a_o 1 ov2])) H → va_D A (CW2 ++ (MW2 ++ [tl_ja (cy 2) a_o 1 ov2])) → va_S A s.heap H locs → lv_has ls 7 [(4, .int (tl_I (i : Int))), (0, .ref b), (1, .ref a_x), (2, .ref a_m), (3, .ref a_o)] → W p l e R s m args below meth c H locs (cells + (mc + mcm)) (slots + (ms + msm)) Q (F0 m 1227 ls [])) :
    W p l e R s m args below meth c H locs cells slots Q (F0 m 492 ls []) := by
  obtain ⟨rm, rm2, wc, wr, wm, wn, post, px, postm, fs, fs2, q1, q2, q3, q4, hM9, hrm, hM10, ⟨hr1, hr2, hr3, hr4⟩, hpo, hpx, hpk⟩ := hok
  refine lv_aload_n hx hb dL_law_492 rfl (lv_at hl 2 rfl) ?_
  refine lv_aload_n hx hb dL_law_493 rfl (lv_at hl 1 rfl) ?_
  refine lv_iload hx hb dL_law_494 (lv_at hl 0 rfl) ?_
  refine lv_iconst (v := tl_I (1 : Int)) hx hb dL_law_496 rfl ?_
  refine tr_iadd hx hb dL_law_497 ?_
  refine ts_sld (j := i + 1) hx hb hX hbl hbA hS (by omega) (by omega) hL dL_law_498 ?_
  refine lv_aload_n hx hb dL_law_499 rfl (lv_at hl 4 rfl) ?_
  refine tl_callYA (wc := tl_ja (cy 2) a_o 1 ov :: wc) (wr := wr ++ MW) (As := [.ref a_x, .int (tl_I ((xs (i + 1)).toInt)), .ref a_o]) (rest := []) ⟨hx, hb, hml, hown, hts⟩ (kt_L_copy l D cy sa a_x a_o ((xs (i + 1)).toInt) ov rm wc fs mc ms post px q3 hM9 hrm (fun v w1 h => (hpo v w1 h).imp (fun r h2 => h2.1)) hpx) (vx_cwSW 3 hts tg_L_copy rfl rfl rfl td_L_copy ⟨by show 8 + 1 ≤ R.frames; omega, by show 8 + (4 + 11) + 200 ≤ R.locals; omega⟩) hE hN hK (hP.perm (pm_1 q1)) (hD.perm (pm_1 q1)) hS hA rfl hl.1 rfl (Nat.le_of_ble_eq_true rfl) dL_law_500 ⟨by omega, by omega⟩ (fun v w1 H locs hp hP hD hS => ?_)
  rcases hp with ⟨r, w2, hpp, rfl, rfl⟩ | ⟨k, w2, hpp, hk, rfl, rfl⟩
  · obtain ⟨r2, er, hsm⟩ := hpo _ _ hpp
    have er : tl_I r = tl_I r2 := by injection er with er; injection er
    refine W.eq (g2 := F0 m 503 ls [.int (tl_I (0 : Int))]) rfl ?_
    refine lv_istore (lv' := [(5, .int (tl_I (0 : Int))), (4, .int (tl_I (i : Int))), (0, .ref b), (1, .ref a_x), (2, .ref a_m), (3, .ref a_o)]) hx hb dL_law_503 hl (by decide) rfl (fun ls hl => ?_)
    refine lv_aload_n hx hb dL_law_505 rfl (lv_at hl 4 rfl) ?_
    refine lv_aload_n hx hb dL_law_506 rfl (lv_at hl 2 rfl) ?_
    refine lv_iload hx hb dL_law_507 (lv_at hl 1 rfl) ?_
    refine lv_iconst (v := tl_I (1 : Int)) hx hb dL_law_509 rfl ?_
    refine tr_iadd hx hb dL_law_510 ?_
    refine ts_sld (j := i + 1) hx hb hX hbl hbA hS (by omega) (by omega) hL dL_law_511 ?_
    refine tl_callVA (wc := wm) (wr := wn ++ (tl_ja (cy 2) a_o 1 (va_up ov 0 ((fun x => x.toInt64) (tl_I r))) :: (w2 ++ wr))) (As := [.int (tl_I ((xs (i + 1)).toInt))]) (rest := []) ⟨hx, hb, hml, hown, hts⟩ hM10 (cwV 1 hts tg_Lm_copy rfl hr1 hr2 td_Lm_copy ⟨by omega, by show 8 + (7 + 11) + rm2.locals ≤ R.locals; omega⟩) hK (hP.perm (pm_2 q2)) (hD.perm (pm_2 q2)) hS hA 11 q4 rfl rfl rfl hl.1 rfl (Nat.le_of_ble_eq_true rfl) dL_law_512 ⟨by omega, by omega⟩ (fun v w3 H locs hp hP hD hS => ?_)
    obtain ⟨rfl, hsm⟩ := hsm _ _ hp
    rw [← List.append_assoc] at hP hD
    obtain ⟨fs3, rr, q5, hM3⟩ := hth _ _ _ hsm
    refine W.eq (g2 := F0 m 515 ls [.int (tl_I r2)]) rfl ?_
    refine lv_istore (lv' := [(6, .int (tl_I r2)), (5, .int (tl_I (0 : Int))), (4, .int (tl_I (i : Int))), (0, .ref b), (1, .ref a_x), (2, .ref a_m), (3, .ref a_o)]) hx hb dL_law_515 hl (by decide) rfl (fun ls hl => ?_)
    refine lv_aload_n hx hb dL_law_517 rfl (lv_at hl 5 rfl) ?_
    refine tl_callVA (wc := [tl_ob a_m 11 fs3]) (wr := rr ++ (tl_ja (cy 2) a_o 1 (va_up ov 0 ((fun x => x.toInt64) (tl_I r))) :: (w2 ++ wr))) (As := []) (rest := []) ⟨hx, hb, hml, hown, hts⟩ hM3 (cwV 0 hts tg_Lm_thrown rfl rfl rfl td_Lm_thrown ⟨by show 0 + 1 ≤ R.frames; omega, by show 8 + (1 + 11) + 0 ≤ R.locals; omega⟩) hK (hP.perm (pm_3 q5)) (hD.perm (pm_3 q5)) hS hA 11 rfl rfl rfl rfl hl.1 rfl (Nat.le_of_ble_eq_true rfl) dL_law_518 ⟨by omega, by omega⟩ (fun v w4 H locs hp hP hD hS => ?_)
    obtain ⟨rfl, rfl⟩ := hp
    have hP := (hP.perm (pm_3 q5).symm).perm pm_4
    have hD := (hD.perm (pm_3 q5).symm).perm pm_4
    refine W.widen (k := cells + (mc + mcm)) (n := slots + (ms + msm)) (by omega) (by omega) ?_
    refine W.eq (g2 := F0 m 521 ls [.int (tl_I (0 : Int))]) rfl ?_
    refine lv_iload hx hb dL_law_521 (lv_at hl 1 rfl) ?_
    refine lv_icmp_eq (tgt := 528) hx hb dL_law_523 (by decide) (fun _ => ?_) (fun h => absurd rfl h)
    refine lv_iload hx hb dL_law_528 (lv_at hl 1 rfl) ?_
    refine lv_if_ne (tgt := 545) hx hb dL_law_530 (by decide) (fun h => absurd rfl h) (fun _ => ?_)
    refine lv_aload_n hx hb dL_law_533 rfl (lv_at hl 6 rfl) ?_
    refine lv_iconst (v := tl_I (0 : Int)) hx hb dL_law_534 rfl ?_
    refine ts_lald hx hb ⟨by omega, by omega⟩ hK hP 0 2 rfl rfl (by decide) dL_law_535 ?_
    rw [show (0 : Int).toNat = 0 from rfl, va_up_self, er]
    refine lv_iload hx hb dL_law_536 (lv_at hl 0 rfl) ?_
    refine lv_i2l (v := (tl_I r2).toInt64) hx hb dL_law_538 rfl ?_
    refine W.lcmp hx hb dL_law_539 ?_
    rw [lw_cmp0]
    refine lv_if_eq (tgt := 545) hx hb dL_law_540 (by decide) (fun _ => ?_) (fun h => absurd rfl h)
    refine lv_goto (tgt := 1227) hx hb dL_law_545 (by decide) ?_
    exact kk _ _ _ (va_up ov 0 ((fun x => x.toInt64) (tl_I r))) _ _ _ hsm (hP.perm pm_5) (hD.perm pm_5) hS (lv_less hl (fun q hq => List.mem_cons_of_mem _ (List.mem_cons_of_mem _ hq)))
  · have hsm := hpk k w2 hpp hk
    refine W.eq (g2 := F0 m 503 ls [.int (tl_I (lf_drop k))]) rfl ?_
    refine lv_istore (lv' := [(5, .int (tl_I (lf_drop k))), (4, .int (tl_I (i : Int))), (0, .ref b), (1, .ref a_x), (2, .ref a_m), (3, .ref a_o)]) hx hb dL_law_503 hl (by decide) rfl (fun ls hl => ?_)
    refine lv_aload_n hx hb dL_law_505 rfl (lv_at hl 4 rfl) ?_
    refine lv_aload_n hx hb dL_law_506 rfl (lv_at hl 2 rfl) ?_
    refine lv_iload hx hb dL_law_507 (lv_at hl 1 rfl) ?_
    refine lv_iconst (v := tl_I (1 : Int)) hx hb dL_law_509 rfl ?_
    refine tr_iadd hx hb dL_law_510 ?_
    refine ts_sld (j := i + 1) hx hb hX hbl hbA hS (by omega) (by omega) hL dL_law_511 ?_
    refine tl_callVA (wc := wm) (wr := wn ++ (tl_ja (cy 2) a_o 1 ov :: (w2 ++ wr))) (As := [.int (tl_I ((xs (i + 1)).toInt))]) (rest := []) ⟨hx, hb, hml, hown, hts⟩ hM10 (cwV 1 hts tg_Lm_copy rfl hr1 hr2 td_Lm_copy ⟨by omega, by show 8 + (7 + 11) + rm2.locals ≤ R.locals; omega⟩) hK (hP.perm (pm_2 q2)) (hD.perm (pm_2 q2)) hS hA 11 q4 rfl rfl rfl hl.1 rfl (Nat.le_of_ble_eq_true rfl) dL_law_512 ⟨by omega, by omega⟩ (fun v w3 H locs hp hP hD hS => ?_)
    obtain ⟨r2, rfl, hsm⟩ := hsm _ _ hp
    rw [← List.append_assoc] at hP hD
    obtain ⟨fs3, rr, q5, hM3⟩ := hth _ _ _ hsm
    refine W.eq (g2 := F0 m 515 ls [.int (tl_I r2)]) rfl ?_
    refine lv_istore (lv' := [(6, .int (tl_I r2)), (5, .int (tl_I (lf_drop k))), (4, .int (tl_I (i : Int))), (0, .ref b), (1, .ref a_x), (2, .ref a_m), (3, .ref a_o)]) hx hb dL_law_515 hl (by decide) rfl (fun ls hl => ?_)
    refine lv_aload_n hx hb dL_law_517 rfl (lv_at hl 5 rfl) ?_
    refine tl_callVA (wc := [tl_ob a_m 11 fs3]) (wr := rr ++ (tl_ja (cy 2) a_o 1 ov :: (w2 ++ wr))) (As := []) (rest := []) ⟨hx, hb, hml, hown, hts⟩ hM3 (cwV 0 hts tg_Lm_thrown rfl rfl rfl td_Lm_thrown ⟨by show 0 + 1 ≤ R.frames; omega, by show 8 + (1 + 11) + 0 ≤ R.locals; omega⟩) hK (hP.perm (pm_3 q5)) (hD.perm (pm_3 q5)) hS hA 11 rfl rfl rfl rfl hl.1 rfl (Nat.le_of_ble_eq_true rfl) dL_law_518 ⟨by omega, by omega⟩ (fun v w4 H locs hp hP hD hS => ?_)
    obtain ⟨rfl, rfl⟩ := hp
    have hP := (hP.perm (pm_3 q5).symm).perm pm_4
    have hD := (hD.perm (pm_3 q5).symm).perm pm_4
    refine W.widen (k := cells + (mc + mcm)) (n := slots + (ms + msm)) (by omega) (by omega) ?_
    refine W.eq (g2 := F0 m 521 ls [.int (tl_I (lf_drop k))]) rfl ?_
    refine lv_iload hx hb dL_law_521 (lv_at hl 1 rfl) ?_
    refine lv_icmp_eq (tgt := 528) hx hb dL_law_523 (by decide) (fun _ => ?_) (fun h => absurd rfl h)
    refine lv_iload hx hb dL_law_528 (lv_at hl 1 rfl) ?_
    refine lv_if_ne (tgt := 545) hx hb dL_law_530 (by decide) (fun _ => ?_) (fun h => absurd ((tl_eq (lf_drop_6 hk).1 tl_R0).mp h) (lf_drop_6 hk).2)
    refine lv_goto (tgt := 1227) hx hb dL_law_545 (by decide) ?_
    exact kk _ _ _ ov _ _ _ hsm (hP.perm pm_5) (hD.perm pm_5) hS (lv_less hl (fun q hq => List.mem_cons_of_mem _ (List.mem_cons_of_mem _ hq)))
set_option maxHeartbeats 4000000 in
set_option maxRecDepth 20000 in
theorem lc_alike (hx : p.tables.exec = Jvm.exec) (hb : c.code = cL_law) (hml : c.maxLocals = 7) (hown : s.vm.findClass RL = some m.cls) (hts : ∀ w ∈ tl_T, w.before args s = true) (hX : va_X b L xs s s.heap) (hbl : b < s.heap.size) (hbA : ¬ A b) (hA : ∀ q, s.heap.size ≤ q → A q) (hL : L ≤ 2560) (hE : tl_E sa A s s.heap) (hN : tl_NC s) (hK : va_K D vwCl (tl_tys cy) s) (hR : 11 ≤ R.frames ∧ 410 ≤ R.locals) (hi : i + 5 ≤ L)
    {CW MW : va_W} {ov : Nat → Int64} {mc ms mcm msm cells slots : Nat} (hok : lw_OK l D cy sa yX9_alike cX9_alike 5 .boolean yX10_alike cX10_alike 9 .boolean a_x a_m [.int (tl_I ((xs (i + 1)).toInt)), .int (tl_I ((xs (i + 2)).toInt))] lf_way SM mc ms mcm msm CW MW) (hth : lw_TH l D cy a_m SM) (hf : cells + (mc + mcm) ≤ R.cells ∧ slots + (ms + msm) ≤ R.slots)
    {H : Heap} {locs : List Loc} {ls : Array Slot} (hP : va_P D vwCl (CW ++ (MW ++ [tl_ja (cy 2) a_o 1 ov])) H) (hD : va_D A (CW ++ (MW ++ [tl_ja (cy 2) a_o 1 ov]))) (hS : va_S A s.heap H locs) (hl : lv_has ls 7 [(4, .int (tl_I (i : Int))), (0, .ref b), (1, .ref a_x), (2, .ref a_m), (3, .ref a_o)])
    (kk : ∀ (t : Int) (CW2 MW2 : va_W) (ov2 : Nat → Int64) (H : Heap) (locs : List Loc) (ls : Array Slot), SM t CW2 MW2 → va_P D vwCl (CW2 ++ (MW2 ++ [tl_ja (cy 2) a_o 1 ov2])) H → va_D A (CW2 ++ (MW2 ++ [tl_ja (cy 2) a_o 1 ov2])) → va_S A s.heap H locs → lv_has ls 7 [(4, .int (tl_I (i : Int))), (0, .ref b), (1, .ref a_x), (2, .ref a_m), (3, .ref a_o)] → W p l e R s m args below meth c H locs (cells + (mc + mcm)) (slots + (ms + msm)) Q (F0 m 1227 ls [])) :
    W p l e R s m args below meth c H locs cells slots Q (F0 m 548 ls []) := by
  obtain ⟨rm, rm2, wc, wr, wm, wn, post, px, postm, fs, fs2, q1, q2, q3, q4, hM9, hrm, hM10, ⟨hr1, hr2, hr3, hr4⟩, hpo, hpx, hpk⟩ := hok
  refine lv_aload_n hx hb dL_law_548 rfl (lv_at hl 2 rfl) ?_
  refine lv_aload_n hx hb dL_law_549 rfl (lv_at hl 1 rfl) ?_
  refine lv_iload hx hb dL_law_550 (lv_at hl 0 rfl) ?_
  refine lv_iconst (v := tl_I (1 : Int)) hx hb dL_law_552 rfl ?_
  refine tr_iadd hx hb dL_law_553 ?_
  refine ts_sld (j := i + 1) hx hb hX hbl hbA hS (by omega) (by omega) hL dL_law_554 ?_
  refine lv_aload_n hx hb dL_law_555 rfl (lv_at hl 1 rfl) ?_
  refine lv_iload hx hb dL_law_556 (lv_at hl 0 rfl) ?_
  refine lv_iconst (v := tl_I (2 : Int)) hx hb dL_law_558 rfl ?_
  refine tr_iadd hx hb dL_law_559 ?_
  refine ts_sld (j := i + 2) hx hb hX hbl hbA hS (by omega) (by omega) hL dL_law_560 ?_
  refine lv_aload_n hx hb dL_law_561 rfl (lv_at hl 4 rfl) ?_
  refine tl_callYA (wc := tl_ja (cy 2) a_o 1 ov :: wc) (wr := wr ++ MW) (As := [.ref a_x, .int (tl_I ((xs (i + 1)).toInt)), .int (tl_I ((xs (i + 2)).toInt)), .ref a_o]) (rest := []) ⟨hx, hb, hml, hown, hts⟩ (kt_L_alike l D cy sa a_x a_o ((xs (i + 1)).toInt) ((xs (i + 2)).toInt) ov rm wc fs mc ms post px q3 hM9 hrm (fun v w1 h => (hpo v w1 h).imp (fun r h2 => h2.1)) hpx) (vx_cwSW 4 hts tg_L_alike rfl rfl rfl td_L_alike ⟨by show 8 + 1 ≤ R.frames; omega, by show 8 + (5 + 11) + 200 ≤ R.locals; omega⟩) hE hN hK (hP.perm (pm_1 q1)) (hD.perm (pm_1 q1)) hS hA rfl hl.1 rfl (Nat.le_of_ble_eq_true rfl) dL_law_562 ⟨by omega, by omega⟩ (fun v w1 H locs hp hP hD hS => ?_)
  rcases hp with ⟨r, w2, hpp, rfl, rfl⟩ | ⟨k, w2, hpp, hk, rfl, rfl⟩
  · obtain ⟨r2, er, hsm⟩ := hpo _ _ hpp
    have er : tl_I r = tl_I r2 := by injection er with er; injection er
    refine W.eq (g2 := F0 m 565 ls [.int (tl_I (0 : Int))]) rfl ?_
    refine lv_istore (lv' := [(5, .int (tl_I (0 : Int))), (4, .int (tl_I (i : Int))), (0, .ref b), (1, .ref a_x), (2, .ref a_m), (3, .ref a_o)]) hx hb dL_law_565 hl (by decide) rfl (fun ls hl => ?_)
    refine lv_aload_n hx hb dL_law_567 rfl (lv_at hl 4 rfl) ?_
    refine lv_aload_n hx hb dL_law_568 rfl (lv_at hl 2 rfl) ?_
    refine lv_iload hx hb dL_law_569 (lv_at hl 1 rfl) ?_
    refine lv_iconst (v := tl_I (1 : Int)) hx hb dL_law_571 rfl ?_
    refine tr_iadd hx hb dL_law_572 ?_
    refine ts_sld (j := i + 1) hx hb hX hbl hbA hS (by omega) (by omega) hL dL_law_573 ?_
    refine lv_aload_n hx hb dL_law_574 rfl (lv_at hl 2 rfl) ?_
    refine lv_iload hx hb dL_law_575 (lv_at hl 1 rfl) ?_
    refine lv_iconst (v := tl_I (2 : Int)) hx hb dL_law_577 rfl ?_
    refine tr_iadd hx hb dL_law_578 ?_
    refine ts_sld (j := i + 2) hx hb hX hbl hbA hS (by omega) (by omega) hL dL_law_579 ?_
    refine tl_callVA (wc := wm) (wr := wn ++ (tl_ja (cy 2) a_o 1 (va_up ov 0 ((fun x => if x = 0 then 0 else 1) (tl_I r))) :: (w2 ++ wr))) (As := [.int (tl_I ((xs (i + 1)).toInt)), .int (tl_I ((xs (i + 2)).toInt))]) (rest := []) ⟨hx, hb, hml, hown, hts⟩ hM10 (cwV 2 hts tg_Lm_alike rfl hr1 hr2 td_Lm_alike ⟨by omega, by show 8 + (9 + 11) + rm2.locals ≤ R.locals; omega⟩) hK (hP.perm (pm_2 q2)) (hD.perm (pm_2 q2)) hS hA 11 q4 rfl rfl rfl hl.1 rfl (Nat.le_of_ble_eq_true rfl) dL_law_580 ⟨by omega, by omega⟩ (fun v w3 H locs hp hP hD hS => ?_)
    obtain ⟨rfl, hsm⟩ := hsm _ _ hp
    rw [← List.append_assoc] at hP hD
    obtain ⟨fs3, rr, q5, hM3⟩ := hth _ _ _ hsm
    refine W.eq (g2 := F0 m 583 ls [.int (tl_I r2)]) rfl ?_
    refine lv_istore (lv' := [(6, .int (tl_I r2)), (5, .int (tl_I (0 : Int))), (4, .int (tl_I (i : Int))), (0, .ref b), (1, .ref a_x), (2, .ref a_m), (3, .ref a_o)]) hx hb dL_law_583 hl (by decide) rfl (fun ls hl => ?_)
    refine lv_aload_n hx hb dL_law_585 rfl (lv_at hl 5 rfl) ?_
    refine tl_callVA (wc := [tl_ob a_m 11 fs3]) (wr := rr ++ (tl_ja (cy 2) a_o 1 (va_up ov 0 ((fun x => if x = 0 then 0 else 1) (tl_I r))) :: (w2 ++ wr))) (As := []) (rest := []) ⟨hx, hb, hml, hown, hts⟩ hM3 (cwV 0 hts tg_Lm_thrown rfl rfl rfl td_Lm_thrown ⟨by show 0 + 1 ≤ R.frames; omega, by show 8 + (1 + 11) + 0 ≤ R.locals; omega⟩) hK (hP.perm (pm_3 q5)) (hD.perm (pm_3 q5)) hS hA 11 rfl rfl rfl rfl hl.1 rfl (Nat.le_of_ble_eq_true rfl) dL_law_586 ⟨by omega, by omega⟩ (fun v w4 H locs hp hP hD hS => ?_)
    obtain ⟨rfl, rfl⟩ := hp
    have hP := (hP.perm (pm_3 q5).symm).perm pm_4
    have hD := (hD.perm (pm_3 q5).symm).perm pm_4
    refine W.widen (k := cells + (mc + mcm)) (n := slots + (ms + msm)) (by omega) (by omega) ?_
    refine W.eq (g2 := F0 m 589 ls [.int (tl_I (0 : Int))]) rfl ?_
    refine lv_iload hx hb dL_law_589 (lv_at hl 1 rfl) ?_
    refine lv_icmp_eq (tgt := 596) hx hb dL_law_591 (by decide) (fun _ => ?_) (fun h => absurd rfl h)
    refine lv_iload hx hb dL_law_596 (lv_at hl 1 rfl) ?_
    refine lv_if_ne (tgt := 620) hx hb dL_law_598 (by decide) (fun h => absurd rfl h) (fun _ => ?_)
    refine lv_aload_n hx hb dL_law_601 rfl (lv_at hl 6 rfl) ?_
    refine lv_iconst (v := tl_I (0 : Int)) hx hb dL_law_602 rfl ?_
    refine ts_lald hx hb ⟨by omega, by omega⟩ hK hP 0 2 rfl rfl (by decide) dL_law_603 ?_
    rw [show (0 : Int).toNat = 0 from rfl, va_up_self, er]
    refine lv_iload hx hb dL_law_604 (lv_at hl 0 rfl) ?_
    refine lv_if_eq (tgt := 613) hx hb dL_law_606 (by decide) (fun hz => ?_) (fun hz => ?_)
    · refine lv_lconst (v := 0) hx hb dL_law_613 rfl ?_
      dsimp only
      rw [if_pos hz]
      refine W.lcmp hx hb dL_law_614 ?_
      rw [lw_cmp0]
      refine lv_if_eq (tgt := 620) hx hb dL_law_615 (by decide) (fun _ => ?_) (fun h => absurd rfl h)
      refine lv_goto (tgt := 1227) hx hb dL_law_620 (by decide) ?_
      exact kk _ _ _ (va_up ov 0 ((fun x => if x = 0 then 0 else 1) (tl_I r))) _ _ _ hsm (hP.perm pm_5) (hD.perm pm_5) hS (lv_less hl (fun q hq => List.mem_cons_of_mem _ (List.mem_cons_of_mem _ hq)))
    · refine lv_lconst (v := 1) hx hb dL_law_609 rfl ?_
      refine lv_goto (tgt := 614) hx hb dL_law_610 (by decide) ?_
      dsimp only
      rw [if_neg hz]
      refine W.lcmp hx hb dL_law_614 ?_
      rw [lw_cmp0]
      refine lv_if_eq (tgt := 620) hx hb dL_law_615 (by decide) (fun _ => ?_) (fun h => absurd rfl h)
      refine lv_goto (tgt := 1227) hx hb dL_law_620 (by decide) ?_
      exact kk _ _ _ (va_up ov 0 ((fun x => if x = 0 then 0 else 1) (tl_I r))) _ _ _ hsm (hP.perm pm_5) (hD.perm pm_5) hS (lv_less hl (fun q hq => List.mem_cons_of_mem _ (List.mem_cons_of_mem _ hq)))
  · have hsm := hpk k w2 hpp hk
    refine W.eq (g2 := F0 m 565 ls [.int (tl_I (lf_way k))]) rfl ?_
    refine lv_istore (lv' := [(5, .int (tl_I (lf_way k))), (4, .int (tl_I (i : Int))), (0, .ref b), (1, .ref a_x), (2, .ref a_m), (3, .ref a_o)]) hx hb dL_law_565 hl (by decide) rfl (fun ls hl => ?_)
    refine lv_aload_n hx hb dL_law_567 rfl (lv_at hl 4 rfl) ?_
    refine lv_aload_n hx hb dL_law_568 rfl (lv_at hl 2 rfl) ?_
    refine lv_iload hx hb dL_law_569 (lv_at hl 1 rfl) ?_
    refine lv_iconst (v := tl_I (1 : Int)) hx hb dL_law_571 rfl ?_
    refine tr_iadd hx hb dL_law_572 ?_
    refine ts_sld (j := i + 1) hx hb hX hbl hbA hS (by omega) (by omega) hL dL_law_573 ?_
    refine lv_aload_n hx hb dL_law_574 rfl (lv_at hl 2 rfl) ?_
    refine lv_iload hx hb dL_law_575 (lv_at hl 1 rfl) ?_
    refine lv_iconst (v := tl_I (2 : Int)) hx hb dL_law_577 rfl ?_
    refine tr_iadd hx hb dL_law_578 ?_
    refine ts_sld (j := i + 2) hx hb hX hbl hbA hS (by omega) (by omega) hL dL_law_579 ?_
    refine tl_callVA (wc := wm) (wr := wn ++ (tl_ja (cy 2) a_o 1 ov :: (w2 ++ wr))) (As := [.int (tl_I ((xs (i + 1)).toInt)), .int (tl_I ((xs (i + 2)).toInt))]) (rest := []) ⟨hx, hb, hml, hown, hts⟩ hM10 (cwV 2 hts tg_Lm_alike rfl hr1 hr2 td_Lm_alike ⟨by omega, by show 8 + (9 + 11) + rm2.locals ≤ R.locals; omega⟩) hK (hP.perm (pm_2 q2)) (hD.perm (pm_2 q2)) hS hA 11 q4 rfl rfl rfl hl.1 rfl (Nat.le_of_ble_eq_true rfl) dL_law_580 ⟨by omega, by omega⟩ (fun v w3 H locs hp hP hD hS => ?_)
    obtain ⟨r2, rfl, hsm⟩ := hsm _ _ hp
    rw [← List.append_assoc] at hP hD
    obtain ⟨fs3, rr, q5, hM3⟩ := hth _ _ _ hsm
    refine W.eq (g2 := F0 m 583 ls [.int (tl_I r2)]) rfl ?_
    refine lv_istore (lv' := [(6, .int (tl_I r2)), (5, .int (tl_I (lf_way k))), (4, .int (tl_I (i : Int))), (0, .ref b), (1, .ref a_x), (2, .ref a_m), (3, .ref a_o)]) hx hb dL_law_583 hl (by decide) rfl (fun ls hl => ?_)
    refine lv_aload_n hx hb dL_law_585 rfl (lv_at hl 5 rfl) ?_
    refine tl_callVA (wc := [tl_ob a_m 11 fs3]) (wr := rr ++ (tl_ja (cy 2) a_o 1 ov :: (w2 ++ wr))) (As := []) (rest := []) ⟨hx, hb, hml, hown, hts⟩ hM3 (cwV 0 hts tg_Lm_thrown rfl rfl rfl td_Lm_thrown ⟨by show 0 + 1 ≤ R.frames; omega, by show 8 + (1 + 11) + 0 ≤ R.locals; omega⟩) hK (hP.perm (pm_3 q5)) (hD.perm (pm_3 q5)) hS hA 11 rfl rfl rfl rfl hl.1 rfl (Nat.le_of_ble_eq_true rfl) dL_law_586 ⟨by omega, by omega⟩ (fun v w4 H locs hp hP hD hS => ?_)
    obtain ⟨rfl, rfl⟩ := hp
    have hP := (hP.perm (pm_3 q5).symm).perm pm_4
    have hD := (hD.perm (pm_3 q5).symm).perm pm_4
    refine W.widen (k := cells + (mc + mcm)) (n := slots + (ms + msm)) (by omega) (by omega) ?_
    refine W.eq (g2 := F0 m 589 ls [.int (tl_I (lf_way k))]) rfl ?_
    refine lv_iload hx hb dL_law_589 (lv_at hl 1 rfl) ?_
    refine lv_icmp_eq (tgt := 596) hx hb dL_law_591 (by decide) (fun _ => ?_) (fun h => absurd rfl h)
    refine lv_iload hx hb dL_law_596 (lv_at hl 1 rfl) ?_
    refine lv_if_ne (tgt := 620) hx hb dL_law_598 (by decide) (fun _ => ?_) (fun h => absurd ((tl_eq (lf_way_6 hk).1 tl_R0).mp h) (lf_way_6 hk).2)
    refine lv_goto (tgt := 1227) hx hb dL_law_620 (by decide) ?_
    exact kk _ _ _ ov _ _ _ hsm (hP.perm pm_5) (hD.perm pm_5) hS (lv_less hl (fun q hq => List.mem_cons_of_mem _ (List.mem_cons_of_mem _ hq)))
set_option maxHeartbeats 4000000 in
set_option maxRecDepth 20000 in
theorem lc_at (hx : p.tables.exec = Jvm.exec) (hb : c.code = cL_law) (hml : c.maxLocals = 7) (hown : s.vm.findClass RL = some m.cls) (hts : ∀ w ∈ tl_T, w.before args s = true) (hX : va_X b L xs s s.heap) (hbl : b < s.heap.size) (hbA : ¬ A b) (hA : ∀ q, s.heap.size ≤ q → A q) (hL : L ≤ 2560) (hE : tl_E sa A s s.heap) (hN : tl_NC s) (hK : va_K D vwCl (tl_tys cy) s) (hR : 11 ≤ R.frames ∧ 410 ≤ R.locals) (hi : i + 5 ≤ L)
    {CW MW : va_W} {ov : Nat → Int64} {mc ms mcm msm cells slots : Nat} (hok : lw_OK l D cy sa yX9_at cX9_at 5 .int yX10_at cX10_at 5 .int a_x a_m [.int (tl_I ((xs (i + 1)).toInt)), .int (tl_I ((xs (i + 2)).toInt)), .int (tl_I ((xs (i + 3)).toInt))] lf_at SM mc ms mcm msm CW MW) (hth : lw_TH l D cy a_m SM) (hf : cells + (mc + mcm) ≤ R.cells ∧ slots + (ms + msm) ≤ R.slots)
    {H : Heap} {locs : List Loc} {ls : Array Slot} (hP : va_P D vwCl (CW ++ (MW ++ [tl_ja (cy 2) a_o 1 ov])) H) (hD : va_D A (CW ++ (MW ++ [tl_ja (cy 2) a_o 1 ov]))) (hS : va_S A s.heap H locs) (hl : lv_has ls 7 [(4, .int (tl_I (i : Int))), (0, .ref b), (1, .ref a_x), (2, .ref a_m), (3, .ref a_o)])
    (kk : ∀ (t : Int) (CW2 MW2 : va_W) (ov2 : Nat → Int64) (H : Heap) (locs : List Loc) (ls : Array Slot), SM t CW2 MW2 → va_P D vwCl (CW2 ++ (MW2 ++ [tl_ja (cy 2) a_o 1 ov2])) H → va_D A (CW2 ++ (MW2 ++ [tl_ja (cy 2) a_o 1 ov2])) → va_S A s.heap H locs → lv_has ls 7 [(4, .int (tl_I (i : Int))), (0, .ref b), (1, .ref a_x), (2, .ref a_m), (3, .ref a_o)] → W p l e R s m args below meth c H locs (cells + (mc + mcm)) (slots + (ms + msm)) Q (F0 m 1227 ls [])) :
    W p l e R s m args below meth c H locs cells slots Q (F0 m 623 ls []) := by
  obtain ⟨rm, rm2, wc, wr, wm, wn, post, px, postm, fs, fs2, q1, q2, q3, q4, hM9, hrm, hM10, ⟨hr1, hr2, hr3, hr4⟩, hpo, hpx, hpk⟩ := hok
  refine lv_aload_n hx hb dL_law_623 rfl (lv_at hl 2 rfl) ?_
  refine lv_aload_n hx hb dL_law_624 rfl (lv_at hl 1 rfl) ?_
  refine lv_iload hx hb dL_law_625 (lv_at hl 0 rfl) ?_
  refine lv_iconst (v := tl_I (1 : Int)) hx hb dL_law_627 rfl ?_
  refine tr_iadd hx hb dL_law_628 ?_
  refine ts_sld (j := i + 1) hx hb hX hbl hbA hS (by omega) (by omega) hL dL_law_629 ?_
  refine lv_aload_n hx hb dL_law_630 rfl (lv_at hl 1 rfl) ?_
  refine lv_iload hx hb dL_law_631 (lv_at hl 0 rfl) ?_
  refine lv_iconst (v := tl_I (2 : Int)) hx hb dL_law_633 rfl ?_
  refine tr_iadd hx hb dL_law_634 ?_
  refine ts_sld (j := i + 2) hx hb hX hbl hbA hS (by omega) (by omega) hL dL_law_635 ?_
  refine lv_aload_n hx hb dL_law_636 rfl (lv_at hl 1 rfl) ?_
  refine lv_iload hx hb dL_law_637 (lv_at hl 0 rfl) ?_
  refine lv_iconst (v := tl_I (3 : Int)) hx hb dL_law_639 rfl ?_
  refine tr_iadd hx hb dL_law_640 ?_
  refine ts_sld (j := i + 3) hx hb hX hbl hbA hS (by omega) (by omega) hL dL_law_641 ?_
  refine lv_aload_n hx hb dL_law_642 rfl (lv_at hl 4 rfl) ?_
  refine tl_callYA (wc := tl_ja (cy 2) a_o 1 ov :: wc) (wr := wr ++ MW) (As := [.ref a_x, .int (tl_I ((xs (i + 1)).toInt)), .int (tl_I ((xs (i + 2)).toInt)), .int (tl_I ((xs (i + 3)).toInt)), .ref a_o]) (rest := []) ⟨hx, hb, hml, hown, hts⟩ (kt_L_at l D cy sa a_x a_o ((xs (i + 1)).toInt) ((xs (i + 2)).toInt) ((xs (i + 3)).toInt) ov rm wc fs mc ms post px q3 hM9 hrm (fun v w1 h => (hpo v w1 h).imp (fun r h2 => h2.1)) hpx) (vx_cwSW 5 hts tg_L_at rfl rfl rfl td_L_at ⟨by show 8 + 1 ≤ R.frames; omega, by show 8 + (6 + 11) + 200 ≤ R.locals; omega⟩) hE hN hK (hP.perm (pm_1 q1)) (hD.perm (pm_1 q1)) hS hA rfl hl.1 rfl (Nat.le_of_ble_eq_true rfl) dL_law_643 ⟨by omega, by omega⟩ (fun v w1 H locs hp hP hD hS => ?_)
  rcases hp with ⟨r, w2, hpp, rfl, rfl⟩ | ⟨k, w2, hpp, hk, rfl, rfl⟩
  · obtain ⟨r2, er, hsm⟩ := hpo _ _ hpp
    have er : tl_I r = tl_I r2 := by injection er with er; injection er
    refine W.eq (g2 := F0 m 646 ls [.int (tl_I (0 : Int))]) rfl ?_
    refine lv_istore (lv' := [(5, .int (tl_I (0 : Int))), (4, .int (tl_I (i : Int))), (0, .ref b), (1, .ref a_x), (2, .ref a_m), (3, .ref a_o)]) hx hb dL_law_646 hl (by decide) rfl (fun ls hl => ?_)
    refine lv_aload_n hx hb dL_law_648 rfl (lv_at hl 4 rfl) ?_
    refine lv_aload_n hx hb dL_law_649 rfl (lv_at hl 2 rfl) ?_
    refine lv_iload hx hb dL_law_650 (lv_at hl 1 rfl) ?_
    refine lv_iconst (v := tl_I (1 : Int)) hx hb dL_law_652 rfl ?_
    refine tr_iadd hx hb dL_law_653 ?_
    refine ts_sld (j := i + 1) hx hb hX hbl hbA hS (by omega) (by omega) hL dL_law_654 ?_
    refine lv_aload_n hx hb dL_law_655 rfl (lv_at hl 2 rfl) ?_
    refine lv_iload hx hb dL_law_656 (lv_at hl 1 rfl) ?_
    refine lv_iconst (v := tl_I (2 : Int)) hx hb dL_law_658 rfl ?_
    refine tr_iadd hx hb dL_law_659 ?_
    refine ts_sld (j := i + 2) hx hb hX hbl hbA hS (by omega) (by omega) hL dL_law_660 ?_
    refine lv_aload_n hx hb dL_law_661 rfl (lv_at hl 2 rfl) ?_
    refine lv_iload hx hb dL_law_662 (lv_at hl 1 rfl) ?_
    refine lv_iconst (v := tl_I (3 : Int)) hx hb dL_law_664 rfl ?_
    refine tr_iadd hx hb dL_law_665 ?_
    refine ts_sld (j := i + 3) hx hb hX hbl hbA hS (by omega) (by omega) hL dL_law_666 ?_
    refine tl_callVA (wc := wm) (wr := wn ++ (tl_ja (cy 2) a_o 1 (va_up ov 0 ((fun x => x.toInt64) (tl_I r))) :: (w2 ++ wr))) (As := [.int (tl_I ((xs (i + 1)).toInt)), .int (tl_I ((xs (i + 2)).toInt)), .int (tl_I ((xs (i + 3)).toInt))]) (rest := []) ⟨hx, hb, hml, hown, hts⟩ hM10 (cwV 3 hts tg_Lm_at rfl hr1 hr2 td_Lm_at ⟨by omega, by show 8 + (5 + 11) + rm2.locals ≤ R.locals; omega⟩) hK (hP.perm (pm_2 q2)) (hD.perm (pm_2 q2)) hS hA 11 q4 rfl rfl rfl hl.1 rfl (Nat.le_of_ble_eq_true rfl) dL_law_667 ⟨by omega, by omega⟩ (fun v w3 H locs hp hP hD hS => ?_)
    obtain ⟨rfl, hsm⟩ := hsm _ _ hp
    rw [← List.append_assoc] at hP hD
    obtain ⟨fs3, rr, q5, hM3⟩ := hth _ _ _ hsm
    refine W.eq (g2 := F0 m 670 ls [.int (tl_I r2)]) rfl ?_
    refine lv_istore (lv' := [(6, .int (tl_I r2)), (5, .int (tl_I (0 : Int))), (4, .int (tl_I (i : Int))), (0, .ref b), (1, .ref a_x), (2, .ref a_m), (3, .ref a_o)]) hx hb dL_law_670 hl (by decide) rfl (fun ls hl => ?_)
    refine lv_aload_n hx hb dL_law_672 rfl (lv_at hl 5 rfl) ?_
    refine tl_callVA (wc := [tl_ob a_m 11 fs3]) (wr := rr ++ (tl_ja (cy 2) a_o 1 (va_up ov 0 ((fun x => x.toInt64) (tl_I r))) :: (w2 ++ wr))) (As := []) (rest := []) ⟨hx, hb, hml, hown, hts⟩ hM3 (cwV 0 hts tg_Lm_thrown rfl rfl rfl td_Lm_thrown ⟨by show 0 + 1 ≤ R.frames; omega, by show 8 + (1 + 11) + 0 ≤ R.locals; omega⟩) hK (hP.perm (pm_3 q5)) (hD.perm (pm_3 q5)) hS hA 11 rfl rfl rfl rfl hl.1 rfl (Nat.le_of_ble_eq_true rfl) dL_law_673 ⟨by omega, by omega⟩ (fun v w4 H locs hp hP hD hS => ?_)
    obtain ⟨rfl, rfl⟩ := hp
    have hP := (hP.perm (pm_3 q5).symm).perm pm_4
    have hD := (hD.perm (pm_3 q5).symm).perm pm_4
    refine W.widen (k := cells + (mc + mcm)) (n := slots + (ms + msm)) (by omega) (by omega) ?_
    refine W.eq (g2 := F0 m 676 ls [.int (tl_I (0 : Int))]) rfl ?_
    refine lv_iload hx hb dL_law_676 (lv_at hl 1 rfl) ?_
    refine lv_icmp_eq (tgt := 683) hx hb dL_law_678 (by decide) (fun _ => ?_) (fun h => absurd rfl h)
    refine lv_iload hx hb dL_law_683 (lv_at hl 1 rfl) ?_
    refine lv_if_ne (tgt := 700) hx hb dL_law_685 (by decide) (fun h => absurd rfl h) (fun _ => ?_)
    refine lv_aload_n hx hb dL_law_688 rfl (lv_at hl 6 rfl) ?_
    refine lv_iconst (v := tl_I (0 : Int)) hx hb dL_law_689 rfl ?_
    refine ts_lald hx hb ⟨by omega, by omega⟩ hK hP 0 2 rfl rfl (by decide) dL_law_690 ?_
    rw [show (0 : Int).toNat = 0 from rfl, va_up_self, er]
    refine lv_iload hx hb dL_law_691 (lv_at hl 0 rfl) ?_
    refine lv_i2l (v := (tl_I r2).toInt64) hx hb dL_law_693 rfl ?_
    refine W.lcmp hx hb dL_law_694 ?_
    rw [lw_cmp0]
    refine lv_if_eq (tgt := 700) hx hb dL_law_695 (by decide) (fun _ => ?_) (fun h => absurd rfl h)
    refine lv_goto (tgt := 1227) hx hb dL_law_700 (by decide) ?_
    exact kk _ _ _ (va_up ov 0 ((fun x => x.toInt64) (tl_I r))) _ _ _ hsm (hP.perm pm_5) (hD.perm pm_5) hS (lv_less hl (fun q hq => List.mem_cons_of_mem _ (List.mem_cons_of_mem _ hq)))
  · have hsm := hpk k w2 hpp hk
    refine W.eq (g2 := F0 m 646 ls [.int (tl_I (lf_at k))]) rfl ?_
    refine lv_istore (lv' := [(5, .int (tl_I (lf_at k))), (4, .int (tl_I (i : Int))), (0, .ref b), (1, .ref a_x), (2, .ref a_m), (3, .ref a_o)]) hx hb dL_law_646 hl (by decide) rfl (fun ls hl => ?_)
    refine lv_aload_n hx hb dL_law_648 rfl (lv_at hl 4 rfl) ?_
    refine lv_aload_n hx hb dL_law_649 rfl (lv_at hl 2 rfl) ?_
    refine lv_iload hx hb dL_law_650 (lv_at hl 1 rfl) ?_
    refine lv_iconst (v := tl_I (1 : Int)) hx hb dL_law_652 rfl ?_
    refine tr_iadd hx hb dL_law_653 ?_
    refine ts_sld (j := i + 1) hx hb hX hbl hbA hS (by omega) (by omega) hL dL_law_654 ?_
    refine lv_aload_n hx hb dL_law_655 rfl (lv_at hl 2 rfl) ?_
    refine lv_iload hx hb dL_law_656 (lv_at hl 1 rfl) ?_
    refine lv_iconst (v := tl_I (2 : Int)) hx hb dL_law_658 rfl ?_
    refine tr_iadd hx hb dL_law_659 ?_
    refine ts_sld (j := i + 2) hx hb hX hbl hbA hS (by omega) (by omega) hL dL_law_660 ?_
    refine lv_aload_n hx hb dL_law_661 rfl (lv_at hl 2 rfl) ?_
    refine lv_iload hx hb dL_law_662 (lv_at hl 1 rfl) ?_
    refine lv_iconst (v := tl_I (3 : Int)) hx hb dL_law_664 rfl ?_
    refine tr_iadd hx hb dL_law_665 ?_
    refine ts_sld (j := i + 3) hx hb hX hbl hbA hS (by omega) (by omega) hL dL_law_666 ?_
    refine tl_callVA (wc := wm) (wr := wn ++ (tl_ja (cy 2) a_o 1 ov :: (w2 ++ wr))) (As := [.int (tl_I ((xs (i + 1)).toInt)), .int (tl_I ((xs (i + 2)).toInt)), .int (tl_I ((xs (i + 3)).toInt))]) (rest := []) ⟨hx, hb, hml, hown, hts⟩ hM10 (cwV 3 hts tg_Lm_at rfl hr1 hr2 td_Lm_at ⟨by omega, by show 8 + (5 + 11) + rm2.locals ≤ R.locals; omega⟩) hK (hP.perm (pm_2 q2)) (hD.perm (pm_2 q2)) hS hA 11 q4 rfl rfl rfl hl.1 rfl (Nat.le_of_ble_eq_true rfl) dL_law_667 ⟨by omega, by omega⟩ (fun v w3 H locs hp hP hD hS => ?_)
    obtain ⟨r2, rfl, hsm⟩ := hsm _ _ hp
    rw [← List.append_assoc] at hP hD
    obtain ⟨fs3, rr, q5, hM3⟩ := hth _ _ _ hsm
    refine W.eq (g2 := F0 m 670 ls [.int (tl_I r2)]) rfl ?_
    refine lv_istore (lv' := [(6, .int (tl_I r2)), (5, .int (tl_I (lf_at k))), (4, .int (tl_I (i : Int))), (0, .ref b), (1, .ref a_x), (2, .ref a_m), (3, .ref a_o)]) hx hb dL_law_670 hl (by decide) rfl (fun ls hl => ?_)
    refine lv_aload_n hx hb dL_law_672 rfl (lv_at hl 5 rfl) ?_
    refine tl_callVA (wc := [tl_ob a_m 11 fs3]) (wr := rr ++ (tl_ja (cy 2) a_o 1 ov :: (w2 ++ wr))) (As := []) (rest := []) ⟨hx, hb, hml, hown, hts⟩ hM3 (cwV 0 hts tg_Lm_thrown rfl rfl rfl td_Lm_thrown ⟨by show 0 + 1 ≤ R.frames; omega, by show 8 + (1 + 11) + 0 ≤ R.locals; omega⟩) hK (hP.perm (pm_3 q5)) (hD.perm (pm_3 q5)) hS hA 11 rfl rfl rfl rfl hl.1 rfl (Nat.le_of_ble_eq_true rfl) dL_law_673 ⟨by omega, by omega⟩ (fun v w4 H locs hp hP hD hS => ?_)
    obtain ⟨rfl, rfl⟩ := hp
    have hP := (hP.perm (pm_3 q5).symm).perm pm_4
    have hD := (hD.perm (pm_3 q5).symm).perm pm_4
    refine W.widen (k := cells + (mc + mcm)) (n := slots + (ms + msm)) (by omega) (by omega) ?_
    refine W.eq (g2 := F0 m 676 ls [.int (tl_I (lf_at k))]) rfl ?_
    refine lv_iload hx hb dL_law_676 (lv_at hl 1 rfl) ?_
    refine lv_icmp_eq (tgt := 683) hx hb dL_law_678 (by decide) (fun _ => ?_) (fun h => absurd rfl h)
    refine lv_iload hx hb dL_law_683 (lv_at hl 1 rfl) ?_
    refine lv_if_ne (tgt := 700) hx hb dL_law_685 (by decide) (fun _ => ?_) (fun h => absurd ((tl_eq (lf_at_6 hk).1 tl_R0).mp h) (lf_at_6 hk).2)
    refine lv_goto (tgt := 1227) hx hb dL_law_700 (by decide) ?_
    exact kk _ _ _ ov _ _ _ hsm (hP.perm pm_5) (hD.perm pm_5) hS (lv_less hl (fun q hq => List.mem_cons_of_mem _ (List.mem_cons_of_mem _ hq)))
set_option maxHeartbeats 4000000 in
set_option maxRecDepth 20000 in
theorem lc_back (hx : p.tables.exec = Jvm.exec) (hb : c.code = cL_law) (hml : c.maxLocals = 7) (hown : s.vm.findClass RL = some m.cls) (hts : ∀ w ∈ tl_T, w.before args s = true) (hX : va_X b L xs s s.heap) (hbl : b < s.heap.size) (hbA : ¬ A b) (hA : ∀ q, s.heap.size ≤ q → A q) (hL : L ≤ 2560) (hE : tl_E sa A s s.heap) (hN : tl_NC s) (hK : va_K D vwCl (tl_tys cy) s) (hR : 11 ≤ R.frames ∧ 410 ≤ R.locals) (hi : i + 5 ≤ L)
    {CW MW : va_W} {ov : Nat → Int64} {mc ms mcm msm cells slots : Nat} (hok : lw_OK l D cy sa yX9_back cX9_back 5 .int yX10_back cX10_back 5 .int a_x a_m [.int (tl_I ((xs (i + 1)).toInt)), .int (tl_I ((xs (i + 2)).toInt)), .int (tl_I ((xs (i + 3)).toInt))] lf_at SM mc ms mcm msm CW MW) (hth : lw_TH l D cy a_m SM) (hf : cells + (mc + mcm) ≤ R.cells ∧ slots + (ms + msm) ≤ R.slots)
    {H : Heap} {locs : List Loc} {ls : Array Slot} (hP : va_P D vwCl (CW ++ (MW ++ [tl_ja (cy 2) a_o 1 ov])) H) (hD : va_D A (CW ++ (MW ++ [tl_ja (cy 2) a_o 1 ov]))) (hS : va_S A s.heap H locs) (hl : lv_has ls 7 [(4, .int (tl_I (i : Int))), (0, .ref b), (1, .ref a_x), (2, .ref a_m), (3, .ref a_o)])
    (kk : ∀ (t : Int) (CW2 MW2 : va_W) (ov2 : Nat → Int64) (H : Heap) (locs : List Loc) (ls : Array Slot), SM t CW2 MW2 → va_P D vwCl (CW2 ++ (MW2 ++ [tl_ja (cy 2) a_o 1 ov2])) H → va_D A (CW2 ++ (MW2 ++ [tl_ja (cy 2) a_o 1 ov2])) → va_S A s.heap H locs → lv_has ls 7 [(4, .int (tl_I (i : Int))), (0, .ref b), (1, .ref a_x), (2, .ref a_m), (3, .ref a_o)] → W p l e R s m args below meth c H locs (cells + (mc + mcm)) (slots + (ms + msm)) Q (F0 m 1227 ls [])) :
    W p l e R s m args below meth c H locs cells slots Q (F0 m 703 ls []) := by
  obtain ⟨rm, rm2, wc, wr, wm, wn, post, px, postm, fs, fs2, q1, q2, q3, q4, hM9, hrm, hM10, ⟨hr1, hr2, hr3, hr4⟩, hpo, hpx, hpk⟩ := hok
  refine lv_aload_n hx hb dL_law_703 rfl (lv_at hl 2 rfl) ?_
  refine lv_aload_n hx hb dL_law_704 rfl (lv_at hl 1 rfl) ?_
  refine lv_iload hx hb dL_law_705 (lv_at hl 0 rfl) ?_
  refine lv_iconst (v := tl_I (1 : Int)) hx hb dL_law_707 rfl ?_
  refine tr_iadd hx hb dL_law_708 ?_
  refine ts_sld (j := i + 1) hx hb hX hbl hbA hS (by omega) (by omega) hL dL_law_709 ?_
  refine lv_aload_n hx hb dL_law_710 rfl (lv_at hl 1 rfl) ?_
  refine lv_iload hx hb dL_law_711 (lv_at hl 0 rfl) ?_
  refine lv_iconst (v := tl_I (2 : Int)) hx hb dL_law_713 rfl ?_
  refine tr_iadd hx hb dL_law_714 ?_
  refine ts_sld (j := i + 2) hx hb hX hbl hbA hS (by omega) (by omega) hL dL_law_715 ?_
  refine lv_aload_n hx hb dL_law_716 rfl (lv_at hl 1 rfl) ?_
  refine lv_iload hx hb dL_law_717 (lv_at hl 0 rfl) ?_
  refine lv_iconst (v := tl_I (3 : Int)) hx hb dL_law_719 rfl ?_
  refine tr_iadd hx hb dL_law_720 ?_
  refine ts_sld (j := i + 3) hx hb hX hbl hbA hS (by omega) (by omega) hL dL_law_721 ?_
  refine lv_aload_n hx hb dL_law_722 rfl (lv_at hl 4 rfl) ?_
  refine tl_callYA (wc := tl_ja (cy 2) a_o 1 ov :: wc) (wr := wr ++ MW) (As := [.ref a_x, .int (tl_I ((xs (i + 1)).toInt)), .int (tl_I ((xs (i + 2)).toInt)), .int (tl_I ((xs (i + 3)).toInt)), .ref a_o]) (rest := []) ⟨hx, hb, hml, hown, hts⟩ (kt_L_back l D cy sa a_x a_o ((xs (i + 1)).toInt) ((xs (i + 2)).toInt) ((xs (i + 3)).toInt) ov rm wc fs mc ms post px q3 hM9 hrm (fun v w1 h => (hpo v w1 h).imp (fun r h2 => h2.1)) hpx) (vx_cwSW 5 hts tg_L_back rfl rfl rfl td_L_back ⟨by show 8 + 1 ≤ R.frames; omega, by show 8 + (6 + 11) + 200 ≤ R.locals; omega⟩) hE hN hK (hP.perm (pm_1 q1)) (hD.perm (pm_1 q1)) hS hA rfl hl.1 rfl (Nat.le_of_ble_eq_true rfl) dL_law_723 ⟨by omega, by omega⟩ (fun v w1 H locs hp hP hD hS => ?_)
  rcases hp with ⟨r, w2, hpp, rfl, rfl⟩ | ⟨k, w2, hpp, hk, rfl, rfl⟩
  · obtain ⟨r2, er, hsm⟩ := hpo _ _ hpp
    have er : tl_I r = tl_I r2 := by injection er with er; injection er
    refine W.eq (g2 := F0 m 726 ls [.int (tl_I (0 : Int))]) rfl ?_
    refine lv_istore (lv' := [(5, .int (tl_I (0 : Int))), (4, .int (tl_I (i : Int))), (0, .ref b), (1, .ref a_x), (2, .ref a_m), (3, .ref a_o)]) hx hb dL_law_726 hl (by decide) rfl (fun ls hl => ?_)
    refine lv_aload_n hx hb dL_law_728 rfl (lv_at hl 4 rfl) ?_
    refine lv_aload_n hx hb dL_law_729 rfl (lv_at hl 2 rfl) ?_
    refine lv_iload hx hb dL_law_730 (lv_at hl 1 rfl) ?_
    refine lv_iconst (v := tl_I (1 : Int)) hx hb dL_law_732 rfl ?_
    refine tr_iadd hx hb dL_law_733 ?_
    refine ts_sld (j := i + 1) hx hb hX hbl hbA hS (by omega) (by omega) hL dL_law_734 ?_
    refine lv_aload_n hx hb dL_law_735 rfl (lv_at hl 2 rfl) ?_
    refine lv_iload hx hb dL_law_736 (lv_at hl 1 rfl) ?_
    refine lv_iconst (v := tl_I (2 : Int)) hx hb dL_law_738 rfl ?_
    refine tr_iadd hx hb dL_law_739 ?_
    refine ts_sld (j := i + 2) hx hb hX hbl hbA hS (by omega) (by omega) hL dL_law_740 ?_
    refine lv_aload_n hx hb dL_law_741 rfl (lv_at hl 2 rfl) ?_
    refine lv_iload hx hb dL_law_742 (lv_at hl 1 rfl) ?_
    refine lv_iconst (v := tl_I (3 : Int)) hx hb dL_law_744 rfl ?_
    refine tr_iadd hx hb dL_law_745 ?_
    refine ts_sld (j := i + 3) hx hb hX hbl hbA hS (by omega) (by omega) hL dL_law_746 ?_
    refine tl_callVA (wc := wm) (wr := wn ++ (tl_ja (cy 2) a_o 1 (va_up ov 0 ((fun x => x.toInt64) (tl_I r))) :: (w2 ++ wr))) (As := [.int (tl_I ((xs (i + 1)).toInt)), .int (tl_I ((xs (i + 2)).toInt)), .int (tl_I ((xs (i + 3)).toInt))]) (rest := []) ⟨hx, hb, hml, hown, hts⟩ hM10 (cwV 3 hts tg_Lm_back rfl hr1 hr2 td_Lm_back ⟨by omega, by show 8 + (5 + 11) + rm2.locals ≤ R.locals; omega⟩) hK (hP.perm (pm_2 q2)) (hD.perm (pm_2 q2)) hS hA 11 q4 rfl rfl rfl hl.1 rfl (Nat.le_of_ble_eq_true rfl) dL_law_747 ⟨by omega, by omega⟩ (fun v w3 H locs hp hP hD hS => ?_)
    obtain ⟨rfl, hsm⟩ := hsm _ _ hp
    rw [← List.append_assoc] at hP hD
    obtain ⟨fs3, rr, q5, hM3⟩ := hth _ _ _ hsm
    refine W.eq (g2 := F0 m 750 ls [.int (tl_I r2)]) rfl ?_
    refine lv_istore (lv' := [(6, .int (tl_I r2)), (5, .int (tl_I (0 : Int))), (4, .int (tl_I (i : Int))), (0, .ref b), (1, .ref a_x), (2, .ref a_m), (3, .ref a_o)]) hx hb dL_law_750 hl (by decide) rfl (fun ls hl => ?_)
    refine lv_aload_n hx hb dL_law_752 rfl (lv_at hl 5 rfl) ?_
    refine tl_callVA (wc := [tl_ob a_m 11 fs3]) (wr := rr ++ (tl_ja (cy 2) a_o 1 (va_up ov 0 ((fun x => x.toInt64) (tl_I r))) :: (w2 ++ wr))) (As := []) (rest := []) ⟨hx, hb, hml, hown, hts⟩ hM3 (cwV 0 hts tg_Lm_thrown rfl rfl rfl td_Lm_thrown ⟨by show 0 + 1 ≤ R.frames; omega, by show 8 + (1 + 11) + 0 ≤ R.locals; omega⟩) hK (hP.perm (pm_3 q5)) (hD.perm (pm_3 q5)) hS hA 11 rfl rfl rfl rfl hl.1 rfl (Nat.le_of_ble_eq_true rfl) dL_law_753 ⟨by omega, by omega⟩ (fun v w4 H locs hp hP hD hS => ?_)
    obtain ⟨rfl, rfl⟩ := hp
    have hP := (hP.perm (pm_3 q5).symm).perm pm_4
    have hD := (hD.perm (pm_3 q5).symm).perm pm_4
    refine W.widen (k := cells + (mc + mcm)) (n := slots + (ms + msm)) (by omega) (by omega) ?_
    refine W.eq (g2 := F0 m 756 ls [.int (tl_I (0 : Int))]) rfl ?_
    refine lv_iload hx hb dL_law_756 (lv_at hl 1 rfl) ?_
    refine lv_icmp_eq (tgt := 763) hx hb dL_law_758 (by decide) (fun _ => ?_) (fun h => absurd rfl h)
    refine lv_iload hx hb dL_law_763 (lv_at hl 1 rfl) ?_
    refine lv_if_ne (tgt := 780) hx hb dL_law_765 (by decide) (fun h => absurd rfl h) (fun _ => ?_)
    refine lv_aload_n hx hb dL_law_768 rfl (lv_at hl 6 rfl) ?_
    refine lv_iconst (v := tl_I (0 : Int)) hx hb dL_law_769 rfl ?_
    refine ts_lald hx hb ⟨by omega, by omega⟩ hK hP 0 2 rfl rfl (by decide) dL_law_770 ?_
    rw [show (0 : Int).toNat = 0 from rfl, va_up_self, er]
    refine lv_iload hx hb dL_law_771 (lv_at hl 0 rfl) ?_
    refine lv_i2l (v := (tl_I r2).toInt64) hx hb dL_law_773 rfl ?_
    refine W.lcmp hx hb dL_law_774 ?_
    rw [lw_cmp0]
    refine lv_if_eq (tgt := 780) hx hb dL_law_775 (by decide) (fun _ => ?_) (fun h => absurd rfl h)
    refine lv_goto (tgt := 1227) hx hb dL_law_780 (by decide) ?_
    exact kk _ _ _ (va_up ov 0 ((fun x => x.toInt64) (tl_I r))) _ _ _ hsm (hP.perm pm_5) (hD.perm pm_5) hS (lv_less hl (fun q hq => List.mem_cons_of_mem _ (List.mem_cons_of_mem _ hq)))
  · have hsm := hpk k w2 hpp hk
    refine W.eq (g2 := F0 m 726 ls [.int (tl_I (lf_at k))]) rfl ?_
    refine lv_istore (lv' := [(5, .int (tl_I (lf_at k))), (4, .int (tl_I (i : Int))), (0, .ref b), (1, .ref a_x), (2, .ref a_m), (3, .ref a_o)]) hx hb dL_law_726 hl (by decide) rfl (fun ls hl => ?_)
    refine lv_aload_n hx hb dL_law_728 rfl (lv_at hl 4 rfl) ?_
    refine lv_aload_n hx hb dL_law_729 rfl (lv_at hl 2 rfl) ?_
    refine lv_iload hx hb dL_law_730 (lv_at hl 1 rfl) ?_
    refine lv_iconst (v := tl_I (1 : Int)) hx hb dL_law_732 rfl ?_
    refine tr_iadd hx hb dL_law_733 ?_
    refine ts_sld (j := i + 1) hx hb hX hbl hbA hS (by omega) (by omega) hL dL_law_734 ?_
    refine lv_aload_n hx hb dL_law_735 rfl (lv_at hl 2 rfl) ?_
    refine lv_iload hx hb dL_law_736 (lv_at hl 1 rfl) ?_
    refine lv_iconst (v := tl_I (2 : Int)) hx hb dL_law_738 rfl ?_
    refine tr_iadd hx hb dL_law_739 ?_
    refine ts_sld (j := i + 2) hx hb hX hbl hbA hS (by omega) (by omega) hL dL_law_740 ?_
    refine lv_aload_n hx hb dL_law_741 rfl (lv_at hl 2 rfl) ?_
    refine lv_iload hx hb dL_law_742 (lv_at hl 1 rfl) ?_
    refine lv_iconst (v := tl_I (3 : Int)) hx hb dL_law_744 rfl ?_
    refine tr_iadd hx hb dL_law_745 ?_
    refine ts_sld (j := i + 3) hx hb hX hbl hbA hS (by omega) (by omega) hL dL_law_746 ?_
    refine tl_callVA (wc := wm) (wr := wn ++ (tl_ja (cy 2) a_o 1 ov :: (w2 ++ wr))) (As := [.int (tl_I ((xs (i + 1)).toInt)), .int (tl_I ((xs (i + 2)).toInt)), .int (tl_I ((xs (i + 3)).toInt))]) (rest := []) ⟨hx, hb, hml, hown, hts⟩ hM10 (cwV 3 hts tg_Lm_back rfl hr1 hr2 td_Lm_back ⟨by omega, by show 8 + (5 + 11) + rm2.locals ≤ R.locals; omega⟩) hK (hP.perm (pm_2 q2)) (hD.perm (pm_2 q2)) hS hA 11 q4 rfl rfl rfl hl.1 rfl (Nat.le_of_ble_eq_true rfl) dL_law_747 ⟨by omega, by omega⟩ (fun v w3 H locs hp hP hD hS => ?_)
    obtain ⟨r2, rfl, hsm⟩ := hsm _ _ hp
    rw [← List.append_assoc] at hP hD
    obtain ⟨fs3, rr, q5, hM3⟩ := hth _ _ _ hsm
    refine W.eq (g2 := F0 m 750 ls [.int (tl_I r2)]) rfl ?_
    refine lv_istore (lv' := [(6, .int (tl_I r2)), (5, .int (tl_I (lf_at k))), (4, .int (tl_I (i : Int))), (0, .ref b), (1, .ref a_x), (2, .ref a_m), (3, .ref a_o)]) hx hb dL_law_750 hl (by decide) rfl (fun ls hl => ?_)
    refine lv_aload_n hx hb dL_law_752 rfl (lv_at hl 5 rfl) ?_
    refine tl_callVA (wc := [tl_ob a_m 11 fs3]) (wr := rr ++ (tl_ja (cy 2) a_o 1 ov :: (w2 ++ wr))) (As := []) (rest := []) ⟨hx, hb, hml, hown, hts⟩ hM3 (cwV 0 hts tg_Lm_thrown rfl rfl rfl td_Lm_thrown ⟨by show 0 + 1 ≤ R.frames; omega, by show 8 + (1 + 11) + 0 ≤ R.locals; omega⟩) hK (hP.perm (pm_3 q5)) (hD.perm (pm_3 q5)) hS hA 11 rfl rfl rfl rfl hl.1 rfl (Nat.le_of_ble_eq_true rfl) dL_law_753 ⟨by omega, by omega⟩ (fun v w4 H locs hp hP hD hS => ?_)
    obtain ⟨rfl, rfl⟩ := hp
    have hP := (hP.perm (pm_3 q5).symm).perm pm_4
    have hD := (hD.perm (pm_3 q5).symm).perm pm_4
    refine W.widen (k := cells + (mc + mcm)) (n := slots + (ms + msm)) (by omega) (by omega) ?_
    refine W.eq (g2 := F0 m 756 ls [.int (tl_I (lf_at k))]) rfl ?_
    refine lv_iload hx hb dL_law_756 (lv_at hl 1 rfl) ?_
    refine lv_icmp_eq (tgt := 763) hx hb dL_law_758 (by decide) (fun _ => ?_) (fun h => absurd rfl h)
    refine lv_iload hx hb dL_law_763 (lv_at hl 1 rfl) ?_
    refine lv_if_ne (tgt := 780) hx hb dL_law_765 (by decide) (fun _ => ?_) (fun h => absurd ((tl_eq (lf_at_6 hk).1 tl_R0).mp h) (lf_at_6 hk).2)
    refine lv_goto (tgt := 1227) hx hb dL_law_780 (by decide) ?_
    exact kk _ _ _ ov _ _ _ hsm (hP.perm pm_5) (hD.perm pm_5) hS (lv_less hl (fun q hq => List.mem_cons_of_mem _ (List.mem_cons_of_mem _ hq)))
set_option maxHeartbeats 4000000 in
set_option maxRecDepth 20000 in
theorem lc_ask (hx : p.tables.exec = Jvm.exec) (hb : c.code = cL_law) (hml : c.maxLocals = 7) (hown : s.vm.findClass RL = some m.cls) (hts : ∀ w ∈ tl_T, w.before args s = true) (hX : va_X b L xs s s.heap) (hbl : b < s.heap.size) (hbA : ¬ A b) (hA : ∀ q, s.heap.size ≤ q → A q) (hL : L ≤ 2560) (hE : tl_E sa A s s.heap) (hN : tl_NC s) (hK : va_K D vwCl (tl_tys cy) s) (hR : 11 ≤ R.frames ∧ 410 ≤ R.locals) (hi : i + 5 ≤ L)
    {CW MW : va_W} {ov : Nat → Int64} {mc ms mcm msm cells slots : Nat} (hok : lw_OK l D cy sa yX9_ask cX9_ask 4 .int yX10_ask cX10_ask 4 .int a_x a_m [.int (tl_I ((xs (i + 1)).toInt)), .int (tl_I ((xs (i + 2)).toInt))] lf_ask SM mc ms mcm msm CW MW) (hth : lw_TH l D cy a_m SM) (hf : cells + (mc + mcm) ≤ R.cells ∧ slots + (ms + msm) ≤ R.slots)
    {H : Heap} {locs : List Loc} {ls : Array Slot} (hP : va_P D vwCl (CW ++ (MW ++ [tl_ja (cy 2) a_o 1 ov])) H) (hD : va_D A (CW ++ (MW ++ [tl_ja (cy 2) a_o 1 ov]))) (hS : va_S A s.heap H locs) (hl : lv_has ls 7 [(4, .int (tl_I (i : Int))), (0, .ref b), (1, .ref a_x), (2, .ref a_m), (3, .ref a_o)])
    (kk : ∀ (t : Int) (CW2 MW2 : va_W) (ov2 : Nat → Int64) (H : Heap) (locs : List Loc) (ls : Array Slot), SM t CW2 MW2 → va_P D vwCl (CW2 ++ (MW2 ++ [tl_ja (cy 2) a_o 1 ov2])) H → va_D A (CW2 ++ (MW2 ++ [tl_ja (cy 2) a_o 1 ov2])) → va_S A s.heap H locs → lv_has ls 7 [(4, .int (tl_I (i : Int))), (0, .ref b), (1, .ref a_x), (2, .ref a_m), (3, .ref a_o)] → W p l e R s m args below meth c H locs (cells + (mc + mcm)) (slots + (ms + msm)) Q (F0 m 1227 ls [])) :
    W p l e R s m args below meth c H locs cells slots Q (F0 m 783 ls []) := by
  obtain ⟨rm, rm2, wc, wr, wm, wn, post, px, postm, fs, fs2, q1, q2, q3, q4, hM9, hrm, hM10, ⟨hr1, hr2, hr3, hr4⟩, hpo, hpx, hpk⟩ := hok
  refine lv_aload_n hx hb dL_law_783 rfl (lv_at hl 2 rfl) ?_
  refine lv_aload_n hx hb dL_law_784 rfl (lv_at hl 1 rfl) ?_
  refine lv_iload hx hb dL_law_785 (lv_at hl 0 rfl) ?_
  refine lv_iconst (v := tl_I (1 : Int)) hx hb dL_law_787 rfl ?_
  refine tr_iadd hx hb dL_law_788 ?_
  refine ts_sld (j := i + 1) hx hb hX hbl hbA hS (by omega) (by omega) hL dL_law_789 ?_
  refine lv_aload_n hx hb dL_law_790 rfl (lv_at hl 1 rfl) ?_
  refine lv_iload hx hb dL_law_791 (lv_at hl 0 rfl) ?_
  refine lv_iconst (v := tl_I (2 : Int)) hx hb dL_law_793 rfl ?_
  refine tr_iadd hx hb dL_law_794 ?_
  refine ts_sld (j := i + 2) hx hb hX hbl hbA hS (by omega) (by omega) hL dL_law_795 ?_
  refine lv_aload_n hx hb dL_law_796 rfl (lv_at hl 4 rfl) ?_
  refine tl_callYA (wc := tl_ja (cy 2) a_o 1 ov :: wc) (wr := wr ++ MW) (As := [.ref a_x, .int (tl_I ((xs (i + 1)).toInt)), .int (tl_I ((xs (i + 2)).toInt)), .ref a_o]) (rest := []) ⟨hx, hb, hml, hown, hts⟩ (kt_L_ask l D cy sa a_x a_o ((xs (i + 1)).toInt) ((xs (i + 2)).toInt) ov rm wc fs mc ms post px q3 hM9 hrm (fun v w1 h => (hpo v w1 h).imp (fun r h2 => h2.1)) hpx) (vx_cwSW 4 hts tg_L_ask rfl rfl rfl td_L_ask ⟨by show 8 + 1 ≤ R.frames; omega, by show 8 + (5 + 11) + 200 ≤ R.locals; omega⟩) hE hN hK (hP.perm (pm_1 q1)) (hD.perm (pm_1 q1)) hS hA rfl hl.1 rfl (Nat.le_of_ble_eq_true rfl) dL_law_797 ⟨by omega, by omega⟩ (fun v w1 H locs hp hP hD hS => ?_)
  rcases hp with ⟨r, w2, hpp, rfl, rfl⟩ | ⟨k, w2, hpp, hk, rfl, rfl⟩
  · obtain ⟨r2, er, hsm⟩ := hpo _ _ hpp
    have er : tl_I r = tl_I r2 := by injection er with er; injection er
    refine W.eq (g2 := F0 m 800 ls [.int (tl_I (0 : Int))]) rfl ?_
    refine lv_istore (lv' := [(5, .int (tl_I (0 : Int))), (4, .int (tl_I (i : Int))), (0, .ref b), (1, .ref a_x), (2, .ref a_m), (3, .ref a_o)]) hx hb dL_law_800 hl (by decide) rfl (fun ls hl => ?_)
    refine lv_aload_n hx hb dL_law_802 rfl (lv_at hl 4 rfl) ?_
    refine lv_aload_n hx hb dL_law_803 rfl (lv_at hl 2 rfl) ?_
    refine lv_iload hx hb dL_law_804 (lv_at hl 1 rfl) ?_
    refine lv_iconst (v := tl_I (1 : Int)) hx hb dL_law_806 rfl ?_
    refine tr_iadd hx hb dL_law_807 ?_
    refine ts_sld (j := i + 1) hx hb hX hbl hbA hS (by omega) (by omega) hL dL_law_808 ?_
    refine lv_aload_n hx hb dL_law_809 rfl (lv_at hl 2 rfl) ?_
    refine lv_iload hx hb dL_law_810 (lv_at hl 1 rfl) ?_
    refine lv_iconst (v := tl_I (2 : Int)) hx hb dL_law_812 rfl ?_
    refine tr_iadd hx hb dL_law_813 ?_
    refine ts_sld (j := i + 2) hx hb hX hbl hbA hS (by omega) (by omega) hL dL_law_814 ?_
    refine tl_callVA (wc := wm) (wr := wn ++ (tl_ja (cy 2) a_o 1 (va_up ov 0 ((fun x => x.toInt64) (tl_I r))) :: (w2 ++ wr))) (As := [.int (tl_I ((xs (i + 1)).toInt)), .int (tl_I ((xs (i + 2)).toInt))]) (rest := []) ⟨hx, hb, hml, hown, hts⟩ hM10 (cwV 2 hts tg_Lm_ask rfl hr1 hr2 td_Lm_ask ⟨by omega, by show 8 + (4 + 11) + rm2.locals ≤ R.locals; omega⟩) hK (hP.perm (pm_2 q2)) (hD.perm (pm_2 q2)) hS hA 11 q4 rfl rfl rfl hl.1 rfl (Nat.le_of_ble_eq_true rfl) dL_law_815 ⟨by omega, by omega⟩ (fun v w3 H locs hp hP hD hS => ?_)
    obtain ⟨rfl, hsm⟩ := hsm _ _ hp
    rw [← List.append_assoc] at hP hD
    obtain ⟨fs3, rr, q5, hM3⟩ := hth _ _ _ hsm
    refine W.eq (g2 := F0 m 818 ls [.int (tl_I r2)]) rfl ?_
    refine lv_istore (lv' := [(6, .int (tl_I r2)), (5, .int (tl_I (0 : Int))), (4, .int (tl_I (i : Int))), (0, .ref b), (1, .ref a_x), (2, .ref a_m), (3, .ref a_o)]) hx hb dL_law_818 hl (by decide) rfl (fun ls hl => ?_)
    refine lv_aload_n hx hb dL_law_820 rfl (lv_at hl 5 rfl) ?_
    refine tl_callVA (wc := [tl_ob a_m 11 fs3]) (wr := rr ++ (tl_ja (cy 2) a_o 1 (va_up ov 0 ((fun x => x.toInt64) (tl_I r))) :: (w2 ++ wr))) (As := []) (rest := []) ⟨hx, hb, hml, hown, hts⟩ hM3 (cwV 0 hts tg_Lm_thrown rfl rfl rfl td_Lm_thrown ⟨by show 0 + 1 ≤ R.frames; omega, by show 8 + (1 + 11) + 0 ≤ R.locals; omega⟩) hK (hP.perm (pm_3 q5)) (hD.perm (pm_3 q5)) hS hA 11 rfl rfl rfl rfl hl.1 rfl (Nat.le_of_ble_eq_true rfl) dL_law_821 ⟨by omega, by omega⟩ (fun v w4 H locs hp hP hD hS => ?_)
    obtain ⟨rfl, rfl⟩ := hp
    have hP := (hP.perm (pm_3 q5).symm).perm pm_4
    have hD := (hD.perm (pm_3 q5).symm).perm pm_4
    refine W.widen (k := cells + (mc + mcm)) (n := slots + (ms + msm)) (by omega) (by omega) ?_
    refine W.eq (g2 := F0 m 824 ls [.int (tl_I (0 : Int))]) rfl ?_
    refine lv_iload hx hb dL_law_824 (lv_at hl 1 rfl) ?_
    refine lv_icmp_eq (tgt := 831) hx hb dL_law_826 (by decide) (fun _ => ?_) (fun h => absurd rfl h)
    refine lv_iload hx hb dL_law_831 (lv_at hl 1 rfl) ?_
    refine lv_if_ne (tgt := 848) hx hb dL_law_833 (by decide) (fun h => absurd rfl h) (fun _ => ?_)
    refine lv_aload_n hx hb dL_law_836 rfl (lv_at hl 6 rfl) ?_
    refine lv_iconst (v := tl_I (0 : Int)) hx hb dL_law_837 rfl ?_
    refine ts_lald hx hb ⟨by omega, by omega⟩ hK hP 0 2 rfl rfl (by decide) dL_law_838 ?_
    rw [show (0 : Int).toNat = 0 from rfl, va_up_self, er]
    refine lv_iload hx hb dL_law_839 (lv_at hl 0 rfl) ?_
    refine lv_i2l (v := (tl_I r2).toInt64) hx hb dL_law_841 rfl ?_
    refine W.lcmp hx hb dL_law_842 ?_
    rw [lw_cmp0]
    refine lv_if_eq (tgt := 848) hx hb dL_law_843 (by decide) (fun _ => ?_) (fun h => absurd rfl h)
    refine lv_goto (tgt := 1227) hx hb dL_law_848 (by decide) ?_
    exact kk _ _ _ (va_up ov 0 ((fun x => x.toInt64) (tl_I r))) _ _ _ hsm (hP.perm pm_5) (hD.perm pm_5) hS (lv_less hl (fun q hq => List.mem_cons_of_mem _ (List.mem_cons_of_mem _ hq)))
  · have hsm := hpk k w2 hpp hk
    refine W.eq (g2 := F0 m 800 ls [.int (tl_I (lf_ask k))]) rfl ?_
    refine lv_istore (lv' := [(5, .int (tl_I (lf_ask k))), (4, .int (tl_I (i : Int))), (0, .ref b), (1, .ref a_x), (2, .ref a_m), (3, .ref a_o)]) hx hb dL_law_800 hl (by decide) rfl (fun ls hl => ?_)
    refine lv_aload_n hx hb dL_law_802 rfl (lv_at hl 4 rfl) ?_
    refine lv_aload_n hx hb dL_law_803 rfl (lv_at hl 2 rfl) ?_
    refine lv_iload hx hb dL_law_804 (lv_at hl 1 rfl) ?_
    refine lv_iconst (v := tl_I (1 : Int)) hx hb dL_law_806 rfl ?_
    refine tr_iadd hx hb dL_law_807 ?_
    refine ts_sld (j := i + 1) hx hb hX hbl hbA hS (by omega) (by omega) hL dL_law_808 ?_
    refine lv_aload_n hx hb dL_law_809 rfl (lv_at hl 2 rfl) ?_
    refine lv_iload hx hb dL_law_810 (lv_at hl 1 rfl) ?_
    refine lv_iconst (v := tl_I (2 : Int)) hx hb dL_law_812 rfl ?_
    refine tr_iadd hx hb dL_law_813 ?_
    refine ts_sld (j := i + 2) hx hb hX hbl hbA hS (by omega) (by omega) hL dL_law_814 ?_
    refine tl_callVA (wc := wm) (wr := wn ++ (tl_ja (cy 2) a_o 1 ov :: (w2 ++ wr))) (As := [.int (tl_I ((xs (i + 1)).toInt)), .int (tl_I ((xs (i + 2)).toInt))]) (rest := []) ⟨hx, hb, hml, hown, hts⟩ hM10 (cwV 2 hts tg_Lm_ask rfl hr1 hr2 td_Lm_ask ⟨by omega, by show 8 + (4 + 11) + rm2.locals ≤ R.locals; omega⟩) hK (hP.perm (pm_2 q2)) (hD.perm (pm_2 q2)) hS hA 11 q4 rfl rfl rfl hl.1 rfl (Nat.le_of_ble_eq_true rfl) dL_law_815 ⟨by omega, by omega⟩ (fun v w3 H locs hp hP hD hS => ?_)
    obtain ⟨r2, rfl, hsm⟩ := hsm _ _ hp
    rw [← List.append_assoc] at hP hD
    obtain ⟨fs3, rr, q5, hM3⟩ := hth _ _ _ hsm
    refine W.eq (g2 := F0 m 818 ls [.int (tl_I r2)]) rfl ?_
    refine lv_istore (lv' := [(6, .int (tl_I r2)), (5, .int (tl_I (lf_ask k))), (4, .int (tl_I (i : Int))), (0, .ref b), (1, .ref a_x), (2, .ref a_m), (3, .ref a_o)]) hx hb dL_law_818 hl (by decide) rfl (fun ls hl => ?_)
    refine lv_aload_n hx hb dL_law_820 rfl (lv_at hl 5 rfl) ?_
    refine tl_callVA (wc := [tl_ob a_m 11 fs3]) (wr := rr ++ (tl_ja (cy 2) a_o 1 ov :: (w2 ++ wr))) (As := []) (rest := []) ⟨hx, hb, hml, hown, hts⟩ hM3 (cwV 0 hts tg_Lm_thrown rfl rfl rfl td_Lm_thrown ⟨by show 0 + 1 ≤ R.frames; omega, by show 8 + (1 + 11) + 0 ≤ R.locals; omega⟩) hK (hP.perm (pm_3 q5)) (hD.perm (pm_3 q5)) hS hA 11 rfl rfl rfl rfl hl.1 rfl (Nat.le_of_ble_eq_true rfl) dL_law_821 ⟨by omega, by omega⟩ (fun v w4 H locs hp hP hD hS => ?_)
    obtain ⟨rfl, rfl⟩ := hp
    have hP := (hP.perm (pm_3 q5).symm).perm pm_4
    have hD := (hD.perm (pm_3 q5).symm).perm pm_4
    refine W.widen (k := cells + (mc + mcm)) (n := slots + (ms + msm)) (by omega) (by omega) ?_
    refine W.eq (g2 := F0 m 824 ls [.int (tl_I (lf_ask k))]) rfl ?_
    refine lv_iload hx hb dL_law_824 (lv_at hl 1 rfl) ?_
    refine lv_icmp_eq (tgt := 831) hx hb dL_law_826 (by decide) (fun _ => ?_) (fun h => absurd rfl h)
    refine lv_iload hx hb dL_law_831 (lv_at hl 1 rfl) ?_
    refine lv_if_ne (tgt := 848) hx hb dL_law_833 (by decide) (fun _ => ?_) (fun h => absurd ((tl_eq (lf_ask_6 hk).1 tl_R0).mp h) (lf_ask_6 hk).2)
    refine lv_goto (tgt := 1227) hx hb dL_law_848 (by decide) ?_
    exact kk _ _ _ ov _ _ _ hsm (hP.perm pm_5) (hD.perm pm_5) hS (lv_less hl (fun q hq => List.mem_cons_of_mem _ (List.mem_cons_of_mem _ hq)))
set_option maxHeartbeats 4000000 in
set_option maxRecDepth 20000 in
theorem lc_size (hx : p.tables.exec = Jvm.exec) (hb : c.code = cL_law) (hml : c.maxLocals = 7) (hown : s.vm.findClass RL = some m.cls) (hts : ∀ w ∈ tl_T, w.before args s = true) (hX : va_X b L xs s s.heap) (hbl : b < s.heap.size) (hbA : ¬ A b) (hA : ∀ q, s.heap.size ≤ q → A q) (hL : L ≤ 2560) (hE : tl_E sa A s s.heap) (hN : tl_NC s) (hK : va_K D vwCl (tl_tys cy) s) (hR : 11 ≤ R.frames ∧ 410 ≤ R.locals) (hi : i + 5 ≤ L)
    {CW MW : va_W} {ov : Nat → Int64} {mc ms mcm msm cells slots : Nat} (hok : lw_OK l D cy sa yX9_size cX9_size 6 .int yX10_size cX10_size 5 .int a_x a_m [.int (tl_I ((xs (i + 1)).toInt)), .int (tl_I ((xs (i + 2)).toInt)), .int (tl_I ((xs (i + 3)).toInt))] lf_cut SM mc ms mcm msm CW MW) (hth : lw_TH l D cy a_m SM) (hf : cells + (mc + mcm) ≤ R.cells ∧ slots + (ms + msm) ≤ R.slots)
    {H : Heap} {locs : List Loc} {ls : Array Slot} (hP : va_P D vwCl (CW ++ (MW ++ [tl_ja (cy 2) a_o 1 ov])) H) (hD : va_D A (CW ++ (MW ++ [tl_ja (cy 2) a_o 1 ov]))) (hS : va_S A s.heap H locs) (hl : lv_has ls 7 [(4, .int (tl_I (i : Int))), (0, .ref b), (1, .ref a_x), (2, .ref a_m), (3, .ref a_o)])
    (kk : ∀ (t : Int) (CW2 MW2 : va_W) (ov2 : Nat → Int64) (H : Heap) (locs : List Loc) (ls : Array Slot), SM t CW2 MW2 → va_P D vwCl (CW2 ++ (MW2 ++ [tl_ja (cy 2) a_o 1 ov2])) H → va_D A (CW2 ++ (MW2 ++ [tl_ja (cy 2) a_o 1 ov2])) → va_S A s.heap H locs → lv_has ls 7 [(4, .int (tl_I (i : Int))), (0, .ref b), (1, .ref a_x), (2, .ref a_m), (3, .ref a_o)] → W p l e R s m args below meth c H locs (cells + (mc + mcm)) (slots + (ms + msm)) Q (F0 m 1227 ls [])) :
    W p l e R s m args below meth c H locs cells slots Q (F0 m 851 ls []) := by
  obtain ⟨rm, rm2, wc, wr, wm, wn, post, px, postm, fs, fs2, q1, q2, q3, q4, hM9, hrm, hM10, ⟨hr1, hr2, hr3, hr4⟩, hpo, hpx, hpk⟩ := hok
  refine lv_aload_n hx hb dL_law_851 rfl (lv_at hl 2 rfl) ?_
  refine lv_aload_n hx hb dL_law_852 rfl (lv_at hl 1 rfl) ?_
  refine lv_iload hx hb dL_law_853 (lv_at hl 0 rfl) ?_
  refine lv_iconst (v := tl_I (1 : Int)) hx hb dL_law_855 rfl ?_
  refine tr_iadd hx hb dL_law_856 ?_
  refine ts_sld (j := i + 1) hx hb hX hbl hbA hS (by omega) (by omega) hL dL_law_857 ?_
  refine lv_aload_n hx hb dL_law_858 rfl (lv_at hl 1 rfl) ?_
  refine lv_iload hx hb dL_law_859 (lv_at hl 0 rfl) ?_
  refine lv_iconst (v := tl_I (2 : Int)) hx hb dL_law_861 rfl ?_
  refine tr_iadd hx hb dL_law_862 ?_
  refine ts_sld (j := i + 2) hx hb hX hbl hbA hS (by omega) (by omega) hL dL_law_863 ?_
  refine lv_aload_n hx hb dL_law_864 rfl (lv_at hl 1 rfl) ?_
  refine lv_iload hx hb dL_law_865 (lv_at hl 0 rfl) ?_
  refine lv_iconst (v := tl_I (3 : Int)) hx hb dL_law_867 rfl ?_
  refine tr_iadd hx hb dL_law_868 ?_
  refine ts_sld (j := i + 3) hx hb hX hbl hbA hS (by omega) (by omega) hL dL_law_869 ?_
  refine lv_aload_n hx hb dL_law_870 rfl (lv_at hl 4 rfl) ?_
  refine tl_callYA (wc := tl_ja (cy 2) a_o 1 ov :: wc) (wr := wr ++ MW) (As := [.ref a_x, .int (tl_I ((xs (i + 1)).toInt)), .int (tl_I ((xs (i + 2)).toInt)), .int (tl_I ((xs (i + 3)).toInt)), .ref a_o]) (rest := []) ⟨hx, hb, hml, hown, hts⟩ (kt_L_size l D cy sa a_x a_o ((xs (i + 1)).toInt) ((xs (i + 2)).toInt) ((xs (i + 3)).toInt) ov rm wc fs mc ms post px q3 hM9 hrm (fun v w1 h => (hpo v w1 h).imp (fun r h2 => h2.1)) hpx) (vx_cwSW 5 hts tg_L_size rfl rfl rfl td_L_size ⟨by show 8 + 1 ≤ R.frames; omega, by show 8 + (6 + 11) + 200 ≤ R.locals; omega⟩) hE hN hK (hP.perm (pm_1 q1)) (hD.perm (pm_1 q1)) hS hA rfl hl.1 rfl (Nat.le_of_ble_eq_true rfl) dL_law_871 ⟨by omega, by omega⟩ (fun v w1 H locs hp hP hD hS => ?_)
  rcases hp with ⟨r, w2, hpp, rfl, rfl⟩ | ⟨k, w2, hpp, hk, rfl, rfl⟩
  · obtain ⟨r2, er, hsm⟩ := hpo _ _ hpp
    have er : tl_I r = tl_I r2 := by injection er with er; injection er
    refine W.eq (g2 := F0 m 874 ls [.int (tl_I (0 : Int))]) rfl ?_
    refine lv_istore (lv' := [(5, .int (tl_I (0 : Int))), (4, .int (tl_I (i : Int))), (0, .ref b), (1, .ref a_x), (2, .ref a_m), (3, .ref a_o)]) hx hb dL_law_874 hl (by decide) rfl (fun ls hl => ?_)
    refine lv_aload_n hx hb dL_law_876 rfl (lv_at hl 4 rfl) ?_
    refine lv_aload_n hx hb dL_law_877 rfl (lv_at hl 2 rfl) ?_
    refine lv_iload hx hb dL_law_878 (lv_at hl 1 rfl) ?_
    refine lv_iconst (v := tl_I (1 : Int)) hx hb dL_law_880 rfl ?_
    refine tr_iadd hx hb dL_law_881 ?_
    refine ts_sld (j := i + 1) hx hb hX hbl hbA hS (by omega) (by omega) hL dL_law_882 ?_
    refine lv_aload_n hx hb dL_law_883 rfl (lv_at hl 2 rfl) ?_
    refine lv_iload hx hb dL_law_884 (lv_at hl 1 rfl) ?_
    refine lv_iconst (v := tl_I (2 : Int)) hx hb dL_law_886 rfl ?_
    refine tr_iadd hx hb dL_law_887 ?_
    refine ts_sld (j := i + 2) hx hb hX hbl hbA hS (by omega) (by omega) hL dL_law_888 ?_
    refine lv_aload_n hx hb dL_law_889 rfl (lv_at hl 2 rfl) ?_
    refine lv_iload hx hb dL_law_890 (lv_at hl 1 rfl) ?_
    refine lv_iconst (v := tl_I (3 : Int)) hx hb dL_law_892 rfl ?_
    refine tr_iadd hx hb dL_law_893 ?_
    refine ts_sld (j := i + 3) hx hb hX hbl hbA hS (by omega) (by omega) hL dL_law_894 ?_
    refine tl_callVA (wc := wm) (wr := wn ++ (tl_ja (cy 2) a_o 1 (va_up ov 0 ((fun x => x.toInt64) (tl_I r))) :: (w2 ++ wr))) (As := [.int (tl_I ((xs (i + 1)).toInt)), .int (tl_I ((xs (i + 2)).toInt)), .int (tl_I ((xs (i + 3)).toInt))]) (rest := []) ⟨hx, hb, hml, hown, hts⟩ hM10 (cwV 3 hts tg_Lm_size rfl hr1 hr2 td_Lm_size ⟨by omega, by show 8 + (5 + 11) + rm2.locals ≤ R.locals; omega⟩) hK (hP.perm (pm_2 q2)) (hD.perm (pm_2 q2)) hS hA 11 q4 rfl rfl rfl hl.1 rfl (Nat.le_of_ble_eq_true rfl) dL_law_895 ⟨by omega, by omega⟩ (fun v w3 H locs hp hP hD hS => ?_)
    obtain ⟨rfl, hsm⟩ := hsm _ _ hp
    rw [← List.append_assoc] at hP hD
    obtain ⟨fs3, rr, q5, hM3⟩ := hth _ _ _ hsm
    refine W.eq (g2 := F0 m 898 ls [.int (tl_I r2)]) rfl ?_
    refine lv_istore (lv' := [(6, .int (tl_I r2)), (5, .int (tl_I (0 : Int))), (4, .int (tl_I (i : Int))), (0, .ref b), (1, .ref a_x), (2, .ref a_m), (3, .ref a_o)]) hx hb dL_law_898 hl (by decide) rfl (fun ls hl => ?_)
    refine lv_aload_n hx hb dL_law_900 rfl (lv_at hl 5 rfl) ?_
    refine tl_callVA (wc := [tl_ob a_m 11 fs3]) (wr := rr ++ (tl_ja (cy 2) a_o 1 (va_up ov 0 ((fun x => x.toInt64) (tl_I r))) :: (w2 ++ wr))) (As := []) (rest := []) ⟨hx, hb, hml, hown, hts⟩ hM3 (cwV 0 hts tg_Lm_thrown rfl rfl rfl td_Lm_thrown ⟨by show 0 + 1 ≤ R.frames; omega, by show 8 + (1 + 11) + 0 ≤ R.locals; omega⟩) hK (hP.perm (pm_3 q5)) (hD.perm (pm_3 q5)) hS hA 11 rfl rfl rfl rfl hl.1 rfl (Nat.le_of_ble_eq_true rfl) dL_law_901 ⟨by omega, by omega⟩ (fun v w4 H locs hp hP hD hS => ?_)
    obtain ⟨rfl, rfl⟩ := hp
    have hP := (hP.perm (pm_3 q5).symm).perm pm_4
    have hD := (hD.perm (pm_3 q5).symm).perm pm_4
    refine W.widen (k := cells + (mc + mcm)) (n := slots + (ms + msm)) (by omega) (by omega) ?_
    refine W.eq (g2 := F0 m 904 ls [.int (tl_I (0 : Int))]) rfl ?_
    refine lv_iload hx hb dL_law_904 (lv_at hl 1 rfl) ?_
    refine lv_icmp_eq (tgt := 911) hx hb dL_law_906 (by decide) (fun _ => ?_) (fun h => absurd rfl h)
    refine lv_iload hx hb dL_law_911 (lv_at hl 1 rfl) ?_
    refine lv_if_ne (tgt := 928) hx hb dL_law_913 (by decide) (fun h => absurd rfl h) (fun _ => ?_)
    refine lv_aload_n hx hb dL_law_916 rfl (lv_at hl 6 rfl) ?_
    refine lv_iconst (v := tl_I (0 : Int)) hx hb dL_law_917 rfl ?_
    refine ts_lald hx hb ⟨by omega, by omega⟩ hK hP 0 2 rfl rfl (by decide) dL_law_918 ?_
    rw [show (0 : Int).toNat = 0 from rfl, va_up_self, er]
    refine lv_iload hx hb dL_law_919 (lv_at hl 0 rfl) ?_
    refine lv_i2l (v := (tl_I r2).toInt64) hx hb dL_law_921 rfl ?_
    refine W.lcmp hx hb dL_law_922 ?_
    rw [lw_cmp0]
    refine lv_if_eq (tgt := 928) hx hb dL_law_923 (by decide) (fun _ => ?_) (fun h => absurd rfl h)
    refine lv_goto (tgt := 1227) hx hb dL_law_928 (by decide) ?_
    exact kk _ _ _ (va_up ov 0 ((fun x => x.toInt64) (tl_I r))) _ _ _ hsm (hP.perm pm_5) (hD.perm pm_5) hS (lv_less hl (fun q hq => List.mem_cons_of_mem _ (List.mem_cons_of_mem _ hq)))
  · have hsm := hpk k w2 hpp hk
    refine W.eq (g2 := F0 m 874 ls [.int (tl_I (lf_cut k))]) rfl ?_
    refine lv_istore (lv' := [(5, .int (tl_I (lf_cut k))), (4, .int (tl_I (i : Int))), (0, .ref b), (1, .ref a_x), (2, .ref a_m), (3, .ref a_o)]) hx hb dL_law_874 hl (by decide) rfl (fun ls hl => ?_)
    refine lv_aload_n hx hb dL_law_876 rfl (lv_at hl 4 rfl) ?_
    refine lv_aload_n hx hb dL_law_877 rfl (lv_at hl 2 rfl) ?_
    refine lv_iload hx hb dL_law_878 (lv_at hl 1 rfl) ?_
    refine lv_iconst (v := tl_I (1 : Int)) hx hb dL_law_880 rfl ?_
    refine tr_iadd hx hb dL_law_881 ?_
    refine ts_sld (j := i + 1) hx hb hX hbl hbA hS (by omega) (by omega) hL dL_law_882 ?_
    refine lv_aload_n hx hb dL_law_883 rfl (lv_at hl 2 rfl) ?_
    refine lv_iload hx hb dL_law_884 (lv_at hl 1 rfl) ?_
    refine lv_iconst (v := tl_I (2 : Int)) hx hb dL_law_886 rfl ?_
    refine tr_iadd hx hb dL_law_887 ?_
    refine ts_sld (j := i + 2) hx hb hX hbl hbA hS (by omega) (by omega) hL dL_law_888 ?_
    refine lv_aload_n hx hb dL_law_889 rfl (lv_at hl 2 rfl) ?_
    refine lv_iload hx hb dL_law_890 (lv_at hl 1 rfl) ?_
    refine lv_iconst (v := tl_I (3 : Int)) hx hb dL_law_892 rfl ?_
    refine tr_iadd hx hb dL_law_893 ?_
    refine ts_sld (j := i + 3) hx hb hX hbl hbA hS (by omega) (by omega) hL dL_law_894 ?_
    refine tl_callVA (wc := wm) (wr := wn ++ (tl_ja (cy 2) a_o 1 ov :: (w2 ++ wr))) (As := [.int (tl_I ((xs (i + 1)).toInt)), .int (tl_I ((xs (i + 2)).toInt)), .int (tl_I ((xs (i + 3)).toInt))]) (rest := []) ⟨hx, hb, hml, hown, hts⟩ hM10 (cwV 3 hts tg_Lm_size rfl hr1 hr2 td_Lm_size ⟨by omega, by show 8 + (5 + 11) + rm2.locals ≤ R.locals; omega⟩) hK (hP.perm (pm_2 q2)) (hD.perm (pm_2 q2)) hS hA 11 q4 rfl rfl rfl hl.1 rfl (Nat.le_of_ble_eq_true rfl) dL_law_895 ⟨by omega, by omega⟩ (fun v w3 H locs hp hP hD hS => ?_)
    obtain ⟨r2, rfl, hsm⟩ := hsm _ _ hp
    rw [← List.append_assoc] at hP hD
    obtain ⟨fs3, rr, q5, hM3⟩ := hth _ _ _ hsm
    refine W.eq (g2 := F0 m 898 ls [.int (tl_I r2)]) rfl ?_
    refine lv_istore (lv' := [(6, .int (tl_I r2)), (5, .int (tl_I (lf_cut k))), (4, .int (tl_I (i : Int))), (0, .ref b), (1, .ref a_x), (2, .ref a_m), (3, .ref a_o)]) hx hb dL_law_898 hl (by decide) rfl (fun ls hl => ?_)
    refine lv_aload_n hx hb dL_law_900 rfl (lv_at hl 5 rfl) ?_
    refine tl_callVA (wc := [tl_ob a_m 11 fs3]) (wr := rr ++ (tl_ja (cy 2) a_o 1 ov :: (w2 ++ wr))) (As := []) (rest := []) ⟨hx, hb, hml, hown, hts⟩ hM3 (cwV 0 hts tg_Lm_thrown rfl rfl rfl td_Lm_thrown ⟨by show 0 + 1 ≤ R.frames; omega, by show 8 + (1 + 11) + 0 ≤ R.locals; omega⟩) hK (hP.perm (pm_3 q5)) (hD.perm (pm_3 q5)) hS hA 11 rfl rfl rfl rfl hl.1 rfl (Nat.le_of_ble_eq_true rfl) dL_law_901 ⟨by omega, by omega⟩ (fun v w4 H locs hp hP hD hS => ?_)
    obtain ⟨rfl, rfl⟩ := hp
    have hP := (hP.perm (pm_3 q5).symm).perm pm_4
    have hD := (hD.perm (pm_3 q5).symm).perm pm_4
    refine W.widen (k := cells + (mc + mcm)) (n := slots + (ms + msm)) (by omega) (by omega) ?_
    refine W.eq (g2 := F0 m 904 ls [.int (tl_I (lf_cut k))]) rfl ?_
    refine lv_iload hx hb dL_law_904 (lv_at hl 1 rfl) ?_
    refine lv_icmp_eq (tgt := 911) hx hb dL_law_906 (by decide) (fun _ => ?_) (fun h => absurd rfl h)
    refine lv_iload hx hb dL_law_911 (lv_at hl 1 rfl) ?_
    refine lv_if_ne (tgt := 928) hx hb dL_law_913 (by decide) (fun _ => ?_) (fun h => absurd ((tl_eq (lf_cut_6 hk).1 tl_R0).mp h) (lf_cut_6 hk).2)
    refine lv_goto (tgt := 1227) hx hb dL_law_928 (by decide) ?_
    exact kk _ _ _ ov _ _ _ hsm (hP.perm pm_5) (hD.perm pm_5) hS (lv_less hl (fun q hq => List.mem_cons_of_mem _ (List.mem_cons_of_mem _ hq)))
set_option maxHeartbeats 4000000 in
set_option maxRecDepth 20000 in
theorem lc_way (hx : p.tables.exec = Jvm.exec) (hb : c.code = cL_law) (hml : c.maxLocals = 7) (hown : s.vm.findClass RL = some m.cls) (hts : ∀ w ∈ tl_T, w.before args s = true) (hX : va_X b L xs s s.heap) (hbl : b < s.heap.size) (hbA : ¬ A b) (hA : ∀ q, s.heap.size ≤ q → A q) (hL : L ≤ 2560) (hE : tl_E sa A s s.heap) (hN : tl_NC s) (hK : va_K D vwCl (tl_tys cy) s) (hR : 11 ≤ R.frames ∧ 410 ≤ R.locals) (hi : i + 5 ≤ L)
    {CW MW : va_W} {ov : Nat → Int64} {mc ms mcm msm cells slots : Nat} (hok : lw_OK l D cy sa yX9_way cX9_way 5 .int yX10_way cX10_way 4 .int a_x a_m [.int (tl_I ((xs (i + 1)).toInt)), .int (tl_I ((xs (i + 2)).toInt))] lf_way SM mc ms mcm msm CW MW) (hth : lw_TH l D cy a_m SM) (hf : cells + (mc + mcm) ≤ R.cells ∧ slots + (ms + msm) ≤ R.slots)
    {H : Heap} {locs : List Loc} {ls : Array Slot} (hP : va_P D vwCl (CW ++ (MW ++ [tl_ja (cy 2) a_o 1 ov])) H) (hD : va_D A (CW ++ (MW ++ [tl_ja (cy 2) a_o 1 ov]))) (hS : va_S A s.heap H locs) (hl : lv_has ls 7 [(4, .int (tl_I (i : Int))), (0, .ref b), (1, .ref a_x), (2, .ref a_m), (3, .ref a_o)])
    (kk : ∀ (t : Int) (CW2 MW2 : va_W) (ov2 : Nat → Int64) (H : Heap) (locs : List Loc) (ls : Array Slot), SM t CW2 MW2 → va_P D vwCl (CW2 ++ (MW2 ++ [tl_ja (cy 2) a_o 1 ov2])) H → va_D A (CW2 ++ (MW2 ++ [tl_ja (cy 2) a_o 1 ov2])) → va_S A s.heap H locs → lv_has ls 7 [(4, .int (tl_I (i : Int))), (0, .ref b), (1, .ref a_x), (2, .ref a_m), (3, .ref a_o)] → W p l e R s m args below meth c H locs (cells + (mc + mcm)) (slots + (ms + msm)) Q (F0 m 1227 ls [])) :
    W p l e R s m args below meth c H locs cells slots Q (F0 m 931 ls []) := by
  obtain ⟨rm, rm2, wc, wr, wm, wn, post, px, postm, fs, fs2, q1, q2, q3, q4, hM9, hrm, hM10, ⟨hr1, hr2, hr3, hr4⟩, hpo, hpx, hpk⟩ := hok
  refine lv_aload_n hx hb dL_law_931 rfl (lv_at hl 2 rfl) ?_
  refine lv_aload_n hx hb dL_law_932 rfl (lv_at hl 1 rfl) ?_
  refine lv_iload hx hb dL_law_933 (lv_at hl 0 rfl) ?_
  refine lv_iconst (v := tl_I (1 : Int)) hx hb dL_law_935 rfl ?_
  refine tr_iadd hx hb dL_law_936 ?_
  refine ts_sld (j := i + 1) hx hb hX hbl hbA hS (by omega) (by omega) hL dL_law_937 ?_
  refine lv_aload_n hx hb dL_law_938 rfl (lv_at hl 1 rfl) ?_
  refine lv_iload hx hb dL_law_939 (lv_at hl 0 rfl) ?_
  refine lv_iconst (v := tl_I (2 : Int)) hx hb dL_law_941 rfl ?_
  refine tr_iadd hx hb dL_law_942 ?_
  refine ts_sld (j := i + 2) hx hb hX hbl hbA hS (by omega) (by omega) hL dL_law_943 ?_
  refine lv_aload_n hx hb dL_law_944 rfl (lv_at hl 4 rfl) ?_
  refine tl_callYA (wc := tl_ja (cy 2) a_o 1 ov :: wc) (wr := wr ++ MW) (As := [.ref a_x, .int (tl_I ((xs (i + 1)).toInt)), .int (tl_I ((xs (i + 2)).toInt)), .ref a_o]) (rest := []) ⟨hx, hb, hml, hown, hts⟩ (kt_L_way l D cy sa a_x a_o ((xs (i + 1)).toInt) ((xs (i + 2)).toInt) ov rm wc fs mc ms post px q3 hM9 hrm (fun v w1 h => (hpo v w1 h).imp (fun r h2 => h2.1)) hpx) (vx_cwSW 4 hts tg_L_way rfl rfl rfl td_L_way ⟨by show 8 + 1 ≤ R.frames; omega, by show 8 + (5 + 11) + 200 ≤ R.locals; omega⟩) hE hN hK (hP.perm (pm_1 q1)) (hD.perm (pm_1 q1)) hS hA rfl hl.1 rfl (Nat.le_of_ble_eq_true rfl) dL_law_945 ⟨by omega, by omega⟩ (fun v w1 H locs hp hP hD hS => ?_)
  rcases hp with ⟨r, w2, hpp, rfl, rfl⟩ | ⟨k, w2, hpp, hk, rfl, rfl⟩
  · obtain ⟨r2, er, hsm⟩ := hpo _ _ hpp
    have er : tl_I r = tl_I r2 := by injection er with er; injection er
    refine W.eq (g2 := F0 m 948 ls [.int (tl_I (0 : Int))]) rfl ?_
    refine lv_istore (lv' := [(5, .int (tl_I (0 : Int))), (4, .int (tl_I (i : Int))), (0, .ref b), (1, .ref a_x), (2, .ref a_m), (3, .ref a_o)]) hx hb dL_law_948 hl (by decide) rfl (fun ls hl => ?_)
    refine lv_aload_n hx hb dL_law_950 rfl (lv_at hl 4 rfl) ?_
    refine lv_aload_n hx hb dL_law_951 rfl (lv_at hl 2 rfl) ?_
    refine lv_iload hx hb dL_law_952 (lv_at hl 1 rfl) ?_
    refine lv_iconst (v := tl_I (1 : Int)) hx hb dL_law_954 rfl ?_
    refine tr_iadd hx hb dL_law_955 ?_
    refine ts_sld (j := i + 1) hx hb hX hbl hbA hS (by omega) (by omega) hL dL_law_956 ?_
    refine lv_aload_n hx hb dL_law_957 rfl (lv_at hl 2 rfl) ?_
    refine lv_iload hx hb dL_law_958 (lv_at hl 1 rfl) ?_
    refine lv_iconst (v := tl_I (2 : Int)) hx hb dL_law_960 rfl ?_
    refine tr_iadd hx hb dL_law_961 ?_
    refine ts_sld (j := i + 2) hx hb hX hbl hbA hS (by omega) (by omega) hL dL_law_962 ?_
    refine tl_callVA (wc := wm) (wr := wn ++ (tl_ja (cy 2) a_o 1 (va_up ov 0 ((fun x => x.toInt64) (tl_I r))) :: (w2 ++ wr))) (As := [.int (tl_I ((xs (i + 1)).toInt)), .int (tl_I ((xs (i + 2)).toInt))]) (rest := []) ⟨hx, hb, hml, hown, hts⟩ hM10 (cwV 2 hts tg_Lm_way rfl hr1 hr2 td_Lm_way ⟨by omega, by show 8 + (4 + 11) + rm2.locals ≤ R.locals; omega⟩) hK (hP.perm (pm_2 q2)) (hD.perm (pm_2 q2)) hS hA 11 q4 rfl rfl rfl hl.1 rfl (Nat.le_of_ble_eq_true rfl) dL_law_963 ⟨by omega, by omega⟩ (fun v w3 H locs hp hP hD hS => ?_)
    obtain ⟨rfl, hsm⟩ := hsm _ _ hp
    rw [← List.append_assoc] at hP hD
    obtain ⟨fs3, rr, q5, hM3⟩ := hth _ _ _ hsm
    refine W.eq (g2 := F0 m 966 ls [.int (tl_I r2)]) rfl ?_
    refine lv_istore (lv' := [(6, .int (tl_I r2)), (5, .int (tl_I (0 : Int))), (4, .int (tl_I (i : Int))), (0, .ref b), (1, .ref a_x), (2, .ref a_m), (3, .ref a_o)]) hx hb dL_law_966 hl (by decide) rfl (fun ls hl => ?_)
    refine lv_aload_n hx hb dL_law_968 rfl (lv_at hl 5 rfl) ?_
    refine tl_callVA (wc := [tl_ob a_m 11 fs3]) (wr := rr ++ (tl_ja (cy 2) a_o 1 (va_up ov 0 ((fun x => x.toInt64) (tl_I r))) :: (w2 ++ wr))) (As := []) (rest := []) ⟨hx, hb, hml, hown, hts⟩ hM3 (cwV 0 hts tg_Lm_thrown rfl rfl rfl td_Lm_thrown ⟨by show 0 + 1 ≤ R.frames; omega, by show 8 + (1 + 11) + 0 ≤ R.locals; omega⟩) hK (hP.perm (pm_3 q5)) (hD.perm (pm_3 q5)) hS hA 11 rfl rfl rfl rfl hl.1 rfl (Nat.le_of_ble_eq_true rfl) dL_law_969 ⟨by omega, by omega⟩ (fun v w4 H locs hp hP hD hS => ?_)
    obtain ⟨rfl, rfl⟩ := hp
    have hP := (hP.perm (pm_3 q5).symm).perm pm_4
    have hD := (hD.perm (pm_3 q5).symm).perm pm_4
    refine W.widen (k := cells + (mc + mcm)) (n := slots + (ms + msm)) (by omega) (by omega) ?_
    refine W.eq (g2 := F0 m 972 ls [.int (tl_I (0 : Int))]) rfl ?_
    refine lv_iload hx hb dL_law_972 (lv_at hl 1 rfl) ?_
    refine lv_icmp_eq (tgt := 979) hx hb dL_law_974 (by decide) (fun _ => ?_) (fun h => absurd rfl h)
    refine lv_iload hx hb dL_law_979 (lv_at hl 1 rfl) ?_
    refine lv_if_ne (tgt := 996) hx hb dL_law_981 (by decide) (fun h => absurd rfl h) (fun _ => ?_)
    refine lv_aload_n hx hb dL_law_984 rfl (lv_at hl 6 rfl) ?_
    refine lv_iconst (v := tl_I (0 : Int)) hx hb dL_law_985 rfl ?_
    refine ts_lald hx hb ⟨by omega, by omega⟩ hK hP 0 2 rfl rfl (by decide) dL_law_986 ?_
    rw [show (0 : Int).toNat = 0 from rfl, va_up_self, er]
    refine lv_iload hx hb dL_law_987 (lv_at hl 0 rfl) ?_
    refine lv_i2l (v := (tl_I r2).toInt64) hx hb dL_law_989 rfl ?_
    refine W.lcmp hx hb dL_law_990 ?_
    rw [lw_cmp0]
    refine lv_if_eq (tgt := 996) hx hb dL_law_991 (by decide) (fun _ => ?_) (fun h => absurd rfl h)
    refine lv_goto (tgt := 1227) hx hb dL_law_996 (by decide) ?_
    exact kk _ _ _ (va_up ov 0 ((fun x => x.toInt64) (tl_I r))) _ _ _ hsm (hP.perm pm_5) (hD.perm pm_5) hS (lv_less hl (fun q hq => List.mem_cons_of_mem _ (List.mem_cons_of_mem _ hq)))
  · have hsm := hpk k w2 hpp hk
    refine W.eq (g2 := F0 m 948 ls [.int (tl_I (lf_way k))]) rfl ?_
    refine lv_istore (lv' := [(5, .int (tl_I (lf_way k))), (4, .int (tl_I (i : Int))), (0, .ref b), (1, .ref a_x), (2, .ref a_m), (3, .ref a_o)]) hx hb dL_law_948 hl (by decide) rfl (fun ls hl => ?_)
    refine lv_aload_n hx hb dL_law_950 rfl (lv_at hl 4 rfl) ?_
    refine lv_aload_n hx hb dL_law_951 rfl (lv_at hl 2 rfl) ?_
    refine lv_iload hx hb dL_law_952 (lv_at hl 1 rfl) ?_
    refine lv_iconst (v := tl_I (1 : Int)) hx hb dL_law_954 rfl ?_
    refine tr_iadd hx hb dL_law_955 ?_
    refine ts_sld (j := i + 1) hx hb hX hbl hbA hS (by omega) (by omega) hL dL_law_956 ?_
    refine lv_aload_n hx hb dL_law_957 rfl (lv_at hl 2 rfl) ?_
    refine lv_iload hx hb dL_law_958 (lv_at hl 1 rfl) ?_
    refine lv_iconst (v := tl_I (2 : Int)) hx hb dL_law_960 rfl ?_
    refine tr_iadd hx hb dL_law_961 ?_
    refine ts_sld (j := i + 2) hx hb hX hbl hbA hS (by omega) (by omega) hL dL_law_962 ?_
    refine tl_callVA (wc := wm) (wr := wn ++ (tl_ja (cy 2) a_o 1 ov :: (w2 ++ wr))) (As := [.int (tl_I ((xs (i + 1)).toInt)), .int (tl_I ((xs (i + 2)).toInt))]) (rest := []) ⟨hx, hb, hml, hown, hts⟩ hM10 (cwV 2 hts tg_Lm_way rfl hr1 hr2 td_Lm_way ⟨by omega, by show 8 + (4 + 11) + rm2.locals ≤ R.locals; omega⟩) hK (hP.perm (pm_2 q2)) (hD.perm (pm_2 q2)) hS hA 11 q4 rfl rfl rfl hl.1 rfl (Nat.le_of_ble_eq_true rfl) dL_law_963 ⟨by omega, by omega⟩ (fun v w3 H locs hp hP hD hS => ?_)
    obtain ⟨r2, rfl, hsm⟩ := hsm _ _ hp
    rw [← List.append_assoc] at hP hD
    obtain ⟨fs3, rr, q5, hM3⟩ := hth _ _ _ hsm
    refine W.eq (g2 := F0 m 966 ls [.int (tl_I r2)]) rfl ?_
    refine lv_istore (lv' := [(6, .int (tl_I r2)), (5, .int (tl_I (lf_way k))), (4, .int (tl_I (i : Int))), (0, .ref b), (1, .ref a_x), (2, .ref a_m), (3, .ref a_o)]) hx hb dL_law_966 hl (by decide) rfl (fun ls hl => ?_)
    refine lv_aload_n hx hb dL_law_968 rfl (lv_at hl 5 rfl) ?_
    refine tl_callVA (wc := [tl_ob a_m 11 fs3]) (wr := rr ++ (tl_ja (cy 2) a_o 1 ov :: (w2 ++ wr))) (As := []) (rest := []) ⟨hx, hb, hml, hown, hts⟩ hM3 (cwV 0 hts tg_Lm_thrown rfl rfl rfl td_Lm_thrown ⟨by show 0 + 1 ≤ R.frames; omega, by show 8 + (1 + 11) + 0 ≤ R.locals; omega⟩) hK (hP.perm (pm_3 q5)) (hD.perm (pm_3 q5)) hS hA 11 rfl rfl rfl rfl hl.1 rfl (Nat.le_of_ble_eq_true rfl) dL_law_969 ⟨by omega, by omega⟩ (fun v w4 H locs hp hP hD hS => ?_)
    obtain ⟨rfl, rfl⟩ := hp
    have hP := (hP.perm (pm_3 q5).symm).perm pm_4
    have hD := (hD.perm (pm_3 q5).symm).perm pm_4
    refine W.widen (k := cells + (mc + mcm)) (n := slots + (ms + msm)) (by omega) (by omega) ?_
    refine W.eq (g2 := F0 m 972 ls [.int (tl_I (lf_way k))]) rfl ?_
    refine lv_iload hx hb dL_law_972 (lv_at hl 1 rfl) ?_
    refine lv_icmp_eq (tgt := 979) hx hb dL_law_974 (by decide) (fun _ => ?_) (fun h => absurd rfl h)
    refine lv_iload hx hb dL_law_979 (lv_at hl 1 rfl) ?_
    refine lv_if_ne (tgt := 996) hx hb dL_law_981 (by decide) (fun _ => ?_) (fun h => absurd ((tl_eq (lf_way_6 hk).1 tl_R0).mp h) (lf_way_6 hk).2)
    refine lv_goto (tgt := 1227) hx hb dL_law_996 (by decide) ?_
    exact kk _ _ _ ov _ _ _ hsm (hP.perm pm_5) (hD.perm pm_5) hS (lv_less hl (fun q hq => List.mem_cons_of_mem _ (List.mem_cons_of_mem _ hq)))
set_option maxHeartbeats 4000000 in
set_option maxRecDepth 20000 in
theorem lc_path (hx : p.tables.exec = Jvm.exec) (hb : c.code = cL_law) (hml : c.maxLocals = 7) (hown : s.vm.findClass RL = some m.cls) (hts : ∀ w ∈ tl_T, w.before args s = true) (hX : va_X b L xs s s.heap) (hbl : b < s.heap.size) (hbA : ¬ A b) (hA : ∀ q, s.heap.size ≤ q → A q) (hL : L ≤ 2560) (hE : tl_E sa A s s.heap) (hN : tl_NC s) (hK : va_K D vwCl (tl_tys cy) s) (hR : 11 ≤ R.frames ∧ 410 ≤ R.locals) (hi : i + 5 ≤ L)
    {CW MW : va_W} {ov : Nat → Int64} {mc ms mcm msm cells slots : Nat} (hok : lw_OK l D cy sa yX9_path cX9_path 2 .int yX10_path cX10_path 2 .int a_x a_m [.int (tl_I ((xs (i + 1)).toInt))] lf_path SM mc ms mcm msm CW MW) (hth : lw_TH l D cy a_m SM) (hf : cells + (mc + mcm) ≤ R.cells ∧ slots + (ms + msm) ≤ R.slots)
    {H : Heap} {locs : List Loc} {ls : Array Slot} (hP : va_P D vwCl (CW ++ (MW ++ [tl_ja (cy 2) a_o 1 ov])) H) (hD : va_D A (CW ++ (MW ++ [tl_ja (cy 2) a_o 1 ov]))) (hS : va_S A s.heap H locs) (hl : lv_has ls 7 [(4, .int (tl_I (i : Int))), (0, .ref b), (1, .ref a_x), (2, .ref a_m), (3, .ref a_o)])
    (kk : ∀ (t : Int) (CW2 MW2 : va_W) (ov2 : Nat → Int64) (H : Heap) (locs : List Loc) (ls : Array Slot), SM t CW2 MW2 → va_P D vwCl (CW2 ++ (MW2 ++ [tl_ja (cy 2) a_o 1 ov2])) H → va_D A (CW2 ++ (MW2 ++ [tl_ja (cy 2) a_o 1 ov2])) → va_S A s.heap H locs → lv_has ls 7 [(4, .int (tl_I (i : Int))), (0, .ref b), (1, .ref a_x), (2, .ref a_m), (3, .ref a_o)] → W p l e R s m args below meth c H locs (cells + (mc + mcm)) (slots + (ms + msm)) Q (F0 m 1227 ls [])) :
    W p l e R s m args below meth c H locs cells slots Q (F0 m 999 ls []) := by
  obtain ⟨rm, rm2, wc, wr, wm, wn, post, px, postm, fs, fs2, q1, q2, q3, q4, hM9, hrm, hM10, ⟨hr1, hr2, hr3, hr4⟩, hpo, hpx, hpk⟩ := hok
  refine lv_aload_n hx hb dL_law_999 rfl (lv_at hl 2 rfl) ?_
  refine lv_aload_n hx hb dL_law_1000 rfl (lv_at hl 1 rfl) ?_
  refine lv_iload hx hb dL_law_1001 (lv_at hl 0 rfl) ?_
  refine lv_iconst (v := tl_I (1 : Int)) hx hb dL_law_1003 rfl ?_
  refine tr_iadd hx hb dL_law_1004 ?_
  refine ts_sld (j := i + 1) hx hb hX hbl hbA hS (by omega) (by omega) hL dL_law_1005 ?_
  refine lv_aload_n hx hb dL_law_1006 rfl (lv_at hl 4 rfl) ?_
  refine tl_callYA (wc := tl_ja (cy 2) a_o 1 ov :: wc) (wr := wr ++ MW) (As := [.ref a_x, .int (tl_I ((xs (i + 1)).toInt)), .ref a_o]) (rest := []) ⟨hx, hb, hml, hown, hts⟩ (kt_L_path l D cy sa a_x a_o ((xs (i + 1)).toInt) ov rm wc fs mc ms post px q3 hM9 hrm (fun v w1 h => (hpo v w1 h).imp (fun r h2 => h2.1)) hpx) (vx_cwSW 3 hts tg_L_path rfl rfl rfl td_L_path ⟨by show 8 + 1 ≤ R.frames; omega, by show 8 + (4 + 11) + 200 ≤ R.locals; omega⟩) hE hN hK (hP.perm (pm_1 q1)) (hD.perm (pm_1 q1)) hS hA rfl hl.1 rfl (Nat.le_of_ble_eq_true rfl) dL_law_1007 ⟨by omega, by omega⟩ (fun v w1 H locs hp hP hD hS => ?_)
  rcases hp with ⟨r, w2, hpp, rfl, rfl⟩ | ⟨k, w2, hpp, hk, rfl, rfl⟩
  · obtain ⟨r2, er, hsm⟩ := hpo _ _ hpp
    have er : tl_I r = tl_I r2 := by injection er with er; injection er
    refine W.eq (g2 := F0 m 1010 ls [.int (tl_I (0 : Int))]) rfl ?_
    refine lv_istore (lv' := [(5, .int (tl_I (0 : Int))), (4, .int (tl_I (i : Int))), (0, .ref b), (1, .ref a_x), (2, .ref a_m), (3, .ref a_o)]) hx hb dL_law_1010 hl (by decide) rfl (fun ls hl => ?_)
    refine lv_aload_n hx hb dL_law_1012 rfl (lv_at hl 4 rfl) ?_
    refine lv_aload_n hx hb dL_law_1013 rfl (lv_at hl 2 rfl) ?_
    refine lv_iload hx hb dL_law_1014 (lv_at hl 1 rfl) ?_
    refine lv_iconst (v := tl_I (1 : Int)) hx hb dL_law_1016 rfl ?_
    refine tr_iadd hx hb dL_law_1017 ?_
    refine ts_sld (j := i + 1) hx hb hX hbl hbA hS (by omega) (by omega) hL dL_law_1018 ?_
    refine tl_callVA (wc := wm) (wr := wn ++ (tl_ja (cy 2) a_o 1 (va_up ov 0 ((fun x => x.toInt64) (tl_I r))) :: (w2 ++ wr))) (As := [.int (tl_I ((xs (i + 1)).toInt))]) (rest := []) ⟨hx, hb, hml, hown, hts⟩ hM10 (cwV 1 hts tg_Lm_path rfl hr1 hr2 td_Lm_path ⟨by omega, by show 8 + (2 + 11) + rm2.locals ≤ R.locals; omega⟩) hK (hP.perm (pm_2 q2)) (hD.perm (pm_2 q2)) hS hA 11 q4 rfl rfl rfl hl.1 rfl (Nat.le_of_ble_eq_true rfl) dL_law_1019 ⟨by omega, by omega⟩ (fun v w3 H locs hp hP hD hS => ?_)
    obtain ⟨rfl, hsm⟩ := hsm _ _ hp
    rw [← List.append_assoc] at hP hD
    obtain ⟨fs3, rr, q5, hM3⟩ := hth _ _ _ hsm
    refine W.eq (g2 := F0 m 1022 ls [.int (tl_I r2)]) rfl ?_
    refine lv_istore (lv' := [(6, .int (tl_I r2)), (5, .int (tl_I (0 : Int))), (4, .int (tl_I (i : Int))), (0, .ref b), (1, .ref a_x), (2, .ref a_m), (3, .ref a_o)]) hx hb dL_law_1022 hl (by decide) rfl (fun ls hl => ?_)
    refine lv_aload_n hx hb dL_law_1024 rfl (lv_at hl 5 rfl) ?_
    refine tl_callVA (wc := [tl_ob a_m 11 fs3]) (wr := rr ++ (tl_ja (cy 2) a_o 1 (va_up ov 0 ((fun x => x.toInt64) (tl_I r))) :: (w2 ++ wr))) (As := []) (rest := []) ⟨hx, hb, hml, hown, hts⟩ hM3 (cwV 0 hts tg_Lm_thrown rfl rfl rfl td_Lm_thrown ⟨by show 0 + 1 ≤ R.frames; omega, by show 8 + (1 + 11) + 0 ≤ R.locals; omega⟩) hK (hP.perm (pm_3 q5)) (hD.perm (pm_3 q5)) hS hA 11 rfl rfl rfl rfl hl.1 rfl (Nat.le_of_ble_eq_true rfl) dL_law_1025 ⟨by omega, by omega⟩ (fun v w4 H locs hp hP hD hS => ?_)
    obtain ⟨rfl, rfl⟩ := hp
    have hP := (hP.perm (pm_3 q5).symm).perm pm_4
    have hD := (hD.perm (pm_3 q5).symm).perm pm_4
    refine W.widen (k := cells + (mc + mcm)) (n := slots + (ms + msm)) (by omega) (by omega) ?_
    refine W.eq (g2 := F0 m 1028 ls [.int (tl_I (0 : Int))]) rfl ?_
    refine lv_iload hx hb dL_law_1028 (lv_at hl 1 rfl) ?_
    refine lv_icmp_eq (tgt := 1035) hx hb dL_law_1030 (by decide) (fun _ => ?_) (fun h => absurd rfl h)
    refine lv_iload hx hb dL_law_1035 (lv_at hl 1 rfl) ?_
    refine lv_if_ne (tgt := 1052) hx hb dL_law_1037 (by decide) (fun h => absurd rfl h) (fun _ => ?_)
    refine lv_aload_n hx hb dL_law_1040 rfl (lv_at hl 6 rfl) ?_
    refine lv_iconst (v := tl_I (0 : Int)) hx hb dL_law_1041 rfl ?_
    refine ts_lald hx hb ⟨by omega, by omega⟩ hK hP 0 2 rfl rfl (by decide) dL_law_1042 ?_
    rw [show (0 : Int).toNat = 0 from rfl, va_up_self, er]
    refine lv_iload hx hb dL_law_1043 (lv_at hl 0 rfl) ?_
    refine lv_i2l (v := (tl_I r2).toInt64) hx hb dL_law_1045 rfl ?_
    refine W.lcmp hx hb dL_law_1046 ?_
    rw [lw_cmp0]
    refine lv_if_eq (tgt := 1052) hx hb dL_law_1047 (by decide) (fun _ => ?_) (fun h => absurd rfl h)
    refine lv_goto (tgt := 1227) hx hb dL_law_1052 (by decide) ?_
    exact kk _ _ _ (va_up ov 0 ((fun x => x.toInt64) (tl_I r))) _ _ _ hsm (hP.perm pm_5) (hD.perm pm_5) hS (lv_less hl (fun q hq => List.mem_cons_of_mem _ (List.mem_cons_of_mem _ hq)))
  · have hsm := hpk k w2 hpp hk
    refine W.eq (g2 := F0 m 1010 ls [.int (tl_I (lf_path k))]) rfl ?_
    refine lv_istore (lv' := [(5, .int (tl_I (lf_path k))), (4, .int (tl_I (i : Int))), (0, .ref b), (1, .ref a_x), (2, .ref a_m), (3, .ref a_o)]) hx hb dL_law_1010 hl (by decide) rfl (fun ls hl => ?_)
    refine lv_aload_n hx hb dL_law_1012 rfl (lv_at hl 4 rfl) ?_
    refine lv_aload_n hx hb dL_law_1013 rfl (lv_at hl 2 rfl) ?_
    refine lv_iload hx hb dL_law_1014 (lv_at hl 1 rfl) ?_
    refine lv_iconst (v := tl_I (1 : Int)) hx hb dL_law_1016 rfl ?_
    refine tr_iadd hx hb dL_law_1017 ?_
    refine ts_sld (j := i + 1) hx hb hX hbl hbA hS (by omega) (by omega) hL dL_law_1018 ?_
    refine tl_callVA (wc := wm) (wr := wn ++ (tl_ja (cy 2) a_o 1 ov :: (w2 ++ wr))) (As := [.int (tl_I ((xs (i + 1)).toInt))]) (rest := []) ⟨hx, hb, hml, hown, hts⟩ hM10 (cwV 1 hts tg_Lm_path rfl hr1 hr2 td_Lm_path ⟨by omega, by show 8 + (2 + 11) + rm2.locals ≤ R.locals; omega⟩) hK (hP.perm (pm_2 q2)) (hD.perm (pm_2 q2)) hS hA 11 q4 rfl rfl rfl hl.1 rfl (Nat.le_of_ble_eq_true rfl) dL_law_1019 ⟨by omega, by omega⟩ (fun v w3 H locs hp hP hD hS => ?_)
    obtain ⟨r2, rfl, hsm⟩ := hsm _ _ hp
    rw [← List.append_assoc] at hP hD
    obtain ⟨fs3, rr, q5, hM3⟩ := hth _ _ _ hsm
    refine W.eq (g2 := F0 m 1022 ls [.int (tl_I r2)]) rfl ?_
    refine lv_istore (lv' := [(6, .int (tl_I r2)), (5, .int (tl_I (lf_path k))), (4, .int (tl_I (i : Int))), (0, .ref b), (1, .ref a_x), (2, .ref a_m), (3, .ref a_o)]) hx hb dL_law_1022 hl (by decide) rfl (fun ls hl => ?_)
    refine lv_aload_n hx hb dL_law_1024 rfl (lv_at hl 5 rfl) ?_
    refine tl_callVA (wc := [tl_ob a_m 11 fs3]) (wr := rr ++ (tl_ja (cy 2) a_o 1 ov :: (w2 ++ wr))) (As := []) (rest := []) ⟨hx, hb, hml, hown, hts⟩ hM3 (cwV 0 hts tg_Lm_thrown rfl rfl rfl td_Lm_thrown ⟨by show 0 + 1 ≤ R.frames; omega, by show 8 + (1 + 11) + 0 ≤ R.locals; omega⟩) hK (hP.perm (pm_3 q5)) (hD.perm (pm_3 q5)) hS hA 11 rfl rfl rfl rfl hl.1 rfl (Nat.le_of_ble_eq_true rfl) dL_law_1025 ⟨by omega, by omega⟩ (fun v w4 H locs hp hP hD hS => ?_)
    obtain ⟨rfl, rfl⟩ := hp
    have hP := (hP.perm (pm_3 q5).symm).perm pm_4
    have hD := (hD.perm (pm_3 q5).symm).perm pm_4
    refine W.widen (k := cells + (mc + mcm)) (n := slots + (ms + msm)) (by omega) (by omega) ?_
    refine W.eq (g2 := F0 m 1028 ls [.int (tl_I (lf_path k))]) rfl ?_
    refine lv_iload hx hb dL_law_1028 (lv_at hl 1 rfl) ?_
    refine lv_icmp_eq (tgt := 1035) hx hb dL_law_1030 (by decide) (fun _ => ?_) (fun h => absurd rfl h)
    refine lv_iload hx hb dL_law_1035 (lv_at hl 1 rfl) ?_
    refine lv_if_ne (tgt := 1052) hx hb dL_law_1037 (by decide) (fun _ => ?_) (fun h => absurd ((tl_eq (lf_path_6 hk).1 tl_R0).mp h) (lf_path_6 hk).2)
    refine lv_goto (tgt := 1227) hx hb dL_law_1052 (by decide) ?_
    exact kk _ _ _ ov _ _ _ hsm (hP.perm pm_5) (hD.perm pm_5) hS (lv_less hl (fun q hq => List.mem_cons_of_mem _ (List.mem_cons_of_mem _ hq)))
set_option maxHeartbeats 4000000 in
set_option maxRecDepth 20000 in
theorem lc_begin (hx : p.tables.exec = Jvm.exec) (hb : c.code = cL_law) (hml : c.maxLocals = 7) (hown : s.vm.findClass RL = some m.cls) (hts : ∀ w ∈ tl_T, w.before args s = true) (hX : va_X b L xs s s.heap) (hbl : b < s.heap.size) (hbA : ¬ A b) (hA : ∀ q, s.heap.size ≤ q → A q) (hL : L ≤ 2560) (hE : tl_E sa A s s.heap) (hN : tl_NC s) (hK : va_K D vwCl (tl_tys cy) s) (hR : 11 ≤ R.frames ∧ 410 ≤ R.locals) (hi : i + 5 ≤ L)
    {CW MW : va_W} {ov : Nat → Int64} {mc ms mcm msm cells slots : Nat} (hok : lw_OK l D cy sa yX9_begin cX9_begin 2 .int yX10_begin cX10_begin 3 .int a_x a_m [] lf_level SM mc ms mcm msm CW MW) (hth : lw_TH l D cy a_m SM) (hf : cells + (mc + mcm) ≤ R.cells ∧ slots + (ms + msm) ≤ R.slots)
    {H : Heap} {locs : List Loc} {ls : Array Slot} (hP : va_P D vwCl (CW ++ (MW ++ [tl_ja (cy 2) a_o 1 ov])) H) (hD : va_D A (CW ++ (MW ++ [tl_ja (cy 2) a_o 1 ov]))) (hS : va_S A s.heap H locs) (hl : lv_has ls 7 [(4, .int (tl_I (i : Int))), (0, .ref b), (1, .ref a_x), (2, .ref a_m), (3, .ref a_o)])
    (kk : ∀ (t : Int) (CW2 MW2 : va_W) (ov2 : Nat → Int64) (H : Heap) (locs : List Loc) (ls : Array Slot), SM t CW2 MW2 → va_P D vwCl (CW2 ++ (MW2 ++ [tl_ja (cy 2) a_o 1 ov2])) H → va_D A (CW2 ++ (MW2 ++ [tl_ja (cy 2) a_o 1 ov2])) → va_S A s.heap H locs → lv_has ls 7 [(4, .int (tl_I (i : Int))), (0, .ref b), (1, .ref a_x), (2, .ref a_m), (3, .ref a_o)] → W p l e R s m args below meth c H locs (cells + (mc + mcm)) (slots + (ms + msm)) Q (F0 m 1227 ls [])) :
    W p l e R s m args below meth c H locs cells slots Q (F0 m 1055 ls []) := by
  obtain ⟨rm, rm2, wc, wr, wm, wn, post, px, postm, fs, fs2, q1, q2, q3, q4, hM9, hrm, hM10, ⟨hr1, hr2, hr3, hr4⟩, hpo, hpx, hpk⟩ := hok
  refine lv_aload_n hx hb dL_law_1055 rfl (lv_at hl 2 rfl) ?_
  refine lv_aload_n hx hb dL_law_1056 rfl (lv_at hl 4 rfl) ?_
  refine tl_callYA (wc := tl_ja (cy 2) a_o 1 ov :: wc) (wr := wr ++ MW) (As := [.ref a_x, .ref a_o]) (rest := []) ⟨hx, hb, hml, hown, hts⟩ (kt_L_begin l D cy sa a_x a_o ov rm wc fs mc ms post px q3 hM9 hrm (fun v w1 h => (hpo v w1 h).imp (fun r h2 => h2.1)) hpx) (vx_cwSW 2 hts tg_L_begin rfl rfl rfl td_L_begin ⟨by show 8 + 1 ≤ R.frames; omega, by show 8 + (3 + 11) + 200 ≤ R.locals; omega⟩) hE hN hK (hP.perm (pm_1 q1)) (hD.perm (pm_1 q1)) hS hA rfl hl.1 rfl (Nat.le_of_ble_eq_true rfl) dL_law_1057 ⟨by omega, by omega⟩ (fun v w1 H locs hp hP hD hS => ?_)
  rcases hp with ⟨r, w2, hpp, rfl, rfl⟩ | ⟨k, w2, hpp, hk, rfl, rfl⟩
  · obtain ⟨r2, er, hsm⟩ := hpo _ _ hpp
    have er : tl_I r = tl_I r2 := by injection er with er; injection er
    refine W.eq (g2 := F0 m 1060 ls [.int (tl_I (0 : Int))]) rfl ?_
    refine lv_istore (lv' := [(5, .int (tl_I (0 : Int))), (4, .int (tl_I (i : Int))), (0, .ref b), (1, .ref a_x), (2, .ref a_m), (3, .ref a_o)]) hx hb dL_law_1060 hl (by decide) rfl (fun ls hl => ?_)
    refine lv_aload_n hx hb dL_law_1062 rfl (lv_at hl 4 rfl) ?_
    refine tl_callVA (wc := wm) (wr := wn ++ (tl_ja (cy 2) a_o 1 (va_up ov 0 ((fun x => x.toInt64) (tl_I r))) :: (w2 ++ wr))) (As := []) (rest := []) ⟨hx, hb, hml, hown, hts⟩ hM10 (cwV 0 hts tg_Lm_begin rfl hr1 hr2 td_Lm_begin ⟨by omega, by show 8 + (3 + 11) + rm2.locals ≤ R.locals; omega⟩) hK (hP.perm (pm_2 q2)) (hD.perm (pm_2 q2)) hS hA 11 q4 rfl rfl rfl hl.1 rfl (Nat.le_of_ble_eq_true rfl) dL_law_1063 ⟨by omega, by omega⟩ (fun v w3 H locs hp hP hD hS => ?_)
    obtain ⟨rfl, hsm⟩ := hsm _ _ hp
    rw [← List.append_assoc] at hP hD
    obtain ⟨fs3, rr, q5, hM3⟩ := hth _ _ _ hsm
    refine W.eq (g2 := F0 m 1066 ls [.int (tl_I r2)]) rfl ?_
    refine lv_istore (lv' := [(6, .int (tl_I r2)), (5, .int (tl_I (0 : Int))), (4, .int (tl_I (i : Int))), (0, .ref b), (1, .ref a_x), (2, .ref a_m), (3, .ref a_o)]) hx hb dL_law_1066 hl (by decide) rfl (fun ls hl => ?_)
    refine lv_aload_n hx hb dL_law_1068 rfl (lv_at hl 5 rfl) ?_
    refine tl_callVA (wc := [tl_ob a_m 11 fs3]) (wr := rr ++ (tl_ja (cy 2) a_o 1 (va_up ov 0 ((fun x => x.toInt64) (tl_I r))) :: (w2 ++ wr))) (As := []) (rest := []) ⟨hx, hb, hml, hown, hts⟩ hM3 (cwV 0 hts tg_Lm_thrown rfl rfl rfl td_Lm_thrown ⟨by show 0 + 1 ≤ R.frames; omega, by show 8 + (1 + 11) + 0 ≤ R.locals; omega⟩) hK (hP.perm (pm_3 q5)) (hD.perm (pm_3 q5)) hS hA 11 rfl rfl rfl rfl hl.1 rfl (Nat.le_of_ble_eq_true rfl) dL_law_1069 ⟨by omega, by omega⟩ (fun v w4 H locs hp hP hD hS => ?_)
    obtain ⟨rfl, rfl⟩ := hp
    have hP := (hP.perm (pm_3 q5).symm).perm pm_4
    have hD := (hD.perm (pm_3 q5).symm).perm pm_4
    refine W.widen (k := cells + (mc + mcm)) (n := slots + (ms + msm)) (by omega) (by omega) ?_
    refine W.eq (g2 := F0 m 1072 ls [.int (tl_I (0 : Int))]) rfl ?_
    refine lv_iload hx hb dL_law_1072 (lv_at hl 1 rfl) ?_
    refine lv_icmp_eq (tgt := 1079) hx hb dL_law_1074 (by decide) (fun _ => ?_) (fun h => absurd rfl h)
    refine lv_iload hx hb dL_law_1079 (lv_at hl 1 rfl) ?_
    refine lv_if_ne (tgt := 1096) hx hb dL_law_1081 (by decide) (fun h => absurd rfl h) (fun _ => ?_)
    refine lv_aload_n hx hb dL_law_1084 rfl (lv_at hl 6 rfl) ?_
    refine lv_iconst (v := tl_I (0 : Int)) hx hb dL_law_1085 rfl ?_
    refine ts_lald hx hb ⟨by omega, by omega⟩ hK hP 0 2 rfl rfl (by decide) dL_law_1086 ?_
    rw [show (0 : Int).toNat = 0 from rfl, va_up_self, er]
    refine lv_iload hx hb dL_law_1087 (lv_at hl 0 rfl) ?_
    refine lv_i2l (v := (tl_I r2).toInt64) hx hb dL_law_1089 rfl ?_
    refine W.lcmp hx hb dL_law_1090 ?_
    rw [lw_cmp0]
    refine lv_if_eq (tgt := 1096) hx hb dL_law_1091 (by decide) (fun _ => ?_) (fun h => absurd rfl h)
    refine lv_goto (tgt := 1227) hx hb dL_law_1096 (by decide) ?_
    exact kk _ _ _ (va_up ov 0 ((fun x => x.toInt64) (tl_I r))) _ _ _ hsm (hP.perm pm_5) (hD.perm pm_5) hS (lv_less hl (fun q hq => List.mem_cons_of_mem _ (List.mem_cons_of_mem _ hq)))
  · have hsm := hpk k w2 hpp hk
    refine W.eq (g2 := F0 m 1060 ls [.int (tl_I (lf_level k))]) rfl ?_
    refine lv_istore (lv' := [(5, .int (tl_I (lf_level k))), (4, .int (tl_I (i : Int))), (0, .ref b), (1, .ref a_x), (2, .ref a_m), (3, .ref a_o)]) hx hb dL_law_1060 hl (by decide) rfl (fun ls hl => ?_)
    refine lv_aload_n hx hb dL_law_1062 rfl (lv_at hl 4 rfl) ?_
    refine tl_callVA (wc := wm) (wr := wn ++ (tl_ja (cy 2) a_o 1 ov :: (w2 ++ wr))) (As := []) (rest := []) ⟨hx, hb, hml, hown, hts⟩ hM10 (cwV 0 hts tg_Lm_begin rfl hr1 hr2 td_Lm_begin ⟨by omega, by show 8 + (3 + 11) + rm2.locals ≤ R.locals; omega⟩) hK (hP.perm (pm_2 q2)) (hD.perm (pm_2 q2)) hS hA 11 q4 rfl rfl rfl hl.1 rfl (Nat.le_of_ble_eq_true rfl) dL_law_1063 ⟨by omega, by omega⟩ (fun v w3 H locs hp hP hD hS => ?_)
    obtain ⟨r2, rfl, hsm⟩ := hsm _ _ hp
    rw [← List.append_assoc] at hP hD
    obtain ⟨fs3, rr, q5, hM3⟩ := hth _ _ _ hsm
    refine W.eq (g2 := F0 m 1066 ls [.int (tl_I r2)]) rfl ?_
    refine lv_istore (lv' := [(6, .int (tl_I r2)), (5, .int (tl_I (lf_level k))), (4, .int (tl_I (i : Int))), (0, .ref b), (1, .ref a_x), (2, .ref a_m), (3, .ref a_o)]) hx hb dL_law_1066 hl (by decide) rfl (fun ls hl => ?_)
    refine lv_aload_n hx hb dL_law_1068 rfl (lv_at hl 5 rfl) ?_
    refine tl_callVA (wc := [tl_ob a_m 11 fs3]) (wr := rr ++ (tl_ja (cy 2) a_o 1 ov :: (w2 ++ wr))) (As := []) (rest := []) ⟨hx, hb, hml, hown, hts⟩ hM3 (cwV 0 hts tg_Lm_thrown rfl rfl rfl td_Lm_thrown ⟨by show 0 + 1 ≤ R.frames; omega, by show 8 + (1 + 11) + 0 ≤ R.locals; omega⟩) hK (hP.perm (pm_3 q5)) (hD.perm (pm_3 q5)) hS hA 11 rfl rfl rfl rfl hl.1 rfl (Nat.le_of_ble_eq_true rfl) dL_law_1069 ⟨by omega, by omega⟩ (fun v w4 H locs hp hP hD hS => ?_)
    obtain ⟨rfl, rfl⟩ := hp
    have hP := (hP.perm (pm_3 q5).symm).perm pm_4
    have hD := (hD.perm (pm_3 q5).symm).perm pm_4
    refine W.widen (k := cells + (mc + mcm)) (n := slots + (ms + msm)) (by omega) (by omega) ?_
    refine W.eq (g2 := F0 m 1072 ls [.int (tl_I (lf_level k))]) rfl ?_
    refine lv_iload hx hb dL_law_1072 (lv_at hl 1 rfl) ?_
    refine lv_icmp_eq (tgt := 1079) hx hb dL_law_1074 (by decide) (fun _ => ?_) (fun h => absurd rfl h)
    refine lv_iload hx hb dL_law_1079 (lv_at hl 1 rfl) ?_
    refine lv_if_ne (tgt := 1096) hx hb dL_law_1081 (by decide) (fun _ => ?_) (fun h => absurd ((tl_eq (lf_level_6 hk).1 tl_R0).mp h) (lf_level_6 hk).2)
    refine lv_goto (tgt := 1227) hx hb dL_law_1096 (by decide) ?_
    exact kk _ _ _ ov _ _ _ hsm (hP.perm pm_5) (hD.perm pm_5) hS (lv_less hl (fun q hq => List.mem_cons_of_mem _ (List.mem_cons_of_mem _ hq)))
set_option maxHeartbeats 4000000 in
set_option maxRecDepth 20000 in
theorem lc_end (hx : p.tables.exec = Jvm.exec) (hb : c.code = cL_law) (hml : c.maxLocals = 7) (hown : s.vm.findClass RL = some m.cls) (hts : ∀ w ∈ tl_T, w.before args s = true) (hX : va_X b L xs s s.heap) (hbl : b < s.heap.size) (hbA : ¬ A b) (hA : ∀ q, s.heap.size ≤ q → A q) (hL : L ≤ 2560) (hE : tl_E sa A s s.heap) (hN : tl_NC s) (hK : va_K D vwCl (tl_tys cy) s) (hR : 11 ≤ R.frames ∧ 410 ≤ R.locals) (hi : i + 5 ≤ L)
    {CW MW : va_W} {ov : Nat → Int64} {mc ms mcm msm cells slots : Nat} (hok : lw_OK l D cy sa yX9_end cX9_end 3 .int yX10_end cX10_end 2 .int a_x a_m [.int (tl_I (if xs (i + 1) = 0 then (0 : Int) else 1))] lf_level SM mc ms mcm msm CW MW) (hth : lw_TH l D cy a_m SM) (hf : cells + (mc + mcm) ≤ R.cells ∧ slots + (ms + msm) ≤ R.slots)
    {H : Heap} {locs : List Loc} {ls : Array Slot} (hP : va_P D vwCl (CW ++ (MW ++ [tl_ja (cy 2) a_o 1 ov])) H) (hD : va_D A (CW ++ (MW ++ [tl_ja (cy 2) a_o 1 ov]))) (hS : va_S A s.heap H locs) (hl : lv_has ls 7 [(4, .int (tl_I (i : Int))), (0, .ref b), (1, .ref a_x), (2, .ref a_m), (3, .ref a_o)])
    (kk : ∀ (t : Int) (CW2 MW2 : va_W) (ov2 : Nat → Int64) (H : Heap) (locs : List Loc) (ls : Array Slot), SM t CW2 MW2 → va_P D vwCl (CW2 ++ (MW2 ++ [tl_ja (cy 2) a_o 1 ov2])) H → va_D A (CW2 ++ (MW2 ++ [tl_ja (cy 2) a_o 1 ov2])) → va_S A s.heap H locs → lv_has ls 7 [(4, .int (tl_I (i : Int))), (0, .ref b), (1, .ref a_x), (2, .ref a_m), (3, .ref a_o)] → W p l e R s m args below meth c H locs (cells + (mc + mcm)) (slots + (ms + msm)) Q (F0 m 1227 ls [])) :
    W p l e R s m args below meth c H locs cells slots Q (F0 m 1099 ls []) := by
  obtain ⟨rm, rm2, wc, wr, wm, wn, post, px, postm, fs, fs2, q1, q2, q3, q4, hM9, hrm, hM10, ⟨hr1, hr2, hr3, hr4⟩, hpo, hpx, hpk⟩ := hok
  refine lv_aload_n hx hb dL_law_1099 rfl (lv_at hl 2 rfl) ?_
  refine lv_aload_n hx hb dL_law_1100 rfl (lv_at hl 1 rfl) ?_
  refine lv_iload hx hb dL_law_1101 (lv_at hl 0 rfl) ?_
  refine lv_iconst (v := tl_I (1 : Int)) hx hb dL_law_1103 rfl ?_
  refine tr_iadd hx hb dL_law_1104 ?_
  refine ts_sld (j := i + 1) hx hb hX hbl hbA hS (by omega) (by omega) hL dL_law_1105 ?_
  refine lw_bool (tgt := 1113) (nxt := 1114) (x := xs (i + 1)) hx hb dL_law_1106 dL_law_1109 dL_law_1110 dL_law_1113 rfl (by decide) (by decide) ?_
  refine lv_aload_n hx hb dL_law_1114 rfl (lv_at hl 4 rfl) ?_
  refine tl_callYA (wc := tl_ja (cy 2) a_o 1 ov :: wc) (wr := wr ++ MW) (As := [.ref a_x, .int (tl_I (if xs (i + 1) = 0 then (0 : Int) else 1)), .ref a_o]) (rest := []) ⟨hx, hb, hml, hown, hts⟩ (kt_L_end l D cy sa a_x a_o (if xs (i + 1) = 0 then (0 : Int) else 1) ov rm wc fs mc ms post px q3 hM9 hrm (fun v w1 h => (hpo v w1 h).imp (fun r h2 => h2.1)) hpx) (vx_cwSW 3 hts tg_L_end rfl rfl rfl td_L_end ⟨by show 8 + 1 ≤ R.frames; omega, by show 8 + (4 + 11) + 200 ≤ R.locals; omega⟩) hE hN hK (hP.perm (pm_1 q1)) (hD.perm (pm_1 q1)) hS hA rfl hl.1 rfl (Nat.le_of_ble_eq_true rfl) dL_law_1115 ⟨by omega, by omega⟩ (fun v w1 H locs hp hP hD hS => ?_)
  rcases hp with ⟨r, w2, hpp, rfl, rfl⟩ | ⟨k, w2, hpp, hk, rfl, rfl⟩
  · obtain ⟨r2, er, hsm⟩ := hpo _ _ hpp
    have er : tl_I r = tl_I r2 := by injection er with er; injection er
    refine W.eq (g2 := F0 m 1118 ls [.int (tl_I (0 : Int))]) rfl ?_
    refine lv_istore (lv' := [(5, .int (tl_I (0 : Int))), (4, .int (tl_I (i : Int))), (0, .ref b), (1, .ref a_x), (2, .ref a_m), (3, .ref a_o)]) hx hb dL_law_1118 hl (by decide) rfl (fun ls hl => ?_)
    refine lv_aload_n hx hb dL_law_1120 rfl (lv_at hl 4 rfl) ?_
    refine lv_aload_n hx hb dL_law_1121 rfl (lv_at hl 2 rfl) ?_
    refine lv_iload hx hb dL_law_1122 (lv_at hl 1 rfl) ?_
    refine lv_iconst (v := tl_I (1 : Int)) hx hb dL_law_1124 rfl ?_
    refine tr_iadd hx hb dL_law_1125 ?_
    refine ts_sld (j := i + 1) hx hb hX hbl hbA hS (by omega) (by omega) hL dL_law_1126 ?_
    refine lw_bool (tgt := 1134) (nxt := 1135) (x := xs (i + 1)) hx hb dL_law_1127 dL_law_1130 dL_law_1131 dL_law_1134 rfl (by decide) (by decide) ?_
    refine tl_callVA (wc := wm) (wr := wn ++ (tl_ja (cy 2) a_o 1 (va_up ov 0 ((fun x => x.toInt64) (tl_I r))) :: (w2 ++ wr))) (As := [.int (tl_I (if xs (i + 1) = 0 then (0 : Int) else 1))]) (rest := []) ⟨hx, hb, hml, hown, hts⟩ hM10 (cwV 1 hts tg_Lm_end rfl hr1 hr2 td_Lm_end ⟨by omega, by show 8 + (2 + 11) + rm2.locals ≤ R.locals; omega⟩) hK (hP.perm (pm_2 q2)) (hD.perm (pm_2 q2)) hS hA 11 q4 rfl rfl rfl hl.1 rfl (Nat.le_of_ble_eq_true rfl) dL_law_1135 ⟨by omega, by omega⟩ (fun v w3 H locs hp hP hD hS => ?_)
    obtain ⟨rfl, hsm⟩ := hsm _ _ hp
    rw [← List.append_assoc] at hP hD
    obtain ⟨fs3, rr, q5, hM3⟩ := hth _ _ _ hsm
    refine W.eq (g2 := F0 m 1138 ls [.int (tl_I r2)]) rfl ?_
    refine lv_istore (lv' := [(6, .int (tl_I r2)), (5, .int (tl_I (0 : Int))), (4, .int (tl_I (i : Int))), (0, .ref b), (1, .ref a_x), (2, .ref a_m), (3, .ref a_o)]) hx hb dL_law_1138 hl (by decide) rfl (fun ls hl => ?_)
    refine lv_aload_n hx hb dL_law_1140 rfl (lv_at hl 5 rfl) ?_
    refine tl_callVA (wc := [tl_ob a_m 11 fs3]) (wr := rr ++ (tl_ja (cy 2) a_o 1 (va_up ov 0 ((fun x => x.toInt64) (tl_I r))) :: (w2 ++ wr))) (As := []) (rest := []) ⟨hx, hb, hml, hown, hts⟩ hM3 (cwV 0 hts tg_Lm_thrown rfl rfl rfl td_Lm_thrown ⟨by show 0 + 1 ≤ R.frames; omega, by show 8 + (1 + 11) + 0 ≤ R.locals; omega⟩) hK (hP.perm (pm_3 q5)) (hD.perm (pm_3 q5)) hS hA 11 rfl rfl rfl rfl hl.1 rfl (Nat.le_of_ble_eq_true rfl) dL_law_1141 ⟨by omega, by omega⟩ (fun v w4 H locs hp hP hD hS => ?_)
    obtain ⟨rfl, rfl⟩ := hp
    have hP := (hP.perm (pm_3 q5).symm).perm pm_4
    have hD := (hD.perm (pm_3 q5).symm).perm pm_4
    refine W.widen (k := cells + (mc + mcm)) (n := slots + (ms + msm)) (by omega) (by omega) ?_
    refine W.eq (g2 := F0 m 1144 ls [.int (tl_I (0 : Int))]) rfl ?_
    refine lv_iload hx hb dL_law_1144 (lv_at hl 1 rfl) ?_
    refine lv_icmp_eq (tgt := 1151) hx hb dL_law_1146 (by decide) (fun _ => ?_) (fun h => absurd rfl h)
    refine lv_iload hx hb dL_law_1151 (lv_at hl 1 rfl) ?_
    refine lv_if_ne (tgt := 1168) hx hb dL_law_1153 (by decide) (fun h => absurd rfl h) (fun _ => ?_)
    refine lv_aload_n hx hb dL_law_1156 rfl (lv_at hl 6 rfl) ?_
    refine lv_iconst (v := tl_I (0 : Int)) hx hb dL_law_1157 rfl ?_
    refine ts_lald hx hb ⟨by omega, by omega⟩ hK hP 0 2 rfl rfl (by decide) dL_law_1158 ?_
    rw [show (0 : Int).toNat = 0 from rfl, va_up_self, er]
    refine lv_iload hx hb dL_law_1159 (lv_at hl 0 rfl) ?_
    refine lv_i2l (v := (tl_I r2).toInt64) hx hb dL_law_1161 rfl ?_
    refine W.lcmp hx hb dL_law_1162 ?_
    rw [lw_cmp0]
    refine lv_if_eq (tgt := 1168) hx hb dL_law_1163 (by decide) (fun _ => ?_) (fun h => absurd rfl h)
    refine lv_goto (tgt := 1227) hx hb dL_law_1168 (by decide) ?_
    exact kk _ _ _ (va_up ov 0 ((fun x => x.toInt64) (tl_I r))) _ _ _ hsm (hP.perm pm_5) (hD.perm pm_5) hS (lv_less hl (fun q hq => List.mem_cons_of_mem _ (List.mem_cons_of_mem _ hq)))
  · have hsm := hpk k w2 hpp hk
    refine W.eq (g2 := F0 m 1118 ls [.int (tl_I (lf_level k))]) rfl ?_
    refine lv_istore (lv' := [(5, .int (tl_I (lf_level k))), (4, .int (tl_I (i : Int))), (0, .ref b), (1, .ref a_x), (2, .ref a_m), (3, .ref a_o)]) hx hb dL_law_1118 hl (by decide) rfl (fun ls hl => ?_)
    refine lv_aload_n hx hb dL_law_1120 rfl (lv_at hl 4 rfl) ?_
    refine lv_aload_n hx hb dL_law_1121 rfl (lv_at hl 2 rfl) ?_
    refine lv_iload hx hb dL_law_1122 (lv_at hl 1 rfl) ?_
    refine lv_iconst (v := tl_I (1 : Int)) hx hb dL_law_1124 rfl ?_
    refine tr_iadd hx hb dL_law_1125 ?_
    refine ts_sld (j := i + 1) hx hb hX hbl hbA hS (by omega) (by omega) hL dL_law_1126 ?_
    refine lw_bool (tgt := 1134) (nxt := 1135) (x := xs (i + 1)) hx hb dL_law_1127 dL_law_1130 dL_law_1131 dL_law_1134 rfl (by decide) (by decide) ?_
    refine tl_callVA (wc := wm) (wr := wn ++ (tl_ja (cy 2) a_o 1 ov :: (w2 ++ wr))) (As := [.int (tl_I (if xs (i + 1) = 0 then (0 : Int) else 1))]) (rest := []) ⟨hx, hb, hml, hown, hts⟩ hM10 (cwV 1 hts tg_Lm_end rfl hr1 hr2 td_Lm_end ⟨by omega, by show 8 + (2 + 11) + rm2.locals ≤ R.locals; omega⟩) hK (hP.perm (pm_2 q2)) (hD.perm (pm_2 q2)) hS hA 11 q4 rfl rfl rfl hl.1 rfl (Nat.le_of_ble_eq_true rfl) dL_law_1135 ⟨by omega, by omega⟩ (fun v w3 H locs hp hP hD hS => ?_)
    obtain ⟨r2, rfl, hsm⟩ := hsm _ _ hp
    rw [← List.append_assoc] at hP hD
    obtain ⟨fs3, rr, q5, hM3⟩ := hth _ _ _ hsm
    refine W.eq (g2 := F0 m 1138 ls [.int (tl_I r2)]) rfl ?_
    refine lv_istore (lv' := [(6, .int (tl_I r2)), (5, .int (tl_I (lf_level k))), (4, .int (tl_I (i : Int))), (0, .ref b), (1, .ref a_x), (2, .ref a_m), (3, .ref a_o)]) hx hb dL_law_1138 hl (by decide) rfl (fun ls hl => ?_)
    refine lv_aload_n hx hb dL_law_1140 rfl (lv_at hl 5 rfl) ?_
    refine tl_callVA (wc := [tl_ob a_m 11 fs3]) (wr := rr ++ (tl_ja (cy 2) a_o 1 ov :: (w2 ++ wr))) (As := []) (rest := []) ⟨hx, hb, hml, hown, hts⟩ hM3 (cwV 0 hts tg_Lm_thrown rfl rfl rfl td_Lm_thrown ⟨by show 0 + 1 ≤ R.frames; omega, by show 8 + (1 + 11) + 0 ≤ R.locals; omega⟩) hK (hP.perm (pm_3 q5)) (hD.perm (pm_3 q5)) hS hA 11 rfl rfl rfl rfl hl.1 rfl (Nat.le_of_ble_eq_true rfl) dL_law_1141 ⟨by omega, by omega⟩ (fun v w4 H locs hp hP hD hS => ?_)
    obtain ⟨rfl, rfl⟩ := hp
    have hP := (hP.perm (pm_3 q5).symm).perm pm_4
    have hD := (hD.perm (pm_3 q5).symm).perm pm_4
    refine W.widen (k := cells + (mc + mcm)) (n := slots + (ms + msm)) (by omega) (by omega) ?_
    refine W.eq (g2 := F0 m 1144 ls [.int (tl_I (lf_level k))]) rfl ?_
    refine lv_iload hx hb dL_law_1144 (lv_at hl 1 rfl) ?_
    refine lv_icmp_eq (tgt := 1151) hx hb dL_law_1146 (by decide) (fun _ => ?_) (fun h => absurd rfl h)
    refine lv_iload hx hb dL_law_1151 (lv_at hl 1 rfl) ?_
    refine lv_if_ne (tgt := 1168) hx hb dL_law_1153 (by decide) (fun _ => ?_) (fun h => absurd ((tl_eq (lf_level_6 hk).1 tl_R0).mp h) (lf_level_6 hk).2)
    refine lv_goto (tgt := 1227) hx hb dL_law_1168 (by decide) ?_
    exact kk _ _ _ ov _ _ _ hsm (hP.perm pm_5) (hD.perm pm_5) hS (lv_less hl (fun q hq => List.mem_cons_of_mem _ (List.mem_cons_of_mem _ hq)))
set_option maxHeartbeats 4000000 in
set_option maxRecDepth 20000 in
theorem lc_count (hx : p.tables.exec = Jvm.exec) (hb : c.code = cL_law) (hml : c.maxLocals = 7) (hown : s.vm.findClass RL = some m.cls) (hts : ∀ w ∈ tl_T, w.before args s = true) (hX : va_X b L xs s s.heap) (hbl : b < s.heap.size) (hbA : ¬ A b) (hA : ∀ q, s.heap.size ≤ q → A q) (hL : L ≤ 2560) (hE : tl_E sa A s s.heap) (hN : tl_NC s) (hK : va_K D vwCl (tl_tys cy) s) (hR : 11 ≤ R.frames ∧ 410 ≤ R.locals) (hi : i + 5 ≤ L)
    {CW MW : va_W} {ov : Nat → Int64} {mc ms mcm msm cells slots : Nat} (hok : lw_OK l D cy sa yX9_count cX9_count 2 .int yX10_count cX10_count 5 .int a_x a_m [.int (tl_I ((xs (i + 1)).toInt))] lf_count SM mc ms mcm msm CW MW) (hth : lw_TH l D cy a_m SM) (hf : cells + (mc + mcm) ≤ R.cells ∧ slots + (ms + msm) ≤ R.slots)
    {H : Heap} {locs : List Loc} {ls : Array Slot} (hP : va_P D vwCl (CW ++ (MW ++ [tl_ja (cy 2) a_o 1 ov])) H) (hD : va_D A (CW ++ (MW ++ [tl_ja (cy 2) a_o 1 ov]))) (hS : va_S A s.heap H locs) (hl : lv_has ls 7 [(4, .int (tl_I (i : Int))), (0, .ref b), (1, .ref a_x), (2, .ref a_m), (3, .ref a_o)])
    (kk : ∀ (t : Int) (CW2 MW2 : va_W) (ov2 : Nat → Int64) (H : Heap) (locs : List Loc) (ls : Array Slot), SM t CW2 MW2 → va_P D vwCl (CW2 ++ (MW2 ++ [tl_ja (cy 2) a_o 1 ov2])) H → va_D A (CW2 ++ (MW2 ++ [tl_ja (cy 2) a_o 1 ov2])) → va_S A s.heap H locs → lv_has ls 7 [(4, .int (tl_I (i : Int))), (0, .ref b), (1, .ref a_x), (2, .ref a_m), (3, .ref a_o)] → W p l e R s m args below meth c H locs (cells + (mc + mcm)) (slots + (ms + msm)) Q (F0 m 1227 ls [])) :
    W p l e R s m args below meth c H locs cells slots Q (F0 m 1171 ls []) := by
  obtain ⟨rm, rm2, wc, wr, wm, wn, post, px, postm, fs, fs2, q1, q2, q3, q4, hM9, hrm, hM10, ⟨hr1, hr2, hr3, hr4⟩, hpo, hpx, hpk⟩ := hok
  refine lv_aload_n hx hb dL_law_1171 rfl (lv_at hl 2 rfl) ?_
  refine lv_aload_n hx hb dL_law_1172 rfl (lv_at hl 1 rfl) ?_
  refine lv_iload hx hb dL_law_1173 (lv_at hl 0 rfl) ?_
  refine lv_iconst (v := tl_I (1 : Int)) hx hb dL_law_1175 rfl ?_
  refine tr_iadd hx hb dL_law_1176 ?_
  refine ts_sld (j := i + 1) hx hb hX hbl hbA hS (by omega) (by omega) hL dL_law_1177 ?_
  refine lv_aload_n hx hb dL_law_1178 rfl (lv_at hl 4 rfl) ?_
  refine tl_callYA (wc := tl_ja (cy 2) a_o 1 ov :: wc) (wr := wr ++ MW) (As := [.ref a_x, .int (tl_I ((xs (i + 1)).toInt)), .ref a_o]) (rest := []) ⟨hx, hb, hml, hown, hts⟩ (kt_L_count l D cy sa a_x a_o ((xs (i + 1)).toInt) ov rm wc fs mc ms post px q3 hM9 hrm (fun v w1 h => (hpo v w1 h).imp (fun r h2 => h2.1)) hpx) (vx_cwSW 3 hts tg_L_count rfl rfl rfl td_L_count ⟨by show 8 + 1 ≤ R.frames; omega, by show 8 + (4 + 11) + 200 ≤ R.locals; omega⟩) hE hN hK (hP.perm (pm_1 q1)) (hD.perm (pm_1 q1)) hS hA rfl hl.1 rfl (Nat.le_of_ble_eq_true rfl) dL_law_1179 ⟨by omega, by omega⟩ (fun v w1 H locs hp hP hD hS => ?_)
  rcases hp with ⟨r, w2, hpp, rfl, rfl⟩ | ⟨k, w2, hpp, hk, rfl, rfl⟩
  · obtain ⟨r2, er, hsm⟩ := hpo _ _ hpp
    have er : tl_I r = tl_I r2 := by injection er with er; injection er
    refine W.eq (g2 := F0 m 1182 ls [.int (tl_I (0 : Int))]) rfl ?_
    refine lv_istore (lv' := [(5, .int (tl_I (0 : Int))), (4, .int (tl_I (i : Int))), (0, .ref b), (1, .ref a_x), (2, .ref a_m), (3, .ref a_o)]) hx hb dL_law_1182 hl (by decide) rfl (fun ls hl => ?_)
    refine lv_aload_n hx hb dL_law_1184 rfl (lv_at hl 4 rfl) ?_
    refine lv_aload_n hx hb dL_law_1185 rfl (lv_at hl 2 rfl) ?_
    refine lv_iload hx hb dL_law_1186 (lv_at hl 1 rfl) ?_
    refine lv_iconst (v := tl_I (1 : Int)) hx hb dL_law_1188 rfl ?_
    refine tr_iadd hx hb dL_law_1189 ?_
    refine ts_sld (j := i + 1) hx hb hX hbl hbA hS (by omega) (by omega) hL dL_law_1190 ?_
    refine tl_callVA (wc := wm) (wr := wn ++ (tl_ja (cy 2) a_o 1 (va_up ov 0 ((fun x => x.toInt64) (tl_I r))) :: (w2 ++ wr))) (As := [.int (tl_I ((xs (i + 1)).toInt))]) (rest := []) ⟨hx, hb, hml, hown, hts⟩ hM10 (cwV 1 hts tg_Lm_count rfl hr1 hr2 td_Lm_count ⟨by omega, by show 8 + (5 + 11) + rm2.locals ≤ R.locals; omega⟩) hK (hP.perm (pm_2 q2)) (hD.perm (pm_2 q2)) hS hA 11 q4 rfl rfl rfl hl.1 rfl (Nat.le_of_ble_eq_true rfl) dL_law_1191 ⟨by omega, by omega⟩ (fun v w3 H locs hp hP hD hS => ?_)
    obtain ⟨rfl, hsm⟩ := hsm _ _ hp
    rw [← List.append_assoc] at hP hD
    obtain ⟨fs3, rr, q5, hM3⟩ := hth _ _ _ hsm
    refine W.eq (g2 := F0 m 1194 ls [.int (tl_I r2)]) rfl ?_
    refine lv_istore (lv' := [(6, .int (tl_I r2)), (5, .int (tl_I (0 : Int))), (4, .int (tl_I (i : Int))), (0, .ref b), (1, .ref a_x), (2, .ref a_m), (3, .ref a_o)]) hx hb dL_law_1194 hl (by decide) rfl (fun ls hl => ?_)
    refine lv_aload_n hx hb dL_law_1196 rfl (lv_at hl 5 rfl) ?_
    refine tl_callVA (wc := [tl_ob a_m 11 fs3]) (wr := rr ++ (tl_ja (cy 2) a_o 1 (va_up ov 0 ((fun x => x.toInt64) (tl_I r))) :: (w2 ++ wr))) (As := []) (rest := []) ⟨hx, hb, hml, hown, hts⟩ hM3 (cwV 0 hts tg_Lm_thrown rfl rfl rfl td_Lm_thrown ⟨by show 0 + 1 ≤ R.frames; omega, by show 8 + (1 + 11) + 0 ≤ R.locals; omega⟩) hK (hP.perm (pm_3 q5)) (hD.perm (pm_3 q5)) hS hA 11 rfl rfl rfl rfl hl.1 rfl (Nat.le_of_ble_eq_true rfl) dL_law_1197 ⟨by omega, by omega⟩ (fun v w4 H locs hp hP hD hS => ?_)
    obtain ⟨rfl, rfl⟩ := hp
    have hP := (hP.perm (pm_3 q5).symm).perm pm_4
    have hD := (hD.perm (pm_3 q5).symm).perm pm_4
    refine W.widen (k := cells + (mc + mcm)) (n := slots + (ms + msm)) (by omega) (by omega) ?_
    refine W.eq (g2 := F0 m 1200 ls [.int (tl_I (0 : Int))]) rfl ?_
    refine lv_iload hx hb dL_law_1200 (lv_at hl 1 rfl) ?_
    refine lv_icmp_eq (tgt := 1207) hx hb dL_law_1202 (by decide) (fun _ => ?_) (fun h => absurd rfl h)
    refine lv_iload hx hb dL_law_1207 (lv_at hl 1 rfl) ?_
    refine lv_if_ne (tgt := 1224) hx hb dL_law_1209 (by decide) (fun h => absurd rfl h) (fun _ => ?_)
    refine lv_aload_n hx hb dL_law_1212 rfl (lv_at hl 6 rfl) ?_
    refine lv_iconst (v := tl_I (0 : Int)) hx hb dL_law_1213 rfl ?_
    refine ts_lald hx hb ⟨by omega, by omega⟩ hK hP 0 2 rfl rfl (by decide) dL_law_1214 ?_
    rw [show (0 : Int).toNat = 0 from rfl, va_up_self, er]
    refine lv_iload hx hb dL_law_1215 (lv_at hl 0 rfl) ?_
    refine lv_i2l (v := (tl_I r2).toInt64) hx hb dL_law_1217 rfl ?_
    refine W.lcmp hx hb dL_law_1218 ?_
    rw [lw_cmp0]
    refine lv_if_eq (tgt := 1224) hx hb dL_law_1219 (by decide) (fun _ => ?_) (fun h => absurd rfl h)
    refine lv_goto (tgt := 1227) hx hb dL_law_1224 (by decide) ?_
    exact kk _ _ _ (va_up ov 0 ((fun x => x.toInt64) (tl_I r))) _ _ _ hsm (hP.perm pm_5) (hD.perm pm_5) hS (lv_less hl (fun q hq => List.mem_cons_of_mem _ (List.mem_cons_of_mem _ hq)))
  · have hsm := hpk k w2 hpp hk
    refine W.eq (g2 := F0 m 1182 ls [.int (tl_I (lf_count k))]) rfl ?_
    refine lv_istore (lv' := [(5, .int (tl_I (lf_count k))), (4, .int (tl_I (i : Int))), (0, .ref b), (1, .ref a_x), (2, .ref a_m), (3, .ref a_o)]) hx hb dL_law_1182 hl (by decide) rfl (fun ls hl => ?_)
    refine lv_aload_n hx hb dL_law_1184 rfl (lv_at hl 4 rfl) ?_
    refine lv_aload_n hx hb dL_law_1185 rfl (lv_at hl 2 rfl) ?_
    refine lv_iload hx hb dL_law_1186 (lv_at hl 1 rfl) ?_
    refine lv_iconst (v := tl_I (1 : Int)) hx hb dL_law_1188 rfl ?_
    refine tr_iadd hx hb dL_law_1189 ?_
    refine ts_sld (j := i + 1) hx hb hX hbl hbA hS (by omega) (by omega) hL dL_law_1190 ?_
    refine tl_callVA (wc := wm) (wr := wn ++ (tl_ja (cy 2) a_o 1 ov :: (w2 ++ wr))) (As := [.int (tl_I ((xs (i + 1)).toInt))]) (rest := []) ⟨hx, hb, hml, hown, hts⟩ hM10 (cwV 1 hts tg_Lm_count rfl hr1 hr2 td_Lm_count ⟨by omega, by show 8 + (5 + 11) + rm2.locals ≤ R.locals; omega⟩) hK (hP.perm (pm_2 q2)) (hD.perm (pm_2 q2)) hS hA 11 q4 rfl rfl rfl hl.1 rfl (Nat.le_of_ble_eq_true rfl) dL_law_1191 ⟨by omega, by omega⟩ (fun v w3 H locs hp hP hD hS => ?_)
    obtain ⟨r2, rfl, hsm⟩ := hsm _ _ hp
    rw [← List.append_assoc] at hP hD
    obtain ⟨fs3, rr, q5, hM3⟩ := hth _ _ _ hsm
    refine W.eq (g2 := F0 m 1194 ls [.int (tl_I r2)]) rfl ?_
    refine lv_istore (lv' := [(6, .int (tl_I r2)), (5, .int (tl_I (lf_count k))), (4, .int (tl_I (i : Int))), (0, .ref b), (1, .ref a_x), (2, .ref a_m), (3, .ref a_o)]) hx hb dL_law_1194 hl (by decide) rfl (fun ls hl => ?_)
    refine lv_aload_n hx hb dL_law_1196 rfl (lv_at hl 5 rfl) ?_
    refine tl_callVA (wc := [tl_ob a_m 11 fs3]) (wr := rr ++ (tl_ja (cy 2) a_o 1 ov :: (w2 ++ wr))) (As := []) (rest := []) ⟨hx, hb, hml, hown, hts⟩ hM3 (cwV 0 hts tg_Lm_thrown rfl rfl rfl td_Lm_thrown ⟨by show 0 + 1 ≤ R.frames; omega, by show 8 + (1 + 11) + 0 ≤ R.locals; omega⟩) hK (hP.perm (pm_3 q5)) (hD.perm (pm_3 q5)) hS hA 11 rfl rfl rfl rfl hl.1 rfl (Nat.le_of_ble_eq_true rfl) dL_law_1197 ⟨by omega, by omega⟩ (fun v w4 H locs hp hP hD hS => ?_)
    obtain ⟨rfl, rfl⟩ := hp
    have hP := (hP.perm (pm_3 q5).symm).perm pm_4
    have hD := (hD.perm (pm_3 q5).symm).perm pm_4
    refine W.widen (k := cells + (mc + mcm)) (n := slots + (ms + msm)) (by omega) (by omega) ?_
    refine W.eq (g2 := F0 m 1200 ls [.int (tl_I (lf_count k))]) rfl ?_
    refine lv_iload hx hb dL_law_1200 (lv_at hl 1 rfl) ?_
    refine lv_icmp_eq (tgt := 1207) hx hb dL_law_1202 (by decide) (fun _ => ?_) (fun h => absurd rfl h)
    refine lv_iload hx hb dL_law_1207 (lv_at hl 1 rfl) ?_
    refine lv_if_ne (tgt := 1224) hx hb dL_law_1209 (by decide) (fun _ => ?_) (fun h => absurd ((tl_eq (lf_count_6 hk).1 tl_R0).mp h) (lf_count_6 hk).2)
    refine lv_goto (tgt := 1227) hx hb dL_law_1224 (by decide) ?_
    exact kk _ _ _ ov _ _ _ hsm (hP.perm pm_5) (hD.perm pm_5) hS (lv_less hl (fun q hq => List.mem_cons_of_mem _ (List.mem_cons_of_mem _ hq)))
end TLW
