set_option maxRecDepth 20000 in
theorem gX9_cut_X9_needLink : GoodIn wsX9_cut (wsV RX9 98 RX9 yX9_needLink wsX9_needLink) := goodIn_app (goodIn_of _ (by decide +kernel)) ggX9_cut_X9_needLink
set_option maxRecDepth 20000 in
theorem ggX9_cut_X9_slotThere : GoodIn wsX9_cut wsX9_slotThere := goodIn_ca (goodIn_r _ [19, 20, 21, 2, 22, 23, 24, 25, 26, 27, 28, 29, 30, 31, 89, 90, 91, 92, 93, 94, 95, 96, 97, 98, 104, 105, 106, 107, 108, 109] (by decide +kernel) (by decide +kernel)) (goodIn_sub (fun _ h => List.mem_cons_of_mem _ (List.mem_append_right _ h)) (by decide +kernel))
set_option maxRecDepth 20000 in
theorem gX9_cut_X9_slotThere : GoodIn wsX9_cut (wsV RX9 107 RX9 yX9_slotThere wsX9_slotThere) := goodIn_app (goodIn_of _ (by decide +kernel)) ggX9_cut_X9_slotThere
set_option maxRecDepth 20000 in
theorem ggX9_cut_X5_fromKind : GoodIn wsX9_cut wsX5_fromKind := goodIn_r _ [35, 36, 37, 11, 12, 13, 14, 15, 99, 100, 101, 102, 103] (by decide +kernel) (by decide +kernel)
set_option maxRecDepth 20000 in
theorem gX9_cut_X5_fromKind : GoodIn wsX9_cut (wsV RX9 111 RX5 yX5_fromKind wsX5_fromKind) := goodIn_app (goodIn_of _ (by decide +kernel)) ggX9_cut_X5_fromKind
set_option maxRecDepth 20000 in
theorem ggX9_cut_X9_needKind : GoodIn wsX9_cut wsX9_needKind := goodIn_r _ [41, 2, 42, 43, 44, 45, 46, 47, 25, 48, 49, 50, 51, 52, 53, 89, 90, 91, 92, 93, 94, 95, 96, 97, 98, 110, 111, 112, 113, 114, 115, 104, 105, 106, 107, 108, 109] (by decide +kernel) (by decide +kernel)
set_option maxRecDepth 20000 in
theorem gX9_cut_X9_needKind : GoodIn wsX9_cut (wsV RX9 114 RX9 yX9_needKind wsX9_needKind) := goodIn_app (goodIn_of _ (by decide +kernel)) ggX9_cut_X9_needKind
set_option maxRecDepth 20000 in
theorem ggX9_cut_X5_toKind : GoodIn wsX9_cut wsX5_toKind := goodIn_r _ [57, 58, 37, 11, 12, 13, 14, 15, 99, 100, 101, 102, 103] (by decide +kernel) (by decide +kernel)
set_option maxRecDepth 20000 in
theorem gX9_cut_X5_toKind : GoodIn wsX9_cut (wsV RX9 117 RX5 yX5_toKind wsX5_toKind) := goodIn_app (goodIn_of _ (by decide +kernel)) ggX9_cut_X5_toKind
set_option maxRecDepth 20000 in
theorem ggX9_cut_X1_separate : GoodIn wsX9_cut wsX1_separate := goodIn_r _ [62, 63, 64, 65, 66, 67, 68, 69, 70, 71, 72, 73, 74, 75, 76, 77, 78, 79, 80, 81, 82, 83, 84, 85, 86, 87, 88, 104, 105, 106, 107, 108, 109, 116, 117] (by decide +kernel) (by decide +kernel)
set_option maxRecDepth 20000 in
theorem gX9_cut_X1_separate : GoodIn wsX9_cut (wsV RX9 153 RX1 yX1_separate wsX1_separate) := goodIn_app (goodIn_of _ (by decide +kernel)) ggX9_cut_X1_separate
set_option maxRecDepth 20000 in
theorem ggX9_drop_X9_slotThere : GoodIn wsX9_drop wsX9_slotThere := goodIn_ca (goodIn_r _ [11, 12, 13, 4, 14, 15, 16, 17, 18, 19, 20, 21, 22, 23, 226, 227, 228, 229, 230, 231, 232, 233, 234, 235, 236, 237, 238, 239, 240, 241] (by decide +kernel) (by decide +kernel)) (goodIn_sub (fun _ h => List.mem_cons_of_mem _ (List.mem_append_right _ h)) (by decide +kernel))
set_option maxRecDepth 20000 in
theorem gX9_drop_X9_slotThere : GoodIn wsX9_drop (wsV RX9 107 RX9 yX9_slotThere wsX9_slotThere) := goodIn_app (goodIn_of _ (by decide +kernel)) ggX9_drop_X9_slotThere
set_option maxRecDepth 20000 in
theorem ggX9_drop_X2_gather : GoodIn wsX9_drop wsX2_gather := goodIn_r _ [28, 29, 30, 31, 32, 33, 34, 35, 36, 37, 38, 39, 40, 41, 42, 43, 44, 45, 46, 47, 48, 49, 50, 51, 52, 53, 17, 54, 55, 56, 57, 58, 59, 60, 61, 62, 63, 64, 65, 66, 67, 68, 69, 70, 71, 72, 73, 74, 75, 76, 77, 78, 79, 80, 81, 82, 83, 84, 85, 86, 87, 88, 89, 90, 91, 92, 93, 94, 95, 96, 97, 98, 99, 100, 101, 102, 103, 104, 105, 106, 27, 107, 108, 109, 110, 111, 112, 113, 114, 115, 116, 117, 118, 119, 120, 121, 242, 243, 244, 245, 246, 247, 248, 249, 236, 237, 238, 239, 240, 241, 250, 251, 252, 253, 254, 255, 256, 257, 258, 259, 260] (by decide +kernel) (by decide +kernel)
set_option maxRecDepth 20000 in
theorem gX9_drop_X2_gather : GoodIn wsX9_drop (wsV RX9 156 RX2 yX2_gather wsX2_gather) := goodIn_app (goodIn_of _ (by decide +kernel)) ggX9_drop_X2_gather
set_option maxRecDepth 20000 in
theorem ggX9_drop_X2_firstBarred : GoodIn wsX9_drop wsX2_firstBarred := goodIn_r _ [125, 31, 29, 51, 52, 53, 17, 54, 55, 126, 127, 128, 63, 129, 130, 131, 33, 34, 35, 36, 37, 38, 39, 132, 41, 42, 43, 44, 45, 46, 133, 134, 135, 136, 137, 138, 48, 49, 50, 139, 57, 58, 59, 140, 141, 61, 62, 64, 65, 66, 67, 68, 69, 70, 71, 72, 73, 74, 75, 76, 77, 78, 79, 80, 81, 82, 83, 84, 85, 86, 87, 88, 89, 90, 91, 92, 93, 94, 95, 96, 97, 98, 99, 100, 101, 102, 103, 142, 143, 144, 145, 146, 119, 120, 121, 47, 56, 118, 147, 148, 149, 27, 150, 151, 152, 153, 154, 155, 156, 157, 158, 159, 160, 161, 162, 23, 163, 164, 165, 166, 167, 168, 242, 243, 244, 245, 246, 236, 237, 238, 239, 240, 241, 250, 251, 252, 253, 247, 248, 249, 254, 255, 256, 257, 258, 259, 260] (by decide +kernel) (by decide +kernel)
set_option maxRecDepth 20000 in
theorem gX9_drop_X2_firstBarred : GoodIn wsX9_drop (wsV RX9 160 RX2 yX2_firstBarred wsX2_firstBarred) := goodIn_app (goodIn_of _ (by decide +kernel)) ggX9_drop_X2_firstBarred
set_option maxRecDepth 20000 in
theorem ggX9_drop_X8_findWay : GoodIn wsX9_drop wsX8_findWay := goodIn_r _ [172, 130, 173, 110, 111, 17, 112, 113, 174, 127, 128, 63, 129, 131, 33, 34, 35, 36, 37, 38, 39, 132, 41, 42, 43, 44, 45, 46, 133, 134, 135, 136, 137, 138, 48, 49, 50, 139, 57, 58, 59, 140, 141, 61, 62, 64, 65, 66, 67, 68, 69, 70, 71, 72, 73, 74, 75, 76, 77, 78, 79, 80, 81, 82, 83, 84, 85, 86, 87, 88, 89, 90, 91, 92, 93, 94, 95, 96, 97, 98, 99, 100, 101, 102, 103, 142, 143, 144, 145, 146, 119, 120, 121, 175, 176, 177, 178, 179, 180, 181, 160, 161, 162, 23, 163, 182, 183, 184, 185, 186, 187, 188, 189, 190, 191, 192, 52, 53, 54, 55, 250, 251, 252, 253, 236, 237, 238, 239, 240, 241, 247, 248, 249, 254, 255, 256, 257, 258, 259, 260, 261, 262] (by decide +kernel) (by decide +kernel)
set_option maxRecDepth 20000 in
theorem gX9_drop_X8_findWay : GoodIn wsX9_drop (wsV RX9 132 RX8 yX8_findWay wsX8_findWay) := goodIn_app (goodIn_of _ (by decide +kernel)) ggX9_drop_X8_findWay
set_option maxRecDepth 20000 in
theorem ggX9_drop_X2_leastBar : GoodIn wsX9_drop wsX2_leastBar := goodIn_r _ [150, 151, 29, 152, 67, 68, 69, 70, 71, 153, 73, 74, 75, 76, 77, 78, 79, 80, 51, 52, 53, 17, 54, 55, 154, 87, 88, 84, 89, 90, 91, 92, 93, 94, 95, 96, 155, 156, 157, 158, 86, 97, 98, 99, 100, 101, 102, 118, 119, 120, 35, 121, 38, 44, 45, 46, 159, 160, 161, 162, 23, 163, 242, 243, 244, 245, 246, 254, 255, 256, 257, 258, 236, 237, 238, 239, 240, 241, 259, 260, 247, 248, 249] (by decide +kernel) (by decide +kernel)
set_option maxRecDepth 20000 in
theorem gX9_drop_X2_leastBar : GoodIn wsX9_drop (wsV RX9 164 RX2 yX2_leastBar wsX2_leastBar) := goodIn_app (goodIn_of _ (by decide +kernel)) ggX9_drop_X2_leastBar
set_option maxRecDepth 20000 in
theorem ggX9_drop_X1_numberOf : GoodIn wsX9_drop wsX1_numberOf := goodIn_r _ [162, 23, 163, 45, 35, 46, 236, 237, 238, 239, 240, 241] (by decide +kernel) (by decide +kernel)
set_option maxRecDepth 20000 in
theorem gX9_drop_X1_numberOf : GoodIn wsX9_drop (wsV RX9 167 RX1 yX1_numberOf wsX1_numberOf) := goodIn_app (goodIn_of _ (by decide +kernel)) ggX9_drop_X1_numberOf
set_option maxRecDepth 20000 in
theorem ggX9_drop_X6_add : GoodIn wsX9_drop wsX6_add := goodIn_r _ [185, 180, 186, 261, 262] (by decide +kernel) (by decide +kernel)
set_option maxRecDepth 20000 in
theorem gX9_drop_X6_add : GoodIn wsX9_drop (wsV RX9 170 RX6 yX6_add wsX6_add) := goodIn_app (goodIn_of _ (by decide +kernel)) ggX9_drop_X6_add
set_option maxRecDepth 20000 in
theorem ggX9_drop_X2_removeAll : GoodIn wsX9_drop wsX2_removeAll := goodIn_r _ [199, 29, 47, 48, 49, 35, 50, 37, 56, 57, 58, 59, 39, 200, 201, 202, 17, 203, 23, 204, 205, 160, 161, 162, 163, 45, 46, 206, 207, 208, 209, 55, 113, 210, 87, 88, 84, 89, 90, 91, 92, 93, 94, 95, 96, 211, 156, 157, 158, 86, 97, 98, 99, 100, 101, 102, 212, 213, 214, 215, 216, 217, 218, 219, 220, 221, 222, 223, 224, 225, 242, 243, 244, 245, 246, 247, 248, 249, 236, 237, 238, 239, 240, 241, 259, 260] (by decide +kernel) (by decide +kernel)
set_option maxRecDepth 20000 in
theorem gX9_drop_X2_removeAll : GoodIn wsX9_drop (wsV RX9 175 RX2 yX2_removeAll wsX2_removeAll) := goodIn_app (goodIn_of _ (by decide +kernel)) ggX9_drop_X2_removeAll
set_option maxRecDepth 20000 in
theorem ggX9_copy_X9_slotThere : GoodIn wsX9_copy wsX9_slotThere := goodIn_ca (goodIn_r _ [10, 11, 12, 4, 13, 14, 15, 16, 17, 18, 19, 20, 21, 22, 226, 227, 228, 229, 230, 231, 232, 233, 234, 235, 236, 237, 238, 239, 240, 241] (by decide +kernel) (by decide +kernel)) (goodIn_sub (fun _ h => List.mem_cons_of_mem _ (List.mem_append_right _ h)) (by decide +kernel))
set_option maxRecDepth 20000 in
theorem gX9_copy_X9_slotThere : GoodIn wsX9_copy (wsV RX9 107 RX9 yX9_slotThere wsX9_slotThere) := goodIn_app (goodIn_of _ (by decide +kernel)) ggX9_copy_X9_slotThere
set_option maxRecDepth 20000 in
theorem ggX9_copy_X7_gather : GoodIn wsX9_copy wsX7_gather := goodIn_r _ [27, 28, 29, 30, 31, 32, 16, 33, 34, 35, 36, 37, 38, 39, 40, 41, 42, 43, 44, 45, 46, 47, 48, 49, 50, 51, 52, 53, 54, 55, 56, 57, 58, 59, 60, 61, 62, 63, 64, 65, 66, 67, 68, 69, 70, 71, 72, 73, 74, 75, 76, 77, 78, 79, 80, 81, 82, 83, 84, 85, 86, 87, 88, 89, 90, 91, 92, 93, 94, 95, 96, 97, 98, 99, 100, 101, 102, 103, 104, 105, 106, 107, 108, 109, 110, 111, 112, 113, 114, 115, 116, 117, 118, 119, 120, 121, 122, 123, 124, 125, 26, 126, 127, 128, 129, 130, 131, 132, 22, 133, 134, 242, 243, 244, 245, 236, 237, 238, 239, 240, 241, 246, 247, 248, 249, 250, 251, 252, 253, 254, 255, 256, 257, 258, 259] (by decide +kernel) (by decide +kernel)
set_option maxRecDepth 20000 in
theorem gX9_copy_X7_gather : GoodIn wsX9_copy (wsV RX9 179 RX7 yX7_gather wsX7_gather) := goodIn_app (goodIn_of _ (by decide +kernel)) ggX9_copy_X7_gather
set_option maxRecDepth 20000 in
theorem ggX9_copy_X7_fit : GoodIn wsX9_copy wsX7_fit := goodIn_r _ [138, 29, 139, 140, 141, 142, 16, 143, 144, 122, 62, 63, 44, 64, 46, 145, 76, 77, 78, 79, 80, 146, 147, 148, 26, 149, 150, 151, 152, 153, 154, 86, 87, 88, 89, 155, 82, 83, 84, 85, 128, 118, 119, 120, 47, 53, 54, 55, 156, 157, 158, 159, 160, 161, 162, 163, 164, 165, 96, 97, 93, 98, 99, 100, 101, 102, 103, 104, 105, 166, 167, 168, 169, 95, 106, 107, 108, 109, 110, 111, 242, 243, 244, 245, 236, 237, 238, 239, 240, 241, 250, 251, 252, 253, 254, 255, 256, 257, 258, 259] (by decide +kernel) (by decide +kernel)
set_option maxRecDepth 20000 in
theorem gX9_copy_X7_fit : GoodIn wsX9_copy (wsV RX9 180 RX7 yX7_fit wsX7_fit) := goodIn_app (goodIn_of _ (by decide +kernel)) ggX9_copy_X7_fit
set_option maxRecDepth 20000 in
theorem ggX9_copy_X7_build : GoodIn wsX9_copy wsX7_build := goodIn_r _ [173, 29, 174, 139, 122, 62, 63, 44, 64, 46, 127, 66, 67, 68, 48, 175, 54, 55, 176, 177, 178, 16, 179, 180, 133, 181, 182, 183, 184, 22, 144, 18, 19, 20, 21, 145, 76, 77, 78, 79, 80, 185, 186, 187, 26, 188, 30, 31, 32, 33, 34, 165, 96, 97, 93, 98, 99, 100, 101, 102, 103, 104, 105, 166, 167, 168, 169, 95, 106, 107, 108, 109, 110, 111, 189, 190, 191, 192, 128, 118, 119, 120, 47, 53, 193, 194, 195, 196, 146, 147, 148, 149, 150, 151, 152, 153, 154, 86, 87, 88, 89, 155, 82, 83, 84, 85, 197, 198, 199, 200, 201, 202, 203, 204, 205, 206, 207, 208, 209, 210, 211, 212, 213, 214, 215, 216, 217, 218, 219, 160, 161, 162, 163, 164, 220, 221, 222, 223, 242, 243, 244, 245, 250, 251, 252, 236, 237, 238, 239, 240, 241, 253, 254, 255, 256, 257, 258, 259] (by decide +kernel) (by decide +kernel)
set_option maxRecDepth 20000 in
theorem gX9_copy_X7_build : GoodIn wsX9_copy (wsV RX9 186 RX7 yX7_build wsX7_build) := goodIn_app (goodIn_of _ (by decide +kernel)) ggX9_copy_X7_build
set_option maxRecDepth 20000 in
theorem ggX9_copy_X7_twinOf : GoodIn wsX9_copy wsX7_twinOf := goodIn_r _ [196, 29, 174, 128, 118, 119, 44, 120, 47, 53, 54, 55, 242, 243, 244, 245, 250, 251, 252] (by decide +kernel) (by decide +kernel)
set_option maxRecDepth 20000 in
theorem gX9_copy_X7_twinOf : GoodIn wsX9_copy (wsV RX9 189 RX7 yX7_twinOf wsX7_twinOf) := goodIn_app (goodIn_of _ (by decide +kernel)) ggX9_copy_X7_twinOf
set_option maxRecDepth 20000 in
theorem ggX9_copy_X1_numberOf : GoodIn wsX9_copy wsX1_numberOf := goodIn_r _ [132, 22, 133, 54, 44, 55, 236, 237, 238, 239, 240, 241] (by decide +kernel) (by decide +kernel)
set_option maxRecDepth 20000 in
theorem gX9_copy_X1_numberOf : GoodIn wsX9_copy (wsV RX9 167 RX1 yX1_numberOf wsX1_numberOf) := goodIn_app (goodIn_of _ (by decide +kernel)) ggX9_copy_X1_numberOf
set_option maxRecDepth 20000 in
theorem ggX9_alike_X9_slotThere : GoodIn wsX9_alike wsX9_slotThere := goodIn_ca (goodIn_r _ [7, 8, 9, 2, 10, 11, 12, 13, 14, 15, 16, 17, 18, 19, 95, 96, 97, 98, 99, 100, 101, 102, 103, 104, 105, 106, 107, 108, 109, 110] (by decide +kernel) (by decide +kernel)) (goodIn_sub (fun _ h => List.mem_cons_of_mem _ (List.mem_append_right _ h)) (by decide +kernel))
set_option maxRecDepth 20000 in
theorem gX9_alike_X9_slotThere : GoodIn wsX9_alike (wsV RX9 107 RX9 yX9_slotThere wsX9_slotThere) := goodIn_app (goodIn_of _ (by decide +kernel)) ggX9_alike_X9_slotThere
set_option maxRecDepth 20000 in
theorem ggX9_alike_X0_match : GoodIn wsX9_alike wsX0_match := goodIn_r _ [24, 25, 26, 27, 28, 29, 30, 31, 23, 32, 33, 34, 35, 36, 37, 38, 39, 40, 41, 42, 43, 44, 13, 45, 46, 47, 48, 49, 50, 51, 52, 53, 54, 55, 56, 57, 58, 59, 60, 61, 62, 63, 64, 65, 66, 67, 68, 69, 70, 71, 72, 73, 74, 75, 76, 77, 78, 79, 80, 81, 82, 83, 84, 85, 86, 87, 88, 89, 90, 91, 92, 93, 94, 111, 112, 113, 114, 115, 105, 106, 107, 108, 109, 110, 116, 117, 118, 119, 120, 121, 122] (by decide +kernel) (by decide +kernel)
set_option maxRecDepth 20000 in
theorem gX9_alike_X0_match : GoodIn wsX9_alike (wsV RX9 192 RX0 yX0_match wsX0_match) := goodIn_app (goodIn_of _ (by decide +kernel)) ggX9_alike_X0_match
set_option maxRecDepth 20000 in
theorem ggX9_at_X9_needLink : GoodIn wsX9_at wsX9_needLink := goodIn_ca (goodIn_r _ [7, 8, 9, 1, 10, 11, 12, 13, 14, 15, 91, 92, 93, 94, 95, 96, 97, 98, 99, 100, 101, 102, 103, 104, 105] (by decide +kernel) (by decide +kernel)) (goodIn_sub (fun _ h => List.mem_cons_of_mem _ (List.mem_append_left _ (List.mem_append_left _ (List.mem_append_right _ h)))) (by decide +kernel))
set_option maxRecDepth 20000 in
theorem gX9_at_X9_needLink : GoodIn wsX9_at (wsV RX9 98 RX9 yX9_needLink wsX9_needLink) := goodIn_app (goodIn_of _ (by decide +kernel)) ggX9_at_X9_needLink
set_option maxRecDepth 20000 in
theorem ggX9_at_X9_slotThere : GoodIn wsX9_at wsX9_slotThere := goodIn_ca (goodIn_r _ [19, 20, 21, 2, 22, 23, 24, 25, 26, 27, 28, 29, 30, 31, 91, 92, 93, 94, 95, 96, 97, 98, 99, 100, 106, 107, 108, 109, 110, 111] (by decide +kernel) (by decide +kernel)) (goodIn_sub (fun _ h => List.mem_cons_of_mem _ (List.mem_append_left _ (List.mem_append_right _ h))) (by decide +kernel))
set_option maxRecDepth 20000 in
theorem gX9_at_X9_slotThere : GoodIn wsX9_at (wsV RX9 107 RX9 yX9_slotThere wsX9_slotThere) := goodIn_app (goodIn_of _ (by decide +kernel)) ggX9_at_X9_slotThere
set_option maxRecDepth 20000 in
theorem ggX9_at_X5_fromKind : GoodIn wsX9_at wsX5_fromKind := goodIn_r _ [35, 36, 37, 11, 12, 13, 14, 15, 101, 102, 103, 104, 105] (by decide +kernel) (by decide +kernel)
set_option maxRecDepth 20000 in
theorem gX9_at_X5_fromKind : GoodIn wsX9_at (wsV RX9 111 RX5 yX5_fromKind wsX5_fromKind) := goodIn_app (goodIn_of _ (by decide +kernel)) ggX9_at_X5_fromKind
set_option maxRecDepth 20000 in
theorem ggX9_at_X9_needKind : GoodIn wsX9_at wsX9_needKind := goodIn_r _ [41, 2, 42, 43, 44, 45, 46, 47, 25, 48, 49, 50, 51, 52, 53, 91, 92, 93, 94, 95, 96, 97, 98, 99, 100, 112, 113, 114, 115, 116, 117, 106, 107, 108, 109, 110, 111] (by decide +kernel) (by decide +kernel)
set_option maxRecDepth 20000 in
theorem gX9_at_X9_needKind : GoodIn wsX9_at (wsV RX9 114 RX9 yX9_needKind wsX9_needKind) := goodIn_app (goodIn_of _ (by decide +kernel)) ggX9_at_X9_needKind
set_option maxRecDepth 20000 in
theorem ggX9_at_X1_has : GoodIn wsX9_at wsX1_has := goodIn_r _ [57, 58, 106, 107, 108, 109, 110, 111] (by decide +kernel) (by decide +kernel)
set_option maxRecDepth 20000 in
theorem gX9_at_X1_has : GoodIn wsX9_at (wsV RX9 144 RX1 yX1_has wsX1_has) := goodIn_app (goodIn_of _ (by decide +kernel)) ggX9_at_X1_has
set_option maxRecDepth 20000 in
theorem ggX9_at_X9_numberInRow : GoodIn wsX9_at wsX9_numberInRow := goodIn_ca (goodIn_r _ [62, 63, 64, 2, 65, 66, 67, 68, 69, 70, 71, 72, 73, 74, 75, 76, 77, 78, 79, 80, 81, 82, 83, 84, 85, 86, 87, 88, 89, 25, 90, 31, 50, 51, 52, 53, 91, 92, 93, 94, 95, 96, 97, 98, 99, 100, 118, 119, 106, 107, 108, 109, 110, 111] (by decide +kernel) (by decide +kernel)) (goodIn_sub (fun _ h => List.mem_cons_of_mem _ (List.mem_append_right _ h)) (by decide +kernel))
set_option maxRecDepth 20000 in
theorem gX9_at_X9_numberInRow : GoodIn wsX9_at (wsV RX9 196 RX9 yX9_numberInRow wsX9_numberInRow) := goodIn_app (goodIn_of _ (by decide +kernel)) ggX9_at_X9_numberInRow
set_option maxRecDepth 20000 in
theorem ggX9_back_X9_needLink : GoodIn wsX9_back wsX9_needLink := goodIn_ca (goodIn_r _ [7, 8, 9, 1, 10, 11, 12, 13, 14, 15, 91, 92, 93, 94, 95, 96, 97, 98, 99, 100, 101, 102, 103, 104, 105] (by decide +kernel) (by decide +kernel)) (goodIn_sub (fun _ h => List.mem_cons_of_mem _ (List.mem_append_left _ (List.mem_append_left _ (List.mem_append_right _ h)))) (by decide +kernel))
set_option maxRecDepth 20000 in
theorem gX9_back_X9_needLink : GoodIn wsX9_back (wsV RX9 98 RX9 yX9_needLink wsX9_needLink) := goodIn_app (goodIn_of _ (by decide +kernel)) ggX9_back_X9_needLink
set_option maxRecDepth 20000 in
theorem ggX9_back_X9_slotThere : GoodIn wsX9_back wsX9_slotThere := goodIn_ca (goodIn_r _ [19, 20, 21, 2, 22, 23, 24, 25, 26, 27, 28, 29, 30, 31, 91, 92, 93, 94, 95, 96, 97, 98, 99, 100, 106, 107, 108, 109, 110, 111] (by decide +kernel) (by decide +kernel)) (goodIn_sub (fun _ h => List.mem_cons_of_mem _ (List.mem_append_left _ (List.mem_append_right _ h))) (by decide +kernel))
set_option maxRecDepth 20000 in
theorem gX9_back_X9_slotThere : GoodIn wsX9_back (wsV RX9 107 RX9 yX9_slotThere wsX9_slotThere) := goodIn_app (goodIn_of _ (by decide +kernel)) ggX9_back_X9_slotThere
set_option maxRecDepth 20000 in
theorem ggX9_back_X5_toKind : GoodIn wsX9_back wsX5_toKind := goodIn_r _ [35, 36, 37, 11, 12, 13, 14, 15, 101, 102, 103, 104, 105] (by decide +kernel) (by decide +kernel)
set_option maxRecDepth 20000 in
theorem gX9_back_X5_toKind : GoodIn wsX9_back (wsV RX9 117 RX5 yX5_toKind wsX5_toKind) := goodIn_app (goodIn_of _ (by decide +kernel)) ggX9_back_X5_toKind
set_option maxRecDepth 20000 in
theorem ggX9_back_X9_needKind : GoodIn wsX9_back wsX9_needKind := goodIn_r _ [41, 2, 42, 43, 44, 45, 46, 47, 25, 48, 49, 50, 51, 52, 53, 91, 92, 93, 94, 95, 96, 97, 98, 99, 100, 112, 113, 114, 115, 116, 117, 106, 107, 108, 109, 110, 111] (by decide +kernel) (by decide +kernel)
set_option maxRecDepth 20000 in
theorem gX9_back_X9_needKind : GoodIn wsX9_back (wsV RX9 114 RX9 yX9_needKind wsX9_needKind) := goodIn_app (goodIn_of _ (by decide +kernel)) ggX9_back_X9_needKind
set_option maxRecDepth 20000 in
theorem ggX9_back_X1_had : GoodIn wsX9_back wsX1_had := goodIn_r _ [57, 58, 106, 107, 108, 109, 110, 111] (by decide +kernel) (by decide +kernel)
set_option maxRecDepth 20000 in
theorem gX9_back_X1_had : GoodIn wsX9_back (wsV RX9 200 RX1 yX1_had wsX1_had) := goodIn_app (goodIn_of _ (by decide +kernel)) ggX9_back_X1_had
set_option maxRecDepth 20000 in
theorem ggX9_back_X9_numberInRow : GoodIn wsX9_back wsX9_numberInRow := goodIn_ca (goodIn_r _ [62, 63, 64, 2, 65, 66, 67, 68, 69, 70, 71, 72, 73, 74, 75, 76, 77, 78, 79, 80, 81, 82, 83, 84, 85, 86, 87, 88, 89, 25, 90, 31, 50, 51, 52, 53, 91, 92, 93, 94, 95, 96, 97, 98, 99, 100, 118, 119, 106, 107, 108, 109, 110, 111] (by decide +kernel) (by decide +kernel)) (goodIn_sub (fun _ h => List.mem_cons_of_mem _ (List.mem_append_right _ h)) (by decide +kernel))
set_option maxRecDepth 20000 in
theorem gX9_back_X9_numberInRow : GoodIn wsX9_back (wsV RX9 196 RX9 yX9_numberInRow wsX9_numberInRow) := goodIn_app (goodIn_of _ (by decide +kernel)) ggX9_back_X9_numberInRow
set_option maxRecDepth 20000 in
theorem ggX9_ask_X9_needBelow : GoodIn wsX9_ask wsX9_needBelow := goodIn_ca (goodIn_r _ [6, 7, 8] (by decide +kernel) (by decide +kernel)) (goodIn_sub (fun _ h => List.mem_cons_of_mem _ (List.mem_append_left _ (List.mem_append_right _ h))) (by decide +kernel))
set_option maxRecDepth 20000 in
theorem gX9_ask_X9_needBelow : GoodIn wsX9_ask (va_wsS RX9 66 yX9_needBelow wsX9_needBelow) := goodIn_app (goodIn_of _ (by decide +kernel)) ggX9_ask_X9_needBelow
set_option maxRecDepth 20000 in
theorem ggX9_ask_X9_slotThere : GoodIn wsX9_ask wsX9_slotThere := goodIn_ca (goodIn_r _ [12, 13, 14, 1, 15, 16, 17, 18, 19, 20, 21, 22, 23, 24, 146, 147, 148, 149, 150, 151, 152, 153, 154, 155, 156, 157, 158, 159, 160, 161] (by decide +kernel) (by decide +kernel)) (goodIn_sub (fun _ h => List.mem_cons_of_mem _ (List.mem_append_right _ h)) (by decide +kernel))
set_option maxRecDepth 20000 in
theorem gX9_ask_X9_slotThere : GoodIn wsX9_ask (wsV RX9 107 RX9 yX9_slotThere wsX9_slotThere) := goodIn_app (goodIn_of _ (by decide +kernel)) ggX9_ask_X9_slotThere
set_option maxRecDepth 20000 in
theorem ggX9_ask_X1_kindOf : GoodIn wsX9_ask wsX1_kindOf := goodIn_r _ [28, 29, 30, 31, 32, 33, 156, 157, 158, 159, 160, 161] (by decide +kernel) (by decide +kernel)
set_option maxRecDepth 20000 in
theorem gX9_ask_X1_kindOf : GoodIn wsX9_ask (wsV RX9 203 RX1 yX1_kindOf wsX1_kindOf) := goodIn_app (goodIn_of _ (by decide +kernel)) ggX9_ask_X1_kindOf
set_option maxRecDepth 20000 in
theorem ggX9_ask_X1_had : GoodIn wsX9_ask wsX1_had := goodIn_r _ [37, 38, 156, 157, 158, 159, 160, 161] (by decide +kernel) (by decide +kernel)
set_option maxRecDepth 20000 in
theorem gX9_ask_X1_had : GoodIn wsX9_ask (wsV RX9 200 RX1 yX1_had wsX1_had) := goodIn_app (goodIn_of _ (by decide +kernel)) ggX9_ask_X1_had
set_option maxRecDepth 20000 in
theorem ggX9_ask_X8_howManyOwning : GoodIn wsX9_ask wsX8_howManyOwning := goodIn_r _ [43, 44, 45, 46, 47, 32, 48, 49, 50, 51, 52, 53, 54, 42, 55, 56, 57, 58, 59, 60, 61, 62, 63, 64, 65, 66, 67, 68, 69, 70, 71, 72, 73, 74, 75, 76, 77, 78, 79, 80, 81, 82, 83, 84, 85, 86, 87, 88, 89, 90, 91, 92, 93, 94, 95, 96, 97, 98, 31, 33, 99, 100, 101, 102, 162, 163, 164, 165, 166, 167, 168, 169, 170, 171, 172, 173, 174, 175] (by decide +kernel) (by decide +kernel)
set_option maxRecDepth 20000 in
theorem gX9_ask_X8_howManyOwning : GoodIn wsX9_ask (wsV RX9 206 RX8 yX8_howManyOwning wsX8_howManyOwning) := goodIn_app (goodIn_of _ (by decide +kernel)) ggX9_ask_X8_howManyOwning
set_option maxRecDepth 20000 in
theorem ggX9_ask_X8_howManyUnder : GoodIn wsX9_ask wsX8_howManyUnder := goodIn_r _ [106, 107, 108, 109, 18, 110, 111, 112, 113, 114, 42, 115, 44, 45, 46, 47, 32, 48, 49, 50, 51, 116, 95, 96, 97, 98, 31, 33, 117, 118, 119, 120, 121, 99, 100, 101, 102, 122, 123, 124, 125, 126, 52, 53, 54, 55, 56, 57, 58, 59, 60, 61, 62, 63, 64, 65, 66, 67, 68, 69, 70, 71, 72, 73, 74, 75, 76, 77, 78, 79, 80, 81, 82, 83, 84, 85, 86, 87, 88, 89, 90, 91, 92, 93, 94, 127, 128, 129, 130, 131, 132, 133, 134, 156, 157, 158, 159, 160, 161, 162, 163, 164, 165, 166, 167, 168, 169, 170, 171, 172, 173, 174, 175] (by decide +kernel) (by decide +kernel)
set_option maxRecDepth 20000 in
theorem gX9_ask_X8_howManyUnder : GoodIn wsX9_ask (wsV RX9 210 RX8 yX8_howManyUnder wsX8_howManyUnder) := goodIn_app (goodIn_of _ (by decide +kernel)) ggX9_ask_X8_howManyUnder
set_option maxRecDepth 20000 in
theorem ggX9_ask_X8_howDeep : GoodIn wsX9_ask wsX8_howDeep := goodIn_r _ [138, 44, 139, 45, 46, 47, 32, 48, 49, 50, 51, 116, 95, 96, 97, 98, 31, 33, 99, 100, 101, 102, 140, 35, 36, 18, 37, 38, 122, 123, 124, 125, 52, 53, 54, 42, 55, 56, 57, 58, 59, 60, 61, 62, 63, 64, 65, 66, 67, 68, 69, 70, 71, 72, 73, 74, 75, 76, 77, 78, 79, 80, 81, 82, 83, 84, 85, 86, 87, 88, 89, 90, 91, 92, 93, 94, 162, 163, 164, 165, 166, 167, 168, 156, 157, 158, 159, 160, 161, 169, 170, 171, 172, 173, 174, 175] (by decide +kernel) (by decide +kernel)
set_option maxRecDepth 20000 in
theorem gX9_ask_X8_howDeep : GoodIn wsX9_ask (wsV RX9 213 RX8 yX8_howDeep wsX8_howDeep) := goodIn_app (goodIn_of _ (by decide +kernel)) ggX9_ask_X8_howDeep
set_option maxRecDepth 20000 in
theorem ggX9_ask_X1_has : GoodIn wsX9_ask wsX1_has := goodIn_r _ [110, 111, 156, 157, 158, 159, 160, 161] (by decide +kernel) (by decide +kernel)
set_option maxRecDepth 20000 in
theorem gX9_ask_X1_has : GoodIn wsX9_ask (wsV RX9 144 RX1 yX1_has wsX1_has) := goodIn_app (goodIn_of _ (by decide +kernel)) ggX9_ask_X1_has
set_option maxRecDepth 20000 in
theorem ggX9_ask_X8_howManyNear : GoodIn wsX9_ask wsX8_howManyNear := goodIn_r _ [145, 44, 56, 45, 46, 47, 32, 48, 49, 50, 51, 57, 58, 59, 60, 61, 62, 107, 108, 109, 18, 110, 111, 72, 73, 74, 75, 76, 77, 78, 79, 80, 81, 82, 83, 84, 85, 86, 87, 88, 89, 90, 91, 92, 93, 94, 95, 96, 97, 98, 31, 33, 140, 35, 36, 37, 38, 99, 100, 101, 102, 162, 163, 164, 165, 166, 167, 168, 169, 170, 171, 172, 173, 156, 157, 158, 159, 160, 161, 174, 175] (by decide +kernel) (by decide +kernel)
set_option maxRecDepth 20000 in
theorem gX9_ask_X8_howManyNear : GoodIn wsX9_ask (wsV RX9 216 RX8 yX8_howManyNear wsX8_howManyNear) := goodIn_app (goodIn_of _ (by decide +kernel)) ggX9_ask_X8_howManyNear
set_option maxRecDepth 20000 in
theorem ggX9_size_X9_needLink : GoodIn wsX9_size wsX9_needLink := goodIn_ca (goodIn_r _ [7, 8, 9, 1, 10, 11, 12, 13, 14, 15, 84, 85, 86, 87, 88, 89, 90, 91, 92, 93, 94, 95, 96, 97, 98] (by decide +kernel) (by decide +kernel)) (goodIn_sub (fun _ h => List.mem_cons_of_mem _ (List.mem_append_left _ (List.mem_append_right _ h))) (by decide +kernel))
set_option maxRecDepth 20000 in
theorem gX9_size_X9_needLink : GoodIn wsX9_size (wsV RX9 98 RX9 yX9_needLink wsX9_needLink) := goodIn_app (goodIn_of _ (by decide +kernel)) ggX9_size_X9_needLink
set_option maxRecDepth 20000 in
theorem ggX9_size_X9_needBelow : GoodIn wsX9_size wsX9_needBelow := goodIn_ca (goodIn_r _ [18, 8, 9] (by decide +kernel) (by decide +kernel)) (goodIn_sub (fun _ h => List.mem_cons_of_mem _ (List.mem_append_left _ (List.mem_append_right _ h))) (by decide +kernel))
set_option maxRecDepth 20000 in
theorem gX9_size_X9_needBelow : GoodIn wsX9_size (va_wsS RX9 66 yX9_needBelow wsX9_needBelow) := goodIn_app (goodIn_of _ (by decide +kernel)) ggX9_size_X9_needBelow
set_option maxRecDepth 20000 in
theorem ggX9_size_X9_slotThere : GoodIn wsX9_size wsX9_slotThere := goodIn_ca (goodIn_r _ [22, 23, 24, 2, 25, 26, 27, 28, 29, 30, 31, 32, 33, 34, 84, 85, 86, 87, 88, 89, 90, 91, 92, 93, 99, 100, 101, 102, 103, 104] (by decide +kernel) (by decide +kernel)) (goodIn_sub (fun _ h => List.mem_cons_of_mem _ (List.mem_append_right _ h)) (by decide +kernel))
set_option maxRecDepth 20000 in
theorem gX9_size_X9_slotThere : GoodIn wsX9_size (wsV RX9 107 RX9 yX9_slotThere wsX9_slotThere) := goodIn_app (goodIn_of _ (by decide +kernel)) ggX9_size_X9_slotThere
set_option maxRecDepth 20000 in
theorem ggX9_size_X5_fromKind : GoodIn wsX9_size wsX5_fromKind := goodIn_r _ [38, 39, 40, 11, 12, 13, 14, 15, 94, 95, 96, 97, 98] (by decide +kernel) (by decide +kernel)
set_option maxRecDepth 20000 in
theorem gX9_size_X5_fromKind : GoodIn wsX9_size (wsV RX9 111 RX5 yX5_fromKind wsX5_fromKind) := goodIn_app (goodIn_of _ (by decide +kernel)) ggX9_size_X5_fromKind
set_option maxRecDepth 20000 in
theorem ggX9_size_X5_toKind : GoodIn wsX9_size wsX5_toKind := goodIn_r _ [44, 45, 40, 11, 12, 13, 14, 15, 94, 95, 96, 97, 98] (by decide +kernel) (by decide +kernel)
set_option maxRecDepth 20000 in
theorem gX9_size_X5_toKind : GoodIn wsX9_size (wsV RX9 117 RX5 yX5_toKind wsX5_toKind) := goodIn_app (goodIn_of _ (by decide +kernel)) ggX9_size_X5_toKind
set_option maxRecDepth 20000 in
theorem ggX9_size_X9_needKind : GoodIn wsX9_size wsX9_needKind := goodIn_r _ [49, 2, 50, 51, 52, 53, 54, 55, 28, 56, 57, 58, 59, 60, 61, 84, 85, 86, 87, 88, 89, 90, 91, 92, 93, 105, 106, 107, 108, 109, 110, 99, 100, 101, 102, 103, 104] (by decide +kernel) (by decide +kernel)
set_option maxRecDepth 20000 in
theorem gX9_size_X9_needKind : GoodIn wsX9_size (wsV RX9 114 RX9 yX9_needKind wsX9_needKind) := goodIn_app (goodIn_of _ (by decide +kernel)) ggX9_size_X9_needKind
set_option maxRecDepth 20000 in
theorem ggX9_size_X1_has : GoodIn wsX9_size wsX1_has := goodIn_r _ [65, 66, 99, 100, 101, 102, 103, 104] (by decide +kernel) (by decide +kernel)
set_option maxRecDepth 20000 in
theorem gX9_size_X1_has : GoodIn wsX9_size (wsV RX9 144 RX1 yX1_has wsX1_has) := goodIn_app (goodIn_of _ (by decide +kernel)) ggX9_size_X1_has
set_option maxRecDepth 20000 in
theorem ggX9_size_X1_had : GoodIn wsX9_size wsX1_had := goodIn_r _ [70, 71, 99, 100, 101, 102, 103, 104] (by decide +kernel) (by decide +kernel)
set_option maxRecDepth 20000 in
theorem gX9_size_X1_had : GoodIn wsX9_size (wsV RX9 200 RX1 yX1_had wsX1_had) := goodIn_app (goodIn_of _ (by decide +kernel)) ggX9_size_X1_had
set_option maxRecDepth 20000 in
theorem ggX9_size_X3_lengthOf : GoodIn wsX9_size wsX3_lengthOf := goodIn_r _ [76, 77, 78, 79, 75, 80, 81, 82, 83, 111, 112] (by decide +kernel) (by decide +kernel)
set_option maxRecDepth 20000 in
theorem gX9_size_X3_lengthOf : GoodIn wsX9_size (wsV RX9 148 RX3 yX3_lengthOf wsX3_lengthOf) := goodIn_app (goodIn_of _ (by decide +kernel)) ggX9_size_X3_lengthOf
set_option maxRecDepth 20000 in
theorem ggX9_way_X9_slotThere : GoodIn wsX9_way wsX9_slotThere := goodIn_ca (goodIn_r _ [8, 9, 10, 2, 11, 12, 13, 14, 15, 16, 17, 18, 19, 20, 147, 148, 149, 150, 151, 152, 153, 154, 155, 156, 157, 158, 159, 160, 161, 162] (by decide +kernel) (by decide +kernel)) (goodIn_sub (fun _ h => List.mem_cons_of_mem _ (List.mem_append_right _ h)) (by decide +kernel))
set_option maxRecDepth 20000 in
theorem gX9_way_X9_slotThere : GoodIn wsX9_way (wsV RX9 107 RX9 yX9_slotThere wsX9_slotThere) := goodIn_app (goodIn_of _ (by decide +kernel)) ggX9_way_X9_slotThere
set_option maxRecDepth 20000 in
theorem ggX9_way_X8_findWay : GoodIn wsX9_way wsX8_findWay := goodIn_r _ [25, 26, 27, 28, 29, 14, 30, 31, 32, 33, 34, 24, 35, 36, 37, 38, 39, 40, 41, 42, 43, 44, 45, 46, 47, 48, 49, 50, 51, 52, 53, 54, 55, 56, 57, 58, 59, 60, 61, 62, 63, 64, 65, 66, 67, 68, 69, 70, 71, 72, 73, 74, 75, 76, 77, 78, 79, 80, 81, 82, 83, 84, 85, 86, 87, 88, 89, 90, 91, 92, 93, 94, 95, 96, 97, 98, 99, 100, 101, 102, 103, 104, 105, 106, 107, 108, 109, 110, 111, 112, 113, 114, 115, 116, 117, 118, 119, 120, 121, 122, 123, 124, 125, 20, 126, 127, 128, 129, 130, 131, 132, 133, 134, 135, 136, 137, 138, 139, 140, 141, 163, 164, 165, 166, 157, 158, 159, 160, 161, 162, 167, 168, 169, 170, 171, 172, 173, 174, 175, 176, 177, 178] (by decide +kernel) (by decide +kernel)
set_option maxRecDepth 20000 in
theorem gX9_way_X8_findWay : GoodIn wsX9_way (wsV RX9 132 RX8 yX8_findWay wsX8_findWay) := goodIn_app (goodIn_of _ (by decide +kernel)) ggX9_way_X8_findWay
set_option maxRecDepth 20000 in
theorem ggX9_way_X6_clear : GoodIn wsX9_way wsX6_clear := goodIn_r _ [120, 121, 177, 178] (by decide +kernel) (by decide +kernel)
set_option maxRecDepth 20000 in
theorem gX9_way_X6_clear : GoodIn wsX9_way (wsV RX9 219 RX6 yX6_clear wsX6_clear) := goodIn_app (goodIn_of _ (by decide +kernel)) ggX9_way_X6_clear
set_option maxRecDepth 20000 in
theorem ggX9_way_X6_length : GoodIn wsX9_way wsX6_length := goodIn_r _ [146, 121, 177, 178] (by decide +kernel) (by decide +kernel)
set_option maxRecDepth 20000 in
theorem gX9_way_X6_length : GoodIn wsX9_way (wsV RX9 222 RX6 yX6_length wsX6_length) := goodIn_app (goodIn_of _ (by decide +kernel)) ggX9_way_X6_length
set_option maxRecDepth 20000 in
theorem ggX9_path_X6_length : GoodIn wsX9_path wsX6_length := goodIn_r _ [8, 9, 25, 26] (by decide +kernel) (by decide +kernel)
set_option maxRecDepth 20000 in
theorem gX9_path_X6_length : GoodIn wsX9_path (wsV RX9 222 RX6 yX6_length wsX6_length) := goodIn_app (goodIn_of _ (by decide +kernel)) ggX9_path_X6_length
set_option maxRecDepth 20000 in
theorem ggX9_path_X6_get : GoodIn wsX9_path wsX6_get := goodIn_r _ [13, 9, 14, 25, 26] (by decide +kernel) (by decide +kernel)
set_option maxRecDepth 20000 in
theorem gX9_path_X6_get : GoodIn wsX9_path (wsV RX9 230 RX6 yX6_get wsX6_get) := goodIn_app (goodIn_of _ (by decide +kernel)) ggX9_path_X6_get
set_option maxRecDepth 20000 in
theorem ggX9_begin_X1_init : GoodIn wsX9_begin wsX1_init := goodIn_r _ [11, 12, 13, 14, 15, 16, 17, 18, 19, 20, 21, 22, 23, 24, 25, 26, 27, 28, 29, 55, 56, 57, 58, 59, 60, 61, 62] (by decide +kernel) (by decide +kernel)
set_option maxRecDepth 20000 in
theorem gX9_begin_X1_init : GoodIn wsX9_begin (wsX1_init) := ggX9_begin_X1_init
set_option maxRecDepth 20000 in
theorem ggX9_begin_X1_takeFrom : GoodIn wsX9_begin wsX1_takeFrom := goodIn_r _ [33, 16, 34, 35, 36, 37, 17, 21, 22, 38, 39, 40, 41, 42, 20, 43, 28, 44, 29, 55, 56, 57, 58, 59, 60, 61, 62] (by decide +kernel) (by decide +kernel)
set_option maxRecDepth 20000 in
theorem gX9_begin_X1_takeFrom : GoodIn wsX9_begin (wsV RX9 238 RX1 yX1_takeFrom wsX1_takeFrom) := goodIn_app (goodIn_of _ (by decide +kernel)) ggX9_begin_X1_takeFrom
set_option maxRecDepth 20000 in
theorem ggX9_count_X9_needBelow : GoodIn wsX9_count wsX9_needBelow := goodIn_ca (goodIn_r _ [9, 10, 11] (by decide +kernel) (by decide +kernel)) (goodIn_sub (fun _ h => List.mem_cons_of_mem _ (List.mem_append_right _ h)) (by decide +kernel))
set_option maxRecDepth 20000 in
theorem gX9_count_X9_needBelow : GoodIn wsX9_count (va_wsS RX9 66 yX9_needBelow wsX9_needBelow) := goodIn_app (goodIn_of _ (by decide +kernel)) ggX9_count_X9_needBelow
set_option maxRecDepth 20000 in
theorem ggX9_count_X5_howMany : GoodIn wsX9_count wsX5_howMany := goodIn_r _ [16, 17, 45, 46, 47, 48, 49] (by decide +kernel) (by decide +kernel)
set_option maxRecDepth 20000 in
theorem gX9_count_X5_howMany : GoodIn wsX9_count (wsV RX9 70 RX5 yX5_howMany wsX5_howMany) := goodIn_app (goodIn_of _ (by decide +kernel)) ggX9_count_X5_howMany
set_option maxRecDepth 20000 in
theorem ggX9_count_X1_objects : GoodIn wsX9_count wsX1_objects := goodIn_r _ [22, 23, 50, 51, 52, 53, 54, 55] (by decide +kernel) (by decide +kernel)
set_option maxRecDepth 20000 in
theorem gX9_count_X1_objects : GoodIn wsX9_count (wsV RX9 85 RX1 yX1_objects wsX1_objects) := goodIn_app (goodIn_of _ (by decide +kernel)) ggX9_count_X1_objects
set_option maxRecDepth 20000 in
theorem ggX9_count_X6_length : GoodIn wsX9_count wsX6_length := goodIn_r _ [28, 29, 56, 57] (by decide +kernel) (by decide +kernel)
set_option maxRecDepth 20000 in
theorem gX9_count_X6_length : GoodIn wsX9_count (wsV RX9 222 RX6 yX6_length wsX6_length) := goodIn_app (goodIn_of _ (by decide +kernel)) ggX9_count_X6_length
set_option maxRecDepth 20000 in
theorem ggX9_count_X1_pairs : GoodIn wsX9_count wsX1_pairs := goodIn_r _ [33, 34, 50, 51, 52, 53, 54, 55] (by decide +kernel) (by decide +kernel)
set_option maxRecDepth 20000 in
theorem gX9_count_X1_pairs : GoodIn wsX9_count (wsV RX9 244 RX1 yX1_pairs wsX1_pairs) := goodIn_app (goodIn_of _ (by decide +kernel)) ggX9_count_X1_pairs
set_option maxRecDepth 20000 in
theorem ggX9_needLink_X5_knows : GoodIn wsX9_needLink wsX5_knows := goodIn_r _ [8, 9, 20, 21, 22, 23, 24] (by decide +kernel) (by decide +kernel)
set_option maxRecDepth 20000 in
theorem gX9_needLink_X5_knows : GoodIn wsX9_needLink (wsV RX9 249 RX5 yX5_knows wsX5_knows) := goodIn_app (goodIn_of _ (by decide +kernel)) ggX9_needLink_X5_knows
set_option maxRecDepth 20000 in
theorem ggX9_slotThere_X1_slotOf : GoodIn wsX9_slotThere wsX1_slotOf := goodIn_r _ [8, 9, 10, 11, 7, 12, 13, 24, 25, 26, 27, 28, 29] (by decide +kernel) (by decide +kernel)
set_option maxRecDepth 20000 in
theorem gX9_slotThere_X1_slotOf : GoodIn wsX9_slotThere (wsV RX9 255 RX1 yX1_slotOf wsX1_slotOf) := goodIn_app (goodIn_of _ (by decide +kernel)) ggX9_slotThere_X1_slotOf
set_option maxRecDepth 20000 in
theorem ggX9_needKind_X1_kindOf : GoodIn wsX9_needKind wsX1_kindOf := goodIn_r _ [9, 10, 11, 12, 13, 14, 31, 32, 33, 34, 35, 36] (by decide +kernel) (by decide +kernel)
set_option maxRecDepth 20000 in
theorem gX9_needKind_X1_kindOf : GoodIn wsX9_needKind (wsV RX9 203 RX1 yX1_kindOf wsX1_kindOf) := goodIn_app (goodIn_of _ (by decide +kernel)) ggX9_needKind_X1_kindOf
set_option maxRecDepth 20000 in
theorem ggX9_numberInRow_X3_get : GoodIn wsX9_numberInRow wsX3_get := goodIn_r _ [8, 9, 10, 11, 7, 12, 13, 14, 15, 16, 17, 18, 19, 20, 21, 22, 23, 24, 25, 46, 47] (by decide +kernel) (by decide +kernel)
set_option maxRecDepth 20000 in
theorem gX9_numberInRow_X3_get : GoodIn wsX9_numberInRow (wsV RX9 268 RX3 yX3_get wsX3_get) := goodIn_app (goodIn_of _ (by decide +kernel)) ggX9_numberInRow_X3_get
set_option maxRecDepth 20000 in
theorem ggX9_numberInRow_X1_numberOf : GoodIn wsX9_numberInRow wsX1_numberOf := goodIn_r _ [30, 31, 32, 33, 34, 35, 48, 49, 50, 51, 52, 53] (by decide +kernel) (by decide +kernel)
set_option maxRecDepth 20000 in
theorem gX9_numberInRow_X1_numberOf : GoodIn wsX9_numberInRow (wsV RX9 167 RX1 yX1_numberOf wsX1_numberOf) := goodIn_app (goodIn_of _ (by decide +kernel)) ggX9_numberInRow_X1_numberOf
set_option maxRecDepth 20000 in
theorem ggX9_moveInRow_X1_has : GoodIn wsX9_moveInRow wsX1_has := goodIn_r _ [8, 9, 55, 56, 57, 58, 59, 60] (by decide +kernel) (by decide +kernel)
set_option maxRecDepth 20000 in
theorem gX9_moveInRow_X1_has : GoodIn wsX9_moveInRow (wsV RX9 144 RX1 yX1_has wsX1_has) := goodIn_app (goodIn_of _ (by decide +kernel)) ggX9_moveInRow_X1_has
set_option maxRecDepth 20000 in
theorem ggX9_moveInRow_X3_lengthOf : GoodIn wsX9_moveInRow wsX3_lengthOf := goodIn_r _ [14, 15, 16, 17, 13, 18, 19, 20, 21, 61, 62] (by decide +kernel) (by decide +kernel)
set_option maxRecDepth 20000 in
theorem gX9_moveInRow_X3_lengthOf : GoodIn wsX9_moveInRow (wsV RX9 148 RX3 yX3_lengthOf wsX3_lengthOf) := goodIn_app (goodIn_of _ (by decide +kernel)) ggX9_moveInRow_X3_lengthOf
set_option maxRecDepth 20000 in
theorem ggX9_moveInRow_X3_remove : GoodIn wsX9_moveInRow wsX3_remove := goodIn_r _ [25, 15, 16, 17, 13, 18, 19, 20, 21, 26, 27, 28, 29, 30, 31, 32, 33, 34, 35, 36, 61, 62] (by decide +kernel) (by decide +kernel)
set_option maxRecDepth 20000 in
theorem gX9_moveInRow_X3_remove : GoodIn wsX9_moveInRow (wsV RX9 275 RX3 yX3_remove wsX3_remove) := goodIn_app (goodIn_of _ (by decide +kernel)) ggX9_moveInRow_X3_remove
set_option maxRecDepth 20000 in
theorem ggX9_moveInRow_X3_insert : GoodIn wsX9_moveInRow wsX3_insert := goodIn_r _ [40, 15, 16, 17, 13, 18, 41, 42, 43, 44, 19, 20, 21, 26, 27, 28, 29, 30, 31, 32, 33, 34, 35, 36, 61, 62] (by decide +kernel) (by decide +kernel)
set_option maxRecDepth 20000 in
theorem gX9_moveInRow_X3_insert : GoodIn wsX9_moveInRow (wsV RX9 278 RX3 yX3_insert wsX3_insert) := goodIn_app (goodIn_of _ (by decide +kernel)) ggX9_moveInRow_X3_insert
set_option maxRecDepth 20000 in
theorem ggX9_joinNew_X5_hasForm : GoodIn wsX9_joinNew wsX5_hasForm := goodIn_r _ [11, 12, 13, 14, 15, 10, 16, 17, 93, 94, 95, 96, 97] (by decide +kernel) (by decide +kernel)
set_option maxRecDepth 20000 in
theorem gX9_joinNew_X5_hasForm : GoodIn wsX9_joinNew (wsV RX9 281 RX5 yX5_hasForm wsX5_hasForm) := goodIn_app (goodIn_of _ (by decide +kernel)) ggX9_joinNew_X5_hasForm
set_option maxRecDepth 20000 in
theorem ggX9_joinNew_X1_has : GoodIn wsX9_joinNew wsX1_has := goodIn_r _ [22, 23, 98, 99, 100, 101, 102, 103] (by decide +kernel) (by decide +kernel)
set_option maxRecDepth 20000 in
theorem gX9_joinNew_X1_has : GoodIn wsX9_joinNew (wsV RX9 144 RX1 yX1_has wsX1_has) := goodIn_app (goodIn_of _ (by decide +kernel)) ggX9_joinNew_X1_has
set_option maxRecDepth 20000 in
theorem ggX9_joinNew_X3_lengthOf : GoodIn wsX9_joinNew wsX3_lengthOf := goodIn_r _ [28, 29, 30, 31, 27, 32, 33, 34, 35, 104, 105] (by decide +kernel) (by decide +kernel)
set_option maxRecDepth 20000 in
theorem gX9_joinNew_X3_lengthOf : GoodIn wsX9_joinNew (wsV RX9 148 RX3 yX3_lengthOf wsX3_lengthOf) := goodIn_app (goodIn_of _ (by decide +kernel)) ggX9_joinNew_X3_lengthOf
set_option maxRecDepth 20000 in
theorem ggX9_joinNew_X1_had : GoodIn wsX9_joinNew wsX1_had := goodIn_r _ [39, 40, 98, 99, 100, 101, 102, 103] (by decide +kernel) (by decide +kernel)
set_option maxRecDepth 20000 in
theorem gX9_joinNew_X1_had : GoodIn wsX9_joinNew (wsV RX9 200 RX1 yX1_had wsX1_had) := goodIn_app (goodIn_of _ (by decide +kernel)) ggX9_joinNew_X1_had
set_option maxRecDepth 20000 in
theorem ggX9_joinNew_X3_get : GoodIn wsX9_joinNew wsX3_get := goodIn_r _ [44, 45, 25, 26, 27, 28, 29, 30, 31, 32, 33, 34, 35, 46, 47, 48, 49, 50, 51, 104, 105] (by decide +kernel) (by decide +kernel)
set_option maxRecDepth 20000 in
theorem gX9_joinNew_X3_get : GoodIn wsX9_joinNew (wsV RX9 268 RX3 yX3_get wsX3_get) := goodIn_app (goodIn_of _ (by decide +kernel)) ggX9_joinNew_X3_get
set_option maxRecDepth 20000 in
theorem ggX9_joinNew_X1_separate : GoodIn wsX9_joinNew wsX1_separate := goodIn_r _ [55, 23, 40, 56, 57, 58, 59, 27, 60, 29, 30, 31, 32, 33, 34, 35, 46, 47, 48, 49, 50, 51, 61, 62, 63, 64, 65, 98, 99, 100, 101, 102, 103, 104, 105] (by decide +kernel) (by decide +kernel)
set_option maxRecDepth 20000 in
theorem gX9_joinNew_X1_separate : GoodIn wsX9_joinNew (wsV RX9 153 RX1 yX1_separate wsX1_separate) := goodIn_app (goodIn_of _ (by decide +kernel)) ggX9_joinNew_X1_separate
set_option maxRecDepth 20000 in
theorem ggX9_joinNew_X1_join : GoodIn wsX9_joinNew wsX1_join := goodIn_r _ [69, 23, 40, 56, 70, 71, 72, 27, 73, 29, 30, 31, 32, 74, 75, 76, 77, 33, 34, 35, 46, 47, 48, 49, 50, 51, 61, 62, 63, 64, 65, 78, 79, 80, 81, 45, 25, 26, 28, 82, 98, 99, 100, 101, 102, 103, 104, 105] (by decide +kernel) (by decide +kernel)
set_option maxRecDepth 20000 in
theorem gX9_joinNew_X1_join : GoodIn wsX9_joinNew (wsV RX9 286 RX1 yX1_join wsX1_join) := goodIn_app (goodIn_of _ (by decide +kernel)) ggX9_joinNew_X1_join
set_option maxRecDepth 20000 in
theorem ggX10_link_X10_fails : GoodIn wsX10_link wsX10_fails := goodIn_r _ [10, 11, 12, 13, 14, 15, 16, 17, 18, 19, 20, 21, 22, 23, 24, 25, 26, 27, 28, 29, 30, 31, 32, 33, 34, 35, 36, 37, 38, 39, 40, 41, 42] (by decide +kernel) (by decide +kernel)
set_option maxRecDepth 20000 in
theorem gX10_link_X10_fails : GoodIn wsX10_link (wsV RX10 88 RX10 yX10_fails wsX10_fails) := goodIn_app (goodIn_of _ (by decide +kernel)) ggX10_link_X10_fails
set_option maxRecDepth 20000 in
theorem ggX10_make_X10_fails : GoodIn wsX10_make wsX10_fails := goodIn_r _ [7, 8, 18, 19, 20, 21, 22, 23, 24, 25, 26, 27, 28, 29, 30, 31, 32, 33, 34, 35, 36, 37, 38, 39, 40, 41, 42, 43, 44, 45, 46, 47, 48] (by decide +kernel) (by decide +kernel)
set_option maxRecDepth 20000 in
theorem gX10_make_X10_fails : GoodIn wsX10_make (wsV RX10 88 RX10 yX10_fails wsX10_fails) := goodIn_app (goodIn_of _ (by decide +kernel)) ggX10_make_X10_fails
set_option maxRecDepth 20000 in
theorem ggX10_make_X10_fresh : GoodIn wsX10_make wsX10_fresh := goodIn_r _ [12, 13, 2, 14, 15, 1, 16, 17, 18, 19, 20, 21, 22, 23, 24, 25, 26, 27, 28, 29, 30, 31, 32, 33, 34, 35, 36, 37, 38, 39, 40, 41, 42, 43, 44, 45, 46, 47, 48] (by decide +kernel) (by decide +kernel)
set_option maxRecDepth 20000 in
theorem gX10_make_X10_fresh : GoodIn wsX10_make (wsV RX10 98 RX10 yX10_fresh wsX10_fresh) := goodIn_app (goodIn_of _ (by decide +kernel)) ggX10_make_X10_fresh
set_option maxRecDepth 20000 in
theorem ggX10_part_X10_indexIn : GoodIn wsX10_part wsX10_indexIn := goodIn_r _ [9] (by decide +kernel) (by decide +kernel)
set_option maxRecDepth 20000 in
theorem gX10_part_X10_indexIn : GoodIn wsX10_part (wsV RX10 102 RX10 yX10_indexIn wsX10_indexIn) := goodIn_app (goodIn_of _ (by decide +kernel)) ggX10_part_X10_indexIn
set_option maxRecDepth 20000 in
theorem ggX10_part_X10_remove : GoodIn wsX10_part wsX10_remove := goodIn_r _ [13] (by decide +kernel) (by decide +kernel)
set_option maxRecDepth 20000 in
theorem gX10_part_X10_remove : GoodIn wsX10_part (wsV RX10 106 RX10 yX10_remove wsX10_remove) := goodIn_app (goodIn_of _ (by decide +kernel)) ggX10_part_X10_remove
set_option maxRecDepth 20000 in
theorem ggX10_isHad_X10_indexIn : GoodIn wsX10_isHad wsX10_indexIn := goodIn_r _ [7] (by decide +kernel) (by decide +kernel)
set_option maxRecDepth 20000 in
theorem gX10_isHad_X10_indexIn : GoodIn wsX10_isHad (wsV RX10 102 RX10 yX10_indexIn wsX10_indexIn) := goodIn_app (goodIn_of _ (by decide +kernel)) ggX10_isHad_X10_indexIn
set_option maxRecDepth 20000 in
theorem ggX10_owns_X10_isHad : GoodIn wsX10_owns wsX10_isHad := goodIn_r _ [7, 8, 9, 10, 11, 12, 6, 13, 14, 15, 16, 17, 18, 19, 20, 21, 22, 23, 24, 25, 26, 27, 28, 29, 30, 31, 32, 33, 34, 35, 36, 37, 38, 39, 40, 41, 42, 43, 44] (by decide +kernel) (by decide +kernel)
set_option maxRecDepth 20000 in
theorem gX10_owns_X10_isHad : GoodIn wsX10_owns (wsV RX10 110 RX10 yX10_isHad wsX10_isHad) := goodIn_app (goodIn_of _ (by decide +kernel)) ggX10_owns_X10_isHad
set_option maxRecDepth 20000 in
theorem ggX10_walk_X10_add : GoodIn wsX10_walk wsX10_add := goodIn_r _ [12, 13, 1, 7, 14, 15, 16, 17, 18, 19, 20, 21, 22, 23, 24, 25, 26, 27, 28, 29, 30, 31, 32, 33, 34, 35, 36, 37, 38, 39, 40, 41, 42, 43, 44] (by decide +kernel) (by decide +kernel)
set_option maxRecDepth 20000 in
theorem gX10_walk_X10_add : GoodIn wsX10_walk (wsV RX10 117 RX10 yX10_add wsX10_add) := goodIn_app (goodIn_of _ (by decide +kernel)) ggX10_walk_X10_add
set_option maxRecDepth 20000 in
theorem ggX10_wrong_X10_isLink : GoodIn wsX10_wrong wsX10_isLink := goodIn_r _ [8, 9, 16, 17, 18, 19, 20, 21, 22, 23, 24, 25, 26, 27, 28, 29, 30, 31, 32, 33, 34, 35, 36, 37, 38, 39, 40, 41, 42, 43, 44, 45, 46] (by decide +kernel) (by decide +kernel)
set_option maxRecDepth 20000 in
theorem gX10_wrong_X10_isLink : GoodIn wsX10_wrong (wsV RX10 121 RX10 yX10_isLink wsX10_isLink) := goodIn_app (goodIn_of _ (by decide +kernel)) ggX10_wrong_X10_isLink
set_option maxRecDepth 20000 in
theorem ggX10_wrong_X10_placeOf : GoodIn wsX10_wrong wsX10_placeOf := goodIn_r _ [13, 14, 15, 16, 17, 18, 19, 20, 21, 22, 23, 24, 25, 26, 27, 28, 29, 30, 31, 32, 33, 34, 35, 36, 37, 38, 39, 40, 41, 42, 43, 44, 45, 46] (by decide +kernel) (by decide +kernel)
set_option maxRecDepth 20000 in
theorem gX10_wrong_X10_placeOf : GoodIn wsX10_wrong (wsV RX10 124 RX10 yX10_placeOf wsX10_placeOf) := goodIn_app (goodIn_of _ (by decide +kernel)) ggX10_wrong_X10_placeOf
set_option maxRecDepth 20000 in
theorem ggX10_set_X10_wrong : GoodIn wsX10_set wsX10_wrong := goodIn_r _ [13, 14, 15, 16, 17, 18, 19, 12, 20, 21, 22, 23, 24, 25, 26, 27, 64, 65, 66, 67, 68, 69, 70, 71, 72, 73, 74, 75, 76, 77, 78, 79, 80, 81, 82, 83, 84, 85, 86, 87, 88, 89, 90, 91, 92, 93, 94] (by decide +kernel) (by decide +kernel)
set_option maxRecDepth 20000 in
theorem gX10_set_X10_wrong : GoodIn wsX10_set (wsV RX10 127 RX10 yX10_wrong wsX10_wrong) := goodIn_app (goodIn_of _ (by decide +kernel)) ggX10_set_X10_wrong
set_option maxRecDepth 20000 in
theorem ggX10_set_X10_fails : GoodIn wsX10_set wsX10_fails := goodIn_r _ [31, 5, 64, 65, 66, 67, 68, 69, 70, 71, 72, 73, 74, 75, 76, 77, 78, 79, 80, 81, 82, 83, 84, 85, 86, 87, 88, 89, 90, 91, 92, 93, 94] (by decide +kernel) (by decide +kernel)
set_option maxRecDepth 20000 in
theorem gX10_set_X10_fails : GoodIn wsX10_set (wsV RX10 88 RX10 yX10_fails wsX10_fails) := goodIn_app (goodIn_of _ (by decide +kernel)) ggX10_set_X10_fails
set_option maxRecDepth 20000 in
theorem ggX10_set_X10_placeOf : GoodIn wsX10_set wsX10_placeOf := goodIn_r _ [25, 26, 27, 64, 65, 66, 67, 68, 69, 70, 71, 72, 73, 74, 75, 76, 77, 78, 79, 80, 81, 82, 83, 84, 85, 86, 87, 88, 89, 90, 91, 92, 93, 94] (by decide +kernel) (by decide +kernel)
set_option maxRecDepth 20000 in
theorem gX10_set_X10_placeOf : GoodIn wsX10_set (wsV RX10 124 RX10 yX10_placeOf wsX10_placeOf) := goodIn_app (goodIn_of _ (by decide +kernel)) ggX10_set_X10_placeOf
set_option maxRecDepth 20000 in
theorem ggX10_set_X10_indexIn : GoodIn wsX10_set wsX10_indexIn := goodIn_r _ [35] (by decide +kernel) (by decide +kernel)
set_option maxRecDepth 20000 in
theorem gX10_set_X10_indexIn : GoodIn wsX10_set (wsV RX10 102 RX10 yX10_indexIn wsX10_indexIn) := goodIn_app (goodIn_of _ (by decide +kernel)) ggX10_set_X10_indexIn
set_option maxRecDepth 20000 in
theorem ggX10_set_X10_remove : GoodIn wsX10_set wsX10_remove := goodIn_r _ [39] (by decide +kernel) (by decide +kernel)
set_option maxRecDepth 20000 in
theorem gX10_set_X10_remove : GoodIn wsX10_set (wsV RX10 106 RX10 yX10_remove wsX10_remove) := goodIn_app (goodIn_of _ (by decide +kernel)) ggX10_set_X10_remove
set_option maxRecDepth 20000 in
theorem ggX10_set_X10_insert : GoodIn wsX10_set wsX10_insert := goodIn_r _ [43] (by decide +kernel) (by decide +kernel)
set_option maxRecDepth 20000 in
theorem gX10_set_X10_insert : GoodIn wsX10_set (wsV RX10 131 RX10 yX10_insert wsX10_insert) := goodIn_app (goodIn_of _ (by decide +kernel)) ggX10_set_X10_insert
set_option maxRecDepth 20000 in
theorem ggX10_set_X10_measure : GoodIn wsX10_set wsX10_measure := goodIn_r _ [47, 4, 48, 21, 3, 7, 8, 49, 64, 65, 66, 67, 68, 69, 70, 71, 72, 73, 74, 75, 76, 77, 78, 79, 80, 81, 82, 83, 84, 85, 86, 87, 88, 89, 90, 91, 92, 93, 94] (by decide +kernel) (by decide +kernel)
set_option maxRecDepth 20000 in
theorem gX10_set_X10_measure : GoodIn wsX10_set (wsV RX10 135 RX10 yX10_measure wsX10_measure) := goodIn_app (goodIn_of _ (by decide +kernel)) ggX10_set_X10_measure
set_option maxRecDepth 20000 in
theorem ggX10_set_X10_walk : GoodIn wsX10_set wsX10_walk := goodIn_r _ [53, 54, 4, 21, 3, 2, 1, 27, 55, 56, 57, 12, 58, 59, 64, 65, 66, 67, 68, 69, 70, 71, 72, 73, 74, 75, 76, 77, 78, 79, 80, 81, 82, 83, 84, 85, 86, 87, 88, 89, 90, 91, 92, 93, 94] (by decide +kernel) (by decide +kernel)
set_option maxRecDepth 20000 in
theorem gX10_set_X10_walk : GoodIn wsX10_set (wsV RX10 139 RX10 yX10_walk wsX10_walk) := goodIn_app (goodIn_of _ (by decide +kernel)) ggX10_set_X10_walk
set_option maxRecDepth 20000 in
theorem ggX10_set_X10_part : GoodIn wsX10_set wsX10_part := goodIn_r _ [63, 1, 2, 8, 7, 32, 33, 34, 12, 35, 36, 37, 38, 39, 64, 65, 66, 67, 68, 69, 70, 71, 72, 73, 74, 75, 76, 77, 78, 79, 80, 81, 82, 83, 84, 85, 86, 87, 88, 89, 90, 91, 92, 93, 94] (by decide +kernel) (by decide +kernel)
set_option maxRecDepth 20000 in
theorem gX10_set_X10_part : GoodIn wsX10_set (wsV RX10 142 RX10 yX10_part wsX10_part) := goodIn_app (goodIn_of _ (by decide +kernel)) ggX10_set_X10_part
set_option maxRecDepth 20000 in
theorem ggX10_cut_X10_wrong : GoodIn wsX10_cut wsX10_wrong := goodIn_r _ [5, 6, 7, 8, 9, 10, 11, 4, 12, 13, 14, 15, 16, 17, 18, 19, 45, 46, 47, 48, 49, 50, 51, 52, 53, 54, 55, 56, 57, 58, 59, 60, 61, 62, 63, 64, 65, 66, 67, 68, 69, 70, 71, 72, 73, 74, 75] (by decide +kernel) (by decide +kernel)
set_option maxRecDepth 20000 in
theorem gX10_cut_X10_wrong : GoodIn wsX10_cut (wsV RX10 127 RX10 yX10_wrong wsX10_wrong) := goodIn_app (goodIn_of _ (by decide +kernel)) ggX10_cut_X10_wrong
set_option maxRecDepth 20000 in
theorem ggX10_cut_X10_fails : GoodIn wsX10_cut wsX10_fails := goodIn_r _ [23, 24, 45, 46, 47, 48, 49, 50, 51, 52, 53, 54, 55, 56, 57, 58, 59, 60, 61, 62, 63, 64, 65, 66, 67, 68, 69, 70, 71, 72, 73, 74, 75] (by decide +kernel) (by decide +kernel)
set_option maxRecDepth 20000 in
theorem gX10_cut_X10_fails : GoodIn wsX10_cut (wsV RX10 88 RX10 yX10_fails wsX10_fails) := goodIn_app (goodIn_of _ (by decide +kernel)) ggX10_cut_X10_fails
set_option maxRecDepth 20000 in
theorem ggX10_cut_X10_placeOf : GoodIn wsX10_cut wsX10_placeOf := goodIn_r _ [17, 18, 19, 45, 46, 47, 48, 49, 50, 51, 52, 53, 54, 55, 56, 57, 58, 59, 60, 61, 62, 63, 64, 65, 66, 67, 68, 69, 70, 71, 72, 73, 74, 75] (by decide +kernel) (by decide +kernel)
set_option maxRecDepth 20000 in
theorem gX10_cut_X10_placeOf : GoodIn wsX10_cut (wsV RX10 124 RX10 yX10_placeOf wsX10_placeOf) := goodIn_app (goodIn_of _ (by decide +kernel)) ggX10_cut_X10_placeOf
set_option maxRecDepth 20000 in
theorem ggX10_cut_X10_isHad : GoodIn wsX10_cut wsX10_isHad := goodIn_r _ [28, 29, 30, 31, 32, 33, 4, 34, 45, 46, 47, 48, 49, 50, 51, 52, 53, 54, 55, 56, 57, 58, 59, 60, 61, 62, 63, 64, 65, 66, 67, 68, 69, 70, 71, 72, 73, 74, 75] (by decide +kernel) (by decide +kernel)
set_option maxRecDepth 20000 in
theorem gX10_cut_X10_isHad : GoodIn wsX10_cut (wsV RX10 110 RX10 yX10_isHad wsX10_isHad) := goodIn_app (goodIn_of _ (by decide +kernel)) ggX10_cut_X10_isHad
set_option maxRecDepth 20000 in
theorem ggX10_cut_X10_part : GoodIn wsX10_cut wsX10_part := goodIn_r _ [38, 29, 30, 39, 40, 31, 32, 33, 4, 34, 41, 42, 43, 44, 45, 46, 47, 48, 49, 50, 51, 52, 53, 54, 55, 56, 57, 58, 59, 60, 61, 62, 63, 64, 65, 66, 67, 68, 69, 70, 71, 72, 73, 74, 75] (by decide +kernel) (by decide +kernel)
set_option maxRecDepth 20000 in
theorem gX10_cut_X10_part : GoodIn wsX10_cut (wsV RX10 142 RX10 yX10_part wsX10_part) := goodIn_app (goodIn_of _ (by decide +kernel)) ggX10_cut_X10_part
set_option maxRecDepth 20000 in
theorem ggX10_drop_X10_placeOf : GoodIn wsX10_drop wsX10_placeOf := goodIn_r _ [8, 2, 9, 65, 66, 67, 68, 69, 70, 71, 72, 73, 74, 75, 76, 77, 78, 79, 80, 81, 82, 83, 84, 85, 86, 87, 88, 89, 90, 91, 92, 93, 94, 95] (by decide +kernel) (by decide +kernel)
set_option maxRecDepth 20000 in
theorem gX10_drop_X10_placeOf : GoodIn wsX10_drop (wsV RX10 124 RX10 yX10_placeOf wsX10_placeOf) := goodIn_app (goodIn_of _ (by decide +kernel)) ggX10_drop_X10_placeOf
set_option maxRecDepth 20000 in
theorem ggX10_drop_X10_fails : GoodIn wsX10_drop wsX10_fails := goodIn_r _ [13, 3, 65, 66, 67, 68, 69, 70, 71, 72, 73, 74, 75, 76, 77, 78, 79, 80, 81, 82, 83, 84, 85, 86, 87, 88, 89, 90, 91, 92, 93, 94, 95] (by decide +kernel) (by decide +kernel)
set_option maxRecDepth 20000 in
theorem gX10_drop_X10_fails : GoodIn wsX10_drop (wsV RX10 88 RX10 yX10_fails wsX10_fails) := goodIn_app (goodIn_of _ (by decide +kernel)) ggX10_drop_X10_fails
set_option maxRecDepth 20000 in
theorem ggX10_drop_X10_goesToo : GoodIn wsX10_drop wsX10_goesToo := goodIn_r _ [17, 18, 19, 20, 1, 21, 65, 66, 67, 68, 69, 70, 71, 72, 73, 74, 75, 76, 77, 78, 79, 80, 81, 82, 83, 84, 85, 86, 87, 88, 89, 90, 91, 92, 93, 94, 95] (by decide +kernel) (by decide +kernel)
set_option maxRecDepth 20000 in
theorem gX10_drop_X10_goesToo : GoodIn wsX10_drop (wsV RX10 146 RX10 yX10_goesToo wsX10_goesToo) := goodIn_app (goodIn_of _ (by decide +kernel)) ggX10_drop_X10_goesToo
set_option maxRecDepth 20000 in
theorem ggX10_drop_X10_firstBarred : GoodIn wsX10_drop wsX10_firstBarred := goodIn_r _ [25, 1, 26, 9, 27, 28, 29, 7, 30, 18, 19, 31, 32, 33, 34, 35, 36, 37, 20, 21, 65, 66, 67, 68, 69, 70, 71, 72, 73, 74, 75, 76, 77, 78, 79, 80, 81, 82, 83, 84, 85, 86, 87, 88, 89, 90, 91, 92, 93, 94, 95] (by decide +kernel) (by decide +kernel)
set_option maxRecDepth 20000 in
theorem gX10_drop_X10_firstBarred : GoodIn wsX10_drop (wsV RX10 149 RX10 yX10_firstBarred wsX10_firstBarred) := goodIn_app (goodIn_of _ (by decide +kernel)) ggX10_drop_X10_firstBarred
set_option maxRecDepth 20000 in
theorem ggX10_drop_X10_measure : GoodIn wsX10_drop wsX10_measure := goodIn_r _ [36, 26, 37, 18, 19, 20, 21, 1, 65, 66, 67, 68, 69, 70, 71, 72, 73, 74, 75, 76, 77, 78, 79, 80, 81, 82, 83, 84, 85, 86, 87, 88, 89, 90, 91, 92, 93, 94, 95] (by decide +kernel) (by decide +kernel)
set_option maxRecDepth 20000 in
theorem gX10_drop_X10_measure : GoodIn wsX10_drop (wsV RX10 135 RX10 yX10_measure wsX10_measure) := goodIn_app (goodIn_of _ (by decide +kernel)) ggX10_drop_X10_measure
set_option maxRecDepth 20000 in
theorem ggX10_drop_X10_walk : GoodIn wsX10_drop wsX10_walk := goodIn_r _ [41, 42, 26, 18, 19, 31, 32, 9, 43, 44, 45, 7, 46, 47, 65, 66, 67, 68, 69, 70, 71, 72, 73, 74, 75, 76, 77, 78, 79, 80, 81, 82, 83, 84, 85, 86, 87, 88, 89, 90, 91, 92, 93, 94, 95] (by decide +kernel) (by decide +kernel)
set_option maxRecDepth 20000 in
theorem gX10_drop_X10_walk : GoodIn wsX10_drop (wsV RX10 139 RX10 yX10_walk wsX10_walk) := goodIn_app (goodIn_of _ (by decide +kernel)) ggX10_drop_X10_walk
set_option maxRecDepth 20000 in
theorem ggX10_drop_X10_barred : GoodIn wsX10_drop wsX10_barred := goodIn_r _ [30, 18, 19, 31, 32, 1, 9, 65, 66, 67, 68, 69, 70, 71, 72, 73, 74, 75, 76, 77, 78, 79, 80, 81, 82, 83, 84, 85, 86, 87, 88, 89, 90, 91, 92, 93, 94, 95] (by decide +kernel) (by decide +kernel)
set_option maxRecDepth 20000 in
theorem gX10_drop_X10_barred : GoodIn wsX10_drop (wsV RX10 152 RX10 yX10_barred wsX10_barred) := goodIn_app (goodIn_of _ (by decide +kernel)) ggX10_drop_X10_barred
set_option maxRecDepth 20000 in
theorem ggX10_drop_X10_add : GoodIn wsX10_drop wsX10_add := goodIn_r _ [46, 47, 42, 9, 65, 66, 67, 68, 69, 70, 71, 72, 73, 74, 75, 76, 77, 78, 79, 80, 81, 82, 83, 84, 85, 86, 87, 88, 89, 90, 91, 92, 93, 94, 95] (by decide +kernel) (by decide +kernel)
set_option maxRecDepth 20000 in
theorem gX10_drop_X10_add : GoodIn wsX10_drop (wsV RX10 117 RX10 yX10_add wsX10_add) := goodIn_app (goodIn_of _ (by decide +kernel)) ggX10_drop_X10_add
set_option maxRecDepth 20000 in
theorem ggX10_drop_X10_erase : GoodIn wsX10_drop wsX10_erase := goodIn_r _ [51, 18, 31, 32, 20, 21, 2, 52, 53, 54, 55, 7, 56, 57, 58, 59, 60, 61, 62, 63, 64, 65, 66, 67, 68, 69, 70, 71, 72, 73, 74, 75, 76, 77, 78, 79, 80, 81, 82, 83, 84, 85, 86, 87, 88, 89, 90, 91, 92, 93, 94, 95] (by decide +kernel) (by decide +kernel)
set_option maxRecDepth 20000 in
theorem gX10_drop_X10_erase : GoodIn wsX10_drop (wsV RX10 155 RX10 yX10_erase wsX10_erase) := goodIn_app (goodIn_of _ (by decide +kernel)) ggX10_drop_X10_erase
set_option maxRecDepth 20000 in
theorem ggX10_firstBarred_X10_barred : GoodIn wsX10_firstBarred wsX10_barred := goodIn_r _ [8, 9, 10, 11, 12, 1, 3, 20, 21, 22, 23, 24, 25, 26, 27, 28, 29, 30, 31, 32, 33, 34, 35, 36, 37, 38, 39, 40, 41, 42, 43, 44, 45, 46, 47, 48, 49, 50] (by decide +kernel) (by decide +kernel)
set_option maxRecDepth 20000 in
theorem gX10_firstBarred_X10_barred : GoodIn wsX10_firstBarred (wsV RX10 152 RX10 yX10_barred wsX10_barred) := goodIn_app (goodIn_of _ (by decide +kernel)) ggX10_firstBarred_X10_barred
set_option maxRecDepth 20000 in
theorem ggX10_firstBarred_X10_measure : GoodIn wsX10_firstBarred wsX10_measure := goodIn_r _ [16, 2, 17, 9, 10, 18, 19, 1, 20, 21, 22, 23, 24, 25, 26, 27, 28, 29, 30, 31, 32, 33, 34, 35, 36, 37, 38, 39, 40, 41, 42, 43, 44, 45, 46, 47, 48, 49, 50] (by decide +kernel) (by decide +kernel)
set_option maxRecDepth 20000 in
theorem gX10_firstBarred_X10_measure : GoodIn wsX10_firstBarred (wsV RX10 135 RX10 yX10_measure wsX10_measure) := goodIn_app (goodIn_of _ (by decide +kernel)) ggX10_firstBarred_X10_measure
set_option maxRecDepth 20000 in
theorem ggX10_erase_X10_part : GoodIn wsX10_erase wsX10_part := goodIn_r _ [12, 3, 2, 5, 4, 13, 14, 15, 11, 16, 17, 18, 19, 20, 21, 22, 23, 24, 25, 26, 27, 28, 29, 30, 31, 32, 33, 34, 35, 36, 37, 38, 39, 40, 41, 42, 43, 44, 45, 46, 47, 48, 49, 50, 51] (by decide +kernel) (by decide +kernel)
set_option maxRecDepth 20000 in
theorem gX10_erase_X10_part : GoodIn wsX10_erase (wsV RX10 142 RX10 yX10_part wsX10_part) := goodIn_app (goodIn_of _ (by decide +kernel)) ggX10_erase_X10_part
set_option maxRecDepth 20000 in
theorem ggX10_copy_X10_placeOf : GoodIn wsX10_copy wsX10_placeOf := goodIn_r _ [15, 2, 3, 56, 57, 58, 59, 60, 61, 62, 63, 64, 65, 66, 67, 68, 69, 70, 71, 72, 73, 74, 75, 76, 77, 78, 79, 80, 81, 82, 83, 84, 85, 86] (by decide +kernel) (by decide +kernel)
set_option maxRecDepth 20000 in
theorem gX10_copy_X10_placeOf : GoodIn wsX10_copy (wsV RX10 124 RX10 yX10_placeOf wsX10_placeOf) := goodIn_app (goodIn_of _ (by decide +kernel)) ggX10_copy_X10_placeOf
set_option maxRecDepth 20000 in
theorem ggX10_copy_X10_fails : GoodIn wsX10_copy wsX10_fails := goodIn_r _ [19, 20, 56, 57, 58, 59, 60, 61, 62, 63, 64, 65, 66, 67, 68, 69, 70, 71, 72, 73, 74, 75, 76, 77, 78, 79, 80, 81, 82, 83, 84, 85, 86] (by decide +kernel) (by decide +kernel)
set_option maxRecDepth 20000 in
theorem gX10_copy_X10_fails : GoodIn wsX10_copy (wsV RX10 88 RX10 yX10_fails wsX10_fails) := goodIn_app (goodIn_of _ (by decide +kernel)) ggX10_copy_X10_fails
set_option maxRecDepth 20000 in
theorem ggX10_copy_X10_markUnder : GoodIn wsX10_copy wsX10_markUnder := goodIn_r _ [24, 1, 25, 8, 9, 26, 27, 56, 57, 58, 59, 60, 61, 62, 63, 64, 65, 66, 67, 68, 69, 70, 71, 72, 73, 74, 75, 76, 77, 78, 79, 80, 81, 82, 83, 84, 85, 86] (by decide +kernel) (by decide +kernel)
set_option maxRecDepth 20000 in
theorem gX10_copy_X10_markUnder : GoodIn wsX10_copy (wsV RX10 158 RX10 yX10_markUnder wsX10_markUnder) := goodIn_app (goodIn_of _ (by decide +kernel)) ggX10_copy_X10_markUnder
set_option maxRecDepth 20000 in
theorem ggX10_copy_X10_isCrowded : GoodIn wsX10_copy wsX10_isCrowded := goodIn_r _ [31, 8, 9, 10, 32, 4, 26, 27, 2, 1, 33, 56, 57, 58, 59, 60, 61, 62, 63, 64, 65, 66, 67, 68, 69, 70, 71, 72, 73, 74, 75, 76, 77, 78, 79, 80, 81, 82, 83, 84, 85, 86] (by decide +kernel) (by decide +kernel)
set_option maxRecDepth 20000 in
theorem gX10_copy_X10_isCrowded : GoodIn wsX10_copy (wsV RX10 161 RX10 yX10_isCrowded wsX10_isCrowded) := goodIn_app (goodIn_of _ (by decide +kernel)) ggX10_copy_X10_isCrowded
set_option maxRecDepth 20000 in
theorem ggX10_copy_X10_fresh : GoodIn wsX10_copy wsX10_fresh := goodIn_r _ [37, 2, 3, 38, 7, 5, 26, 33, 56, 57, 58, 59, 60, 61, 62, 63, 64, 65, 66, 67, 68, 69, 70, 71, 72, 73, 74, 75, 76, 77, 78, 79, 80, 81, 82, 83, 84, 85, 86] (by decide +kernel) (by decide +kernel)
set_option maxRecDepth 20000 in
theorem gX10_copy_X10_fresh : GoodIn wsX10_copy (wsV RX10 98 RX10 yX10_fresh wsX10_fresh) := goodIn_app (goodIn_of _ (by decide +kernel)) ggX10_copy_X10_fresh
set_option maxRecDepth 20000 in
theorem ggX10_copy_X10_copyRow : GoodIn wsX10_copy wsX10_copyRow := goodIn_r _ [42, 6, 26, 27, 9, 10, 43, 44, 45, 14, 46, 56, 57, 58, 59, 60, 61, 62, 63, 64, 65, 66, 67, 68, 69, 70, 71, 72, 73, 74, 75, 76, 77, 78, 79, 80, 81, 82, 83, 84, 85, 86] (by decide +kernel) (by decide +kernel)
set_option maxRecDepth 20000 in
theorem gX10_copy_X10_copyRow : GoodIn wsX10_copy (wsV RX10 164 RX10 yX10_copyRow wsX10_copyRow) := goodIn_app (goodIn_of _ (by decide +kernel)) ggX10_copy_X10_copyRow
set_option maxRecDepth 20000 in
theorem ggX10_copy_X10_copyBack : GoodIn wsX10_copy wsX10_copyBack := goodIn_r _ [50, 6, 33, 51, 43, 44, 45, 14, 46, 56, 57, 58, 59, 60, 61, 62, 63, 64, 65, 66, 67, 68, 69, 70, 71, 72, 73, 74, 75, 76, 77, 78, 79, 80, 81, 82, 83, 84, 85, 86] (by decide +kernel) (by decide +kernel)
set_option maxRecDepth 20000 in
theorem gX10_copy_X10_copyBack : GoodIn wsX10_copy (wsV RX10 168 RX10 yX10_copyBack wsX10_copyBack) := goodIn_app (goodIn_of _ (by decide +kernel)) ggX10_copy_X10_copyBack
set_option maxRecDepth 20000 in
theorem ggX10_copy_X10_copyBeside : GoodIn wsX10_copy wsX10_copyBeside := goodIn_r _ [55, 33, 51, 6, 43, 44, 45, 14, 46, 56, 57, 58, 59, 60, 61, 62, 63, 64, 65, 66, 67, 68, 69, 70, 71, 72, 73, 74, 75, 76, 77, 78, 79, 80, 81, 82, 83, 84, 85, 86] (by decide +kernel) (by decide +kernel)
set_option maxRecDepth 20000 in
theorem gX10_copy_X10_copyBeside : GoodIn wsX10_copy (wsV RX10 171 RX10 yX10_copyBeside wsX10_copyBeside) := goodIn_app (goodIn_of _ (by decide +kernel)) ggX10_copy_X10_copyBeside
set_option maxRecDepth 20000 in
theorem ggX10_copyRow_X10_insert : GoodIn wsX10_copyRow wsX10_insert := goodIn_r _ [10] (by decide +kernel) (by decide +kernel)
set_option maxRecDepth 20000 in
theorem gX10_copyRow_X10_insert : GoodIn wsX10_copyRow (wsV RX10 131 RX10 yX10_insert wsX10_insert) := goodIn_app (goodIn_of _ (by decide +kernel)) ggX10_copyRow_X10_insert
set_option maxRecDepth 20000 in
theorem ggX10_copyBack_X10_insert : GoodIn wsX10_copyBack wsX10_insert := goodIn_r _ [8] (by decide +kernel) (by decide +kernel)
set_option maxRecDepth 20000 in
theorem gX10_copyBack_X10_insert : GoodIn wsX10_copyBack (wsV RX10 131 RX10 yX10_insert wsX10_insert) := goodIn_app (goodIn_of _ (by decide +kernel)) ggX10_copyBack_X10_insert
set_option maxRecDepth 20000 in
theorem ggX10_copyBeside_X10_insert : GoodIn wsX10_copyBeside wsX10_insert := goodIn_r _ [8] (by decide +kernel) (by decide +kernel)
set_option maxRecDepth 20000 in
theorem gX10_copyBeside_X10_insert : GoodIn wsX10_copyBeside (wsV RX10 131 RX10 yX10_insert wsX10_insert) := goodIn_app (goodIn_of _ (by decide +kernel)) ggX10_copyBeside_X10_insert
set_option maxRecDepth 20000 in
theorem ggX10_alike_X10_placeOf : GoodIn wsX10_alike wsX10_placeOf := goodIn_r _ [7, 8, 9, 28, 29, 30, 31, 32, 33, 34, 35, 36, 37, 38, 39, 40, 41, 42, 43, 44, 45, 46, 47, 48, 49, 50, 51, 52, 53, 54, 55, 56, 57, 58] (by decide +kernel) (by decide +kernel)
set_option maxRecDepth 20000 in
theorem gX10_alike_X10_placeOf : GoodIn wsX10_alike (wsV RX10 124 RX10 yX10_placeOf wsX10_placeOf) := goodIn_app (goodIn_of _ (by decide +kernel)) ggX10_alike_X10_placeOf
set_option maxRecDepth 20000 in
theorem ggX10_alike_X10_fails : GoodIn wsX10_alike wsX10_fails := goodIn_r _ [13, 14, 28, 29, 30, 31, 32, 33, 34, 35, 36, 37, 38, 39, 40, 41, 42, 43, 44, 45, 46, 47, 48, 49, 50, 51, 52, 53, 54, 55, 56, 57, 58] (by decide +kernel) (by decide +kernel)
set_option maxRecDepth 20000 in
theorem gX10_alike_X10_fails : GoodIn wsX10_alike (wsV RX10 88 RX10 yX10_fails wsX10_fails) := goodIn_app (goodIn_of _ (by decide +kernel)) ggX10_alike_X10_fails
set_option maxRecDepth 20000 in
theorem ggX10_alike_X10_isAlikeAtOnce : GoodIn wsX10_alike wsX10_isAlikeAtOnce := goodIn_r _ [18, 19, 20, 21, 22, 28, 29, 30, 31, 32, 33, 34, 35, 36, 37, 38, 39, 40, 41, 42, 43, 44, 45, 46, 47, 48, 49, 50, 51, 52, 53, 54, 55, 56, 57, 58] (by decide +kernel) (by decide +kernel)
set_option maxRecDepth 20000 in
theorem gX10_alike_X10_isAlikeAtOnce : GoodIn wsX10_alike (wsV RX10 174 RX10 yX10_isAlikeAtOnce wsX10_isAlikeAtOnce) := goodIn_app (goodIn_of _ (by decide +kernel)) ggX10_alike_X10_isAlikeAtOnce
set_option maxRecDepth 20000 in
theorem ggX10_alike_X10_openPart : GoodIn wsX10_alike wsX10_openPart := goodIn_r _ [26, 20, 21, 22, 27, 1, 28, 29, 30, 31, 32, 33, 34, 35, 36, 37, 38, 39, 40, 41, 42, 43, 44, 45, 46, 47, 48, 49, 50, 51, 52, 53, 54, 55, 56, 57, 58] (by decide +kernel) (by decide +kernel)
set_option maxRecDepth 20000 in
theorem gX10_alike_X10_openPart : GoodIn wsX10_alike (wsV RX10 178 RX10 yX10_openPart wsX10_openPart) := goodIn_app (goodIn_of _ (by decide +kernel)) ggX10_alike_X10_openPart
set_option maxRecDepth 20000 in
theorem ggX10_at_X10_placeOf : GoodIn wsX10_at wsX10_placeOf := goodIn_r _ [10, 11, 4, 22, 23, 24, 25, 26, 27, 28, 29, 30, 31, 32, 33, 34, 35, 36, 37, 38, 39, 40, 41, 42, 43, 44, 45, 46, 47, 48, 49, 50, 51, 52] (by decide +kernel) (by decide +kernel)
set_option maxRecDepth 20000 in
theorem gX10_at_X10_placeOf : GoodIn wsX10_at (wsV RX10 124 RX10 yX10_placeOf wsX10_placeOf) := goodIn_app (goodIn_of _ (by decide +kernel)) ggX10_at_X10_placeOf
set_option maxRecDepth 20000 in
theorem ggX10_at_X10_isLink : GoodIn wsX10_at wsX10_isLink := goodIn_r _ [15, 16, 22, 23, 24, 25, 26, 27, 28, 29, 30, 31, 32, 33, 34, 35, 36, 37, 38, 39, 40, 41, 42, 43, 44, 45, 46, 47, 48, 49, 50, 51, 52] (by decide +kernel) (by decide +kernel)
set_option maxRecDepth 20000 in
theorem gX10_at_X10_isLink : GoodIn wsX10_at (wsV RX10 121 RX10 yX10_isLink wsX10_isLink) := goodIn_app (goodIn_of _ (by decide +kernel)) ggX10_at_X10_isLink
set_option maxRecDepth 20000 in
theorem ggX10_at_X10_fails : GoodIn wsX10_at wsX10_fails := goodIn_r _ [20, 21, 22, 23, 24, 25, 26, 27, 28, 29, 30, 31, 32, 33, 34, 35, 36, 37, 38, 39, 40, 41, 42, 43, 44, 45, 46, 47, 48, 49, 50, 51, 52] (by decide +kernel) (by decide +kernel)
set_option maxRecDepth 20000 in
theorem gX10_at_X10_fails : GoodIn wsX10_at (wsV RX10 88 RX10 yX10_fails wsX10_fails) := goodIn_app (goodIn_of _ (by decide +kernel)) ggX10_at_X10_fails
set_option maxRecDepth 20000 in
theorem ggX10_back_X10_placeOf : GoodIn wsX10_back wsX10_placeOf := goodIn_r _ [10, 11, 4, 22, 23, 24, 25, 26, 27, 28, 29, 30, 31, 32, 33, 34, 35, 36, 37, 38, 39, 40, 41, 42, 43, 44, 45, 46, 47, 48, 49, 50, 51, 52] (by decide +kernel) (by decide +kernel)
set_option maxRecDepth 20000 in
theorem gX10_back_X10_placeOf : GoodIn wsX10_back (wsV RX10 124 RX10 yX10_placeOf wsX10_placeOf) := goodIn_app (goodIn_of _ (by decide +kernel)) ggX10_back_X10_placeOf
set_option maxRecDepth 20000 in
theorem ggX10_back_X10_isLink : GoodIn wsX10_back wsX10_isLink := goodIn_r _ [15, 16, 22, 23, 24, 25, 26, 27, 28, 29, 30, 31, 32, 33, 34, 35, 36, 37, 38, 39, 40, 41, 42, 43, 44, 45, 46, 47, 48, 49, 50, 51, 52] (by decide +kernel) (by decide +kernel)
set_option maxRecDepth 20000 in
theorem gX10_back_X10_isLink : GoodIn wsX10_back (wsV RX10 121 RX10 yX10_isLink wsX10_isLink) := goodIn_app (goodIn_of _ (by decide +kernel)) ggX10_back_X10_isLink
set_option maxRecDepth 20000 in
theorem ggX10_back_X10_fails : GoodIn wsX10_back wsX10_fails := goodIn_r _ [20, 21, 22, 23, 24, 25, 26, 27, 28, 29, 30, 31, 32, 33, 34, 35, 36, 37, 38, 39, 40, 41, 42, 43, 44, 45, 46, 47, 48, 49, 50, 51, 52] (by decide +kernel) (by decide +kernel)
set_option maxRecDepth 20000 in
theorem gX10_back_X10_fails : GoodIn wsX10_back (wsV RX10 88 RX10 yX10_fails wsX10_fails) := goodIn_app (goodIn_of _ (by decide +kernel)) ggX10_back_X10_fails
set_option maxRecDepth 20000 in
theorem ggX10_owners_X10_owns : GoodIn wsX10_owners wsX10_owns := goodIn_r _ [6, 7, 8, 9, 10, 11, 5, 12, 13, 14, 15, 16, 17, 18, 19, 20, 21, 22, 23, 24, 25, 26, 27, 28, 29, 30, 31, 32, 33, 34, 35, 36, 37, 38, 39, 40, 41, 42, 43, 44, 45, 46, 47, 48, 49] (by decide +kernel) (by decide +kernel)
set_option maxRecDepth 20000 in
theorem gX10_owners_X10_owns : GoodIn wsX10_owners (wsV RX10 182 RX10 yX10_owns wsX10_owns) := goodIn_app (goodIn_of _ (by decide +kernel)) ggX10_owners_X10_owns
set_option maxRecDepth 20000 in
theorem ggX10_owned_X10_owns : GoodIn wsX10_owned wsX10_owns := goodIn_r _ [6, 7, 8, 9, 10, 11, 5, 12, 13, 14, 15, 16, 17, 18, 19, 20, 21, 22, 23, 24, 25, 26, 27, 28, 29, 30, 31, 32, 33, 34, 35, 36, 37, 38, 39, 40, 41, 42, 43, 44, 45, 46, 47, 48, 49] (by decide +kernel) (by decide +kernel)
set_option maxRecDepth 20000 in
theorem gX10_owned_X10_owns : GoodIn wsX10_owned (wsV RX10 182 RX10 yX10_owns wsX10_owns) := goodIn_app (goodIn_of _ (by decide +kernel)) ggX10_owned_X10_owns
set_option maxRecDepth 20000 in
theorem ggX10_near_X10_isHad : GoodIn wsX10_near wsX10_isHad := goodIn_r _ [7, 8, 9, 10, 11, 12, 6, 13, 14, 15, 16, 17, 18, 19, 20, 21, 22, 23, 24, 25, 26, 27, 28, 29, 30, 31, 32, 33, 34, 35, 36, 37, 38, 39, 40, 41, 42, 43, 44] (by decide +kernel) (by decide +kernel)
set_option maxRecDepth 20000 in
theorem gX10_near_X10_isHad : GoodIn wsX10_near (wsV RX10 110 RX10 yX10_isHad wsX10_isHad) := goodIn_app (goodIn_of _ (by decide +kernel)) ggX10_near_X10_isHad
set_option maxRecDepth 20000 in
theorem ggX10_ask_X10_placeOf : GoodIn wsX10_ask wsX10_placeOf := goodIn_r _ [6, 7, 8, 53, 54, 55, 56, 57, 58, 59, 60, 61, 62, 63, 64, 65, 66, 67, 68, 69, 70, 71, 72, 73, 74, 75, 76, 77, 78, 79, 80, 81, 82, 83] (by decide +kernel) (by decide +kernel)
set_option maxRecDepth 20000 in
theorem gX10_ask_X10_placeOf : GoodIn wsX10_ask (wsV RX10 124 RX10 yX10_placeOf wsX10_placeOf) := goodIn_app (goodIn_of _ (by decide +kernel)) ggX10_ask_X10_placeOf
set_option maxRecDepth 20000 in
theorem ggX10_ask_X10_fails : GoodIn wsX10_ask wsX10_fails := goodIn_r _ [12, 13, 53, 54, 55, 56, 57, 58, 59, 60, 61, 62, 63, 64, 65, 66, 67, 68, 69, 70, 71, 72, 73, 74, 75, 76, 77, 78, 79, 80, 81, 82, 83] (by decide +kernel) (by decide +kernel)
set_option maxRecDepth 20000 in
theorem gX10_ask_X10_fails : GoodIn wsX10_ask (wsV RX10 88 RX10 yX10_fails wsX10_fails) := goodIn_app (goodIn_of _ (by decide +kernel)) ggX10_ask_X10_fails
set_option maxRecDepth 20000 in
theorem ggX10_ask_X10_owners : GoodIn wsX10_ask wsX10_owners := goodIn_r _ [17, 7, 18, 19, 20, 5, 21, 22, 23, 24, 25, 26, 27, 28, 29, 30, 31, 32, 33, 53, 54, 55, 56, 57, 58, 59, 60, 61, 62, 63, 64, 65, 66, 67, 68, 69, 70, 71, 72, 73, 74, 75, 76, 77, 78, 79, 80, 81, 82, 83] (by decide +kernel) (by decide +kernel)
set_option maxRecDepth 20000 in
theorem gX10_ask_X10_owners : GoodIn wsX10_ask (wsV RX10 185 RX10 yX10_owners wsX10_owners) := goodIn_app (goodIn_of _ (by decide +kernel)) ggX10_ask_X10_owners
set_option maxRecDepth 20000 in
theorem ggX10_ask_X10_markUnder : GoodIn wsX10_ask wsX10_markUnder := goodIn_r _ [37, 38, 39, 22, 23, 29, 28, 53, 54, 55, 56, 57, 58, 59, 60, 61, 62, 63, 64, 65, 66, 67, 68, 69, 70, 71, 72, 73, 74, 75, 76, 77, 78, 79, 80, 81, 82, 83] (by decide +kernel) (by decide +kernel)
set_option maxRecDepth 20000 in
theorem gX10_ask_X10_markUnder : GoodIn wsX10_ask (wsV RX10 158 RX10 yX10_markUnder wsX10_markUnder) := goodIn_app (goodIn_of _ (by decide +kernel)) ggX10_ask_X10_markUnder
set_option maxRecDepth 20000 in
theorem ggX10_ask_X10_depth : GoodIn wsX10_ask wsX10_depth := goodIn_r _ [43, 44, 22, 23, 7, 29, 28, 53, 54, 55, 56, 57, 58, 59, 60, 61, 62, 63, 64, 65, 66, 67, 68, 69, 70, 71, 72, 73, 74, 75, 76, 77, 78, 79, 80, 81, 82, 83] (by decide +kernel) (by decide +kernel)
set_option maxRecDepth 20000 in
theorem gX10_ask_X10_depth : GoodIn wsX10_ask (wsV RX10 188 RX10 yX10_depth wsX10_depth) := goodIn_app (goodIn_of _ (by decide +kernel)) ggX10_ask_X10_depth
set_option maxRecDepth 20000 in
theorem ggX10_ask_X10_owned : GoodIn wsX10_ask wsX10_owned := goodIn_r _ [48, 7, 18, 19, 20, 5, 21, 22, 23, 24, 25, 26, 27, 28, 29, 30, 31, 32, 33, 53, 54, 55, 56, 57, 58, 59, 60, 61, 62, 63, 64, 65, 66, 67, 68, 69, 70, 71, 72, 73, 74, 75, 76, 77, 78, 79, 80, 81, 82, 83] (by decide +kernel) (by decide +kernel)
set_option maxRecDepth 20000 in
theorem gX10_ask_X10_owned : GoodIn wsX10_ask (wsV RX10 191 RX10 yX10_owned wsX10_owned) := goodIn_app (goodIn_of _ (by decide +kernel)) ggX10_ask_X10_owned
set_option maxRecDepth 20000 in
theorem ggX10_ask_X10_near : GoodIn wsX10_ask wsX10_near := goodIn_r _ [52, 22, 7, 24, 25, 26, 5, 27, 28, 29, 30, 31, 32, 33, 53, 54, 55, 56, 57, 58, 59, 60, 61, 62, 63, 64, 65, 66, 67, 68, 69, 70, 71, 72, 73, 74, 75, 76, 77, 78, 79, 80, 81, 82, 83] (by decide +kernel) (by decide +kernel)
set_option maxRecDepth 20000 in
theorem gX10_ask_X10_near : GoodIn wsX10_ask (wsV RX10 194 RX10 yX10_near wsX10_near) := goodIn_app (goodIn_of _ (by decide +kernel)) ggX10_ask_X10_near
set_option maxRecDepth 20000 in
theorem ggX10_size_X10_placeOf : GoodIn wsX10_size wsX10_placeOf := goodIn_r _ [10, 11, 12, 23, 24, 25, 26, 27, 28, 29, 30, 31, 32, 33, 34, 35, 36, 37, 38, 39, 40, 41, 42, 43, 44, 45, 46, 47, 48, 49, 50, 51, 52, 53] (by decide +kernel) (by decide +kernel)
set_option maxRecDepth 20000 in
theorem gX10_size_X10_placeOf : GoodIn wsX10_size (wsV RX10 124 RX10 yX10_placeOf wsX10_placeOf) := goodIn_app (goodIn_of _ (by decide +kernel)) ggX10_size_X10_placeOf
set_option maxRecDepth 20000 in
theorem ggX10_size_X10_isLink : GoodIn wsX10_size wsX10_isLink := goodIn_r _ [16, 17, 23, 24, 25, 26, 27, 28, 29, 30, 31, 32, 33, 34, 35, 36, 37, 38, 39, 40, 41, 42, 43, 44, 45, 46, 47, 48, 49, 50, 51, 52, 53] (by decide +kernel) (by decide +kernel)
set_option maxRecDepth 20000 in
theorem gX10_size_X10_isLink : GoodIn wsX10_size (wsV RX10 121 RX10 yX10_isLink wsX10_isLink) := goodIn_app (goodIn_of _ (by decide +kernel)) ggX10_size_X10_isLink
set_option maxRecDepth 20000 in
theorem ggX10_size_X10_fails : GoodIn wsX10_size wsX10_fails := goodIn_r _ [21, 22, 23, 24, 25, 26, 27, 28, 29, 30, 31, 32, 33, 34, 35, 36, 37, 38, 39, 40, 41, 42, 43, 44, 45, 46, 47, 48, 49, 50, 51, 52, 53] (by decide +kernel) (by decide +kernel)
set_option maxRecDepth 20000 in
theorem gX10_size_X10_fails : GoodIn wsX10_size (wsV RX10 88 RX10 yX10_fails wsX10_fails) := goodIn_app (goodIn_of _ (by decide +kernel)) ggX10_size_X10_fails
set_option maxRecDepth 20000 in
theorem ggX10_way_X10_placeOf : GoodIn wsX10_way wsX10_placeOf := goodIn_r _ [7, 8, 9, 36, 37, 38, 39, 40, 41, 42, 43, 44, 45, 46, 47, 48, 49, 50, 51, 52, 53, 54, 55, 56, 57, 58, 59, 60, 61, 62, 63, 64, 65, 66] (by decide +kernel) (by decide +kernel)
set_option maxRecDepth 20000 in
theorem gX10_way_X10_placeOf : GoodIn wsX10_way (wsV RX10 124 RX10 yX10_placeOf wsX10_placeOf) := goodIn_app (goodIn_of _ (by decide +kernel)) ggX10_way_X10_placeOf
set_option maxRecDepth 20000 in
theorem ggX10_way_X10_fails : GoodIn wsX10_way wsX10_fails := goodIn_r _ [13, 14, 36, 37, 38, 39, 40, 41, 42, 43, 44, 45, 46, 47, 48, 49, 50, 51, 52, 53, 54, 55, 56, 57, 58, 59, 60, 61, 62, 63, 64, 65, 66] (by decide +kernel) (by decide +kernel)
set_option maxRecDepth 20000 in
theorem gX10_way_X10_fails : GoodIn wsX10_way (wsV RX10 88 RX10 yX10_fails wsX10_fails) := goodIn_app (goodIn_of _ (by decide +kernel)) ggX10_way_X10_fails
set_option maxRecDepth 20000 in
theorem ggX10_way_X10_measure : GoodIn wsX10_way wsX10_measure := goodIn_r _ [18, 2, 19, 20, 21, 22, 23, 24, 36, 37, 38, 39, 40, 41, 42, 43, 44, 45, 46, 47, 48, 49, 50, 51, 52, 53, 54, 55, 56, 57, 58, 59, 60, 61, 62, 63, 64, 65, 66] (by decide +kernel) (by decide +kernel)
set_option maxRecDepth 20000 in
theorem gX10_way_X10_measure : GoodIn wsX10_way (wsV RX10 135 RX10 yX10_measure wsX10_measure) := goodIn_app (goodIn_of _ (by decide +kernel)) ggX10_way_X10_measure
set_option maxRecDepth 20000 in
theorem ggX10_way_X10_walk : GoodIn wsX10_way wsX10_walk := goodIn_r _ [28, 1, 2, 20, 21, 29, 30, 9, 31, 32, 33, 6, 34, 35, 36, 37, 38, 39, 40, 41, 42, 43, 44, 45, 46, 47, 48, 49, 50, 51, 52, 53, 54, 55, 56, 57, 58, 59, 60, 61, 62, 63, 64, 65, 66] (by decide +kernel) (by decide +kernel)
set_option maxRecDepth 20000 in
theorem gX10_way_X10_walk : GoodIn wsX10_way (wsV RX10 139 RX10 yX10_walk wsX10_walk) := goodIn_app (goodIn_of _ (by decide +kernel)) ggX10_way_X10_walk
set_option maxRecDepth 20000 in
theorem ggX10_path_X10_fails : GoodIn wsX10_path wsX10_fails := goodIn_r _ [7, 8, 9, 10, 11, 12, 13, 14, 15, 16, 17, 18, 19, 20, 21, 22, 23, 24, 25, 26, 27, 28, 29, 30, 31, 32, 33, 34, 35, 36, 37, 38, 39] (by decide +kernel) (by decide +kernel)
set_option maxRecDepth 20000 in
theorem gX10_path_X10_fails : GoodIn wsX10_path (wsV RX10 88 RX10 yX10_fails wsX10_fails) := goodIn_app (goodIn_of _ (by decide +kernel)) ggX10_path_X10_fails
set_option maxRecDepth 20000 in
theorem ggX10_keep_X10_longer : GoodIn wsX10_keep wsX10_longer := goodIn_r _ [6, 7] (by decide +kernel) (by decide +kernel)
set_option maxRecDepth 20000 in
theorem gX10_keep_X10_longer : GoodIn wsX10_keep (va_wsS RX10 200 yX10_longer wsX10_longer) := goodIn_app (goodIn_of _ (by decide +kernel)) ggX10_keep_X10_longer
set_option maxRecDepth 20000 in
theorem ggX10_begin_X10_fails : GoodIn wsX10_begin wsX10_fails := goodIn_r _ [11, 12, 30, 31, 32, 33, 34, 35, 36, 37, 38, 39, 40, 41, 42, 43, 44, 45, 46, 47, 48, 49, 50, 51, 52, 53, 54, 55, 56, 57, 58, 59, 60] (by decide +kernel) (by decide +kernel)
set_option maxRecDepth 20000 in
theorem gX10_begin_X10_fails : GoodIn wsX10_begin (wsV RX10 88 RX10 yX10_fails wsX10_fails) := goodIn_app (goodIn_of _ (by decide +kernel)) ggX10_begin_X10_fails
set_option maxRecDepth 20000 in
theorem ggX10_begin_X10_keep : GoodIn wsX10_begin wsX10_keep := goodIn_r _ [16, 3, 17, 18, 19, 10, 20, 21, 30, 31, 32, 33, 34, 35, 36, 37, 38, 39, 40, 41, 42, 43, 44, 45, 46, 47, 48, 49, 50, 51, 52, 53, 54, 55, 56, 57, 58, 59, 60] (by decide +kernel) (by decide +kernel)
set_option maxRecDepth 20000 in
theorem gX10_begin_X10_keep : GoodIn wsX10_begin (wsV RX10 207 RX10 yX10_keep wsX10_keep) := goodIn_app (goodIn_of _ (by decide +kernel)) ggX10_begin_X10_keep
set_option maxRecDepth 20000 in
theorem ggX10_begin_X10_keepRows : GoodIn wsX10_begin wsX10_keepRows := goodIn_r _ [25, 26, 27, 28, 29, 13, 14, 15, 10, 16, 3, 17, 18, 19, 20, 21, 30, 31, 32, 33, 34, 35, 36, 37, 38, 39, 40, 41, 42, 43, 44, 45, 46, 47, 48, 49, 50, 51, 52, 53, 54, 55, 56, 57, 58, 59, 60] (by decide +kernel) (by decide +kernel)
set_option maxRecDepth 20000 in
theorem gX10_begin_X10_keepRows : GoodIn wsX10_begin (wsV RX10 210 RX10 yX10_keepRows wsX10_keepRows) := goodIn_app (goodIn_of _ (by decide +kernel)) ggX10_begin_X10_keepRows
set_option maxRecDepth 20000 in
theorem ggX10_keepRows_X10_keep : GoodIn wsX10_keepRows wsX10_keep := goodIn_r _ [9, 10, 11, 12, 13, 8, 14, 15, 16, 17, 18, 19, 20, 21, 22, 23, 24, 25, 26, 27, 28, 29, 30, 31, 32, 33, 34, 35, 36, 37, 38, 39, 40, 41, 42, 43, 44, 45, 46] (by decide +kernel) (by decide +kernel)
set_option maxRecDepth 20000 in
theorem gX10_keepRows_X10_keep : GoodIn wsX10_keepRows (wsV RX10 207 RX10 yX10_keep wsX10_keep) := goodIn_app (goodIn_of _ (by decide +kernel)) ggX10_keepRows_X10_keep
set_option maxRecDepth 20000 in
theorem ggX10_end_X10_fails : GoodIn wsX10_end wsX10_fails := goodIn_r _ [8, 9, 32, 33, 34, 35, 36, 37, 38, 39, 40, 41, 42, 43, 44, 45, 46, 47, 48, 49, 50, 51, 52, 53, 54, 55, 56, 57, 58, 59, 60, 61, 62] (by decide +kernel) (by decide +kernel)
set_option maxRecDepth 20000 in
theorem gX10_end_X10_fails : GoodIn wsX10_end (wsV RX10 88 RX10 yX10_fails wsX10_fails) := goodIn_app (goodIn_of _ (by decide +kernel)) ggX10_end_X10_fails
set_option maxRecDepth 20000 in
theorem ggX10_end_X10_takeBack : GoodIn wsX10_end wsX10_takeBack := goodIn_r _ [13, 2, 1, 14, 15, 16, 17, 18, 19, 20, 21, 7, 22, 23, 24, 25, 26, 27, 28, 29, 30, 31, 32, 33, 34, 35, 36, 37, 38, 39, 40, 41, 42, 43, 44, 45, 46, 47, 48, 49, 50, 51, 52, 53, 54, 55, 56, 57, 58, 59, 60, 61, 62] (by decide +kernel) (by decide +kernel)
set_option maxRecDepth 20000 in
theorem gX10_end_X10_takeBack : GoodIn wsX10_end (wsV RX10 216 RX10 yX10_takeBack wsX10_takeBack) := goodIn_app (goodIn_of _ (by decide +kernel)) ggX10_end_X10_takeBack
set_option maxRecDepth 20000 in
theorem ggX10_takeBack_X10_next : GoodIn wsX10_takeBack wsX10_next := goodIn_r _ [12, 3, 13, 22, 23, 24, 25, 26, 27, 28, 29, 30, 31, 32, 33, 34, 35, 36, 37, 38, 39, 40, 41, 42, 43, 44, 45, 46, 47, 48, 49, 50, 51, 52] (by decide +kernel) (by decide +kernel)
set_option maxRecDepth 20000 in
theorem gX10_takeBack_X10_next : GoodIn wsX10_takeBack (wsV RX10 219 RX10 yX10_next wsX10_next) := goodIn_app (goodIn_of _ (by decide +kernel)) ggX10_takeBack_X10_next
set_option maxRecDepth 20000 in
theorem ggX10_takeBack_X10_readRows : GoodIn wsX10_takeBack wsX10_readRows := goodIn_r _ [17, 18, 19, 20, 21, 8, 9, 10, 11, 12, 3, 13, 22, 23, 24, 25, 26, 27, 28, 29, 30, 31, 32, 33, 34, 35, 36, 37, 38, 39, 40, 41, 42, 43, 44, 45, 46, 47, 48, 49, 50, 51, 52] (by decide +kernel) (by decide +kernel)
set_option maxRecDepth 20000 in
theorem gX10_takeBack_X10_readRows : GoodIn wsX10_takeBack (wsV RX10 223 RX10 yX10_readRows wsX10_readRows) := goodIn_app (goodIn_of _ (by decide +kernel)) ggX10_takeBack_X10_readRows
set_option maxRecDepth 20000 in
theorem ggX10_readRows_X10_next : GoodIn wsX10_readRows wsX10_next := goodIn_r _ [9, 10, 11, 12, 13, 14, 15, 16, 17, 18, 19, 20, 21, 22, 23, 24, 25, 26, 27, 28, 29, 30, 31, 32, 33, 34, 35, 36, 37, 38, 39, 40, 41, 42] (by decide +kernel) (by decide +kernel)
set_option maxRecDepth 20000 in
theorem gX10_readRows_X10_next : GoodIn wsX10_readRows (wsV RX10 219 RX10 yX10_next wsX10_next) := goodIn_app (goodIn_of _ (by decide +kernel)) ggX10_readRows_X10_next
set_option maxRecDepth 20000 in
theorem ggX10_count_X10_fails : GoodIn wsX10_count wsX10_fails := goodIn_r _ [12, 13, 14, 15, 16, 17, 18, 19, 20, 21, 22, 23, 24, 25, 26, 27, 28, 29, 30, 31, 32, 33, 34, 35, 36, 37, 38, 39, 40, 41, 42, 43, 44] (by decide +kernel) (by decide +kernel)
set_option maxRecDepth 20000 in
theorem gX10_count_X10_fails : GoodIn wsX10_count (wsV RX10 88 RX10 yX10_fails wsX10_fails) := goodIn_app (goodIn_of _ (by decide +kernel)) ggX10_count_X10_fails
set_option maxRecDepth 20000 in
theorem ggL_link_X9_link : GoodIn wsL_link wsX9_link := goodIn_ca (goodIn_ca (goodIn_r _ [7, 8, 9, 10, 11, 12, 6, 13, 14, 15, 16, 17, 18, 19, 20, 21, 22, 23, 24, 25, 26, 27, 28, 29, 30, 31, 32, 33, 34, 35, 36, 37, 38, 39, 40, 41, 42, 43, 44] (by decide +kernel) (by decide +kernel)) (goodIn_sub (fun _ h => List.mem_cons_of_mem _ (List.mem_append_left _ (List.mem_append_right _ h))) (by decide +kernel))) (goodIn_sub (fun _ h => List.mem_cons_of_mem _ (List.mem_append_right _ h)) (by decide +kernel))
set_option maxRecDepth 20000 in
theorem gL_link_X9_link : GoodIn wsL_link (wsV RL 7 RX9 yX9_link wsX9_link) := goodIn_app (goodIn_of _ (by decide +kernel)) ggL_link_X9_link
set_option maxRecDepth 20000 in
theorem ggL_make_X9_make : GoodIn wsL_make wsX9_make := goodIn_ca (goodIn_ca (goodIn_r _ [7, 8, 9, 10, 11, 12, 13, 6, 14, 15, 16, 17, 18, 19, 20, 21, 22, 23, 24, 25, 26, 27, 28, 29, 30, 31, 32, 33, 34, 35, 36, 37, 38, 39, 40, 41, 42, 43, 44, 45, 46, 47, 48] (by decide +kernel) (by decide +kernel)) (goodIn_sub (fun _ h => List.mem_cons_of_mem _ (List.mem_append_left _ (List.mem_append_right _ h))) (by decide +kernel))) (goodIn_sub (fun _ h => List.mem_cons_of_mem _ (List.mem_append_right _ h)) (by decide +kernel))
set_option maxRecDepth 20000 in
theorem gL_make_X9_make : GoodIn wsL_make (wsV RL 17 RX9 yX9_make wsX9_make) := goodIn_app (goodIn_of _ (by decide +kernel)) ggL_make_X9_make
set_option maxRecDepth 20000 in
theorem ggL_set_X9_set : GoodIn wsL_set wsX9_set := goodIn_ca (goodIn_ca (goodIn_ca (goodIn_ca (goodIn_ca (goodIn_r _ [11, 12, 13, 14, 15, 16, 17, 18, 19, 20, 21, 22, 10, 23, 24, 25, 26, 27, 28, 29, 30, 31, 32, 33, 34, 35, 36, 37, 38, 39, 40, 41, 42, 43, 44, 45, 46, 47, 48, 49, 50, 51, 52, 53, 54, 55, 56, 57, 58, 59, 60, 61, 62, 63, 64, 65, 66, 67, 68, 69, 70, 71, 72, 73, 74, 75, 76, 77, 78, 79, 80, 81, 82, 83, 84, 85, 86, 87, 88, 89, 90, 91, 92, 93, 94, 95, 96, 97, 98, 99, 100, 101, 102, 103, 104, 105, 106, 107, 108, 109, 110, 111, 112, 113, 114, 115, 116, 117, 118, 119, 120, 121, 122, 123, 124, 125, 126, 127, 128, 129, 130, 131, 132, 133, 134, 135, 136, 137, 138, 139, 140, 141, 142, 143, 144, 145, 146, 147, 148, 149, 150, 151, 152, 153, 154, 155, 156, 157, 158, 159, 160, 161, 162, 163, 164, 165, 166, 167, 168, 169, 170, 171, 172, 173, 174, 175, 176, 177, 178, 179, 180, 181, 182, 183, 184, 185, 186, 187, 188, 189, 190, 191, 192, 193, 194, 195, 196, 197, 198, 199, 200, 201, 202, 203, 204, 205, 206, 207, 208, 209, 210, 211, 212, 213, 214, 215, 216, 217, 218, 219, 220, 221, 222, 223, 224, 225, 226, 227, 228, 229, 230, 231, 232, 233, 234, 235, 236, 237, 238, 239, 240, 241, 242, 243, 244, 245, 246, 247, 248, 249, 250, 251, 252, 253, 254, 255, 256, 257, 258, 259, 260, 261, 262, 263, 264, 265, 266, 267, 268, 269, 270, 271, 272, 273, 274, 275, 276, 277, 278, 279, 280, 281, 282, 283, 284] (by decide +kernel) (by decide +kernel)) (goodIn_sub (fun _ h => List.mem_cons_of_mem _ (List.mem_append_left _ (List.mem_append_left _ (List.mem_append_left _ (List.mem_append_left _ (List.mem_append_right _ h)))))) (by decide +kernel))) (goodIn_sub (fun _ h => List.mem_cons_of_mem _ (List.mem_append_left _ (List.mem_append_left _ (List.mem_append_left _ (List.mem_append_right _ h))))) (by decide +kernel))) (goodIn_sub (fun _ h => List.mem_cons_of_mem _ (List.mem_append_left _ (List.mem_append_left _ (List.mem_append_right _ h)))) (by decide +kernel))) (goodIn_sub (fun _ h => List.mem_cons_of_mem _ (List.mem_append_left _ (List.mem_append_right _ h))) (by decide +kernel))) (goodIn_sub (fun _ h => List.mem_cons_of_mem _ (List.mem_append_right _ h)) (by decide +kernel))
set_option maxRecDepth 20000 in
theorem gL_set_X9_set : GoodIn wsL_set (wsV RL 21 RX9 yX9_set wsX9_set) := goodIn_app (goodIn_of _ (by decide +kernel)) ggL_set_X9_set
set_option maxRecDepth 20000 in
theorem ggL_cut_X9_cut : GoodIn wsL_cut wsX9_cut := goodIn_ca (goodIn_ca (goodIn_r _ [7, 8, 9, 10, 11, 12, 6, 13, 14, 15, 16, 17, 18, 19, 20, 21, 22, 23, 24, 25, 26, 27, 28, 29, 30, 31, 32, 33, 34, 35, 36, 37, 38, 39, 40, 41, 42, 43, 44, 45, 46, 47, 48, 49, 50, 51, 52, 53, 54, 55, 56, 57, 58, 59, 60, 61, 62, 63, 64, 65, 66, 67, 68, 69, 70, 71, 72, 73, 74, 75, 76, 77, 78, 79, 80, 81, 82, 83, 84, 85, 86, 87, 88, 89, 90, 91, 92, 93, 94, 95, 96, 97, 98, 99, 100, 101, 102, 103, 104, 105, 106, 107, 108, 109, 110, 111, 112, 113, 114, 115, 116, 117, 118, 119, 120, 121, 122, 123] (by decide +kernel) (by decide +kernel)) (goodIn_sub (fun _ h => List.mem_cons_of_mem _ (List.mem_append_left _ (List.mem_append_right _ h))) (by decide +kernel))) (goodIn_sub (fun _ h => List.mem_cons_of_mem _ (List.mem_append_right _ h)) (by decide +kernel))
set_option maxRecDepth 20000 in
theorem gL_cut_X9_cut : GoodIn wsL_cut (wsV RL 32 RX9 yX9_cut wsX9_cut) := goodIn_app (goodIn_of _ (by decide +kernel)) ggL_cut_X9_cut
set_option maxRecDepth 20000 in
theorem ggL_drop_X9_drop : GoodIn wsL_drop wsX9_drop := goodIn_ca (goodIn_ca (goodIn_r _ [7, 8, 9, 10, 11, 12, 13, 14, 15, 16, 6, 17, 18, 19, 20, 21, 22, 23, 24, 25, 26, 27, 28, 29, 30, 31, 32, 33, 34, 35, 36, 37, 38, 39, 40, 41, 42, 43, 44, 45, 46, 47, 48, 49, 50, 51, 52, 53, 54, 55, 56, 57, 58, 59, 60, 61, 62, 63, 64, 65, 66, 67, 68, 69, 70, 71, 72, 73, 74, 75, 76, 77, 78, 79, 80, 81, 82, 83, 84, 85, 86, 87, 88, 89, 90, 91, 92, 93, 94, 95, 96, 97, 98, 99, 100, 101, 102, 103, 104, 105, 106, 107, 108, 109, 110, 111, 112, 113, 114, 115, 116, 117, 118, 119, 120, 121, 122, 123, 124, 125, 126, 127, 128, 129, 130, 131, 132, 133, 134, 135, 136, 137, 138, 139, 140, 141, 142, 143, 144, 145, 146, 147, 148, 149, 150, 151, 152, 153, 154, 155, 156, 157, 158, 159, 160, 161, 162, 163, 164, 165, 166, 167, 168, 169, 170, 171, 172, 173, 174, 175, 176, 177, 178, 179, 180, 181, 182, 183, 184, 185, 186, 187, 188, 189, 190, 191, 192, 193, 194, 195, 196, 197, 198, 199, 200, 201, 202, 203, 204, 205, 206, 207, 208, 209, 210, 211, 212, 213, 214, 215, 216, 217, 218, 219, 220, 221, 222, 223, 224, 225, 226, 227, 228, 229, 230, 231, 232, 233, 234, 235, 236, 237, 238, 239, 240, 241, 242, 243, 244, 245, 246, 247, 248, 249, 250, 251, 252, 253, 254, 255, 256, 257, 258, 259, 260, 261, 262, 263, 264, 265, 266, 267, 268] (by decide +kernel) (by decide +kernel)) (goodIn_sub (fun _ h => List.mem_cons_of_mem _ (List.mem_append_left _ (List.mem_append_right _ h))) (by decide +kernel))) (goodIn_sub (fun _ h => List.mem_cons_of_mem _ (List.mem_append_right _ h)) (by decide +kernel))
set_option maxRecDepth 20000 in
theorem gL_drop_X9_drop : GoodIn wsL_drop (wsV RL 36 RX9 yX9_drop wsX9_drop) := goodIn_app (goodIn_of _ (by decide +kernel)) ggL_drop_X9_drop
set_option maxRecDepth 20000 in
theorem ggL_copy_X9_copy : GoodIn wsL_copy wsX9_copy := goodIn_ca (goodIn_ca (goodIn_r _ [7, 8, 9, 10, 11, 12, 13, 14, 15, 6, 16, 17, 18, 19, 20, 21, 22, 23, 24, 25, 26, 27, 28, 29, 30, 31, 32, 33, 34, 35, 36, 37, 38, 39, 40, 41, 42, 43, 44, 45, 46, 47, 48, 49, 50, 51, 52, 53, 54, 55, 56, 57, 58, 59, 60, 61, 62, 63, 64, 65, 66, 67, 68, 69, 70, 71, 72, 73, 74, 75, 76, 77, 78, 79, 80, 81, 82, 83, 84, 85, 86, 87, 88, 89, 90, 91, 92, 93, 94, 95, 96, 97, 98, 99, 100, 101, 102, 103, 104, 105, 106, 107, 108, 109, 110, 111, 112, 113, 114, 115, 116, 117, 118, 119, 120, 121, 122, 123, 124, 125, 126, 127, 128, 129, 130, 131, 132, 133, 134, 135, 136, 137, 138, 139, 140, 141, 142, 143, 144, 145, 146, 147, 148, 149, 150, 151, 152, 153, 154, 155, 156, 157, 158, 159, 160, 161, 162, 163, 164, 165, 166, 167, 168, 169, 170, 171, 172, 173, 174, 175, 176, 177, 178, 179, 180, 181, 182, 183, 184, 185, 186, 187, 188, 189, 190, 191, 192, 193, 194, 195, 196, 197, 198, 199, 200, 201, 202, 203, 204, 205, 206, 207, 208, 209, 210, 211, 212, 213, 214, 215, 216, 217, 218, 219, 220, 221, 222, 223, 224, 225, 226, 227, 228, 229, 230, 231, 232, 233, 234, 235, 236, 237, 238, 239, 240, 241, 242, 243, 244, 245, 246, 247, 248, 249, 250, 251, 252, 253, 254, 255, 256, 257, 258, 259, 260, 261, 262, 263, 264, 265] (by decide +kernel) (by decide +kernel)) (goodIn_sub (fun _ h => List.mem_cons_of_mem _ (List.mem_append_left _ (List.mem_append_right _ h))) (by decide +kernel))) (goodIn_sub (fun _ h => List.mem_cons_of_mem _ (List.mem_append_right _ h)) (by decide +kernel))
set_option maxRecDepth 20000 in
theorem gL_copy_X9_copy : GoodIn wsL_copy (wsV RL 39 RX9 yX9_copy wsX9_copy) := goodIn_app (goodIn_of _ (by decide +kernel)) ggL_copy_X9_copy
set_option maxRecDepth 20000 in
theorem ggL_alike_X9_alike : GoodIn wsL_alike wsX9_alike := goodIn_ca (goodIn_r _ [6, 7, 8, 9, 10, 11, 5, 12, 13, 14, 15, 16, 17, 18, 19, 20, 21, 22, 23, 24, 25, 26, 27, 28, 29, 30, 31, 32, 33, 34, 35, 36, 37, 38, 39, 40, 41, 42, 43, 44, 45, 46, 47, 48, 49, 50, 51, 52, 53, 54, 55, 56, 57, 58, 59, 60, 61, 62, 63, 64, 65, 66, 67, 68, 69, 70, 71, 72, 73, 74, 75, 76, 77, 78, 79, 80, 81, 82, 83, 84, 85, 86, 87, 88, 89, 90, 91, 92, 93, 94, 95, 96, 97, 98, 99, 100, 101, 102, 103, 104, 105, 106, 107, 108, 109, 110, 111, 112, 113, 114, 115, 116, 117, 118, 119, 120, 121, 122, 123, 124, 125, 126, 127] (by decide +kernel) (by decide +kernel)) (goodIn_sub (fun _ h => List.mem_cons_of_mem _ (List.mem_append_right _ h)) (by decide +kernel))
set_option maxRecDepth 20000 in
theorem gL_alike_X9_alike : GoodIn wsL_alike (wsV RL 42 RX9 yX9_alike wsX9_alike) := goodIn_app (goodIn_of _ (by decide +kernel)) ggL_alike_X9_alike
set_option maxRecDepth 20000 in
theorem ggL_at_X9_at : GoodIn wsL_at wsX9_at := goodIn_ca (goodIn_ca (goodIn_ca (goodIn_r _ [9, 10, 11, 12, 13, 14, 8, 15, 16, 17, 18, 19, 20, 21, 22, 23, 24, 25, 26, 27, 28, 29, 30, 31, 32, 33, 34, 35, 36, 37, 38, 39, 40, 41, 42, 43, 44, 45, 46, 47, 48, 49, 50, 51, 52, 53, 54, 55, 56, 57, 58, 59, 60, 61, 62, 63, 64, 65, 66, 67, 68, 69, 70, 71, 72, 73, 74, 75, 76, 77, 78, 79, 80, 81, 82, 83, 84, 85, 86, 87, 88, 89, 90, 91, 92, 93, 94, 95, 96, 97, 98, 99, 100, 101, 102, 103, 104, 105, 106, 107, 108, 109, 110, 111, 112, 113, 114, 115, 116, 117, 118, 119, 120, 121, 122, 123, 124, 125, 126, 127] (by decide +kernel) (by decide +kernel)) (goodIn_sub (fun _ h => List.mem_cons_of_mem _ (List.mem_append_left _ (List.mem_append_left _ (List.mem_append_right _ h)))) (by decide +kernel))) (goodIn_sub (fun _ h => List.mem_cons_of_mem _ (List.mem_append_left _ (List.mem_append_right _ h))) (by decide +kernel))) (goodIn_sub (fun _ h => List.mem_cons_of_mem _ (List.mem_append_right _ h)) (by decide +kernel))
set_option maxRecDepth 20000 in
theorem gL_at_X9_at : GoodIn wsL_at (wsV RL 46 RX9 yX9_at wsX9_at) := goodIn_app (goodIn_of _ (by decide +kernel)) ggL_at_X9_at
set_option maxRecDepth 20000 in
theorem ggL_back_X9_back : GoodIn wsL_back wsX9_back := goodIn_ca (goodIn_ca (goodIn_ca (goodIn_r _ [9, 10, 11, 12, 13, 14, 8, 15, 16, 17, 18, 19, 20, 21, 22, 23, 24, 25, 26, 27, 28, 29, 30, 31, 32, 33, 34, 35, 36, 37, 38, 39, 40, 41, 42, 43, 44, 45, 46, 47, 48, 49, 50, 51, 52, 53, 54, 55, 56, 57, 58, 59, 60, 61, 62, 63, 64, 65, 66, 67, 68, 69, 70, 71, 72, 73, 74, 75, 76, 77, 78, 79, 80, 81, 82, 83, 84, 85, 86, 87, 88, 89, 90, 91, 92, 93, 94, 95, 96, 97, 98, 99, 100, 101, 102, 103, 104, 105, 106, 107, 108, 109, 110, 111, 112, 113, 114, 115, 116, 117, 118, 119, 120, 121, 122, 123, 124, 125, 126, 127] (by decide +kernel) (by decide +kernel)) (goodIn_sub (fun _ h => List.mem_cons_of_mem _ (List.mem_append_left _ (List.mem_append_left _ (List.mem_append_right _ h)))) (by decide +kernel))) (goodIn_sub (fun _ h => List.mem_cons_of_mem _ (List.mem_append_left _ (List.mem_append_right _ h))) (by decide +kernel))) (goodIn_sub (fun _ h => List.mem_cons_of_mem _ (List.mem_append_right _ h)) (by decide +kernel))
set_option maxRecDepth 20000 in
theorem gL_back_X9_back : GoodIn wsL_back (wsV RL 49 RX9 yX9_back wsX9_back) := goodIn_app (goodIn_of _ (by decide +kernel)) ggL_back_X9_back
set_option maxRecDepth 20000 in
theorem ggL_ask_X9_ask : GoodIn wsL_ask wsX9_ask := goodIn_ca (goodIn_ca (goodIn_r _ [7, 8, 9, 10, 11, 6, 12, 13, 14, 15, 16, 17, 18, 19, 20, 21, 22, 23, 24, 25, 26, 27, 28, 29, 30, 31, 32, 33, 34, 35, 36, 37, 38, 39, 40, 41, 42, 43, 44, 45, 46, 47, 48, 49, 50, 51, 52, 53, 54, 55, 56, 57, 58, 59, 60, 61, 62, 63, 64, 65, 66, 67, 68, 69, 70, 71, 72, 73, 74, 75, 76, 77, 78, 79, 80, 81, 82, 83, 84, 85, 86, 87, 88, 89, 90, 91, 92, 93, 94, 95, 96, 97, 98, 99, 100, 101, 102, 103, 104, 105, 106, 107, 108, 109, 110, 111, 112, 113, 114, 115, 116, 117, 118, 119, 120, 121, 122, 123, 124, 125, 126, 127, 128, 129, 130, 131, 132, 133, 134, 135, 136, 137, 138, 139, 140, 141, 142, 143, 144, 145, 146, 147, 148, 149, 150, 151, 152, 153, 154, 155, 156, 157, 158, 159, 160, 161, 162, 163, 164, 165, 166, 167, 168, 169, 170, 171, 172, 173, 174, 175, 176, 177, 178, 179, 180, 181] (by decide +kernel) (by decide +kernel)) (goodIn_sub (fun _ h => List.mem_cons_of_mem _ (List.mem_append_left _ (List.mem_append_right _ h))) (by decide +kernel))) (goodIn_sub (fun _ h => List.mem_cons_of_mem _ (List.mem_append_right _ h)) (by decide +kernel))
set_option maxRecDepth 20000 in
theorem gL_ask_X9_ask : GoodIn wsL_ask (wsV RL 52 RX9 yX9_ask wsX9_ask) := goodIn_app (goodIn_of _ (by decide +kernel)) ggL_ask_X9_ask
set_option maxRecDepth 20000 in
theorem ggL_size_X9_size : GoodIn wsL_size wsX9_size := goodIn_ca (goodIn_ca (goodIn_r _ [7, 8, 9, 10, 11, 12, 6, 13, 14, 15, 16, 17, 18, 19, 20, 21, 22, 23, 24, 25, 26, 27, 28, 29, 30, 31, 32, 33, 34, 35, 36, 37, 38, 39, 40, 41, 42, 43, 44, 45, 46, 47, 48, 49, 50, 51, 52, 53, 54, 55, 56, 57, 58, 59, 60, 61, 62, 63, 64, 65, 66, 67, 68, 69, 70, 71, 72, 73, 74, 75, 76, 77, 78, 79, 80, 81, 82, 83, 84, 85, 86, 87, 88, 89, 90, 91, 92, 93, 94, 95, 96, 97, 98, 99, 100, 101, 102, 103, 104, 105, 106, 107, 108, 109, 110, 111, 112, 113, 114, 115, 116, 117, 118] (by decide +kernel) (by decide +kernel)) (goodIn_sub (fun _ h => List.mem_cons_of_mem _ (List.mem_append_left _ (List.mem_append_right _ h))) (by decide +kernel))) (goodIn_sub (fun _ h => List.mem_cons_of_mem _ (List.mem_append_right _ h)) (by decide +kernel))
set_option maxRecDepth 20000 in
theorem gL_size_X9_size : GoodIn wsL_size (wsV RL 56 RX9 yX9_size wsX9_size) := goodIn_app (goodIn_of _ (by decide +kernel)) ggL_size_X9_size
set_option maxRecDepth 20000 in
theorem ggL_way_X9_way : GoodIn wsL_way wsX9_way := goodIn_ca (goodIn_r _ [6, 7, 8, 9, 10, 11, 12, 5, 13, 14, 15, 16, 17, 18, 19, 20, 21, 22, 23, 24, 25, 26, 27, 28, 29, 30, 31, 32, 33, 34, 35, 36, 37, 38, 39, 40, 41, 42, 43, 44, 45, 46, 47, 48, 49, 50, 51, 52, 53, 54, 55, 56, 57, 58, 59, 60, 61, 62, 63, 64, 65, 66, 67, 68, 69, 70, 71, 72, 73, 74, 75, 76, 77, 78, 79, 80, 81, 82, 83, 84, 85, 86, 87, 88, 89, 90, 91, 92, 93, 94, 95, 96, 97, 98, 99, 100, 101, 102, 103, 104, 105, 106, 107, 108, 109, 110, 111, 112, 113, 114, 115, 116, 117, 118, 119, 120, 121, 122, 123, 124, 125, 126, 127, 128, 129, 130, 131, 132, 133, 134, 135, 136, 137, 138, 139, 140, 141, 142, 143, 144, 145, 146, 147, 148, 149, 150, 151, 152, 153, 154, 155, 156, 157, 158, 159, 160, 161, 162, 163, 164, 165, 166, 167, 168, 169, 170, 171, 172, 173, 174, 175, 176, 177, 178, 179, 180, 181, 182, 183] (by decide +kernel) (by decide +kernel)) (goodIn_sub (fun _ h => List.mem_cons_of_mem _ (List.mem_append_right _ h)) (by decide +kernel))
set_option maxRecDepth 20000 in
theorem gL_way_X9_way : GoodIn wsL_way (wsV RL 59 RX9 yX9_way wsX9_way) := goodIn_app (goodIn_of _ (by decide +kernel)) ggL_way_X9_way
set_option maxRecDepth 20000 in
theorem ggL_path_X9_path : GoodIn wsL_path wsX9_path := goodIn_ca (goodIn_r _ [6, 7, 8, 9, 10, 11, 12, 13, 14, 15, 16, 17, 18, 19, 20, 21, 22, 23, 24, 25, 26, 27, 28, 29, 30, 31, 32] (by decide +kernel) (by decide +kernel)) (goodIn_sub (fun _ h => List.mem_cons_of_mem _ (List.mem_append_right _ h)) (by decide +kernel))
set_option maxRecDepth 20000 in
theorem gL_path_X9_path : GoodIn wsL_path (wsV RL 62 RX9 yX9_path wsX9_path) := goodIn_app (goodIn_of _ (by decide +kernel)) ggL_path_X9_path
set_option maxRecDepth 20000 in
theorem ggL_begin_X9_begin : GoodIn wsL_begin wsX9_begin := goodIn_ca (goodIn_r _ [6, 7, 8, 9, 10, 11, 12, 13, 14, 15, 16, 17, 18, 19, 20, 21, 22, 23, 24, 25, 26, 27, 28, 29, 30, 31, 32, 33, 34, 35, 36, 37, 38, 39, 40, 41, 42, 43, 44, 45, 46, 47, 48, 49, 50, 51, 52, 53, 54, 55, 56, 57, 58, 59, 60, 61, 62, 63, 64, 65, 66, 67, 68] (by decide +kernel) (by decide +kernel)) (goodIn_sub (fun _ h => List.mem_cons_of_mem _ (List.mem_append_right _ h)) (by decide +kernel))
set_option maxRecDepth 20000 in
theorem gL_begin_X9_begin : GoodIn wsL_begin (wsV RL 65 RX9 yX9_begin wsX9_begin) := goodIn_app (goodIn_of _ (by decide +kernel)) ggL_begin_X9_begin
set_option maxRecDepth 20000 in
theorem ggL_end_X9_end : GoodIn wsL_end wsX9_end := goodIn_ca (goodIn_r _ [6, 7, 8, 9, 10, 11, 12, 13, 14, 15, 16, 17, 18, 19, 20, 21] (by decide +kernel) (by decide +kernel)) (goodIn_sub (fun _ h => List.mem_cons_of_mem _ (List.mem_append_right _ h)) (by decide +kernel))
set_option maxRecDepth 20000 in
theorem gL_end_X9_end : GoodIn wsL_end (wsV RL 69 RX9 yX9_end wsX9_end) := goodIn_app (goodIn_of _ (by decide +kernel)) ggL_end_X9_end
set_option maxRecDepth 20000 in
theorem ggL_count_X9_count : GoodIn wsL_count wsX9_count := goodIn_ca (goodIn_r _ [6, 7, 8, 9, 10, 11, 12, 13, 5, 14, 15, 16, 17, 18, 19, 20, 21, 22, 23, 24, 25, 26, 27, 28, 29, 30, 31, 32, 33, 34, 35, 36, 37, 38, 39, 40, 41, 42, 43, 44, 45, 46, 47, 48, 49, 50, 51, 52, 53, 54, 55, 56, 57, 58, 59, 60, 61, 62] (by decide +kernel) (by decide +kernel)) (goodIn_sub (fun _ h => List.mem_cons_of_mem _ (List.mem_append_right _ h)) (by decide +kernel))
set_option maxRecDepth 20000 in
theorem gL_count_X9_count : GoodIn wsL_count (wsV RL 73 RX9 yX9_count wsX9_count) := goodIn_app (goodIn_of _ (by decide +kernel)) ggL_count_X9_count
set_option maxRecDepth 20000 in
theorem ggL_law_X9_init : GoodIn wsL_law wsX9_init := goodIn_r _ [9, 10, 11, 12, 13, 14, 15, 16, 17, 18, 19, 20, 21, 22, 23, 24, 25, 26, 27, 28, 29, 30, 31, 32, 33, 34, 35, 36, 37, 38, 39, 40, 41, 42, 43, 44, 45, 46, 47, 48, 49, 50, 51, 52, 53, 54, 55, 56, 57, 58, 59, 60, 61, 62, 63, 64, 65, 66, 67, 68, 69, 70, 71, 72, 73, 74, 75, 76, 77, 78, 79, 80, 81, 82, 83, 84, 85, 86, 87, 88, 89, 90, 91, 92, 93, 94, 95, 96, 97, 98, 99, 100, 101, 102, 103, 104, 105, 106, 107, 108, 109, 110, 111, 112, 113, 114, 115, 116, 117, 6, 118, 119, 945, 946, 947, 948, 949, 904, 905, 906, 907, 908, 909, 910, 911, 912, 913, 950, 951, 952, 953, 954, 955, 956, 957, 958, 959, 960, 961, 962, 963, 964, 965, 966, 967, 968, 969, 970, 971, 972, 973, 974, 975, 976, 977, 978, 979, 980] (by decide +kernel) (by decide +kernel)
set_option maxRecDepth 20000 in
theorem gL_law_X9_init : GoodIn wsL_law (wsX9_init) := ggL_law_X9_init
set_option maxRecDepth 20000 in
theorem ggL_law_X10_init : GoodIn wsL_law wsX10_init := goodIn_r _ [122, 123, 11, 12, 46, 124, 125, 126, 127, 71, 128, 129, 130, 131, 132, 133, 134, 135, 136, 137, 138, 139, 140, 141, 142, 143, 144, 145, 146, 147, 914, 915, 916, 917, 918, 919, 920, 921, 922, 923, 924, 925, 926, 927, 928, 929, 930, 931, 932, 933, 934, 935, 936, 937, 938, 939, 940, 941, 942, 943, 944] (by decide +kernel) (by decide +kernel)
set_option maxRecDepth 20000 in
theorem gL_law_X10_init : GoodIn wsL_law (wsX10_init) := ggL_law_X10_init
set_option maxRecDepth 20000 in
theorem ggL_law_L_link : GoodIn wsL_law wsL_link := goodIn_ca (goodIn_ca (goodIn_r _ [151, 152, 153, 154, 155, 156, 2, 157, 158, 159, 16, 160, 161, 162, 163, 164, 165, 166, 167, 15, 168, 169, 170, 171, 172, 173, 47, 48, 49, 50, 904, 905, 906, 907, 908, 909, 910, 911, 912, 913, 945, 946, 947, 948, 949] (by decide +kernel) (by decide +kernel)) (goodIn_sub (fun _ h => List.mem_append_left _ (List.mem_append_left _ (List.mem_append_left _ (List.mem_append_left _ (List.mem_append_right _ h))))) (by decide +kernel))) (goodIn_sub (fun _ h => List.mem_append_left _ (List.mem_append_left _ (List.mem_append_left _ (List.mem_append_right _ h)))) (by decide +kernel))
set_option maxRecDepth 20000 in
theorem gL_law_L_link : GoodIn wsL_law (va_wsS RL 80 yL_link wsL_link) := goodIn_app (goodIn_of _ (by decide +kernel)) ggL_law_L_link
set_option maxRecDepth 20000 in
theorem ggL_law_X10_link : GoodIn wsL_law wsX10_link := goodIn_r _ [177, 178, 124, 125, 126, 127, 179, 180, 181, 5, 182, 183, 914, 915, 916, 917, 918, 919, 920, 921, 922, 923, 924, 925, 926, 927, 928, 929, 930, 931, 932, 933, 934, 935, 936, 937, 938, 939, 940, 941, 942, 943, 944] (by decide +kernel) (by decide +kernel)
set_option maxRecDepth 20000 in
theorem gL_law_X10_link : GoodIn wsL_law (wsV RL 85 RX10 yX10_link wsX10_link) := goodIn_app (goodIn_of _ (by decide +kernel)) ggL_law_X10_link
set_option maxRecDepth 20000 in
theorem ggL_law_X10_thrown : GoodIn wsL_law wsX10_thrown := goodIn_r _ [187, 183, 914, 915, 916, 917, 918, 919, 920, 921, 922, 923, 924, 925, 926, 927, 928, 929, 930, 931, 932, 933, 934, 935, 936, 937, 938, 939, 940, 941, 942, 943, 944] (by decide +kernel) (by decide +kernel)
set_option maxRecDepth 20000 in
theorem gL_law_X10_thrown : GoodIn wsL_law (wsV RL 86 RX10 yX10_thrown wsX10_thrown) := goodIn_app (goodIn_of _ (by decide +kernel)) ggL_law_X10_thrown
set_option maxRecDepth 20000 in
theorem ggL_law_L_make : GoodIn wsL_law wsL_make := goodIn_ca (goodIn_ca (goodIn_r _ [190, 152, 153, 191, 192, 193, 2, 194, 158, 159, 41, 195, 160, 161, 162, 163, 164, 196, 197, 198, 40, 199, 200, 201, 202, 203, 204, 107, 108, 205, 206, 207, 208, 904, 905, 906, 907, 908, 909, 910, 911, 912, 913, 970, 971, 972, 973, 974, 975] (by decide +kernel) (by decide +kernel)) (goodIn_sub (fun _ h => List.mem_append_left _ (List.mem_append_left _ (List.mem_append_left _ (List.mem_append_left _ (List.mem_append_right _ h))))) (by decide +kernel))) (goodIn_sub (fun _ h => List.mem_append_left _ (List.mem_append_left _ (List.mem_append_left _ (List.mem_append_right _ h)))) (by decide +kernel))
set_option maxRecDepth 20000 in
theorem gL_law_L_make : GoodIn wsL_law (va_wsS RL 89 yL_make wsL_make) := goodIn_app (goodIn_of _ (by decide +kernel)) ggL_law_L_make
set_option maxRecDepth 20000 in
theorem ggL_law_X10_make : GoodIn wsL_law wsX10_make := goodIn_r _ [212, 213, 129, 179, 180, 181, 5, 182, 183, 214, 215, 216, 217, 128, 218, 130, 131, 132, 914, 915, 916, 917, 918, 919, 920, 921, 922, 923, 924, 925, 926, 927, 928, 929, 930, 931, 932, 933, 934, 935, 936, 937, 938, 939, 940, 941, 942, 943, 944] (by decide +kernel) (by decide +kernel)
set_option maxRecDepth 20000 in
theorem gL_law_X10_make : GoodIn wsL_law (wsV RL 92 RX10 yX10_make wsX10_make) := goodIn_app (goodIn_of _ (by decide +kernel)) ggL_law_X10_make
set_option maxRecDepth 20000 in
theorem ggL_law_L_set : GoodIn wsL_law wsL_set := goodIn_ca (goodIn_ca (goodIn_ca (goodIn_ca (goodIn_ca (goodIn_r _ [221, 152, 222, 223, 224, 225, 153, 226, 227, 228, 2, 229, 163, 164, 230, 231, 16, 41, 24, 20, 232, 233, 234, 235, 236, 237, 238, 15, 239, 169, 240, 241, 242, 243, 244, 245, 246, 247, 248, 40, 249, 205, 206, 207, 208, 107, 250, 251, 252, 253, 47, 254, 255, 256, 257, 258, 259, 260, 261, 262, 263, 264, 265, 108, 266, 267, 64, 268, 269, 270, 271, 272, 48, 273, 274, 275, 276, 112, 277, 278, 279, 111, 280, 281, 282, 283, 284, 119, 285, 286, 287, 288, 289, 290, 291, 292, 293, 294, 118, 295, 296, 297, 298, 299, 300, 301, 302, 303, 304, 305, 306, 307, 308, 309, 310, 311, 312, 313, 314, 315, 316, 317, 318, 319, 320, 321, 322, 323, 324, 50, 325, 326, 327, 23, 328, 65, 329, 330, 331, 332, 113, 333, 334, 335, 336, 337, 338, 339, 340, 341, 72, 73, 342, 343, 344, 345, 346, 347, 348, 349, 350, 61, 351, 352, 353, 354, 355, 356, 357, 358, 359, 360, 361, 362, 363, 60, 364, 166, 167, 168, 365, 366, 367, 368, 369, 370, 371, 372, 373, 374, 375, 376, 377, 378, 379, 380, 381, 19, 382, 383, 384, 385, 386, 387, 388, 389, 390, 391, 55, 392, 393, 394, 395, 66, 396, 397, 398, 399, 400, 158, 159, 401, 402, 403, 404, 49, 405, 406, 407, 408, 409, 410, 411, 412, 413, 414, 415, 416, 417, 418, 419, 420, 421, 422, 423, 424, 425, 904, 905, 906, 907, 908, 909, 910, 911, 912, 913, 945, 946, 947, 948, 949, 970, 971, 972, 973, 974, 975, 981, 982, 983, 984, 985, 986, 979, 980, 952, 953, 954, 955, 976, 977, 978, 950, 951] (by decide +kernel) (by decide +kernel)) (goodIn_sub (fun _ h => List.mem_append_left _ (List.mem_append_left _ (List.mem_append_left _ (List.mem_append_right _ h)))) (by decide +kernel))) (goodIn_sub (fun _ h => List.mem_append_left _ (List.mem_append_left _ (List.mem_append_right _ h))) (by decide +kernel))) (goodIn_sub (fun _ h => List.mem_append_left _ (List.mem_append_right _ h)) (by decide +kernel))) (goodIn_sub (fun _ h => List.mem_append_right _ h) (by decide +kernel))) (goodIn_sub (fun _ h => List.mem_append_left _ (List.mem_append_left _ (List.mem_append_left _ (List.mem_append_left _ (List.mem_append_right _ h))))) (by decide +kernel))
set_option maxRecDepth 20000 in
theorem gL_law_L_set : GoodIn wsL_law (va_wsS RL 93 yL_set wsL_set) := goodIn_app (goodIn_of _ (by decide +kernel)) ggL_law_L_set
set_option maxRecDepth 20000 in
theorem ggL_law_X10_set : GoodIn wsL_law wsX10_set := goodIn_r _ [429, 133, 131, 127, 136, 183, 126, 132, 134, 430, 431, 432, 5, 433, 130, 124, 125, 434, 435, 436, 437, 178, 438, 439, 440, 441, 128, 129, 179, 180, 181, 182, 442, 443, 444, 445, 446, 447, 448, 449, 450, 451, 452, 453, 454, 455, 456, 457, 137, 138, 458, 459, 460, 461, 462, 463, 464, 465, 466, 135, 467, 468, 469, 470, 914, 915, 916, 917, 918, 919, 920, 921, 922, 923, 924, 925, 926, 927, 928, 929, 930, 931, 932, 933, 934, 935, 936, 937, 938, 939, 940, 941, 942, 943, 944] (by decide +kernel) (by decide +kernel)
set_option maxRecDepth 20000 in
theorem gL_law_X10_set : GoodIn wsL_law (wsV RL 95 RX10 yX10_set wsX10_set) := goodIn_app (goodIn_of _ (by decide +kernel)) ggL_law_X10_set
set_option maxRecDepth 20000 in
theorem ggL_law_L_cut : GoodIn wsL_law wsL_cut := goodIn_ca (goodIn_ca (goodIn_r _ [473, 152, 222, 474, 475, 476, 2, 477, 16, 41, 232, 233, 234, 235, 163, 164, 236, 237, 238, 15, 239, 169, 240, 241, 242, 243, 244, 245, 246, 247, 248, 40, 249, 205, 206, 207, 208, 107, 250, 251, 252, 253, 47, 254, 255, 256, 257, 258, 259, 260, 261, 262, 263, 264, 265, 108, 266, 267, 64, 268, 269, 270, 271, 272, 48, 410, 411, 412, 413, 112, 113, 414, 415, 308, 309, 111, 310, 119, 285, 286, 287, 288, 289, 290, 291, 292, 293, 294, 118, 295, 311, 312, 313, 314, 315, 904, 905, 906, 907, 908, 909, 910, 911, 912, 913, 945, 946, 947, 948, 949, 970, 971, 972, 973, 974, 975, 981, 982, 983, 984, 985, 986, 979, 980] (by decide +kernel) (by decide +kernel)) (goodIn_sub (fun _ h => List.mem_append_left _ (List.mem_append_left _ (List.mem_append_left _ (List.mem_append_right _ h)))) (by decide +kernel))) (goodIn_sub (fun _ h => List.mem_append_left _ (List.mem_append_right _ h)) (by decide +kernel))
set_option maxRecDepth 20000 in
theorem gL_law_L_cut : GoodIn wsL_law (va_wsS RL 96 yL_cut wsL_cut) := goodIn_app (goodIn_of _ (by decide +kernel)) ggL_law_L_cut
set_option maxRecDepth 20000 in
theorem ggL_law_X10_cut : GoodIn wsL_law wsX10_cut := goodIn_r _ [481, 430, 431, 432, 5, 433, 130, 124, 125, 434, 435, 436, 437, 178, 438, 439, 440, 441, 128, 129, 179, 180, 181, 182, 183, 482, 483, 484, 485, 133, 131, 442, 443, 444, 445, 467, 468, 469, 470, 134, 132, 446, 447, 448, 449, 914, 915, 916, 917, 918, 919, 920, 921, 922, 923, 924, 925, 926, 927, 928, 929, 930, 931, 932, 933, 934, 935, 936, 937, 938, 939, 940, 941, 942, 943, 944] (by decide +kernel) (by decide +kernel)
set_option maxRecDepth 20000 in
theorem gL_law_X10_cut : GoodIn wsL_law (wsV RL 99 RX10 yX10_cut wsX10_cut) := goodIn_app (goodIn_of _ (by decide +kernel)) ggL_law_X10_cut
set_option maxRecDepth 20000 in
theorem ggL_law_L_drop : GoodIn wsL_law wsL_drop := goodIn_ca (goodIn_ca (goodIn_r _ [488, 222, 153, 489, 490, 491, 2, 492, 158, 159, 28, 41, 24, 20, 240, 241, 242, 243, 244, 245, 246, 247, 248, 40, 249, 205, 206, 207, 208, 107, 493, 494, 495, 27, 496, 81, 82, 79, 497, 338, 339, 64, 340, 341, 72, 73, 498, 343, 344, 345, 346, 267, 268, 499, 352, 353, 354, 500, 303, 304, 305, 112, 501, 356, 357, 358, 502, 361, 362, 23, 363, 60, 364, 166, 167, 15, 168, 169, 365, 322, 323, 324, 50, 254, 237, 238, 239, 366, 367, 368, 111, 369, 281, 282, 283, 284, 119, 285, 286, 287, 288, 289, 290, 291, 292, 293, 294, 118, 295, 370, 503, 504, 505, 506, 83, 507, 330, 331, 332, 113, 508, 509, 510, 511, 512, 376, 377, 378, 513, 514, 515, 516, 517, 334, 335, 336, 65, 337, 342, 347, 348, 349, 350, 61, 351, 355, 359, 360, 371, 372, 373, 374, 375, 518, 519, 520, 521, 78, 522, 523, 524, 525, 407, 408, 409, 526, 385, 386, 387, 266, 527, 528, 529, 530, 531, 325, 326, 327, 328, 329, 333, 379, 380, 381, 19, 382, 383, 384, 388, 389, 390, 391, 55, 392, 393, 394, 395, 66, 396, 532, 533, 534, 535, 536, 537, 538, 539, 540, 541, 542, 200, 543, 544, 545, 546, 547, 548, 549, 550, 411, 412, 413, 414, 415, 308, 309, 310, 311, 312, 313, 314, 315, 904, 905, 906, 907, 908, 909, 910, 911, 912, 913, 970, 971, 972, 973, 974, 975, 956, 957, 958, 959, 960, 976, 977, 978, 952, 953, 954, 955, 945, 946, 947, 948, 949, 979, 980, 950, 951] (by decide +kernel) (by decide +kernel)) (goodIn_sub (fun _ h => List.mem_append_left _ (List.mem_append_left _ (List.mem_append_left _ (List.mem_append_left _ (List.mem_append_right _ h))))) (by decide +kernel))) (goodIn_sub (fun _ h => List.mem_append_left _ (List.mem_append_right _ h)) (by decide +kernel))
set_option maxRecDepth 20000 in
theorem gL_law_L_drop : GoodIn wsL_law (va_wsS RL 100 yL_drop wsL_drop) := goodIn_app (goodIn_of _ (by decide +kernel)) ggL_law_L_drop
set_option maxRecDepth 20000 in
theorem ggL_law_X10_drop : GoodIn wsL_law wsX10_drop := goodIn_r _ [554, 138, 128, 183, 438, 439, 440, 5, 441, 129, 179, 180, 181, 182, 555, 556, 557, 558, 178, 127, 132, 134, 559, 560, 561, 562, 136, 563, 564, 565, 566, 131, 133, 454, 455, 456, 457, 137, 458, 459, 460, 461, 462, 463, 464, 465, 466, 135, 567, 568, 569, 570, 213, 467, 468, 469, 470, 442, 443, 444, 445, 446, 447, 448, 449, 914, 915, 916, 917, 918, 919, 920, 921, 922, 923, 924, 925, 926, 927, 928, 929, 930, 931, 932, 933, 934, 935, 936, 937, 938, 939, 940, 941, 942, 943, 944] (by decide +kernel) (by decide +kernel)
set_option maxRecDepth 20000 in
theorem gL_law_X10_drop : GoodIn wsL_law (wsV RL 102 RX10 yX10_drop wsX10_drop) := goodIn_app (goodIn_of _ (by decide +kernel)) ggL_law_X10_drop
set_option maxRecDepth 20000 in
theorem ggL_law_L_copy : GoodIn wsL_law wsL_copy := goodIn_ca (goodIn_ca (goodIn_r _ [573, 222, 153, 574, 575, 576, 2, 577, 158, 159, 32, 41, 195, 240, 241, 242, 243, 244, 245, 246, 247, 248, 40, 249, 205, 206, 207, 208, 107, 578, 579, 580, 31, 581, 90, 92, 582, 303, 304, 305, 112, 583, 334, 335, 23, 336, 65, 337, 338, 339, 64, 340, 341, 72, 73, 342, 343, 344, 345, 346, 267, 268, 347, 348, 349, 350, 61, 351, 352, 353, 354, 355, 356, 357, 358, 359, 360, 361, 362, 363, 60, 364, 166, 167, 15, 168, 169, 365, 322, 323, 324, 50, 254, 237, 238, 239, 366, 367, 368, 111, 369, 281, 282, 283, 284, 119, 285, 286, 287, 288, 289, 290, 291, 292, 293, 294, 118, 295, 370, 371, 372, 373, 374, 375, 376, 377, 378, 584, 585, 586, 587, 588, 589, 590, 591, 592, 385, 386, 387, 266, 593, 594, 595, 596, 597, 89, 598, 197, 198, 199, 200, 599, 600, 601, 602, 603, 604, 402, 403, 404, 49, 605, 606, 607, 608, 609, 610, 330, 331, 332, 113, 611, 612, 407, 408, 409, 613, 614, 615, 616, 93, 617, 618, 263, 264, 265, 108, 619, 202, 203, 204, 620, 621, 622, 623, 624, 625, 626, 627, 628, 629, 630, 631, 632, 633, 634, 635, 414, 421, 422, 423, 424, 425, 317, 318, 319, 320, 311, 312, 313, 314, 315, 636, 637, 638, 639, 640, 641, 642, 643, 644, 533, 904, 905, 906, 907, 908, 909, 910, 911, 912, 913, 970, 971, 972, 973, 974, 975, 961, 962, 963, 964, 952, 953, 954, 955, 976, 977, 978, 945, 946, 947, 948, 949, 979, 980] (by decide +kernel) (by decide +kernel)) (goodIn_sub (fun _ h => List.mem_append_left _ (List.mem_append_left _ (List.mem_append_left _ (List.mem_append_left _ (List.mem_append_right _ h))))) (by decide +kernel))) (goodIn_sub (fun _ h => List.mem_append_left _ (List.mem_append_right _ h)) (by decide +kernel))
set_option maxRecDepth 20000 in
theorem gL_law_L_copy : GoodIn wsL_law (va_wsS RL 103 yL_copy wsL_copy) := goodIn_app (goodIn_of _ (by decide +kernel)) ggL_law_L_copy
set_option maxRecDepth 20000 in
theorem ggL_law_X10_copy : GoodIn wsL_law wsX10_copy := goodIn_r _ [648, 139, 128, 129, 141, 213, 140, 130, 178, 127, 126, 438, 439, 440, 5, 441, 179, 180, 181, 182, 183, 649, 650, 651, 652, 137, 131, 133, 653, 654, 655, 656, 142, 132, 214, 215, 216, 217, 218, 657, 658, 659, 660, 450, 451, 452, 453, 661, 662, 663, 664, 134, 665, 666, 667, 668, 914, 915, 916, 917, 918, 919, 920, 921, 922, 923, 924, 925, 926, 927, 928, 929, 930, 931, 932, 933, 934, 935, 936, 937, 938, 939, 940, 941, 942, 943, 944] (by decide +kernel) (by decide +kernel)
set_option maxRecDepth 20000 in
theorem gL_law_X10_copy : GoodIn wsL_law (wsV RL 105 RX10 yX10_copy wsX10_copy) := goodIn_app (goodIn_of _ (by decide +kernel)) ggL_law_X10_copy
set_option maxRecDepth 20000 in
theorem ggL_law_L_alike : GoodIn wsL_law wsL_alike := goodIn_ca (goodIn_r _ [671, 222, 672, 673, 674, 2, 675, 36, 41, 240, 241, 242, 243, 244, 245, 246, 247, 248, 40, 249, 205, 206, 207, 208, 107, 676, 677, 678, 35, 679, 680, 100, 101, 102, 681, 682, 683, 684, 685, 267, 64, 268, 686, 687, 688, 689, 99, 690, 263, 264, 265, 108, 266, 691, 166, 167, 15, 168, 169, 692, 322, 323, 324, 50, 254, 237, 238, 239, 693, 303, 304, 305, 112, 694, 695, 696, 697, 698, 282, 283, 111, 284, 119, 285, 286, 287, 288, 289, 290, 699, 407, 408, 409, 281, 291, 292, 293, 294, 118, 295, 904, 905, 906, 907, 908, 909, 910, 911, 912, 913, 970, 971, 972, 973, 974, 975, 965, 966, 967, 968, 969, 945, 946, 947, 948, 949, 979, 980] (by decide +kernel) (by decide +kernel)) (goodIn_sub (fun _ h => List.mem_append_left _ (List.mem_append_right _ h)) (by decide +kernel))
set_option maxRecDepth 20000 in
theorem gL_law_L_alike : GoodIn wsL_law (va_wsS RL 106 yL_alike wsL_alike) := goodIn_app (goodIn_of _ (by decide +kernel)) ggL_law_L_alike
set_option maxRecDepth 20000 in
theorem ggL_law_X10_alike : GoodIn wsL_law wsX10_alike := goodIn_r _ [703, 144, 145, 438, 439, 440, 5, 441, 128, 129, 179, 180, 181, 182, 183, 704, 705, 706, 707, 130, 178, 127, 131, 708, 709, 710, 711, 133, 914, 915, 916, 917, 918, 919, 920, 921, 922, 923, 924, 925, 926, 927, 928, 929, 930, 931, 932, 933, 934, 935, 936, 937, 938, 939, 940, 941, 942, 943, 944] (by decide +kernel) (by decide +kernel)
set_option maxRecDepth 20000 in
theorem gL_law_X10_alike : GoodIn wsL_law (wsV RL 109 RX10 yX10_alike wsX10_alike) := goodIn_app (goodIn_of _ (by decide +kernel)) ggL_law_X10_alike
set_option maxRecDepth 20000 in
theorem ggL_law_L_at : GoodIn wsL_law wsL_at := goodIn_ca (goodIn_ca (goodIn_ca (goodIn_r _ [714, 152, 222, 223, 225, 715, 716, 717, 2, 718, 16, 41, 232, 233, 234, 235, 163, 164, 236, 237, 238, 15, 239, 169, 240, 241, 242, 243, 244, 245, 246, 247, 248, 40, 249, 205, 206, 207, 208, 107, 250, 251, 252, 253, 47, 254, 255, 256, 257, 258, 259, 260, 261, 262, 263, 264, 265, 108, 266, 267, 64, 268, 302, 303, 304, 305, 112, 719, 720, 721, 722, 300, 301, 406, 407, 408, 111, 409, 281, 282, 283, 284, 119, 285, 286, 287, 288, 289, 290, 291, 292, 293, 294, 118, 295, 533, 385, 386, 387, 904, 905, 906, 907, 908, 909, 910, 911, 912, 913, 945, 946, 947, 948, 949, 970, 971, 972, 973, 974, 975, 981, 982, 983, 984, 985, 986, 979, 980] (by decide +kernel) (by decide +kernel)) (goodIn_sub (fun _ h => List.mem_append_left _ (List.mem_append_left _ (List.mem_append_left _ (List.mem_append_right _ h)))) (by decide +kernel))) (goodIn_sub (fun _ h => List.mem_append_left _ (List.mem_append_right _ h)) (by decide +kernel))) (goodIn_sub (fun _ h => List.mem_append_right _ h) (by decide +kernel))
set_option maxRecDepth 20000 in
theorem gL_law_L_at : GoodIn wsL_law (va_wsS RL 110 yL_at wsL_at) := goodIn_app (goodIn_of _ (by decide +kernel)) ggL_law_L_at
set_option maxRecDepth 20000 in
theorem ggL_law_X10_at : GoodIn wsL_law wsX10_at := goodIn_r _ [726, 130, 124, 131, 129, 133, 438, 439, 440, 5, 441, 128, 434, 435, 436, 437, 178, 179, 180, 181, 182, 183, 914, 915, 916, 917, 918, 919, 920, 921, 922, 923, 924, 925, 926, 927, 928, 929, 930, 931, 932, 933, 934, 935, 936, 937, 938, 939, 940, 941, 942, 943, 944] (by decide +kernel) (by decide +kernel)
set_option maxRecDepth 20000 in
theorem gL_law_X10_at : GoodIn wsL_law (wsV RL 112 RX10 yX10_at wsX10_at) := goodIn_app (goodIn_of _ (by decide +kernel)) ggL_law_X10_at
set_option maxRecDepth 20000 in
theorem ggL_law_L_back : GoodIn wsL_law wsL_back := goodIn_ca (goodIn_ca (goodIn_ca (goodIn_r _ [729, 152, 222, 223, 225, 730, 731, 732, 2, 733, 16, 41, 232, 233, 234, 235, 163, 164, 236, 237, 238, 15, 239, 169, 240, 241, 242, 243, 244, 245, 246, 247, 248, 40, 249, 205, 206, 207, 208, 107, 269, 270, 271, 272, 48, 254, 255, 256, 257, 258, 259, 260, 261, 262, 263, 264, 265, 108, 266, 267, 64, 268, 405, 330, 331, 332, 113, 719, 720, 721, 722, 300, 301, 406, 407, 408, 111, 409, 281, 282, 283, 284, 119, 285, 286, 287, 288, 289, 290, 291, 292, 293, 294, 118, 295, 533, 385, 386, 387, 904, 905, 906, 907, 908, 909, 910, 911, 912, 913, 945, 946, 947, 948, 949, 970, 971, 972, 973, 974, 975, 981, 982, 983, 984, 985, 986, 979, 980] (by decide +kernel) (by decide +kernel)) (goodIn_sub (fun _ h => List.mem_append_left _ (List.mem_append_left _ (List.mem_append_left _ (List.mem_append_right _ h)))) (by decide +kernel))) (goodIn_sub (fun _ h => List.mem_append_left _ (List.mem_append_right _ h)) (by decide +kernel))) (goodIn_sub (fun _ h => List.mem_append_right _ h) (by decide +kernel))
set_option maxRecDepth 20000 in
theorem gL_law_L_back : GoodIn wsL_law (va_wsS RL 113 yL_back wsL_back) := goodIn_app (goodIn_of _ (by decide +kernel)) ggL_law_L_back
set_option maxRecDepth 20000 in
theorem ggL_law_X10_back : GoodIn wsL_law wsX10_back := goodIn_r _ [737, 130, 125, 132, 129, 134, 438, 439, 440, 5, 441, 128, 434, 435, 436, 437, 178, 179, 180, 181, 182, 183, 914, 915, 916, 917, 918, 919, 920, 921, 922, 923, 924, 925, 926, 927, 928, 929, 930, 931, 932, 933, 934, 935, 936, 937, 938, 939, 940, 941, 942, 943, 944] (by decide +kernel) (by decide +kernel)
set_option maxRecDepth 20000 in
theorem gL_law_X10_back : GoodIn wsL_law (wsV RL 115 RX10 yX10_back wsX10_back) := goodIn_app (goodIn_of _ (by decide +kernel)) ggL_law_X10_back
set_option maxRecDepth 20000 in
theorem ggL_law_L_ask : GoodIn wsL_law wsL_ask := goodIn_ca (goodIn_ca (goodIn_r _ [740, 152, 222, 741, 742, 743, 2, 744, 41, 24, 160, 161, 162, 163, 164, 240, 241, 242, 243, 244, 245, 246, 247, 248, 40, 249, 205, 206, 207, 208, 107, 262, 263, 264, 265, 108, 266, 267, 64, 268, 405, 330, 331, 332, 113, 745, 746, 747, 23, 748, 65, 337, 338, 339, 340, 341, 72, 73, 360, 361, 362, 363, 60, 364, 166, 167, 15, 168, 169, 365, 322, 323, 324, 50, 254, 237, 238, 239, 366, 367, 368, 111, 369, 281, 282, 283, 284, 119, 285, 286, 287, 288, 289, 290, 291, 292, 293, 294, 118, 295, 370, 343, 344, 345, 346, 351, 352, 353, 354, 749, 750, 751, 752, 396, 303, 304, 305, 112, 333, 334, 335, 336, 342, 347, 348, 349, 350, 61, 355, 356, 357, 358, 359, 371, 372, 373, 374, 375, 376, 377, 378, 753, 754, 755, 756, 66, 329, 302, 757, 758, 759, 760, 904, 905, 906, 907, 908, 909, 910, 911, 912, 913, 970, 971, 972, 973, 974, 975, 952, 953, 954, 955, 976, 977, 978, 945, 946, 947, 948, 949, 979, 980] (by decide +kernel) (by decide +kernel)) (goodIn_sub (fun _ h => List.mem_append_left _ (List.mem_append_left _ (List.mem_append_left _ (List.mem_append_right _ h)))) (by decide +kernel))) (goodIn_sub (fun _ h => List.mem_append_left _ (List.mem_append_right _ h)) (by decide +kernel))
set_option maxRecDepth 20000 in
theorem gL_law_L_ask : GoodIn wsL_law (va_wsS RL 116 yL_ask wsL_ask) := goodIn_app (goodIn_of _ (by decide +kernel)) ggL_law_L_ask
set_option maxRecDepth 20000 in
theorem ggL_law_X10_ask : GoodIn wsL_law wsX10_ask := goodIn_r _ [764, 130, 438, 439, 440, 5, 441, 128, 129, 179, 180, 181, 182, 183, 765, 766, 767, 768, 769, 770, 771, 772, 178, 127, 482, 483, 484, 485, 133, 131, 442, 443, 444, 445, 649, 650, 651, 652, 139, 137, 773, 774, 775, 776, 136, 777, 778, 779, 780, 781, 782, 783, 784, 914, 915, 916, 917, 918, 919, 920, 921, 922, 923, 924, 925, 926, 927, 928, 929, 930, 931, 932, 933, 934, 935, 936, 937, 938, 939, 940, 941, 942, 943, 944] (by decide +kernel) (by decide +kernel)
set_option maxRecDepth 20000 in
theorem gL_law_X10_ask : GoodIn wsL_law (wsV RL 118 RX10 yX10_ask wsX10_ask) := goodIn_app (goodIn_of _ (by decide +kernel)) ggL_law_X10_ask
set_option maxRecDepth 20000 in
theorem ggL_law_L_size : GoodIn wsL_law wsL_size := goodIn_ca (goodIn_ca (goodIn_r _ [787, 152, 222, 788, 789, 790, 2, 791, 16, 41, 232, 233, 234, 235, 163, 164, 236, 237, 238, 15, 239, 169, 160, 161, 162, 240, 241, 242, 243, 244, 245, 246, 247, 248, 40, 249, 205, 206, 207, 208, 107, 250, 251, 252, 253, 47, 254, 269, 270, 271, 272, 48, 255, 256, 257, 258, 259, 260, 261, 262, 263, 264, 265, 108, 266, 267, 64, 268, 302, 303, 304, 305, 112, 405, 330, 331, 332, 113, 306, 282, 283, 111, 284, 119, 285, 286, 287, 288, 289, 290, 904, 905, 906, 907, 908, 909, 910, 911, 912, 913, 945, 946, 947, 948, 949, 970, 971, 972, 973, 974, 975, 981, 982, 983, 984, 985, 986, 979, 980] (by decide +kernel) (by decide +kernel)) (goodIn_sub (fun _ h => List.mem_append_left _ (List.mem_append_left _ (List.mem_append_left _ (List.mem_append_right _ h)))) (by decide +kernel))) (goodIn_sub (fun _ h => List.mem_append_left _ (List.mem_append_right _ h)) (by decide +kernel))
set_option maxRecDepth 20000 in
theorem gL_law_L_size : GoodIn wsL_law (va_wsS RL 119 yL_size wsL_size) := goodIn_app (goodIn_of _ (by decide +kernel)) ggL_law_L_size
set_option maxRecDepth 20000 in
theorem ggL_law_X10_size : GoodIn wsL_law wsX10_size := goodIn_r _ [795, 130, 124, 125, 131, 132, 438, 439, 440, 5, 441, 128, 129, 434, 435, 436, 437, 178, 179, 180, 181, 182, 183, 914, 915, 916, 917, 918, 919, 920, 921, 922, 923, 924, 925, 926, 927, 928, 929, 930, 931, 932, 933, 934, 935, 936, 937, 938, 939, 940, 941, 942, 943, 944] (by decide +kernel) (by decide +kernel)
set_option maxRecDepth 20000 in
theorem gL_law_X10_size : GoodIn wsL_law (wsV RL 121 RX10 yX10_size wsX10_size) := goodIn_app (goodIn_of _ (by decide +kernel)) ggL_law_X10_size
set_option maxRecDepth 20000 in
theorem ggL_law_L_way : GoodIn wsL_law wsL_way := goodIn_ca (goodIn_r _ [798, 222, 799, 800, 801, 2, 802, 24, 41, 20, 240, 241, 242, 243, 244, 245, 246, 247, 248, 40, 249, 205, 206, 207, 208, 107, 325, 326, 327, 23, 328, 65, 329, 330, 331, 332, 113, 333, 334, 335, 336, 337, 338, 339, 64, 340, 341, 72, 73, 342, 343, 344, 345, 346, 267, 268, 347, 348, 349, 350, 61, 351, 352, 353, 354, 355, 356, 357, 358, 359, 360, 361, 362, 363, 60, 364, 166, 167, 15, 168, 169, 365, 322, 323, 324, 50, 254, 237, 238, 239, 366, 367, 368, 111, 369, 281, 282, 283, 284, 119, 285, 286, 287, 288, 289, 290, 291, 292, 293, 294, 118, 295, 370, 371, 372, 373, 374, 375, 376, 377, 378, 379, 380, 381, 19, 382, 383, 384, 385, 386, 387, 266, 388, 389, 390, 391, 55, 392, 393, 394, 395, 66, 396, 303, 304, 305, 112, 803, 804, 805, 806, 807, 904, 905, 906, 907, 908, 909, 910, 911, 912, 913, 970, 971, 972, 973, 974, 975, 952, 953, 954, 955, 976, 977, 978, 945, 946, 947, 948, 949, 979, 980, 950, 951] (by decide +kernel) (by decide +kernel)) (goodIn_sub (fun _ h => List.mem_append_left _ (List.mem_append_right _ h)) (by decide +kernel))
set_option maxRecDepth 20000 in
theorem gL_law_L_way : GoodIn wsL_law (va_wsS RL 122 yL_way wsL_way) := goodIn_app (goodIn_of _ (by decide +kernel)) ggL_law_L_way
set_option maxRecDepth 20000 in
theorem ggL_law_X10_way : GoodIn wsL_law wsX10_way := goodIn_r _ [811, 462, 136, 438, 439, 440, 5, 441, 128, 129, 179, 180, 181, 182, 183, 454, 455, 456, 457, 137, 178, 127, 132, 134, 138, 458, 459, 460, 461, 131, 133, 463, 464, 465, 466, 135, 914, 915, 916, 917, 918, 919, 920, 921, 922, 923, 924, 925, 926, 927, 928, 929, 930, 931, 932, 933, 934, 935, 936, 937, 938, 939, 940, 941, 942, 943, 944] (by decide +kernel) (by decide +kernel)
set_option maxRecDepth 20000 in
theorem gL_law_X10_way : GoodIn wsL_law (wsV RL 124 RX10 yX10_way wsX10_way) := goodIn_app (goodIn_of _ (by decide +kernel)) ggL_law_X10_way
set_option maxRecDepth 20000 in
theorem ggL_law_L_path : GoodIn wsL_law wsL_path := goodIn_ca (goodIn_r _ [814, 225, 815, 816, 817, 2, 818, 300, 301, 20, 804, 805, 806, 19, 807, 383, 819, 820, 821, 822, 55, 904, 905, 906, 907, 908, 909, 910, 911, 912, 913, 950, 951] (by decide +kernel) (by decide +kernel)) (goodIn_sub (fun _ h => List.mem_append_right _ h) (by decide +kernel))
set_option maxRecDepth 20000 in
theorem gL_law_L_path : GoodIn wsL_law (va_wsS RL 125 yL_path wsL_path) := goodIn_app (goodIn_of _ (by decide +kernel)) ggL_law_L_path
set_option maxRecDepth 20000 in
theorem ggL_law_X10_path : GoodIn wsL_law wsX10_path := goodIn_r _ [826, 462, 135, 179, 180, 181, 5, 182, 183, 914, 915, 916, 917, 918, 919, 920, 921, 922, 923, 924, 925, 926, 927, 928, 929, 930, 931, 932, 933, 934, 935, 936, 937, 938, 939, 940, 941, 942, 943, 944] (by decide +kernel) (by decide +kernel)
set_option maxRecDepth 20000 in
theorem gL_law_X10_path : GoodIn wsL_law (wsV RL 127 RX10 yX10_path wsX10_path) := goodIn_app (goodIn_of _ (by decide +kernel)) ggL_law_X10_path
set_option maxRecDepth 20000 in
theorem ggL_law_L_begin : GoodIn wsL_law wsL_begin := goodIn_ca (goodIn_r _ [829, 153, 830, 831, 832, 2, 833, 158, 159, 834, 38, 37, 39, 40, 41, 103, 104, 105, 106, 11, 12, 46, 107, 108, 109, 110, 111, 112, 113, 114, 115, 116, 117, 6, 118, 119, 835, 836, 837, 838, 839, 840, 841, 842, 200, 414, 843, 844, 845, 846, 847, 904, 905, 906, 907, 908, 909, 910, 911, 912, 913, 970, 971, 972, 973, 974, 975, 979, 980] (by decide +kernel) (by decide +kernel)) (goodIn_sub (fun _ h => List.mem_append_left _ (List.mem_append_left _ (List.mem_append_left _ (List.mem_append_left _ (List.mem_append_right _ h))))) (by decide +kernel))
set_option maxRecDepth 20000 in
theorem gL_law_L_begin : GoodIn wsL_law (va_wsS RL 128 yL_begin wsL_begin) := goodIn_app (goodIn_of _ (by decide +kernel)) ggL_law_L_begin
set_option maxRecDepth 20000 in
theorem ggL_law_X10_begin : GoodIn wsL_law wsX10_begin := goodIn_r _ [851, 852, 147, 853, 128, 129, 130, 179, 180, 181, 5, 182, 183, 854, 855, 856, 857, 146, 858, 859, 860, 46, 861, 862, 863, 864, 131, 133, 132, 134, 914, 915, 916, 917, 918, 919, 920, 921, 922, 923, 924, 925, 926, 927, 928, 929, 930, 931, 932, 933, 934, 935, 936, 937, 938, 939, 940, 941, 942, 943, 944] (by decide +kernel) (by decide +kernel)
set_option maxRecDepth 20000 in
theorem gL_law_X10_begin : GoodIn wsL_law (wsV RL 131 RX10 yX10_begin wsX10_begin) := goodIn_app (goodIn_of _ (by decide +kernel)) ggL_law_X10_begin
set_option maxRecDepth 20000 in
theorem ggL_law_L_end : GoodIn wsL_law wsL_end := goodIn_ca (goodIn_r _ [867, 153, 868, 869, 870, 2, 871, 158, 159, 834, 38, 41, 904, 905, 906, 907, 908, 909, 910, 911, 912, 913] (by decide +kernel) (by decide +kernel)) (goodIn_sub (fun _ h => List.mem_append_left _ (List.mem_append_left _ (List.mem_append_left _ (List.mem_append_left _ (List.mem_append_right _ h))))) (by decide +kernel))
set_option maxRecDepth 20000 in
theorem gL_law_L_end : GoodIn wsL_law (va_wsS RL 132 yL_end wsL_end) := goodIn_app (goodIn_of _ (by decide +kernel)) ggL_law_L_end
set_option maxRecDepth 20000 in
theorem ggL_law_X10_end : GoodIn wsL_law wsX10_end := goodIn_r _ [875, 852, 147, 853, 179, 180, 181, 5, 182, 183, 876, 877, 878, 879, 880, 213, 128, 129, 130, 881, 882, 883, 884, 146, 885, 886, 887, 888, 131, 133, 132, 134, 914, 915, 916, 917, 918, 919, 920, 921, 922, 923, 924, 925, 926, 927, 928, 929, 930, 931, 932, 933, 934, 935, 936, 937, 938, 939, 940, 941, 942, 943, 944] (by decide +kernel) (by decide +kernel)
set_option maxRecDepth 20000 in
theorem gL_law_X10_end : GoodIn wsL_law (wsV RL 135 RX10 yX10_end wsX10_end) := goodIn_app (goodIn_of _ (by decide +kernel)) ggL_law_X10_end
set_option maxRecDepth 20000 in
theorem ggL_law_L_count : GoodIn wsL_law wsL_count := goodIn_ca (goodIn_r _ [891, 152, 892, 893, 894, 2, 895, 16, 41, 195, 834, 20, 160, 161, 162, 163, 164, 165, 166, 167, 15, 168, 169, 196, 197, 198, 40, 199, 200, 804, 805, 806, 19, 807, 383, 896, 897, 898, 899, 414, 904, 905, 906, 907, 908, 909, 910, 911, 912, 913, 945, 946, 947, 948, 949, 970, 971, 972, 973, 974, 975, 950, 951] (by decide +kernel) (by decide +kernel)) (goodIn_sub (fun _ h => List.mem_append_left _ (List.mem_append_left _ (List.mem_append_left _ (List.mem_append_right _ h)))) (by decide +kernel))
set_option maxRecDepth 20000 in
theorem gL_law_L_count : GoodIn wsL_law (va_wsS RL 136 yL_count wsL_count) := goodIn_app (goodIn_of _ (by decide +kernel)) ggL_law_L_count
set_option maxRecDepth 20000 in
theorem ggL_law_X10_count : GoodIn wsL_law wsX10_count := goodIn_r _ [903, 178, 213, 218, 852, 462, 128, 131, 179, 180, 181, 5, 182, 183, 914, 915, 916, 917, 918, 919, 920, 921, 922, 923, 924, 925, 926, 927, 928, 929, 930, 931, 932, 933, 934, 935, 936, 937, 938, 939, 940, 941, 942, 943, 944] (by decide +kernel) (by decide +kernel)
set_option maxRecDepth 20000 in
theorem gL_law_X10_count : GoodIn wsL_law (wsV RL 138 RX10 yX10_count wsX10_count) := goodIn_app (goodIn_of _ (by decide +kernel)) ggL_law_X10_count
