set_option maxRecDepth 20000 in
theorem ggX0_match_X0_demand : GoodIn wsX0_match wsX0_demand := goodIn_r _ [9, 2, 1, 3, 4, 10, 11, 12, 13, 73, 74, 75, 76, 77] (by decide +kernel) (by decide +kernel)
set_option maxRecDepth 20000 in
theorem gX0_match_X0_demand : GoodIn wsX0_match (wsV RX0 29 RX0 yX0_demand wsX0_demand) := goodIn_app (goodIn_of _ (by decide +kernel)) ggX0_match_X0_demand
set_option maxRecDepth 20000 in
theorem ggX0_match_X0_matchPair : GoodIn wsX0_match wsX0_matchPair := goodIn_r _ [17, 18, 19, 20, 21, 22, 23, 24, 25, 11, 12, 13, 26, 27, 28, 29, 30, 31, 32, 33, 34, 35, 36, 37, 38, 39, 40, 41, 42, 43, 44, 45, 46, 47, 48, 8, 49, 50, 51, 52, 53, 54, 55, 56, 57, 58, 59, 60, 61, 62, 63, 64, 65, 66, 67, 68, 69, 70, 71, 72, 5, 6, 7, 9, 2, 1, 3, 4, 10, 73, 74, 75, 76, 77, 78, 79, 80, 81, 82, 83, 84, 85, 86, 87, 88, 89, 90] (by decide +kernel) (by decide +kernel)
set_option maxRecDepth 20000 in
theorem gX0_match_X0_matchPair : GoodIn wsX0_match (wsV RX0 33 RX0 yX0_matchPair wsX0_matchPair) := goodIn_app (goodIn_of _ (by decide +kernel)) ggX0_match_X0_matchPair
set_option maxRecDepth 20000 in
theorem ggX0_matchPair_X1_kindOf : GoodIn wsX0_matchPair wsX1_kindOf := goodIn_r _ [6, 7, 8, 9, 10, 11, 74, 75, 76, 77, 78, 79] (by decide +kernel) (by decide +kernel)
set_option maxRecDepth 20000 in
theorem gX0_matchPair_X1_kindOf : GoodIn wsX0_matchPair (wsV RX0 37 RX1 yX1_kindOf wsX1_kindOf) := goodIn_app (goodIn_of _ (by decide +kernel)) ggX0_matchPair_X1_kindOf
set_option maxRecDepth 20000 in
theorem ggX0_matchPair_X5_howMany : GoodIn wsX0_matchPair wsX5_howMany := goodIn_r _ [16, 17, 80, 81, 82, 83, 84] (by decide +kernel) (by decide +kernel)
set_option maxRecDepth 20000 in
theorem gX0_matchPair_X5_howMany : GoodIn wsX0_matchPair (wsV RX0 43 RX5 yX5_howMany wsX5_howMany) := goodIn_app (goodIn_of _ (by decide +kernel)) ggX0_matchPair_X5_howMany
set_option maxRecDepth 20000 in
theorem ggX0_matchPair_X5_hasRule : GoodIn wsX0_matchPair wsX5_hasRule := goodIn_r _ [21, 22, 23, 24, 25, 15, 26, 17, 80, 81, 82, 83, 84] (by decide +kernel) (by decide +kernel)
set_option maxRecDepth 20000 in
theorem gX0_matchPair_X5_hasRule : GoodIn wsX0_matchPair (wsV RX0 49 RX5 yX5_hasRule wsX5_hasRule) := goodIn_app (goodIn_of _ (by decide +kernel)) ggX0_matchPair_X5_hasRule
set_option maxRecDepth 20000 in
theorem ggX0_matchPair_X1_has : GoodIn wsX0_matchPair wsX1_has := goodIn_r _ [30, 31, 74, 75, 76, 77, 78, 79] (by decide +kernel) (by decide +kernel)
set_option maxRecDepth 20000 in
theorem gX0_matchPair_X1_has : GoodIn wsX0_matchPair (wsV RX0 53 RX1 yX1_has wsX1_has) := goodIn_app (goodIn_of _ (by decide +kernel)) ggX0_matchPair_X1_has
set_option maxRecDepth 20000 in
theorem ggX0_matchPair_X0_matchRows : GoodIn wsX0_matchPair wsX0_matchRows := goodIn_r _ [36, 37, 38, 39, 40, 41, 42, 43, 44, 45, 46, 47, 48, 49, 50, 51, 52, 53, 54, 55, 56, 57, 58, 59, 60, 61, 62, 35, 63, 64, 65, 66, 67, 68, 9, 10, 11, 85, 86, 69, 70, 71, 72, 73] (by decide +kernel) (by decide +kernel)
set_option maxRecDepth 20000 in
theorem gX0_matchPair_X0_matchRows : GoodIn wsX0_matchPair (wsV RX0 57 RX0 yX0_matchRows wsX0_matchRows) := goodIn_app (goodIn_of _ (by decide +kernel)) ggX0_matchPair_X0_matchRows
set_option maxRecDepth 20000 in
theorem ggX0_matchRows_X3_lengthOf : GoodIn wsX0_matchRows wsX3_lengthOf := goodIn_r _ [5, 6, 7, 8, 4, 9, 10, 11, 12, 37, 38] (by decide +kernel) (by decide +kernel)
set_option maxRecDepth 20000 in
theorem gX0_matchRows_X3_lengthOf : GoodIn wsX0_matchRows (wsV RX0 61 RX3 yX3_lengthOf wsX3_lengthOf) := goodIn_app (goodIn_of _ (by decide +kernel)) ggX0_matchRows_X3_lengthOf
set_option maxRecDepth 20000 in
theorem ggX0_matchRows_X3_get : GoodIn wsX0_matchRows wsX3_get := goodIn_r _ [16, 17, 2, 3, 4, 5, 6, 7, 8, 9, 10, 11, 12, 18, 19, 20, 21, 22, 23, 37, 38] (by decide +kernel) (by decide +kernel)
set_option maxRecDepth 20000 in
theorem gX0_matchRows_X3_get : GoodIn wsX0_matchRows (wsV RX0 67 RX3 yX3_get wsX3_get) := goodIn_app (goodIn_of _ (by decide +kernel)) ggX0_matchRows_X3_get
set_option maxRecDepth 20000 in
theorem ggX0_matchRows_X0_demand : GoodIn wsX0_matchRows wsX0_demand := goodIn_r _ [28, 29, 30, 31, 32, 33, 34, 35, 36, 39, 40, 41, 42, 43] (by decide +kernel) (by decide +kernel)
set_option maxRecDepth 20000 in
theorem gX0_matchRows_X0_demand : GoodIn wsX0_matchRows (wsV RX0 29 RX0 yX0_demand wsX0_demand) := goodIn_app (goodIn_of _ (by decide +kernel)) ggX0_matchRows_X0_demand
set_option maxRecDepth 20000 in
theorem ggX0_demand_X4_isSlot : GoodIn wsX0_demand wsX4_isSlot := goodIn_r _ [8] (by decide +kernel) (by decide +kernel)
set_option maxRecDepth 20000 in
theorem gX0_demand_X4_isSlot : GoodIn wsX0_demand (va_wsS RX0 71 yX4_isSlot wsX4_isSlot) := goodIn_app (goodIn_of _ (by decide +kernel)) ggX0_demand_X4_isSlot
set_option maxRecDepth 20000 in
theorem ggX1_init_X3_init : GoodIn wsX1_init wsX3_init := goodIn_r _ [14, 15, 2, 3, 16, 17, 4, 18, 25, 26] (by decide +kernel) (by decide +kernel)
set_option maxRecDepth 20000 in
theorem gX1_init_X3_init : GoodIn wsX1_init (wsX3_init) := ggX1_init_X3_init
set_option maxRecDepth 20000 in
theorem ggX1_slotOf_X1_slotBearing : GoodIn wsX1_slotOf wsX1_slotBearing := goodIn_r _ [5, 6, 7, 8, 9, 10, 11, 12] (by decide +kernel) (by decide +kernel)
set_option maxRecDepth 20000 in
theorem gX1_slotOf_X1_slotBearing : GoodIn wsX1_slotOf (wsV RX1 35 RX1 yX1_slotBearing wsX1_slotBearing) := goodIn_app (goodIn_of _ (by decide +kernel)) ggX1_slotOf_X1_slotBearing
set_option maxRecDepth 20000 in
theorem ggX1_numberOf_X4_isSlot : GoodIn wsX1_numberOf wsX4_isSlot := goodIn_r _ [5] (by decide +kernel) (by decide +kernel)
set_option maxRecDepth 20000 in
theorem gX1_numberOf_X4_isSlot : GoodIn wsX1_numberOf (va_wsS RX1 39 yX4_isSlot wsX4_isSlot) := goodIn_app (goodIn_of _ (by decide +kernel)) ggX1_numberOf_X4_isSlot
set_option maxRecDepth 20000 in
theorem ggX1_kindOf_X4_isSlot : GoodIn wsX1_kindOf wsX4_isSlot := goodIn_r _ [5] (by decide +kernel) (by decide +kernel)
set_option maxRecDepth 20000 in
theorem gX1_kindOf_X4_isSlot : GoodIn wsX1_kindOf (va_wsS RX1 39 yX4_isSlot wsX4_isSlot) := goodIn_app (goodIn_of _ (by decide +kernel)) ggX1_kindOf_X4_isSlot
set_option maxRecDepth 20000 in
theorem ggX1_admit_X1_slotBearing : GoodIn wsX1_admit wsX1_slotBearing := goodIn_r _ [8, 1, 9, 10, 11, 12, 13, 14] (by decide +kernel) (by decide +kernel)
set_option maxRecDepth 20000 in
theorem gX1_admit_X1_slotBearing : GoodIn wsX1_admit (wsV RX1 35 RX1 yX1_slotBearing wsX1_slotBearing) := goodIn_app (goodIn_of _ (by decide +kernel)) ggX1_admit_X1_slotBearing
set_option maxRecDepth 20000 in
theorem ggX1_remove_X1_numberOf : GoodIn wsX1_remove wsX1_numberOf := goodIn_r _ [7, 1, 8, 9, 10, 11, 55, 56, 57, 58, 59, 60] (by decide +kernel) (by decide +kernel)
set_option maxRecDepth 20000 in
theorem gX1_remove_X1_numberOf : GoodIn wsX1_remove (wsV RX1 45 RX1 yX1_numberOf wsX1_numberOf) := goodIn_app (goodIn_of _ (by decide +kernel)) ggX1_remove_X1_numberOf
set_option maxRecDepth 20000 in
theorem ggX1_remove_X1_separateAll : GoodIn wsX1_remove wsX1_separateAll := goodIn_r _ [15, 16, 17, 18, 19, 20, 21, 22, 23, 24, 25, 26, 27, 28, 29, 30, 31, 32, 33, 34, 35, 36, 37, 38, 39, 40, 41, 42, 43, 6, 44, 45, 46, 47, 48, 49, 50, 51, 52, 53, 54, 55, 56, 57, 58, 59, 60, 61, 62] (by decide +kernel) (by decide +kernel)
set_option maxRecDepth 20000 in
theorem gX1_remove_X1_separateAll : GoodIn wsX1_remove (wsV RX1 48 RX1 yX1_separateAll wsX1_separateAll) := goodIn_app (goodIn_of _ (by decide +kernel)) ggX1_remove_X1_separateAll
set_option maxRecDepth 20000 in
theorem ggX1_isJoined_X3_holds : GoodIn wsX1_isJoined wsX3_holds := goodIn_r _ [6, 7, 8, 9, 5, 10, 11, 12, 13, 14, 15, 16, 17, 18, 19, 20, 21, 22, 23, 30, 31] (by decide +kernel) (by decide +kernel)
set_option maxRecDepth 20000 in
theorem gX1_isJoined_X3_holds : GoodIn wsX1_isJoined (wsV RX1 52 RX3 yX3_holds wsX3_holds) := goodIn_app (goodIn_of _ (by decide +kernel)) ggX1_isJoined_X3_holds
set_option maxRecDepth 20000 in
theorem ggX1_join_X3_insert : GoodIn wsX1_join wsX3_insert := goodIn_r _ [8, 9, 10, 11, 7, 12, 13, 14, 15, 16, 17, 18, 19, 20, 21, 22, 23, 24, 25, 26, 27, 28, 29, 30, 46, 47] (by decide +kernel) (by decide +kernel)
set_option maxRecDepth 20000 in
theorem gX1_join_X3_insert : GoodIn wsX1_join (wsV RX1 56 RX3 yX3_insert wsX3_insert) := goodIn_app (goodIn_of _ (by decide +kernel)) ggX1_join_X3_insert
set_option maxRecDepth 20000 in
theorem ggX1_join_X3_append : GoodIn wsX1_join wsX3_append := goodIn_r _ [34, 35, 36, 37, 7, 38, 9, 10, 11, 12, 17, 18, 19, 39, 5, 6, 8, 13, 14, 15, 16, 20, 21, 22, 23, 24, 25, 26, 27, 28, 29, 30, 46, 47] (by decide +kernel) (by decide +kernel)
set_option maxRecDepth 20000 in
theorem gX1_join_X3_append : GoodIn wsX1_join (wsV RX1 60 RX3 yX3_append wsX3_append) := goodIn_app (goodIn_of _ (by decide +kernel)) ggX1_join_X3_append
set_option maxRecDepth 20000 in
theorem ggX1_joinHas_X3_append : GoodIn wsX1_joinHas wsX3_append := goodIn_r _ [7, 8, 9, 10, 6, 11, 12, 13, 14, 15, 16, 17, 18, 19, 20, 21, 22, 23, 24, 25, 26, 27, 28, 29, 30, 31, 32, 33, 34, 35, 36, 37, 44, 45] (by decide +kernel) (by decide +kernel)
set_option maxRecDepth 20000 in
theorem gX1_joinHas_X3_append : GoodIn wsX1_joinHas (wsV RX1 60 RX3 yX3_append wsX3_append) := goodIn_app (goodIn_of _ (by decide +kernel)) ggX1_joinHas_X3_append
set_option maxRecDepth 20000 in
theorem ggX1_joinHad_X3_append : GoodIn wsX1_joinHad wsX3_append := goodIn_r _ [6, 7, 8, 9, 5, 10, 11, 12, 13, 14, 15, 16, 17, 18, 19, 20, 21, 22, 23, 24, 25, 26, 27, 28, 29, 30, 31, 32, 33, 34, 35, 36, 43, 44] (by decide +kernel) (by decide +kernel)
set_option maxRecDepth 20000 in
theorem gX1_joinHad_X3_append : GoodIn wsX1_joinHad (wsV RX1 60 RX3 yX3_append wsX3_append) := goodIn_app (goodIn_of _ (by decide +kernel)) ggX1_joinHad_X3_append
set_option maxRecDepth 20000 in
theorem ggX1_separate_X3_remove : GoodIn wsX1_separate wsX3_remove := goodIn_r _ [8, 9, 10, 11, 7, 12, 13, 14, 15, 16, 17, 18, 19, 20, 21, 22, 23, 24, 25, 26, 33, 34] (by decide +kernel) (by decide +kernel)
set_option maxRecDepth 20000 in
theorem gX1_separate_X3_remove : GoodIn wsX1_separate (wsV RX1 64 RX3 yX3_remove wsX3_remove) := goodIn_app (goodIn_of _ (by decide +kernel)) ggX1_separate_X3_remove
set_option maxRecDepth 20000 in
theorem ggX1_takeFrom_X3_takeFrom : GoodIn wsX1_takeFrom wsX3_takeFrom := goodIn_r _ [15, 16, 17, 3, 4, 5, 18, 25, 26] (by decide +kernel) (by decide +kernel)
set_option maxRecDepth 20000 in
theorem gX1_takeFrom_X3_takeFrom : GoodIn wsX1_takeFrom (wsV RX1 73 RX3 yX3_takeFrom wsX3_takeFrom) := goodIn_app (goodIn_of _ (by decide +kernel)) ggX1_takeFrom_X3_takeFrom
set_option maxRecDepth 20000 in
theorem ggX1_separateAll_X3_lengthOf : GoodIn wsX1_separateAll wsX3_lengthOf := goodIn_r _ [7, 8, 9, 10, 6, 11, 12, 13, 14, 47, 48] (by decide +kernel) (by decide +kernel)
set_option maxRecDepth 20000 in
theorem gX1_separateAll_X3_lengthOf : GoodIn wsX1_separateAll (wsV RX1 77 RX3 yX3_lengthOf wsX3_lengthOf) := goodIn_app (goodIn_of _ (by decide +kernel)) ggX1_separateAll_X3_lengthOf
set_option maxRecDepth 20000 in
theorem ggX1_separateAll_X3_get : GoodIn wsX1_separateAll wsX3_get := goodIn_r _ [18, 19, 4, 5, 6, 7, 8, 9, 10, 11, 12, 13, 14, 20, 21, 22, 23, 24, 25, 47, 48] (by decide +kernel) (by decide +kernel)
set_option maxRecDepth 20000 in
theorem gX1_separateAll_X3_get : GoodIn wsX1_separateAll (wsV RX1 81 RX3 yX3_get wsX3_get) := goodIn_app (goodIn_of _ (by decide +kernel)) ggX1_separateAll_X3_get
set_option maxRecDepth 20000 in
theorem ggX1_separateAll_X1_separate : GoodIn wsX1_separateAll wsX1_separate := goodIn_r _ [30, 1, 2, 31, 32, 33, 34, 6, 35, 8, 9, 10, 11, 12, 13, 14, 20, 21, 22, 23, 24, 25, 36, 37, 38, 39, 40, 41, 42, 43, 44, 45, 46, 47, 48] (by decide +kernel) (by decide +kernel)
set_option maxRecDepth 20000 in
theorem gX1_separateAll_X1_separate : GoodIn wsX1_separateAll (wsV RX1 85 RX1 yX1_separate wsX1_separate) := goodIn_app (goodIn_of _ (by decide +kernel)) ggX1_separateAll_X1_separate
set_option maxRecDepth 20000 in
theorem ggX2_init_X4_init : GoodIn wsX2_init wsX4_init := goodIn_r _ [14, 15, 2, 3, 16, 17, 18, 19, 25, 26, 27] (by decide +kernel) (by decide +kernel)
set_option maxRecDepth 20000 in
theorem gX2_init_X4_init : GoodIn wsX2_init (wsX4_init) := ggX2_init_X4_init
set_option maxRecDepth 20000 in
theorem ggX2_gather_X4_clear : GoodIn wsX2_gather wsX4_clear := goodIn_r _ [8, 9, 10, 11, 101, 102, 103] (by decide +kernel) (by decide +kernel)
set_option maxRecDepth 20000 in
theorem gX2_gather_X4_clear : GoodIn wsX2_gather (wsV RX2 32 RX4 yX4_clear wsX4_clear) := goodIn_app (goodIn_of _ (by decide +kernel)) ggX2_gather_X4_clear
set_option maxRecDepth 20000 in
theorem ggX2_gather_X4_add : GoodIn wsX2_gather wsX4_add := goodIn_r _ [15, 10, 9, 11, 16, 17, 7, 18, 101, 102, 103] (by decide +kernel) (by decide +kernel)
set_option maxRecDepth 20000 in
theorem gX2_gather_X4_add : GoodIn wsX2_gather (wsV RX2 35 RX4 yX4_add wsX4_add) := goodIn_app (goodIn_of _ (by decide +kernel)) ggX2_gather_X4_add
set_option maxRecDepth 20000 in
theorem ggX2_gather_X4_length : GoodIn wsX2_gather wsX4_length := goodIn_r _ [22, 9, 101, 102, 103] (by decide +kernel) (by decide +kernel)
set_option maxRecDepth 20000 in
theorem gX2_gather_X4_length : GoodIn wsX2_gather (wsV RX2 39 RX4 yX4_length wsX4_length) := goodIn_app (goodIn_of _ (by decide +kernel)) ggX2_gather_X4_length
set_option maxRecDepth 20000 in
theorem ggX2_gather_X1_has : GoodIn wsX2_gather wsX1_has := goodIn_r _ [27, 28, 104, 105, 106, 107, 108, 109] (by decide +kernel) (by decide +kernel)
set_option maxRecDepth 20000 in
theorem gX2_gather_X1_has : GoodIn wsX2_gather (wsV RX2 43 RX1 yX1_has wsX1_has) := goodIn_app (goodIn_of _ (by decide +kernel)) ggX2_gather_X1_has
set_option maxRecDepth 20000 in
theorem ggX2_gather_X4_get : GoodIn wsX2_gather wsX4_get := goodIn_r _ [32, 9, 11, 101, 102, 103] (by decide +kernel) (by decide +kernel)
set_option maxRecDepth 20000 in
theorem gX2_gather_X4_get : GoodIn wsX2_gather (wsV RX2 49 RX4 yX4_get wsX4_get) := goodIn_app (goodIn_of _ (by decide +kernel)) ggX2_gather_X4_get
set_option maxRecDepth 20000 in
theorem ggX2_gather_X8_addOwning : GoodIn wsX2_gather wsX8_addOwning := goodIn_r _ [37, 38, 39, 40, 41, 42, 43, 44, 45, 46, 47, 48, 49, 50, 51, 52, 53, 54, 55, 56, 57, 58, 59, 60, 61, 62, 63, 64, 65, 66, 67, 68, 69, 70, 71, 72, 73, 74, 75, 76, 13, 14, 7, 15, 10, 9, 11, 16, 17, 18, 110, 111, 112, 113, 114, 115, 116, 117, 118, 119, 120, 101, 102, 103] (by decide +kernel) (by decide +kernel)
set_option maxRecDepth 20000 in
theorem gX2_gather_X8_addOwning : GoodIn wsX2_gather (wsV RX2 53 RX8 yX8_addOwning wsX8_addOwning) := goodIn_app (goodIn_of _ (by decide +kernel)) ggX2_gather_X8_addOwning
set_option maxRecDepth 20000 in
theorem ggX2_gather_X2_addThoseWithoutOwner : GoodIn wsX2_gather wsX2_addThoseWithoutOwner := goodIn_r _ [81, 2, 82, 3, 1, 19, 20, 21, 7, 22, 9, 4, 5, 6, 8, 10, 11, 83, 84, 85, 26, 86, 87, 29, 30, 31, 32, 33, 34, 35, 36, 37, 38, 39, 40, 41, 42, 43, 44, 45, 46, 47, 48, 49, 50, 51, 52, 53, 54, 55, 56, 57, 58, 59, 60, 61, 62, 63, 64, 65, 66, 67, 68, 69, 70, 71, 72, 73, 74, 75, 76, 13, 14, 15, 16, 17, 18, 88, 89, 90, 80, 91, 92, 93, 94, 95, 12, 96, 97, 98, 99, 100, 101, 102, 103, 104, 105, 106, 107, 108, 109, 110, 111, 112, 113, 114, 115, 116, 117, 118, 119, 120] (by decide +kernel) (by decide +kernel)
set_option maxRecDepth 20000 in
theorem gX2_gather_X2_addThoseWithoutOwner : GoodIn wsX2_gather (wsV RX2 59 RX2 yX2_addThoseWithoutOwner wsX2_addThoseWithoutOwner) := goodIn_app (goodIn_of _ (by decide +kernel)) ggX2_gather_X2_addThoseWithoutOwner
set_option maxRecDepth 20000 in
theorem ggX2_firstBarred_X1_has : GoodIn wsX2_firstBarred wsX1_has := goodIn_r _ [7, 8, 127, 128, 129, 130, 131, 132] (by decide +kernel) (by decide +kernel)
set_option maxRecDepth 20000 in
theorem gX2_firstBarred_X1_has : GoodIn wsX2_firstBarred (wsV RX2 43 RX1 yX1_has wsX1_has) := goodIn_app (goodIn_of _ (by decide +kernel)) ggX2_firstBarred_X1_has
set_option maxRecDepth 20000 in
theorem ggX2_firstBarred_X8_spread : GoodIn wsX2_firstBarred wsX8_spread := goodIn_r _ [13, 14, 15, 16, 17, 18, 19, 20, 21, 22, 23, 24, 25, 26, 27, 28, 29, 30, 31, 32, 12, 33, 34, 35, 36, 37, 38, 39, 40, 41, 42, 43, 44, 45, 46, 47, 48, 49, 50, 51, 52, 53, 54, 55, 56, 57, 58, 59, 60, 61, 62, 63, 64, 65, 66, 67, 68, 69, 70, 71, 72, 73, 74, 75, 76, 77, 78, 79, 80, 81, 82, 83, 84, 85, 86, 87, 88, 89, 90, 91, 92, 93, 94, 133, 134, 135, 136, 137, 138, 139, 140, 141, 142, 143, 144, 145, 146] (by decide +kernel) (by decide +kernel)
set_option maxRecDepth 20000 in
theorem gX2_firstBarred_X8_spread : GoodIn wsX2_firstBarred (wsV RX2 63 RX8 yX8_spread wsX8_spread) := goodIn_app (goodIn_of _ (by decide +kernel)) ggX2_firstBarred_X8_spread
set_option maxRecDepth 20000 in
theorem ggX2_firstBarred_X4_length : GoodIn wsX2_firstBarred wsX4_length := goodIn_r _ [38, 20, 137, 138, 139] (by decide +kernel) (by decide +kernel)
set_option maxRecDepth 20000 in
theorem gX2_firstBarred_X4_length : GoodIn wsX2_firstBarred (wsV RX2 39 RX4 yX4_length wsX4_length) := goodIn_app (goodIn_of _ (by decide +kernel)) ggX2_firstBarred_X4_length
set_option maxRecDepth 20000 in
theorem ggX2_firstBarred_X4_get : GoodIn wsX2_firstBarred wsX4_get := goodIn_r _ [42, 20, 22, 137, 138, 139] (by decide +kernel) (by decide +kernel)
set_option maxRecDepth 20000 in
theorem gX2_firstBarred_X4_get : GoodIn wsX2_firstBarred (wsV RX2 49 RX4 yX4_get wsX4_get) := goodIn_app (goodIn_of _ (by decide +kernel)) ggX2_firstBarred_X4_get
set_option maxRecDepth 20000 in
theorem ggX2_firstBarred_X4_holds : GoodIn wsX2_firstBarred wsX4_holds := goodIn_r _ [94, 21, 27, 28, 18, 29, 137, 138, 139] (by decide +kernel) (by decide +kernel)
set_option maxRecDepth 20000 in
theorem gX2_firstBarred_X4_holds : GoodIn wsX2_firstBarred (wsV RX2 67 RX4 yX4_holds wsX4_holds) := goodIn_app (goodIn_of _ (by decide +kernel)) ggX2_firstBarred_X4_holds
set_option maxRecDepth 20000 in
theorem ggX2_firstBarred_X2_leastBar : GoodIn wsX2_firstBarred wsX2_leastBar := goodIn_r _ [102, 103, 2, 104, 50, 51, 52, 53, 54, 105, 56, 57, 58, 59, 60, 61, 62, 63, 3, 4, 5, 6, 7, 8, 106, 70, 71, 67, 72, 73, 74, 75, 76, 77, 78, 79, 107, 108, 109, 110, 69, 80, 81, 82, 83, 84, 85, 97, 92, 93, 18, 94, 21, 27, 28, 29, 111, 112, 113, 114, 115, 116, 122, 123, 124, 125, 126, 140, 141, 142, 143, 144, 127, 128, 129, 130, 131, 132, 145, 146, 137, 138, 139] (by decide +kernel) (by decide +kernel)
set_option maxRecDepth 20000 in
theorem gX2_firstBarred_X2_leastBar : GoodIn wsX2_firstBarred (wsV RX2 71 RX2 yX2_leastBar wsX2_leastBar) := goodIn_app (goodIn_of _ (by decide +kernel)) ggX2_firstBarred_X2_leastBar
set_option maxRecDepth 20000 in
theorem ggX2_firstBarred_X2_isBefore : GoodIn wsX2_firstBarred wsX2_isBefore := goodIn_r _ [120, 1, 121, 88, 89, 12, 90, 14, 34, 91, 92, 93, 18, 94, 21, 27, 28, 29, 111, 112, 113, 6, 114, 115, 116, 122, 123, 124, 125, 126, 133, 134, 135, 136, 137, 138, 139, 127, 128, 129, 130, 131, 132] (by decide +kernel) (by decide +kernel)
set_option maxRecDepth 20000 in
theorem gX2_firstBarred_X2_isBefore : GoodIn wsX2_firstBarred (wsV RX2 75 RX2 yX2_isBefore wsX2_isBefore) := goodIn_app (goodIn_of _ (by decide +kernel)) ggX2_firstBarred_X2_isBefore
set_option maxRecDepth 20000 in
theorem ggX2_leastBar_X5_howMany : GoodIn wsX2_leastBar wsX5_howMany := goodIn_r _ [7, 8, 67, 68, 69, 70, 71] (by decide +kernel) (by decide +kernel)
set_option maxRecDepth 20000 in
theorem gX2_leastBar_X5_howMany : GoodIn wsX2_leastBar (wsV RX2 79 RX5 yX5_howMany wsX5_howMany) := goodIn_app (goodIn_of _ (by decide +kernel)) ggX2_leastBar_X5_howMany
set_option maxRecDepth 20000 in
theorem ggX2_leastBar_X5_hasRule : GoodIn wsX2_leastBar wsX5_hasRule := goodIn_r _ [12, 13, 14, 15, 16, 6, 17, 8, 67, 68, 69, 70, 71] (by decide +kernel) (by decide +kernel)
set_option maxRecDepth 20000 in
theorem gX2_leastBar_X5_hasRule : GoodIn wsX2_leastBar (wsV RX2 84 RX5 yX5_hasRule wsX5_hasRule) := goodIn_app (goodIn_of _ (by decide +kernel)) ggX2_leastBar_X5_hasRule
set_option maxRecDepth 20000 in
theorem ggX2_leastBar_X1_has : GoodIn wsX2_leastBar wsX1_has := goodIn_r _ [22, 23, 72, 73, 74, 75, 76, 77] (by decide +kernel) (by decide +kernel)
set_option maxRecDepth 20000 in
theorem gX2_leastBar_X1_has : GoodIn wsX2_leastBar (wsV RX2 43 RX1 yX1_has wsX1_has) := goodIn_app (goodIn_of _ (by decide +kernel)) ggX2_leastBar_X1_has
set_option maxRecDepth 20000 in
theorem ggX2_leastBar_X3_lengthOf : GoodIn wsX2_leastBar wsX3_lengthOf := goodIn_r _ [28, 29, 30, 31, 27, 32, 33, 34, 35, 78, 79] (by decide +kernel) (by decide +kernel)
set_option maxRecDepth 20000 in
theorem gX2_leastBar_X3_lengthOf : GoodIn wsX2_leastBar (wsV RX2 88 RX3 yX3_lengthOf wsX3_lengthOf) := goodIn_app (goodIn_of _ (by decide +kernel)) ggX2_leastBar_X3_lengthOf
set_option maxRecDepth 20000 in
theorem ggX2_leastBar_X3_get : GoodIn wsX2_leastBar wsX3_get := goodIn_r _ [39, 40, 25, 26, 27, 28, 29, 30, 31, 32, 33, 34, 35, 41, 42, 43, 44, 45, 46, 78, 79] (by decide +kernel) (by decide +kernel)
set_option maxRecDepth 20000 in
theorem gX2_leastBar_X3_get : GoodIn wsX2_leastBar (wsV RX2 94 RX3 yX3_get wsX3_get) := goodIn_app (goodIn_of _ (by decide +kernel)) ggX2_leastBar_X3_get
set_option maxRecDepth 20000 in
theorem ggX2_leastBar_X4_holds : GoodIn wsX2_leastBar wsX4_holds := goodIn_r _ [51, 52, 53, 54, 50, 55, 80, 81, 82] (by decide +kernel) (by decide +kernel)
set_option maxRecDepth 20000 in
theorem gX2_leastBar_X4_holds : GoodIn wsX2_leastBar (wsV RX2 67 RX4 yX4_holds wsX4_holds) := goodIn_app (goodIn_of _ (by decide +kernel)) ggX2_leastBar_X4_holds
set_option maxRecDepth 20000 in
theorem ggX2_leastBar_X1_numberOf : GoodIn wsX2_leastBar wsX1_numberOf := goodIn_r _ [59, 60, 61, 54, 50, 55, 72, 73, 74, 75, 76, 77] (by decide +kernel) (by decide +kernel)
set_option maxRecDepth 20000 in
theorem gX2_leastBar_X1_numberOf : GoodIn wsX2_leastBar (wsV RX2 97 RX1 yX1_numberOf wsX1_numberOf) := goodIn_app (goodIn_of _ (by decide +kernel)) ggX2_leastBar_X1_numberOf
set_option maxRecDepth 20000 in
theorem ggX2_removeAll_X4_length : GoodIn wsX2_removeAll wsX4_length := goodIn_r _ [6, 7, 75, 76, 77] (by decide +kernel) (by decide +kernel)
set_option maxRecDepth 20000 in
theorem gX2_removeAll_X4_length : GoodIn wsX2_removeAll (wsV RX2 39 RX4 yX4_length wsX4_length) := goodIn_app (goodIn_of _ (by decide +kernel)) ggX2_removeAll_X4_length
set_option maxRecDepth 20000 in
theorem ggX2_removeAll_X4_get : GoodIn wsX2_removeAll wsX4_get := goodIn_r _ [11, 7, 12, 75, 76, 77] (by decide +kernel) (by decide +kernel)
set_option maxRecDepth 20000 in
theorem gX2_removeAll_X4_get : GoodIn wsX2_removeAll (wsV RX2 49 RX4 yX4_get wsX4_get) := goodIn_app (goodIn_of _ (by decide +kernel)) ggX2_removeAll_X4_get
set_option maxRecDepth 20000 in
theorem ggX2_removeAll_X1_remove : GoodIn wsX2_removeAll wsX1_remove := goodIn_r _ [17, 18, 19, 20, 21, 22, 16, 23, 24, 25, 5, 26, 27, 28, 29, 30, 31, 32, 33, 34, 35, 36, 37, 38, 39, 40, 41, 42, 43, 44, 45, 46, 47, 48, 49, 50, 51, 52, 53, 54, 55, 56, 57, 58, 59, 60, 61, 62, 63, 64, 65, 66, 67, 68, 69, 78, 79, 80, 81, 82, 83, 84, 85] (by decide +kernel) (by decide +kernel)
set_option maxRecDepth 20000 in
theorem gX2_removeAll_X1_remove : GoodIn wsX2_removeAll (wsV RX2 100 RX1 yX1_remove wsX1_remove) := goodIn_app (goodIn_of _ (by decide +kernel)) ggX2_removeAll_X1_remove
set_option maxRecDepth 20000 in
theorem ggX2_addThoseWithoutOwner_X4_length : GoodIn wsX2_addThoseWithoutOwner wsX4_length := goodIn_r _ [9, 10, 92, 93, 94] (by decide +kernel) (by decide +kernel)
set_option maxRecDepth 20000 in
theorem gX2_addThoseWithoutOwner_X4_length : GoodIn wsX2_addThoseWithoutOwner (wsV RX2 39 RX4 yX4_length wsX4_length) := goodIn_app (goodIn_of _ (by decide +kernel)) ggX2_addThoseWithoutOwner_X4_length
set_option maxRecDepth 20000 in
theorem ggX2_addThoseWithoutOwner_X4_clear : GoodIn wsX2_addThoseWithoutOwner wsX4_clear := goodIn_r _ [14, 10, 15, 16, 92, 93, 94] (by decide +kernel) (by decide +kernel)
set_option maxRecDepth 20000 in
theorem gX2_addThoseWithoutOwner_X4_clear : GoodIn wsX2_addThoseWithoutOwner (wsV RX2 32 RX4 yX4_clear wsX4_clear) := goodIn_app (goodIn_of _ (by decide +kernel)) ggX2_addThoseWithoutOwner_X4_clear
set_option maxRecDepth 20000 in
theorem ggX2_addThoseWithoutOwner_X1_had : GoodIn wsX2_addThoseWithoutOwner wsX1_had := goodIn_r _ [21, 22, 95, 96, 97, 98, 99, 100] (by decide +kernel) (by decide +kernel)
set_option maxRecDepth 20000 in
theorem gX2_addThoseWithoutOwner_X1_had : GoodIn wsX2_addThoseWithoutOwner (wsV RX2 103 RX1 yX1_had wsX1_had) := goodIn_app (goodIn_of _ (by decide +kernel)) ggX2_addThoseWithoutOwner_X1_had
set_option maxRecDepth 20000 in
theorem ggX2_addThoseWithoutOwner_X4_get : GoodIn wsX2_addThoseWithoutOwner wsX4_get := goodIn_r _ [26, 10, 16, 92, 93, 94] (by decide +kernel) (by decide +kernel)
set_option maxRecDepth 20000 in
theorem gX2_addThoseWithoutOwner_X4_get : GoodIn wsX2_addThoseWithoutOwner (wsV RX2 49 RX4 yX4_get wsX4_get) := goodIn_app (goodIn_of _ (by decide +kernel)) ggX2_addThoseWithoutOwner_X4_get
set_option maxRecDepth 20000 in
theorem ggX2_addThoseWithoutOwner_X8_addOwning : GoodIn wsX2_addThoseWithoutOwner wsX8_addOwning := goodIn_r _ [31, 32, 33, 34, 35, 36, 37, 38, 39, 40, 41, 42, 43, 44, 45, 46, 47, 48, 49, 50, 51, 52, 53, 54, 55, 56, 57, 58, 59, 60, 61, 62, 63, 64, 65, 66, 67, 68, 69, 70, 71, 72, 8, 73, 15, 10, 16, 74, 75, 76, 101, 102, 103, 104, 105, 106, 107, 108, 109, 110, 111, 92, 93, 94] (by decide +kernel) (by decide +kernel)
set_option maxRecDepth 20000 in
theorem gX2_addThoseWithoutOwner_X8_addOwning : GoodIn wsX2_addThoseWithoutOwner (wsV RX2 53 RX8 yX8_addOwning wsX8_addOwning) := goodIn_app (goodIn_of _ (by decide +kernel)) ggX2_addThoseWithoutOwner_X8_addOwning
set_option maxRecDepth 20000 in
theorem ggX2_addThoseWithoutOwner_X2_areOwnersGone : GoodIn wsX2_addThoseWithoutOwner wsX2_areOwnersGone := goodIn_r _ [81, 2, 4, 5, 6, 7, 8, 9, 10, 23, 24, 25, 26, 16, 82, 83, 84, 85, 15, 74, 75, 76, 87, 88, 89, 90, 91, 92, 93, 94] (by decide +kernel) (by decide +kernel)
set_option maxRecDepth 20000 in
theorem gX2_addThoseWithoutOwner_X2_areOwnersGone : GoodIn wsX2_addThoseWithoutOwner (wsV RX2 106 RX2 yX2_areOwnersGone wsX2_areOwnersGone) := goodIn_app (goodIn_of _ (by decide +kernel)) ggX2_addThoseWithoutOwner_X2_areOwnersGone
set_option maxRecDepth 20000 in
theorem ggX2_addThoseWithoutOwner_X4_add : GoodIn wsX2_addThoseWithoutOwner wsX4_add := goodIn_r _ [73, 15, 10, 16, 74, 75, 8, 76, 92, 93, 94] (by decide +kernel) (by decide +kernel)
set_option maxRecDepth 20000 in
theorem gX2_addThoseWithoutOwner_X4_add : GoodIn wsX2_addThoseWithoutOwner (wsV RX2 35 RX4 yX4_add wsX4_add) := goodIn_app (goodIn_of _ (by decide +kernel)) ggX2_addThoseWithoutOwner_X4_add
set_option maxRecDepth 20000 in
theorem ggX2_areOwnersGone_X4_length : GoodIn wsX2_areOwnersGone wsX4_length := goodIn_r _ [7, 8, 27, 28, 29] (by decide +kernel) (by decide +kernel)
set_option maxRecDepth 20000 in
theorem gX2_areOwnersGone_X4_length : GoodIn wsX2_areOwnersGone (wsV RX2 39 RX4 yX4_length wsX4_length) := goodIn_app (goodIn_of _ (by decide +kernel)) ggX2_areOwnersGone_X4_length
set_option maxRecDepth 20000 in
theorem ggX2_areOwnersGone_X4_get : GoodIn wsX2_areOwnersGone wsX4_get := goodIn_r _ [12, 8, 13, 27, 28, 29] (by decide +kernel) (by decide +kernel)
set_option maxRecDepth 20000 in
theorem gX2_areOwnersGone_X4_get : GoodIn wsX2_areOwnersGone (wsV RX2 49 RX4 yX4_get wsX4_get) := goodIn_app (goodIn_of _ (by decide +kernel)) ggX2_areOwnersGone_X4_get
set_option maxRecDepth 20000 in
theorem ggX2_areOwnersGone_X4_holds : GoodIn wsX2_areOwnersGone wsX4_holds := goodIn_r _ [17, 18, 19, 20, 6, 21, 27, 28, 29] (by decide +kernel) (by decide +kernel)
set_option maxRecDepth 20000 in
theorem gX2_areOwnersGone_X4_holds : GoodIn wsX2_areOwnersGone (wsV RX2 67 RX4 yX4_holds wsX4_holds) := goodIn_app (goodIn_of _ (by decide +kernel)) ggX2_areOwnersGone_X4_holds
set_option maxRecDepth 20000 in
theorem ggX2_isBefore_X8_stepsTo : GoodIn wsX2_isBefore wsX8_stepsTo := goodIn_r _ [6, 7, 8, 9, 10, 11, 12, 13, 14, 15, 16, 17, 30, 31, 32, 33, 34, 35, 36] (by decide +kernel) (by decide +kernel)
set_option maxRecDepth 20000 in
theorem gX2_isBefore_X8_stepsTo : GoodIn wsX2_isBefore (wsV RX2 110 RX8 yX8_stepsTo wsX8_stepsTo) := goodIn_app (goodIn_of _ (by decide +kernel)) ggX2_isBefore_X8_stepsTo
set_option maxRecDepth 20000 in
theorem ggX2_isBefore_X1_numberOf : GoodIn wsX2_isBefore wsX1_numberOf := goodIn_r _ [22, 23, 24, 16, 12, 17, 37, 38, 39, 40, 41, 42] (by decide +kernel) (by decide +kernel)
set_option maxRecDepth 20000 in
theorem gX2_isBefore_X1_numberOf : GoodIn wsX2_isBefore (wsV RX2 97 RX1 yX1_numberOf wsX1_numberOf) := goodIn_app (goodIn_of _ (by decide +kernel)) ggX2_isBefore_X1_numberOf
set_option maxRecDepth 20000 in
theorem ggX3_lengthOf_X3_isRow : GoodIn wsX3_lengthOf wsX3_isRow := goodIn_r _ [5] (by decide +kernel) (by decide +kernel)
set_option maxRecDepth 20000 in
theorem gX3_lengthOf_X3_isRow : GoodIn wsX3_lengthOf (va_wsS RX3 19 yX3_isRow wsX3_isRow) := goodIn_app (goodIn_of _ (by decide +kernel)) ggX3_lengthOf_X3_isRow
set_option maxRecDepth 20000 in
theorem ggX3_lengthOf_X3_rowOf : GoodIn wsX3_lengthOf wsX3_rowOf := goodIn_r _ [8] (by decide +kernel) (by decide +kernel)
set_option maxRecDepth 20000 in
theorem gX3_lengthOf_X3_rowOf : GoodIn wsX3_lengthOf (va_wsS RX3 23 yX3_rowOf wsX3_rowOf) := goodIn_app (goodIn_of _ (by decide +kernel)) ggX3_lengthOf_X3_rowOf
set_option maxRecDepth 20000 in
theorem ggX3_get_X3_lengthOf : GoodIn wsX3_get wsX3_lengthOf := goodIn_r _ [5, 6, 7, 8, 4, 9, 10, 11, 12, 19, 20] (by decide +kernel) (by decide +kernel)
set_option maxRecDepth 20000 in
theorem gX3_get_X3_lengthOf : GoodIn wsX3_get (wsV RX3 27 RX3 yX3_lengthOf wsX3_lengthOf) := goodIn_app (goodIn_of _ (by decide +kernel)) ggX3_get_X3_lengthOf
set_option maxRecDepth 20000 in
theorem ggX3_get_X3_rowOf : GoodIn wsX3_get wsX3_rowOf := goodIn_r _ [12] (by decide +kernel) (by decide +kernel)
set_option maxRecDepth 20000 in
theorem gX3_get_X3_rowOf : GoodIn wsX3_get (va_wsS RX3 23 yX3_rowOf wsX3_rowOf) := goodIn_app (goodIn_of _ (by decide +kernel)) ggX3_get_X3_rowOf
set_option maxRecDepth 20000 in
theorem ggX3_get_X3_read : GoodIn wsX3_get wsX3_read := goodIn_r _ [16, 17, 18, 19, 20] (by decide +kernel) (by decide +kernel)
set_option maxRecDepth 20000 in
theorem gX3_get_X3_read : GoodIn wsX3_get (wsV RX3 30 RX3 yX3_read wsX3_read) := goodIn_app (goodIn_of _ (by decide +kernel)) ggX3_get_X3_read
set_option maxRecDepth 20000 in
theorem ggX3_holds_X3_lengthOf : GoodIn wsX3_holds wsX3_lengthOf := goodIn_r _ [5, 6, 7, 8, 4, 9, 10, 11, 12, 19, 20] (by decide +kernel) (by decide +kernel)
set_option maxRecDepth 20000 in
theorem gX3_holds_X3_lengthOf : GoodIn wsX3_holds (wsV RX3 27 RX3 yX3_lengthOf wsX3_lengthOf) := goodIn_app (goodIn_of _ (by decide +kernel)) ggX3_holds_X3_lengthOf
set_option maxRecDepth 20000 in
theorem ggX3_holds_X3_rowOf : GoodIn wsX3_holds wsX3_rowOf := goodIn_r _ [12] (by decide +kernel) (by decide +kernel)
set_option maxRecDepth 20000 in
theorem gX3_holds_X3_rowOf : GoodIn wsX3_holds (va_wsS RX3 23 yX3_rowOf wsX3_rowOf) := goodIn_app (goodIn_of _ (by decide +kernel)) ggX3_holds_X3_rowOf
set_option maxRecDepth 20000 in
theorem ggX3_holds_X3_read : GoodIn wsX3_holds wsX3_read := goodIn_r _ [16, 17, 18, 19, 20] (by decide +kernel) (by decide +kernel)
set_option maxRecDepth 20000 in
theorem gX3_holds_X3_read : GoodIn wsX3_holds (wsV RX3 30 RX3 yX3_read wsX3_read) := goodIn_app (goodIn_of _ (by decide +kernel)) ggX3_holds_X3_read
set_option maxRecDepth 20000 in
theorem ggX3_addTo_X3_lengthOf : GoodIn wsX3_addTo wsX3_lengthOf := goodIn_r _ [5, 6, 7, 8, 4, 9, 10, 11, 12, 30, 31] (by decide +kernel) (by decide +kernel)
set_option maxRecDepth 20000 in
theorem gX3_addTo_X3_lengthOf : GoodIn wsX3_addTo (wsV RX3 27 RX3 yX3_lengthOf wsX3_lengthOf) := goodIn_app (goodIn_of _ (by decide +kernel)) ggX3_addTo_X3_lengthOf
set_option maxRecDepth 20000 in
theorem ggX3_addTo_X3_rowOf : GoodIn wsX3_addTo wsX3_rowOf := goodIn_r _ [12] (by decide +kernel) (by decide +kernel)
set_option maxRecDepth 20000 in
theorem gX3_addTo_X3_rowOf : GoodIn wsX3_addTo (va_wsS RX3 23 yX3_rowOf wsX3_rowOf) := goodIn_app (goodIn_of _ (by decide +kernel)) ggX3_addTo_X3_rowOf
set_option maxRecDepth 20000 in
theorem ggX3_addTo_X3_read : GoodIn wsX3_addTo wsX3_read := goodIn_r _ [16, 17, 18, 30, 31] (by decide +kernel) (by decide +kernel)
set_option maxRecDepth 20000 in
theorem gX3_addTo_X3_read : GoodIn wsX3_addTo (wsV RX3 30 RX3 yX3_read wsX3_read) := goodIn_app (goodIn_of _ (by decide +kernel)) ggX3_addTo_X3_read
set_option maxRecDepth 20000 in
theorem ggX3_addTo_X4_add : GoodIn wsX3_addTo wsX4_add := goodIn_r _ [23, 24, 25, 26, 27, 28, 22, 29, 32, 33, 34] (by decide +kernel) (by decide +kernel)
set_option maxRecDepth 20000 in
theorem gX3_addTo_X4_add : GoodIn wsX3_addTo (wsV RX3 33 RX4 yX4_add wsX4_add) := goodIn_app (goodIn_of _ (by decide +kernel)) ggX3_addTo_X4_add
set_option maxRecDepth 20000 in
theorem ggX3_insert_X3_isRow : GoodIn wsX3_insert wsX3_isRow := goodIn_r _ [5] (by decide +kernel) (by decide +kernel)
set_option maxRecDepth 20000 in
theorem gX3_insert_X3_isRow : GoodIn wsX3_insert (va_wsS RX3 19 yX3_isRow wsX3_isRow) := goodIn_app (goodIn_of _ (by decide +kernel)) ggX3_insert_X3_isRow
set_option maxRecDepth 20000 in
theorem ggX3_insert_X4_isSlot : GoodIn wsX3_insert wsX4_isSlot := goodIn_r _ [9] (by decide +kernel) (by decide +kernel)
set_option maxRecDepth 20000 in
theorem gX3_insert_X4_isSlot : GoodIn wsX3_insert (va_wsS RX3 39 yX4_isSlot wsX4_isSlot) := goodIn_app (goodIn_of _ (by decide +kernel)) ggX3_insert_X4_isSlot
set_option maxRecDepth 20000 in
theorem ggX3_insert_X3_rowOf : GoodIn wsX3_insert wsX3_rowOf := goodIn_r _ [12] (by decide +kernel) (by decide +kernel)
set_option maxRecDepth 20000 in
theorem gX3_insert_X3_rowOf : GoodIn wsX3_insert (va_wsS RX3 23 yX3_rowOf wsX3_rowOf) := goodIn_app (goodIn_of _ (by decide +kernel)) ggX3_insert_X3_rowOf
set_option maxRecDepth 20000 in
theorem ggX3_insert_X3_read : GoodIn wsX3_insert wsX3_read := goodIn_r _ [16, 17, 18, 24, 25] (by decide +kernel) (by decide +kernel)
set_option maxRecDepth 20000 in
theorem gX3_insert_X3_read : GoodIn wsX3_insert (wsV RX3 30 RX3 yX3_read wsX3_read) := goodIn_app (goodIn_of _ (by decide +kernel)) ggX3_insert_X3_read
set_option maxRecDepth 20000 in
theorem ggX3_insert_X3_write : GoodIn wsX3_insert wsX3_write := goodIn_r _ [22, 17, 18, 23, 24, 25] (by decide +kernel) (by decide +kernel)
set_option maxRecDepth 20000 in
theorem gX3_insert_X3_write : GoodIn wsX3_insert (wsV RX3 43 RX3 yX3_write wsX3_write) := goodIn_app (goodIn_of _ (by decide +kernel)) ggX3_insert_X3_write
set_option maxRecDepth 20000 in
theorem ggX3_append_X3_lengthOf : GoodIn wsX3_append wsX3_lengthOf := goodIn_r _ [5, 6, 7, 8, 4, 9, 10, 11, 12, 32, 33] (by decide +kernel) (by decide +kernel)
set_option maxRecDepth 20000 in
theorem gX3_append_X3_lengthOf : GoodIn wsX3_append (wsV RX3 27 RX3 yX3_lengthOf wsX3_lengthOf) := goodIn_app (goodIn_of _ (by decide +kernel)) ggX3_append_X3_lengthOf
set_option maxRecDepth 20000 in
theorem ggX3_append_X3_insert : GoodIn wsX3_append wsX3_insert := goodIn_r _ [16, 6, 7, 8, 4, 9, 17, 18, 19, 20, 10, 11, 12, 21, 22, 23, 24, 25, 26, 27, 28, 29, 30, 31, 32, 33] (by decide +kernel) (by decide +kernel)
set_option maxRecDepth 20000 in
theorem gX3_append_X3_insert : GoodIn wsX3_append (wsV RX3 47 RX3 yX3_insert wsX3_insert) := goodIn_app (goodIn_of _ (by decide +kernel)) ggX3_append_X3_insert
set_option maxRecDepth 20000 in
theorem ggX3_remove_X3_isRow : GoodIn wsX3_remove wsX3_isRow := goodIn_r _ [5] (by decide +kernel) (by decide +kernel)
set_option maxRecDepth 20000 in
theorem gX3_remove_X3_isRow : GoodIn wsX3_remove (va_wsS RX3 19 yX3_isRow wsX3_isRow) := goodIn_app (goodIn_of _ (by decide +kernel)) ggX3_remove_X3_isRow
set_option maxRecDepth 20000 in
theorem ggX3_remove_X3_rowOf : GoodIn wsX3_remove wsX3_rowOf := goodIn_r _ [8] (by decide +kernel) (by decide +kernel)
set_option maxRecDepth 20000 in
theorem gX3_remove_X3_rowOf : GoodIn wsX3_remove (va_wsS RX3 23 yX3_rowOf wsX3_rowOf) := goodIn_app (goodIn_of _ (by decide +kernel)) ggX3_remove_X3_rowOf
set_option maxRecDepth 20000 in
theorem ggX3_remove_X3_read : GoodIn wsX3_remove wsX3_read := goodIn_r _ [12, 13, 14, 20, 21] (by decide +kernel) (by decide +kernel)
set_option maxRecDepth 20000 in
theorem gX3_remove_X3_read : GoodIn wsX3_remove (wsV RX3 30 RX3 yX3_read wsX3_read) := goodIn_app (goodIn_of _ (by decide +kernel)) ggX3_remove_X3_read
set_option maxRecDepth 20000 in
theorem ggX3_remove_X3_write : GoodIn wsX3_remove wsX3_write := goodIn_r _ [18, 13, 14, 19, 20, 21] (by decide +kernel) (by decide +kernel)
set_option maxRecDepth 20000 in
theorem gX3_remove_X3_write : GoodIn wsX3_remove (wsV RX3 43 RX3 yX3_write wsX3_write) := goodIn_app (goodIn_of _ (by decide +kernel)) ggX3_remove_X3_write
set_option maxRecDepth 20000 in
theorem ggX4_holds_X4_isSlot : GoodIn wsX4_holds wsX4_isSlot := goodIn_r _ [5] (by decide +kernel) (by decide +kernel)
set_option maxRecDepth 20000 in
theorem gX4_holds_X4_isSlot : GoodIn wsX4_holds (va_wsS RX4 23 yX4_isSlot wsX4_isSlot) := goodIn_app (goodIn_of _ (by decide +kernel)) ggX4_holds_X4_isSlot
set_option maxRecDepth 20000 in
theorem ggX4_add_X4_isSlot : GoodIn wsX4_add wsX4_isSlot := goodIn_r _ [7] (by decide +kernel) (by decide +kernel)
set_option maxRecDepth 20000 in
theorem gX4_add_X4_isSlot : GoodIn wsX4_add (va_wsS RX4 23 yX4_isSlot wsX4_isSlot) := goodIn_app (goodIn_of _ (by decide +kernel)) ggX4_add_X4_isSlot
set_option maxRecDepth 20000 in
theorem ggX5_fromKind_X5_knows : GoodIn wsX5_fromKind wsX5_knows := goodIn_r _ [6, 7, 8, 9, 10, 11, 12] (by decide +kernel) (by decide +kernel)
set_option maxRecDepth 20000 in
theorem gX5_fromKind_X5_knows : GoodIn wsX5_fromKind (wsV RX5 28 RX5 yX5_knows wsX5_knows) := goodIn_app (goodIn_of _ (by decide +kernel)) ggX5_fromKind_X5_knows
set_option maxRecDepth 20000 in
theorem ggX5_toKind_X5_knows : GoodIn wsX5_toKind wsX5_knows := goodIn_r _ [6, 7, 8, 9, 10, 11, 12] (by decide +kernel) (by decide +kernel)
set_option maxRecDepth 20000 in
theorem gX5_toKind_X5_knows : GoodIn wsX5_toKind (wsV RX5 28 RX5 yX5_knows wsX5_knows) := goodIn_app (goodIn_of _ (by decide +kernel)) ggX5_toKind_X5_knows
set_option maxRecDepth 20000 in
theorem ggX5_hasForm_X5_knows : GoodIn wsX5_hasForm wsX5_knows := goodIn_r _ [6, 7, 8, 9, 10, 11, 12] (by decide +kernel) (by decide +kernel)
set_option maxRecDepth 20000 in
theorem gX5_hasForm_X5_knows : GoodIn wsX5_hasForm (wsV RX5 28 RX5 yX5_knows wsX5_knows) := goodIn_app (goodIn_of _ (by decide +kernel)) ggX5_hasForm_X5_knows
set_option maxRecDepth 20000 in
theorem ggX5_hasRule_X5_knows : GoodIn wsX5_hasRule wsX5_knows := goodIn_r _ [6, 7, 8, 9, 10, 11, 12] (by decide +kernel) (by decide +kernel)
set_option maxRecDepth 20000 in
theorem gX5_hasRule_X5_knows : GoodIn wsX5_hasRule (wsV RX5 28 RX5 yX5_knows wsX5_knows) := goodIn_app (goodIn_of _ (by decide +kernel)) ggX5_hasRule_X5_knows
set_option maxRecDepth 20000 in
theorem ggX7_init_X4_init : GoodIn wsX7_init wsX4_init := goodIn_r _ [14, 15, 2, 3, 16, 17, 10, 18, 23, 24, 25] (by decide +kernel) (by decide +kernel)
set_option maxRecDepth 20000 in
theorem gX7_init_X4_init : GoodIn wsX7_init (wsX4_init) := ggX7_init_X4_init
set_option maxRecDepth 20000 in
theorem ggX7_gather_X1_has : GoodIn wsX7_gather wsX1_has := goodIn_r _ [7, 8, 115, 116, 117, 118, 119, 120] (by decide +kernel) (by decide +kernel)
set_option maxRecDepth 20000 in
theorem gX7_gather_X1_has : GoodIn wsX7_gather (wsV RX7 30 RX1 yX1_has wsX1_has) := goodIn_app (goodIn_of _ (by decide +kernel)) ggX7_gather_X1_has
set_option maxRecDepth 20000 in
theorem ggX7_gather_X8_spread : GoodIn wsX7_gather wsX8_spread := goodIn_r _ [13, 14, 15, 16, 17, 18, 19, 20, 21, 22, 23, 24, 25, 26, 27, 28, 29, 30, 31, 32, 12, 33, 34, 35, 36, 37, 38, 39, 40, 41, 42, 43, 44, 45, 46, 47, 48, 49, 50, 51, 52, 53, 54, 55, 56, 57, 58, 59, 60, 61, 62, 63, 64, 65, 66, 67, 68, 69, 70, 71, 72, 73, 74, 75, 76, 77, 78, 79, 80, 81, 82, 83, 84, 85, 86, 87, 88, 89, 90, 91, 92, 93, 94, 121, 122, 123, 124, 125, 126, 127, 128, 129, 130, 131, 132, 133, 134] (by decide +kernel) (by decide +kernel)
set_option maxRecDepth 20000 in
theorem gX7_gather_X8_spread : GoodIn wsX7_gather (wsV RX7 36 RX8 yX8_spread wsX8_spread) := goodIn_app (goodIn_of _ (by decide +kernel)) ggX7_gather_X8_spread
set_option maxRecDepth 20000 in
theorem ggX7_gather_X4_clear : GoodIn wsX7_gather wsX4_clear := goodIn_r _ [19, 20, 21, 22, 125, 126, 127] (by decide +kernel) (by decide +kernel)
set_option maxRecDepth 20000 in
theorem gX7_gather_X4_clear : GoodIn wsX7_gather (wsV RX7 42 RX4 yX4_clear wsX4_clear) := goodIn_app (goodIn_of _ (by decide +kernel)) ggX7_gather_X4_clear
set_option maxRecDepth 20000 in
theorem ggX7_gather_X4_length : GoodIn wsX7_gather wsX4_length := goodIn_r _ [38, 20, 125, 126, 127] (by decide +kernel) (by decide +kernel)
set_option maxRecDepth 20000 in
theorem gX7_gather_X4_length : GoodIn wsX7_gather (wsV RX7 45 RX4 yX4_length wsX4_length) := goodIn_app (goodIn_of _ (by decide +kernel)) ggX7_gather_X4_length
set_option maxRecDepth 20000 in
theorem ggX7_gather_X7_leastMissing : GoodIn wsX7_gather wsX7_leastMissing := goodIn_r _ [101, 2, 96, 36, 37, 18, 38, 20, 102, 40, 41, 42, 22, 103, 92, 93, 94, 21, 27, 28, 29, 104, 105, 106, 6, 107, 108, 109, 111, 112, 113, 114, 125, 126, 127, 115, 116, 117, 118, 119, 120] (by decide +kernel) (by decide +kernel)
set_option maxRecDepth 20000 in
theorem gX7_gather_X7_leastMissing : GoodIn wsX7_gather (wsV RX7 49 RX7 yX7_leastMissing wsX7_leastMissing) := goodIn_app (goodIn_of _ (by decide +kernel)) ggX7_gather_X7_leastMissing
set_option maxRecDepth 20000 in
theorem ggX7_gather_X4_add : GoodIn wsX7_gather wsX4_add := goodIn_r _ [26, 21, 20, 22, 27, 28, 18, 29, 125, 126, 127] (by decide +kernel) (by decide +kernel)
set_option maxRecDepth 20000 in
theorem gX7_gather_X4_add : GoodIn wsX7_gather (wsV RX7 53 RX4 yX4_add wsX4_add) := goodIn_app (goodIn_of _ (by decide +kernel)) ggX7_gather_X4_add
set_option maxRecDepth 20000 in
theorem ggX7_fit_X1_objects : GoodIn wsX7_fit wsX1_objects := goodIn_r _ [7, 8, 84, 85, 86, 87, 88, 89] (by decide +kernel) (by decide +kernel)
set_option maxRecDepth 20000 in
theorem gX7_fit_X1_objects : GoodIn wsX7_fit (wsV RX7 57 RX1 yX1_objects wsX1_objects) := goodIn_app (goodIn_of _ (by decide +kernel)) ggX7_fit_X1_objects
set_option maxRecDepth 20000 in
theorem ggX7_fit_X4_length : GoodIn wsX7_fit wsX4_length := goodIn_r _ [13, 14, 90, 91, 92] (by decide +kernel) (by decide +kernel)
set_option maxRecDepth 20000 in
theorem gX7_fit_X4_length : GoodIn wsX7_fit (wsV RX7 45 RX4 yX4_length wsX4_length) := goodIn_app (goodIn_of _ (by decide +kernel)) ggX7_fit_X4_length
set_option maxRecDepth 20000 in
theorem ggX7_fit_X5_howMany : GoodIn wsX7_fit wsX5_howMany := goodIn_r _ [19, 20, 93, 94, 95, 96, 97] (by decide +kernel) (by decide +kernel)
set_option maxRecDepth 20000 in
theorem gX7_fit_X5_howMany : GoodIn wsX7_fit (wsV RX7 60 RX5 yX5_howMany wsX5_howMany) := goodIn_app (goodIn_of _ (by decide +kernel)) ggX7_fit_X5_howMany
set_option maxRecDepth 20000 in
theorem ggX7_fit_X7_keepsOutsiders : GoodIn wsX7_fit wsX7_keepsOutsiders := goodIn_r _ [25, 2, 26, 27, 28, 18, 29, 30, 31, 32, 33, 34, 20, 35, 36, 37, 38, 39, 80, 81, 82, 83, 93, 94, 95, 96, 97] (by decide +kernel) (by decide +kernel)
set_option maxRecDepth 20000 in
theorem gX7_fit_X7_keepsOutsiders : GoodIn wsX7_fit (wsV RX7 65 RX7 yX7_keepsOutsiders wsX7_keepsOutsiders) := goodIn_app (goodIn_of _ (by decide +kernel)) ggX7_fit_X7_keepsOutsiders
set_option maxRecDepth 20000 in
theorem ggX7_fit_X4_holds : GoodIn wsX7_fit wsX4_holds := goodIn_r _ [43, 44, 45, 46, 12, 47, 90, 91, 92] (by decide +kernel) (by decide +kernel)
set_option maxRecDepth 20000 in
theorem gX7_fit_X4_holds : GoodIn wsX7_fit (wsV RX7 69 RX4 yX4_holds wsX4_holds) := goodIn_app (goodIn_of _ (by decide +kernel)) ggX7_fit_X4_holds
set_option maxRecDepth 20000 in
theorem ggX7_fit_X7_howManyOldHave : GoodIn wsX7_fit wsX7_howManyOldHave := goodIn_r _ [51, 1, 52, 53, 54, 6, 55, 56, 57, 58, 59, 60, 61, 62, 63, 64, 65, 66, 67, 68, 69, 70, 71, 72, 73, 74, 75, 76, 77, 78, 79, 40, 41, 42, 12, 43, 44, 45, 46, 47, 80, 81, 82, 83, 84, 85, 86, 87, 88, 89, 98, 99, 90, 91, 92] (by decide +kernel) (by decide +kernel)
set_option maxRecDepth 20000 in
theorem gX7_fit_X7_howManyOldHave : GoodIn wsX7_fit (wsV RX7 72 RX7 yX7_howManyOldHave wsX7_howManyOldHave) := goodIn_app (goodIn_of _ (by decide +kernel)) ggX7_fit_X7_howManyOldHave
set_option maxRecDepth 20000 in
theorem ggX7_fit_X1_had : GoodIn wsX7_fit wsX1_had := goodIn_r _ [55, 56, 84, 85, 86, 87, 88, 89] (by decide +kernel) (by decide +kernel)
set_option maxRecDepth 20000 in
theorem gX7_fit_X1_had : GoodIn wsX7_fit (wsV RX7 76 RX1 yX1_had wsX1_had) := goodIn_app (goodIn_of _ (by decide +kernel)) ggX7_fit_X1_had
set_option maxRecDepth 20000 in
theorem ggX7_fit_X3_lengthOf : GoodIn wsX7_fit wsX3_lengthOf := goodIn_r _ [61, 62, 63, 64, 60, 65, 66, 67, 68, 98, 99] (by decide +kernel) (by decide +kernel)
set_option maxRecDepth 20000 in
theorem gX7_fit_X3_lengthOf : GoodIn wsX7_fit (wsV RX7 79 RX3 yX3_lengthOf wsX3_lengthOf) := goodIn_app (goodIn_of _ (by decide +kernel)) ggX7_fit_X3_lengthOf
set_option maxRecDepth 20000 in
theorem ggX7_build_X4_length : GoodIn wsX7_build wsX4_length := goodIn_r _ [8, 9, 142, 143, 144] (by decide +kernel) (by decide +kernel)
set_option maxRecDepth 20000 in
theorem gX7_build_X4_length : GoodIn wsX7_build (wsV RX7 45 RX4 yX4_length wsX4_length) := goodIn_app (goodIn_of _ (by decide +kernel)) ggX7_build_X4_length
set_option maxRecDepth 20000 in
theorem ggX7_build_X4_get : GoodIn wsX7_build wsX4_get := goodIn_r _ [13, 9, 14, 142, 143, 144] (by decide +kernel) (by decide +kernel)
set_option maxRecDepth 20000 in
theorem gX7_build_X4_get : GoodIn wsX7_build (wsV RX7 85 RX4 yX4_get wsX4_get) := goodIn_app (goodIn_of _ (by decide +kernel)) ggX7_build_X4_get
set_option maxRecDepth 20000 in
theorem ggX7_build_X4_isSlot : GoodIn wsX7_build wsX4_isSlot := goodIn_r _ [17] (by decide +kernel) (by decide +kernel)
set_option maxRecDepth 20000 in
theorem gX7_build_X4_isSlot : GoodIn wsX7_build (va_wsS RX7 89 yX4_isSlot wsX4_isSlot) := goodIn_app (goodIn_of _ (by decide +kernel)) ggX7_build_X4_isSlot
set_option maxRecDepth 20000 in
theorem ggX7_build_X1_kindOf : GoodIn wsX7_build wsX1_kindOf := goodIn_r _ [22, 23, 24, 16, 7, 17, 145, 146, 147, 148, 149, 150] (by decide +kernel) (by decide +kernel)
set_option maxRecDepth 20000 in
theorem gX7_build_X1_kindOf : GoodIn wsX7_build (wsV RX7 92 RX1 yX1_kindOf wsX1_kindOf) := goodIn_app (goodIn_of _ (by decide +kernel)) ggX7_build_X1_kindOf
set_option maxRecDepth 20000 in
theorem ggX7_build_X1_admit : GoodIn wsX7_build wsX1_admit := goodIn_r _ [28, 29, 23, 30, 31, 32, 33, 21, 34, 145, 146, 147, 148, 149, 150] (by decide +kernel) (by decide +kernel)
set_option maxRecDepth 20000 in
theorem gX7_build_X1_admit : GoodIn wsX7_build (wsV RX7 95 RX1 yX1_admit wsX1_admit) := goodIn_app (goodIn_of _ (by decide +kernel)) ggX7_build_X1_admit
set_option maxRecDepth 20000 in
theorem ggX7_build_X5_howMany : GoodIn wsX7_build wsX5_howMany := goodIn_r _ [39, 40, 151, 152, 153, 154, 155] (by decide +kernel) (by decide +kernel)
set_option maxRecDepth 20000 in
theorem gX7_build_X5_howMany : GoodIn wsX7_build (wsV RX7 60 RX5 yX5_howMany wsX5_howMany) := goodIn_app (goodIn_of _ (by decide +kernel)) ggX7_build_X5_howMany
set_option maxRecDepth 20000 in
theorem ggX7_build_X7_copyHas : GoodIn wsX7_build wsX7_copyHas := goodIn_r _ [45, 46, 47, 48, 21, 49, 50, 51, 52, 53, 54, 55, 56, 57, 58, 59, 60, 61, 62, 63, 64, 65, 66, 67, 68, 69, 70, 71, 72, 73, 74, 75, 76, 44, 77, 1, 78, 79, 80, 7, 81, 82, 83, 16, 17, 84, 85, 86, 87, 2, 88, 89, 90, 91, 3, 92, 93, 94, 38, 95, 96, 97, 98, 99, 100, 40, 101, 102, 103, 104, 105, 106, 107, 108, 109, 110, 111, 112, 113, 114, 115, 116, 117, 118, 119, 120, 121, 122, 123, 124, 145, 146, 147, 148, 149, 150, 156, 157, 138, 139, 140, 141, 142, 143, 144, 151, 152, 153, 154, 155] (by decide +kernel) (by decide +kernel)
set_option maxRecDepth 20000 in
theorem gX7_build_X7_copyHas : GoodIn wsX7_build (wsV RX7 98 RX7 yX7_copyHas wsX7_copyHas) := goodIn_app (goodIn_of _ (by decide +kernel)) ggX7_build_X7_copyHas
set_option maxRecDepth 20000 in
theorem ggX7_build_X7_copyHad : GoodIn wsX7_build wsX7_copyHad := goodIn_r _ [128, 1, 74, 75, 76, 44, 77, 78, 79, 80, 7, 81, 82, 83, 16, 17, 84, 85, 86, 87, 2, 88, 89, 90, 91, 3, 92, 93, 94, 38, 95, 96, 97, 98, 99, 100, 40, 101, 102, 103, 104, 105, 129, 130, 131, 21, 132, 133, 51, 52, 53, 54, 55, 56, 57, 58, 59, 60, 61, 62, 63, 64, 65, 66, 67, 68, 69, 70, 71, 72, 73, 134, 135, 136, 137, 111, 112, 113, 114, 115, 116, 117, 118, 119, 120, 121, 122, 123, 124, 138, 139, 140, 141, 142, 143, 144, 151, 152, 153, 154, 155, 145, 146, 147, 148, 149, 150, 156, 157] (by decide +kernel) (by decide +kernel)
set_option maxRecDepth 20000 in
theorem gX7_build_X7_copyHad : GoodIn wsX7_build (wsV RX7 102 RX7 yX7_copyHad wsX7_copyHad) := goodIn_app (goodIn_of _ (by decide +kernel)) ggX7_build_X7_copyHad
set_option maxRecDepth 20000 in
theorem ggX7_twinOf_X4_holds : GoodIn wsX7_twinOf wsX4_holds := goodIn_r _ [7, 8, 9, 10, 6, 11, 16, 17, 18] (by decide +kernel) (by decide +kernel)
set_option maxRecDepth 20000 in
theorem gX7_twinOf_X4_holds : GoodIn wsX7_twinOf (wsV RX7 69 RX4 yX4_holds wsX4_holds) := goodIn_app (goodIn_of _ (by decide +kernel)) ggX7_twinOf_X4_holds
set_option maxRecDepth 20000 in
theorem ggX7_leastMissing_X4_length : GoodIn wsX7_leastMissing wsX4_length := goodIn_r _ [6, 7, 32, 33, 34] (by decide +kernel) (by decide +kernel)
set_option maxRecDepth 20000 in
theorem gX7_leastMissing_X4_length : GoodIn wsX7_leastMissing (wsV RX7 45 RX4 yX4_length wsX4_length) := goodIn_app (goodIn_of _ (by decide +kernel)) ggX7_leastMissing_X4_length
set_option maxRecDepth 20000 in
theorem ggX7_leastMissing_X4_get : GoodIn wsX7_leastMissing wsX4_get := goodIn_r _ [11, 7, 12, 32, 33, 34] (by decide +kernel) (by decide +kernel)
set_option maxRecDepth 20000 in
theorem gX7_leastMissing_X4_get : GoodIn wsX7_leastMissing (wsV RX7 85 RX4 yX4_get wsX4_get) := goodIn_app (goodIn_of _ (by decide +kernel)) ggX7_leastMissing_X4_get
set_option maxRecDepth 20000 in
theorem ggX7_leastMissing_X4_holds : GoodIn wsX7_leastMissing wsX4_holds := goodIn_r _ [16, 17, 18, 19, 5, 20, 32, 33, 34] (by decide +kernel) (by decide +kernel)
set_option maxRecDepth 20000 in
theorem gX7_leastMissing_X4_holds : GoodIn wsX7_leastMissing (wsV RX7 69 RX4 yX4_holds wsX4_holds) := goodIn_app (goodIn_of _ (by decide +kernel)) ggX7_leastMissing_X4_holds
set_option maxRecDepth 20000 in
theorem ggX7_leastMissing_X1_numberOf : GoodIn wsX7_leastMissing wsX1_numberOf := goodIn_r _ [25, 26, 27, 19, 5, 20, 35, 36, 37, 38, 39, 40] (by decide +kernel) (by decide +kernel)
set_option maxRecDepth 20000 in
theorem gX7_leastMissing_X1_numberOf : GoodIn wsX7_leastMissing (wsV RX7 105 RX1 yX1_numberOf wsX1_numberOf) := goodIn_app (goodIn_of _ (by decide +kernel)) ggX7_leastMissing_X1_numberOf
set_option maxRecDepth 20000 in
theorem ggX7_keepsOutsiders_X5_hasForm : GoodIn wsX7_keepsOutsiders wsX5_hasForm := goodIn_r _ [6, 7, 8, 9, 10, 5, 11, 12, 22, 23, 24, 25, 26] (by decide +kernel) (by decide +kernel)
set_option maxRecDepth 20000 in
theorem gX7_keepsOutsiders_X5_hasForm : GoodIn wsX7_keepsOutsiders (wsV RX7 108 RX5 yX5_hasForm wsX5_hasForm) := goodIn_app (goodIn_of _ (by decide +kernel)) ggX7_keepsOutsiders_X5_hasForm
set_option maxRecDepth 20000 in
theorem ggX7_keepsOutsiders_X5_hasRule : GoodIn wsX7_keepsOutsiders wsX5_hasRule := goodIn_r _ [16, 17, 8, 9, 10, 5, 11, 12, 22, 23, 24, 25, 26] (by decide +kernel) (by decide +kernel)
set_option maxRecDepth 20000 in
theorem gX7_keepsOutsiders_X5_hasRule : GoodIn wsX7_keepsOutsiders (wsV RX7 112 RX5 yX5_hasRule wsX5_hasRule) := goodIn_app (goodIn_of _ (by decide +kernel)) ggX7_keepsOutsiders_X5_hasRule
set_option maxRecDepth 20000 in
theorem ggX7_howManyOldHave_X1_had : GoodIn wsX7_howManyOldHave wsX1_had := goodIn_r _ [6, 7, 44, 45, 46, 47, 48, 49] (by decide +kernel) (by decide +kernel)
set_option maxRecDepth 20000 in
theorem gX7_howManyOldHave_X1_had : GoodIn wsX7_howManyOldHave (wsV RX7 76 RX1 yX1_had wsX1_had) := goodIn_app (goodIn_of _ (by decide +kernel)) ggX7_howManyOldHave_X1_had
set_option maxRecDepth 20000 in
theorem ggX7_howManyOldHave_X3_lengthOf : GoodIn wsX7_howManyOldHave wsX3_lengthOf := goodIn_r _ [12, 13, 14, 15, 11, 16, 17, 18, 19, 50, 51] (by decide +kernel) (by decide +kernel)
set_option maxRecDepth 20000 in
theorem gX7_howManyOldHave_X3_lengthOf : GoodIn wsX7_howManyOldHave (wsV RX7 79 RX3 yX3_lengthOf wsX3_lengthOf) := goodIn_app (goodIn_of _ (by decide +kernel)) ggX7_howManyOldHave_X3_lengthOf
set_option maxRecDepth 20000 in
theorem ggX7_howManyOldHave_X3_get : GoodIn wsX7_howManyOldHave wsX3_get := goodIn_r _ [23, 24, 9, 10, 11, 12, 13, 14, 15, 16, 17, 18, 19, 25, 26, 27, 28, 29, 30, 50, 51] (by decide +kernel) (by decide +kernel)
set_option maxRecDepth 20000 in
theorem gX7_howManyOldHave_X3_get : GoodIn wsX7_howManyOldHave (wsV RX7 115 RX3 yX3_get wsX3_get) := goodIn_app (goodIn_of _ (by decide +kernel)) ggX7_howManyOldHave_X3_get
set_option maxRecDepth 20000 in
theorem ggX7_howManyOldHave_X4_holds : GoodIn wsX7_howManyOldHave wsX4_holds := goodIn_r _ [35, 36, 37, 38, 34, 39, 52, 53, 54] (by decide +kernel) (by decide +kernel)
set_option maxRecDepth 20000 in
theorem gX7_howManyOldHave_X4_holds : GoodIn wsX7_howManyOldHave (wsV RX7 69 RX4 yX4_holds wsX4_holds) := goodIn_app (goodIn_of _ (by decide +kernel)) ggX7_howManyOldHave_X4_holds
set_option maxRecDepth 20000 in
theorem ggX7_standIn_X4_holds : GoodIn wsX7_standIn wsX4_holds := goodIn_r _ [6, 7, 8, 9, 5, 10, 42, 43, 44] (by decide +kernel) (by decide +kernel)
set_option maxRecDepth 20000 in
theorem gX7_standIn_X4_holds : GoodIn wsX7_standIn (wsV RX7 69 RX4 yX4_holds wsX4_holds) := goodIn_app (goodIn_of _ (by decide +kernel)) ggX7_standIn_X4_holds
set_option maxRecDepth 20000 in
theorem ggX7_standIn_X7_twinOf : GoodIn wsX7_standIn wsX7_twinOf := goodIn_r _ [15, 1, 16, 2, 3, 4, 5, 6, 7, 8, 9, 10, 38, 39, 40, 41, 42, 43, 44] (by decide +kernel) (by decide +kernel)
set_option maxRecDepth 20000 in
theorem gX7_standIn_X7_twinOf : GoodIn wsX7_standIn (wsV RX7 118 RX7 yX7_twinOf wsX7_twinOf) := goodIn_app (goodIn_of _ (by decide +kernel)) ggX7_standIn_X7_twinOf
set_option maxRecDepth 20000 in
theorem ggX7_standIn_X7_keepsOutsiders : GoodIn wsX7_standIn wsX7_keepsOutsiders := goodIn_r _ [20, 21, 22, 23, 24, 25, 26, 27, 28, 29, 30, 31, 32, 33, 34, 35, 36, 37, 38, 39, 40, 41, 45, 46, 47, 48, 49] (by decide +kernel) (by decide +kernel)
set_option maxRecDepth 20000 in
theorem gX7_standIn_X7_keepsOutsiders : GoodIn wsX7_standIn (wsV RX7 65 RX7 yX7_keepsOutsiders wsX7_keepsOutsiders) := goodIn_app (goodIn_of _ (by decide +kernel)) ggX7_standIn_X7_keepsOutsiders
set_option maxRecDepth 20000 in
theorem ggX7_copyHas_X1_has : GoodIn wsX7_copyHas wsX1_has := goodIn_r _ [5, 6, 90, 91, 92, 93, 94, 95] (by decide +kernel) (by decide +kernel)
set_option maxRecDepth 20000 in
theorem gX7_copyHas_X1_has : GoodIn wsX7_copyHas (wsV RX7 30 RX1 yX1_has wsX1_has) := goodIn_app (goodIn_of _ (by decide +kernel)) ggX7_copyHas_X1_has
set_option maxRecDepth 20000 in
theorem ggX7_copyHas_X3_lengthOf : GoodIn wsX7_copyHas wsX3_lengthOf := goodIn_r _ [11, 12, 13, 14, 10, 15, 16, 17, 18, 96, 97] (by decide +kernel) (by decide +kernel)
set_option maxRecDepth 20000 in
theorem gX7_copyHas_X3_lengthOf : GoodIn wsX7_copyHas (wsV RX7 79 RX3 yX3_lengthOf wsX3_lengthOf) := goodIn_app (goodIn_of _ (by decide +kernel)) ggX7_copyHas_X3_lengthOf
set_option maxRecDepth 20000 in
theorem ggX7_copyHas_X3_get : GoodIn wsX7_copyHas wsX3_get := goodIn_r _ [22, 23, 8, 9, 10, 11, 12, 13, 14, 15, 16, 17, 18, 24, 25, 26, 27, 28, 29, 96, 97] (by decide +kernel) (by decide +kernel)
set_option maxRecDepth 20000 in
theorem gX7_copyHas_X3_get : GoodIn wsX7_copyHas (wsV RX7 115 RX3 yX3_get wsX3_get) := goodIn_app (goodIn_of _ (by decide +kernel)) ggX7_copyHas_X3_get
set_option maxRecDepth 20000 in
theorem ggX7_copyHas_X7_standIn : GoodIn wsX7_copyHas wsX7_standIn := goodIn_r _ [34, 35, 36, 37, 38, 39, 40, 41, 42, 43, 44, 45, 46, 47, 33, 48, 49, 50, 51, 52, 53, 54, 55, 56, 57, 58, 59, 60, 61, 62, 63, 64, 65, 66, 67, 68, 69, 70, 98, 99, 100, 101, 102, 103, 104, 105, 106, 107, 108, 109] (by decide +kernel) (by decide +kernel)
set_option maxRecDepth 20000 in
theorem gX7_copyHas_X7_standIn : GoodIn wsX7_copyHas (wsV RX7 121 RX7 yX7_standIn wsX7_standIn) := goodIn_app (goodIn_of _ (by decide +kernel)) ggX7_copyHas_X7_standIn
set_option maxRecDepth 20000 in
theorem ggX7_copyHas_X7_twinOf : GoodIn wsX7_copyHas wsX7_twinOf := goodIn_r _ [48, 35, 49, 36, 37, 38, 39, 40, 41, 42, 43, 44, 98, 99, 100, 101, 102, 103, 104] (by decide +kernel) (by decide +kernel)
set_option maxRecDepth 20000 in
theorem gX7_copyHas_X7_twinOf : GoodIn wsX7_copyHas (wsV RX7 118 RX7 yX7_twinOf wsX7_twinOf) := goodIn_app (goodIn_of _ (by decide +kernel)) ggX7_copyHas_X7_twinOf
set_option maxRecDepth 20000 in
theorem ggX7_copyHas_X1_joinHas : GoodIn wsX7_copyHas wsX1_joinHas := goodIn_r _ [74, 6, 75, 76, 77, 78, 10, 79, 23, 8, 9, 11, 12, 13, 14, 15, 16, 17, 18, 80, 81, 82, 83, 84, 43, 39, 44, 24, 25, 26, 27, 28, 29, 85, 86, 87, 88, 89, 90, 91, 92, 93, 94, 95, 96, 97] (by decide +kernel) (by decide +kernel)
set_option maxRecDepth 20000 in
theorem gX7_copyHas_X1_joinHas : GoodIn wsX7_copyHas (wsV RX7 124 RX1 yX1_joinHas wsX1_joinHas) := goodIn_app (goodIn_of _ (by decide +kernel)) ggX7_copyHas_X1_joinHas
set_option maxRecDepth 20000 in
theorem ggX7_copyHad_X7_standIn : GoodIn wsX7_copyHad wsX7_standIn := goodIn_r _ [6, 1, 7, 8, 9, 10, 11, 12, 13, 14, 15, 16, 17, 18, 5, 19, 20, 21, 22, 23, 24, 25, 26, 27, 28, 29, 30, 31, 32, 33, 34, 35, 36, 37, 38, 39, 40, 41, 89, 90, 91, 92, 93, 94, 95, 96, 97, 98, 99, 100] (by decide +kernel) (by decide +kernel)
set_option maxRecDepth 20000 in
theorem gX7_copyHad_X7_standIn : GoodIn wsX7_copyHad (wsV RX7 121 RX7 yX7_standIn wsX7_standIn) := goodIn_app (goodIn_of _ (by decide +kernel)) ggX7_copyHad_X7_standIn
set_option maxRecDepth 20000 in
theorem ggX7_copyHad_X1_had : GoodIn wsX7_copyHad wsX1_had := goodIn_r _ [46, 47, 101, 102, 103, 104, 105, 106] (by decide +kernel) (by decide +kernel)
set_option maxRecDepth 20000 in
theorem gX7_copyHad_X1_had : GoodIn wsX7_copyHad (wsV RX7 76 RX1 yX1_had wsX1_had) := goodIn_app (goodIn_of _ (by decide +kernel)) ggX7_copyHad_X1_had
set_option maxRecDepth 20000 in
theorem ggX7_copyHad_X3_lengthOf : GoodIn wsX7_copyHad wsX3_lengthOf := goodIn_r _ [52, 53, 54, 55, 51, 56, 57, 58, 59, 107, 108] (by decide +kernel) (by decide +kernel)
set_option maxRecDepth 20000 in
theorem gX7_copyHad_X3_lengthOf : GoodIn wsX7_copyHad (wsV RX7 79 RX3 yX3_lengthOf wsX3_lengthOf) := goodIn_app (goodIn_of _ (by decide +kernel)) ggX7_copyHad_X3_lengthOf
set_option maxRecDepth 20000 in
theorem ggX7_copyHad_X3_get : GoodIn wsX7_copyHad wsX3_get := goodIn_r _ [63, 64, 49, 50, 51, 52, 53, 54, 55, 56, 57, 58, 59, 65, 66, 67, 68, 69, 70, 107, 108] (by decide +kernel) (by decide +kernel)
set_option maxRecDepth 20000 in
theorem gX7_copyHad_X3_get : GoodIn wsX7_copyHad (wsV RX7 115 RX3 yX3_get wsX3_get) := goodIn_app (goodIn_of _ (by decide +kernel)) ggX7_copyHad_X3_get
set_option maxRecDepth 20000 in
theorem ggX7_copyHad_X4_holds : GoodIn wsX7_copyHad wsX4_holds := goodIn_r _ [11, 12, 13, 14, 10, 15, 93, 94, 95] (by decide +kernel) (by decide +kernel)
set_option maxRecDepth 20000 in
theorem gX7_copyHad_X4_holds : GoodIn wsX7_copyHad (wsV RX7 69 RX4 yX4_holds wsX4_holds) := goodIn_app (goodIn_of _ (by decide +kernel)) ggX7_copyHad_X4_holds
set_option maxRecDepth 20000 in
theorem ggX7_copyHad_X7_twinOf : GoodIn wsX7_copyHad wsX7_twinOf := goodIn_r _ [19, 1, 20, 7, 8, 9, 10, 11, 12, 13, 14, 15, 89, 90, 91, 92, 93, 94, 95] (by decide +kernel) (by decide +kernel)
set_option maxRecDepth 20000 in
theorem gX7_copyHad_X7_twinOf : GoodIn wsX7_copyHad (wsV RX7 118 RX7 yX7_twinOf wsX7_twinOf) := goodIn_app (goodIn_of _ (by decide +kernel)) ggX7_copyHad_X7_twinOf
set_option maxRecDepth 20000 in
theorem ggX7_copyHad_X1_joinHad : GoodIn wsX7_copyHad wsX1_joinHad := goodIn_r _ [74, 47, 75, 76, 77, 51, 78, 64, 49, 50, 52, 53, 54, 55, 56, 57, 58, 59, 79, 80, 81, 82, 83, 14, 10, 15, 65, 66, 67, 68, 69, 70, 84, 85, 86, 87, 88, 101, 102, 103, 104, 105, 106, 107, 108] (by decide +kernel) (by decide +kernel)
set_option maxRecDepth 20000 in
theorem gX7_copyHad_X1_joinHad : GoodIn wsX7_copyHad (wsV RX7 128 RX1 yX1_joinHad wsX1_joinHad) := goodIn_app (goodIn_of _ (by decide +kernel)) ggX7_copyHad_X1_joinHad
set_option maxRecDepth 20000 in
theorem ggX8_init_X4_init : GoodIn wsX8_init wsX4_init := goodIn_r _ [14, 15, 2, 3, 16, 17, 5, 18, 23, 24, 25] (by decide +kernel) (by decide +kernel)
set_option maxRecDepth 20000 in
theorem gX8_init_X4_init : GoodIn wsX8_init (wsX4_init) := ggX8_init_X4_init
set_option maxRecDepth 20000 in
theorem ggX8_addOwning_X5_howMany : GoodIn wsX8_addOwning wsX5_howMany := goodIn_r _ [6, 7, 54, 55, 56, 57, 58] (by decide +kernel) (by decide +kernel)
set_option maxRecDepth 20000 in
theorem gX8_addOwning_X5_howMany : GoodIn wsX8_addOwning (wsV RX8 29 RX5 yX5_howMany wsX5_howMany) := goodIn_app (goodIn_of _ (by decide +kernel)) ggX8_addOwning_X5_howMany
set_option maxRecDepth 20000 in
theorem ggX8_addOwning_X5_hasRule : GoodIn wsX8_addOwning wsX5_hasRule := goodIn_r _ [11, 12, 13, 14, 15, 5, 16, 7, 54, 55, 56, 57, 58] (by decide +kernel) (by decide +kernel)
set_option maxRecDepth 20000 in
theorem gX8_addOwning_X5_hasRule : GoodIn wsX8_addOwning (wsV RX8 35 RX5 yX5_hasRule wsX5_hasRule) := goodIn_app (goodIn_of _ (by decide +kernel)) ggX8_addOwning_X5_hasRule
set_option maxRecDepth 20000 in
theorem ggX8_addOwning_X3_addTo : GoodIn wsX8_addOwning wsX3_addTo := goodIn_r _ [21, 22, 23, 24, 20, 25, 26, 27, 28, 29, 30, 31, 32, 33, 34, 35, 36, 37, 38, 39, 40, 41, 42, 43, 44, 45, 46, 47, 48, 49, 59, 60, 61, 62, 63] (by decide +kernel) (by decide +kernel)
set_option maxRecDepth 20000 in
theorem gX8_addOwning_X3_addTo : GoodIn wsX8_addOwning (wsV RX8 39 RX3 yX3_addTo wsX3_addTo) := goodIn_app (goodIn_of _ (by decide +kernel)) ggX8_addOwning_X3_addTo
set_option maxRecDepth 20000 in
theorem ggX8_howManyOwning_X4_clear : GoodIn wsX8_howManyOwning wsX4_clear := goodIn_r _ [6, 7, 8, 9, 68, 69, 70] (by decide +kernel) (by decide +kernel)
set_option maxRecDepth 20000 in
theorem gX8_howManyOwning_X4_clear : GoodIn wsX8_howManyOwning (wsV RX8 45 RX4 yX4_clear wsX4_clear) := goodIn_app (goodIn_of _ (by decide +kernel)) ggX8_howManyOwning_X4_clear
set_option maxRecDepth 20000 in
theorem ggX8_howManyOwning_X8_addOwning : GoodIn wsX8_howManyOwning wsX8_addOwning := goodIn_r _ [14, 15, 16, 17, 18, 19, 20, 21, 22, 23, 24, 25, 26, 27, 28, 29, 30, 31, 32, 33, 34, 35, 36, 37, 38, 39, 40, 41, 42, 43, 44, 45, 46, 47, 48, 49, 50, 51, 52, 53, 54, 55, 5, 56, 8, 7, 9, 57, 58, 59, 64, 65, 66, 67, 71, 72, 73, 74, 75, 76, 77, 68, 69, 70] (by decide +kernel) (by decide +kernel)
set_option maxRecDepth 20000 in
theorem gX8_howManyOwning_X8_addOwning : GoodIn wsX8_howManyOwning (wsV RX8 48 RX8 yX8_addOwning wsX8_addOwning) := goodIn_app (goodIn_of _ (by decide +kernel)) ggX8_howManyOwning_X8_addOwning
set_option maxRecDepth 20000 in
theorem ggX8_howManyOwning_X4_length : GoodIn wsX8_howManyOwning wsX4_length := goodIn_r _ [63, 7, 68, 69, 70] (by decide +kernel) (by decide +kernel)
set_option maxRecDepth 20000 in
theorem gX8_howManyOwning_X4_length : GoodIn wsX8_howManyOwning (wsV RX8 52 RX4 yX4_length wsX4_length) := goodIn_app (goodIn_of _ (by decide +kernel)) ggX8_howManyOwning_X4_length
set_option maxRecDepth 20000 in
theorem ggX8_howManyNear_X4_clear : GoodIn wsX8_howManyNear wsX4_clear := goodIn_r _ [7, 8, 9, 10, 65, 66, 67] (by decide +kernel) (by decide +kernel)
set_option maxRecDepth 20000 in
theorem gX8_howManyNear_X4_clear : GoodIn wsX8_howManyNear (wsV RX8 45 RX4 yX4_clear wsX4_clear) := goodIn_app (goodIn_of _ (by decide +kernel)) ggX8_howManyNear_X4_clear
set_option maxRecDepth 20000 in
theorem ggX8_howManyNear_X5_howMany : GoodIn wsX8_howManyNear wsX5_howMany := goodIn_r _ [15, 16, 68, 69, 70, 71, 72] (by decide +kernel) (by decide +kernel)
set_option maxRecDepth 20000 in
theorem gX8_howManyNear_X5_howMany : GoodIn wsX8_howManyNear (wsV RX8 29 RX5 yX5_howMany wsX5_howMany) := goodIn_app (goodIn_of _ (by decide +kernel)) ggX8_howManyNear_X5_howMany
set_option maxRecDepth 20000 in
theorem ggX8_howManyNear_X1_has : GoodIn wsX8_howManyNear wsX1_has := goodIn_r _ [21, 22, 73, 74, 75, 76, 77, 78] (by decide +kernel) (by decide +kernel)
set_option maxRecDepth 20000 in
theorem gX8_howManyNear_X1_has : GoodIn wsX8_howManyNear (wsV RX8 55 RX1 yX1_has wsX1_has) := goodIn_app (goodIn_of _ (by decide +kernel)) ggX8_howManyNear_X1_has
set_option maxRecDepth 20000 in
theorem ggX8_howManyNear_X3_addTo : GoodIn wsX8_howManyNear wsX3_addTo := goodIn_r _ [27, 28, 29, 30, 26, 31, 32, 33, 34, 35, 36, 37, 38, 39, 40, 41, 42, 43, 44, 45, 46, 47, 6, 48, 9, 8, 10, 49, 50, 51, 79, 80, 65, 66, 67] (by decide +kernel) (by decide +kernel)
set_option maxRecDepth 20000 in
theorem gX8_howManyNear_X3_addTo : GoodIn wsX8_howManyNear (wsV RX8 39 RX3 yX3_addTo wsX3_addTo) := goodIn_app (goodIn_of _ (by decide +kernel)) ggX8_howManyNear_X3_addTo
set_option maxRecDepth 20000 in
theorem ggX8_howManyNear_X1_had : GoodIn wsX8_howManyNear wsX1_had := goodIn_r _ [55, 56, 73, 74, 75, 76, 77, 78] (by decide +kernel) (by decide +kernel)
set_option maxRecDepth 20000 in
theorem gX8_howManyNear_X1_had : GoodIn wsX8_howManyNear (wsV RX8 61 RX1 yX1_had wsX1_had) := goodIn_app (goodIn_of _ (by decide +kernel)) ggX8_howManyNear_X1_had
set_option maxRecDepth 20000 in
theorem ggX8_howManyNear_X4_length : GoodIn wsX8_howManyNear wsX4_length := goodIn_r _ [60, 8, 65, 66, 67] (by decide +kernel) (by decide +kernel)
set_option maxRecDepth 20000 in
theorem gX8_howManyNear_X4_length : GoodIn wsX8_howManyNear (wsV RX8 52 RX4 yX4_length wsX4_length) := goodIn_app (goodIn_of _ (by decide +kernel)) ggX8_howManyNear_X4_length
set_option maxRecDepth 20000 in
theorem ggX8_howManyUnder_X1_has : GoodIn wsX8_howManyUnder wsX1_has := goodIn_r _ [5, 6, 93, 94, 95, 96, 97, 98] (by decide +kernel) (by decide +kernel)
set_option maxRecDepth 20000 in
theorem gX8_howManyUnder_X1_has : GoodIn wsX8_howManyUnder (wsV RX8 55 RX1 yX1_has wsX1_has) := goodIn_app (goodIn_of _ (by decide +kernel)) ggX8_howManyUnder_X1_has
set_option maxRecDepth 20000 in
theorem ggX8_howManyUnder_X8_spread : GoodIn wsX8_howManyUnder wsX8_spread := goodIn_r _ [11, 12, 13, 14, 15, 16, 17, 18, 19, 20, 21, 22, 23, 24, 25, 26, 27, 28, 29, 30, 10, 31, 32, 33, 34, 35, 36, 37, 38, 39, 40, 41, 42, 43, 44, 45, 46, 47, 48, 49, 50, 51, 52, 53, 54, 55, 56, 57, 58, 59, 60, 61, 62, 63, 64, 65, 66, 67, 68, 69, 70, 71, 72, 73, 74, 75, 76, 77, 78, 79, 80, 81, 82, 83, 84, 85, 86, 87, 88, 89, 90, 91, 92, 99, 100, 101, 102, 103, 104, 105, 106, 107, 108, 109, 110, 111, 112] (by decide +kernel) (by decide +kernel)
set_option maxRecDepth 20000 in
theorem gX8_howManyUnder_X8_spread : GoodIn wsX8_howManyUnder (wsV RX8 64 RX8 yX8_spread wsX8_spread) := goodIn_app (goodIn_of _ (by decide +kernel)) ggX8_howManyUnder_X8_spread
set_option maxRecDepth 20000 in
theorem ggX8_howManyUnder_X4_length : GoodIn wsX8_howManyUnder wsX4_length := goodIn_r _ [36, 18, 103, 104, 105] (by decide +kernel) (by decide +kernel)
set_option maxRecDepth 20000 in
theorem gX8_howManyUnder_X4_length : GoodIn wsX8_howManyUnder (wsV RX8 52 RX4 yX4_length wsX4_length) := goodIn_app (goodIn_of _ (by decide +kernel)) ggX8_howManyUnder_X4_length
set_option maxRecDepth 20000 in
theorem ggX8_howDeep_X4_clear : GoodIn wsX8_howDeep wsX4_clear := goodIn_r _ [7, 8, 9, 10, 80, 81, 82] (by decide +kernel) (by decide +kernel)
set_option maxRecDepth 20000 in
theorem gX8_howDeep_X4_clear : GoodIn wsX8_howDeep (wsV RX8 45 RX4 yX4_clear wsX4_clear) := goodIn_app (goodIn_of _ (by decide +kernel)) ggX8_howDeep_X4_clear
set_option maxRecDepth 20000 in
theorem ggX8_howDeep_X4_add : GoodIn wsX8_howDeep wsX4_add := goodIn_r _ [14, 9, 8, 10, 15, 16, 6, 17, 80, 81, 82] (by decide +kernel) (by decide +kernel)
set_option maxRecDepth 20000 in
theorem gX8_howDeep_X4_add : GoodIn wsX8_howDeep (wsV RX8 68 RX4 yX4_add wsX4_add) := goodIn_app (goodIn_of _ (by decide +kernel)) ggX8_howDeep_X4_add
set_option maxRecDepth 20000 in
theorem ggX8_howDeep_X4_length : GoodIn wsX8_howDeep wsX4_length := goodIn_r _ [21, 8, 80, 81, 82] (by decide +kernel) (by decide +kernel)
set_option maxRecDepth 20000 in
theorem gX8_howDeep_X4_length : GoodIn wsX8_howDeep (wsV RX8 52 RX4 yX4_length wsX4_length) := goodIn_app (goodIn_of _ (by decide +kernel)) ggX8_howDeep_X4_length
set_option maxRecDepth 20000 in
theorem ggX8_howDeep_X1_had : GoodIn wsX8_howDeep wsX1_had := goodIn_r _ [26, 27, 83, 84, 85, 86, 87, 88] (by decide +kernel) (by decide +kernel)
set_option maxRecDepth 20000 in
theorem gX8_howDeep_X1_had : GoodIn wsX8_howDeep (wsV RX8 61 RX1 yX1_had wsX1_had) := goodIn_app (goodIn_of _ (by decide +kernel)) ggX8_howDeep_X1_had
set_option maxRecDepth 20000 in
theorem ggX8_howDeep_X4_get : GoodIn wsX8_howDeep wsX4_get := goodIn_r _ [31, 8, 10, 80, 81, 82] (by decide +kernel) (by decide +kernel)
set_option maxRecDepth 20000 in
theorem gX8_howDeep_X4_get : GoodIn wsX8_howDeep (wsV RX8 72 RX4 yX4_get wsX4_get) := goodIn_app (goodIn_of _ (by decide +kernel)) ggX8_howDeep_X4_get
set_option maxRecDepth 20000 in
theorem ggX8_howDeep_X8_addOwning : GoodIn wsX8_howDeep wsX8_addOwning := goodIn_r _ [36, 37, 38, 39, 40, 41, 42, 43, 44, 45, 46, 47, 48, 49, 50, 51, 52, 53, 54, 55, 56, 57, 58, 59, 60, 61, 62, 63, 64, 65, 66, 67, 68, 69, 70, 71, 72, 73, 74, 75, 12, 13, 6, 14, 9, 8, 10, 15, 16, 17, 76, 77, 78, 79, 89, 90, 91, 92, 93, 94, 95, 80, 81, 82] (by decide +kernel) (by decide +kernel)
set_option maxRecDepth 20000 in
theorem gX8_howDeep_X8_addOwning : GoodIn wsX8_howDeep (wsV RX8 48 RX8 yX8_addOwning wsX8_addOwning) := goodIn_app (goodIn_of _ (by decide +kernel)) ggX8_howDeep_X8_addOwning
set_option maxRecDepth 20000 in
theorem ggX8_spread_X4_clear : GoodIn wsX8_spread wsX4_clear := goodIn_r _ [6, 7, 8, 9, 87, 88, 89] (by decide +kernel) (by decide +kernel)
set_option maxRecDepth 20000 in
theorem gX8_spread_X4_clear : GoodIn wsX8_spread (wsV RX8 45 RX4 yX4_clear wsX4_clear) := goodIn_app (goodIn_of _ (by decide +kernel)) ggX8_spread_X4_clear
set_option maxRecDepth 20000 in
theorem ggX8_spread_X4_add : GoodIn wsX8_spread wsX4_add := goodIn_r _ [13, 8, 7, 9, 14, 15, 5, 16, 87, 88, 89] (by decide +kernel) (by decide +kernel)
set_option maxRecDepth 20000 in
theorem gX8_spread_X4_add : GoodIn wsX8_spread (wsV RX8 68 RX4 yX4_add wsX4_add) := goodIn_app (goodIn_of _ (by decide +kernel)) ggX8_spread_X4_add
set_option maxRecDepth 20000 in
theorem ggX8_spread_X8_noteSteps : GoodIn wsX8_spread wsX8_noteSteps := goodIn_r _ [21, 1, 22, 23, 24, 25, 5, 26, 7, 27, 28, 29, 30, 9, 31, 15, 16, 83, 84, 85, 86, 87, 88, 89] (by decide +kernel) (by decide +kernel)
set_option maxRecDepth 20000 in
theorem gX8_spread_X8_noteSteps : GoodIn wsX8_spread (wsV RX8 76 RX8 yX8_noteSteps wsX8_noteSteps) := goodIn_app (goodIn_of _ (by decide +kernel)) ggX8_spread_X8_noteSteps
set_option maxRecDepth 20000 in
theorem ggX8_spread_X4_length : GoodIn wsX8_spread wsX4_length := goodIn_r _ [26, 7, 87, 88, 89] (by decide +kernel) (by decide +kernel)
set_option maxRecDepth 20000 in
theorem gX8_spread_X4_length : GoodIn wsX8_spread (wsV RX8 52 RX4 yX4_length wsX4_length) := goodIn_app (goodIn_of _ (by decide +kernel)) ggX8_spread_X4_length
set_option maxRecDepth 20000 in
theorem ggX8_spread_X4_get : GoodIn wsX8_spread wsX4_get := goodIn_r _ [30, 7, 9, 87, 88, 89] (by decide +kernel) (by decide +kernel)
set_option maxRecDepth 20000 in
theorem gX8_spread_X4_get : GoodIn wsX8_spread (wsV RX8 72 RX4 yX4_get wsX4_get) := goodIn_app (goodIn_of _ (by decide +kernel)) ggX8_spread_X4_get
set_option maxRecDepth 20000 in
theorem ggX8_spread_X8_addOwning : GoodIn wsX8_spread wsX8_addOwning := goodIn_r _ [35, 36, 37, 38, 39, 40, 41, 42, 43, 44, 45, 46, 47, 48, 49, 50, 51, 52, 53, 54, 55, 56, 57, 58, 59, 60, 61, 62, 63, 64, 65, 66, 67, 68, 69, 70, 71, 72, 73, 74, 11, 12, 5, 13, 8, 7, 9, 14, 15, 16, 83, 84, 85, 86, 90, 91, 92, 93, 94, 95, 96, 87, 88, 89] (by decide +kernel) (by decide +kernel)
set_option maxRecDepth 20000 in
theorem gX8_spread_X8_addOwning : GoodIn wsX8_spread (wsV RX8 48 RX8 yX8_addOwning wsX8_addOwning) := goodIn_app (goodIn_of _ (by decide +kernel)) ggX8_spread_X8_addOwning
set_option maxRecDepth 20000 in
theorem ggX8_spread_X8_stepsTo : GoodIn wsX8_spread wsX8_stepsTo := goodIn_r _ [78, 1, 22, 79, 80, 81, 5, 82, 8, 14, 15, 16, 83, 84, 85, 86, 87, 88, 89] (by decide +kernel) (by decide +kernel)
set_option maxRecDepth 20000 in
theorem gX8_spread_X8_stepsTo : GoodIn wsX8_spread (wsV RX8 80 RX8 yX8_stepsTo wsX8_stepsTo) := goodIn_app (goodIn_of _ (by decide +kernel)) ggX8_spread_X8_stepsTo
set_option maxRecDepth 20000 in
theorem ggX8_stepsTo_X4_holds : GoodIn wsX8_stepsTo wsX4_holds := goodIn_r _ [7, 8, 9, 10, 6, 11, 16, 17, 18] (by decide +kernel) (by decide +kernel)
set_option maxRecDepth 20000 in
theorem gX8_stepsTo_X4_holds : GoodIn wsX8_stepsTo (wsV RX8 83 RX4 yX4_holds wsX4_holds) := goodIn_app (goodIn_of _ (by decide +kernel)) ggX8_stepsTo_X4_holds
set_option maxRecDepth 20000 in
theorem ggX8_findWay_X1_had : GoodIn wsX8_findWay wsX1_had := goodIn_r _ [6, 7, 124, 125, 126, 127, 128, 129] (by decide +kernel) (by decide +kernel)
set_option maxRecDepth 20000 in
theorem gX8_findWay_X1_had : GoodIn wsX8_findWay (wsV RX8 61 RX1 yX1_had wsX1_had) := goodIn_app (goodIn_of _ (by decide +kernel)) ggX8_findWay_X1_had
set_option maxRecDepth 20000 in
theorem ggX8_findWay_X8_spread : GoodIn wsX8_findWay wsX8_spread := goodIn_r _ [12, 1, 13, 14, 15, 16, 17, 18, 19, 20, 21, 22, 23, 24, 25, 26, 27, 28, 29, 30, 11, 31, 32, 33, 34, 35, 36, 37, 38, 39, 40, 41, 42, 43, 44, 45, 46, 47, 48, 49, 50, 51, 52, 53, 54, 55, 56, 57, 58, 59, 60, 61, 62, 63, 64, 65, 66, 67, 68, 69, 70, 71, 72, 73, 74, 75, 76, 77, 78, 79, 80, 81, 82, 83, 84, 85, 86, 87, 88, 89, 90, 91, 92, 120, 121, 122, 123, 130, 131, 132, 133, 134, 135, 136, 137, 138, 139] (by decide +kernel) (by decide +kernel)
set_option maxRecDepth 20000 in
theorem gX8_findWay_X8_spread : GoodIn wsX8_findWay (wsV RX8 64 RX8 yX8_spread wsX8_spread) := goodIn_app (goodIn_of _ (by decide +kernel)) ggX8_findWay_X8_spread
set_option maxRecDepth 20000 in
theorem ggX8_findWay_X4_holds : GoodIn wsX8_findWay wsX4_holds := goodIn_r _ [92, 19, 25, 26, 16, 27, 130, 131, 132] (by decide +kernel) (by decide +kernel)
set_option maxRecDepth 20000 in
theorem gX8_findWay_X4_holds : GoodIn wsX8_findWay (wsV RX8 83 RX4 yX4_holds wsX4_holds) := goodIn_app (goodIn_of _ (by decide +kernel)) ggX8_findWay_X4_holds
set_option maxRecDepth 20000 in
theorem ggX8_findWay_X6_clear : GoodIn wsX8_findWay wsX6_clear := goodIn_r _ [97, 98, 140, 141] (by decide +kernel) (by decide +kernel)
set_option maxRecDepth 20000 in
theorem gX8_findWay_X6_clear : GoodIn wsX8_findWay (wsV RX8 87 RX6 yX6_clear wsX6_clear) := goodIn_app (goodIn_of _ (by decide +kernel)) ggX8_findWay_X6_clear
set_option maxRecDepth 20000 in
theorem ggX8_findWay_X1_numberOf : GoodIn wsX8_findWay wsX1_numberOf := goodIn_r _ [102, 103, 104, 26, 16, 27, 124, 125, 126, 127, 128, 129] (by decide +kernel) (by decide +kernel)
set_option maxRecDepth 20000 in
theorem gX8_findWay_X1_numberOf : GoodIn wsX8_findWay (wsV RX8 90 RX1 yX1_numberOf wsX1_numberOf) := goodIn_app (goodIn_of _ (by decide +kernel)) ggX8_findWay_X1_numberOf
set_option maxRecDepth 20000 in
theorem ggX8_findWay_X6_add : GoodIn wsX8_findWay wsX6_add := goodIn_r _ [108, 98, 109, 140, 141] (by decide +kernel) (by decide +kernel)
set_option maxRecDepth 20000 in
theorem gX8_findWay_X6_add : GoodIn wsX8_findWay (wsV RX8 93 RX6 yX6_add wsX6_add) := goodIn_app (goodIn_of _ (by decide +kernel)) ggX8_findWay_X6_add
set_option maxRecDepth 20000 in
theorem ggX8_findWay_X8_stepsTo : GoodIn wsX8_findWay wsX8_stepsTo := goodIn_r _ [88, 1, 32, 89, 90, 91, 16, 92, 19, 25, 26, 27, 120, 121, 122, 123, 130, 131, 132] (by decide +kernel) (by decide +kernel)
set_option maxRecDepth 20000 in
theorem gX8_findWay_X8_stepsTo : GoodIn wsX8_findWay (wsV RX8 80 RX8 yX8_stepsTo wsX8_stepsTo) := goodIn_app (goodIn_of _ (by decide +kernel)) ggX8_findWay_X8_stepsTo
set_option maxRecDepth 20000 in
theorem ggX8_findWay_X8_leastStep : GoodIn wsX8_findWay wsX8_leastStep := goodIn_r _ [113, 114, 13, 14, 15, 16, 17, 18, 19, 20, 115, 116, 117, 5, 118, 119, 42, 43, 44, 11, 45, 46, 47, 48, 49, 50, 51, 52, 53, 54, 55, 56, 57, 58, 59, 60, 61, 62, 63, 64, 65, 66, 67, 68, 69, 70, 71, 72, 73, 74, 75, 76, 77, 78, 79, 80, 81, 82, 83, 84, 22, 23, 24, 25, 26, 27, 33, 34, 35, 36, 37, 38, 39, 40, 85, 86, 87, 88, 1, 32, 89, 90, 91, 92, 99, 100, 101, 102, 103, 104, 120, 121, 122, 123, 130, 131, 132, 124, 125, 126, 127, 128, 129, 133, 134, 135, 136, 137, 138, 139] (by decide +kernel) (by decide +kernel)
set_option maxRecDepth 20000 in
theorem gX8_findWay_X8_leastStep : GoodIn wsX8_findWay (wsV RX8 94 RX8 yX8_leastStep wsX8_leastStep) := goodIn_app (goodIn_of _ (by decide +kernel)) ggX8_findWay_X8_leastStep
set_option maxRecDepth 20000 in
theorem ggX8_leastStep_X4_clear : GoodIn wsX8_leastStep wsX4_clear := goodIn_r _ [6, 7, 8, 9, 94, 95, 96] (by decide +kernel) (by decide +kernel)
set_option maxRecDepth 20000 in
theorem gX8_leastStep_X4_clear : GoodIn wsX8_leastStep (wsV RX8 45 RX4 yX4_clear wsX4_clear) := goodIn_app (goodIn_of _ (by decide +kernel)) ggX8_leastStep_X4_clear
set_option maxRecDepth 20000 in
theorem ggX8_leastStep_X1_has : GoodIn wsX8_leastStep wsX1_has := goodIn_r _ [14, 15, 97, 98, 99, 100, 101, 102] (by decide +kernel) (by decide +kernel)
set_option maxRecDepth 20000 in
theorem gX8_leastStep_X1_has : GoodIn wsX8_leastStep (wsV RX8 55 RX1 yX1_has wsX1_has) := goodIn_app (goodIn_of _ (by decide +kernel)) ggX8_leastStep_X1_has
set_option maxRecDepth 20000 in
theorem ggX8_leastStep_X8_addOwning : GoodIn wsX8_leastStep wsX8_addOwning := goodIn_r _ [20, 21, 22, 23, 24, 25, 26, 27, 28, 29, 30, 31, 32, 33, 34, 35, 36, 37, 38, 39, 40, 41, 42, 43, 44, 45, 46, 47, 48, 49, 50, 51, 52, 53, 54, 55, 56, 57, 58, 59, 60, 61, 5, 62, 8, 7, 9, 63, 64, 65, 90, 91, 92, 93, 103, 104, 105, 106, 107, 108, 109, 94, 95, 96] (by decide +kernel) (by decide +kernel)
set_option maxRecDepth 20000 in
theorem gX8_leastStep_X8_addOwning : GoodIn wsX8_leastStep (wsV RX8 48 RX8 yX8_addOwning wsX8_addOwning) := goodIn_app (goodIn_of _ (by decide +kernel)) ggX8_leastStep_X8_addOwning
set_option maxRecDepth 20000 in
theorem ggX8_leastStep_X4_length : GoodIn wsX8_leastStep wsX4_length := goodIn_r _ [69, 7, 94, 95, 96] (by decide +kernel) (by decide +kernel)
set_option maxRecDepth 20000 in
theorem gX8_leastStep_X4_length : GoodIn wsX8_leastStep (wsV RX8 52 RX4 yX4_length wsX4_length) := goodIn_app (goodIn_of _ (by decide +kernel)) ggX8_leastStep_X4_length
set_option maxRecDepth 20000 in
theorem ggX8_leastStep_X4_get : GoodIn wsX8_leastStep wsX4_get := goodIn_r _ [73, 7, 9, 94, 95, 96] (by decide +kernel) (by decide +kernel)
set_option maxRecDepth 20000 in
theorem gX8_leastStep_X4_get : GoodIn wsX8_leastStep (wsV RX8 72 RX4 yX4_get wsX4_get) := goodIn_app (goodIn_of _ (by decide +kernel)) ggX8_leastStep_X4_get
set_option maxRecDepth 20000 in
theorem ggX8_leastStep_X8_stepsTo : GoodIn wsX8_leastStep wsX8_stepsTo := goodIn_r _ [77, 78, 79, 80, 81, 82, 5, 83, 8, 63, 64, 65, 90, 91, 92, 93, 94, 95, 96] (by decide +kernel) (by decide +kernel)
set_option maxRecDepth 20000 in
theorem gX8_leastStep_X8_stepsTo : GoodIn wsX8_leastStep (wsV RX8 80 RX8 yX8_stepsTo wsX8_stepsTo) := goodIn_app (goodIn_of _ (by decide +kernel)) ggX8_leastStep_X8_stepsTo
set_option maxRecDepth 20000 in
theorem ggX8_leastStep_X1_numberOf : GoodIn wsX8_leastStep wsX1_numberOf := goodIn_r _ [87, 88, 89, 64, 5, 65, 97, 98, 99, 100, 101, 102] (by decide +kernel) (by decide +kernel)
set_option maxRecDepth 20000 in
theorem gX8_leastStep_X1_numberOf : GoodIn wsX8_leastStep (wsV RX8 90 RX1 yX1_numberOf wsX1_numberOf) := goodIn_app (goodIn_of _ (by decide +kernel)) ggX8_leastStep_X1_numberOf
set_option maxRecDepth 20000 in
theorem ggX8_noteSteps_X4_length : GoodIn wsX8_noteSteps wsX4_length := goodIn_r _ [7, 8, 21, 22, 23] (by decide +kernel) (by decide +kernel)
set_option maxRecDepth 20000 in
theorem gX8_noteSteps_X4_length : GoodIn wsX8_noteSteps (wsV RX8 52 RX4 yX4_length wsX4_length) := goodIn_app (goodIn_of _ (by decide +kernel)) ggX8_noteSteps_X4_length
set_option maxRecDepth 20000 in
theorem ggX8_noteSteps_X4_get : GoodIn wsX8_noteSteps wsX4_get := goodIn_r _ [12, 8, 13, 21, 22, 23] (by decide +kernel) (by decide +kernel)
set_option maxRecDepth 20000 in
theorem gX8_noteSteps_X4_get : GoodIn wsX8_noteSteps (wsV RX8 72 RX4 yX4_get wsX4_get) := goodIn_app (goodIn_of _ (by decide +kernel)) ggX8_noteSteps_X4_get
set_option maxRecDepth 20000 in
theorem ggX8_noteSteps_X4_isSlot : GoodIn wsX8_noteSteps wsX4_isSlot := goodIn_r _ [16] (by decide +kernel) (by decide +kernel)
set_option maxRecDepth 20000 in
theorem gX8_noteSteps_X4_isSlot : GoodIn wsX8_noteSteps (va_wsS RX8 98 yX4_isSlot wsX4_isSlot) := goodIn_app (goodIn_of _ (by decide +kernel)) ggX8_noteSteps_X4_isSlot
set_option maxRecDepth 20000 in
theorem ggX9_init_X5_init : GoodIn wsX9_init wsX5_init := goodIn_r _ [35, 36, 2, 3, 37, 38, 39, 40, 41, 112, 113, 114, 115, 116] (by decide +kernel) (by decide +kernel)
set_option maxRecDepth 20000 in
theorem gX9_init_X5_init : GoodIn wsX9_init (wsX5_init) := ggX9_init_X5_init
set_option maxRecDepth 20000 in
theorem ggX9_init_X6_init : GoodIn wsX9_init wsX6_init := goodIn_r _ [44, 45, 2, 3, 37, 46, 127, 128] (by decide +kernel) (by decide +kernel)
set_option maxRecDepth 20000 in
theorem gX9_init_X6_init : GoodIn wsX9_init (wsX6_init) := ggX9_init_X6_init
set_option maxRecDepth 20000 in
theorem ggX9_init_X8_init : GoodIn wsX9_init wsX8_init := goodIn_r _ [49, 50, 2, 3, 51, 37, 52, 53, 54, 55, 56, 57, 58, 59, 60, 61, 62, 63, 64, 129, 130, 131, 132, 153, 154, 155] (by decide +kernel) (by decide +kernel)
set_option maxRecDepth 20000 in
theorem gX9_init_X8_init : GoodIn wsX9_init (wsX8_init) := ggX9_init_X8_init
set_option maxRecDepth 20000 in
theorem ggX9_init_X2_init : GoodIn wsX9_init wsX2_init := goodIn_r _ [67, 68, 2, 3, 69, 70, 71, 54, 55, 72, 73, 74, 75, 59, 60, 61, 62, 63, 37, 64, 133, 134, 135, 136, 137, 153, 154, 155] (by decide +kernel) (by decide +kernel)
set_option maxRecDepth 20000 in
theorem gX9_init_X2_init : GoodIn wsX9_init (wsX2_init) := ggX9_init_X2_init
set_option maxRecDepth 20000 in
theorem ggX9_init_X7_init : GoodIn wsX9_init wsX7_init := goodIn_r _ [78, 79, 2, 3, 80, 81, 82, 54, 55, 83, 37, 84, 85, 59, 60, 61, 62, 63, 64, 138, 139, 140, 141, 153, 154, 155] (by decide +kernel) (by decide +kernel)
set_option maxRecDepth 20000 in
theorem gX9_init_X7_init : GoodIn wsX9_init (wsX7_init) := ggX9_init_X7_init
set_option maxRecDepth 20000 in
theorem ggX9_init_X0_init : GoodIn wsX9_init wsX0_init := goodIn_r _ [88, 89, 2, 3, 90, 37, 91, 92, 93, 142, 143, 144, 145, 146] (by decide +kernel) (by decide +kernel)
set_option maxRecDepth 20000 in
theorem gX9_init_X0_init : GoodIn wsX9_init (wsX0_init) := ggX9_init_X0_init
set_option maxRecDepth 20000 in
theorem ggX9_init_X1_init : GoodIn wsX9_init wsX1_init := goodIn_r _ [96, 97, 2, 3, 37, 98, 99, 100, 101, 102, 103, 104, 105, 106, 107, 108, 109, 110, 111, 147, 148, 149, 150, 151, 152, 156, 157] (by decide +kernel) (by decide +kernel)
set_option maxRecDepth 20000 in
theorem gX9_init_X1_init : GoodIn wsX9_init (wsX1_init) := ggX9_init_X1_init
set_option maxRecDepth 20000 in
theorem ggX9_link_X9_needBelow : GoodIn wsX9_link wsX9_needBelow := goodIn_ca (goodIn_r _ [7, 8, 9] (by decide +kernel) (by decide +kernel)) (goodIn_sub (fun _ h => List.mem_cons_of_mem _ (List.mem_append_right _ h)) (by decide +kernel))
set_option maxRecDepth 20000 in
theorem gX9_link_X9_needBelow : GoodIn wsX9_link (va_wsS RX9 66 yX9_needBelow wsX9_needBelow) := goodIn_app (goodIn_of _ (by decide +kernel)) ggX9_link_X9_needBelow
set_option maxRecDepth 20000 in
theorem ggX9_link_X5_howMany : GoodIn wsX9_link wsX5_howMany := goodIn_r _ [14, 15, 34, 35, 36, 37, 38] (by decide +kernel) (by decide +kernel)
set_option maxRecDepth 20000 in
theorem gX9_link_X5_howMany : GoodIn wsX9_link (wsV RX9 70 RX5 yX5_howMany wsX5_howMany) := goodIn_app (goodIn_of _ (by decide +kernel)) ggX9_link_X5_howMany
set_option maxRecDepth 20000 in
theorem ggX9_link_X5_tell : GoodIn wsX9_link wsX5_tell := goodIn_r _ [19, 15, 20, 21, 22, 23, 34, 35, 36, 37, 38] (by decide +kernel) (by decide +kernel)
set_option maxRecDepth 20000 in
theorem gX9_link_X5_tell : GoodIn wsX9_link (wsV RX9 81 RX5 yX5_tell wsX5_tell) := goodIn_app (goodIn_of _ (by decide +kernel)) ggX9_link_X5_tell
set_option maxRecDepth 20000 in
theorem ggX9_make_X9_needBelow : GoodIn wsX9_make wsX9_needBelow := goodIn_ca (goodIn_r _ [8, 9, 10] (by decide +kernel) (by decide +kernel)) (goodIn_sub (fun _ h => List.mem_cons_of_mem _ (List.mem_append_right _ h)) (by decide +kernel))
set_option maxRecDepth 20000 in
theorem gX9_make_X9_needBelow : GoodIn wsX9_make (va_wsS RX9 66 yX9_needBelow wsX9_needBelow) := goodIn_app (goodIn_of _ (by decide +kernel)) ggX9_make_X9_needBelow
set_option maxRecDepth 20000 in
theorem ggX9_make_X1_objects : GoodIn wsX9_make wsX1_objects := goodIn_r _ [15, 16, 37, 38, 39, 40, 41, 42] (by decide +kernel) (by decide +kernel)
set_option maxRecDepth 20000 in
theorem gX9_make_X1_objects : GoodIn wsX9_make (wsV RX9 85 RX1 yX1_objects wsX1_objects) := goodIn_app (goodIn_of _ (by decide +kernel)) ggX9_make_X1_objects
set_option maxRecDepth 20000 in
theorem ggX9_make_X1_admit : GoodIn wsX9_make wsX1_admit := goodIn_r _ [20, 21, 22, 16, 23, 24, 25, 14, 26, 37, 38, 39, 40, 41, 42] (by decide +kernel) (by decide +kernel)
set_option maxRecDepth 20000 in
theorem gX9_make_X1_admit : GoodIn wsX9_make (wsV RX9 94 RX1 yX1_admit wsX1_admit) := goodIn_app (goodIn_of _ (by decide +kernel)) ggX9_make_X1_admit
set_option maxRecDepth 20000 in
theorem ggX9_set_X9_needLink : GoodIn wsX9_set wsX9_needLink := goodIn_ca (goodIn_r _ [13, 1, 2, 5, 14, 15, 16, 17, 18, 19, 237, 238, 239, 240, 241, 242, 243, 244, 245, 246, 247, 248, 249, 250, 251] (by decide +kernel) (by decide +kernel)) (goodIn_sub (fun _ h => List.mem_cons_of_mem _ (List.mem_append_left _ (List.mem_append_left _ (List.mem_append_left _ (List.mem_append_left _ (List.mem_append_right _ h)))))) (by decide +kernel))
set_option maxRecDepth 20000 in
theorem gX9_set_X9_needLink : GoodIn wsX9_set (wsV RX9 98 RX9 yX9_needLink wsX9_needLink) := goodIn_app (goodIn_of _ (by decide +kernel)) ggX9_set_X9_needLink
set_option maxRecDepth 20000 in
theorem ggX9_set_X9_slotThere : GoodIn wsX9_set wsX9_slotThere := goodIn_ca (goodIn_r _ [23, 24, 25, 6, 26, 27, 28, 29, 30, 31, 32, 33, 34, 35, 237, 238, 239, 240, 241, 242, 243, 244, 245, 246, 252, 253, 254, 255, 256, 257] (by decide +kernel) (by decide +kernel)) (goodIn_sub (fun _ h => List.mem_cons_of_mem _ (List.mem_append_left _ (List.mem_append_left _ (List.mem_append_right _ h)))) (by decide +kernel))
set_option maxRecDepth 20000 in
theorem gX9_set_X9_slotThere : GoodIn wsX9_set (wsV RX9 107 RX9 yX9_slotThere wsX9_slotThere) := goodIn_app (goodIn_of _ (by decide +kernel)) ggX9_set_X9_slotThere
set_option maxRecDepth 20000 in
theorem ggX9_set_X5_fromKind : GoodIn wsX9_set wsX5_fromKind := goodIn_r _ [39, 40, 41, 15, 16, 17, 18, 19, 247, 248, 249, 250, 251] (by decide +kernel) (by decide +kernel)
set_option maxRecDepth 20000 in
theorem gX9_set_X5_fromKind : GoodIn wsX9_set (wsV RX9 111 RX5 yX5_fromKind wsX5_fromKind) := goodIn_app (goodIn_of _ (by decide +kernel)) ggX9_set_X5_fromKind
set_option maxRecDepth 20000 in
theorem ggX9_set_X9_needKind : GoodIn wsX9_set wsX9_needKind := goodIn_r _ [45, 6, 46, 47, 48, 49, 50, 51, 29, 52, 53, 54, 55, 56, 57, 237, 238, 239, 240, 241, 242, 243, 244, 245, 246, 258, 259, 260, 261, 262, 263, 252, 253, 254, 255, 256, 257] (by decide +kernel) (by decide +kernel)
set_option maxRecDepth 20000 in
theorem gX9_set_X9_needKind : GoodIn wsX9_set (wsV RX9 114 RX9 yX9_needKind wsX9_needKind) := goodIn_app (goodIn_of _ (by decide +kernel)) ggX9_set_X9_needKind
set_option maxRecDepth 20000 in
theorem ggX9_set_X5_toKind : GoodIn wsX9_set wsX5_toKind := goodIn_r _ [61, 62, 41, 15, 16, 17, 18, 19, 247, 248, 249, 250, 251] (by decide +kernel) (by decide +kernel)
set_option maxRecDepth 20000 in
theorem gX9_set_X5_toKind : GoodIn wsX9_set (wsV RX9 117 RX5 yX5_toKind wsX5_toKind) := goodIn_app (goodIn_of _ (by decide +kernel)) ggX9_set_X5_toKind
set_option maxRecDepth 20000 in
theorem ggX9_set_X1_isJoined : GoodIn wsX9_set wsX1_isJoined := goodIn_r _ [66, 67, 68, 69, 70, 71, 72, 73, 74, 75, 76, 77, 78, 79, 80, 81, 82, 83, 84, 85, 86, 87, 88, 89, 252, 253, 254, 255, 256, 257, 264, 265] (by decide +kernel) (by decide +kernel)
set_option maxRecDepth 20000 in
theorem gX9_set_X1_isJoined : GoodIn wsX9_set (wsV RX9 120 RX1 yX1_isJoined wsX1_isJoined) := goodIn_app (goodIn_of _ (by decide +kernel)) ggX9_set_X1_isJoined
set_option maxRecDepth 20000 in
theorem ggX9_set_X9_moveInRow : GoodIn wsX9_set wsX9_moveInRow := goodIn_ca (goodIn_r _ [93, 94, 95, 6, 96, 97, 98, 29, 99, 67, 100, 74, 75, 71, 76, 77, 78, 79, 80, 81, 82, 83, 101, 102, 103, 104, 84, 85, 86, 87, 88, 89, 105, 106, 107, 108, 109, 110, 111, 112, 113, 114, 55, 56, 57, 237, 238, 239, 240, 241, 242, 243, 244, 245, 246, 252, 253, 254, 255, 256, 257, 264, 265] (by decide +kernel) (by decide +kernel)) (goodIn_sub (fun _ h => List.mem_cons_of_mem _ (List.mem_append_left _ (List.mem_append_right _ h))) (by decide +kernel))
set_option maxRecDepth 20000 in
theorem gX9_set_X9_moveInRow : GoodIn wsX9_set (wsV RX9 124 RX9 yX9_moveInRow wsX9_moveInRow) := goodIn_app (goodIn_of _ (by decide +kernel)) ggX9_set_X9_moveInRow
set_option maxRecDepth 20000 in
theorem ggX9_set_X5_hasRule : GoodIn wsX9_set wsX5_hasRule := goodIn_r _ [118, 119, 41, 15, 16, 17, 18, 19, 247, 248, 249, 250, 251] (by decide +kernel) (by decide +kernel)
set_option maxRecDepth 20000 in
theorem gX9_set_X5_hasRule : GoodIn wsX9_set (wsV RX9 128 RX5 yX5_hasRule wsX5_hasRule) := goodIn_app (goodIn_of _ (by decide +kernel)) ggX9_set_X5_hasRule
set_option maxRecDepth 20000 in
theorem ggX9_set_X8_findWay : GoodIn wsX9_set wsX8_findWay := goodIn_r _ [124, 125, 126, 127, 128, 29, 129, 130, 131, 132, 133, 123, 134, 135, 136, 137, 56, 138, 139, 140, 141, 142, 143, 144, 145, 146, 55, 57, 147, 148, 149, 150, 151, 152, 153, 154, 155, 156, 157, 158, 159, 160, 161, 162, 163, 164, 165, 166, 167, 168, 17, 169, 19, 170, 116, 117, 118, 119, 41, 15, 16, 18, 171, 172, 173, 71, 174, 73, 74, 75, 76, 77, 78, 79, 80, 81, 82, 83, 84, 85, 86, 87, 88, 89, 175, 176, 177, 178, 179, 180, 181, 182, 183, 184, 185, 186, 187, 188, 189, 190, 191, 192, 193, 35, 54, 194, 195, 196, 197, 198, 199, 200, 201, 202, 203, 204, 97, 98, 99, 67, 266, 267, 268, 269, 252, 253, 254, 255, 256, 257, 270, 271, 272, 247, 248, 249, 250, 251, 264, 265, 273, 274] (by decide +kernel) (by decide +kernel)
set_option maxRecDepth 20000 in
theorem gX9_set_X8_findWay : GoodIn wsX9_set (wsV RX9 132 RX8 yX8_findWay wsX8_findWay) := goodIn_app (goodIn_of _ (by decide +kernel)) ggX9_set_X8_findWay
set_option maxRecDepth 20000 in
theorem ggX9_set_X9_joinNew : GoodIn wsX9_set wsX9_joinNew := goodIn_ca (goodIn_ca (goodIn_r _ [208, 94, 95, 209, 210, 5, 6, 211, 212, 213, 17, 214, 215, 41, 15, 16, 18, 19, 96, 97, 98, 29, 99, 67, 100, 74, 75, 71, 76, 77, 78, 79, 80, 81, 82, 83, 216, 127, 128, 129, 130, 217, 218, 219, 220, 73, 84, 85, 86, 87, 88, 89, 221, 222, 223, 224, 225, 226, 102, 103, 104, 105, 106, 107, 108, 109, 227, 228, 229, 230, 231, 111, 112, 113, 114, 55, 56, 57, 232, 233, 234, 235, 236, 237, 238, 239, 240, 241, 242, 243, 244, 245, 246, 247, 248, 249, 250, 251, 252, 253, 254, 255, 256, 257, 264, 265] (by decide +kernel) (by decide +kernel)) (goodIn_sub (fun _ h => List.mem_cons_of_mem _ (List.mem_append_left _ (List.mem_append_right _ h))) (by decide +kernel))) (goodIn_sub (fun _ h => List.mem_cons_of_mem _ (List.mem_append_right _ h)) (by decide +kernel))
set_option maxRecDepth 20000 in
theorem gX9_set_X9_joinNew : GoodIn wsX9_set (wsV RX9 141 RX9 yX9_joinNew wsX9_joinNew) := goodIn_app (goodIn_of _ (by decide +kernel)) ggX9_set_X9_joinNew
set_option maxRecDepth 20000 in
theorem ggX9_set_X1_has : GoodIn wsX9_set wsX1_has := goodIn_r _ [99, 67, 252, 253, 254, 255, 256, 257] (by decide +kernel) (by decide +kernel)
set_option maxRecDepth 20000 in
theorem gX9_set_X1_has : GoodIn wsX9_set (wsV RX9 144 RX1 yX1_has wsX1_has) := goodIn_app (goodIn_of _ (by decide +kernel)) ggX9_set_X1_has
set_option maxRecDepth 20000 in
theorem ggX9_set_X3_lengthOf : GoodIn wsX9_set wsX3_lengthOf := goodIn_r _ [76, 77, 78, 79, 71, 80, 81, 82, 83, 264, 265] (by decide +kernel) (by decide +kernel)
set_option maxRecDepth 20000 in
theorem gX9_set_X3_lengthOf : GoodIn wsX9_set (wsV RX9 148 RX3 yX3_lengthOf wsX3_lengthOf) := goodIn_app (goodIn_of _ (by decide +kernel)) ggX9_set_X3_lengthOf
set_option maxRecDepth 20000 in
theorem ggX9_cut_X9_needLink : GoodIn wsX9_cut wsX9_needLink := goodIn_ca (goodIn_r _ [7, 8, 9, 1, 10, 11, 12, 13, 14, 15, 89, 90, 91, 92, 93, 94, 95, 96, 97, 98, 99, 100, 101, 102, 103] (by decide +kernel) (by decide +kernel)) (goodIn_sub (fun _ h => List.mem_cons_of_mem _ (List.mem_append_left _ (List.mem_append_right _ h))) (by decide +kernel))
